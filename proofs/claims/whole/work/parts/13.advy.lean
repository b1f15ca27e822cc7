/-! advance: Y's side, and the two together -/
section
variable {f_len f_clock f_cap f_staged f_pos f_val f_cy f_cm f_cd : Int32} {a_text a_sets a_domStar a_dowStar a_occ a_mis a_con a_cnt a_fs a_fe : Nat → Int32}
theorem cy_112 {sX : Nat → Int64} {st occ mp cp ru sta dro can mis : Nat → Int32} {cap c c2 : Nat} {j r : Nat} (hj : j < 8) (HY : cs_Y j a_sets a_domStar a_dowStar (fun f v => cb_bit (sX (j * 5 + f)) v) (decide (st (j * 5 + 2) = 1)) (decide (st (j * 5 + 4) = 1))) (hmp : mp j = 0 ∨ mp j = 1 ∨ mp j = 2) (hcp : cp j = 0 ∨ cp j = 1 ∨ cp j = 2) (hr : a_cnt (j * 6) = nI r) (hrb : r < 2 ^ 29) (hc : c < c2) (hc2 : c2 < 4206240) (hcap : cap ≤ 8) {x4 : Int32} {post : Int32 → SY → Prop} {J : Int32 → Int32 → Int32 → Int32 → Int32 → Int32 → Int32 → Int32 → Int32 → Int32 → Int32 → (Nat → Int32) → (Nat → Int32) → (Nat → Int32) → (Nat → Int32) → (Nat → Int32) → (Nat → Int32) → (Nat → Int32) → (Nat → Int32) → (Nat → Int32) → (Nat → Int32) → Prop} (hq : ∀ cnt' cy cm cd, cu_Y j a_cnt cnt' (cu_it (cp j) (cv_tau sX st occ mp cp ru sta dro can mis cap c c2 j) (r, a_cnt (j * 6 + 1), a_cnt (j * 6 + 3), a_cnt (j * 6 + 4))) → J (x4 + ((cu_it (cp j) (cv_tau sX st occ mp cp ru sta dro can mis cap c c2 j) (r, a_cnt (j * 6 + 1), a_cnt (j * 6 + 3), a_cnt (j * 6 + 4))).2.1 - a_cnt (j * 6 + 1))) (nI (j + 1)) f_len f_clock (nI cap) f_staged f_pos f_val cy cm cd a_text a_sets a_domStar a_dowStar a_occ mp cp cnt' a_fs a_fe) : wY_advance_112 post J (nI c) (nI c2) x4 (nI j) (nI (cv_K sX st c c2 j)) f_len f_clock (nI cap) f_staged f_pos f_val f_cy f_cm f_cd a_text a_sets a_domStar a_dowStar a_occ mp cp a_cnt a_fs a_fe := by
  have hin : vp_in (nI j) 8 := vp_in_nI hj (by decide)
  have ej : (nI j).toNatClampNeg = j := nI_clamp (by omega)
  have hKb : cv_K sX st c c2 j ≤ 4206240 := cs_n_self _ _
  have hgo : ∀ T, T ≤ 8 → cv_tau sX st occ mp cp ru sta dro can mis cap c c2 j = T → ∀ cy cm cd, ∃ n, wY_advance_206 post J (nI c) (nI c2) (nI j) (nI T) f_len f_clock (nI cap) f_staged f_pos f_val cy cm cd n x4 0 a_text a_sets a_domStar a_dowStar a_occ mp cp a_cnt a_fs a_fe := by
    intro T hT eT cy cm cd
    refine cy_run hj rfl hcp (by omega) hr (by omega) (fun cnt' hc' => ?_)
    subst eT
    exact hq cnt' cy cm cd hc'
  unfold wY_advance_112
  rw [ej]
  refine ⟨hin, br_c (fun e => pk_lt (cv_K sX st c c2 j) 1 (fun z => hgo 0 (by omega) ?_ _ _ _) (fun z => hgo 1 (by omega) ?_ _ _ _)) (fun e => ⟨hin, br_c (fun e1 => ⟨by decide, ?_⟩) (fun e1 => pk_le cap (cv_K sX st c c2 j) (fun z => hgo cap hcap ?_ _ _ _) (fun z => hgo (cv_K sX st c c2 j) (by omega) ?_ _ _ _))⟩)⟩
  · unfold cv_tau
    rw [e, if_neg (by decide), if_neg (by decide), if_pos z]
  · unfold cv_tau
    rw [e, if_neg (by decide), if_neg (by decide), if_neg (by omega)]
  · have hf : cs_M (fun f v => cb_bit (sX (j * 5 + f)) v) (decide (st (j * 5 + 2) = 1)) (decide (st (j * 5 + 4) = 1)) c2 = false → cv_tau sX st occ mp cp ru sta dro can mis cap c c2 j = 0 := by
      intro hM
      unfold cv_tau
      rw [e1, if_neg (by decide), if_pos rfl, if_pos]
      have hn : ¬ 0 < cv_K sX st (c2 - 1) c2 j := by
        intro hp
        obtain ⟨q, q1, q2⟩ := cs_n_pos _ hp
        have hP := cs_QP.mp q2
        have eq : q = c2 := by
          have := hP.1
          have := hP.2.1
          omega
        subst eq
        rw [hP.2.2] at hM
        exact Bool.noConfusion hM
      omega
    have ht : cs_M (fun f v => cb_bit (sX (j * 5 + f)) v) (decide (st (j * 5 + 2) = 1)) (decide (st (j * 5 + 4) = 1)) c2 = true → cv_tau sX st occ mp cp ru sta dro can mis cap c c2 j = 1 := by
      intro hM
      unfold cv_tau
      rw [e1, if_neg (by decide), if_pos rfl, if_neg]
      have hp : 0 < cv_K sX st (c2 - 1) c2 j := cs_n_ex (q := c2) hc2 (cs_QP.mpr ⟨by omega, by omega, hM⟩)
      omega
    refine cy_dm HY (d := c2 / 1440) (by omega) (ce_d1440 (by omega)) (fun cy cm cd => ?_)
    dsimp only
    refine cb_br (fun eD => hgo 0 (by omega) (hf ?_) _ _ _) (fun eD => cy_mm HY (by omega) rfl (cb_br (fun em => hgo 0 (by omega) (hf ?_) _ _ _) (fun em => hgo 1 (by omega) (ht ?_) _ _ _)))
    · unfold cs_M; rw [eD, Bool.false_and]
    · unfold cs_M; rw [em, Bool.and_false]
    · unfold cs_M; rw [eD, em]; rfl
  · have e2 : mp j = 2 := by
      rcases hmp with h | h | h
      · exact absurd h e
      · exact absurd h e1
      · exact h
    unfold cv_tau
    rw [if_pos e2, if_pos z]
  · have e2 : mp j = 2 := by
      rcases hmp with h | h | h
      · exact absurd h e
      · exact absurd h e1
      · exact h
    unfold cv_tau
    rw [if_pos e2, if_neg (by omega)]
theorem cy_advloop {sX : Nat → Int64} {st occ mp cp ru sta dro can mis : Nat → Int32} {cap c c2 : Nat} {com : Nat → Int32} (HA : ∀ j, j < 8 → cs_Y j a_sets a_domStar a_dowStar (fun f v => cb_bit (sX (j * 5 + f)) v) (decide (st (j * 5 + 2) = 1)) (decide (st (j * 5 + 4) = 1))) (HR : ∀ j, j < 8 → ∃ r, r < 2 ^ 29 ∧ ru j = nI r) (hmp : cr_P mp) (hcp : cr_P cp) (hc : c < c2) (hc2 : c2 < 4206240) (hcap : cap ≤ 8) {post : Int32 → SY → Prop} (hq : ∀ cnt' cy cm cd, cr_C cnt' (cv_ru sX st occ mp cp ru sta dro can mis cap c c2 8) (cv_sta sX st occ mp cp ru sta dro can mis cap c c2 8) com (cv_dro sX st occ mp cp ru sta dro can mis cap c c2 8) (cv_can sX st occ mp cp ru sta dro can mis cap c c2 8) (cv_mis sX st occ mp cp ru sta dro can mis cap c c2 8) → post (cv_t sX st occ mp cp ru sta dro can mis cap c c2 8) (f_len, f_clock, nI cap, f_staged, f_pos, f_val, cy, cm, cd, a_text, a_sets, a_domStar, a_dowStar, occ, mp, cp, cnt', a_fs, a_fe)) : ∀ (k i n : Nat) (cnt' : Nat → Int32) (cy cm cd : Int32), i + k = 8 → k < n → cr_C cnt' (cv_ru sX st occ mp cp ru sta dro can mis cap c c2 i) (cv_sta sX st occ mp cp ru sta dro can mis cap c c2 i) com (cv_dro sX st occ mp cp ru sta dro can mis cap c c2 i) (cv_can sX st occ mp cp ru sta dro can mis cap c c2 i) (cv_mis sX st occ mp cp ru sta dro can mis cap c c2 i) → wY_advance_49 post (nI c) (nI c2) n (cv_t sX st occ mp cp ru sta dro can mis cap c c2 i) (nI i) f_len f_clock (nI cap) f_staged f_pos f_val cy cm cd a_text a_sets a_domStar a_dowStar occ mp cp cnt' a_fs a_fe := by
  intro k
  induction k with
  | zero =>
    intro i n cnt' cy cm cd hk hn hC
    obtain ⟨n, rfl⟩ : ∃ n', n = n' + 1 := ⟨n - 1, by omega⟩
    have e : i = 8 := by omega
    subst e
    exact pk_le 8 8 (fun _ => hq cnt' cy cm cd hC) (fun z => absurd z (by omega))
  | succ k ih =>
    intro i n cnt' cy cm cd hk hn hC
    obtain ⟨n, rfl⟩ : ∃ n', n = n' + 1 := ⟨n - 1, by omega⟩
    have hi : i < 8 := by omega
    have ei : (nI i).toNatClampNeg = i := nI_clamp (by omega)
    have hother : ∀ j, j ≠ i → ((j < i + 1 ∧ ¬ occ j = 0) ↔ (j < i ∧ ¬ occ j = 0)) := fun j hj => ⟨fun z => ⟨by omega, z.2⟩, fun z => ⟨by omega, z.2⟩⟩
    have hoth2 : ∀ j, j ≠ i → cv_ru sX st occ mp cp ru sta dro can mis cap c c2 (i + 1) j = cv_ru sX st occ mp cp ru sta dro can mis cap c c2 i j ∧ cv_sta sX st occ mp cp ru sta dro can mis cap c c2 (i + 1) j = cv_sta sX st occ mp cp ru sta dro can mis cap c c2 i j ∧ cv_dro sX st occ mp cp ru sta dro can mis cap c c2 (i + 1) j = cv_dro sX st occ mp cp ru sta dro can mis cap c c2 i j ∧ cv_can sX st occ mp cp ru sta dro can mis cap c c2 (i + 1) j = cv_can sX st occ mp cp ru sta dro can mis cap c c2 i j ∧ cv_mis sX st occ mp cp ru sta dro can mis cap c c2 (i + 1) j = cv_mis sX st occ mp cp ru sta dro can mis cap c c2 i j := by
      intro j hj
      unfold cv_ru cv_sta cv_dro cv_can cv_mis
      simp only [hother j hj]
      exact ⟨trivial, trivial, trivial, trivial, trivial⟩
    have hvi := hC i hi
    unfold cv_ru cv_sta cv_dro cv_can cv_mis at hvi
    rw [if_neg (fun z => absurd z.1 (by omega)), if_neg (fun z => absurd z.1 (by omega)), if_neg (fun z => absurd z.1 (by omega)), if_neg (fun z => absurd z.1 (by omega)), if_neg (fun z => absurd z.1 (by omega))] at hvi
    obtain ⟨v0, v1, v2, v3, v4, v5⟩ := hvi
    refine pk_le 8 i (fun z => absurd z (by omega)) (fun _ => ⟨vp_in_nI hi (by decide), ?_⟩)
    rw [ei]
    refine br_c (fun ho => nm_r (nI_1 i) ?_) (fun ho => ?_)
    · have et : cv_t sX st occ mp cp ru sta dro can mis cap c c2 (i + 1) = cv_t sX st occ mp cp ru sta dro can mis cap c c2 i := if_pos ho
      rw [← et]
      refine ih (i + 1) n _ _ _ _ (by omega) (by omega) (fun j hj => ?_)
      by_cases e : j = i
      · subst e
        unfold cv_ru cv_sta cv_dro cv_can cv_mis
        rw [if_neg (fun z => z.2 ho), if_neg (fun z => z.2 ho), if_neg (fun z => z.2 ho), if_neg (fun z => z.2 ho), if_neg (fun z => z.2 ho)]
        exact ⟨v0, v1, v2, v3, v4, v5⟩
      · obtain ⟨t0, t1, t2, t3, t4, t5⟩ := hC j hj
        obtain ⟨u1, u2, u3, u4, u5⟩ := hoth2 j e
        exact ⟨t0.trans u1.symm, t1.trans u2.symm, t2, t3.trans u3.symm, t4.trans u4.symm, t5.trans u5.symm⟩
    · obtain ⟨r, r1, r2⟩ := HR i hi
      have hKb : cv_K sX st c c2 i ≤ 4206240 := cs_n_self _ _
      have hgo : ∀ (cnt2 : Nat → Int32) (cy cm cd : Int32), (∀ q, q ≠ i * 6 + 5 → cnt2 q = cnt' q) → cnt2 (i * 6 + 5) = (if cv_K sX st c (c2 - 1) i < 1 then mis i else mis i + 1) → wY_advance_112 post (wY_advance_49 post (nI c) (nI c2) n) (nI c) (nI c2) (cv_t sX st occ mp cp ru sta dro can mis cap c c2 i) (nI i) (nI (cv_K sX st c c2 i)) f_len f_clock (nI cap) f_staged f_pos f_val cy cm cd a_text a_sets a_domStar a_dowStar occ mp cp cnt2 a_fs a_fe := by
        intro cnt2 cy cm cd g1 g2
        have s0 : cnt2 (i * 6) = nI r := (g1 _ (by omega)).trans (v0.trans r2)
        have s1 : cnt2 (i * 6 + 1) = sta i := (g1 _ (by omega)).trans v1
        have s3 : cnt2 (i * 6 + 3) = dro i := (g1 _ (by omega)).trans v3
        have s4 : cnt2 (i * 6 + 4) = can i := (g1 _ (by omega)).trans v4
        have ex : cu_it (cp i) (cv_tau sX st occ mp cp ru sta dro can mis cap c c2 i) (r, cnt2 (i * 6 + 1), cnt2 (i * 6 + 3), cnt2 (i * 6 + 4)) = cv_x sX st occ mp cp ru sta dro can mis cap c c2 i := by
          unfold cv_x
          rw [r2, nI_clamp (by omega), s1, s3, s4]
        refine cy_112 (sX := sX) (st := st) (occ := occ) (mp := mp) (cp := cp) (ru := ru) (sta := sta) (dro := dro) (can := can) (mis := mis) hi (HA i hi) (hmp i hi) (hcp i hi) s0 r1 hc hc2 hcap (fun cnt3 cy cm cd hY => ?_)
        rw [ex] at hY ⊢
        obtain ⟨w0, w1, w3, w4, wo⟩ := hY
        have et : cv_t sX st occ mp cp ru sta dro can mis cap c c2 i + ((cv_x sX st occ mp cp ru sta dro can mis cap c c2 i).2.1 - cnt2 (i * 6 + 1)) = cv_t sX st occ mp cp ru sta dro can mis cap c c2 (i + 1) := by
          rw [s1]
          exact (if_neg ho).symm
        rw [et]
        refine ih (i + 1) n _ _ _ _ (by omega) (by omega) (fun j hj => ?_)
        by_cases e : j = i
        · subst e
          unfold cv_ru cv_sta cv_dro cv_can cv_mis
          rw [if_pos ⟨by omega, ho⟩, if_pos ⟨by omega, ho⟩, if_pos ⟨by omega, ho⟩, if_pos ⟨by omega, ho⟩, if_pos ⟨by omega, ho⟩]
          refine ⟨w0, w1, ?_, w3, w4, ?_⟩
          · rw [wo _ (by omega) (by omega) (by omega) (by omega), g1 _ (by omega), v2]
          · rw [wo _ (by omega) (by omega) (by omega) (by omega), g2]
        · obtain ⟨t0, t1, t2, t3, t4, t5⟩ := hC j hj
          obtain ⟨u1, u2, u3, u4, u5⟩ := hoth2 j e
          have ko : ∀ d, d < 6 → cnt3 (j * 6 + d) = cnt' (j * 6 + d) := by
            intro d hd
            rw [wo _ (by omega) (by omega) (by omega) (by omega), g1 _ (by omega)]
          exact ⟨(ko 0 (by omega)).trans (t0.trans u1.symm), (ko 1 (by omega)).trans (t1.trans u2.symm), (ko 2 (by omega)).trans t2, (ko 3 (by omega)).trans (t3.trans u3.symm), (ko 4 (by omega)).trans (t4.trans u4.symm), (ko 5 (by omega)).trans (t5.trans u5.symm)⟩
      refine cy_count (HA i hi) hc hc2 (fun cy cm cd => ?_)
      refine pk_lt (cv_K sX st c c2 i) 1 (fun z => hgo cnt' _ _ _ (fun _ _ => rfl) ?_) (fun z => cy_next (HA i hi) (by omega) (fun r' cy cm cd hr' => ?_))
      · have hn : ¬ 0 < cv_K sX st c (c2 - 1) i := by
          intro hp
          obtain ⟨q, q1, q2⟩ := cs_n_pos _ hp
          have hP := cs_QP.mp q2
          have hp2 : 0 < cv_K sX st c c2 i := cs_n_ex q1 (cs_QP.mpr ⟨hP.1, by have := hP.2.1; omega, hP.2.2⟩)
          omega
        rw [if_pos (by omega)]
        exact v5
      · obtain ⟨q, q1, q2⟩ := cs_n_pos _ (show 0 < cv_K sX st c c2 i by omega)
        have hPq := cs_QP.mp q2
        rcases hr' with ⟨m, rfl, m1, m2, m3, m4⟩ | ⟨rfl, hno⟩
        · refine pk_le c2 m (fun z2 => hgo cnt' _ _ _ (fun _ _ => rfl) ?_) (fun z2 => ?_)
          · have hn : ¬ 0 < cv_K sX st c (c2 - 1) i := by
              intro hp
              obtain ⟨q', p1, p2⟩ := cs_n_pos _ hp
              have hP := cs_QP.mp p2
              have := hP.2.1
              exact m4 q' (by omega) (by omega) ⟨hP.1, by omega, hP.2.2⟩
            rw [if_pos (by omega)]
            exact v5
          · have e5 : nI i * 6 + 5 = nI (i * 6 + 5) := ce_m6 i 5
            rw [e5, nI_clamp (show i * 6 + 5 < 2 ^ 31 by omega)]
            refine ⟨vp_in_nI (by omega) (by decide), vp_in_nI (by omega) (by decide), nm_e (hgo _ _ _ _ (fun q hq => pk_un hq) ?_)⟩
            have hp : 0 < cv_K sX st c (c2 - 1) i := cs_n_ex m2 (cs_QP.mpr ⟨m3.1, by omega, m3.2.2⟩)
            rw [if_neg (by omega), pk_us, v5]
        · exact absurd ⟨hPq.1, by omega, hPq.2.2⟩ (hno q (by omega) q1)
end
theorem cv_base {sX : Nat → Int64} {st occ mp cp ru sta dro can mis : Nat → Int32} {cap c c2 : Nat} (j : Nat) : cv_ru sX st occ mp cp ru sta dro can mis cap c c2 0 j = ru j ∧ cv_sta sX st occ mp cp ru sta dro can mis cap c c2 0 j = sta j ∧ cv_dro sX st occ mp cp ru sta dro can mis cap c c2 0 j = dro j ∧ cv_can sX st occ mp cp ru sta dro can mis cap c c2 0 j = can j ∧ cv_mis sX st occ mp cp ru sta dro can mis cap c c2 0 j = mis j :=
  ⟨if_neg (fun z => absurd z.1 (Nat.not_lt_zero _)), if_neg (fun z => absurd z.1 (Nat.not_lt_zero _)), if_neg (fun z => absurd z.1 (Nat.not_lt_zero _)), if_neg (fun z => absurd z.1 (Nat.not_lt_zero _)), if_neg (fun z => absurd z.1 (Nat.not_lt_zero _))⟩
theorem cr_Cc {cnt ru sta com dro can mis ru' sta' dro' can' mis' : Nat → Int32} (H : cr_C cnt ru sta com dro can mis) (h : ∀ j, j < 8 → ru' j = ru j ∧ sta' j = sta j ∧ dro' j = dro j ∧ can' j = can j ∧ mis' j = mis j) : cr_C cnt ru' sta' com dro' can' mis' := by
  intro j hj
  obtain ⟨t0, t1, t2, t3, t4, t5⟩ := H j hj
  obtain ⟨u1, u2, u3, u4, u5⟩ := h j hj
  exact ⟨t0.trans u1.symm, t1.trans u2.symm, t2, t3.trans u3.symm, t4.trans u4.symm, t5.trans u5.symm⟩
theorem i_vc_advance {k : Nat} {u : SX} {v : SY} (I : i_Rel k u v) (hk : k + 5 ≤ 2561) (v1 : Int32) : wpX_advance (fun r u' => wpY_advance (fun r' v' => r' = r ∧ i_Rel (k + 5) u' v') v v1) u v1 := by
  have I5 := i_up I
  obtain ⟨cap, clock, len, b, text, sX, st, occ, mp, cp, ru, sta, com, dro, can, mis, sY, dom, dow, cnt, fs, fe, pos, val, cy, cm, cd, rfl, rfl, F⟩ := I
  have F5 := cr_Fm (show k ≤ k + 5 by omega) F
  obtain ⟨⟨hc1, hc8, hcl, hlen⟩, hb, hT, hA, hmp, hcp, hR, hC⟩ := F
  by_cases h1 : v1 < 1
  · exact br_t h1 (br_t h1 ⟨rfl, I5⟩)
  obtain ⟨m, hm, rfl⟩ := nI_of (x := v1) (Int32.not_lt.mpr (Int32.le_trans (by decide) (Int32.not_lt.mp h1)))
  have m1 : 1 ≤ m := by
    by_cases e : 1 ≤ m
    · exact e
    · exact absurd (nI_lt (b := 1) (by omega) (by decide)) h1
  by_cases hM : clock = 4206239
  · subst hM
    exact br_f h1 (br_f (by decide) (br_f h1 (br_t rfl ⟨rfl, I5⟩)))
  have hlt : nI clock < 4206239 := nI_lt (b := 4206239) (by omega) (by decide)
  have hne : ¬ nI clock = 4206239 := fun e => hM ((nI_eq (b := 4206239) (by omega) (by decide)).mp e)
  have es : 4206239 - nI clock = nI (4206239 - clock) := pk_sub (a := 4206239) (by omega)
  have HR : ∀ j, j < 8 → ∃ r, r < 2 ^ 29 ∧ ru j = nI r := by
    intro j hj
    obtain ⟨r, r1, r2⟩ := hR j hj
    exact ⟨r, by omega, r2⟩
  have main : ∀ c2, clock < c2 → c2 < 4206240 → (∀ post : Int32 → SY → Prop, (∃ n, wY_advance_49 post (nI clock) (nI c2) n 0 0 (nI len) (nI c2) (nI cap) b pos val cy cm cd text sY dom dow occ mp cp cnt fs fe) → wpY_advance post (nI len, nI clock, nI cap, b, pos, val, cy, cm, cd, text, sY, dom, dow, occ, mp, cp, cnt, fs, fe) (nI m)) → ∃ n, wX_advance_46 (fun r u' => wpY_advance (fun r' v' => r' = r ∧ i_Rel (k + 5) u' v') (nI len, nI clock, nI cap, b, pos, val, cy, cm, cd, text, sY, dom, dow, occ, mp, cp, cnt, fs, fe) (nI m)) (nI clock) n 0 0 (nI cap) (nI c2) (nI len) b text sX st occ mp cp ru sta com dro can mis := by
    intro c2 hc hc2 hY
    refine ⟨9, cx_advloop (c := clock) (c2 := c2) (ru := ru) (sta := sta) (dro := dro) (can := can) (mis := mis) (fun j hj => (cr_XY (s := j) (by omega) (hA j (Or.inl hj))).1) HR hc hc2 hc8 (fun ru' sta' dro' can' mis' hv => ?_) 8 0 9 ru sta dro can mis (by omega) (by omega) (fun j hj => ⟨(cv_base j).1.symm, (cv_base j).2.1.symm, (cv_base j).2.2.1.symm, (cv_base j).2.2.2.1.symm, (cv_base j).2.2.2.2.symm⟩)⟩
    refine hY _ ⟨9, cy_advloop (c := clock) (c2 := c2) (sX := sX) (st := st) (ru := ru) (sta := sta) (dro := dro) (can := can) (mis := mis) (com := com) (fun j hj => (cr_XY (s := j) (by omega) (hA j (Or.inl hj))).2) HR hmp hcp hc hc2 hc8 (fun cnt' cy cm cd hC' => ⟨rfl, ?_⟩) 8 0 9 cnt cy cm cd (by omega) (by omega) (cr_Cc hC (fun j _ => cv_base j))⟩
    refine cr_mk (clock := c2) ⟨⟨hc1, hc8, by omega, hlen⟩, hb, hT, hA, hmp, hcp, fun j hj => ?_, cr_Cc hC' hv⟩
    rw [(hv j hj).1]
    obtain ⟨r, r1, r2⟩ := hR j hj
    unfold cv_ru
    split
    · refine ⟨_, ?_, rfl⟩
      unfold cv_x
      have t1 := cu_it_b (cp j) (cv_tau sX st occ mp cp ru sta dro can mis cap clock c2 j) ((ru j).toNatClampNeg, sta j, dro j, can j)
      have t2 := cv_tau_b (sX := sX) (st := st) (occ := occ) (mp := mp) (cp := cp) (ru := ru) (sta := sta) (dro := dro) (can := can) (mis := mis) (c := clock) (c2 := c2) (j := j) hc8
      have t3 : (ru j).toNatClampNeg = r := by rw [r2, nI_clamp (by omega)]
      have t4 : ((ru j).toNatClampNeg, sta j, dro j, can j).1 = r := t3
      omega
    · exact ⟨r, by omega, r2⟩
  by_cases hle : m ≤ 4206239 - clock
  · have hle' : nI m ≤ 4206239 - nI clock := by rw [es]; exact nI_le hle (by omega)
    refine br_f h1 (br_t hlt (br_t hle' (nm_r (nI_add clock m) (main (clock + m) (by omega) (by omega) (fun post hp => br_f h1 (br_f hne (br_t hle' ?_)))))))
    rw [nI_add]
    exact hp
  · have hle' : ¬ nI m ≤ 4206239 - nI clock := by rw [es]; exact nI_ge (by omega) hm
    exact br_f h1 (br_t hlt (br_f hle' (main 4206239 (by omega) (by omega) (fun post hp => br_f h1 (br_f hne (br_f hle' hp))))))
