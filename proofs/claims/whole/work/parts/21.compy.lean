/-! compile: Y's side -/
def cp_cl (sY : Nat → Int32) (x : Nat) : Nat → Int32 := fun i => if 1088 ≤ i ∧ i < 1088 + x then 0 else sY i
def cp_FS (tx : Nat → Nat) (i : Nat) (fs : Nat → Int32) : Prop := ∀ p, p < i → cp_is tx p = true → cs_n (cp_is tx) p < 5 → fs (cs_n (cp_is tx) p) = nI p
def cp_FE (tx : Nat → Nat) (len i : Nat) (fe : Nat → Int32) : Prop := ∀ p, p < i → cp_ie tx len p → cs_n (cp_is tx) (p + 1) ≤ 5 → fe (cs_n (cp_is tx) (p + 1) - 1) = nI (p + 1)
theorem cp_cl0 (sY : Nat → Int32) : cp_cl sY 0 = sY := by
  funext i; unfold cp_cl; rw [if_neg (by omega)]
theorem cp_cls (sY : Nat → Int32) (x : Nat) : upd (cp_cl sY x) (1088 + x) 0 = cp_cl sY (x + 1) := by
  funext i
  by_cases e : i = 1088 + x
  · subst e
    rw [pk_us]
    unfold cp_cl
    rw [if_pos (by omega)]
  · rw [pk_un e]
    unfold cp_cl
    by_cases h : 1088 ≤ i ∧ i < 1088 + x
    · rw [if_pos h, if_pos (by omega)]
    · rw [if_neg h, if_neg (by omega)]
theorem cf_dis : ∀ f, f < 5 → ∀ f', f' < 5 → f ≠ f' → (cf_off f' + cf_top f' < cf_off f ∨ cf_off f + cf_top f < cf_off f') := by decide
section
variable {tx : Nat → Nat} {f_len f_clock f_cap f_staged f_pos f_val f_cy f_cm f_cd : Int32} {a_text a_sets a_domStar a_dowStar a_occ a_mis a_con a_cnt a_fs a_fe : Nat → Int32}
theorem cy_scan (hT : ∀ j, a_text j = nI (tx j)) (hC : ∀ j, tx j ≤ 126) {len : Nat} (hl : len ≤ 64) {post : Int32 → SY → Prop} (hE : ∀ fs' fe', cp_FS tx len fs' → cp_FE tx len len fe' → ∃ n, wY_compile_105 post (nI (cs_n (cp_is tx) len)) (nI len) f_clock f_cap f_staged f_pos f_val f_cy f_cm f_cd n 0 a_text a_sets a_domStar a_dowStar a_occ a_mis a_con a_cnt fs' fe') : ∀ (k i n : Nat) (fs fe : Nat → Int32), i + k = len → k < n → cp_FS tx i fs → cp_FE tx len i fe → wY_compile_4 post (nI len) f_clock f_cap f_staged f_pos f_val f_cy f_cm f_cd n (nI (cs_n (cp_is tx) i)) (nI i) a_text a_sets a_domStar a_dowStar a_occ a_mis a_con a_cnt fs fe := by
  intro k
  induction k with
  | zero =>
    intro i n fs fe hk hn hFS hFE
    obtain ⟨n, rfl⟩ : ∃ n', n = n' + 1 := ⟨n - 1, by omega⟩
    have ei : i = len := by omega
    subst ei
    exact pk_le i i (fun _ => hE fs fe hFS hFE) (fun z => absurd z (by omega))
  | succ k ih =>
    intro i n fs fe hk hn hFS hFE
    obtain ⟨n, rfl⟩ : ∃ n', n = n' + 1 := ⟨n - 1, by omega⟩
    have hci := hC i
    have hself := cs_n_self (cp_is tx) i
    have hself2 := cs_n_self (cp_is tx) (i + 1)
    have hmono := cs_n_le (Q := cp_is tx) (show i ≤ i + 1 by omega)
    have hFSk : cp_is tx i = false → cp_FS tx (i + 1) fs := by
      intro hf p p1 p2 p3
      by_cases e2 : p = i
      · subst e2; rw [hf] at p2; exact Bool.noConfusion p2
      · exact hFS p (by omega) p2 p3
    have hFEk : ¬ cp_ie tx len i → cp_FE tx len (i + 1) fe := by
      intro hf p p1 p2 p3
      by_cases e2 : p = i
      · subst e2; exact absurd p2 hf
      · exact hFE p (by omega) p2 p3
    have h58 : tx i ≠ 32 → ∀ fs', cp_FS tx (i + 1) fs' → wY_compile_58 post (wY_compile_4 post (nI len) f_clock f_cap f_staged f_pos f_val f_cy f_cm f_cd n) (nI (cs_n (cp_is tx) (i + 1))) (nI i) (nI len) f_clock f_cap f_staged f_pos f_val f_cy f_cm f_cd a_text a_sets a_domStar a_dowStar a_occ a_mis a_con a_cnt fs' fe := by
      intro hne fs' hFS'
      have hpos := cp_npos i hne
      have h81 : cp_ie tx len i → wY_compile_81 post (wY_compile_4 post (nI len) f_clock f_cap f_staged f_pos f_val f_cy f_cm f_cd n) (nI (cs_n (cp_is tx) (i + 1))) (nI i) (nI len) f_clock f_cap f_staged f_pos f_val f_cy f_cm f_cd a_text a_sets a_domStar a_dowStar a_occ a_mis a_con a_cnt fs' fe := by
        intro hie
        have em : nI (cs_n (cp_is tx) (i + 1)) - 1 = nI (cs_n (cp_is tx) (i + 1) - 1) := pk_sub (b := 1) hpos
        unfold wY_compile_81
        rw [em, nI_clamp (by omega)]
        refine pk_lt 5 (cs_n (cp_is tx) (i + 1)) (fun z => nm_r (nI_1 i) (ih (i + 1) n fs' fe (by omega) (by omega) hFS' (fun p p1 p2 p3 => ?_))) (fun z => ⟨vp_in_nI (by omega) (by decide), nm_e (nm_r (nI_1 i) (ih (i + 1) n fs' _ (by omega) (by omega) hFS' (fun p p1 p2 p3 => ?_)))⟩)
        · by_cases e2 : p = i
          · subst e2; omega
          · exact hFE p (by omega) p2 p3
        · by_cases e2 : p = i
          · subst e2
            rw [pk_us, nI_1]
          · have hsp : tx (p + 1) = 32 := by
              rcases p2.2 with h | h
              · omega
              · exact h
            have hg := cp_ngrow hsp (i - (p + 1))
            rw [show p + 1 + (i - (p + 1)) = i by omega] at hg
            have hg := hg hne
            have hpp := cp_npos p p2.1
            rw [pk_un (by omega)]
            exact hFE p (by omega) p2 p3
      have el : nI len - 1 = nI (len - 1) := pk_sub (b := 1) (by omega)
      unfold wY_compile_58
      rw [el, nI_1]
      refine pk_eq i (len - 1) (fun z => h81 ⟨hne, Or.inl (by omega)⟩) (fun z => ⟨vp_in_nI (by omega) (by decide), pk_eq (tx (i + 1)) 32 (fun z2 => h81 ⟨hne, Or.inr z2⟩) (fun z2 => ?_) (cp_txt hT (by omega)) rfl (by have := hC (i + 1); omega)⟩)
      exact nm_e (ih (i + 1) n fs' fe (by omega) (by omega) hFS' (hFEk (fun w => w.2.elim (fun h => by omega) z2)))
    have h43 : cp_is tx i = true → wY_compile_43 post (wY_compile_4 post (nI len) f_clock f_cap f_staged f_pos f_val f_cy f_cm f_cd n) (nI (cs_n (cp_is tx) i)) (nI i) (nI len) f_clock f_cap f_staged f_pos f_val f_cy f_cm f_cd a_text a_sets a_domStar a_dowStar a_occ a_mis a_con a_cnt fs fe := by
      intro ht
      have e := cs_n_t ht
      unfold wY_compile_43
      rw [nI_clamp (by omega)]
      refine pk_le 5 (cs_n (cp_is tx) i) (fun z => nm_r ((nI_1 _).trans (congrArg nI e.symm)) (h58 (cp_isn ht) fs (fun p p1 p2 p3 => ?_))) (fun z => ⟨vp_in_nI (by omega) (by decide), nm_e (nm_r ((nI_1 _).trans (congrArg nI e.symm)) (h58 (cp_isn ht) _ (fun p p1 p2 p3 => ?_)))⟩)
      · by_cases e2 : p = i
        · subst e2; omega
        · exact hFS p (by omega) p2 p3
      · by_cases e2 : p = i
        · subst e2; rw [pk_us]
        · have hlt := cp_nlt (show p < i by omega) p2
          rw [pk_un (by omega)]
          exact hFS p (by omega) p2 p3
    refine pk_le len i (fun z => absurd z (by omega)) (fun _ => ⟨vp_in_nI (by omega) (by decide), pk_eq (tx i) 32 (fun z => ?_) (fun z => pk_eq i 0 (fun z0 => h43 (cp_is1 z (Or.inl z0))) (fun z0 => ?_)) (cp_txt hT (by omega))⟩)
    · have e := cs_n_f (cp_is0 z)
      refine nm_r (nI_1 i) ?_
      rw [← e]
      exact ih (i + 1) n fs fe (by omega) (by omega) (hFSk (cp_is0 z)) (hFEk (fun w => w.1 z))
    · have em : nI i - 1 = nI (i - 1) := pk_sub (b := 1) (by omega)
      rw [em]
      refine ⟨vp_in_nI (by omega) (by decide), pk_eq (tx (i - 1)) 32 (fun z2 => h43 (cp_is1 z (Or.inr z2))) (fun z2 => ?_) (cp_txt hT (by omega)) rfl (by have := hC (i - 1); omega)⟩
      have hf := cp_is2 z0 z2
      have t := h58 z fs (hFSk hf)
      rw [cs_n_f hf] at t
      exact t
theorem cy_fin {x2 : Int32} (h01 : x2 = 0 ∨ x2 = 1) {post : Int32 → SY → Prop} (hp : post x2 (0, f_clock, f_cap, x2, f_pos, f_val, f_cy, f_cm, f_cd, a_text, a_sets, a_domStar, a_dowStar, a_occ, a_mis, a_con, a_cnt, a_fs, a_fe)) : wY_compile_235 post x2 f_len f_clock f_cap f_staged f_pos f_val f_cy f_cm f_cd a_text a_sets a_domStar a_dowStar a_occ a_mis a_con a_cnt a_fs a_fe := ⟨cb_nar h01, cb_fit h01, cb_nar h01, hp⟩
theorem cy_stars (hT : ∀ j, a_text j = nI (tx j)) (hC : ∀ j, tx j ≤ 126) {p2 p4 : Nat} (h2 : p2 < 64) (h4 : p4 < 64) (e2 : a_fs 2 = nI p2) (e4 : a_fs 4 = nI p4) {post : Int32 → SY → Prop} (hp : post 1 (0, f_clock, f_cap, 1, f_pos, f_val, f_cy, f_cm, f_cd, a_text, a_sets, upd a_domStar 8 (cb_b (decide (tx p2 = 42))), upd a_dowStar 8 (cb_b (decide (tx p4 = 42))), a_occ, a_mis, a_con, a_cnt, a_fs, a_fe)) : wY_compile_175 post 1 f_len f_clock f_cap f_staged f_pos f_val f_cy f_cm f_cd a_text a_sets a_domStar a_dowStar a_occ a_mis a_con a_cnt a_fs a_fe := by
  have c8 : (8 : Int32).toNatClampNeg = 8 := by decide
  have i8 : vp_in (8 : Int32) 9 := vp_in_nI (n := 8) (by decide) (by decide)
  have h234 : ∀ c : Bool, c = decide (tx p4 = 42) → wY_compile_234 post 1 (cb_b c) 8 f_len f_clock f_cap f_staged f_pos f_val f_cy f_cm f_cd a_text a_sets (upd a_domStar 8 (cb_b (decide (tx p2 = 42)))) a_dowStar a_occ a_mis a_con a_cnt a_fs a_fe := by
    intro c hc
    subst hc
    unfold wY_compile_234
    rw [c8, cb_vp (cb_b01 _)]
    exact ⟨i8, nm_e (cy_fin (Or.inr rfl) hp)⟩
  have h206 : ∀ c : Bool, c = decide (tx p2 = 42) → wY_compile_206 post 1 (cb_b c) 8 f_len f_clock f_cap f_staged f_pos f_val f_cy f_cm f_cd a_text a_sets a_domStar a_dowStar a_occ a_mis a_con a_cnt a_fs a_fe := by
    intro c hc
    subst hc
    unfold wY_compile_206
    rw [c8, cb_vp (cb_b01 _), e4]
    refine ⟨i8, nm_e ⟨vp_in_nI h4 (by decide), pk_eq (tx p4) 42 (fun z => ?_) (fun z => ?_) (cp_txt hT (by omega)) rfl (by have := hC p4; omega)⟩⟩
    · exact h234 true (decide_eq_true z).symm
    · exact h234 false (decide_eq_false z).symm
  unfold wY_compile_175
  rw [e2]
  refine br_f (by decide) ⟨vp_in_nI h2 (by decide), pk_eq (tx p2) 42 (fun z => ?_) (fun z => ?_) (cp_txt hT (by omega)) rfl (by have := hC p2; omega)⟩
  · exact h206 true (decide_eq_true z).symm
  · exact h206 false (decide_eq_false z).symm
theorem cy_142 (hT : ∀ j, a_text j = nI (tx j)) (hC : ∀ j, tx j ≤ 126) {len : Nat} (hl : len ≤ 64) (h5 : cs_n (cp_is tx) len = 5) {sY0 : Nat → Int32} (hFS : cp_FS tx len a_fs) (hFE : cp_FE tx len len a_fe) {post : Int32 → SY → Prop} (hS : ∀ sY' pos val p2 p4, (∀ p, p < len → cp_is tx p = true → ∃ g, cp_P tx (cs_n (cp_is tx) p) (cp_find tx 32 p len) (cp_find tx 32 p len + 1) p (fun _ => False) g ∧ cp_G (cs_n (cp_is tx) p) sY' g) → (∀ i, i < 1088 → sY' i = sY0 i) → p2 < len → cp_is tx p2 = true → cs_n (cp_is tx) p2 = 2 → p4 < len → cp_is tx p4 = true → cs_n (cp_is tx) p4 = 4 → post 1 (0, f_clock, f_cap, 1, pos, val, f_cy, f_cm, f_cd, a_text, sY', upd a_domStar 8 (cb_b (decide (tx p2 = 42))), upd a_dowStar 8 (cb_b (decide (tx p4 = 42))), a_occ, a_mis, a_con, a_cnt, a_fs, a_fe)) (hF : ¬ cp_R tx len → ∀ sY' pos val, (∀ i, i < 1088 → sY' i = sY0 i) → post 0 (0, f_clock, f_cap, 0, pos, val, f_cy, f_cm, f_cd, a_text, sY', a_domStar, a_dowStar, a_occ, a_mis, a_con, a_cnt, a_fs, a_fe)) : ∀ (k f n : Nat) (sY : Nat → Int32) (pos val : Int32), f + k = 5 → k < n → (∀ i, i < 1088 → sY i = sY0 i) → (∀ p, p < len → cp_is tx p = true → cs_n (cp_is tx) p < f → ∃ g, cp_P tx (cs_n (cp_is tx) p) (cp_find tx 32 p len) (cp_find tx 32 p len + 1) p (fun _ => False) g ∧ cp_G (cs_n (cp_is tx) p) sY g) → (∀ f', f ≤ f' → f' < 5 → cp_G f' sY (fun _ => False)) → wY_compile_142 post n 1 (nI f) (nI len) f_clock f_cap f_staged pos val f_cy f_cm f_cd a_text sY a_domStar a_dowStar a_occ a_mis a_con a_cnt a_fs a_fe := by
  have hfield : ∀ f, f < 5 → ∃ p, p < len ∧ cp_is tx p = true ∧ cs_n (cp_is tx) p = f ∧ a_fs f = nI p ∧ a_fe f = nI (cp_find tx 32 p len) := by
    intro f hf
    obtain ⟨p, p1, p2, p3⟩ := cp_nex (tx := tx) len f (by omega)
    obtain ⟨n1, n2⟩ := cp_nend p1 p2
    obtain ⟨l1, l2⟩ := cp_endlt p1 (cp_isn p2)
    have t1 := hFS p p1 p2 (by omega)
    rw [p3] at t1
    have t2 := hFE _ (show cp_find tx 32 p len - 1 < len by omega) n1
    rw [show cp_find tx 32 p len - 1 + 1 = cp_find tx 32 p len by omega, n2, p3] at t2
    exact ⟨p, p1, p2, p3, t1, t2 (by omega)⟩
  intro k
  induction k with
  | zero =>
    intro f n sY pos val hk hn hfr hd hu
    obtain ⟨n, rfl⟩ : ∃ n', n = n' + 1 := ⟨n - 1, by omega⟩
    obtain ⟨p2, a1, a2, a3, a4, _⟩ := hfield 2 (by decide)
    obtain ⟨p4, b1, b2, b3, b4, _⟩ := hfield 4 (by decide)
    refine pk_le 5 f (fun _ => ?_) (fun z => absurd z (by omega))
    refine cy_stars hT hC (by omega) (by omega) a4 b4 (hS sY pos val p2 p4 (fun p p1 p2 => ?_) hfr a1 a2 a3 b1 b2 b3)
    have := cp_nlt p1 p2
    exact hd p p1 p2 (by omega)
  | succ k ih =>
    intro f n sY pos val hk hn hfr hd hu
    obtain ⟨n, rfl⟩ : ∃ n', n = n' + 1 := ⟨n - 1, by omega⟩
    have hf : f < 5 := by omega
    obtain ⟨p, p1, p2, p3, p4, p5⟩ := hfield f hf
    obtain ⟨l1, l2⟩ := cp_endlt p1 (cp_isn p2)
    have htb := cf_topb hf
    have hin : vp_in (nI f) 5 := vp_in_nI hf (by decide)
    refine pk_le 5 f (fun z => absurd z (by omega)) (fun _ => br_f (by decide) ?_)
    rw [nI_clamp (show f < 2 ^ 31 by omega)]
    refine ⟨hin, hin, cy_field hT hC hf l1 (by omega) (hu f (by omega) hf) (fun sY' g' pos val hP hG hFr => ?_) (fun hno sY' pos val hFr => ?_) p4 p5⟩
    · refine nm_r (nI_1 f) (ih (f + 1) n sY' pos val (by omega) (by omega) (fun i hi => (hFr i (by omega)).trans (hfr i hi)) (fun q q1 q2 q3 => ?_) (fun f' g1 g2 => ?_))
      · by_cases e : cs_n (cp_is tx) q = f
        · have eq : q = p := by
            by_cases e1 : q < p
            · have := cp_nlt e1 q2
              omega
            · by_cases e2 : p < q
              · have := cp_nlt e2 p2
                omega
              · omega
          subst eq
          rw [p3]
          exact ⟨g', hP, hG⟩
        · obtain ⟨g, g1, g2⟩ := hd q q1 q2 (by omega)
          refine ⟨g, g1, fun v hv => ?_⟩
          have hdis := cf_dis f hf (cs_n (cp_is tx) q) (by omega) (by omega)
          rw [hFr _ (by omega)]
          exact g2 v hv
      · intro v hv
        have hdis := cf_dis f hf f' g2 (by omega)
        rw [hFr _ (by omega)]
        exact hu f' (by omega) g2 v hv
    · refine nm_r (nI_1 f) ?_
      have hno2 : ¬ cp_R tx len := by
        intro hR
        obtain ⟨g, hg⟩ := hR.2 p p1 p2
        rw [p3] at hg
        exact hno g hg
      have h175 : wY_compile_175 post 0 (nI len) f_clock f_cap f_staged pos val f_cy f_cm f_cd a_text sY' a_domStar a_dowStar a_occ a_mis a_con a_cnt a_fs a_fe := br_t rfl (cy_fin (Or.inl rfl) (hF hno2 sY' pos val (fun i hi => (hFr i (by omega)).trans (hfr i hi))))
      obtain ⟨n, rfl⟩ : ∃ n', n = n' + 1 := ⟨n - 1, by omega⟩
      exact pk_le 5 (f + 1) (fun _ => h175) (fun _ => br_t rfl h175)
theorem cy_105 {x1 : Int32} {post : Int32 → SY → Prop} (h5 : x1 = 5 → ∃ n, wY_compile_142 post n 1 0 f_len f_clock f_cap f_staged f_pos f_val f_cy f_cm f_cd a_text (cp_cl a_sets 136) a_domStar a_dowStar a_occ a_mis a_con a_cnt a_fs a_fe) (hn5 : ¬ x1 = 5 → ∃ n, wY_compile_142 post n 0 0 f_len f_clock f_cap f_staged f_pos f_val f_cy f_cm f_cd a_text (cp_cl a_sets 136) a_domStar a_dowStar a_occ a_mis a_con a_cnt a_fs a_fe) : ∀ k x n : Nat, x + k = 136 → k < n → wY_compile_105 post x1 f_len f_clock f_cap f_staged f_pos f_val f_cy f_cm f_cd n (nI x) a_text (cp_cl a_sets x) a_domStar a_dowStar a_occ a_mis a_con a_cnt a_fs a_fe := by
  intro k
  induction k with
  | zero =>
    intro x n hk hn
    obtain ⟨n, rfl⟩ : ∃ n', n = n' + 1 := ⟨n - 1, by omega⟩
    have e : x = 136 := by omega
    subst e
    exact pk_le 136 136 (fun _ => br_c h5 hn5) (fun z => absurd z (by omega))
  | succ k ih =>
    intro x n hk hn
    obtain ⟨n, rfl⟩ : ∃ n', n = n' + 1 := ⟨n - 1, by omega⟩
    have e : 1088 + nI x = nI (1088 + x) := nI_add 1088 x
    refine pk_le 136 x (fun z => absurd z (by omega)) (fun _ => ?_)
    rw [e, nI_clamp (by omega), cb_v0]
    exact ⟨vp_in_nI (by omega) (by decide), nm_r (cp_cls a_sets x) (nm_r (nI_1 x) (ih (x + 1) n (by omega) (by omega)))⟩
theorem cy_compile (hT : ∀ j, a_text j = nI (tx j)) (hC : ∀ j, tx j ≤ 126) {len : Nat} (hl : len ≤ 64) {post : Int32 → SY → Prop} (hS : ∀ sY' pos val fs fe p2 p4, (∀ p, p < len → cp_is tx p = true → ∃ g, cp_P tx (cs_n (cp_is tx) p) (cp_find tx 32 p len) (cp_find tx 32 p len + 1) p (fun _ => False) g ∧ cp_G (cs_n (cp_is tx) p) sY' g) → (∀ i, i < 1088 → sY' i = a_sets i) → cs_n (cp_is tx) len = 5 → p2 < len → cp_is tx p2 = true → cs_n (cp_is tx) p2 = 2 → p4 < len → cp_is tx p4 = true → cs_n (cp_is tx) p4 = 4 → post 1 (0, f_clock, f_cap, 1, pos, val, f_cy, f_cm, f_cd, a_text, sY', upd a_domStar 8 (cb_b (decide (tx p2 = 42))), upd a_dowStar 8 (cb_b (decide (tx p4 = 42))), a_occ, a_mis, a_con, a_cnt, fs, fe)) (hF : ¬ cp_R tx len → ∀ sY' pos val fs fe, (∀ i, i < 1088 → sY' i = a_sets i) → post 0 (0, f_clock, f_cap, 0, pos, val, f_cy, f_cm, f_cd, a_text, sY', a_domStar, a_dowStar, a_occ, a_mis, a_con, a_cnt, fs, fe)) : wpY_compile post (nI len, f_clock, f_cap, f_staged, f_pos, f_val, f_cy, f_cm, f_cd, a_text, a_sets, a_domStar, a_dowStar, a_occ, a_mis, a_con, a_cnt, a_fs, a_fe) := by
  have hcl : ∀ i, i < 1088 → cp_cl a_sets 136 i = a_sets i := by
    intro i hi
    unfold cp_cl
    rw [if_neg (by omega)]
  refine ⟨len + 1, cy_scan hT hC hl (fun fs' fe' hFS hFE => ⟨137, ?_⟩) len 0 (len + 1) a_fs a_fe (by omega) (by omega) (fun p p1 => absurd p1 (by omega)) (fun p p1 => absurd p1 (by omega))⟩
  have hself := cs_n_self (cp_is tx) len
  have t := cy_105 (x1 := nI (cs_n (cp_is tx) len)) (post := post) (a_sets := a_sets) (f_len := nI len) (f_clock := f_clock) (f_cap := f_cap) (f_staged := f_staged) (f_pos := f_pos) (f_val := f_val) (f_cy := f_cy) (f_cm := f_cm) (f_cd := f_cd) (a_text := a_text) (a_domStar := a_domStar) (a_dowStar := a_dowStar) (a_occ := a_occ) (a_mis := a_mis) (a_con := a_con) (a_cnt := a_cnt) (a_fs := fs') (a_fe := fe') (fun z => ⟨6, ?_⟩) (fun z => ⟨1, ?_⟩) 136 0 137 (by omega) (by omega)
  · rw [cp_cl0] at t
    exact t
  · have h5 : cs_n (cp_is tx) len = 5 := (nI_eq (b := 5) (by omega) (by decide)).mp z
    refine cy_142 (sY0 := a_sets) hT hC hl h5 hFS hFE (fun sY' pos val p2 p4 g1 g2 g3 g4 g5 g6 g7 g8 => hS sY' pos val fs' fe' p2 p4 g1 g2 h5 g3 g4 g5 g6 g7 g8) (fun hno sY' pos val g => hF hno sY' pos val fs' fe' g) 5 0 6 _ _ _ (by omega) (by omega) hcl (fun p _ _ p3 => absurd p3 (by omega)) (fun f' _ g2 v hv => Or.inr ⟨?_, id⟩)
    have := cf_topb g2
    unfold cp_cl
    rw [if_pos (by omega)]
  · have h5 : cs_n (cp_is tx) len ≠ 5 := fun e => z (by rw [e]; rfl)
    refine br_f (by decide) (br_t rfl (br_t rfl (cy_fin (Or.inl rfl) (hF (fun hR => h5 hR.1) _ _ _ fs' fe' hcl))))
end
theorem i_vc_compile {k : Nat} {u : SX} {v : SY} (I : i_Rel k u v) (hk : k + 5 ≤ 2561) : wpX_compile (fun r u' => wpY_compile (fun r' v' => r' = r ∧ i_Rel (k + 5) u' v') v) u := by
  obtain ⟨cap, clock, len, b, text, sX, st, occ, mp, cp, ru, sta, com, dro, can, mis, sY, dom, dow, cnt, fs, fe, pos, val, cy, cm, cd, rfl, rfl, F⟩ := I
  have F5 := cr_Fm (show k ≤ k + 5 by omega) F
  obtain ⟨⟨hc1, hc8, hcl, hlen⟩, hb, hT, hA, hmp, hcp, hR, hC⟩ := F5
  have hTx : ∀ j, text j = nI ((fun j => (text j).toNatClampNeg) j) := by
    intro j
    obtain ⟨c, c1, c2⟩ := hT j
    show text j = nI (text j).toNatClampNeg
    rw [c2, nI_clamp (by omega)]
  have hTc : ∀ j, (fun j => (text j).toNatClampNeg) j ≤ 126 := by
    intro j
    obtain ⟨c, c1, c2⟩ := hT j
    show (text j).toNatClampNeg ≤ 126
    rw [c2, nI_clamp (by omega)]
    exact c1
  obtain ⟨tx, hx⟩ : ∃ tx : Nat → Nat, tx = fun j => (text j).toNatClampNeg := ⟨_, rfl⟩
  rw [← hx] at hTx hTc
  have hold : ∀ (sX' : Nat → Int64) (st' sY' dom' dow' : Nat → Int32), (∀ j, j < 40 → sX' j = sX j ∧ st' j = st j) → (∀ i, i < 1088 → sY' i = sY i) → (∀ s, s < 8 → dom' s = dom s ∧ dow' s = dow s) → ∀ s, s < 8 → cr_S sX' st' sY' dom' dow' s := by
    intro sX' st' sY' dom' dow' g1 g2 g3 s hs
    obtain ⟨a1, a2, a3, a4, a5, a6⟩ := hA s (Or.inl hs)
    refine ⟨fun f v hf hv => ?_, fun f v hf hv hbit => ?_, ?_, ?_, ?_, ?_⟩
    · have := cf_topb hf
      rw [g2 _ (by omega), (g1 _ (by omega)).1]
      exact a1 f v hf hv
    · rw [(g1 _ (by omega)).1] at hbit
      exact a2 f v hf hv hbit
    · rw [(g3 s hs).1, (g1 _ (by omega)).2]; exact a3
    · rw [(g3 s hs).2, (g1 _ (by omega)).2]; exact a4
    · rw [(g1 _ (by omega)).2]; exact a5
    · rw [(g1 _ (by omega)).2]; exact a6
  refine cx_compile hTx hTc hlen (fun sX' st' h5 hd hfr => ?_) (fun hno sX' st' hfr => ?_)
  · refine cy_compile hTx hTc hlen (fun sY' pos' val' fs' fe' p2 p4 hG hfrY _ a1 a2 a3 b1 b2 b3 => ⟨rfl, ?_⟩) (fun hno => ?_)
    · refine cr_mk (len := 0) ⟨⟨hc1, hc8, hcl, by omega⟩, Or.inr rfl, hT, fun s hs => ?_, hmp, hcp, hR, hC⟩
      rcases hs with hs | ⟨rfl, _⟩
      · exact hold sX' st' sY' _ _ hfr hfrY (fun s hs => ⟨pk_un (by omega), pk_un (by omega)⟩) s hs
      · have hst : ∀ p f, p < len → cp_is tx p = true → cs_n (cp_is tx) p = f → st' (8 * 5 + f) = cb_b (decide (tx p = 42)) := by
          intro p f q1 q2 q3
          obtain ⟨g, _, _, g3⟩ := hd p q1 q2
          rw [q3] at g3
          exact g3
        have s2 := hst p2 2 a1 a2 a3
        have s4 := hst p4 4 b1 b2 b3
        refine ⟨fun f v hf hv => ?_, fun f v hf hv hbit => ?_, ?_, ?_, ?_, ?_⟩
        · obtain ⟨p, q1, q2, q3⟩ := cp_nex (tx := tx) len f (by omega)
          obtain ⟨g, x1, x2, _⟩ := hd p q1 q2
          obtain ⟨g', y1, y2⟩ := hG p q1 q2
          have hu := cp_Pu _ _ _ _ _ _ (fun _ => Iff.rfl) x1 y1
          rw [q3] at x2 y2
          have ht := cf_top59 hf
          have hx2 := x2 v (by omega)
          rcases y2 v hv with ⟨z1, z2⟩ | ⟨z1, z2⟩
          · have e : cb_bit (sX' (8 * 5 + f)) v = true := hx2.mpr ((hu v).mpr z2)
            rw [e]; exact z1
          · have e : cb_bit (sX' (8 * 5 + f)) v = false := by
              cases e : cb_bit (sX' (8 * 5 + f)) v
              · rfl
              · exact absurd ((hu v).mp (hx2.mp e)) z2
            rw [e]; exact z1
        · obtain ⟨p, q1, q2, q3⟩ := cp_nex (tx := tx) len f (by omega)
          obtain ⟨g, x1, x2, _⟩ := hd p q1 q2
          have hle := (cp_endlt q1 (cp_isn q2)).1
          rw [q3] at x1 x2
          exact cp_Pm hf _ _ _ _ (by omega) (fun _ z => absurd z id) x1 v ((x2 v hv).mp hbit)
        · rw [pk_us, s2]
        · rw [pk_us, s4]
        · rw [s2]; exact cb_b01 _
        · rw [s4]; exact cb_b01 _
    · exact absurd ⟨h5, fun p q1 q2 => by
        obtain ⟨g, g1, _⟩ := hd p q1 q2
        exact ⟨g, g1⟩⟩ hno
  · refine cy_compile hTx hTc hlen (fun sY' pos' val' fs' fe' p2 p4 hG hfrY h5 a1 a2 a3 b1 b2 b3 => ?_) (fun _ sY' pos' val' fs' fe' hfrY => ⟨rfl, ?_⟩)
    · exact absurd ⟨h5, fun p q1 q2 => by
        obtain ⟨g, g1, _⟩ := hG p q1 q2
        exact ⟨g, g1⟩⟩ hno
    · refine cr_mk (len := 0) ⟨⟨hc1, hc8, hcl, by omega⟩, Or.inl rfl, hT, fun s hs => ?_, hmp, hcp, hR, hC⟩
      rcases hs with hs | ⟨_, z⟩
      · exact hold sX' st' sY' _ _ hfr hfrY (fun s hs => ⟨rfl, rfl⟩) s hs
      · exact absurd z (by decide)
