/-! makeTime and timeField -/
theorem cg_F12 : ∀ j, j < 8 → cg_F (12 * (j + 1)) = cg_F (12 * j) + cg_yl (2096 + j) := by decide +kernel
theorem cg_Fm {j m : Nat} (hm : m < 12) : cg_F (12 * j + (m + 1)) = cg_F (12 * j + m) + cg_ml (2096 + j) (m + 1) := by
  show cg_F (12 * j + m) + cg_mi (12 * j + m) = _
  unfold cg_mi
  rw [show (12 * j + m) / 12 = j by omega, show (12 * j + m) % 12 = m by omega]
theorem cg_Fmono : ∀ k j, cg_F j ≤ cg_F (j + k) := by
  intro k
  induction k with
  | zero => intro j; exact Nat.le_refl _
  | succ k ih =>
    intro j
    have h1 := ih j
    have h2 := cg_Fs (j + k)
    show cg_F j ≤ cg_F (j + k + 1)
    omega
theorem cx_mt80 {W : Nat} (hW : W < 97) {x3 x4 : Int32} {f_cap f_clock f_length f_staged : Int32} {a_text : Nat → Int32} {a_sets : Nat → Int64} {a_starred a_occupied a_misfirePolicy a_concurrencyPolicy a_running a_started a_completed a_dropped a_cancelled a_misfires : Nat → Int32} {post : Int32 → Prop} : ∀ k i n : Nat, i + k = W → k < n → post (((nI (cg_F W) + x3) - 1) * 1440 + x4) → wX_makeTime_80 post x3 x4 (nI W) f_cap f_clock f_length f_staged a_text a_sets a_starred a_occupied a_misfirePolicy a_concurrencyPolicy a_running a_started a_completed a_dropped a_cancelled a_misfires n (nI (cg_F i)) (nI i) := by
  intro k
  induction k with
  | zero =>
    intro i n hk hn hp
    obtain ⟨n, rfl⟩ : ∃ n', n = n' + 1 := ⟨n - 1, by omega⟩
    have e : i = W := by omega
    subst e
    exact pk_le i i (fun _ => hp) (fun z => absurd z (by omega))
  | succ k ih =>
    intro i n hk hn hp
    obtain ⟨n, rfl⟩ : ∃ n', n = n' + 1 := ⟨n - 1, by omega⟩
    exact pk_le W i (fun z => absurd z (by omega)) (fun _ => cx_md (by omega) (nm_r (nI_add _ _) (nm_r (nI_1 i) (ih (i + 1) n (by omega) (by omega) hp))))
theorem cy_mt105 {Y M d : Nat} {x4 : Int32} (hY : Y < 8) (hM : M < 12) {f_len f_clock f_cap f_staged f_pos f_val f_cy f_cm f_cd : Int32} {a_text a_sets a_domStar a_dowStar a_occ a_mis a_con a_cnt a_fs a_fe : Nat → Int32} {post : Int32 → Prop} : ∀ k m n : Nat, m + k = M → k < n → post (nI (d + cg_F (12 * Y + M)) * 1440 + x4) → wY_makeTime_105 post (nI (2096 + Y)) (nI (M + 1)) x4 f_len f_clock f_cap f_staged f_pos f_val f_cy f_cm f_cd a_text a_sets a_domStar a_dowStar a_occ a_mis a_con a_cnt a_fs a_fe n (nI (d + cg_F (12 * Y + m))) (nI (m + 1)) := by
  intro k
  induction k with
  | zero =>
    intro m n hk hn hp
    obtain ⟨n, rfl⟩ : ∃ n', n = n' + 1 := ⟨n - 1, by omega⟩
    have e : m = M := by omega
    subst e
    exact pk_le (m + 1) (m + 1) (fun _ => hp) (fun z => absurd z (by omega))
  | succ k ih =>
    intro m n hk hn hp
    obtain ⟨n, rfl⟩ : ∃ n', n = n' + 1 := ⟨n - 1, by omega⟩
    refine pk_le (M + 1) (m + 1) (fun z => absurd z (by omega)) (fun _ => cy_ml (by omega) (by omega) (nm_r (nI_add _ _) (nm_r (nI_1 _) ?_)))
    have t := ih (m + 1) n (by omega) (by omega) hp
    rw [cg_Fm (by omega), ← Nat.add_assoc] at t
    exact t
theorem cy_mt67 {Y M d : Nat} {x4 : Int32} (hY : Y < 8) (hM : M < 12) {f_len f_clock f_cap f_staged f_pos f_val f_cy f_cm f_cd : Int32} {a_text a_sets a_domStar a_dowStar a_occ a_mis a_con a_cnt a_fs a_fe : Nat → Int32} {post : Int32 → Prop} : ∀ k j n : Nat, j + k = Y → k < n → post (nI (d + cg_F (12 * Y + M)) * 1440 + x4) → wY_makeTime_67 post (nI (2096 + Y)) (nI (M + 1)) x4 f_len f_clock f_cap f_staged f_pos f_val f_cy f_cm f_cd a_text a_sets a_domStar a_dowStar a_occ a_mis a_con a_cnt a_fs a_fe n (nI (d + cg_F (12 * j))) (nI (2096 + j)) := by
  intro k
  induction k with
  | zero =>
    intro j n hk hn hp
    obtain ⟨n, rfl⟩ : ∃ n', n = n' + 1 := ⟨n - 1, by omega⟩
    have e : j = Y := by omega
    subst e
    exact pk_le (2096 + j) (2096 + j) (fun _ => ⟨13, cy_mt105 hY hM M 0 13 (by omega) (by omega) hp⟩) (fun z => absurd z (by omega))
  | succ k ih =>
    intro j n hk hn hp
    obtain ⟨n, rfl⟩ : ∃ n', n = n' + 1 := ⟨n - 1, by omega⟩
    have t := ih (j + 1) n (by omega) (by omega) hp
    rw [cg_F12 j (by omega), ← Nat.add_assoc] at t
    refine pk_le (2096 + Y) (2096 + j) (fun z => absurd z (by omega)) (fun _ => cy_leap (by omega) (cb_br (fun e => ?_) (fun e => ?_)))
    · have e2 : cg_yl (2096 + j) = 365 := by unfold cg_yl; rw [e]; rfl
      rw [e2] at t
      exact nm_r (nI_add _ 365) (nm_r (nI_1 _) t)
    · have e2 : cg_yl (2096 + j) = 366 := by unfold cg_yl; rw [e]; rfl
      rw [e2] at t
      exact nm_r (nI_add _ 366) (nm_r (nI_1 _) t)
theorem i_vc_makeTime {k : Nat} {u : SX} {v : SY} (I : i_Rel k u v) (hk : k + 5 ≤ 2561) (v1 : Int32) (v2 : Int32) (v3 : Int32) (v4 : Int32) : wpX_makeTime (fun r => wpY_makeTime (fun r' => r' = r ∧ i_Rel (k + 5) u v) v v1 v2 v3 v4) u v1 v2 v3 v4 := by
  have I5 := i_up I
  obtain ⟨cap, clock, len, b, text, sX, st, occ, mp, cp, ru, sta, com, dro, can, mis, sY, dom, dow, cnt, fs, fe, pos, val, cy, cm, cd, rfl, rfl, F⟩ := I
  by_cases h1 : v1 < 2096
  · exact br_t h1 (br_t h1 ⟨rfl, I5⟩)
  by_cases h2 : 2103 < v1
  · exact br_f h1 (br_t h2 (br_f h1 (br_t h2 ⟨rfl, I5⟩)))
  by_cases h3 : v2 < 1
  · exact br_f h1 (br_f h2 (br_t h3 (br_f h1 (br_f h2 (br_t h3 ⟨rfl, I5⟩)))))
  by_cases h4 : ¬ v2 ≤ 12
  · exact br_f h1 (br_f h2 (br_f h3 (br_f h4 (br_f h1 (br_f h2 (br_f h3 (br_t (Int32.not_le.mp h4) ⟨rfl, I5⟩)))))))
  have h4 : v2 ≤ 12 := Decidable.of_not_not h4
  obtain ⟨y, hy, rfl⟩ := nI_of (x := v1) (Int32.not_lt.mpr (Int32.le_trans (by decide) (Int32.not_lt.mp h1)))
  obtain ⟨m, hm, rfl⟩ := nI_of (x := v2) (Int32.not_lt.mpr (Int32.le_trans (by decide) (Int32.not_lt.mp h3)))
  have y1 : 2096 ≤ y := by
    by_cases e : 2096 ≤ y
    · exact e
    · exact absurd (nI_lt (b := 2096) (by omega) (by decide)) h1
  have y2 : y ≤ 2103 := by
    by_cases e : y ≤ 2103
    · exact e
    · exact absurd (nI_lt (a := 2103) (by omega) hy) h2
  have m1 : 1 ≤ m := by
    by_cases e : 1 ≤ m
    · exact e
    · exact absurd (nI_lt (b := 1) (by omega) (by decide)) h3
  have m2 : m ≤ 12 := (nI_leI (b := 12) hm (by decide)).mp h4
  obtain ⟨Y, rfl⟩ : ∃ Y, y = 2096 + Y := ⟨y - 2096, by omega⟩
  obtain ⟨M, rfl⟩ : ∃ M, m = M + 1 := ⟨m - 1, by omega⟩
  have h4' : ¬ (12 : Int32) < nI (M + 1) := Int32.not_lt.mpr h4
  have eW : ((nI (2096 + Y) - 2096) * 12 + nI (M + 1)) - 1 = nI (12 * Y + M) := by
    rw [show nI (2096 + Y) - 2096 = nI Y from (pk_sub (a := 2096 + Y) (b := 2096) (by omega)).trans (congrArg nI (by omega)), show nI Y * 12 = nI (Y * 12) from pk_mul Y 12, nI_add, ← Nat.add_assoc, nI_pred]
    exact congrArg nI (by omega)
  have eml : cg_mi (12 * Y + M) = cg_ml (2096 + Y) (M + 1) := by
    unfold cg_mi
    rw [show (12 * Y + M) / 12 = Y by omega, show (12 * Y + M) % 12 = M by omega]
  have hlb := cg_ml_b (2096 + Y) (M + 1)
  have hYm : ¬ (¬ v3 < 1 ∧ ¬ nI (cg_ml (2096 + Y) (M + 1)) < v3 ∧ ¬ v4 < 0 ∧ v4 < 1440) → wpY_makeTime (fun r' => r' = -1 ∧ i_Rel (k + 5) (nI cap, nI clock, nI len, b, text, sX, st, occ, mp, cp, ru, sta, com, dro, can, mis) (nI len, nI clock, nI cap, b, pos, val, cy, cm, cd, text, sY, dom, dow, occ, mp, cp, cnt, fs, fe)) (nI len, nI clock, nI cap, b, pos, val, cy, cm, cd, text, sY, dom, dow, occ, mp, cp, cnt, fs, fe) (nI (2096 + Y)) (nI (M + 1)) v3 v4 := by
    intro hok
    refine br_f h1 (br_f h2 (br_f h3 (br_f h4' (br_c (fun _ => ⟨rfl, I5⟩) (fun a => br_c (fun b => br_c (fun _ => ⟨rfl, I5⟩) (fun c => cy_ml (by omega) (by omega) (br_c (fun d => absurd ⟨c, Int32.not_lt.mpr d, a, Int32.lt_of_le_of_lt b (by decide)⟩ hok) (fun _ => ⟨rfl, I5⟩)))) (fun _ => ⟨rfl, I5⟩))))))
  refine br_f h1 (br_f h2 (br_f h3 (br_t h4 (nm_r eW (cx_md (by omega) ?_)))))
  rw [eml]
  refine br_c (fun a => hYm (fun z => z.1 a)) (fun a => br_c (fun b => hYm (fun z => z.2.1 b)) (fun b => br_c (fun c => hYm (fun z => z.2.2.1 c)) (fun c => br_c (fun d => ⟨98, ?_⟩) (fun d => hYm (fun z => d z.2.2.2)))))
  obtain ⟨g, hg, rfl⟩ := nI_of (x := v3) (Int32.not_lt.mpr (Int32.le_trans (by decide) (Int32.not_lt.mp a)))
  have g1 : 1 ≤ g := by
    by_cases e : 1 ≤ g
    · exact e
    · exact absurd (nI_lt (b := 1) (by omega) (by decide)) a
  obtain ⟨g, rfl⟩ : ∃ g', g = g' + 1 := ⟨g - 1, by omega⟩
  have d' : v4 ≤ 1439 := by
    obtain ⟨q, hq, rfl⟩ := nI_of c
    exact nI_le (b := 1439) (by have := (nI_ltI (b := 1440) hq (by decide)).mp d; omega) (by decide)
  refine cx_mt80 (by omega) (12 * Y + M) 0 98 (by omega) (by omega) ?_
  refine br_f h1 (br_f h2 (br_f h3 (br_f h4' (br_f c (br_t d' (br_f a (cy_ml (by omega) (by omega) (br_t (Int32.not_lt.mp b) (nm_r (nI_pred g) ⟨9, ?_⟩)))))))))
  have e0 : nI g = nI (g + cg_F (12 * 0)) := congrArg nI (Nat.add_zero g : g + cg_F (12 * 0) = g).symm
  rw [e0]
  refine cy_mt67 (d := g) (by omega) (by omega) Y 0 9 (by omega) (by omega) ⟨?_, I5⟩
  rw [nI_add, ← Nat.add_assoc, nI_pred, Nat.add_comm g]
theorem cx_dp {d i : Nat} (hi : i < 96) (h1 : cg_F i ≤ d) (h2 : d < cg_F (i + 1)) {w : Int32} {post : Int32 → Prop} (hp : post (if w = 0 then nI (cg_dt d).1 else if w = 1 then nI (cg_dt d).2.1 else nI (cg_dt d).2.2)) : ∀ k j n : Nat, j + k = i → k < n → wX_datePart_4 post w n (nI (d - cg_F j)) (nI j) := by
  have hFb := cg_Fb (i + 1)
  rw [cg_dt_eq hi h1 h2] at hp
  intro k
  induction k with
  | zero =>
    intro j n hk hn
    obtain ⟨n, rfl⟩ : ∃ n', n = n' + 1 := ⟨n - 1, by omega⟩
    have e : j = i := by omega
    subst e
    have hs := cg_Fs j
    refine pk_le 96 j (fun z => absurd z (by omega)) (fun _ => cx_md (by omega) (pk_le (cg_mi j) (d - cg_F j) (fun z => absurd z (by omega)) (fun _ => br_c (fun z => ⟨by decide, ?_⟩) (fun z => br_c (fun z2 => ⟨by decide, ?_⟩) (fun z2 => ?_)))))
    · rw [if_pos z] at hp
      rw [ce_d12 (by omega), show (2096 : Int32) = nI 2096 from rfl, nI_add]
      exact hp
    · rw [if_neg z, if_pos z2] at hp
      rw [ce_r12 (by omega), nI_1]
      exact hp
    · rw [if_neg z, if_neg z2] at hp
      rw [nI_1]
      exact hp
  | succ k ih =>
    intro j n hk hn
    obtain ⟨n, rfl⟩ : ∃ n', n = n' + 1 := ⟨n - 1, by omega⟩
    have hs := cg_Fs j
    have hmo : cg_F (j + 1) ≤ cg_F i := by
      have := cg_Fmono k (j + 1)
      rw [show j + 1 + k = i by omega] at this
      exact this
    have hb := cg_mi_b j
    refine pk_le 96 j (fun z => absurd z (by omega)) (fun _ => cx_md (by omega) (pk_le (cg_mi j) (d - cg_F j) (fun z => nm_r ?_ (nm_r (nI_1 j) (ih (j + 1) n (by omega) (by omega)))) (fun z => absurd z (by omega))))
    rw [pk_sub z]
    exact congrArg nI (by omega)
theorem i_vc_timeField {k : Nat} {u : SX} {v : SY} (I : i_Rel k u v) (hk : k + 5 ≤ 2561) (v1 : Int32) (v2 : Int32) : wpX_timeField (fun r => wpY_timeField (fun r' v' => r' = r ∧ i_Rel (k + 5) u v') v v1 v2) u v1 v2 := by
  have I5 := i_up I
  obtain ⟨cap, clock, len, b, text, sX, st, occ, mp, cp, ru, sta, com, dro, can, mis, sY, dom, dow, cnt, fs, fe, pos, val, cy, cm, cd, rfl, rfl, F⟩ := I
  have F5 := cr_Fm (show k ≤ k + 5 by omega) F
  by_cases h0 : v1 < 0
  · exact br_t h0 (br_t h0 ⟨rfl, I5⟩)
  obtain ⟨t, ht, rfl⟩ := nI_of h0
  by_cases hM : ¬ t ≤ 4206239
  · exact br_f h0 (br_f (nI_ge (a := 4206239) (by omega) ht) (br_f h0 (br_t (nI_lt (a := 4206239) (by omega) ht) ⟨rfl, I5⟩)))
  have hM : t ≤ 4206239 := Decidable.of_not_not hM
  have hM1 : nI t ≤ 4206239 := nI_le (b := 4206239) hM (by decide)
  have hM2 : ¬ (4206239 : Int32) < nI t := Int32.not_lt.mpr hM1
  by_cases g0 : v2 < 0
  · exact br_f h0 (br_t hM1 (br_t g0 (br_f h0 (br_f hM2 (br_t g0 ⟨rfl, I5⟩)))))
  obtain ⟨w, hw, rfl⟩ := nI_of g0
  by_cases g5 : 5 < w
  · exact br_f h0 (br_t hM1 (br_f g0 (br_t (nI_lt (a := 5) g5 hw) (br_f h0 (br_f hM2 (br_f g0 (br_f (nI_ge (a := 5) g5 hw) ⟨rfl, I5⟩)))))))
  have w5 : nI w ≤ 5 := nI_le (b := 5) (by omega) (by decide)
  have w5' : ¬ (5 : Int32) < nI w := Int32.not_lt.mpr w5
  have ed : nI t / 1440 = nI (t / 1440) := ce_d1440 ht
  have n1440 : ¬ (1440 : Int32) = 0 := by decide
  have hYd : ∀ R : Int32, ¬ nI w = 3 → ¬ nI w = 4 → ¬ nI w = 5 → R = (if nI w = 0 then nI (cg_dt (t / 1440)).1 else if nI w = 1 then nI (cg_dt (t / 1440)).2.1 else nI (cg_dt (t / 1440)).2.2) → wpY_timeField (fun r' v' => r' = R ∧ i_Rel (k + 5) (nI cap, nI clock, nI len, b, text, sX, st, occ, mp, cp, ru, sta, com, dro, can, mis) v') (nI len, nI clock, nI cap, b, pos, val, cy, cm, cd, text, sY, dom, dow, occ, mp, cp, cnt, fs, fe) (nI t) (nI w) := by
    intro R n3 n4 n5 eR
    refine br_f h0 (br_f hM2 (br_f g0 (br_t w5 ⟨n1440, nm_r ed (br_f n3 (br_f n4 (br_f n5 (cy_date (by omega) ?_))))⟩)))
    refine br_c (fun z => ⟨?_, cr_mk F5⟩) (fun z => br_c (fun z2 => ⟨?_, cr_mk F5⟩) (fun z2 => ⟨?_, cr_mk F5⟩))
    · rw [eR, if_pos z]
    · rw [eR, if_neg z, if_pos z2]
    · rw [eR, if_neg z, if_neg z2]
  obtain ⟨i, hi, i1, i2⟩ := cg_day (d := t / 1440) (by omega)
  have hXd : ¬ nI w = 3 → ¬ nI w = 4 → ¬ nI w = 5 → wX_timeField_52 (fun r => wpY_timeField (fun r' v' => r' = r ∧ i_Rel (k + 5) (nI cap, nI clock, nI len, b, text, sX, st, occ, mp, cp, ru, sta, com, dro, can, mis) v') (nI len, nI clock, nI cap, b, pos, val, cy, cm, cd, text, sY, dom, dow, occ, mp, cp, cnt, fs, fe) (nI t) (nI w)) (nI t) (nI w) (nI cap) (nI clock) (nI len) b text sX st occ mp cp ru sta com dro can mis := by
    intro n3 n4 n5
    refine ⟨n1440, ⟨97, ?_⟩⟩
    rw [ed]
    have tt := cx_dp (w := nI w) (post := fun r => wpY_timeField (fun r' v' => r' = r ∧ i_Rel (k + 5) (nI cap, nI clock, nI len, b, text, sX, st, occ, mp, cp, ru, sta, com, dro, can, mis) v') (nI len, nI clock, nI cap, b, pos, val, cy, cm, cd, text, sY, dom, dow, occ, mp, cp, cnt, fs, fe) (nI t) (nI w)) hi i1 i2 (hYd _ n3 n4 n5 rfl) i 0 97 (by omega) (by omega)
    rw [show t / 1440 - cg_F 0 = t / 1440 from Nat.sub_zero _] at tt
    exact tt
  have hww : w = 0 ∨ w = 1 ∨ w = 2 ∨ w = 3 ∨ w = 4 ∨ w = 5 := by omega
  rcases hww with rfl | rfl | rfl | rfl | rfl | rfl
  · exact br_f h0 (br_t hM1 (br_f g0 (br_f w5' (br_t rfl (hXd (by decide) (by decide) (by decide))))))
  · exact br_f h0 (br_t hM1 (br_f g0 (br_f w5' (br_f (by decide : ¬ nI 1 = 0) (br_t rfl (hXd (by decide) (by decide) (by decide)))))))
  · exact br_f h0 (br_t hM1 (br_f g0 (br_f w5' (br_f (by decide : ¬ nI 2 = 0) (br_f (by decide : ¬ nI 2 = 1) (br_t rfl (hXd (by decide) (by decide) (by decide))))))))
  · refine br_f h0 (br_t hM1 (br_f g0 (br_f w5' (br_f (by decide : ¬ nI 3 = 0) (br_f (by decide : ¬ nI 3 = 1) (br_f (by decide : ¬ nI 3 = 2) (br_t rfl (cx_hour ht ?_))))))))
    refine br_f h0 (br_f hM2 (br_f g0 (br_t w5 ⟨n1440, nm_r ed (br_t rfl ⟨n1440, by decide, ce_h t ht, I5⟩)⟩)))
  · refine br_f h0 (br_t hM1 (br_f g0 (br_f w5' (br_f (by decide : ¬ nI 4 = 0) (br_f (by decide : ¬ nI 4 = 1) (br_f (by decide : ¬ nI 4 = 2) (br_f (by decide : ¬ nI 4 = 3) (br_t rfl ⟨by decide, ?_⟩))))))))
    exact br_f h0 (br_f hM2 (br_f g0 (br_t w5 ⟨n1440, nm_r ed (br_f (by decide : ¬ nI 4 = 3) (br_t rfl ⟨by decide, rfl, I5⟩))⟩)))
  · refine br_f h0 (br_t hM1 (br_f g0 (br_f w5' (br_f (by decide : ¬ nI 5 = 0) (br_f (by decide : ¬ nI 5 = 1) (br_f (by decide : ¬ nI 5 = 2) (br_f (by decide : ¬ nI 5 = 3) (br_f (by decide : ¬ nI 5 = 4) (br_t rfl ⟨n1440, by decide, ?_⟩)))))))))
    exact br_f h0 (br_f hM2 (br_f g0 (br_t w5 ⟨n1440, nm_e (br_f (by decide : ¬ nI 5 = 3) (br_f (by decide : ¬ nI 5 = 4) (br_t rfl ⟨by decide, rfl, I5⟩)))⟩)))
