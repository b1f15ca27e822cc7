/-! the small methods -/
theorem i_vc_clearText {k : Nat} {u : SX} {v : SY} (I : i_Rel k u v) (hk : k + 5 ≤ 2561) : wpX_clearText (fun u' => wpY_clearText (fun v' => i_Rel (k + 5) u' v') v) u := by
  obtain ⟨cap, clock, len, b, text, sX, st, occ, mp, cp, ru, sta, com, dro, can, mis, sY, dom, dow, cnt, fs, fe, pos, val, cy, cm, cd, rfl, rfl, F⟩ := I
  have F5 := cr_Fm (show k ≤ k + 5 by omega) F
  exact cr_mk (len := 0) ⟨⟨F5.1.1, F5.1.2.1, F5.1.2.2.1, by omega⟩, F5.2⟩
theorem i_vc_textLength {k : Nat} {u : SX} {v : SY} (I : i_Rel k u v) (hk : k + 5 ≤ 2561) : wpX_textLength (fun r => wpY_textLength (fun r' => r' = r ∧ i_Rel (k + 5) u v) v) u := by
  have I5 := i_up I
  obtain ⟨cap, clock, len, b, text, sX, st, occ, mp, cp, ru, sta, com, dro, can, mis, sY, dom, dow, cnt, fs, fe, pos, val, cy, cm, cd, rfl, rfl, F⟩ := I
  exact ⟨rfl, I5⟩
theorem i_vc_getClock {k : Nat} {u : SX} {v : SY} (I : i_Rel k u v) (hk : k + 5 ≤ 2561) : wpX_getClock (fun r => wpY_getClock (fun r' => r' = r ∧ i_Rel (k + 5) u v) v) u := by
  have I5 := i_up I
  obtain ⟨cap, clock, len, b, text, sX, st, occ, mp, cp, ru, sta, com, dro, can, mis, sY, dom, dow, cnt, fs, fe, pos, val, cy, cm, cd, rfl, rfl, F⟩ := I
  exact ⟨rfl, I5⟩
theorem i_vc_putChar {k : Nat} {u : SX} {v : SY} (I : i_Rel k u v) (hk : k + 5 ≤ 2561) (v1 : Int32) : wpX_putChar (fun r u' => wpY_putChar (fun r' v' => r' = r ∧ i_Rel (k + 5) u' v') v v1) u v1 := by
  have I5 := i_up I
  obtain ⟨cap, clock, len, b, text, sX, st, occ, mp, cp, ru, sta, com, dro, can, mis, sY, dom, dow, cnt, fs, fe, pos, val, cy, cm, cd, rfl, rfl, F⟩ := I
  have hlen := F.1.2.2.2
  by_cases h1 : v1 < 32
  · exact br_t h1 (br_t h1 ⟨rfl, I5⟩)
  by_cases h2 : 126 < v1
  · exact br_f h1 (br_t h2 (br_f h1 (br_t h2 ⟨rfl, I5⟩)))
  obtain ⟨c, hc, rfl⟩ := nI_of (x := v1) (Int32.not_lt.mpr (Int32.le_trans (by decide) (Int32.not_lt.mp h1)))
  have c2 : c ≤ 126 := by
    by_cases e : c ≤ 126
    · exact e
    · exact absurd (nI_lt (a := 126) (by omega) hc) h2
  by_cases hl : len < 64
  · have hl' : nI len < 64 := nI_lt (b := 64) hl (by decide)
    have hin : vp_in (nI len) 64 := vp_in_nI hl (by decide)
    refine br_f h1 (br_f h2 (br_t hl' ⟨hin, nm_e (nm_r (nI_1 len) ?_)⟩))
    refine br_f h1 (br_f h2 (br_t hl' ⟨hin, nm_r (e' := upd text (nI len).toNatClampNeg (nI c)) (by rw [cr_chr (by omega)]) (nm_r (nI_1 len) ⟨rfl, ?_⟩)⟩))
    have F5 := cr_Fm (show k ≤ k + 5 by omega) F
    exact cr_mk (len := len + 1) ⟨⟨F5.1.1, F5.1.2.1, F5.1.2.2.1, by omega⟩, F5.2.1, cr_upd_T F5.2.2.1 c2, F5.2.2.2⟩
  · have hl' : ¬ nI len < 64 := nI_nlt (b := 64) (by omega) (by omega)
    exact br_f h1 (br_f h2 (br_f hl' (br_f h1 (br_f h2 (br_f hl' ⟨rfl, I5⟩)))))
theorem cm_fh33 {f v : Nat} (hf : f < 5) {f_len f_clock f_cap f_staged f_pos f_val f_cy f_cm f_cd : Int32} {a_text a_sets a_domStar a_dowStar a_occ a_mis a_con a_cnt a_fs a_fe : Nat → Int32} {x z : Int32} (ex : x = nI v) (hv : v < 2 ^ 31) (ez : z = nI (cf_top f)) {c : Bool} (hc : v ≤ cf_top f → a_sets (8 * 136 + cf_off f + v) = cb_b c) (h0 : ¬ (cf_lo f ≤ v ∧ v ≤ cf_top f) → c = false) {post : Int32 → Prop} (hp : post (cb_b c)) : wY_fieldHas_33 post (nI f) x z f_len f_clock f_cap f_staged f_pos f_val f_cy f_cm f_cd a_text a_sets a_domStar a_dowStar a_occ a_mis a_con a_cnt a_fs a_fe := by
  subst ex ez
  have ht := cf_top59 hf
  have hb := cf_topb hf
  have hlo := cf_lo1 hf
  refine cy_lo hf (pk_lt v (cf_lo f) (fun e => ?_) (fun e => pk_le v (cf_top f) (fun e2 => ?_) (fun e2 => ?_)))
  · rw [h0 (by omega)] at hp; exact hp
  · exact cy_has (s := 8) (by decide) hf (by omega) (hc e2) ⟨cb_nar (cb_b01 c), hp⟩
  · rw [h0 (by omega)] at hp; exact hp
theorem i_vc_fieldHas {k : Nat} {u : SX} {v : SY} (I : i_Rel k u v) (hk : k + 5 ≤ 2561) (v1 : Int32) (v2 : Int32) : wpX_fieldHas (fun r => wpY_fieldHas (fun r' => r' = r ∧ i_Rel (k + 5) u v) v v1 v2) u v1 v2 := by
  have I5 := i_up I
  obtain ⟨cap, clock, len, b, text, sX, st, occ, mp, cp, ru, sta, com, dro, can, mis, sY, dom, dow, cnt, fs, fe, pos, val, cy, cm, cd, rfl, rfl, F⟩ := I
  rcases F.2.1 with rfl | rfl
  · exact br_t rfl (br_t rfl ⟨rfl, I5⟩)
  have n1 : ¬ (1 : Int32) = 0 := by decide
  by_cases h0 : v1 < 0
  · exact br_f n1 (br_t h0 (br_f n1 (br_t h0 ⟨rfl, I5⟩)))
  obtain ⟨f, hf, rfl⟩ := nI_of h0
  by_cases hf5 : f < 5
  · have x5 : nI f < 5 := nI_lt (b := 5) hf5 (by decide)
    have x4 : nI f ≤ 4 := nI_le (b := 4) (by omega) (by decide)
    have S8 := F.2.2.2.1 8 (Or.inr ⟨rfl, rfl⟩)
    have hY : ∀ (c : Bool) (x : Int32) (post : Int32 → Prop), wY_fieldHas_33 post (nI f) x (nI (cf_top f)) (nI len) (nI clock) (nI cap) 1 pos val cy cm cd text sY dom dow occ mp cp cnt fs fe → wpY_fieldHas post (nI len, nI clock, nI cap, 1, pos, val, cy, cm, cd, text, sY, dom, dow, occ, mp, cp, cnt, fs, fe) (nI f) x := by
      intro c x post hp
      refine br_f n1 (br_f h0 (br_t x4 (pk_eq f 4 (fun e => ?_) (fun e => cy_hi hf5 ?_))))
      · subst e; exact hp
      · rw [cf_ht hf5 e]; exact hp
    by_cases g0 : v2 < 0
    · refine br_f n1 (br_f h0 (br_t x5 (br_t g0 (hY true _ _ (cy_lo hf5 (br_t ?_ ⟨rfl, I5⟩))))))
      have := cf_lo1 hf5
      exact Int32.lt_of_lt_of_le g0 (nI_pos' (by omega))
    obtain ⟨w, hw, rfl⟩ := nI_of g0
    have ht := cf_top59 hf5
    by_cases hw9 : w ≤ 59
    · refine br_f n1 (br_f h0 (br_t x5 (br_f g0 (br_t (nI_le (b := 59) hw9 (by decide)) (cx_has (s := 8) (by decide) hf5 (by omega) ⟨cb_nar (cb_b01 _), hY true _ _ ?_⟩)))))
      refine cm_fh33 hf5 rfl hw rfl (fun e => S8.1 f w hf5 e) (fun e => ?_) ⟨rfl, I5⟩
      cases hb : cb_bit (sX (8 * 5 + f)) w
      · rfl
      · exact absurd (S8.2.1 f w hf5 (by omega) hb) e
    · refine br_f n1 (br_f h0 (br_t x5 (br_f g0 (br_f (nI_ge (a := 59) (by omega) hw) (hY true _ _ ?_)))))
      exact cm_fh33 (c := false) hf5 rfl hw rfl (fun e => absurd e (by omega)) (fun _ => rfl) ⟨rfl, I5⟩
  · have x5 : ¬ nI f < 5 := nI_nlt (b := 5) (by omega) hf
    have x4 : ¬ nI f ≤ 4 := nI_ge (a := 4) (by omega) hf
    exact br_f n1 (br_f h0 (br_f x5 (br_f n1 (br_f h0 (br_f x4 ⟨rfl, I5⟩)))))
theorem i_vc_dayStarred {k : Nat} {u : SX} {v : SY} (I : i_Rel k u v) (hk : k + 5 ≤ 2561) (v1 : Int32) : wpX_dayStarred (fun r => wpY_dayStarred (fun r' => r' = r ∧ i_Rel (k + 5) u v) v v1) u v1 := by
  have I5 := i_up I
  obtain ⟨cap, clock, len, b, text, sX, st, occ, mp, cp, ru, sta, com, dro, can, mis, sY, dom, dow, cnt, fs, fe, pos, val, cy, cm, cd, rfl, rfl, F⟩ := I
  rcases F.2.1 with rfl | rfl
  · exact br_t rfl (br_t rfl ⟨rfl, I5⟩)
  have n1 : ¬ (1 : Int32) = 0 := by decide
  have S8 := F.2.2.2.1 8 (Or.inr ⟨rfl, rfl⟩)
  have d1 : dom 8 = st 42 := S8.2.2.1
  have d2 : dow 8 = st 44 := S8.2.2.2.1
  by_cases h2 : v1 = 2
  · subst h2
    have e : ((40 : Int32) + 2).toNatClampNeg = 42 := by decide
    refine br_f n1 (br_t rfl ⟨pk_in 42 45 (by decide), ?_⟩)
    rw [e]
    exact ⟨cb_nar S8.2.2.2.2.1, br_f n1 (br_t rfl ⟨cb_nar (by rw [d1]; exact S8.2.2.2.2.1), d1, I5⟩)⟩
  by_cases h4 : v1 = 4
  · subst h4
    have e : ((40 : Int32) + 4).toNatClampNeg = 44 := by decide
    refine br_f n1 (br_f h2 (br_t rfl ⟨pk_in 44 45 (by decide), ?_⟩))
    rw [e]
    exact ⟨cb_nar S8.2.2.2.2.2, br_f n1 (br_f h2 (br_t rfl ⟨cb_nar (by rw [d2]; exact S8.2.2.2.2.2), d2, I5⟩))⟩
  · exact br_f n1 (br_f h2 (br_f h4 (br_f n1 (br_f h2 (br_f h4 ⟨rfl, I5⟩)))))
theorem i_vc_nextFire {k : Nat} {u : SX} {v : SY} (I : i_Rel k u v) (hk : k + 5 ≤ 2561) (v1 : Int32) : wpX_nextFire (fun r => wpY_nextFire (fun r' v' => r' = r ∧ i_Rel (k + 5) u v') v v1) u v1 := by
  have I5 := i_up I
  obtain ⟨cap, clock, len, b, text, sX, st, occ, mp, cp, ru, sta, com, dro, can, mis, sY, dom, dow, cnt, fs, fe, pos, val, cy, cm, cd, rfl, rfl, F⟩ := I
  have F5 := cr_Fm (show k ≤ k + 5 by omega) F
  rcases F.2.1 with rfl | rfl
  · exact br_t rfl (br_t rfl ⟨rfl, I5⟩)
  have n1 : ¬ (1 : Int32) = 0 := by decide
  by_cases h0 : v1 < 0
  · exact br_f n1 (br_t h0 (br_f n1 (br_t h0 ⟨rfl, I5⟩)))
  obtain ⟨t, ht, rfl⟩ := nI_of h0
  by_cases hM : t ≤ 4206239
  · have hM' : nI t ≤ 4206239 := nI_le (b := 4206239) hM (by decide)
    obtain ⟨HX, HY⟩ := cr_XY (s := 8) (by decide) (F.2.2.2.1 8 (Or.inr ⟨rfl, rfl⟩))
    refine br_f n1 (br_f h0 (br_t hM' (cx_next (s := 8) (l := 4206239) HX (by decide) (by omega) (fun r hr => ?_))))
    refine br_f n1 (br_f h0 (br_t hM' (cy_next (s := 8) HY (by omega) (fun r' cy cm cd hr' => ⟨cs_fr_u (by decide) hr hr', cr_mk F5⟩))))
  · have hM' : ¬ nI t ≤ 4206239 := nI_ge (a := 4206239) (by omega) ht
    exact br_f n1 (br_f h0 (br_f hM' (br_f n1 (br_f h0 (br_f hM' ⟨rfl, I5⟩)))))
