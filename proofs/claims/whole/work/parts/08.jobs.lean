/-! jobs: their counters -/
theorem cr_Cu0 {cnt ru sta com dro can mis : Nat → Int32} (H : cr_C cnt ru sta com dro can mis) {j : Nat} {x : Int32} : cr_C (upd cnt (j * 6) x) (upd ru j x) sta com dro can mis := by
  intro i hi
  obtain ⟨h0, h1, h2, h3, h4, h5⟩ := H i hi
  by_cases e : i = j
  · subst e
    exact ⟨pk_us.trans pk_us.symm, (pk_un (by omega)).trans h1, (pk_un (by omega)).trans h2, (pk_un (by omega)).trans h3, (pk_un (by omega)).trans h4, (pk_un (by omega)).trans h5⟩
  · exact ⟨(pk_un (by omega)).trans (h0.trans (pk_un e).symm), (pk_un (by omega)).trans h1, (pk_un (by omega)).trans h2, (pk_un (by omega)).trans h3, (pk_un (by omega)).trans h4, (pk_un (by omega)).trans h5⟩
theorem cr_Cu1 {cnt ru sta com dro can mis : Nat → Int32} (H : cr_C cnt ru sta com dro can mis) {j : Nat} {x : Int32} : cr_C (upd cnt (j * 6 + 1) x) ru (upd sta j x) com dro can mis := by
  intro i hi
  obtain ⟨h0, h1, h2, h3, h4, h5⟩ := H i hi
  by_cases e : i = j
  · subst e
    exact ⟨(pk_un (by omega)).trans h0, pk_us.trans pk_us.symm, (pk_un (by omega)).trans h2, (pk_un (by omega)).trans h3, (pk_un (by omega)).trans h4, (pk_un (by omega)).trans h5⟩
  · exact ⟨(pk_un (by omega)).trans h0, (pk_un (by omega)).trans (h1.trans (pk_un e).symm), (pk_un (by omega)).trans h2, (pk_un (by omega)).trans h3, (pk_un (by omega)).trans h4, (pk_un (by omega)).trans h5⟩
theorem cr_Cu2 {cnt ru sta com dro can mis : Nat → Int32} (H : cr_C cnt ru sta com dro can mis) {j : Nat} {x : Int32} : cr_C (upd cnt (j * 6 + 2) x) ru sta (upd com j x) dro can mis := by
  intro i hi
  obtain ⟨h0, h1, h2, h3, h4, h5⟩ := H i hi
  by_cases e : i = j
  · subst e
    exact ⟨(pk_un (by omega)).trans h0, (pk_un (by omega)).trans h1, pk_us.trans pk_us.symm, (pk_un (by omega)).trans h3, (pk_un (by omega)).trans h4, (pk_un (by omega)).trans h5⟩
  · exact ⟨(pk_un (by omega)).trans h0, (pk_un (by omega)).trans h1, (pk_un (by omega)).trans (h2.trans (pk_un e).symm), (pk_un (by omega)).trans h3, (pk_un (by omega)).trans h4, (pk_un (by omega)).trans h5⟩
theorem cr_Cu3 {cnt ru sta com dro can mis : Nat → Int32} (H : cr_C cnt ru sta com dro can mis) {j : Nat} {x : Int32} : cr_C (upd cnt (j * 6 + 3) x) ru sta com (upd dro j x) can mis := by
  intro i hi
  obtain ⟨h0, h1, h2, h3, h4, h5⟩ := H i hi
  by_cases e : i = j
  · subst e
    exact ⟨(pk_un (by omega)).trans h0, (pk_un (by omega)).trans h1, (pk_un (by omega)).trans h2, pk_us.trans pk_us.symm, (pk_un (by omega)).trans h4, (pk_un (by omega)).trans h5⟩
  · exact ⟨(pk_un (by omega)).trans h0, (pk_un (by omega)).trans h1, (pk_un (by omega)).trans h2, (pk_un (by omega)).trans (h3.trans (pk_un e).symm), (pk_un (by omega)).trans h4, (pk_un (by omega)).trans h5⟩
theorem cr_Cu4 {cnt ru sta com dro can mis : Nat → Int32} (H : cr_C cnt ru sta com dro can mis) {j : Nat} {x : Int32} : cr_C (upd cnt (j * 6 + 4) x) ru sta com dro (upd can j x) mis := by
  intro i hi
  obtain ⟨h0, h1, h2, h3, h4, h5⟩ := H i hi
  by_cases e : i = j
  · subst e
    exact ⟨(pk_un (by omega)).trans h0, (pk_un (by omega)).trans h1, (pk_un (by omega)).trans h2, (pk_un (by omega)).trans h3, pk_us.trans pk_us.symm, (pk_un (by omega)).trans h5⟩
  · exact ⟨(pk_un (by omega)).trans h0, (pk_un (by omega)).trans h1, (pk_un (by omega)).trans h2, (pk_un (by omega)).trans h3, (pk_un (by omega)).trans (h4.trans (pk_un e).symm), (pk_un (by omega)).trans h5⟩
theorem cr_Cu5 {cnt ru sta com dro can mis : Nat → Int32} (H : cr_C cnt ru sta com dro can mis) {j : Nat} {x : Int32} : cr_C (upd cnt (j * 6 + 5) x) ru sta com dro can (upd mis j x) := by
  intro i hi
  obtain ⟨h0, h1, h2, h3, h4, h5⟩ := H i hi
  by_cases e : i = j
  · subst e
    exact ⟨(pk_un (by omega)).trans h0, (pk_un (by omega)).trans h1, (pk_un (by omega)).trans h2, (pk_un (by omega)).trans h3, (pk_un (by omega)).trans h4, pk_us.trans pk_us.symm⟩
  · exact ⟨(pk_un (by omega)).trans h0, (pk_un (by omega)).trans h1, (pk_un (by omega)).trans h2, (pk_un (by omega)).trans h3, (pk_un (by omega)).trans h4, (pk_un (by omega)).trans (h5.trans (pk_un e).symm)⟩
def cj_No (occ : Nat → Int32) (x : Int32) : Prop := x < 0 ∨ 8 ≤ x ∨ ∃ j, j < 8 ∧ x = nI j ∧ occ j = 0
theorem cj_or (occ : Nat → Int32) (x : Int32) : cj_No occ x ∨ ∃ j, j < 8 ∧ x = nI j ∧ ¬ occ j = 0 := by
  by_cases h : x < 0
  · exact Or.inl (Or.inl h)
  · obtain ⟨j, hj, rfl⟩ := nI_of h
    by_cases h8 : j < 8
    · by_cases ho : occ j = 0
      · exact Or.inl (Or.inr (Or.inr ⟨j, h8, rfl, ho⟩))
      · exact Or.inr ⟨j, h8, rfl, ho⟩
    · exact Or.inl (Or.inr (Or.inl (nI_le (a := 8) (by omega) hj)))
theorem cj_no {occ : Nat → Int32} {x : Int32} {A B : Prop} (h : cj_No occ x) (a : A) : (x < 0 → A) ∧ (¬ x < 0 → ((8 ≤ x → A) ∧ (¬ 8 ≤ x → (vp_in x 8 ∧ ((occ x.toNatClampNeg = 0 → A) ∧ (¬ occ x.toNatClampNeg = 0 → B)))))) := by
  rcases h with h | h | ⟨j, hj, rfl, ho⟩
  · exact br_t h a
  · exact br_c (fun _ => a) (fun _ => br_t h a)
  · refine br_f (nI_pos (by omega)) (br_f (nI_ge (b := 8) hj (by decide)) ⟨vp_in_nI hj (by decide), ?_⟩)
    rw [nI_clamp (by omega)]
    exact br_t ho a
theorem cj_yes {occ : Nat → Int32} {j : Nat} {A B : Prop} (hj : j < 8) (ho : ¬ occ j = 0) (b : B) : (nI j < 0 → A) ∧ (¬ nI j < 0 → ((8 ≤ nI j → A) ∧ (¬ 8 ≤ nI j → (vp_in (nI j) 8 ∧ ((occ (nI j).toNatClampNeg = 0 → A) ∧ (¬ occ (nI j).toNatClampNeg = 0 → B)))))) := by
  refine br_f (nI_pos (by omega)) (br_f (nI_ge (b := 8) hj (by decide)) ⟨vp_in_nI hj (by decide), ?_⟩)
  rw [nI_clamp (by omega)]
  exact br_f ho b
theorem i_vc_jobStat {k : Nat} {u : SX} {v : SY} (I : i_Rel k u v) (hk : k + 5 ≤ 2561) (v1 : Int32) (v2 : Int32) : wpX_jobStat (fun r => wpY_jobStat (fun r' v' => r' = r ∧ i_Rel (k + 5) u v') v v1 v2) u v1 v2 := by
  have I5 := i_up I
  obtain ⟨cap, clock, len, b, text, sX, st, occ, mp, cp, ru, sta, com, dro, can, mis, sY, dom, dow, cnt, fs, fe, pos, val, cy, cm, cd, rfl, rfl, F⟩ := I
  have F5 := cr_Fm (show k ≤ k + 5 by omega) F
  have hcl := F.1.2.2.1
  rcases cj_or occ v1 with hno | ⟨j, hj, rfl, ho⟩
  · exact cj_no hno (br_t rfl (cj_no hno ⟨rfl, I5⟩))
  have hin : vp_in (nI j) 8 := vp_in_nI hj (by decide)
  have C := F.2.2.2.2.2.2.2 j hj
  by_cases g0 : v2 < 0
  · exact cj_yes hj ho (br_f (by decide) (br_t g0 (cj_yes hj ho (br_t g0 ⟨rfl, I5⟩))))
  obtain ⟨w, hw, rfl⟩ := nI_of g0
  by_cases g8 : 8 < w
  · exact cj_yes hj ho (br_f (by decide) (br_f g0 (br_t (nI_lt (a := 8) g8 hw) (cj_yes hj ho (br_f g0 (br_f (nI_ge (a := 8) g8 hw) ⟨rfl, I5⟩))))))
  clear g0
  have hww : w = 0 ∨ w = 1 ∨ w = 2 ∨ w = 3 ∨ w = 4 ∨ w = 5 ∨ w = 6 ∨ w = 7 ∨ w = 8 := by omega
  rcases hww with rfl | rfl | rfl | rfl | rfl | rfl | rfl | rfl | rfl
  · have hX : ¬ nI 0 < 0 := by decide
    refine cj_yes hj ho (br_f (by decide) (br_f hX (br_f (by decide : ¬ (8 : Int32) < nI 0) (br_t rfl ⟨hin, ?_⟩))))
    refine cj_yes hj ho (br_f hX (br_t (by decide : nI 0 ≤ 8) (br_f (by decide : ¬ (5 : Int32) < nI 0) ?_)))
    rw [ce_m6, nI_clamp (by omega), nI_clamp (by omega)]
    exact ⟨vp_in_nI (by omega) (by decide), C.1, I5⟩
  · have hX : ¬ nI 1 < 0 := by decide
    refine cj_yes hj ho (br_f (by decide) (br_f hX (br_f (by decide : ¬ (8 : Int32) < nI 1) (br_f (by decide : ¬ nI 1 = 0) (br_t rfl ⟨hin, ?_⟩)))))
    refine cj_yes hj ho (br_f hX (br_t (by decide : nI 1 ≤ 8) (br_f (by decide : ¬ (5 : Int32) < nI 1) ?_)))
    rw [ce_m6, nI_clamp (by omega), nI_clamp (by omega)]
    exact ⟨vp_in_nI (by omega) (by decide), C.2.1, I5⟩
  · have hX : ¬ nI 2 < 0 := by decide
    refine cj_yes hj ho (br_f (by decide) (br_f hX (br_f (by decide : ¬ (8 : Int32) < nI 2) (br_f (by decide : ¬ nI 2 = 0) (br_f (by decide : ¬ nI 2 = 1) (br_t rfl ⟨hin, ?_⟩))))))
    refine cj_yes hj ho (br_f hX (br_t (by decide : nI 2 ≤ 8) (br_f (by decide : ¬ (5 : Int32) < nI 2) ?_)))
    rw [ce_m6, nI_clamp (by omega), nI_clamp (by omega)]
    exact ⟨vp_in_nI (by omega) (by decide), C.2.2.1, I5⟩
  · have hX : ¬ nI 3 < 0 := by decide
    refine cj_yes hj ho (br_f (by decide) (br_f hX (br_f (by decide : ¬ (8 : Int32) < nI 3) (br_f (by decide : ¬ nI 3 = 0) (br_f (by decide : ¬ nI 3 = 1) (br_f (by decide : ¬ nI 3 = 2) (br_t rfl ⟨hin, ?_⟩)))))))
    refine cj_yes hj ho (br_f hX (br_t (by decide : nI 3 ≤ 8) (br_f (by decide : ¬ (5 : Int32) < nI 3) ?_)))
    rw [ce_m6, nI_clamp (by omega), nI_clamp (by omega)]
    exact ⟨vp_in_nI (by omega) (by decide), C.2.2.2.1, I5⟩
  · have hX : ¬ nI 4 < 0 := by decide
    refine cj_yes hj ho (br_f (by decide) (br_f hX (br_f (by decide : ¬ (8 : Int32) < nI 4) (br_f (by decide : ¬ nI 4 = 0) (br_f (by decide : ¬ nI 4 = 1) (br_f (by decide : ¬ nI 4 = 2) (br_f (by decide : ¬ nI 4 = 3) (br_t rfl ⟨hin, ?_⟩))))))))
    refine cj_yes hj ho (br_f hX (br_t (by decide : nI 4 ≤ 8) (br_f (by decide : ¬ (5 : Int32) < nI 4) ?_)))
    rw [ce_m6, nI_clamp (by omega), nI_clamp (by omega)]
    exact ⟨vp_in_nI (by omega) (by decide), C.2.2.2.2.1, I5⟩
  · have hX : ¬ nI 5 < 0 := by decide
    refine cj_yes hj ho (br_f (by decide) (br_f hX (br_f (by decide : ¬ (8 : Int32) < nI 5) (br_f (by decide : ¬ nI 5 = 0) (br_f (by decide : ¬ nI 5 = 1) (br_f (by decide : ¬ nI 5 = 2) (br_f (by decide : ¬ nI 5 = 3) (br_f (by decide : ¬ nI 5 = 4) (br_t rfl ⟨hin, ?_⟩)))))))))
    refine cj_yes hj ho (br_f hX (br_t (by decide : nI 5 ≤ 8) (br_f (by decide : ¬ (5 : Int32) < nI 5) ?_)))
    rw [ce_m6, nI_clamp (by omega), nI_clamp (by omega)]
    exact ⟨vp_in_nI (by omega) (by decide), C.2.2.2.2.2, I5⟩
  · have hX : ¬ nI 6 < 0 := by decide
    obtain ⟨HX, HY⟩ := cr_XY (s := j) (by omega) (F.2.2.2.1 j (Or.inl hj))
    refine cj_yes hj ho (br_f (by decide) (br_f hX (br_f (by decide : ¬ (8 : Int32) < nI 6) (br_f (by decide : ¬ nI 6 = 0) (br_f (by decide : ¬ nI 6 = 1) (br_f (by decide : ¬ nI 6 = 2) (br_f (by decide : ¬ nI 6 = 3) (br_f (by decide : ¬ nI 6 = 4) (br_f (by decide : ¬ nI 6 = 5) (br_t rfl (cx_next (l := 4206239) HX (by decide) (by omega) (fun r hr => ?_))))))))))))
    exact cj_yes hj ho (br_f hX (br_t (by decide : nI 6 ≤ 8) (br_t (by decide : (5 : Int32) < nI 6) (br_t rfl (cy_next HY (by omega) (fun r' cy cm cd hr' => ⟨cs_fr_u (by decide) hr hr', cr_mk F5⟩))))))
  · have hX : ¬ nI 7 < 0 := by decide
    refine cj_yes hj ho (br_f (by decide) (br_f hX (br_f (by decide : ¬ (8 : Int32) < nI 7) (br_f (by decide : ¬ nI 7 = 0) (br_f (by decide : ¬ nI 7 = 1) (br_f (by decide : ¬ nI 7 = 2) (br_f (by decide : ¬ nI 7 = 3) (br_f (by decide : ¬ nI 7 = 4) (br_f (by decide : ¬ nI 7 = 5) (br_f (by decide : ¬ nI 7 = 6) (br_t rfl ⟨hin, ?_⟩)))))))))))
    exact cj_yes hj ho (br_f hX (br_t (by decide : nI 7 ≤ 8) (br_t (by decide : (5 : Int32) < nI 7) (br_f (by decide : ¬ nI 7 = 6) (br_t rfl ⟨hin, rfl, I5⟩)))))
  · have hX : ¬ nI 8 < 0 := by decide
    refine cj_yes hj ho (br_f (by decide) (br_f hX (br_f (by decide : ¬ (8 : Int32) < nI 8) (br_f (by decide : ¬ nI 8 = 0) (br_f (by decide : ¬ nI 8 = 1) (br_f (by decide : ¬ nI 8 = 2) (br_f (by decide : ¬ nI 8 = 3) (br_f (by decide : ¬ nI 8 = 4) (br_f (by decide : ¬ nI 8 = 5) (br_f (by decide : ¬ nI 8 = 6) (br_f (by decide : ¬ nI 8 = 7) (br_t rfl ⟨hin, ?_⟩))))))))))))
    exact cj_yes hj ho (br_f hX (br_t (by decide : nI 8 ≤ 8) (br_t (by decide : (5 : Int32) < nI 8) (br_f (by decide : ¬ nI 8 = 6) (br_f (by decide : ¬ nI 8 = 7) ⟨hin, rfl, I5⟩)))))
theorem i_vc_removeJob {k : Nat} {u : SX} {v : SY} (I : i_Rel k u v) (hk : k + 5 ≤ 2561) (v1 : Int32) : wpX_removeJob (fun r u' => wpY_removeJob (fun r' v' => r' = r ∧ i_Rel (k + 5) u' v') v v1) u v1 := by
  have I5 := i_up I
  obtain ⟨cap, clock, len, b, text, sX, st, occ, mp, cp, ru, sta, com, dro, can, mis, sY, dom, dow, cnt, fs, fe, pos, val, cy, cm, cd, rfl, rfl, F⟩ := I
  have F5 := cr_Fm (show k ≤ k + 5 by omega) F
  rcases cj_or occ v1 with hno | ⟨j, hj, rfl, ho⟩
  · exact cj_no hno (br_t rfl (cj_no hno ⟨rfl, I5⟩))
  have hin : vp_in (nI j) 8 := vp_in_nI hj (by decide)
  exact cj_yes hj ho (br_f (by decide) ⟨hin, nm_e (cj_yes hj ho ⟨hin, nm_e ⟨rfl, cr_mk F5⟩⟩)⟩)
theorem i_vc_complete {k : Nat} {u : SX} {v : SY} (I : i_Rel k u v) (hk : k + 5 ≤ 2561) (v1 : Int32) : wpX_complete (fun r u' => wpY_complete (fun r' v' => r' = r ∧ i_Rel (k + 5) u' v') v v1) u v1 := by
  have I5 := i_up I
  obtain ⟨cap, clock, len, b, text, sX, st, occ, mp, cp, ru, sta, com, dro, can, mis, sY, dom, dow, cnt, fs, fe, pos, val, cy, cm, cd, rfl, rfl, F⟩ := I
  have F5 := cr_Fm (show k ≤ k + 5 by omega) F
  rcases cj_or occ v1 with hno | ⟨j, hj, rfl, ho⟩
  · exact cj_no hno (br_t rfl (cj_no hno ⟨rfl, I5⟩))
  have hin : vp_in (nI j) 8 := vp_in_nI hj (by decide)
  obtain ⟨C0, C1, C2, C3, C4, C5⟩ := F.2.2.2.2.2.2.2 j hj
  have e0 : nI j * 6 + 0 = nI (j * 6) := ce_m6 j 0
  have e2 : nI j * 6 + 2 = nI (j * 6 + 2) := ce_m6 j 2
  have i0 : vp_in (nI (j * 6)) 48 := vp_in_nI (by omega) (by decide)
  have i2 : vp_in (nI (j * 6 + 2)) 48 := vp_in_nI (by omega) (by decide)
  by_cases hr : ru j = 0
  · refine cj_yes hj ho (br_f (by decide) ⟨hin, br_t (by rw [nI_clamp (by omega)]; exact hr) (cj_yes hj ho ?_)⟩)
    rw [e0, nI_clamp (by omega), C0]
    exact ⟨i0, br_t hr ⟨rfl, I5⟩⟩
  · refine cj_yes hj ho (br_f (by decide) ⟨hin, br_f (by rw [nI_clamp (by omega)]; exact hr) ⟨hin, hin, nm_e ⟨hin, hin, nm_e (cj_yes hj ho ?_)⟩⟩⟩)
    rw [e0, e2, nI_clamp (show j * 6 < 2 ^ 31 by omega), nI_clamp (show j * 6 + 2 < 2 ^ 31 by omega), nI_clamp (show j < 2 ^ 31 by omega), C0]
    refine ⟨i0, br_f hr ⟨i0, i0, nm_e ⟨i2, i2, nm_r (e' := upd (upd cnt (j * 6) (ru j - 1)) (j * 6 + 2) (com j + 1)) (by rw [pk_un (by omega), C2]) ⟨rfl, ?_⟩⟩⟩⟩
    refine cr_mk ⟨F5.1, F5.2.1, F5.2.2.1, F5.2.2.2.1, F5.2.2.2.2.1, F5.2.2.2.2.2.1, fun i hi => ?_, cr_Cu2 (cr_Cu0 F5.2.2.2.2.2.2.2)⟩
    obtain ⟨r, r1, r2⟩ := F5.2.2.2.2.2.2.1 i hi
    by_cases e : i = j
    · subst e
      have r0 : r ≠ 0 := fun z => hr (by rw [r2, z]; rfl)
      obtain ⟨q, rfl⟩ : ∃ q, r = q + 1 := ⟨r - 1, by omega⟩
      exact ⟨q, by omega, by rw [pk_us, r2, nI_pred]⟩
    · exact ⟨r, r1, (pk_un e).trans r2⟩
