/-! the calendar -/
def cg_lp (y : Nat) : Bool := decide (y % 4 = 0) && (!decide (y % 100 = 0) || decide (y % 400 = 0))
def cg_ml (y m : Nat) : Nat := if m = 2 then (if cg_lp y then 29 else 28) else if m = 4 then 30 else if m = 6 then 30 else if m = 9 then 30 else if m = 11 then 30 else 31
def cg_mi (i : Nat) : Nat := cg_ml (2096 + i / 12) (i % 12 + 1)
def cg_F : Nat → Nat
  | 0 => 0
  | i + 1 => cg_F i + cg_mi i
def cg_yl (y : Nat) : Nat := if cg_lp y then 366 else 365
def cg_yr : Nat → Nat → Nat → Nat × Nat
  | 0, d, y => (d, y)
  | n + 1, d, y => if d < cg_yl y then cg_yr n d y else cg_yr n (d - cg_yl y) (y + 1)
def cg_mo (y : Nat) : Nat → Nat → Nat → Nat × Nat
  | 0, d, m => (d, m)
  | n + 1, d, m => if d < cg_ml y m then cg_mo y n d m else cg_mo y n (d - cg_ml y m) (m + 1)
def cg_dt (d : Nat) : Nat × Nat × Nat := ((cg_yr 8 d 2096).2, (cg_mo (cg_yr 8 d 2096).2 11 (cg_yr 8 d 2096).1 1).2, (cg_mo (cg_yr 8 d 2096).2 11 (cg_yr 8 d 2096).1 1).1 + 1)
set_option maxRecDepth 100000 in
theorem cg_tab : (List.range 96).all (fun i => (List.range (cg_mi i)).all (fun j => Nat.beq (cg_dt (cg_F i + j)).1 (2096 + i / 12) && Nat.beq (cg_dt (cg_F i + j)).2.1 (i % 12 + 1) && Nat.beq (cg_dt (cg_F i + j)).2.2 (j + 1))) = true := by decide +kernel
theorem cg_dt_eq {i d : Nat} (hi : i < 96) (h1 : cg_F i ≤ d) (h2 : d < cg_F (i + 1)) : cg_dt d = (2096 + i / 12, i % 12 + 1, d - cg_F i + 1) := by
  have h3 : d - cg_F i < cg_mi i := by
    have : cg_F (i + 1) = cg_F i + cg_mi i := rfl
    omega
  have t := List.all_eq_true.mp (List.all_eq_true.mp cg_tab i (List.mem_range.mpr hi)) (d - cg_F i) (List.mem_range.mpr h3)
  rw [show cg_F i + (d - cg_F i) = d by omega, Bool.and_eq_true, Bool.and_eq_true] at t
  exact Prod.ext (Nat.eq_of_beq_eq_true t.1.1) (Prod.ext (Nat.eq_of_beq_eq_true t.1.2) (Nat.eq_of_beq_eq_true t.2))
theorem cg_F96 : cg_F 96 = 2921 := by decide +kernel
theorem cg_ml_b (y m : Nat) : 28 ≤ cg_ml y m ∧ cg_ml y m ≤ 31 := by
  unfold cg_ml
  repeat' split
  all_goals omega
theorem cg_mi_b (i : Nat) : 28 ≤ cg_mi i ∧ cg_mi i ≤ 31 := cg_ml_b _ _
theorem cg_yl_b (y : Nat) : 365 ≤ cg_yl y ∧ cg_yl y ≤ 366 := by
  unfold cg_yl
  split <;> omega
theorem cg_Fs (i : Nat) : cg_F (i + 1) = cg_F i + cg_mi i := rfl
theorem cg_Fb : ∀ i, cg_F i ≤ 31 * i := by
  intro i
  induction i with
  | zero => exact Nat.le_refl 0
  | succ i ih =>
    have := cg_mi_b i
    rw [cg_Fs]
    omega
theorem cg_ex : ∀ n d, d < cg_F n → ∃ i, i < n ∧ cg_F i ≤ d ∧ d < cg_F (i + 1) := by
  intro n
  induction n with
  | zero => intro d hd; exact absurd hd (Nat.not_lt_zero d)
  | succ n ih =>
    intro d hd
    by_cases h : d < cg_F n
    · obtain ⟨i, hi, h1, h2⟩ := ih d h
      exact ⟨i, by omega, h1, h2⟩
    · exact ⟨n, by omega, by omega, hd⟩
theorem cg_day {d : Nat} (hd : d < 2921) : ∃ i, i < 96 ∧ cg_F i ≤ d ∧ d < cg_F (i + 1) := cg_ex 96 d (by rw [cg_F96]; exact hd)
theorem cg_dtb {d : Nat} (hd : d < 2921) : 1 ≤ (cg_dt d).2.1 ∧ (cg_dt d).2.1 ≤ 12 ∧ 1 ≤ (cg_dt d).2.2 ∧ (cg_dt d).2.2 ≤ 31 := by
  obtain ⟨i, hi, h1, h2⟩ := cg_day hd
  have := cg_mi_b i
  rw [cg_dt_eq hi h1 h2]
  rw [cg_Fs] at h2
  show 1 ≤ i % 12 + 1 ∧ i % 12 + 1 ≤ 12 ∧ 1 ≤ d - cg_F i + 1 ∧ d - cg_F i + 1 ≤ 31
  omega
/-! X's walks -/
theorem cx_leap {y : Nat} (hy : y < 2 ^ 31) {post : Int32 → Prop} (h : post (cb_b (cg_lp y))) : wpX_isLeap post (nI y) := by
  refine ⟨by decide, pk_eq (y % 4) 0 (fun h4 => ⟨by decide, pk_eq (y % 100) 0 (fun h1 => ⟨by decide, pk_eq (y % 400) 0 (fun h2 => ?_) (fun h2 => ?_) (ce_r400 hy)⟩) (fun h1 => ?_) (ce_r100 hy)⟩) (fun h4 => ?_) (ce_r4 hy)⟩
  · have t : cg_lp y = true := by simp [cg_lp, h4, h1, h2]
    rw [t] at h; exact h
  · have t : cg_lp y = false := by simp [cg_lp, h4, h1, h2]
    rw [t] at h; exact h
  · have t : cg_lp y = true := by simp [cg_lp, h4, h1]
    rw [t] at h; exact h
  · have t : cg_lp y = false := by simp [cg_lp, h4]
    rw [t] at h; exact h
theorem cy_leap {y : Nat} (hy : y < 2 ^ 31) {f_len f_clock f_cap f_staged f_pos f_val f_cy f_cm f_cd : Int32} {a_text a_sets a_domStar a_dowStar a_occ a_mis a_con a_cnt a_fs a_fe : Nat → Int32} {post : Int32 → Prop} (h : post (cb_b (cg_lp y))) : wpY_leap post (f_len, f_clock, f_cap, f_staged, f_pos, f_val, f_cy, f_cm, f_cd, a_text, a_sets, a_domStar, a_dowStar, a_occ, a_mis, a_con, a_cnt, a_fs, a_fe) (nI y) := by
  refine ⟨by decide, pk_eq (y % 4) 0 (fun h4 => ⟨by decide, pk_eq (y % 100) 0 (fun h1 => ⟨by decide, pk_eq (y % 400) 0 (fun h2 => ?_) (fun h2 => ?_) (ce_r400 hy)⟩) (fun h1 => ?_) (ce_r100 hy)⟩) (fun h4 => ?_) (ce_r4 hy)⟩
  · have t : cg_lp y = true := by simp [cg_lp, h4, h1, h2]
    rw [t] at h; exact h
  · have t : cg_lp y = false := by simp [cg_lp, h4, h1, h2]
    rw [t] at h; exact h
  · have t : cg_lp y = true := by simp [cg_lp, h4, h1]
    rw [t] at h; exact h
  · have t : cg_lp y = false := by simp [cg_lp, h4]
    rw [t] at h; exact h
theorem cx_md {i : Nat} (hi : i < 1000) {post : Int32 → Prop} (h : post (nI (cg_mi i))) : wpX_monthDays post (nI i) := by
  have e1 : 2096 + nI i / 12 = nI (2096 + i / 12) := by rw [ce_d12 (by omega)]; exact nI_add 2096 (i / 12)
  have e2 : nI i - nI i / 12 * 12 + 1 = nI (i % 12 + 1) := by rw [ce_r12 (by omega), nI_1]
  refine ⟨by decide, nm_r e1 ⟨by decide, nm_r e2 ?_⟩⟩
  refine pk_eq (i % 12 + 1) 2 (fun h2 => cx_leap (by omega) (cb_br (fun hl => ?_) (fun hl => ?_))) (fun h2 => pk_eq (i % 12 + 1) 4 (fun h4 => ?_) (fun h4 => pk_eq (i % 12 + 1) 6 (fun h6 => ?_) (fun h6 => pk_eq (i % 12 + 1) 9 (fun h9 => ?_) (fun h9 => pk_eq (i % 12 + 1) 11 (fun h11 => ?_) (fun h11 => ?_)))))
  · have t : cg_mi i = 28 := by unfold cg_mi cg_ml; rw [if_pos h2, hl]; rfl
    rw [t] at h; exact h
  · have t : cg_mi i = 29 := by unfold cg_mi cg_ml; rw [if_pos h2, hl]; rfl
    rw [t] at h; exact h
  · have t : cg_mi i = 30 := by unfold cg_mi cg_ml; rw [if_neg h2, if_pos h4]
    rw [t] at h; exact h
  · have t : cg_mi i = 30 := by unfold cg_mi cg_ml; rw [if_neg h2, if_neg h4, if_pos h6]
    rw [t] at h; exact h
  · have t : cg_mi i = 30 := by unfold cg_mi cg_ml; rw [if_neg h2, if_neg h4, if_neg h6, if_pos h9]
    rw [t] at h; exact h
  · have t : cg_mi i = 30 := by unfold cg_mi cg_ml; rw [if_neg h2, if_neg h4, if_neg h6, if_neg h9, if_pos h11]
    rw [t] at h; exact h
  · have t : cg_mi i = 31 := by unfold cg_mi cg_ml; rw [if_neg h2, if_neg h4, if_neg h6, if_neg h9, if_neg h11]
    rw [t] at h; exact h
theorem cy_ml {y m : Nat} (hy : y < 10000) (hm : m < 100) {f_len f_clock f_cap f_staged f_pos f_val f_cy f_cm f_cd : Int32} {a_text a_sets a_domStar a_dowStar a_occ a_mis a_con a_cnt a_fs a_fe : Nat → Int32} {post : Int32 → Prop} (h : post (nI (cg_ml y m))) : wpY_mlen post (f_len, f_clock, f_cap, f_staged, f_pos, f_val, f_cy, f_cm, f_cd, a_text, a_sets, a_domStar, a_dowStar, a_occ, a_mis, a_con, a_cnt, a_fs, a_fe) (nI y) (nI m) := by
  refine pk_eq m 2 (fun h2 => cy_leap (by omega) (cb_br (fun hl => ?_) (fun hl => ?_))) (fun h2 => pk_eq m 4 (fun h4 => ?_) (fun h4 => pk_eq m 6 (fun h6 => ?_) (fun h6 => pk_eq m 9 (fun h9 => ?_) (fun h9 => pk_eq m 11 (fun h11 => ?_) (fun h11 => ?_)))))
  · have t : cg_ml y m = 28 := by unfold cg_ml; rw [if_pos h2, hl]; rfl
    rw [t] at h; exact h
  · have t : cg_ml y m = 29 := by unfold cg_ml; rw [if_pos h2, hl]; rfl
    rw [t] at h; exact h
  · have t : cg_ml y m = 30 := by unfold cg_ml; rw [if_neg h2, if_pos h4]
    rw [t] at h; exact h
  · have t : cg_ml y m = 30 := by unfold cg_ml; rw [if_neg h2, if_neg h4, if_pos h6]
    rw [t] at h; exact h
  · have t : cg_ml y m = 30 := by unfold cg_ml; rw [if_neg h2, if_neg h4, if_neg h6, if_pos h9]
    rw [t] at h; exact h
  · have t : cg_ml y m = 30 := by unfold cg_ml; rw [if_neg h2, if_neg h4, if_neg h6, if_neg h9, if_pos h11]
    rw [t] at h; exact h
  · have t : cg_ml y m = 31 := by unfold cg_ml; rw [if_neg h2, if_neg h4, if_neg h6, if_neg h9, if_neg h11]
    rw [t] at h; exact h
/-! Y's date -/
theorem cy_date56 {y : Nat} (hy : y < 10000) {f_len f_clock f_cap f_staged f_pos f_val f_cy f_cm f_cd : Int32} {a_text a_sets a_domStar a_dowStar a_occ a_mis a_con a_cnt a_fs a_fe : Nat → Int32} {post : SY → Prop} : ∀ k d m x n : Nat, x + k = 11 → m + k < 50 → d < 100000 → k < n → post (f_len, f_clock, f_cap, f_staged, f_pos, f_val, nI y, nI (cg_mo y k d m).2, nI ((cg_mo y k d m).1 + 1), a_text, a_sets, a_domStar, a_dowStar, a_occ, a_mis, a_con, a_cnt, a_fs, a_fe) → wY_date_56 post (nI y) f_len f_clock f_cap f_staged f_pos f_val f_cy f_cm f_cd a_text a_sets a_domStar a_dowStar a_occ a_mis a_con a_cnt a_fs a_fe n (nI d) (nI m) (nI x) := by
  intro k
  induction k with
  | zero =>
    intro d m x n hx hm hd hn hp
    obtain ⟨n, rfl⟩ : ∃ n', n = n' + 1 := ⟨n - 1, by omega⟩
    exact pk_le 11 x (fun _ => nm_r (nI_1 d) hp) (fun z => absurd z (by omega))
  | succ k ih =>
    intro d m x n hx hm hd hn hp
    obtain ⟨n, rfl⟩ : ∃ n', n = n' + 1 := ⟨n - 1, by omega⟩
    have hb := cg_ml_b y m
    refine pk_le 11 x (fun z => absurd z (by omega)) (fun _ => cy_ml hy (by omega) ?_)
    refine pk_lt d (cg_ml y m) (fun z => nm_r (nI_1 x) (ih d m (x + 1) n (by omega) (by omega) hd (by omega) ?_)) (fun z => nm_r (pk_sub z) (nm_r (nI_1 m) (nm_r (nI_1 x) (ih (d - cg_ml y m) (m + 1) (x + 1) n (by omega) (by omega) (by omega) (by omega) ?_))))
    · have t : cg_mo y (k + 1) d m = cg_mo y k d m := if_pos z
      rw [t] at hp; exact hp
    · have t : cg_mo y (k + 1) d m = cg_mo y k (d - cg_ml y m) (m + 1) := if_neg (by omega)
      rw [t] at hp; exact hp
theorem cy_date6 {f_len f_clock f_cap f_staged f_pos f_val f_cy f_cm f_cd : Int32} {a_text a_sets a_domStar a_dowStar a_occ a_mis a_con a_cnt a_fs a_fe : Nat → Int32} {post : SY → Prop} : ∀ k d y x n : Nat, x + k = 8 → y + k < 5000 → d < 100000 → k < n → post (f_len, f_clock, f_cap, f_staged, f_pos, f_val, nI (cg_yr k d y).2, nI (cg_mo (cg_yr k d y).2 11 (cg_yr k d y).1 1).2, nI ((cg_mo (cg_yr k d y).2 11 (cg_yr k d y).1 1).1 + 1), a_text, a_sets, a_domStar, a_dowStar, a_occ, a_mis, a_con, a_cnt, a_fs, a_fe) → wY_date_6 post f_len f_clock f_cap f_staged f_pos f_val f_cy f_cm f_cd a_text a_sets a_domStar a_dowStar a_occ a_mis a_con a_cnt a_fs a_fe n (nI d) (nI y) (nI x) := by
  intro k
  induction k with
  | zero =>
    intro d y x n hx hy hd hn hp
    obtain ⟨n, rfl⟩ : ∃ n', n = n' + 1 := ⟨n - 1, by omega⟩
    exact pk_le 8 x (fun _ => ⟨12, cy_date56 (by omega) 11 d 1 0 12 (by omega) (by omega) hd (by omega) hp⟩) (fun z => absurd z (by omega))
  | succ k ih =>
    intro d y x n hx hy hd hn hp
    obtain ⟨n, rfl⟩ : ∃ n', n = n' + 1 := ⟨n - 1, by omega⟩
    have hb := cg_yl_b y
    refine pk_le 8 x (fun z => absurd z (by omega)) (fun _ => cy_leap (by omega) ?_)
    have hh : ∀ l : Nat, cg_yl y = l → wY_date_29 post (wY_date_6 post f_len f_clock f_cap f_staged f_pos f_val f_cy f_cm f_cd a_text a_sets a_domStar a_dowStar a_occ a_mis a_con a_cnt a_fs a_fe n) (nI d) (nI y) (nI x) (nI l) f_len f_clock f_cap f_staged f_pos f_val f_cy f_cm f_cd a_text a_sets a_domStar a_dowStar a_occ a_mis a_con a_cnt a_fs a_fe := by
      intro l hl
      refine pk_lt d l (fun z => nm_r (nI_1 x) (ih d y (x + 1) n (by omega) (by omega) hd (by omega) ?_)) (fun z => nm_r (pk_sub z) (nm_r (nI_1 y) (nm_r (nI_1 x) (ih (d - l) (y + 1) (x + 1) n (by omega) (by omega) (by omega) (by omega) ?_))))
      · have t : cg_yr (k + 1) d y = cg_yr k d y := if_pos (by omega)
        rw [t] at hp; exact hp
      · have t : cg_yr (k + 1) d y = cg_yr k (d - cg_yl y) (y + 1) := if_neg (by omega)
        rw [t, hl] at hp; exact hp
    refine cb_br (fun e => ?_) (fun e => ?_)
    · exact hh 365 (by unfold cg_yl; rw [e]; rfl)
    · exact hh 366 (by unfold cg_yl; rw [e]; rfl)
theorem cy_date {d : Nat} (hd : d < 100000) {f_len f_clock f_cap f_staged f_pos f_val f_cy f_cm f_cd : Int32} {a_text a_sets a_domStar a_dowStar a_occ a_mis a_con a_cnt a_fs a_fe : Nat → Int32} {post : SY → Prop} (hp : post (f_len, f_clock, f_cap, f_staged, f_pos, f_val, nI (cg_dt d).1, nI (cg_dt d).2.1, nI (cg_dt d).2.2, a_text, a_sets, a_domStar, a_dowStar, a_occ, a_mis, a_con, a_cnt, a_fs, a_fe)) : wpY_date post (f_len, f_clock, f_cap, f_staged, f_pos, f_val, f_cy, f_cm, f_cd, a_text, a_sets, a_domStar, a_dowStar, a_occ, a_mis, a_con, a_cnt, a_fs, a_fe) (nI d) :=
  ⟨9, cy_date6 8 d 2096 0 9 (by omega) (by omega) hd (by omega) hp⟩
