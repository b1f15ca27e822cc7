/-! Y's search and its count -/
def cs_Y (s : Nat) (sets dom dow : Nat → Int32) (h : Nat → Nat → Bool) (a b : Bool) : Prop :=
  s < 9 ∧ (∀ f v, f < 5 → cf_lo f ≤ v → v ≤ cf_top f → sets (s * 136 + cf_off f + v) = cb_b (h f v)) ∧ dom s = cb_b a ∧ dow s = cb_b b
def cs_Q (h : Nat → Nat → Bool) (a b : Bool) (c l m : Nat) : Bool := decide (c < m) && decide (m ≤ l) && cs_M h a b m
def cs_n (Q : Nat → Bool) : Nat → Nat
  | 0 => 0
  | n + 1 => cs_n Q n + (if Q n then 1 else 0)
theorem cs_n_t {Q : Nat → Bool} {n : Nat} (h : Q n = true) : cs_n Q (n + 1) = cs_n Q n + 1 := by
  show cs_n Q n + (if Q n then 1 else 0) = _
  rw [h]; rfl
theorem cs_n_f {Q : Nat → Bool} {n : Nat} (h : Q n = false) : cs_n Q (n + 1) = cs_n Q n := by
  show cs_n Q n + (if Q n then 1 else 0) = _
  rw [h]; rfl
theorem cs_n_eq {Q : Nat → Bool} {a : Nat} : ∀ k, (∀ q, a ≤ q → q < a + k → Q q = false) → cs_n Q (a + k) = cs_n Q a := by
  intro k
  induction k with
  | zero => intro _; rfl
  | succ k ih =>
    intro hq
    rw [← Nat.add_assoc, cs_n_f (hq (a + k) (by omega) (by omega))]
    exact ih (fun q h1 h2 => hq q h1 (by omega))
theorem cs_n_eq' {Q : Nat → Bool} {a b : Nat} (hab : a ≤ b) (hq : ∀ q, a ≤ q → q < b → Q q = false) : cs_n Q b = cs_n Q a := by
  obtain ⟨k, rfl⟩ : ∃ k, b = a + k := ⟨b - a, by omega⟩
  exact cs_n_eq k hq
theorem cs_n_le {Q : Nat → Bool} {a b : Nat} (hab : a ≤ b) : cs_n Q a ≤ cs_n Q b := by
  obtain ⟨k, rfl⟩ : ∃ k, b = a + k := ⟨b - a, by omega⟩
  clear hab
  induction k with
  | zero => exact Nat.le_refl _
  | succ k ih =>
    have e : cs_n Q (a + (k + 1)) = cs_n Q (a + k) + (if Q (a + k) then 1 else 0) := rfl
    omega
theorem cs_n_self (Q : Nat → Bool) (n : Nat) : cs_n Q n ≤ n := by
  induction n with
  | zero => exact Nat.le_refl _
  | succ n ih =>
    have e : cs_n Q (n + 1) = cs_n Q n + (if Q n then 1 else 0) := rfl
    have : (if Q n then 1 else 0) ≤ 1 := by split <;> omega
    omega
theorem cs_QP {h : Nat → Nat → Bool} {a b : Bool} {c l m : Nat} : cs_Q h a b c l m = true ↔ cs_P h a b c l m := by
  unfold cs_Q cs_P
  rw [Bool.and_eq_true, Bool.and_eq_true, decide_eq_true_iff, decide_eq_true_iff, and_assoc]
theorem cs_Qf {h : Nat → Nat → Bool} {a b : Bool} {c l m : Nat} (hn : ¬ cs_P h a b c l m) : cs_Q h a b c l m = false := by
  cases e : cs_Q h a b c l m
  · rfl
  · exact absurd (cs_QP.mp e) hn
section
variable {s : Nat} {h : Nat → Nat → Bool} {a b : Bool} {t l c : Nat} {f_len f_clock f_cap f_staged f_pos f_val f_cy f_cm f_cd : Int32} {a_text a_sets a_domStar a_dowStar a_occ a_mis a_con a_cnt a_fs a_fe : Nat → Int32}
theorem cy_hv (H : cs_Y s a_sets a_domStar a_dowStar h a b) (f v : Nat) (hf : f < 5) (h1 : cf_lo f ≤ v) (h2 : v ≤ cf_top f) {x y : Int32} {post : Int32 → Prop} (hp : post (cb_b (h f v))) (ey : y = nI f := by rfl) (ex : x = nI v := by rfl) : wpY_has post (f_len, f_clock, f_cap, f_staged, f_pos, f_val, f_cy, f_cm, f_cd, a_text, a_sets, a_domStar, a_dowStar, a_occ, a_mis, a_con, a_cnt, a_fs, a_fe) (nI s) y x := by
  subst ey ex
  have := cf_topb hf
  exact cy_has H.1 hf (by omega) (H.2.1 f v hf h1 h2) hp
theorem cy_dm (H : cs_Y s a_sets a_domStar a_dowStar h a b) {d : Nat} (hd : d < 2921) {x : Int32} (ex : x = nI d) {post : Int32 → SY → Prop} (hp : ∀ cy cm cd, post (cb_b (cs_D h a b d)) (f_len, f_clock, f_cap, f_staged, f_pos, f_val, cy, cm, cd, a_text, a_sets, a_domStar, a_dowStar, a_occ, a_mis, a_con, a_cnt, a_fs, a_fe)) : wpY_dayMatch post (f_len, f_clock, f_cap, f_staged, f_pos, f_val, f_cy, f_cm, f_cd, a_text, a_sets, a_domStar, a_dowStar, a_occ, a_mis, a_con, a_cnt, a_fs, a_fe) (nI s) x := by
  subst ex
  have hs := H.1
  obtain ⟨b1, b2, b3, b4⟩ := cg_dtb hd
  unfold wpY_dayMatch
  dsimp only
  refine cy_date (by omega) ?_
  dsimp only
  have hp := hp (nI (cg_dt d).1) (nI (cg_dt d).2.1) (nI (cg_dt d).2.2)
  unfold cs_D at hp
  refine cy_hv H 3 (cg_dt d).2.1 (by decide) b1 b2 (cb_br (fun e3 => ?_) (fun e3 => ?_))
  · rw [e3, Bool.false_and] at hp; exact hp
  · rw [e3, Bool.true_and] at hp
    refine cy_hv H 2 (cg_dt d).2.2 (by decide) b3 b4 ⟨by decide, ?_⟩
    refine cy_hv H 4 (d % 7) (by decide) (Nat.zero_le _) (by show d % 7 ≤ 6; omega) ?_ rfl (ce_r7 (by omega))
    rw [nI_clamp (show s < 2 ^ 31 by omega), H.2.2.1, H.2.2.2]
    have hj : (a || b) = true → wY_dayMatch_61 post (cb_b (h 2 (cg_dt d).2.2)) (cb_b (h 4 (d % 7))) f_len f_clock f_cap f_staged f_pos f_val (nI (cg_dt d).1) (nI (cg_dt d).2.1) (nI (cg_dt d).2.2) a_text a_sets a_domStar a_dowStar a_occ a_mis a_con a_cnt a_fs a_fe := by
      intro hab
      unfold cs_w at hp
      rw [if_pos hab] at hp
      refine cb_br (fun e1 => ?_) (fun e1 => cb_br (fun e2 => ?_) (fun e2 => ?_))
      · rw [e1, Bool.false_and] at hp; exact hp
      · rw [e1, e2] at hp; exact hp
      · rw [e1, e2] at hp; exact hp
    refine ⟨vp_in_nI (by omega) (by omega), cb_br (fun ea => ⟨vp_in_nI (by omega) (by omega), cb_br (fun eb => ?_) (fun eb => hj (by rw [eb, Bool.or_true]))⟩) (fun ea => hj (by rw [ea, Bool.true_or]))⟩
    unfold cs_w at hp
    rw [ea, eb, if_neg (by decide)] at hp
    refine cb_br (fun e1 => cb_br (fun e2 => ?_) (fun e2 => ?_)) (fun e1 => ?_)
    · rw [e1, e2] at hp; exact hp
    · rw [e1, e2] at hp; exact hp
    · rw [e1, Bool.true_or] at hp; exact hp
theorem cy_mm (H : cs_Y s a_sets a_domStar a_dowStar h a b) {m : Nat} (hm : m < 2 ^ 31) {x : Int32} (ex : x = nI m) {post : Int32 → Prop} (hp : post (cb_b (cs_m h m))) : wpY_minuteMatch post (f_len, f_clock, f_cap, f_staged, f_pos, f_val, f_cy, f_cm, f_cd, a_text, a_sets, a_domStar, a_dowStar, a_occ, a_mis, a_con, a_cnt, a_fs, a_fe) (nI s) x := by
  subst ex
  unfold cs_m at hp
  refine ⟨by decide, cy_hv H 0 (m % 60) (by decide) (Nat.zero_le _) (by show m % 60 ≤ 59; omega) (cb_br (fun e0 => ?_) (fun e0 => ⟨by decide, by decide, ?_⟩)) rfl (ce_r60 hm)⟩
  · rw [e0, Bool.false_and] at hp; exact hp
  · rw [e0, Bool.true_and] at hp
    refine cy_hv H 1 (m % 1440 / 60) (by decide) (Nat.zero_le _) (by show m % 1440 / 60 ≤ 23; omega) (cb_br (fun e1 => ?_) (fun e1 => ?_)) rfl (ce_h m hm)
    · rw [e1] at hp; exact hp
    · rw [e1] at hp; exact hp
theorem cy_next30 (H : cs_Y s a_sets a_domStar a_dowStar h a b) {d : Nat} (hd : d < 2921) (hD : cs_D h a b d = true) (ht : t < 4206240) : ∀ k mm : Nat, mm + k = 1440 → (∀ q, d * 1440 ≤ q → q < d * 1440 + mm → ¬ cs_P h a b t 4206239 q) → ∀ n, k < n → ∀ (post : Int32 → SY → Prop) (J : Int32 → Int32 → Int32 → Int32 → Int32 → Int32 → Int32 → Int32 → Int32 → Int32 → (Nat → Int32) → (Nat → Int32) → (Nat → Int32) → (Nat → Int32) → (Nat → Int32) → (Nat → Int32) → (Nat → Int32) → (Nat → Int32) → (Nat → Int32) → (Nat → Int32) → Prop), (∀ m, d * 1440 ≤ m → m < d * 1440 + 1440 → cs_P h a b t 4206239 m → (∀ q, d * 1440 ≤ q → q < m → ¬ cs_P h a b t 4206239 q) → post (nI m) (f_len, f_clock, f_cap, f_staged, f_pos, f_val, f_cy, f_cm, f_cd, a_text, a_sets, a_domStar, a_dowStar, a_occ, a_mis, a_con, a_cnt, a_fs, a_fe)) → ((∀ q, d * 1440 ≤ q → q < d * 1440 + 1440 → ¬ cs_P h a b t 4206239 q) → J (nI (d + 1)) f_len f_clock f_cap f_staged f_pos f_val f_cy f_cm f_cd a_text a_sets a_domStar a_dowStar a_occ a_mis a_con a_cnt a_fs a_fe) → wY_next_30 post J (nI s) (nI t) (nI d) f_len f_clock f_cap f_staged f_pos f_val f_cy f_cm f_cd a_text a_sets a_domStar a_dowStar a_occ a_mis a_con a_cnt a_fs a_fe n (nI mm) := by
  intro k
  induction k with
  | zero =>
    intro mm hm hq n hn post J hp hJ
    obtain ⟨n, rfl⟩ : ∃ n', n = n' + 1 := ⟨n - 1, by omega⟩
    exact pk_le 1440 mm (fun _ => nm_r (nI_1 d) (hJ (fun q h1 h2 => hq q h1 (by omega)))) (fun z => absurd z (by omega))
  | succ k ih =>
    intro mm hm hq n hn post J hp hJ
    obtain ⟨n, rfl⟩ : ∃ n', n = n' + 1 := ⟨n - 1, by omega⟩
    have ee : nI d * 1440 + nI mm = nI (d * 1440 + mm) := by rw [ce_m1440, nI_add]
    have hnext : ¬ cs_P h a b t 4206239 (d * 1440 + mm) → ∀ q, d * 1440 ≤ q → q < d * 1440 + (mm + 1) → ¬ cs_P h a b t 4206239 q := by
      intro hf q h1 h2
      by_cases e : q = d * 1440 + mm
      · subst e; exact hf
      · exact hq q h1 (by omega)
    have hstep : ¬ cs_P h a b t 4206239 (d * 1440 + mm) → ∀ x, x = nI mm + 1 → wY_next_30 post J (nI s) (nI t) (nI d) f_len f_clock f_cap f_staged f_pos f_val f_cy f_cm f_cd a_text a_sets a_domStar a_dowStar a_occ a_mis a_con a_cnt a_fs a_fe n x := fun hf => nm_r (nI_1 mm) (ih (mm + 1) (by omega) (hnext hf) n (by omega) post J hp hJ)
    refine pk_le 1440 mm (fun z => absurd z (by omega)) (fun _ => nm_r ee (pk_le (d * 1440 + mm) t (fun z => hstep (fun hP => absurd hP.1 (by omega))) (fun z => cy_mm H (by omega) rfl (cb_br (fun e => hstep (cs_mf e)) (fun e => hp (d * 1440 + mm) (by omega) (by omega) ⟨z, by omega, ?_⟩ hq)))))
    have e1 : (d * 1440 + mm) / 1440 = d := by omega
    unfold cs_M
    rw [e1, hD, e]
    rfl
theorem cy_next8 (H : cs_Y s a_sets a_domStar a_dowStar h a b) (ht : t < 4206240) : ∀ k d : Nat, d + k = 2921 → (∀ q, q < d * 1440 → ¬ cs_P h a b t 4206239 q) → ∀ n, k < n → ∀ post : Int32 → SY → Prop, (∀ r cy cm cd, cs_fr (cs_P h a b t 4206239) 0 4206240 r → post r (f_len, f_clock, f_cap, f_staged, f_pos, f_val, cy, cm, cd, a_text, a_sets, a_domStar, a_dowStar, a_occ, a_mis, a_con, a_cnt, a_fs, a_fe)) → ∀ cy cm cd, wY_next_8 post (nI s) (nI t) n (nI d) f_len f_clock f_cap f_staged f_pos f_val cy cm cd a_text a_sets a_domStar a_dowStar a_occ a_mis a_con a_cnt a_fs a_fe := by
  intro k
  induction k with
  | zero =>
    intro d hk hq n hn post hp cy cm cd
    obtain ⟨n, rfl⟩ : ∃ n', n = n' + 1 := ⟨n - 1, by omega⟩
    exact pk_lt 2920 d (fun _ => hp _ cy cm cd (Or.inr ⟨rfl, fun q h1 h2 => hq q (by omega)⟩)) (fun z => absurd z (by omega))
  | succ k ih =>
    intro d hk hq n hn post hp cy cm cd
    obtain ⟨n, rfl⟩ : ∃ n', n = n' + 1 := ⟨n - 1, by omega⟩
    have hnext : (∀ q, d * 1440 ≤ q → q < d * 1440 + 1440 → ¬ cs_P h a b t 4206239 q) → ∀ q, q < (d + 1) * 1440 → ¬ cs_P h a b t 4206239 q := by
      intro hf q h1
      by_cases e : q < d * 1440
      · exact hq q e
      · exact hf q (by omega) (by omega)
    refine pk_lt 2920 d (fun z => absurd z (by omega)) (fun _ => cy_dm H (by omega) rfl (fun cy cm cd => ?_))
    refine cb_br (fun e => nm_r (nI_1 d) (ih (d + 1) (by omega) (hnext (cs_Df e)) n (by omega) post hp cy cm cd)) (fun e => ⟨1441, ?_⟩)
    refine cy_next30 H (by omega) e ht 1440 0 rfl (fun q h1 h2 => absurd h2 (by omega)) 1441 (by omega) post _ (fun m m1 m2 m3 m4 => ?_) (fun hf => ih (d + 1) (by omega) (hnext hf) n (by omega) post hp cy cm cd)
    exact hp _ cy cm cd (cs_fr_app (b := d * 1440) (by omega) (fun q _ h2 => hq q h2) (Or.inl ⟨m, rfl, m1, by omega, m3, m4⟩))
theorem cy_next (H : cs_Y s a_sets a_domStar a_dowStar h a b) (ht : t < 4206240) {post : Int32 → SY → Prop} (hp : ∀ r cy cm cd, cs_fr (cs_P h a b t 4206239) 0 4206240 r → post r (f_len, f_clock, f_cap, f_staged, f_pos, f_val, cy, cm, cd, a_text, a_sets, a_domStar, a_dowStar, a_occ, a_mis, a_con, a_cnt, a_fs, a_fe)) : wpY_next post (f_len, f_clock, f_cap, f_staged, f_pos, f_val, f_cy, f_cm, f_cd, a_text, a_sets, a_domStar, a_dowStar, a_occ, a_mis, a_con, a_cnt, a_fs, a_fe) (nI s) (nI t) := by
  have e1 : (nI t + 1) / 1440 = nI ((t + 1) / 1440) := by rw [nI_1, ce_d1440 (by omega)]
  refine ⟨by decide, nm_r e1 ⟨2922, ?_⟩⟩
  exact cy_next8 H ht (2921 - (t + 1) / 1440) ((t + 1) / 1440) (by omega) (fun q h1 h2 => absurd h2.1 (by omega)) 2922 (by omega) post hp _ _ _
theorem cy_cnt38 (H : cs_Y s a_sets a_domStar a_dowStar h a b) {d : Nat} (hd : d < 2921) (hD : cs_D h a b d = true) (hc : c < 4206240) (hl : l < 4206240) : ∀ k mm : Nat, mm + k = 1440 → ∀ n, k < n → ∀ (post : Int32 → SY → Prop) (J : Int32 → Int32 → Int32 → Int32 → Int32 → Int32 → Int32 → Int32 → Int32 → Int32 → Int32 → (Nat → Int32) → (Nat → Int32) → (Nat → Int32) → (Nat → Int32) → (Nat → Int32) → (Nat → Int32) → (Nat → Int32) → (Nat → Int32) → (Nat → Int32) → (Nat → Int32) → Prop), J (nI (cs_n (cs_Q h a b c l) (d * 1440 + 1440))) (nI (d + 1)) f_len f_clock f_cap f_staged f_pos f_val f_cy f_cm f_cd a_text a_sets a_domStar a_dowStar a_occ a_mis a_con a_cnt a_fs a_fe → wY_count_38 post J (nI s) (nI c) (nI l) (nI d) f_len f_clock f_cap f_staged f_pos f_val f_cy f_cm f_cd a_text a_sets a_domStar a_dowStar a_occ a_mis a_con a_cnt a_fs a_fe n (nI (cs_n (cs_Q h a b c l) (d * 1440 + mm))) (nI mm) := by
  intro k
  induction k with
  | zero =>
    intro mm hm n hn post J hJ
    obtain ⟨n, rfl⟩ : ∃ n', n = n' + 1 := ⟨n - 1, by omega⟩
    have em : mm = 1440 := by omega
    subst em
    exact pk_le 1440 1440 (fun _ => nm_r (nI_1 d) hJ) (fun z => absurd z (by omega))
  | succ k ih =>
    intro mm hm n hn post J hJ
    obtain ⟨n, rfl⟩ : ∃ n', n = n' + 1 := ⟨n - 1, by omega⟩
    have ee : nI d * 1440 + nI mm = nI (d * 1440 + mm) := by rw [ce_m1440, nI_add]
    have hI := ih (mm + 1) (by omega) n (by omega) post J hJ
    have hstep : ¬ cs_P h a b c l (d * 1440 + mm) → ∀ x, x = nI mm + 1 → wY_count_38 post J (nI s) (nI c) (nI l) (nI d) f_len f_clock f_cap f_staged f_pos f_val f_cy f_cm f_cd a_text a_sets a_domStar a_dowStar a_occ a_mis a_con a_cnt a_fs a_fe n (nI (cs_n (cs_Q h a b c l) (d * 1440 + mm))) x := by
      intro hf
      have e1 : cs_n (cs_Q h a b c l) (d * 1440 + (mm + 1)) = cs_n (cs_Q h a b c l) (d * 1440 + mm) := cs_n_f (cs_Qf hf)
      rw [e1] at hI
      exact nm_r (nI_1 mm) hI
    refine pk_le 1440 mm (fun z => absurd z (by omega)) (fun _ => nm_r ee (pk_le (d * 1440 + mm) c (fun z => hstep (fun hP => absurd hP.1 (by omega))) (fun z => pk_lt l (d * 1440 + mm) (fun z2 => hstep (fun hP => absurd hP.2.1 (by omega))) (fun z2 => cy_mm H (by omega) rfl (cb_br (fun e => hstep (cs_mf e)) (fun e => ?_))))))
    have hP : cs_P h a b c l (d * 1440 + mm) := by
      refine ⟨z, z2, ?_⟩
      have e1 : (d * 1440 + mm) / 1440 = d := by omega
      unfold cs_M
      rw [e1, hD, e]
      rfl
    have e1 : cs_n (cs_Q h a b c l) (d * 1440 + (mm + 1)) = cs_n (cs_Q h a b c l) (d * 1440 + mm) + 1 := cs_n_t (cs_QP.mpr hP)
    rw [e1] at hI
    exact nm_r (nI_1 _) (nm_r (nI_1 mm) hI)
theorem cy_cnt12 (H : cs_Y s a_sets a_domStar a_dowStar h a b) (hc : c < 4206240) (hl : l < 4206240) : ∀ k d : Nat, d + k = l / 1440 + 1 → ∀ n, k < n → ∀ post : Int32 → SY → Prop, (∀ cy cm cd, post (nI (cs_n (cs_Q h a b c l) 4206240)) (f_len, f_clock, f_cap, f_staged, f_pos, f_val, cy, cm, cd, a_text, a_sets, a_domStar, a_dowStar, a_occ, a_mis, a_con, a_cnt, a_fs, a_fe)) → ∀ cy cm cd, wY_count_12 post (nI s) (nI c) (nI l) n (nI (cs_n (cs_Q h a b c l) (d * 1440))) (nI d) f_len f_clock f_cap f_staged f_pos f_val cy cm cd a_text a_sets a_domStar a_dowStar a_occ a_mis a_con a_cnt a_fs a_fe := by
  intro k
  induction k with
  | zero =>
    intro d hk n hn post hp cy cm cd
    obtain ⟨n, rfl⟩ : ∃ n', n = n' + 1 := ⟨n - 1, by omega⟩
    have e : cs_n (cs_Q h a b c l) 4206240 = cs_n (cs_Q h a b c l) (d * 1440) := cs_n_eq' (by omega) (fun q h1 h2 => cs_Qf (fun hP => absurd hP.2.1 (by omega)))
    rw [e] at hp
    exact ⟨by decide, pk_lt (l / 1440) d (fun _ => hp cy cm cd) (fun z => absurd z (by omega)) (ce_d1440 (by omega))⟩
  | succ k ih =>
    intro d hk n hn post hp cy cm cd
    obtain ⟨n, rfl⟩ : ∃ n', n = n' + 1 := ⟨n - 1, by omega⟩
    refine ⟨by decide, pk_lt (l / 1440) d (fun z => absurd z (by omega)) (fun _ => cy_dm H (by omega) rfl (fun cy cm cd => ?_)) (ce_d1440 (by omega))⟩
    refine cb_br (fun e => nm_r (nI_1 d) ?_) (fun e => ⟨1441, ?_⟩)
    · have e1 : cs_n (cs_Q h a b c l) ((d + 1) * 1440) = cs_n (cs_Q h a b c l) (d * 1440) := cs_n_eq' (by omega) (fun q h1 h2 => cs_Qf (cs_Df e q h1 (by omega)))
      rw [← e1]
      exact ih (d + 1) (by omega) n (by omega) post hp cy cm cd
    · refine cy_cnt38 H (by omega) e hc hl 1440 0 rfl 1441 (by omega) post _ ?_
      have e1 : d * 1440 + 1440 = (d + 1) * 1440 := by omega
      rw [e1]
      exact ih (d + 1) (by omega) n (by omega) post hp cy cm cd
theorem cy_count (H : cs_Y s a_sets a_domStar a_dowStar h a b) (hcl : c < l) (hl : l < 4206240) {post : Int32 → SY → Prop} (hp : ∀ cy cm cd, post (nI (cs_n (cs_Q h a b c l) 4206240)) (f_len, f_clock, f_cap, f_staged, f_pos, f_val, cy, cm, cd, a_text, a_sets, a_domStar, a_dowStar, a_occ, a_mis, a_con, a_cnt, a_fs, a_fe)) : wpY_count post (f_len, f_clock, f_cap, f_staged, f_pos, f_val, f_cy, f_cm, f_cd, a_text, a_sets, a_domStar, a_dowStar, a_occ, a_mis, a_con, a_cnt, a_fs, a_fe) (nI s) (nI c) (nI l) := by
  have e1 : (nI c + 1) / 1440 = nI ((c + 1) / 1440) := by rw [nI_1, ce_d1440 (by omega)]
  refine ⟨by decide, nm_r e1 ⟨3000, ?_⟩⟩
  have e2 : cs_n (cs_Q h a b c l) ((c + 1) / 1440 * 1440) = cs_n (cs_Q h a b c l) 0 := cs_n_eq' (by omega) (fun q h1 h2 => cs_Qf (fun hP => absurd hP.1 (by omega)))
  have t := cy_cnt12 H (by omega) hl (l / 1440 + 1 - (c + 1) / 1440) ((c + 1) / 1440) (by omega) 3000 (by omega) post hp f_cy f_cm f_cd
  rw [e2] at t
  exact t
end
