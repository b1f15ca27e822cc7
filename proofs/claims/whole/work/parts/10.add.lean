/-! addJob -/
def ca_X (sX : Nat → Int64) (j f : Nat) : Nat → Int64 := fun i => if j * 5 ≤ i ∧ i < j * 5 + f then sX (40 + (i - j * 5)) else sX i
def ca_S (st : Nat → Int32) (j f : Nat) : Nat → Int32 := fun i => if j * 5 ≤ i ∧ i < j * 5 + f then vp_nar .boolean (st (40 + (i - j * 5))) else st i
def ca_Y (sY : Nat → Int32) (j f : Nat) : Nat → Int32 := fun i => if j * 136 ≤ i ∧ i < j * 136 + f then vp_nar .boolean (sY (1088 + (i - j * 136))) else sY i
def ca_0 (cnt : Nat → Int32) (j f : Nat) : Nat → Int32 := fun i => if j * 6 ≤ i ∧ i < j * 6 + f then 0 else cnt i
theorem ca_X0 (sX : Nat → Int64) (j : Nat) : ca_X sX j 0 = sX := by
  funext i; unfold ca_X; rw [if_neg (by omega)]
theorem ca_S0 (st : Nat → Int32) (j : Nat) : ca_S st j 0 = st := by
  funext i; unfold ca_S; rw [if_neg (by omega)]
theorem ca_Y0 (st : Nat → Int32) (j : Nat) : ca_Y st j 0 = st := by
  funext i; unfold ca_Y; rw [if_neg (by omega)]
theorem ca_00 (st : Nat → Int32) (j : Nat) : ca_0 st j 0 = st := by
  funext i; unfold ca_0; rw [if_neg (by omega)]
theorem ca_Xs (sX : Nat → Int64) {j f : Nat} (hj : j < 8) (hf : f < 5) : vp_updL (ca_X sX j f) (j * 5 + f) (ca_X sX j f (40 + f)) = ca_X sX j (f + 1) := by
  funext i
  by_cases e : i = j * 5 + f
  · subst e
    rw [pk_uLs]
    unfold ca_X
    rw [if_neg (by omega), if_pos (by omega)]
    exact congrArg sX (by omega)
  · rw [pk_uLn e]
    unfold ca_X
    by_cases h : j * 5 ≤ i ∧ i < j * 5 + f
    · rw [if_pos h, if_pos (by omega)]
    · rw [if_neg h, if_neg (by omega)]
theorem ca_Ss (st : Nat → Int32) {j f : Nat} (hj : j < 8) (hf : f < 5) : upd (ca_S st j f) (j * 5 + f) (vp_nar .boolean (ca_S st j f (40 + f))) = ca_S st j (f + 1) := by
  funext i
  by_cases e : i = j * 5 + f
  · subst e
    rw [pk_us]
    unfold ca_S
    rw [if_neg (by omega), if_pos (by omega)]
    exact congrArg (fun n => vp_nar .boolean (st n)) (by omega)
  · rw [pk_un e]
    unfold ca_S
    by_cases h : j * 5 ≤ i ∧ i < j * 5 + f
    · rw [if_pos h, if_pos (by omega)]
    · rw [if_neg h, if_neg (by omega)]
theorem ca_Ys (sY : Nat → Int32) {j f : Nat} (hj : j < 8) (hf : f < 136) : upd (ca_Y sY j f) (j * 136 + f) (vp_nar .boolean (ca_Y sY j f (1088 + f))) = ca_Y sY j (f + 1) := by
  funext i
  by_cases e : i = j * 136 + f
  · subst e
    rw [pk_us]
    unfold ca_Y
    rw [if_neg (by omega), if_pos (by omega)]
    exact congrArg (fun n => vp_nar .boolean (sY n)) (by omega)
  · rw [pk_un e]
    unfold ca_Y
    by_cases h : j * 136 ≤ i ∧ i < j * 136 + f
    · rw [if_pos h, if_pos (by omega)]
    · rw [if_neg h, if_neg (by omega)]
theorem ca_0s (cnt : Nat → Int32) {j f : Nat} : upd (ca_0 cnt j f) (j * 6 + f) 0 = ca_0 cnt j (f + 1) := by
  funext i
  by_cases e : i = j * 6 + f
  · subst e
    rw [pk_us]
    unfold ca_0
    rw [if_pos (by omega)]
  · rw [pk_un e]
    unfold ca_0
    by_cases h : j * 6 ≤ i ∧ i < j * 6 + f
    · rw [if_pos h, if_pos (by omega)]
    · rw [if_neg h, if_neg (by omega)]
section
variable {f_cap f_clock f_length f_staged : Int32} {a_text : Nat → Int32} {a_sets : Nat → Int64} {a_starred a_occupied a_misfirePolicy a_concurrencyPolicy a_running a_started a_completed a_dropped a_cancelled a_misfires : Nat → Int32}
theorem cx_clr {j : Nat} (hj : j < 8) {post : SX → Prop} (hp : post (f_cap, f_clock, f_length, f_staged, a_text, a_sets, a_starred, a_occupied, a_misfirePolicy, a_concurrencyPolicy, upd a_running j 0, upd a_started j 0, upd a_completed j 0, upd a_dropped j 0, upd a_cancelled j 0, upd a_misfires j 0)) : wpX_clearCounters post (f_cap, f_clock, f_length, f_staged, a_text, a_sets, a_starred, a_occupied, a_misfirePolicy, a_concurrencyPolicy, a_running, a_started, a_completed, a_dropped, a_cancelled, a_misfires) (nI j) := by
  have hin : vp_in (nI j) 8 := vp_in_nI hj (by decide)
  unfold wpX_clearCounters
  dsimp only
  rw [nI_clamp (show j < 2 ^ 31 by omega)]
  exact ⟨hin, nm_e ⟨hin, nm_e ⟨hin, nm_e ⟨hin, nm_e ⟨hin, nm_e ⟨hin, nm_e hp⟩⟩⟩⟩⟩⟩
theorem cx_copyloop {j : Nat} (hj : j < 8) {post : SX → Prop} (hp : post (f_cap, f_clock, f_length, f_staged, a_text, ca_X a_sets j 5, ca_S a_starred j 5, a_occupied, a_misfirePolicy, a_concurrencyPolicy, a_running, a_started, a_completed, a_dropped, a_cancelled, a_misfires)) : ∀ k f n : Nat, f + k = 5 → k < n → wX_copyStagedTo_2 post (nI j) f_cap f_clock f_length f_staged n (nI f) a_text (ca_X a_sets j f) (ca_S a_starred j f) a_occupied a_misfirePolicy a_concurrencyPolicy a_running a_started a_completed a_dropped a_cancelled a_misfires := by
  intro k
  induction k with
  | zero =>
    intro f n hk hn
    obtain ⟨n, rfl⟩ : ∃ n', n = n' + 1 := ⟨n - 1, by omega⟩
    have e : f = 5 := by omega
    subst e
    exact pk_le 5 5 (fun _ => hp) (fun z => absurd z (by omega))
  | succ k ih =>
    intro f n hk hn
    obtain ⟨n, rfl⟩ : ∃ n', n = n' + 1 := ⟨n - 1, by omega⟩
    have e1 : 40 + nI f = nI (40 + f) := nI_add 40 f
    have e2 := ce_m5 j f
    refine pk_le 5 f (fun z => absurd z (by omega)) (fun _ => ?_)
    rw [e1, e2, nI_clamp (show 40 + f < 2 ^ 31 by omega), nI_clamp (show j * 5 + f < 2 ^ 31 by omega)]
    exact ⟨vp_in_nI (by omega) (by decide), vp_in_nI (by omega) (by decide), nm_r (ca_Xs a_sets hj (by omega)) ⟨vp_in_nI (by omega) (by decide), vp_in_nI (by omega) (by decide), nm_r (ca_Ss a_starred hj (by omega)) (nm_r (nI_1 f) (ih (f + 1) n (by omega) (by omega)))⟩⟩
theorem cx_copy {j : Nat} (hj : j < 8) {post : SX → Prop} (hp : post (f_cap, f_clock, f_length, f_staged, a_text, ca_X a_sets j 5, ca_S a_starred j 5, a_occupied, a_misfirePolicy, a_concurrencyPolicy, a_running, a_started, a_completed, a_dropped, a_cancelled, a_misfires)) : wpX_copyStagedTo post (f_cap, f_clock, f_length, f_staged, a_text, a_sets, a_starred, a_occupied, a_misfirePolicy, a_concurrencyPolicy, a_running, a_started, a_completed, a_dropped, a_cancelled, a_misfires) (nI j) := by
  refine ⟨6, ?_⟩
  have t := cx_copyloop hj hp 5 0 6 (by omega) (by omega)
  rw [ca_X0, ca_S0] at t
  exact t
theorem cx_addloop {j : Nat} (hj : j < 8) (ho : a_occupied j = 0) (hb : ∀ i, i < j → ¬ a_occupied i = 0) {x1 x2 : Int32} {post : Int32 → SX → Prop} (hp : post (nI j) (f_cap, f_clock, f_length, f_staged, a_text, ca_X a_sets j 5, ca_S a_starred j 5, upd a_occupied j (vp_nar .boolean 1), upd a_misfirePolicy j x1, upd a_concurrencyPolicy j x2, upd a_running j 0, upd a_started j 0, upd a_completed j 0, upd a_dropped j 0, upd a_cancelled j 0, upd a_misfires j 0)) : ∀ k i n : Nat, i + k = j → k < n → wX_addJob_31 post x1 x2 f_cap f_clock f_length f_staged a_text a_sets a_starred a_occupied a_misfirePolicy a_concurrencyPolicy a_running a_started a_completed a_dropped a_cancelled a_misfires n (nI i) := by
  intro k
  induction k with
  | zero =>
    intro i n hk hn
    obtain ⟨n, rfl⟩ : ∃ n', n = n' + 1 := ⟨n - 1, by omega⟩
    have e : i = j := by omega
    subst e
    have hin : vp_in (nI i) 8 := vp_in_nI hj (by decide)
    refine pk_le 8 i (fun z => absurd z (by omega)) (fun _ => ?_)
    rw [nI_clamp (show i < 2 ^ 31 by omega)]
    refine ⟨hin, br_t ho ⟨hin, nm_e ⟨hin, nm_e ⟨hin, nm_e ?_⟩⟩⟩⟩
    refine cx_clr hj ?_
    dsimp only
    refine cx_copy hj ?_
    exact hp
  | succ k ih =>
    intro i n hk hn
    obtain ⟨n, rfl⟩ : ∃ n', n = n' + 1 := ⟨n - 1, by omega⟩
    refine pk_le 8 i (fun z => absurd z (by omega)) (fun _ => ⟨vp_in_nI (by omega) (by decide), br_f ?_ (nm_r (nI_1 i) (ih (i + 1) n (by omega) (by omega)))⟩)
    rw [nI_clamp (by omega)]
    exact hb i (by omega)
theorem cx_addfull (hb : ∀ i, i < 8 → ¬ a_occupied i = 0) {x1 x2 : Int32} {post : Int32 → SX → Prop} (hp : post (-1) (f_cap, f_clock, f_length, f_staged, a_text, a_sets, a_starred, a_occupied, a_misfirePolicy, a_concurrencyPolicy, a_running, a_started, a_completed, a_dropped, a_cancelled, a_misfires)) : ∀ k i n : Nat, i + k = 8 → k < n → wX_addJob_31 post x1 x2 f_cap f_clock f_length f_staged a_text a_sets a_starred a_occupied a_misfirePolicy a_concurrencyPolicy a_running a_started a_completed a_dropped a_cancelled a_misfires n (nI i) := by
  intro k
  induction k with
  | zero =>
    intro i n hk hn
    obtain ⟨n, rfl⟩ : ∃ n', n = n' + 1 := ⟨n - 1, by omega⟩
    exact pk_le 8 i (fun _ => hp) (fun z => absurd z (by omega))
  | succ k ih =>
    intro i n hk hn
    obtain ⟨n, rfl⟩ : ∃ n', n = n' + 1 := ⟨n - 1, by omega⟩
    refine pk_le 8 i (fun z => absurd z (by omega)) (fun _ => ⟨vp_in_nI (by omega) (by decide), br_f ?_ (nm_r (nI_1 i) (ih (i + 1) n (by omega) (by omega)))⟩)
    rw [nI_clamp (by omega)]
    exact hb i (by omega)
end
section
variable {f_len f_clock f_cap f_staged f_pos f_val f_cy f_cm f_cd : Int32} {a_text a_sets a_domStar a_dowStar a_occ a_mis a_con a_cnt a_fs a_fe : Nat → Int32}
theorem cy_add137 {j : Nat} (hj : j < 8) {x1 x2 : Int32} {post : Int32 → SY → Prop} (hp : post (nI j) (f_len, f_clock, f_cap, f_staged, f_pos, f_val, f_cy, f_cm, f_cd, a_text, a_sets, a_domStar, a_dowStar, upd a_occ j (vp_nar .boolean 1), upd a_mis j x1, upd a_con j x2, ca_0 a_cnt j 6, a_fs, a_fe)) : ∀ k f n : Nat, f + k = 6 → k < n → wY_addJob_137 post x1 x2 (nI j) f_len f_clock f_cap f_staged f_pos f_val f_cy f_cm f_cd n (nI f) a_text a_sets a_domStar a_dowStar a_occ a_mis a_con (ca_0 a_cnt j f) a_fs a_fe := by
  have hin : vp_in (nI j) 8 := vp_in_nI hj (by decide)
  intro k
  induction k with
  | zero =>
    intro f n hk hn
    obtain ⟨n, rfl⟩ : ∃ n', n = n' + 1 := ⟨n - 1, by omega⟩
    have e : f = 6 := by omega
    subst e
    refine pk_le 6 6 (fun _ => ?_) (fun z => absurd z (by omega))
    rw [nI_clamp (show j < 2 ^ 31 by omega)]
    exact ⟨hin, nm_e ⟨hin, nm_e ⟨hin, nm_e hp⟩⟩⟩
  | succ k ih =>
    intro f n hk hn
    obtain ⟨n, rfl⟩ : ∃ n', n = n' + 1 := ⟨n - 1, by omega⟩
    refine pk_le 6 f (fun z => absurd z (by omega)) (fun _ => ?_)
    rw [ce_m6, nI_clamp (show j * 6 + f < 2 ^ 31 by omega)]
    exact ⟨vp_in_nI (by omega) (by decide), nm_r (ca_0s a_cnt) (nm_r (nI_1 f) (ih (f + 1) n (by omega) (by omega)))⟩
theorem cy_add70 {j : Nat} (hj : j < 8) {x1 x2 : Int32} {post : Int32 → SY → Prop} (hp : post (nI j) (f_len, f_clock, f_cap, f_staged, f_pos, f_val, f_cy, f_cm, f_cd, a_text, ca_Y a_sets j 136, upd a_domStar j (vp_nar .boolean (a_domStar 8)), upd a_dowStar j (vp_nar .boolean (a_dowStar 8)), upd a_occ j (vp_nar .boolean 1), upd a_mis j x1, upd a_con j x2, ca_0 a_cnt j 6, a_fs, a_fe)) : ∀ k f n : Nat, f + k = 136 → k < n → wY_addJob_70 post x1 x2 (nI j) f_len f_clock f_cap f_staged f_pos f_val f_cy f_cm f_cd n (nI f) a_text (ca_Y a_sets j f) a_domStar a_dowStar a_occ a_mis a_con a_cnt a_fs a_fe := by
  have hin : vp_in (nI j) 9 := vp_in_nI (by omega) (by decide)
  intro k
  induction k with
  | zero =>
    intro f n hk hn
    obtain ⟨n, rfl⟩ : ∃ n', n = n' + 1 := ⟨n - 1, by omega⟩
    have e : f = 136 := by omega
    subst e
    refine pk_le 136 136 (fun _ => ?_) (fun z => absurd z (by omega))
    rw [nI_clamp (show j < 2 ^ 31 by omega)]
    refine ⟨hin, nm_e ⟨hin, nm_e ⟨7, ?_⟩⟩⟩
    have t := cy_add137 hj hp 6 0 7 (by omega) (by omega)
    rw [ca_00] at t
    exact t
  | succ k ih =>
    intro f n hk hn
    obtain ⟨n, rfl⟩ : ∃ n', n = n' + 1 := ⟨n - 1, by omega⟩
    refine pk_le 136 f (fun z => absurd z (by omega)) (fun _ => ?_)
    have e1 : 1088 + nI f = nI (1088 + f) := nI_add 1088 f
    have e2 : nI j * 136 + nI f = nI (j * 136 + f) := by rw [show nI j * 136 = nI (j * 136) from pk_mul j 136, nI_add]
    rw [e1, e2, nI_clamp (show 1088 + f < 2 ^ 31 by omega), nI_clamp (show j * 136 + f < 2 ^ 31 by omega)]
    exact ⟨vp_in_nI (by omega) (by decide), vp_in_nI (by omega) (by decide), nm_r (ca_Ys a_sets hj (by omega)) (nm_r (nI_1 f) (ih (f + 1) n (by omega) (by omega)))⟩
def ca_ff (occ : Nat → Int32) (m : Nat) (x : Int32) : Prop := (x = -1 ∧ ∀ i, m ≤ i → i < 8 → ¬ occ i = 0) ∨ (∃ q, x = nI q ∧ m ≤ q ∧ q < 8 ∧ occ q = 0 ∧ ∀ i, m ≤ i → i < q → ¬ occ i = 0)
theorem cy_add37 {x1 x2 : Int32} {post : Int32 → SY → Prop} (hf : (∀ i, i < 8 → ¬ a_occ i = 0) → post (-1) (f_len, f_clock, f_cap, f_staged, f_pos, f_val, f_cy, f_cm, f_cd, a_text, a_sets, a_domStar, a_dowStar, a_occ, a_mis, a_con, a_cnt, a_fs, a_fe)) (hp : ∀ j, j < 8 → a_occ j = 0 → (∀ i, i < j → ¬ a_occ i = 0) → post (nI j) (f_len, f_clock, f_cap, f_staged, f_pos, f_val, f_cy, f_cm, f_cd, a_text, ca_Y a_sets j 136, upd a_domStar j (vp_nar .boolean (a_domStar 8)), upd a_dowStar j (vp_nar .boolean (a_dowStar 8)), upd a_occ j (vp_nar .boolean 1), upd a_mis j x1, upd a_con j x2, ca_0 a_cnt j 6, a_fs, a_fe)) : ∀ m n : Nat, m ≤ 8 → m < n → ∀ x y : Int32, y = nI m + (-1) → ca_ff a_occ m x → wY_addJob_37 post x1 x2 f_len f_clock f_cap f_staged f_pos f_val f_cy f_cm f_cd a_text a_sets a_domStar a_dowStar a_occ a_mis a_con a_cnt a_fs a_fe n x y := by
  intro m
  induction m with
  | zero =>
    intro n hm hn x y ey hx
    obtain ⟨n, rfl⟩ : ∃ n', n = n' + 1 := ⟨n - 1, by omega⟩
    subst ey
    refine br_t (by decide) ?_
    rcases hx with ⟨rfl, hx⟩ | ⟨q, rfl, q1, q2, q3, q4⟩
    · exact br_f (by decide) (hf (fun i hi => hx i (by omega) hi))
    · refine br_t (nI_pos' (by omega)) ⟨137, ?_⟩
      have t := cy_add70 q2 (hp q q2 q3 (fun i hi => q4 i (by omega) hi)) 136 0 137 (by omega) (by omega)
      rw [ca_Y0] at t
      exact t
  | succ m ih =>
    intro n hm hn x y ey hx
    obtain ⟨n, rfl⟩ : ∃ n', n = n' + 1 := ⟨n - 1, by omega⟩
    rw [pk_m1] at ey
    subst ey
    refine br_f (nI_pos (by omega)) ⟨vp_in_nI (by omega) (by decide), ?_⟩
    rw [nI_clamp (show m < 2 ^ 31 by omega)]
    refine br_c (fun z => fun w ew => ih n (by omega) (by omega) (nI m) w ew (Or.inr ⟨m, rfl, by omega, by omega, z, fun i i1 i2 => absurd i2 (by omega)⟩)) (fun z => fun w ew => ih n (by omega) (by omega) x w ew ?_)
    rcases hx with ⟨rfl, hx⟩ | ⟨q, rfl, q1, q2, q3, q4⟩
    · refine Or.inl ⟨rfl, fun i i1 i2 => ?_⟩
      by_cases e : i = m
      · subst e; exact z
      · exact hx i (by omega) i2
    · refine Or.inr ⟨q, rfl, by omega, q2, q3, fun i i1 i2 => ?_⟩
      by_cases e : i = m
      · subst e; exact z
      · exact q4 i (by omega) i2
end
theorem ca_free (occ : Nat → Int32) : ∀ n, (∃ j, j < n ∧ occ j = 0 ∧ ∀ i, i < j → ¬ occ i = 0) ∨ (∀ i, i < n → ¬ occ i = 0) := by
  intro n
  induction n with
  | zero => exact Or.inr (fun i hi => absurd hi (by omega))
  | succ n ih =>
    rcases ih with ⟨j, j1, j2, j3⟩ | h
    · exact Or.inl ⟨j, by omega, j2, j3⟩
    · by_cases e : occ n = 0
      · exact Or.inl ⟨n, by omega, e, h⟩
      · refine Or.inr (fun i hi => ?_)
        by_cases e2 : i = n
        · subst e2; exact e
        · exact h i (by omega)
theorem ca_Sj {sX : Nat → Int64} {st sY dom dow : Nat → Int32} {j : Nat} (hj : j < 8) (H : cr_S sX st sY dom dow 8) : cr_S (ca_X sX j 5) (ca_S st j 5) (ca_Y sY j 136) (upd dom j (vp_nar .boolean (dom 8))) (upd dow j (vp_nar .boolean (dow 8))) j := by
  have eX : ∀ f, f < 5 → ca_X sX j 5 (j * 5 + f) = sX (8 * 5 + f) := by
    intro f hf
    unfold ca_X
    rw [if_pos (by omega)]
    exact congrArg sX (by omega)
  have eS : ∀ f, f < 5 → (st (8 * 5 + f) = 0 ∨ st (8 * 5 + f) = 1) → ca_S st j 5 (j * 5 + f) = st (8 * 5 + f) := by
    intro f hf h01
    unfold ca_S
    rw [if_pos (by omega), show 40 + (j * 5 + f - j * 5) = 8 * 5 + f by omega]
    exact cb_vp h01
  have s2 := eS 2 (by decide) H.2.2.2.2.1
  have s4 := eS 4 (by decide) H.2.2.2.2.2
  refine ⟨fun f v hf hv => ?_, fun f v hf hv hb => ?_, ?_, ?_, ?_, ?_⟩
  · rw [eX f hf]
    have := cf_topb hf
    unfold ca_Y
    rw [if_pos (by omega), show 1088 + (j * 136 + cf_off f + v - j * 136) = 8 * 136 + cf_off f + v by omega, H.1 f v hf hv]
    exact cb_vp (cb_b01 _)
  · rw [eX f hf] at hb
    exact H.2.1 f v hf hv hb
  · rw [pk_us, s2, H.2.2.1]
    exact cb_vp H.2.2.2.2.1
  · rw [pk_us, s4, H.2.2.2.1]
    exact cb_vp H.2.2.2.2.2
  · rw [s2]; exact H.2.2.2.2.1
  · rw [s4]; exact H.2.2.2.2.2
theorem ca_Sk {sX : Nat → Int64} {st sY dom dow : Nat → Int32} {j s : Nat} (hj : j < 8) (hs : s < 9) (hsj : s ≠ j) {x y : Int32} (H : cr_S sX st sY dom dow s) : cr_S (ca_X sX j 5) (ca_S st j 5) (ca_Y sY j 136) (upd dom j x) (upd dow j y) s := by
  have eX : ∀ f, f < 5 → ca_X sX j 5 (s * 5 + f) = sX (s * 5 + f) := by
    intro f hf
    unfold ca_X
    rw [if_neg (by omega)]
  have eS : ∀ f, f < 5 → ca_S st j 5 (s * 5 + f) = st (s * 5 + f) := by
    intro f hf
    unfold ca_S
    rw [if_neg (by omega)]
  have s2 := eS 2 (by decide)
  have s4 := eS 4 (by decide)
  refine ⟨fun f v hf hv => ?_, fun f v hf hv hb => ?_, ?_, ?_, ?_, ?_⟩
  · rw [eX f hf]
    have := cf_topb hf
    unfold ca_Y
    rw [if_neg (by omega)]
    exact H.1 f v hf hv
  · rw [eX f hf] at hb
    exact H.2.1 f v hf hv hb
  · rw [pk_un hsj, s2]; exact H.2.2.1
  · rw [pk_un hsj, s4]; exact H.2.2.2.1
  · rw [s2]; exact H.2.2.2.2.1
  · rw [s4]; exact H.2.2.2.2.2
theorem ca_pol {x : Int32} (h0 : ¬ x < 0) (h2 : x ≤ 2) : x = 0 ∨ x = 1 ∨ x = 2 := by
  obtain ⟨c, hc, rfl⟩ := nI_of2 (x := x) (M := 2) (n := 2) (by decide) h0 h2
  have hcc : c = 0 ∨ c = 1 ∨ c = 2 := by omega
  rcases hcc with rfl | rfl | rfl
  · exact Or.inl rfl
  · exact Or.inr (Or.inl rfl)
  · exact Or.inr (Or.inr rfl)
theorem ca_updP {p : Nat → Int32} (H : cr_P p) {j : Nat} {x : Int32} (hx : x = 0 ∨ x = 1 ∨ x = 2) : cr_P (upd p j x) := by
  intro i hi
  by_cases e : i = j
  · subst e; rw [pk_us]; exact hx
  · rw [pk_un e]; exact H i hi
theorem ca_C {cnt ru sta com dro can mis : Nat → Int32} (H : cr_C cnt ru sta com dro can mis) {j : Nat} : cr_C (ca_0 cnt j 6) (upd ru j 0) (upd sta j 0) (upd com j 0) (upd dro j 0) (upd can j 0) (upd mis j 0) := by
  intro i hi
  obtain ⟨h0, h1, h2, h3, h4, h5⟩ := H i hi
  unfold ca_0
  by_cases e : i = j
  · subst e
    refine ⟨?_, ?_, ?_, ?_, ?_, ?_⟩ <;> rw [pk_us] <;> exact if_pos (by omega)
  · exact ⟨(if_neg (by omega)).trans (h0.trans (pk_un e).symm), (if_neg (by omega)).trans (h1.trans (pk_un e).symm), (if_neg (by omega)).trans (h2.trans (pk_un e).symm), (if_neg (by omega)).trans (h3.trans (pk_un e).symm), (if_neg (by omega)).trans (h4.trans (pk_un e).symm), (if_neg (by omega)).trans (h5.trans (pk_un e).symm)⟩
theorem i_vc_addJob {k : Nat} {u : SX} {v : SY} (I : i_Rel k u v) (hk : k + 5 ≤ 2561) (v1 : Int32) (v2 : Int32) : wpX_addJob (fun r u' => wpY_addJob (fun r' v' => r' = r ∧ i_Rel (k + 5) u' v') v v1 v2) u v1 v2 := by
  have I5 := i_up I
  obtain ⟨cap, clock, len, b, text, sX, st, occ, mp, cp, ru, sta, com, dro, can, mis, sY, dom, dow, cnt, fs, fe, pos, val, cy, cm, cd, rfl, rfl, F⟩ := I
  have F5 := cr_Fm (show k ≤ k + 5 by omega) F
  rcases F.2.1 with rfl | rfl
  · exact br_t rfl (br_t rfl ⟨rfl, I5⟩)
  have n1 : ¬ (1 : Int32) = 0 := by decide
  by_cases h0 : v1 < 0
  · exact br_f n1 (br_t h0 (br_f n1 (br_t h0 ⟨rfl, I5⟩)))
  by_cases h2 : ¬ v1 ≤ 2
  · exact br_f n1 (br_f h0 (br_f h2 (br_f n1 (br_f h0 (br_f h2 ⟨rfl, I5⟩)))))
  have h2 : v1 ≤ 2 := Decidable.of_not_not h2
  by_cases g0 : v2 < 0
  · exact br_f n1 (br_f h0 (br_t h2 (br_t g0 (br_f n1 (br_f h0 (br_t h2 (br_t g0 ⟨rfl, I5⟩)))))))
  by_cases g2 : ¬ v2 ≤ 2
  · exact br_f n1 (br_f h0 (br_t h2 (br_f g0 (br_f g2 (br_f n1 (br_f h0 (br_t h2 (br_f g0 (br_f g2 ⟨rfl, I5⟩)))))))))
  have g2 : v2 ≤ 2 := Decidable.of_not_not g2
  have hff : ca_ff occ 8 (-1) := Or.inl ⟨rfl, fun i i1 i2 => absurd i2 (by omega)⟩
  rcases ca_free occ 8 with ⟨j, j1, j2, j3⟩ | hfull
  · refine br_f n1 (br_f h0 (br_t h2 (br_f g0 (br_t g2 ⟨9, cx_addloop j1 j2 j3 ?_ j 0 9 (by omega) (by omega)⟩))))
    refine br_f n1 (br_f h0 (br_t h2 (br_f g0 (br_t g2 ⟨9, cy_add37 (fun hfull => absurd j2 (hfull j j1)) (fun q q1 q2 q3 => ?_) 8 9 (by omega) (by omega) (-1) 7 (by decide) hff⟩))))
    have e : q = j := by
      by_cases e1 : q < j
      · exact absurd q2 (j3 q e1)
      · by_cases e2 : j < q
        · exact absurd j2 (q3 j e2)
        · omega
    subst e
    refine ⟨rfl, cr_mk ⟨F5.1, F5.2.1, F5.2.2.1, fun s hs => ?_, ca_updP F5.2.2.2.2.1 (ca_pol h0 h2), ca_updP F5.2.2.2.2.2.1 (ca_pol g0 g2), fun i hi => ?_, ca_C F5.2.2.2.2.2.2.2⟩⟩
    · by_cases e : s = q
      · subst e
        exact ca_Sj q1 (F.2.2.2.1 8 (Or.inr ⟨rfl, rfl⟩))
      · exact ca_Sk q1 (by omega) e (F.2.2.2.1 s hs)
    · by_cases e : i = q
      · subst e
        exact ⟨0, by omega, pk_us⟩
      · obtain ⟨r, r1, r2⟩ := F5.2.2.2.2.2.2.1 i hi
        exact ⟨r, r1, (pk_un e).trans r2⟩
  · refine br_f n1 (br_f h0 (br_t h2 (br_f g0 (br_t g2 ⟨9, cx_addfull hfull ?_ 8 0 9 (by omega) (by omega)⟩))))
    exact br_f n1 (br_f h0 (br_t h2 (br_f g0 (br_t g2 ⟨9, cy_add37 (fun _ => ⟨rfl, I5⟩) (fun q q1 q2 q3 => absurd q2 (hfull q q1)) 8 9 (by omega) (by omega) (-1) 7 (by decide) hff⟩))))
