/-! X's parser: up to one item -/
section
variable {tx : Nat → Nat} {f_cap f_clock f_length f_staged : Int32} {a_text : Nat → Int32} {a_sets : Nat → Int64} {a_starred a_occupied a_misfirePolicy a_concurrencyPolicy a_running a_started a_completed a_dropped a_cancelled a_misfires : Nat → Int32}
theorem cp_txt {a_text : Nat → Int32} (hT : ∀ j, a_text j = nI (tx j)) {i : Nat} (hi : i < 2 ^ 31) : a_text (nI i).toNatClampNeg = nI (tx i) := by
  rw [nI_clamp hi, hT]
theorem cx_findloop (hT : ∀ j, a_text j = nI (tx j)) (hC : ∀ j, tx j ≤ 126) {c b : Nat} (hc : c < 1000) (hb : b ≤ 64) {post : Int32 → Prop} : ∀ k a n : Nat, a + k = b → k < n → post (nI (cp_fd tx c k a)) → wX_find_3 post (nI c) (nI b) f_cap f_clock f_length f_staged a_text a_sets a_starred a_occupied a_misfirePolicy a_concurrencyPolicy a_running a_started a_completed a_dropped a_cancelled a_misfires n (nI a) := by
  intro k
  induction k with
  | zero =>
    intro a n hk hn hp
    obtain ⟨n, rfl⟩ : ∃ n', n = n' + 1 := ⟨n - 1, by omega⟩
    have e : a = b := by omega
    subst e
    exact pk_le a a (fun _ => hp) (fun z => absurd z (by omega))
  | succ k ih =>
    intro a n hk hn hp
    obtain ⟨n, rfl⟩ : ∃ n', n = n' + 1 := ⟨n - 1, by omega⟩
    have hca := hC a
    refine pk_le b a (fun z => absurd z (by omega)) (fun _ => ⟨vp_in_nI (by omega) (by decide), pk_eq (tx a) c (fun e => ?_) (fun e => nm_r (nI_1 a) (ih (a + 1) n (by omega) (by omega) ?_)) (cp_txt hT (by omega))⟩)
    · have t : cp_fd tx c (k + 1) a = a := if_pos e
      rw [t] at hp; exact hp
    · have t : cp_fd tx c (k + 1) a = cp_fd tx c k (a + 1) := if_neg e
      rw [t] at hp; exact hp
theorem cx_find (hT : ∀ j, a_text j = nI (tx j)) (hC : ∀ j, tx j ≤ 126) (c : Nat) {a b : Nat} (hc : c < 1000) (hab : a ≤ b) (hb : b ≤ 64) {x : Int32} {post : Int32 → Prop} (hp : post (nI (cp_find tx c a b))) (ex : x = nI c := by rfl) : wpX_find post (f_cap, f_clock, f_length, f_staged, a_text, a_sets, a_starred, a_occupied, a_misfirePolicy, a_concurrencyPolicy, a_running, a_started, a_completed, a_dropped, a_cancelled, a_misfires) x (nI a) (nI b) := by
  subst ex
  exact ⟨b - a + 1, cx_findloop hT hC hc hb (b - a) a (b - a + 1) (by omega) (by omega) hp⟩
theorem cx_numloop (hT : ∀ j, a_text j = nI (tx j)) (hC : ∀ j, tx j ≤ 126) {b : Nat} (hb : b ≤ 64) {post : Int32 → Prop} : ∀ k q v n : Nat, q + k = b → k < n → post (cp_en (cp_nr tx k q v)) → wX_number_21 post (nI b) f_cap f_clock f_length f_staged a_text a_sets a_starred a_occupied a_misfirePolicy a_concurrencyPolicy a_running a_started a_completed a_dropped a_cancelled a_misfires n (nI v) (nI q) := by
  intro k
  induction k with
  | zero =>
    intro q v n hk hn hp
    obtain ⟨n, rfl⟩ : ∃ n', n = n' + 1 := ⟨n - 1, by omega⟩
    exact pk_le b q (fun _ => hp) (fun z => absurd z (by omega))
  | succ k ih =>
    intro q v n hk hn hp
    obtain ⟨n, rfl⟩ : ∃ n', n = n' + 1 := ⟨n - 1, by omega⟩
    have hca := hC q
    have hx := cp_txt hT (show q < 2 ^ 31 by omega)
    have hin : vp_in (nI q) 64 := vp_in_nI (by omega) (by decide)
    refine pk_le b q (fun z => absurd z (by omega)) (fun _ => ⟨hin, pk_lt (tx q) 48 (fun z => ?_) (fun z => ⟨hin, pk_le (tx q) 57 (fun z2 => ⟨hin, nm_r ?_ (nm_r (nI_1 q) (ih (q + 1) (v * 10 + tx q - 48) n (by omega) (by omega) ?_))⟩) (fun z2 => ?_) hx⟩) hx⟩)
    · have t : cp_nr tx (k + 1) q v = none := if_neg (fun h => absurd (cp_dgt.mp h) (by omega))
      rw [t] at hp; exact hp
    · rw [hx, show nI v * 10 = nI (v * 10) from pk_mul v 10, nI_add]
      exact pk_sub (b := 48) (by omega)
    · have t : cp_nr tx (k + 1) q v = cp_nr tx k (q + 1) (v * 10 + tx q - 48) := if_pos (cp_dgt.mpr ⟨z, z2⟩)
      rw [t] at hp; exact hp
    · have t : cp_nr tx (k + 1) q v = none := if_neg (fun h => absurd (cp_dgt.mp h) (by omega))
      rw [t] at hp; exact hp
theorem cx_num (hT : ∀ j, a_text j = nI (tx j)) (hC : ∀ j, tx j ≤ 126) {q b : Nat} (hqb : q ≤ b) (hb : b ≤ 64) {x : Int32} {post : Int32 → Prop} (hp : post (cp_en (cp_num tx q b))) (ex : x = nI q := by rfl) : wpX_number post (f_cap, f_clock, f_length, f_staged, a_text, a_sets, a_starred, a_occupied, a_misfirePolicy, a_concurrencyPolicy, a_running, a_started, a_completed, a_dropped, a_cancelled, a_misfires) x (nI b) := by
  subst ex
  have e := pk_sub hqb
  unfold cp_num at hp
  refine pk_lt (b - q) 1 (fun z => ?_) (fun z => pk_le (b - q) 2 (fun z2 => ⟨3, ?_⟩) (fun z2 => ?_) e) e
  · rw [if_neg (by omega)] at hp; exact hp
  · rw [if_pos (by omega)] at hp
    exact cx_numloop hT hC hb (b - q) q 0 3 (by omega) (by omega) hp
  · rw [if_neg (by omega)] at hp; exact hp
theorem cx_cap {c : Nat} (hc : c ≤ 126) {x : Int32} {post : Int32 → Prop} (hp : post (nI (cp_cap c))) (ex : x = nI c) : wpX_capital post x := by
  subst ex
  unfold cp_cap at hp
  refine pk_lt c 97 (fun z => ?_) (fun z => pk_lt 122 c (fun z2 => ?_) (fun z2 => ?_))
  · rw [if_neg (by omega)] at hp; exact hp
  · rw [if_neg (by omega)] at hp; exact hp
  · rw [if_pos (by omega)] at hp
    have e : nI c - 97 + 65 = nI (c - 32) := by
      rw [show nI c - 97 = nI (c - 97) from pk_sub (b := 97) (by omega)]
      exact (nI_add (c - 97) 65).trans (congrArg nI (by omega))
    rw [e]; exact hp
theorem cp_or {a b : Nat} (ha : a < 2 ^ 32) (hb : b < 2 ^ 32) : nI a ||| nI b = nI (a ||| b) := by
  apply Int32.toBitVec_inj.mp
  apply BitVec.eq_of_toNat_eq
  rw [Int32.toBitVec_or, BitVec.toNat_or, pk_tn ha, pk_tn hb, pk_tn (Nat.or_lt_two_pow ha hb)]
theorem cp_pack {a b c : Nat} (ha : a < 256) (hb : b < 256) (hc : c < 256) : ((nI a <<< ((16 : Int32) &&& 31)) ||| (nI b <<< ((8 : Int32) &&& 31))) ||| nI c = nI (a * 65536 + b * 256 + c) := by
  have e1 : nI a <<< ((16 : Int32) &&& 31) = nI (a * 2 ^ 16) := pk_shlN _ 16 (by decide) (by omega)
  have e2 : nI b <<< ((8 : Int32) &&& 31) = nI (b * 2 ^ 8) := pk_shlN _ 8 (by decide) (by omega)
  have n1 : a * 2 ^ 16 ||| b * 2 ^ 8 = a * 2 ^ 16 + b * 2 ^ 8 := by
    rw [← Nat.shiftLeft_eq a 16, Nat.shiftLeft_add_eq_or_of_lt (by omega)]
  have n2 : a * 2 ^ 16 + b * 2 ^ 8 ||| c = a * 2 ^ 16 + b * 2 ^ 8 + c := by
    rw [show a * 2 ^ 16 + b * 2 ^ 8 = (a * 256 + b) * 2 ^ 8 by omega, ← Nat.shiftLeft_eq (a * 256 + b) 8, Nat.shiftLeft_add_eq_or_of_lt (by omega)]
  rw [e1, e2, cp_or (by omega) (by omega), n1, cp_or (by omega) (by omega), n2]
theorem cp_capb {c : Nat} (hc : c ≤ 126) : cp_cap c < 256 := by
  unfold cp_cap
  split <;> omega
theorem cx_atom (hT : ∀ j, a_text j = nI (tx j)) (hC : ∀ j, tx j ≤ 126) {f p q : Nat} (hf : f < 5) (hpq : p ≤ q) (hq : q ≤ 64) {x : Int32} {post : Int32 → Prop} (hp : post (cp_en (cp_at tx f p q))) (ex : x = nI p := by rfl) : wpX_atom post (f_cap, f_clock, f_length, f_staged, a_text, a_sets, a_starred, a_occupied, a_misfirePolicy, a_concurrencyPolicy, a_running, a_started, a_completed, a_dropped, a_cancelled, a_misfires) (nI f) x (nI q) := by
  subst ex
  unfold cp_at at hp
  refine pk_eq (q - p) 3 (fun z => ?_) (fun z => ?_) (pk_sub hpq)
  · rw [if_pos z] at hp
    have e1 : nI p + 1 = nI (p + 1) := nI_1 p
    have e2 : nI p + 2 = nI (p + 2) := nI_add p 2
    rw [e1, e2]
    refine ⟨vp_in_nI (by omega) (by decide), cx_cap (hC p) ⟨vp_in_nI (by omega) (by decide), cx_cap (hC (p + 1)) ⟨vp_in_nI (by omega) (by decide), cx_cap (hC (p + 2)) (nm_r (cp_pack (cp_capb (hC p)) (cp_capb (hC (p + 1))) (cp_capb (hC (p + 2)))) ?_) (cp_txt hT (by omega))⟩ (cp_txt hT (by omega))⟩ (cp_txt hT (by omega))⟩
    unfold cp_nm at hp
    refine pk_eq f 3 (fun z3 => ?_) (fun z3 => pk_eq f 4 (fun z4 => ?_) (fun z4 => ?_))
    · rw [if_pos z3] at hp
      exact cx_mon (cp_capb (hC p)) (cp_capb (hC (p + 1))) (cp_capb (hC (p + 2))) hp
    · rw [if_neg z3, if_pos z4] at hp
      exact cx_dow (cp_capb (hC p)) (cp_capb (hC (p + 1))) (cp_capb (hC (p + 2))) hp
    · rw [if_neg z3, if_neg z4] at hp
      exact hp
  · rw [if_neg z] at hp
    exact cx_num hT hC hpq hq hp
/-! the values of an item -/
def cp_nrm (f v : Nat) : Nat := if f = 4 ∧ v = 7 then 0 else v
def cp_sv (f A B st w : Nat) : Prop := ∃ j, A + j * st ≤ B ∧ cp_nrm f (A + j * st) = w
def cp_AV (f A B st : Nat) (sX sX' : Nat → Int64) : Prop := (∀ i, i ≠ 40 + f → sX' i = sX i) ∧ ∀ v, v < 64 → (cb_bit (sX' (40 + f)) v = true ↔ (cb_bit (sX (40 + f)) v = true ∨ cp_sv f A B st v))
theorem cp_nrmb {f v : Nat} (h : v < 64) : cp_nrm f v < 64 := by
  unfold cp_nrm
  split <;> omega
theorem cx_avloop {f A B st : Nat} (hf : f < 5) (hB : B < 60) (hst : 1 ≤ st) (hst2 : st ≤ 99) {post : SX → Prop} (hp : ∀ sX', cp_AV f A B st a_sets sX' → post (f_cap, f_clock, f_length, f_staged, a_text, sX', a_starred, a_occupied, a_misfirePolicy, a_concurrencyPolicy, a_running, a_started, a_completed, a_dropped, a_cancelled, a_misfires)) : ∀ (k v n j : Nat) (sX : Nat → Int64), v + k = B + 1 → k < n → v ≤ A + j * st → A + j * st < 1000 → (∀ i, i < j → A + i * st < v) → (∀ i, i ≠ 40 + f → sX i = a_sets i) → (∀ w, w < 64 → (cb_bit (sX (40 + f)) w = true ↔ (cb_bit (a_sets (40 + f)) w = true ∨ ∃ i, i < j ∧ cp_nrm f (A + i * st) = w))) → wX_addValues_6 post (nI f) (nI B) (nI st) f_cap f_clock f_length f_staged n (nI (A + j * st)) (nI v) a_text sX a_starred a_occupied a_misfirePolicy a_concurrencyPolicy a_running a_started a_completed a_dropped a_cancelled a_misfires := by
  intro k
  induction k with
  | zero =>
    intro v n j sX hk hn h1 h1b h2 h3 h4
    obtain ⟨n, rfl⟩ : ∃ n', n = n' + 1 := ⟨n - 1, by omega⟩
    refine pk_lt B v (fun _ => hp sX ⟨h3, fun w hw => ?_⟩) (fun z => absurd z (by omega))
    rw [h4 w hw]
    constructor
    · rintro (h | ⟨i, i1, i2⟩)
      · exact Or.inl h
      · exact Or.inr ⟨i, by have := h2 i i1; omega, i2⟩
    · rintro (h | ⟨i, i1, i2⟩)
      · exact Or.inl h
      · refine Or.inr ⟨i, ?_, i2⟩
        by_cases e : i < j
        · exact e
        · have := Nat.mul_le_mul_right st (show j ≤ i by omega)
          omega
  | succ k ih =>
    intro v n j sX hk hn h1 h1b h2 h3 h4
    obtain ⟨n, rfl⟩ : ∃ n', n = n' + 1 := ⟨n - 1, by omega⟩
    have e40 : 40 + nI f = nI (40 + f) := nI_add 40 f
    have ej : A + (j + 1) * st = A + j * st + st := by rw [Nat.add_mul, Nat.one_mul, Nat.add_assoc]
    have h37 : v = A + j * st → ∀ z : Int32, z = nI (cp_nrm f v) → wX_addValues_37 post (wX_addValues_6 post (nI f) (nI B) (nI st) f_cap f_clock f_length f_staged n) (nI f) (nI B) (nI st) (nI (A + j * st)) (nI v) z f_cap f_clock f_length f_staged a_text sX a_starred a_occupied a_misfirePolicy a_concurrencyPolicy a_running a_started a_completed a_dropped a_cancelled a_misfires := by
      intro ev z ez
      subst ez
      have hv64 := cp_nrmb (f := f) (v := v) (by omega)
      unfold wX_addValues_37
      rw [e40, nI_clamp (show 40 + f < 2 ^ 31 by omega)]
      refine ⟨vp_in_nI (by omega) (by decide), vp_in_nI (by omega) (by decide), nm_e (nm_r ((nI_add _ _).trans (congrArg nI ej.symm)) (nm_r (nI_1 v) (ih (v + 1) n (j + 1) _ (by omega) (by omega) (by omega) (by omega) ?_ ?_ ?_)))⟩
      · intro i hi
        by_cases e : i < j
        · have := h2 i e
          omega
        · rw [show i = j by omega]
          omega
      · intro i hi
        rw [pk_uLn hi]
        exact h3 i hi
      · intro w hw
        rw [pk_uLs, cb_or hv64, Bool.or_eq_true, h4 w hw, decide_eq_true_iff]
        constructor
        · rintro ((h | ⟨i, i1, i2⟩) | h)
          · exact Or.inl h
          · exact Or.inr ⟨i, by omega, i2⟩
          · exact Or.inr ⟨j, by omega, by rw [← ev]; exact h⟩
        · rintro (h | ⟨i, i1, i2⟩)
          · exact Or.inl (Or.inl h)
          · by_cases e : i < j
            · exact Or.inl (Or.inr ⟨i, e, i2⟩)
            · rw [show i = j by omega, ← ev] at i2
              exact Or.inr i2
    refine pk_lt B v (fun z => absurd z (by omega)) (fun _ => pk_eq v (A + j * st) (fun e => ?_) (fun e => nm_r (nI_1 v) (ih (v + 1) n j sX (by omega) (by omega) (by omega) h1b (fun i hi => by have := h2 i hi; omega) h3 h4)))
    refine pk_eq f 4 (fun e4 => pk_eq v 7 (fun e7 => h37 e 0 ?_) (fun e7 => h37 e _ ?_)) (fun e4 => h37 e _ ?_)
    · unfold cp_nrm
      rw [if_pos ⟨e4, e7⟩]
      rfl
    · unfold cp_nrm
      rw [if_neg (fun z => e7 z.2)]
    · unfold cp_nrm
      rw [if_neg (fun z => e4 z.1)]
theorem cx_av {f A B st : Nat} (hf : f < 5) (hAB : A ≤ B) (hB : B < 60) (hst : 1 ≤ st) (hst2 : st ≤ 99) {post : SX → Prop} (hp : ∀ sX', cp_AV f A B st a_sets sX' → post (f_cap, f_clock, f_length, f_staged, a_text, sX', a_starred, a_occupied, a_misfirePolicy, a_concurrencyPolicy, a_running, a_started, a_completed, a_dropped, a_cancelled, a_misfires)) : wpX_addValues post (f_cap, f_clock, f_length, f_staged, a_text, a_sets, a_starred, a_occupied, a_misfirePolicy, a_concurrencyPolicy, a_running, a_started, a_completed, a_dropped, a_cancelled, a_misfires) (nI f) (nI A) (nI B) (nI st) := by
  refine ⟨B + 1 - A + 1, ?_⟩
  have t := cx_avloop hf hB hst hst2 hp (B + 1 - A) A (B + 1 - A + 1) 0 a_sets (by omega) (by omega) (by omega) (by omega) (fun i hi => absurd hi (by omega)) (fun i _ => rfl) (fun w _ => ⟨fun h => Or.inl h, fun h => h.elim id (fun ⟨i, i1, _⟩ => absurd i1 (by omega))⟩)
  rw [Nat.zero_mul, Nat.add_zero] at t
  exact t
theorem cp_en0 {o : Option Nat} {A B : Prop} (f : (o = none ∨ o = some 0) → B) (g : ∀ v, o = some v → 1 ≤ v → A) (hb : ∀ v, o = some v → v ≤ 99) : (1 ≤ cp_en o → A) ∧ (¬ 1 ≤ cp_en o → B) := by
  cases o with
  | none => exact br_f (by decide) (f (Or.inl rfl))
  | some v =>
    have := hb v rfl
    by_cases e : v = 0
    · subst e
      exact br_f (by decide) (f (Or.inr rfl))
    · exact br_t (nI_le (a := 1) (by omega) (by omega)) (g v rfl (by omega))
theorem cp_atb {f p q v : Nat} (hpq : p ≤ q) (h : cp_at tx f p q = some v) : v ≤ 99 := by
  unfold cp_at at h
  by_cases h3 : q - p = 3
  · rw [if_pos h3] at h
    have h5 := (cp_nm_b h).2.2.2.2
    have : cf_hi f ≤ 59 := by
      unfold cf_hi
      repeat' split
      all_goals omega
    omega
  · rw [if_neg h3] at h
    exact cp_numb hpq h
end
