/-! the text: what an item is -/
def cp_dg (c : Nat) : Bool := decide (48 ≤ c) && decide (c ≤ 57)
theorem cp_dgt {c : Nat} : cp_dg c = true ↔ 48 ≤ c ∧ c ≤ 57 := by
  unfold cp_dg
  rw [Bool.and_eq_true, decide_eq_true_iff, decide_eq_true_iff]
theorem cp_dgf {c : Nat} (h : ¬ (48 ≤ c ∧ c ≤ 57)) : cp_dg c = false := by
  cases e : cp_dg c
  · rfl
  · exact absurd (cp_dgt.mp e) h
theorem cp_dgn {c : Nat} (h : cp_dg c = false) : ¬ (48 ≤ c ∧ c ≤ 57) := by
  intro z
  rw [cp_dgt.mpr z] at h
  exact Bool.noConfusion h
section
variable {tx : Nat → Nat}
def cp_fd (tx : Nat → Nat) (c : Nat) : Nat → Nat → Nat
  | 0, a => a
  | k + 1, a => if tx a = c then a else cp_fd tx c k (a + 1)
def cp_find (tx : Nat → Nat) (c a b : Nat) : Nat := cp_fd tx c (b - a) a
theorem cp_fds {c : Nat} : ∀ k a, a ≤ cp_fd tx c k a ∧ cp_fd tx c k a ≤ a + k ∧ (∀ j, a ≤ j → j < cp_fd tx c k a → tx j ≠ c) ∧ (cp_fd tx c k a < a + k → tx (cp_fd tx c k a) = c) := by
  intro k
  induction k with
  | zero =>
    intro a
    have e : cp_fd tx c 0 a = a := rfl
    rw [e]
    exact ⟨by omega, by omega, fun j h1 h2 => absurd h2 (by omega), fun h => absurd h (by omega)⟩
  | succ k ih =>
    intro a
    by_cases h : tx a = c
    · have e : cp_fd tx c (k + 1) a = a := if_pos h
      rw [e]
      exact ⟨by omega, by omega, fun j h1 h2 => absurd h2 (by omega), fun _ => h⟩
    · have e : cp_fd tx c (k + 1) a = cp_fd tx c k (a + 1) := if_neg h
      rw [e]
      obtain ⟨i1, i2, i3, i4⟩ := ih (a + 1)
      refine ⟨by omega, by omega, fun j h1 h2 => ?_, fun h => i4 (by omega)⟩
      by_cases e2 : j = a
      · subst e2; exact h
      · exact i3 j (by omega) h2
theorem cp_finds {c a b : Nat} (hab : a ≤ b) : a ≤ cp_find tx c a b ∧ cp_find tx c a b ≤ b ∧ (∀ j, a ≤ j → j < cp_find tx c a b → tx j ≠ c) ∧ (cp_find tx c a b < b → tx (cp_find tx c a b) = c) := by
  obtain ⟨i1, i2, i3, i4⟩ := cp_fds (tx := tx) (c := c) (b - a) a
  unfold cp_find
  exact ⟨i1, by omega, i3, fun h => i4 (by omega)⟩
theorem cp_finde {c a b r : Nat} (h1 : a ≤ r) (h2 : r ≤ b) (h3 : ∀ j, a ≤ j → j < r → tx j ≠ c) (h4 : r < b → tx r = c) : cp_find tx c a b = r := by
  obtain ⟨i1, i2, i3, i4⟩ := cp_finds (tx := tx) (c := c) (a := a) (b := b) (by omega)
  by_cases e1 : cp_find tx c a b < r
  · exact absurd (i4 (by omega)) (h3 _ i1 e1)
  · by_cases e2 : r < cp_find tx c a b
    · exact absurd (h4 (by omega)) (i3 r h1 e2)
    · omega
def cp_nr (tx : Nat → Nat) : Nat → Nat → Nat → Option Nat
  | 0, _, v => some v
  | k + 1, q, v => if cp_dg (tx q) = true then cp_nr tx k (q + 1) (v * 10 + tx q - 48) else none
def cp_num (tx : Nat → Nat) (q b : Nat) : Option Nat := if b - q = 1 ∨ b - q = 2 then cp_nr tx (b - q) q 0 else none
theorem cp_nume {q b v : Nat} (hq : q ≤ b) (h : cp_num tx q b = some v) : (b = q + 1 ∧ cp_dg (tx q) = true ∧ v = tx q - 48) ∨ (b = q + 2 ∧ cp_dg (tx q) = true ∧ cp_dg (tx (q + 1)) = true ∧ v = (tx q - 48) * 10 + (tx (q + 1) - 48)) := by
  unfold cp_num at h
  by_cases h1 : b - q = 1
  · rw [if_pos (Or.inl h1), h1] at h
    have h' : (if cp_dg (tx q) = true then some (0 * 10 + tx q - 48) else none) = some v := h
    by_cases hd : cp_dg (tx q) = true
    · rw [if_pos hd] at h'
      have e := Option.some.inj h'
      exact Or.inl ⟨by omega, hd, by omega⟩
    · rw [if_neg hd] at h'
      exact absurd h' (by simp)
  · by_cases h2 : b - q = 2
    · rw [if_pos (Or.inr h2), h2] at h
      have h' : (if cp_dg (tx q) = true then (if cp_dg (tx (q + 1)) = true then some ((0 * 10 + tx q - 48) * 10 + tx (q + 1) - 48) else none) else none) = some v := h
      by_cases hd : cp_dg (tx q) = true
      · rw [if_pos hd] at h'
        by_cases hd2 : cp_dg (tx (q + 1)) = true
        · rw [if_pos hd2] at h'
          have e := Option.some.inj h'
          have z := cp_dgt.mp hd2
          exact Or.inr ⟨by omega, hd, hd2, by omega⟩
        · rw [if_neg hd2] at h'
          exact absurd h' (by simp)
      · rw [if_neg hd] at h'
        exact absurd h' (by simp)
    · rw [if_neg (by omega)] at h
      exact absurd h (by simp)
theorem cp_num1 {q : Nat} (h : cp_dg (tx q) = true) : cp_num tx q (q + 1) = some (tx q - 48) := by
  unfold cp_num
  rw [show q + 1 - q = 1 by omega, if_pos (Or.inl rfl)]
  show (if cp_dg (tx q) = true then some (0 * 10 + tx q - 48) else none) = _
  rw [if_pos h]
  exact congrArg some (by omega)
theorem cp_num2 {q : Nat} (h : cp_dg (tx q) = true) (h2 : cp_dg (tx (q + 1)) = true) : cp_num tx q (q + 2) = some ((tx q - 48) * 10 + (tx (q + 1) - 48)) := by
  unfold cp_num
  rw [show q + 2 - q = 2 by omega, if_pos (Or.inr rfl)]
  show (if cp_dg (tx q) = true then (if cp_dg (tx (q + 1)) = true then some ((0 * 10 + tx q - 48) * 10 + tx (q + 1) - 48) else none) else none) = _
  rw [if_pos h, if_pos h2]
  have z := cp_dgt.mp h2
  exact congrArg some (by omega)
/-- X's atom -/
def cp_at (tx : Nat → Nat) (f p q : Nat) : Option Nat := if q - p = 3 then cp_nm f (tx p) (tx (p + 1)) (tx (p + 2)) else cp_num tx p q
/-- Y's number and atom -/
def cp_ny (tx : Nat → Nat) (q e : Nat) : Option (Nat × Nat) := if q < e ∧ cp_dg (tx q) = true then (if q + 1 < e ∧ cp_dg (tx (q + 1)) = true then some ((tx q - 48) * 10 + (tx (q + 1) - 48), q + 2) else some (tx q - 48, q + 1)) else none
def cp_ay (tx : Nat → Nat) (f p e : Nat) : Option (Nat × Nat) := if p < e then (if cp_dg (tx p) = true then (match cp_ny tx p e with
    | none => none
    | some x => if cf_lo f ≤ x.1 ∧ x.1 ≤ cf_hi f then some x else none) else (if p + 2 < e then (match cp_nm f (tx p) (tx (p + 1)) (tx (p + 2)) with
    | none => none
    | some v => some (v, p + 3)) else none)) else none
def cp_sy (tx : Nat → Nat) (q e : Nat) : Option (Nat × Nat × Bool) := if q < e ∧ tx q = 47 then (match cp_ny tx (q + 1) e with
    | none => none
    | some x => if x.1 = 0 then none else some (x.1, x.2, true)) else some (1, q, false)
def cp_al (c : Nat) : Prop := c ≠ 42 ∧ c ≠ 44 ∧ c ≠ 45 ∧ c ≠ 47
theorem cp_N1 {q d e v : Nat} (hq : q ≤ d) (hd : d ≤ e) (h : cp_num tx q d = some v) (hn : d < e → cp_dg (tx d) = false) : cp_ny tx q e = some (v, d) := by
  unfold cp_ny
  rcases cp_nume hq h with ⟨rfl, d1, rfl⟩ | ⟨rfl, d1, d2, rfl⟩
  · rw [if_pos ⟨by omega, d1⟩, if_neg]
    intro z
    have := hn z.1
    rw [z.2] at this
    exact Bool.noConfusion this
  · rw [if_pos ⟨by omega, d1⟩, if_pos ⟨by omega, d2⟩]
theorem cp_N2 {q e : Nat} {x : Nat × Nat} (h : cp_ny tx q e = some x) : q < x.2 ∧ x.2 ≤ e ∧ x.2 ≤ q + 2 ∧ (∀ j, q ≤ j → j < x.2 → cp_dg (tx j) = true) ∧ cp_num tx q x.2 = some x.1 := by
  unfold cp_ny at h
  by_cases h1 : q < e ∧ cp_dg (tx q) = true
  · rw [if_pos h1] at h
    by_cases h2 : q + 1 < e ∧ cp_dg (tx (q + 1)) = true
    · rw [if_pos h2] at h
      have e := Option.some.inj h
      subst e
      refine ⟨by show q < q + 2; omega, by show q + 2 ≤ _; omega, Nat.le_refl _, fun j j1 j2 => ?_, cp_num2 h1.2 h2.2⟩
      have j2 : j < q + 2 := j2
      by_cases e : j = q
      · subst e; exact h1.2
      · rw [show j = q + 1 by omega]; exact h2.2
    · rw [if_neg h2] at h
      have e := Option.some.inj h
      subst e
      refine ⟨by show q < q + 1; omega, by show q + 1 ≤ _; omega, by show q + 1 ≤ q + 2; omega, fun j j1 j2 => ?_, cp_num1 h1.2⟩
      have j2 : j < q + 1 := j2
      rw [show j = q by omega]; exact h1.2
  · rw [if_neg h1] at h
    exact absurd h (by simp)
theorem cp_dg_al {c : Nat} (h : cp_dg c = true) : cp_al c := by
  have := cp_dgt.mp h
  exact ⟨by omega, by omega, by omega, by omega⟩
theorem cp_lt_al {c : Nat} (h : (65 ≤ c ∧ c ≤ 90) ∨ (97 ≤ c ∧ c ≤ 122)) : cp_al c := ⟨by omega, by omega, by omega, by omega⟩
theorem cp_A0 {f p d v : Nat} (hp : p ≤ d) (h : cp_at tx f p d = some v) : p < d ∧ cp_al (tx p) := by
  unfold cp_at at h
  by_cases h3 : d - p = 3
  · rw [if_pos h3] at h
    exact ⟨by omega, cp_lt_al (cp_nm_b h).1⟩
  · rw [if_neg h3] at h
    rcases cp_nume hp h with ⟨rfl, d1, _⟩ | ⟨rfl, d1, _, _⟩
    · exact ⟨by omega, cp_dg_al d1⟩
    · exact ⟨by omega, cp_dg_al d1⟩
theorem cp_A1 {f p d e v : Nat} (hp : p ≤ d) (hd : d ≤ e) (h : cp_at tx f p d = some v) (hn : d < e → cp_dg (tx d) = false) (h1 : cf_lo f ≤ v) (h2 : v ≤ cf_hi f) : cp_ay tx f p e = some (v, d) := by
  unfold cp_at at h
  unfold cp_ay
  by_cases h3 : d - p = 3
  · rw [if_pos h3] at h
    have hl := (cp_nm_b h).1
    rw [if_pos (by omega), if_neg, if_pos (by omega), h]
    · show some (v, p + 3) = some (v, d)
      rw [show p + 3 = d by omega]
    · intro z
      have := cp_dgt.mp z
      omega
  · rw [if_neg h3] at h
    have hny := cp_N1 hp hd h hn
    have hdg : cp_dg (tx p) = true := by
      rcases cp_nume hp h with ⟨_, d1, _⟩ | ⟨_, d1, _, _⟩
      · exact d1
      · exact d1
    have hlt : p < e := by
      rcases cp_nume hp h with ⟨_, _⟩ | ⟨_, _⟩
      · omega
      · omega
    rw [if_pos hlt, if_pos hdg, hny]
    show (if cf_lo f ≤ v ∧ v ≤ cf_hi f then some (v, d) else none) = _
    rw [if_pos ⟨h1, h2⟩]
theorem cp_A2 {f p e : Nat} {x : Nat × Nat} (h : cp_ay tx f p e = some x) : p < x.2 ∧ x.2 ≤ e ∧ (∀ j, p ≤ j → j < x.2 → cp_al (tx j)) ∧ cp_at tx f p x.2 = some x.1 ∧ cf_lo f ≤ x.1 ∧ x.1 ≤ cf_hi f := by
  unfold cp_ay at h
  by_cases h0 : p < e
  · rw [if_pos h0] at h
    by_cases h1 : cp_dg (tx p) = true
    · rw [if_pos h1] at h
      cases hny : cp_ny tx p e with
      | none => rw [hny] at h; exact absurd h (by simp)
      | some y =>
        rw [hny] at h
        have h : (if cf_lo f ≤ y.1 ∧ y.1 ≤ cf_hi f then some y else none) = some x := h
        by_cases h2 : cf_lo f ≤ y.1 ∧ y.1 ≤ cf_hi f
        · rw [if_pos h2] at h
          have e := Option.some.inj h
          subst e
          obtain ⟨n1, n2, n3, n4, n5⟩ := cp_N2 hny
          refine ⟨n1, n2, fun j j1 j2 => cp_dg_al (n4 j j1 j2), ?_, h2.1, h2.2⟩
          unfold cp_at
          rw [if_neg (by omega)]
          exact n5
        · rw [if_neg h2] at h
          exact absurd h (by simp)
    · rw [if_neg h1] at h
      by_cases h2 : p + 2 < e
      · rw [if_pos h2] at h
        cases hnm : cp_nm f (tx p) (tx (p + 1)) (tx (p + 2)) with
        | none => rw [hnm] at h; exact absurd h (by simp)
        | some v =>
          rw [hnm] at h
          have e := Option.some.inj h
          subst e
          obtain ⟨l1, l2, l3, l4, l5⟩ := cp_nm_b hnm
          refine ⟨by show p < p + 3; omega, by show p + 3 ≤ _; omega, fun j j1 j2 => ?_, ?_, l4, l5⟩
          · have j2 : j < p + 3 := j2
            by_cases e1 : j = p
            · subst e1; exact cp_lt_al l1
            · by_cases e2 : j = p + 1
              · subst e2; exact cp_lt_al l2
              · rw [show j = p + 2 by omega]; exact cp_lt_al l3
          · show cp_at tx f p (p + 3) = some v
            unfold cp_at
            rw [if_pos (by omega)]
            exact hnm
      · rw [if_neg h2] at h
        exact absurd h (by simp)
  · rw [if_neg h0] at h
    exact absurd h (by simp)
theorem cp_S1 {S b e st : Nat} (hS : S ≤ b) (hbe : b ≤ e) (hb : b < e → tx b = 44) (h1 : S < b → tx S = 47 ∧ cp_num tx (S + 1) b = some st) (h2 : ¬ S < b → st = 1) (h3 : 1 ≤ st) : cp_sy tx S e = some (st, b, decide (S < b)) := by
  have hnd : b < e → cp_dg (tx b) = false := fun z => by rw [hb z]; decide
  unfold cp_sy
  by_cases hlt : S < b
  · obtain ⟨e1, e2⟩ := h1 hlt
    rw [if_pos ⟨by omega, e1⟩, cp_N1 (by omega) hbe e2 hnd]
    show (if st = 0 then none else some (st, b, true)) = _
    rw [if_neg (by omega), decide_eq_true hlt]
  · have eS : S = b := by omega
    subst eS
    rw [if_neg, h2 hlt, decide_eq_false hlt]
    intro z
    rw [hb z.1] at z
    exact absurd z.2 (by decide)
theorem cp_S2 {q e : Nat} {x : Nat × Nat × Bool} (h : cp_sy tx q e = some x) : (x.2.2 = true ∧ q < e ∧ tx q = 47 ∧ q + 1 < x.2.1 ∧ x.2.1 ≤ e ∧ (∀ j, q + 1 ≤ j → j < x.2.1 → cp_dg (tx j) = true) ∧ cp_num tx (q + 1) x.2.1 = some x.1 ∧ 1 ≤ x.1) ∨ (x.2.2 = false ∧ x.2.1 = q ∧ x.1 = 1 ∧ ¬ (q < e ∧ tx q = 47)) := by
  unfold cp_sy at h
  by_cases h1 : q < e ∧ tx q = 47
  · rw [if_pos h1] at h
    cases hny : cp_ny tx (q + 1) e with
    | none => rw [hny] at h; exact absurd h (by simp)
    | some y =>
      rw [hny] at h
      have h : (if y.1 = 0 then none else some (y.1, y.2, true)) = some x := h
      by_cases h2 : y.1 = 0
      · rw [if_pos h2] at h; exact absurd h (by simp)
      · rw [if_neg h2] at h
        have e := Option.some.inj h
        subst e
        obtain ⟨n1, n2, n3, n4, n5⟩ := cp_N2 hny
        exact Or.inl ⟨rfl, h1.1, h1.2, n1, n2, n4, n5, by show 1 ≤ y.1; omega⟩
  · rw [if_neg h1] at h
    have e := Option.some.inj h
    subst e
    exact Or.inr ⟨rfl, rfl, rfl, h1⟩
theorem cp_numb {q b v : Nat} (hq : q ≤ b) (h : cp_num tx q b = some v) : v ≤ 99 := by
  rcases cp_nume hq h with ⟨_, d1, rfl⟩ | ⟨_, d1, d2, rfl⟩
  · have := cp_dgt.mp d1
    omega
  · have := cp_dgt.mp d1
    have := cp_dgt.mp d2
    omega
/-- an item from a to b means the values from A to B by steps of st -/
def cp_I (tx : Nat → Nat) (f a b A B st : Nat) : Prop :=
  (cp_find tx 47 a b < b → cp_num tx (cp_find tx 47 a b + 1) b = some st) ∧ (¬ cp_find tx 47 a b < b → st = 1) ∧ 1 ≤ st ∧
  ((cp_find tx 47 a b = a + 1 ∧ tx a = 42 ∧ A = cf_lo f ∧ B = cf_hi f) ∨
   (¬ (cp_find tx 47 a b = a + 1 ∧ tx a = 42) ∧ cp_at tx f a (cp_find tx 45 a (cp_find tx 47 a b)) = some A ∧
    (cp_find tx 45 a (cp_find tx 47 a b) < cp_find tx 47 a b → cp_at tx f (cp_find tx 45 a (cp_find tx 47 a b) + 1) (cp_find tx 47 a b) = some B) ∧
    (¬ cp_find tx 45 a (cp_find tx 47 a b) < cp_find tx 47 a b → B = if cp_find tx 47 a b < b then cf_hi f else A) ∧ cf_lo f ≤ A ∧ A ≤ B ∧ B ≤ cf_hi f))
theorem cp_Ib {f a b A B st : Nat} (hf : f < 5) (hab : a ≤ b) (h : cp_I tx f a b A B st) : cf_lo f ≤ A ∧ A ≤ B ∧ B ≤ cf_hi f ∧ 1 ≤ st ∧ st ≤ 99 := by
  obtain ⟨h1, h2, h3, h4⟩ := h
  have hs := cp_finds (tx := tx) (c := 47) hab
  have hst : st ≤ 99 := by
    by_cases e : cp_find tx 47 a b < b
    · exact cp_numb (by omega) (h1 e)
    · rw [h2 e]; decide
  rcases h4 with ⟨_, _, rfl, rfl⟩ | ⟨_, _, _, _, i1, i2, i3⟩
  · exact ⟨Nat.le_refl _, cf_lohi hf, Nat.le_refl _, h3, hst⟩
  · exact ⟨i1, i2, i3, h3, hst⟩
theorem cp_Iu {f a b A B st A' B' st' : Nat} (h : cp_I tx f a b A B st) (h' : cp_I tx f a b A' B' st') : A = A' ∧ B = B' ∧ st = st' := by
  obtain ⟨h1, h2, h3, h4⟩ := h
  obtain ⟨g1, g2, g3, g4⟩ := h'
  have est : st = st' := by
    by_cases e : cp_find tx 47 a b < b
    · exact Option.some.inj ((h1 e).symm.trans (g1 e))
    · rw [h2 e, g2 e]
  rcases h4 with ⟨s1, s2, rfl, rfl⟩ | ⟨ns, i1, i2, i3, i4, i5, i6⟩
  · rcases g4 with ⟨t1, t2, rfl, rfl⟩ | ⟨nt, _⟩
    · exact ⟨rfl, rfl, est⟩
    · exact absurd ⟨s1, s2⟩ nt
  · rcases g4 with ⟨t1, t2, rfl, rfl⟩ | ⟨nt, j1, j2, j3, j4, j5, j6⟩
    · exact absurd ⟨t1, t2⟩ ns
    · have eA : A = A' := Option.some.inj (i1.symm.trans j1)
      refine ⟨eA, ?_, est⟩
      by_cases e : cp_find tx 45 a (cp_find tx 47 a b) < cp_find tx 47 a b
      · exact Option.some.inj ((i2 e).symm.trans (j2 e))
      · rw [i3 e, j3 e, eA]
/-- Y's shape of an item that ends at p -/
def cp_J (tx : Nat → Nat) (f a e A B st p : Nat) : Prop :=
  (tx a = 42 ∧ (∃ s, cp_sy tx (a + 1) e = some (st, p, s)) ∧ A = cf_lo f ∧ B = cf_hi f) ∨
  (tx a ≠ 42 ∧ ∃ q, cp_ay tx f a e = some (A, q) ∧
    ((q < e ∧ tx q = 45 ∧ ∃ q2, cp_ay tx f (q + 1) e = some (B, q2) ∧ A ≤ B ∧ ∃ s, cp_sy tx q2 e = some (st, p, s)) ∨
     (¬ (q < e ∧ tx q = 45) ∧ ∃ s, cp_sy tx q e = some (st, p, s) ∧ B = if s = true then cf_hi f else A)))
theorem cp_IJ {f a b e A B st : Nat} (hab : a ≤ b) (hbe : b ≤ e) (hb : b < e → tx b = 44) (h : cp_I tx f a b A B st) : a < b ∧ cp_J tx f a e A B st b := by
  obtain ⟨h1, h2, h3, h4⟩ := h
  obtain ⟨s1, s2, s3, s4⟩ := cp_finds (tx := tx) (c := 47) hab
  have hsy := cp_S1 (tx := tx) s2 hbe hb (fun z => ⟨s4 z, h1 z⟩) h2 h3
  have hnS : cp_find tx 47 a b < e → cp_dg (tx (cp_find tx 47 a b)) = false := by
    intro z
    by_cases z2 : cp_find tx 47 a b < b
    · rw [s4 z2]; decide
    · have eS : cp_find tx 47 a b = b := by omega
      rw [eS] at z ⊢
      rw [hb z]; decide
  obtain ⟨S, hS⟩ : ∃ S, cp_find tx 47 a b = S := ⟨_, rfl⟩
  rw [hS] at h1 h2 h4 s1 s2 s3 s4 hsy hnS
  rcases h4 with ⟨rfl, t2, rfl, rfl⟩ | ⟨ns, i1, i2, i3, i4, i5, i6⟩
  · exact ⟨by omega, Or.inl ⟨t2, ⟨_, hsy⟩, rfl, rfl⟩⟩
  · obtain ⟨d1, d2, d3, d4⟩ := cp_finds (tx := tx) (c := 45) s1
    obtain ⟨D, hD⟩ : ∃ D, cp_find tx 45 a S = D := ⟨_, rfl⟩
    rw [hD] at d1 d2 d3 d4 i1 i2 i3
    obtain ⟨p1, p2⟩ := cp_A0 d1 i1
    refine ⟨by omega, Or.inr ⟨p2.1, D, ?_, ?_⟩⟩
    · refine cp_A1 d1 (by omega) i1 (fun z => ?_) i4 (by omega)
      by_cases e1 : D < S
      · rw [d4 e1]; decide
      · have eD : D = S := by omega
        rw [eD] at z ⊢
        exact hnS z
    · by_cases e1 : D < S
      · refine Or.inl ⟨by omega, d4 e1, S, ?_, i5, ⟨_, hsy⟩⟩
        exact cp_A1 (by omega) (by omega) (i2 e1) hnS (by omega) i6
      · have eD : D = S := by omega
        subst eD
        refine Or.inr ⟨fun z => ?_, ⟨_, hsy, ?_⟩⟩
        · by_cases e2 : D < b
          · rw [s4 e2] at z
            exact absurd z.2 (by decide)
          · have eb : D = b := by omega
            subst eb
            rw [hb z.1] at z
            exact absurd z.2 (by decide)
        · rw [i3 (by omega)]
          by_cases e2 : D < b
          · rw [if_pos e2, if_pos (decide_eq_true e2)]
          · rw [if_neg e2, if_neg (by rw [decide_eq_false e2]; decide)]
theorem cp_JI {f a b e A B st p : Nat} (hae : a < e) (hbe : b ≤ e) (hab : a ≤ b) (hb : b < e → tx b = 44) (h : cp_J tx f a e A B st p) (hA : tx a ≠ 44) : a < p ∧ p ≤ b ∧ cf_lo f ≤ A ∧ B ≤ cf_hi f ∧ 1 ≤ st ∧ st ≤ 99 ∧ (p = b → cp_I tx f a b A B st) := by
  have hstep : ∀ q s, q ≤ e → cp_sy tx q e = some (st, p, s) → (q ≤ p ∧ (p ≤ e) ∧ 1 ≤ st ∧ st ≤ 99 ∧ (∀ j, q ≤ j → j < p → tx j ≠ 44) ∧ (s = true → q < p ∧ tx q = 47 ∧ cp_num tx (q + 1) p = some st) ∧ (s = false → p = q ∧ st = 1)) := by
    intro q s hq hs
    rcases cp_S2 hs with ⟨g1, g2, g3, g4, g5, g6, g7, g8⟩ | ⟨g1, g2, g3, g4⟩
    · have g1 : s = true := g1
      have g4 : q + 1 < p := g4
      have g5 : p ≤ e := g5
      have g6 : ∀ j, q + 1 ≤ j → j < p → cp_dg (tx j) = true := g6
      have g7 : cp_num tx (q + 1) p = some st := g7
      have g8 : 1 ≤ st := g8
      refine ⟨by omega, g5, g8, cp_numb (by omega) g7, fun j j1 j2 => ?_, fun _ => ⟨by omega, g3, g7⟩, fun z => ?_⟩
      · by_cases e1 : j = q
        · rw [e1, g3]; decide
        · exact (cp_dg_al (g6 j (by omega) j2)).2.1
      · rw [g1] at z; exact Bool.noConfusion z
    · have g1 : s = false := g1
      have g2 : p = q := g2
      have g3 : st = 1 := g3
      refine ⟨by omega, by omega, by omega, by omega, fun j j1 j2 => absurd j2 (by omega), fun z => ?_, fun _ => ⟨g2, g3⟩⟩
      rw [g1] at z; exact Bool.noConfusion z
  have hle : ∀ p', p' ≤ e → (∀ j, a ≤ j → j < p' → tx j ≠ 44) → p' ≤ b := by
    intro p' h1 h2
    by_cases z : p' ≤ b
    · exact z
    · exact absurd (hb (by omega)) (h2 b hab (by omega))
  rcases h with ⟨t1, ⟨s, hs⟩, rfl, rfl⟩ | ⟨t1, q, hq, h⟩
  · obtain ⟨g1, g2, g3, g4, g5, g6, g7⟩ := hstep _ s (by omega) hs
    have hpb := hle p g2 (fun j j1 j2 => by
      by_cases e1 : j = a
      · rw [e1, t1]; decide
      · exact g5 j (by omega) j2)
    refine ⟨by omega, hpb, Nat.le_refl _, Nat.le_refl _, g3, g4, fun ep => ?_⟩
    subst ep
    have eS : cp_find tx 47 a p = a + 1 := by
      refine cp_finde (by omega) (by omega) (fun j j1 j2 => ?_) (fun z => ?_)
      · rw [show j = a by omega, t1]; decide
      · cases s with
        | true => exact (g6 rfl).2.1
        | false => have := (g7 rfl).1; omega
    unfold cp_I
    rw [eS]
    refine ⟨fun z => ?_, fun z => ?_, g3, Or.inl ⟨rfl, t1, rfl, rfl⟩⟩
    · cases s with
      | true => exact (g6 rfl).2.2
      | false => have := (g7 rfl).1; omega
    · cases s with
      | true => have := (g6 rfl).1; omega
      | false => exact (g7 rfl).2
  · obtain ⟨k1, k2, k3, k4, k5, k6⟩ := cp_A2 hq
    have k1 : a < q := k1
    have k2 : q ≤ e := k2
    have k3 : ∀ j, a ≤ j → j < q → cp_al (tx j) := k3
    have k4 : cp_at tx f a q = some A := k4
    have k5 : cf_lo f ≤ A := k5
    have k6 : A ≤ cf_hi f := k6
    rcases h with ⟨r1, r2, q2, hq2, hAB, s, hs⟩ | ⟨r1, s, hs, hB⟩
    · obtain ⟨l1, l2, l3, l4, l5, l6⟩ := cp_A2 hq2
      have l1 : q + 1 < q2 := l1
      have l2 : q2 ≤ e := l2
      have l3 : ∀ j, q + 1 ≤ j → j < q2 → cp_al (tx j) := l3
      have l4 : cp_at tx f (q + 1) q2 = some B := l4
      have l6 : B ≤ cf_hi f := l6
      obtain ⟨g1, g2, g3, g4, g5, g6, g7⟩ := hstep _ s l2 hs
      have hch : ∀ j, a ≤ j → j < q2 → tx j ≠ 44 ∧ tx j ≠ 47 := by
        intro j j1 j2
        by_cases e1 : j < q
        · exact ⟨(k3 j j1 e1).2.1, (k3 j j1 e1).2.2.2⟩
        · by_cases e2 : j = q
          · rw [e2, r2]; exact ⟨by decide, by decide⟩
          · exact ⟨(l3 j (by omega) j2).2.1, (l3 j (by omega) j2).2.2.2⟩
      have hpb := hle p g2 (fun j j1 j2 => by
        by_cases e1 : j < q2
        · exact (hch j j1 e1).1
        · exact g5 j (by omega) j2)
      refine ⟨by omega, hpb, k5, l6, g3, g4, fun ep => ?_⟩
      subst ep
      have eS : cp_find tx 47 a p = q2 := by
        refine cp_finde (by omega) (by omega) (fun j j1 j2 => (hch j j1 j2).2) (fun z => ?_)
        cases s with
        | true => exact (g6 rfl).2.1
        | false => have := (g7 rfl).1; omega
      have eD : cp_find tx 45 a q2 = q := cp_finde (by omega) (by omega) (fun j j1 j2 => (k3 j j1 j2).2.2.1) (fun _ => r2)
      unfold cp_I
      rw [eS, eD]
      refine ⟨fun z => ?_, fun z => ?_, g3, Or.inr ⟨fun z => t1 z.2, k4, fun _ => l4, fun z => absurd (by omega) z, k5, hAB, l6⟩⟩
      · cases s with
        | true => exact (g6 rfl).2.2
        | false => have := (g7 rfl).1; omega
      · cases s with
        | true => have := (g6 rfl).1; omega
        | false => exact (g7 rfl).2
    · obtain ⟨g1, g2, g3, g4, g5, g6, g7⟩ := hstep _ s k2 hs
      have hpb := hle p g2 (fun j j1 j2 => by
        by_cases e1 : j < q
        · exact (k3 j j1 e1).2.1
        · exact g5 j (by omega) j2)
      have hBh : B ≤ cf_hi f := by
        rw [hB]
        split
        · exact Nat.le_refl _
        · exact k6
      refine ⟨by omega, hpb, k5, hBh, g3, g4, fun ep => ?_⟩
      subst ep
      have eS : cp_find tx 47 a p = q := by
        refine cp_finde (by omega) (by omega) (fun j j1 j2 => (k3 j j1 j2).2.2.2) (fun z => ?_)
        cases s with
        | true => exact (g6 rfl).2.1
        | false => have := (g7 rfl).1; omega
      have eD : cp_find tx 45 a q = q := cp_finde (by omega) (by omega) (fun j j1 j2 => (k3 j j1 j2).2.2.1) (fun z => absurd z (by omega))
      unfold cp_I
      rw [eS, eD]
      cases s with
      | true =>
        obtain ⟨w1, w2, w3⟩ := g6 rfl
        rw [if_pos rfl] at hB
        subst hB
        exact ⟨fun _ => w3, fun z => absurd w1 z, g3, Or.inr ⟨fun z => t1 z.2, k4, fun z => absurd z (by omega), fun _ => (if_pos w1).symm, k5, k6, Nat.le_refl _⟩⟩
      | false =>
        obtain ⟨w1, w2⟩ := g7 rfl
        rw [if_neg (by decide)] at hB
        subst hB
        exact ⟨fun z => absurd z (by omega), fun _ => w2, g3, Or.inr ⟨fun z => t1 z.2, k4, fun z => absurd z (by omega), fun _ => (if_neg (by omega)).symm, k5, Nat.le_refl _, k6⟩⟩
end
