/-! compile: the fields of the text, X's side -/
def cp_is (tx : Nat → Nat) (i : Nat) : Bool := !decide (tx i = 32) && (decide (i = 0) || decide (tx (i - 1) = 32))
def cp_ie (tx : Nat → Nat) (len p : Nat) : Prop := tx p ≠ 32 ∧ (p + 1 = len ∨ tx (p + 1) = 32)
def cp_R (tx : Nat → Nat) (len : Nat) : Prop := cs_n (cp_is tx) len = 5 ∧ ∀ p, p < len → cp_is tx p = true → ∃ g, cp_P tx (cs_n (cp_is tx) p) (cp_find tx 32 p len) (cp_find tx 32 p len + 1) p (fun _ => False) g
section
variable {tx : Nat → Nat}
theorem cp_is0 {i : Nat} (h : tx i = 32) : cp_is tx i = false := by
  unfold cp_is
  rw [decide_eq_true h]
  rfl
theorem cp_is1 {i : Nat} (h : tx i ≠ 32) (h2 : i = 0 ∨ tx (i - 1) = 32) : cp_is tx i = true := by
  unfold cp_is
  rw [decide_eq_false h]
  rcases h2 with h2 | h2
  · rw [decide_eq_true h2]; rfl
  · rw [decide_eq_true h2, Bool.or_true]; rfl
theorem cp_is2 {i : Nat} (h : i ≠ 0) (h2 : tx (i - 1) ≠ 32) : cp_is tx i = false := by
  unfold cp_is
  rw [decide_eq_false h, decide_eq_false h2]
  exact Bool.and_false _
theorem cp_isn {i : Nat} (h : cp_is tx i = true) : tx i ≠ 32 := by
  intro e
  rw [cp_is0 e] at h
  exact Bool.noConfusion h
theorem cp_nlt {i p : Nat} (h1 : p < i) (h2 : cp_is tx p = true) : cs_n (cp_is tx) p < cs_n (cp_is tx) i := by
  have t := cs_n_le (Q := cp_is tx) (show p + 1 ≤ i by omega)
  rw [cs_n_t h2] at t
  omega
theorem cp_nex : ∀ n f, f < cs_n (cp_is tx) n → ∃ p, p < n ∧ cp_is tx p = true ∧ cs_n (cp_is tx) p = f := by
  intro n
  induction n with
  | zero => intro f h; exact absurd h (Nat.not_lt_zero f)
  | succ n ih =>
    intro f h
    cases e : cp_is tx n
    · rw [cs_n_f e] at h
      obtain ⟨p, p1, p2, p3⟩ := ih f h
      exact ⟨p, by omega, p2, p3⟩
    · rw [cs_n_t e] at h
      by_cases e2 : f = cs_n (cp_is tx) n
      · exact ⟨n, by omega, e, e2.symm⟩
      · obtain ⟨p, p1, p2, p3⟩ := ih f (by omega)
        exact ⟨p, by omega, p2, p3⟩
theorem cp_endlt {p len : Nat} (hp : p < len) (h : tx p ≠ 32) : p < cp_find tx 32 p len ∧ cp_find tx 32 p len ≤ len := by
  obtain ⟨s1, s2, s3, s4⟩ := cp_finds (tx := tx) (c := 32) (show p ≤ len by omega)
  refine ⟨?_, s2⟩
  by_cases e : p < cp_find tx 32 p len
  · exact e
  · have e2 : cp_find tx 32 p len = p := by omega
    rw [e2] at s4
    exact absurd (s4 hp) h
theorem cp_npos : ∀ i, tx i ≠ 32 → 1 ≤ cs_n (cp_is tx) (i + 1) := by
  intro i
  induction i with
  | zero =>
    intro h
    rw [cs_n_t (cp_is1 h (Or.inl rfl))]
    omega
  | succ i ih =>
    intro h
    by_cases e : tx i = 32
    · rw [cs_n_t (cp_is1 h (Or.inr e))]
      omega
    · have t := ih e
      have t2 := cs_n_le (Q := cp_is tx) (show i + 1 ≤ i + 1 + 1 by omega)
      omega
theorem cp_ngrow {a : Nat} (ha : tx a = 32) : ∀ k, tx (a + k) ≠ 32 → cs_n (cp_is tx) a < cs_n (cp_is tx) (a + k + 1) := by
  intro k
  induction k with
  | zero => intro h; exact absurd ha h
  | succ k ih =>
    intro h
    by_cases e : tx (a + k) = 32
    · have t : cp_is tx (a + (k + 1)) = true := cp_is1 h (Or.inr (by rw [show a + (k + 1) - 1 = a + k by omega]; exact e))
      rw [cs_n_t t]
      have t2 := cs_n_le (Q := cp_is tx) (show a ≤ a + (k + 1) by omega)
      omega
    · have t := ih e
      have t2 := cs_n_le (Q := cp_is tx) (show a + k + 1 ≤ a + (k + 1) + 1 by omega)
      omega
theorem cp_nend {p len : Nat} (hp : p < len) (h : cp_is tx p = true) : cp_ie tx len (cp_find tx 32 p len - 1) ∧ cs_n (cp_is tx) (cp_find tx 32 p len) = cs_n (cp_is tx) p + 1 := by
  obtain ⟨s1, s2, s3, s4⟩ := cp_finds (tx := tx) (c := 32) (show p ≤ len by omega)
  obtain ⟨l1, l2⟩ := cp_endlt hp (cp_isn h)
  refine ⟨⟨s3 _ (by omega) (by omega), ?_⟩, ?_⟩
  · by_cases e : cp_find tx 32 p len < len
    · exact Or.inr (by rw [show cp_find tx 32 p len - 1 + 1 = cp_find tx 32 p len by omega]; exact s4 e)
    · exact Or.inl (by omega)
  · rw [← cs_n_t h]
    refine cs_n_eq' (by omega) (fun q q1 q2 => cp_is2 (by omega) (s3 (q - 1) (by omega) (by omega)))
end
section
variable {tx : Nat → Nat} {f_cap f_clock f_length f_staged : Int32} {a_text : Nat → Int32} {a_sets : Nat → Int64} {a_starred a_occupied a_misfirePolicy a_concurrencyPolicy a_running a_started a_completed a_dropped a_cancelled a_misfires : Nat → Int32}
theorem cx_textloop (hT : ∀ j, a_text j = nI (tx j)) (hC : ∀ j, tx j ≤ 126) {len : Nat} (hl : len ≤ 64) {post : Int32 → SX → Prop} (hS : ∀ sX' st', cs_n (cp_is tx) len = 5 → (∀ p, p < len → cp_is tx p = true → ∃ g, cp_P tx (cs_n (cp_is tx) p) (cp_find tx 32 p len) (cp_find tx 32 p len + 1) p (fun _ => False) g ∧ (∀ v, v < 64 → (cb_bit (sX' (40 + cs_n (cp_is tx) p)) v = true ↔ g v)) ∧ st' (40 + cs_n (cp_is tx) p) = cb_b (decide (tx p = 42))) → (∀ j, j < 40 → sX' j = a_sets j ∧ st' j = a_starred j) → post 1 (f_cap, f_clock, nI len, f_staged, a_text, sX', st', a_occupied, a_misfirePolicy, a_concurrencyPolicy, a_running, a_started, a_completed, a_dropped, a_cancelled, a_misfires)) (hF : ¬ cp_R tx len → ∀ sX' st', (∀ j, j < 40 → sX' j = a_sets j ∧ st' j = a_starred j) → post 0 (f_cap, f_clock, nI len, f_staged, a_text, sX', st', a_occupied, a_misfirePolicy, a_concurrencyPolicy, a_running, a_started, a_completed, a_dropped, a_cancelled, a_misfires)) : ∀ (k i n : Nat) (sX : Nat → Int64) (st : Nat → Int32), i + k = len → k < n → cs_n (cp_is tx) i ≤ 5 → (∀ p, p < i → cp_is tx p = true → ∃ g, cp_P tx (cs_n (cp_is tx) p) (cp_find tx 32 p len) (cp_find tx 32 p len + 1) p (fun _ => False) g ∧ (∀ v, v < 64 → (cb_bit (sX (40 + cs_n (cp_is tx) p)) v = true ↔ g v)) ∧ st (40 + cs_n (cp_is tx) p) = cb_b (decide (tx p = 42))) → (∀ j, j < 40 → sX j = a_sets j ∧ st j = a_starred j) → wX_parseText_4 post n (nI (cs_n (cp_is tx) i)) (nI i) f_cap f_clock (nI len) f_staged a_text sX st a_occupied a_misfirePolicy a_concurrencyPolicy a_running a_started a_completed a_dropped a_cancelled a_misfires := by
  intro k
  induction k with
  | zero =>
    intro i n sX st hk hn h5 hd hfr
    obtain ⟨n, rfl⟩ : ∃ n', n = n' + 1 := ⟨n - 1, by omega⟩
    have ei : i = len := by omega
    subst ei
    exact pk_le i i (fun _ => pk_eq (cs_n (cp_is tx) i) 5 (fun z => hS sX st z hd hfr) (fun z => hF (fun hR => z hR.1) sX st hfr)) (fun z => absurd z (by omega))
  | succ k ih =>
    intro i n sX st hk hn h5 hd hfr
    obtain ⟨n, rfl⟩ : ∃ n', n = n' + 1 := ⟨n - 1, by omega⟩
    have hci := hC i
    have hskip : cp_is tx i = false → ∀ x, x = nI i + 1 → wX_parseText_4 post n (nI (cs_n (cp_is tx) i)) x f_cap f_clock (nI len) f_staged a_text sX st a_occupied a_misfirePolicy a_concurrencyPolicy a_running a_started a_completed a_dropped a_cancelled a_misfires := by
      intro hf
      have e := cs_n_f hf
      refine nm_r (nI_1 i) ?_
      rw [← e]
      refine ih (i + 1) n sX st (by omega) (by omega) (by omega) (fun p p1 p2 => ?_) hfr
      by_cases e2 : p = i
      · subst e2; rw [hf] at p2; exact Bool.noConfusion p2
      · exact hd p (by omega) p2
    have h40 : cp_is tx i = true → wX_parseText_40 post (wX_parseText_4 post n) (nI (cs_n (cp_is tx) i)) (nI i) f_cap f_clock (nI len) f_staged a_text sX st a_occupied a_misfirePolicy a_concurrencyPolicy a_running a_started a_completed a_dropped a_cancelled a_misfires := by
      intro ht
      have e := cs_n_t ht
      have hle := cs_n_le (Q := cp_is tx) (show i + 1 ≤ len by omega)
      obtain ⟨l1, l2⟩ := cp_endlt (show i < len by omega) (cp_isn ht)
      unfold wX_parseText_40
      refine pk_eq (cs_n (cp_is tx) i) 5 (fun z => hF (fun hR => ?_) sX st hfr) (fun z => cx_find hT hC 32 (by decide) (by omega) hl ?_)
      · have := hR.1
        omega
      · have hfr2 : ∀ sX' : Nat → Int64, (∀ j, j ≠ 40 + cs_n (cp_is tx) i → sX' j = sX j) → ∀ j, j < 40 → sX' j = a_sets j ∧ (upd st (40 + cs_n (cp_is tx) i) (cb_b (decide (tx i = 42)))) j = a_starred j := fun sX' h j hj => ⟨(h j (by omega)).trans (hfr j hj).1, (pk_un (by omega)).trans (hfr j hj).2⟩
        refine cx_field hT hC (by omega) l1 (by omega) (fun sX' g' hP hb hs => ?_) (fun hno sX' hs => ?_)
        · refine br_f (by decide) (nm_r ((nI_1 _).trans (congrArg nI e.symm)) (nm_r (nI_1 i) (ih (i + 1) n sX' _ (by omega) (by omega) (by omega) (fun p p1 p2 => ?_) (hfr2 sX' hs))))
          by_cases e2 : p = i
          · subst e2
            exact ⟨g', hP, hb, pk_us⟩
          · have hlt := cp_nlt (show p < i by omega) p2
            obtain ⟨g, g1, g2, g3⟩ := hd p (by omega) p2
            refine ⟨g, g1, fun v hv => ?_, ?_⟩
            · rw [hs _ (by omega)]; exact g2 v hv
            · rw [pk_un (by omega)]; exact g3
        · refine br_t rfl (hF (fun hR => ?_) sX' _ (hfr2 sX' hs))
          obtain ⟨g, hg⟩ := hR.2 i (by omega) ht
          exact hno g hg
    refine pk_le len i (fun z => absurd z (by omega)) (fun _ => ⟨vp_in_nI (by omega) (by decide), pk_eq (tx i) 32 (fun z => hskip (cp_is0 z)) (fun z => pk_eq i 0 (fun z0 => h40 (cp_is1 z (Or.inl z0))) (fun z0 => ?_)) (cp_txt hT (by omega))⟩)
    have em : nI i - 1 = nI (i - 1) := by
      obtain ⟨d, rfl⟩ : ∃ d, i = d + 1 := ⟨i - 1, by omega⟩
      exact nI_pred d
    rw [em]
    exact ⟨vp_in_nI (by omega) (by decide), pk_eq (tx (i - 1)) 32 (fun z2 => h40 (cp_is1 z (Or.inr z2))) (fun z2 => hskip (cp_is2 z0 z2)) (cp_txt hT (by omega)) rfl (by have := hC (i - 1); omega)⟩
theorem cx_compile (hT : ∀ j, a_text j = nI (tx j)) (hC : ∀ j, tx j ≤ 126) {len : Nat} (hl : len ≤ 64) {post : Int32 → SX → Prop} (hS : ∀ sX' st', cs_n (cp_is tx) len = 5 → (∀ p, p < len → cp_is tx p = true → ∃ g, cp_P tx (cs_n (cp_is tx) p) (cp_find tx 32 p len) (cp_find tx 32 p len + 1) p (fun _ => False) g ∧ (∀ v, v < 64 → (cb_bit (sX' (40 + cs_n (cp_is tx) p)) v = true ↔ g v)) ∧ st' (40 + cs_n (cp_is tx) p) = cb_b (decide (tx p = 42))) → (∀ j, j < 40 → sX' j = a_sets j ∧ st' j = a_starred j) → post 1 (f_cap, f_clock, 0, 1, a_text, sX', st', a_occupied, a_misfirePolicy, a_concurrencyPolicy, a_running, a_started, a_completed, a_dropped, a_cancelled, a_misfires)) (hF : ¬ cp_R tx len → ∀ sX' st', (∀ j, j < 40 → sX' j = a_sets j ∧ st' j = a_starred j) → post 0 (f_cap, f_clock, 0, 0, a_text, sX', st', a_occupied, a_misfirePolicy, a_concurrencyPolicy, a_running, a_started, a_completed, a_dropped, a_cancelled, a_misfires)) : wpX_compile post (f_cap, f_clock, nI len, f_staged, a_text, a_sets, a_starred, a_occupied, a_misfirePolicy, a_concurrencyPolicy, a_running, a_started, a_completed, a_dropped, a_cancelled, a_misfires) := by
  unfold wpX_compile
  dsimp only
  refine ⟨len + 1, cx_textloop hT hC hl (fun sX' st' z hd hfr => ?_) (fun hno sX' st' hfr => ?_) len 0 (len + 1) a_sets a_starred (by omega) (by omega) (by show 0 ≤ 5; omega) (fun p p1 _ => absurd p1 (by omega)) (fun j _ => ⟨rfl, rfl⟩)⟩
  · exact ⟨cb_nar (Or.inr rfl), cb_fit (Or.inr rfl), cb_nar (Or.inr rfl), hS sX' st' z hd hfr⟩
  · exact ⟨cb_nar (Or.inl rfl), cb_fit (Or.inl rfl), cb_nar (Or.inl rfl), hF hno sX' st' hfr⟩
end
