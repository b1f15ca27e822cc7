/-! X's parser: one item, one field -/
section
variable {tx : Nat → Nat} {f_cap f_clock f_length f_staged : Int32} {a_text : Nat → Int32} {a_sets : Nat → Int64} {a_starred a_occupied a_misfirePolicy a_concurrencyPolicy a_running a_started a_completed a_dropped a_cancelled a_misfires : Nat → Int32}
theorem cx_item (hT : ∀ j, a_text j = nI (tx j)) (hC : ∀ j, tx j ≤ 126) {f a b : Nat} (hf : f < 5) (hab : a ≤ b) (hb : b ≤ 64) {post : Int32 → SX → Prop} (hS : ∀ A B st sX', cp_I tx f a b A B st → cp_AV f A B st a_sets sX' → post 1 (f_cap, f_clock, f_length, f_staged, a_text, sX', a_starred, a_occupied, a_misfirePolicy, a_concurrencyPolicy, a_running, a_started, a_completed, a_dropped, a_cancelled, a_misfires)) (hF : (∀ A B st, ¬ cp_I tx f a b A B st) → post 0 (f_cap, f_clock, f_length, f_staged, a_text, a_sets, a_starred, a_occupied, a_misfirePolicy, a_concurrencyPolicy, a_running, a_started, a_completed, a_dropped, a_cancelled, a_misfires)) : wpX_parseItem post (f_cap, f_clock, f_length, f_staged, a_text, a_sets, a_starred, a_occupied, a_misfirePolicy, a_concurrencyPolicy, a_running, a_started, a_completed, a_dropped, a_cancelled, a_misfires) (nI f) (nI a) (nI b) := by
  have hhi := cf_hi59 hf
  have hlo := cf_lo1 hf
  have hlh := cf_lohi hf
  obtain ⟨s1, s2, s3, s4⟩ := cp_finds (tx := tx) (c := 47) hab
  obtain ⟨S, eS⟩ : ∃ S, cp_find tx 47 a b = S := ⟨_, rfl⟩
  rw [eS] at s1 s2 s3 s4
  obtain ⟨d1, d2, d3, d4⟩ := cp_finds (tx := tx) (c := 45) s1
  obtain ⟨D, eD⟩ : ∃ D, cp_find tx 45 a S = D := ⟨_, rfl⟩
  rw [eD] at d1 d2 d3 d4
  have hI : ∀ A B st, cp_I tx f a b A B st ↔ ((S < b → cp_num tx (S + 1) b = some st) ∧ (¬ S < b → st = 1) ∧ 1 ≤ st ∧ ((S = a + 1 ∧ tx a = 42 ∧ A = cf_lo f ∧ B = cf_hi f) ∨ (¬ (S = a + 1 ∧ tx a = 42) ∧ cp_at tx f a D = some A ∧ (D < S → cp_at tx f (D + 1) S = some B) ∧ (¬ D < S → B = if S < b then cf_hi f else A) ∧ cf_lo f ≤ A ∧ A ≤ B ∧ B ≤ cf_hi f))) := by
    intro A B st
    unfold cp_I
    rw [eS, eD]
  -- behind the step
  have h95 : ∀ (st : Nat) (x5 : Int32), (S < b → cp_num tx (S + 1) b = some st) → (¬ S < b → st = 1) → 1 ≤ st → st ≤ 99 → ¬ (S = a + 1 ∧ tx a = 42) → (x5 = 0 ↔ ¬ S < b) → wX_parseItem_95 post (nI f) (nI a) (nI S) x5 (nI st) (nI (cf_lo f)) (nI (cf_hi f)) f_cap f_clock f_length f_staged a_text a_sets a_starred a_occupied a_misfirePolicy a_concurrencyPolicy a_running a_started a_completed a_dropped a_cancelled a_misfires := by
    intro st x5 t1 t2 t3 t4 ns hx5
    have hfail : ∀ oB : Option Nat, (D < S → cp_at tx f (D + 1) S = oB) → (¬ D < S → oB = if S < b then some (cf_hi f) else cp_at tx f a D) → (∀ A B, cp_at tx f a D = some A → oB = some B → cf_lo f ≤ A → A ≤ B → B ≤ cf_hi f → False) → post 0 (f_cap, f_clock, f_length, f_staged, a_text, a_sets, a_starred, a_occupied, a_misfirePolicy, a_concurrencyPolicy, a_running, a_started, a_completed, a_dropped, a_cancelled, a_misfires) := by
      intro oB o1 o2 hno
      refine hF (fun A B st' h => ?_)
      obtain ⟨_, _, _, h4⟩ := (hI A B st').mp h
      rcases h4 with ⟨z1, z2, _⟩ | ⟨_, i1, i2, i3, i4, i5, i6⟩
      · exact ns ⟨z1, z2⟩
      · refine hno A B i1 ?_ i4 i5 i6
        by_cases e : D < S
        · rw [← o1 e]; exact i2 e
        · rw [o2 e, i3 e]
          by_cases e2 : S < b
          · rw [if_pos e2, if_pos e2]
          · rw [if_neg e2, if_neg e2]; exact i1
    have h150 : ∀ oB : Option Nat, (D < S → cp_at tx f (D + 1) S = oB) → (¬ D < S → oB = if S < b then some (cf_hi f) else cp_at tx f a D) → (∀ B, oB = some B → B ≤ 99) → wX_parseItem_150 post (nI f) (nI st) (nI (cf_lo f)) (nI (cf_hi f)) (cp_en (cp_at tx f a D)) (cp_en oB) f_cap f_clock f_length f_staged a_text a_sets a_starred a_occupied a_misfirePolicy a_concurrencyPolicy a_running a_started a_completed a_dropped a_cancelled a_misfires := by
      intro oB o1 o2 ob
      cases hA : cp_at tx f a D with
      | none =>
        refine br_t (Int32.lt_of_lt_of_le (by decide : (-1 : Int32) < 0) (nI_pos' (by omega))) (hfail oB o1 o2 (fun A B e1 => ?_))
        rw [hA] at e1
        exact absurd e1 (by simp)
      | some A =>
        have hA9 := cp_atb d1 hA
        have hf2 : (∀ B, oB = some B → cf_lo f ≤ A → A ≤ B → B ≤ cf_hi f → False) → post 0 (f_cap, f_clock, f_length, f_staged, a_text, a_sets, a_starred, a_occupied, a_misfirePolicy, a_concurrencyPolicy, a_running, a_started, a_completed, a_dropped, a_cancelled, a_misfires) := fun hno => hfail oB o1 o2 (fun A' B' e1 e2 g1 g2 g3 => by
          rw [hA] at e1
          have e := Option.some.inj e1
          subst e
          exact hno B' e2 g1 g2 g3)
        refine pk_lt A (cf_lo f) (fun z => hf2 (fun B _ g1 _ _ => by omega)) (fun z => ?_)
        cases hB : oB with
        | none =>
          refine br_f (Int32.not_lt.mpr (Int32.le_trans (by decide : (-1 : Int32) ≤ 0) (nI_pos' (by omega)))) (br_f (fun z2 => absurd (Int32.lt_of_le_of_lt z2 (by decide : (-1 : Int32) < 0)) (nI_pos (by omega))) (hf2 (fun B e2 _ _ _ => ?_)))
          rw [hB] at e2
          exact absurd e2 (by simp)
        | some B =>
          have hB9 := ob B hB
          have hf3 : (cf_lo f ≤ A → A ≤ B → B ≤ cf_hi f → False) → post 0 (f_cap, f_clock, f_length, f_staged, a_text, a_sets, a_starred, a_occupied, a_misfirePolicy, a_concurrencyPolicy, a_running, a_started, a_completed, a_dropped, a_cancelled, a_misfires) := fun hno => hf2 (fun B' e2 g1 g2 g3 => by
            rw [hB] at e2
            have e := Option.some.inj e2
            subst e
            exact hno g1 g2 g3)
          refine pk_lt (cf_hi f) B (fun z2 => hf3 (fun _ _ g3 => by omega)) (fun z2 => pk_le A B (fun z3 => cx_av hf z3 (by omega) t3 t4 (fun sX' hav => hS A B st sX' ((hI A B st).mpr ⟨t1, t2, t3, Or.inr ⟨ns, hA, fun e => ?_, fun e => ?_, z, z3, z2⟩⟩) hav)) (fun z3 => hf3 (fun _ g2 _ => by omega)))
          · rw [o1 e, hB]
          · have t := o2 e
            rw [hB, hA] at t
            by_cases e2 : S < b
            · rw [if_pos e2] at t ⊢
              exact Option.some.inj t
            · rw [if_neg e2] at t ⊢
              exact Option.some.inj t
    have h128 : ∀ z0 : Int32, (¬ D < S → z0 = cp_en (if S < b then some (cf_hi f) else cp_at tx f a D)) → wX_parseItem_128 post (nI f) (nI S) (nI st) (nI (cf_lo f)) (nI (cf_hi f)) (nI D) (cp_en (cp_at tx f a D)) z0 f_cap f_clock f_length f_staged a_text a_sets a_starred a_occupied a_misfirePolicy a_concurrencyPolicy a_running a_started a_completed a_dropped a_cancelled a_misfires := by
      intro z0 hz
      refine pk_le S D (fun z => ?_) (fun z => cx_atom hT hC hf (by omega) (by omega) ?_ (nI_1 D))
      · rw [hz (by omega)]
        refine h150 _ (fun e => absurd e (by omega)) (fun _ => rfl) (fun B e => ?_)
        by_cases e2 : S < b
        · rw [if_pos e2] at e
          have := Option.some.inj e
          omega
        · rw [if_neg e2] at e
          exact cp_atb d1 e
      · exact h150 _ (fun _ => rfl) (fun e => absurd z e) (fun B e => cp_atb (by omega) e)
    unfold wX_parseItem_95
    refine cx_find hT hC 45 (by decide) s1 (by omega) ?_
    rw [eD]
    refine cx_atom hT hC hf d1 (by omega) ?_
    refine br_c (fun z => h128 _ (fun _ => ?_)) (fun z => h128 _ (fun _ => ?_))
    · rw [if_neg (hx5.mp z)]
    · rw [if_pos (Decidable.of_not_not (fun e => z (hx5.mpr e)))]
      rfl
  have h41 : ∀ (o : Option Nat) (x5 : Int32), o = (if S < b then cp_num tx (S + 1) b else some 1) → (x5 = 0 ↔ ¬ S < b) → wX_parseItem_41 post (nI f) (nI a) (nI S) x5 (cp_en o) f_cap f_clock f_length f_staged a_text a_sets a_starred a_occupied a_misfirePolicy a_concurrencyPolicy a_running a_started a_completed a_dropped a_cancelled a_misfires := by
    intro o x5 ho hx5
    have hob : ∀ v, o = some v → v ≤ 99 := by
      intro v hv
      rw [ho] at hv
      by_cases e : S < b
      · rw [if_pos e] at hv
        exact cp_numb (by omega) hv
      · rw [if_neg e] at hv
        have := Option.some.inj hv
        omega
    refine cp_en0 (fun hno => hF (fun A B st h => ?_)) (fun st est hst => ?_) hob
    · obtain ⟨h1, h2, h3, _⟩ := (hI A B st).mp h
      have eo : o = some st := by
        rw [ho]
        by_cases e : S < b
        · rw [if_pos e]; exact h1 e
        · rw [if_neg e, h2 e]
      rcases hno with h0 | h0
      · rw [h0] at eo; exact absurd eo (by simp)
      · rw [h0] at eo
        have := Option.some.inj eo
        omega
    · have t1 : S < b → cp_num tx (S + 1) b = some st := fun e => by
        rw [est, if_pos e] at ho; exact ho.symm
      have t2 : ¬ S < b → st = 1 := fun e => by
        rw [est, if_neg e] at ho; exact Option.some.inj ho
      have t4 := hob st est
      rw [est]
      refine cx_lo hf (cx_hi hf (pk_eq (S - a) 1 (fun z => ⟨vp_in_nI (by omega) (by decide), pk_eq (tx a) 42 (fun z2 => ?_) (fun z2 => h95 st x5 t1 t2 hst t4 (fun w => z2 w.2) hx5) (cp_txt hT (by omega)) rfl (by have := hC a; omega)⟩) (fun z => h95 st x5 t1 t2 hst t4 (fun w => z (by omega)) hx5) (pk_sub s1)))
      exact cx_av hf hlh (by omega) hst t4 (fun sX' hav => hS _ _ st sX' ((hI _ _ st).mpr ⟨t1, t2, hst, Or.inl ⟨by omega, z2, rfl, rfl⟩⟩) hav)
  unfold wpX_parseItem
  dsimp only
  refine cx_find hT hC 47 (by decide) hab hb ?_
  rw [eS]
  refine pk_le b S (fun z => br_t rfl ?_) (fun z => br_f (by decide) (cx_num hT hC (by omega) hb ?_ (nI_1 S)))
  · exact h41 (some 1) 0 (by rw [if_neg (by omega)]) ⟨fun _ => by omega, fun _ => rfl⟩
  · exact h41 (cp_num tx (S + 1) b) 1 (by rw [if_pos z]) ⟨fun w => absurd w (by decide), fun w => absurd z w⟩
/-- what a field of the text means: the values g' that it adds to g -/
def cp_P (tx : Nat → Nat) (f e : Nat) : Nat → Nat → (Nat → Prop) → (Nat → Prop) → Prop
  | 0, _, _, _ => False
  | k + 1, a, g, g' => ∃ A B st, cp_I tx f a (cp_find tx 44 a e) A B st ∧ (cp_find tx 44 a e < e → cp_P tx f e k (cp_find tx 44 a e + 1) (fun v => g v ∨ cp_sv f A B st v) g') ∧ (¬ cp_find tx 44 a e < e → ∀ v, g' v ↔ (g v ∨ cp_sv f A B st v))
theorem cp_Pu {f e : Nat} : ∀ (k a : Nat) (g g' g2 g2' : Nat → Prop), (∀ v, g v ↔ g2 v) → cp_P tx f e k a g g' → cp_P tx f e k a g2 g2' → ∀ v, g' v ↔ g2' v := by
  intro k
  induction k with
  | zero => intro a g g' g2 g2' _ h; exact absurd h id
  | succ k ih =>
    intro a g g' g2 g2' hg ⟨A, B, st, h1, h2, h3⟩ ⟨A', B', st', h1', h2', h3'⟩
    obtain ⟨rfl, rfl, rfl⟩ := cp_Iu h1 h1'
    by_cases hz : cp_find tx 44 a e < e
    · exact ih _ _ _ _ _ (fun v => or_congr_left (hg v)) (h2 hz) (h2' hz)
    · intro v
      rw [h3 hz v, h3' hz v, hg v]
theorem cp_Pm {f e : Nat} (hf : f < 5) : ∀ (k a : Nat) (g g' : Nat → Prop), a ≤ e → (∀ v, g v → cf_lo f ≤ v ∧ v ≤ cf_top f) → cp_P tx f e k a g g' → ∀ v, g' v → cf_lo f ≤ v ∧ v ≤ cf_top f := by
  intro k
  induction k with
  | zero => intro a g g' _ _ h; exact absurd h id
  | succ k ih =>
    intro a g g' hae hg ⟨A, B, st, h1, h2, h3⟩
    obtain ⟨s1, s2, s3, s4⟩ := cp_finds (tx := tx) (c := 44) hae
    obtain ⟨b1, b2, b3, b4, b5⟩ := cp_Ib hf s1 h1
    have hsv : ∀ v, g v ∨ cp_sv f A B st v → cf_lo f ≤ v ∧ v ≤ cf_top f := by
      intro v hv
      rcases hv with hv | ⟨j, j1, j2⟩
      · exact hg v hv
      · subst j2
        unfold cp_nrm
        by_cases e4 : f = 4
        · subst e4
          have e1 : cf_lo 4 = 0 := rfl
          have e2 : cf_top 4 = 6 := rfl
          have e3 : cf_hi 4 = 7 := rfl
          rw [e1, e2]
          rw [e3] at b3
          split
          · omega
          · omega
        · have et : cf_top f = cf_hi f := (cf_ht hf e4).symm
          rw [if_neg (fun z => e4 z.1), et]
          omega
    by_cases hz : cp_find tx 44 a e < e
    · exact ih _ _ _ (by omega) hsv (h2 hz)
    · intro v hv
      exact hsv v ((h3 hz v).mp hv)
theorem cx_fieldloop (hT : ∀ j, a_text j = nI (tx j)) (hC : ∀ j, tx j ≤ 126) {f e : Nat} (hf : f < 5) (he : e ≤ 64) {post : Int32 → SX → Prop} : ∀ (k a n : Nat) (g : Nat → Prop) (sX : Nat → Int64), a ≤ e → e < a + k → e + 1 < n + a → (∀ i, i ≠ 40 + f → sX i = a_sets i) → (∀ v, v < 64 → (cb_bit (sX (40 + f)) v = true ↔ g v)) → (∀ sX' g', cp_P tx f e k a g g' → (∀ v, v < 64 → (cb_bit (sX' (40 + f)) v = true ↔ g' v)) → (∀ i, i ≠ 40 + f → sX' i = a_sets i) → post 1 (f_cap, f_clock, f_length, f_staged, a_text, sX', a_starred, a_occupied, a_misfirePolicy, a_concurrencyPolicy, a_running, a_started, a_completed, a_dropped, a_cancelled, a_misfires)) → ((∀ g', ¬ cp_P tx f e k a g g') → ∀ sX', (∀ i, i ≠ 40 + f → sX' i = a_sets i) → post 0 (f_cap, f_clock, f_length, f_staged, a_text, sX', a_starred, a_occupied, a_misfirePolicy, a_concurrencyPolicy, a_running, a_started, a_completed, a_dropped, a_cancelled, a_misfires)) → wX_parseField_41 post (nI f) (nI e) n (nI a) (nI a) f_cap f_clock f_length f_staged a_text sX a_starred a_occupied a_misfirePolicy a_concurrencyPolicy a_running a_started a_completed a_dropped a_cancelled a_misfires := by
  intro k
  induction k with
  | zero =>
    intro a n g sX hae h2 hn hs hg hS hF
    omega
  | succ k ih =>
    intro a n g sX hae h2 hn hs hg hS hF
    obtain ⟨s1, s2, s3, s4⟩ := cp_finds (tx := tx) (c := 44) hae
    unfold cp_P at hS hF
    obtain ⟨b, eb⟩ : ∃ b, cp_find tx 44 a e = b := ⟨_, rfl⟩
    rw [eb] at s1 s2 s3 s4 hS hF
    have h65 : ∀ n', e < n' + b → wX_parseField_65 post (wX_parseField_41 post (nI f) (nI e) n') (nI f) (nI e) (nI a) (nI b) f_cap f_clock f_length f_staged a_text sX a_starred a_occupied a_misfirePolicy a_concurrencyPolicy a_running a_started a_completed a_dropped a_cancelled a_misfires := by
      intro n' hn'
      unfold wX_parseField_65
      refine cx_item hT hC hf s1 (by omega) (fun A B st sX' hI hav => ?_) (fun hno => ?_)
      · have hs' : ∀ i, i ≠ 40 + f → sX' i = a_sets i := fun i hi => (hav.1 i hi).trans (hs i hi)
        have hg' : ∀ v, v < 64 → (cb_bit (sX' (40 + f)) v = true ↔ (g v ∨ cp_sv f A B st v)) := fun v hv => by rw [hav.2 v hv, hg v hv]
        refine br_f (by decide) (nm_r (nI_1 b) (nm_r (nI_1 b) ?_))
        by_cases e1 : b < e
        · refine ih (b + 1) n' (fun v => g v ∨ cp_sv f A B st v) sX' (by omega) (by omega) (by omega) hs' hg' (fun sX2 g2 hP => hS sX2 g2 ⟨A, B, st, hI, fun _ => hP, fun z => absurd e1 z⟩) (fun hno => hF (fun g2 hP => ?_))
          obtain ⟨A', B', st', hI', hP', _⟩ := hP
          obtain ⟨rfl, rfl, rfl⟩ := cp_Iu hI hI'
          exact hno g2 (hP' e1)
        · obtain ⟨n', rfl⟩ : ∃ m, n' = m + 1 := ⟨n' - 1, by omega⟩
          exact pk_lt e (b + 1) (fun _ => hS sX' (fun v => g v ∨ cp_sv f A B st v) ⟨A, B, st, hI, fun z => absurd z e1, fun _ v => Iff.rfl⟩ hg' hs') (fun z => absurd z (by omega))
      · refine br_t rfl (hF (fun g2 hP => ?_) sX hs)
        obtain ⟨A, B, st, hI, _⟩ := hP
        exact hno A B st hI
    have hwalk : ∀ m i n, i + m = b → a ≤ i → e + 1 < n + i → wX_parseField_41 post (nI f) (nI e) n (nI a) (nI i) f_cap f_clock f_length f_staged a_text sX a_starred a_occupied a_misfirePolicy a_concurrencyPolicy a_running a_started a_completed a_dropped a_cancelled a_misfires := by
      intro m
      induction m with
      | zero =>
        intro i n hm hi hn1
        obtain ⟨n, rfl⟩ : ∃ n', n = n' + 1 := ⟨n - 1, by omega⟩
        have ei : i = b := by omega
        subst ei
        refine pk_lt e i (fun z => absurd z (by omega)) (fun _ => pk_eq i e (fun z => h65 n (by omega)) (fun z => ⟨vp_in_nI (by omega) (by decide), ?_⟩))
        exact pk_eq (tx i) 44 (fun _ => h65 n (by omega)) (fun z2 => absurd (s4 (by omega)) z2) (cp_txt hT (by omega)) rfl (by have := hC i; omega)
      | succ m ihm =>
        intro i n hm hi hn1
        obtain ⟨n, rfl⟩ : ∃ n', n = n' + 1 := ⟨n - 1, by omega⟩
        refine pk_lt e i (fun z => absurd z (by omega)) (fun _ => pk_eq i e (fun z => absurd z (by omega)) (fun z => ⟨vp_in_nI (by omega) (by decide), ?_⟩))
        exact pk_eq (tx i) 44 (fun z2 => absurd z2 (s3 i hi (by omega))) (fun _ => nm_r (nI_1 i) (ihm (i + 1) n (by omega) (by omega) (by omega))) (cp_txt hT (by omega)) rfl (by have := hC i; omega)
    exact hwalk (b - a) a n (by omega) (by omega) hn
theorem cx_field (hT : ∀ j, a_text j = nI (tx j)) (hC : ∀ j, tx j ≤ 126) {f a e : Nat} (hf : f < 5) (hae : a < e) (he : e ≤ 64) {post : Int32 → SX → Prop} (hS : ∀ sX' g', cp_P tx f e (e + 1) a (fun _ => False) g' → (∀ v, v < 64 → (cb_bit (sX' (40 + f)) v = true ↔ g' v)) → (∀ i, i ≠ 40 + f → sX' i = a_sets i) → post 1 (f_cap, f_clock, f_length, f_staged, a_text, sX', upd a_starred (40 + f) (cb_b (decide (tx a = 42))), a_occupied, a_misfirePolicy, a_concurrencyPolicy, a_running, a_started, a_completed, a_dropped, a_cancelled, a_misfires)) (hF : (∀ g', ¬ cp_P tx f e (e + 1) a (fun _ => False) g') → ∀ sX', (∀ i, i ≠ 40 + f → sX' i = a_sets i) → post 0 (f_cap, f_clock, f_length, f_staged, a_text, sX', upd a_starred (40 + f) (cb_b (decide (tx a = 42))), a_occupied, a_misfirePolicy, a_concurrencyPolicy, a_running, a_started, a_completed, a_dropped, a_cancelled, a_misfires)) : wpX_parseField post (f_cap, f_clock, f_length, f_staged, a_text, a_sets, a_starred, a_occupied, a_misfirePolicy, a_concurrencyPolicy, a_running, a_started, a_completed, a_dropped, a_cancelled, a_misfires) (nI f) (nI a) (nI e) := by
  have e40 : 40 + nI f = nI (40 + f) := nI_add 40 f
  have hi : vp_in (nI (40 + f)) 45 := vp_in_nI (by omega) (by decide)
  have hloop : ∀ c : Bool, decide (tx a = 42) = c → wX_parseField_41 post (nI f) (nI e) (e + 2) (nI a) (nI a) f_cap f_clock f_length f_staged a_text (vp_updL a_sets (40 + f) 0) (upd a_starred (40 + f) (cb_b c)) a_occupied a_misfirePolicy a_concurrencyPolicy a_running a_started a_completed a_dropped a_cancelled a_misfires := by
    intro c hc
    rw [hc] at hS hF
    refine cx_fieldloop (a_sets := a_sets) hT hC hf he (e + 1) a (e + 2) (fun _ => False) _ (by omega) (by omega) (by omega) (fun i hi => pk_uLn hi) (fun v _ => ?_) hS hF
    rw [pk_uLs, cb_bit0]
    exact ⟨fun z => Bool.noConfusion z, fun z => absurd z id⟩
  unfold wpX_parseField
  dsimp only
  rw [e40, nI_clamp (show 40 + f < 2 ^ 31 by omega)]
  refine ⟨hi, nm_e ⟨vp_in_nI (by omega) (by decide), pk_eq (tx a) 42 (fun z => ⟨hi, nm_r (by rw [cb_v1]; exact rfl) ⟨e + 2, hloop true (decide_eq_true z)⟩⟩) (fun z => ⟨hi, nm_r (by rw [cb_v0]; exact rfl) ⟨e + 2, hloop false (decide_eq_false z)⟩⟩) (cp_txt hT (by omega)) rfl (by have := hC a; omega)⟩⟩
end
