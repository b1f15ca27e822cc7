/-! what a schedule matches; X's search -/
def cs_w (h : Nat → Nat → Bool) (a b : Bool) (dd w : Nat) : Bool := if (a || b) = true then h 2 dd && h 4 w else h 2 dd || h 4 w
def cs_m (h : Nat → Nat → Bool) (m : Nat) : Bool := h 0 (m % 60) && h 1 (m % 1440 / 60)
def cs_D (h : Nat → Nat → Bool) (a b : Bool) (d : Nat) : Bool := h 3 (cg_dt d).2.1 && cs_w h a b (cg_dt d).2.2 (d % 7)
def cs_M (h : Nat → Nat → Bool) (a b : Bool) (m : Nat) : Bool := cs_D h a b (m / 1440) && cs_m h m
def cs_P (h : Nat → Nat → Bool) (a b : Bool) (t l m : Nat) : Prop := t < m ∧ m ≤ l ∧ cs_M h a b m = true
def cs_fr (P : Nat → Prop) (a b : Nat) (r : Int32) : Prop := (∃ m, r = nI m ∧ a ≤ m ∧ m < b ∧ P m ∧ ∀ q, a ≤ q → q < m → ¬ P q) ∨ (r = -1 ∧ ∀ q, a ≤ q → q < b → ¬ P q)
theorem cs_mf {h : Nat → Nat → Bool} {a b : Bool} {t l m : Nat} (hm : cs_m h m = false) : ¬ cs_P h a b t l m := by
  intro ⟨_, _, h3⟩
  unfold cs_M at h3
  rw [hm, Bool.and_false] at h3
  exact Bool.noConfusion h3
theorem cs_Df {h : Nat → Nat → Bool} {a b : Bool} {t l d : Nat} (hd : cs_D h a b d = false) : ∀ q, d * 1440 ≤ q → q < d * 1440 + 1440 → ¬ cs_P h a b t l q := by
  intro q h1 h2 ⟨_, _, h3⟩
  have e : q / 1440 = d := by omega
  unfold cs_M at h3
  rw [e, hd, Bool.false_and] at h3
  exact Bool.noConfusion h3
theorem cs_Dm {h : Nat → Nat → Bool} {a b : Bool} {i d : Nat} (hi : i < 96) (h1 : cg_F i ≤ d) (h2 : d < cg_F (i + 1)) : cs_D h a b d = (h 3 (i % 12 + 1) && cs_w h a b (d - cg_F i + 1) (d % 7)) := by
  unfold cs_D
  rw [cg_dt_eq hi h1 h2]
theorem cs_fr_app {P : Nat → Prop} {a b c : Nat} {r : Int32} (h1 : a ≤ b) (h2 : ∀ q, a ≤ q → q < b → ¬ P q) (h3 : cs_fr P b c r) : cs_fr P a c r := by
  rcases h3 with ⟨m, e, m1, m2, m3, m4⟩ | ⟨e, m1⟩
  · refine Or.inl ⟨m, e, by omega, m2, m3, fun q q1 q2 => ?_⟩
    by_cases hq : q < b
    · exact h2 q q1 hq
    · exact m4 q (by omega) q2
  · refine Or.inr ⟨e, fun q q1 q2 => ?_⟩
    by_cases hq : q < b
    · exact h2 q q1 hq
    · exact m1 q (by omega) q2
/-- X holds the schedule (h, a, b) at s -/
def cs_X (s : Nat) (sets : Nat → Int64) (starred : Nat → Int32) (h : Nat → Nat → Bool) (a b : Bool) : Prop :=
  s < 9 ∧ (∀ f v, f < 5 → cf_lo f ≤ v → v ≤ cf_top f → cb_bit (sets (s * 5 + f)) v = h f v) ∧ starred (s * 5 + 2) = cb_b a ∧ starred (s * 5 + 4) = cb_b b
section
variable {s : Nat} {h : Nat → Nat → Bool} {a b : Bool} {t l : Nat} {f_cap f_clock f_length f_staged : Int32} {a_text : Nat → Int32} {a_sets : Nat → Int64} {a_starred a_occupied a_misfirePolicy a_concurrencyPolicy a_running a_started a_completed a_dropped a_cancelled a_misfires : Nat → Int32}
theorem cx_hv (H : cs_X s a_sets a_starred h a b) (f v : Nat) (hf : f < 5) (h1 : cf_lo f ≤ v) (h2 : v ≤ cf_top f) {x y : Int32} {post : Int32 → Prop} (hp : post (cb_b (h f v))) (ey : y = nI f := by rfl) (ex : x = nI v := by rfl) : wpX_setHas post (f_cap, f_clock, f_length, f_staged, a_text, a_sets, a_starred, a_occupied, a_misfirePolicy, a_concurrencyPolicy, a_running, a_started, a_completed, a_dropped, a_cancelled, a_misfires) (nI s) y x := by
  subst ey ex
  have := cf_top59 hf
  refine cx_has H.1 hf (by omega) ?_
  rw [H.2.1 f v hf h1 h2]
  exact hp
theorem cx_dm (H : cs_X s a_sets a_starred h a b) (dd w : Nat) (h1 : 1 ≤ dd) (h2 : dd ≤ 31) (h3 : w ≤ 6) {x y : Int32} {post : Int32 → Prop} (hp : post (cb_b (cs_w h a b dd w))) (ex : x = nI dd) (ey : y = nI w) : wpX_dayMatches post (f_cap, f_clock, f_length, f_staged, a_text, a_sets, a_starred, a_occupied, a_misfirePolicy, a_concurrencyPolicy, a_running, a_started, a_completed, a_dropped, a_cancelled, a_misfires) (nI s) x y := by
  subst ex ey
  have hs := H.1
  unfold wpX_dayMatches
  dsimp only
  refine cx_hv H 2 dd (by decide) h1 h2 ?_
  refine cx_hv H 4 w (by decide) (Nat.zero_le w) h3 ?_
  have e2 : nI s * 5 + 2 = nI (s * 5 + 2) := ce_m5 s 2
  have e4 : nI s * 5 + 4 = nI (s * 5 + 4) := ce_m5 s 4
  rw [e2, e4, nI_clamp (by omega), nI_clamp (by omega), H.2.2.1, H.2.2.2]
  have hj : (a || b) = true → wX_dayMatches_44 post (cb_b (h 2 dd)) (cb_b (h 4 w)) f_cap f_clock f_length f_staged a_text a_sets a_starred a_occupied a_misfirePolicy a_concurrencyPolicy a_running a_started a_completed a_dropped a_cancelled a_misfires := by
    intro hab
    unfold cs_w at hp
    rw [if_pos hab] at hp
    refine cb_br (fun e1 => ?_) (fun e1 => cb_br (fun e2 => ?_) (fun e2 => ?_))
    · rw [e1, Bool.false_and] at hp; exact hp
    · rw [e1, e2] at hp; exact hp
    · rw [e1, e2] at hp; exact hp
  refine ⟨vp_in_nI (by omega) (by omega), cb_br (fun ea => ⟨vp_in_nI (by omega) (by omega), cb_br (fun eb => ?_) (fun eb => hj (by rw [eb, Bool.or_true]))⟩) (fun ea => hj (by rw [ea, Bool.true_or]))⟩
  unfold cs_w at hp
  rw [ea, eb, if_neg (by decide)] at hp
  refine cb_br (fun e1 => cb_br (fun e2 => ?_) (fun e2 => ?_)) (fun e1 => ?_)
  · rw [e1, e2] at hp; exact hp
  · rw [e1, e2] at hp; exact hp
  · rw [e1, Bool.true_or] at hp; exact hp
theorem cx_hour {m : Nat} (hm : m < 2 ^ 31) {post : Int32 → Prop} (hp : post (nI (m % 1440 / 60))) : wpX_hourOf post (nI m) := by
  refine ⟨by decide, by decide, ?_⟩
  rw [ce_h m hm]
  exact hp
theorem cx_dayloop (H : cs_X s a_sets a_starred h a b) {D : Nat} (hD : cs_D h a b D = true) (hDb : D < 3000) (hl : l < 4206240) : ∀ k m : Nat, m + k = D * 1440 + 1440 → t < m → D * 1440 ≤ m → (∀ q, D * 1440 ≤ q → q < m → ¬ cs_P h a b t l q) → ∀ n, k < n → ∀ post : Int32 → Prop, (∀ r, cs_fr (cs_P h a b t l) (D * 1440) (D * 1440 + 1440) r → post r) → wX_nextInDay_20 post (nI s) (nI (D * 1440)) (nI l) f_cap f_clock f_length f_staged a_text a_sets a_starred a_occupied a_misfirePolicy a_concurrencyPolicy a_running a_started a_completed a_dropped a_cancelled a_misfires n (nI m) := by
  have ee : nI (D * 1440) + 1440 = nI (D * 1440 + 1440) := nI_add (D * 1440) 1440
  intro k
  induction k with
  | zero =>
    intro m hm ht hd hq n hn post hp
    obtain ⟨n, rfl⟩ : ∃ n', n = n' + 1 := ⟨n - 1, by omega⟩
    exact pk_le (D * 1440 + 1440) m (fun _ => hp _ (Or.inr ⟨rfl, fun q h1 h2 => hq q h1 (by omega)⟩)) (fun z => absurd z (by omega)) ee
  | succ k ih =>
    intro m hm ht hd hq n hn post hp
    obtain ⟨n, rfl⟩ : ∃ n', n = n' + 1 := ⟨n - 1, by omega⟩
    have hnext : cs_m h m = false → ∀ q, D * 1440 ≤ q → q < m + 1 → ¬ cs_P h a b t l q := by
      intro hf q h1 h2
      by_cases e : q = m
      · subst e; exact cs_mf hf
      · exact hq q h1 (by omega)
    refine pk_le (D * 1440 + 1440) m (fun z => absurd z (by omega)) (fun _ => pk_lt l m (fun z => hp _ (Or.inr ⟨rfl, fun q h1 h2 h3 => ?_⟩)) (fun z => cx_hour (by omega) ?_)) ee
    · by_cases e : q < m
      · exact hq q h1 e h3
      · have := h3.2.1
        omega
    · refine cx_hv H 1 (m % 1440 / 60) (by decide) (Nat.zero_le _) (by show m % 1440 / 60 ≤ 23; omega) (cb_br (fun e1 => nm_r (nI_1 m) (ih (m + 1) (by omega) (by omega) (by omega) (hnext (by unfold cs_m; rw [e1, Bool.and_false])) n (by omega) post hp)) (fun e1 => ⟨by decide, ?_⟩))
      refine cx_hv H 0 (m % 60) (by decide) (Nat.zero_le _) (by show m % 60 ≤ 59; omega) (cb_br (fun e0 => nm_r (nI_1 m) (ih (m + 1) (by omega) (by omega) (by omega) (hnext (by unfold cs_m; rw [e0, Bool.false_and])) n (by omega) post hp)) (fun e0 => hp _ (Or.inl ⟨m, rfl, hd, by omega, ⟨ht, z, ?_⟩, hq⟩))) rfl (ce_r60 (by omega))
      have e : m / 1440 = D := by omega
      unfold cs_M cs_m
      rw [e, hD, e0, e1]
      rfl
theorem cx_day (H : cs_X s a_sets a_starred h a b) {D : Nat} (hD : cs_D h a b D = true) (hDb : D < 3000) (hl : l < 4206240) (ht : t < 4206240) (htD : t + 1 ≤ D * 1440 + 1440) {x : Int32} (ex : x = nI (D * 1440)) {post : Int32 → Prop} (hp : ∀ r, cs_fr (cs_P h a b t l) (D * 1440) (D * 1440 + 1440) r → post r) : wpX_nextInDay post (f_cap, f_clock, f_length, f_staged, a_text, a_sets, a_starred, a_occupied, a_misfirePolicy, a_concurrencyPolicy, a_running, a_started, a_completed, a_dropped, a_cancelled, a_misfires) (nI s) x (nI t) (nI l) := by
  subst ex
  refine pk_le (t + 1) (D * 1440) (fun z => ⟨1441, ?_⟩) (fun z => nm_r (nI_1 t) ⟨1441, ?_⟩) (nI_1 t)
  · exact cx_dayloop H hD hDb hl 1440 (D * 1440) rfl (by omega) (by omega) (fun q h1 h2 => absurd h2 (by omega)) 1441 (by omega) post hp
  · exact cx_dayloop H hD hDb hl (D * 1440 + 1440 - (t + 1)) (t + 1) (by omega) (by omega) (by omega) (fun q h1 h2 h3 => absurd h3.1 (by omega)) 1441 (by omega) post hp
theorem cx_monloop (H : cs_X s a_sets a_starred h a b) {i : Nat} (hi : i < 96) (hM : h 3 (i % 12 + 1) = true) (hl : l < 4206240) (ht : t < 4206240) : ∀ k d : Nat, d + k = cg_F (i + 1) → cg_F i ≤ d → t + 1 ≤ d * 1440 + 1440 → (∀ q, cg_F i * 1440 ≤ q → q < d * 1440 → ¬ cs_P h a b t l q) → ∀ n, k < n → ∀ post : Int32 → Prop, (∀ r, cs_fr (cs_P h a b t l) (cg_F i * 1440) (cg_F (i + 1) * 1440) r → post r) → wX_nextInMonth_28 post (nI s) (nI (cg_F i)) (nI (cg_mi i)) (nI t) (nI l) f_cap f_clock f_length f_staged a_text a_sets a_starred a_occupied a_misfirePolicy a_concurrencyPolicy a_running a_started a_completed a_dropped a_cancelled a_misfires n (nI d) := by
  have ee : nI (cg_F i) + nI (cg_mi i) = nI (cg_F (i + 1)) := nI_add _ _
  have hFb := cg_Fb (i + 1)
  have hmb := cg_mi_b i
  have hFs := cg_Fs i
  intro k
  induction k with
  | zero =>
    intro d hd h1 h2 hq n hn post hp
    obtain ⟨n, rfl⟩ : ∃ n', n = n' + 1 := ⟨n - 1, by omega⟩
    exact pk_le (cg_F (i + 1)) d (fun _ => hp _ (Or.inr ⟨rfl, fun q h1 h2 => hq q h1 (by omega)⟩)) (fun z => absurd z (by omega)) ee
  | succ k ih =>
    intro d hd h1 h2 hq n hn post hp
    obtain ⟨n, rfl⟩ : ∃ n', n = n' + 1 := ⟨n - 1, by omega⟩
    have eD := cs_Dm (h := h) (a := a) (b := b) hi h1 (by omega : d < cg_F (i + 1))
    rw [hM, Bool.true_and] at eD
    have hnext : (∀ q, d * 1440 ≤ q → q < d * 1440 + 1440 → ¬ cs_P h a b t l q) → ∀ q, cg_F i * 1440 ≤ q → q < (d + 1) * 1440 → ¬ cs_P h a b t l q := by
      intro hf q q1 q2
      by_cases e : q < d * 1440
      · exact hq q q1 e
      · exact hf q (by omega) (by omega)
    have e1 : nI d - nI (cg_F i) + 1 = nI (d - cg_F i + 1) := by rw [pk_sub h1, nI_1]
    refine pk_le (cg_F (i + 1)) d (fun z => absurd z (by omega)) (fun _ => ⟨by decide, ?_⟩) ee
    refine cx_dm H (d - cg_F i + 1) (d % 7) (by omega) (by omega) (by omega) ?_ e1 (ce_r7 (by omega))
    rw [← eD]
    refine cb_br (fun e => nm_r (nI_1 d) (ih (d + 1) (by omega) (by omega) (by omega) (hnext (cs_Df e)) n (by omega) post hp)) (fun e => ?_)
    refine cx_day H e (by omega) hl ht h2 (ce_m1440 d) (fun r hr => ?_)
    rcases hr with ⟨m, rfl, m1, m2, m3, m4⟩ | ⟨rfl, hn⟩
    · refine br_f (cb_nm1 (by omega)) (hp _ (cs_fr_app (b := d * 1440) (by omega) hq (Or.inl ⟨m, rfl, m1, by omega, m3, m4⟩)))
    · exact br_t rfl (nm_r (nI_1 d) (ih (d + 1) (by omega) (by omega) (by omega) (hnext hn) n (by omega) post hp))
theorem cx_month (H : cs_X s a_sets a_starred h a b) {i : Nat} (hi : i < 96) (hM : h 3 (i % 12 + 1) = true) (hl : l < 4206240) (ht : t < 4206240) {post : Int32 → Prop} (hp : ∀ r, cs_fr (cs_P h a b t l) (cg_F i * 1440) (cg_F (i + 1) * 1440) r → post r) : wpX_nextInMonth post (f_cap, f_clock, f_length, f_staged, a_text, a_sets, a_starred, a_occupied, a_misfirePolicy, a_concurrencyPolicy, a_running, a_started, a_completed, a_dropped, a_cancelled, a_misfires) (nI s) (nI (cg_F i)) (nI (cg_mi i)) (nI t) (nI l) := by
  have e1 : (nI t + 1) / 1440 = nI ((t + 1) / 1440) := by rw [nI_1, ce_d1440 (by omega)]
  have hFb := cg_Fb (i + 1)
  have hmb := cg_mi_b i
  have hFs := cg_Fs i
  refine ⟨by decide, nm_r e1 (pk_le ((t + 1) / 1440) (cg_F i) (fun z => ⟨40, ?_⟩) (fun z => ⟨40, ?_⟩))⟩
  · exact cx_monloop H hi hM hl ht (cg_mi i) (cg_F i) (by omega) (by omega) (by omega) (fun q h1 h2 => absurd h2 (by omega)) 40 (by omega) post hp
  · by_cases e : (t + 1) / 1440 ≤ cg_F (i + 1)
    · exact cx_monloop H hi hM hl ht (cg_F (i + 1) - (t + 1) / 1440) ((t + 1) / 1440) (by omega) (by omega) (by omega) (fun q h1 h2 h3 => absurd h3.1 (by omega)) 40 (by omega) post hp
    · exact pk_le (cg_F (i + 1)) ((t + 1) / 1440) (fun _ => hp _ (Or.inr ⟨rfl, fun q h1 h2 h3 => absurd h3.1 (by omega)⟩)) (fun z => absurd z (by omega)) (nI_add _ _)
theorem cx_nextloop (H : cs_X s a_sets a_starred h a b) (hl : l < 4206240) (ht : t < 4206240) : ∀ k i : Nat, i + k = 96 → (∀ q, q < cg_F i * 1440 → ¬ cs_P h a b t l q) → ∀ n, k < n → ∀ post : Int32 → Prop, (∀ r, cs_fr (cs_P h a b t l) 0 4206240 r → post r) → wX_nextMatch_6 post (nI s) (nI t) (nI l) f_cap f_clock f_length f_staged a_text a_sets a_starred a_occupied a_misfirePolicy a_concurrencyPolicy a_running a_started a_completed a_dropped a_cancelled a_misfires n (nI (cg_F i)) (nI i) := by
  intro k
  induction k with
  | zero =>
    intro i hk hq n hn post hp
    obtain ⟨n, rfl⟩ : ∃ n', n = n' + 1 := ⟨n - 1, by omega⟩
    have ei : i = 96 := by omega
    subst ei
    rw [cg_F96] at hq
    exact pk_le 96 96 (fun _ => hp _ (Or.inr ⟨rfl, fun q h1 h2 => hq q (by omega)⟩)) (fun z => absurd z (by omega))
  | succ k ih =>
    intro i hk hq n hn post hp
    obtain ⟨n, rfl⟩ : ∃ n', n = n' + 1 := ⟨n - 1, by omega⟩
    have hFb := cg_Fb i
    have hmb := cg_mi_b i
    have hFs := cg_Fs i
    have ee : nI (cg_F i) + nI (cg_mi i) = nI (cg_F (i + 1)) := nI_add _ _
    have hi : i < 96 := by omega
    have hnext : (∀ q, cg_F i * 1440 ≤ q → q < cg_F (i + 1) * 1440 → ¬ cs_P h a b t l q) → ∀ q, q < cg_F (i + 1) * 1440 → ¬ cs_P h a b t l q := by
      intro hf q q1
      by_cases e : q < cg_F i * 1440
      · exact hq q e
      · exact hf q (by omega) q1
    refine pk_le 96 i (fun z => absurd z (by omega)) (fun _ => pk_lt l (cg_F i * 1440) (fun z => hp _ (Or.inr ⟨rfl, fun q h1 h2 h3 => ?_⟩)) (fun z => cx_md (by omega) ⟨by decide, ?_⟩) rfl (ce_m1440 _))
    · by_cases e : q < cg_F i * 1440
      · exact hq q e h3
      · have := h3.2.1
        omega
    · have e1 : nI i - nI i / 12 * 12 + 1 = nI (i % 12 + 1) := by rw [ce_r12 (by omega), nI_1]
      refine cx_hv H 3 (i % 12 + 1) (by decide) (by show 1 ≤ i % 12 + 1; omega) (by show i % 12 + 1 ≤ 12; omega) (cb_br (fun e => nm_r ee (nm_r (nI_1 i) (ih (i + 1) (by omega) (hnext ?_) n (by omega) post hp))) (fun e => ?_)) rfl e1
      · intro q q1 q2
        refine cs_Df (d := q / 1440) ?_ q (by omega) (by omega)
        rw [cs_Dm hi (by omega) (by omega), e, Bool.false_and]
      · refine cx_month H hi e hl ht (fun r hr => ?_)
        rcases hr with ⟨m, rfl, m1, m2, m3, m4⟩ | ⟨rfl, hn⟩
        · have hm : m < 4206240 := by have := m3.2.1; omega
          refine br_f (cb_nm1 (by omega)) (hp _ (cs_fr_app (b := cg_F i * 1440) (by omega) (fun q _ h2 => hq q h2) (Or.inl ⟨m, rfl, m1, hm, m3, m4⟩)))
        · exact br_t rfl (nm_r ee (nm_r (nI_1 i) (ih (i + 1) (by omega) (hnext hn) n (by omega) post hp)))
theorem cx_next (H : cs_X s a_sets a_starred h a b) (hl : l < 4206240) (ht : t < 4206240) {post : Int32 → Prop} (hp : ∀ r, cs_fr (cs_P h a b t l) 0 4206240 r → post r) : wpX_nextMatch post (f_cap, f_clock, f_length, f_staged, a_text, a_sets, a_starred, a_occupied, a_misfirePolicy, a_concurrencyPolicy, a_running, a_started, a_completed, a_dropped, a_cancelled, a_misfires) (nI s) (nI t) (nI l) :=
  ⟨97, cx_nextloop H hl ht 96 0 rfl (fun q h => absurd h (by show ¬ q < 0 * 1440; omega)) 97 (by omega) post hp⟩
end
