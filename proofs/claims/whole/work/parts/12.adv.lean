/-! advance -/
def cv_K (sX : Nat → Int64) (st : Nat → Int32) (c l j : Nat) : Nat := cs_n (cs_Q (fun f v => cb_bit (sX (j * 5 + f)) v) (decide (st (j * 5 + 2) = 1)) (decide (st (j * 5 + 4) = 1)) c l) 4206240
def cv_tau (sX : Nat → Int64) (st occ mp cp ru sta dro can mis : Nat → Int32) (cap c c2 : Nat) (j : Nat) : Nat := if mp j = 2 then (if cap ≤ cv_K sX st c c2 j then cap else cv_K sX st c c2 j) else if mp j = 1 then (if cv_K sX st (c2 - 1) c2 j < 1 then 0 else 1) else (if cv_K sX st c c2 j < 1 then 0 else 1)
def cv_x (sX : Nat → Int64) (st occ mp cp ru sta dro can mis : Nat → Int32) (cap c c2 : Nat) (j : Nat) : Nat × Int32 × Int32 × Int32 := cu_it (cp j) (cv_tau sX st occ mp cp ru sta dro can mis cap c c2 j) ((ru j).toNatClampNeg, sta j, dro j, can j)
def cv_ru (sX : Nat → Int64) (st occ mp cp ru sta dro can mis : Nat → Int32) (cap c c2 : Nat) (i j : Nat) : Int32 := if j < i ∧ ¬ occ j = 0 then nI (cv_x sX st occ mp cp ru sta dro can mis cap c c2 j).1 else ru j
def cv_sta (sX : Nat → Int64) (st occ mp cp ru sta dro can mis : Nat → Int32) (cap c c2 : Nat) (i j : Nat) : Int32 := if j < i ∧ ¬ occ j = 0 then (cv_x sX st occ mp cp ru sta dro can mis cap c c2 j).2.1 else sta j
def cv_dro (sX : Nat → Int64) (st occ mp cp ru sta dro can mis : Nat → Int32) (cap c c2 : Nat) (i j : Nat) : Int32 := if j < i ∧ ¬ occ j = 0 then (cv_x sX st occ mp cp ru sta dro can mis cap c c2 j).2.2.1 else dro j
def cv_can (sX : Nat → Int64) (st occ mp cp ru sta dro can mis : Nat → Int32) (cap c c2 : Nat) (i j : Nat) : Int32 := if j < i ∧ ¬ occ j = 0 then (cv_x sX st occ mp cp ru sta dro can mis cap c c2 j).2.2.2 else can j
def cv_mis (sX : Nat → Int64) (st occ mp cp ru sta dro can mis : Nat → Int32) (cap c c2 : Nat) (i j : Nat) : Int32 := if j < i ∧ ¬ occ j = 0 then (if cv_K sX st c (c2 - 1) j < 1 then mis j else mis j + 1) else mis j
def cv_t (sX : Nat → Int64) (st occ mp cp ru sta dro can mis : Nat → Int32) (cap c c2 : Nat) : Nat → Int32
  | 0 => 0
  | i + 1 => if occ i = 0 then cv_t sX st occ mp cp ru sta dro can mis cap c c2 i else cv_t sX st occ mp cp ru sta dro can mis cap c c2 i + ((cv_x sX st occ mp cp ru sta dro can mis cap c c2 i).2.1 - sta i)
theorem cv_tau_b {sX : Nat → Int64} {st occ mp cp ru sta dro can mis : Nat → Int32} {cap c c2 : Nat} {j : Nat} (hc : cap ≤ 8) : cv_tau sX st occ mp cp ru sta dro can mis cap c c2 j ≤ 8 := by
  unfold cv_tau
  repeat' split
  all_goals omega
theorem cs_n_pos {Q : Nat → Bool} : ∀ n, 0 < cs_n Q n → ∃ q, q < n ∧ Q q = true := by
  intro n
  induction n with
  | zero => intro h; exact absurd h (Nat.lt_irrefl 0)
  | succ n ih =>
    intro h
    cases e : Q n
    · rw [cs_n_f e] at h
      obtain ⟨q, q1, q2⟩ := ih h
      exact ⟨q, by omega, q2⟩
    · exact ⟨n, by omega, e⟩
theorem cs_n_ex {Q : Nat → Bool} {n q : Nat} (h1 : q < n) (h2 : Q q = true) : 0 < cs_n Q n := by
  have t := cs_n_le (Q := Q) (show q + 1 ≤ n by omega)
  rw [cs_n_t h2] at t
  omega
section
variable {s : Nat} {h : Nat → Nat → Bool} {a b : Bool} {f_cap f_clock f_length f_staged : Int32} {a_text : Nat → Int32} {a_sets : Nat → Int64} {a_starred a_occupied a_misfirePolicy a_concurrencyPolicy a_running a_started a_completed a_dropped a_cancelled a_misfires : Nat → Int32}
theorem cx_trigloop (H : cs_X s a_sets a_starred h a b) {c c2 most : Nat} (hc2 : c2 < 4206240) (hm : most < 1000) {post : Int32 → Prop} (hp : post (nI (if most ≤ cs_n (cs_Q h a b c c2) 4206240 then most else cs_n (cs_Q h a b c c2) 4206240))) : ∀ k q t n : Nat, q + k = most → k < n → c ≤ t → t ≤ c2 → q = cs_n (cs_Q h a b c c2) (t + 1) → wX_triggersDue_47 post (nI s) (nI most) f_cap (nI c2) f_length f_staged a_text a_sets a_starred a_occupied a_misfirePolicy a_concurrencyPolicy a_running a_started a_completed a_dropped a_cancelled a_misfires n (nI t) (nI q) (nI q) := by
  intro k
  induction k with
  | zero =>
    intro q t n hk hn h1 h2 hq
    obtain ⟨n, rfl⟩ : ∃ n', n = n' + 1 := ⟨n - 1, by omega⟩
    refine pk_le most q (fun _ => ?_) (fun z => absurd z (by omega))
    have t1 := cs_n_le (Q := cs_Q h a b c c2) (show t + 1 ≤ 4206240 by omega)
    rw [if_pos (by omega)] at hp
    rw [show q = most by omega]
    exact hp
  | succ k ih =>
    intro q t n hk hn h1 h2 hq
    obtain ⟨n, rfl⟩ : ∃ n', n = n' + 1 := ⟨n - 1, by omega⟩
    refine pk_le most q (fun z => absurd z (by omega)) (fun _ => cx_next H hc2 (by omega) (fun r hr => ?_))
    rcases hr with ⟨m, rfl, m1, m2, m3, m4⟩ | ⟨rfl, hno⟩
    · refine br_f (cb_nm1 (by omega)) (nm_r (nI_1 q) (nm_r (nI_1 q) (ih (q + 1) m n (by omega) (by omega) ?_ m3.2.1 ?_)))
      · have := m3.1
        omega
      · have hQ : cs_Q h a b c c2 m = true := cs_QP.mpr ⟨by have := m3.1; omega, m3.2.1, m3.2.2⟩
        rw [cs_n_t hQ, hq]
        congr 1
        exact (cs_n_eq' (by have := m3.1; omega) (fun x x1 x2 => cs_Qf (fun hP => m4 x (by omega) x2 ⟨by omega, hP.2.1, hP.2.2⟩))).symm
    · refine br_t rfl ?_
      have e : cs_n (cs_Q h a b c c2) 4206240 = q := by
        rw [hq]
        exact cs_n_eq' (by omega) (fun x x1 x2 => cs_Qf (fun hP => hno x (by omega) x2 ⟨by omega, hP.2.1, hP.2.2⟩))
      rw [e, if_neg (by omega)] at hp
      exact hp
theorem cs_n_00 {c l : Nat} : cs_n (cs_Q h a b c l) (c + 1) = 0 := cs_n_eq' (a := 0) (by omega) (fun x _ x2 => cs_Qf (fun hP => absurd hP.1 (by omega)))
theorem cv_one {K : Nat} : (if 1 ≤ K then 1 else K) = (if K < 1 then 0 else 1) := by
  repeat' split
  all_goals omega
theorem cx_trig {sX : Nat → Int64} {st occ mp cp ru sta dro can mis : Nat → Int32} {cap c c2 : Nat} {j : Nat} (hj : j < 8) (H : cs_X j sX st (fun f v => cb_bit (sX (j * 5 + f)) v) (decide (st (j * 5 + 2) = 1)) (decide (st (j * 5 + 4) = 1))) (hc : c < c2) (hc2 : c2 < 4206240) (hcap : cap ≤ 8) {post : Int32 → Prop} (hp : post (nI (cv_tau sX st occ mp cp ru sta dro can mis cap c c2 j))) : wpX_triggersDue post (nI cap, nI c2, f_length, f_staged, a_text, sX, st, a_occupied, mp, a_concurrencyPolicy, a_running, a_started, a_completed, a_dropped, a_cancelled, a_misfires) (nI j) (nI c) := by
  have hin : vp_in (nI j) 8 := vp_in_nI hj (by decide)
  have ej : (nI j).toNatClampNeg = j := nI_clamp (by omega)
  have ec : nI c2 - 1 = nI (c2 - 1) := by
    obtain ⟨d, rfl⟩ : ∃ d, c2 = d + 1 := ⟨c2 - 1, by omega⟩
    exact nI_pred d
  unfold wpX_triggersDue
  dsimp only
  rw [ej]
  have h18 : ∀ z : Nat, z < 1000 → (mp j = 1 → post (nI (if z ≤ cv_K sX st (c2 - 1) c2 j then z else cv_K sX st (c2 - 1) c2 j))) → (¬ mp j = 1 → post (nI (if z ≤ cv_K sX st c c2 j then z else cv_K sX st c c2 j))) → wX_triggersDue_18 post (nI j) (nI c) (nI z) (nI cap) (nI c2) f_length f_staged a_text sX st a_occupied mp a_concurrencyPolicy a_running a_started a_completed a_dropped a_cancelled a_misfires := by
    intro z hz h1 h2
    unfold wX_triggersDue_18
    rw [ej]
    refine ⟨hin, br_c (fun e => nm_r ec ⟨z + 1, ?_⟩) (fun e => ⟨z + 1, ?_⟩)⟩
    · exact cx_trigloop H hc2 hz (h1 e) z 0 (c2 - 1) (z + 1) (by omega) (by omega) (by omega) (by omega) cs_n_00.symm
    · exact cx_trigloop H hc2 hz (h2 e) z 0 c (z + 1) (by omega) (by omega) (by omega) (by omega) cs_n_00.symm
  unfold cv_tau at hp
  refine ⟨hin, br_c (fun e => h18 cap (by omega) (fun e1 => absurd (e.symm.trans e1) (by decide)) (fun _ => ?_)) (fun e => h18 1 (by omega) (fun e1 => ?_) (fun e1 => ?_))⟩
  · rw [if_pos e] at hp; exact hp
  · rw [if_neg e, if_pos e1] at hp; rw [cv_one]; exact hp
  · rw [if_neg e, if_neg e1] at hp; rw [cv_one]; exact hp
theorem cx_mis {sX : Nat → Int64} {st : Nat → Int32} {c c2 : Nat} {j : Nat} (hj : j < 8) (H : cs_X j sX st (fun f v => cb_bit (sX (j * 5 + f)) v) (decide (st (j * 5 + 2) = 1)) (decide (st (j * 5 + 4) = 1))) (hc : c < c2) (hc2 : c2 < 4206240) {post : SX → Prop} (hp : ∀ mis', mis' j = (if cv_K sX st c (c2 - 1) j < 1 then a_misfires j else a_misfires j + 1) → (∀ i, i ≠ j → mis' i = a_misfires i) → post (f_cap, nI c2, f_length, f_staged, a_text, sX, st, a_occupied, a_misfirePolicy, a_concurrencyPolicy, a_running, a_started, a_completed, a_dropped, a_cancelled, mis')) : wpX_countMisfire post (f_cap, nI c2, f_length, f_staged, a_text, sX, st, a_occupied, a_misfirePolicy, a_concurrencyPolicy, a_running, a_started, a_completed, a_dropped, a_cancelled, a_misfires) (nI j) (nI c) := by
  have hin : vp_in (nI j) 8 := vp_in_nI hj (by decide)
  have ej : (nI j).toNatClampNeg = j := nI_clamp (by omega)
  have ec : nI c2 - 1 = nI (c2 - 1) := by
    obtain ⟨d, rfl⟩ : ∃ d, c2 = d + 1 := ⟨c2 - 1, by omega⟩
    exact nI_pred d
  unfold wpX_countMisfire
  dsimp only
  rw [ej, ec]
  refine cx_next H (by omega) (by omega) (fun r hr => ?_)
  rcases hr with ⟨m, rfl, m1, m2, m3, m4⟩ | ⟨rfl, hno⟩
  · refine br_f (cb_nm1 (by omega)) ⟨hin, hin, nm_e (hp _ ?_ (fun i hi => pk_un hi))⟩
    have t : 0 < cv_K sX st c (c2 - 1) j := cs_n_ex m2 (cs_QP.mpr m3)
    rw [pk_us, if_neg (by omega)]
  · refine br_t rfl (hp _ ?_ (fun i _ => rfl))
    have t : cv_K sX st c (c2 - 1) j = 0 := cs_n_eq' (a := 0) (by omega) (fun x x1 x2 => cs_Qf (hno x x1 x2))
    rw [if_pos (by omega)]
end
section
variable {f_cap f_clock f_length f_staged : Int32} {a_text : Nat → Int32} {a_sets : Nat → Int64} {a_starred a_occupied a_misfirePolicy a_concurrencyPolicy a_running a_started a_completed a_dropped a_cancelled a_misfires : Nat → Int32}
theorem cx_advloop {sX : Nat → Int64} {st occ mp cp ru sta dro can mis : Nat → Int32} {cap c c2 : Nat} (HA : ∀ j, j < 8 → cs_X j sX st (fun f v => cb_bit (sX (j * 5 + f)) v) (decide (st (j * 5 + 2) = 1)) (decide (st (j * 5 + 4) = 1))) (HR : ∀ j, j < 8 → ∃ r, r < 2 ^ 29 ∧ ru j = nI r) (hc : c < c2) (hc2 : c2 < 4206240) (hcap : cap ≤ 8) {post : Int32 → SX → Prop} (hq : ∀ ru' sta' dro' can' mis', (∀ j, j < 8 → ru' j = cv_ru sX st occ mp cp ru sta dro can mis cap c c2 8 j ∧ sta' j = cv_sta sX st occ mp cp ru sta dro can mis cap c c2 8 j ∧ dro' j = cv_dro sX st occ mp cp ru sta dro can mis cap c c2 8 j ∧ can' j = cv_can sX st occ mp cp ru sta dro can mis cap c c2 8 j ∧ mis' j = cv_mis sX st occ mp cp ru sta dro can mis cap c c2 8 j) → post (cv_t sX st occ mp cp ru sta dro can mis cap c c2 8) (nI cap, nI c2, f_length, f_staged, a_text, sX, st, occ, mp, cp, ru', sta', a_completed, dro', can', mis')) : ∀ (k i n : Nat) (ru' sta' dro' can' mis' : Nat → Int32), i + k = 8 → k < n → (∀ j, j < 8 → ru' j = cv_ru sX st occ mp cp ru sta dro can mis cap c c2 i j ∧ sta' j = cv_sta sX st occ mp cp ru sta dro can mis cap c c2 i j ∧ dro' j = cv_dro sX st occ mp cp ru sta dro can mis cap c c2 i j ∧ can' j = cv_can sX st occ mp cp ru sta dro can mis cap c c2 i j ∧ mis' j = cv_mis sX st occ mp cp ru sta dro can mis cap c c2 i j) → wX_advance_46 post (nI c) n (cv_t sX st occ mp cp ru sta dro can mis cap c c2 i) (nI i) (nI cap) (nI c2) f_length f_staged a_text sX st occ mp cp ru' sta' a_completed dro' can' mis' := by
  intro k
  induction k with
  | zero =>
    intro i n ru' sta' dro' can' mis' hk hn hv
    obtain ⟨n, rfl⟩ : ∃ n', n = n' + 1 := ⟨n - 1, by omega⟩
    have e : i = 8 := by omega
    subst e
    exact pk_le 8 8 (fun _ => hq ru' sta' dro' can' mis' hv) (fun z => absurd z (by omega))
  | succ k ih =>
    intro i n ru' sta' dro' can' mis' hk hn hv
    obtain ⟨n, rfl⟩ : ∃ n', n = n' + 1 := ⟨n - 1, by omega⟩
    have hi : i < 8 := by omega
    have ei : (nI i).toNatClampNeg = i := nI_clamp (by omega)
    have hother : ∀ j, j ≠ i → ((j < i + 1 ∧ ¬ occ j = 0) ↔ (j < i ∧ ¬ occ j = 0)) := fun j hj => ⟨fun z => ⟨by omega, z.2⟩, fun z => ⟨by omega, z.2⟩⟩
    have hoth2 : ∀ j, j ≠ i → cv_ru sX st occ mp cp ru sta dro can mis cap c c2 (i + 1) j = cv_ru sX st occ mp cp ru sta dro can mis cap c c2 i j ∧ cv_sta sX st occ mp cp ru sta dro can mis cap c c2 (i + 1) j = cv_sta sX st occ mp cp ru sta dro can mis cap c c2 i j ∧ cv_dro sX st occ mp cp ru sta dro can mis cap c c2 (i + 1) j = cv_dro sX st occ mp cp ru sta dro can mis cap c c2 i j ∧ cv_can sX st occ mp cp ru sta dro can mis cap c c2 (i + 1) j = cv_can sX st occ mp cp ru sta dro can mis cap c c2 i j ∧ cv_mis sX st occ mp cp ru sta dro can mis cap c c2 (i + 1) j = cv_mis sX st occ mp cp ru sta dro can mis cap c c2 i j := by
      intro j hj
      unfold cv_ru cv_sta cv_dro cv_can cv_mis
      simp only [hother j hj]
      exact ⟨trivial, trivial, trivial, trivial, trivial⟩
    refine pk_le 8 i (fun z => absurd z (by omega)) (fun _ => ⟨vp_in_nI hi (by decide), ?_⟩)
    rw [ei]
    refine br_c (fun ho => nm_r (nI_1 i) ?_) (fun ho => ?_)
    · have et : cv_t sX st occ mp cp ru sta dro can mis cap c c2 (i + 1) = cv_t sX st occ mp cp ru sta dro can mis cap c c2 i := if_pos ho
      rw [← et]
      refine ih (i + 1) n _ _ _ _ _ (by omega) (by omega) (fun j hj => ?_)
      by_cases e : j = i
      · subst e
        have t := hv j hj
        unfold cv_ru cv_sta cv_dro cv_can cv_mis at t ⊢
        rw [if_neg (fun z => absurd z.1 (by omega)), if_neg (fun z => absurd z.1 (by omega)), if_neg (fun z => absurd z.1 (by omega)), if_neg (fun z => absurd z.1 (by omega)), if_neg (fun z => absurd z.1 (by omega))] at t
        rw [if_neg (fun z => z.2 ho), if_neg (fun z => z.2 ho), if_neg (fun z => z.2 ho), if_neg (fun z => z.2 ho), if_neg (fun z => z.2 ho)]
        exact t
      · obtain ⟨t1, t2, t3, t4, t5⟩ := hv j hj
        obtain ⟨u1, u2, u3, u4, u5⟩ := hoth2 j e
        exact ⟨t1.trans u1.symm, t2.trans u2.symm, t3.trans u3.symm, t4.trans u4.symm, t5.trans u5.symm⟩
    · obtain ⟨r, r1, r2⟩ := HR i hi
      have hvi := hv i hi
      unfold cv_ru cv_sta cv_dro cv_can cv_mis at hvi
      rw [if_neg (fun z => absurd z.1 (by omega)), if_neg (fun z => absurd z.1 (by omega)), if_neg (fun z => absurd z.1 (by omega)), if_neg (fun z => absurd z.1 (by omega)), if_neg (fun z => absurd z.1 (by omega))] at hvi
      obtain ⟨v1, v2, v3, v4, v5⟩ := hvi
      have htb := cv_tau_b (sX := sX) (st := st) (occ := occ) (mp := mp) (cp := cp) (ru := ru) (sta := sta) (dro := dro) (can := can) (mis := mis) (c := c) (c2 := c2) (j := i) hcap
      refine cx_mis hi (HA i hi) hc hc2 (fun mis'' m1 m2 => ?_)
      dsimp only
      refine cx_trig (sX := sX) (st := st) (occ := occ) (mp := mp) (cp := cp) (ru := ru) (sta := sta) (dro := dro) (can := can) (mis := mis) hi (HA i hi) hc hc2 hcap ?_
      refine cx_run hi rfl (by omega) (v1.trans r2) (by omega) (fun ru'' sta'' dro'' can'' hX => ?_)
      dsimp only
      have ex : cu_it (cp i) (cv_tau sX st occ mp cp ru sta dro can mis cap c c2 i) (r, sta' i, dro' i, can' i) = cv_x sX st occ mp cp ru sta dro can mis cap c c2 i := by
        unfold cv_x
        rw [r2, nI_clamp (by omega), v2, v3, v4]
      rw [ex] at hX
      obtain ⟨w1, w2, w3, w4, wo⟩ := hX
      have et : cv_t sX st occ mp cp ru sta dro can mis cap c c2 i + (sta'' i - sta' i) = cv_t sX st occ mp cp ru sta dro can mis cap c c2 (i + 1) := by
        rw [w2, v2]
        exact (if_neg ho).symm
      refine nm_r et (nm_r (nI_1 i) (ih (i + 1) n _ _ _ _ _ (by omega) (by omega) (fun j hj => ?_)))
      by_cases e : j = i
      · subst e
        unfold cv_ru cv_sta cv_dro cv_can cv_mis
        rw [if_pos ⟨by omega, ho⟩, if_pos ⟨by omega, ho⟩, if_pos ⟨by omega, ho⟩, if_pos ⟨by omega, ho⟩, if_pos ⟨by omega, ho⟩]
        refine ⟨w1, w2, w3, w4, ?_⟩
        rw [m1, v5]
      · obtain ⟨t1, t2, t3, t4, t5⟩ := hv j hj
        obtain ⟨u1, u2, u3, u4, u5⟩ := hoth2 j e
        obtain ⟨o1, o2, o3, o4⟩ := wo j e
        exact ⟨o1.trans (t1.trans u1.symm), o2.trans (t2.trans u2.symm), o3.trans (t3.trans u3.symm), o4.trans (t4.trans u4.symm), (m2 j e).trans (t5.trans u5.symm)⟩
end
