/-! the runs that a job starts -/
def cu_st (p : Int32) (x : Nat × Int32 × Int32 × Int32) : Nat × Int32 × Int32 × Int32 :=
  if p = 1 ∧ 0 < x.1 then (x.1, x.2.1, x.2.2.1 + 1, x.2.2.2) else if p = 2 then (1, x.2.1 + 1, x.2.2.1, x.2.2.2 + nI x.1) else (x.1 + 1, x.2.1 + 1, x.2.2.1, x.2.2.2)
def cu_it (p : Int32) : Nat → Nat × Int32 × Int32 × Int32 → Nat × Int32 × Int32 × Int32
  | 0, x => x
  | n + 1, x => cu_it p n (cu_st p x)
theorem cu_st_b (p : Int32) (x : Nat × Int32 × Int32 × Int32) : (cu_st p x).1 ≤ x.1 + 1 := by
  unfold cu_st
  split
  · exact Nat.le_succ _
  · split
    · exact Nat.succ_le_succ (Nat.zero_le _)
    · exact Nat.le_refl _
theorem cu_it_b (p : Int32) : ∀ n x, (cu_it p n x).1 ≤ x.1 + n := by
  intro n
  induction n with
  | zero => intro x; exact Nat.le_refl _
  | succ n ih =>
    intro x
    have h1 := ih (cu_st p x)
    have h2 := cu_st_b p x
    show (cu_it p n (cu_st p x)).1 ≤ x.1 + (n + 1)
    omega
def cu_X (j : Nat) (ru sta dro can ru' sta' dro' can' : Nat → Int32) (x : Nat × Int32 × Int32 × Int32) : Prop :=
  ru' j = nI x.1 ∧ sta' j = x.2.1 ∧ dro' j = x.2.2.1 ∧ can' j = x.2.2.2 ∧ ∀ i, i ≠ j → ru' i = ru i ∧ sta' i = sta i ∧ dro' i = dro i ∧ can' i = can i
def cu_Y (j : Nat) (cnt cnt' : Nat → Int32) (x : Nat × Int32 × Int32 × Int32) : Prop :=
  cnt' (j * 6) = nI x.1 ∧ cnt' (j * 6 + 1) = x.2.1 ∧ cnt' (j * 6 + 3) = x.2.2.1 ∧ cnt' (j * 6 + 4) = x.2.2.2 ∧ ∀ i, i ≠ j * 6 → i ≠ j * 6 + 1 → i ≠ j * 6 + 3 → i ≠ j * 6 + 4 → cnt' i = cnt i
section
variable {f_cap f_clock f_length f_staged : Int32} {a_text : Nat → Int32} {a_sets : Nat → Int64} {a_starred a_occupied a_misfirePolicy a_concurrencyPolicy a_running a_started a_completed a_dropped a_cancelled a_misfires : Nat → Int32}
theorem cx_runloop {j : Nat} (hj : j < 8) {p : Int32} (hp : a_concurrencyPolicy j = p) {T : Nat} (hT : T < 1000) {x3 : Int32} {post : Int32 → SX → Prop} : ∀ (k i n : Nat) (x : Nat × Int32 × Int32 × Int32) (ru sta dro can : Nat → Int32), i + k = T → k < n → x.1 + k < 2 ^ 30 → cu_X j a_running a_started a_dropped a_cancelled ru sta dro can x → (∀ ru' sta' dro' can', cu_X j a_running a_started a_dropped a_cancelled ru' sta' dro' can' (cu_it p k x) → post (sta' j - x3) (f_cap, f_clock, f_length, f_staged, a_text, a_sets, a_starred, a_occupied, a_misfirePolicy, a_concurrencyPolicy, ru', sta', a_completed, dro', can', a_misfires)) → wX_startRuns_10 post (nI j) (nI T) x3 f_cap f_clock f_length f_staged n (nI i) a_text a_sets a_starred a_occupied a_misfirePolicy a_concurrencyPolicy ru sta a_completed dro can a_misfires := by
  have hin : vp_in (nI j) 8 := vp_in_nI hj (by decide)
  have ej : (nI j).toNatClampNeg = j := nI_clamp (by omega)
  intro k
  induction k with
  | zero =>
    intro i n x ru sta dro can hk hn hb hx hq
    obtain ⟨n, rfl⟩ : ∃ n', n = n' + 1 := ⟨n - 1, by omega⟩
    refine pk_le T i (fun _ => ⟨hin, ?_⟩) (fun z => absurd z (by omega))
    rw [ej]
    exact hq ru sta dro can hx
  | succ k ih =>
    intro i n x ru sta dro can hk hn hb hx hq
    obtain ⟨n, rfl⟩ : ∃ n', n = n' + 1 := ⟨n - 1, by omega⟩
    obtain ⟨x1, x2, x3', x4, xo⟩ := hx
    have hsb := cu_st_b p x
    have h80 : ∀ (r : Nat) (ru can : Nat → Int32), cu_st p x = (r + 1, x.2.1 + 1, x.2.2.1, can j) → ru j = nI r → (∀ i, i ≠ j → ru i = a_running i ∧ can i = a_cancelled i) → wX_startRuns_80 post (wX_startRuns_10 post (nI j) (nI T) x3 f_cap f_clock f_length f_staged n) (nI j) (nI T) x3 (nI i) f_cap f_clock f_length f_staged a_text a_sets a_starred a_occupied a_misfirePolicy a_concurrencyPolicy ru sta a_completed dro can a_misfires := by
      intro r ru can er h1 h2
      unfold wX_startRuns_80
      rw [ej]
      refine ⟨hin, hin, nm_e ⟨hin, hin, nm_e (nm_r (nI_1 i) (ih (i + 1) n (cu_st p x) _ _ _ _ (by omega) (by omega) (by omega) ?_ hq))⟩⟩
      rw [er]
      refine ⟨by rw [pk_us, h1]; exact nI_1 r, by rw [pk_us, x2], x3', rfl, fun q hq => ?_⟩
      rw [pk_un hq, pk_un hq]
      exact ⟨(h2 q hq).1, (xo q hq).2.1, (xo q hq).2.2.1, (h2 q hq).2⟩
    have h48 : ¬ (p = 1 ∧ 0 < x.1) → wX_startRuns_48 post (wX_startRuns_10 post (nI j) (nI T) x3 f_cap f_clock f_length f_staged n) (nI j) (nI T) x3 (nI i) f_cap f_clock f_length f_staged a_text a_sets a_starred a_occupied a_misfirePolicy a_concurrencyPolicy ru sta a_completed dro can a_misfires := by
      intro hn1
      unfold wX_startRuns_48
      rw [ej, hp]
      refine ⟨hin, br_c (fun z => ⟨hin, hin, hin, nm_e ⟨hin, nm_e ?_⟩⟩) (fun z => ?_)⟩
      · refine h80 0 _ _ ?_ (by rw [pk_us]; rfl) (fun q hq => by rw [pk_un hq, pk_un hq]; exact ⟨(xo q hq).1, (xo q hq).2.2.2⟩)
        unfold cu_st
        rw [if_neg hn1, if_pos z, pk_us, x4, x1]
      · refine h80 x.1 _ _ ?_ x1 (fun q hq => ⟨(xo q hq).1, (xo q hq).2.2.2⟩)
        unfold cu_st
        rw [if_neg hn1, if_neg z, x4]
    refine pk_le T i (fun z => absurd z (by omega)) (fun _ => ?_)
    rw [ej, hp]
    refine ⟨hin, br_c (fun z => ⟨hin, ?_⟩) (fun z => h48 (fun w => z w.1))⟩
    rw [x1]
    refine pk_le x.1 0 (fun w => h48 (fun y => by omega)) (fun w => ⟨hin, hin, nm_e (nm_r (nI_1 i) (ih (i + 1) n (cu_st p x) _ _ _ _ (by omega) (by omega) (by omega) ?_ hq))⟩)
    unfold cu_st
    rw [if_pos ⟨z, w⟩]
    refine ⟨x1, x2, by rw [pk_us, x3'], x4, fun q hq => ?_⟩
    rw [pk_un hq]
    exact xo q hq
theorem cx_run {j : Nat} (hj : j < 8) {p : Int32} (hp : a_concurrencyPolicy j = p) {T r : Nat} (hT : T < 1000) (hr : a_running j = nI r) (hb : r + T < 2 ^ 30) {post : Int32 → SX → Prop} (hq : ∀ ru' sta' dro' can', cu_X j a_running a_started a_dropped a_cancelled ru' sta' dro' can' (cu_it p T (r, a_started j, a_dropped j, a_cancelled j)) → post (sta' j - a_started j) (f_cap, f_clock, f_length, f_staged, a_text, a_sets, a_starred, a_occupied, a_misfirePolicy, a_concurrencyPolicy, ru', sta', a_completed, dro', can', a_misfires)) : wpX_startRuns post (f_cap, f_clock, f_length, f_staged, a_text, a_sets, a_starred, a_occupied, a_misfirePolicy, a_concurrencyPolicy, a_running, a_started, a_completed, a_dropped, a_cancelled, a_misfires) (nI j) (nI T) := by
  have hin : vp_in (nI j) 8 := vp_in_nI hj (by decide)
  have ej : (nI j).toNatClampNeg = j := nI_clamp (by omega)
  unfold wpX_startRuns
  dsimp only
  rw [ej]
  exact ⟨hin, nm_e ⟨T + 1, cx_runloop hj hp hT T 0 (T + 1) (r, a_started j, a_dropped j, a_cancelled j) a_running a_started a_dropped a_cancelled (by omega) (by omega) hb ⟨hr, rfl, rfl, rfl, fun i _ => ⟨rfl, rfl, rfl, rfl⟩⟩ hq⟩⟩
end
theorem cu_add (x s z : Int32) : (x + 1) + (z - (s + 1)) = x + (z - s) := by grind
section
variable {f_len f_clock f_cap f_staged f_pos f_val f_cy f_cm f_cd : Int32} {a_text a_sets a_domStar a_dowStar a_occ a_mis a_con a_cnt a_fs a_fe : Nat → Int32}
theorem cy_runloop {j : Nat} (hj : j < 8) {p : Int32} (hp : a_con j = p) (h3 : p = 0 ∨ p = 1 ∨ p = 2) {T : Nat} (hT : T < 1000) {x2 x3 : Int32} {post : Int32 → SY → Prop} {J : Int32 → Int32 → Int32 → Int32 → Int32 → Int32 → Int32 → Int32 → Int32 → Int32 → Int32 → (Nat → Int32) → (Nat → Int32) → (Nat → Int32) → (Nat → Int32) → (Nat → Int32) → (Nat → Int32) → (Nat → Int32) → (Nat → Int32) → (Nat → Int32) → (Nat → Int32) → Prop} : ∀ (k i n : Nat) (x : Nat × Int32 × Int32 × Int32) (cnt : Nat → Int32) (x4 : Int32), i + k = T → k < n → x.1 + k < 2 ^ 30 → cu_Y j a_cnt cnt x → (∀ cnt', cu_Y j a_cnt cnt' (cu_it p k x) → J (x4 + ((cu_it p k x).2.1 - x.2.1)) (nI (j + 1)) f_len f_clock f_cap f_staged f_pos f_val f_cy f_cm f_cd a_text a_sets a_domStar a_dowStar a_occ a_mis a_con cnt' a_fs a_fe) → wY_advance_206 post J x2 x3 (nI j) (nI T) f_len f_clock f_cap f_staged f_pos f_val f_cy f_cm f_cd n x4 (nI i) a_text a_sets a_domStar a_dowStar a_occ a_mis a_con cnt a_fs a_fe := by
  have hin : vp_in (nI j) 8 := vp_in_nI hj (by decide)
  have ej : (nI j).toNatClampNeg = j := nI_clamp (by omega)
  have i0 : vp_in (nI (j * 6)) 48 := vp_in_nI (by omega) (by decide)
  have i1 : vp_in (nI (j * 6 + 1)) 48 := vp_in_nI (by omega) (by decide)
  have i3 : vp_in (nI (j * 6 + 3)) 48 := vp_in_nI (by omega) (by decide)
  have i4 : vp_in (nI (j * 6 + 4)) 48 := vp_in_nI (by omega) (by decide)
  have e0 : nI (j * 6) + 0 = nI (j * 6) := nI_add (j * 6) 0
  have e1 : nI (j * 6) + 1 = nI (j * 6 + 1) := nI_add (j * 6) 1
  have e3 : nI (j * 6) + 3 = nI (j * 6 + 3) := nI_add (j * 6) 3
  have e4 : nI (j * 6) + 4 = nI (j * 6 + 4) := nI_add (j * 6) 4
  have c0 : (nI (j * 6)).toNatClampNeg = j * 6 := nI_clamp (by omega)
  have c1 : (nI (j * 6 + 1)).toNatClampNeg = j * 6 + 1 := nI_clamp (by omega)
  have c3 : (nI (j * 6 + 3)).toNatClampNeg = j * 6 + 3 := nI_clamp (by omega)
  have c4 : (nI (j * 6 + 4)).toNatClampNeg = j * 6 + 4 := nI_clamp (by omega)
  intro k
  induction k with
  | zero =>
    intro i n x cnt x4 hk hn hb hx hq
    obtain ⟨n, rfl⟩ : ∃ n', n = n' + 1 := ⟨n - 1, by omega⟩
    refine pk_le T i (fun _ => nm_r (nI_1 j) ?_) (fun z => absurd z (by omega))
    have t := hq cnt hx
    rw [show (cu_it p 0 x).2.1 - x.2.1 = 0 from Int32.sub_self _, Int32.add_zero] at t
    exact t
  | succ k ih =>
    intro i n x cnt x4 hk hn hb hx hq
    obtain ⟨n, rfl⟩ : ∃ n', n = n' + 1 := ⟨n - 1, by omega⟩
    obtain ⟨y1, y2, y3, y4, yo⟩ := hx
    have hsb := cu_st_b p x
    have hstep : ∀ (cnt' : Nat → Int32), (cu_st p x).2.1 = x.2.1 + 1 → cu_Y j a_cnt cnt' (cu_st p x) → ∀ z, z = x4 + 1 → ∀ w, w = nI i + 1 → wY_advance_206 post J x2 x3 (nI j) (nI T) f_len f_clock f_cap f_staged f_pos f_val f_cy f_cm f_cd n z w a_text a_sets a_domStar a_dowStar a_occ a_mis a_con cnt' a_fs a_fe := by
      intro cnt' es hc z ez w ew
      rw [ez, ew, nI_1]
      refine ih (i + 1) n (cu_st p x) cnt' (x4 + 1) (by omega) (by omega) (by omega) hc (fun cnt'' hc'' => ?_)
      have t := hq cnt'' hc''
      rw [es, cu_add]
      exact t
    have h373 : ∀ (cnt' : Nat → Int32), cu_st p x = (1, x.2.1 + 1, x.2.2.1, cnt' (j * 6 + 4)) → cnt' (j * 6 + 1) = x.2.1 → cnt' (j * 6 + 3) = x.2.2.1 → (∀ i, i ≠ j * 6 → i ≠ j * 6 + 1 → i ≠ j * 6 + 3 → i ≠ j * 6 + 4 → cnt' i = a_cnt i) → wY_advance_373 post J (wY_advance_206 post J x2 x3 (nI j) (nI T) f_len f_clock f_cap f_staged f_pos f_val f_cy f_cm f_cd n) x2 x3 x4 (nI j) (nI T) (nI i) (nI (j * 6)) f_len f_clock f_cap f_staged f_pos f_val f_cy f_cm f_cd a_text a_sets a_domStar a_dowStar a_occ a_mis a_con cnt' a_fs a_fe := by
      intro cnt' er g1 g3 go
      unfold wY_advance_373
      rw [e0, e1, c0, c1]
      refine ⟨i0, nm_e ⟨i1, i1, nm_e (hstep _ (by rw [er]) ?_)⟩⟩
      rw [er]
      refine ⟨by rw [pk_un (by omega), pk_us]; rfl, by rw [pk_us, pk_un (by omega), g1], by rw [pk_un (by omega), pk_un (by omega), g3], by rw [pk_un (by omega), pk_un (by omega)], fun q q0 q1 q3 q4 => by rw [pk_un q1, pk_un q0]; exact go q q0 q1 q3 q4⟩
    refine pk_le T i (fun z => absurd z (by omega)) (fun _ => nm_r (pk_mul j 6) ⟨hin, ?_⟩)
    rw [e0, e1, e3, e4, ej, c0, c1, c3, c4, hp]
    rcases h3 with rfl | rfl | rfl
    · have er : cu_st 0 x = (x.1 + 1, x.2.1 + 1, x.2.2.1, x.2.2.2) := by
        unfold cu_st
        rw [if_neg (fun z => absurd z.1 (by decide)), if_neg (by decide)]
      refine br_t rfl ⟨i0, i0, nm_e ⟨i1, i1, nm_e (hstep _ (by rw [er]) ?_)⟩⟩
      rw [er]
      exact ⟨by rw [pk_un (by omega), pk_us, y1]; exact nI_1 _, by rw [pk_us, pk_un (by omega), y2], by rw [pk_un (by omega), pk_un (by omega), y3], by rw [pk_un (by omega), pk_un (by omega), y4], fun q q0 q1 q3 q4 => by rw [pk_un q1, pk_un q0]; exact yo q q0 q1 q3 q4⟩
    · refine br_f (by decide) ⟨hin, br_t rfl ⟨i0, ?_⟩⟩
      rw [y1]
      refine pk_le x.1 0 (fun w => ⟨i0, nm_e ⟨i1, i1, nm_e (hstep _ ?_ ?_)⟩⟩) (fun w => ⟨i3, i3, nm_e (nm_r (nI_1 i) (ih (i + 1) n (cu_st 1 x) _ x4 (by omega) (by omega) (by omega) ?_ (fun cnt' hc => ?_)))⟩)
      · unfold cu_st
        rw [if_neg (by omega), if_neg (by decide)]
      · unfold cu_st
        rw [if_neg (by omega), if_neg (by decide)]
        exact ⟨by rw [pk_un (by omega), pk_us, show x.1 = 0 by omega]; rfl, by rw [pk_us, pk_un (by omega), y2], by rw [pk_un (by omega), pk_un (by omega), y3], by rw [pk_un (by omega), pk_un (by omega), y4], fun q q0 q1 q3 q4 => by rw [pk_un q1, pk_un q0]; exact yo q q0 q1 q3 q4⟩
      · unfold cu_st
        rw [if_pos ⟨rfl, w⟩]
        exact ⟨by rw [pk_un (by omega), y1], by rw [pk_un (by omega), y2], by rw [pk_us, y3], by rw [pk_un (by omega), y4], fun q q0 q1 q3 q4 => by rw [pk_un q3]; exact yo q q0 q1 q3 q4⟩
      · have t := hq cnt' hc
        have es : (cu_st 1 x).2.1 = x.2.1 := by
          unfold cu_st
          rw [if_pos ⟨rfl, w⟩]
        rw [es]
        exact t
    · have er : cu_st 2 x = (1, x.2.1 + 1, x.2.2.1, x.2.2.2 + nI x.1) := by
        unfold cu_st
        rw [if_neg (fun z => absurd z.1 (by decide)), if_pos rfl]
      refine br_f (by decide) ⟨hin, br_f (by decide) ⟨i0, ?_⟩⟩
      rw [y1]
      refine pk_le x.1 0 (fun w => h373 cnt ?_ y2 y3 yo) (fun w => ⟨i4, i0, i4, nm_e ⟨i0, nm_e (h373 _ ?_ ?_ ?_ ?_)⟩⟩)
      · rw [er, y4, show x.1 = 0 by omega, nI_0, Int32.add_zero]
      · rw [er, pk_un (by omega), pk_us, y4]
      · rw [pk_un (by omega), pk_un (by omega), y2]
      · rw [pk_un (by omega), pk_un (by omega), y3]
      · intro q q0 q1 q3 q4
        rw [pk_un q0, pk_un q4]
        exact yo q q0 q1 q3 q4
theorem cy_run {j : Nat} (hj : j < 8) {p : Int32} (hp : a_con j = p) (h3 : p = 0 ∨ p = 1 ∨ p = 2) {T r : Nat} (hT : T < 1000) (hr : a_cnt (j * 6) = nI r) (hb : r + T < 2 ^ 30) {x2 x3 x4 : Int32} {post : Int32 → SY → Prop} {J : Int32 → Int32 → Int32 → Int32 → Int32 → Int32 → Int32 → Int32 → Int32 → Int32 → Int32 → (Nat → Int32) → (Nat → Int32) → (Nat → Int32) → (Nat → Int32) → (Nat → Int32) → (Nat → Int32) → (Nat → Int32) → (Nat → Int32) → (Nat → Int32) → (Nat → Int32) → Prop} (hq : ∀ cnt', cu_Y j a_cnt cnt' (cu_it p T (r, a_cnt (j * 6 + 1), a_cnt (j * 6 + 3), a_cnt (j * 6 + 4))) → J (x4 + ((cu_it p T (r, a_cnt (j * 6 + 1), a_cnt (j * 6 + 3), a_cnt (j * 6 + 4))).2.1 - a_cnt (j * 6 + 1))) (nI (j + 1)) f_len f_clock f_cap f_staged f_pos f_val f_cy f_cm f_cd a_text a_sets a_domStar a_dowStar a_occ a_mis a_con cnt' a_fs a_fe) : ∃ n, wY_advance_206 post J x2 x3 (nI j) (nI T) f_len f_clock f_cap f_staged f_pos f_val f_cy f_cm f_cd n x4 0 a_text a_sets a_domStar a_dowStar a_occ a_mis a_con a_cnt a_fs a_fe :=
  ⟨T + 1, cy_runloop hj hp h3 hT T 0 (T + 1) (r, a_cnt (j * 6 + 1), a_cnt (j * 6 + 3), a_cnt (j * 6 + 4)) a_cnt x4 (by omega) (by omega) hb ⟨hr, rfl, rfl, rfl, fun _ _ _ _ _ => rfl⟩ hq⟩
end
