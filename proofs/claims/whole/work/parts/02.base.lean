/-! numbers, booleans, bits, the field tables -/
theorem cb_v0 : vp_nar .boolean 0 = 0 := by decide
theorem cb_v1 : vp_nar .boolean 1 = 1 := by decide
theorem cb_nar {z : Int32} (h : z = 0 ∨ z = 1) : narrow .boolean (.int z) = .int z := by rcases h with rfl | rfl <;> rfl
theorem cb_fit {z : Int32} (h : z = 0 ∨ z = 1) : fits .boolean (.int z) = true := by rcases h with rfl | rfl <;> rfl
theorem cb_vp {z : Int32} (h : z = 0 ∨ z = 1) : vp_nar .boolean z = z := by
  rcases h with rfl | rfl
  · exact cb_v0
  · exact cb_v1
def cb_b (c : Bool) : Int32 := if c then 1 else 0
theorem cb_b01 (c : Bool) : cb_b c = 0 ∨ cb_b c = 1 := by
  cases c
  · exact Or.inl rfl
  · exact Or.inr rfl
theorem cb_b0 : cb_b false = 0 := rfl
theorem cb_b1 : cb_b true = 1 := rfl
theorem cb_of {z : Int32} (h : z = 0 ∨ z = 1) : z = cb_b (decide (z = 1)) := by
  rcases h with rfl | rfl
  · exact (by decide)
  · exact (by decide)
theorem cb_br {c : Bool} {A B : Prop} (f : c = false → A) (g : c = true → B) : (cb_b c = 0 → A) ∧ (¬ cb_b c = 0 → B) := by
  cases c
  · exact br_t rfl (f rfl)
  · exact br_f (by decide) (g rfl)
theorem cb_nm1 {m : Nat} (hm : m < 2 ^ 31) : ¬ nI m = -1 := by
  intro h
  have h2 := congrArg Int32.toInt h
  rw [nI_toInt hm, show (-1 : Int32).toInt = -1 from by decide] at h2
  omega
theorem cb_nI0 {m : Nat} (hm : m < 2 ^ 31) : 0 ≤ nI m := nI_pos' hm
def cb_bit (w : Int64) (v : Nat) : Bool := w.toBitVec.getLsbD v
theorem cb_bit0 (v : Nat) : cb_bit 0 v = false := BitVec.getLsbD_zero
theorem cb_shr {w : Int64} {v : Nat} (hv : v < 64) : ((w >>> ((nI v).toInt64 &&& 63)) &&& 1) = 0 ↔ cb_bit w v = false := by
  have e : (w >>> lN v).toBitVec = w.toBitVec.sshiftRight v := by
    rw [Int64.toBitVec_shiftRight]
    show w.toBitVec.sshiftRight ((lN v).toBitVec.smod 64).toNat = _
    rw [wb_tb, wb_sm v hv, BitVec.toNat_ofNat, Nat.mod_eq_of_lt (by omega)]
  rw [wb_c v hv, ← Int64.toBitVec_inj, Int64.toBitVec_and, e]
  show w.toBitVec.sshiftRight v &&& 1#64 = 0#64 ↔ w.toBitVec.getLsbD v = false
  constructor
  · intro h
    have t : (w.toBitVec.sshiftRight v &&& 1#64).getLsbD 0 = (0#64).getLsbD 0 := by rw [h]
    rw [BitVec.getLsbD_and, BitVec.getLsbD_sshiftRight] at t
    simpa [hv] using t
  · intro h
    apply BitVec.eq_of_getLsbD_eq
    intro i hi
    rw [BitVec.getLsbD_and, BitVec.getLsbD_sshiftRight]
    cases i with
    | zero =>
      rw [if_pos (show v + 0 < 64 by omega), Nat.add_zero, h]
      rfl
    | succ i => simp
theorem cb_sh : ∀ z, z < 64 → ((1 : Int64) <<< ((nI z).toInt64 &&& 63)).toBitVec = BitVec.twoPow 64 z := by decide +kernel
theorem cb_or {w : Int64} {z v : Nat} (hz : z < 64) : cb_bit (w ||| ((1 : Int64) <<< ((nI z).toInt64 &&& 63))) v = (cb_bit w v || decide (z = v)) := by
  unfold cb_bit
  rw [Int64.toBitVec_or, BitVec.getLsbD_or, cb_sh z hz, BitVec.getLsbD_twoPow]
  simp [hz]
/-! the printed remainders and quotients -/
theorem ce_r4 {m : Nat} (hm : m < 2 ^ 31) : nI m - nI m / 4 * 4 = nI (m % 4) := pk_rem (d := 4) hm (by decide) (by decide)
theorem ce_r100 {m : Nat} (hm : m < 2 ^ 31) : nI m - nI m / 100 * 100 = nI (m % 100) := pk_rem (d := 100) hm (by decide) (by decide)
theorem ce_r400 {m : Nat} (hm : m < 2 ^ 31) : nI m - nI m / 400 * 400 = nI (m % 400) := pk_rem (d := 400) hm (by decide) (by decide)
theorem ce_r7 {m : Nat} (hm : m < 2 ^ 31) : nI m - nI m / 7 * 7 = nI (m % 7) := pk_rem (d := 7) hm (by decide) (by decide)
theorem ce_r12 {m : Nat} (hm : m < 2 ^ 31) : nI m - nI m / 12 * 12 = nI (m % 12) := pk_rem (d := 12) hm (by decide) (by decide)
theorem ce_r60 {m : Nat} (hm : m < 2 ^ 31) : nI m - nI m / 60 * 60 = nI (m % 60) := pk_rem (d := 60) hm (by decide) (by decide)
theorem ce_r1440 {m : Nat} (hm : m < 2 ^ 31) : nI m - nI m / 1440 * 1440 = nI (m % 1440) := pk_rem (d := 1440) hm (by decide) (by decide)
theorem ce_d12 {m : Nat} (hm : m < 2 ^ 31) : nI m / 12 = nI (m / 12) := pk_div (d := 12) hm (by decide) (by decide)
theorem ce_d60 {m : Nat} (hm : m < 2 ^ 31) : nI m / 60 = nI (m / 60) := pk_div (d := 60) hm (by decide) (by decide)
theorem ce_d1440 {m : Nat} (hm : m < 2 ^ 31) : nI m / 1440 = nI (m / 1440) := pk_div (d := 1440) hm (by decide) (by decide)
theorem ce_m1440 (m : Nat) : nI m * 1440 = nI (m * 1440) := pk_mul m 1440
theorem ce_m5 (m f : Nat) : nI m * 5 + nI f = nI (m * 5 + f) := (congrArg (· + nI f) (pk_mul m 5)).trans (nI_add (m * 5) f)
theorem ce_m6 (m f : Nat) : nI m * 6 + nI f = nI (m * 6 + f) := (congrArg (· + nI f) (pk_mul m 6)).trans (nI_add (m * 6) f)
theorem ce_h (m : Nat) (hm : m < 2 ^ 31) : (nI m - nI m / 1440 * 1440) / 60 = nI (m % 1440 / 60) := by
  rw [ce_r1440 hm, ce_d60 (by omega)]
/-! the fields -/
def cf_lo (f : Nat) : Nat := if f = 2 ∨ f = 3 then 1 else 0
def cf_hi (f : Nat) : Nat := if f = 0 then 59 else if f = 1 then 23 else if f = 2 then 31 else if f = 3 then 12 else 7
def cf_top (f : Nat) : Nat := if f = 0 then 59 else if f = 1 then 23 else if f = 2 then 31 else if f = 3 then 12 else 6
def cf_off (f : Nat) : Nat := if f = 0 then 0 else if f = 1 then 60 else if f = 2 then 84 else if f = 3 then 116 else 129
theorem cf_5 {P : Nat → Prop} (h0 : P 0) (h1 : P 1) (h2 : P 2) (h3 : P 3) (h4 : P 4) {f : Nat} (hf : f < 5) : P f := by
  match f, hf with
  | 0, _ => exact h0
  | 1, _ => exact h1
  | 2, _ => exact h2
  | 3, _ => exact h3
  | 4, _ => exact h4
theorem cf_topb {f : Nat} (hf : f < 5) : cf_off f + cf_top f < 136 := cf_5 (P := fun f => cf_off f + cf_top f < 136) (by decide) (by decide) (by decide) (by decide) (by decide) hf
theorem cf_top59 {f : Nat} (hf : f < 5) : cf_top f ≤ 59 := cf_5 (P := fun f => cf_top f ≤ 59) (by decide) (by decide) (by decide) (by decide) (by decide) hf
theorem cf_hi59 {f : Nat} (hf : f < 5) : cf_hi f ≤ 59 := cf_5 (P := fun f => cf_hi f ≤ 59) (by decide) (by decide) (by decide) (by decide) (by decide) hf
theorem cf_lo1 {f : Nat} (hf : f < 5) : cf_lo f ≤ 1 := cf_5 (P := fun f => cf_lo f ≤ 1) (by decide) (by decide) (by decide) (by decide) (by decide) hf
theorem cf_lohi {f : Nat} (hf : f < 5) : cf_lo f ≤ cf_hi f := cf_5 (P := fun f => cf_lo f ≤ cf_hi f) (by decide) (by decide) (by decide) (by decide) (by decide) hf
theorem cf_ht {f : Nat} (hf : f < 5) (h4 : f ≠ 4) : cf_hi f = cf_top f := by
  match f, hf with
  | 0, _ => rfl
  | 1, _ => rfl
  | 2, _ => rfl
  | 3, _ => rfl
  | 4, _ => exact absurd rfl h4
theorem cx_lo {f : Nat} (hf : f < 5) {post : Int32 → Prop} (h : post (nI (cf_lo f))) : wpX_lowest post (nI f) := by
  refine pk_eq f 2 (fun e => ?_) (fun e => pk_eq f 3 (fun e3 => ?_) (fun e3 => ?_))
  · subst e; exact h
  · subst e3; exact h
  · have t : cf_lo f = 0 := by simp [cf_lo, e, e3]
    rw [t] at h; exact h
theorem cx_hi {f : Nat} (hf : f < 5) {post : Int32 → Prop} (h : post (nI (cf_hi f))) : wpX_highest post (nI f) := by
  refine pk_lt f 0 (fun e => absurd e (by omega)) (fun _ => pk_lt 3 f (fun e => ?_) (fun e => pk_eq f 0 (fun e0 => ?_) (fun e0 => pk_eq f 1 (fun e1 => ?_) (fun e1 => pk_eq f 2 (fun e2 => ?_) (fun e2 => pk_eq f 3 (fun e3 => ?_) (fun e3 => trivial))))))
  · have t : f = 4 := by omega
    subst t; exact h
  · subst e0; exact h
  · subst e1; exact h
  · subst e2; exact h
  · subst e3; exact h
theorem cy_lo {f : Nat} (hf : f < 5) {f_len f_clock f_cap f_staged f_pos f_val f_cy f_cm f_cd : Int32} {a_text a_sets a_domStar a_dowStar a_occ a_mis a_con a_cnt a_fs a_fe : Nat → Int32} {post : Int32 → Prop} (h : post (nI (cf_lo f))) : wpY_lo post (f_len, f_clock, f_cap, f_staged, f_pos, f_val, f_cy, f_cm, f_cd, a_text, a_sets, a_domStar, a_dowStar, a_occ, a_mis, a_con, a_cnt, a_fs, a_fe) (nI f) := by
  refine pk_eq f 2 (fun e => ?_) (fun e => pk_eq f 3 (fun e3 => ?_) (fun e3 => ?_))
  · subst e; exact h
  · subst e3; exact h
  · have t : cf_lo f = 0 := by simp [cf_lo, e, e3]
    rw [t] at h; exact h
theorem cy_hi {f : Nat} (hf : f < 5) {f_len f_clock f_cap f_staged f_pos f_val f_cy f_cm f_cd : Int32} {a_text a_sets a_domStar a_dowStar a_occ a_mis a_con a_cnt a_fs a_fe : Nat → Int32} {post : Int32 → Prop} (h : post (nI (cf_hi f))) : wpY_hi post (f_len, f_clock, f_cap, f_staged, f_pos, f_val, f_cy, f_cm, f_cd, a_text, a_sets, a_domStar, a_dowStar, a_occ, a_mis, a_con, a_cnt, a_fs, a_fe) (nI f) := by
  refine pk_eq f 0 (fun e0 => ?_) (fun e0 => pk_eq f 1 (fun e1 => ?_) (fun e1 => pk_eq f 2 (fun e2 => ?_) (fun e2 => pk_eq f 3 (fun e3 => ?_) (fun e3 => ?_))))
  · subst e0; exact h
  · subst e1; exact h
  · subst e2; exact h
  · subst e3; exact h
  · have t : f = 4 := by omega
    subst t; exact h
theorem cy_off {f : Nat} (hf : f < 5) {f_len f_clock f_cap f_staged f_pos f_val f_cy f_cm f_cd : Int32} {a_text a_sets a_domStar a_dowStar a_occ a_mis a_con a_cnt a_fs a_fe : Nat → Int32} {post : Int32 → Prop} (h : post (nI (cf_off f))) : wpY_off post (f_len, f_clock, f_cap, f_staged, f_pos, f_val, f_cy, f_cm, f_cd, a_text, a_sets, a_domStar, a_dowStar, a_occ, a_mis, a_con, a_cnt, a_fs, a_fe) (nI f) := by
  refine pk_eq f 0 (fun e0 => ?_) (fun e0 => pk_eq f 1 (fun e1 => ?_) (fun e1 => pk_eq f 2 (fun e2 => ?_) (fun e2 => pk_eq f 3 (fun e3 => ?_) (fun e3 => ?_))))
  · subst e0; exact h
  · subst e1; exact h
  · subst e2; exact h
  · subst e3; exact h
  · have t : f = 4 := by omega
    subst t; exact h
theorem cx_has {s f v : Nat} (hs : s < 9) (hf : f < 5) (hv : v < 64) {f_cap f_clock f_length f_staged : Int32} {a_text : Nat → Int32} {a_sets : Nat → Int64} {a_starred a_occupied a_misfirePolicy a_concurrencyPolicy a_running a_started a_completed a_dropped a_cancelled a_misfires : Nat → Int32} {post : Int32 → Prop} (h : post (cb_b (cb_bit (a_sets (s * 5 + f)) v))) : wpX_setHas post (f_cap, f_clock, f_length, f_staged, a_text, a_sets, a_starred, a_occupied, a_misfirePolicy, a_concurrencyPolicy, a_running, a_started, a_completed, a_dropped, a_cancelled, a_misfires) (nI s) (nI f) (nI v) := by
  unfold wpX_setHas
  dsimp only
  rw [ce_m5, nI_clamp (by omega)]
  refine ⟨vp_in_nI (by omega) (by omega), ?_⟩
  cases hb : cb_bit (a_sets (s * 5 + f)) v
  · rw [hb] at h
    exact br_t ((cb_shr hv).mpr hb) h
  · rw [hb] at h
    refine br_f (fun z => ?_) h
    rw [(cb_shr hv).mp z] at hb
    exact Bool.noConfusion hb
theorem cy_has {s f v : Nat} (hs : s < 9) (hf : f < 5) (hv : cf_off f + v < 136) {f_len f_clock f_cap f_staged f_pos f_val f_cy f_cm f_cd : Int32} {a_text a_sets a_domStar a_dowStar a_occ a_mis a_con a_cnt a_fs a_fe : Nat → Int32} {c : Bool} (hc : a_sets (s * 136 + cf_off f + v) = cb_b c) {post : Int32 → Prop} (h : post (cb_b c)) : wpY_has post (f_len, f_clock, f_cap, f_staged, f_pos, f_val, f_cy, f_cm, f_cd, a_text, a_sets, a_domStar, a_dowStar, a_occ, a_mis, a_con, a_cnt, a_fs, a_fe) (nI s) (nI f) (nI v) := by
  unfold wpY_has
  dsimp only
  refine cy_off hf ?_
  have e : nI s * 136 + nI (cf_off f) + nI v = nI (s * 136 + cf_off f + v) := by
    rw [show nI s * 136 = nI (s * 136) from pk_mul s 136, nI_add, nI_add]
  rw [e, nI_clamp (by omega), hc]
  exact ⟨vp_in_nI (by omega) (by omega), cb_nar (cb_b01 c), h⟩
