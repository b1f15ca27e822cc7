section
/-! rows pasted from kit/rows -/
theorem pk_us {f : Nat → Int32} {k : Nat} {x : Int32} : upd f k x k = x := if_pos rfl
theorem pk_un {f : Nat → Int32} {k j : Nat} {x : Int32} (h : j ≠ k) : upd f k x j = f j := if_neg h
theorem pk_uLs {f : Nat → Int64} {k : Nat} {x : Int64} : vp_updL f k x k = x := if_pos rfl
theorem pk_uLn {f : Nat → Int64} {k j : Nat} {x : Int64} (h : j ≠ k) : vp_updL f k x j = f j := if_neg h
theorem pk_sub {a b : Nat} (h : b ≤ a) : nI a - nI b = nI (a - b) := by
  obtain ⟨c, rfl⟩ : ∃ c, a = c + b := ⟨a - b, by omega⟩
  rw [← nI_add, Int32.add_sub_cancel, Nat.add_sub_cancel]
theorem pk_m1 (n : Nat) : nI (n + 1) + (-1) = nI n := by
  rw [← nI_1, Int32.add_assoc, show (1 : Int32) + (-1) = 0 from rfl, Int32.add_zero]
theorem pk_mul (a b : Nat) : nI a * nI b = nI (a * b) := (Int32.ofNat_mul a b).symm
theorem pk_div {a d : Nat} (ha : a < 2 ^ 31) (h0 : 0 < d) (hd : d < 2 ^ 31) : nI a / nI d = nI (a / d) := by
  apply Int32.toInt_inj.mp
  rw [lg_idiv_nonneg (by rw [nI_toInt ha]; omega) (by rw [nI_toInt hd]; omega), nI_toInt ha, nI_toInt hd, nI_toInt (Nat.lt_of_le_of_lt (Nat.div_le_self a d) ha)]
  first | rfl | exact (Int.natCast_ediv _ _).symm
theorem pk_rem {a d : Nat} (ha : a < 2 ^ 31) (h0 : 0 < d) (hd : d < 2 ^ 31) : nI a - nI a / nI d * nI d = nI (a % d) := by
  rw [pk_div ha h0 hd, pk_mul, pk_sub (Nat.div_mul_le_self a d)]
  exact congrArg nI (by have := Nat.div_add_mod' a d; omega)
theorem pk_le {x y : Int32} {A B : Prop} (a b : Nat) (f : a ≤ b → A) (g : b < a → B) (hx : x = nI a := by rfl) (hy : y = nI b := by rfl) (ha : a < 2 ^ 31 := by omega) (hb : b < 2 ^ 31 := by omega) : (x ≤ y → A) ∧ (¬ x ≤ y → B) := by
  subst hx hy
  rw [nI_leI ha hb]
  exact ⟨f, fun z => g (by omega)⟩
theorem pk_lt {x y : Int32} {A B : Prop} (a b : Nat) (f : a < b → A) (g : b ≤ a → B) (hx : x = nI a := by rfl) (hy : y = nI b := by rfl) (ha : a < 2 ^ 31 := by omega) (hb : b < 2 ^ 31 := by omega) : (x < y → A) ∧ (¬ x < y → B) := by
  subst hx hy
  rw [nI_ltI ha hb]
  exact ⟨f, fun z => g (by omega)⟩
theorem pk_eq {x y : Int32} {A B : Prop} (a b : Nat) (f : a = b → A) (g : a ≠ b → B) (hx : x = nI a := by rfl) (hy : y = nI b := by rfl) (ha : a < 2 ^ 31 := by omega) (hb : b < 2 ^ 31 := by omega) : (x = y → A) ∧ (¬ x = y → B) := by
  subst hx hy
  rw [nI_eq ha hb]
  exact ⟨f, g⟩
theorem pk_in {x : Int32} (n N : Nat) (h : n < N) (hx : x = nI n := by rfl) (hN : N < 2 ^ 31 := by omega) : vp_in x N := by
  subst hx
  exact vp_in_nI h hN
theorem pk_cl {x : Int32} (n : Nat) (hx : x = nI n := by rfl) (h : n < 2 ^ 31 := by omega) : x.toNatClampNeg = n := by
  subst hx
  exact nI_clamp h
theorem pk_tn {n : Nat} (h : n < 2 ^ 32) : (nI n).toBitVec.toNat = n := Nat.mod_eq_of_lt h
theorem pk_shl (a s : Int32) (k : Nat) (hs : (s.toBitVec.smod 32).toNat = k) : (a <<< s).toBitVec.toNat = a.toBitVec.toNat * 2 ^ k % 2 ^ 32 := by
  show (a.toBitVec <<< (s.toBitVec.smod 32).toNat).toNat = _
  rw [hs, BitVec.toNat_shiftLeft, Nat.shiftLeft_eq]
theorem pk_shlN {n : Nat} (s : Int32) (k : Nat) (hs : (s.toBitVec.smod 32).toNat = k) (h : n * 2 ^ k < 2 ^ 32) : nI n <<< s = nI (n * 2 ^ k) := by
  apply Int32.toBitVec_inj.mp
  apply BitVec.eq_of_toNat_eq
  have hn : n < 2 ^ 32 := Nat.lt_of_le_of_lt (Nat.le_mul_of_pos_right n (Nat.two_pow_pos k)) h
  rw [pk_shl _ _ k hs, pk_tn hn, pk_tn h, Nat.mod_eq_of_lt h]
theorem pk_charN {q : Nat} (hq : q < 65536) : narrow .char (.int (nI q)) = .int (nI q) ∧ fits .char (.int (nI q)) = true := by
  constructor
  · have e : (nI q).toUInt32.toUInt16.toUInt32.toInt32 = nI q := by
      apply Int32.toBitVec_inj.mp
      apply BitVec.eq_of_toNat_eq
      show (nI q).toUInt32.toUInt16.toUInt32.toNat = q % 2 ^ 32
      rw [UInt16.toNat_toUInt32, UInt32.toNat_toUInt16, show (nI q).toUInt32.toNat = q % 2 ^ 32 from rfl]
      omega
    exact congrArg Value.int e
  · have a : (0 : Int32) ≤ nI q := nI_pos' (by omega)
    have b : nI q ≤ 65535 := nI_le (b := 65535) (by omega) (by decide)
    show (decide ((0 : Int32) ≤ nI q) && decide (nI q ≤ 65535)) = true
    rw [decide_eq_true a, decide_eq_true b]
    rfl
theorem pk_char (x : Int32) : (x.toUInt32 % 65536).toInt32 = nI (x.toBitVec.toNat % 65536) := by
  apply Int32.toBitVec_inj.mp
  apply BitVec.eq_of_toNat_eq
  rw [pk_tn (by omega)]
  show (x.toUInt32 % 65536).toNat = _
  rw [UInt32.toNat_mod]
  rfl
theorem pk_nc (x : Int32) : narrow .char (.int (x.toUInt32 % 65536).toInt32) = .int (x.toUInt32 % 65536).toInt32 := by
  rw [pk_char]
  exact (pk_charN (Nat.mod_lt _ (by decide))).1
theorem pk_vc (z : Int32) : vp_nar .char (z.toUInt32 % 65536).toInt32 = (z.toUInt32 % 65536).toInt32 := Value.int.inj (pk_nc z)
theorem wb_tb (n : Nat) : (lN n).toBitVec = BitVec.ofNat 64 n := rfl
theorem wb_inj {a b : Int64} (h : a.toBitVec = b.toBitVec) : a = b := Int64.toBitVec_inj.mp h
theorem wb_c : ∀ k, k < 64 → ((nI k).toInt64 &&& 63) = lN k := by decide +kernel
theorem wb_sm : ∀ k, k < 64 → (BitVec.ofNat 64 k).smod 64 = BitVec.ofNat 64 k := by decide +kernel
end
section
/-! numbers, booleans, bits, the field tables -/
theorem cb_v0 : vp_nar .boolean 0 = 0 := by decide
theorem cb_v1 : vp_nar .boolean 1 = 1 := by decide
theorem cb_nar {z : Int32} (h : z = 0 ∨ z = 1) : narrow .boolean (.int z) = .int z := by rcases h with rfl | rfl <;> rfl
theorem cb_fit {z : Int32} (h : z = 0 ∨ z = 1) : fits .boolean (.int z) = true := by rcases h with rfl | rfl <;> rfl
theorem cb_vp {z : Int32} (h : z = 0 ∨ z = 1) : vp_nar .boolean z = z := by
  rcases h with rfl | rfl
  · exact cb_v0
  · exact cb_v1
def cb_b (c : Bool) : Int32 := if c then 1 else 0
theorem cb_b01 (c : Bool) : cb_b c = 0 ∨ cb_b c = 1 := by
  cases c
  · exact Or.inl rfl
  · exact Or.inr rfl
theorem cb_b0 : cb_b false = 0 := rfl
theorem cb_b1 : cb_b true = 1 := rfl
theorem cb_of {z : Int32} (h : z = 0 ∨ z = 1) : z = cb_b (decide (z = 1)) := by
  rcases h with rfl | rfl
  · exact (by decide)
  · exact (by decide)
theorem cb_br {c : Bool} {A B : Prop} (f : c = false → A) (g : c = true → B) : (cb_b c = 0 → A) ∧ (¬ cb_b c = 0 → B) := by
  cases c
  · exact br_t rfl (f rfl)
  · exact br_f (by decide) (g rfl)
theorem cb_nm1 {m : Nat} (hm : m < 2 ^ 31) : ¬ nI m = -1 := by
  intro h
  have h2 := congrArg Int32.toInt h
  rw [nI_toInt hm, show (-1 : Int32).toInt = -1 from by decide] at h2
  omega
theorem cb_nI0 {m : Nat} (hm : m < 2 ^ 31) : 0 ≤ nI m := nI_pos' hm
def cb_bit (w : Int64) (v : Nat) : Bool := w.toBitVec.getLsbD v
theorem cb_bit0 (v : Nat) : cb_bit 0 v = false := BitVec.getLsbD_zero
theorem cb_shr {w : Int64} {v : Nat} (hv : v < 64) : ((w >>> ((nI v).toInt64 &&& 63)) &&& 1) = 0 ↔ cb_bit w v = false := by
  have e : (w >>> lN v).toBitVec = w.toBitVec.sshiftRight v := by
    rw [Int64.toBitVec_shiftRight]
    show w.toBitVec.sshiftRight ((lN v).toBitVec.smod 64).toNat = _
    rw [wb_tb, wb_sm v hv, BitVec.toNat_ofNat, Nat.mod_eq_of_lt (by omega)]
  rw [wb_c v hv, ← Int64.toBitVec_inj, Int64.toBitVec_and, e]
  show w.toBitVec.sshiftRight v &&& 1#64 = 0#64 ↔ w.toBitVec.getLsbD v = false
  constructor
  · intro h
    have t : (w.toBitVec.sshiftRight v &&& 1#64).getLsbD 0 = (0#64).getLsbD 0 := by rw [h]
    rw [BitVec.getLsbD_and, BitVec.getLsbD_sshiftRight] at t
    simpa [hv] using t
  · intro h
    apply BitVec.eq_of_getLsbD_eq
    intro i hi
    rw [BitVec.getLsbD_and, BitVec.getLsbD_sshiftRight]
    cases i with
    | zero =>
      rw [if_pos (show v + 0 < 64 by omega), Nat.add_zero, h]
      rfl
    | succ i => simp
theorem cb_sh : ∀ z, z < 64 → ((1 : Int64) <<< ((nI z).toInt64 &&& 63)).toBitVec = BitVec.twoPow 64 z := by decide +kernel
theorem cb_or {w : Int64} {z v : Nat} (hz : z < 64) : cb_bit (w ||| ((1 : Int64) <<< ((nI z).toInt64 &&& 63))) v = (cb_bit w v || decide (z = v)) := by
  unfold cb_bit
  rw [Int64.toBitVec_or, BitVec.getLsbD_or, cb_sh z hz, BitVec.getLsbD_twoPow]
  simp [hz]
/-! the printed remainders and quotients -/
theorem ce_r4 {m : Nat} (hm : m < 2 ^ 31) : nI m - nI m / 4 * 4 = nI (m % 4) := pk_rem (d := 4) hm (by decide) (by decide)
theorem ce_r100 {m : Nat} (hm : m < 2 ^ 31) : nI m - nI m / 100 * 100 = nI (m % 100) := pk_rem (d := 100) hm (by decide) (by decide)
theorem ce_r400 {m : Nat} (hm : m < 2 ^ 31) : nI m - nI m / 400 * 400 = nI (m % 400) := pk_rem (d := 400) hm (by decide) (by decide)
theorem ce_r7 {m : Nat} (hm : m < 2 ^ 31) : nI m - nI m / 7 * 7 = nI (m % 7) := pk_rem (d := 7) hm (by decide) (by decide)
theorem ce_r12 {m : Nat} (hm : m < 2 ^ 31) : nI m - nI m / 12 * 12 = nI (m % 12) := pk_rem (d := 12) hm (by decide) (by decide)
theorem ce_r60 {m : Nat} (hm : m < 2 ^ 31) : nI m - nI m / 60 * 60 = nI (m % 60) := pk_rem (d := 60) hm (by decide) (by decide)
theorem ce_r1440 {m : Nat} (hm : m < 2 ^ 31) : nI m - nI m / 1440 * 1440 = nI (m % 1440) := pk_rem (d := 1440) hm (by decide) (by decide)
theorem ce_d12 {m : Nat} (hm : m < 2 ^ 31) : nI m / 12 = nI (m / 12) := pk_div (d := 12) hm (by decide) (by decide)
theorem ce_d60 {m : Nat} (hm : m < 2 ^ 31) : nI m / 60 = nI (m / 60) := pk_div (d := 60) hm (by decide) (by decide)
theorem ce_d1440 {m : Nat} (hm : m < 2 ^ 31) : nI m / 1440 = nI (m / 1440) := pk_div (d := 1440) hm (by decide) (by decide)
theorem ce_m1440 (m : Nat) : nI m * 1440 = nI (m * 1440) := pk_mul m 1440
theorem ce_m5 (m f : Nat) : nI m * 5 + nI f = nI (m * 5 + f) := (congrArg (· + nI f) (pk_mul m 5)).trans (nI_add (m * 5) f)
theorem ce_m6 (m f : Nat) : nI m * 6 + nI f = nI (m * 6 + f) := (congrArg (· + nI f) (pk_mul m 6)).trans (nI_add (m * 6) f)
theorem ce_h (m : Nat) (hm : m < 2 ^ 31) : (nI m - nI m / 1440 * 1440) / 60 = nI (m % 1440 / 60) := by
  rw [ce_r1440 hm, ce_d60 (by omega)]
/-! the fields -/
def cf_lo (f : Nat) : Nat := if f = 2 ∨ f = 3 then 1 else 0
def cf_hi (f : Nat) : Nat := if f = 0 then 59 else if f = 1 then 23 else if f = 2 then 31 else if f = 3 then 12 else 7
def cf_top (f : Nat) : Nat := if f = 0 then 59 else if f = 1 then 23 else if f = 2 then 31 else if f = 3 then 12 else 6
def cf_off (f : Nat) : Nat := if f = 0 then 0 else if f = 1 then 60 else if f = 2 then 84 else if f = 3 then 116 else 129
theorem cf_5 {P : Nat → Prop} (h0 : P 0) (h1 : P 1) (h2 : P 2) (h3 : P 3) (h4 : P 4) {f : Nat} (hf : f < 5) : P f := by
  match f, hf with
  | 0, _ => exact h0
  | 1, _ => exact h1
  | 2, _ => exact h2
  | 3, _ => exact h3
  | 4, _ => exact h4
theorem cf_topb {f : Nat} (hf : f < 5) : cf_off f + cf_top f < 136 := cf_5 (P := fun f => cf_off f + cf_top f < 136) (by decide) (by decide) (by decide) (by decide) (by decide) hf
theorem cf_top59 {f : Nat} (hf : f < 5) : cf_top f ≤ 59 := cf_5 (P := fun f => cf_top f ≤ 59) (by decide) (by decide) (by decide) (by decide) (by decide) hf
theorem cf_hi59 {f : Nat} (hf : f < 5) : cf_hi f ≤ 59 := cf_5 (P := fun f => cf_hi f ≤ 59) (by decide) (by decide) (by decide) (by decide) (by decide) hf
theorem cf_lo1 {f : Nat} (hf : f < 5) : cf_lo f ≤ 1 := cf_5 (P := fun f => cf_lo f ≤ 1) (by decide) (by decide) (by decide) (by decide) (by decide) hf
theorem cf_lohi {f : Nat} (hf : f < 5) : cf_lo f ≤ cf_hi f := cf_5 (P := fun f => cf_lo f ≤ cf_hi f) (by decide) (by decide) (by decide) (by decide) (by decide) hf
theorem cf_ht {f : Nat} (hf : f < 5) (h4 : f ≠ 4) : cf_hi f = cf_top f := by
  match f, hf with
  | 0, _ => rfl
  | 1, _ => rfl
  | 2, _ => rfl
  | 3, _ => rfl
  | 4, _ => exact absurd rfl h4
theorem cx_lo {f : Nat} (hf : f < 5) {post : Int32 → Prop} (h : post (nI (cf_lo f))) : wpX_lowest post (nI f) := by
  refine pk_eq f 2 (fun e => ?_) (fun e => pk_eq f 3 (fun e3 => ?_) (fun e3 => ?_))
  · subst e; exact h
  · subst e3; exact h
  · have t : cf_lo f = 0 := by simp [cf_lo, e, e3]
    rw [t] at h; exact h
theorem cx_hi {f : Nat} (hf : f < 5) {post : Int32 → Prop} (h : post (nI (cf_hi f))) : wpX_highest post (nI f) := by
  refine pk_lt f 0 (fun e => absurd e (by omega)) (fun _ => pk_lt 3 f (fun e => ?_) (fun e => pk_eq f 0 (fun e0 => ?_) (fun e0 => pk_eq f 1 (fun e1 => ?_) (fun e1 => pk_eq f 2 (fun e2 => ?_) (fun e2 => pk_eq f 3 (fun e3 => ?_) (fun e3 => trivial))))))
  · have t : f = 4 := by omega
    subst t; exact h
  · subst e0; exact h
  · subst e1; exact h
  · subst e2; exact h
  · subst e3; exact h
theorem cy_lo {f : Nat} (hf : f < 5) {f_len f_clock f_cap f_staged f_pos f_val f_cy f_cm f_cd : Int32} {a_text a_sets a_domStar a_dowStar a_occ a_mis a_con a_cnt a_fs a_fe : Nat → Int32} {post : Int32 → Prop} (h : post (nI (cf_lo f))) : wpY_lo post (f_len, f_clock, f_cap, f_staged, f_pos, f_val, f_cy, f_cm, f_cd, a_text, a_sets, a_domStar, a_dowStar, a_occ, a_mis, a_con, a_cnt, a_fs, a_fe) (nI f) := by
  refine pk_eq f 2 (fun e => ?_) (fun e => pk_eq f 3 (fun e3 => ?_) (fun e3 => ?_))
  · subst e; exact h
  · subst e3; exact h
  · have t : cf_lo f = 0 := by simp [cf_lo, e, e3]
    rw [t] at h; exact h
theorem cy_hi {f : Nat} (hf : f < 5) {f_len f_clock f_cap f_staged f_pos f_val f_cy f_cm f_cd : Int32} {a_text a_sets a_domStar a_dowStar a_occ a_mis a_con a_cnt a_fs a_fe : Nat → Int32} {post : Int32 → Prop} (h : post (nI (cf_hi f))) : wpY_hi post (f_len, f_clock, f_cap, f_staged, f_pos, f_val, f_cy, f_cm, f_cd, a_text, a_sets, a_domStar, a_dowStar, a_occ, a_mis, a_con, a_cnt, a_fs, a_fe) (nI f) := by
  refine pk_eq f 0 (fun e0 => ?_) (fun e0 => pk_eq f 1 (fun e1 => ?_) (fun e1 => pk_eq f 2 (fun e2 => ?_) (fun e2 => pk_eq f 3 (fun e3 => ?_) (fun e3 => ?_))))
  · subst e0; exact h
  · subst e1; exact h
  · subst e2; exact h
  · subst e3; exact h
  · have t : f = 4 := by omega
    subst t; exact h
theorem cy_off {f : Nat} (hf : f < 5) {f_len f_clock f_cap f_staged f_pos f_val f_cy f_cm f_cd : Int32} {a_text a_sets a_domStar a_dowStar a_occ a_mis a_con a_cnt a_fs a_fe : Nat → Int32} {post : Int32 → Prop} (h : post (nI (cf_off f))) : wpY_off post (f_len, f_clock, f_cap, f_staged, f_pos, f_val, f_cy, f_cm, f_cd, a_text, a_sets, a_domStar, a_dowStar, a_occ, a_mis, a_con, a_cnt, a_fs, a_fe) (nI f) := by
  refine pk_eq f 0 (fun e0 => ?_) (fun e0 => pk_eq f 1 (fun e1 => ?_) (fun e1 => pk_eq f 2 (fun e2 => ?_) (fun e2 => pk_eq f 3 (fun e3 => ?_) (fun e3 => ?_))))
  · subst e0; exact h
  · subst e1; exact h
  · subst e2; exact h
  · subst e3; exact h
  · have t : f = 4 := by omega
    subst t; exact h
theorem cx_has {s f v : Nat} (hs : s < 9) (hf : f < 5) (hv : v < 64) {f_cap f_clock f_length f_staged : Int32} {a_text : Nat → Int32} {a_sets : Nat → Int64} {a_starred a_occupied a_misfirePolicy a_concurrencyPolicy a_running a_started a_completed a_dropped a_cancelled a_misfires : Nat → Int32} {post : Int32 → Prop} (h : post (cb_b (cb_bit (a_sets (s * 5 + f)) v))) : wpX_setHas post (f_cap, f_clock, f_length, f_staged, a_text, a_sets, a_starred, a_occupied, a_misfirePolicy, a_concurrencyPolicy, a_running, a_started, a_completed, a_dropped, a_cancelled, a_misfires) (nI s) (nI f) (nI v) := by
  unfold wpX_setHas
  dsimp only
  rw [ce_m5, nI_clamp (by omega)]
  refine ⟨vp_in_nI (by omega) (by omega), ?_⟩
  cases hb : cb_bit (a_sets (s * 5 + f)) v
  · rw [hb] at h
    exact br_t ((cb_shr hv).mpr hb) h
  · rw [hb] at h
    refine br_f (fun z => ?_) h
    rw [(cb_shr hv).mp z] at hb
    exact Bool.noConfusion hb
theorem cy_has {s f v : Nat} (hs : s < 9) (hf : f < 5) (hv : cf_off f + v < 136) {f_len f_clock f_cap f_staged f_pos f_val f_cy f_cm f_cd : Int32} {a_text a_sets a_domStar a_dowStar a_occ a_mis a_con a_cnt a_fs a_fe : Nat → Int32} {c : Bool} (hc : a_sets (s * 136 + cf_off f + v) = cb_b c) {post : Int32 → Prop} (h : post (cb_b c)) : wpY_has post (f_len, f_clock, f_cap, f_staged, f_pos, f_val, f_cy, f_cm, f_cd, a_text, a_sets, a_domStar, a_dowStar, a_occ, a_mis, a_con, a_cnt, a_fs, a_fe) (nI s) (nI f) (nI v) := by
  unfold wpY_has
  dsimp only
  refine cy_off hf ?_
  have e : nI s * 136 + nI (cf_off f) + nI v = nI (s * 136 + cf_off f + v) := by
    rw [show nI s * 136 = nI (s * 136) from pk_mul s 136, nI_add, nI_add]
  rw [e, nI_clamp (by omega), hc]
  exact ⟨vp_in_nI (by omega) (by omega), cb_nar (cb_b01 c), h⟩
end
section
/-! the calendar -/
def cg_lp (y : Nat) : Bool := decide (y % 4 = 0) && (!decide (y % 100 = 0) || decide (y % 400 = 0))
def cg_ml (y m : Nat) : Nat := if m = 2 then (if cg_lp y then 29 else 28) else if m = 4 then 30 else if m = 6 then 30 else if m = 9 then 30 else if m = 11 then 30 else 31
def cg_mi (i : Nat) : Nat := cg_ml (2096 + i / 12) (i % 12 + 1)
def cg_F : Nat → Nat
  | 0 => 0
  | i + 1 => cg_F i + cg_mi i
def cg_yl (y : Nat) : Nat := if cg_lp y then 366 else 365
def cg_yr : Nat → Nat → Nat → Nat × Nat
  | 0, d, y => (d, y)
  | n + 1, d, y => if d < cg_yl y then cg_yr n d y else cg_yr n (d - cg_yl y) (y + 1)
def cg_mo (y : Nat) : Nat → Nat → Nat → Nat × Nat
  | 0, d, m => (d, m)
  | n + 1, d, m => if d < cg_ml y m then cg_mo y n d m else cg_mo y n (d - cg_ml y m) (m + 1)
def cg_dt (d : Nat) : Nat × Nat × Nat := ((cg_yr 8 d 2096).2, (cg_mo (cg_yr 8 d 2096).2 11 (cg_yr 8 d 2096).1 1).2, (cg_mo (cg_yr 8 d 2096).2 11 (cg_yr 8 d 2096).1 1).1 + 1)
set_option maxRecDepth 100000 in
theorem cg_tab : (List.range 96).all (fun i => (List.range (cg_mi i)).all (fun j => Nat.beq (cg_dt (cg_F i + j)).1 (2096 + i / 12) && Nat.beq (cg_dt (cg_F i + j)).2.1 (i % 12 + 1) && Nat.beq (cg_dt (cg_F i + j)).2.2 (j + 1))) = true := by decide +kernel
theorem cg_dt_eq {i d : Nat} (hi : i < 96) (h1 : cg_F i ≤ d) (h2 : d < cg_F (i + 1)) : cg_dt d = (2096 + i / 12, i % 12 + 1, d - cg_F i + 1) := by
  have h3 : d - cg_F i < cg_mi i := by
    have : cg_F (i + 1) = cg_F i + cg_mi i := rfl
    omega
  have t := List.all_eq_true.mp (List.all_eq_true.mp cg_tab i (List.mem_range.mpr hi)) (d - cg_F i) (List.mem_range.mpr h3)
  rw [show cg_F i + (d - cg_F i) = d by omega, Bool.and_eq_true, Bool.and_eq_true] at t
  exact Prod.ext (Nat.eq_of_beq_eq_true t.1.1) (Prod.ext (Nat.eq_of_beq_eq_true t.1.2) (Nat.eq_of_beq_eq_true t.2))
theorem cg_F96 : cg_F 96 = 2921 := by decide +kernel
theorem cg_ml_b (y m : Nat) : 28 ≤ cg_ml y m ∧ cg_ml y m ≤ 31 := by
  unfold cg_ml
  repeat' split
  all_goals omega
theorem cg_mi_b (i : Nat) : 28 ≤ cg_mi i ∧ cg_mi i ≤ 31 := cg_ml_b _ _
theorem cg_yl_b (y : Nat) : 365 ≤ cg_yl y ∧ cg_yl y ≤ 366 := by
  unfold cg_yl
  split <;> omega
theorem cg_Fs (i : Nat) : cg_F (i + 1) = cg_F i + cg_mi i := rfl
theorem cg_Fb : ∀ i, cg_F i ≤ 31 * i := by
  intro i
  induction i with
  | zero => exact Nat.le_refl 0
  | succ i ih =>
    have := cg_mi_b i
    rw [cg_Fs]
    omega
theorem cg_ex : ∀ n d, d < cg_F n → ∃ i, i < n ∧ cg_F i ≤ d ∧ d < cg_F (i + 1) := by
  intro n
  induction n with
  | zero => intro d hd; exact absurd hd (Nat.not_lt_zero d)
  | succ n ih =>
    intro d hd
    by_cases h : d < cg_F n
    · obtain ⟨i, hi, h1, h2⟩ := ih d h
      exact ⟨i, by omega, h1, h2⟩
    · exact ⟨n, by omega, by omega, hd⟩
theorem cg_day {d : Nat} (hd : d < 2921) : ∃ i, i < 96 ∧ cg_F i ≤ d ∧ d < cg_F (i + 1) := cg_ex 96 d (by rw [cg_F96]; exact hd)
theorem cg_dtb {d : Nat} (hd : d < 2921) : 1 ≤ (cg_dt d).2.1 ∧ (cg_dt d).2.1 ≤ 12 ∧ 1 ≤ (cg_dt d).2.2 ∧ (cg_dt d).2.2 ≤ 31 := by
  obtain ⟨i, hi, h1, h2⟩ := cg_day hd
  have := cg_mi_b i
  rw [cg_dt_eq hi h1 h2]
  rw [cg_Fs] at h2
  show 1 ≤ i % 12 + 1 ∧ i % 12 + 1 ≤ 12 ∧ 1 ≤ d - cg_F i + 1 ∧ d - cg_F i + 1 ≤ 31
  omega
/-! X's walks -/
theorem cx_leap {y : Nat} (hy : y < 2 ^ 31) {post : Int32 → Prop} (h : post (cb_b (cg_lp y))) : wpX_isLeap post (nI y) := by
  refine ⟨by decide, pk_eq (y % 4) 0 (fun h4 => ⟨by decide, pk_eq (y % 100) 0 (fun h1 => ⟨by decide, pk_eq (y % 400) 0 (fun h2 => ?_) (fun h2 => ?_) (ce_r400 hy)⟩) (fun h1 => ?_) (ce_r100 hy)⟩) (fun h4 => ?_) (ce_r4 hy)⟩
  · have t : cg_lp y = true := by simp [cg_lp, h4, h1, h2]
    rw [t] at h; exact h
  · have t : cg_lp y = false := by simp [cg_lp, h4, h1, h2]
    rw [t] at h; exact h
  · have t : cg_lp y = true := by simp [cg_lp, h4, h1]
    rw [t] at h; exact h
  · have t : cg_lp y = false := by simp [cg_lp, h4]
    rw [t] at h; exact h
theorem cy_leap {y : Nat} (hy : y < 2 ^ 31) {f_len f_clock f_cap f_staged f_pos f_val f_cy f_cm f_cd : Int32} {a_text a_sets a_domStar a_dowStar a_occ a_mis a_con a_cnt a_fs a_fe : Nat → Int32} {post : Int32 → Prop} (h : post (cb_b (cg_lp y))) : wpY_leap post (f_len, f_clock, f_cap, f_staged, f_pos, f_val, f_cy, f_cm, f_cd, a_text, a_sets, a_domStar, a_dowStar, a_occ, a_mis, a_con, a_cnt, a_fs, a_fe) (nI y) := by
  refine ⟨by decide, pk_eq (y % 4) 0 (fun h4 => ⟨by decide, pk_eq (y % 100) 0 (fun h1 => ⟨by decide, pk_eq (y % 400) 0 (fun h2 => ?_) (fun h2 => ?_) (ce_r400 hy)⟩) (fun h1 => ?_) (ce_r100 hy)⟩) (fun h4 => ?_) (ce_r4 hy)⟩
  · have t : cg_lp y = true := by simp [cg_lp, h4, h1, h2]
    rw [t] at h; exact h
  · have t : cg_lp y = false := by simp [cg_lp, h4, h1, h2]
    rw [t] at h; exact h
  · have t : cg_lp y = true := by simp [cg_lp, h4, h1]
    rw [t] at h; exact h
  · have t : cg_lp y = false := by simp [cg_lp, h4]
    rw [t] at h; exact h
theorem cx_md {i : Nat} (hi : i < 1000) {post : Int32 → Prop} (h : post (nI (cg_mi i))) : wpX_monthDays post (nI i) := by
  have e1 : 2096 + nI i / 12 = nI (2096 + i / 12) := by rw [ce_d12 (by omega)]; exact nI_add 2096 (i / 12)
  have e2 : nI i - nI i / 12 * 12 + 1 = nI (i % 12 + 1) := by rw [ce_r12 (by omega), nI_1]
  refine ⟨by decide, nm_r e1 ⟨by decide, nm_r e2 ?_⟩⟩
  refine pk_eq (i % 12 + 1) 2 (fun h2 => cx_leap (by omega) (cb_br (fun hl => ?_) (fun hl => ?_))) (fun h2 => pk_eq (i % 12 + 1) 4 (fun h4 => ?_) (fun h4 => pk_eq (i % 12 + 1) 6 (fun h6 => ?_) (fun h6 => pk_eq (i % 12 + 1) 9 (fun h9 => ?_) (fun h9 => pk_eq (i % 12 + 1) 11 (fun h11 => ?_) (fun h11 => ?_)))))
  · have t : cg_mi i = 28 := by unfold cg_mi cg_ml; rw [if_pos h2, hl]; rfl
    rw [t] at h; exact h
  · have t : cg_mi i = 29 := by unfold cg_mi cg_ml; rw [if_pos h2, hl]; rfl
    rw [t] at h; exact h
  · have t : cg_mi i = 30 := by unfold cg_mi cg_ml; rw [if_neg h2, if_pos h4]
    rw [t] at h; exact h
  · have t : cg_mi i = 30 := by unfold cg_mi cg_ml; rw [if_neg h2, if_neg h4, if_pos h6]
    rw [t] at h; exact h
  · have t : cg_mi i = 30 := by unfold cg_mi cg_ml; rw [if_neg h2, if_neg h4, if_neg h6, if_pos h9]
    rw [t] at h; exact h
  · have t : cg_mi i = 30 := by unfold cg_mi cg_ml; rw [if_neg h2, if_neg h4, if_neg h6, if_neg h9, if_pos h11]
    rw [t] at h; exact h
  · have t : cg_mi i = 31 := by unfold cg_mi cg_ml; rw [if_neg h2, if_neg h4, if_neg h6, if_neg h9, if_neg h11]
    rw [t] at h; exact h
theorem cy_ml {y m : Nat} (hy : y < 10000) (hm : m < 100) {f_len f_clock f_cap f_staged f_pos f_val f_cy f_cm f_cd : Int32} {a_text a_sets a_domStar a_dowStar a_occ a_mis a_con a_cnt a_fs a_fe : Nat → Int32} {post : Int32 → Prop} (h : post (nI (cg_ml y m))) : wpY_mlen post (f_len, f_clock, f_cap, f_staged, f_pos, f_val, f_cy, f_cm, f_cd, a_text, a_sets, a_domStar, a_dowStar, a_occ, a_mis, a_con, a_cnt, a_fs, a_fe) (nI y) (nI m) := by
  refine pk_eq m 2 (fun h2 => cy_leap (by omega) (cb_br (fun hl => ?_) (fun hl => ?_))) (fun h2 => pk_eq m 4 (fun h4 => ?_) (fun h4 => pk_eq m 6 (fun h6 => ?_) (fun h6 => pk_eq m 9 (fun h9 => ?_) (fun h9 => pk_eq m 11 (fun h11 => ?_) (fun h11 => ?_)))))
  · have t : cg_ml y m = 28 := by unfold cg_ml; rw [if_pos h2, hl]; rfl
    rw [t] at h; exact h
  · have t : cg_ml y m = 29 := by unfold cg_ml; rw [if_pos h2, hl]; rfl
    rw [t] at h; exact h
  · have t : cg_ml y m = 30 := by unfold cg_ml; rw [if_neg h2, if_pos h4]
    rw [t] at h; exact h
  · have t : cg_ml y m = 30 := by unfold cg_ml; rw [if_neg h2, if_neg h4, if_pos h6]
    rw [t] at h; exact h
  · have t : cg_ml y m = 30 := by unfold cg_ml; rw [if_neg h2, if_neg h4, if_neg h6, if_pos h9]
    rw [t] at h; exact h
  · have t : cg_ml y m = 30 := by unfold cg_ml; rw [if_neg h2, if_neg h4, if_neg h6, if_neg h9, if_pos h11]
    rw [t] at h; exact h
  · have t : cg_ml y m = 31 := by unfold cg_ml; rw [if_neg h2, if_neg h4, if_neg h6, if_neg h9, if_neg h11]
    rw [t] at h; exact h
/-! Y's date -/
theorem cy_date56 {y : Nat} (hy : y < 10000) {f_len f_clock f_cap f_staged f_pos f_val f_cy f_cm f_cd : Int32} {a_text a_sets a_domStar a_dowStar a_occ a_mis a_con a_cnt a_fs a_fe : Nat → Int32} {post : SY → Prop} : ∀ k d m x n : Nat, x + k = 11 → m + k < 50 → d < 100000 → k < n → post (f_len, f_clock, f_cap, f_staged, f_pos, f_val, nI y, nI (cg_mo y k d m).2, nI ((cg_mo y k d m).1 + 1), a_text, a_sets, a_domStar, a_dowStar, a_occ, a_mis, a_con, a_cnt, a_fs, a_fe) → wY_date_56 post (nI y) f_len f_clock f_cap f_staged f_pos f_val f_cy f_cm f_cd a_text a_sets a_domStar a_dowStar a_occ a_mis a_con a_cnt a_fs a_fe n (nI d) (nI m) (nI x) := by
  intro k
  induction k with
  | zero =>
    intro d m x n hx hm hd hn hp
    obtain ⟨n, rfl⟩ : ∃ n', n = n' + 1 := ⟨n - 1, by omega⟩
    exact pk_le 11 x (fun _ => nm_r (nI_1 d) hp) (fun z => absurd z (by omega))
  | succ k ih =>
    intro d m x n hx hm hd hn hp
    obtain ⟨n, rfl⟩ : ∃ n', n = n' + 1 := ⟨n - 1, by omega⟩
    have hb := cg_ml_b y m
    refine pk_le 11 x (fun z => absurd z (by omega)) (fun _ => cy_ml hy (by omega) ?_)
    refine pk_lt d (cg_ml y m) (fun z => nm_r (nI_1 x) (ih d m (x + 1) n (by omega) (by omega) hd (by omega) ?_)) (fun z => nm_r (pk_sub z) (nm_r (nI_1 m) (nm_r (nI_1 x) (ih (d - cg_ml y m) (m + 1) (x + 1) n (by omega) (by omega) (by omega) (by omega) ?_))))
    · have t : cg_mo y (k + 1) d m = cg_mo y k d m := if_pos z
      rw [t] at hp; exact hp
    · have t : cg_mo y (k + 1) d m = cg_mo y k (d - cg_ml y m) (m + 1) := if_neg (by omega)
      rw [t] at hp; exact hp
theorem cy_date6 {f_len f_clock f_cap f_staged f_pos f_val f_cy f_cm f_cd : Int32} {a_text a_sets a_domStar a_dowStar a_occ a_mis a_con a_cnt a_fs a_fe : Nat → Int32} {post : SY → Prop} : ∀ k d y x n : Nat, x + k = 8 → y + k < 5000 → d < 100000 → k < n → post (f_len, f_clock, f_cap, f_staged, f_pos, f_val, nI (cg_yr k d y).2, nI (cg_mo (cg_yr k d y).2 11 (cg_yr k d y).1 1).2, nI ((cg_mo (cg_yr k d y).2 11 (cg_yr k d y).1 1).1 + 1), a_text, a_sets, a_domStar, a_dowStar, a_occ, a_mis, a_con, a_cnt, a_fs, a_fe) → wY_date_6 post f_len f_clock f_cap f_staged f_pos f_val f_cy f_cm f_cd a_text a_sets a_domStar a_dowStar a_occ a_mis a_con a_cnt a_fs a_fe n (nI d) (nI y) (nI x) := by
  intro k
  induction k with
  | zero =>
    intro d y x n hx hy hd hn hp
    obtain ⟨n, rfl⟩ : ∃ n', n = n' + 1 := ⟨n - 1, by omega⟩
    exact pk_le 8 x (fun _ => ⟨12, cy_date56 (by omega) 11 d 1 0 12 (by omega) (by omega) hd (by omega) hp⟩) (fun z => absurd z (by omega))
  | succ k ih =>
    intro d y x n hx hy hd hn hp
    obtain ⟨n, rfl⟩ : ∃ n', n = n' + 1 := ⟨n - 1, by omega⟩
    have hb := cg_yl_b y
    refine pk_le 8 x (fun z => absurd z (by omega)) (fun _ => cy_leap (by omega) ?_)
    have hh : ∀ l : Nat, cg_yl y = l → wY_date_29 post (wY_date_6 post f_len f_clock f_cap f_staged f_pos f_val f_cy f_cm f_cd a_text a_sets a_domStar a_dowStar a_occ a_mis a_con a_cnt a_fs a_fe n) (nI d) (nI y) (nI x) (nI l) f_len f_clock f_cap f_staged f_pos f_val f_cy f_cm f_cd a_text a_sets a_domStar a_dowStar a_occ a_mis a_con a_cnt a_fs a_fe := by
      intro l hl
      refine pk_lt d l (fun z => nm_r (nI_1 x) (ih d y (x + 1) n (by omega) (by omega) hd (by omega) ?_)) (fun z => nm_r (pk_sub z) (nm_r (nI_1 y) (nm_r (nI_1 x) (ih (d - l) (y + 1) (x + 1) n (by omega) (by omega) (by omega) (by omega) ?_))))
      · have t : cg_yr (k + 1) d y = cg_yr k d y := if_pos (by omega)
        rw [t] at hp; exact hp
      · have t : cg_yr (k + 1) d y = cg_yr k (d - cg_yl y) (y + 1) := if_neg (by omega)
        rw [t, hl] at hp; exact hp
    refine cb_br (fun e => ?_) (fun e => ?_)
    · exact hh 365 (by unfold cg_yl; rw [e]; rfl)
    · exact hh 366 (by unfold cg_yl; rw [e]; rfl)
theorem cy_date {d : Nat} (hd : d < 100000) {f_len f_clock f_cap f_staged f_pos f_val f_cy f_cm f_cd : Int32} {a_text a_sets a_domStar a_dowStar a_occ a_mis a_con a_cnt a_fs a_fe : Nat → Int32} {post : SY → Prop} (hp : post (f_len, f_clock, f_cap, f_staged, f_pos, f_val, nI (cg_dt d).1, nI (cg_dt d).2.1, nI (cg_dt d).2.2, a_text, a_sets, a_domStar, a_dowStar, a_occ, a_mis, a_con, a_cnt, a_fs, a_fe)) : wpY_date post (f_len, f_clock, f_cap, f_staged, f_pos, f_val, f_cy, f_cm, f_cd, a_text, a_sets, a_domStar, a_dowStar, a_occ, a_mis, a_con, a_cnt, a_fs, a_fe) (nI d) :=
  ⟨9, cy_date6 8 d 2096 0 9 (by omega) (by omega) hd (by omega) hp⟩
end
section
/-! what a schedule matches; X's search -/
def cs_w (h : Nat → Nat → Bool) (a b : Bool) (dd w : Nat) : Bool := if (a || b) = true then h 2 dd && h 4 w else h 2 dd || h 4 w
def cs_m (h : Nat → Nat → Bool) (m : Nat) : Bool := h 0 (m % 60) && h 1 (m % 1440 / 60)
def cs_D (h : Nat → Nat → Bool) (a b : Bool) (d : Nat) : Bool := h 3 (cg_dt d).2.1 && cs_w h a b (cg_dt d).2.2 (d % 7)
def cs_M (h : Nat → Nat → Bool) (a b : Bool) (m : Nat) : Bool := cs_D h a b (m / 1440) && cs_m h m
def cs_P (h : Nat → Nat → Bool) (a b : Bool) (t l m : Nat) : Prop := t < m ∧ m ≤ l ∧ cs_M h a b m = true
def cs_fr (P : Nat → Prop) (a b : Nat) (r : Int32) : Prop := (∃ m, r = nI m ∧ a ≤ m ∧ m < b ∧ P m ∧ ∀ q, a ≤ q → q < m → ¬ P q) ∨ (r = -1 ∧ ∀ q, a ≤ q → q < b → ¬ P q)
theorem cs_mf {h : Nat → Nat → Bool} {a b : Bool} {t l m : Nat} (hm : cs_m h m = false) : ¬ cs_P h a b t l m := by
  intro ⟨_, _, h3⟩
  unfold cs_M at h3
  rw [hm, Bool.and_false] at h3
  exact Bool.noConfusion h3
theorem cs_Df {h : Nat → Nat → Bool} {a b : Bool} {t l d : Nat} (hd : cs_D h a b d = false) : ∀ q, d * 1440 ≤ q → q < d * 1440 + 1440 → ¬ cs_P h a b t l q := by
  intro q h1 h2 ⟨_, _, h3⟩
  have e : q / 1440 = d := by omega
  unfold cs_M at h3
  rw [e, hd, Bool.false_and] at h3
  exact Bool.noConfusion h3
theorem cs_Dm {h : Nat → Nat → Bool} {a b : Bool} {i d : Nat} (hi : i < 96) (h1 : cg_F i ≤ d) (h2 : d < cg_F (i + 1)) : cs_D h a b d = (h 3 (i % 12 + 1) && cs_w h a b (d - cg_F i + 1) (d % 7)) := by
  unfold cs_D
  rw [cg_dt_eq hi h1 h2]
theorem cs_fr_app {P : Nat → Prop} {a b c : Nat} {r : Int32} (h1 : a ≤ b) (h2 : ∀ q, a ≤ q → q < b → ¬ P q) (h3 : cs_fr P b c r) : cs_fr P a c r := by
  rcases h3 with ⟨m, e, m1, m2, m3, m4⟩ | ⟨e, m1⟩
  · refine Or.inl ⟨m, e, by omega, m2, m3, fun q q1 q2 => ?_⟩
    by_cases hq : q < b
    · exact h2 q q1 hq
    · exact m4 q (by omega) q2
  · refine Or.inr ⟨e, fun q q1 q2 => ?_⟩
    by_cases hq : q < b
    · exact h2 q q1 hq
    · exact m1 q (by omega) q2
/-- X holds the schedule (h, a, b) at s -/
def cs_X (s : Nat) (sets : Nat → Int64) (starred : Nat → Int32) (h : Nat → Nat → Bool) (a b : Bool) : Prop :=
  s < 9 ∧ (∀ f v, f < 5 → cf_lo f ≤ v → v ≤ cf_top f → cb_bit (sets (s * 5 + f)) v = h f v) ∧ starred (s * 5 + 2) = cb_b a ∧ starred (s * 5 + 4) = cb_b b
section
variable {s : Nat} {h : Nat → Nat → Bool} {a b : Bool} {t l : Nat} {f_cap f_clock f_length f_staged : Int32} {a_text : Nat → Int32} {a_sets : Nat → Int64} {a_starred a_occupied a_misfirePolicy a_concurrencyPolicy a_running a_started a_completed a_dropped a_cancelled a_misfires : Nat → Int32}
theorem cx_hv (H : cs_X s a_sets a_starred h a b) (f v : Nat) (hf : f < 5) (h1 : cf_lo f ≤ v) (h2 : v ≤ cf_top f) {x y : Int32} {post : Int32 → Prop} (hp : post (cb_b (h f v))) (ey : y = nI f := by rfl) (ex : x = nI v := by rfl) : wpX_setHas post (f_cap, f_clock, f_length, f_staged, a_text, a_sets, a_starred, a_occupied, a_misfirePolicy, a_concurrencyPolicy, a_running, a_started, a_completed, a_dropped, a_cancelled, a_misfires) (nI s) y x := by
  subst ey ex
  have := cf_top59 hf
  refine cx_has H.1 hf (by omega) ?_
  rw [H.2.1 f v hf h1 h2]
  exact hp
theorem cx_dm (H : cs_X s a_sets a_starred h a b) (dd w : Nat) (h1 : 1 ≤ dd) (h2 : dd ≤ 31) (h3 : w ≤ 6) {x y : Int32} {post : Int32 → Prop} (hp : post (cb_b (cs_w h a b dd w))) (ex : x = nI dd) (ey : y = nI w) : wpX_dayMatches post (f_cap, f_clock, f_length, f_staged, a_text, a_sets, a_starred, a_occupied, a_misfirePolicy, a_concurrencyPolicy, a_running, a_started, a_completed, a_dropped, a_cancelled, a_misfires) (nI s) x y := by
  subst ex ey
  have hs := H.1
  unfold wpX_dayMatches
  dsimp only
  refine cx_hv H 2 dd (by decide) h1 h2 ?_
  refine cx_hv H 4 w (by decide) (Nat.zero_le w) h3 ?_
  have e2 : nI s * 5 + 2 = nI (s * 5 + 2) := ce_m5 s 2
  have e4 : nI s * 5 + 4 = nI (s * 5 + 4) := ce_m5 s 4
  rw [e2, e4, nI_clamp (by omega), nI_clamp (by omega), H.2.2.1, H.2.2.2]
  have hj : (a || b) = true → wX_dayMatches_44 post (cb_b (h 2 dd)) (cb_b (h 4 w)) f_cap f_clock f_length f_staged a_text a_sets a_starred a_occupied a_misfirePolicy a_concurrencyPolicy a_running a_started a_completed a_dropped a_cancelled a_misfires := by
    intro hab
    unfold cs_w at hp
    rw [if_pos hab] at hp
    refine cb_br (fun e1 => ?_) (fun e1 => cb_br (fun e2 => ?_) (fun e2 => ?_))
    · rw [e1, Bool.false_and] at hp; exact hp
    · rw [e1, e2] at hp; exact hp
    · rw [e1, e2] at hp; exact hp
  refine ⟨vp_in_nI (by omega) (by omega), cb_br (fun ea => ⟨vp_in_nI (by omega) (by omega), cb_br (fun eb => ?_) (fun eb => hj (by rw [eb, Bool.or_true]))⟩) (fun ea => hj (by rw [ea, Bool.true_or]))⟩
  unfold cs_w at hp
  rw [ea, eb, if_neg (by decide)] at hp
  refine cb_br (fun e1 => cb_br (fun e2 => ?_) (fun e2 => ?_)) (fun e1 => ?_)
  · rw [e1, e2] at hp; exact hp
  · rw [e1, e2] at hp; exact hp
  · rw [e1, Bool.true_or] at hp; exact hp
theorem cx_hour {m : Nat} (hm : m < 2 ^ 31) {post : Int32 → Prop} (hp : post (nI (m % 1440 / 60))) : wpX_hourOf post (nI m) := by
  refine ⟨by decide, by decide, ?_⟩
  rw [ce_h m hm]
  exact hp
theorem cx_dayloop (H : cs_X s a_sets a_starred h a b) {D : Nat} (hD : cs_D h a b D = true) (hDb : D < 3000) (hl : l < 4206240) : ∀ k m : Nat, m + k = D * 1440 + 1440 → t < m → D * 1440 ≤ m → (∀ q, D * 1440 ≤ q → q < m → ¬ cs_P h a b t l q) → ∀ n, k < n → ∀ post : Int32 → Prop, (∀ r, cs_fr (cs_P h a b t l) (D * 1440) (D * 1440 + 1440) r → post r) → wX_nextInDay_20 post (nI s) (nI (D * 1440)) (nI l) f_cap f_clock f_length f_staged a_text a_sets a_starred a_occupied a_misfirePolicy a_concurrencyPolicy a_running a_started a_completed a_dropped a_cancelled a_misfires n (nI m) := by
  have ee : nI (D * 1440) + 1440 = nI (D * 1440 + 1440) := nI_add (D * 1440) 1440
  intro k
  induction k with
  | zero =>
    intro m hm ht hd hq n hn post hp
    obtain ⟨n, rfl⟩ : ∃ n', n = n' + 1 := ⟨n - 1, by omega⟩
    exact pk_le (D * 1440 + 1440) m (fun _ => hp _ (Or.inr ⟨rfl, fun q h1 h2 => hq q h1 (by omega)⟩)) (fun z => absurd z (by omega)) ee
  | succ k ih =>
    intro m hm ht hd hq n hn post hp
    obtain ⟨n, rfl⟩ : ∃ n', n = n' + 1 := ⟨n - 1, by omega⟩
    have hnext : cs_m h m = false → ∀ q, D * 1440 ≤ q → q < m + 1 → ¬ cs_P h a b t l q := by
      intro hf q h1 h2
      by_cases e : q = m
      · subst e; exact cs_mf hf
      · exact hq q h1 (by omega)
    refine pk_le (D * 1440 + 1440) m (fun z => absurd z (by omega)) (fun _ => pk_lt l m (fun z => hp _ (Or.inr ⟨rfl, fun q h1 h2 h3 => ?_⟩)) (fun z => cx_hour (by omega) ?_)) ee
    · by_cases e : q < m
      · exact hq q h1 e h3
      · have := h3.2.1
        omega
    · refine cx_hv H 1 (m % 1440 / 60) (by decide) (Nat.zero_le _) (by show m % 1440 / 60 ≤ 23; omega) (cb_br (fun e1 => nm_r (nI_1 m) (ih (m + 1) (by omega) (by omega) (by omega) (hnext (by unfold cs_m; rw [e1, Bool.and_false])) n (by omega) post hp)) (fun e1 => ⟨by decide, ?_⟩))
      refine cx_hv H 0 (m % 60) (by decide) (Nat.zero_le _) (by show m % 60 ≤ 59; omega) (cb_br (fun e0 => nm_r (nI_1 m) (ih (m + 1) (by omega) (by omega) (by omega) (hnext (by unfold cs_m; rw [e0, Bool.false_and])) n (by omega) post hp)) (fun e0 => hp _ (Or.inl ⟨m, rfl, hd, by omega, ⟨ht, z, ?_⟩, hq⟩))) rfl (ce_r60 (by omega))
      have e : m / 1440 = D := by omega
      unfold cs_M cs_m
      rw [e, hD, e0, e1]
      rfl
theorem cx_day (H : cs_X s a_sets a_starred h a b) {D : Nat} (hD : cs_D h a b D = true) (hDb : D < 3000) (hl : l < 4206240) (ht : t < 4206240) (htD : t + 1 ≤ D * 1440 + 1440) {x : Int32} (ex : x = nI (D * 1440)) {post : Int32 → Prop} (hp : ∀ r, cs_fr (cs_P h a b t l) (D * 1440) (D * 1440 + 1440) r → post r) : wpX_nextInDay post (f_cap, f_clock, f_length, f_staged, a_text, a_sets, a_starred, a_occupied, a_misfirePolicy, a_concurrencyPolicy, a_running, a_started, a_completed, a_dropped, a_cancelled, a_misfires) (nI s) x (nI t) (nI l) := by
  subst ex
  refine pk_le (t + 1) (D * 1440) (fun z => ⟨1441, ?_⟩) (fun z => nm_r (nI_1 t) ⟨1441, ?_⟩) (nI_1 t)
  · exact cx_dayloop H hD hDb hl 1440 (D * 1440) rfl (by omega) (by omega) (fun q h1 h2 => absurd h2 (by omega)) 1441 (by omega) post hp
  · exact cx_dayloop H hD hDb hl (D * 1440 + 1440 - (t + 1)) (t + 1) (by omega) (by omega) (by omega) (fun q h1 h2 h3 => absurd h3.1 (by omega)) 1441 (by omega) post hp
theorem cx_monloop (H : cs_X s a_sets a_starred h a b) {i : Nat} (hi : i < 96) (hM : h 3 (i % 12 + 1) = true) (hl : l < 4206240) (ht : t < 4206240) : ∀ k d : Nat, d + k = cg_F (i + 1) → cg_F i ≤ d → t + 1 ≤ d * 1440 + 1440 → (∀ q, cg_F i * 1440 ≤ q → q < d * 1440 → ¬ cs_P h a b t l q) → ∀ n, k < n → ∀ post : Int32 → Prop, (∀ r, cs_fr (cs_P h a b t l) (cg_F i * 1440) (cg_F (i + 1) * 1440) r → post r) → wX_nextInMonth_28 post (nI s) (nI (cg_F i)) (nI (cg_mi i)) (nI t) (nI l) f_cap f_clock f_length f_staged a_text a_sets a_starred a_occupied a_misfirePolicy a_concurrencyPolicy a_running a_started a_completed a_dropped a_cancelled a_misfires n (nI d) := by
  have ee : nI (cg_F i) + nI (cg_mi i) = nI (cg_F (i + 1)) := nI_add _ _
  have hFb := cg_Fb (i + 1)
  have hmb := cg_mi_b i
  have hFs := cg_Fs i
  intro k
  induction k with
  | zero =>
    intro d hd h1 h2 hq n hn post hp
    obtain ⟨n, rfl⟩ : ∃ n', n = n' + 1 := ⟨n - 1, by omega⟩
    exact pk_le (cg_F (i + 1)) d (fun _ => hp _ (Or.inr ⟨rfl, fun q h1 h2 => hq q h1 (by omega)⟩)) (fun z => absurd z (by omega)) ee
  | succ k ih =>
    intro d hd h1 h2 hq n hn post hp
    obtain ⟨n, rfl⟩ : ∃ n', n = n' + 1 := ⟨n - 1, by omega⟩
    have eD := cs_Dm (h := h) (a := a) (b := b) hi h1 (by omega : d < cg_F (i + 1))
    rw [hM, Bool.true_and] at eD
    have hnext : (∀ q, d * 1440 ≤ q → q < d * 1440 + 1440 → ¬ cs_P h a b t l q) → ∀ q, cg_F i * 1440 ≤ q → q < (d + 1) * 1440 → ¬ cs_P h a b t l q := by
      intro hf q q1 q2
      by_cases e : q < d * 1440
      · exact hq q q1 e
      · exact hf q (by omega) (by omega)
    have e1 : nI d - nI (cg_F i) + 1 = nI (d - cg_F i + 1) := by rw [pk_sub h1, nI_1]
    refine pk_le (cg_F (i + 1)) d (fun z => absurd z (by omega)) (fun _ => ⟨by decide, ?_⟩) ee
    refine cx_dm H (d - cg_F i + 1) (d % 7) (by omega) (by omega) (by omega) ?_ e1 (ce_r7 (by omega))
    rw [← eD]
    refine cb_br (fun e => nm_r (nI_1 d) (ih (d + 1) (by omega) (by omega) (by omega) (hnext (cs_Df e)) n (by omega) post hp)) (fun e => ?_)
    refine cx_day H e (by omega) hl ht h2 (ce_m1440 d) (fun r hr => ?_)
    rcases hr with ⟨m, rfl, m1, m2, m3, m4⟩ | ⟨rfl, hn⟩
    · refine br_f (cb_nm1 (by omega)) (hp _ (cs_fr_app (b := d * 1440) (by omega) hq (Or.inl ⟨m, rfl, m1, by omega, m3, m4⟩)))
    · exact br_t rfl (nm_r (nI_1 d) (ih (d + 1) (by omega) (by omega) (by omega) (hnext hn) n (by omega) post hp))
theorem cx_month (H : cs_X s a_sets a_starred h a b) {i : Nat} (hi : i < 96) (hM : h 3 (i % 12 + 1) = true) (hl : l < 4206240) (ht : t < 4206240) {post : Int32 → Prop} (hp : ∀ r, cs_fr (cs_P h a b t l) (cg_F i * 1440) (cg_F (i + 1) * 1440) r → post r) : wpX_nextInMonth post (f_cap, f_clock, f_length, f_staged, a_text, a_sets, a_starred, a_occupied, a_misfirePolicy, a_concurrencyPolicy, a_running, a_started, a_completed, a_dropped, a_cancelled, a_misfires) (nI s) (nI (cg_F i)) (nI (cg_mi i)) (nI t) (nI l) := by
  have e1 : (nI t + 1) / 1440 = nI ((t + 1) / 1440) := by rw [nI_1, ce_d1440 (by omega)]
  have hFb := cg_Fb (i + 1)
  have hmb := cg_mi_b i
  have hFs := cg_Fs i
  refine ⟨by decide, nm_r e1 (pk_le ((t + 1) / 1440) (cg_F i) (fun z => ⟨40, ?_⟩) (fun z => ⟨40, ?_⟩))⟩
  · exact cx_monloop H hi hM hl ht (cg_mi i) (cg_F i) (by omega) (by omega) (by omega) (fun q h1 h2 => absurd h2 (by omega)) 40 (by omega) post hp
  · by_cases e : (t + 1) / 1440 ≤ cg_F (i + 1)
    · exact cx_monloop H hi hM hl ht (cg_F (i + 1) - (t + 1) / 1440) ((t + 1) / 1440) (by omega) (by omega) (by omega) (fun q h1 h2 h3 => absurd h3.1 (by omega)) 40 (by omega) post hp
    · exact pk_le (cg_F (i + 1)) ((t + 1) / 1440) (fun _ => hp _ (Or.inr ⟨rfl, fun q h1 h2 h3 => absurd h3.1 (by omega)⟩)) (fun z => absurd z (by omega)) (nI_add _ _)
theorem cx_nextloop (H : cs_X s a_sets a_starred h a b) (hl : l < 4206240) (ht : t < 4206240) : ∀ k i : Nat, i + k = 96 → (∀ q, q < cg_F i * 1440 → ¬ cs_P h a b t l q) → ∀ n, k < n → ∀ post : Int32 → Prop, (∀ r, cs_fr (cs_P h a b t l) 0 4206240 r → post r) → wX_nextMatch_6 post (nI s) (nI t) (nI l) f_cap f_clock f_length f_staged a_text a_sets a_starred a_occupied a_misfirePolicy a_concurrencyPolicy a_running a_started a_completed a_dropped a_cancelled a_misfires n (nI (cg_F i)) (nI i) := by
  intro k
  induction k with
  | zero =>
    intro i hk hq n hn post hp
    obtain ⟨n, rfl⟩ : ∃ n', n = n' + 1 := ⟨n - 1, by omega⟩
    have ei : i = 96 := by omega
    subst ei
    rw [cg_F96] at hq
    exact pk_le 96 96 (fun _ => hp _ (Or.inr ⟨rfl, fun q h1 h2 => hq q (by omega)⟩)) (fun z => absurd z (by omega))
  | succ k ih =>
    intro i hk hq n hn post hp
    obtain ⟨n, rfl⟩ : ∃ n', n = n' + 1 := ⟨n - 1, by omega⟩
    have hFb := cg_Fb i
    have hmb := cg_mi_b i
    have hFs := cg_Fs i
    have ee : nI (cg_F i) + nI (cg_mi i) = nI (cg_F (i + 1)) := nI_add _ _
    have hi : i < 96 := by omega
    have hnext : (∀ q, cg_F i * 1440 ≤ q → q < cg_F (i + 1) * 1440 → ¬ cs_P h a b t l q) → ∀ q, q < cg_F (i + 1) * 1440 → ¬ cs_P h a b t l q := by
      intro hf q q1
      by_cases e : q < cg_F i * 1440
      · exact hq q e
      · exact hf q (by omega) q1
    refine pk_le 96 i (fun z => absurd z (by omega)) (fun _ => pk_lt l (cg_F i * 1440) (fun z => hp _ (Or.inr ⟨rfl, fun q h1 h2 h3 => ?_⟩)) (fun z => cx_md (by omega) ⟨by decide, ?_⟩) rfl (ce_m1440 _))
    · by_cases e : q < cg_F i * 1440
      · exact hq q e h3
      · have := h3.2.1
        omega
    · have e1 : nI i - nI i / 12 * 12 + 1 = nI (i % 12 + 1) := by rw [ce_r12 (by omega), nI_1]
      refine cx_hv H 3 (i % 12 + 1) (by decide) (by show 1 ≤ i % 12 + 1; omega) (by show i % 12 + 1 ≤ 12; omega) (cb_br (fun e => nm_r ee (nm_r (nI_1 i) (ih (i + 1) (by omega) (hnext ?_) n (by omega) post hp))) (fun e => ?_)) rfl e1
      · intro q q1 q2
        refine cs_Df (d := q / 1440) ?_ q (by omega) (by omega)
        rw [cs_Dm hi (by omega) (by omega), e, Bool.false_and]
      · refine cx_month H hi e hl ht (fun r hr => ?_)
        rcases hr with ⟨m, rfl, m1, m2, m3, m4⟩ | ⟨rfl, hn⟩
        · have hm : m < 4206240 := by have := m3.2.1; omega
          refine br_f (cb_nm1 (by omega)) (hp _ (cs_fr_app (b := cg_F i * 1440) (by omega) (fun q _ h2 => hq q h2) (Or.inl ⟨m, rfl, m1, hm, m3, m4⟩)))
        · exact br_t rfl (nm_r ee (nm_r (nI_1 i) (ih (i + 1) (by omega) (hnext hn) n (by omega) post hp)))
theorem cx_next (H : cs_X s a_sets a_starred h a b) (hl : l < 4206240) (ht : t < 4206240) {post : Int32 → Prop} (hp : ∀ r, cs_fr (cs_P h a b t l) 0 4206240 r → post r) : wpX_nextMatch post (f_cap, f_clock, f_length, f_staged, a_text, a_sets, a_starred, a_occupied, a_misfirePolicy, a_concurrencyPolicy, a_running, a_started, a_completed, a_dropped, a_cancelled, a_misfires) (nI s) (nI t) (nI l) :=
  ⟨97, cx_nextloop H hl ht 96 0 rfl (fun q h => absurd h (by show ¬ q < 0 * 1440; omega)) 97 (by omega) post hp⟩
end
end
section
/-! Y's search and its count -/
def cs_Y (s : Nat) (sets dom dow : Nat → Int32) (h : Nat → Nat → Bool) (a b : Bool) : Prop :=
  s < 9 ∧ (∀ f v, f < 5 → cf_lo f ≤ v → v ≤ cf_top f → sets (s * 136 + cf_off f + v) = cb_b (h f v)) ∧ dom s = cb_b a ∧ dow s = cb_b b
def cs_Q (h : Nat → Nat → Bool) (a b : Bool) (c l m : Nat) : Bool := decide (c < m) && decide (m ≤ l) && cs_M h a b m
def cs_n (Q : Nat → Bool) : Nat → Nat
  | 0 => 0
  | n + 1 => cs_n Q n + (if Q n then 1 else 0)
theorem cs_n_t {Q : Nat → Bool} {n : Nat} (h : Q n = true) : cs_n Q (n + 1) = cs_n Q n + 1 := by
  show cs_n Q n + (if Q n then 1 else 0) = _
  rw [h]; rfl
theorem cs_n_f {Q : Nat → Bool} {n : Nat} (h : Q n = false) : cs_n Q (n + 1) = cs_n Q n := by
  show cs_n Q n + (if Q n then 1 else 0) = _
  rw [h]; rfl
theorem cs_n_eq {Q : Nat → Bool} {a : Nat} : ∀ k, (∀ q, a ≤ q → q < a + k → Q q = false) → cs_n Q (a + k) = cs_n Q a := by
  intro k
  induction k with
  | zero => intro _; rfl
  | succ k ih =>
    intro hq
    rw [← Nat.add_assoc, cs_n_f (hq (a + k) (by omega) (by omega))]
    exact ih (fun q h1 h2 => hq q h1 (by omega))
theorem cs_n_eq' {Q : Nat → Bool} {a b : Nat} (hab : a ≤ b) (hq : ∀ q, a ≤ q → q < b → Q q = false) : cs_n Q b = cs_n Q a := by
  obtain ⟨k, rfl⟩ : ∃ k, b = a + k := ⟨b - a, by omega⟩
  exact cs_n_eq k hq
theorem cs_n_le {Q : Nat → Bool} {a b : Nat} (hab : a ≤ b) : cs_n Q a ≤ cs_n Q b := by
  obtain ⟨k, rfl⟩ : ∃ k, b = a + k := ⟨b - a, by omega⟩
  clear hab
  induction k with
  | zero => exact Nat.le_refl _
  | succ k ih =>
    have e : cs_n Q (a + (k + 1)) = cs_n Q (a + k) + (if Q (a + k) then 1 else 0) := rfl
    omega
theorem cs_n_self (Q : Nat → Bool) (n : Nat) : cs_n Q n ≤ n := by
  induction n with
  | zero => exact Nat.le_refl _
  | succ n ih =>
    have e : cs_n Q (n + 1) = cs_n Q n + (if Q n then 1 else 0) := rfl
    have : (if Q n then 1 else 0) ≤ 1 := by split <;> omega
    omega
theorem cs_QP {h : Nat → Nat → Bool} {a b : Bool} {c l m : Nat} : cs_Q h a b c l m = true ↔ cs_P h a b c l m := by
  unfold cs_Q cs_P
  rw [Bool.and_eq_true, Bool.and_eq_true, decide_eq_true_iff, decide_eq_true_iff, and_assoc]
theorem cs_Qf {h : Nat → Nat → Bool} {a b : Bool} {c l m : Nat} (hn : ¬ cs_P h a b c l m) : cs_Q h a b c l m = false := by
  cases e : cs_Q h a b c l m
  · rfl
  · exact absurd (cs_QP.mp e) hn
section
variable {s : Nat} {h : Nat → Nat → Bool} {a b : Bool} {t l c : Nat} {f_len f_clock f_cap f_staged f_pos f_val f_cy f_cm f_cd : Int32} {a_text a_sets a_domStar a_dowStar a_occ a_mis a_con a_cnt a_fs a_fe : Nat → Int32}
theorem cy_hv (H : cs_Y s a_sets a_domStar a_dowStar h a b) (f v : Nat) (hf : f < 5) (h1 : cf_lo f ≤ v) (h2 : v ≤ cf_top f) {x y : Int32} {post : Int32 → Prop} (hp : post (cb_b (h f v))) (ey : y = nI f := by rfl) (ex : x = nI v := by rfl) : wpY_has post (f_len, f_clock, f_cap, f_staged, f_pos, f_val, f_cy, f_cm, f_cd, a_text, a_sets, a_domStar, a_dowStar, a_occ, a_mis, a_con, a_cnt, a_fs, a_fe) (nI s) y x := by
  subst ey ex
  have := cf_topb hf
  exact cy_has H.1 hf (by omega) (H.2.1 f v hf h1 h2) hp
theorem cy_dm (H : cs_Y s a_sets a_domStar a_dowStar h a b) {d : Nat} (hd : d < 2921) {x : Int32} (ex : x = nI d) {post : Int32 → SY → Prop} (hp : ∀ cy cm cd, post (cb_b (cs_D h a b d)) (f_len, f_clock, f_cap, f_staged, f_pos, f_val, cy, cm, cd, a_text, a_sets, a_domStar, a_dowStar, a_occ, a_mis, a_con, a_cnt, a_fs, a_fe)) : wpY_dayMatch post (f_len, f_clock, f_cap, f_staged, f_pos, f_val, f_cy, f_cm, f_cd, a_text, a_sets, a_domStar, a_dowStar, a_occ, a_mis, a_con, a_cnt, a_fs, a_fe) (nI s) x := by
  subst ex
  have hs := H.1
  obtain ⟨b1, b2, b3, b4⟩ := cg_dtb hd
  unfold wpY_dayMatch
  dsimp only
  refine cy_date (by omega) ?_
  dsimp only
  have hp := hp (nI (cg_dt d).1) (nI (cg_dt d).2.1) (nI (cg_dt d).2.2)
  unfold cs_D at hp
  refine cy_hv H 3 (cg_dt d).2.1 (by decide) b1 b2 (cb_br (fun e3 => ?_) (fun e3 => ?_))
  · rw [e3, Bool.false_and] at hp; exact hp
  · rw [e3, Bool.true_and] at hp
    refine cy_hv H 2 (cg_dt d).2.2 (by decide) b3 b4 ⟨by decide, ?_⟩
    refine cy_hv H 4 (d % 7) (by decide) (Nat.zero_le _) (by show d % 7 ≤ 6; omega) ?_ rfl (ce_r7 (by omega))
    rw [nI_clamp (show s < 2 ^ 31 by omega), H.2.2.1, H.2.2.2]
    have hj : (a || b) = true → wY_dayMatch_61 post (cb_b (h 2 (cg_dt d).2.2)) (cb_b (h 4 (d % 7))) f_len f_clock f_cap f_staged f_pos f_val (nI (cg_dt d).1) (nI (cg_dt d).2.1) (nI (cg_dt d).2.2) a_text a_sets a_domStar a_dowStar a_occ a_mis a_con a_cnt a_fs a_fe := by
      intro hab
      unfold cs_w at hp
      rw [if_pos hab] at hp
      refine cb_br (fun e1 => ?_) (fun e1 => cb_br (fun e2 => ?_) (fun e2 => ?_))
      · rw [e1, Bool.false_and] at hp; exact hp
      · rw [e1, e2] at hp; exact hp
      · rw [e1, e2] at hp; exact hp
    refine ⟨vp_in_nI (by omega) (by omega), cb_br (fun ea => ⟨vp_in_nI (by omega) (by omega), cb_br (fun eb => ?_) (fun eb => hj (by rw [eb, Bool.or_true]))⟩) (fun ea => hj (by rw [ea, Bool.true_or]))⟩
    unfold cs_w at hp
    rw [ea, eb, if_neg (by decide)] at hp
    refine cb_br (fun e1 => cb_br (fun e2 => ?_) (fun e2 => ?_)) (fun e1 => ?_)
    · rw [e1, e2] at hp; exact hp
    · rw [e1, e2] at hp; exact hp
    · rw [e1, Bool.true_or] at hp; exact hp
theorem cy_mm (H : cs_Y s a_sets a_domStar a_dowStar h a b) {m : Nat} (hm : m < 2 ^ 31) {x : Int32} (ex : x = nI m) {post : Int32 → Prop} (hp : post (cb_b (cs_m h m))) : wpY_minuteMatch post (f_len, f_clock, f_cap, f_staged, f_pos, f_val, f_cy, f_cm, f_cd, a_text, a_sets, a_domStar, a_dowStar, a_occ, a_mis, a_con, a_cnt, a_fs, a_fe) (nI s) x := by
  subst ex
  unfold cs_m at hp
  refine ⟨by decide, cy_hv H 0 (m % 60) (by decide) (Nat.zero_le _) (by show m % 60 ≤ 59; omega) (cb_br (fun e0 => ?_) (fun e0 => ⟨by decide, by decide, ?_⟩)) rfl (ce_r60 hm)⟩
  · rw [e0, Bool.false_and] at hp; exact hp
  · rw [e0, Bool.true_and] at hp
    refine cy_hv H 1 (m % 1440 / 60) (by decide) (Nat.zero_le _) (by show m % 1440 / 60 ≤ 23; omega) (cb_br (fun e1 => ?_) (fun e1 => ?_)) rfl (ce_h m hm)
    · rw [e1] at hp; exact hp
    · rw [e1] at hp; exact hp
theorem cy_next30 (H : cs_Y s a_sets a_domStar a_dowStar h a b) {d : Nat} (hd : d < 2921) (hD : cs_D h a b d = true) (ht : t < 4206240) : ∀ k mm : Nat, mm + k = 1440 → (∀ q, d * 1440 ≤ q → q < d * 1440 + mm → ¬ cs_P h a b t 4206239 q) → ∀ n, k < n → ∀ (post : Int32 → SY → Prop) (J : Int32 → Int32 → Int32 → Int32 → Int32 → Int32 → Int32 → Int32 → Int32 → Int32 → (Nat → Int32) → (Nat → Int32) → (Nat → Int32) → (Nat → Int32) → (Nat → Int32) → (Nat → Int32) → (Nat → Int32) → (Nat → Int32) → (Nat → Int32) → (Nat → Int32) → Prop), (∀ m, d * 1440 ≤ m → m < d * 1440 + 1440 → cs_P h a b t 4206239 m → (∀ q, d * 1440 ≤ q → q < m → ¬ cs_P h a b t 4206239 q) → post (nI m) (f_len, f_clock, f_cap, f_staged, f_pos, f_val, f_cy, f_cm, f_cd, a_text, a_sets, a_domStar, a_dowStar, a_occ, a_mis, a_con, a_cnt, a_fs, a_fe)) → ((∀ q, d * 1440 ≤ q → q < d * 1440 + 1440 → ¬ cs_P h a b t 4206239 q) → J (nI (d + 1)) f_len f_clock f_cap f_staged f_pos f_val f_cy f_cm f_cd a_text a_sets a_domStar a_dowStar a_occ a_mis a_con a_cnt a_fs a_fe) → wY_next_30 post J (nI s) (nI t) (nI d) f_len f_clock f_cap f_staged f_pos f_val f_cy f_cm f_cd a_text a_sets a_domStar a_dowStar a_occ a_mis a_con a_cnt a_fs a_fe n (nI mm) := by
  intro k
  induction k with
  | zero =>
    intro mm hm hq n hn post J hp hJ
    obtain ⟨n, rfl⟩ : ∃ n', n = n' + 1 := ⟨n - 1, by omega⟩
    exact pk_le 1440 mm (fun _ => nm_r (nI_1 d) (hJ (fun q h1 h2 => hq q h1 (by omega)))) (fun z => absurd z (by omega))
  | succ k ih =>
    intro mm hm hq n hn post J hp hJ
    obtain ⟨n, rfl⟩ : ∃ n', n = n' + 1 := ⟨n - 1, by omega⟩
    have ee : nI d * 1440 + nI mm = nI (d * 1440 + mm) := by rw [ce_m1440, nI_add]
    have hnext : ¬ cs_P h a b t 4206239 (d * 1440 + mm) → ∀ q, d * 1440 ≤ q → q < d * 1440 + (mm + 1) → ¬ cs_P h a b t 4206239 q := by
      intro hf q h1 h2
      by_cases e : q = d * 1440 + mm
      · subst e; exact hf
      · exact hq q h1 (by omega)
    have hstep : ¬ cs_P h a b t 4206239 (d * 1440 + mm) → ∀ x, x = nI mm + 1 → wY_next_30 post J (nI s) (nI t) (nI d) f_len f_clock f_cap f_staged f_pos f_val f_cy f_cm f_cd a_text a_sets a_domStar a_dowStar a_occ a_mis a_con a_cnt a_fs a_fe n x := fun hf => nm_r (nI_1 mm) (ih (mm + 1) (by omega) (hnext hf) n (by omega) post J hp hJ)
    refine pk_le 1440 mm (fun z => absurd z (by omega)) (fun _ => nm_r ee (pk_le (d * 1440 + mm) t (fun z => hstep (fun hP => absurd hP.1 (by omega))) (fun z => cy_mm H (by omega) rfl (cb_br (fun e => hstep (cs_mf e)) (fun e => hp (d * 1440 + mm) (by omega) (by omega) ⟨z, by omega, ?_⟩ hq)))))
    have e1 : (d * 1440 + mm) / 1440 = d := by omega
    unfold cs_M
    rw [e1, hD, e]
    rfl
theorem cy_next8 (H : cs_Y s a_sets a_domStar a_dowStar h a b) (ht : t < 4206240) : ∀ k d : Nat, d + k = 2921 → (∀ q, q < d * 1440 → ¬ cs_P h a b t 4206239 q) → ∀ n, k < n → ∀ post : Int32 → SY → Prop, (∀ r cy cm cd, cs_fr (cs_P h a b t 4206239) 0 4206240 r → post r (f_len, f_clock, f_cap, f_staged, f_pos, f_val, cy, cm, cd, a_text, a_sets, a_domStar, a_dowStar, a_occ, a_mis, a_con, a_cnt, a_fs, a_fe)) → ∀ cy cm cd, wY_next_8 post (nI s) (nI t) n (nI d) f_len f_clock f_cap f_staged f_pos f_val cy cm cd a_text a_sets a_domStar a_dowStar a_occ a_mis a_con a_cnt a_fs a_fe := by
  intro k
  induction k with
  | zero =>
    intro d hk hq n hn post hp cy cm cd
    obtain ⟨n, rfl⟩ : ∃ n', n = n' + 1 := ⟨n - 1, by omega⟩
    exact pk_lt 2920 d (fun _ => hp _ cy cm cd (Or.inr ⟨rfl, fun q h1 h2 => hq q (by omega)⟩)) (fun z => absurd z (by omega))
  | succ k ih =>
    intro d hk hq n hn post hp cy cm cd
    obtain ⟨n, rfl⟩ : ∃ n', n = n' + 1 := ⟨n - 1, by omega⟩
    have hnext : (∀ q, d * 1440 ≤ q → q < d * 1440 + 1440 → ¬ cs_P h a b t 4206239 q) → ∀ q, q < (d + 1) * 1440 → ¬ cs_P h a b t 4206239 q := by
      intro hf q h1
      by_cases e : q < d * 1440
      · exact hq q e
      · exact hf q (by omega) (by omega)
    refine pk_lt 2920 d (fun z => absurd z (by omega)) (fun _ => cy_dm H (by omega) rfl (fun cy cm cd => ?_))
    refine cb_br (fun e => nm_r (nI_1 d) (ih (d + 1) (by omega) (hnext (cs_Df e)) n (by omega) post hp cy cm cd)) (fun e => ⟨1441, ?_⟩)
    refine cy_next30 H (by omega) e ht 1440 0 rfl (fun q h1 h2 => absurd h2 (by omega)) 1441 (by omega) post _ (fun m m1 m2 m3 m4 => ?_) (fun hf => ih (d + 1) (by omega) (hnext hf) n (by omega) post hp cy cm cd)
    exact hp _ cy cm cd (cs_fr_app (b := d * 1440) (by omega) (fun q _ h2 => hq q h2) (Or.inl ⟨m, rfl, m1, by omega, m3, m4⟩))
theorem cy_next (H : cs_Y s a_sets a_domStar a_dowStar h a b) (ht : t < 4206240) {post : Int32 → SY → Prop} (hp : ∀ r cy cm cd, cs_fr (cs_P h a b t 4206239) 0 4206240 r → post r (f_len, f_clock, f_cap, f_staged, f_pos, f_val, cy, cm, cd, a_text, a_sets, a_domStar, a_dowStar, a_occ, a_mis, a_con, a_cnt, a_fs, a_fe)) : wpY_next post (f_len, f_clock, f_cap, f_staged, f_pos, f_val, f_cy, f_cm, f_cd, a_text, a_sets, a_domStar, a_dowStar, a_occ, a_mis, a_con, a_cnt, a_fs, a_fe) (nI s) (nI t) := by
  have e1 : (nI t + 1) / 1440 = nI ((t + 1) / 1440) := by rw [nI_1, ce_d1440 (by omega)]
  refine ⟨by decide, nm_r e1 ⟨2922, ?_⟩⟩
  exact cy_next8 H ht (2921 - (t + 1) / 1440) ((t + 1) / 1440) (by omega) (fun q h1 h2 => absurd h2.1 (by omega)) 2922 (by omega) post hp _ _ _
theorem cy_cnt38 (H : cs_Y s a_sets a_domStar a_dowStar h a b) {d : Nat} (hd : d < 2921) (hD : cs_D h a b d = true) (hc : c < 4206240) (hl : l < 4206240) : ∀ k mm : Nat, mm + k = 1440 → ∀ n, k < n → ∀ (post : Int32 → SY → Prop) (J : Int32 → Int32 → Int32 → Int32 → Int32 → Int32 → Int32 → Int32 → Int32 → Int32 → Int32 → (Nat → Int32) → (Nat → Int32) → (Nat → Int32) → (Nat → Int32) → (Nat → Int32) → (Nat → Int32) → (Nat → Int32) → (Nat → Int32) → (Nat → Int32) → (Nat → Int32) → Prop), J (nI (cs_n (cs_Q h a b c l) (d * 1440 + 1440))) (nI (d + 1)) f_len f_clock f_cap f_staged f_pos f_val f_cy f_cm f_cd a_text a_sets a_domStar a_dowStar a_occ a_mis a_con a_cnt a_fs a_fe → wY_count_38 post J (nI s) (nI c) (nI l) (nI d) f_len f_clock f_cap f_staged f_pos f_val f_cy f_cm f_cd a_text a_sets a_domStar a_dowStar a_occ a_mis a_con a_cnt a_fs a_fe n (nI (cs_n (cs_Q h a b c l) (d * 1440 + mm))) (nI mm) := by
  intro k
  induction k with
  | zero =>
    intro mm hm n hn post J hJ
    obtain ⟨n, rfl⟩ : ∃ n', n = n' + 1 := ⟨n - 1, by omega⟩
    have em : mm = 1440 := by omega
    subst em
    exact pk_le 1440 1440 (fun _ => nm_r (nI_1 d) hJ) (fun z => absurd z (by omega))
  | succ k ih =>
    intro mm hm n hn post J hJ
    obtain ⟨n, rfl⟩ : ∃ n', n = n' + 1 := ⟨n - 1, by omega⟩
    have ee : nI d * 1440 + nI mm = nI (d * 1440 + mm) := by rw [ce_m1440, nI_add]
    have hI := ih (mm + 1) (by omega) n (by omega) post J hJ
    have hstep : ¬ cs_P h a b c l (d * 1440 + mm) → ∀ x, x = nI mm + 1 → wY_count_38 post J (nI s) (nI c) (nI l) (nI d) f_len f_clock f_cap f_staged f_pos f_val f_cy f_cm f_cd a_text a_sets a_domStar a_dowStar a_occ a_mis a_con a_cnt a_fs a_fe n (nI (cs_n (cs_Q h a b c l) (d * 1440 + mm))) x := by
      intro hf
      have e1 : cs_n (cs_Q h a b c l) (d * 1440 + (mm + 1)) = cs_n (cs_Q h a b c l) (d * 1440 + mm) := cs_n_f (cs_Qf hf)
      rw [e1] at hI
      exact nm_r (nI_1 mm) hI
    refine pk_le 1440 mm (fun z => absurd z (by omega)) (fun _ => nm_r ee (pk_le (d * 1440 + mm) c (fun z => hstep (fun hP => absurd hP.1 (by omega))) (fun z => pk_lt l (d * 1440 + mm) (fun z2 => hstep (fun hP => absurd hP.2.1 (by omega))) (fun z2 => cy_mm H (by omega) rfl (cb_br (fun e => hstep (cs_mf e)) (fun e => ?_))))))
    have hP : cs_P h a b c l (d * 1440 + mm) := by
      refine ⟨z, z2, ?_⟩
      have e1 : (d * 1440 + mm) / 1440 = d := by omega
      unfold cs_M
      rw [e1, hD, e]
      rfl
    have e1 : cs_n (cs_Q h a b c l) (d * 1440 + (mm + 1)) = cs_n (cs_Q h a b c l) (d * 1440 + mm) + 1 := cs_n_t (cs_QP.mpr hP)
    rw [e1] at hI
    exact nm_r (nI_1 _) (nm_r (nI_1 mm) hI)
theorem cy_cnt12 (H : cs_Y s a_sets a_domStar a_dowStar h a b) (hc : c < 4206240) (hl : l < 4206240) : ∀ k d : Nat, d + k = l / 1440 + 1 → ∀ n, k < n → ∀ post : Int32 → SY → Prop, (∀ cy cm cd, post (nI (cs_n (cs_Q h a b c l) 4206240)) (f_len, f_clock, f_cap, f_staged, f_pos, f_val, cy, cm, cd, a_text, a_sets, a_domStar, a_dowStar, a_occ, a_mis, a_con, a_cnt, a_fs, a_fe)) → ∀ cy cm cd, wY_count_12 post (nI s) (nI c) (nI l) n (nI (cs_n (cs_Q h a b c l) (d * 1440))) (nI d) f_len f_clock f_cap f_staged f_pos f_val cy cm cd a_text a_sets a_domStar a_dowStar a_occ a_mis a_con a_cnt a_fs a_fe := by
  intro k
  induction k with
  | zero =>
    intro d hk n hn post hp cy cm cd
    obtain ⟨n, rfl⟩ : ∃ n', n = n' + 1 := ⟨n - 1, by omega⟩
    have e : cs_n (cs_Q h a b c l) 4206240 = cs_n (cs_Q h a b c l) (d * 1440) := cs_n_eq' (by omega) (fun q h1 h2 => cs_Qf (fun hP => absurd hP.2.1 (by omega)))
    rw [e] at hp
    exact ⟨by decide, pk_lt (l / 1440) d (fun _ => hp cy cm cd) (fun z => absurd z (by omega)) (ce_d1440 (by omega))⟩
  | succ k ih =>
    intro d hk n hn post hp cy cm cd
    obtain ⟨n, rfl⟩ : ∃ n', n = n' + 1 := ⟨n - 1, by omega⟩
    refine ⟨by decide, pk_lt (l / 1440) d (fun z => absurd z (by omega)) (fun _ => cy_dm H (by omega) rfl (fun cy cm cd => ?_)) (ce_d1440 (by omega))⟩
    refine cb_br (fun e => nm_r (nI_1 d) ?_) (fun e => ⟨1441, ?_⟩)
    · have e1 : cs_n (cs_Q h a b c l) ((d + 1) * 1440) = cs_n (cs_Q h a b c l) (d * 1440) := cs_n_eq' (by omega) (fun q h1 h2 => cs_Qf (cs_Df e q h1 (by omega)))
      rw [← e1]
      exact ih (d + 1) (by omega) n (by omega) post hp cy cm cd
    · refine cy_cnt38 H (by omega) e hc hl 1440 0 rfl 1441 (by omega) post _ ?_
      have e1 : d * 1440 + 1440 = (d + 1) * 1440 := by omega
      rw [e1]
      exact ih (d + 1) (by omega) n (by omega) post hp cy cm cd
theorem cy_count (H : cs_Y s a_sets a_domStar a_dowStar h a b) (hcl : c < l) (hl : l < 4206240) {post : Int32 → SY → Prop} (hp : ∀ cy cm cd, post (nI (cs_n (cs_Q h a b c l) 4206240)) (f_len, f_clock, f_cap, f_staged, f_pos, f_val, cy, cm, cd, a_text, a_sets, a_domStar, a_dowStar, a_occ, a_mis, a_con, a_cnt, a_fs, a_fe)) : wpY_count post (f_len, f_clock, f_cap, f_staged, f_pos, f_val, f_cy, f_cm, f_cd, a_text, a_sets, a_domStar, a_dowStar, a_occ, a_mis, a_con, a_cnt, a_fs, a_fe) (nI s) (nI c) (nI l) := by
  have e1 : (nI c + 1) / 1440 = nI ((c + 1) / 1440) := by rw [nI_1, ce_d1440 (by omega)]
  refine ⟨by decide, nm_r e1 ⟨3000, ?_⟩⟩
  have e2 : cs_n (cs_Q h a b c l) ((c + 1) / 1440 * 1440) = cs_n (cs_Q h a b c l) 0 := cs_n_eq' (by omega) (fun q h1 h2 => cs_Qf (fun hP => absurd hP.1 (by omega)))
  have t := cy_cnt12 H (by omega) hl (l / 1440 + 1 - (c + 1) / 1440) ((c + 1) / 1440) (by omega) 3000 (by omega) post hp f_cy f_cm f_cd
  rw [e2] at t
  exact t
end
end
section
/-! the relation -/
def cr_S (sX : Nat → Int64) (st sY dom dow : Nat → Int32) (s : Nat) : Prop :=
  (∀ f v, f < 5 → v ≤ cf_top f → sY (s * 136 + cf_off f + v) = cb_b (cb_bit (sX (s * 5 + f)) v)) ∧ (∀ f v, f < 5 → v < 64 → cb_bit (sX (s * 5 + f)) v = true → cf_lo f ≤ v ∧ v ≤ cf_top f) ∧ dom s = st (s * 5 + 2) ∧ dow s = st (s * 5 + 4) ∧ (st (s * 5 + 2) = 0 ∨ st (s * 5 + 2) = 1) ∧ (st (s * 5 + 4) = 0 ∨ st (s * 5 + 4) = 1)
def cr_C (cnt ru sta com dro can mis : Nat → Int32) : Prop := ∀ j, j < 8 → cnt (j * 6) = ru j ∧ cnt (j * 6 + 1) = sta j ∧ cnt (j * 6 + 2) = com j ∧ cnt (j * 6 + 3) = dro j ∧ cnt (j * 6 + 4) = can j ∧ cnt (j * 6 + 5) = mis j
def cr_T (text : Nat → Int32) : Prop := ∀ j, ∃ c, c ≤ 126 ∧ text j = nI c
def cr_P (p : Nat → Int32) : Prop := ∀ j, j < 8 → p j = 0 ∨ p j = 1 ∨ p j = 2
def cr_R (R : Nat) (ru : Nat → Int32) : Prop := ∀ j, j < 8 → ∃ r, r ≤ R ∧ ru j = nI r
def cr_A (b : Int32) (sX : Nat → Int64) (st sY dom dow : Nat → Int32) : Prop := ∀ s, s < 8 ∨ (s = 8 ∧ b = 1) → cr_S sX st sY dom dow s
def cr_F (k cap clock len : Nat) (b : Int32) (text : Nat → Int32) (sX : Nat → Int64) (st mp cp ru sta com dro can mis sY dom dow cnt : Nat → Int32) : Prop :=
  (1 ≤ cap ∧ cap ≤ 8 ∧ clock ≤ 4206239 ∧ len ≤ 64) ∧ (b = 0 ∨ b = 1) ∧ cr_T text ∧ cr_A b sX st sY dom dow ∧ cr_P mp ∧ cr_P cp ∧ cr_R (2 * k) ru ∧ cr_C cnt ru sta com dro can mis
def i_Rel (k : Nat) (u : SX) (v : SY) : Prop := ∃ (cap clock len : Nat) (b : Int32) (text : Nat → Int32) (sX : Nat → Int64) (st occ mp cp ru sta com dro can mis sY dom dow cnt fs fe : Nat → Int32) (pos val cy cm cd : Int32), u = (nI cap, nI clock, nI len, b, text, sX, st, occ, mp, cp, ru, sta, com, dro, can, mis) ∧ v = (nI len, nI clock, nI cap, b, pos, val, cy, cm, cd, text, sY, dom, dow, occ, mp, cp, cnt, fs, fe) ∧ cr_F k cap clock len b text sX st mp cp ru sta com dro can mis sY dom dow cnt
theorem cr_mk {k cap clock len : Nat} {b : Int32} {text : Nat → Int32} {sX : Nat → Int64} {st occ mp cp ru sta com dro can mis sY dom dow cnt fs fe : Nat → Int32} {pos val cy cm cd : Int32} (F : cr_F k cap clock len b text sX st mp cp ru sta com dro can mis sY dom dow cnt) : i_Rel k (nI cap, nI clock, nI len, b, text, sX, st, occ, mp, cp, ru, sta, com, dro, can, mis) (nI len, nI clock, nI cap, b, pos, val, cy, cm, cd, text, sY, dom, dow, occ, mp, cp, cnt, fs, fe) :=
  ⟨cap, clock, len, b, text, sX, st, occ, mp, cp, ru, sta, com, dro, can, mis, sY, dom, dow, cnt, fs, fe, pos, val, cy, cm, cd, rfl, rfl, F⟩
theorem cr_Rm {R R' : Nat} {ru : Nat → Int32} (h : R ≤ R') (H : cr_R R ru) : cr_R R' ru := fun j hj => by
  obtain ⟨r, h1, h2⟩ := H j hj
  exact ⟨r, by omega, h2⟩
theorem cr_Fm {k k' cap clock len : Nat} {b : Int32} {text : Nat → Int32} {sX : Nat → Int64} {st mp cp ru sta com dro can mis sY dom dow cnt : Nat → Int32} (h : k ≤ k') (F : cr_F k cap clock len b text sX st mp cp ru sta com dro can mis sY dom dow cnt) : cr_F k' cap clock len b text sX st mp cp ru sta com dro can mis sY dom dow cnt :=
  ⟨F.1, F.2.1, F.2.2.1, F.2.2.2.1, F.2.2.2.2.1, F.2.2.2.2.2.1, cr_Rm (by omega) F.2.2.2.2.2.2.1, F.2.2.2.2.2.2.2⟩
theorem i_up {k : Nat} {u : SX} {v : SY} (h : i_Rel k u v) : i_Rel (k + 5) u v := by
  obtain ⟨cap, clock, len, b, text, sX, st, occ, mp, cp, ru, sta, com, dro, can, mis, sY, dom, dow, cnt, fs, fe, pos, val, cy, cm, cd, rfl, rfl, F⟩ := h
  exact cr_mk (cr_Fm (by omega) F)
theorem cr_S0 (s : Nat) : cr_S (fun _ => 0) (fun _ => 0) (fun _ => 0) (fun _ => 0) (fun _ => 0) s := by
  refine ⟨fun f v _ _ => ?_, fun f v _ _ h => ?_, rfl, rfl, Or.inl rfl, Or.inl rfl⟩
  · show (0 : Int32) = cb_b (cb_bit 0 v)
    rw [cb_bit0]; rfl
  · have h : cb_bit 0 v = true := h
    rw [cb_bit0] at h
    exact Bool.noConfusion h
theorem cr_F0 {cap : Nat} (h1 : 1 ≤ cap) (h8 : cap ≤ 8) : cr_F 1 cap 0 0 0 (fun _ => 0) (fun _ => 0) (fun _ => 0) (fun _ => 0) (fun _ => 0) (fun _ => 0) (fun _ => 0) (fun _ => 0) (fun _ => 0) (fun _ => 0) (fun _ => 0) (fun _ => 0) (fun _ => 0) (fun _ => 0) (fun _ => 0) :=
  ⟨⟨h1, h8, by omega, by omega⟩, Or.inl rfl, fun _ => ⟨0, by omega, rfl⟩, fun s _ => cr_S0 s, fun _ _ => Or.inl rfl, fun _ _ => Or.inl rfl, fun _ _ => ⟨0, by omega, rfl⟩, fun _ _ => ⟨rfl, rfl, rfl, rfl, rfl, rfl⟩⟩
theorem cr_new {cap : Nat} (h1 : 1 ≤ cap) (h8 : cap ≤ 8) {p0 : Int32} (e : p0 = nI cap) : i_Rel 1 (p0, 0, 0, 0, (fun _ => 0), (fun _ => 0), (fun _ => 0), (fun _ => 0), (fun _ => 0), (fun _ => 0), (fun _ => 0), (fun _ => 0), (fun _ => 0), (fun _ => 0), (fun _ => 0), (fun _ => 0)) (0, 0, p0, 0, 0, 0, 0, 0, 0, (fun _ => 0), (fun _ => 0), (fun _ => 0), (fun _ => 0), (fun _ => 0), (fun _ => 0), (fun _ => 0), (fun _ => 0), (fun _ => 0), (fun _ => 0)) := by
  subst e
  exact cr_mk (clock := 0) (len := 0) (cr_F0 h1 h8)
theorem i_vc0 (k0 : Int32) : wpX_init (fun u => wpY_init (fun v => i_Rel 1 u v) k0) k0 := by
  by_cases h1 : 1 ≤ k0
  · by_cases h8 : k0 ≤ 8
    · obtain ⟨c, hc, rfl⟩ := nI_of (x := k0) (Int32.not_lt.mpr (Int32.le_trans (by decide) h1))
      have c1 : 1 ≤ c := (nI_leI (a := 1) (by decide) hc).mp h1
      have c8 : c ≤ 8 := (nI_leI (b := 8) hc (by decide)).mp h8
      exact br_t h1 (br_t h8 (br_t h1 (br_t h8 (cr_new c1 c8 rfl))))
    · exact br_t h1 (br_f h8 (br_t h1 (br_f h8 (cr_new (cap := 8) (by decide) (by decide) rfl))))
  · exact br_f h1 (br_f h1 (cr_new (cap := 1) (by decide) (by decide) rfl))
theorem cr_XY {sX : Nat → Int64} {st sY dom dow : Nat → Int32} {s : Nat} (hs : s < 9) (H : cr_S sX st sY dom dow s) : cs_X s sX st (fun f v => cb_bit (sX (s * 5 + f)) v) (decide (st (s * 5 + 2) = 1)) (decide (st (s * 5 + 4) = 1)) ∧ cs_Y s sY dom dow (fun f v => cb_bit (sX (s * 5 + f)) v) (decide (st (s * 5 + 2) = 1)) (decide (st (s * 5 + 4) = 1)) :=
  ⟨⟨hs, fun f v _ _ _ => rfl, cb_of H.2.2.2.2.1, cb_of H.2.2.2.2.2⟩, ⟨hs, fun f v hf _ h2 => H.1 f v hf h2, H.2.2.1.trans (cb_of H.2.2.2.2.1), H.2.2.2.1.trans (cb_of H.2.2.2.2.2)⟩⟩
theorem cs_fr_u {P : Nat → Prop} {a b : Nat} (hb : b < 2 ^ 31) {r r' : Int32} (h : cs_fr P a b r) (h' : cs_fr P a b r') : r' = r := by
  rcases h with ⟨m, rfl, m1, m2, m3, m4⟩ | ⟨rfl, hn⟩
  · rcases h' with ⟨m', rfl, n1, n2, n3, n4⟩ | ⟨rfl, hn'⟩
    · by_cases e : m < m'
      · exact absurd m3 (n4 m m1 e)
      · by_cases e2 : m' < m
        · exact absurd n3 (m4 m' n1 e2)
        · exact congrArg nI (by omega)
    · exact absurd m3 (hn' m m1 m2)
  · rcases h' with ⟨m', rfl, n1, n2, n3, n4⟩ | ⟨rfl, hn'⟩
    · exact absurd n3 (hn m' n1 n2)
    · rfl
theorem cr_chr {c : Nat} (hc : c < 65536) : vp_nar .char ((nI c).toUInt32 % 65536).toInt32 = nI c := by
  rw [pk_vc, pk_char, pk_tn (by omega), Nat.mod_eq_of_lt hc]
theorem cr_upd_T {text : Nat → Int32} (H : cr_T text) {i c : Nat} (hc : c ≤ 126) : cr_T (upd text i (nI c)) := by
  intro j
  by_cases e : j = i
  · subst e; exact ⟨c, hc, pk_us⟩
  · obtain ⟨c', h1, h2⟩ := H j
    exact ⟨c', h1, (pk_un e).trans h2⟩
end
section
/-! the small methods -/
theorem i_vc_clearText {k : Nat} {u : SX} {v : SY} (I : i_Rel k u v) (hk : k + 5 ≤ 2561) : wpX_clearText (fun u' => wpY_clearText (fun v' => i_Rel (k + 5) u' v') v) u := by
  obtain ⟨cap, clock, len, b, text, sX, st, occ, mp, cp, ru, sta, com, dro, can, mis, sY, dom, dow, cnt, fs, fe, pos, val, cy, cm, cd, rfl, rfl, F⟩ := I
  have F5 := cr_Fm (show k ≤ k + 5 by omega) F
  exact cr_mk (len := 0) ⟨⟨F5.1.1, F5.1.2.1, F5.1.2.2.1, by omega⟩, F5.2⟩
theorem i_vc_textLength {k : Nat} {u : SX} {v : SY} (I : i_Rel k u v) (hk : k + 5 ≤ 2561) : wpX_textLength (fun r => wpY_textLength (fun r' => r' = r ∧ i_Rel (k + 5) u v) v) u := by
  have I5 := i_up I
  obtain ⟨cap, clock, len, b, text, sX, st, occ, mp, cp, ru, sta, com, dro, can, mis, sY, dom, dow, cnt, fs, fe, pos, val, cy, cm, cd, rfl, rfl, F⟩ := I
  exact ⟨rfl, I5⟩
theorem i_vc_getClock {k : Nat} {u : SX} {v : SY} (I : i_Rel k u v) (hk : k + 5 ≤ 2561) : wpX_getClock (fun r => wpY_getClock (fun r' => r' = r ∧ i_Rel (k + 5) u v) v) u := by
  have I5 := i_up I
  obtain ⟨cap, clock, len, b, text, sX, st, occ, mp, cp, ru, sta, com, dro, can, mis, sY, dom, dow, cnt, fs, fe, pos, val, cy, cm, cd, rfl, rfl, F⟩ := I
  exact ⟨rfl, I5⟩
theorem i_vc_putChar {k : Nat} {u : SX} {v : SY} (I : i_Rel k u v) (hk : k + 5 ≤ 2561) (v1 : Int32) : wpX_putChar (fun r u' => wpY_putChar (fun r' v' => r' = r ∧ i_Rel (k + 5) u' v') v v1) u v1 := by
  have I5 := i_up I
  obtain ⟨cap, clock, len, b, text, sX, st, occ, mp, cp, ru, sta, com, dro, can, mis, sY, dom, dow, cnt, fs, fe, pos, val, cy, cm, cd, rfl, rfl, F⟩ := I
  have hlen := F.1.2.2.2
  by_cases h1 : v1 < 32
  · exact br_t h1 (br_t h1 ⟨rfl, I5⟩)
  by_cases h2 : 126 < v1
  · exact br_f h1 (br_t h2 (br_f h1 (br_t h2 ⟨rfl, I5⟩)))
  obtain ⟨c, hc, rfl⟩ := nI_of (x := v1) (Int32.not_lt.mpr (Int32.le_trans (by decide) (Int32.not_lt.mp h1)))
  have c2 : c ≤ 126 := by
    by_cases e : c ≤ 126
    · exact e
    · exact absurd (nI_lt (a := 126) (by omega) hc) h2
  by_cases hl : len < 64
  · have hl' : nI len < 64 := nI_lt (b := 64) hl (by decide)
    have hin : vp_in (nI len) 64 := vp_in_nI hl (by decide)
    refine br_f h1 (br_f h2 (br_t hl' ⟨hin, nm_e (nm_r (nI_1 len) ?_)⟩))
    refine br_f h1 (br_f h2 (br_t hl' ⟨hin, nm_r (e' := upd text (nI len).toNatClampNeg (nI c)) (by rw [cr_chr (by omega)]) (nm_r (nI_1 len) ⟨rfl, ?_⟩)⟩))
    have F5 := cr_Fm (show k ≤ k + 5 by omega) F
    exact cr_mk (len := len + 1) ⟨⟨F5.1.1, F5.1.2.1, F5.1.2.2.1, by omega⟩, F5.2.1, cr_upd_T F5.2.2.1 c2, F5.2.2.2⟩
  · have hl' : ¬ nI len < 64 := nI_nlt (b := 64) (by omega) (by omega)
    exact br_f h1 (br_f h2 (br_f hl' (br_f h1 (br_f h2 (br_f hl' ⟨rfl, I5⟩)))))
theorem cm_fh33 {f v : Nat} (hf : f < 5) {f_len f_clock f_cap f_staged f_pos f_val f_cy f_cm f_cd : Int32} {a_text a_sets a_domStar a_dowStar a_occ a_mis a_con a_cnt a_fs a_fe : Nat → Int32} {x z : Int32} (ex : x = nI v) (hv : v < 2 ^ 31) (ez : z = nI (cf_top f)) {c : Bool} (hc : v ≤ cf_top f → a_sets (8 * 136 + cf_off f + v) = cb_b c) (h0 : ¬ (cf_lo f ≤ v ∧ v ≤ cf_top f) → c = false) {post : Int32 → Prop} (hp : post (cb_b c)) : wY_fieldHas_33 post (nI f) x z f_len f_clock f_cap f_staged f_pos f_val f_cy f_cm f_cd a_text a_sets a_domStar a_dowStar a_occ a_mis a_con a_cnt a_fs a_fe := by
  subst ex ez
  have ht := cf_top59 hf
  have hb := cf_topb hf
  have hlo := cf_lo1 hf
  refine cy_lo hf (pk_lt v (cf_lo f) (fun e => ?_) (fun e => pk_le v (cf_top f) (fun e2 => ?_) (fun e2 => ?_)))
  · rw [h0 (by omega)] at hp; exact hp
  · exact cy_has (s := 8) (by decide) hf (by omega) (hc e2) ⟨cb_nar (cb_b01 c), hp⟩
  · rw [h0 (by omega)] at hp; exact hp
theorem i_vc_fieldHas {k : Nat} {u : SX} {v : SY} (I : i_Rel k u v) (hk : k + 5 ≤ 2561) (v1 : Int32) (v2 : Int32) : wpX_fieldHas (fun r => wpY_fieldHas (fun r' => r' = r ∧ i_Rel (k + 5) u v) v v1 v2) u v1 v2 := by
  have I5 := i_up I
  obtain ⟨cap, clock, len, b, text, sX, st, occ, mp, cp, ru, sta, com, dro, can, mis, sY, dom, dow, cnt, fs, fe, pos, val, cy, cm, cd, rfl, rfl, F⟩ := I
  rcases F.2.1 with rfl | rfl
  · exact br_t rfl (br_t rfl ⟨rfl, I5⟩)
  have n1 : ¬ (1 : Int32) = 0 := by decide
  by_cases h0 : v1 < 0
  · exact br_f n1 (br_t h0 (br_f n1 (br_t h0 ⟨rfl, I5⟩)))
  obtain ⟨f, hf, rfl⟩ := nI_of h0
  by_cases hf5 : f < 5
  · have x5 : nI f < 5 := nI_lt (b := 5) hf5 (by decide)
    have x4 : nI f ≤ 4 := nI_le (b := 4) (by omega) (by decide)
    have S8 := F.2.2.2.1 8 (Or.inr ⟨rfl, rfl⟩)
    have hY : ∀ (c : Bool) (x : Int32) (post : Int32 → Prop), wY_fieldHas_33 post (nI f) x (nI (cf_top f)) (nI len) (nI clock) (nI cap) 1 pos val cy cm cd text sY dom dow occ mp cp cnt fs fe → wpY_fieldHas post (nI len, nI clock, nI cap, 1, pos, val, cy, cm, cd, text, sY, dom, dow, occ, mp, cp, cnt, fs, fe) (nI f) x := by
      intro c x post hp
      refine br_f n1 (br_f h0 (br_t x4 (pk_eq f 4 (fun e => ?_) (fun e => cy_hi hf5 ?_))))
      · subst e; exact hp
      · rw [cf_ht hf5 e]; exact hp
    by_cases g0 : v2 < 0
    · refine br_f n1 (br_f h0 (br_t x5 (br_t g0 (hY true _ _ (cy_lo hf5 (br_t ?_ ⟨rfl, I5⟩))))))
      have := cf_lo1 hf5
      exact Int32.lt_of_lt_of_le g0 (nI_pos' (by omega))
    obtain ⟨w, hw, rfl⟩ := nI_of g0
    have ht := cf_top59 hf5
    by_cases hw9 : w ≤ 59
    · refine br_f n1 (br_f h0 (br_t x5 (br_f g0 (br_t (nI_le (b := 59) hw9 (by decide)) (cx_has (s := 8) (by decide) hf5 (by omega) ⟨cb_nar (cb_b01 _), hY true _ _ ?_⟩)))))
      refine cm_fh33 hf5 rfl hw rfl (fun e => S8.1 f w hf5 e) (fun e => ?_) ⟨rfl, I5⟩
      cases hb : cb_bit (sX (8 * 5 + f)) w
      · rfl
      · exact absurd (S8.2.1 f w hf5 (by omega) hb) e
    · refine br_f n1 (br_f h0 (br_t x5 (br_f g0 (br_f (nI_ge (a := 59) (by omega) hw) (hY true _ _ ?_)))))
      exact cm_fh33 (c := false) hf5 rfl hw rfl (fun e => absurd e (by omega)) (fun _ => rfl) ⟨rfl, I5⟩
  · have x5 : ¬ nI f < 5 := nI_nlt (b := 5) (by omega) hf
    have x4 : ¬ nI f ≤ 4 := nI_ge (a := 4) (by omega) hf
    exact br_f n1 (br_f h0 (br_f x5 (br_f n1 (br_f h0 (br_f x4 ⟨rfl, I5⟩)))))
theorem i_vc_dayStarred {k : Nat} {u : SX} {v : SY} (I : i_Rel k u v) (hk : k + 5 ≤ 2561) (v1 : Int32) : wpX_dayStarred (fun r => wpY_dayStarred (fun r' => r' = r ∧ i_Rel (k + 5) u v) v v1) u v1 := by
  have I5 := i_up I
  obtain ⟨cap, clock, len, b, text, sX, st, occ, mp, cp, ru, sta, com, dro, can, mis, sY, dom, dow, cnt, fs, fe, pos, val, cy, cm, cd, rfl, rfl, F⟩ := I
  rcases F.2.1 with rfl | rfl
  · exact br_t rfl (br_t rfl ⟨rfl, I5⟩)
  have n1 : ¬ (1 : Int32) = 0 := by decide
  have S8 := F.2.2.2.1 8 (Or.inr ⟨rfl, rfl⟩)
  have d1 : dom 8 = st 42 := S8.2.2.1
  have d2 : dow 8 = st 44 := S8.2.2.2.1
  by_cases h2 : v1 = 2
  · subst h2
    have e : ((40 : Int32) + 2).toNatClampNeg = 42 := by decide
    refine br_f n1 (br_t rfl ⟨pk_in 42 45 (by decide), ?_⟩)
    rw [e]
    exact ⟨cb_nar S8.2.2.2.2.1, br_f n1 (br_t rfl ⟨cb_nar (by rw [d1]; exact S8.2.2.2.2.1), d1, I5⟩)⟩
  by_cases h4 : v1 = 4
  · subst h4
    have e : ((40 : Int32) + 4).toNatClampNeg = 44 := by decide
    refine br_f n1 (br_f h2 (br_t rfl ⟨pk_in 44 45 (by decide), ?_⟩))
    rw [e]
    exact ⟨cb_nar S8.2.2.2.2.2, br_f n1 (br_f h2 (br_t rfl ⟨cb_nar (by rw [d2]; exact S8.2.2.2.2.2), d2, I5⟩))⟩
  · exact br_f n1 (br_f h2 (br_f h4 (br_f n1 (br_f h2 (br_f h4 ⟨rfl, I5⟩)))))
theorem i_vc_nextFire {k : Nat} {u : SX} {v : SY} (I : i_Rel k u v) (hk : k + 5 ≤ 2561) (v1 : Int32) : wpX_nextFire (fun r => wpY_nextFire (fun r' v' => r' = r ∧ i_Rel (k + 5) u v') v v1) u v1 := by
  have I5 := i_up I
  obtain ⟨cap, clock, len, b, text, sX, st, occ, mp, cp, ru, sta, com, dro, can, mis, sY, dom, dow, cnt, fs, fe, pos, val, cy, cm, cd, rfl, rfl, F⟩ := I
  have F5 := cr_Fm (show k ≤ k + 5 by omega) F
  rcases F.2.1 with rfl | rfl
  · exact br_t rfl (br_t rfl ⟨rfl, I5⟩)
  have n1 : ¬ (1 : Int32) = 0 := by decide
  by_cases h0 : v1 < 0
  · exact br_f n1 (br_t h0 (br_f n1 (br_t h0 ⟨rfl, I5⟩)))
  obtain ⟨t, ht, rfl⟩ := nI_of h0
  by_cases hM : t ≤ 4206239
  · have hM' : nI t ≤ 4206239 := nI_le (b := 4206239) hM (by decide)
    obtain ⟨HX, HY⟩ := cr_XY (s := 8) (by decide) (F.2.2.2.1 8 (Or.inr ⟨rfl, rfl⟩))
    refine br_f n1 (br_f h0 (br_t hM' (cx_next (s := 8) (l := 4206239) HX (by decide) (by omega) (fun r hr => ?_))))
    refine br_f n1 (br_f h0 (br_t hM' (cy_next (s := 8) HY (by omega) (fun r' cy cm cd hr' => ⟨cs_fr_u (by decide) hr hr', cr_mk F5⟩))))
  · have hM' : ¬ nI t ≤ 4206239 := nI_ge (a := 4206239) (by omega) ht
    exact br_f n1 (br_f h0 (br_f hM' (br_f n1 (br_f h0 (br_f hM' ⟨rfl, I5⟩)))))
end
section
/-! jobs: their counters -/
theorem cr_Cu0 {cnt ru sta com dro can mis : Nat → Int32} (H : cr_C cnt ru sta com dro can mis) {j : Nat} {x : Int32} : cr_C (upd cnt (j * 6) x) (upd ru j x) sta com dro can mis := by
  intro i hi
  obtain ⟨h0, h1, h2, h3, h4, h5⟩ := H i hi
  by_cases e : i = j
  · subst e
    exact ⟨pk_us.trans pk_us.symm, (pk_un (by omega)).trans h1, (pk_un (by omega)).trans h2, (pk_un (by omega)).trans h3, (pk_un (by omega)).trans h4, (pk_un (by omega)).trans h5⟩
  · exact ⟨(pk_un (by omega)).trans (h0.trans (pk_un e).symm), (pk_un (by omega)).trans h1, (pk_un (by omega)).trans h2, (pk_un (by omega)).trans h3, (pk_un (by omega)).trans h4, (pk_un (by omega)).trans h5⟩
theorem cr_Cu1 {cnt ru sta com dro can mis : Nat → Int32} (H : cr_C cnt ru sta com dro can mis) {j : Nat} {x : Int32} : cr_C (upd cnt (j * 6 + 1) x) ru (upd sta j x) com dro can mis := by
  intro i hi
  obtain ⟨h0, h1, h2, h3, h4, h5⟩ := H i hi
  by_cases e : i = j
  · subst e
    exact ⟨(pk_un (by omega)).trans h0, pk_us.trans pk_us.symm, (pk_un (by omega)).trans h2, (pk_un (by omega)).trans h3, (pk_un (by omega)).trans h4, (pk_un (by omega)).trans h5⟩
  · exact ⟨(pk_un (by omega)).trans h0, (pk_un (by omega)).trans (h1.trans (pk_un e).symm), (pk_un (by omega)).trans h2, (pk_un (by omega)).trans h3, (pk_un (by omega)).trans h4, (pk_un (by omega)).trans h5⟩
theorem cr_Cu2 {cnt ru sta com dro can mis : Nat → Int32} (H : cr_C cnt ru sta com dro can mis) {j : Nat} {x : Int32} : cr_C (upd cnt (j * 6 + 2) x) ru sta (upd com j x) dro can mis := by
  intro i hi
  obtain ⟨h0, h1, h2, h3, h4, h5⟩ := H i hi
  by_cases e : i = j
  · subst e
    exact ⟨(pk_un (by omega)).trans h0, (pk_un (by omega)).trans h1, pk_us.trans pk_us.symm, (pk_un (by omega)).trans h3, (pk_un (by omega)).trans h4, (pk_un (by omega)).trans h5⟩
  · exact ⟨(pk_un (by omega)).trans h0, (pk_un (by omega)).trans h1, (pk_un (by omega)).trans (h2.trans (pk_un e).symm), (pk_un (by omega)).trans h3, (pk_un (by omega)).trans h4, (pk_un (by omega)).trans h5⟩
theorem cr_Cu3 {cnt ru sta com dro can mis : Nat → Int32} (H : cr_C cnt ru sta com dro can mis) {j : Nat} {x : Int32} : cr_C (upd cnt (j * 6 + 3) x) ru sta com (upd dro j x) can mis := by
  intro i hi
  obtain ⟨h0, h1, h2, h3, h4, h5⟩ := H i hi
  by_cases e : i = j
  · subst e
    exact ⟨(pk_un (by omega)).trans h0, (pk_un (by omega)).trans h1, (pk_un (by omega)).trans h2, pk_us.trans pk_us.symm, (pk_un (by omega)).trans h4, (pk_un (by omega)).trans h5⟩
  · exact ⟨(pk_un (by omega)).trans h0, (pk_un (by omega)).trans h1, (pk_un (by omega)).trans h2, (pk_un (by omega)).trans (h3.trans (pk_un e).symm), (pk_un (by omega)).trans h4, (pk_un (by omega)).trans h5⟩
theorem cr_Cu4 {cnt ru sta com dro can mis : Nat → Int32} (H : cr_C cnt ru sta com dro can mis) {j : Nat} {x : Int32} : cr_C (upd cnt (j * 6 + 4) x) ru sta com dro (upd can j x) mis := by
  intro i hi
  obtain ⟨h0, h1, h2, h3, h4, h5⟩ := H i hi
  by_cases e : i = j
  · subst e
    exact ⟨(pk_un (by omega)).trans h0, (pk_un (by omega)).trans h1, (pk_un (by omega)).trans h2, (pk_un (by omega)).trans h3, pk_us.trans pk_us.symm, (pk_un (by omega)).trans h5⟩
  · exact ⟨(pk_un (by omega)).trans h0, (pk_un (by omega)).trans h1, (pk_un (by omega)).trans h2, (pk_un (by omega)).trans h3, (pk_un (by omega)).trans (h4.trans (pk_un e).symm), (pk_un (by omega)).trans h5⟩
theorem cr_Cu5 {cnt ru sta com dro can mis : Nat → Int32} (H : cr_C cnt ru sta com dro can mis) {j : Nat} {x : Int32} : cr_C (upd cnt (j * 6 + 5) x) ru sta com dro can (upd mis j x) := by
  intro i hi
  obtain ⟨h0, h1, h2, h3, h4, h5⟩ := H i hi
  by_cases e : i = j
  · subst e
    exact ⟨(pk_un (by omega)).trans h0, (pk_un (by omega)).trans h1, (pk_un (by omega)).trans h2, (pk_un (by omega)).trans h3, (pk_un (by omega)).trans h4, pk_us.trans pk_us.symm⟩
  · exact ⟨(pk_un (by omega)).trans h0, (pk_un (by omega)).trans h1, (pk_un (by omega)).trans h2, (pk_un (by omega)).trans h3, (pk_un (by omega)).trans h4, (pk_un (by omega)).trans (h5.trans (pk_un e).symm)⟩
def cj_No (occ : Nat → Int32) (x : Int32) : Prop := x < 0 ∨ 8 ≤ x ∨ ∃ j, j < 8 ∧ x = nI j ∧ occ j = 0
theorem cj_or (occ : Nat → Int32) (x : Int32) : cj_No occ x ∨ ∃ j, j < 8 ∧ x = nI j ∧ ¬ occ j = 0 := by
  by_cases h : x < 0
  · exact Or.inl (Or.inl h)
  · obtain ⟨j, hj, rfl⟩ := nI_of h
    by_cases h8 : j < 8
    · by_cases ho : occ j = 0
      · exact Or.inl (Or.inr (Or.inr ⟨j, h8, rfl, ho⟩))
      · exact Or.inr ⟨j, h8, rfl, ho⟩
    · exact Or.inl (Or.inr (Or.inl (nI_le (a := 8) (by omega) hj)))
theorem cj_no {occ : Nat → Int32} {x : Int32} {A B : Prop} (h : cj_No occ x) (a : A) : (x < 0 → A) ∧ (¬ x < 0 → ((8 ≤ x → A) ∧ (¬ 8 ≤ x → (vp_in x 8 ∧ ((occ x.toNatClampNeg = 0 → A) ∧ (¬ occ x.toNatClampNeg = 0 → B)))))) := by
  rcases h with h | h | ⟨j, hj, rfl, ho⟩
  · exact br_t h a
  · exact br_c (fun _ => a) (fun _ => br_t h a)
  · refine br_f (nI_pos (by omega)) (br_f (nI_ge (b := 8) hj (by decide)) ⟨vp_in_nI hj (by decide), ?_⟩)
    rw [nI_clamp (by omega)]
    exact br_t ho a
theorem cj_yes {occ : Nat → Int32} {j : Nat} {A B : Prop} (hj : j < 8) (ho : ¬ occ j = 0) (b : B) : (nI j < 0 → A) ∧ (¬ nI j < 0 → ((8 ≤ nI j → A) ∧ (¬ 8 ≤ nI j → (vp_in (nI j) 8 ∧ ((occ (nI j).toNatClampNeg = 0 → A) ∧ (¬ occ (nI j).toNatClampNeg = 0 → B)))))) := by
  refine br_f (nI_pos (by omega)) (br_f (nI_ge (b := 8) hj (by decide)) ⟨vp_in_nI hj (by decide), ?_⟩)
  rw [nI_clamp (by omega)]
  exact br_f ho b
theorem i_vc_jobStat {k : Nat} {u : SX} {v : SY} (I : i_Rel k u v) (hk : k + 5 ≤ 2561) (v1 : Int32) (v2 : Int32) : wpX_jobStat (fun r => wpY_jobStat (fun r' v' => r' = r ∧ i_Rel (k + 5) u v') v v1 v2) u v1 v2 := by
  have I5 := i_up I
  obtain ⟨cap, clock, len, b, text, sX, st, occ, mp, cp, ru, sta, com, dro, can, mis, sY, dom, dow, cnt, fs, fe, pos, val, cy, cm, cd, rfl, rfl, F⟩ := I
  have F5 := cr_Fm (show k ≤ k + 5 by omega) F
  have hcl := F.1.2.2.1
  rcases cj_or occ v1 with hno | ⟨j, hj, rfl, ho⟩
  · exact cj_no hno (br_t rfl (cj_no hno ⟨rfl, I5⟩))
  have hin : vp_in (nI j) 8 := vp_in_nI hj (by decide)
  have C := F.2.2.2.2.2.2.2 j hj
  by_cases g0 : v2 < 0
  · exact cj_yes hj ho (br_f (by decide) (br_t g0 (cj_yes hj ho (br_t g0 ⟨rfl, I5⟩))))
  obtain ⟨w, hw, rfl⟩ := nI_of g0
  by_cases g8 : 8 < w
  · exact cj_yes hj ho (br_f (by decide) (br_f g0 (br_t (nI_lt (a := 8) g8 hw) (cj_yes hj ho (br_f g0 (br_f (nI_ge (a := 8) g8 hw) ⟨rfl, I5⟩))))))
  clear g0
  have hww : w = 0 ∨ w = 1 ∨ w = 2 ∨ w = 3 ∨ w = 4 ∨ w = 5 ∨ w = 6 ∨ w = 7 ∨ w = 8 := by omega
  rcases hww with rfl | rfl | rfl | rfl | rfl | rfl | rfl | rfl | rfl
  · have hX : ¬ nI 0 < 0 := by decide
    refine cj_yes hj ho (br_f (by decide) (br_f hX (br_f (by decide : ¬ (8 : Int32) < nI 0) (br_t rfl ⟨hin, ?_⟩))))
    refine cj_yes hj ho (br_f hX (br_t (by decide : nI 0 ≤ 8) (br_f (by decide : ¬ (5 : Int32) < nI 0) ?_)))
    rw [ce_m6, nI_clamp (by omega), nI_clamp (by omega)]
    exact ⟨vp_in_nI (by omega) (by decide), C.1, I5⟩
  · have hX : ¬ nI 1 < 0 := by decide
    refine cj_yes hj ho (br_f (by decide) (br_f hX (br_f (by decide : ¬ (8 : Int32) < nI 1) (br_f (by decide : ¬ nI 1 = 0) (br_t rfl ⟨hin, ?_⟩)))))
    refine cj_yes hj ho (br_f hX (br_t (by decide : nI 1 ≤ 8) (br_f (by decide : ¬ (5 : Int32) < nI 1) ?_)))
    rw [ce_m6, nI_clamp (by omega), nI_clamp (by omega)]
    exact ⟨vp_in_nI (by omega) (by decide), C.2.1, I5⟩
  · have hX : ¬ nI 2 < 0 := by decide
    refine cj_yes hj ho (br_f (by decide) (br_f hX (br_f (by decide : ¬ (8 : Int32) < nI 2) (br_f (by decide : ¬ nI 2 = 0) (br_f (by decide : ¬ nI 2 = 1) (br_t rfl ⟨hin, ?_⟩))))))
    refine cj_yes hj ho (br_f hX (br_t (by decide : nI 2 ≤ 8) (br_f (by decide : ¬ (5 : Int32) < nI 2) ?_)))
    rw [ce_m6, nI_clamp (by omega), nI_clamp (by omega)]
    exact ⟨vp_in_nI (by omega) (by decide), C.2.2.1, I5⟩
  · have hX : ¬ nI 3 < 0 := by decide
    refine cj_yes hj ho (br_f (by decide) (br_f hX (br_f (by decide : ¬ (8 : Int32) < nI 3) (br_f (by decide : ¬ nI 3 = 0) (br_f (by decide : ¬ nI 3 = 1) (br_f (by decide : ¬ nI 3 = 2) (br_t rfl ⟨hin, ?_⟩)))))))
    refine cj_yes hj ho (br_f hX (br_t (by decide : nI 3 ≤ 8) (br_f (by decide : ¬ (5 : Int32) < nI 3) ?_)))
    rw [ce_m6, nI_clamp (by omega), nI_clamp (by omega)]
    exact ⟨vp_in_nI (by omega) (by decide), C.2.2.2.1, I5⟩
  · have hX : ¬ nI 4 < 0 := by decide
    refine cj_yes hj ho (br_f (by decide) (br_f hX (br_f (by decide : ¬ (8 : Int32) < nI 4) (br_f (by decide : ¬ nI 4 = 0) (br_f (by decide : ¬ nI 4 = 1) (br_f (by decide : ¬ nI 4 = 2) (br_f (by decide : ¬ nI 4 = 3) (br_t rfl ⟨hin, ?_⟩))))))))
    refine cj_yes hj ho (br_f hX (br_t (by decide : nI 4 ≤ 8) (br_f (by decide : ¬ (5 : Int32) < nI 4) ?_)))
    rw [ce_m6, nI_clamp (by omega), nI_clamp (by omega)]
    exact ⟨vp_in_nI (by omega) (by decide), C.2.2.2.2.1, I5⟩
  · have hX : ¬ nI 5 < 0 := by decide
    refine cj_yes hj ho (br_f (by decide) (br_f hX (br_f (by decide : ¬ (8 : Int32) < nI 5) (br_f (by decide : ¬ nI 5 = 0) (br_f (by decide : ¬ nI 5 = 1) (br_f (by decide : ¬ nI 5 = 2) (br_f (by decide : ¬ nI 5 = 3) (br_f (by decide : ¬ nI 5 = 4) (br_t rfl ⟨hin, ?_⟩)))))))))
    refine cj_yes hj ho (br_f hX (br_t (by decide : nI 5 ≤ 8) (br_f (by decide : ¬ (5 : Int32) < nI 5) ?_)))
    rw [ce_m6, nI_clamp (by omega), nI_clamp (by omega)]
    exact ⟨vp_in_nI (by omega) (by decide), C.2.2.2.2.2, I5⟩
  · have hX : ¬ nI 6 < 0 := by decide
    obtain ⟨HX, HY⟩ := cr_XY (s := j) (by omega) (F.2.2.2.1 j (Or.inl hj))
    refine cj_yes hj ho (br_f (by decide) (br_f hX (br_f (by decide : ¬ (8 : Int32) < nI 6) (br_f (by decide : ¬ nI 6 = 0) (br_f (by decide : ¬ nI 6 = 1) (br_f (by decide : ¬ nI 6 = 2) (br_f (by decide : ¬ nI 6 = 3) (br_f (by decide : ¬ nI 6 = 4) (br_f (by decide : ¬ nI 6 = 5) (br_t rfl (cx_next (l := 4206239) HX (by decide) (by omega) (fun r hr => ?_))))))))))))
    exact cj_yes hj ho (br_f hX (br_t (by decide : nI 6 ≤ 8) (br_t (by decide : (5 : Int32) < nI 6) (br_t rfl (cy_next HY (by omega) (fun r' cy cm cd hr' => ⟨cs_fr_u (by decide) hr hr', cr_mk F5⟩))))))
  · have hX : ¬ nI 7 < 0 := by decide
    refine cj_yes hj ho (br_f (by decide) (br_f hX (br_f (by decide : ¬ (8 : Int32) < nI 7) (br_f (by decide : ¬ nI 7 = 0) (br_f (by decide : ¬ nI 7 = 1) (br_f (by decide : ¬ nI 7 = 2) (br_f (by decide : ¬ nI 7 = 3) (br_f (by decide : ¬ nI 7 = 4) (br_f (by decide : ¬ nI 7 = 5) (br_f (by decide : ¬ nI 7 = 6) (br_t rfl ⟨hin, ?_⟩)))))))))))
    exact cj_yes hj ho (br_f hX (br_t (by decide : nI 7 ≤ 8) (br_t (by decide : (5 : Int32) < nI 7) (br_f (by decide : ¬ nI 7 = 6) (br_t rfl ⟨hin, rfl, I5⟩)))))
  · have hX : ¬ nI 8 < 0 := by decide
    refine cj_yes hj ho (br_f (by decide) (br_f hX (br_f (by decide : ¬ (8 : Int32) < nI 8) (br_f (by decide : ¬ nI 8 = 0) (br_f (by decide : ¬ nI 8 = 1) (br_f (by decide : ¬ nI 8 = 2) (br_f (by decide : ¬ nI 8 = 3) (br_f (by decide : ¬ nI 8 = 4) (br_f (by decide : ¬ nI 8 = 5) (br_f (by decide : ¬ nI 8 = 6) (br_f (by decide : ¬ nI 8 = 7) (br_t rfl ⟨hin, ?_⟩))))))))))))
    exact cj_yes hj ho (br_f hX (br_t (by decide : nI 8 ≤ 8) (br_t (by decide : (5 : Int32) < nI 8) (br_f (by decide : ¬ nI 8 = 6) (br_f (by decide : ¬ nI 8 = 7) ⟨hin, rfl, I5⟩)))))
theorem i_vc_removeJob {k : Nat} {u : SX} {v : SY} (I : i_Rel k u v) (hk : k + 5 ≤ 2561) (v1 : Int32) : wpX_removeJob (fun r u' => wpY_removeJob (fun r' v' => r' = r ∧ i_Rel (k + 5) u' v') v v1) u v1 := by
  have I5 := i_up I
  obtain ⟨cap, clock, len, b, text, sX, st, occ, mp, cp, ru, sta, com, dro, can, mis, sY, dom, dow, cnt, fs, fe, pos, val, cy, cm, cd, rfl, rfl, F⟩ := I
  have F5 := cr_Fm (show k ≤ k + 5 by omega) F
  rcases cj_or occ v1 with hno | ⟨j, hj, rfl, ho⟩
  · exact cj_no hno (br_t rfl (cj_no hno ⟨rfl, I5⟩))
  have hin : vp_in (nI j) 8 := vp_in_nI hj (by decide)
  exact cj_yes hj ho (br_f (by decide) ⟨hin, nm_e (cj_yes hj ho ⟨hin, nm_e ⟨rfl, cr_mk F5⟩⟩)⟩)
theorem i_vc_complete {k : Nat} {u : SX} {v : SY} (I : i_Rel k u v) (hk : k + 5 ≤ 2561) (v1 : Int32) : wpX_complete (fun r u' => wpY_complete (fun r' v' => r' = r ∧ i_Rel (k + 5) u' v') v v1) u v1 := by
  have I5 := i_up I
  obtain ⟨cap, clock, len, b, text, sX, st, occ, mp, cp, ru, sta, com, dro, can, mis, sY, dom, dow, cnt, fs, fe, pos, val, cy, cm, cd, rfl, rfl, F⟩ := I
  have F5 := cr_Fm (show k ≤ k + 5 by omega) F
  rcases cj_or occ v1 with hno | ⟨j, hj, rfl, ho⟩
  · exact cj_no hno (br_t rfl (cj_no hno ⟨rfl, I5⟩))
  have hin : vp_in (nI j) 8 := vp_in_nI hj (by decide)
  obtain ⟨C0, C1, C2, C3, C4, C5⟩ := F.2.2.2.2.2.2.2 j hj
  have e0 : nI j * 6 + 0 = nI (j * 6) := ce_m6 j 0
  have e2 : nI j * 6 + 2 = nI (j * 6 + 2) := ce_m6 j 2
  have i0 : vp_in (nI (j * 6)) 48 := vp_in_nI (by omega) (by decide)
  have i2 : vp_in (nI (j * 6 + 2)) 48 := vp_in_nI (by omega) (by decide)
  by_cases hr : ru j = 0
  · refine cj_yes hj ho (br_f (by decide) ⟨hin, br_t (by rw [nI_clamp (by omega)]; exact hr) (cj_yes hj ho ?_)⟩)
    rw [e0, nI_clamp (by omega), C0]
    exact ⟨i0, br_t hr ⟨rfl, I5⟩⟩
  · refine cj_yes hj ho (br_f (by decide) ⟨hin, br_f (by rw [nI_clamp (by omega)]; exact hr) ⟨hin, hin, nm_e ⟨hin, hin, nm_e (cj_yes hj ho ?_)⟩⟩⟩)
    rw [e0, e2, nI_clamp (show j * 6 < 2 ^ 31 by omega), nI_clamp (show j * 6 + 2 < 2 ^ 31 by omega), nI_clamp (show j < 2 ^ 31 by omega), C0]
    refine ⟨i0, br_f hr ⟨i0, i0, nm_e ⟨i2, i2, nm_r (e' := upd (upd cnt (j * 6) (ru j - 1)) (j * 6 + 2) (com j + 1)) (by rw [pk_un (by omega), C2]) ⟨rfl, ?_⟩⟩⟩⟩
    refine cr_mk ⟨F5.1, F5.2.1, F5.2.2.1, F5.2.2.2.1, F5.2.2.2.2.1, F5.2.2.2.2.2.1, fun i hi => ?_, cr_Cu2 (cr_Cu0 F5.2.2.2.2.2.2.2)⟩
    obtain ⟨r, r1, r2⟩ := F5.2.2.2.2.2.2.1 i hi
    by_cases e : i = j
    · subst e
      have r0 : r ≠ 0 := fun z => hr (by rw [r2, z]; rfl)
      obtain ⟨q, rfl⟩ : ∃ q, r = q + 1 := ⟨r - 1, by omega⟩
      exact ⟨q, by omega, by rw [pk_us, r2, nI_pred]⟩
    · exact ⟨r, r1, (pk_un e).trans r2⟩
end
section
/-! makeTime and timeField -/
theorem cg_F12 : ∀ j, j < 8 → cg_F (12 * (j + 1)) = cg_F (12 * j) + cg_yl (2096 + j) := by decide +kernel
theorem cg_Fm {j m : Nat} (hm : m < 12) : cg_F (12 * j + (m + 1)) = cg_F (12 * j + m) + cg_ml (2096 + j) (m + 1) := by
  show cg_F (12 * j + m) + cg_mi (12 * j + m) = _
  unfold cg_mi
  rw [show (12 * j + m) / 12 = j by omega, show (12 * j + m) % 12 = m by omega]
theorem cg_Fmono : ∀ k j, cg_F j ≤ cg_F (j + k) := by
  intro k
  induction k with
  | zero => intro j; exact Nat.le_refl _
  | succ k ih =>
    intro j
    have h1 := ih j
    have h2 := cg_Fs (j + k)
    show cg_F j ≤ cg_F (j + k + 1)
    omega
theorem cx_mt80 {W : Nat} (hW : W < 97) {x3 x4 : Int32} {f_cap f_clock f_length f_staged : Int32} {a_text : Nat → Int32} {a_sets : Nat → Int64} {a_starred a_occupied a_misfirePolicy a_concurrencyPolicy a_running a_started a_completed a_dropped a_cancelled a_misfires : Nat → Int32} {post : Int32 → Prop} : ∀ k i n : Nat, i + k = W → k < n → post (((nI (cg_F W) + x3) - 1) * 1440 + x4) → wX_makeTime_80 post x3 x4 (nI W) f_cap f_clock f_length f_staged a_text a_sets a_starred a_occupied a_misfirePolicy a_concurrencyPolicy a_running a_started a_completed a_dropped a_cancelled a_misfires n (nI (cg_F i)) (nI i) := by
  intro k
  induction k with
  | zero =>
    intro i n hk hn hp
    obtain ⟨n, rfl⟩ : ∃ n', n = n' + 1 := ⟨n - 1, by omega⟩
    have e : i = W := by omega
    subst e
    exact pk_le i i (fun _ => hp) (fun z => absurd z (by omega))
  | succ k ih =>
    intro i n hk hn hp
    obtain ⟨n, rfl⟩ : ∃ n', n = n' + 1 := ⟨n - 1, by omega⟩
    exact pk_le W i (fun z => absurd z (by omega)) (fun _ => cx_md (by omega) (nm_r (nI_add _ _) (nm_r (nI_1 i) (ih (i + 1) n (by omega) (by omega) hp))))
theorem cy_mt105 {Y M d : Nat} {x4 : Int32} (hY : Y < 8) (hM : M < 12) {f_len f_clock f_cap f_staged f_pos f_val f_cy f_cm f_cd : Int32} {a_text a_sets a_domStar a_dowStar a_occ a_mis a_con a_cnt a_fs a_fe : Nat → Int32} {post : Int32 → Prop} : ∀ k m n : Nat, m + k = M → k < n → post (nI (d + cg_F (12 * Y + M)) * 1440 + x4) → wY_makeTime_105 post (nI (2096 + Y)) (nI (M + 1)) x4 f_len f_clock f_cap f_staged f_pos f_val f_cy f_cm f_cd a_text a_sets a_domStar a_dowStar a_occ a_mis a_con a_cnt a_fs a_fe n (nI (d + cg_F (12 * Y + m))) (nI (m + 1)) := by
  intro k
  induction k with
  | zero =>
    intro m n hk hn hp
    obtain ⟨n, rfl⟩ : ∃ n', n = n' + 1 := ⟨n - 1, by omega⟩
    have e : m = M := by omega
    subst e
    exact pk_le (m + 1) (m + 1) (fun _ => hp) (fun z => absurd z (by omega))
  | succ k ih =>
    intro m n hk hn hp
    obtain ⟨n, rfl⟩ : ∃ n', n = n' + 1 := ⟨n - 1, by omega⟩
    refine pk_le (M + 1) (m + 1) (fun z => absurd z (by omega)) (fun _ => cy_ml (by omega) (by omega) (nm_r (nI_add _ _) (nm_r (nI_1 _) ?_)))
    have t := ih (m + 1) n (by omega) (by omega) hp
    rw [cg_Fm (by omega), ← Nat.add_assoc] at t
    exact t
theorem cy_mt67 {Y M d : Nat} {x4 : Int32} (hY : Y < 8) (hM : M < 12) {f_len f_clock f_cap f_staged f_pos f_val f_cy f_cm f_cd : Int32} {a_text a_sets a_domStar a_dowStar a_occ a_mis a_con a_cnt a_fs a_fe : Nat → Int32} {post : Int32 → Prop} : ∀ k j n : Nat, j + k = Y → k < n → post (nI (d + cg_F (12 * Y + M)) * 1440 + x4) → wY_makeTime_67 post (nI (2096 + Y)) (nI (M + 1)) x4 f_len f_clock f_cap f_staged f_pos f_val f_cy f_cm f_cd a_text a_sets a_domStar a_dowStar a_occ a_mis a_con a_cnt a_fs a_fe n (nI (d + cg_F (12 * j))) (nI (2096 + j)) := by
  intro k
  induction k with
  | zero =>
    intro j n hk hn hp
    obtain ⟨n, rfl⟩ : ∃ n', n = n' + 1 := ⟨n - 1, by omega⟩
    have e : j = Y := by omega
    subst e
    exact pk_le (2096 + j) (2096 + j) (fun _ => ⟨13, cy_mt105 hY hM M 0 13 (by omega) (by omega) hp⟩) (fun z => absurd z (by omega))
  | succ k ih =>
    intro j n hk hn hp
    obtain ⟨n, rfl⟩ : ∃ n', n = n' + 1 := ⟨n - 1, by omega⟩
    have t := ih (j + 1) n (by omega) (by omega) hp
    rw [cg_F12 j (by omega), ← Nat.add_assoc] at t
    refine pk_le (2096 + Y) (2096 + j) (fun z => absurd z (by omega)) (fun _ => cy_leap (by omega) (cb_br (fun e => ?_) (fun e => ?_)))
    · have e2 : cg_yl (2096 + j) = 365 := by unfold cg_yl; rw [e]; rfl
      rw [e2] at t
      exact nm_r (nI_add _ 365) (nm_r (nI_1 _) t)
    · have e2 : cg_yl (2096 + j) = 366 := by unfold cg_yl; rw [e]; rfl
      rw [e2] at t
      exact nm_r (nI_add _ 366) (nm_r (nI_1 _) t)
theorem i_vc_makeTime {k : Nat} {u : SX} {v : SY} (I : i_Rel k u v) (hk : k + 5 ≤ 2561) (v1 : Int32) (v2 : Int32) (v3 : Int32) (v4 : Int32) : wpX_makeTime (fun r => wpY_makeTime (fun r' => r' = r ∧ i_Rel (k + 5) u v) v v1 v2 v3 v4) u v1 v2 v3 v4 := by
  have I5 := i_up I
  obtain ⟨cap, clock, len, b, text, sX, st, occ, mp, cp, ru, sta, com, dro, can, mis, sY, dom, dow, cnt, fs, fe, pos, val, cy, cm, cd, rfl, rfl, F⟩ := I
  by_cases h1 : v1 < 2096
  · exact br_t h1 (br_t h1 ⟨rfl, I5⟩)
  by_cases h2 : 2103 < v1
  · exact br_f h1 (br_t h2 (br_f h1 (br_t h2 ⟨rfl, I5⟩)))
  by_cases h3 : v2 < 1
  · exact br_f h1 (br_f h2 (br_t h3 (br_f h1 (br_f h2 (br_t h3 ⟨rfl, I5⟩)))))
  by_cases h4 : ¬ v2 ≤ 12
  · exact br_f h1 (br_f h2 (br_f h3 (br_f h4 (br_f h1 (br_f h2 (br_f h3 (br_t (Int32.not_le.mp h4) ⟨rfl, I5⟩)))))))
  have h4 : v2 ≤ 12 := Decidable.of_not_not h4
  obtain ⟨y, hy, rfl⟩ := nI_of (x := v1) (Int32.not_lt.mpr (Int32.le_trans (by decide) (Int32.not_lt.mp h1)))
  obtain ⟨m, hm, rfl⟩ := nI_of (x := v2) (Int32.not_lt.mpr (Int32.le_trans (by decide) (Int32.not_lt.mp h3)))
  have y1 : 2096 ≤ y := by
    by_cases e : 2096 ≤ y
    · exact e
    · exact absurd (nI_lt (b := 2096) (by omega) (by decide)) h1
  have y2 : y ≤ 2103 := by
    by_cases e : y ≤ 2103
    · exact e
    · exact absurd (nI_lt (a := 2103) (by omega) hy) h2
  have m1 : 1 ≤ m := by
    by_cases e : 1 ≤ m
    · exact e
    · exact absurd (nI_lt (b := 1) (by omega) (by decide)) h3
  have m2 : m ≤ 12 := (nI_leI (b := 12) hm (by decide)).mp h4
  obtain ⟨Y, rfl⟩ : ∃ Y, y = 2096 + Y := ⟨y - 2096, by omega⟩
  obtain ⟨M, rfl⟩ : ∃ M, m = M + 1 := ⟨m - 1, by omega⟩
  have h4' : ¬ (12 : Int32) < nI (M + 1) := Int32.not_lt.mpr h4
  have eW : ((nI (2096 + Y) - 2096) * 12 + nI (M + 1)) - 1 = nI (12 * Y + M) := by
    rw [show nI (2096 + Y) - 2096 = nI Y from (pk_sub (a := 2096 + Y) (b := 2096) (by omega)).trans (congrArg nI (by omega)), show nI Y * 12 = nI (Y * 12) from pk_mul Y 12, nI_add, ← Nat.add_assoc, nI_pred]
    exact congrArg nI (by omega)
  have eml : cg_mi (12 * Y + M) = cg_ml (2096 + Y) (M + 1) := by
    unfold cg_mi
    rw [show (12 * Y + M) / 12 = Y by omega, show (12 * Y + M) % 12 = M by omega]
  have hlb := cg_ml_b (2096 + Y) (M + 1)
  have hYm : ¬ (¬ v3 < 1 ∧ ¬ nI (cg_ml (2096 + Y) (M + 1)) < v3 ∧ ¬ v4 < 0 ∧ v4 < 1440) → wpY_makeTime (fun r' => r' = -1 ∧ i_Rel (k + 5) (nI cap, nI clock, nI len, b, text, sX, st, occ, mp, cp, ru, sta, com, dro, can, mis) (nI len, nI clock, nI cap, b, pos, val, cy, cm, cd, text, sY, dom, dow, occ, mp, cp, cnt, fs, fe)) (nI len, nI clock, nI cap, b, pos, val, cy, cm, cd, text, sY, dom, dow, occ, mp, cp, cnt, fs, fe) (nI (2096 + Y)) (nI (M + 1)) v3 v4 := by
    intro hok
    refine br_f h1 (br_f h2 (br_f h3 (br_f h4' (br_c (fun _ => ⟨rfl, I5⟩) (fun a => br_c (fun b => br_c (fun _ => ⟨rfl, I5⟩) (fun c => cy_ml (by omega) (by omega) (br_c (fun d => absurd ⟨c, Int32.not_lt.mpr d, a, Int32.lt_of_le_of_lt b (by decide)⟩ hok) (fun _ => ⟨rfl, I5⟩)))) (fun _ => ⟨rfl, I5⟩))))))
  refine br_f h1 (br_f h2 (br_f h3 (br_t h4 (nm_r eW (cx_md (by omega) ?_)))))
  rw [eml]
  refine br_c (fun a => hYm (fun z => z.1 a)) (fun a => br_c (fun b => hYm (fun z => z.2.1 b)) (fun b => br_c (fun c => hYm (fun z => z.2.2.1 c)) (fun c => br_c (fun d => ⟨98, ?_⟩) (fun d => hYm (fun z => d z.2.2.2)))))
  obtain ⟨g, hg, rfl⟩ := nI_of (x := v3) (Int32.not_lt.mpr (Int32.le_trans (by decide) (Int32.not_lt.mp a)))
  have g1 : 1 ≤ g := by
    by_cases e : 1 ≤ g
    · exact e
    · exact absurd (nI_lt (b := 1) (by omega) (by decide)) a
  obtain ⟨g, rfl⟩ : ∃ g', g = g' + 1 := ⟨g - 1, by omega⟩
  have d' : v4 ≤ 1439 := by
    obtain ⟨q, hq, rfl⟩ := nI_of c
    exact nI_le (b := 1439) (by have := (nI_ltI (b := 1440) hq (by decide)).mp d; omega) (by decide)
  refine cx_mt80 (by omega) (12 * Y + M) 0 98 (by omega) (by omega) ?_
  refine br_f h1 (br_f h2 (br_f h3 (br_f h4' (br_f c (br_t d' (br_f a (cy_ml (by omega) (by omega) (br_t (Int32.not_lt.mp b) (nm_r (nI_pred g) ⟨9, ?_⟩)))))))))
  have e0 : nI g = nI (g + cg_F (12 * 0)) := congrArg nI (Nat.add_zero g : g + cg_F (12 * 0) = g).symm
  rw [e0]
  refine cy_mt67 (d := g) (by omega) (by omega) Y 0 9 (by omega) (by omega) ⟨?_, I5⟩
  rw [nI_add, ← Nat.add_assoc, nI_pred, Nat.add_comm g]
theorem cx_dp {d i : Nat} (hi : i < 96) (h1 : cg_F i ≤ d) (h2 : d < cg_F (i + 1)) {w : Int32} {post : Int32 → Prop} (hp : post (if w = 0 then nI (cg_dt d).1 else if w = 1 then nI (cg_dt d).2.1 else nI (cg_dt d).2.2)) : ∀ k j n : Nat, j + k = i → k < n → wX_datePart_4 post w n (nI (d - cg_F j)) (nI j) := by
  have hFb := cg_Fb (i + 1)
  rw [cg_dt_eq hi h1 h2] at hp
  intro k
  induction k with
  | zero =>
    intro j n hk hn
    obtain ⟨n, rfl⟩ : ∃ n', n = n' + 1 := ⟨n - 1, by omega⟩
    have e : j = i := by omega
    subst e
    have hs := cg_Fs j
    refine pk_le 96 j (fun z => absurd z (by omega)) (fun _ => cx_md (by omega) (pk_le (cg_mi j) (d - cg_F j) (fun z => absurd z (by omega)) (fun _ => br_c (fun z => ⟨by decide, ?_⟩) (fun z => br_c (fun z2 => ⟨by decide, ?_⟩) (fun z2 => ?_)))))
    · rw [if_pos z] at hp
      rw [ce_d12 (by omega), show (2096 : Int32) = nI 2096 from rfl, nI_add]
      exact hp
    · rw [if_neg z, if_pos z2] at hp
      rw [ce_r12 (by omega), nI_1]
      exact hp
    · rw [if_neg z, if_neg z2] at hp
      rw [nI_1]
      exact hp
  | succ k ih =>
    intro j n hk hn
    obtain ⟨n, rfl⟩ : ∃ n', n = n' + 1 := ⟨n - 1, by omega⟩
    have hs := cg_Fs j
    have hmo : cg_F (j + 1) ≤ cg_F i := by
      have := cg_Fmono k (j + 1)
      rw [show j + 1 + k = i by omega] at this
      exact this
    have hb := cg_mi_b j
    refine pk_le 96 j (fun z => absurd z (by omega)) (fun _ => cx_md (by omega) (pk_le (cg_mi j) (d - cg_F j) (fun z => nm_r ?_ (nm_r (nI_1 j) (ih (j + 1) n (by omega) (by omega)))) (fun z => absurd z (by omega))))
    rw [pk_sub z]
    exact congrArg nI (by omega)
theorem i_vc_timeField {k : Nat} {u : SX} {v : SY} (I : i_Rel k u v) (hk : k + 5 ≤ 2561) (v1 : Int32) (v2 : Int32) : wpX_timeField (fun r => wpY_timeField (fun r' v' => r' = r ∧ i_Rel (k + 5) u v') v v1 v2) u v1 v2 := by
  have I5 := i_up I
  obtain ⟨cap, clock, len, b, text, sX, st, occ, mp, cp, ru, sta, com, dro, can, mis, sY, dom, dow, cnt, fs, fe, pos, val, cy, cm, cd, rfl, rfl, F⟩ := I
  have F5 := cr_Fm (show k ≤ k + 5 by omega) F
  by_cases h0 : v1 < 0
  · exact br_t h0 (br_t h0 ⟨rfl, I5⟩)
  obtain ⟨t, ht, rfl⟩ := nI_of h0
  by_cases hM : ¬ t ≤ 4206239
  · exact br_f h0 (br_f (nI_ge (a := 4206239) (by omega) ht) (br_f h0 (br_t (nI_lt (a := 4206239) (by omega) ht) ⟨rfl, I5⟩)))
  have hM : t ≤ 4206239 := Decidable.of_not_not hM
  have hM1 : nI t ≤ 4206239 := nI_le (b := 4206239) hM (by decide)
  have hM2 : ¬ (4206239 : Int32) < nI t := Int32.not_lt.mpr hM1
  by_cases g0 : v2 < 0
  · exact br_f h0 (br_t hM1 (br_t g0 (br_f h0 (br_f hM2 (br_t g0 ⟨rfl, I5⟩)))))
  obtain ⟨w, hw, rfl⟩ := nI_of g0
  by_cases g5 : 5 < w
  · exact br_f h0 (br_t hM1 (br_f g0 (br_t (nI_lt (a := 5) g5 hw) (br_f h0 (br_f hM2 (br_f g0 (br_f (nI_ge (a := 5) g5 hw) ⟨rfl, I5⟩)))))))
  have w5 : nI w ≤ 5 := nI_le (b := 5) (by omega) (by decide)
  have w5' : ¬ (5 : Int32) < nI w := Int32.not_lt.mpr w5
  have ed : nI t / 1440 = nI (t / 1440) := ce_d1440 ht
  have n1440 : ¬ (1440 : Int32) = 0 := by decide
  have hYd : ∀ R : Int32, ¬ nI w = 3 → ¬ nI w = 4 → ¬ nI w = 5 → R = (if nI w = 0 then nI (cg_dt (t / 1440)).1 else if nI w = 1 then nI (cg_dt (t / 1440)).2.1 else nI (cg_dt (t / 1440)).2.2) → wpY_timeField (fun r' v' => r' = R ∧ i_Rel (k + 5) (nI cap, nI clock, nI len, b, text, sX, st, occ, mp, cp, ru, sta, com, dro, can, mis) v') (nI len, nI clock, nI cap, b, pos, val, cy, cm, cd, text, sY, dom, dow, occ, mp, cp, cnt, fs, fe) (nI t) (nI w) := by
    intro R n3 n4 n5 eR
    refine br_f h0 (br_f hM2 (br_f g0 (br_t w5 ⟨n1440, nm_r ed (br_f n3 (br_f n4 (br_f n5 (cy_date (by omega) ?_))))⟩)))
    refine br_c (fun z => ⟨?_, cr_mk F5⟩) (fun z => br_c (fun z2 => ⟨?_, cr_mk F5⟩) (fun z2 => ⟨?_, cr_mk F5⟩))
    · rw [eR, if_pos z]
    · rw [eR, if_neg z, if_pos z2]
    · rw [eR, if_neg z, if_neg z2]
  obtain ⟨i, hi, i1, i2⟩ := cg_day (d := t / 1440) (by omega)
  have hXd : ¬ nI w = 3 → ¬ nI w = 4 → ¬ nI w = 5 → wX_timeField_52 (fun r => wpY_timeField (fun r' v' => r' = r ∧ i_Rel (k + 5) (nI cap, nI clock, nI len, b, text, sX, st, occ, mp, cp, ru, sta, com, dro, can, mis) v') (nI len, nI clock, nI cap, b, pos, val, cy, cm, cd, text, sY, dom, dow, occ, mp, cp, cnt, fs, fe) (nI t) (nI w)) (nI t) (nI w) (nI cap) (nI clock) (nI len) b text sX st occ mp cp ru sta com dro can mis := by
    intro n3 n4 n5
    refine ⟨n1440, ⟨97, ?_⟩⟩
    rw [ed]
    have tt := cx_dp (w := nI w) (post := fun r => wpY_timeField (fun r' v' => r' = r ∧ i_Rel (k + 5) (nI cap, nI clock, nI len, b, text, sX, st, occ, mp, cp, ru, sta, com, dro, can, mis) v') (nI len, nI clock, nI cap, b, pos, val, cy, cm, cd, text, sY, dom, dow, occ, mp, cp, cnt, fs, fe) (nI t) (nI w)) hi i1 i2 (hYd _ n3 n4 n5 rfl) i 0 97 (by omega) (by omega)
    rw [show t / 1440 - cg_F 0 = t / 1440 from Nat.sub_zero _] at tt
    exact tt
  have hww : w = 0 ∨ w = 1 ∨ w = 2 ∨ w = 3 ∨ w = 4 ∨ w = 5 := by omega
  rcases hww with rfl | rfl | rfl | rfl | rfl | rfl
  · exact br_f h0 (br_t hM1 (br_f g0 (br_f w5' (br_t rfl (hXd (by decide) (by decide) (by decide))))))
  · exact br_f h0 (br_t hM1 (br_f g0 (br_f w5' (br_f (by decide : ¬ nI 1 = 0) (br_t rfl (hXd (by decide) (by decide) (by decide)))))))
  · exact br_f h0 (br_t hM1 (br_f g0 (br_f w5' (br_f (by decide : ¬ nI 2 = 0) (br_f (by decide : ¬ nI 2 = 1) (br_t rfl (hXd (by decide) (by decide) (by decide))))))))
  · refine br_f h0 (br_t hM1 (br_f g0 (br_f w5' (br_f (by decide : ¬ nI 3 = 0) (br_f (by decide : ¬ nI 3 = 1) (br_f (by decide : ¬ nI 3 = 2) (br_t rfl (cx_hour ht ?_))))))))
    refine br_f h0 (br_f hM2 (br_f g0 (br_t w5 ⟨n1440, nm_r ed (br_t rfl ⟨n1440, by decide, ce_h t ht, I5⟩)⟩)))
  · refine br_f h0 (br_t hM1 (br_f g0 (br_f w5' (br_f (by decide : ¬ nI 4 = 0) (br_f (by decide : ¬ nI 4 = 1) (br_f (by decide : ¬ nI 4 = 2) (br_f (by decide : ¬ nI 4 = 3) (br_t rfl ⟨by decide, ?_⟩))))))))
    exact br_f h0 (br_f hM2 (br_f g0 (br_t w5 ⟨n1440, nm_r ed (br_f (by decide : ¬ nI 4 = 3) (br_t rfl ⟨by decide, rfl, I5⟩))⟩)))
  · refine br_f h0 (br_t hM1 (br_f g0 (br_f w5' (br_f (by decide : ¬ nI 5 = 0) (br_f (by decide : ¬ nI 5 = 1) (br_f (by decide : ¬ nI 5 = 2) (br_f (by decide : ¬ nI 5 = 3) (br_f (by decide : ¬ nI 5 = 4) (br_t rfl ⟨n1440, by decide, ?_⟩)))))))))
    exact br_f h0 (br_f hM2 (br_f g0 (br_t w5 ⟨n1440, nm_e (br_f (by decide : ¬ nI 5 = 3) (br_f (by decide : ¬ nI 5 = 4) (br_t rfl ⟨by decide, rfl, I5⟩)))⟩)))
end
section
/-! addJob -/
def ca_X (sX : Nat → Int64) (j f : Nat) : Nat → Int64 := fun i => if j * 5 ≤ i ∧ i < j * 5 + f then sX (40 + (i - j * 5)) else sX i
def ca_S (st : Nat → Int32) (j f : Nat) : Nat → Int32 := fun i => if j * 5 ≤ i ∧ i < j * 5 + f then vp_nar .boolean (st (40 + (i - j * 5))) else st i
def ca_Y (sY : Nat → Int32) (j f : Nat) : Nat → Int32 := fun i => if j * 136 ≤ i ∧ i < j * 136 + f then vp_nar .boolean (sY (1088 + (i - j * 136))) else sY i
def ca_0 (cnt : Nat → Int32) (j f : Nat) : Nat → Int32 := fun i => if j * 6 ≤ i ∧ i < j * 6 + f then 0 else cnt i
theorem ca_X0 (sX : Nat → Int64) (j : Nat) : ca_X sX j 0 = sX := by
  funext i; unfold ca_X; rw [if_neg (by omega)]
theorem ca_S0 (st : Nat → Int32) (j : Nat) : ca_S st j 0 = st := by
  funext i; unfold ca_S; rw [if_neg (by omega)]
theorem ca_Y0 (st : Nat → Int32) (j : Nat) : ca_Y st j 0 = st := by
  funext i; unfold ca_Y; rw [if_neg (by omega)]
theorem ca_00 (st : Nat → Int32) (j : Nat) : ca_0 st j 0 = st := by
  funext i; unfold ca_0; rw [if_neg (by omega)]
theorem ca_Xs (sX : Nat → Int64) {j f : Nat} (hj : j < 8) (hf : f < 5) : vp_updL (ca_X sX j f) (j * 5 + f) (ca_X sX j f (40 + f)) = ca_X sX j (f + 1) := by
  funext i
  by_cases e : i = j * 5 + f
  · subst e
    rw [pk_uLs]
    unfold ca_X
    rw [if_neg (by omega), if_pos (by omega)]
    exact congrArg sX (by omega)
  · rw [pk_uLn e]
    unfold ca_X
    by_cases h : j * 5 ≤ i ∧ i < j * 5 + f
    · rw [if_pos h, if_pos (by omega)]
    · rw [if_neg h, if_neg (by omega)]
theorem ca_Ss (st : Nat → Int32) {j f : Nat} (hj : j < 8) (hf : f < 5) : upd (ca_S st j f) (j * 5 + f) (vp_nar .boolean (ca_S st j f (40 + f))) = ca_S st j (f + 1) := by
  funext i
  by_cases e : i = j * 5 + f
  · subst e
    rw [pk_us]
    unfold ca_S
    rw [if_neg (by omega), if_pos (by omega)]
    exact congrArg (fun n => vp_nar .boolean (st n)) (by omega)
  · rw [pk_un e]
    unfold ca_S
    by_cases h : j * 5 ≤ i ∧ i < j * 5 + f
    · rw [if_pos h, if_pos (by omega)]
    · rw [if_neg h, if_neg (by omega)]
theorem ca_Ys (sY : Nat → Int32) {j f : Nat} (hj : j < 8) (hf : f < 136) : upd (ca_Y sY j f) (j * 136 + f) (vp_nar .boolean (ca_Y sY j f (1088 + f))) = ca_Y sY j (f + 1) := by
  funext i
  by_cases e : i = j * 136 + f
  · subst e
    rw [pk_us]
    unfold ca_Y
    rw [if_neg (by omega), if_pos (by omega)]
    exact congrArg (fun n => vp_nar .boolean (sY n)) (by omega)
  · rw [pk_un e]
    unfold ca_Y
    by_cases h : j * 136 ≤ i ∧ i < j * 136 + f
    · rw [if_pos h, if_pos (by omega)]
    · rw [if_neg h, if_neg (by omega)]
theorem ca_0s (cnt : Nat → Int32) {j f : Nat} : upd (ca_0 cnt j f) (j * 6 + f) 0 = ca_0 cnt j (f + 1) := by
  funext i
  by_cases e : i = j * 6 + f
  · subst e
    rw [pk_us]
    unfold ca_0
    rw [if_pos (by omega)]
  · rw [pk_un e]
    unfold ca_0
    by_cases h : j * 6 ≤ i ∧ i < j * 6 + f
    · rw [if_pos h, if_pos (by omega)]
    · rw [if_neg h, if_neg (by omega)]
section
variable {f_cap f_clock f_length f_staged : Int32} {a_text : Nat → Int32} {a_sets : Nat → Int64} {a_starred a_occupied a_misfirePolicy a_concurrencyPolicy a_running a_started a_completed a_dropped a_cancelled a_misfires : Nat → Int32}
theorem cx_clr {j : Nat} (hj : j < 8) {post : SX → Prop} (hp : post (f_cap, f_clock, f_length, f_staged, a_text, a_sets, a_starred, a_occupied, a_misfirePolicy, a_concurrencyPolicy, upd a_running j 0, upd a_started j 0, upd a_completed j 0, upd a_dropped j 0, upd a_cancelled j 0, upd a_misfires j 0)) : wpX_clearCounters post (f_cap, f_clock, f_length, f_staged, a_text, a_sets, a_starred, a_occupied, a_misfirePolicy, a_concurrencyPolicy, a_running, a_started, a_completed, a_dropped, a_cancelled, a_misfires) (nI j) := by
  have hin : vp_in (nI j) 8 := vp_in_nI hj (by decide)
  unfold wpX_clearCounters
  dsimp only
  rw [nI_clamp (show j < 2 ^ 31 by omega)]
  exact ⟨hin, nm_e ⟨hin, nm_e ⟨hin, nm_e ⟨hin, nm_e ⟨hin, nm_e ⟨hin, nm_e hp⟩⟩⟩⟩⟩⟩
theorem cx_copyloop {j : Nat} (hj : j < 8) {post : SX → Prop} (hp : post (f_cap, f_clock, f_length, f_staged, a_text, ca_X a_sets j 5, ca_S a_starred j 5, a_occupied, a_misfirePolicy, a_concurrencyPolicy, a_running, a_started, a_completed, a_dropped, a_cancelled, a_misfires)) : ∀ k f n : Nat, f + k = 5 → k < n → wX_copyStagedTo_2 post (nI j) f_cap f_clock f_length f_staged n (nI f) a_text (ca_X a_sets j f) (ca_S a_starred j f) a_occupied a_misfirePolicy a_concurrencyPolicy a_running a_started a_completed a_dropped a_cancelled a_misfires := by
  intro k
  induction k with
  | zero =>
    intro f n hk hn
    obtain ⟨n, rfl⟩ : ∃ n', n = n' + 1 := ⟨n - 1, by omega⟩
    have e : f = 5 := by omega
    subst e
    exact pk_le 5 5 (fun _ => hp) (fun z => absurd z (by omega))
  | succ k ih =>
    intro f n hk hn
    obtain ⟨n, rfl⟩ : ∃ n', n = n' + 1 := ⟨n - 1, by omega⟩
    have e1 : 40 + nI f = nI (40 + f) := nI_add 40 f
    have e2 := ce_m5 j f
    refine pk_le 5 f (fun z => absurd z (by omega)) (fun _ => ?_)
    rw [e1, e2, nI_clamp (show 40 + f < 2 ^ 31 by omega), nI_clamp (show j * 5 + f < 2 ^ 31 by omega)]
    exact ⟨vp_in_nI (by omega) (by decide), vp_in_nI (by omega) (by decide), nm_r (ca_Xs a_sets hj (by omega)) ⟨vp_in_nI (by omega) (by decide), vp_in_nI (by omega) (by decide), nm_r (ca_Ss a_starred hj (by omega)) (nm_r (nI_1 f) (ih (f + 1) n (by omega) (by omega)))⟩⟩
theorem cx_copy {j : Nat} (hj : j < 8) {post : SX → Prop} (hp : post (f_cap, f_clock, f_length, f_staged, a_text, ca_X a_sets j 5, ca_S a_starred j 5, a_occupied, a_misfirePolicy, a_concurrencyPolicy, a_running, a_started, a_completed, a_dropped, a_cancelled, a_misfires)) : wpX_copyStagedTo post (f_cap, f_clock, f_length, f_staged, a_text, a_sets, a_starred, a_occupied, a_misfirePolicy, a_concurrencyPolicy, a_running, a_started, a_completed, a_dropped, a_cancelled, a_misfires) (nI j) := by
  refine ⟨6, ?_⟩
  have t := cx_copyloop hj hp 5 0 6 (by omega) (by omega)
  rw [ca_X0, ca_S0] at t
  exact t
theorem cx_addloop {j : Nat} (hj : j < 8) (ho : a_occupied j = 0) (hb : ∀ i, i < j → ¬ a_occupied i = 0) {x1 x2 : Int32} {post : Int32 → SX → Prop} (hp : post (nI j) (f_cap, f_clock, f_length, f_staged, a_text, ca_X a_sets j 5, ca_S a_starred j 5, upd a_occupied j (vp_nar .boolean 1), upd a_misfirePolicy j x1, upd a_concurrencyPolicy j x2, upd a_running j 0, upd a_started j 0, upd a_completed j 0, upd a_dropped j 0, upd a_cancelled j 0, upd a_misfires j 0)) : ∀ k i n : Nat, i + k = j → k < n → wX_addJob_31 post x1 x2 f_cap f_clock f_length f_staged a_text a_sets a_starred a_occupied a_misfirePolicy a_concurrencyPolicy a_running a_started a_completed a_dropped a_cancelled a_misfires n (nI i) := by
  intro k
  induction k with
  | zero =>
    intro i n hk hn
    obtain ⟨n, rfl⟩ : ∃ n', n = n' + 1 := ⟨n - 1, by omega⟩
    have e : i = j := by omega
    subst e
    have hin : vp_in (nI i) 8 := vp_in_nI hj (by decide)
    refine pk_le 8 i (fun z => absurd z (by omega)) (fun _ => ?_)
    rw [nI_clamp (show i < 2 ^ 31 by omega)]
    refine ⟨hin, br_t ho ⟨hin, nm_e ⟨hin, nm_e ⟨hin, nm_e ?_⟩⟩⟩⟩
    refine cx_clr hj ?_
    dsimp only
    refine cx_copy hj ?_
    exact hp
  | succ k ih =>
    intro i n hk hn
    obtain ⟨n, rfl⟩ : ∃ n', n = n' + 1 := ⟨n - 1, by omega⟩
    refine pk_le 8 i (fun z => absurd z (by omega)) (fun _ => ⟨vp_in_nI (by omega) (by decide), br_f ?_ (nm_r (nI_1 i) (ih (i + 1) n (by omega) (by omega)))⟩)
    rw [nI_clamp (by omega)]
    exact hb i (by omega)
theorem cx_addfull (hb : ∀ i, i < 8 → ¬ a_occupied i = 0) {x1 x2 : Int32} {post : Int32 → SX → Prop} (hp : post (-1) (f_cap, f_clock, f_length, f_staged, a_text, a_sets, a_starred, a_occupied, a_misfirePolicy, a_concurrencyPolicy, a_running, a_started, a_completed, a_dropped, a_cancelled, a_misfires)) : ∀ k i n : Nat, i + k = 8 → k < n → wX_addJob_31 post x1 x2 f_cap f_clock f_length f_staged a_text a_sets a_starred a_occupied a_misfirePolicy a_concurrencyPolicy a_running a_started a_completed a_dropped a_cancelled a_misfires n (nI i) := by
  intro k
  induction k with
  | zero =>
    intro i n hk hn
    obtain ⟨n, rfl⟩ : ∃ n', n = n' + 1 := ⟨n - 1, by omega⟩
    exact pk_le 8 i (fun _ => hp) (fun z => absurd z (by omega))
  | succ k ih =>
    intro i n hk hn
    obtain ⟨n, rfl⟩ : ∃ n', n = n' + 1 := ⟨n - 1, by omega⟩
    refine pk_le 8 i (fun z => absurd z (by omega)) (fun _ => ⟨vp_in_nI (by omega) (by decide), br_f ?_ (nm_r (nI_1 i) (ih (i + 1) n (by omega) (by omega)))⟩)
    rw [nI_clamp (by omega)]
    exact hb i (by omega)
end
section
variable {f_len f_clock f_cap f_staged f_pos f_val f_cy f_cm f_cd : Int32} {a_text a_sets a_domStar a_dowStar a_occ a_mis a_con a_cnt a_fs a_fe : Nat → Int32}
theorem cy_add137 {j : Nat} (hj : j < 8) {x1 x2 : Int32} {post : Int32 → SY → Prop} (hp : post (nI j) (f_len, f_clock, f_cap, f_staged, f_pos, f_val, f_cy, f_cm, f_cd, a_text, a_sets, a_domStar, a_dowStar, upd a_occ j (vp_nar .boolean 1), upd a_mis j x1, upd a_con j x2, ca_0 a_cnt j 6, a_fs, a_fe)) : ∀ k f n : Nat, f + k = 6 → k < n → wY_addJob_137 post x1 x2 (nI j) f_len f_clock f_cap f_staged f_pos f_val f_cy f_cm f_cd n (nI f) a_text a_sets a_domStar a_dowStar a_occ a_mis a_con (ca_0 a_cnt j f) a_fs a_fe := by
  have hin : vp_in (nI j) 8 := vp_in_nI hj (by decide)
  intro k
  induction k with
  | zero =>
    intro f n hk hn
    obtain ⟨n, rfl⟩ : ∃ n', n = n' + 1 := ⟨n - 1, by omega⟩
    have e : f = 6 := by omega
    subst e
    refine pk_le 6 6 (fun _ => ?_) (fun z => absurd z (by omega))
    rw [nI_clamp (show j < 2 ^ 31 by omega)]
    exact ⟨hin, nm_e ⟨hin, nm_e ⟨hin, nm_e hp⟩⟩⟩
  | succ k ih =>
    intro f n hk hn
    obtain ⟨n, rfl⟩ : ∃ n', n = n' + 1 := ⟨n - 1, by omega⟩
    refine pk_le 6 f (fun z => absurd z (by omega)) (fun _ => ?_)
    rw [ce_m6, nI_clamp (show j * 6 + f < 2 ^ 31 by omega)]
    exact ⟨vp_in_nI (by omega) (by decide), nm_r (ca_0s a_cnt) (nm_r (nI_1 f) (ih (f + 1) n (by omega) (by omega)))⟩
theorem cy_add70 {j : Nat} (hj : j < 8) {x1 x2 : Int32} {post : Int32 → SY → Prop} (hp : post (nI j) (f_len, f_clock, f_cap, f_staged, f_pos, f_val, f_cy, f_cm, f_cd, a_text, ca_Y a_sets j 136, upd a_domStar j (vp_nar .boolean (a_domStar 8)), upd a_dowStar j (vp_nar .boolean (a_dowStar 8)), upd a_occ j (vp_nar .boolean 1), upd a_mis j x1, upd a_con j x2, ca_0 a_cnt j 6, a_fs, a_fe)) : ∀ k f n : Nat, f + k = 136 → k < n → wY_addJob_70 post x1 x2 (nI j) f_len f_clock f_cap f_staged f_pos f_val f_cy f_cm f_cd n (nI f) a_text (ca_Y a_sets j f) a_domStar a_dowStar a_occ a_mis a_con a_cnt a_fs a_fe := by
  have hin : vp_in (nI j) 9 := vp_in_nI (by omega) (by decide)
  intro k
  induction k with
  | zero =>
    intro f n hk hn
    obtain ⟨n, rfl⟩ : ∃ n', n = n' + 1 := ⟨n - 1, by omega⟩
    have e : f = 136 := by omega
    subst e
    refine pk_le 136 136 (fun _ => ?_) (fun z => absurd z (by omega))
    rw [nI_clamp (show j < 2 ^ 31 by omega)]
    refine ⟨hin, nm_e ⟨hin, nm_e ⟨7, ?_⟩⟩⟩
    have t := cy_add137 hj hp 6 0 7 (by omega) (by omega)
    rw [ca_00] at t
    exact t
  | succ k ih =>
    intro f n hk hn
    obtain ⟨n, rfl⟩ : ∃ n', n = n' + 1 := ⟨n - 1, by omega⟩
    refine pk_le 136 f (fun z => absurd z (by omega)) (fun _ => ?_)
    have e1 : 1088 + nI f = nI (1088 + f) := nI_add 1088 f
    have e2 : nI j * 136 + nI f = nI (j * 136 + f) := by rw [show nI j * 136 = nI (j * 136) from pk_mul j 136, nI_add]
    rw [e1, e2, nI_clamp (show 1088 + f < 2 ^ 31 by omega), nI_clamp (show j * 136 + f < 2 ^ 31 by omega)]
    exact ⟨vp_in_nI (by omega) (by decide), vp_in_nI (by omega) (by decide), nm_r (ca_Ys a_sets hj (by omega)) (nm_r (nI_1 f) (ih (f + 1) n (by omega) (by omega)))⟩
def ca_ff (occ : Nat → Int32) (m : Nat) (x : Int32) : Prop := (x = -1 ∧ ∀ i, m ≤ i → i < 8 → ¬ occ i = 0) ∨ (∃ q, x = nI q ∧ m ≤ q ∧ q < 8 ∧ occ q = 0 ∧ ∀ i, m ≤ i → i < q → ¬ occ i = 0)
theorem cy_add37 {x1 x2 : Int32} {post : Int32 → SY → Prop} (hf : (∀ i, i < 8 → ¬ a_occ i = 0) → post (-1) (f_len, f_clock, f_cap, f_staged, f_pos, f_val, f_cy, f_cm, f_cd, a_text, a_sets, a_domStar, a_dowStar, a_occ, a_mis, a_con, a_cnt, a_fs, a_fe)) (hp : ∀ j, j < 8 → a_occ j = 0 → (∀ i, i < j → ¬ a_occ i = 0) → post (nI j) (f_len, f_clock, f_cap, f_staged, f_pos, f_val, f_cy, f_cm, f_cd, a_text, ca_Y a_sets j 136, upd a_domStar j (vp_nar .boolean (a_domStar 8)), upd a_dowStar j (vp_nar .boolean (a_dowStar 8)), upd a_occ j (vp_nar .boolean 1), upd a_mis j x1, upd a_con j x2, ca_0 a_cnt j 6, a_fs, a_fe)) : ∀ m n : Nat, m ≤ 8 → m < n → ∀ x y : Int32, y = nI m + (-1) → ca_ff a_occ m x → wY_addJob_37 post x1 x2 f_len f_clock f_cap f_staged f_pos f_val f_cy f_cm f_cd a_text a_sets a_domStar a_dowStar a_occ a_mis a_con a_cnt a_fs a_fe n x y := by
  intro m
  induction m with
  | zero =>
    intro n hm hn x y ey hx
    obtain ⟨n, rfl⟩ : ∃ n', n = n' + 1 := ⟨n - 1, by omega⟩
    subst ey
    refine br_t (by decide) ?_
    rcases hx with ⟨rfl, hx⟩ | ⟨q, rfl, q1, q2, q3, q4⟩
    · exact br_f (by decide) (hf (fun i hi => hx i (by omega) hi))
    · refine br_t (nI_pos' (by omega)) ⟨137, ?_⟩
      have t := cy_add70 q2 (hp q q2 q3 (fun i hi => q4 i (by omega) hi)) 136 0 137 (by omega) (by omega)
      rw [ca_Y0] at t
      exact t
  | succ m ih =>
    intro n hm hn x y ey hx
    obtain ⟨n, rfl⟩ : ∃ n', n = n' + 1 := ⟨n - 1, by omega⟩
    rw [pk_m1] at ey
    subst ey
    refine br_f (nI_pos (by omega)) ⟨vp_in_nI (by omega) (by decide), ?_⟩
    rw [nI_clamp (show m < 2 ^ 31 by omega)]
    refine br_c (fun z => fun w ew => ih n (by omega) (by omega) (nI m) w ew (Or.inr ⟨m, rfl, by omega, by omega, z, fun i i1 i2 => absurd i2 (by omega)⟩)) (fun z => fun w ew => ih n (by omega) (by omega) x w ew ?_)
    rcases hx with ⟨rfl, hx⟩ | ⟨q, rfl, q1, q2, q3, q4⟩
    · refine Or.inl ⟨rfl, fun i i1 i2 => ?_⟩
      by_cases e : i = m
      · subst e; exact z
      · exact hx i (by omega) i2
    · refine Or.inr ⟨q, rfl, by omega, q2, q3, fun i i1 i2 => ?_⟩
      by_cases e : i = m
      · subst e; exact z
      · exact q4 i (by omega) i2
end
theorem ca_free (occ : Nat → Int32) : ∀ n, (∃ j, j < n ∧ occ j = 0 ∧ ∀ i, i < j → ¬ occ i = 0) ∨ (∀ i, i < n → ¬ occ i = 0) := by
  intro n
  induction n with
  | zero => exact Or.inr (fun i hi => absurd hi (by omega))
  | succ n ih =>
    rcases ih with ⟨j, j1, j2, j3⟩ | h
    · exact Or.inl ⟨j, by omega, j2, j3⟩
    · by_cases e : occ n = 0
      · exact Or.inl ⟨n, by omega, e, h⟩
      · refine Or.inr (fun i hi => ?_)
        by_cases e2 : i = n
        · subst e2; exact e
        · exact h i (by omega)
theorem ca_Sj {sX : Nat → Int64} {st sY dom dow : Nat → Int32} {j : Nat} (hj : j < 8) (H : cr_S sX st sY dom dow 8) : cr_S (ca_X sX j 5) (ca_S st j 5) (ca_Y sY j 136) (upd dom j (vp_nar .boolean (dom 8))) (upd dow j (vp_nar .boolean (dow 8))) j := by
  have eX : ∀ f, f < 5 → ca_X sX j 5 (j * 5 + f) = sX (8 * 5 + f) := by
    intro f hf
    unfold ca_X
    rw [if_pos (by omega)]
    exact congrArg sX (by omega)
  have eS : ∀ f, f < 5 → (st (8 * 5 + f) = 0 ∨ st (8 * 5 + f) = 1) → ca_S st j 5 (j * 5 + f) = st (8 * 5 + f) := by
    intro f hf h01
    unfold ca_S
    rw [if_pos (by omega), show 40 + (j * 5 + f - j * 5) = 8 * 5 + f by omega]
    exact cb_vp h01
  have s2 := eS 2 (by decide) H.2.2.2.2.1
  have s4 := eS 4 (by decide) H.2.2.2.2.2
  refine ⟨fun f v hf hv => ?_, fun f v hf hv hb => ?_, ?_, ?_, ?_, ?_⟩
  · rw [eX f hf]
    have := cf_topb hf
    unfold ca_Y
    rw [if_pos (by omega), show 1088 + (j * 136 + cf_off f + v - j * 136) = 8 * 136 + cf_off f + v by omega, H.1 f v hf hv]
    exact cb_vp (cb_b01 _)
  · rw [eX f hf] at hb
    exact H.2.1 f v hf hv hb
  · rw [pk_us, s2, H.2.2.1]
    exact cb_vp H.2.2.2.2.1
  · rw [pk_us, s4, H.2.2.2.1]
    exact cb_vp H.2.2.2.2.2
  · rw [s2]; exact H.2.2.2.2.1
  · rw [s4]; exact H.2.2.2.2.2
theorem ca_Sk {sX : Nat → Int64} {st sY dom dow : Nat → Int32} {j s : Nat} (hj : j < 8) (hs : s < 9) (hsj : s ≠ j) {x y : Int32} (H : cr_S sX st sY dom dow s) : cr_S (ca_X sX j 5) (ca_S st j 5) (ca_Y sY j 136) (upd dom j x) (upd dow j y) s := by
  have eX : ∀ f, f < 5 → ca_X sX j 5 (s * 5 + f) = sX (s * 5 + f) := by
    intro f hf
    unfold ca_X
    rw [if_neg (by omega)]
  have eS : ∀ f, f < 5 → ca_S st j 5 (s * 5 + f) = st (s * 5 + f) := by
    intro f hf
    unfold ca_S
    rw [if_neg (by omega)]
  have s2 := eS 2 (by decide)
  have s4 := eS 4 (by decide)
  refine ⟨fun f v hf hv => ?_, fun f v hf hv hb => ?_, ?_, ?_, ?_, ?_⟩
  · rw [eX f hf]
    have := cf_topb hf
    unfold ca_Y
    rw [if_neg (by omega)]
    exact H.1 f v hf hv
  · rw [eX f hf] at hb
    exact H.2.1 f v hf hv hb
  · rw [pk_un hsj, s2]; exact H.2.2.1
  · rw [pk_un hsj, s4]; exact H.2.2.2.1
  · rw [s2]; exact H.2.2.2.2.1
  · rw [s4]; exact H.2.2.2.2.2
theorem ca_pol {x : Int32} (h0 : ¬ x < 0) (h2 : x ≤ 2) : x = 0 ∨ x = 1 ∨ x = 2 := by
  obtain ⟨c, hc, rfl⟩ := nI_of2 (x := x) (M := 2) (n := 2) (by decide) h0 h2
  have hcc : c = 0 ∨ c = 1 ∨ c = 2 := by omega
  rcases hcc with rfl | rfl | rfl
  · exact Or.inl rfl
  · exact Or.inr (Or.inl rfl)
  · exact Or.inr (Or.inr rfl)
theorem ca_updP {p : Nat → Int32} (H : cr_P p) {j : Nat} {x : Int32} (hx : x = 0 ∨ x = 1 ∨ x = 2) : cr_P (upd p j x) := by
  intro i hi
  by_cases e : i = j
  · subst e; rw [pk_us]; exact hx
  · rw [pk_un e]; exact H i hi
theorem ca_C {cnt ru sta com dro can mis : Nat → Int32} (H : cr_C cnt ru sta com dro can mis) {j : Nat} : cr_C (ca_0 cnt j 6) (upd ru j 0) (upd sta j 0) (upd com j 0) (upd dro j 0) (upd can j 0) (upd mis j 0) := by
  intro i hi
  obtain ⟨h0, h1, h2, h3, h4, h5⟩ := H i hi
  unfold ca_0
  by_cases e : i = j
  · subst e
    refine ⟨?_, ?_, ?_, ?_, ?_, ?_⟩ <;> rw [pk_us] <;> exact if_pos (by omega)
  · exact ⟨(if_neg (by omega)).trans (h0.trans (pk_un e).symm), (if_neg (by omega)).trans (h1.trans (pk_un e).symm), (if_neg (by omega)).trans (h2.trans (pk_un e).symm), (if_neg (by omega)).trans (h3.trans (pk_un e).symm), (if_neg (by omega)).trans (h4.trans (pk_un e).symm), (if_neg (by omega)).trans (h5.trans (pk_un e).symm)⟩
theorem i_vc_addJob {k : Nat} {u : SX} {v : SY} (I : i_Rel k u v) (hk : k + 5 ≤ 2561) (v1 : Int32) (v2 : Int32) : wpX_addJob (fun r u' => wpY_addJob (fun r' v' => r' = r ∧ i_Rel (k + 5) u' v') v v1 v2) u v1 v2 := by
  have I5 := i_up I
  obtain ⟨cap, clock, len, b, text, sX, st, occ, mp, cp, ru, sta, com, dro, can, mis, sY, dom, dow, cnt, fs, fe, pos, val, cy, cm, cd, rfl, rfl, F⟩ := I
  have F5 := cr_Fm (show k ≤ k + 5 by omega) F
  rcases F.2.1 with rfl | rfl
  · exact br_t rfl (br_t rfl ⟨rfl, I5⟩)
  have n1 : ¬ (1 : Int32) = 0 := by decide
  by_cases h0 : v1 < 0
  · exact br_f n1 (br_t h0 (br_f n1 (br_t h0 ⟨rfl, I5⟩)))
  by_cases h2 : ¬ v1 ≤ 2
  · exact br_f n1 (br_f h0 (br_f h2 (br_f n1 (br_f h0 (br_f h2 ⟨rfl, I5⟩)))))
  have h2 : v1 ≤ 2 := Decidable.of_not_not h2
  by_cases g0 : v2 < 0
  · exact br_f n1 (br_f h0 (br_t h2 (br_t g0 (br_f n1 (br_f h0 (br_t h2 (br_t g0 ⟨rfl, I5⟩)))))))
  by_cases g2 : ¬ v2 ≤ 2
  · exact br_f n1 (br_f h0 (br_t h2 (br_f g0 (br_f g2 (br_f n1 (br_f h0 (br_t h2 (br_f g0 (br_f g2 ⟨rfl, I5⟩)))))))))
  have g2 : v2 ≤ 2 := Decidable.of_not_not g2
  have hff : ca_ff occ 8 (-1) := Or.inl ⟨rfl, fun i i1 i2 => absurd i2 (by omega)⟩
  rcases ca_free occ 8 with ⟨j, j1, j2, j3⟩ | hfull
  · refine br_f n1 (br_f h0 (br_t h2 (br_f g0 (br_t g2 ⟨9, cx_addloop j1 j2 j3 ?_ j 0 9 (by omega) (by omega)⟩))))
    refine br_f n1 (br_f h0 (br_t h2 (br_f g0 (br_t g2 ⟨9, cy_add37 (fun hfull => absurd j2 (hfull j j1)) (fun q q1 q2 q3 => ?_) 8 9 (by omega) (by omega) (-1) 7 (by decide) hff⟩))))
    have e : q = j := by
      by_cases e1 : q < j
      · exact absurd q2 (j3 q e1)
      · by_cases e2 : j < q
        · exact absurd j2 (q3 j e2)
        · omega
    subst e
    refine ⟨rfl, cr_mk ⟨F5.1, F5.2.1, F5.2.2.1, fun s hs => ?_, ca_updP F5.2.2.2.2.1 (ca_pol h0 h2), ca_updP F5.2.2.2.2.2.1 (ca_pol g0 g2), fun i hi => ?_, ca_C F5.2.2.2.2.2.2.2⟩⟩
    · by_cases e : s = q
      · subst e
        exact ca_Sj q1 (F.2.2.2.1 8 (Or.inr ⟨rfl, rfl⟩))
      · exact ca_Sk q1 (by omega) e (F.2.2.2.1 s hs)
    · by_cases e : i = q
      · subst e
        exact ⟨0, by omega, pk_us⟩
      · obtain ⟨r, r1, r2⟩ := F5.2.2.2.2.2.2.1 i hi
        exact ⟨r, r1, (pk_un e).trans r2⟩
  · refine br_f n1 (br_f h0 (br_t h2 (br_f g0 (br_t g2 ⟨9, cx_addfull hfull ?_ 8 0 9 (by omega) (by omega)⟩))))
    exact br_f n1 (br_f h0 (br_t h2 (br_f g0 (br_t g2 ⟨9, cy_add37 (fun _ => ⟨rfl, I5⟩) (fun q q1 q2 q3 => absurd q2 (hfull q q1)) 8 9 (by omega) (by omega) (-1) 7 (by decide) hff⟩))))
end
section
/-! the runs that a job starts -/
def cu_st (p : Int32) (x : Nat × Int32 × Int32 × Int32) : Nat × Int32 × Int32 × Int32 :=
  if p = 1 ∧ 0 < x.1 then (x.1, x.2.1, x.2.2.1 + 1, x.2.2.2) else if p = 2 then (1, x.2.1 + 1, x.2.2.1, x.2.2.2 + nI x.1) else (x.1 + 1, x.2.1 + 1, x.2.2.1, x.2.2.2)
def cu_it (p : Int32) : Nat → Nat × Int32 × Int32 × Int32 → Nat × Int32 × Int32 × Int32
  | 0, x => x
  | n + 1, x => cu_it p n (cu_st p x)
theorem cu_st_b (p : Int32) (x : Nat × Int32 × Int32 × Int32) : (cu_st p x).1 ≤ x.1 + 1 := by
  unfold cu_st
  split
  · exact Nat.le_succ _
  · split
    · exact Nat.succ_le_succ (Nat.zero_le _)
    · exact Nat.le_refl _
theorem cu_it_b (p : Int32) : ∀ n x, (cu_it p n x).1 ≤ x.1 + n := by
  intro n
  induction n with
  | zero => intro x; exact Nat.le_refl _
  | succ n ih =>
    intro x
    have h1 := ih (cu_st p x)
    have h2 := cu_st_b p x
    show (cu_it p n (cu_st p x)).1 ≤ x.1 + (n + 1)
    omega
def cu_X (j : Nat) (ru sta dro can ru' sta' dro' can' : Nat → Int32) (x : Nat × Int32 × Int32 × Int32) : Prop :=
  ru' j = nI x.1 ∧ sta' j = x.2.1 ∧ dro' j = x.2.2.1 ∧ can' j = x.2.2.2 ∧ ∀ i, i ≠ j → ru' i = ru i ∧ sta' i = sta i ∧ dro' i = dro i ∧ can' i = can i
def cu_Y (j : Nat) (cnt cnt' : Nat → Int32) (x : Nat × Int32 × Int32 × Int32) : Prop :=
  cnt' (j * 6) = nI x.1 ∧ cnt' (j * 6 + 1) = x.2.1 ∧ cnt' (j * 6 + 3) = x.2.2.1 ∧ cnt' (j * 6 + 4) = x.2.2.2 ∧ ∀ i, i ≠ j * 6 → i ≠ j * 6 + 1 → i ≠ j * 6 + 3 → i ≠ j * 6 + 4 → cnt' i = cnt i
section
variable {f_cap f_clock f_length f_staged : Int32} {a_text : Nat → Int32} {a_sets : Nat → Int64} {a_starred a_occupied a_misfirePolicy a_concurrencyPolicy a_running a_started a_completed a_dropped a_cancelled a_misfires : Nat → Int32}
theorem cx_runloop {j : Nat} (hj : j < 8) {p : Int32} (hp : a_concurrencyPolicy j = p) {T : Nat} (hT : T < 1000) {x3 : Int32} {post : Int32 → SX → Prop} : ∀ (k i n : Nat) (x : Nat × Int32 × Int32 × Int32) (ru sta dro can : Nat → Int32), i + k = T → k < n → x.1 + k < 2 ^ 30 → cu_X j a_running a_started a_dropped a_cancelled ru sta dro can x → (∀ ru' sta' dro' can', cu_X j a_running a_started a_dropped a_cancelled ru' sta' dro' can' (cu_it p k x) → post (sta' j - x3) (f_cap, f_clock, f_length, f_staged, a_text, a_sets, a_starred, a_occupied, a_misfirePolicy, a_concurrencyPolicy, ru', sta', a_completed, dro', can', a_misfires)) → wX_startRuns_10 post (nI j) (nI T) x3 f_cap f_clock f_length f_staged n (nI i) a_text a_sets a_starred a_occupied a_misfirePolicy a_concurrencyPolicy ru sta a_completed dro can a_misfires := by
  have hin : vp_in (nI j) 8 := vp_in_nI hj (by decide)
  have ej : (nI j).toNatClampNeg = j := nI_clamp (by omega)
  intro k
  induction k with
  | zero =>
    intro i n x ru sta dro can hk hn hb hx hq
    obtain ⟨n, rfl⟩ : ∃ n', n = n' + 1 := ⟨n - 1, by omega⟩
    refine pk_le T i (fun _ => ⟨hin, ?_⟩) (fun z => absurd z (by omega))
    rw [ej]
    exact hq ru sta dro can hx
  | succ k ih =>
    intro i n x ru sta dro can hk hn hb hx hq
    obtain ⟨n, rfl⟩ : ∃ n', n = n' + 1 := ⟨n - 1, by omega⟩
    obtain ⟨x1, x2, x3', x4, xo⟩ := hx
    have hsb := cu_st_b p x
    have h80 : ∀ (r : Nat) (ru can : Nat → Int32), cu_st p x = (r + 1, x.2.1 + 1, x.2.2.1, can j) → ru j = nI r → (∀ i, i ≠ j → ru i = a_running i ∧ can i = a_cancelled i) → wX_startRuns_80 post (wX_startRuns_10 post (nI j) (nI T) x3 f_cap f_clock f_length f_staged n) (nI j) (nI T) x3 (nI i) f_cap f_clock f_length f_staged a_text a_sets a_starred a_occupied a_misfirePolicy a_concurrencyPolicy ru sta a_completed dro can a_misfires := by
      intro r ru can er h1 h2
      unfold wX_startRuns_80
      rw [ej]
      refine ⟨hin, hin, nm_e ⟨hin, hin, nm_e (nm_r (nI_1 i) (ih (i + 1) n (cu_st p x) _ _ _ _ (by omega) (by omega) (by omega) ?_ hq))⟩⟩
      rw [er]
      refine ⟨by rw [pk_us, h1]; exact nI_1 r, by rw [pk_us, x2], x3', rfl, fun q hq => ?_⟩
      rw [pk_un hq, pk_un hq]
      exact ⟨(h2 q hq).1, (xo q hq).2.1, (xo q hq).2.2.1, (h2 q hq).2⟩
    have h48 : ¬ (p = 1 ∧ 0 < x.1) → wX_startRuns_48 post (wX_startRuns_10 post (nI j) (nI T) x3 f_cap f_clock f_length f_staged n) (nI j) (nI T) x3 (nI i) f_cap f_clock f_length f_staged a_text a_sets a_starred a_occupied a_misfirePolicy a_concurrencyPolicy ru sta a_completed dro can a_misfires := by
      intro hn1
      unfold wX_startRuns_48
      rw [ej, hp]
      refine ⟨hin, br_c (fun z => ⟨hin, hin, hin, nm_e ⟨hin, nm_e ?_⟩⟩) (fun z => ?_)⟩
      · refine h80 0 _ _ ?_ (by rw [pk_us]; rfl) (fun q hq => by rw [pk_un hq, pk_un hq]; exact ⟨(xo q hq).1, (xo q hq).2.2.2⟩)
        unfold cu_st
        rw [if_neg hn1, if_pos z, pk_us, x4, x1]
      · refine h80 x.1 _ _ ?_ x1 (fun q hq => ⟨(xo q hq).1, (xo q hq).2.2.2⟩)
        unfold cu_st
        rw [if_neg hn1, if_neg z, x4]
    refine pk_le T i (fun z => absurd z (by omega)) (fun _ => ?_)
    rw [ej, hp]
    refine ⟨hin, br_c (fun z => ⟨hin, ?_⟩) (fun z => h48 (fun w => z w.1))⟩
    rw [x1]
    refine pk_le x.1 0 (fun w => h48 (fun y => by omega)) (fun w => ⟨hin, hin, nm_e (nm_r (nI_1 i) (ih (i + 1) n (cu_st p x) _ _ _ _ (by omega) (by omega) (by omega) ?_ hq))⟩)
    unfold cu_st
    rw [if_pos ⟨z, w⟩]
    refine ⟨x1, x2, by rw [pk_us, x3'], x4, fun q hq => ?_⟩
    rw [pk_un hq]
    exact xo q hq
theorem cx_run {j : Nat} (hj : j < 8) {p : Int32} (hp : a_concurrencyPolicy j = p) {T r : Nat} (hT : T < 1000) (hr : a_running j = nI r) (hb : r + T < 2 ^ 30) {post : Int32 → SX → Prop} (hq : ∀ ru' sta' dro' can', cu_X j a_running a_started a_dropped a_cancelled ru' sta' dro' can' (cu_it p T (r, a_started j, a_dropped j, a_cancelled j)) → post (sta' j - a_started j) (f_cap, f_clock, f_length, f_staged, a_text, a_sets, a_starred, a_occupied, a_misfirePolicy, a_concurrencyPolicy, ru', sta', a_completed, dro', can', a_misfires)) : wpX_startRuns post (f_cap, f_clock, f_length, f_staged, a_text, a_sets, a_starred, a_occupied, a_misfirePolicy, a_concurrencyPolicy, a_running, a_started, a_completed, a_dropped, a_cancelled, a_misfires) (nI j) (nI T) := by
  have hin : vp_in (nI j) 8 := vp_in_nI hj (by decide)
  have ej : (nI j).toNatClampNeg = j := nI_clamp (by omega)
  unfold wpX_startRuns
  dsimp only
  rw [ej]
  exact ⟨hin, nm_e ⟨T + 1, cx_runloop hj hp hT T 0 (T + 1) (r, a_started j, a_dropped j, a_cancelled j) a_running a_started a_dropped a_cancelled (by omega) (by omega) hb ⟨hr, rfl, rfl, rfl, fun i _ => ⟨rfl, rfl, rfl, rfl⟩⟩ hq⟩⟩
end
theorem cu_add (x s z : Int32) : (x + 1) + (z - (s + 1)) = x + (z - s) := by grind
section
variable {f_len f_clock f_cap f_staged f_pos f_val f_cy f_cm f_cd : Int32} {a_text a_sets a_domStar a_dowStar a_occ a_mis a_con a_cnt a_fs a_fe : Nat → Int32}
theorem cy_runloop {j : Nat} (hj : j < 8) {p : Int32} (hp : a_con j = p) (h3 : p = 0 ∨ p = 1 ∨ p = 2) {T : Nat} (hT : T < 1000) {x2 x3 : Int32} {post : Int32 → SY → Prop} {J : Int32 → Int32 → Int32 → Int32 → Int32 → Int32 → Int32 → Int32 → Int32 → Int32 → Int32 → (Nat → Int32) → (Nat → Int32) → (Nat → Int32) → (Nat → Int32) → (Nat → Int32) → (Nat → Int32) → (Nat → Int32) → (Nat → Int32) → (Nat → Int32) → (Nat → Int32) → Prop} : ∀ (k i n : Nat) (x : Nat × Int32 × Int32 × Int32) (cnt : Nat → Int32) (x4 : Int32), i + k = T → k < n → x.1 + k < 2 ^ 30 → cu_Y j a_cnt cnt x → (∀ cnt', cu_Y j a_cnt cnt' (cu_it p k x) → J (x4 + ((cu_it p k x).2.1 - x.2.1)) (nI (j + 1)) f_len f_clock f_cap f_staged f_pos f_val f_cy f_cm f_cd a_text a_sets a_domStar a_dowStar a_occ a_mis a_con cnt' a_fs a_fe) → wY_advance_206 post J x2 x3 (nI j) (nI T) f_len f_clock f_cap f_staged f_pos f_val f_cy f_cm f_cd n x4 (nI i) a_text a_sets a_domStar a_dowStar a_occ a_mis a_con cnt a_fs a_fe := by
  have hin : vp_in (nI j) 8 := vp_in_nI hj (by decide)
  have ej : (nI j).toNatClampNeg = j := nI_clamp (by omega)
  have i0 : vp_in (nI (j * 6)) 48 := vp_in_nI (by omega) (by decide)
  have i1 : vp_in (nI (j * 6 + 1)) 48 := vp_in_nI (by omega) (by decide)
  have i3 : vp_in (nI (j * 6 + 3)) 48 := vp_in_nI (by omega) (by decide)
  have i4 : vp_in (nI (j * 6 + 4)) 48 := vp_in_nI (by omega) (by decide)
  have e0 : nI (j * 6) + 0 = nI (j * 6) := nI_add (j * 6) 0
  have e1 : nI (j * 6) + 1 = nI (j * 6 + 1) := nI_add (j * 6) 1
  have e3 : nI (j * 6) + 3 = nI (j * 6 + 3) := nI_add (j * 6) 3
  have e4 : nI (j * 6) + 4 = nI (j * 6 + 4) := nI_add (j * 6) 4
  have c0 : (nI (j * 6)).toNatClampNeg = j * 6 := nI_clamp (by omega)
  have c1 : (nI (j * 6 + 1)).toNatClampNeg = j * 6 + 1 := nI_clamp (by omega)
  have c3 : (nI (j * 6 + 3)).toNatClampNeg = j * 6 + 3 := nI_clamp (by omega)
  have c4 : (nI (j * 6 + 4)).toNatClampNeg = j * 6 + 4 := nI_clamp (by omega)
  intro k
  induction k with
  | zero =>
    intro i n x cnt x4 hk hn hb hx hq
    obtain ⟨n, rfl⟩ : ∃ n', n = n' + 1 := ⟨n - 1, by omega⟩
    refine pk_le T i (fun _ => nm_r (nI_1 j) ?_) (fun z => absurd z (by omega))
    have t := hq cnt hx
    rw [show (cu_it p 0 x).2.1 - x.2.1 = 0 from Int32.sub_self _, Int32.add_zero] at t
    exact t
  | succ k ih =>
    intro i n x cnt x4 hk hn hb hx hq
    obtain ⟨n, rfl⟩ : ∃ n', n = n' + 1 := ⟨n - 1, by omega⟩
    obtain ⟨y1, y2, y3, y4, yo⟩ := hx
    have hsb := cu_st_b p x
    have hstep : ∀ (cnt' : Nat → Int32), (cu_st p x).2.1 = x.2.1 + 1 → cu_Y j a_cnt cnt' (cu_st p x) → ∀ z, z = x4 + 1 → ∀ w, w = nI i + 1 → wY_advance_206 post J x2 x3 (nI j) (nI T) f_len f_clock f_cap f_staged f_pos f_val f_cy f_cm f_cd n z w a_text a_sets a_domStar a_dowStar a_occ a_mis a_con cnt' a_fs a_fe := by
      intro cnt' es hc z ez w ew
      rw [ez, ew, nI_1]
      refine ih (i + 1) n (cu_st p x) cnt' (x4 + 1) (by omega) (by omega) (by omega) hc (fun cnt'' hc'' => ?_)
      have t := hq cnt'' hc''
      rw [es, cu_add]
      exact t
    have h373 : ∀ (cnt' : Nat → Int32), cu_st p x = (1, x.2.1 + 1, x.2.2.1, cnt' (j * 6 + 4)) → cnt' (j * 6 + 1) = x.2.1 → cnt' (j * 6 + 3) = x.2.2.1 → (∀ i, i ≠ j * 6 → i ≠ j * 6 + 1 → i ≠ j * 6 + 3 → i ≠ j * 6 + 4 → cnt' i = a_cnt i) → wY_advance_373 post J (wY_advance_206 post J x2 x3 (nI j) (nI T) f_len f_clock f_cap f_staged f_pos f_val f_cy f_cm f_cd n) x2 x3 x4 (nI j) (nI T) (nI i) (nI (j * 6)) f_len f_clock f_cap f_staged f_pos f_val f_cy f_cm f_cd a_text a_sets a_domStar a_dowStar a_occ a_mis a_con cnt' a_fs a_fe := by
      intro cnt' er g1 g3 go
      unfold wY_advance_373
      rw [e0, e1, c0, c1]
      refine ⟨i0, nm_e ⟨i1, i1, nm_e (hstep _ (by rw [er]) ?_)⟩⟩
      rw [er]
      refine ⟨by rw [pk_un (by omega), pk_us]; rfl, by rw [pk_us, pk_un (by omega), g1], by rw [pk_un (by omega), pk_un (by omega), g3], by rw [pk_un (by omega), pk_un (by omega)], fun q q0 q1 q3 q4 => by rw [pk_un q1, pk_un q0]; exact go q q0 q1 q3 q4⟩
    refine pk_le T i (fun z => absurd z (by omega)) (fun _ => nm_r (pk_mul j 6) ⟨hin, ?_⟩)
    rw [e0, e1, e3, e4, ej, c0, c1, c3, c4, hp]
    rcases h3 with rfl | rfl | rfl
    · have er : cu_st 0 x = (x.1 + 1, x.2.1 + 1, x.2.2.1, x.2.2.2) := by
        unfold cu_st
        rw [if_neg (fun z => absurd z.1 (by decide)), if_neg (by decide)]
      refine br_t rfl ⟨i0, i0, nm_e ⟨i1, i1, nm_e (hstep _ (by rw [er]) ?_)⟩⟩
      rw [er]
      exact ⟨by rw [pk_un (by omega), pk_us, y1]; exact nI_1 _, by rw [pk_us, pk_un (by omega), y2], by rw [pk_un (by omega), pk_un (by omega), y3], by rw [pk_un (by omega), pk_un (by omega), y4], fun q q0 q1 q3 q4 => by rw [pk_un q1, pk_un q0]; exact yo q q0 q1 q3 q4⟩
    · refine br_f (by decide) ⟨hin, br_t rfl ⟨i0, ?_⟩⟩
      rw [y1]
      refine pk_le x.1 0 (fun w => ⟨i0, nm_e ⟨i1, i1, nm_e (hstep _ ?_ ?_)⟩⟩) (fun w => ⟨i3, i3, nm_e (nm_r (nI_1 i) (ih (i + 1) n (cu_st 1 x) _ x4 (by omega) (by omega) (by omega) ?_ (fun cnt' hc => ?_)))⟩)
      · unfold cu_st
        rw [if_neg (by omega), if_neg (by decide)]
      · unfold cu_st
        rw [if_neg (by omega), if_neg (by decide)]
        exact ⟨by rw [pk_un (by omega), pk_us, show x.1 = 0 by omega]; rfl, by rw [pk_us, pk_un (by omega), y2], by rw [pk_un (by omega), pk_un (by omega), y3], by rw [pk_un (by omega), pk_un (by omega), y4], fun q q0 q1 q3 q4 => by rw [pk_un q1, pk_un q0]; exact yo q q0 q1 q3 q4⟩
      · unfold cu_st
        rw [if_pos ⟨rfl, w⟩]
        exact ⟨by rw [pk_un (by omega), y1], by rw [pk_un (by omega), y2], by rw [pk_us, y3], by rw [pk_un (by omega), y4], fun q q0 q1 q3 q4 => by rw [pk_un q3]; exact yo q q0 q1 q3 q4⟩
      · have t := hq cnt' hc
        have es : (cu_st 1 x).2.1 = x.2.1 := by
          unfold cu_st
          rw [if_pos ⟨rfl, w⟩]
        rw [es]
        exact t
    · have er : cu_st 2 x = (1, x.2.1 + 1, x.2.2.1, x.2.2.2 + nI x.1) := by
        unfold cu_st
        rw [if_neg (fun z => absurd z.1 (by decide)), if_pos rfl]
      refine br_f (by decide) ⟨hin, br_f (by decide) ⟨i0, ?_⟩⟩
      rw [y1]
      refine pk_le x.1 0 (fun w => h373 cnt ?_ y2 y3 yo) (fun w => ⟨i4, i0, i4, nm_e ⟨i0, nm_e (h373 _ ?_ ?_ ?_ ?_)⟩⟩)
      · rw [er, y4, show x.1 = 0 by omega, nI_0, Int32.add_zero]
      · rw [er, pk_un (by omega), pk_us, y4]
      · rw [pk_un (by omega), pk_un (by omega), y2]
      · rw [pk_un (by omega), pk_un (by omega), y3]
      · intro q q0 q1 q3 q4
        rw [pk_un q0, pk_un q4]
        exact yo q q0 q1 q3 q4
theorem cy_run {j : Nat} (hj : j < 8) {p : Int32} (hp : a_con j = p) (h3 : p = 0 ∨ p = 1 ∨ p = 2) {T r : Nat} (hT : T < 1000) (hr : a_cnt (j * 6) = nI r) (hb : r + T < 2 ^ 30) {x2 x3 x4 : Int32} {post : Int32 → SY → Prop} {J : Int32 → Int32 → Int32 → Int32 → Int32 → Int32 → Int32 → Int32 → Int32 → Int32 → Int32 → (Nat → Int32) → (Nat → Int32) → (Nat → Int32) → (Nat → Int32) → (Nat → Int32) → (Nat → Int32) → (Nat → Int32) → (Nat → Int32) → (Nat → Int32) → (Nat → Int32) → Prop} (hq : ∀ cnt', cu_Y j a_cnt cnt' (cu_it p T (r, a_cnt (j * 6 + 1), a_cnt (j * 6 + 3), a_cnt (j * 6 + 4))) → J (x4 + ((cu_it p T (r, a_cnt (j * 6 + 1), a_cnt (j * 6 + 3), a_cnt (j * 6 + 4))).2.1 - a_cnt (j * 6 + 1))) (nI (j + 1)) f_len f_clock f_cap f_staged f_pos f_val f_cy f_cm f_cd a_text a_sets a_domStar a_dowStar a_occ a_mis a_con cnt' a_fs a_fe) : ∃ n, wY_advance_206 post J x2 x3 (nI j) (nI T) f_len f_clock f_cap f_staged f_pos f_val f_cy f_cm f_cd n x4 0 a_text a_sets a_domStar a_dowStar a_occ a_mis a_con a_cnt a_fs a_fe :=
  ⟨T + 1, cy_runloop hj hp h3 hT T 0 (T + 1) (r, a_cnt (j * 6 + 1), a_cnt (j * 6 + 3), a_cnt (j * 6 + 4)) a_cnt x4 (by omega) (by omega) hb ⟨hr, rfl, rfl, rfl, fun _ _ _ _ _ => rfl⟩ hq⟩
end
end
section
/-! advance -/
def cv_K (sX : Nat → Int64) (st : Nat → Int32) (c l j : Nat) : Nat := cs_n (cs_Q (fun f v => cb_bit (sX (j * 5 + f)) v) (decide (st (j * 5 + 2) = 1)) (decide (st (j * 5 + 4) = 1)) c l) 4206240
def cv_tau (sX : Nat → Int64) (st occ mp cp ru sta dro can mis : Nat → Int32) (cap c c2 : Nat) (j : Nat) : Nat := if mp j = 2 then (if cap ≤ cv_K sX st c c2 j then cap else cv_K sX st c c2 j) else if mp j = 1 then (if cv_K sX st (c2 - 1) c2 j < 1 then 0 else 1) else (if cv_K sX st c c2 j < 1 then 0 else 1)
def cv_x (sX : Nat → Int64) (st occ mp cp ru sta dro can mis : Nat → Int32) (cap c c2 : Nat) (j : Nat) : Nat × Int32 × Int32 × Int32 := cu_it (cp j) (cv_tau sX st occ mp cp ru sta dro can mis cap c c2 j) ((ru j).toNatClampNeg, sta j, dro j, can j)
def cv_ru (sX : Nat → Int64) (st occ mp cp ru sta dro can mis : Nat → Int32) (cap c c2 : Nat) (i j : Nat) : Int32 := if j < i ∧ ¬ occ j = 0 then nI (cv_x sX st occ mp cp ru sta dro can mis cap c c2 j).1 else ru j
def cv_sta (sX : Nat → Int64) (st occ mp cp ru sta dro can mis : Nat → Int32) (cap c c2 : Nat) (i j : Nat) : Int32 := if j < i ∧ ¬ occ j = 0 then (cv_x sX st occ mp cp ru sta dro can mis cap c c2 j).2.1 else sta j
def cv_dro (sX : Nat → Int64) (st occ mp cp ru sta dro can mis : Nat → Int32) (cap c c2 : Nat) (i j : Nat) : Int32 := if j < i ∧ ¬ occ j = 0 then (cv_x sX st occ mp cp ru sta dro can mis cap c c2 j).2.2.1 else dro j
def cv_can (sX : Nat → Int64) (st occ mp cp ru sta dro can mis : Nat → Int32) (cap c c2 : Nat) (i j : Nat) : Int32 := if j < i ∧ ¬ occ j = 0 then (cv_x sX st occ mp cp ru sta dro can mis cap c c2 j).2.2.2 else can j
def cv_mis (sX : Nat → Int64) (st occ mp cp ru sta dro can mis : Nat → Int32) (cap c c2 : Nat) (i j : Nat) : Int32 := if j < i ∧ ¬ occ j = 0 then (if cv_K sX st c (c2 - 1) j < 1 then mis j else mis j + 1) else mis j
def cv_t (sX : Nat → Int64) (st occ mp cp ru sta dro can mis : Nat → Int32) (cap c c2 : Nat) : Nat → Int32
  | 0 => 0
  | i + 1 => if occ i = 0 then cv_t sX st occ mp cp ru sta dro can mis cap c c2 i else cv_t sX st occ mp cp ru sta dro can mis cap c c2 i + ((cv_x sX st occ mp cp ru sta dro can mis cap c c2 i).2.1 - sta i)
theorem cv_tau_b {sX : Nat → Int64} {st occ mp cp ru sta dro can mis : Nat → Int32} {cap c c2 : Nat} {j : Nat} (hc : cap ≤ 8) : cv_tau sX st occ mp cp ru sta dro can mis cap c c2 j ≤ 8 := by
  unfold cv_tau
  repeat' split
  all_goals omega
theorem cs_n_pos {Q : Nat → Bool} : ∀ n, 0 < cs_n Q n → ∃ q, q < n ∧ Q q = true := by
  intro n
  induction n with
  | zero => intro h; exact absurd h (Nat.lt_irrefl 0)
  | succ n ih =>
    intro h
    cases e : Q n
    · rw [cs_n_f e] at h
      obtain ⟨q, q1, q2⟩ := ih h
      exact ⟨q, by omega, q2⟩
    · exact ⟨n, by omega, e⟩
theorem cs_n_ex {Q : Nat → Bool} {n q : Nat} (h1 : q < n) (h2 : Q q = true) : 0 < cs_n Q n := by
  have t := cs_n_le (Q := Q) (show q + 1 ≤ n by omega)
  rw [cs_n_t h2] at t
  omega
section
variable {s : Nat} {h : Nat → Nat → Bool} {a b : Bool} {f_cap f_clock f_length f_staged : Int32} {a_text : Nat → Int32} {a_sets : Nat → Int64} {a_starred a_occupied a_misfirePolicy a_concurrencyPolicy a_running a_started a_completed a_dropped a_cancelled a_misfires : Nat → Int32}
theorem cx_trigloop (H : cs_X s a_sets a_starred h a b) {c c2 most : Nat} (hc2 : c2 < 4206240) (hm : most < 1000) {post : Int32 → Prop} (hp : post (nI (if most ≤ cs_n (cs_Q h a b c c2) 4206240 then most else cs_n (cs_Q h a b c c2) 4206240))) : ∀ k q t n : Nat, q + k = most → k < n → c ≤ t → t ≤ c2 → q = cs_n (cs_Q h a b c c2) (t + 1) → wX_triggersDue_47 post (nI s) (nI most) f_cap (nI c2) f_length f_staged a_text a_sets a_starred a_occupied a_misfirePolicy a_concurrencyPolicy a_running a_started a_completed a_dropped a_cancelled a_misfires n (nI t) (nI q) (nI q) := by
  intro k
  induction k with
  | zero =>
    intro q t n hk hn h1 h2 hq
    obtain ⟨n, rfl⟩ : ∃ n', n = n' + 1 := ⟨n - 1, by omega⟩
    refine pk_le most q (fun _ => ?_) (fun z => absurd z (by omega))
    have t1 := cs_n_le (Q := cs_Q h a b c c2) (show t + 1 ≤ 4206240 by omega)
    rw [if_pos (by omega)] at hp
    rw [show q = most by omega]
    exact hp
  | succ k ih =>
    intro q t n hk hn h1 h2 hq
    obtain ⟨n, rfl⟩ : ∃ n', n = n' + 1 := ⟨n - 1, by omega⟩
    refine pk_le most q (fun z => absurd z (by omega)) (fun _ => cx_next H hc2 (by omega) (fun r hr => ?_))
    rcases hr with ⟨m, rfl, m1, m2, m3, m4⟩ | ⟨rfl, hno⟩
    · refine br_f (cb_nm1 (by omega)) (nm_r (nI_1 q) (nm_r (nI_1 q) (ih (q + 1) m n (by omega) (by omega) ?_ m3.2.1 ?_)))
      · have := m3.1
        omega
      · have hQ : cs_Q h a b c c2 m = true := cs_QP.mpr ⟨by have := m3.1; omega, m3.2.1, m3.2.2⟩
        rw [cs_n_t hQ, hq]
        congr 1
        exact (cs_n_eq' (by have := m3.1; omega) (fun x x1 x2 => cs_Qf (fun hP => m4 x (by omega) x2 ⟨by omega, hP.2.1, hP.2.2⟩))).symm
    · refine br_t rfl ?_
      have e : cs_n (cs_Q h a b c c2) 4206240 = q := by
        rw [hq]
        exact cs_n_eq' (by omega) (fun x x1 x2 => cs_Qf (fun hP => hno x (by omega) x2 ⟨by omega, hP.2.1, hP.2.2⟩))
      rw [e, if_neg (by omega)] at hp
      exact hp
theorem cs_n_00 {c l : Nat} : cs_n (cs_Q h a b c l) (c + 1) = 0 := cs_n_eq' (a := 0) (by omega) (fun x _ x2 => cs_Qf (fun hP => absurd hP.1 (by omega)))
theorem cv_one {K : Nat} : (if 1 ≤ K then 1 else K) = (if K < 1 then 0 else 1) := by
  repeat' split
  all_goals omega
theorem cx_trig {sX : Nat → Int64} {st occ mp cp ru sta dro can mis : Nat → Int32} {cap c c2 : Nat} {j : Nat} (hj : j < 8) (H : cs_X j sX st (fun f v => cb_bit (sX (j * 5 + f)) v) (decide (st (j * 5 + 2) = 1)) (decide (st (j * 5 + 4) = 1))) (hc : c < c2) (hc2 : c2 < 4206240) (hcap : cap ≤ 8) {post : Int32 → Prop} (hp : post (nI (cv_tau sX st occ mp cp ru sta dro can mis cap c c2 j))) : wpX_triggersDue post (nI cap, nI c2, f_length, f_staged, a_text, sX, st, a_occupied, mp, a_concurrencyPolicy, a_running, a_started, a_completed, a_dropped, a_cancelled, a_misfires) (nI j) (nI c) := by
  have hin : vp_in (nI j) 8 := vp_in_nI hj (by decide)
  have ej : (nI j).toNatClampNeg = j := nI_clamp (by omega)
  have ec : nI c2 - 1 = nI (c2 - 1) := by
    obtain ⟨d, rfl⟩ : ∃ d, c2 = d + 1 := ⟨c2 - 1, by omega⟩
    exact nI_pred d
  unfold wpX_triggersDue
  dsimp only
  rw [ej]
  have h18 : ∀ z : Nat, z < 1000 → (mp j = 1 → post (nI (if z ≤ cv_K sX st (c2 - 1) c2 j then z else cv_K sX st (c2 - 1) c2 j))) → (¬ mp j = 1 → post (nI (if z ≤ cv_K sX st c c2 j then z else cv_K sX st c c2 j))) → wX_triggersDue_18 post (nI j) (nI c) (nI z) (nI cap) (nI c2) f_length f_staged a_text sX st a_occupied mp a_concurrencyPolicy a_running a_started a_completed a_dropped a_cancelled a_misfires := by
    intro z hz h1 h2
    unfold wX_triggersDue_18
    rw [ej]
    refine ⟨hin, br_c (fun e => nm_r ec ⟨z + 1, ?_⟩) (fun e => ⟨z + 1, ?_⟩)⟩
    · exact cx_trigloop H hc2 hz (h1 e) z 0 (c2 - 1) (z + 1) (by omega) (by omega) (by omega) (by omega) cs_n_00.symm
    · exact cx_trigloop H hc2 hz (h2 e) z 0 c (z + 1) (by omega) (by omega) (by omega) (by omega) cs_n_00.symm
  unfold cv_tau at hp
  refine ⟨hin, br_c (fun e => h18 cap (by omega) (fun e1 => absurd (e.symm.trans e1) (by decide)) (fun _ => ?_)) (fun e => h18 1 (by omega) (fun e1 => ?_) (fun e1 => ?_))⟩
  · rw [if_pos e] at hp; exact hp
  · rw [if_neg e, if_pos e1] at hp; rw [cv_one]; exact hp
  · rw [if_neg e, if_neg e1] at hp; rw [cv_one]; exact hp
theorem cx_mis {sX : Nat → Int64} {st : Nat → Int32} {c c2 : Nat} {j : Nat} (hj : j < 8) (H : cs_X j sX st (fun f v => cb_bit (sX (j * 5 + f)) v) (decide (st (j * 5 + 2) = 1)) (decide (st (j * 5 + 4) = 1))) (hc : c < c2) (hc2 : c2 < 4206240) {post : SX → Prop} (hp : ∀ mis', mis' j = (if cv_K sX st c (c2 - 1) j < 1 then a_misfires j else a_misfires j + 1) → (∀ i, i ≠ j → mis' i = a_misfires i) → post (f_cap, nI c2, f_length, f_staged, a_text, sX, st, a_occupied, a_misfirePolicy, a_concurrencyPolicy, a_running, a_started, a_completed, a_dropped, a_cancelled, mis')) : wpX_countMisfire post (f_cap, nI c2, f_length, f_staged, a_text, sX, st, a_occupied, a_misfirePolicy, a_concurrencyPolicy, a_running, a_started, a_completed, a_dropped, a_cancelled, a_misfires) (nI j) (nI c) := by
  have hin : vp_in (nI j) 8 := vp_in_nI hj (by decide)
  have ej : (nI j).toNatClampNeg = j := nI_clamp (by omega)
  have ec : nI c2 - 1 = nI (c2 - 1) := by
    obtain ⟨d, rfl⟩ : ∃ d, c2 = d + 1 := ⟨c2 - 1, by omega⟩
    exact nI_pred d
  unfold wpX_countMisfire
  dsimp only
  rw [ej, ec]
  refine cx_next H (by omega) (by omega) (fun r hr => ?_)
  rcases hr with ⟨m, rfl, m1, m2, m3, m4⟩ | ⟨rfl, hno⟩
  · refine br_f (cb_nm1 (by omega)) ⟨hin, hin, nm_e (hp _ ?_ (fun i hi => pk_un hi))⟩
    have t : 0 < cv_K sX st c (c2 - 1) j := cs_n_ex m2 (cs_QP.mpr m3)
    rw [pk_us, if_neg (by omega)]
  · refine br_t rfl (hp _ ?_ (fun i _ => rfl))
    have t : cv_K sX st c (c2 - 1) j = 0 := cs_n_eq' (a := 0) (by omega) (fun x x1 x2 => cs_Qf (hno x x1 x2))
    rw [if_pos (by omega)]
end
section
variable {f_cap f_clock f_length f_staged : Int32} {a_text : Nat → Int32} {a_sets : Nat → Int64} {a_starred a_occupied a_misfirePolicy a_concurrencyPolicy a_running a_started a_completed a_dropped a_cancelled a_misfires : Nat → Int32}
theorem cx_advloop {sX : Nat → Int64} {st occ mp cp ru sta dro can mis : Nat → Int32} {cap c c2 : Nat} (HA : ∀ j, j < 8 → cs_X j sX st (fun f v => cb_bit (sX (j * 5 + f)) v) (decide (st (j * 5 + 2) = 1)) (decide (st (j * 5 + 4) = 1))) (HR : ∀ j, j < 8 → ∃ r, r < 2 ^ 29 ∧ ru j = nI r) (hc : c < c2) (hc2 : c2 < 4206240) (hcap : cap ≤ 8) {post : Int32 → SX → Prop} (hq : ∀ ru' sta' dro' can' mis', (∀ j, j < 8 → ru' j = cv_ru sX st occ mp cp ru sta dro can mis cap c c2 8 j ∧ sta' j = cv_sta sX st occ mp cp ru sta dro can mis cap c c2 8 j ∧ dro' j = cv_dro sX st occ mp cp ru sta dro can mis cap c c2 8 j ∧ can' j = cv_can sX st occ mp cp ru sta dro can mis cap c c2 8 j ∧ mis' j = cv_mis sX st occ mp cp ru sta dro can mis cap c c2 8 j) → post (cv_t sX st occ mp cp ru sta dro can mis cap c c2 8) (nI cap, nI c2, f_length, f_staged, a_text, sX, st, occ, mp, cp, ru', sta', a_completed, dro', can', mis')) : ∀ (k i n : Nat) (ru' sta' dro' can' mis' : Nat → Int32), i + k = 8 → k < n → (∀ j, j < 8 → ru' j = cv_ru sX st occ mp cp ru sta dro can mis cap c c2 i j ∧ sta' j = cv_sta sX st occ mp cp ru sta dro can mis cap c c2 i j ∧ dro' j = cv_dro sX st occ mp cp ru sta dro can mis cap c c2 i j ∧ can' j = cv_can sX st occ mp cp ru sta dro can mis cap c c2 i j ∧ mis' j = cv_mis sX st occ mp cp ru sta dro can mis cap c c2 i j) → wX_advance_46 post (nI c) n (cv_t sX st occ mp cp ru sta dro can mis cap c c2 i) (nI i) (nI cap) (nI c2) f_length f_staged a_text sX st occ mp cp ru' sta' a_completed dro' can' mis' := by
  intro k
  induction k with
  | zero =>
    intro i n ru' sta' dro' can' mis' hk hn hv
    obtain ⟨n, rfl⟩ : ∃ n', n = n' + 1 := ⟨n - 1, by omega⟩
    have e : i = 8 := by omega
    subst e
    exact pk_le 8 8 (fun _ => hq ru' sta' dro' can' mis' hv) (fun z => absurd z (by omega))
  | succ k ih =>
    intro i n ru' sta' dro' can' mis' hk hn hv
    obtain ⟨n, rfl⟩ : ∃ n', n = n' + 1 := ⟨n - 1, by omega⟩
    have hi : i < 8 := by omega
    have ei : (nI i).toNatClampNeg = i := nI_clamp (by omega)
    have hother : ∀ j, j ≠ i → ((j < i + 1 ∧ ¬ occ j = 0) ↔ (j < i ∧ ¬ occ j = 0)) := fun j hj => ⟨fun z => ⟨by omega, z.2⟩, fun z => ⟨by omega, z.2⟩⟩
    have hoth2 : ∀ j, j ≠ i → cv_ru sX st occ mp cp ru sta dro can mis cap c c2 (i + 1) j = cv_ru sX st occ mp cp ru sta dro can mis cap c c2 i j ∧ cv_sta sX st occ mp cp ru sta dro can mis cap c c2 (i + 1) j = cv_sta sX st occ mp cp ru sta dro can mis cap c c2 i j ∧ cv_dro sX st occ mp cp ru sta dro can mis cap c c2 (i + 1) j = cv_dro sX st occ mp cp ru sta dro can mis cap c c2 i j ∧ cv_can sX st occ mp cp ru sta dro can mis cap c c2 (i + 1) j = cv_can sX st occ mp cp ru sta dro can mis cap c c2 i j ∧ cv_mis sX st occ mp cp ru sta dro can mis cap c c2 (i + 1) j = cv_mis sX st occ mp cp ru sta dro can mis cap c c2 i j := by
      intro j hj
      unfold cv_ru cv_sta cv_dro cv_can cv_mis
      simp only [hother j hj]
      exact ⟨trivial, trivial, trivial, trivial, trivial⟩
    refine pk_le 8 i (fun z => absurd z (by omega)) (fun _ => ⟨vp_in_nI hi (by decide), ?_⟩)
    rw [ei]
    refine br_c (fun ho => nm_r (nI_1 i) ?_) (fun ho => ?_)
    · have et : cv_t sX st occ mp cp ru sta dro can mis cap c c2 (i + 1) = cv_t sX st occ mp cp ru sta dro can mis cap c c2 i := if_pos ho
      rw [← et]
      refine ih (i + 1) n _ _ _ _ _ (by omega) (by omega) (fun j hj => ?_)
      by_cases e : j = i
      · subst e
        have t := hv j hj
        unfold cv_ru cv_sta cv_dro cv_can cv_mis at t ⊢
        rw [if_neg (fun z => absurd z.1 (by omega)), if_neg (fun z => absurd z.1 (by omega)), if_neg (fun z => absurd z.1 (by omega)), if_neg (fun z => absurd z.1 (by omega)), if_neg (fun z => absurd z.1 (by omega))] at t
        rw [if_neg (fun z => z.2 ho), if_neg (fun z => z.2 ho), if_neg (fun z => z.2 ho), if_neg (fun z => z.2 ho), if_neg (fun z => z.2 ho)]
        exact t
      · obtain ⟨t1, t2, t3, t4, t5⟩ := hv j hj
        obtain ⟨u1, u2, u3, u4, u5⟩ := hoth2 j e
        exact ⟨t1.trans u1.symm, t2.trans u2.symm, t3.trans u3.symm, t4.trans u4.symm, t5.trans u5.symm⟩
    · obtain ⟨r, r1, r2⟩ := HR i hi
      have hvi := hv i hi
      unfold cv_ru cv_sta cv_dro cv_can cv_mis at hvi
      rw [if_neg (fun z => absurd z.1 (by omega)), if_neg (fun z => absurd z.1 (by omega)), if_neg (fun z => absurd z.1 (by omega)), if_neg (fun z => absurd z.1 (by omega)), if_neg (fun z => absurd z.1 (by omega))] at hvi
      obtain ⟨v1, v2, v3, v4, v5⟩ := hvi
      have htb := cv_tau_b (sX := sX) (st := st) (occ := occ) (mp := mp) (cp := cp) (ru := ru) (sta := sta) (dro := dro) (can := can) (mis := mis) (c := c) (c2 := c2) (j := i) hcap
      refine cx_mis hi (HA i hi) hc hc2 (fun mis'' m1 m2 => ?_)
      dsimp only
      refine cx_trig (sX := sX) (st := st) (occ := occ) (mp := mp) (cp := cp) (ru := ru) (sta := sta) (dro := dro) (can := can) (mis := mis) hi (HA i hi) hc hc2 hcap ?_
      refine cx_run hi rfl (by omega) (v1.trans r2) (by omega) (fun ru'' sta'' dro'' can'' hX => ?_)
      dsimp only
      have ex : cu_it (cp i) (cv_tau sX st occ mp cp ru sta dro can mis cap c c2 i) (r, sta' i, dro' i, can' i) = cv_x sX st occ mp cp ru sta dro can mis cap c c2 i := by
        unfold cv_x
        rw [r2, nI_clamp (by omega), v2, v3, v4]
      rw [ex] at hX
      obtain ⟨w1, w2, w3, w4, wo⟩ := hX
      have et : cv_t sX st occ mp cp ru sta dro can mis cap c c2 i + (sta'' i - sta' i) = cv_t sX st occ mp cp ru sta dro can mis cap c c2 (i + 1) := by
        rw [w2, v2]
        exact (if_neg ho).symm
      refine nm_r et (nm_r (nI_1 i) (ih (i + 1) n _ _ _ _ _ (by omega) (by omega) (fun j hj => ?_)))
      by_cases e : j = i
      · subst e
        unfold cv_ru cv_sta cv_dro cv_can cv_mis
        rw [if_pos ⟨by omega, ho⟩, if_pos ⟨by omega, ho⟩, if_pos ⟨by omega, ho⟩, if_pos ⟨by omega, ho⟩, if_pos ⟨by omega, ho⟩]
        refine ⟨w1, w2, w3, w4, ?_⟩
        rw [m1, v5]
      · obtain ⟨t1, t2, t3, t4, t5⟩ := hv j hj
        obtain ⟨u1, u2, u3, u4, u5⟩ := hoth2 j e
        obtain ⟨o1, o2, o3, o4⟩ := wo j e
        exact ⟨o1.trans (t1.trans u1.symm), o2.trans (t2.trans u2.symm), o3.trans (t3.trans u3.symm), o4.trans (t4.trans u4.symm), (m2 j e).trans (t5.trans u5.symm)⟩
end
end
section
/-! advance: Y's side, and the two together -/
section
variable {f_len f_clock f_cap f_staged f_pos f_val f_cy f_cm f_cd : Int32} {a_text a_sets a_domStar a_dowStar a_occ a_mis a_con a_cnt a_fs a_fe : Nat → Int32}
theorem cy_112 {sX : Nat → Int64} {st occ mp cp ru sta dro can mis : Nat → Int32} {cap c c2 : Nat} {j r : Nat} (hj : j < 8) (HY : cs_Y j a_sets a_domStar a_dowStar (fun f v => cb_bit (sX (j * 5 + f)) v) (decide (st (j * 5 + 2) = 1)) (decide (st (j * 5 + 4) = 1))) (hmp : mp j = 0 ∨ mp j = 1 ∨ mp j = 2) (hcp : cp j = 0 ∨ cp j = 1 ∨ cp j = 2) (hr : a_cnt (j * 6) = nI r) (hrb : r < 2 ^ 29) (hc : c < c2) (hc2 : c2 < 4206240) (hcap : cap ≤ 8) {x4 : Int32} {post : Int32 → SY → Prop} {J : Int32 → Int32 → Int32 → Int32 → Int32 → Int32 → Int32 → Int32 → Int32 → Int32 → Int32 → (Nat → Int32) → (Nat → Int32) → (Nat → Int32) → (Nat → Int32) → (Nat → Int32) → (Nat → Int32) → (Nat → Int32) → (Nat → Int32) → (Nat → Int32) → (Nat → Int32) → Prop} (hq : ∀ cnt' cy cm cd, cu_Y j a_cnt cnt' (cu_it (cp j) (cv_tau sX st occ mp cp ru sta dro can mis cap c c2 j) (r, a_cnt (j * 6 + 1), a_cnt (j * 6 + 3), a_cnt (j * 6 + 4))) → J (x4 + ((cu_it (cp j) (cv_tau sX st occ mp cp ru sta dro can mis cap c c2 j) (r, a_cnt (j * 6 + 1), a_cnt (j * 6 + 3), a_cnt (j * 6 + 4))).2.1 - a_cnt (j * 6 + 1))) (nI (j + 1)) f_len f_clock (nI cap) f_staged f_pos f_val cy cm cd a_text a_sets a_domStar a_dowStar a_occ mp cp cnt' a_fs a_fe) : wY_advance_112 post J (nI c) (nI c2) x4 (nI j) (nI (cv_K sX st c c2 j)) f_len f_clock (nI cap) f_staged f_pos f_val f_cy f_cm f_cd a_text a_sets a_domStar a_dowStar a_occ mp cp a_cnt a_fs a_fe := by
  have hin : vp_in (nI j) 8 := vp_in_nI hj (by decide)
  have ej : (nI j).toNatClampNeg = j := nI_clamp (by omega)
  have hKb : cv_K sX st c c2 j ≤ 4206240 := cs_n_self _ _
  have hgo : ∀ T, T ≤ 8 → cv_tau sX st occ mp cp ru sta dro can mis cap c c2 j = T → ∀ cy cm cd, ∃ n, wY_advance_206 post J (nI c) (nI c2) (nI j) (nI T) f_len f_clock (nI cap) f_staged f_pos f_val cy cm cd n x4 0 a_text a_sets a_domStar a_dowStar a_occ mp cp a_cnt a_fs a_fe := by
    intro T hT eT cy cm cd
    refine cy_run hj rfl hcp (by omega) hr (by omega) (fun cnt' hc' => ?_)
    subst eT
    exact hq cnt' cy cm cd hc'
  unfold wY_advance_112
  rw [ej]
  refine ⟨hin, br_c (fun e => pk_lt (cv_K sX st c c2 j) 1 (fun z => hgo 0 (by omega) ?_ _ _ _) (fun z => hgo 1 (by omega) ?_ _ _ _)) (fun e => ⟨hin, br_c (fun e1 => ⟨by decide, ?_⟩) (fun e1 => pk_le cap (cv_K sX st c c2 j) (fun z => hgo cap hcap ?_ _ _ _) (fun z => hgo (cv_K sX st c c2 j) (by omega) ?_ _ _ _))⟩)⟩
  · unfold cv_tau
    rw [e, if_neg (by decide), if_neg (by decide), if_pos z]
  · unfold cv_tau
    rw [e, if_neg (by decide), if_neg (by decide), if_neg (by omega)]
  · have hf : cs_M (fun f v => cb_bit (sX (j * 5 + f)) v) (decide (st (j * 5 + 2) = 1)) (decide (st (j * 5 + 4) = 1)) c2 = false → cv_tau sX st occ mp cp ru sta dro can mis cap c c2 j = 0 := by
      intro hM
      unfold cv_tau
      rw [e1, if_neg (by decide), if_pos rfl, if_pos]
      have hn : ¬ 0 < cv_K sX st (c2 - 1) c2 j := by
        intro hp
        obtain ⟨q, q1, q2⟩ := cs_n_pos _ hp
        have hP := cs_QP.mp q2
        have eq : q = c2 := by
          have := hP.1
          have := hP.2.1
          omega
        subst eq
        rw [hP.2.2] at hM
        exact Bool.noConfusion hM
      omega
    have ht : cs_M (fun f v => cb_bit (sX (j * 5 + f)) v) (decide (st (j * 5 + 2) = 1)) (decide (st (j * 5 + 4) = 1)) c2 = true → cv_tau sX st occ mp cp ru sta dro can mis cap c c2 j = 1 := by
      intro hM
      unfold cv_tau
      rw [e1, if_neg (by decide), if_pos rfl, if_neg]
      have hp : 0 < cv_K sX st (c2 - 1) c2 j := cs_n_ex (q := c2) hc2 (cs_QP.mpr ⟨by omega, by omega, hM⟩)
      omega
    refine cy_dm HY (d := c2 / 1440) (by omega) (ce_d1440 (by omega)) (fun cy cm cd => ?_)
    dsimp only
    refine cb_br (fun eD => hgo 0 (by omega) (hf ?_) _ _ _) (fun eD => cy_mm HY (by omega) rfl (cb_br (fun em => hgo 0 (by omega) (hf ?_) _ _ _) (fun em => hgo 1 (by omega) (ht ?_) _ _ _)))
    · unfold cs_M; rw [eD, Bool.false_and]
    · unfold cs_M; rw [em, Bool.and_false]
    · unfold cs_M; rw [eD, em]; rfl
  · have e2 : mp j = 2 := by
      rcases hmp with h | h | h
      · exact absurd h e
      · exact absurd h e1
      · exact h
    unfold cv_tau
    rw [if_pos e2, if_pos z]
  · have e2 : mp j = 2 := by
      rcases hmp with h | h | h
      · exact absurd h e
      · exact absurd h e1
      · exact h
    unfold cv_tau
    rw [if_pos e2, if_neg (by omega)]
theorem cy_advloop {sX : Nat → Int64} {st occ mp cp ru sta dro can mis : Nat → Int32} {cap c c2 : Nat} {com : Nat → Int32} (HA : ∀ j, j < 8 → cs_Y j a_sets a_domStar a_dowStar (fun f v => cb_bit (sX (j * 5 + f)) v) (decide (st (j * 5 + 2) = 1)) (decide (st (j * 5 + 4) = 1))) (HR : ∀ j, j < 8 → ∃ r, r < 2 ^ 29 ∧ ru j = nI r) (hmp : cr_P mp) (hcp : cr_P cp) (hc : c < c2) (hc2 : c2 < 4206240) (hcap : cap ≤ 8) {post : Int32 → SY → Prop} (hq : ∀ cnt' cy cm cd, cr_C cnt' (cv_ru sX st occ mp cp ru sta dro can mis cap c c2 8) (cv_sta sX st occ mp cp ru sta dro can mis cap c c2 8) com (cv_dro sX st occ mp cp ru sta dro can mis cap c c2 8) (cv_can sX st occ mp cp ru sta dro can mis cap c c2 8) (cv_mis sX st occ mp cp ru sta dro can mis cap c c2 8) → post (cv_t sX st occ mp cp ru sta dro can mis cap c c2 8) (f_len, f_clock, nI cap, f_staged, f_pos, f_val, cy, cm, cd, a_text, a_sets, a_domStar, a_dowStar, occ, mp, cp, cnt', a_fs, a_fe)) : ∀ (k i n : Nat) (cnt' : Nat → Int32) (cy cm cd : Int32), i + k = 8 → k < n → cr_C cnt' (cv_ru sX st occ mp cp ru sta dro can mis cap c c2 i) (cv_sta sX st occ mp cp ru sta dro can mis cap c c2 i) com (cv_dro sX st occ mp cp ru sta dro can mis cap c c2 i) (cv_can sX st occ mp cp ru sta dro can mis cap c c2 i) (cv_mis sX st occ mp cp ru sta dro can mis cap c c2 i) → wY_advance_49 post (nI c) (nI c2) n (cv_t sX st occ mp cp ru sta dro can mis cap c c2 i) (nI i) f_len f_clock (nI cap) f_staged f_pos f_val cy cm cd a_text a_sets a_domStar a_dowStar occ mp cp cnt' a_fs a_fe := by
  intro k
  induction k with
  | zero =>
    intro i n cnt' cy cm cd hk hn hC
    obtain ⟨n, rfl⟩ : ∃ n', n = n' + 1 := ⟨n - 1, by omega⟩
    have e : i = 8 := by omega
    subst e
    exact pk_le 8 8 (fun _ => hq cnt' cy cm cd hC) (fun z => absurd z (by omega))
  | succ k ih =>
    intro i n cnt' cy cm cd hk hn hC
    obtain ⟨n, rfl⟩ : ∃ n', n = n' + 1 := ⟨n - 1, by omega⟩
    have hi : i < 8 := by omega
    have ei : (nI i).toNatClampNeg = i := nI_clamp (by omega)
    have hother : ∀ j, j ≠ i → ((j < i + 1 ∧ ¬ occ j = 0) ↔ (j < i ∧ ¬ occ j = 0)) := fun j hj => ⟨fun z => ⟨by omega, z.2⟩, fun z => ⟨by omega, z.2⟩⟩
    have hoth2 : ∀ j, j ≠ i → cv_ru sX st occ mp cp ru sta dro can mis cap c c2 (i + 1) j = cv_ru sX st occ mp cp ru sta dro can mis cap c c2 i j ∧ cv_sta sX st occ mp cp ru sta dro can mis cap c c2 (i + 1) j = cv_sta sX st occ mp cp ru sta dro can mis cap c c2 i j ∧ cv_dro sX st occ mp cp ru sta dro can mis cap c c2 (i + 1) j = cv_dro sX st occ mp cp ru sta dro can mis cap c c2 i j ∧ cv_can sX st occ mp cp ru sta dro can mis cap c c2 (i + 1) j = cv_can sX st occ mp cp ru sta dro can mis cap c c2 i j ∧ cv_mis sX st occ mp cp ru sta dro can mis cap c c2 (i + 1) j = cv_mis sX st occ mp cp ru sta dro can mis cap c c2 i j := by
      intro j hj
      unfold cv_ru cv_sta cv_dro cv_can cv_mis
      simp only [hother j hj]
      exact ⟨trivial, trivial, trivial, trivial, trivial⟩
    have hvi := hC i hi
    unfold cv_ru cv_sta cv_dro cv_can cv_mis at hvi
    rw [if_neg (fun z => absurd z.1 (by omega)), if_neg (fun z => absurd z.1 (by omega)), if_neg (fun z => absurd z.1 (by omega)), if_neg (fun z => absurd z.1 (by omega)), if_neg (fun z => absurd z.1 (by omega))] at hvi
    obtain ⟨v0, v1, v2, v3, v4, v5⟩ := hvi
    refine pk_le 8 i (fun z => absurd z (by omega)) (fun _ => ⟨vp_in_nI hi (by decide), ?_⟩)
    rw [ei]
    refine br_c (fun ho => nm_r (nI_1 i) ?_) (fun ho => ?_)
    · have et : cv_t sX st occ mp cp ru sta dro can mis cap c c2 (i + 1) = cv_t sX st occ mp cp ru sta dro can mis cap c c2 i := if_pos ho
      rw [← et]
      refine ih (i + 1) n _ _ _ _ (by omega) (by omega) (fun j hj => ?_)
      by_cases e : j = i
      · subst e
        unfold cv_ru cv_sta cv_dro cv_can cv_mis
        rw [if_neg (fun z => z.2 ho), if_neg (fun z => z.2 ho), if_neg (fun z => z.2 ho), if_neg (fun z => z.2 ho), if_neg (fun z => z.2 ho)]
        exact ⟨v0, v1, v2, v3, v4, v5⟩
      · obtain ⟨t0, t1, t2, t3, t4, t5⟩ := hC j hj
        obtain ⟨u1, u2, u3, u4, u5⟩ := hoth2 j e
        exact ⟨t0.trans u1.symm, t1.trans u2.symm, t2, t3.trans u3.symm, t4.trans u4.symm, t5.trans u5.symm⟩
    · obtain ⟨r, r1, r2⟩ := HR i hi
      have hKb : cv_K sX st c c2 i ≤ 4206240 := cs_n_self _ _
      have hgo : ∀ (cnt2 : Nat → Int32) (cy cm cd : Int32), (∀ q, q ≠ i * 6 + 5 → cnt2 q = cnt' q) → cnt2 (i * 6 + 5) = (if cv_K sX st c (c2 - 1) i < 1 then mis i else mis i + 1) → wY_advance_112 post (wY_advance_49 post (nI c) (nI c2) n) (nI c) (nI c2) (cv_t sX st occ mp cp ru sta dro can mis cap c c2 i) (nI i) (nI (cv_K sX st c c2 i)) f_len f_clock (nI cap) f_staged f_pos f_val cy cm cd a_text a_sets a_domStar a_dowStar occ mp cp cnt2 a_fs a_fe := by
        intro cnt2 cy cm cd g1 g2
        have s0 : cnt2 (i * 6) = nI r := (g1 _ (by omega)).trans (v0.trans r2)
        have s1 : cnt2 (i * 6 + 1) = sta i := (g1 _ (by omega)).trans v1
        have s3 : cnt2 (i * 6 + 3) = dro i := (g1 _ (by omega)).trans v3
        have s4 : cnt2 (i * 6 + 4) = can i := (g1 _ (by omega)).trans v4
        have ex : cu_it (cp i) (cv_tau sX st occ mp cp ru sta dro can mis cap c c2 i) (r, cnt2 (i * 6 + 1), cnt2 (i * 6 + 3), cnt2 (i * 6 + 4)) = cv_x sX st occ mp cp ru sta dro can mis cap c c2 i := by
          unfold cv_x
          rw [r2, nI_clamp (by omega), s1, s3, s4]
        refine cy_112 (sX := sX) (st := st) (occ := occ) (mp := mp) (cp := cp) (ru := ru) (sta := sta) (dro := dro) (can := can) (mis := mis) hi (HA i hi) (hmp i hi) (hcp i hi) s0 r1 hc hc2 hcap (fun cnt3 cy cm cd hY => ?_)
        rw [ex] at hY ⊢
        obtain ⟨w0, w1, w3, w4, wo⟩ := hY
        have et : cv_t sX st occ mp cp ru sta dro can mis cap c c2 i + ((cv_x sX st occ mp cp ru sta dro can mis cap c c2 i).2.1 - cnt2 (i * 6 + 1)) = cv_t sX st occ mp cp ru sta dro can mis cap c c2 (i + 1) := by
          rw [s1]
          exact (if_neg ho).symm
        rw [et]
        refine ih (i + 1) n _ _ _ _ (by omega) (by omega) (fun j hj => ?_)
        by_cases e : j = i
        · subst e
          unfold cv_ru cv_sta cv_dro cv_can cv_mis
          rw [if_pos ⟨by omega, ho⟩, if_pos ⟨by omega, ho⟩, if_pos ⟨by omega, ho⟩, if_pos ⟨by omega, ho⟩, if_pos ⟨by omega, ho⟩]
          refine ⟨w0, w1, ?_, w3, w4, ?_⟩
          · rw [wo _ (by omega) (by omega) (by omega) (by omega), g1 _ (by omega), v2]
          · rw [wo _ (by omega) (by omega) (by omega) (by omega), g2]
        · obtain ⟨t0, t1, t2, t3, t4, t5⟩ := hC j hj
          obtain ⟨u1, u2, u3, u4, u5⟩ := hoth2 j e
          have ko : ∀ d, d < 6 → cnt3 (j * 6 + d) = cnt' (j * 6 + d) := by
            intro d hd
            rw [wo _ (by omega) (by omega) (by omega) (by omega), g1 _ (by omega)]
          exact ⟨(ko 0 (by omega)).trans (t0.trans u1.symm), (ko 1 (by omega)).trans (t1.trans u2.symm), (ko 2 (by omega)).trans t2, (ko 3 (by omega)).trans (t3.trans u3.symm), (ko 4 (by omega)).trans (t4.trans u4.symm), (ko 5 (by omega)).trans (t5.trans u5.symm)⟩
      refine cy_count (HA i hi) hc hc2 (fun cy cm cd => ?_)
      refine pk_lt (cv_K sX st c c2 i) 1 (fun z => hgo cnt' _ _ _ (fun _ _ => rfl) ?_) (fun z => cy_next (HA i hi) (by omega) (fun r' cy cm cd hr' => ?_))
      · have hn : ¬ 0 < cv_K sX st c (c2 - 1) i := by
          intro hp
          obtain ⟨q, q1, q2⟩ := cs_n_pos _ hp
          have hP := cs_QP.mp q2
          have hp2 : 0 < cv_K sX st c c2 i := cs_n_ex q1 (cs_QP.mpr ⟨hP.1, by have := hP.2.1; omega, hP.2.2⟩)
          omega
        rw [if_pos (by omega)]
        exact v5
      · obtain ⟨q, q1, q2⟩ := cs_n_pos _ (show 0 < cv_K sX st c c2 i by omega)
        have hPq := cs_QP.mp q2
        rcases hr' with ⟨m, rfl, m1, m2, m3, m4⟩ | ⟨rfl, hno⟩
        · refine pk_le c2 m (fun z2 => hgo cnt' _ _ _ (fun _ _ => rfl) ?_) (fun z2 => ?_)
          · have hn : ¬ 0 < cv_K sX st c (c2 - 1) i := by
              intro hp
              obtain ⟨q', p1, p2⟩ := cs_n_pos _ hp
              have hP := cs_QP.mp p2
              have := hP.2.1
              exact m4 q' (by omega) (by omega) ⟨hP.1, by omega, hP.2.2⟩
            rw [if_pos (by omega)]
            exact v5
          · have e5 : nI i * 6 + 5 = nI (i * 6 + 5) := ce_m6 i 5
            rw [e5, nI_clamp (show i * 6 + 5 < 2 ^ 31 by omega)]
            refine ⟨vp_in_nI (by omega) (by decide), vp_in_nI (by omega) (by decide), nm_e (hgo _ _ _ _ (fun q hq => pk_un hq) ?_)⟩
            have hp : 0 < cv_K sX st c (c2 - 1) i := cs_n_ex m2 (cs_QP.mpr ⟨m3.1, by omega, m3.2.2⟩)
            rw [if_neg (by omega), pk_us, v5]
        · exact absurd ⟨hPq.1, by omega, hPq.2.2⟩ (hno q (by omega) q1)
end
theorem cv_base {sX : Nat → Int64} {st occ mp cp ru sta dro can mis : Nat → Int32} {cap c c2 : Nat} (j : Nat) : cv_ru sX st occ mp cp ru sta dro can mis cap c c2 0 j = ru j ∧ cv_sta sX st occ mp cp ru sta dro can mis cap c c2 0 j = sta j ∧ cv_dro sX st occ mp cp ru sta dro can mis cap c c2 0 j = dro j ∧ cv_can sX st occ mp cp ru sta dro can mis cap c c2 0 j = can j ∧ cv_mis sX st occ mp cp ru sta dro can mis cap c c2 0 j = mis j :=
  ⟨if_neg (fun z => absurd z.1 (Nat.not_lt_zero _)), if_neg (fun z => absurd z.1 (Nat.not_lt_zero _)), if_neg (fun z => absurd z.1 (Nat.not_lt_zero _)), if_neg (fun z => absurd z.1 (Nat.not_lt_zero _)), if_neg (fun z => absurd z.1 (Nat.not_lt_zero _))⟩
theorem cr_Cc {cnt ru sta com dro can mis ru' sta' dro' can' mis' : Nat → Int32} (H : cr_C cnt ru sta com dro can mis) (h : ∀ j, j < 8 → ru' j = ru j ∧ sta' j = sta j ∧ dro' j = dro j ∧ can' j = can j ∧ mis' j = mis j) : cr_C cnt ru' sta' com dro' can' mis' := by
  intro j hj
  obtain ⟨t0, t1, t2, t3, t4, t5⟩ := H j hj
  obtain ⟨u1, u2, u3, u4, u5⟩ := h j hj
  exact ⟨t0.trans u1.symm, t1.trans u2.symm, t2, t3.trans u3.symm, t4.trans u4.symm, t5.trans u5.symm⟩
theorem i_vc_advance {k : Nat} {u : SX} {v : SY} (I : i_Rel k u v) (hk : k + 5 ≤ 2561) (v1 : Int32) : wpX_advance (fun r u' => wpY_advance (fun r' v' => r' = r ∧ i_Rel (k + 5) u' v') v v1) u v1 := by
  have I5 := i_up I
  obtain ⟨cap, clock, len, b, text, sX, st, occ, mp, cp, ru, sta, com, dro, can, mis, sY, dom, dow, cnt, fs, fe, pos, val, cy, cm, cd, rfl, rfl, F⟩ := I
  have F5 := cr_Fm (show k ≤ k + 5 by omega) F
  obtain ⟨⟨hc1, hc8, hcl, hlen⟩, hb, hT, hA, hmp, hcp, hR, hC⟩ := F
  by_cases h1 : v1 < 1
  · exact br_t h1 (br_t h1 ⟨rfl, I5⟩)
  obtain ⟨m, hm, rfl⟩ := nI_of (x := v1) (Int32.not_lt.mpr (Int32.le_trans (by decide) (Int32.not_lt.mp h1)))
  have m1 : 1 ≤ m := by
    by_cases e : 1 ≤ m
    · exact e
    · exact absurd (nI_lt (b := 1) (by omega) (by decide)) h1
  by_cases hM : clock = 4206239
  · subst hM
    exact br_f h1 (br_f (by decide) (br_f h1 (br_t rfl ⟨rfl, I5⟩)))
  have hlt : nI clock < 4206239 := nI_lt (b := 4206239) (by omega) (by decide)
  have hne : ¬ nI clock = 4206239 := fun e => hM ((nI_eq (b := 4206239) (by omega) (by decide)).mp e)
  have es : 4206239 - nI clock = nI (4206239 - clock) := pk_sub (a := 4206239) (by omega)
  have HR : ∀ j, j < 8 → ∃ r, r < 2 ^ 29 ∧ ru j = nI r := by
    intro j hj
    obtain ⟨r, r1, r2⟩ := hR j hj
    exact ⟨r, by omega, r2⟩
  have main : ∀ c2, clock < c2 → c2 < 4206240 → (∀ post : Int32 → SY → Prop, (∃ n, wY_advance_49 post (nI clock) (nI c2) n 0 0 (nI len) (nI c2) (nI cap) b pos val cy cm cd text sY dom dow occ mp cp cnt fs fe) → wpY_advance post (nI len, nI clock, nI cap, b, pos, val, cy, cm, cd, text, sY, dom, dow, occ, mp, cp, cnt, fs, fe) (nI m)) → ∃ n, wX_advance_46 (fun r u' => wpY_advance (fun r' v' => r' = r ∧ i_Rel (k + 5) u' v') (nI len, nI clock, nI cap, b, pos, val, cy, cm, cd, text, sY, dom, dow, occ, mp, cp, cnt, fs, fe) (nI m)) (nI clock) n 0 0 (nI cap) (nI c2) (nI len) b text sX st occ mp cp ru sta com dro can mis := by
    intro c2 hc hc2 hY
    refine ⟨9, cx_advloop (c := clock) (c2 := c2) (ru := ru) (sta := sta) (dro := dro) (can := can) (mis := mis) (fun j hj => (cr_XY (s := j) (by omega) (hA j (Or.inl hj))).1) HR hc hc2 hc8 (fun ru' sta' dro' can' mis' hv => ?_) 8 0 9 ru sta dro can mis (by omega) (by omega) (fun j hj => ⟨(cv_base j).1.symm, (cv_base j).2.1.symm, (cv_base j).2.2.1.symm, (cv_base j).2.2.2.1.symm, (cv_base j).2.2.2.2.symm⟩)⟩
    refine hY _ ⟨9, cy_advloop (c := clock) (c2 := c2) (sX := sX) (st := st) (ru := ru) (sta := sta) (dro := dro) (can := can) (mis := mis) (com := com) (fun j hj => (cr_XY (s := j) (by omega) (hA j (Or.inl hj))).2) HR hmp hcp hc hc2 hc8 (fun cnt' cy cm cd hC' => ⟨rfl, ?_⟩) 8 0 9 cnt cy cm cd (by omega) (by omega) (cr_Cc hC (fun j _ => cv_base j))⟩
    refine cr_mk (clock := c2) ⟨⟨hc1, hc8, by omega, hlen⟩, hb, hT, hA, hmp, hcp, fun j hj => ?_, cr_Cc hC' hv⟩
    rw [(hv j hj).1]
    obtain ⟨r, r1, r2⟩ := hR j hj
    unfold cv_ru
    split
    · refine ⟨_, ?_, rfl⟩
      unfold cv_x
      have t1 := cu_it_b (cp j) (cv_tau sX st occ mp cp ru sta dro can mis cap clock c2 j) ((ru j).toNatClampNeg, sta j, dro j, can j)
      have t2 := cv_tau_b (sX := sX) (st := st) (occ := occ) (mp := mp) (cp := cp) (ru := ru) (sta := sta) (dro := dro) (can := can) (mis := mis) (c := clock) (c2 := c2) (j := j) hc8
      have t3 : (ru j).toNatClampNeg = r := by rw [r2, nI_clamp (by omega)]
      have t4 : ((ru j).toNatClampNeg, sta j, dro j, can j).1 = r := t3
      omega
    · exact ⟨r, by omega, r2⟩
  by_cases hle : m ≤ 4206239 - clock
  · have hle' : nI m ≤ 4206239 - nI clock := by rw [es]; exact nI_le hle (by omega)
    refine br_f h1 (br_t hlt (br_t hle' (nm_r (nI_add clock m) (main (clock + m) (by omega) (by omega) (fun post hp => br_f h1 (br_f hne (br_t hle' ?_)))))))
    rw [nI_add]
    exact hp
  · have hle' : ¬ nI m ≤ 4206239 - nI clock := by rw [es]; exact nI_ge (by omega) hm
    exact br_f h1 (br_t hlt (br_f hle' (main 4206239 (by omega) (by omega) (fun post hp => br_f h1 (br_f hne (br_f hle' hp))))))
end
section
/-! the text: pure pictures of the two parsers, names -/
def cp_en (o : Option Nat) : Int32 := match o with
  | none => -1
  | some v => nI v
def cp_mon (a b c : Nat) : Option Nat := if a = 74 ∧ b = 65 ∧ c = 78 then some 1 else if a = 70 ∧ b = 69 ∧ c = 66 then some 2 else if a = 77 ∧ b = 65 ∧ c = 82 then some 3 else if a = 65 ∧ b = 80 ∧ c = 82 then some 4 else if a = 77 ∧ b = 65 ∧ c = 89 then some 5 else if a = 74 ∧ b = 85 ∧ c = 78 then some 6 else if a = 74 ∧ b = 85 ∧ c = 76 then some 7 else if a = 65 ∧ b = 85 ∧ c = 71 then some 8 else if a = 83 ∧ b = 69 ∧ c = 80 then some 9 else if a = 79 ∧ b = 67 ∧ c = 84 then some 10 else if a = 78 ∧ b = 79 ∧ c = 86 then some 11 else if a = 68 ∧ b = 69 ∧ c = 67 then some 12 else none
def cp_dow (a b c : Nat) : Option Nat := if a = 83 ∧ b = 85 ∧ c = 78 then some 0 else if a = 77 ∧ b = 79 ∧ c = 78 then some 1 else if a = 84 ∧ b = 85 ∧ c = 69 then some 2 else if a = 87 ∧ b = 69 ∧ c = 68 then some 3 else if a = 84 ∧ b = 72 ∧ c = 85 then some 4 else if a = 70 ∧ b = 82 ∧ c = 73 then some 5 else if a = 83 ∧ b = 65 ∧ c = 84 then some 6 else none
def cp_cap (c : Nat) : Nat := if 97 ≤ c ∧ c ≤ 122 then c - 32 else c
def cp_up (c : Nat) : Nat := if 97 ≤ c ∧ c ≤ 122 then c - 32 else if 65 ≤ c ∧ c ≤ 90 then c else 0
def cp_nm (f c1 c2 c3 : Nat) : Option Nat := if f = 3 then cp_mon (cp_cap c1) (cp_cap c2) (cp_cap c3) else if f = 4 then cp_dow (cp_cap c1) (cp_cap c2) (cp_cap c3) else none
theorem cp_mon_b {a b c v : Nat} (h : cp_mon a b c = some v) : (65 ≤ a ∧ a ≤ 90) ∧ (65 ≤ b ∧ b ≤ 90) ∧ (65 ≤ c ∧ c ≤ 90) ∧ 1 ≤ v ∧ v ≤ 12 := by
  unfold cp_mon at h
  by_cases e : a = 74 ∧ b = 65 ∧ c = 78
  · rw [if_pos e] at h
    have z := Option.some.inj h
    omega
  rw [if_neg e] at h
  clear e
  by_cases e : a = 70 ∧ b = 69 ∧ c = 66
  · rw [if_pos e] at h
    have z := Option.some.inj h
    omega
  rw [if_neg e] at h
  clear e
  by_cases e : a = 77 ∧ b = 65 ∧ c = 82
  · rw [if_pos e] at h
    have z := Option.some.inj h
    omega
  rw [if_neg e] at h
  clear e
  by_cases e : a = 65 ∧ b = 80 ∧ c = 82
  · rw [if_pos e] at h
    have z := Option.some.inj h
    omega
  rw [if_neg e] at h
  clear e
  by_cases e : a = 77 ∧ b = 65 ∧ c = 89
  · rw [if_pos e] at h
    have z := Option.some.inj h
    omega
  rw [if_neg e] at h
  clear e
  by_cases e : a = 74 ∧ b = 85 ∧ c = 78
  · rw [if_pos e] at h
    have z := Option.some.inj h
    omega
  rw [if_neg e] at h
  clear e
  by_cases e : a = 74 ∧ b = 85 ∧ c = 76
  · rw [if_pos e] at h
    have z := Option.some.inj h
    omega
  rw [if_neg e] at h
  clear e
  by_cases e : a = 65 ∧ b = 85 ∧ c = 71
  · rw [if_pos e] at h
    have z := Option.some.inj h
    omega
  rw [if_neg e] at h
  clear e
  by_cases e : a = 83 ∧ b = 69 ∧ c = 80
  · rw [if_pos e] at h
    have z := Option.some.inj h
    omega
  rw [if_neg e] at h
  clear e
  by_cases e : a = 79 ∧ b = 67 ∧ c = 84
  · rw [if_pos e] at h
    have z := Option.some.inj h
    omega
  rw [if_neg e] at h
  clear e
  by_cases e : a = 78 ∧ b = 79 ∧ c = 86
  · rw [if_pos e] at h
    have z := Option.some.inj h
    omega
  rw [if_neg e] at h
  clear e
  by_cases e : a = 68 ∧ b = 69 ∧ c = 67
  · rw [if_pos e] at h
    have z := Option.some.inj h
    omega
  rw [if_neg e] at h
  clear e
  exact absurd h (fun z => nomatch z)
theorem cp_dow_b {a b c v : Nat} (h : cp_dow a b c = some v) : (65 ≤ a ∧ a ≤ 90) ∧ (65 ≤ b ∧ b ≤ 90) ∧ (65 ≤ c ∧ c ≤ 90) ∧ v ≤ 6 := by
  unfold cp_dow at h
  repeat' split at h
  all_goals first
    | (cases h; done)
    | (cases h; omega)
theorem cp_cap_l {c : Nat} (h1 : 65 ≤ cp_cap c) (h2 : cp_cap c ≤ 90) : (65 ≤ c ∧ c ≤ 90) ∨ (97 ≤ c ∧ c ≤ 122) := by
  unfold cp_cap at h1 h2
  split at h1 <;> split at h2 <;> omega
theorem cp_nm_b {f c1 c2 c3 v : Nat} (h : cp_nm f c1 c2 c3 = some v) : ((65 ≤ c1 ∧ c1 ≤ 90) ∨ (97 ≤ c1 ∧ c1 ≤ 122)) ∧ ((65 ≤ c2 ∧ c2 ≤ 90) ∨ (97 ≤ c2 ∧ c2 ≤ 122)) ∧ ((65 ≤ c3 ∧ c3 ≤ 90) ∨ (97 ≤ c3 ∧ c3 ≤ 122)) ∧ cf_lo f ≤ v ∧ v ≤ cf_hi f := by
  unfold cp_nm at h
  by_cases h3 : f = 3
  · subst h3
    rw [if_pos rfl] at h
    obtain ⟨⟨a1, a2⟩, ⟨b1, b2⟩, ⟨c1, c2⟩, v1, v2⟩ := cp_mon_b h
    exact ⟨cp_cap_l a1 a2, cp_cap_l b1 b2, cp_cap_l c1 c2, v1, v2⟩
  · rw [if_neg h3] at h
    by_cases h4 : f = 4
    · subst h4
      rw [if_pos rfl] at h
      obtain ⟨⟨a1, a2⟩, ⟨b1, b2⟩, ⟨c1, c2⟩, v2⟩ := cp_dow_b h
      exact ⟨cp_cap_l a1 a2, cp_cap_l b1 b2, cp_cap_l c1 c2, Nat.zero_le _, Nat.le_succ_of_le v2⟩
    · rw [if_neg h4] at h
      exact absurd h (by simp)
theorem cp_up0 {c : Nat} (h : cp_up c ≠ 0) : cp_up c = cp_cap c ∧ 65 ≤ cp_up c ∧ cp_up c ≤ 90 := by
  unfold cp_up at h ⊢
  unfold cp_cap
  split
  · rename_i z
    refine ⟨rfl, by omega, by omega⟩
  · rename_i z
    rw [if_neg z] at h
    split
    · rename_i z2
      exact ⟨rfl, by omega, by omega⟩
    · rename_i z2
      rw [if_neg z2] at h
      exact absurd rfl h
theorem cp_up_l {c : Nat} (h : (65 ≤ c ∧ c ≤ 90) ∨ (97 ≤ c ∧ c ≤ 122)) : cp_up c ≠ 0 := by
  unfold cp_up
  split
  · omega
  · rw [if_pos (by omega)]
    omega
theorem cp_upn {f c1 c2 c3 : Nat} (h : cp_up c1 = 0 ∨ cp_up c2 = 0 ∨ cp_up c3 = 0) : cp_nm f c1 c2 c3 = none := by
  cases e : cp_nm f c1 c2 c3 with
  | none => rfl
  | some v =>
    obtain ⟨a, b, c, _, _⟩ := cp_nm_b e
    rcases h with h | h | h
    · exact absurd h (cp_up_l a)
    · exact absurd h (cp_up_l b)
    · exact absurd h (cp_up_l c)
theorem cx_mon {a b c : Nat} (ha : a < 256) (hb : b < 256) (hc : c < 256) {post : Int32 → Prop} (hp : post (cp_en (cp_mon a b c))) : wpX_monthNamed post (nI (a * 65536 + b * 256 + c)) := by
  refine pk_eq (a * 65536 + b * 256 + c) 4280402 (fun e => ?_) (fun e3 => pk_eq (a * 65536 + b * 256 + c) 4281671 (fun e => ?_) (fun e7 => pk_eq (a * 65536 + b * 256 + c) 4474179 (fun e => ?_) (fun e11 => pk_eq (a * 65536 + b * 256 + c) 4605250 (fun e => ?_) (fun e1 => pk_eq (a * 65536 + b * 256 + c) 4866382 (fun e => ?_) (fun e0 => pk_eq (a * 65536 + b * 256 + c) 4871500 (fun e => ?_) (fun e6 => pk_eq (a * 65536 + b * 256 + c) 4871502 (fun e => ?_) (fun e5 => pk_eq (a * 65536 + b * 256 + c) 5062994 (fun e => ?_) (fun e2 => pk_eq (a * 65536 + b * 256 + c) 5063001 (fun e => ?_) (fun e4 => pk_eq (a * 65536 + b * 256 + c) 5132118 (fun e => ?_) (fun e10 => pk_eq (a * 65536 + b * 256 + c) 5194580 (fun e => ?_) (fun e9 => pk_eq (a * 65536 + b * 256 + c) 5457232 (fun e => ?_) (fun e8 => ?_))))))))))))
  · obtain ⟨rfl, rfl, rfl⟩ : a = 65 ∧ b = 80 ∧ c = 82 := by omega
    exact hp
  · obtain ⟨rfl, rfl, rfl⟩ : a = 65 ∧ b = 85 ∧ c = 71 := by omega
    exact hp
  · obtain ⟨rfl, rfl, rfl⟩ : a = 68 ∧ b = 69 ∧ c = 67 := by omega
    exact hp
  · obtain ⟨rfl, rfl, rfl⟩ : a = 70 ∧ b = 69 ∧ c = 66 := by omega
    exact hp
  · obtain ⟨rfl, rfl, rfl⟩ : a = 74 ∧ b = 65 ∧ c = 78 := by omega
    exact hp
  · obtain ⟨rfl, rfl, rfl⟩ : a = 74 ∧ b = 85 ∧ c = 76 := by omega
    exact hp
  · obtain ⟨rfl, rfl, rfl⟩ : a = 74 ∧ b = 85 ∧ c = 78 := by omega
    exact hp
  · obtain ⟨rfl, rfl, rfl⟩ : a = 77 ∧ b = 65 ∧ c = 82 := by omega
    exact hp
  · obtain ⟨rfl, rfl, rfl⟩ : a = 77 ∧ b = 65 ∧ c = 89 := by omega
    exact hp
  · obtain ⟨rfl, rfl, rfl⟩ : a = 78 ∧ b = 79 ∧ c = 86 := by omega
    exact hp
  · obtain ⟨rfl, rfl, rfl⟩ : a = 79 ∧ b = 67 ∧ c = 84 := by omega
    exact hp
  · obtain ⟨rfl, rfl, rfl⟩ : a = 83 ∧ b = 69 ∧ c = 80 := by omega
    exact hp
  · have t : cp_mon a b c = none := by
      unfold cp_mon
      rw [if_neg (by omega), if_neg (by omega), if_neg (by omega), if_neg (by omega), if_neg (by omega), if_neg (by omega), if_neg (by omega), if_neg (by omega), if_neg (by omega), if_neg (by omega), if_neg (by omega), if_neg (by omega)]
    rw [t] at hp; exact hp
theorem cx_dow {a b c : Nat} (ha : a < 256) (hb : b < 256) (hc : c < 256) {post : Int32 → Prop} (hp : post (cp_en (cp_dow a b c))) : wpX_weekdayNamed post (nI (a * 65536 + b * 256 + c)) := by
  refine pk_eq (a * 65536 + b * 256 + c) 4608585 (fun e => ?_) (fun e5 => pk_eq (a * 65536 + b * 256 + c) 5066574 (fun e => ?_) (fun e1 => pk_eq (a * 65536 + b * 256 + c) 5456212 (fun e => ?_) (fun e6 => pk_eq (a * 65536 + b * 256 + c) 5461326 (fun e => ?_) (fun e0 => pk_eq (a * 65536 + b * 256 + c) 5523541 (fun e => ?_) (fun e4 => pk_eq (a * 65536 + b * 256 + c) 5526853 (fun e => ?_) (fun e2 => pk_eq (a * 65536 + b * 256 + c) 5719364 (fun e => ?_) (fun e3 => ?_)))))))
  · obtain ⟨rfl, rfl, rfl⟩ : a = 70 ∧ b = 82 ∧ c = 73 := by omega
    exact hp
  · obtain ⟨rfl, rfl, rfl⟩ : a = 77 ∧ b = 79 ∧ c = 78 := by omega
    exact hp
  · obtain ⟨rfl, rfl, rfl⟩ : a = 83 ∧ b = 65 ∧ c = 84 := by omega
    exact hp
  · obtain ⟨rfl, rfl, rfl⟩ : a = 83 ∧ b = 85 ∧ c = 78 := by omega
    exact hp
  · obtain ⟨rfl, rfl, rfl⟩ : a = 84 ∧ b = 72 ∧ c = 85 := by omega
    exact hp
  · obtain ⟨rfl, rfl, rfl⟩ : a = 84 ∧ b = 85 ∧ c = 69 := by omega
    exact hp
  · obtain ⟨rfl, rfl, rfl⟩ : a = 87 ∧ b = 69 ∧ c = 68 := by omega
    exact hp
  · have t : cp_dow a b c = none := by
      unfold cp_dow
      rw [if_neg (by omega), if_neg (by omega), if_neg (by omega), if_neg (by omega), if_neg (by omega), if_neg (by omega), if_neg (by omega)]
    rw [t] at hp; exact hp
theorem cy_204 {a b c : Nat} (ha : 65 ≤ a ∧ a ≤ 90) (hb : 65 ≤ b ∧ b ≤ 90) (hc : 65 ≤ c ∧ c ≤ 90) {f_len f_clock f_cap f_staged f_pos f_val f_cy f_cm f_cd : Int32} {a_text a_sets a_domStar a_dowStar a_occ a_mis a_con a_cnt a_fs a_fe : Nat → Int32} {post : Int32 → Prop} (hp : post (cp_en (cp_dow a b c))) : wY_name_204 post 4 (nI (a * 10000 + b * 100 + c)) f_len f_clock f_cap f_staged f_pos f_val f_cy f_cm f_cd a_text a_sets a_domStar a_dowStar a_occ a_mis a_con a_cnt a_fs a_fe := by
  refine br_t rfl (pk_eq (a * 10000 + b * 100 + c) 838578 (fun e => ?_) (fun e0 => pk_eq (a * 10000 + b * 100 + c) 777978 (fun e => ?_) (fun e1 => pk_eq (a * 10000 + b * 100 + c) 848569 (fun e => ?_) (fun e2 => pk_eq (a * 10000 + b * 100 + c) 876968 (fun e => ?_) (fun e3 => pk_eq (a * 10000 + b * 100 + c) 847285 (fun e => ?_) (fun e4 => pk_eq (a * 10000 + b * 100 + c) 708273 (fun e => ?_) (fun e5 => pk_eq (a * 10000 + b * 100 + c) 836584 (fun e => ?_) (fun e6 => ?_))))))))
  · obtain ⟨rfl, rfl, rfl⟩ : a = 83 ∧ b = 85 ∧ c = 78 := by omega
    exact hp
  · obtain ⟨rfl, rfl, rfl⟩ : a = 77 ∧ b = 79 ∧ c = 78 := by omega
    exact hp
  · obtain ⟨rfl, rfl, rfl⟩ : a = 84 ∧ b = 85 ∧ c = 69 := by omega
    exact hp
  · obtain ⟨rfl, rfl, rfl⟩ : a = 87 ∧ b = 69 ∧ c = 68 := by omega
    exact hp
  · obtain ⟨rfl, rfl, rfl⟩ : a = 84 ∧ b = 72 ∧ c = 85 := by omega
    exact hp
  · obtain ⟨rfl, rfl, rfl⟩ : a = 70 ∧ b = 82 ∧ c = 73 := by omega
    exact hp
  · obtain ⟨rfl, rfl, rfl⟩ : a = 83 ∧ b = 65 ∧ c = 84 := by omega
    exact hp
  · have t : cp_dow a b c = none := by
      unfold cp_dow
      rw [if_neg (by omega), if_neg (by omega), if_neg (by omega), if_neg (by omega), if_neg (by omega), if_neg (by omega), if_neg (by omega)]
    rw [t] at hp
    exact hp
theorem cy_204n {x : Int32} {f : Nat} (hf : f < 5) (h4 : f ≠ 4) {f_len f_clock f_cap f_staged f_pos f_val f_cy f_cm f_cd : Int32} {a_text a_sets a_domStar a_dowStar a_occ a_mis a_con a_cnt a_fs a_fe : Nat → Int32} {post : Int32 → Prop} (hp : post (-1)) : wY_name_204 post (nI f) x f_len f_clock f_cap f_staged f_pos f_val f_cy f_cm f_cd a_text a_sets a_domStar a_dowStar a_occ a_mis a_con a_cnt a_fs a_fe :=
  pk_eq f 4 (fun e => absurd e h4) (fun _ => hp)
theorem cy_mon {a b c : Nat} (ha : 65 ≤ a ∧ a ≤ 90) (hb : 65 ≤ b ∧ b ≤ 90) (hc : 65 ≤ c ∧ c ≤ 90) {f_len f_clock f_cap f_staged f_pos f_val f_cy f_cm f_cd : Int32} {a_text a_sets a_domStar a_dowStar a_occ a_mis a_con a_cnt a_fs a_fe : Nat → Int32} {post : Int32 → Prop} (hp : post (cp_en (cp_mon a b c))) : wpY_name post (f_len, f_clock, f_cap, f_staged, f_pos, f_val, f_cy, f_cm, f_cd, a_text, a_sets, a_domStar, a_dowStar, a_occ, a_mis, a_con, a_cnt, a_fs, a_fe) 3 (nI (a * 10000 + b * 100 + c)) := by
  refine br_t rfl (pk_eq (a * 10000 + b * 100 + c) 746578 (fun e => ?_) (fun e0 => pk_eq (a * 10000 + b * 100 + c) 706966 (fun e => ?_) (fun e1 => pk_eq (a * 10000 + b * 100 + c) 776582 (fun e => ?_) (fun e2 => pk_eq (a * 10000 + b * 100 + c) 658082 (fun e => ?_) (fun e3 => pk_eq (a * 10000 + b * 100 + c) 776589 (fun e => ?_) (fun e4 => pk_eq (a * 10000 + b * 100 + c) 748578 (fun e => ?_) (fun e5 => pk_eq (a * 10000 + b * 100 + c) 748576 (fun e => ?_) (fun e6 => pk_eq (a * 10000 + b * 100 + c) 658571 (fun e => ?_) (fun e7 => pk_eq (a * 10000 + b * 100 + c) 836980 (fun e => ?_) (fun e8 => pk_eq (a * 10000 + b * 100 + c) 796784 (fun e => ?_) (fun e9 => pk_eq (a * 10000 + b * 100 + c) 787986 (fun e => ?_) (fun e10 => pk_eq (a * 10000 + b * 100 + c) 686967 (fun e => ?_) (fun e11 => ?_)))))))))))))
  · obtain ⟨rfl, rfl, rfl⟩ : a = 74 ∧ b = 65 ∧ c = 78 := by omega
    exact hp
  · obtain ⟨rfl, rfl, rfl⟩ : a = 70 ∧ b = 69 ∧ c = 66 := by omega
    exact hp
  · obtain ⟨rfl, rfl, rfl⟩ : a = 77 ∧ b = 65 ∧ c = 82 := by omega
    exact hp
  · obtain ⟨rfl, rfl, rfl⟩ : a = 65 ∧ b = 80 ∧ c = 82 := by omega
    exact hp
  · obtain ⟨rfl, rfl, rfl⟩ : a = 77 ∧ b = 65 ∧ c = 89 := by omega
    exact hp
  · obtain ⟨rfl, rfl, rfl⟩ : a = 74 ∧ b = 85 ∧ c = 78 := by omega
    exact hp
  · obtain ⟨rfl, rfl, rfl⟩ : a = 74 ∧ b = 85 ∧ c = 76 := by omega
    exact hp
  · obtain ⟨rfl, rfl, rfl⟩ : a = 65 ∧ b = 85 ∧ c = 71 := by omega
    exact hp
  · obtain ⟨rfl, rfl, rfl⟩ : a = 83 ∧ b = 69 ∧ c = 80 := by omega
    exact hp
  · obtain ⟨rfl, rfl, rfl⟩ : a = 79 ∧ b = 67 ∧ c = 84 := by omega
    exact hp
  · obtain ⟨rfl, rfl, rfl⟩ : a = 78 ∧ b = 79 ∧ c = 86 := by omega
    exact hp
  · obtain ⟨rfl, rfl, rfl⟩ : a = 68 ∧ b = 69 ∧ c = 67 := by omega
    exact hp
  · have t : cp_mon a b c = none := by
      unfold cp_mon
      rw [if_neg (by omega), if_neg (by omega), if_neg (by omega), if_neg (by omega), if_neg (by omega), if_neg (by omega), if_neg (by omega), if_neg (by omega), if_neg (by omega), if_neg (by omega), if_neg (by omega), if_neg (by omega)]
    rw [t] at hp
    exact cy_204n (f := 3) (by decide) (by decide) hp
theorem cy_name {f a b c : Nat} (hf : f < 5) (ha : 65 ≤ a ∧ a ≤ 90) (hb : 65 ≤ b ∧ b ≤ 90) (hc : 65 ≤ c ∧ c ≤ 90) {f_len f_clock f_cap f_staged f_pos f_val f_cy f_cm f_cd : Int32} {a_text a_sets a_domStar a_dowStar a_occ a_mis a_con a_cnt a_fs a_fe : Nat → Int32} {post : Int32 → Prop} (hp : post (cp_en (if f = 3 then cp_mon a b c else if f = 4 then cp_dow a b c else none))) : wpY_name post (f_len, f_clock, f_cap, f_staged, f_pos, f_val, f_cy, f_cm, f_cd, a_text, a_sets, a_domStar, a_dowStar, a_occ, a_mis, a_con, a_cnt, a_fs, a_fe) (nI f) (nI (a * 10000 + b * 100 + c)) := by
  by_cases h3 : f = 3
  · subst h3
    rw [if_pos rfl] at hp
    exact cy_mon ha hb hc hp
  · rw [if_neg h3] at hp
    refine pk_eq f 3 (fun e => absurd e h3) (fun _ => ?_)
    by_cases h4 : f = 4
    · subst h4
      rw [if_pos rfl] at hp
      exact cy_204 ha hb hc hp
    · rw [if_neg h4] at hp
      exact cy_204n hf h4 hp
end
section
/-! the text: what an item is -/
def cp_dg (c : Nat) : Bool := decide (48 ≤ c) && decide (c ≤ 57)
theorem cp_dgt {c : Nat} : cp_dg c = true ↔ 48 ≤ c ∧ c ≤ 57 := by
  unfold cp_dg
  rw [Bool.and_eq_true, decide_eq_true_iff, decide_eq_true_iff]
theorem cp_dgf {c : Nat} (h : ¬ (48 ≤ c ∧ c ≤ 57)) : cp_dg c = false := by
  cases e : cp_dg c
  · rfl
  · exact absurd (cp_dgt.mp e) h
theorem cp_dgn {c : Nat} (h : cp_dg c = false) : ¬ (48 ≤ c ∧ c ≤ 57) := by
  intro z
  rw [cp_dgt.mpr z] at h
  exact Bool.noConfusion h
section
variable {tx : Nat → Nat}
def cp_fd (tx : Nat → Nat) (c : Nat) : Nat → Nat → Nat
  | 0, a => a
  | k + 1, a => if tx a = c then a else cp_fd tx c k (a + 1)
def cp_find (tx : Nat → Nat) (c a b : Nat) : Nat := cp_fd tx c (b - a) a
theorem cp_fds {c : Nat} : ∀ k a, a ≤ cp_fd tx c k a ∧ cp_fd tx c k a ≤ a + k ∧ (∀ j, a ≤ j → j < cp_fd tx c k a → tx j ≠ c) ∧ (cp_fd tx c k a < a + k → tx (cp_fd tx c k a) = c) := by
  intro k
  induction k with
  | zero =>
    intro a
    have e : cp_fd tx c 0 a = a := rfl
    rw [e]
    exact ⟨by omega, by omega, fun j h1 h2 => absurd h2 (by omega), fun h => absurd h (by omega)⟩
  | succ k ih =>
    intro a
    by_cases h : tx a = c
    · have e : cp_fd tx c (k + 1) a = a := if_pos h
      rw [e]
      exact ⟨by omega, by omega, fun j h1 h2 => absurd h2 (by omega), fun _ => h⟩
    · have e : cp_fd tx c (k + 1) a = cp_fd tx c k (a + 1) := if_neg h
      rw [e]
      obtain ⟨i1, i2, i3, i4⟩ := ih (a + 1)
      refine ⟨by omega, by omega, fun j h1 h2 => ?_, fun h => i4 (by omega)⟩
      by_cases e2 : j = a
      · subst e2; exact h
      · exact i3 j (by omega) h2
theorem cp_finds {c a b : Nat} (hab : a ≤ b) : a ≤ cp_find tx c a b ∧ cp_find tx c a b ≤ b ∧ (∀ j, a ≤ j → j < cp_find tx c a b → tx j ≠ c) ∧ (cp_find tx c a b < b → tx (cp_find tx c a b) = c) := by
  obtain ⟨i1, i2, i3, i4⟩ := cp_fds (tx := tx) (c := c) (b - a) a
  unfold cp_find
  exact ⟨i1, by omega, i3, fun h => i4 (by omega)⟩
theorem cp_finde {c a b r : Nat} (h1 : a ≤ r) (h2 : r ≤ b) (h3 : ∀ j, a ≤ j → j < r → tx j ≠ c) (h4 : r < b → tx r = c) : cp_find tx c a b = r := by
  obtain ⟨i1, i2, i3, i4⟩ := cp_finds (tx := tx) (c := c) (a := a) (b := b) (by omega)
  by_cases e1 : cp_find tx c a b < r
  · exact absurd (i4 (by omega)) (h3 _ i1 e1)
  · by_cases e2 : r < cp_find tx c a b
    · exact absurd (h4 (by omega)) (i3 r h1 e2)
    · omega
def cp_nr (tx : Nat → Nat) : Nat → Nat → Nat → Option Nat
  | 0, _, v => some v
  | k + 1, q, v => if cp_dg (tx q) = true then cp_nr tx k (q + 1) (v * 10 + tx q - 48) else none
def cp_num (tx : Nat → Nat) (q b : Nat) : Option Nat := if b - q = 1 ∨ b - q = 2 then cp_nr tx (b - q) q 0 else none
theorem cp_nume {q b v : Nat} (hq : q ≤ b) (h : cp_num tx q b = some v) : (b = q + 1 ∧ cp_dg (tx q) = true ∧ v = tx q - 48) ∨ (b = q + 2 ∧ cp_dg (tx q) = true ∧ cp_dg (tx (q + 1)) = true ∧ v = (tx q - 48) * 10 + (tx (q + 1) - 48)) := by
  unfold cp_num at h
  by_cases h1 : b - q = 1
  · rw [if_pos (Or.inl h1), h1] at h
    have h' : (if cp_dg (tx q) = true then some (0 * 10 + tx q - 48) else none) = some v := h
    by_cases hd : cp_dg (tx q) = true
    · rw [if_pos hd] at h'
      have e := Option.some.inj h'
      exact Or.inl ⟨by omega, hd, by omega⟩
    · rw [if_neg hd] at h'
      exact absurd h' (by simp)
  · by_cases h2 : b - q = 2
    · rw [if_pos (Or.inr h2), h2] at h
      have h' : (if cp_dg (tx q) = true then (if cp_dg (tx (q + 1)) = true then some ((0 * 10 + tx q - 48) * 10 + tx (q + 1) - 48) else none) else none) = some v := h
      by_cases hd : cp_dg (tx q) = true
      · rw [if_pos hd] at h'
        by_cases hd2 : cp_dg (tx (q + 1)) = true
        · rw [if_pos hd2] at h'
          have e := Option.some.inj h'
          have z := cp_dgt.mp hd2
          exact Or.inr ⟨by omega, hd, hd2, by omega⟩
        · rw [if_neg hd2] at h'
          exact absurd h' (by simp)
      · rw [if_neg hd] at h'
        exact absurd h' (by simp)
    · rw [if_neg (by omega)] at h
      exact absurd h (by simp)
theorem cp_num1 {q : Nat} (h : cp_dg (tx q) = true) : cp_num tx q (q + 1) = some (tx q - 48) := by
  unfold cp_num
  rw [show q + 1 - q = 1 by omega, if_pos (Or.inl rfl)]
  show (if cp_dg (tx q) = true then some (0 * 10 + tx q - 48) else none) = _
  rw [if_pos h]
  exact congrArg some (by omega)
theorem cp_num2 {q : Nat} (h : cp_dg (tx q) = true) (h2 : cp_dg (tx (q + 1)) = true) : cp_num tx q (q + 2) = some ((tx q - 48) * 10 + (tx (q + 1) - 48)) := by
  unfold cp_num
  rw [show q + 2 - q = 2 by omega, if_pos (Or.inr rfl)]
  show (if cp_dg (tx q) = true then (if cp_dg (tx (q + 1)) = true then some ((0 * 10 + tx q - 48) * 10 + tx (q + 1) - 48) else none) else none) = _
  rw [if_pos h, if_pos h2]
  have z := cp_dgt.mp h2
  exact congrArg some (by omega)
/-- X's atom -/
def cp_at (tx : Nat → Nat) (f p q : Nat) : Option Nat := if q - p = 3 then cp_nm f (tx p) (tx (p + 1)) (tx (p + 2)) else cp_num tx p q
/-- Y's number and atom -/
def cp_ny (tx : Nat → Nat) (q e : Nat) : Option (Nat × Nat) := if q < e ∧ cp_dg (tx q) = true then (if q + 1 < e ∧ cp_dg (tx (q + 1)) = true then some ((tx q - 48) * 10 + (tx (q + 1) - 48), q + 2) else some (tx q - 48, q + 1)) else none
def cp_ay (tx : Nat → Nat) (f p e : Nat) : Option (Nat × Nat) := if p < e then (if cp_dg (tx p) = true then (match cp_ny tx p e with
    | none => none
    | some x => if cf_lo f ≤ x.1 ∧ x.1 ≤ cf_hi f then some x else none) else (if p + 2 < e then (match cp_nm f (tx p) (tx (p + 1)) (tx (p + 2)) with
    | none => none
    | some v => some (v, p + 3)) else none)) else none
def cp_sy (tx : Nat → Nat) (q e : Nat) : Option (Nat × Nat × Bool) := if q < e ∧ tx q = 47 then (match cp_ny tx (q + 1) e with
    | none => none
    | some x => if x.1 = 0 then none else some (x.1, x.2, true)) else some (1, q, false)
def cp_al (c : Nat) : Prop := c ≠ 42 ∧ c ≠ 44 ∧ c ≠ 45 ∧ c ≠ 47
theorem cp_N1 {q d e v : Nat} (hq : q ≤ d) (hd : d ≤ e) (h : cp_num tx q d = some v) (hn : d < e → cp_dg (tx d) = false) : cp_ny tx q e = some (v, d) := by
  unfold cp_ny
  rcases cp_nume hq h with ⟨rfl, d1, rfl⟩ | ⟨rfl, d1, d2, rfl⟩
  · rw [if_pos ⟨by omega, d1⟩, if_neg]
    intro z
    have := hn z.1
    rw [z.2] at this
    exact Bool.noConfusion this
  · rw [if_pos ⟨by omega, d1⟩, if_pos ⟨by omega, d2⟩]
theorem cp_N2 {q e : Nat} {x : Nat × Nat} (h : cp_ny tx q e = some x) : q < x.2 ∧ x.2 ≤ e ∧ x.2 ≤ q + 2 ∧ (∀ j, q ≤ j → j < x.2 → cp_dg (tx j) = true) ∧ cp_num tx q x.2 = some x.1 := by
  unfold cp_ny at h
  by_cases h1 : q < e ∧ cp_dg (tx q) = true
  · rw [if_pos h1] at h
    by_cases h2 : q + 1 < e ∧ cp_dg (tx (q + 1)) = true
    · rw [if_pos h2] at h
      have e := Option.some.inj h
      subst e
      refine ⟨by show q < q + 2; omega, by show q + 2 ≤ _; omega, Nat.le_refl _, fun j j1 j2 => ?_, cp_num2 h1.2 h2.2⟩
      have j2 : j < q + 2 := j2
      by_cases e : j = q
      · subst e; exact h1.2
      · rw [show j = q + 1 by omega]; exact h2.2
    · rw [if_neg h2] at h
      have e := Option.some.inj h
      subst e
      refine ⟨by show q < q + 1; omega, by show q + 1 ≤ _; omega, by show q + 1 ≤ q + 2; omega, fun j j1 j2 => ?_, cp_num1 h1.2⟩
      have j2 : j < q + 1 := j2
      rw [show j = q by omega]; exact h1.2
  · rw [if_neg h1] at h
    exact absurd h (by simp)
theorem cp_dg_al {c : Nat} (h : cp_dg c = true) : cp_al c := by
  have := cp_dgt.mp h
  exact ⟨by omega, by omega, by omega, by omega⟩
theorem cp_lt_al {c : Nat} (h : (65 ≤ c ∧ c ≤ 90) ∨ (97 ≤ c ∧ c ≤ 122)) : cp_al c := ⟨by omega, by omega, by omega, by omega⟩
theorem cp_A0 {f p d v : Nat} (hp : p ≤ d) (h : cp_at tx f p d = some v) : p < d ∧ cp_al (tx p) := by
  unfold cp_at at h
  by_cases h3 : d - p = 3
  · rw [if_pos h3] at h
    exact ⟨by omega, cp_lt_al (cp_nm_b h).1⟩
  · rw [if_neg h3] at h
    rcases cp_nume hp h with ⟨rfl, d1, _⟩ | ⟨rfl, d1, _, _⟩
    · exact ⟨by omega, cp_dg_al d1⟩
    · exact ⟨by omega, cp_dg_al d1⟩
theorem cp_A1 {f p d e v : Nat} (hp : p ≤ d) (hd : d ≤ e) (h : cp_at tx f p d = some v) (hn : d < e → cp_dg (tx d) = false) (h1 : cf_lo f ≤ v) (h2 : v ≤ cf_hi f) : cp_ay tx f p e = some (v, d) := by
  unfold cp_at at h
  unfold cp_ay
  by_cases h3 : d - p = 3
  · rw [if_pos h3] at h
    have hl := (cp_nm_b h).1
    rw [if_pos (by omega), if_neg, if_pos (by omega), h]
    · show some (v, p + 3) = some (v, d)
      rw [show p + 3 = d by omega]
    · intro z
      have := cp_dgt.mp z
      omega
  · rw [if_neg h3] at h
    have hny := cp_N1 hp hd h hn
    have hdg : cp_dg (tx p) = true := by
      rcases cp_nume hp h with ⟨_, d1, _⟩ | ⟨_, d1, _, _⟩
      · exact d1
      · exact d1
    have hlt : p < e := by
      rcases cp_nume hp h with ⟨_, _⟩ | ⟨_, _⟩
      · omega
      · omega
    rw [if_pos hlt, if_pos hdg, hny]
    show (if cf_lo f ≤ v ∧ v ≤ cf_hi f then some (v, d) else none) = _
    rw [if_pos ⟨h1, h2⟩]
theorem cp_A2 {f p e : Nat} {x : Nat × Nat} (h : cp_ay tx f p e = some x) : p < x.2 ∧ x.2 ≤ e ∧ (∀ j, p ≤ j → j < x.2 → cp_al (tx j)) ∧ cp_at tx f p x.2 = some x.1 ∧ cf_lo f ≤ x.1 ∧ x.1 ≤ cf_hi f := by
  unfold cp_ay at h
  by_cases h0 : p < e
  · rw [if_pos h0] at h
    by_cases h1 : cp_dg (tx p) = true
    · rw [if_pos h1] at h
      cases hny : cp_ny tx p e with
      | none => rw [hny] at h; exact absurd h (by simp)
      | some y =>
        rw [hny] at h
        have h : (if cf_lo f ≤ y.1 ∧ y.1 ≤ cf_hi f then some y else none) = some x := h
        by_cases h2 : cf_lo f ≤ y.1 ∧ y.1 ≤ cf_hi f
        · rw [if_pos h2] at h
          have e := Option.some.inj h
          subst e
          obtain ⟨n1, n2, n3, n4, n5⟩ := cp_N2 hny
          refine ⟨n1, n2, fun j j1 j2 => cp_dg_al (n4 j j1 j2), ?_, h2.1, h2.2⟩
          unfold cp_at
          rw [if_neg (by omega)]
          exact n5
        · rw [if_neg h2] at h
          exact absurd h (by simp)
    · rw [if_neg h1] at h
      by_cases h2 : p + 2 < e
      · rw [if_pos h2] at h
        cases hnm : cp_nm f (tx p) (tx (p + 1)) (tx (p + 2)) with
        | none => rw [hnm] at h; exact absurd h (by simp)
        | some v =>
          rw [hnm] at h
          have e := Option.some.inj h
          subst e
          obtain ⟨l1, l2, l3, l4, l5⟩ := cp_nm_b hnm
          refine ⟨by show p < p + 3; omega, by show p + 3 ≤ _; omega, fun j j1 j2 => ?_, ?_, l4, l5⟩
          · have j2 : j < p + 3 := j2
            by_cases e1 : j = p
            · subst e1; exact cp_lt_al l1
            · by_cases e2 : j = p + 1
              · subst e2; exact cp_lt_al l2
              · rw [show j = p + 2 by omega]; exact cp_lt_al l3
          · show cp_at tx f p (p + 3) = some v
            unfold cp_at
            rw [if_pos (by omega)]
            exact hnm
      · rw [if_neg h2] at h
        exact absurd h (by simp)
  · rw [if_neg h0] at h
    exact absurd h (by simp)
theorem cp_S1 {S b e st : Nat} (hS : S ≤ b) (hbe : b ≤ e) (hb : b < e → tx b = 44) (h1 : S < b → tx S = 47 ∧ cp_num tx (S + 1) b = some st) (h2 : ¬ S < b → st = 1) (h3 : 1 ≤ st) : cp_sy tx S e = some (st, b, decide (S < b)) := by
  have hnd : b < e → cp_dg (tx b) = false := fun z => by rw [hb z]; decide
  unfold cp_sy
  by_cases hlt : S < b
  · obtain ⟨e1, e2⟩ := h1 hlt
    rw [if_pos ⟨by omega, e1⟩, cp_N1 (by omega) hbe e2 hnd]
    show (if st = 0 then none else some (st, b, true)) = _
    rw [if_neg (by omega), decide_eq_true hlt]
  · have eS : S = b := by omega
    subst eS
    rw [if_neg, h2 hlt, decide_eq_false hlt]
    intro z
    rw [hb z.1] at z
    exact absurd z.2 (by decide)
theorem cp_S2 {q e : Nat} {x : Nat × Nat × Bool} (h : cp_sy tx q e = some x) : (x.2.2 = true ∧ q < e ∧ tx q = 47 ∧ q + 1 < x.2.1 ∧ x.2.1 ≤ e ∧ (∀ j, q + 1 ≤ j → j < x.2.1 → cp_dg (tx j) = true) ∧ cp_num tx (q + 1) x.2.1 = some x.1 ∧ 1 ≤ x.1) ∨ (x.2.2 = false ∧ x.2.1 = q ∧ x.1 = 1 ∧ ¬ (q < e ∧ tx q = 47)) := by
  unfold cp_sy at h
  by_cases h1 : q < e ∧ tx q = 47
  · rw [if_pos h1] at h
    cases hny : cp_ny tx (q + 1) e with
    | none => rw [hny] at h; exact absurd h (by simp)
    | some y =>
      rw [hny] at h
      have h : (if y.1 = 0 then none else some (y.1, y.2, true)) = some x := h
      by_cases h2 : y.1 = 0
      · rw [if_pos h2] at h; exact absurd h (by simp)
      · rw [if_neg h2] at h
        have e := Option.some.inj h
        subst e
        obtain ⟨n1, n2, n3, n4, n5⟩ := cp_N2 hny
        exact Or.inl ⟨rfl, h1.1, h1.2, n1, n2, n4, n5, by show 1 ≤ y.1; omega⟩
  · rw [if_neg h1] at h
    have e := Option.some.inj h
    subst e
    exact Or.inr ⟨rfl, rfl, rfl, h1⟩
theorem cp_numb {q b v : Nat} (hq : q ≤ b) (h : cp_num tx q b = some v) : v ≤ 99 := by
  rcases cp_nume hq h with ⟨_, d1, rfl⟩ | ⟨_, d1, d2, rfl⟩
  · have := cp_dgt.mp d1
    omega
  · have := cp_dgt.mp d1
    have := cp_dgt.mp d2
    omega
/-- an item from a to b means the values from A to B by steps of st -/
def cp_I (tx : Nat → Nat) (f a b A B st : Nat) : Prop :=
  (cp_find tx 47 a b < b → cp_num tx (cp_find tx 47 a b + 1) b = some st) ∧ (¬ cp_find tx 47 a b < b → st = 1) ∧ 1 ≤ st ∧
  ((cp_find tx 47 a b = a + 1 ∧ tx a = 42 ∧ A = cf_lo f ∧ B = cf_hi f) ∨
   (¬ (cp_find tx 47 a b = a + 1 ∧ tx a = 42) ∧ cp_at tx f a (cp_find tx 45 a (cp_find tx 47 a b)) = some A ∧
    (cp_find tx 45 a (cp_find tx 47 a b) < cp_find tx 47 a b → cp_at tx f (cp_find tx 45 a (cp_find tx 47 a b) + 1) (cp_find tx 47 a b) = some B) ∧
    (¬ cp_find tx 45 a (cp_find tx 47 a b) < cp_find tx 47 a b → B = if cp_find tx 47 a b < b then cf_hi f else A) ∧ cf_lo f ≤ A ∧ A ≤ B ∧ B ≤ cf_hi f))
theorem cp_Ib {f a b A B st : Nat} (hf : f < 5) (hab : a ≤ b) (h : cp_I tx f a b A B st) : cf_lo f ≤ A ∧ A ≤ B ∧ B ≤ cf_hi f ∧ 1 ≤ st ∧ st ≤ 99 := by
  obtain ⟨h1, h2, h3, h4⟩ := h
  have hs := cp_finds (tx := tx) (c := 47) hab
  have hst : st ≤ 99 := by
    by_cases e : cp_find tx 47 a b < b
    · exact cp_numb (by omega) (h1 e)
    · rw [h2 e]; decide
  rcases h4 with ⟨_, _, rfl, rfl⟩ | ⟨_, _, _, _, i1, i2, i3⟩
  · exact ⟨Nat.le_refl _, cf_lohi hf, Nat.le_refl _, h3, hst⟩
  · exact ⟨i1, i2, i3, h3, hst⟩
theorem cp_Iu {f a b A B st A' B' st' : Nat} (h : cp_I tx f a b A B st) (h' : cp_I tx f a b A' B' st') : A = A' ∧ B = B' ∧ st = st' := by
  obtain ⟨h1, h2, h3, h4⟩ := h
  obtain ⟨g1, g2, g3, g4⟩ := h'
  have est : st = st' := by
    by_cases e : cp_find tx 47 a b < b
    · exact Option.some.inj ((h1 e).symm.trans (g1 e))
    · rw [h2 e, g2 e]
  rcases h4 with ⟨s1, s2, rfl, rfl⟩ | ⟨ns, i1, i2, i3, i4, i5, i6⟩
  · rcases g4 with ⟨t1, t2, rfl, rfl⟩ | ⟨nt, _⟩
    · exact ⟨rfl, rfl, est⟩
    · exact absurd ⟨s1, s2⟩ nt
  · rcases g4 with ⟨t1, t2, rfl, rfl⟩ | ⟨nt, j1, j2, j3, j4, j5, j6⟩
    · exact absurd ⟨t1, t2⟩ ns
    · have eA : A = A' := Option.some.inj (i1.symm.trans j1)
      refine ⟨eA, ?_, est⟩
      by_cases e : cp_find tx 45 a (cp_find tx 47 a b) < cp_find tx 47 a b
      · exact Option.some.inj ((i2 e).symm.trans (j2 e))
      · rw [i3 e, j3 e, eA]
/-- Y's shape of an item that ends at p -/
def cp_J (tx : Nat → Nat) (f a e A B st p : Nat) : Prop :=
  (tx a = 42 ∧ (∃ s, cp_sy tx (a + 1) e = some (st, p, s)) ∧ A = cf_lo f ∧ B = cf_hi f) ∨
  (tx a ≠ 42 ∧ ∃ q, cp_ay tx f a e = some (A, q) ∧
    ((q < e ∧ tx q = 45 ∧ ∃ q2, cp_ay tx f (q + 1) e = some (B, q2) ∧ A ≤ B ∧ ∃ s, cp_sy tx q2 e = some (st, p, s)) ∨
     (¬ (q < e ∧ tx q = 45) ∧ ∃ s, cp_sy tx q e = some (st, p, s) ∧ B = if s = true then cf_hi f else A)))
theorem cp_IJ {f a b e A B st : Nat} (hab : a ≤ b) (hbe : b ≤ e) (hb : b < e → tx b = 44) (h : cp_I tx f a b A B st) : a < b ∧ cp_J tx f a e A B st b := by
  obtain ⟨h1, h2, h3, h4⟩ := h
  obtain ⟨s1, s2, s3, s4⟩ := cp_finds (tx := tx) (c := 47) hab
  have hsy := cp_S1 (tx := tx) s2 hbe hb (fun z => ⟨s4 z, h1 z⟩) h2 h3
  have hnS : cp_find tx 47 a b < e → cp_dg (tx (cp_find tx 47 a b)) = false := by
    intro z
    by_cases z2 : cp_find tx 47 a b < b
    · rw [s4 z2]; decide
    · have eS : cp_find tx 47 a b = b := by omega
      rw [eS] at z ⊢
      rw [hb z]; decide
  obtain ⟨S, hS⟩ : ∃ S, cp_find tx 47 a b = S := ⟨_, rfl⟩
  rw [hS] at h1 h2 h4 s1 s2 s3 s4 hsy hnS
  rcases h4 with ⟨rfl, t2, rfl, rfl⟩ | ⟨ns, i1, i2, i3, i4, i5, i6⟩
  · exact ⟨by omega, Or.inl ⟨t2, ⟨_, hsy⟩, rfl, rfl⟩⟩
  · obtain ⟨d1, d2, d3, d4⟩ := cp_finds (tx := tx) (c := 45) s1
    obtain ⟨D, hD⟩ : ∃ D, cp_find tx 45 a S = D := ⟨_, rfl⟩
    rw [hD] at d1 d2 d3 d4 i1 i2 i3
    obtain ⟨p1, p2⟩ := cp_A0 d1 i1
    refine ⟨by omega, Or.inr ⟨p2.1, D, ?_, ?_⟩⟩
    · refine cp_A1 d1 (by omega) i1 (fun z => ?_) i4 (by omega)
      by_cases e1 : D < S
      · rw [d4 e1]; decide
      · have eD : D = S := by omega
        rw [eD] at z ⊢
        exact hnS z
    · by_cases e1 : D < S
      · refine Or.inl ⟨by omega, d4 e1, S, ?_, i5, ⟨_, hsy⟩⟩
        exact cp_A1 (by omega) (by omega) (i2 e1) hnS (by omega) i6
      · have eD : D = S := by omega
        subst eD
        refine Or.inr ⟨fun z => ?_, ⟨_, hsy, ?_⟩⟩
        · by_cases e2 : D < b
          · rw [s4 e2] at z
            exact absurd z.2 (by decide)
          · have eb : D = b := by omega
            subst eb
            rw [hb z.1] at z
            exact absurd z.2 (by decide)
        · rw [i3 (by omega)]
          by_cases e2 : D < b
          · rw [if_pos e2, if_pos (decide_eq_true e2)]
          · rw [if_neg e2, if_neg (by rw [decide_eq_false e2]; decide)]
theorem cp_JI {f a b e A B st p : Nat} (hae : a < e) (hbe : b ≤ e) (hab : a ≤ b) (hb : b < e → tx b = 44) (h : cp_J tx f a e A B st p) (hA : tx a ≠ 44) : a < p ∧ p ≤ b ∧ cf_lo f ≤ A ∧ B ≤ cf_hi f ∧ 1 ≤ st ∧ st ≤ 99 ∧ (p = b → cp_I tx f a b A B st) := by
  have hstep : ∀ q s, q ≤ e → cp_sy tx q e = some (st, p, s) → (q ≤ p ∧ (p ≤ e) ∧ 1 ≤ st ∧ st ≤ 99 ∧ (∀ j, q ≤ j → j < p → tx j ≠ 44) ∧ (s = true → q < p ∧ tx q = 47 ∧ cp_num tx (q + 1) p = some st) ∧ (s = false → p = q ∧ st = 1)) := by
    intro q s hq hs
    rcases cp_S2 hs with ⟨g1, g2, g3, g4, g5, g6, g7, g8⟩ | ⟨g1, g2, g3, g4⟩
    · have g1 : s = true := g1
      have g4 : q + 1 < p := g4
      have g5 : p ≤ e := g5
      have g6 : ∀ j, q + 1 ≤ j → j < p → cp_dg (tx j) = true := g6
      have g7 : cp_num tx (q + 1) p = some st := g7
      have g8 : 1 ≤ st := g8
      refine ⟨by omega, g5, g8, cp_numb (by omega) g7, fun j j1 j2 => ?_, fun _ => ⟨by omega, g3, g7⟩, fun z => ?_⟩
      · by_cases e1 : j = q
        · rw [e1, g3]; decide
        · exact (cp_dg_al (g6 j (by omega) j2)).2.1
      · rw [g1] at z; exact Bool.noConfusion z
    · have g1 : s = false := g1
      have g2 : p = q := g2
      have g3 : st = 1 := g3
      refine ⟨by omega, by omega, by omega, by omega, fun j j1 j2 => absurd j2 (by omega), fun z => ?_, fun _ => ⟨g2, g3⟩⟩
      rw [g1] at z; exact Bool.noConfusion z
  have hle : ∀ p', p' ≤ e → (∀ j, a ≤ j → j < p' → tx j ≠ 44) → p' ≤ b := by
    intro p' h1 h2
    by_cases z : p' ≤ b
    · exact z
    · exact absurd (hb (by omega)) (h2 b hab (by omega))
  rcases h with ⟨t1, ⟨s, hs⟩, rfl, rfl⟩ | ⟨t1, q, hq, h⟩
  · obtain ⟨g1, g2, g3, g4, g5, g6, g7⟩ := hstep _ s (by omega) hs
    have hpb := hle p g2 (fun j j1 j2 => by
      by_cases e1 : j = a
      · rw [e1, t1]; decide
      · exact g5 j (by omega) j2)
    refine ⟨by omega, hpb, Nat.le_refl _, Nat.le_refl _, g3, g4, fun ep => ?_⟩
    subst ep
    have eS : cp_find tx 47 a p = a + 1 := by
      refine cp_finde (by omega) (by omega) (fun j j1 j2 => ?_) (fun z => ?_)
      · rw [show j = a by omega, t1]; decide
      · cases s with
        | true => exact (g6 rfl).2.1
        | false => have := (g7 rfl).1; omega
    unfold cp_I
    rw [eS]
    refine ⟨fun z => ?_, fun z => ?_, g3, Or.inl ⟨rfl, t1, rfl, rfl⟩⟩
    · cases s with
      | true => exact (g6 rfl).2.2
      | false => have := (g7 rfl).1; omega
    · cases s with
      | true => have := (g6 rfl).1; omega
      | false => exact (g7 rfl).2
  · obtain ⟨k1, k2, k3, k4, k5, k6⟩ := cp_A2 hq
    have k1 : a < q := k1
    have k2 : q ≤ e := k2
    have k3 : ∀ j, a ≤ j → j < q → cp_al (tx j) := k3
    have k4 : cp_at tx f a q = some A := k4
    have k5 : cf_lo f ≤ A := k5
    have k6 : A ≤ cf_hi f := k6
    rcases h with ⟨r1, r2, q2, hq2, hAB, s, hs⟩ | ⟨r1, s, hs, hB⟩
    · obtain ⟨l1, l2, l3, l4, l5, l6⟩ := cp_A2 hq2
      have l1 : q + 1 < q2 := l1
      have l2 : q2 ≤ e := l2
      have l3 : ∀ j, q + 1 ≤ j → j < q2 → cp_al (tx j) := l3
      have l4 : cp_at tx f (q + 1) q2 = some B := l4
      have l6 : B ≤ cf_hi f := l6
      obtain ⟨g1, g2, g3, g4, g5, g6, g7⟩ := hstep _ s l2 hs
      have hch : ∀ j, a ≤ j → j < q2 → tx j ≠ 44 ∧ tx j ≠ 47 := by
        intro j j1 j2
        by_cases e1 : j < q
        · exact ⟨(k3 j j1 e1).2.1, (k3 j j1 e1).2.2.2⟩
        · by_cases e2 : j = q
          · rw [e2, r2]; exact ⟨by decide, by decide⟩
          · exact ⟨(l3 j (by omega) j2).2.1, (l3 j (by omega) j2).2.2.2⟩
      have hpb := hle p g2 (fun j j1 j2 => by
        by_cases e1 : j < q2
        · exact (hch j j1 e1).1
        · exact g5 j (by omega) j2)
      refine ⟨by omega, hpb, k5, l6, g3, g4, fun ep => ?_⟩
      subst ep
      have eS : cp_find tx 47 a p = q2 := by
        refine cp_finde (by omega) (by omega) (fun j j1 j2 => (hch j j1 j2).2) (fun z => ?_)
        cases s with
        | true => exact (g6 rfl).2.1
        | false => have := (g7 rfl).1; omega
      have eD : cp_find tx 45 a q2 = q := cp_finde (by omega) (by omega) (fun j j1 j2 => (k3 j j1 j2).2.2.1) (fun _ => r2)
      unfold cp_I
      rw [eS, eD]
      refine ⟨fun z => ?_, fun z => ?_, g3, Or.inr ⟨fun z => t1 z.2, k4, fun _ => l4, fun z => absurd (by omega) z, k5, hAB, l6⟩⟩
      · cases s with
        | true => exact (g6 rfl).2.2
        | false => have := (g7 rfl).1; omega
      · cases s with
        | true => have := (g6 rfl).1; omega
        | false => exact (g7 rfl).2
    · obtain ⟨g1, g2, g3, g4, g5, g6, g7⟩ := hstep _ s k2 hs
      have hpb := hle p g2 (fun j j1 j2 => by
        by_cases e1 : j < q
        · exact (k3 j j1 e1).2.1
        · exact g5 j (by omega) j2)
      have hBh : B ≤ cf_hi f := by
        rw [hB]
        split
        · exact Nat.le_refl _
        · exact k6
      refine ⟨by omega, hpb, k5, hBh, g3, g4, fun ep => ?_⟩
      subst ep
      have eS : cp_find tx 47 a p = q := by
        refine cp_finde (by omega) (by omega) (fun j j1 j2 => (k3 j j1 j2).2.2.2) (fun z => ?_)
        cases s with
        | true => exact (g6 rfl).2.1
        | false => have := (g7 rfl).1; omega
      have eD : cp_find tx 45 a q = q := cp_finde (by omega) (by omega) (fun j j1 j2 => (k3 j j1 j2).2.2.1) (fun z => absurd z (by omega))
      unfold cp_I
      rw [eS, eD]
      cases s with
      | true =>
        obtain ⟨w1, w2, w3⟩ := g6 rfl
        rw [if_pos rfl] at hB
        subst hB
        exact ⟨fun _ => w3, fun z => absurd w1 z, g3, Or.inr ⟨fun z => t1 z.2, k4, fun z => absurd z (by omega), fun _ => (if_pos w1).symm, k5, k6, Nat.le_refl _⟩⟩
      | false =>
        obtain ⟨w1, w2⟩ := g7 rfl
        rw [if_neg (by decide)] at hB
        subst hB
        exact ⟨fun z => absurd z (by omega), fun _ => w2, g3, Or.inr ⟨fun z => t1 z.2, k4, fun z => absurd z (by omega), fun _ => (if_neg (by omega)).symm, k5, Nat.le_refl _, k6⟩⟩
end
end
section
/-! X's parser: up to one item -/
section
variable {tx : Nat → Nat} {f_cap f_clock f_length f_staged : Int32} {a_text : Nat → Int32} {a_sets : Nat → Int64} {a_starred a_occupied a_misfirePolicy a_concurrencyPolicy a_running a_started a_completed a_dropped a_cancelled a_misfires : Nat → Int32}
theorem cp_txt {a_text : Nat → Int32} (hT : ∀ j, a_text j = nI (tx j)) {i : Nat} (hi : i < 2 ^ 31) : a_text (nI i).toNatClampNeg = nI (tx i) := by
  rw [nI_clamp hi, hT]
theorem cx_findloop (hT : ∀ j, a_text j = nI (tx j)) (hC : ∀ j, tx j ≤ 126) {c b : Nat} (hc : c < 1000) (hb : b ≤ 64) {post : Int32 → Prop} : ∀ k a n : Nat, a + k = b → k < n → post (nI (cp_fd tx c k a)) → wX_find_3 post (nI c) (nI b) f_cap f_clock f_length f_staged a_text a_sets a_starred a_occupied a_misfirePolicy a_concurrencyPolicy a_running a_started a_completed a_dropped a_cancelled a_misfires n (nI a) := by
  intro k
  induction k with
  | zero =>
    intro a n hk hn hp
    obtain ⟨n, rfl⟩ : ∃ n', n = n' + 1 := ⟨n - 1, by omega⟩
    have e : a = b := by omega
    subst e
    exact pk_le a a (fun _ => hp) (fun z => absurd z (by omega))
  | succ k ih =>
    intro a n hk hn hp
    obtain ⟨n, rfl⟩ : ∃ n', n = n' + 1 := ⟨n - 1, by omega⟩
    have hca := hC a
    refine pk_le b a (fun z => absurd z (by omega)) (fun _ => ⟨vp_in_nI (by omega) (by decide), pk_eq (tx a) c (fun e => ?_) (fun e => nm_r (nI_1 a) (ih (a + 1) n (by omega) (by omega) ?_)) (cp_txt hT (by omega))⟩)
    · have t : cp_fd tx c (k + 1) a = a := if_pos e
      rw [t] at hp; exact hp
    · have t : cp_fd tx c (k + 1) a = cp_fd tx c k (a + 1) := if_neg e
      rw [t] at hp; exact hp
theorem cx_find (hT : ∀ j, a_text j = nI (tx j)) (hC : ∀ j, tx j ≤ 126) (c : Nat) {a b : Nat} (hc : c < 1000) (hab : a ≤ b) (hb : b ≤ 64) {x : Int32} {post : Int32 → Prop} (hp : post (nI (cp_find tx c a b))) (ex : x = nI c := by rfl) : wpX_find post (f_cap, f_clock, f_length, f_staged, a_text, a_sets, a_starred, a_occupied, a_misfirePolicy, a_concurrencyPolicy, a_running, a_started, a_completed, a_dropped, a_cancelled, a_misfires) x (nI a) (nI b) := by
  subst ex
  exact ⟨b - a + 1, cx_findloop hT hC hc hb (b - a) a (b - a + 1) (by omega) (by omega) hp⟩
theorem cx_numloop (hT : ∀ j, a_text j = nI (tx j)) (hC : ∀ j, tx j ≤ 126) {b : Nat} (hb : b ≤ 64) {post : Int32 → Prop} : ∀ k q v n : Nat, q + k = b → k < n → post (cp_en (cp_nr tx k q v)) → wX_number_21 post (nI b) f_cap f_clock f_length f_staged a_text a_sets a_starred a_occupied a_misfirePolicy a_concurrencyPolicy a_running a_started a_completed a_dropped a_cancelled a_misfires n (nI v) (nI q) := by
  intro k
  induction k with
  | zero =>
    intro q v n hk hn hp
    obtain ⟨n, rfl⟩ : ∃ n', n = n' + 1 := ⟨n - 1, by omega⟩
    exact pk_le b q (fun _ => hp) (fun z => absurd z (by omega))
  | succ k ih =>
    intro q v n hk hn hp
    obtain ⟨n, rfl⟩ : ∃ n', n = n' + 1 := ⟨n - 1, by omega⟩
    have hca := hC q
    have hx := cp_txt hT (show q < 2 ^ 31 by omega)
    have hin : vp_in (nI q) 64 := vp_in_nI (by omega) (by decide)
    refine pk_le b q (fun z => absurd z (by omega)) (fun _ => ⟨hin, pk_lt (tx q) 48 (fun z => ?_) (fun z => ⟨hin, pk_le (tx q) 57 (fun z2 => ⟨hin, nm_r ?_ (nm_r (nI_1 q) (ih (q + 1) (v * 10 + tx q - 48) n (by omega) (by omega) ?_))⟩) (fun z2 => ?_) hx⟩) hx⟩)
    · have t : cp_nr tx (k + 1) q v = none := if_neg (fun h => absurd (cp_dgt.mp h) (by omega))
      rw [t] at hp; exact hp
    · rw [hx, show nI v * 10 = nI (v * 10) from pk_mul v 10, nI_add]
      exact pk_sub (b := 48) (by omega)
    · have t : cp_nr tx (k + 1) q v = cp_nr tx k (q + 1) (v * 10 + tx q - 48) := if_pos (cp_dgt.mpr ⟨z, z2⟩)
      rw [t] at hp; exact hp
    · have t : cp_nr tx (k + 1) q v = none := if_neg (fun h => absurd (cp_dgt.mp h) (by omega))
      rw [t] at hp; exact hp
theorem cx_num (hT : ∀ j, a_text j = nI (tx j)) (hC : ∀ j, tx j ≤ 126) {q b : Nat} (hqb : q ≤ b) (hb : b ≤ 64) {x : Int32} {post : Int32 → Prop} (hp : post (cp_en (cp_num tx q b))) (ex : x = nI q := by rfl) : wpX_number post (f_cap, f_clock, f_length, f_staged, a_text, a_sets, a_starred, a_occupied, a_misfirePolicy, a_concurrencyPolicy, a_running, a_started, a_completed, a_dropped, a_cancelled, a_misfires) x (nI b) := by
  subst ex
  have e := pk_sub hqb
  unfold cp_num at hp
  refine pk_lt (b - q) 1 (fun z => ?_) (fun z => pk_le (b - q) 2 (fun z2 => ⟨3, ?_⟩) (fun z2 => ?_) e) e
  · rw [if_neg (by omega)] at hp; exact hp
  · rw [if_pos (by omega)] at hp
    exact cx_numloop hT hC hb (b - q) q 0 3 (by omega) (by omega) hp
  · rw [if_neg (by omega)] at hp; exact hp
theorem cx_cap {c : Nat} (hc : c ≤ 126) {x : Int32} {post : Int32 → Prop} (hp : post (nI (cp_cap c))) (ex : x = nI c) : wpX_capital post x := by
  subst ex
  unfold cp_cap at hp
  refine pk_lt c 97 (fun z => ?_) (fun z => pk_lt 122 c (fun z2 => ?_) (fun z2 => ?_))
  · rw [if_neg (by omega)] at hp; exact hp
  · rw [if_neg (by omega)] at hp; exact hp
  · rw [if_pos (by omega)] at hp
    have e : nI c - 97 + 65 = nI (c - 32) := by
      rw [show nI c - 97 = nI (c - 97) from pk_sub (b := 97) (by omega)]
      exact (nI_add (c - 97) 65).trans (congrArg nI (by omega))
    rw [e]; exact hp
theorem cp_or {a b : Nat} (ha : a < 2 ^ 32) (hb : b < 2 ^ 32) : nI a ||| nI b = nI (a ||| b) := by
  apply Int32.toBitVec_inj.mp
  apply BitVec.eq_of_toNat_eq
  rw [Int32.toBitVec_or, BitVec.toNat_or, pk_tn ha, pk_tn hb, pk_tn (Nat.or_lt_two_pow ha hb)]
theorem cp_pack {a b c : Nat} (ha : a < 256) (hb : b < 256) (hc : c < 256) : ((nI a <<< ((16 : Int32) &&& 31)) ||| (nI b <<< ((8 : Int32) &&& 31))) ||| nI c = nI (a * 65536 + b * 256 + c) := by
  have e1 : nI a <<< ((16 : Int32) &&& 31) = nI (a * 2 ^ 16) := pk_shlN _ 16 (by decide) (by omega)
  have e2 : nI b <<< ((8 : Int32) &&& 31) = nI (b * 2 ^ 8) := pk_shlN _ 8 (by decide) (by omega)
  have n1 : a * 2 ^ 16 ||| b * 2 ^ 8 = a * 2 ^ 16 + b * 2 ^ 8 := by
    rw [← Nat.shiftLeft_eq a 16, Nat.shiftLeft_add_eq_or_of_lt (by omega)]
  have n2 : a * 2 ^ 16 + b * 2 ^ 8 ||| c = a * 2 ^ 16 + b * 2 ^ 8 + c := by
    rw [show a * 2 ^ 16 + b * 2 ^ 8 = (a * 256 + b) * 2 ^ 8 by omega, ← Nat.shiftLeft_eq (a * 256 + b) 8, Nat.shiftLeft_add_eq_or_of_lt (by omega)]
  rw [e1, e2, cp_or (by omega) (by omega), n1, cp_or (by omega) (by omega), n2]
theorem cp_capb {c : Nat} (hc : c ≤ 126) : cp_cap c < 256 := by
  unfold cp_cap
  split <;> omega
theorem cx_atom (hT : ∀ j, a_text j = nI (tx j)) (hC : ∀ j, tx j ≤ 126) {f p q : Nat} (hf : f < 5) (hpq : p ≤ q) (hq : q ≤ 64) {x : Int32} {post : Int32 → Prop} (hp : post (cp_en (cp_at tx f p q))) (ex : x = nI p := by rfl) : wpX_atom post (f_cap, f_clock, f_length, f_staged, a_text, a_sets, a_starred, a_occupied, a_misfirePolicy, a_concurrencyPolicy, a_running, a_started, a_completed, a_dropped, a_cancelled, a_misfires) (nI f) x (nI q) := by
  subst ex
  unfold cp_at at hp
  refine pk_eq (q - p) 3 (fun z => ?_) (fun z => ?_) (pk_sub hpq)
  · rw [if_pos z] at hp
    have e1 : nI p + 1 = nI (p + 1) := nI_1 p
    have e2 : nI p + 2 = nI (p + 2) := nI_add p 2
    rw [e1, e2]
    refine ⟨vp_in_nI (by omega) (by decide), cx_cap (hC p) ⟨vp_in_nI (by omega) (by decide), cx_cap (hC (p + 1)) ⟨vp_in_nI (by omega) (by decide), cx_cap (hC (p + 2)) (nm_r (cp_pack (cp_capb (hC p)) (cp_capb (hC (p + 1))) (cp_capb (hC (p + 2)))) ?_) (cp_txt hT (by omega))⟩ (cp_txt hT (by omega))⟩ (cp_txt hT (by omega))⟩
    unfold cp_nm at hp
    refine pk_eq f 3 (fun z3 => ?_) (fun z3 => pk_eq f 4 (fun z4 => ?_) (fun z4 => ?_))
    · rw [if_pos z3] at hp
      exact cx_mon (cp_capb (hC p)) (cp_capb (hC (p + 1))) (cp_capb (hC (p + 2))) hp
    · rw [if_neg z3, if_pos z4] at hp
      exact cx_dow (cp_capb (hC p)) (cp_capb (hC (p + 1))) (cp_capb (hC (p + 2))) hp
    · rw [if_neg z3, if_neg z4] at hp
      exact hp
  · rw [if_neg z] at hp
    exact cx_num hT hC hpq hq hp
/-! the values of an item -/
def cp_nrm (f v : Nat) : Nat := if f = 4 ∧ v = 7 then 0 else v
def cp_sv (f A B st w : Nat) : Prop := ∃ j, A + j * st ≤ B ∧ cp_nrm f (A + j * st) = w
def cp_AV (f A B st : Nat) (sX sX' : Nat → Int64) : Prop := (∀ i, i ≠ 40 + f → sX' i = sX i) ∧ ∀ v, v < 64 → (cb_bit (sX' (40 + f)) v = true ↔ (cb_bit (sX (40 + f)) v = true ∨ cp_sv f A B st v))
theorem cp_nrmb {f v : Nat} (h : v < 64) : cp_nrm f v < 64 := by
  unfold cp_nrm
  split <;> omega
theorem cx_avloop {f A B st : Nat} (hf : f < 5) (hB : B < 60) (hst : 1 ≤ st) (hst2 : st ≤ 99) {post : SX → Prop} (hp : ∀ sX', cp_AV f A B st a_sets sX' → post (f_cap, f_clock, f_length, f_staged, a_text, sX', a_starred, a_occupied, a_misfirePolicy, a_concurrencyPolicy, a_running, a_started, a_completed, a_dropped, a_cancelled, a_misfires)) : ∀ (k v n j : Nat) (sX : Nat → Int64), v + k = B + 1 → k < n → v ≤ A + j * st → A + j * st < 1000 → (∀ i, i < j → A + i * st < v) → (∀ i, i ≠ 40 + f → sX i = a_sets i) → (∀ w, w < 64 → (cb_bit (sX (40 + f)) w = true ↔ (cb_bit (a_sets (40 + f)) w = true ∨ ∃ i, i < j ∧ cp_nrm f (A + i * st) = w))) → wX_addValues_6 post (nI f) (nI B) (nI st) f_cap f_clock f_length f_staged n (nI (A + j * st)) (nI v) a_text sX a_starred a_occupied a_misfirePolicy a_concurrencyPolicy a_running a_started a_completed a_dropped a_cancelled a_misfires := by
  intro k
  induction k with
  | zero =>
    intro v n j sX hk hn h1 h1b h2 h3 h4
    obtain ⟨n, rfl⟩ : ∃ n', n = n' + 1 := ⟨n - 1, by omega⟩
    refine pk_lt B v (fun _ => hp sX ⟨h3, fun w hw => ?_⟩) (fun z => absurd z (by omega))
    rw [h4 w hw]
    constructor
    · rintro (h | ⟨i, i1, i2⟩)
      · exact Or.inl h
      · exact Or.inr ⟨i, by have := h2 i i1; omega, i2⟩
    · rintro (h | ⟨i, i1, i2⟩)
      · exact Or.inl h
      · refine Or.inr ⟨i, ?_, i2⟩
        by_cases e : i < j
        · exact e
        · have := Nat.mul_le_mul_right st (show j ≤ i by omega)
          omega
  | succ k ih =>
    intro v n j sX hk hn h1 h1b h2 h3 h4
    obtain ⟨n, rfl⟩ : ∃ n', n = n' + 1 := ⟨n - 1, by omega⟩
    have e40 : 40 + nI f = nI (40 + f) := nI_add 40 f
    have ej : A + (j + 1) * st = A + j * st + st := by rw [Nat.add_mul, Nat.one_mul, Nat.add_assoc]
    have h37 : v = A + j * st → ∀ z : Int32, z = nI (cp_nrm f v) → wX_addValues_37 post (wX_addValues_6 post (nI f) (nI B) (nI st) f_cap f_clock f_length f_staged n) (nI f) (nI B) (nI st) (nI (A + j * st)) (nI v) z f_cap f_clock f_length f_staged a_text sX a_starred a_occupied a_misfirePolicy a_concurrencyPolicy a_running a_started a_completed a_dropped a_cancelled a_misfires := by
      intro ev z ez
      subst ez
      have hv64 := cp_nrmb (f := f) (v := v) (by omega)
      unfold wX_addValues_37
      rw [e40, nI_clamp (show 40 + f < 2 ^ 31 by omega)]
      refine ⟨vp_in_nI (by omega) (by decide), vp_in_nI (by omega) (by decide), nm_e (nm_r ((nI_add _ _).trans (congrArg nI ej.symm)) (nm_r (nI_1 v) (ih (v + 1) n (j + 1) _ (by omega) (by omega) (by omega) (by omega) ?_ ?_ ?_)))⟩
      · intro i hi
        by_cases e : i < j
        · have := h2 i e
          omega
        · rw [show i = j by omega]
          omega
      · intro i hi
        rw [pk_uLn hi]
        exact h3 i hi
      · intro w hw
        rw [pk_uLs, cb_or hv64, Bool.or_eq_true, h4 w hw, decide_eq_true_iff]
        constructor
        · rintro ((h | ⟨i, i1, i2⟩) | h)
          · exact Or.inl h
          · exact Or.inr ⟨i, by omega, i2⟩
          · exact Or.inr ⟨j, by omega, by rw [← ev]; exact h⟩
        · rintro (h | ⟨i, i1, i2⟩)
          · exact Or.inl (Or.inl h)
          · by_cases e : i < j
            · exact Or.inl (Or.inr ⟨i, e, i2⟩)
            · rw [show i = j by omega, ← ev] at i2
              exact Or.inr i2
    refine pk_lt B v (fun z => absurd z (by omega)) (fun _ => pk_eq v (A + j * st) (fun e => ?_) (fun e => nm_r (nI_1 v) (ih (v + 1) n j sX (by omega) (by omega) (by omega) h1b (fun i hi => by have := h2 i hi; omega) h3 h4)))
    refine pk_eq f 4 (fun e4 => pk_eq v 7 (fun e7 => h37 e 0 ?_) (fun e7 => h37 e _ ?_)) (fun e4 => h37 e _ ?_)
    · unfold cp_nrm
      rw [if_pos ⟨e4, e7⟩]
      rfl
    · unfold cp_nrm
      rw [if_neg (fun z => e7 z.2)]
    · unfold cp_nrm
      rw [if_neg (fun z => e4 z.1)]
theorem cx_av {f A B st : Nat} (hf : f < 5) (hAB : A ≤ B) (hB : B < 60) (hst : 1 ≤ st) (hst2 : st ≤ 99) {post : SX → Prop} (hp : ∀ sX', cp_AV f A B st a_sets sX' → post (f_cap, f_clock, f_length, f_staged, a_text, sX', a_starred, a_occupied, a_misfirePolicy, a_concurrencyPolicy, a_running, a_started, a_completed, a_dropped, a_cancelled, a_misfires)) : wpX_addValues post (f_cap, f_clock, f_length, f_staged, a_text, a_sets, a_starred, a_occupied, a_misfirePolicy, a_concurrencyPolicy, a_running, a_started, a_completed, a_dropped, a_cancelled, a_misfires) (nI f) (nI A) (nI B) (nI st) := by
  refine ⟨B + 1 - A + 1, ?_⟩
  have t := cx_avloop hf hB hst hst2 hp (B + 1 - A) A (B + 1 - A + 1) 0 a_sets (by omega) (by omega) (by omega) (by omega) (fun i hi => absurd hi (by omega)) (fun i _ => rfl) (fun w _ => ⟨fun h => Or.inl h, fun h => h.elim id (fun ⟨i, i1, _⟩ => absurd i1 (by omega))⟩)
  rw [Nat.zero_mul, Nat.add_zero] at t
  exact t
theorem cp_en0 {o : Option Nat} {A B : Prop} (f : (o = none ∨ o = some 0) → B) (g : ∀ v, o = some v → 1 ≤ v → A) (hb : ∀ v, o = some v → v ≤ 99) : (1 ≤ cp_en o → A) ∧ (¬ 1 ≤ cp_en o → B) := by
  cases o with
  | none => exact br_f (by decide) (f (Or.inl rfl))
  | some v =>
    have := hb v rfl
    by_cases e : v = 0
    · subst e
      exact br_f (by decide) (f (Or.inr rfl))
    · exact br_t (nI_le (a := 1) (by omega) (by omega)) (g v rfl (by omega))
theorem cp_atb {f p q v : Nat} (hpq : p ≤ q) (h : cp_at tx f p q = some v) : v ≤ 99 := by
  unfold cp_at at h
  by_cases h3 : q - p = 3
  · rw [if_pos h3] at h
    have h5 := (cp_nm_b h).2.2.2.2
    have : cf_hi f ≤ 59 := by
      unfold cf_hi
      repeat' split
      all_goals omega
    omega
  · rw [if_neg h3] at h
    exact cp_numb hpq h
end
end
section
/-! X's parser: one item, one field -/
section
variable {tx : Nat → Nat} {f_cap f_clock f_length f_staged : Int32} {a_text : Nat → Int32} {a_sets : Nat → Int64} {a_starred a_occupied a_misfirePolicy a_concurrencyPolicy a_running a_started a_completed a_dropped a_cancelled a_misfires : Nat → Int32}
theorem cx_item (hT : ∀ j, a_text j = nI (tx j)) (hC : ∀ j, tx j ≤ 126) {f a b : Nat} (hf : f < 5) (hab : a ≤ b) (hb : b ≤ 64) {post : Int32 → SX → Prop} (hS : ∀ A B st sX', cp_I tx f a b A B st → cp_AV f A B st a_sets sX' → post 1 (f_cap, f_clock, f_length, f_staged, a_text, sX', a_starred, a_occupied, a_misfirePolicy, a_concurrencyPolicy, a_running, a_started, a_completed, a_dropped, a_cancelled, a_misfires)) (hF : (∀ A B st, ¬ cp_I tx f a b A B st) → post 0 (f_cap, f_clock, f_length, f_staged, a_text, a_sets, a_starred, a_occupied, a_misfirePolicy, a_concurrencyPolicy, a_running, a_started, a_completed, a_dropped, a_cancelled, a_misfires)) : wpX_parseItem post (f_cap, f_clock, f_length, f_staged, a_text, a_sets, a_starred, a_occupied, a_misfirePolicy, a_concurrencyPolicy, a_running, a_started, a_completed, a_dropped, a_cancelled, a_misfires) (nI f) (nI a) (nI b) := by
  have hhi := cf_hi59 hf
  have hlo := cf_lo1 hf
  have hlh := cf_lohi hf
  obtain ⟨s1, s2, s3, s4⟩ := cp_finds (tx := tx) (c := 47) hab
  obtain ⟨S, eS⟩ : ∃ S, cp_find tx 47 a b = S := ⟨_, rfl⟩
  rw [eS] at s1 s2 s3 s4
  obtain ⟨d1, d2, d3, d4⟩ := cp_finds (tx := tx) (c := 45) s1
  obtain ⟨D, eD⟩ : ∃ D, cp_find tx 45 a S = D := ⟨_, rfl⟩
  rw [eD] at d1 d2 d3 d4
  have hI : ∀ A B st, cp_I tx f a b A B st ↔ ((S < b → cp_num tx (S + 1) b = some st) ∧ (¬ S < b → st = 1) ∧ 1 ≤ st ∧ ((S = a + 1 ∧ tx a = 42 ∧ A = cf_lo f ∧ B = cf_hi f) ∨ (¬ (S = a + 1 ∧ tx a = 42) ∧ cp_at tx f a D = some A ∧ (D < S → cp_at tx f (D + 1) S = some B) ∧ (¬ D < S → B = if S < b then cf_hi f else A) ∧ cf_lo f ≤ A ∧ A ≤ B ∧ B ≤ cf_hi f))) := by
    intro A B st
    unfold cp_I
    rw [eS, eD]
  -- behind the step
  have h95 : ∀ (st : Nat) (x5 : Int32), (S < b → cp_num tx (S + 1) b = some st) → (¬ S < b → st = 1) → 1 ≤ st → st ≤ 99 → ¬ (S = a + 1 ∧ tx a = 42) → (x5 = 0 ↔ ¬ S < b) → wX_parseItem_95 post (nI f) (nI a) (nI S) x5 (nI st) (nI (cf_lo f)) (nI (cf_hi f)) f_cap f_clock f_length f_staged a_text a_sets a_starred a_occupied a_misfirePolicy a_concurrencyPolicy a_running a_started a_completed a_dropped a_cancelled a_misfires := by
    intro st x5 t1 t2 t3 t4 ns hx5
    have hfail : ∀ oB : Option Nat, (D < S → cp_at tx f (D + 1) S = oB) → (¬ D < S → oB = if S < b then some (cf_hi f) else cp_at tx f a D) → (∀ A B, cp_at tx f a D = some A → oB = some B → cf_lo f ≤ A → A ≤ B → B ≤ cf_hi f → False) → post 0 (f_cap, f_clock, f_length, f_staged, a_text, a_sets, a_starred, a_occupied, a_misfirePolicy, a_concurrencyPolicy, a_running, a_started, a_completed, a_dropped, a_cancelled, a_misfires) := by
      intro oB o1 o2 hno
      refine hF (fun A B st' h => ?_)
      obtain ⟨_, _, _, h4⟩ := (hI A B st').mp h
      rcases h4 with ⟨z1, z2, _⟩ | ⟨_, i1, i2, i3, i4, i5, i6⟩
      · exact ns ⟨z1, z2⟩
      · refine hno A B i1 ?_ i4 i5 i6
        by_cases e : D < S
        · rw [← o1 e]; exact i2 e
        · rw [o2 e, i3 e]
          by_cases e2 : S < b
          · rw [if_pos e2, if_pos e2]
          · rw [if_neg e2, if_neg e2]; exact i1
    have h150 : ∀ oB : Option Nat, (D < S → cp_at tx f (D + 1) S = oB) → (¬ D < S → oB = if S < b then some (cf_hi f) else cp_at tx f a D) → (∀ B, oB = some B → B ≤ 99) → wX_parseItem_150 post (nI f) (nI st) (nI (cf_lo f)) (nI (cf_hi f)) (cp_en (cp_at tx f a D)) (cp_en oB) f_cap f_clock f_length f_staged a_text a_sets a_starred a_occupied a_misfirePolicy a_concurrencyPolicy a_running a_started a_completed a_dropped a_cancelled a_misfires := by
      intro oB o1 o2 ob
      cases hA : cp_at tx f a D with
      | none =>
        refine br_t (Int32.lt_of_lt_of_le (by decide : (-1 : Int32) < 0) (nI_pos' (by omega))) (hfail oB o1 o2 (fun A B e1 => ?_))
        rw [hA] at e1
        exact absurd e1 (by simp)
      | some A =>
        have hA9 := cp_atb d1 hA
        have hf2 : (∀ B, oB = some B → cf_lo f ≤ A → A ≤ B → B ≤ cf_hi f → False) → post 0 (f_cap, f_clock, f_length, f_staged, a_text, a_sets, a_starred, a_occupied, a_misfirePolicy, a_concurrencyPolicy, a_running, a_started, a_completed, a_dropped, a_cancelled, a_misfires) := fun hno => hfail oB o1 o2 (fun A' B' e1 e2 g1 g2 g3 => by
          rw [hA] at e1
          have e := Option.some.inj e1
          subst e
          exact hno B' e2 g1 g2 g3)
        refine pk_lt A (cf_lo f) (fun z => hf2 (fun B _ g1 _ _ => by omega)) (fun z => ?_)
        cases hB : oB with
        | none =>
          refine br_f (Int32.not_lt.mpr (Int32.le_trans (by decide : (-1 : Int32) ≤ 0) (nI_pos' (by omega)))) (br_f (fun z2 => absurd (Int32.lt_of_le_of_lt z2 (by decide : (-1 : Int32) < 0)) (nI_pos (by omega))) (hf2 (fun B e2 _ _ _ => ?_)))
          rw [hB] at e2
          exact absurd e2 (by simp)
        | some B =>
          have hB9 := ob B hB
          have hf3 : (cf_lo f ≤ A → A ≤ B → B ≤ cf_hi f → False) → post 0 (f_cap, f_clock, f_length, f_staged, a_text, a_sets, a_starred, a_occupied, a_misfirePolicy, a_concurrencyPolicy, a_running, a_started, a_completed, a_dropped, a_cancelled, a_misfires) := fun hno => hf2 (fun B' e2 g1 g2 g3 => by
            rw [hB] at e2
            have e := Option.some.inj e2
            subst e
            exact hno g1 g2 g3)
          refine pk_lt (cf_hi f) B (fun z2 => hf3 (fun _ _ g3 => by omega)) (fun z2 => pk_le A B (fun z3 => cx_av hf z3 (by omega) t3 t4 (fun sX' hav => hS A B st sX' ((hI A B st).mpr ⟨t1, t2, t3, Or.inr ⟨ns, hA, fun e => ?_, fun e => ?_, z, z3, z2⟩⟩) hav)) (fun z3 => hf3 (fun _ g2 _ => by omega)))
          · rw [o1 e, hB]
          · have t := o2 e
            rw [hB, hA] at t
            by_cases e2 : S < b
            · rw [if_pos e2] at t ⊢
              exact Option.some.inj t
            · rw [if_neg e2] at t ⊢
              exact Option.some.inj t
    have h128 : ∀ z0 : Int32, (¬ D < S → z0 = cp_en (if S < b then some (cf_hi f) else cp_at tx f a D)) → wX_parseItem_128 post (nI f) (nI S) (nI st) (nI (cf_lo f)) (nI (cf_hi f)) (nI D) (cp_en (cp_at tx f a D)) z0 f_cap f_clock f_length f_staged a_text a_sets a_starred a_occupied a_misfirePolicy a_concurrencyPolicy a_running a_started a_completed a_dropped a_cancelled a_misfires := by
      intro z0 hz
      refine pk_le S D (fun z => ?_) (fun z => cx_atom hT hC hf (by omega) (by omega) ?_ (nI_1 D))
      · rw [hz (by omega)]
        refine h150 _ (fun e => absurd e (by omega)) (fun _ => rfl) (fun B e => ?_)
        by_cases e2 : S < b
        · rw [if_pos e2] at e
          have := Option.some.inj e
          omega
        · rw [if_neg e2] at e
          exact cp_atb d1 e
      · exact h150 _ (fun _ => rfl) (fun e => absurd z e) (fun B e => cp_atb (by omega) e)
    unfold wX_parseItem_95
    refine cx_find hT hC 45 (by decide) s1 (by omega) ?_
    rw [eD]
    refine cx_atom hT hC hf d1 (by omega) ?_
    refine br_c (fun z => h128 _ (fun _ => ?_)) (fun z => h128 _ (fun _ => ?_))
    · rw [if_neg (hx5.mp z)]
    · rw [if_pos (Decidable.of_not_not (fun e => z (hx5.mpr e)))]
      rfl
  have h41 : ∀ (o : Option Nat) (x5 : Int32), o = (if S < b then cp_num tx (S + 1) b else some 1) → (x5 = 0 ↔ ¬ S < b) → wX_parseItem_41 post (nI f) (nI a) (nI S) x5 (cp_en o) f_cap f_clock f_length f_staged a_text a_sets a_starred a_occupied a_misfirePolicy a_concurrencyPolicy a_running a_started a_completed a_dropped a_cancelled a_misfires := by
    intro o x5 ho hx5
    have hob : ∀ v, o = some v → v ≤ 99 := by
      intro v hv
      rw [ho] at hv
      by_cases e : S < b
      · rw [if_pos e] at hv
        exact cp_numb (by omega) hv
      · rw [if_neg e] at hv
        have := Option.some.inj hv
        omega
    refine cp_en0 (fun hno => hF (fun A B st h => ?_)) (fun st est hst => ?_) hob
    · obtain ⟨h1, h2, h3, _⟩ := (hI A B st).mp h
      have eo : o = some st := by
        rw [ho]
        by_cases e : S < b
        · rw [if_pos e]; exact h1 e
        · rw [if_neg e, h2 e]
      rcases hno with h0 | h0
      · rw [h0] at eo; exact absurd eo (by simp)
      · rw [h0] at eo
        have := Option.some.inj eo
        omega
    · have t1 : S < b → cp_num tx (S + 1) b = some st := fun e => by
        rw [est, if_pos e] at ho; exact ho.symm
      have t2 : ¬ S < b → st = 1 := fun e => by
        rw [est, if_neg e] at ho; exact Option.some.inj ho
      have t4 := hob st est
      rw [est]
      refine cx_lo hf (cx_hi hf (pk_eq (S - a) 1 (fun z => ⟨vp_in_nI (by omega) (by decide), pk_eq (tx a) 42 (fun z2 => ?_) (fun z2 => h95 st x5 t1 t2 hst t4 (fun w => z2 w.2) hx5) (cp_txt hT (by omega)) rfl (by have := hC a; omega)⟩) (fun z => h95 st x5 t1 t2 hst t4 (fun w => z (by omega)) hx5) (pk_sub s1)))
      exact cx_av hf hlh (by omega) hst t4 (fun sX' hav => hS _ _ st sX' ((hI _ _ st).mpr ⟨t1, t2, hst, Or.inl ⟨by omega, z2, rfl, rfl⟩⟩) hav)
  unfold wpX_parseItem
  dsimp only
  refine cx_find hT hC 47 (by decide) hab hb ?_
  rw [eS]
  refine pk_le b S (fun z => br_t rfl ?_) (fun z => br_f (by decide) (cx_num hT hC (by omega) hb ?_ (nI_1 S)))
  · exact h41 (some 1) 0 (by rw [if_neg (by omega)]) ⟨fun _ => by omega, fun _ => rfl⟩
  · exact h41 (cp_num tx (S + 1) b) 1 (by rw [if_pos z]) ⟨fun w => absurd w (by decide), fun w => absurd z w⟩
/-- what a field of the text means: the values g' that it adds to g -/
def cp_P (tx : Nat → Nat) (f e : Nat) : Nat → Nat → (Nat → Prop) → (Nat → Prop) → Prop
  | 0, _, _, _ => False
  | k + 1, a, g, g' => ∃ A B st, cp_I tx f a (cp_find tx 44 a e) A B st ∧ (cp_find tx 44 a e < e → cp_P tx f e k (cp_find tx 44 a e + 1) (fun v => g v ∨ cp_sv f A B st v) g') ∧ (¬ cp_find tx 44 a e < e → ∀ v, g' v ↔ (g v ∨ cp_sv f A B st v))
theorem cp_Pu {f e : Nat} : ∀ (k a : Nat) (g g' g2 g2' : Nat → Prop), (∀ v, g v ↔ g2 v) → cp_P tx f e k a g g' → cp_P tx f e k a g2 g2' → ∀ v, g' v ↔ g2' v := by
  intro k
  induction k with
  | zero => intro a g g' g2 g2' _ h; exact absurd h id
  | succ k ih =>
    intro a g g' g2 g2' hg ⟨A, B, st, h1, h2, h3⟩ ⟨A', B', st', h1', h2', h3'⟩
    obtain ⟨rfl, rfl, rfl⟩ := cp_Iu h1 h1'
    by_cases hz : cp_find tx 44 a e < e
    · exact ih _ _ _ _ _ (fun v => or_congr_left (hg v)) (h2 hz) (h2' hz)
    · intro v
      rw [h3 hz v, h3' hz v, hg v]
theorem cp_Pm {f e : Nat} (hf : f < 5) : ∀ (k a : Nat) (g g' : Nat → Prop), a ≤ e → (∀ v, g v → cf_lo f ≤ v ∧ v ≤ cf_top f) → cp_P tx f e k a g g' → ∀ v, g' v → cf_lo f ≤ v ∧ v ≤ cf_top f := by
  intro k
  induction k with
  | zero => intro a g g' _ _ h; exact absurd h id
  | succ k ih =>
    intro a g g' hae hg ⟨A, B, st, h1, h2, h3⟩
    obtain ⟨s1, s2, s3, s4⟩ := cp_finds (tx := tx) (c := 44) hae
    obtain ⟨b1, b2, b3, b4, b5⟩ := cp_Ib hf s1 h1
    have hsv : ∀ v, g v ∨ cp_sv f A B st v → cf_lo f ≤ v ∧ v ≤ cf_top f := by
      intro v hv
      rcases hv with hv | ⟨j, j1, j2⟩
      · exact hg v hv
      · subst j2
        unfold cp_nrm
        by_cases e4 : f = 4
        · subst e4
          have e1 : cf_lo 4 = 0 := rfl
          have e2 : cf_top 4 = 6 := rfl
          have e3 : cf_hi 4 = 7 := rfl
          rw [e1, e2]
          rw [e3] at b3
          split
          · omega
          · omega
        · have et : cf_top f = cf_hi f := (cf_ht hf e4).symm
          rw [if_neg (fun z => e4 z.1), et]
          omega
    by_cases hz : cp_find tx 44 a e < e
    · exact ih _ _ _ (by omega) hsv (h2 hz)
    · intro v hv
      exact hsv v ((h3 hz v).mp hv)
theorem cx_fieldloop (hT : ∀ j, a_text j = nI (tx j)) (hC : ∀ j, tx j ≤ 126) {f e : Nat} (hf : f < 5) (he : e ≤ 64) {post : Int32 → SX → Prop} : ∀ (k a n : Nat) (g : Nat → Prop) (sX : Nat → Int64), a ≤ e → e < a + k → e + 1 < n + a → (∀ i, i ≠ 40 + f → sX i = a_sets i) → (∀ v, v < 64 → (cb_bit (sX (40 + f)) v = true ↔ g v)) → (∀ sX' g', cp_P tx f e k a g g' → (∀ v, v < 64 → (cb_bit (sX' (40 + f)) v = true ↔ g' v)) → (∀ i, i ≠ 40 + f → sX' i = a_sets i) → post 1 (f_cap, f_clock, f_length, f_staged, a_text, sX', a_starred, a_occupied, a_misfirePolicy, a_concurrencyPolicy, a_running, a_started, a_completed, a_dropped, a_cancelled, a_misfires)) → ((∀ g', ¬ cp_P tx f e k a g g') → ∀ sX', (∀ i, i ≠ 40 + f → sX' i = a_sets i) → post 0 (f_cap, f_clock, f_length, f_staged, a_text, sX', a_starred, a_occupied, a_misfirePolicy, a_concurrencyPolicy, a_running, a_started, a_completed, a_dropped, a_cancelled, a_misfires)) → wX_parseField_41 post (nI f) (nI e) n (nI a) (nI a) f_cap f_clock f_length f_staged a_text sX a_starred a_occupied a_misfirePolicy a_concurrencyPolicy a_running a_started a_completed a_dropped a_cancelled a_misfires := by
  intro k
  induction k with
  | zero =>
    intro a n g sX hae h2 hn hs hg hS hF
    omega
  | succ k ih =>
    intro a n g sX hae h2 hn hs hg hS hF
    obtain ⟨s1, s2, s3, s4⟩ := cp_finds (tx := tx) (c := 44) hae
    unfold cp_P at hS hF
    obtain ⟨b, eb⟩ : ∃ b, cp_find tx 44 a e = b := ⟨_, rfl⟩
    rw [eb] at s1 s2 s3 s4 hS hF
    have h65 : ∀ n', e < n' + b → wX_parseField_65 post (wX_parseField_41 post (nI f) (nI e) n') (nI f) (nI e) (nI a) (nI b) f_cap f_clock f_length f_staged a_text sX a_starred a_occupied a_misfirePolicy a_concurrencyPolicy a_running a_started a_completed a_dropped a_cancelled a_misfires := by
      intro n' hn'
      unfold wX_parseField_65
      refine cx_item hT hC hf s1 (by omega) (fun A B st sX' hI hav => ?_) (fun hno => ?_)
      · have hs' : ∀ i, i ≠ 40 + f → sX' i = a_sets i := fun i hi => (hav.1 i hi).trans (hs i hi)
        have hg' : ∀ v, v < 64 → (cb_bit (sX' (40 + f)) v = true ↔ (g v ∨ cp_sv f A B st v)) := fun v hv => by rw [hav.2 v hv, hg v hv]
        refine br_f (by decide) (nm_r (nI_1 b) (nm_r (nI_1 b) ?_))
        by_cases e1 : b < e
        · refine ih (b + 1) n' (fun v => g v ∨ cp_sv f A B st v) sX' (by omega) (by omega) (by omega) hs' hg' (fun sX2 g2 hP => hS sX2 g2 ⟨A, B, st, hI, fun _ => hP, fun z => absurd e1 z⟩) (fun hno => hF (fun g2 hP => ?_))
          obtain ⟨A', B', st', hI', hP', _⟩ := hP
          obtain ⟨rfl, rfl, rfl⟩ := cp_Iu hI hI'
          exact hno g2 (hP' e1)
        · obtain ⟨n', rfl⟩ : ∃ m, n' = m + 1 := ⟨n' - 1, by omega⟩
          exact pk_lt e (b + 1) (fun _ => hS sX' (fun v => g v ∨ cp_sv f A B st v) ⟨A, B, st, hI, fun z => absurd z e1, fun _ v => Iff.rfl⟩ hg' hs') (fun z => absurd z (by omega))
      · refine br_t rfl (hF (fun g2 hP => ?_) sX hs)
        obtain ⟨A, B, st, hI, _⟩ := hP
        exact hno A B st hI
    have hwalk : ∀ m i n, i + m = b → a ≤ i → e + 1 < n + i → wX_parseField_41 post (nI f) (nI e) n (nI a) (nI i) f_cap f_clock f_length f_staged a_text sX a_starred a_occupied a_misfirePolicy a_concurrencyPolicy a_running a_started a_completed a_dropped a_cancelled a_misfires := by
      intro m
      induction m with
      | zero =>
        intro i n hm hi hn1
        obtain ⟨n, rfl⟩ : ∃ n', n = n' + 1 := ⟨n - 1, by omega⟩
        have ei : i = b := by omega
        subst ei
        refine pk_lt e i (fun z => absurd z (by omega)) (fun _ => pk_eq i e (fun z => h65 n (by omega)) (fun z => ⟨vp_in_nI (by omega) (by decide), ?_⟩))
        exact pk_eq (tx i) 44 (fun _ => h65 n (by omega)) (fun z2 => absurd (s4 (by omega)) z2) (cp_txt hT (by omega)) rfl (by have := hC i; omega)
      | succ m ihm =>
        intro i n hm hi hn1
        obtain ⟨n, rfl⟩ : ∃ n', n = n' + 1 := ⟨n - 1, by omega⟩
        refine pk_lt e i (fun z => absurd z (by omega)) (fun _ => pk_eq i e (fun z => absurd z (by omega)) (fun z => ⟨vp_in_nI (by omega) (by decide), ?_⟩))
        exact pk_eq (tx i) 44 (fun z2 => absurd z2 (s3 i hi (by omega))) (fun _ => nm_r (nI_1 i) (ihm (i + 1) n (by omega) (by omega) (by omega))) (cp_txt hT (by omega)) rfl (by have := hC i; omega)
    exact hwalk (b - a) a n (by omega) (by omega) hn
theorem cx_field (hT : ∀ j, a_text j = nI (tx j)) (hC : ∀ j, tx j ≤ 126) {f a e : Nat} (hf : f < 5) (hae : a < e) (he : e ≤ 64) {post : Int32 → SX → Prop} (hS : ∀ sX' g', cp_P tx f e (e + 1) a (fun _ => False) g' → (∀ v, v < 64 → (cb_bit (sX' (40 + f)) v = true ↔ g' v)) → (∀ i, i ≠ 40 + f → sX' i = a_sets i) → post 1 (f_cap, f_clock, f_length, f_staged, a_text, sX', upd a_starred (40 + f) (cb_b (decide (tx a = 42))), a_occupied, a_misfirePolicy, a_concurrencyPolicy, a_running, a_started, a_completed, a_dropped, a_cancelled, a_misfires)) (hF : (∀ g', ¬ cp_P tx f e (e + 1) a (fun _ => False) g') → ∀ sX', (∀ i, i ≠ 40 + f → sX' i = a_sets i) → post 0 (f_cap, f_clock, f_length, f_staged, a_text, sX', upd a_starred (40 + f) (cb_b (decide (tx a = 42))), a_occupied, a_misfirePolicy, a_concurrencyPolicy, a_running, a_started, a_completed, a_dropped, a_cancelled, a_misfires)) : wpX_parseField post (f_cap, f_clock, f_length, f_staged, a_text, a_sets, a_starred, a_occupied, a_misfirePolicy, a_concurrencyPolicy, a_running, a_started, a_completed, a_dropped, a_cancelled, a_misfires) (nI f) (nI a) (nI e) := by
  have e40 : 40 + nI f = nI (40 + f) := nI_add 40 f
  have hi : vp_in (nI (40 + f)) 45 := vp_in_nI (by omega) (by decide)
  have hloop : ∀ c : Bool, decide (tx a = 42) = c → wX_parseField_41 post (nI f) (nI e) (e + 2) (nI a) (nI a) f_cap f_clock f_length f_staged a_text (vp_updL a_sets (40 + f) 0) (upd a_starred (40 + f) (cb_b c)) a_occupied a_misfirePolicy a_concurrencyPolicy a_running a_started a_completed a_dropped a_cancelled a_misfires := by
    intro c hc
    rw [hc] at hS hF
    refine cx_fieldloop (a_sets := a_sets) hT hC hf he (e + 1) a (e + 2) (fun _ => False) _ (by omega) (by omega) (by omega) (fun i hi => pk_uLn hi) (fun v _ => ?_) hS hF
    rw [pk_uLs, cb_bit0]
    exact ⟨fun z => Bool.noConfusion z, fun z => absurd z id⟩
  unfold wpX_parseField
  dsimp only
  rw [e40, nI_clamp (show 40 + f < 2 ^ 31 by omega)]
  refine ⟨hi, nm_e ⟨vp_in_nI (by omega) (by decide), pk_eq (tx a) 42 (fun z => ⟨hi, nm_r (by rw [cb_v1]; exact rfl) ⟨e + 2, hloop true (decide_eq_true z)⟩⟩) (fun z => ⟨hi, nm_r (by rw [cb_v0]; exact rfl) ⟨e + 2, hloop false (decide_eq_false z)⟩⟩) (cp_txt hT (by omega)) rfl (by have := hC a; omega)⟩⟩
end
end
section
/-! Y's parser -/
section
variable {tx : Nat → Nat} {f_len f_clock f_cap f_staged f_pos f_val f_cy f_cm f_cd : Int32} {a_text a_sets a_domStar a_dowStar a_occ a_mis a_con a_cnt a_fs a_fe : Nat → Int32}
theorem cy_dig {c : Nat} (hc : c ≤ 126) {x : Int32} {post : Int32 → Prop} (hp : post (cb_b (cp_dg c))) (ex : x = nI c) : wpY_digit post (f_len, f_clock, f_cap, f_staged, f_pos, f_val, f_cy, f_cm, f_cd, a_text, a_sets, a_domStar, a_dowStar, a_occ, a_mis, a_con, a_cnt, a_fs, a_fe) x := by
  subst ex
  refine pk_lt c 48 (fun z => ?_) (fun z => pk_lt 57 c (fun z2 => ?_) (fun z2 => ?_))
  · rw [cp_dgf (by omega)] at hp; exact hp
  · rw [cp_dgf (by omega)] at hp; exact hp
  · rw [cp_dgt.mpr (by omega)] at hp; exact hp
theorem cy_up {c : Nat} (hc : c ≤ 126) {x : Int32} {post : Int32 → Prop} (hp : post (nI (cp_up c))) (ex : x = nI c) : wpY_upper post (f_len, f_clock, f_cap, f_staged, f_pos, f_val, f_cy, f_cm, f_cd, a_text, a_sets, a_domStar, a_dowStar, a_occ, a_mis, a_con, a_cnt, a_fs, a_fe) x := by
  subst ex
  unfold cp_up at hp
  have h17 : ¬ (97 ≤ c ∧ c ≤ 122) → wY_upper_17 post (nI c) f_len f_clock f_cap f_staged f_pos f_val f_cy f_cm f_cd a_text a_sets a_domStar a_dowStar a_occ a_mis a_con a_cnt a_fs a_fe := by
    intro hn
    rw [if_neg hn] at hp
    refine pk_lt c 65 (fun z => ?_) (fun z => pk_lt 90 c (fun z2 => ?_) (fun z2 => ?_))
    · rw [if_neg (by omega)] at hp; exact hp
    · rw [if_neg (by omega)] at hp; exact hp
    · rw [if_pos (by omega)] at hp; exact hp
  refine pk_lt c 97 (fun z => h17 (by omega)) (fun z => pk_lt 122 c (fun z2 => h17 (by omega)) (fun z2 => ?_))
  rw [if_pos (by omega)] at hp
  rw [show nI c - 32 = nI (c - 32) from pk_sub (b := 32) (by omega)]
  exact hp
theorem cy_101 {f v : Nat} (hf : f < 5) (hv : v ≤ 99) {x : Int32} {post : Int32 → SY → Prop} (h1 : cf_lo f ≤ v → v ≤ cf_hi f → post 1 (f_len, f_clock, f_cap, f_staged, f_pos, nI v, f_cy, f_cm, f_cd, a_text, a_sets, a_domStar, a_dowStar, a_occ, a_mis, a_con, a_cnt, a_fs, a_fe)) (h0 : ¬ (cf_lo f ≤ v ∧ v ≤ cf_hi f) → post 0 (f_len, f_clock, f_cap, f_staged, f_pos, f_val, f_cy, f_cm, f_cd, a_text, a_sets, a_domStar, a_dowStar, a_occ, a_mis, a_con, a_cnt, a_fs, a_fe)) (ex : x = nI v) : wY_atom_101 post (nI f) x f_len f_clock f_cap f_staged f_pos f_val f_cy f_cm f_cd a_text a_sets a_domStar a_dowStar a_occ a_mis a_con a_cnt a_fs a_fe := by
  subst ex
  have hhi := cf_hi59 hf
  have hlo := cf_lo1 hf
  exact cy_lo hf (pk_lt v (cf_lo f) (fun z => h0 (by omega)) (fun z => cy_hi hf (pk_le v (cf_hi f) (fun z2 => h1 z z2) (fun z2 => h0 (by omega)))))
theorem cy_atom (hT : ∀ j, a_text j = nI (tx j)) (hC : ∀ j, tx j ≤ 126) {f p e : Nat} (hf : f < 5) (hp : p ≤ 64) (he : e ≤ 64) {post : Int32 → SY → Prop} (hN : cp_ay tx f p e = none → ∀ pos, post 0 (f_len, f_clock, f_cap, f_staged, pos, f_val, f_cy, f_cm, f_cd, a_text, a_sets, a_domStar, a_dowStar, a_occ, a_mis, a_con, a_cnt, a_fs, a_fe)) (hS : ∀ v q, cp_ay tx f p e = some (v, q) → post 1 (f_len, f_clock, f_cap, f_staged, nI q, nI v, f_cy, f_cm, f_cd, a_text, a_sets, a_domStar, a_dowStar, a_occ, a_mis, a_con, a_cnt, a_fs, a_fe)) : wpY_atom post (f_len, f_clock, f_cap, f_staged, nI p, f_val, f_cy, f_cm, f_cd, a_text, a_sets, a_domStar, a_dowStar, a_occ, a_mis, a_con, a_cnt, a_fs, a_fe) (nI f) (nI e) := by
  unfold cp_ay at hN hS
  refine pk_lt p e (fun z => ⟨vp_in_nI (by omega) (by decide), cy_dig (hC p) (cb_br (fun hd => ?_) (fun hd => ⟨vp_in_nI (by omega) (by decide), ?_⟩)) (cp_txt hT (by omega))⟩) (fun z => hN (by rw [if_neg (by omega)]) _)
  · rw [if_pos z, if_neg (by rw [hd]; decide)] at hN hS
    have e1 : nI p + 1 = nI (p + 1) := nI_1 p
    have e2 : nI p + 2 = nI (p + 2) := nI_add p 2
    have e3 : nI p + 3 = nI (p + 3) := nI_add p 3
    rw [e1, e2, e3]
    refine pk_lt (p + 2) e (fun z2 => ⟨vp_in_nI (by omega) (by decide), cy_up (hC p) ⟨vp_in_nI (by omega) (by decide), cy_up (hC (p + 1)) ⟨vp_in_nI (by omega) (by decide), cy_up (hC (p + 2)) ?_ (cp_txt hT (by omega))⟩ (cp_txt hT (by omega))⟩ (cp_txt hT (by omega))⟩) (fun z2 => hN (by rw [if_neg (by omega)]) _)
    rw [if_pos z2] at hN hS
    have ub : ∀ c, c ≤ 126 → cp_up c < 2 ^ 31 := by
      intro c hc
      unfold cp_up
      repeat' split
      all_goals omega
    have u1 := ub _ (hC p)
    have u2 := ub _ (hC (p + 1))
    have u3 := ub _ (hC (p + 2))
    have hno : (cp_up (tx p) = 0 ∨ cp_up (tx (p + 1)) = 0 ∨ cp_up (tx (p + 2)) = 0) → ∀ pos, post 0 (f_len, f_clock, f_cap, f_staged, pos, f_val, f_cy, f_cm, f_cd, a_text, a_sets, a_domStar, a_dowStar, a_occ, a_mis, a_con, a_cnt, a_fs, a_fe) := by
      intro h0
      rw [cp_upn h0] at hN
      exact hN rfl
    refine pk_eq (cp_up (tx p)) 0 (fun z1 => hno (Or.inl z1) _) (fun z1 => pk_eq (cp_up (tx (p + 1))) 0 (fun z3 => hno (Or.inr (Or.inl z3)) _) (fun z3 => pk_eq (cp_up (tx (p + 2))) 0 (fun z4 => hno (Or.inr (Or.inr z4)) _) (fun z4 => ?_)))
    obtain ⟨w1, l1, l2⟩ := cp_up0 z1
    obtain ⟨w2, l3, l4⟩ := cp_up0 z3
    obtain ⟨w3, l5, l6⟩ := cp_up0 z4
    have ec : nI (cp_up (tx p)) * 10000 + nI (cp_up (tx (p + 1))) * 100 + nI (cp_up (tx (p + 2))) = nI (cp_up (tx p) * 10000 + cp_up (tx (p + 1)) * 100 + cp_up (tx (p + 2))) := by
      rw [show nI (cp_up (tx p)) * 10000 = nI (cp_up (tx p) * 10000) from pk_mul _ 10000, show nI (cp_up (tx (p + 1))) * 100 = nI (cp_up (tx (p + 1)) * 100) from pk_mul _ 100, nI_add, nI_add]
    rw [ec]
    refine cy_name hf ⟨l1, l2⟩ ⟨l3, l4⟩ ⟨l5, l6⟩ ?_
    have enm : (if f = 3 then cp_mon (cp_up (tx p)) (cp_up (tx (p + 1))) (cp_up (tx (p + 2))) else if f = 4 then cp_dow (cp_up (tx p)) (cp_up (tx (p + 1))) (cp_up (tx (p + 2))) else none) = cp_nm f (tx p) (tx (p + 1)) (tx (p + 2)) := by
      unfold cp_nm
      rw [w1, w2, w3]
    rw [enm]
    cases hnm : cp_nm f (tx p) (tx (p + 1)) (tx (p + 2)) with
    | none =>
      rw [hnm] at hN
      exact br_f (by decide) (hN rfl _)
    | some v =>
      rw [hnm] at hS
      have hhi := cf_hi59 hf
      have hvb := (cp_nm_b hnm).2.2.2.2
      exact br_t (nI_pos' (by omega)) (nm_e (hS v (p + 3) rfl))
  · rw [if_pos z, if_pos hd] at hN hS
    have d1 := cp_dgt.mp hd
    have hx1 := cp_txt hT (show p < 2 ^ 31 by omega)
    have hx2 := cp_txt hT (show p + 1 < 2 ^ 31 by omega)
    have ev : a_text (nI p).toNatClampNeg - 48 = nI (tx p - 48) := by
      rw [hx1]
      exact pk_sub (b := 48) d1.1
    have h101 : ∀ (v q : Nat) (x y : Int32), cp_ny tx p e = some (v, q) → v ≤ 99 → x = nI v → y = nI q → wY_atom_101 post (nI f) x f_len f_clock f_cap f_staged y f_val f_cy f_cm f_cd a_text a_sets a_domStar a_dowStar a_occ a_mis a_con a_cnt a_fs a_fe := by
      intro v q x y hny hv ex ey
      subst ey
      rw [hny] at hN hS
      have hN : (if cf_lo f ≤ v ∧ v ≤ cf_hi f then some (v, q) else none) = none → ∀ pos, post 0 (f_len, f_clock, f_cap, f_staged, pos, f_val, f_cy, f_cm, f_cd, a_text, a_sets, a_domStar, a_dowStar, a_occ, a_mis, a_con, a_cnt, a_fs, a_fe) := hN
      have hS : ∀ v' q', (if cf_lo f ≤ v ∧ v ≤ cf_hi f then some (v, q) else none) = some (v', q') → post 1 (f_len, f_clock, f_cap, f_staged, nI q', nI v', f_cy, f_cm, f_cd, a_text, a_sets, a_domStar, a_dowStar, a_occ, a_mis, a_con, a_cnt, a_fs, a_fe) := hS
      exact cy_101 hf hv (fun g1 g2 => hS v q (if_pos ⟨g1, g2⟩)) (fun g => hN (if_neg g) _) ex
    refine nm_r ev (nm_r (nI_1 p) (pk_le e (p + 1) (fun z2 => h101 (tx p - 48) (p + 1) _ _ ?_ (by omega) rfl rfl) (fun z2 => ⟨vp_in_nI (by omega) (by decide), cy_dig (hC (p + 1)) (cb_br (fun hd2 => h101 (tx p - 48) (p + 1) _ _ ?_ (by omega) rfl rfl) (fun hd2 => ⟨vp_in_nI (by omega) (by decide), ?_⟩)) hx2⟩)))
    · unfold cp_ny
      rw [if_pos ⟨z, hd⟩, if_neg (fun w => absurd w.1 (by omega))]
    · unfold cp_ny
      rw [if_pos ⟨z, hd⟩, if_neg (fun w => by rw [hd2] at w; exact Bool.noConfusion w.2)]
    · have d2 := cp_dgt.mp hd2
      refine nm_r (e' := nI ((tx p - 48) * 10 + (tx (p + 1) - 48))) ?_ (nm_r (nI_1 (p + 1)) (h101 ((tx p - 48) * 10 + (tx (p + 1) - 48)) (p + 2) _ _ ?_ (by omega) rfl rfl))
      · rw [hx2, show nI (tx p - 48) * 10 = nI ((tx p - 48) * 10) from pk_mul _ 10, show nI (tx (p + 1)) - 48 = nI (tx (p + 1) - 48) from pk_sub (b := 48) d2.1, nI_add]
      · unfold cp_ny
        rw [if_pos ⟨z, hd⟩, if_pos ⟨by omega, hd2⟩]
theorem cy_156 (hT : ∀ j, a_text j = nI (tx j)) (hC : ∀ j, tx j ≤ 126) {f q e : Nat} (hf : f < 5) (hq : q ≤ 64) (he : e ≤ 64) {x4 x5 : Int32} {B : Nat} {sg : Bool} {post : Int32 → SY → Prop} {J : Int32 → Int32 → Int32 → Int32 → Int32 → Int32 → Int32 → Int32 → Int32 → Int32 → (Nat → Int32) → (Nat → Int32) → (Nat → Int32) → (Nat → Int32) → (Nat → Int32) → (Nat → Int32) → (Nat → Int32) → (Nat → Int32) → (Nat → Int32) → (Nat → Int32) → Prop} (hN : cp_sy tx q e = none → ∀ pos, post 0 (f_len, f_clock, f_cap, f_staged, pos, f_val, f_cy, f_cm, f_cd, a_text, a_sets, a_domStar, a_dowStar, a_occ, a_mis, a_con, a_cnt, a_fs, a_fe)) (hS : ∀ st p s, cp_sy tx q e = some (st, p, s) → ∃ n, wY_parseField_318 post J (nI f) (nI e) x4 (nI (if s = true ∧ sg = true then cf_hi f else B)) (nI st) n x5 f_len f_clock f_cap f_staged (nI p) f_val f_cy f_cm f_cd a_text a_sets a_domStar a_dowStar a_occ a_mis a_con a_cnt a_fs a_fe) : wY_parseField_156 post J (nI f) (nI e) x4 x5 (nI B) (cb_b sg) f_len f_clock f_cap f_staged (nI q) f_val f_cy f_cm f_cd a_text a_sets a_domStar a_dowStar a_occ a_mis a_con a_cnt a_fs a_fe := by
  unfold cp_sy at hN hS
  have hno : ¬ (q < e ∧ tx q = 47) → ∃ n, wY_parseField_318 post J (nI f) (nI e) x4 (nI B) 1 n x5 f_len f_clock f_cap f_staged (nI q) f_val f_cy f_cm f_cd a_text a_sets a_domStar a_dowStar a_occ a_mis a_con a_cnt a_fs a_fe := by
    intro hn
    rw [if_neg hn] at hS
    exact hS 1 q false rfl
  refine pk_le e q (fun z => hno (by omega)) (fun z => ⟨vp_in_nI (by omega) (by decide), pk_eq (tx q) 47 (fun z2 => ?_) (fun z2 => hno (fun w => z2 w.2)) (cp_txt hT (by omega)) rfl (by have := hC q; omega)⟩)
  rw [if_pos ⟨z, z2⟩] at hN hS
  have hx1 := cp_txt hT (show q + 1 < 2 ^ 31 by omega)
  have hx2 := cp_txt hT (show q + 1 + 1 < 2 ^ 31 by omega)
  have h295 : ∀ (v p : Nat) (x y : Int32), cp_ny tx (q + 1) e = some (v, p) → v ≤ 99 → x = nI v → y = nI p → wY_parseField_295 post J (nI f) (nI e) x4 x5 (nI B) (cb_b sg) x f_len f_clock f_cap f_staged y f_val f_cy f_cm f_cd a_text a_sets a_domStar a_dowStar a_occ a_mis a_con a_cnt a_fs a_fe := by
    intro v p x y hny hv ex ey
    subst ex ey
    rw [hny] at hN hS
    have hN : (if v = 0 then none else some (v, p, true)) = none → ∀ pos, post 0 (f_len, f_clock, f_cap, f_staged, pos, f_val, f_cy, f_cm, f_cd, a_text, a_sets, a_domStar, a_dowStar, a_occ, a_mis, a_con, a_cnt, a_fs, a_fe) := hN
    have hS : ∀ st p' s, (if v = 0 then none else some (v, p, true)) = some (st, p', s) → ∃ n, wY_parseField_318 post J (nI f) (nI e) x4 (nI (if s = true ∧ sg = true then cf_hi f else B)) (nI st) n x5 f_len f_clock f_cap f_staged (nI p') f_val f_cy f_cm f_cd a_text a_sets a_domStar a_dowStar a_occ a_mis a_con a_cnt a_fs a_fe := hS
    refine pk_eq v 0 (fun z0 => hN (if_pos z0) _) (fun z0 => cb_br (fun es => ?_) (fun es => cy_hi hf ?_))
    · have t := hS v p true (if_neg z0)
      rw [if_neg (fun w => by rw [es] at w; exact Bool.noConfusion w.2)] at t
      exact t
    · have t := hS v p true (if_neg z0)
      rw [if_pos ⟨rfl, es⟩] at t
      exact t
  refine nm_r (nI_1 q) (pk_le e (q + 1) (fun z3 => hN ?_ _) (fun z3 => ⟨vp_in_nI (by omega) (by decide), cy_dig (hC (q + 1)) (cb_br (fun hd => hN ?_ _) (fun hd => ⟨vp_in_nI (by omega) (by decide), ?_⟩)) hx1⟩))
  · have t : cp_ny tx (q + 1) e = none := by
      unfold cp_ny
      rw [if_neg (fun w => absurd w.1 (by omega))]
    rw [t]
  · have t : cp_ny tx (q + 1) e = none := by
      unfold cp_ny
      rw [if_neg (fun w => by rw [hd] at w; exact Bool.noConfusion w.2)]
    rw [t]
  · have d1 := cp_dgt.mp hd
    have ev : a_text (nI (q + 1)).toNatClampNeg - 48 = nI (tx (q + 1) - 48) := by
      rw [hx1]
      exact pk_sub (b := 48) d1.1
    refine nm_r ev (nm_r (nI_1 (q + 1)) (pk_le e (q + 1 + 1) (fun z4 => h295 (tx (q + 1) - 48) (q + 1 + 1) _ _ ?_ (by omega) rfl rfl) (fun z4 => ⟨vp_in_nI (by omega) (by decide), cy_dig (hC (q + 1 + 1)) (cb_br (fun hd2 => h295 (tx (q + 1) - 48) (q + 1 + 1) _ _ ?_ (by omega) rfl rfl) (fun hd2 => ⟨vp_in_nI (by omega) (by decide), ?_⟩)) hx2⟩)))
    · unfold cp_ny
      rw [if_pos ⟨by omega, hd⟩, if_neg (fun w => absurd w.1 (by omega))]
    · unfold cp_ny
      rw [if_pos ⟨by omega, hd⟩, if_neg (fun w => by rw [hd2] at w; exact Bool.noConfusion w.2)]
    · have d2 := cp_dgt.mp hd2
      refine nm_r (e' := nI ((tx (q + 1) - 48) * 10 + (tx (q + 1 + 1) - 48))) ?_ (nm_r (nI_1 (q + 1 + 1)) (h295 ((tx (q + 1) - 48) * 10 + (tx (q + 1 + 1) - 48)) (q + 1 + 2) _ _ ?_ (by omega) rfl rfl))
      · rw [hx2, show nI (tx (q + 1) - 48) * 10 = nI ((tx (q + 1) - 48) * 10) from pk_mul _ 10, show nI (tx (q + 1 + 1)) - 48 = nI (tx (q + 1 + 1) - 48) from pk_sub (b := 48) d2.1, nI_add]
      · unfold cp_ny
        rw [if_pos ⟨by omega, hd⟩, if_pos ⟨by omega, hd2⟩]
theorem cy_item (hT : ∀ j, a_text j = nI (tx j)) (hC : ∀ j, tx j ≤ 126) {f a b e n gd : Nat} (hf : f < 5) (hab : a ≤ b) (hbe : b ≤ e) (he : e ≤ 64) (hae : a < e) (hgd : gd < 64) (hnc : ∀ j, a ≤ j → j < b → tx j ≠ 44) (hb : b < e → tx b = 44) {post : Int32 → SY → Prop} (hF : (∀ A B st, ¬ cp_I tx f a b A B st) → ∀ pos val, post 0 (f_len, f_clock, f_cap, f_staged, pos, val, f_cy, f_cm, f_cd, a_text, a_sets, a_domStar, a_dowStar, a_occ, a_mis, a_con, a_cnt, a_fs, a_fe)) (hS : ∀ A B st p val, a < p → p ≤ b → A ≤ 99 → B ≤ cf_hi f → 1 ≤ st → st ≤ 99 → (p = b → cp_I tx f a b A B st) → (p < b → ∀ A B st, ¬ cp_I tx f a b A B st) → ∃ n', wY_parseField_318 post (wY_parseField_8 post (nI f) (nI e) n) (nI f) (nI e) (nI gd) (nI B) (nI st) n' (nI A) f_len f_clock f_cap f_staged (nI p) val f_cy f_cm f_cd a_text a_sets a_domStar a_dowStar a_occ a_mis a_con a_cnt a_fs a_fe) : wY_parseField_8 post (nI f) (nI e) (n + 1) (nI gd) f_len f_clock f_cap f_staged (nI a) f_val f_cy f_cm f_cd a_text a_sets a_domStar a_dowStar a_occ a_mis a_con a_cnt a_fs a_fe := by
  have hfail : (∀ A B st, ¬ cp_J tx f a e A B st b) → ∀ pos val, post 0 (f_len, f_clock, f_cap, f_staged, pos, val, f_cy, f_cm, f_cd, a_text, a_sets, a_domStar, a_dowStar, a_occ, a_mis, a_con, a_cnt, a_fs, a_fe) := fun h => hF (fun A B st hI => h A B st (cp_IJ hab hbe hb hI).2)
  have hgo : ∀ A B st p val, cp_J tx f a e A B st p → (∀ A' B' st' p', cp_J tx f a e A' B' st' p' → p' = p) → ∃ n', wY_parseField_318 post (wY_parseField_8 post (nI f) (nI e) n) (nI f) (nI e) (nI gd) (nI B) (nI st) n' (nI A) f_len f_clock f_cap f_staged (nI p) val f_cy f_cm f_cd a_text a_sets a_domStar a_dowStar a_occ a_mis a_con a_cnt a_fs a_fe := by
    intro A B st p val hJ hu
    have ha44 : tx a ≠ 44 := by
      rcases hJ with ⟨t1, _⟩ | ⟨_, q, hq, _⟩
      · rw [t1]; decide
      · have k := cp_A2 hq
        exact (k.2.2.1 a (by omega) k.1).2.1
    obtain ⟨g1, g2, g3, g4, g5, g6, g7⟩ := cp_JI hae hbe hab hb hJ ha44
    have hA : A ≤ 99 := by
      have hl := cf_lo1 hf
      have hh := cf_hi59 hf
      rcases hJ with ⟨_, _, rfl, _⟩ | ⟨_, q, hq, _⟩
      · omega
      · have k : A ≤ cf_hi f := (cp_A2 hq).2.2.2.2.2
        omega
    refine hS A B st p val g1 g2 hA g4 g5 g6 g7 (fun hlt A' B' st' hI => ?_)
    have := hu A' B' st' b (cp_IJ hab hbe hb hI).2
    omega
  refine pk_le 64 gd (fun z => absurd z (by omega)) (fun _ => pk_lt a e (fun _ => ⟨vp_in_nI (by omega) (by decide), pk_eq (tx a) 42 (fun z => ?_) (fun z => ?_) (cp_txt hT (by omega)) rfl (by have := hC a; omega)⟩) (fun z => absurd z (by omega)))
  · refine cy_lo hf (cy_hi hf (nm_r (nI_1 a) ?_))
    refine cy_156 (sg := false) hT hC hf (by omega) he (fun hno => ?_) (fun st p s hs => ?_)
    · intro pos
      refine hfail (fun A B st hJ => ?_) pos _
      rcases hJ with ⟨_, ⟨s, hs⟩, _⟩ | ⟨t1, _⟩
      · rw [hno] at hs; exact absurd hs (by simp)
      · exact t1 z
    · rw [if_neg (fun w => absurd w.2 (by decide))]
      refine hgo _ _ st p _ (Or.inl ⟨z, ⟨s, hs⟩, rfl, rfl⟩) (fun A' B' st' p' hJ => ?_)
      rcases hJ with ⟨_, ⟨s', hs'⟩, _⟩ | ⟨t1, _⟩
      · have e := Option.some.inj (hs.symm.trans hs')
        exact (congrArg (fun x => x.2.1) e).symm
      · exact absurd z t1
  · refine cy_atom hT hC hf (by omega) he (fun hno => ?_) (fun A q hq => ?_)
    · intro pos
      refine br_t rfl (hfail (fun A B st hJ => ?_) pos _)
      rcases hJ with ⟨t1, _⟩ | ⟨_, q, hq, _⟩
      · exact z t1
      · rw [hno] at hq; exact absurd hq (by simp)
    · have k := cp_A2 hq
      have k2 : q ≤ e := k.2.1
      have huq : ∀ A' q', cp_ay tx f a e = some (A', q') → A' = A ∧ q' = q := by
        intro A' q' hq'
        have e := Option.some.inj (hq.symm.trans hq')
        exact ⟨(congrArg (fun x => x.1) e).symm, (congrArg (fun x => x.2) e).symm⟩
      have hsingle : ¬ (q < e ∧ tx q = 45) → wY_parseField_156 post (wY_parseField_8 post (nI f) (nI e) n) (nI f) (nI e) (nI gd) (nI A) (nI A) 1 f_len f_clock f_cap f_staged (nI q) (nI A) f_cy f_cm f_cd a_text a_sets a_domStar a_dowStar a_occ a_mis a_con a_cnt a_fs a_fe := by
        intro hnd
        refine cy_156 (sg := true) hT hC hf (by omega) he (fun hno => ?_) (fun st p s hs => ?_)
        · intro pos
          refine hfail (fun A' B st hJ => ?_) pos _
          rcases hJ with ⟨t1, _⟩ | ⟨_, q', hq', h⟩
          · exact z t1
          · obtain ⟨_, rfl⟩ := huq _ _ hq'
            rcases h with ⟨r1, r2, _⟩ | ⟨_, s, hs, _⟩
            · exact hnd ⟨r1, r2⟩
            · rw [hno] at hs; exact absurd hs (by simp)
        · refine hgo A _ st p _ (Or.inr ⟨z, q, hq, Or.inr ⟨hnd, s, hs, ?_⟩⟩) (fun A' B' st' p' hJ => ?_)
          · cases s with
            | true => rw [if_pos ⟨rfl, rfl⟩, if_pos rfl]
            | false => rw [if_neg (fun w => absurd w.1 (by decide)), if_neg (by decide)]
          · rcases hJ with ⟨t1, _⟩ | ⟨_, q', hq', h⟩
            · exact absurd t1 z
            · obtain ⟨_, rfl⟩ := huq _ _ hq'
              rcases h with ⟨r1, r2, _⟩ | ⟨_, s', hs', _⟩
              · exact absurd ⟨r1, r2⟩ hnd
              · have e := Option.some.inj (hs.symm.trans hs')
                exact (congrArg (fun x => x.2.1) e).symm
      refine br_f (by decide) (pk_le e q (fun z2 => hsingle (by omega)) (fun z2 => ⟨vp_in_nI (by omega) (by decide), pk_eq (tx q) 45 (fun z3 => nm_r (nI_1 q) ?_) (fun z3 => hsingle (fun w => z3 w.2)) (cp_txt hT (by omega)) rfl (by have := hC q; omega)⟩))
      refine cy_atom hT hC hf (by omega) he (fun hno => ?_) (fun B q2 hq2 => ?_)
      · intro pos
        refine br_t rfl (hfail (fun A' B st hJ => ?_) pos _)
        rcases hJ with ⟨t1, _⟩ | ⟨_, q', hq', h⟩
        · exact z t1
        · obtain ⟨_, rfl⟩ := huq _ _ hq'
          rcases h with ⟨_, _, q2, hq2, _⟩ | ⟨hnd, _⟩
          · rw [hno] at hq2; exact absurd hq2 (by simp)
          · exact hnd ⟨z2, z3⟩
      · have l := cp_A2 hq2
        have l2 : q2 ≤ e := l.2.1
        have l6 : B ≤ cf_hi f := l.2.2.2.2.2
        have k6 : A ≤ cf_hi f := k.2.2.2.2.2
        have hhi := cf_hi59 hf
        have huq2 : ∀ B' q2', cp_ay tx f (q + 1) e = some (B', q2') → B' = B ∧ q2' = q2 := by
          intro B' q2' hq'
          have e := Option.some.inj (hq2.symm.trans hq')
          exact ⟨(congrArg (fun x => x.1) e).symm, (congrArg (fun x => x.2) e).symm⟩
        refine br_f (by decide) (pk_le A B (fun z4 => ?_) (fun z4 => hfail (fun A' B' st hJ => ?_) _ _))
        · refine cy_156 (sg := false) hT hC hf (by omega) he (fun hno => ?_) (fun st p s hs => ?_)
          · intro pos
            refine hfail (fun A' B' st hJ => ?_) pos _
            rcases hJ with ⟨t1, _⟩ | ⟨_, q', hq', h⟩
            · exact z t1
            · obtain ⟨_, rfl⟩ := huq _ _ hq'
              rcases h with ⟨_, _, q2', hq2', _, s, hs⟩ | ⟨hnd, _⟩
              · obtain ⟨_, rfl⟩ := huq2 _ _ hq2'
                rw [hno] at hs; exact absurd hs (by simp)
              · exact hnd ⟨z2, z3⟩
          · rw [if_neg (fun w => absurd w.2 (by decide))]
            refine hgo A B st p _ (Or.inr ⟨z, q, hq, Or.inl ⟨z2, z3, q2, hq2, z4, s, hs⟩⟩) (fun A' B' st' p' hJ => ?_)
            rcases hJ with ⟨t1, _⟩ | ⟨_, q', hq', h⟩
            · exact absurd t1 z
            · obtain ⟨_, rfl⟩ := huq _ _ hq'
              rcases h with ⟨_, _, q2', hq2', _, s', hs'⟩ | ⟨hnd, _⟩
              · obtain ⟨_, rfl⟩ := huq2 _ _ hq2'
                have e := Option.some.inj (hs.symm.trans hs')
                exact (congrArg (fun x => x.2.1) e).symm
              · exact absurd ⟨z2, z3⟩ hnd
        · rcases hJ with ⟨t1, _⟩ | ⟨_, q', hq', h⟩
          · exact z t1
          · obtain ⟨rfl, rfl⟩ := huq _ _ hq'
            rcases h with ⟨_, _, q2', hq2', hAB, _⟩ | ⟨hnd, _⟩
            · obtain ⟨rfl, rfl⟩ := huq2 _ _ hq2'
              omega
            · exact hnd ⟨z2, z3⟩
end
end
section
/-! Y's parser: one field -/
def cp_PS (f A B st : Nat) (sY sY' : Nat → Int32) : Prop := (∀ i, (∃ w, i = 1088 + cf_off f + w ∧ cp_sv f A B st w) → sY' i = 1) ∧ (∀ i, ¬ (∃ w, i = 1088 + cf_off f + w ∧ cp_sv f A B st w) → sY' i = sY i)
theorem cp_nrmt {f v : Nat} (hf : f < 5) (hv : v ≤ cf_hi f) : cp_nrm f v ≤ cf_top f := by
  unfold cp_nrm
  by_cases e4 : f = 4
  · subst e4
    have e2 : cf_top 4 = 6 := rfl
    have e3 : cf_hi 4 = 7 := rfl
    rw [e2]
    rw [e3] at hv
    split
    · omega
    · omega
  · have et : cf_top f = cf_hi f := (cf_ht hf e4).symm
    rw [if_neg (fun z => e4 z.1), et]
    exact hv
section
variable {tx : Nat → Nat} {f_len f_clock f_cap f_staged f_pos f_val f_cy f_cm f_cd : Int32} {a_text a_sets a_domStar a_dowStar a_occ a_mis a_con a_cnt a_fs a_fe : Nat → Int32}
theorem cy_put {f v : Nat} (hf : f < 5) (hv : v ≤ cf_hi f) {post : SY → Prop} (hp : post (f_len, f_clock, f_cap, f_staged, f_pos, f_val, f_cy, f_cm, f_cd, a_text, upd a_sets (1088 + cf_off f + cp_nrm f v) 1, a_domStar, a_dowStar, a_occ, a_mis, a_con, a_cnt, a_fs, a_fe)) : wpY_put post (f_len, f_clock, f_cap, f_staged, f_pos, f_val, f_cy, f_cm, f_cd, a_text, a_sets, a_domStar, a_dowStar, a_occ, a_mis, a_con, a_cnt, a_fs, a_fe) (nI f) (nI v) := by
  have hhi := cf_hi59 hf
  have h13 : ∀ x : Int32, x = nI (cp_nrm f v) → wY_put_13 post (nI f) x f_len f_clock f_cap f_staged f_pos f_val f_cy f_cm f_cd a_text a_sets a_domStar a_dowStar a_occ a_mis a_con a_cnt a_fs a_fe := by
    intro x ex
    subst ex
    have ht := cp_nrmt hf hv
    have htb := cf_topb hf
    unfold wY_put_13
    refine cy_off hf ?_
    have e : 1088 + nI (cf_off f) + nI (cp_nrm f v) = nI (1088 + cf_off f + cp_nrm f v) := by
      rw [show 1088 + nI (cf_off f) = nI (1088 + cf_off f) from nI_add 1088 _, nI_add]
    rw [e, nI_clamp (by omega), cb_v1]
    exact ⟨vp_in_nI (by omega) (by decide), nm_e hp⟩
  refine pk_eq f 4 (fun e4 => pk_eq v 7 (fun e7 => h13 0 ?_) (fun e7 => h13 _ ?_)) (fun e4 => h13 _ ?_)
  · unfold cp_nrm
    rw [if_pos ⟨e4, e7⟩]
    rfl
  · unfold cp_nrm
    rw [if_neg (fun z => e7 z.2)]
  · unfold cp_nrm
    rw [if_neg (fun z => e4 z.1)]
theorem cy_318 (hT : ∀ j, a_text j = nI (tx j)) (hC : ∀ j, tx j ≤ 126) {f e A B st p gd : Nat} (hf : f < 5) (he : e ≤ 64) (hp : p ≤ 64) (hB : B ≤ cf_hi f) (hst : 1 ≤ st) (hst2 : st ≤ 99) {post : Int32 → SY → Prop} {J : Int32 → Int32 → Int32 → Int32 → Int32 → Int32 → Int32 → Int32 → Int32 → Int32 → (Nat → Int32) → (Nat → Int32) → (Nat → Int32) → (Nat → Int32) → (Nat → Int32) → (Nat → Int32) → (Nat → Int32) → (Nat → Int32) → (Nat → Int32) → (Nat → Int32) → Prop} (h1 : ¬ p < e → ∀ sY', cp_PS f A B st a_sets sY' → post 1 (f_len, f_clock, f_cap, f_staged, nI p, f_val, f_cy, f_cm, f_cd, a_text, sY', a_domStar, a_dowStar, a_occ, a_mis, a_con, a_cnt, a_fs, a_fe)) (h2 : p < e → tx p = 44 → ∀ sY', cp_PS f A B st a_sets sY' → J (nI (gd + 1)) f_len f_clock f_cap f_staged (nI (p + 1)) f_val f_cy f_cm f_cd a_text sY' a_domStar a_dowStar a_occ a_mis a_con a_cnt a_fs a_fe) (h3 : p < e → tx p ≠ 44 → ∀ sY', cp_PS f A B st a_sets sY' → post 0 (f_len, f_clock, f_cap, f_staged, nI p, f_val, f_cy, f_cm, f_cd, a_text, sY', a_domStar, a_dowStar, a_occ, a_mis, a_con, a_cnt, a_fs, a_fe)) : ∀ (k j n : Nat) (sY : Nat → Int32), B + 1 ≤ A + j * st + k → A + j * st < 100000 → k < n → (∀ i, i < j → A + i * st ≤ B) → (∀ q, (∃ i, i < j ∧ q = 1088 + cf_off f + cp_nrm f (A + i * st)) → sY q = 1) → (∀ q, ¬ (∃ i, i < j ∧ q = 1088 + cf_off f + cp_nrm f (A + i * st)) → sY q = a_sets q) → wY_parseField_318 post J (nI f) (nI e) (nI gd) (nI B) (nI st) n (nI (A + j * st)) f_len f_clock f_cap f_staged (nI p) f_val f_cy f_cm f_cd a_text sY a_domStar a_dowStar a_occ a_mis a_con a_cnt a_fs a_fe := by
  have hhi := cf_hi59 hf
  have hend : ∀ (j : Nat) (sY : Nat → Int32), B < A + j * st → (∀ i, i < j → A + i * st ≤ B) → (∀ q, (∃ i, i < j ∧ q = 1088 + cf_off f + cp_nrm f (A + i * st)) → sY q = 1) → (∀ q, ¬ (∃ i, i < j ∧ q = 1088 + cf_off f + cp_nrm f (A + i * st)) → sY q = a_sets q) → cp_PS f A B st a_sets sY := by
    intro j sY g1 g2 g3 g4
    refine ⟨fun q hq => g3 q ?_, fun q hq => g4 q (fun hz => hq ?_)⟩
    · obtain ⟨w, rfl, i, i1, rfl⟩ := hq
      refine ⟨i, ?_, rfl⟩
      by_cases e1 : i < j
      · exact e1
      · have := Nat.mul_le_mul_right st (show j ≤ i by omega)
        omega
    · obtain ⟨i, i1, rfl⟩ := hz
      exact ⟨_, rfl, i, g2 i i1, rfl⟩
  have hexit : ∀ (sY : Nat → Int32), cp_PS f A B st a_sets sY → ((nI p < nI e → (vp_in (nI p) 64 ∧ (((a_text (nI p).toNatClampNeg) = 44 → (∀ y, y = nI p + 1 → (∀ x, x = nI gd + 1 → (J x f_len f_clock f_cap f_staged y f_val f_cy f_cm f_cd a_text sY a_domStar a_dowStar a_occ a_mis a_con a_cnt a_fs a_fe)))) ∧ (¬ (a_text (nI p).toNatClampNeg) = 44 → (post 0 (f_len, f_clock, f_cap, f_staged, nI p, f_val, f_cy, f_cm, f_cd, a_text, sY, a_domStar, a_dowStar, a_occ, a_mis, a_con, a_cnt, a_fs, a_fe)))))) ∧ (¬ nI p < nI e → (post 1 (f_len, f_clock, f_cap, f_staged, nI p, f_val, f_cy, f_cm, f_cd, a_text, sY, a_domStar, a_dowStar, a_occ, a_mis, a_con, a_cnt, a_fs, a_fe)))) := by
    intro sY hps
    exact pk_lt p e (fun z => ⟨vp_in_nI (by omega) (by decide), pk_eq (tx p) 44 (fun z2 => nm_r (nI_1 p) (nm_r (nI_1 gd) (h2 z z2 sY hps))) (fun z2 => h3 z z2 sY hps) (cp_txt hT (by omega)) rfl (by have := hC p; omega)⟩) (fun z => h1 (by omega) sY hps)
  intro k
  induction k with
  | zero =>
    intro j n sY g0 g0b hn g1 g2 g3
    obtain ⟨n, rfl⟩ : ∃ n', n = n' + 1 := ⟨n - 1, by omega⟩
    exact pk_lt B (A + j * st) (fun z => hexit sY (hend j sY z g1 g2 g3)) (fun z => absurd z (by omega))
  | succ k ih =>
    intro j n sY g0 g0b hn g1 g2 g3
    obtain ⟨n, rfl⟩ : ∃ n', n = n' + 1 := ⟨n - 1, by omega⟩
    have ej : A + (j + 1) * st = A + j * st + st := by rw [Nat.add_mul, Nat.one_mul, Nat.add_assoc]
    refine pk_lt B (A + j * st) (fun z => hexit sY (hend j sY z g1 g2 g3)) (fun z => cy_put hf (by omega) ?_)
    refine nm_r ((nI_add _ _).trans (congrArg nI ej.symm)) (ih (j + 1) n _ (by omega) (by omega) (by omega) ?_ ?_ ?_)
    · intro i hi
      by_cases e1 : i < j
      · exact g1 i e1
      · rw [show i = j by omega]; exact z
    · intro q ⟨i, i1, i2⟩
      by_cases e1 : q = 1088 + cf_off f + cp_nrm f (A + j * st)
      · rw [e1, pk_us]
      · rw [pk_un e1]
        refine g2 q ⟨i, ?_, i2⟩
        by_cases e2 : i < j
        · exact e2
        · rw [show i = j by omega] at i2
          exact absurd i2 e1
    · intro q hq
      rw [pk_un (fun e1 => hq ⟨j, by omega, e1⟩)]
      exact g3 q (fun ⟨i, i1, i2⟩ => hq ⟨i, by omega, i2⟩)
/-- region f of the staged cells holds g -/
def cp_G (f : Nat) (sY : Nat → Int32) (g : Nat → Prop) : Prop := ∀ v, v ≤ cf_top f → (sY (1088 + cf_off f + v) = 1 ∧ g v) ∨ (sY (1088 + cf_off f + v) = 0 ∧ ¬ g v)
def cp_Fr (f : Nat) (sY sY' : Nat → Int32) : Prop := ∀ i, (i < 1088 + cf_off f ∨ 1088 + cf_off f + cf_top f < i) → sY' i = sY i
theorem cp_PSF {f A B st : Nat} (hf : f < 5) (hB : B ≤ cf_hi f) {sY sY' : Nat → Int32} (h : cp_PS f A B st sY sY') : cp_Fr f sY sY' := by
  intro i hi
  refine h.2 i ?_
  intro ⟨w, e, j, j1, j2⟩
  have := cp_nrmt (f := f) (v := A + j * st) hf (by omega)
  omega
theorem cp_PSG {f A B st : Nat} {sY sY' : Nat → Int32} {g : Nat → Prop} (hG : cp_G f sY g) (h : cp_PS f A B st sY sY') : cp_G f sY' (fun v => g v ∨ cp_sv f A B st v) := by
  intro v hv
  by_cases e : cp_sv f A B st v
  · exact Or.inl ⟨h.1 _ ⟨v, rfl, e⟩, Or.inr e⟩
  · have t := h.2 (1088 + cf_off f + v) (fun ⟨w, e1, e2⟩ => e (by
      have e3 : w = v := by omega
      rw [← e3]; exact e2))
    rcases hG v hv with ⟨g1, g2⟩ | ⟨g1, g2⟩
    · exact Or.inl ⟨t.trans g1, Or.inl g2⟩
    · exact Or.inr ⟨t.trans g1, fun z => z.elim g2 e⟩
theorem cp_FrT {f : Nat} {a b c : Nat → Int32} (h1 : cp_Fr f a b) (h2 : cp_Fr f b c) : cp_Fr f a c := fun i hi => (h2 i hi).trans (h1 i hi)
theorem cy_fieldloop (hT : ∀ j, a_text j = nI (tx j)) (hC : ∀ j, tx j ≤ 126) {f e : Nat} (hf : f < 5) (he : e ≤ 64) {post : Int32 → SY → Prop} : ∀ (k a n gd : Nat) (g : Nat → Prop) (sY : Nat → Int32) (val : Int32), a ≤ e → e < a + k → k < n → gd ≤ a → cp_Fr f a_sets sY → cp_G f sY g → (∀ sY' g' pos val, cp_P tx f e k a g g' → cp_G f sY' g' → cp_Fr f a_sets sY' → post 1 (f_len, f_clock, f_cap, f_staged, pos, val, f_cy, f_cm, f_cd, a_text, sY', a_domStar, a_dowStar, a_occ, a_mis, a_con, a_cnt, a_fs, a_fe)) → ((∀ g', ¬ cp_P tx f e k a g g') → ∀ sY' pos val, cp_Fr f a_sets sY' → post 0 (f_len, f_clock, f_cap, f_staged, pos, val, f_cy, f_cm, f_cd, a_text, sY', a_domStar, a_dowStar, a_occ, a_mis, a_con, a_cnt, a_fs, a_fe)) → wY_parseField_8 post (nI f) (nI e) n (nI gd) f_len f_clock f_cap f_staged (nI a) val f_cy f_cm f_cd a_text sY a_domStar a_dowStar a_occ a_mis a_con a_cnt a_fs a_fe := by
  intro k
  induction k with
  | zero =>
    intro a n gd g sY val hae h2
    omega
  | succ k ih =>
    intro a n gd g sY val hae h2 hn hgd hFr hG hS hF
    obtain ⟨n, rfl⟩ : ∃ n', n = n' + 1 := ⟨n - 1, by omega⟩
    obtain ⟨s1, s2, s3, s4⟩ := cp_finds (tx := tx) (c := 44) hae
    unfold cp_P at hS hF
    obtain ⟨b, eb⟩ : ∃ b, cp_find tx 44 a e = b := ⟨_, rfl⟩
    rw [eb] at s1 s2 s3 s4 hS hF
    by_cases hlt : a < e
    · refine cy_item hT hC hf s1 s2 he hlt (by omega) s3 s4 (fun hno pos val => hF (fun g' hP => ?_) sY pos val hFr) (fun A B st p val p1 p2 hA hB hst hst2 hI hnI => ⟨B + 2, ?_⟩)
      · obtain ⟨A, B, st, hI, _⟩ := hP
        exact hno A B st hI
      · have hhi := cf_hi59 hf
        have t := cy_318 (A := A) (gd := gd) (a_sets := sY) (f_val := val) (J := wY_parseField_8 post (nI f) (nI e) n) (post := post) (f_len := f_len) (f_clock := f_clock) (f_cap := f_cap) (f_staged := f_staged) (f_cy := f_cy) (f_cm := f_cm) (f_cd := f_cd) (a_domStar := a_domStar) (a_dowStar := a_dowStar) (a_occ := a_occ) (a_mis := a_mis) (a_con := a_con) (a_cnt := a_cnt) (a_fs := a_fs) (a_fe := a_fe) hT hC hf he (show p ≤ 64 by omega) hB hst hst2 (fun z sY' hps => ?_) (fun z z2 sY' hps => ?_) (fun z z2 sY' hps => ?_) (B + 1) 0 (B + 2) sY (by omega) ?_ (by omega) (fun i hi => absurd hi (by omega)) (fun q ⟨i, i1, _⟩ => absurd i1 (by omega)) (fun q _ => rfl)
        · rw [Nat.zero_mul, Nat.add_zero] at t
          exact t
        · have epb : p = b := by omega
          have hI := hI epb
          exact hS sY' _ _ _ ⟨A, B, st, hI, fun w => absurd w (by omega), fun _ v => Iff.rfl⟩ (cp_PSG hG hps) (cp_FrT hFr (cp_PSF hf hB hps))
        · have epb : p = b := by
            by_cases e1 : p < b
            · exact absurd z2 (s3 p (by omega) e1)
            · omega
          have hI := hI epb
          subst epb
          refine ih (p + 1) n (gd + 1) _ sY' val (by omega) (by omega) (by omega) (by omega) (cp_FrT hFr (cp_PSF hf hB hps)) (cp_PSG hG hps) (fun sY2 g2 pos val hP => hS sY2 g2 pos val ⟨A, B, st, hI, fun _ => hP, fun w => absurd z w⟩) (fun hno => hF (fun g2 hP => ?_))
          obtain ⟨A', B', st', hI', hP', _⟩ := hP
          obtain ⟨rfl, rfl, rfl⟩ := cp_Iu hI hI'
          exact hno g2 (hP' z)
        · have hpb : p < b := by
            by_cases e1 : p < b
            · exact e1
            · have e2 : p = b := by omega
              rw [e2] at z z2
              exact absurd (s4 z) z2
          refine hF (fun g2 hP => ?_) sY' _ _ (cp_FrT hFr (cp_PSF hf hB hps))
          obtain ⟨A', B', st', hI', _⟩ := hP
          exact hnI hpb A' B' st' hI'
        · omega
    · have hz : post 0 (f_len, f_clock, f_cap, f_staged, nI a, val, f_cy, f_cm, f_cd, a_text, sY, a_domStar, a_dowStar, a_occ, a_mis, a_con, a_cnt, a_fs, a_fe) := by
        refine hF (fun g2 hP => ?_) sY _ _ hFr
        obtain ⟨A, B, st, hI, _⟩ := hP
        have := (cp_IJ (e := e) s1 s2 s4 hI).1
        omega
      exact pk_le 64 gd (fun _ => hz) (fun _ => pk_lt a e (fun z => absurd z hlt) (fun _ => hz))
theorem cy_field (hT : ∀ j, a_text j = nI (tx j)) (hC : ∀ j, tx j ≤ 126) {f a e : Nat} (hf : f < 5) (hae : a < e) (he : e ≤ 64) (hG : cp_G f a_sets (fun _ => False)) {x y : Int32} {post : Int32 → SY → Prop} (hS : ∀ sY' g' pos val, cp_P tx f e (e + 1) a (fun _ => False) g' → cp_G f sY' g' → cp_Fr f a_sets sY' → post 1 (f_len, f_clock, f_cap, f_staged, pos, val, f_cy, f_cm, f_cd, a_text, sY', a_domStar, a_dowStar, a_occ, a_mis, a_con, a_cnt, a_fs, a_fe)) (hF : (∀ g', ¬ cp_P tx f e (e + 1) a (fun _ => False) g') → ∀ sY' pos val, cp_Fr f a_sets sY' → post 0 (f_len, f_clock, f_cap, f_staged, pos, val, f_cy, f_cm, f_cd, a_text, sY', a_domStar, a_dowStar, a_occ, a_mis, a_con, a_cnt, a_fs, a_fe)) (ex : x = nI a) (ey : y = nI e) : wpY_parseField post (f_len, f_clock, f_cap, f_staged, f_pos, f_val, f_cy, f_cm, f_cd, a_text, a_sets, a_domStar, a_dowStar, a_occ, a_mis, a_con, a_cnt, a_fs, a_fe) (nI f) x y := by
  subst ex ey
  exact ⟨e + 2, cy_fieldloop hT hC hf he (e + 1) a (e + 2) 0 (fun _ => False) a_sets f_val (by omega) (by omega) (by omega) (by omega) (fun _ _ => rfl) hG hS hF⟩
end
end
section
/-! compile: the fields of the text, X's side -/
def cp_is (tx : Nat → Nat) (i : Nat) : Bool := !decide (tx i = 32) && (decide (i = 0) || decide (tx (i - 1) = 32))
def cp_ie (tx : Nat → Nat) (len p : Nat) : Prop := tx p ≠ 32 ∧ (p + 1 = len ∨ tx (p + 1) = 32)
def cp_R (tx : Nat → Nat) (len : Nat) : Prop := cs_n (cp_is tx) len = 5 ∧ ∀ p, p < len → cp_is tx p = true → ∃ g, cp_P tx (cs_n (cp_is tx) p) (cp_find tx 32 p len) (cp_find tx 32 p len + 1) p (fun _ => False) g
section
variable {tx : Nat → Nat}
theorem cp_is0 {i : Nat} (h : tx i = 32) : cp_is tx i = false := by
  unfold cp_is
  rw [decide_eq_true h]
  rfl
theorem cp_is1 {i : Nat} (h : tx i ≠ 32) (h2 : i = 0 ∨ tx (i - 1) = 32) : cp_is tx i = true := by
  unfold cp_is
  rw [decide_eq_false h]
  rcases h2 with h2 | h2
  · rw [decide_eq_true h2]; rfl
  · rw [decide_eq_true h2, Bool.or_true]; rfl
theorem cp_is2 {i : Nat} (h : i ≠ 0) (h2 : tx (i - 1) ≠ 32) : cp_is tx i = false := by
  unfold cp_is
  rw [decide_eq_false h, decide_eq_false h2]
  exact Bool.and_false _
theorem cp_isn {i : Nat} (h : cp_is tx i = true) : tx i ≠ 32 := by
  intro e
  rw [cp_is0 e] at h
  exact Bool.noConfusion h
theorem cp_nlt {i p : Nat} (h1 : p < i) (h2 : cp_is tx p = true) : cs_n (cp_is tx) p < cs_n (cp_is tx) i := by
  have t := cs_n_le (Q := cp_is tx) (show p + 1 ≤ i by omega)
  rw [cs_n_t h2] at t
  omega
theorem cp_nex : ∀ n f, f < cs_n (cp_is tx) n → ∃ p, p < n ∧ cp_is tx p = true ∧ cs_n (cp_is tx) p = f := by
  intro n
  induction n with
  | zero => intro f h; exact absurd h (Nat.not_lt_zero f)
  | succ n ih =>
    intro f h
    cases e : cp_is tx n
    · rw [cs_n_f e] at h
      obtain ⟨p, p1, p2, p3⟩ := ih f h
      exact ⟨p, by omega, p2, p3⟩
    · rw [cs_n_t e] at h
      by_cases e2 : f = cs_n (cp_is tx) n
      · exact ⟨n, by omega, e, e2.symm⟩
      · obtain ⟨p, p1, p2, p3⟩ := ih f (by omega)
        exact ⟨p, by omega, p2, p3⟩
theorem cp_endlt {p len : Nat} (hp : p < len) (h : tx p ≠ 32) : p < cp_find tx 32 p len ∧ cp_find tx 32 p len ≤ len := by
  obtain ⟨s1, s2, s3, s4⟩ := cp_finds (tx := tx) (c := 32) (show p ≤ len by omega)
  refine ⟨?_, s2⟩
  by_cases e : p < cp_find tx 32 p len
  · exact e
  · have e2 : cp_find tx 32 p len = p := by omega
    rw [e2] at s4
    exact absurd (s4 hp) h
theorem cp_npos : ∀ i, tx i ≠ 32 → 1 ≤ cs_n (cp_is tx) (i + 1) := by
  intro i
  induction i with
  | zero =>
    intro h
    rw [cs_n_t (cp_is1 h (Or.inl rfl))]
    omega
  | succ i ih =>
    intro h
    by_cases e : tx i = 32
    · rw [cs_n_t (cp_is1 h (Or.inr e))]
      omega
    · have t := ih e
      have t2 := cs_n_le (Q := cp_is tx) (show i + 1 ≤ i + 1 + 1 by omega)
      omega
theorem cp_ngrow {a : Nat} (ha : tx a = 32) : ∀ k, tx (a + k) ≠ 32 → cs_n (cp_is tx) a < cs_n (cp_is tx) (a + k + 1) := by
  intro k
  induction k with
  | zero => intro h; exact absurd ha h
  | succ k ih =>
    intro h
    by_cases e : tx (a + k) = 32
    · have t : cp_is tx (a + (k + 1)) = true := cp_is1 h (Or.inr (by rw [show a + (k + 1) - 1 = a + k by omega]; exact e))
      rw [cs_n_t t]
      have t2 := cs_n_le (Q := cp_is tx) (show a ≤ a + (k + 1) by omega)
      omega
    · have t := ih e
      have t2 := cs_n_le (Q := cp_is tx) (show a + k + 1 ≤ a + (k + 1) + 1 by omega)
      omega
theorem cp_nend {p len : Nat} (hp : p < len) (h : cp_is tx p = true) : cp_ie tx len (cp_find tx 32 p len - 1) ∧ cs_n (cp_is tx) (cp_find tx 32 p len) = cs_n (cp_is tx) p + 1 := by
  obtain ⟨s1, s2, s3, s4⟩ := cp_finds (tx := tx) (c := 32) (show p ≤ len by omega)
  obtain ⟨l1, l2⟩ := cp_endlt hp (cp_isn h)
  refine ⟨⟨s3 _ (by omega) (by omega), ?_⟩, ?_⟩
  · by_cases e : cp_find tx 32 p len < len
    · exact Or.inr (by rw [show cp_find tx 32 p len - 1 + 1 = cp_find tx 32 p len by omega]; exact s4 e)
    · exact Or.inl (by omega)
  · rw [← cs_n_t h]
    refine cs_n_eq' (by omega) (fun q q1 q2 => cp_is2 (by omega) (s3 (q - 1) (by omega) (by omega)))
end
section
variable {tx : Nat → Nat} {f_cap f_clock f_length f_staged : Int32} {a_text : Nat → Int32} {a_sets : Nat → Int64} {a_starred a_occupied a_misfirePolicy a_concurrencyPolicy a_running a_started a_completed a_dropped a_cancelled a_misfires : Nat → Int32}
theorem cx_textloop (hT : ∀ j, a_text j = nI (tx j)) (hC : ∀ j, tx j ≤ 126) {len : Nat} (hl : len ≤ 64) {post : Int32 → SX → Prop} (hS : ∀ sX' st', cs_n (cp_is tx) len = 5 → (∀ p, p < len → cp_is tx p = true → ∃ g, cp_P tx (cs_n (cp_is tx) p) (cp_find tx 32 p len) (cp_find tx 32 p len + 1) p (fun _ => False) g ∧ (∀ v, v < 64 → (cb_bit (sX' (40 + cs_n (cp_is tx) p)) v = true ↔ g v)) ∧ st' (40 + cs_n (cp_is tx) p) = cb_b (decide (tx p = 42))) → (∀ j, j < 40 → sX' j = a_sets j ∧ st' j = a_starred j) → post 1 (f_cap, f_clock, nI len, f_staged, a_text, sX', st', a_occupied, a_misfirePolicy, a_concurrencyPolicy, a_running, a_started, a_completed, a_dropped, a_cancelled, a_misfires)) (hF : ¬ cp_R tx len → ∀ sX' st', (∀ j, j < 40 → sX' j = a_sets j ∧ st' j = a_starred j) → post 0 (f_cap, f_clock, nI len, f_staged, a_text, sX', st', a_occupied, a_misfirePolicy, a_concurrencyPolicy, a_running, a_started, a_completed, a_dropped, a_cancelled, a_misfires)) : ∀ (k i n : Nat) (sX : Nat → Int64) (st : Nat → Int32), i + k = len → k < n → cs_n (cp_is tx) i ≤ 5 → (∀ p, p < i → cp_is tx p = true → ∃ g, cp_P tx (cs_n (cp_is tx) p) (cp_find tx 32 p len) (cp_find tx 32 p len + 1) p (fun _ => False) g ∧ (∀ v, v < 64 → (cb_bit (sX (40 + cs_n (cp_is tx) p)) v = true ↔ g v)) ∧ st (40 + cs_n (cp_is tx) p) = cb_b (decide (tx p = 42))) → (∀ j, j < 40 → sX j = a_sets j ∧ st j = a_starred j) → wX_parseText_4 post n (nI (cs_n (cp_is tx) i)) (nI i) f_cap f_clock (nI len) f_staged a_text sX st a_occupied a_misfirePolicy a_concurrencyPolicy a_running a_started a_completed a_dropped a_cancelled a_misfires := by
  intro k
  induction k with
  | zero =>
    intro i n sX st hk hn h5 hd hfr
    obtain ⟨n, rfl⟩ : ∃ n', n = n' + 1 := ⟨n - 1, by omega⟩
    have ei : i = len := by omega
    subst ei
    exact pk_le i i (fun _ => pk_eq (cs_n (cp_is tx) i) 5 (fun z => hS sX st z hd hfr) (fun z => hF (fun hR => z hR.1) sX st hfr)) (fun z => absurd z (by omega))
  | succ k ih =>
    intro i n sX st hk hn h5 hd hfr
    obtain ⟨n, rfl⟩ : ∃ n', n = n' + 1 := ⟨n - 1, by omega⟩
    have hci := hC i
    have hskip : cp_is tx i = false → ∀ x, x = nI i + 1 → wX_parseText_4 post n (nI (cs_n (cp_is tx) i)) x f_cap f_clock (nI len) f_staged a_text sX st a_occupied a_misfirePolicy a_concurrencyPolicy a_running a_started a_completed a_dropped a_cancelled a_misfires := by
      intro hf
      have e := cs_n_f hf
      refine nm_r (nI_1 i) ?_
      rw [← e]
      refine ih (i + 1) n sX st (by omega) (by omega) (by omega) (fun p p1 p2 => ?_) hfr
      by_cases e2 : p = i
      · subst e2; rw [hf] at p2; exact Bool.noConfusion p2
      · exact hd p (by omega) p2
    have h40 : cp_is tx i = true → wX_parseText_40 post (wX_parseText_4 post n) (nI (cs_n (cp_is tx) i)) (nI i) f_cap f_clock (nI len) f_staged a_text sX st a_occupied a_misfirePolicy a_concurrencyPolicy a_running a_started a_completed a_dropped a_cancelled a_misfires := by
      intro ht
      have e := cs_n_t ht
      have hle := cs_n_le (Q := cp_is tx) (show i + 1 ≤ len by omega)
      obtain ⟨l1, l2⟩ := cp_endlt (show i < len by omega) (cp_isn ht)
      unfold wX_parseText_40
      refine pk_eq (cs_n (cp_is tx) i) 5 (fun z => hF (fun hR => ?_) sX st hfr) (fun z => cx_find hT hC 32 (by decide) (by omega) hl ?_)
      · have := hR.1
        omega
      · have hfr2 : ∀ sX' : Nat → Int64, (∀ j, j ≠ 40 + cs_n (cp_is tx) i → sX' j = sX j) → ∀ j, j < 40 → sX' j = a_sets j ∧ (upd st (40 + cs_n (cp_is tx) i) (cb_b (decide (tx i = 42)))) j = a_starred j := fun sX' h j hj => ⟨(h j (by omega)).trans (hfr j hj).1, (pk_un (by omega)).trans (hfr j hj).2⟩
        refine cx_field hT hC (by omega) l1 (by omega) (fun sX' g' hP hb hs => ?_) (fun hno sX' hs => ?_)
        · refine br_f (by decide) (nm_r ((nI_1 _).trans (congrArg nI e.symm)) (nm_r (nI_1 i) (ih (i + 1) n sX' _ (by omega) (by omega) (by omega) (fun p p1 p2 => ?_) (hfr2 sX' hs))))
          by_cases e2 : p = i
          · subst e2
            exact ⟨g', hP, hb, pk_us⟩
          · have hlt := cp_nlt (show p < i by omega) p2
            obtain ⟨g, g1, g2, g3⟩ := hd p (by omega) p2
            refine ⟨g, g1, fun v hv => ?_, ?_⟩
            · rw [hs _ (by omega)]; exact g2 v hv
            · rw [pk_un (by omega)]; exact g3
        · refine br_t rfl (hF (fun hR => ?_) sX' _ (hfr2 sX' hs))
          obtain ⟨g, hg⟩ := hR.2 i (by omega) ht
          exact hno g hg
    refine pk_le len i (fun z => absurd z (by omega)) (fun _ => ⟨vp_in_nI (by omega) (by decide), pk_eq (tx i) 32 (fun z => hskip (cp_is0 z)) (fun z => pk_eq i 0 (fun z0 => h40 (cp_is1 z (Or.inl z0))) (fun z0 => ?_)) (cp_txt hT (by omega))⟩)
    have em : nI i - 1 = nI (i - 1) := by
      obtain ⟨d, rfl⟩ : ∃ d, i = d + 1 := ⟨i - 1, by omega⟩
      exact nI_pred d
    rw [em]
    exact ⟨vp_in_nI (by omega) (by decide), pk_eq (tx (i - 1)) 32 (fun z2 => h40 (cp_is1 z (Or.inr z2))) (fun z2 => hskip (cp_is2 z0 z2)) (cp_txt hT (by omega)) rfl (by have := hC (i - 1); omega)⟩
theorem cx_compile (hT : ∀ j, a_text j = nI (tx j)) (hC : ∀ j, tx j ≤ 126) {len : Nat} (hl : len ≤ 64) {post : Int32 → SX → Prop} (hS : ∀ sX' st', cs_n (cp_is tx) len = 5 → (∀ p, p < len → cp_is tx p = true → ∃ g, cp_P tx (cs_n (cp_is tx) p) (cp_find tx 32 p len) (cp_find tx 32 p len + 1) p (fun _ => False) g ∧ (∀ v, v < 64 → (cb_bit (sX' (40 + cs_n (cp_is tx) p)) v = true ↔ g v)) ∧ st' (40 + cs_n (cp_is tx) p) = cb_b (decide (tx p = 42))) → (∀ j, j < 40 → sX' j = a_sets j ∧ st' j = a_starred j) → post 1 (f_cap, f_clock, 0, 1, a_text, sX', st', a_occupied, a_misfirePolicy, a_concurrencyPolicy, a_running, a_started, a_completed, a_dropped, a_cancelled, a_misfires)) (hF : ¬ cp_R tx len → ∀ sX' st', (∀ j, j < 40 → sX' j = a_sets j ∧ st' j = a_starred j) → post 0 (f_cap, f_clock, 0, 0, a_text, sX', st', a_occupied, a_misfirePolicy, a_concurrencyPolicy, a_running, a_started, a_completed, a_dropped, a_cancelled, a_misfires)) : wpX_compile post (f_cap, f_clock, nI len, f_staged, a_text, a_sets, a_starred, a_occupied, a_misfirePolicy, a_concurrencyPolicy, a_running, a_started, a_completed, a_dropped, a_cancelled, a_misfires) := by
  unfold wpX_compile
  dsimp only
  refine ⟨len + 1, cx_textloop hT hC hl (fun sX' st' z hd hfr => ?_) (fun hno sX' st' hfr => ?_) len 0 (len + 1) a_sets a_starred (by omega) (by omega) (by show 0 ≤ 5; omega) (fun p p1 _ => absurd p1 (by omega)) (fun j _ => ⟨rfl, rfl⟩)⟩
  · exact ⟨cb_nar (Or.inr rfl), cb_fit (Or.inr rfl), cb_nar (Or.inr rfl), hS sX' st' z hd hfr⟩
  · exact ⟨cb_nar (Or.inl rfl), cb_fit (Or.inl rfl), cb_nar (Or.inl rfl), hF hno sX' st' hfr⟩
end
end
section
/-! compile: Y's side -/
def cp_cl (sY : Nat → Int32) (x : Nat) : Nat → Int32 := fun i => if 1088 ≤ i ∧ i < 1088 + x then 0 else sY i
def cp_FS (tx : Nat → Nat) (i : Nat) (fs : Nat → Int32) : Prop := ∀ p, p < i → cp_is tx p = true → cs_n (cp_is tx) p < 5 → fs (cs_n (cp_is tx) p) = nI p
def cp_FE (tx : Nat → Nat) (len i : Nat) (fe : Nat → Int32) : Prop := ∀ p, p < i → cp_ie tx len p → cs_n (cp_is tx) (p + 1) ≤ 5 → fe (cs_n (cp_is tx) (p + 1) - 1) = nI (p + 1)
theorem cp_cl0 (sY : Nat → Int32) : cp_cl sY 0 = sY := by
  funext i; unfold cp_cl; rw [if_neg (by omega)]
theorem cp_cls (sY : Nat → Int32) (x : Nat) : upd (cp_cl sY x) (1088 + x) 0 = cp_cl sY (x + 1) := by
  funext i
  by_cases e : i = 1088 + x
  · subst e
    rw [pk_us]
    unfold cp_cl
    rw [if_pos (by omega)]
  · rw [pk_un e]
    unfold cp_cl
    by_cases h : 1088 ≤ i ∧ i < 1088 + x
    · rw [if_pos h, if_pos (by omega)]
    · rw [if_neg h, if_neg (by omega)]
theorem cf_dis : ∀ f, f < 5 → ∀ f', f' < 5 → f ≠ f' → (cf_off f' + cf_top f' < cf_off f ∨ cf_off f + cf_top f < cf_off f') := by decide
section
variable {tx : Nat → Nat} {f_len f_clock f_cap f_staged f_pos f_val f_cy f_cm f_cd : Int32} {a_text a_sets a_domStar a_dowStar a_occ a_mis a_con a_cnt a_fs a_fe : Nat → Int32}
theorem cy_scan (hT : ∀ j, a_text j = nI (tx j)) (hC : ∀ j, tx j ≤ 126) {len : Nat} (hl : len ≤ 64) {post : Int32 → SY → Prop} (hE : ∀ fs' fe', cp_FS tx len fs' → cp_FE tx len len fe' → ∃ n, wY_compile_105 post (nI (cs_n (cp_is tx) len)) (nI len) f_clock f_cap f_staged f_pos f_val f_cy f_cm f_cd n 0 a_text a_sets a_domStar a_dowStar a_occ a_mis a_con a_cnt fs' fe') : ∀ (k i n : Nat) (fs fe : Nat → Int32), i + k = len → k < n → cp_FS tx i fs → cp_FE tx len i fe → wY_compile_4 post (nI len) f_clock f_cap f_staged f_pos f_val f_cy f_cm f_cd n (nI (cs_n (cp_is tx) i)) (nI i) a_text a_sets a_domStar a_dowStar a_occ a_mis a_con a_cnt fs fe := by
  intro k
  induction k with
  | zero =>
    intro i n fs fe hk hn hFS hFE
    obtain ⟨n, rfl⟩ : ∃ n', n = n' + 1 := ⟨n - 1, by omega⟩
    have ei : i = len := by omega
    subst ei
    exact pk_le i i (fun _ => hE fs fe hFS hFE) (fun z => absurd z (by omega))
  | succ k ih =>
    intro i n fs fe hk hn hFS hFE
    obtain ⟨n, rfl⟩ : ∃ n', n = n' + 1 := ⟨n - 1, by omega⟩
    have hci := hC i
    have hself := cs_n_self (cp_is tx) i
    have hself2 := cs_n_self (cp_is tx) (i + 1)
    have hmono := cs_n_le (Q := cp_is tx) (show i ≤ i + 1 by omega)
    have hFSk : cp_is tx i = false → cp_FS tx (i + 1) fs := by
      intro hf p p1 p2 p3
      by_cases e2 : p = i
      · subst e2; rw [hf] at p2; exact Bool.noConfusion p2
      · exact hFS p (by omega) p2 p3
    have hFEk : ¬ cp_ie tx len i → cp_FE tx len (i + 1) fe := by
      intro hf p p1 p2 p3
      by_cases e2 : p = i
      · subst e2; exact absurd p2 hf
      · exact hFE p (by omega) p2 p3
    have h58 : tx i ≠ 32 → ∀ fs', cp_FS tx (i + 1) fs' → wY_compile_58 post (wY_compile_4 post (nI len) f_clock f_cap f_staged f_pos f_val f_cy f_cm f_cd n) (nI (cs_n (cp_is tx) (i + 1))) (nI i) (nI len) f_clock f_cap f_staged f_pos f_val f_cy f_cm f_cd a_text a_sets a_domStar a_dowStar a_occ a_mis a_con a_cnt fs' fe := by
      intro hne fs' hFS'
      have hpos := cp_npos i hne
      have h81 : cp_ie tx len i → wY_compile_81 post (wY_compile_4 post (nI len) f_clock f_cap f_staged f_pos f_val f_cy f_cm f_cd n) (nI (cs_n (cp_is tx) (i + 1))) (nI i) (nI len) f_clock f_cap f_staged f_pos f_val f_cy f_cm f_cd a_text a_sets a_domStar a_dowStar a_occ a_mis a_con a_cnt fs' fe := by
        intro hie
        have em : nI (cs_n (cp_is tx) (i + 1)) - 1 = nI (cs_n (cp_is tx) (i + 1) - 1) := pk_sub (b := 1) hpos
        unfold wY_compile_81
        rw [em, nI_clamp (by omega)]
        refine pk_lt 5 (cs_n (cp_is tx) (i + 1)) (fun z => nm_r (nI_1 i) (ih (i + 1) n fs' fe (by omega) (by omega) hFS' (fun p p1 p2 p3 => ?_))) (fun z => ⟨vp_in_nI (by omega) (by decide), nm_e (nm_r (nI_1 i) (ih (i + 1) n fs' _ (by omega) (by omega) hFS' (fun p p1 p2 p3 => ?_)))⟩)
        · by_cases e2 : p = i
          · subst e2; omega
          · exact hFE p (by omega) p2 p3
        · by_cases e2 : p = i
          · subst e2
            rw [pk_us, nI_1]
          · have hsp : tx (p + 1) = 32 := by
              rcases p2.2 with h | h
              · omega
              · exact h
            have hg := cp_ngrow hsp (i - (p + 1))
            rw [show p + 1 + (i - (p + 1)) = i by omega] at hg
            have hg := hg hne
            have hpp := cp_npos p p2.1
            rw [pk_un (by omega)]
            exact hFE p (by omega) p2 p3
      have el : nI len - 1 = nI (len - 1) := pk_sub (b := 1) (by omega)
      unfold wY_compile_58
      rw [el, nI_1]
      refine pk_eq i (len - 1) (fun z => h81 ⟨hne, Or.inl (by omega)⟩) (fun z => ⟨vp_in_nI (by omega) (by decide), pk_eq (tx (i + 1)) 32 (fun z2 => h81 ⟨hne, Or.inr z2⟩) (fun z2 => ?_) (cp_txt hT (by omega)) rfl (by have := hC (i + 1); omega)⟩)
      exact nm_e (ih (i + 1) n fs' fe (by omega) (by omega) hFS' (hFEk (fun w => w.2.elim (fun h => by omega) z2)))
    have h43 : cp_is tx i = true → wY_compile_43 post (wY_compile_4 post (nI len) f_clock f_cap f_staged f_pos f_val f_cy f_cm f_cd n) (nI (cs_n (cp_is tx) i)) (nI i) (nI len) f_clock f_cap f_staged f_pos f_val f_cy f_cm f_cd a_text a_sets a_domStar a_dowStar a_occ a_mis a_con a_cnt fs fe := by
      intro ht
      have e := cs_n_t ht
      unfold wY_compile_43
      rw [nI_clamp (by omega)]
      refine pk_le 5 (cs_n (cp_is tx) i) (fun z => nm_r ((nI_1 _).trans (congrArg nI e.symm)) (h58 (cp_isn ht) fs (fun p p1 p2 p3 => ?_))) (fun z => ⟨vp_in_nI (by omega) (by decide), nm_e (nm_r ((nI_1 _).trans (congrArg nI e.symm)) (h58 (cp_isn ht) _ (fun p p1 p2 p3 => ?_)))⟩)
      · by_cases e2 : p = i
        · subst e2; omega
        · exact hFS p (by omega) p2 p3
      · by_cases e2 : p = i
        · subst e2; rw [pk_us]
        · have hlt := cp_nlt (show p < i by omega) p2
          rw [pk_un (by omega)]
          exact hFS p (by omega) p2 p3
    refine pk_le len i (fun z => absurd z (by omega)) (fun _ => ⟨vp_in_nI (by omega) (by decide), pk_eq (tx i) 32 (fun z => ?_) (fun z => pk_eq i 0 (fun z0 => h43 (cp_is1 z (Or.inl z0))) (fun z0 => ?_)) (cp_txt hT (by omega))⟩)
    · have e := cs_n_f (cp_is0 z)
      refine nm_r (nI_1 i) ?_
      rw [← e]
      exact ih (i + 1) n fs fe (by omega) (by omega) (hFSk (cp_is0 z)) (hFEk (fun w => w.1 z))
    · have em : nI i - 1 = nI (i - 1) := pk_sub (b := 1) (by omega)
      rw [em]
      refine ⟨vp_in_nI (by omega) (by decide), pk_eq (tx (i - 1)) 32 (fun z2 => h43 (cp_is1 z (Or.inr z2))) (fun z2 => ?_) (cp_txt hT (by omega)) rfl (by have := hC (i - 1); omega)⟩
      have hf := cp_is2 z0 z2
      have t := h58 z fs (hFSk hf)
      rw [cs_n_f hf] at t
      exact t
theorem cy_fin {x2 : Int32} (h01 : x2 = 0 ∨ x2 = 1) {post : Int32 → SY → Prop} (hp : post x2 (0, f_clock, f_cap, x2, f_pos, f_val, f_cy, f_cm, f_cd, a_text, a_sets, a_domStar, a_dowStar, a_occ, a_mis, a_con, a_cnt, a_fs, a_fe)) : wY_compile_235 post x2 f_len f_clock f_cap f_staged f_pos f_val f_cy f_cm f_cd a_text a_sets a_domStar a_dowStar a_occ a_mis a_con a_cnt a_fs a_fe := ⟨cb_nar h01, cb_fit h01, cb_nar h01, hp⟩
theorem cy_stars (hT : ∀ j, a_text j = nI (tx j)) (hC : ∀ j, tx j ≤ 126) {p2 p4 : Nat} (h2 : p2 < 64) (h4 : p4 < 64) (e2 : a_fs 2 = nI p2) (e4 : a_fs 4 = nI p4) {post : Int32 → SY → Prop} (hp : post 1 (0, f_clock, f_cap, 1, f_pos, f_val, f_cy, f_cm, f_cd, a_text, a_sets, upd a_domStar 8 (cb_b (decide (tx p2 = 42))), upd a_dowStar 8 (cb_b (decide (tx p4 = 42))), a_occ, a_mis, a_con, a_cnt, a_fs, a_fe)) : wY_compile_175 post 1 f_len f_clock f_cap f_staged f_pos f_val f_cy f_cm f_cd a_text a_sets a_domStar a_dowStar a_occ a_mis a_con a_cnt a_fs a_fe := by
  have c8 : (8 : Int32).toNatClampNeg = 8 := by decide
  have i8 : vp_in (8 : Int32) 9 := vp_in_nI (n := 8) (by decide) (by decide)
  have h234 : ∀ c : Bool, c = decide (tx p4 = 42) → wY_compile_234 post 1 (cb_b c) 8 f_len f_clock f_cap f_staged f_pos f_val f_cy f_cm f_cd a_text a_sets (upd a_domStar 8 (cb_b (decide (tx p2 = 42)))) a_dowStar a_occ a_mis a_con a_cnt a_fs a_fe := by
    intro c hc
    subst hc
    unfold wY_compile_234
    rw [c8, cb_vp (cb_b01 _)]
    exact ⟨i8, nm_e (cy_fin (Or.inr rfl) hp)⟩
  have h206 : ∀ c : Bool, c = decide (tx p2 = 42) → wY_compile_206 post 1 (cb_b c) 8 f_len f_clock f_cap f_staged f_pos f_val f_cy f_cm f_cd a_text a_sets a_domStar a_dowStar a_occ a_mis a_con a_cnt a_fs a_fe := by
    intro c hc
    subst hc
    unfold wY_compile_206
    rw [c8, cb_vp (cb_b01 _), e4]
    refine ⟨i8, nm_e ⟨vp_in_nI h4 (by decide), pk_eq (tx p4) 42 (fun z => ?_) (fun z => ?_) (cp_txt hT (by omega)) rfl (by have := hC p4; omega)⟩⟩
    · exact h234 true (decide_eq_true z).symm
    · exact h234 false (decide_eq_false z).symm
  unfold wY_compile_175
  rw [e2]
  refine br_f (by decide) ⟨vp_in_nI h2 (by decide), pk_eq (tx p2) 42 (fun z => ?_) (fun z => ?_) (cp_txt hT (by omega)) rfl (by have := hC p2; omega)⟩
  · exact h206 true (decide_eq_true z).symm
  · exact h206 false (decide_eq_false z).symm
theorem cy_142 (hT : ∀ j, a_text j = nI (tx j)) (hC : ∀ j, tx j ≤ 126) {len : Nat} (hl : len ≤ 64) (h5 : cs_n (cp_is tx) len = 5) {sY0 : Nat → Int32} (hFS : cp_FS tx len a_fs) (hFE : cp_FE tx len len a_fe) {post : Int32 → SY → Prop} (hS : ∀ sY' pos val p2 p4, (∀ p, p < len → cp_is tx p = true → ∃ g, cp_P tx (cs_n (cp_is tx) p) (cp_find tx 32 p len) (cp_find tx 32 p len + 1) p (fun _ => False) g ∧ cp_G (cs_n (cp_is tx) p) sY' g) → (∀ i, i < 1088 → sY' i = sY0 i) → p2 < len → cp_is tx p2 = true → cs_n (cp_is tx) p2 = 2 → p4 < len → cp_is tx p4 = true → cs_n (cp_is tx) p4 = 4 → post 1 (0, f_clock, f_cap, 1, pos, val, f_cy, f_cm, f_cd, a_text, sY', upd a_domStar 8 (cb_b (decide (tx p2 = 42))), upd a_dowStar 8 (cb_b (decide (tx p4 = 42))), a_occ, a_mis, a_con, a_cnt, a_fs, a_fe)) (hF : ¬ cp_R tx len → ∀ sY' pos val, (∀ i, i < 1088 → sY' i = sY0 i) → post 0 (0, f_clock, f_cap, 0, pos, val, f_cy, f_cm, f_cd, a_text, sY', a_domStar, a_dowStar, a_occ, a_mis, a_con, a_cnt, a_fs, a_fe)) : ∀ (k f n : Nat) (sY : Nat → Int32) (pos val : Int32), f + k = 5 → k < n → (∀ i, i < 1088 → sY i = sY0 i) → (∀ p, p < len → cp_is tx p = true → cs_n (cp_is tx) p < f → ∃ g, cp_P tx (cs_n (cp_is tx) p) (cp_find tx 32 p len) (cp_find tx 32 p len + 1) p (fun _ => False) g ∧ cp_G (cs_n (cp_is tx) p) sY g) → (∀ f', f ≤ f' → f' < 5 → cp_G f' sY (fun _ => False)) → wY_compile_142 post n 1 (nI f) (nI len) f_clock f_cap f_staged pos val f_cy f_cm f_cd a_text sY a_domStar a_dowStar a_occ a_mis a_con a_cnt a_fs a_fe := by
  have hfield : ∀ f, f < 5 → ∃ p, p < len ∧ cp_is tx p = true ∧ cs_n (cp_is tx) p = f ∧ a_fs f = nI p ∧ a_fe f = nI (cp_find tx 32 p len) := by
    intro f hf
    obtain ⟨p, p1, p2, p3⟩ := cp_nex (tx := tx) len f (by omega)
    obtain ⟨n1, n2⟩ := cp_nend p1 p2
    obtain ⟨l1, l2⟩ := cp_endlt p1 (cp_isn p2)
    have t1 := hFS p p1 p2 (by omega)
    rw [p3] at t1
    have t2 := hFE _ (show cp_find tx 32 p len - 1 < len by omega) n1
    rw [show cp_find tx 32 p len - 1 + 1 = cp_find tx 32 p len by omega, n2, p3] at t2
    exact ⟨p, p1, p2, p3, t1, t2 (by omega)⟩
  intro k
  induction k with
  | zero =>
    intro f n sY pos val hk hn hfr hd hu
    obtain ⟨n, rfl⟩ : ∃ n', n = n' + 1 := ⟨n - 1, by omega⟩
    obtain ⟨p2, a1, a2, a3, a4, _⟩ := hfield 2 (by decide)
    obtain ⟨p4, b1, b2, b3, b4, _⟩ := hfield 4 (by decide)
    refine pk_le 5 f (fun _ => ?_) (fun z => absurd z (by omega))
    refine cy_stars hT hC (by omega) (by omega) a4 b4 (hS sY pos val p2 p4 (fun p p1 p2 => ?_) hfr a1 a2 a3 b1 b2 b3)
    have := cp_nlt p1 p2
    exact hd p p1 p2 (by omega)
  | succ k ih =>
    intro f n sY pos val hk hn hfr hd hu
    obtain ⟨n, rfl⟩ : ∃ n', n = n' + 1 := ⟨n - 1, by omega⟩
    have hf : f < 5 := by omega
    obtain ⟨p, p1, p2, p3, p4, p5⟩ := hfield f hf
    obtain ⟨l1, l2⟩ := cp_endlt p1 (cp_isn p2)
    have htb := cf_topb hf
    have hin : vp_in (nI f) 5 := vp_in_nI hf (by decide)
    refine pk_le 5 f (fun z => absurd z (by omega)) (fun _ => br_f (by decide) ?_)
    rw [nI_clamp (show f < 2 ^ 31 by omega)]
    refine ⟨hin, hin, cy_field hT hC hf l1 (by omega) (hu f (by omega) hf) (fun sY' g' pos val hP hG hFr => ?_) (fun hno sY' pos val hFr => ?_) p4 p5⟩
    · refine nm_r (nI_1 f) (ih (f + 1) n sY' pos val (by omega) (by omega) (fun i hi => (hFr i (by omega)).trans (hfr i hi)) (fun q q1 q2 q3 => ?_) (fun f' g1 g2 => ?_))
      · by_cases e : cs_n (cp_is tx) q = f
        · have eq : q = p := by
            by_cases e1 : q < p
            · have := cp_nlt e1 q2
              omega
            · by_cases e2 : p < q
              · have := cp_nlt e2 p2
                omega
              · omega
          subst eq
          rw [p3]
          exact ⟨g', hP, hG⟩
        · obtain ⟨g, g1, g2⟩ := hd q q1 q2 (by omega)
          refine ⟨g, g1, fun v hv => ?_⟩
          have hdis := cf_dis f hf (cs_n (cp_is tx) q) (by omega) (by omega)
          rw [hFr _ (by omega)]
          exact g2 v hv
      · intro v hv
        have hdis := cf_dis f hf f' g2 (by omega)
        rw [hFr _ (by omega)]
        exact hu f' (by omega) g2 v hv
    · refine nm_r (nI_1 f) ?_
      have hno2 : ¬ cp_R tx len := by
        intro hR
        obtain ⟨g, hg⟩ := hR.2 p p1 p2
        rw [p3] at hg
        exact hno g hg
      have h175 : wY_compile_175 post 0 (nI len) f_clock f_cap f_staged pos val f_cy f_cm f_cd a_text sY' a_domStar a_dowStar a_occ a_mis a_con a_cnt a_fs a_fe := br_t rfl (cy_fin (Or.inl rfl) (hF hno2 sY' pos val (fun i hi => (hFr i (by omega)).trans (hfr i hi))))
      obtain ⟨n, rfl⟩ : ∃ n', n = n' + 1 := ⟨n - 1, by omega⟩
      exact pk_le 5 (f + 1) (fun _ => h175) (fun _ => br_t rfl h175)
theorem cy_105 {x1 : Int32} {post : Int32 → SY → Prop} (h5 : x1 = 5 → ∃ n, wY_compile_142 post n 1 0 f_len f_clock f_cap f_staged f_pos f_val f_cy f_cm f_cd a_text (cp_cl a_sets 136) a_domStar a_dowStar a_occ a_mis a_con a_cnt a_fs a_fe) (hn5 : ¬ x1 = 5 → ∃ n, wY_compile_142 post n 0 0 f_len f_clock f_cap f_staged f_pos f_val f_cy f_cm f_cd a_text (cp_cl a_sets 136) a_domStar a_dowStar a_occ a_mis a_con a_cnt a_fs a_fe) : ∀ k x n : Nat, x + k = 136 → k < n → wY_compile_105 post x1 f_len f_clock f_cap f_staged f_pos f_val f_cy f_cm f_cd n (nI x) a_text (cp_cl a_sets x) a_domStar a_dowStar a_occ a_mis a_con a_cnt a_fs a_fe := by
  intro k
  induction k with
  | zero =>
    intro x n hk hn
    obtain ⟨n, rfl⟩ : ∃ n', n = n' + 1 := ⟨n - 1, by omega⟩
    have e : x = 136 := by omega
    subst e
    exact pk_le 136 136 (fun _ => br_c h5 hn5) (fun z => absurd z (by omega))
  | succ k ih =>
    intro x n hk hn
    obtain ⟨n, rfl⟩ : ∃ n', n = n' + 1 := ⟨n - 1, by omega⟩
    have e : 1088 + nI x = nI (1088 + x) := nI_add 1088 x
    refine pk_le 136 x (fun z => absurd z (by omega)) (fun _ => ?_)
    rw [e, nI_clamp (by omega), cb_v0]
    exact ⟨vp_in_nI (by omega) (by decide), nm_r (cp_cls a_sets x) (nm_r (nI_1 x) (ih (x + 1) n (by omega) (by omega)))⟩
theorem cy_compile (hT : ∀ j, a_text j = nI (tx j)) (hC : ∀ j, tx j ≤ 126) {len : Nat} (hl : len ≤ 64) {post : Int32 → SY → Prop} (hS : ∀ sY' pos val fs fe p2 p4, (∀ p, p < len → cp_is tx p = true → ∃ g, cp_P tx (cs_n (cp_is tx) p) (cp_find tx 32 p len) (cp_find tx 32 p len + 1) p (fun _ => False) g ∧ cp_G (cs_n (cp_is tx) p) sY' g) → (∀ i, i < 1088 → sY' i = a_sets i) → cs_n (cp_is tx) len = 5 → p2 < len → cp_is tx p2 = true → cs_n (cp_is tx) p2 = 2 → p4 < len → cp_is tx p4 = true → cs_n (cp_is tx) p4 = 4 → post 1 (0, f_clock, f_cap, 1, pos, val, f_cy, f_cm, f_cd, a_text, sY', upd a_domStar 8 (cb_b (decide (tx p2 = 42))), upd a_dowStar 8 (cb_b (decide (tx p4 = 42))), a_occ, a_mis, a_con, a_cnt, fs, fe)) (hF : ¬ cp_R tx len → ∀ sY' pos val fs fe, (∀ i, i < 1088 → sY' i = a_sets i) → post 0 (0, f_clock, f_cap, 0, pos, val, f_cy, f_cm, f_cd, a_text, sY', a_domStar, a_dowStar, a_occ, a_mis, a_con, a_cnt, fs, fe)) : wpY_compile post (nI len, f_clock, f_cap, f_staged, f_pos, f_val, f_cy, f_cm, f_cd, a_text, a_sets, a_domStar, a_dowStar, a_occ, a_mis, a_con, a_cnt, a_fs, a_fe) := by
  have hcl : ∀ i, i < 1088 → cp_cl a_sets 136 i = a_sets i := by
    intro i hi
    unfold cp_cl
    rw [if_neg (by omega)]
  refine ⟨len + 1, cy_scan hT hC hl (fun fs' fe' hFS hFE => ⟨137, ?_⟩) len 0 (len + 1) a_fs a_fe (by omega) (by omega) (fun p p1 => absurd p1 (by omega)) (fun p p1 => absurd p1 (by omega))⟩
  have hself := cs_n_self (cp_is tx) len
  have t := cy_105 (x1 := nI (cs_n (cp_is tx) len)) (post := post) (a_sets := a_sets) (f_len := nI len) (f_clock := f_clock) (f_cap := f_cap) (f_staged := f_staged) (f_pos := f_pos) (f_val := f_val) (f_cy := f_cy) (f_cm := f_cm) (f_cd := f_cd) (a_text := a_text) (a_domStar := a_domStar) (a_dowStar := a_dowStar) (a_occ := a_occ) (a_mis := a_mis) (a_con := a_con) (a_cnt := a_cnt) (a_fs := fs') (a_fe := fe') (fun z => ⟨6, ?_⟩) (fun z => ⟨1, ?_⟩) 136 0 137 (by omega) (by omega)
  · rw [cp_cl0] at t
    exact t
  · have h5 : cs_n (cp_is tx) len = 5 := (nI_eq (b := 5) (by omega) (by decide)).mp z
    refine cy_142 (sY0 := a_sets) hT hC hl h5 hFS hFE (fun sY' pos val p2 p4 g1 g2 g3 g4 g5 g6 g7 g8 => hS sY' pos val fs' fe' p2 p4 g1 g2 h5 g3 g4 g5 g6 g7 g8) (fun hno sY' pos val g => hF hno sY' pos val fs' fe' g) 5 0 6 _ _ _ (by omega) (by omega) hcl (fun p _ _ p3 => absurd p3 (by omega)) (fun f' _ g2 v hv => Or.inr ⟨?_, id⟩)
    have := cf_topb g2
    unfold cp_cl
    rw [if_pos (by omega)]
  · have h5 : cs_n (cp_is tx) len ≠ 5 := fun e => z (by rw [e]; rfl)
    refine br_f (by decide) (br_t rfl (br_t rfl (cy_fin (Or.inl rfl) (hF (fun hR => h5 hR.1) _ _ _ fs' fe' hcl))))
end
theorem i_vc_compile {k : Nat} {u : SX} {v : SY} (I : i_Rel k u v) (hk : k + 5 ≤ 2561) : wpX_compile (fun r u' => wpY_compile (fun r' v' => r' = r ∧ i_Rel (k + 5) u' v') v) u := by
  obtain ⟨cap, clock, len, b, text, sX, st, occ, mp, cp, ru, sta, com, dro, can, mis, sY, dom, dow, cnt, fs, fe, pos, val, cy, cm, cd, rfl, rfl, F⟩ := I
  have F5 := cr_Fm (show k ≤ k + 5 by omega) F
  obtain ⟨⟨hc1, hc8, hcl, hlen⟩, hb, hT, hA, hmp, hcp, hR, hC⟩ := F5
  have hTx : ∀ j, text j = nI ((fun j => (text j).toNatClampNeg) j) := by
    intro j
    obtain ⟨c, c1, c2⟩ := hT j
    show text j = nI (text j).toNatClampNeg
    rw [c2, nI_clamp (by omega)]
  have hTc : ∀ j, (fun j => (text j).toNatClampNeg) j ≤ 126 := by
    intro j
    obtain ⟨c, c1, c2⟩ := hT j
    show (text j).toNatClampNeg ≤ 126
    rw [c2, nI_clamp (by omega)]
    exact c1
  obtain ⟨tx, hx⟩ : ∃ tx : Nat → Nat, tx = fun j => (text j).toNatClampNeg := ⟨_, rfl⟩
  rw [← hx] at hTx hTc
  have hold : ∀ (sX' : Nat → Int64) (st' sY' dom' dow' : Nat → Int32), (∀ j, j < 40 → sX' j = sX j ∧ st' j = st j) → (∀ i, i < 1088 → sY' i = sY i) → (∀ s, s < 8 → dom' s = dom s ∧ dow' s = dow s) → ∀ s, s < 8 → cr_S sX' st' sY' dom' dow' s := by
    intro sX' st' sY' dom' dow' g1 g2 g3 s hs
    obtain ⟨a1, a2, a3, a4, a5, a6⟩ := hA s (Or.inl hs)
    refine ⟨fun f v hf hv => ?_, fun f v hf hv hbit => ?_, ?_, ?_, ?_, ?_⟩
    · have := cf_topb hf
      rw [g2 _ (by omega), (g1 _ (by omega)).1]
      exact a1 f v hf hv
    · rw [(g1 _ (by omega)).1] at hbit
      exact a2 f v hf hv hbit
    · rw [(g3 s hs).1, (g1 _ (by omega)).2]; exact a3
    · rw [(g3 s hs).2, (g1 _ (by omega)).2]; exact a4
    · rw [(g1 _ (by omega)).2]; exact a5
    · rw [(g1 _ (by omega)).2]; exact a6
  refine cx_compile hTx hTc hlen (fun sX' st' h5 hd hfr => ?_) (fun hno sX' st' hfr => ?_)
  · refine cy_compile hTx hTc hlen (fun sY' pos' val' fs' fe' p2 p4 hG hfrY _ a1 a2 a3 b1 b2 b3 => ⟨rfl, ?_⟩) (fun hno => ?_)
    · refine cr_mk (len := 0) ⟨⟨hc1, hc8, hcl, by omega⟩, Or.inr rfl, hT, fun s hs => ?_, hmp, hcp, hR, hC⟩
      rcases hs with hs | ⟨rfl, _⟩
      · exact hold sX' st' sY' _ _ hfr hfrY (fun s hs => ⟨pk_un (by omega), pk_un (by omega)⟩) s hs
      · have hst : ∀ p f, p < len → cp_is tx p = true → cs_n (cp_is tx) p = f → st' (8 * 5 + f) = cb_b (decide (tx p = 42)) := by
          intro p f q1 q2 q3
          obtain ⟨g, _, _, g3⟩ := hd p q1 q2
          rw [q3] at g3
          exact g3
        have s2 := hst p2 2 a1 a2 a3
        have s4 := hst p4 4 b1 b2 b3
        refine ⟨fun f v hf hv => ?_, fun f v hf hv hbit => ?_, ?_, ?_, ?_, ?_⟩
        · obtain ⟨p, q1, q2, q3⟩ := cp_nex (tx := tx) len f (by omega)
          obtain ⟨g, x1, x2, _⟩ := hd p q1 q2
          obtain ⟨g', y1, y2⟩ := hG p q1 q2
          have hu := cp_Pu _ _ _ _ _ _ (fun _ => Iff.rfl) x1 y1
          rw [q3] at x2 y2
          have ht := cf_top59 hf
          have hx2 := x2 v (by omega)
          rcases y2 v hv with ⟨z1, z2⟩ | ⟨z1, z2⟩
          · have e : cb_bit (sX' (8 * 5 + f)) v = true := hx2.mpr ((hu v).mpr z2)
            rw [e]; exact z1
          · have e : cb_bit (sX' (8 * 5 + f)) v = false := by
              cases e : cb_bit (sX' (8 * 5 + f)) v
              · rfl
              · exact absurd ((hu v).mp (hx2.mp e)) z2
            rw [e]; exact z1
        · obtain ⟨p, q1, q2, q3⟩ := cp_nex (tx := tx) len f (by omega)
          obtain ⟨g, x1, x2, _⟩ := hd p q1 q2
          have hle := (cp_endlt q1 (cp_isn q2)).1
          rw [q3] at x1 x2
          exact cp_Pm hf _ _ _ _ (by omega) (fun _ z => absurd z id) x1 v ((x2 v hv).mp hbit)
        · rw [pk_us, s2]
        · rw [pk_us, s4]
        · rw [s2]; exact cb_b01 _
        · rw [s4]; exact cb_b01 _
    · exact absurd ⟨h5, fun p q1 q2 => by
        obtain ⟨g, g1, _⟩ := hd p q1 q2
        exact ⟨g, g1⟩⟩ hno
  · refine cy_compile hTx hTc hlen (fun sY' pos' val' fs' fe' p2 p4 hG hfrY h5 a1 a2 a3 b1 b2 b3 => ?_) (fun _ sY' pos' val' fs' fe' hfrY => ⟨rfl, ?_⟩)
    · exact absurd ⟨h5, fun p q1 q2 => by
        obtain ⟨g, g1, _⟩ := hG p q1 q2
        exact ⟨g, g1⟩⟩ hno
    · refine cr_mk (len := 0) ⟨⟨hc1, hc8, hcl, by omega⟩, Or.inl rfl, hT, fun s hs => ?_, hmp, hcp, hR, hC⟩
      rcases hs with hs | ⟨_, z⟩
      · exact hold sX' st' sY' _ _ hfr hfrY (fun s hs => ⟨rfl, rfl⟩) s hs
      · exact absurd z (by decide)
end
section
/-! the last part is kept small -/
theorem cz_last : True := trivial
end
