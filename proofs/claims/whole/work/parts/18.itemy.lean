/-! Y's parser -/
section
variable {tx : Nat → Nat} {f_len f_clock f_cap f_staged f_pos f_val f_cy f_cm f_cd : Int32} {a_text a_sets a_domStar a_dowStar a_occ a_mis a_con a_cnt a_fs a_fe : Nat → Int32}
theorem cy_dig {c : Nat} (hc : c ≤ 126) {x : Int32} {post : Int32 → Prop} (hp : post (cb_b (cp_dg c))) (ex : x = nI c) : wpY_digit post (f_len, f_clock, f_cap, f_staged, f_pos, f_val, f_cy, f_cm, f_cd, a_text, a_sets, a_domStar, a_dowStar, a_occ, a_mis, a_con, a_cnt, a_fs, a_fe) x := by
  subst ex
  refine pk_lt c 48 (fun z => ?_) (fun z => pk_lt 57 c (fun z2 => ?_) (fun z2 => ?_))
  · rw [cp_dgf (by omega)] at hp; exact hp
  · rw [cp_dgf (by omega)] at hp; exact hp
  · rw [cp_dgt.mpr (by omega)] at hp; exact hp
theorem cy_up {c : Nat} (hc : c ≤ 126) {x : Int32} {post : Int32 → Prop} (hp : post (nI (cp_up c))) (ex : x = nI c) : wpY_upper post (f_len, f_clock, f_cap, f_staged, f_pos, f_val, f_cy, f_cm, f_cd, a_text, a_sets, a_domStar, a_dowStar, a_occ, a_mis, a_con, a_cnt, a_fs, a_fe) x := by
  subst ex
  unfold cp_up at hp
  have h17 : ¬ (97 ≤ c ∧ c ≤ 122) → wY_upper_17 post (nI c) f_len f_clock f_cap f_staged f_pos f_val f_cy f_cm f_cd a_text a_sets a_domStar a_dowStar a_occ a_mis a_con a_cnt a_fs a_fe := by
    intro hn
    rw [if_neg hn] at hp
    refine pk_lt c 65 (fun z => ?_) (fun z => pk_lt 90 c (fun z2 => ?_) (fun z2 => ?_))
    · rw [if_neg (by omega)] at hp; exact hp
    · rw [if_neg (by omega)] at hp; exact hp
    · rw [if_pos (by omega)] at hp; exact hp
  refine pk_lt c 97 (fun z => h17 (by omega)) (fun z => pk_lt 122 c (fun z2 => h17 (by omega)) (fun z2 => ?_))
  rw [if_pos (by omega)] at hp
  rw [show nI c - 32 = nI (c - 32) from pk_sub (b := 32) (by omega)]
  exact hp
theorem cy_101 {f v : Nat} (hf : f < 5) (hv : v ≤ 99) {x : Int32} {post : Int32 → SY → Prop} (h1 : cf_lo f ≤ v → v ≤ cf_hi f → post 1 (f_len, f_clock, f_cap, f_staged, f_pos, nI v, f_cy, f_cm, f_cd, a_text, a_sets, a_domStar, a_dowStar, a_occ, a_mis, a_con, a_cnt, a_fs, a_fe)) (h0 : ¬ (cf_lo f ≤ v ∧ v ≤ cf_hi f) → post 0 (f_len, f_clock, f_cap, f_staged, f_pos, f_val, f_cy, f_cm, f_cd, a_text, a_sets, a_domStar, a_dowStar, a_occ, a_mis, a_con, a_cnt, a_fs, a_fe)) (ex : x = nI v) : wY_atom_101 post (nI f) x f_len f_clock f_cap f_staged f_pos f_val f_cy f_cm f_cd a_text a_sets a_domStar a_dowStar a_occ a_mis a_con a_cnt a_fs a_fe := by
  subst ex
  have hhi := cf_hi59 hf
  have hlo := cf_lo1 hf
  exact cy_lo hf (pk_lt v (cf_lo f) (fun z => h0 (by omega)) (fun z => cy_hi hf (pk_le v (cf_hi f) (fun z2 => h1 z z2) (fun z2 => h0 (by omega)))))
theorem cy_atom (hT : ∀ j, a_text j = nI (tx j)) (hC : ∀ j, tx j ≤ 126) {f p e : Nat} (hf : f < 5) (hp : p ≤ 64) (he : e ≤ 64) {post : Int32 → SY → Prop} (hN : cp_ay tx f p e = none → ∀ pos, post 0 (f_len, f_clock, f_cap, f_staged, pos, f_val, f_cy, f_cm, f_cd, a_text, a_sets, a_domStar, a_dowStar, a_occ, a_mis, a_con, a_cnt, a_fs, a_fe)) (hS : ∀ v q, cp_ay tx f p e = some (v, q) → post 1 (f_len, f_clock, f_cap, f_staged, nI q, nI v, f_cy, f_cm, f_cd, a_text, a_sets, a_domStar, a_dowStar, a_occ, a_mis, a_con, a_cnt, a_fs, a_fe)) : wpY_atom post (f_len, f_clock, f_cap, f_staged, nI p, f_val, f_cy, f_cm, f_cd, a_text, a_sets, a_domStar, a_dowStar, a_occ, a_mis, a_con, a_cnt, a_fs, a_fe) (nI f) (nI e) := by
  unfold cp_ay at hN hS
  refine pk_lt p e (fun z => ⟨vp_in_nI (by omega) (by decide), cy_dig (hC p) (cb_br (fun hd => ?_) (fun hd => ⟨vp_in_nI (by omega) (by decide), ?_⟩)) (cp_txt hT (by omega))⟩) (fun z => hN (by rw [if_neg (by omega)]) _)
  · rw [if_pos z, if_neg (by rw [hd]; decide)] at hN hS
    have e1 : nI p + 1 = nI (p + 1) := nI_1 p
    have e2 : nI p + 2 = nI (p + 2) := nI_add p 2
    have e3 : nI p + 3 = nI (p + 3) := nI_add p 3
    rw [e1, e2, e3]
    refine pk_lt (p + 2) e (fun z2 => ⟨vp_in_nI (by omega) (by decide), cy_up (hC p) ⟨vp_in_nI (by omega) (by decide), cy_up (hC (p + 1)) ⟨vp_in_nI (by omega) (by decide), cy_up (hC (p + 2)) ?_ (cp_txt hT (by omega))⟩ (cp_txt hT (by omega))⟩ (cp_txt hT (by omega))⟩) (fun z2 => hN (by rw [if_neg (by omega)]) _)
    rw [if_pos z2] at hN hS
    have ub : ∀ c, c ≤ 126 → cp_up c < 2 ^ 31 := by
      intro c hc
      unfold cp_up
      repeat' split
      all_goals omega
    have u1 := ub _ (hC p)
    have u2 := ub _ (hC (p + 1))
    have u3 := ub _ (hC (p + 2))
    have hno : (cp_up (tx p) = 0 ∨ cp_up (tx (p + 1)) = 0 ∨ cp_up (tx (p + 2)) = 0) → ∀ pos, post 0 (f_len, f_clock, f_cap, f_staged, pos, f_val, f_cy, f_cm, f_cd, a_text, a_sets, a_domStar, a_dowStar, a_occ, a_mis, a_con, a_cnt, a_fs, a_fe) := by
      intro h0
      rw [cp_upn h0] at hN
      exact hN rfl
    refine pk_eq (cp_up (tx p)) 0 (fun z1 => hno (Or.inl z1) _) (fun z1 => pk_eq (cp_up (tx (p + 1))) 0 (fun z3 => hno (Or.inr (Or.inl z3)) _) (fun z3 => pk_eq (cp_up (tx (p + 2))) 0 (fun z4 => hno (Or.inr (Or.inr z4)) _) (fun z4 => ?_)))
    obtain ⟨w1, l1, l2⟩ := cp_up0 z1
    obtain ⟨w2, l3, l4⟩ := cp_up0 z3
    obtain ⟨w3, l5, l6⟩ := cp_up0 z4
    have ec : nI (cp_up (tx p)) * 10000 + nI (cp_up (tx (p + 1))) * 100 + nI (cp_up (tx (p + 2))) = nI (cp_up (tx p) * 10000 + cp_up (tx (p + 1)) * 100 + cp_up (tx (p + 2))) := by
      rw [show nI (cp_up (tx p)) * 10000 = nI (cp_up (tx p) * 10000) from pk_mul _ 10000, show nI (cp_up (tx (p + 1))) * 100 = nI (cp_up (tx (p + 1)) * 100) from pk_mul _ 100, nI_add, nI_add]
    rw [ec]
    refine cy_name hf ⟨l1, l2⟩ ⟨l3, l4⟩ ⟨l5, l6⟩ ?_
    have enm : (if f = 3 then cp_mon (cp_up (tx p)) (cp_up (tx (p + 1))) (cp_up (tx (p + 2))) else if f = 4 then cp_dow (cp_up (tx p)) (cp_up (tx (p + 1))) (cp_up (tx (p + 2))) else none) = cp_nm f (tx p) (tx (p + 1)) (tx (p + 2)) := by
      unfold cp_nm
      rw [w1, w2, w3]
    rw [enm]
    cases hnm : cp_nm f (tx p) (tx (p + 1)) (tx (p + 2)) with
    | none =>
      rw [hnm] at hN
      exact br_f (by decide) (hN rfl _)
    | some v =>
      rw [hnm] at hS
      have hhi := cf_hi59 hf
      have hvb := (cp_nm_b hnm).2.2.2.2
      exact br_t (nI_pos' (by omega)) (nm_e (hS v (p + 3) rfl))
  · rw [if_pos z, if_pos hd] at hN hS
    have d1 := cp_dgt.mp hd
    have hx1 := cp_txt hT (show p < 2 ^ 31 by omega)
    have hx2 := cp_txt hT (show p + 1 < 2 ^ 31 by omega)
    have ev : a_text (nI p).toNatClampNeg - 48 = nI (tx p - 48) := by
      rw [hx1]
      exact pk_sub (b := 48) d1.1
    have h101 : ∀ (v q : Nat) (x y : Int32), cp_ny tx p e = some (v, q) → v ≤ 99 → x = nI v → y = nI q → wY_atom_101 post (nI f) x f_len f_clock f_cap f_staged y f_val f_cy f_cm f_cd a_text a_sets a_domStar a_dowStar a_occ a_mis a_con a_cnt a_fs a_fe := by
      intro v q x y hny hv ex ey
      subst ey
      rw [hny] at hN hS
      have hN : (if cf_lo f ≤ v ∧ v ≤ cf_hi f then some (v, q) else none) = none → ∀ pos, post 0 (f_len, f_clock, f_cap, f_staged, pos, f_val, f_cy, f_cm, f_cd, a_text, a_sets, a_domStar, a_dowStar, a_occ, a_mis, a_con, a_cnt, a_fs, a_fe) := hN
      have hS : ∀ v' q', (if cf_lo f ≤ v ∧ v ≤ cf_hi f then some (v, q) else none) = some (v', q') → post 1 (f_len, f_clock, f_cap, f_staged, nI q', nI v', f_cy, f_cm, f_cd, a_text, a_sets, a_domStar, a_dowStar, a_occ, a_mis, a_con, a_cnt, a_fs, a_fe) := hS
      exact cy_101 hf hv (fun g1 g2 => hS v q (if_pos ⟨g1, g2⟩)) (fun g => hN (if_neg g) _) ex
    refine nm_r ev (nm_r (nI_1 p) (pk_le e (p + 1) (fun z2 => h101 (tx p - 48) (p + 1) _ _ ?_ (by omega) rfl rfl) (fun z2 => ⟨vp_in_nI (by omega) (by decide), cy_dig (hC (p + 1)) (cb_br (fun hd2 => h101 (tx p - 48) (p + 1) _ _ ?_ (by omega) rfl rfl) (fun hd2 => ⟨vp_in_nI (by omega) (by decide), ?_⟩)) hx2⟩)))
    · unfold cp_ny
      rw [if_pos ⟨z, hd⟩, if_neg (fun w => absurd w.1 (by omega))]
    · unfold cp_ny
      rw [if_pos ⟨z, hd⟩, if_neg (fun w => by rw [hd2] at w; exact Bool.noConfusion w.2)]
    · have d2 := cp_dgt.mp hd2
      refine nm_r (e' := nI ((tx p - 48) * 10 + (tx (p + 1) - 48))) ?_ (nm_r (nI_1 (p + 1)) (h101 ((tx p - 48) * 10 + (tx (p + 1) - 48)) (p + 2) _ _ ?_ (by omega) rfl rfl))
      · rw [hx2, show nI (tx p - 48) * 10 = nI ((tx p - 48) * 10) from pk_mul _ 10, show nI (tx (p + 1)) - 48 = nI (tx (p + 1) - 48) from pk_sub (b := 48) d2.1, nI_add]
      · unfold cp_ny
        rw [if_pos ⟨z, hd⟩, if_pos ⟨by omega, hd2⟩]
theorem cy_156 (hT : ∀ j, a_text j = nI (tx j)) (hC : ∀ j, tx j ≤ 126) {f q e : Nat} (hf : f < 5) (hq : q ≤ 64) (he : e ≤ 64) {x4 x5 : Int32} {B : Nat} {sg : Bool} {post : Int32 → SY → Prop} {J : Int32 → Int32 → Int32 → Int32 → Int32 → Int32 → Int32 → Int32 → Int32 → Int32 → (Nat → Int32) → (Nat → Int32) → (Nat → Int32) → (Nat → Int32) → (Nat → Int32) → (Nat → Int32) → (Nat → Int32) → (Nat → Int32) → (Nat → Int32) → (Nat → Int32) → Prop} (hN : cp_sy tx q e = none → ∀ pos, post 0 (f_len, f_clock, f_cap, f_staged, pos, f_val, f_cy, f_cm, f_cd, a_text, a_sets, a_domStar, a_dowStar, a_occ, a_mis, a_con, a_cnt, a_fs, a_fe)) (hS : ∀ st p s, cp_sy tx q e = some (st, p, s) → ∃ n, wY_parseField_318 post J (nI f) (nI e) x4 (nI (if s = true ∧ sg = true then cf_hi f else B)) (nI st) n x5 f_len f_clock f_cap f_staged (nI p) f_val f_cy f_cm f_cd a_text a_sets a_domStar a_dowStar a_occ a_mis a_con a_cnt a_fs a_fe) : wY_parseField_156 post J (nI f) (nI e) x4 x5 (nI B) (cb_b sg) f_len f_clock f_cap f_staged (nI q) f_val f_cy f_cm f_cd a_text a_sets a_domStar a_dowStar a_occ a_mis a_con a_cnt a_fs a_fe := by
  unfold cp_sy at hN hS
  have hno : ¬ (q < e ∧ tx q = 47) → ∃ n, wY_parseField_318 post J (nI f) (nI e) x4 (nI B) 1 n x5 f_len f_clock f_cap f_staged (nI q) f_val f_cy f_cm f_cd a_text a_sets a_domStar a_dowStar a_occ a_mis a_con a_cnt a_fs a_fe := by
    intro hn
    rw [if_neg hn] at hS
    exact hS 1 q false rfl
  refine pk_le e q (fun z => hno (by omega)) (fun z => ⟨vp_in_nI (by omega) (by decide), pk_eq (tx q) 47 (fun z2 => ?_) (fun z2 => hno (fun w => z2 w.2)) (cp_txt hT (by omega)) rfl (by have := hC q; omega)⟩)
  rw [if_pos ⟨z, z2⟩] at hN hS
  have hx1 := cp_txt hT (show q + 1 < 2 ^ 31 by omega)
  have hx2 := cp_txt hT (show q + 1 + 1 < 2 ^ 31 by omega)
  have h295 : ∀ (v p : Nat) (x y : Int32), cp_ny tx (q + 1) e = some (v, p) → v ≤ 99 → x = nI v → y = nI p → wY_parseField_295 post J (nI f) (nI e) x4 x5 (nI B) (cb_b sg) x f_len f_clock f_cap f_staged y f_val f_cy f_cm f_cd a_text a_sets a_domStar a_dowStar a_occ a_mis a_con a_cnt a_fs a_fe := by
    intro v p x y hny hv ex ey
    subst ex ey
    rw [hny] at hN hS
    have hN : (if v = 0 then none else some (v, p, true)) = none → ∀ pos, post 0 (f_len, f_clock, f_cap, f_staged, pos, f_val, f_cy, f_cm, f_cd, a_text, a_sets, a_domStar, a_dowStar, a_occ, a_mis, a_con, a_cnt, a_fs, a_fe) := hN
    have hS : ∀ st p' s, (if v = 0 then none else some (v, p, true)) = some (st, p', s) → ∃ n, wY_parseField_318 post J (nI f) (nI e) x4 (nI (if s = true ∧ sg = true then cf_hi f else B)) (nI st) n x5 f_len f_clock f_cap f_staged (nI p') f_val f_cy f_cm f_cd a_text a_sets a_domStar a_dowStar a_occ a_mis a_con a_cnt a_fs a_fe := hS
    refine pk_eq v 0 (fun z0 => hN (if_pos z0) _) (fun z0 => cb_br (fun es => ?_) (fun es => cy_hi hf ?_))
    · have t := hS v p true (if_neg z0)
      rw [if_neg (fun w => by rw [es] at w; exact Bool.noConfusion w.2)] at t
      exact t
    · have t := hS v p true (if_neg z0)
      rw [if_pos ⟨rfl, es⟩] at t
      exact t
  refine nm_r (nI_1 q) (pk_le e (q + 1) (fun z3 => hN ?_ _) (fun z3 => ⟨vp_in_nI (by omega) (by decide), cy_dig (hC (q + 1)) (cb_br (fun hd => hN ?_ _) (fun hd => ⟨vp_in_nI (by omega) (by decide), ?_⟩)) hx1⟩))
  · have t : cp_ny tx (q + 1) e = none := by
      unfold cp_ny
      rw [if_neg (fun w => absurd w.1 (by omega))]
    rw [t]
  · have t : cp_ny tx (q + 1) e = none := by
      unfold cp_ny
      rw [if_neg (fun w => by rw [hd] at w; exact Bool.noConfusion w.2)]
    rw [t]
  · have d1 := cp_dgt.mp hd
    have ev : a_text (nI (q + 1)).toNatClampNeg - 48 = nI (tx (q + 1) - 48) := by
      rw [hx1]
      exact pk_sub (b := 48) d1.1
    refine nm_r ev (nm_r (nI_1 (q + 1)) (pk_le e (q + 1 + 1) (fun z4 => h295 (tx (q + 1) - 48) (q + 1 + 1) _ _ ?_ (by omega) rfl rfl) (fun z4 => ⟨vp_in_nI (by omega) (by decide), cy_dig (hC (q + 1 + 1)) (cb_br (fun hd2 => h295 (tx (q + 1) - 48) (q + 1 + 1) _ _ ?_ (by omega) rfl rfl) (fun hd2 => ⟨vp_in_nI (by omega) (by decide), ?_⟩)) hx2⟩)))
    · unfold cp_ny
      rw [if_pos ⟨by omega, hd⟩, if_neg (fun w => absurd w.1 (by omega))]
    · unfold cp_ny
      rw [if_pos ⟨by omega, hd⟩, if_neg (fun w => by rw [hd2] at w; exact Bool.noConfusion w.2)]
    · have d2 := cp_dgt.mp hd2
      refine nm_r (e' := nI ((tx (q + 1) - 48) * 10 + (tx (q + 1 + 1) - 48))) ?_ (nm_r (nI_1 (q + 1 + 1)) (h295 ((tx (q + 1) - 48) * 10 + (tx (q + 1 + 1) - 48)) (q + 1 + 2) _ _ ?_ (by omega) rfl rfl))
      · rw [hx2, show nI (tx (q + 1) - 48) * 10 = nI ((tx (q + 1) - 48) * 10) from pk_mul _ 10, show nI (tx (q + 1 + 1)) - 48 = nI (tx (q + 1 + 1) - 48) from pk_sub (b := 48) d2.1, nI_add]
      · unfold cp_ny
        rw [if_pos ⟨by omega, hd⟩, if_pos ⟨by omega, hd2⟩]
theorem cy_item (hT : ∀ j, a_text j = nI (tx j)) (hC : ∀ j, tx j ≤ 126) {f a b e n gd : Nat} (hf : f < 5) (hab : a ≤ b) (hbe : b ≤ e) (he : e ≤ 64) (hae : a < e) (hgd : gd < 64) (hnc : ∀ j, a ≤ j → j < b → tx j ≠ 44) (hb : b < e → tx b = 44) {post : Int32 → SY → Prop} (hF : (∀ A B st, ¬ cp_I tx f a b A B st) → ∀ pos val, post 0 (f_len, f_clock, f_cap, f_staged, pos, val, f_cy, f_cm, f_cd, a_text, a_sets, a_domStar, a_dowStar, a_occ, a_mis, a_con, a_cnt, a_fs, a_fe)) (hS : ∀ A B st p val, a < p → p ≤ b → A ≤ 99 → B ≤ cf_hi f → 1 ≤ st → st ≤ 99 → (p = b → cp_I tx f a b A B st) → (p < b → ∀ A B st, ¬ cp_I tx f a b A B st) → ∃ n', wY_parseField_318 post (wY_parseField_8 post (nI f) (nI e) n) (nI f) (nI e) (nI gd) (nI B) (nI st) n' (nI A) f_len f_clock f_cap f_staged (nI p) val f_cy f_cm f_cd a_text a_sets a_domStar a_dowStar a_occ a_mis a_con a_cnt a_fs a_fe) : wY_parseField_8 post (nI f) (nI e) (n + 1) (nI gd) f_len f_clock f_cap f_staged (nI a) f_val f_cy f_cm f_cd a_text a_sets a_domStar a_dowStar a_occ a_mis a_con a_cnt a_fs a_fe := by
  have hfail : (∀ A B st, ¬ cp_J tx f a e A B st b) → ∀ pos val, post 0 (f_len, f_clock, f_cap, f_staged, pos, val, f_cy, f_cm, f_cd, a_text, a_sets, a_domStar, a_dowStar, a_occ, a_mis, a_con, a_cnt, a_fs, a_fe) := fun h => hF (fun A B st hI => h A B st (cp_IJ hab hbe hb hI).2)
  have hgo : ∀ A B st p val, cp_J tx f a e A B st p → (∀ A' B' st' p', cp_J tx f a e A' B' st' p' → p' = p) → ∃ n', wY_parseField_318 post (wY_parseField_8 post (nI f) (nI e) n) (nI f) (nI e) (nI gd) (nI B) (nI st) n' (nI A) f_len f_clock f_cap f_staged (nI p) val f_cy f_cm f_cd a_text a_sets a_domStar a_dowStar a_occ a_mis a_con a_cnt a_fs a_fe := by
    intro A B st p val hJ hu
    have ha44 : tx a ≠ 44 := by
      rcases hJ with ⟨t1, _⟩ | ⟨_, q, hq, _⟩
      · rw [t1]; decide
      · have k := cp_A2 hq
        exact (k.2.2.1 a (by omega) k.1).2.1
    obtain ⟨g1, g2, g3, g4, g5, g6, g7⟩ := cp_JI hae hbe hab hb hJ ha44
    have hA : A ≤ 99 := by
      have hl := cf_lo1 hf
      have hh := cf_hi59 hf
      rcases hJ with ⟨_, _, rfl, _⟩ | ⟨_, q, hq, _⟩
      · omega
      · have k : A ≤ cf_hi f := (cp_A2 hq).2.2.2.2.2
        omega
    refine hS A B st p val g1 g2 hA g4 g5 g6 g7 (fun hlt A' B' st' hI => ?_)
    have := hu A' B' st' b (cp_IJ hab hbe hb hI).2
    omega
  refine pk_le 64 gd (fun z => absurd z (by omega)) (fun _ => pk_lt a e (fun _ => ⟨vp_in_nI (by omega) (by decide), pk_eq (tx a) 42 (fun z => ?_) (fun z => ?_) (cp_txt hT (by omega)) rfl (by have := hC a; omega)⟩) (fun z => absurd z (by omega)))
  · refine cy_lo hf (cy_hi hf (nm_r (nI_1 a) ?_))
    refine cy_156 (sg := false) hT hC hf (by omega) he (fun hno => ?_) (fun st p s hs => ?_)
    · intro pos
      refine hfail (fun A B st hJ => ?_) pos _
      rcases hJ with ⟨_, ⟨s, hs⟩, _⟩ | ⟨t1, _⟩
      · rw [hno] at hs; exact absurd hs (by simp)
      · exact t1 z
    · rw [if_neg (fun w => absurd w.2 (by decide))]
      refine hgo _ _ st p _ (Or.inl ⟨z, ⟨s, hs⟩, rfl, rfl⟩) (fun A' B' st' p' hJ => ?_)
      rcases hJ with ⟨_, ⟨s', hs'⟩, _⟩ | ⟨t1, _⟩
      · have e := Option.some.inj (hs.symm.trans hs')
        exact (congrArg (fun x => x.2.1) e).symm
      · exact absurd z t1
  · refine cy_atom hT hC hf (by omega) he (fun hno => ?_) (fun A q hq => ?_)
    · intro pos
      refine br_t rfl (hfail (fun A B st hJ => ?_) pos _)
      rcases hJ with ⟨t1, _⟩ | ⟨_, q, hq, _⟩
      · exact z t1
      · rw [hno] at hq; exact absurd hq (by simp)
    · have k := cp_A2 hq
      have k2 : q ≤ e := k.2.1
      have huq : ∀ A' q', cp_ay tx f a e = some (A', q') → A' = A ∧ q' = q := by
        intro A' q' hq'
        have e := Option.some.inj (hq.symm.trans hq')
        exact ⟨(congrArg (fun x => x.1) e).symm, (congrArg (fun x => x.2) e).symm⟩
      have hsingle : ¬ (q < e ∧ tx q = 45) → wY_parseField_156 post (wY_parseField_8 post (nI f) (nI e) n) (nI f) (nI e) (nI gd) (nI A) (nI A) 1 f_len f_clock f_cap f_staged (nI q) (nI A) f_cy f_cm f_cd a_text a_sets a_domStar a_dowStar a_occ a_mis a_con a_cnt a_fs a_fe := by
        intro hnd
        refine cy_156 (sg := true) hT hC hf (by omega) he (fun hno => ?_) (fun st p s hs => ?_)
        · intro pos
          refine hfail (fun A' B st hJ => ?_) pos _
          rcases hJ with ⟨t1, _⟩ | ⟨_, q', hq', h⟩
          · exact z t1
          · obtain ⟨_, rfl⟩ := huq _ _ hq'
            rcases h with ⟨r1, r2, _⟩ | ⟨_, s, hs, _⟩
            · exact hnd ⟨r1, r2⟩
            · rw [hno] at hs; exact absurd hs (by simp)
        · refine hgo A _ st p _ (Or.inr ⟨z, q, hq, Or.inr ⟨hnd, s, hs, ?_⟩⟩) (fun A' B' st' p' hJ => ?_)
          · cases s with
            | true => rw [if_pos ⟨rfl, rfl⟩, if_pos rfl]
            | false => rw [if_neg (fun w => absurd w.1 (by decide)), if_neg (by decide)]
          · rcases hJ with ⟨t1, _⟩ | ⟨_, q', hq', h⟩
            · exact absurd t1 z
            · obtain ⟨_, rfl⟩ := huq _ _ hq'
              rcases h with ⟨r1, r2, _⟩ | ⟨_, s', hs', _⟩
              · exact absurd ⟨r1, r2⟩ hnd
              · have e := Option.some.inj (hs.symm.trans hs')
                exact (congrArg (fun x => x.2.1) e).symm
      refine br_f (by decide) (pk_le e q (fun z2 => hsingle (by omega)) (fun z2 => ⟨vp_in_nI (by omega) (by decide), pk_eq (tx q) 45 (fun z3 => nm_r (nI_1 q) ?_) (fun z3 => hsingle (fun w => z3 w.2)) (cp_txt hT (by omega)) rfl (by have := hC q; omega)⟩))
      refine cy_atom hT hC hf (by omega) he (fun hno => ?_) (fun B q2 hq2 => ?_)
      · intro pos
        refine br_t rfl (hfail (fun A' B st hJ => ?_) pos _)
        rcases hJ with ⟨t1, _⟩ | ⟨_, q', hq', h⟩
        · exact z t1
        · obtain ⟨_, rfl⟩ := huq _ _ hq'
          rcases h with ⟨_, _, q2, hq2, _⟩ | ⟨hnd, _⟩
          · rw [hno] at hq2; exact absurd hq2 (by simp)
          · exact hnd ⟨z2, z3⟩
      · have l := cp_A2 hq2
        have l2 : q2 ≤ e := l.2.1
        have l6 : B ≤ cf_hi f := l.2.2.2.2.2
        have k6 : A ≤ cf_hi f := k.2.2.2.2.2
        have hhi := cf_hi59 hf
        have huq2 : ∀ B' q2', cp_ay tx f (q + 1) e = some (B', q2') → B' = B ∧ q2' = q2 := by
          intro B' q2' hq'
          have e := Option.some.inj (hq2.symm.trans hq')
          exact ⟨(congrArg (fun x => x.1) e).symm, (congrArg (fun x => x.2) e).symm⟩
        refine br_f (by decide) (pk_le A B (fun z4 => ?_) (fun z4 => hfail (fun A' B' st hJ => ?_) _ _))
        · refine cy_156 (sg := false) hT hC hf (by omega) he (fun hno => ?_) (fun st p s hs => ?_)
          · intro pos
            refine hfail (fun A' B' st hJ => ?_) pos _
            rcases hJ with ⟨t1, _⟩ | ⟨_, q', hq', h⟩
            · exact z t1
            · obtain ⟨_, rfl⟩ := huq _ _ hq'
              rcases h with ⟨_, _, q2', hq2', _, s, hs⟩ | ⟨hnd, _⟩
              · obtain ⟨_, rfl⟩ := huq2 _ _ hq2'
                rw [hno] at hs; exact absurd hs (by simp)
              · exact hnd ⟨z2, z3⟩
          · rw [if_neg (fun w => absurd w.2 (by decide))]
            refine hgo A B st p _ (Or.inr ⟨z, q, hq, Or.inl ⟨z2, z3, q2, hq2, z4, s, hs⟩⟩) (fun A' B' st' p' hJ => ?_)
            rcases hJ with ⟨t1, _⟩ | ⟨_, q', hq', h⟩
            · exact absurd t1 z
            · obtain ⟨_, rfl⟩ := huq _ _ hq'
              rcases h with ⟨_, _, q2', hq2', _, s', hs'⟩ | ⟨hnd, _⟩
              · obtain ⟨_, rfl⟩ := huq2 _ _ hq2'
                have e := Option.some.inj (hs.symm.trans hs')
                exact (congrArg (fun x => x.2.1) e).symm
              · exact absurd ⟨z2, z3⟩ hnd
        · rcases hJ with ⟨t1, _⟩ | ⟨_, q', hq', h⟩
          · exact z t1
          · obtain ⟨rfl, rfl⟩ := huq _ _ hq'
            rcases h with ⟨_, _, q2', hq2', hAB, _⟩ | ⟨hnd, _⟩
            · obtain ⟨rfl, rfl⟩ := huq2 _ _ hq2'
              omega
            · exact hnd ⟨z2, z3⟩
end
