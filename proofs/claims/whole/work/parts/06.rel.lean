/-! the relation -/
def cr_S (sX : Nat → Int64) (st sY dom dow : Nat → Int32) (s : Nat) : Prop :=
  (∀ f v, f < 5 → v ≤ cf_top f → sY (s * 136 + cf_off f + v) = cb_b (cb_bit (sX (s * 5 + f)) v)) ∧ (∀ f v, f < 5 → v < 64 → cb_bit (sX (s * 5 + f)) v = true → cf_lo f ≤ v ∧ v ≤ cf_top f) ∧ dom s = st (s * 5 + 2) ∧ dow s = st (s * 5 + 4) ∧ (st (s * 5 + 2) = 0 ∨ st (s * 5 + 2) = 1) ∧ (st (s * 5 + 4) = 0 ∨ st (s * 5 + 4) = 1)
def cr_C (cnt ru sta com dro can mis : Nat → Int32) : Prop := ∀ j, j < 8 → cnt (j * 6) = ru j ∧ cnt (j * 6 + 1) = sta j ∧ cnt (j * 6 + 2) = com j ∧ cnt (j * 6 + 3) = dro j ∧ cnt (j * 6 + 4) = can j ∧ cnt (j * 6 + 5) = mis j
def cr_T (text : Nat → Int32) : Prop := ∀ j, ∃ c, c ≤ 126 ∧ text j = nI c
def cr_P (p : Nat → Int32) : Prop := ∀ j, j < 8 → p j = 0 ∨ p j = 1 ∨ p j = 2
def cr_R (R : Nat) (ru : Nat → Int32) : Prop := ∀ j, j < 8 → ∃ r, r ≤ R ∧ ru j = nI r
def cr_A (b : Int32) (sX : Nat → Int64) (st sY dom dow : Nat → Int32) : Prop := ∀ s, s < 8 ∨ (s = 8 ∧ b = 1) → cr_S sX st sY dom dow s
def cr_F (k cap clock len : Nat) (b : Int32) (text : Nat → Int32) (sX : Nat → Int64) (st mp cp ru sta com dro can mis sY dom dow cnt : Nat → Int32) : Prop :=
  (1 ≤ cap ∧ cap ≤ 8 ∧ clock ≤ 4206239 ∧ len ≤ 64) ∧ (b = 0 ∨ b = 1) ∧ cr_T text ∧ cr_A b sX st sY dom dow ∧ cr_P mp ∧ cr_P cp ∧ cr_R (2 * k) ru ∧ cr_C cnt ru sta com dro can mis
def i_Rel (k : Nat) (u : SX) (v : SY) : Prop := ∃ (cap clock len : Nat) (b : Int32) (text : Nat → Int32) (sX : Nat → Int64) (st occ mp cp ru sta com dro can mis sY dom dow cnt fs fe : Nat → Int32) (pos val cy cm cd : Int32), u = (nI cap, nI clock, nI len, b, text, sX, st, occ, mp, cp, ru, sta, com, dro, can, mis) ∧ v = (nI len, nI clock, nI cap, b, pos, val, cy, cm, cd, text, sY, dom, dow, occ, mp, cp, cnt, fs, fe) ∧ cr_F k cap clock len b text sX st mp cp ru sta com dro can mis sY dom dow cnt
theorem cr_mk {k cap clock len : Nat} {b : Int32} {text : Nat → Int32} {sX : Nat → Int64} {st occ mp cp ru sta com dro can mis sY dom dow cnt fs fe : Nat → Int32} {pos val cy cm cd : Int32} (F : cr_F k cap clock len b text sX st mp cp ru sta com dro can mis sY dom dow cnt) : i_Rel k (nI cap, nI clock, nI len, b, text, sX, st, occ, mp, cp, ru, sta, com, dro, can, mis) (nI len, nI clock, nI cap, b, pos, val, cy, cm, cd, text, sY, dom, dow, occ, mp, cp, cnt, fs, fe) :=
  ⟨cap, clock, len, b, text, sX, st, occ, mp, cp, ru, sta, com, dro, can, mis, sY, dom, dow, cnt, fs, fe, pos, val, cy, cm, cd, rfl, rfl, F⟩
theorem cr_Rm {R R' : Nat} {ru : Nat → Int32} (h : R ≤ R') (H : cr_R R ru) : cr_R R' ru := fun j hj => by
  obtain ⟨r, h1, h2⟩ := H j hj
  exact ⟨r, by omega, h2⟩
theorem cr_Fm {k k' cap clock len : Nat} {b : Int32} {text : Nat → Int32} {sX : Nat → Int64} {st mp cp ru sta com dro can mis sY dom dow cnt : Nat → Int32} (h : k ≤ k') (F : cr_F k cap clock len b text sX st mp cp ru sta com dro can mis sY dom dow cnt) : cr_F k' cap clock len b text sX st mp cp ru sta com dro can mis sY dom dow cnt :=
  ⟨F.1, F.2.1, F.2.2.1, F.2.2.2.1, F.2.2.2.2.1, F.2.2.2.2.2.1, cr_Rm (by omega) F.2.2.2.2.2.2.1, F.2.2.2.2.2.2.2⟩
theorem i_up {k : Nat} {u : SX} {v : SY} (h : i_Rel k u v) : i_Rel (k + 5) u v := by
  obtain ⟨cap, clock, len, b, text, sX, st, occ, mp, cp, ru, sta, com, dro, can, mis, sY, dom, dow, cnt, fs, fe, pos, val, cy, cm, cd, rfl, rfl, F⟩ := h
  exact cr_mk (cr_Fm (by omega) F)
theorem cr_S0 (s : Nat) : cr_S (fun _ => 0) (fun _ => 0) (fun _ => 0) (fun _ => 0) (fun _ => 0) s := by
  refine ⟨fun f v _ _ => ?_, fun f v _ _ h => ?_, rfl, rfl, Or.inl rfl, Or.inl rfl⟩
  · show (0 : Int32) = cb_b (cb_bit 0 v)
    rw [cb_bit0]; rfl
  · have h : cb_bit 0 v = true := h
    rw [cb_bit0] at h
    exact Bool.noConfusion h
theorem cr_F0 {cap : Nat} (h1 : 1 ≤ cap) (h8 : cap ≤ 8) : cr_F 1 cap 0 0 0 (fun _ => 0) (fun _ => 0) (fun _ => 0) (fun _ => 0) (fun _ => 0) (fun _ => 0) (fun _ => 0) (fun _ => 0) (fun _ => 0) (fun _ => 0) (fun _ => 0) (fun _ => 0) (fun _ => 0) (fun _ => 0) (fun _ => 0) :=
  ⟨⟨h1, h8, by omega, by omega⟩, Or.inl rfl, fun _ => ⟨0, by omega, rfl⟩, fun s _ => cr_S0 s, fun _ _ => Or.inl rfl, fun _ _ => Or.inl rfl, fun _ _ => ⟨0, by omega, rfl⟩, fun _ _ => ⟨rfl, rfl, rfl, rfl, rfl, rfl⟩⟩
theorem cr_new {cap : Nat} (h1 : 1 ≤ cap) (h8 : cap ≤ 8) {p0 : Int32} (e : p0 = nI cap) : i_Rel 1 (p0, 0, 0, 0, (fun _ => 0), (fun _ => 0), (fun _ => 0), (fun _ => 0), (fun _ => 0), (fun _ => 0), (fun _ => 0), (fun _ => 0), (fun _ => 0), (fun _ => 0), (fun _ => 0), (fun _ => 0)) (0, 0, p0, 0, 0, 0, 0, 0, 0, (fun _ => 0), (fun _ => 0), (fun _ => 0), (fun _ => 0), (fun _ => 0), (fun _ => 0), (fun _ => 0), (fun _ => 0), (fun _ => 0), (fun _ => 0)) := by
  subst e
  exact cr_mk (clock := 0) (len := 0) (cr_F0 h1 h8)
theorem i_vc0 (k0 : Int32) : wpX_init (fun u => wpY_init (fun v => i_Rel 1 u v) k0) k0 := by
  by_cases h1 : 1 ≤ k0
  · by_cases h8 : k0 ≤ 8
    · obtain ⟨c, hc, rfl⟩ := nI_of (x := k0) (Int32.not_lt.mpr (Int32.le_trans (by decide) h1))
      have c1 : 1 ≤ c := (nI_leI (a := 1) (by decide) hc).mp h1
      have c8 : c ≤ 8 := (nI_leI (b := 8) hc (by decide)).mp h8
      exact br_t h1 (br_t h8 (br_t h1 (br_t h8 (cr_new c1 c8 rfl))))
    · exact br_t h1 (br_f h8 (br_t h1 (br_f h8 (cr_new (cap := 8) (by decide) (by decide) rfl))))
  · exact br_f h1 (br_f h1 (cr_new (cap := 1) (by decide) (by decide) rfl))
theorem cr_XY {sX : Nat → Int64} {st sY dom dow : Nat → Int32} {s : Nat} (hs : s < 9) (H : cr_S sX st sY dom dow s) : cs_X s sX st (fun f v => cb_bit (sX (s * 5 + f)) v) (decide (st (s * 5 + 2) = 1)) (decide (st (s * 5 + 4) = 1)) ∧ cs_Y s sY dom dow (fun f v => cb_bit (sX (s * 5 + f)) v) (decide (st (s * 5 + 2) = 1)) (decide (st (s * 5 + 4) = 1)) :=
  ⟨⟨hs, fun f v _ _ _ => rfl, cb_of H.2.2.2.2.1, cb_of H.2.2.2.2.2⟩, ⟨hs, fun f v hf _ h2 => H.1 f v hf h2, H.2.2.1.trans (cb_of H.2.2.2.2.1), H.2.2.2.1.trans (cb_of H.2.2.2.2.2)⟩⟩
theorem cs_fr_u {P : Nat → Prop} {a b : Nat} (hb : b < 2 ^ 31) {r r' : Int32} (h : cs_fr P a b r) (h' : cs_fr P a b r') : r' = r := by
  rcases h with ⟨m, rfl, m1, m2, m3, m4⟩ | ⟨rfl, hn⟩
  · rcases h' with ⟨m', rfl, n1, n2, n3, n4⟩ | ⟨rfl, hn'⟩
    · by_cases e : m < m'
      · exact absurd m3 (n4 m m1 e)
      · by_cases e2 : m' < m
        · exact absurd n3 (m4 m' n1 e2)
        · exact congrArg nI (by omega)
    · exact absurd m3 (hn' m m1 m2)
  · rcases h' with ⟨m', rfl, n1, n2, n3, n4⟩ | ⟨rfl, hn'⟩
    · exact absurd n3 (hn m' n1 n2)
    · rfl
theorem cr_chr {c : Nat} (hc : c < 65536) : vp_nar .char ((nI c).toUInt32 % 65536).toInt32 = nI c := by
  rw [pk_vc, pk_char, pk_tn (by omega), Nat.mod_eq_of_lt hc]
theorem cr_upd_T {text : Nat → Int32} (H : cr_T text) {i c : Nat} (hc : c ≤ 126) : cr_T (upd text i (nI c)) := by
  intro j
  by_cases e : j = i
  · subst e; exact ⟨c, hc, pk_us⟩
  · obtain ⟨c', h1, h2⟩ := H j
    exact ⟨c', h1, (pk_un e).trans h2⟩
