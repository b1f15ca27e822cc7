/-! Y's parser: one field -/
def cp_PS (f A B st : Nat) (sY sY' : Nat → Int32) : Prop := (∀ i, (∃ w, i = 1088 + cf_off f + w ∧ cp_sv f A B st w) → sY' i = 1) ∧ (∀ i, ¬ (∃ w, i = 1088 + cf_off f + w ∧ cp_sv f A B st w) → sY' i = sY i)
theorem cp_nrmt {f v : Nat} (hf : f < 5) (hv : v ≤ cf_hi f) : cp_nrm f v ≤ cf_top f := by
  unfold cp_nrm
  by_cases e4 : f = 4
  · subst e4
    have e2 : cf_top 4 = 6 := rfl
    have e3 : cf_hi 4 = 7 := rfl
    rw [e2]
    rw [e3] at hv
    split
    · omega
    · omega
  · have et : cf_top f = cf_hi f := (cf_ht hf e4).symm
    rw [if_neg (fun z => e4 z.1), et]
    exact hv
section
variable {tx : Nat → Nat} {f_len f_clock f_cap f_staged f_pos f_val f_cy f_cm f_cd : Int32} {a_text a_sets a_domStar a_dowStar a_occ a_mis a_con a_cnt a_fs a_fe : Nat → Int32}
theorem cy_put {f v : Nat} (hf : f < 5) (hv : v ≤ cf_hi f) {post : SY → Prop} (hp : post (f_len, f_clock, f_cap, f_staged, f_pos, f_val, f_cy, f_cm, f_cd, a_text, upd a_sets (1088 + cf_off f + cp_nrm f v) 1, a_domStar, a_dowStar, a_occ, a_mis, a_con, a_cnt, a_fs, a_fe)) : wpY_put post (f_len, f_clock, f_cap, f_staged, f_pos, f_val, f_cy, f_cm, f_cd, a_text, a_sets, a_domStar, a_dowStar, a_occ, a_mis, a_con, a_cnt, a_fs, a_fe) (nI f) (nI v) := by
  have hhi := cf_hi59 hf
  have h13 : ∀ x : Int32, x = nI (cp_nrm f v) → wY_put_13 post (nI f) x f_len f_clock f_cap f_staged f_pos f_val f_cy f_cm f_cd a_text a_sets a_domStar a_dowStar a_occ a_mis a_con a_cnt a_fs a_fe := by
    intro x ex
    subst ex
    have ht := cp_nrmt hf hv
    have htb := cf_topb hf
    unfold wY_put_13
    refine cy_off hf ?_
    have e : 1088 + nI (cf_off f) + nI (cp_nrm f v) = nI (1088 + cf_off f + cp_nrm f v) := by
      rw [show 1088 + nI (cf_off f) = nI (1088 + cf_off f) from nI_add 1088 _, nI_add]
    rw [e, nI_clamp (by omega), cb_v1]
    exact ⟨vp_in_nI (by omega) (by decide), nm_e hp⟩
  refine pk_eq f 4 (fun e4 => pk_eq v 7 (fun e7 => h13 0 ?_) (fun e7 => h13 _ ?_)) (fun e4 => h13 _ ?_)
  · unfold cp_nrm
    rw [if_pos ⟨e4, e7⟩]
    rfl
  · unfold cp_nrm
    rw [if_neg (fun z => e7 z.2)]
  · unfold cp_nrm
    rw [if_neg (fun z => e4 z.1)]
theorem cy_318 (hT : ∀ j, a_text j = nI (tx j)) (hC : ∀ j, tx j ≤ 126) {f e A B st p gd : Nat} (hf : f < 5) (he : e ≤ 64) (hp : p ≤ 64) (hB : B ≤ cf_hi f) (hst : 1 ≤ st) (hst2 : st ≤ 99) {post : Int32 → SY → Prop} {J : Int32 → Int32 → Int32 → Int32 → Int32 → Int32 → Int32 → Int32 → Int32 → Int32 → (Nat → Int32) → (Nat → Int32) → (Nat → Int32) → (Nat → Int32) → (Nat → Int32) → (Nat → Int32) → (Nat → Int32) → (Nat → Int32) → (Nat → Int32) → (Nat → Int32) → Prop} (h1 : ¬ p < e → ∀ sY', cp_PS f A B st a_sets sY' → post 1 (f_len, f_clock, f_cap, f_staged, nI p, f_val, f_cy, f_cm, f_cd, a_text, sY', a_domStar, a_dowStar, a_occ, a_mis, a_con, a_cnt, a_fs, a_fe)) (h2 : p < e → tx p = 44 → ∀ sY', cp_PS f A B st a_sets sY' → J (nI (gd + 1)) f_len f_clock f_cap f_staged (nI (p + 1)) f_val f_cy f_cm f_cd a_text sY' a_domStar a_dowStar a_occ a_mis a_con a_cnt a_fs a_fe) (h3 : p < e → tx p ≠ 44 → ∀ sY', cp_PS f A B st a_sets sY' → post 0 (f_len, f_clock, f_cap, f_staged, nI p, f_val, f_cy, f_cm, f_cd, a_text, sY', a_domStar, a_dowStar, a_occ, a_mis, a_con, a_cnt, a_fs, a_fe)) : ∀ (k j n : Nat) (sY : Nat → Int32), B + 1 ≤ A + j * st + k → A + j * st < 100000 → k < n → (∀ i, i < j → A + i * st ≤ B) → (∀ q, (∃ i, i < j ∧ q = 1088 + cf_off f + cp_nrm f (A + i * st)) → sY q = 1) → (∀ q, ¬ (∃ i, i < j ∧ q = 1088 + cf_off f + cp_nrm f (A + i * st)) → sY q = a_sets q) → wY_parseField_318 post J (nI f) (nI e) (nI gd) (nI B) (nI st) n (nI (A + j * st)) f_len f_clock f_cap f_staged (nI p) f_val f_cy f_cm f_cd a_text sY a_domStar a_dowStar a_occ a_mis a_con a_cnt a_fs a_fe := by
  have hhi := cf_hi59 hf
  have hend : ∀ (j : Nat) (sY : Nat → Int32), B < A + j * st → (∀ i, i < j → A + i * st ≤ B) → (∀ q, (∃ i, i < j ∧ q = 1088 + cf_off f + cp_nrm f (A + i * st)) → sY q = 1) → (∀ q, ¬ (∃ i, i < j ∧ q = 1088 + cf_off f + cp_nrm f (A + i * st)) → sY q = a_sets q) → cp_PS f A B st a_sets sY := by
    intro j sY g1 g2 g3 g4
    refine ⟨fun q hq => g3 q ?_, fun q hq => g4 q (fun hz => hq ?_)⟩
    · obtain ⟨w, rfl, i, i1, rfl⟩ := hq
      refine ⟨i, ?_, rfl⟩
      by_cases e1 : i < j
      · exact e1
      · have := Nat.mul_le_mul_right st (show j ≤ i by omega)
        omega
    · obtain ⟨i, i1, rfl⟩ := hz
      exact ⟨_, rfl, i, g2 i i1, rfl⟩
  have hexit : ∀ (sY : Nat → Int32), cp_PS f A B st a_sets sY → ((nI p < nI e → (vp_in (nI p) 64 ∧ (((a_text (nI p).toNatClampNeg) = 44 → (∀ y, y = nI p + 1 → (∀ x, x = nI gd + 1 → (J x f_len f_clock f_cap f_staged y f_val f_cy f_cm f_cd a_text sY a_domStar a_dowStar a_occ a_mis a_con a_cnt a_fs a_fe)))) ∧ (¬ (a_text (nI p).toNatClampNeg) = 44 → (post 0 (f_len, f_clock, f_cap, f_staged, nI p, f_val, f_cy, f_cm, f_cd, a_text, sY, a_domStar, a_dowStar, a_occ, a_mis, a_con, a_cnt, a_fs, a_fe)))))) ∧ (¬ nI p < nI e → (post 1 (f_len, f_clock, f_cap, f_staged, nI p, f_val, f_cy, f_cm, f_cd, a_text, sY, a_domStar, a_dowStar, a_occ, a_mis, a_con, a_cnt, a_fs, a_fe)))) := by
    intro sY hps
    exact pk_lt p e (fun z => ⟨vp_in_nI (by omega) (by decide), pk_eq (tx p) 44 (fun z2 => nm_r (nI_1 p) (nm_r (nI_1 gd) (h2 z z2 sY hps))) (fun z2 => h3 z z2 sY hps) (cp_txt hT (by omega)) rfl (by have := hC p; omega)⟩) (fun z => h1 (by omega) sY hps)
  intro k
  induction k with
  | zero =>
    intro j n sY g0 g0b hn g1 g2 g3
    obtain ⟨n, rfl⟩ : ∃ n', n = n' + 1 := ⟨n - 1, by omega⟩
    exact pk_lt B (A + j * st) (fun z => hexit sY (hend j sY z g1 g2 g3)) (fun z => absurd z (by omega))
  | succ k ih =>
    intro j n sY g0 g0b hn g1 g2 g3
    obtain ⟨n, rfl⟩ : ∃ n', n = n' + 1 := ⟨n - 1, by omega⟩
    have ej : A + (j + 1) * st = A + j * st + st := by rw [Nat.add_mul, Nat.one_mul, Nat.add_assoc]
    refine pk_lt B (A + j * st) (fun z => hexit sY (hend j sY z g1 g2 g3)) (fun z => cy_put hf (by omega) ?_)
    refine nm_r ((nI_add _ _).trans (congrArg nI ej.symm)) (ih (j + 1) n _ (by omega) (by omega) (by omega) ?_ ?_ ?_)
    · intro i hi
      by_cases e1 : i < j
      · exact g1 i e1
      · rw [show i = j by omega]; exact z
    · intro q ⟨i, i1, i2⟩
      by_cases e1 : q = 1088 + cf_off f + cp_nrm f (A + j * st)
      · rw [e1, pk_us]
      · rw [pk_un e1]
        refine g2 q ⟨i, ?_, i2⟩
        by_cases e2 : i < j
        · exact e2
        · rw [show i = j by omega] at i2
          exact absurd i2 e1
    · intro q hq
      rw [pk_un (fun e1 => hq ⟨j, by omega, e1⟩)]
      exact g3 q (fun ⟨i, i1, i2⟩ => hq ⟨i, by omega, i2⟩)
/-- region f of the staged cells holds g -/
def cp_G (f : Nat) (sY : Nat → Int32) (g : Nat → Prop) : Prop := ∀ v, v ≤ cf_top f → (sY (1088 + cf_off f + v) = 1 ∧ g v) ∨ (sY (1088 + cf_off f + v) = 0 ∧ ¬ g v)
def cp_Fr (f : Nat) (sY sY' : Nat → Int32) : Prop := ∀ i, (i < 1088 + cf_off f ∨ 1088 + cf_off f + cf_top f < i) → sY' i = sY i
theorem cp_PSF {f A B st : Nat} (hf : f < 5) (hB : B ≤ cf_hi f) {sY sY' : Nat → Int32} (h : cp_PS f A B st sY sY') : cp_Fr f sY sY' := by
  intro i hi
  refine h.2 i ?_
  intro ⟨w, e, j, j1, j2⟩
  have := cp_nrmt (f := f) (v := A + j * st) hf (by omega)
  omega
theorem cp_PSG {f A B st : Nat} {sY sY' : Nat → Int32} {g : Nat → Prop} (hG : cp_G f sY g) (h : cp_PS f A B st sY sY') : cp_G f sY' (fun v => g v ∨ cp_sv f A B st v) := by
  intro v hv
  by_cases e : cp_sv f A B st v
  · exact Or.inl ⟨h.1 _ ⟨v, rfl, e⟩, Or.inr e⟩
  · have t := h.2 (1088 + cf_off f + v) (fun ⟨w, e1, e2⟩ => e (by
      have e3 : w = v := by omega
      rw [← e3]; exact e2))
    rcases hG v hv with ⟨g1, g2⟩ | ⟨g1, g2⟩
    · exact Or.inl ⟨t.trans g1, Or.inl g2⟩
    · exact Or.inr ⟨t.trans g1, fun z => z.elim g2 e⟩
theorem cp_FrT {f : Nat} {a b c : Nat → Int32} (h1 : cp_Fr f a b) (h2 : cp_Fr f b c) : cp_Fr f a c := fun i hi => (h2 i hi).trans (h1 i hi)
theorem cy_fieldloop (hT : ∀ j, a_text j = nI (tx j)) (hC : ∀ j, tx j ≤ 126) {f e : Nat} (hf : f < 5) (he : e ≤ 64) {post : Int32 → SY → Prop} : ∀ (k a n gd : Nat) (g : Nat → Prop) (sY : Nat → Int32) (val : Int32), a ≤ e → e < a + k → k < n → gd ≤ a → cp_Fr f a_sets sY → cp_G f sY g → (∀ sY' g' pos val, cp_P tx f e k a g g' → cp_G f sY' g' → cp_Fr f a_sets sY' → post 1 (f_len, f_clock, f_cap, f_staged, pos, val, f_cy, f_cm, f_cd, a_text, sY', a_domStar, a_dowStar, a_occ, a_mis, a_con, a_cnt, a_fs, a_fe)) → ((∀ g', ¬ cp_P tx f e k a g g') → ∀ sY' pos val, cp_Fr f a_sets sY' → post 0 (f_len, f_clock, f_cap, f_staged, pos, val, f_cy, f_cm, f_cd, a_text, sY', a_domStar, a_dowStar, a_occ, a_mis, a_con, a_cnt, a_fs, a_fe)) → wY_parseField_8 post (nI f) (nI e) n (nI gd) f_len f_clock f_cap f_staged (nI a) val f_cy f_cm f_cd a_text sY a_domStar a_dowStar a_occ a_mis a_con a_cnt a_fs a_fe := by
  intro k
  induction k with
  | zero =>
    intro a n gd g sY val hae h2
    omega
  | succ k ih =>
    intro a n gd g sY val hae h2 hn hgd hFr hG hS hF
    obtain ⟨n, rfl⟩ : ∃ n', n = n' + 1 := ⟨n - 1, by omega⟩
    obtain ⟨s1, s2, s3, s4⟩ := cp_finds (tx := tx) (c := 44) hae
    unfold cp_P at hS hF
    obtain ⟨b, eb⟩ : ∃ b, cp_find tx 44 a e = b := ⟨_, rfl⟩
    rw [eb] at s1 s2 s3 s4 hS hF
    by_cases hlt : a < e
    · refine cy_item hT hC hf s1 s2 he hlt (by omega) s3 s4 (fun hno pos val => hF (fun g' hP => ?_) sY pos val hFr) (fun A B st p val p1 p2 hA hB hst hst2 hI hnI => ⟨B + 2, ?_⟩)
      · obtain ⟨A, B, st, hI, _⟩ := hP
        exact hno A B st hI
      · have hhi := cf_hi59 hf
        have t := cy_318 (A := A) (gd := gd) (a_sets := sY) (f_val := val) (J := wY_parseField_8 post (nI f) (nI e) n) (post := post) (f_len := f_len) (f_clock := f_clock) (f_cap := f_cap) (f_staged := f_staged) (f_cy := f_cy) (f_cm := f_cm) (f_cd := f_cd) (a_domStar := a_domStar) (a_dowStar := a_dowStar) (a_occ := a_occ) (a_mis := a_mis) (a_con := a_con) (a_cnt := a_cnt) (a_fs := a_fs) (a_fe := a_fe) hT hC hf he (show p ≤ 64 by omega) hB hst hst2 (fun z sY' hps => ?_) (fun z z2 sY' hps => ?_) (fun z z2 sY' hps => ?_) (B + 1) 0 (B + 2) sY (by omega) ?_ (by omega) (fun i hi => absurd hi (by omega)) (fun q ⟨i, i1, _⟩ => absurd i1 (by omega)) (fun q _ => rfl)
        · rw [Nat.zero_mul, Nat.add_zero] at t
          exact t
        · have epb : p = b := by omega
          have hI := hI epb
          exact hS sY' _ _ _ ⟨A, B, st, hI, fun w => absurd w (by omega), fun _ v => Iff.rfl⟩ (cp_PSG hG hps) (cp_FrT hFr (cp_PSF hf hB hps))
        · have epb : p = b := by
            by_cases e1 : p < b
            · exact absurd z2 (s3 p (by omega) e1)
            · omega
          have hI := hI epb
          subst epb
          refine ih (p + 1) n (gd + 1) _ sY' val (by omega) (by omega) (by omega) (by omega) (cp_FrT hFr (cp_PSF hf hB hps)) (cp_PSG hG hps) (fun sY2 g2 pos val hP => hS sY2 g2 pos val ⟨A, B, st, hI, fun _ => hP, fun w => absurd z w⟩) (fun hno => hF (fun g2 hP => ?_))
          obtain ⟨A', B', st', hI', hP', _⟩ := hP
          obtain ⟨rfl, rfl, rfl⟩ := cp_Iu hI hI'
          exact hno g2 (hP' z)
        · have hpb : p < b := by
            by_cases e1 : p < b
            · exact e1
            · have e2 : p = b := by omega
              rw [e2] at z z2
              exact absurd (s4 z) z2
          refine hF (fun g2 hP => ?_) sY' _ _ (cp_FrT hFr (cp_PSF hf hB hps))
          obtain ⟨A', B', st', hI', _⟩ := hP
          exact hnI hpb A' B' st' hI'
        · omega
    · have hz : post 0 (f_len, f_clock, f_cap, f_staged, nI a, val, f_cy, f_cm, f_cd, a_text, sY, a_domStar, a_dowStar, a_occ, a_mis, a_con, a_cnt, a_fs, a_fe) := by
        refine hF (fun g2 hP => ?_) sY _ _ hFr
        obtain ⟨A, B, st, hI, _⟩ := hP
        have := (cp_IJ (e := e) s1 s2 s4 hI).1
        omega
      exact pk_le 64 gd (fun _ => hz) (fun _ => pk_lt a e (fun z => absurd z hlt) (fun _ => hz))
theorem cy_field (hT : ∀ j, a_text j = nI (tx j)) (hC : ∀ j, tx j ≤ 126) {f a e : Nat} (hf : f < 5) (hae : a < e) (he : e ≤ 64) (hG : cp_G f a_sets (fun _ => False)) {x y : Int32} {post : Int32 → SY → Prop} (hS : ∀ sY' g' pos val, cp_P tx f e (e + 1) a (fun _ => False) g' → cp_G f sY' g' → cp_Fr f a_sets sY' → post 1 (f_len, f_clock, f_cap, f_staged, pos, val, f_cy, f_cm, f_cd, a_text, sY', a_domStar, a_dowStar, a_occ, a_mis, a_con, a_cnt, a_fs, a_fe)) (hF : (∀ g', ¬ cp_P tx f e (e + 1) a (fun _ => False) g') → ∀ sY' pos val, cp_Fr f a_sets sY' → post 0 (f_len, f_clock, f_cap, f_staged, pos, val, f_cy, f_cm, f_cd, a_text, sY', a_domStar, a_dowStar, a_occ, a_mis, a_con, a_cnt, a_fs, a_fe)) (ex : x = nI a) (ey : y = nI e) : wpY_parseField post (f_len, f_clock, f_cap, f_staged, f_pos, f_val, f_cy, f_cm, f_cd, a_text, a_sets, a_domStar, a_dowStar, a_occ, a_mis, a_con, a_cnt, a_fs, a_fe) (nI f) x y := by
  subst ex ey
  exact ⟨e + 2, cy_fieldloop hT hC hf he (e + 1) a (e + 2) 0 (fun _ => False) a_sets f_val (by omega) (by omega) (by omega) (by omega) (fun _ _ => rfl) hG hS hF⟩
end
