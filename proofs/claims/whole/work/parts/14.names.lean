/-! the text: pure pictures of the two parsers, names -/
def cp_en (o : Option Nat) : Int32 := match o with
  | none => -1
  | some v => nI v
def cp_mon (a b c : Nat) : Option Nat := if a = 74 ∧ b = 65 ∧ c = 78 then some 1 else if a = 70 ∧ b = 69 ∧ c = 66 then some 2 else if a = 77 ∧ b = 65 ∧ c = 82 then some 3 else if a = 65 ∧ b = 80 ∧ c = 82 then some 4 else if a = 77 ∧ b = 65 ∧ c = 89 then some 5 else if a = 74 ∧ b = 85 ∧ c = 78 then some 6 else if a = 74 ∧ b = 85 ∧ c = 76 then some 7 else if a = 65 ∧ b = 85 ∧ c = 71 then some 8 else if a = 83 ∧ b = 69 ∧ c = 80 then some 9 else if a = 79 ∧ b = 67 ∧ c = 84 then some 10 else if a = 78 ∧ b = 79 ∧ c = 86 then some 11 else if a = 68 ∧ b = 69 ∧ c = 67 then some 12 else none
def cp_dow (a b c : Nat) : Option Nat := if a = 83 ∧ b = 85 ∧ c = 78 then some 0 else if a = 77 ∧ b = 79 ∧ c = 78 then some 1 else if a = 84 ∧ b = 85 ∧ c = 69 then some 2 else if a = 87 ∧ b = 69 ∧ c = 68 then some 3 else if a = 84 ∧ b = 72 ∧ c = 85 then some 4 else if a = 70 ∧ b = 82 ∧ c = 73 then some 5 else if a = 83 ∧ b = 65 ∧ c = 84 then some 6 else none
def cp_cap (c : Nat) : Nat := if 97 ≤ c ∧ c ≤ 122 then c - 32 else c
def cp_up (c : Nat) : Nat := if 97 ≤ c ∧ c ≤ 122 then c - 32 else if 65 ≤ c ∧ c ≤ 90 then c else 0
def cp_nm (f c1 c2 c3 : Nat) : Option Nat := if f = 3 then cp_mon (cp_cap c1) (cp_cap c2) (cp_cap c3) else if f = 4 then cp_dow (cp_cap c1) (cp_cap c2) (cp_cap c3) else none
theorem cp_mon_b {a b c v : Nat} (h : cp_mon a b c = some v) : (65 ≤ a ∧ a ≤ 90) ∧ (65 ≤ b ∧ b ≤ 90) ∧ (65 ≤ c ∧ c ≤ 90) ∧ 1 ≤ v ∧ v ≤ 12 := by
  unfold cp_mon at h
  by_cases e : a = 74 ∧ b = 65 ∧ c = 78
  · rw [if_pos e] at h
    have z := Option.some.inj h
    omega
  rw [if_neg e] at h
  clear e
  by_cases e : a = 70 ∧ b = 69 ∧ c = 66
  · rw [if_pos e] at h
    have z := Option.some.inj h
    omega
  rw [if_neg e] at h
  clear e
  by_cases e : a = 77 ∧ b = 65 ∧ c = 82
  · rw [if_pos e] at h
    have z := Option.some.inj h
    omega
  rw [if_neg e] at h
  clear e
  by_cases e : a = 65 ∧ b = 80 ∧ c = 82
  · rw [if_pos e] at h
    have z := Option.some.inj h
    omega
  rw [if_neg e] at h
  clear e
  by_cases e : a = 77 ∧ b = 65 ∧ c = 89
  · rw [if_pos e] at h
    have z := Option.some.inj h
    omega
  rw [if_neg e] at h
  clear e
  by_cases e : a = 74 ∧ b = 85 ∧ c = 78
  · rw [if_pos e] at h
    have z := Option.some.inj h
    omega
  rw [if_neg e] at h
  clear e
  by_cases e : a = 74 ∧ b = 85 ∧ c = 76
  · rw [if_pos e] at h
    have z := Option.some.inj h
    omega
  rw [if_neg e] at h
  clear e
  by_cases e : a = 65 ∧ b = 85 ∧ c = 71
  · rw [if_pos e] at h
    have z := Option.some.inj h
    omega
  rw [if_neg e] at h
  clear e
  by_cases e : a = 83 ∧ b = 69 ∧ c = 80
  · rw [if_pos e] at h
    have z := Option.some.inj h
    omega
  rw [if_neg e] at h
  clear e
  by_cases e : a = 79 ∧ b = 67 ∧ c = 84
  · rw [if_pos e] at h
    have z := Option.some.inj h
    omega
  rw [if_neg e] at h
  clear e
  by_cases e : a = 78 ∧ b = 79 ∧ c = 86
  · rw [if_pos e] at h
    have z := Option.some.inj h
    omega
  rw [if_neg e] at h
  clear e
  by_cases e : a = 68 ∧ b = 69 ∧ c = 67
  · rw [if_pos e] at h
    have z := Option.some.inj h
    omega
  rw [if_neg e] at h
  clear e
  exact absurd h (fun z => nomatch z)
theorem cp_dow_b {a b c v : Nat} (h : cp_dow a b c = some v) : (65 ≤ a ∧ a ≤ 90) ∧ (65 ≤ b ∧ b ≤ 90) ∧ (65 ≤ c ∧ c ≤ 90) ∧ v ≤ 6 := by
  unfold cp_dow at h
  repeat' split at h
  all_goals first
    | (cases h; done)
    | (cases h; omega)
theorem cp_cap_l {c : Nat} (h1 : 65 ≤ cp_cap c) (h2 : cp_cap c ≤ 90) : (65 ≤ c ∧ c ≤ 90) ∨ (97 ≤ c ∧ c ≤ 122) := by
  unfold cp_cap at h1 h2
  split at h1 <;> split at h2 <;> omega
theorem cp_nm_b {f c1 c2 c3 v : Nat} (h : cp_nm f c1 c2 c3 = some v) : ((65 ≤ c1 ∧ c1 ≤ 90) ∨ (97 ≤ c1 ∧ c1 ≤ 122)) ∧ ((65 ≤ c2 ∧ c2 ≤ 90) ∨ (97 ≤ c2 ∧ c2 ≤ 122)) ∧ ((65 ≤ c3 ∧ c3 ≤ 90) ∨ (97 ≤ c3 ∧ c3 ≤ 122)) ∧ cf_lo f ≤ v ∧ v ≤ cf_hi f := by
  unfold cp_nm at h
  by_cases h3 : f = 3
  · subst h3
    rw [if_pos rfl] at h
    obtain ⟨⟨a1, a2⟩, ⟨b1, b2⟩, ⟨c1, c2⟩, v1, v2⟩ := cp_mon_b h
    exact ⟨cp_cap_l a1 a2, cp_cap_l b1 b2, cp_cap_l c1 c2, v1, v2⟩
  · rw [if_neg h3] at h
    by_cases h4 : f = 4
    · subst h4
      rw [if_pos rfl] at h
      obtain ⟨⟨a1, a2⟩, ⟨b1, b2⟩, ⟨c1, c2⟩, v2⟩ := cp_dow_b h
      exact ⟨cp_cap_l a1 a2, cp_cap_l b1 b2, cp_cap_l c1 c2, Nat.zero_le _, Nat.le_succ_of_le v2⟩
    · rw [if_neg h4] at h
      exact absurd h (by simp)
theorem cp_up0 {c : Nat} (h : cp_up c ≠ 0) : cp_up c = cp_cap c ∧ 65 ≤ cp_up c ∧ cp_up c ≤ 90 := by
  unfold cp_up at h ⊢
  unfold cp_cap
  split
  · rename_i z
    refine ⟨rfl, by omega, by omega⟩
  · rename_i z
    rw [if_neg z] at h
    split
    · rename_i z2
      exact ⟨rfl, by omega, by omega⟩
    · rename_i z2
      rw [if_neg z2] at h
      exact absurd rfl h
theorem cp_up_l {c : Nat} (h : (65 ≤ c ∧ c ≤ 90) ∨ (97 ≤ c ∧ c ≤ 122)) : cp_up c ≠ 0 := by
  unfold cp_up
  split
  · omega
  · rw [if_pos (by omega)]
    omega
theorem cp_upn {f c1 c2 c3 : Nat} (h : cp_up c1 = 0 ∨ cp_up c2 = 0 ∨ cp_up c3 = 0) : cp_nm f c1 c2 c3 = none := by
  cases e : cp_nm f c1 c2 c3 with
  | none => rfl
  | some v =>
    obtain ⟨a, b, c, _, _⟩ := cp_nm_b e
    rcases h with h | h | h
    · exact absurd h (cp_up_l a)
    · exact absurd h (cp_up_l b)
    · exact absurd h (cp_up_l c)
theorem cx_mon {a b c : Nat} (ha : a < 256) (hb : b < 256) (hc : c < 256) {post : Int32 → Prop} (hp : post (cp_en (cp_mon a b c))) : wpX_monthNamed post (nI (a * 65536 + b * 256 + c)) := by
  refine pk_eq (a * 65536 + b * 256 + c) 4280402 (fun e => ?_) (fun e3 => pk_eq (a * 65536 + b * 256 + c) 4281671 (fun e => ?_) (fun e7 => pk_eq (a * 65536 + b * 256 + c) 4474179 (fun e => ?_) (fun e11 => pk_eq (a * 65536 + b * 256 + c) 4605250 (fun e => ?_) (fun e1 => pk_eq (a * 65536 + b * 256 + c) 4866382 (fun e => ?_) (fun e0 => pk_eq (a * 65536 + b * 256 + c) 4871500 (fun e => ?_) (fun e6 => pk_eq (a * 65536 + b * 256 + c) 4871502 (fun e => ?_) (fun e5 => pk_eq (a * 65536 + b * 256 + c) 5062994 (fun e => ?_) (fun e2 => pk_eq (a * 65536 + b * 256 + c) 5063001 (fun e => ?_) (fun e4 => pk_eq (a * 65536 + b * 256 + c) 5132118 (fun e => ?_) (fun e10 => pk_eq (a * 65536 + b * 256 + c) 5194580 (fun e => ?_) (fun e9 => pk_eq (a * 65536 + b * 256 + c) 5457232 (fun e => ?_) (fun e8 => ?_))))))))))))
  · obtain ⟨rfl, rfl, rfl⟩ : a = 65 ∧ b = 80 ∧ c = 82 := by omega
    exact hp
  · obtain ⟨rfl, rfl, rfl⟩ : a = 65 ∧ b = 85 ∧ c = 71 := by omega
    exact hp
  · obtain ⟨rfl, rfl, rfl⟩ : a = 68 ∧ b = 69 ∧ c = 67 := by omega
    exact hp
  · obtain ⟨rfl, rfl, rfl⟩ : a = 70 ∧ b = 69 ∧ c = 66 := by omega
    exact hp
  · obtain ⟨rfl, rfl, rfl⟩ : a = 74 ∧ b = 65 ∧ c = 78 := by omega
    exact hp
  · obtain ⟨rfl, rfl, rfl⟩ : a = 74 ∧ b = 85 ∧ c = 76 := by omega
    exact hp
  · obtain ⟨rfl, rfl, rfl⟩ : a = 74 ∧ b = 85 ∧ c = 78 := by omega
    exact hp
  · obtain ⟨rfl, rfl, rfl⟩ : a = 77 ∧ b = 65 ∧ c = 82 := by omega
    exact hp
  · obtain ⟨rfl, rfl, rfl⟩ : a = 77 ∧ b = 65 ∧ c = 89 := by omega
    exact hp
  · obtain ⟨rfl, rfl, rfl⟩ : a = 78 ∧ b = 79 ∧ c = 86 := by omega
    exact hp
  · obtain ⟨rfl, rfl, rfl⟩ : a = 79 ∧ b = 67 ∧ c = 84 := by omega
    exact hp
  · obtain ⟨rfl, rfl, rfl⟩ : a = 83 ∧ b = 69 ∧ c = 80 := by omega
    exact hp
  · have t : cp_mon a b c = none := by
      unfold cp_mon
      rw [if_neg (by omega), if_neg (by omega), if_neg (by omega), if_neg (by omega), if_neg (by omega), if_neg (by omega), if_neg (by omega), if_neg (by omega), if_neg (by omega), if_neg (by omega), if_neg (by omega), if_neg (by omega)]
    rw [t] at hp; exact hp
theorem cx_dow {a b c : Nat} (ha : a < 256) (hb : b < 256) (hc : c < 256) {post : Int32 → Prop} (hp : post (cp_en (cp_dow a b c))) : wpX_weekdayNamed post (nI (a * 65536 + b * 256 + c)) := by
  refine pk_eq (a * 65536 + b * 256 + c) 4608585 (fun e => ?_) (fun e5 => pk_eq (a * 65536 + b * 256 + c) 5066574 (fun e => ?_) (fun e1 => pk_eq (a * 65536 + b * 256 + c) 5456212 (fun e => ?_) (fun e6 => pk_eq (a * 65536 + b * 256 + c) 5461326 (fun e => ?_) (fun e0 => pk_eq (a * 65536 + b * 256 + c) 5523541 (fun e => ?_) (fun e4 => pk_eq (a * 65536 + b * 256 + c) 5526853 (fun e => ?_) (fun e2 => pk_eq (a * 65536 + b * 256 + c) 5719364 (fun e => ?_) (fun e3 => ?_)))))))
  · obtain ⟨rfl, rfl, rfl⟩ : a = 70 ∧ b = 82 ∧ c = 73 := by omega
    exact hp
  · obtain ⟨rfl, rfl, rfl⟩ : a = 77 ∧ b = 79 ∧ c = 78 := by omega
    exact hp
  · obtain ⟨rfl, rfl, rfl⟩ : a = 83 ∧ b = 65 ∧ c = 84 := by omega
    exact hp
  · obtain ⟨rfl, rfl, rfl⟩ : a = 83 ∧ b = 85 ∧ c = 78 := by omega
    exact hp
  · obtain ⟨rfl, rfl, rfl⟩ : a = 84 ∧ b = 72 ∧ c = 85 := by omega
    exact hp
  · obtain ⟨rfl, rfl, rfl⟩ : a = 84 ∧ b = 85 ∧ c = 69 := by omega
    exact hp
  · obtain ⟨rfl, rfl, rfl⟩ : a = 87 ∧ b = 69 ∧ c = 68 := by omega
    exact hp
  · have t : cp_dow a b c = none := by
      unfold cp_dow
      rw [if_neg (by omega), if_neg (by omega), if_neg (by omega), if_neg (by omega), if_neg (by omega), if_neg (by omega), if_neg (by omega)]
    rw [t] at hp; exact hp
theorem cy_204 {a b c : Nat} (ha : 65 ≤ a ∧ a ≤ 90) (hb : 65 ≤ b ∧ b ≤ 90) (hc : 65 ≤ c ∧ c ≤ 90) {f_len f_clock f_cap f_staged f_pos f_val f_cy f_cm f_cd : Int32} {a_text a_sets a_domStar a_dowStar a_occ a_mis a_con a_cnt a_fs a_fe : Nat → Int32} {post : Int32 → Prop} (hp : post (cp_en (cp_dow a b c))) : wY_name_204 post 4 (nI (a * 10000 + b * 100 + c)) f_len f_clock f_cap f_staged f_pos f_val f_cy f_cm f_cd a_text a_sets a_domStar a_dowStar a_occ a_mis a_con a_cnt a_fs a_fe := by
  refine br_t rfl (pk_eq (a * 10000 + b * 100 + c) 838578 (fun e => ?_) (fun e0 => pk_eq (a * 10000 + b * 100 + c) 777978 (fun e => ?_) (fun e1 => pk_eq (a * 10000 + b * 100 + c) 848569 (fun e => ?_) (fun e2 => pk_eq (a * 10000 + b * 100 + c) 876968 (fun e => ?_) (fun e3 => pk_eq (a * 10000 + b * 100 + c) 847285 (fun e => ?_) (fun e4 => pk_eq (a * 10000 + b * 100 + c) 708273 (fun e => ?_) (fun e5 => pk_eq (a * 10000 + b * 100 + c) 836584 (fun e => ?_) (fun e6 => ?_))))))))
  · obtain ⟨rfl, rfl, rfl⟩ : a = 83 ∧ b = 85 ∧ c = 78 := by omega
    exact hp
  · obtain ⟨rfl, rfl, rfl⟩ : a = 77 ∧ b = 79 ∧ c = 78 := by omega
    exact hp
  · obtain ⟨rfl, rfl, rfl⟩ : a = 84 ∧ b = 85 ∧ c = 69 := by omega
    exact hp
  · obtain ⟨rfl, rfl, rfl⟩ : a = 87 ∧ b = 69 ∧ c = 68 := by omega
    exact hp
  · obtain ⟨rfl, rfl, rfl⟩ : a = 84 ∧ b = 72 ∧ c = 85 := by omega
    exact hp
  · obtain ⟨rfl, rfl, rfl⟩ : a = 70 ∧ b = 82 ∧ c = 73 := by omega
    exact hp
  · obtain ⟨rfl, rfl, rfl⟩ : a = 83 ∧ b = 65 ∧ c = 84 := by omega
    exact hp
  · have t : cp_dow a b c = none := by
      unfold cp_dow
      rw [if_neg (by omega), if_neg (by omega), if_neg (by omega), if_neg (by omega), if_neg (by omega), if_neg (by omega), if_neg (by omega)]
    rw [t] at hp
    exact hp
theorem cy_204n {x : Int32} {f : Nat} (hf : f < 5) (h4 : f ≠ 4) {f_len f_clock f_cap f_staged f_pos f_val f_cy f_cm f_cd : Int32} {a_text a_sets a_domStar a_dowStar a_occ a_mis a_con a_cnt a_fs a_fe : Nat → Int32} {post : Int32 → Prop} (hp : post (-1)) : wY_name_204 post (nI f) x f_len f_clock f_cap f_staged f_pos f_val f_cy f_cm f_cd a_text a_sets a_domStar a_dowStar a_occ a_mis a_con a_cnt a_fs a_fe :=
  pk_eq f 4 (fun e => absurd e h4) (fun _ => hp)
theorem cy_mon {a b c : Nat} (ha : 65 ≤ a ∧ a ≤ 90) (hb : 65 ≤ b ∧ b ≤ 90) (hc : 65 ≤ c ∧ c ≤ 90) {f_len f_clock f_cap f_staged f_pos f_val f_cy f_cm f_cd : Int32} {a_text a_sets a_domStar a_dowStar a_occ a_mis a_con a_cnt a_fs a_fe : Nat → Int32} {post : Int32 → Prop} (hp : post (cp_en (cp_mon a b c))) : wpY_name post (f_len, f_clock, f_cap, f_staged, f_pos, f_val, f_cy, f_cm, f_cd, a_text, a_sets, a_domStar, a_dowStar, a_occ, a_mis, a_con, a_cnt, a_fs, a_fe) 3 (nI (a * 10000 + b * 100 + c)) := by
  refine br_t rfl (pk_eq (a * 10000 + b * 100 + c) 746578 (fun e => ?_) (fun e0 => pk_eq (a * 10000 + b * 100 + c) 706966 (fun e => ?_) (fun e1 => pk_eq (a * 10000 + b * 100 + c) 776582 (fun e => ?_) (fun e2 => pk_eq (a * 10000 + b * 100 + c) 658082 (fun e => ?_) (fun e3 => pk_eq (a * 10000 + b * 100 + c) 776589 (fun e => ?_) (fun e4 => pk_eq (a * 10000 + b * 100 + c) 748578 (fun e => ?_) (fun e5 => pk_eq (a * 10000 + b * 100 + c) 748576 (fun e => ?_) (fun e6 => pk_eq (a * 10000 + b * 100 + c) 658571 (fun e => ?_) (fun e7 => pk_eq (a * 10000 + b * 100 + c) 836980 (fun e => ?_) (fun e8 => pk_eq (a * 10000 + b * 100 + c) 796784 (fun e => ?_) (fun e9 => pk_eq (a * 10000 + b * 100 + c) 787986 (fun e => ?_) (fun e10 => pk_eq (a * 10000 + b * 100 + c) 686967 (fun e => ?_) (fun e11 => ?_)))))))))))))
  · obtain ⟨rfl, rfl, rfl⟩ : a = 74 ∧ b = 65 ∧ c = 78 := by omega
    exact hp
  · obtain ⟨rfl, rfl, rfl⟩ : a = 70 ∧ b = 69 ∧ c = 66 := by omega
    exact hp
  · obtain ⟨rfl, rfl, rfl⟩ : a = 77 ∧ b = 65 ∧ c = 82 := by omega
    exact hp
  · obtain ⟨rfl, rfl, rfl⟩ : a = 65 ∧ b = 80 ∧ c = 82 := by omega
    exact hp
  · obtain ⟨rfl, rfl, rfl⟩ : a = 77 ∧ b = 65 ∧ c = 89 := by omega
    exact hp
  · obtain ⟨rfl, rfl, rfl⟩ : a = 74 ∧ b = 85 ∧ c = 78 := by omega
    exact hp
  · obtain ⟨rfl, rfl, rfl⟩ : a = 74 ∧ b = 85 ∧ c = 76 := by omega
    exact hp
  · obtain ⟨rfl, rfl, rfl⟩ : a = 65 ∧ b = 85 ∧ c = 71 := by omega
    exact hp
  · obtain ⟨rfl, rfl, rfl⟩ : a = 83 ∧ b = 69 ∧ c = 80 := by omega
    exact hp
  · obtain ⟨rfl, rfl, rfl⟩ : a = 79 ∧ b = 67 ∧ c = 84 := by omega
    exact hp
  · obtain ⟨rfl, rfl, rfl⟩ : a = 78 ∧ b = 79 ∧ c = 86 := by omega
    exact hp
  · obtain ⟨rfl, rfl, rfl⟩ : a = 68 ∧ b = 69 ∧ c = 67 := by omega
    exact hp
  · have t : cp_mon a b c = none := by
      unfold cp_mon
      rw [if_neg (by omega), if_neg (by omega), if_neg (by omega), if_neg (by omega), if_neg (by omega), if_neg (by omega), if_neg (by omega), if_neg (by omega), if_neg (by omega), if_neg (by omega), if_neg (by omega), if_neg (by omega)]
    rw [t] at hp
    exact cy_204n (f := 3) (by decide) (by decide) hp
theorem cy_name {f a b c : Nat} (hf : f < 5) (ha : 65 ≤ a ∧ a ≤ 90) (hb : 65 ≤ b ∧ b ≤ 90) (hc : 65 ≤ c ∧ c ≤ 90) {f_len f_clock f_cap f_staged f_pos f_val f_cy f_cm f_cd : Int32} {a_text a_sets a_domStar a_dowStar a_occ a_mis a_con a_cnt a_fs a_fe : Nat → Int32} {post : Int32 → Prop} (hp : post (cp_en (if f = 3 then cp_mon a b c else if f = 4 then cp_dow a b c else none))) : wpY_name post (f_len, f_clock, f_cap, f_staged, f_pos, f_val, f_cy, f_cm, f_cd, a_text, a_sets, a_domStar, a_dowStar, a_occ, a_mis, a_con, a_cnt, a_fs, a_fe) (nI f) (nI (a * 10000 + b * 100 + c)) := by
  by_cases h3 : f = 3
  · subst h3
    rw [if_pos rfl] at hp
    exact cy_mon ha hb hc hp
  · rw [if_neg h3] at hp
    refine pk_eq f 3 (fun e => absurd e h3) (fun _ => ?_)
    by_cases h4 : f = 4
    · subst h4
      rw [if_pos rfl] at hp
      exact cy_204 ha hb hc hp
    · rw [if_neg h4] at hp
      exact cy_204n hf h4 hp
