/-! helpers over Int32: ranges, overwritten arrays, digits -/
/-- no symbol -/
def mm_bs (x : Int32) : Prop := x < 0 ∨ nI 8 ≤ x
/-- no place -/
def mm_bp (x : Int32) : Prop := x < 0 ∨ nI 7 ≤ x
theorem mm_sym (x : Int32) : mm_bs x ∨ ∃ j : Nat, j < 8 ∧ x = nI j := by
  rcases pk_ix x (n := 8) (by decide) with h | h | h
  · exact Or.inl (Or.inl h)
  · exact Or.inl (Or.inr h)
  · exact Or.inr h
theorem mm_plc (x : Int32) : mm_bp x ∨ ∃ j : Nat, j < 7 ∧ x = nI j := by
  rcases pk_ix x (n := 7) (by decide) with h | h | h
  · exact Or.inl (Or.inl h)
  · exact Or.inl (Or.inr h)
  · exact Or.inr h
theorem mm_ge8 {x : Int32} (h : nI 8 ≤ x) : ¬ x < 0 ∧ ¬ x < 8 ∧ 8 ≤ x ∧ 7 < x ∧ ¬ x ≤ 7 := by
  have e : (nI 8).toInt = 8 := by decide
  have e7 : (7 : Int32).toInt = 7 := by decide
  have e8 : (8 : Int32).toInt = 8 := by decide
  have e0 : (0 : Int32).toInt = 0 := by decide
  rw [Int32.le_iff_toInt_le, e] at h
  refine ⟨?_, ?_, ?_, ?_, ?_⟩
  · rw [Int32.lt_iff_toInt_lt, e0]; omega
  · rw [Int32.lt_iff_toInt_lt, e8]; omega
  · rw [Int32.le_iff_toInt_le, e8]; omega
  · rw [Int32.lt_iff_toInt_lt, e7]; omega
  · rw [Int32.le_iff_toInt_le, e7]; omega
theorem mm_ge7 {x : Int32} (h : nI 7 ≤ x) : ¬ x < 0 ∧ ¬ x < 7 ∧ 7 ≤ x ∧ 6 < x ∧ ¬ x ≤ 6 := by
  have e : (nI 7).toInt = 7 := by decide
  have e7 : (7 : Int32).toInt = 7 := by decide
  have e6 : (6 : Int32).toInt = 6 := by decide
  have e0 : (0 : Int32).toInt = 0 := by decide
  rw [Int32.le_iff_toInt_le, e] at h
  refine ⟨?_, ?_, ?_, ?_, ?_⟩
  · rw [Int32.lt_iff_toInt_lt, e0]; omega
  · rw [Int32.lt_iff_toInt_lt, e7]; omega
  · rw [Int32.le_iff_toInt_le, e7]; omega
  · rw [Int32.lt_iff_toInt_lt, e6]; omega
  · rw [Int32.le_iff_toInt_le, e6]; omega
theorem mm_lt8 : ∀ j, j < 8 → ¬ nI j < 0 ∧ 0 ≤ nI j ∧ nI j < 8 ∧ ¬ 8 ≤ nI j ∧ ¬ 7 < nI j ∧ nI j ≤ 7 := by decide +kernel
theorem mm_lt7 : ∀ j, j < 7 → ¬ nI j < 0 ∧ 0 ≤ nI j ∧ nI j < 7 ∧ ¬ 7 ≤ nI j ∧ ¬ 6 < nI j ∧ nI j ≤ 6 := by decide +kernel
/-- f below i, g from there on -/
def mm_ow (f g : Nat → Int32) (i : Nat) : Nat → Int32 := fun j => if j < i then f j else g j
theorem mm_ow_0 (f g : Nat → Int32) : mm_ow f g 0 = g := by
  funext j
  unfold mm_ow
  rw [if_neg (by omega)]
theorem mm_ow_s (f g : Nat → Int32) (i : Nat) {x : Int32} (hx : x = f i) : upd (mm_ow f g i) i x = mm_ow f g (i + 1) := by
  funext j
  unfold mm_ow upd
  by_cases e : j = i
  · rw [if_pos e, if_pos (by omega), hx, e]
  · rw [if_neg e]
    dsimp only
    by_cases h : j < i
    · rw [if_pos h, if_pos (by omega)]
    · rw [if_neg h, if_neg (by omega)]
theorem mm_ow_lt {f g : Nat → Int32} {i j : Nat} (h : j < i) : mm_ow f g i j = f j := if_pos h
theorem mm_ow_ge {f g : Nat → Int32} {i j : Nat} (h : ¬ j < i) : mm_ow f g i j = g j := if_neg h
theorem mm_ow_congr {f f' g : Nat → Int32} {i : Nat} (h : ∀ j, j < i → f j = f' j) : mm_ow f g i = mm_ow f' g i := by
  funext j
  unfold mm_ow
  by_cases c : j < i
  · rw [if_pos c, if_pos c, h j c]
  · rw [if_neg c, if_neg c]
theorem mm_ow_ow {f f' g : Nat → Int32} {i : Nat} (h : ∀ j, j < i → f j = f' j) : mm_ow f (mm_ow f' g i) i = mm_ow f' g i := by
  funext j
  unfold mm_ow
  by_cases c : j < i
  · rw [if_pos c, if_pos c, h j c]
  · rw [if_neg c, if_neg c]
/-- the line holds symbols -/
def mm_wd (l : Nat → Int32) : Prop := ∀ j, j < 7 → ∃ s : Nat, s < 8 ∧ l j = nI s
/-- the marks are booleans -/
def mm_bo (m : Nat → Int32) : Prop := ∀ j, j < 7 → m j = 0 ∨ m j = 1
/-- the reference's polynomial lies in z -/
def mm_zz (z : Nat → Int32) : Prop := ∀ i, i < 5 → z i = nI (mm_z i)
theorem mm_wd_w {l : Nat → Int32} (h : mm_wd l) : ∃ w : Nat → Nat, ∀ j, j < 7 → w j < 8 ∧ l j = nI (w j) := by
  refine ⟨fun j => (l j).toNatClampNeg, fun j hj => ?_⟩
  obtain ⟨s, hs, e⟩ := h j hj
  have e2 : (l j).toNatClampNeg = s := by rw [e]; exact nI_clamp (by omega)
  dsimp only
  rw [e2]
  exact ⟨hs, e⟩
theorem mm_wd_u {l : Nat → Int32} (h : mm_wd l) (k : Nat) {s : Nat} (hs : s < 8) : mm_wd (upd l k (nI s)) := by
  intro j hj
  by_cases e : j = k
  · rw [e, pk_us]
    exact ⟨s, hs, rfl⟩
  · rw [pk_un e]
    exact h j hj
theorem mm_bo_u {m : Nat → Int32} (h : mm_bo m) (k : Nat) {x : Int32} (hx : x = 0 ∨ x = 1) : mm_bo (upd m k x) := by
  intro j hj
  by_cases e : j = k
  · rw [e, pk_us]
    exact hx
  · rw [pk_un e]
    exact h j hj
theorem mm_wd_c {c l : Nat → Int32} (h : mm_code c) : mm_wd (mm_ow c l 7) := by
  obtain ⟨a, b, d, _, _, _, h⟩ := h
  intro j hj
  rw [mm_ow_lt hj, h j hj]
  exact ⟨_, mm_cw_lt _ _ _ _, rfl⟩
theorem mm_bo_0 (m : Nat → Int32) : mm_bo (mm_ow (fun _ => 0) m 7) := by
  intro j hj
  rw [mm_ow_lt hj]
  exact Or.inl rfl
/-- the comparison of the search -/
theorem mm_cmp {d e : Nat} (hd : d ≤ 7) (he : e ≤ 7) : 2 * nI d + nI e ≤ 4 ↔ 2 * d + e ≤ 4 := by
  have h : 2 * nI d + nI e = nI (2 * d + e) := by
    rw [show (2 : Int32) = nI 2 from rfl, pk_mul, nI_add]
  rw [h, show (4 : Int32) = nI 4 from rfl, nI_leI (by omega) (by omega)]
theorem mm_and7 {n : Nat} (h : n < 2 ^ 31) : nI n &&& 7 = nI (n % 8) := pk_andN (by omega) 3 (by decide)
theorem mm_s3 {n : Nat} (h : n < 2 ^ 31) : nI n >>> ((3 : Int32) &&& 31) = nI (n / 8) := pk_shrN h _ 3 (by decide)
theorem mm_s6 {n : Nat} (h : n < 2 ^ 31) : nI n >>> ((6 : Int32) &&& 31) = nI (n / 64) := pk_shrN h _ 6 (by decide)
