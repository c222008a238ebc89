/-! the mathematics alone: products of symbols, code words, how far they lie apart, the value of a word -/
/-- the product of two symbols below 8, out of a table packed into one number -/
def mm_mu (a b : Nat) : Nat := 2821848294356612419217921029917578219971947684264937521152 / 8 ^ (8 * a + b) % 8
/-- row i of the code's matrix: the code word whose upper symbols are the i-th unit -/
def mm_k (i j : Nat) : Nat := 1166955744266819155 / 8 ^ (7 * i + j) % 8
/-- place j of the code word with upper symbols a, b, d -/
def mm_cw (a b d j : Nat) : Nat := mm_mu (mm_k 0 j) a ^^^ mm_mu (mm_k 1 j) b ^^^ mm_mu (mm_k 2 j) d
theorem mm_mu_lt (a b : Nat) : mm_mu a b < 8 := Nat.mod_lt _ (by decide)
theorem mm_k_lt (i j : Nat) : mm_k i j < 8 := Nat.mod_lt _ (by decide)
theorem mm_x8 {a b : Nat} (ha : a < 8) (hb : b < 8) : a ^^^ b < 8 := Nat.xor_lt_two_pow (n := 3) ha hb
theorem mm_cw_lt (a b d j : Nat) : mm_cw a b d j < 8 := mm_x8 (mm_x8 (mm_mu_lt _ _) (mm_mu_lt _ _)) (mm_mu_lt _ _)
theorem mm_mu_add : ∀ a, a < 8 → ∀ b, b < 8 → ∀ c, c < 8 → mm_mu (a ^^^ b) c = mm_mu a c ^^^ mm_mu b c := by decide +kernel
theorem mm_mu_addr : ∀ k, k < 8 → ∀ a, a < 8 → ∀ b, b < 8 → mm_mu k (a ^^^ b) = mm_mu k a ^^^ mm_mu k b := by decide +kernel
theorem mm_mu_assoc : ∀ a, a < 8 → ∀ b, b < 8 → ∀ c, c < 8 → mm_mu (mm_mu a b) c = mm_mu a (mm_mu b c) := by decide +kernel
theorem mm_mu_comm : ∀ a, a < 8 → ∀ b, b < 8 → mm_mu a b = mm_mu b a := by decide +kernel
theorem mm_mu_one : ∀ a, a < 8 → mm_mu a 1 = a := by decide +kernel
theorem mm_mu_zero : ∀ p, p < 8 → mm_mu 0 p = 0 := by decide +kernel
theorem mm_x0 : ∀ a, a < 8 → ∀ b, b < 8 → a ^^^ b = 0 → a = b := by decide +kernel
theorem mm_ac (p q r p' q' r' : Nat) : (p ^^^ p') ^^^ (q ^^^ q') ^^^ (r ^^^ r') = (p ^^^ q ^^^ r) ^^^ (p' ^^^ q' ^^^ r') := by
  ac_rfl
theorem mm_cw_add {a b d a' b' d' : Nat} (ha : a < 8) (hb : b < 8) (hd : d < 8) (ha' : a' < 8) (hb' : b' < 8) (hd' : d' < 8) (j : Nat) :
    mm_cw (a ^^^ a') (b ^^^ b') (d ^^^ d') j = mm_cw a b d j ^^^ mm_cw a' b' d' j := by
  unfold mm_cw
  rw [mm_mu_addr _ (mm_k_lt 0 j) a ha a' ha', mm_mu_addr _ (mm_k_lt 1 j) b hb b' hb', mm_mu_addr _ (mm_k_lt 2 j) d hd d' hd']
  exact mm_ac _ _ _ _ _ _
theorem mm_cw4 : ∀ a, a < 8 → ∀ b, b < 8 → ∀ d, d < 8 → mm_cw a b d 4 = a ∧ mm_cw a b d 5 = b ∧ mm_cw a b d 6 = d := by decide +kernel
/-- how many places below i satisfy P -/
def mm_ct (P : Nat → Bool) : Nat → Nat
  | 0 => 0
  | i + 1 => mm_ct P i + (P i).toNat
theorem mm_wt : ∀ a, a < 8 → ∀ b, b < 8 → ∀ d, d < 8 → (a = 0 ∧ b = 0 ∧ d = 0) ∨ 5 ≤ mm_ct (fun j => !decide (mm_cw a b d j = 0)) 7 := by decide +kernel
theorem mm_ct_congr {P Q : Nat → Bool} (i : Nat) (h : ∀ j, j < i → P j = Q j) : mm_ct P i = mm_ct Q i := by
  induction i with
  | zero => rfl
  | succ i ih => rw [mm_ct, mm_ct, ih (fun j hj => h j (by omega)), h i (by omega)]
theorem mm_ct_le (P : Nat → Bool) (i : Nat) : mm_ct P i ≤ i := by
  induction i with
  | zero => exact Nat.le_refl 0
  | succ i ih =>
    have h : (P i).toNat ≤ 1 := by cases P i <;> decide
    rw [mm_ct]
    omega
theorem mm_b4 (d m p q : Bool) (h : d = true → m = true ∨ p = true ∨ q = true) : d.toNat ≤ m.toNat + p.toNat + q.toNat := by
  revert h
  cases d <;> cases m <;> cases p <;> cases q <;> decide
theorem mm_ct_tri {D M P Q : Nat → Bool} (i : Nat) (h : ∀ j, j < i → D j = true → M j = true ∨ P j = true ∨ Q j = true) :
    mm_ct D i ≤ mm_ct M i + mm_ct P i + mm_ct Q i := by
  induction i with
  | zero => exact Nat.le_refl 0
  | succ i ih =>
    have h1 := ih (fun j hj => h j (by omega))
    have h2 := mm_b4 _ _ _ _ (h i (by omega))
    rw [mm_ct, mm_ct, mm_ct, mm_ct]
    omega
/-- place j is missing -/
def mm_mis (m : Nat → Int32) (j : Nat) : Bool := !decide (m j = 0)
/-- place j isn't missing, and the line l holds another symbol there than c -/
def mm_dif (m l c : Nat → Int32) (j : Nat) : Bool := decide (m j = 0) && !decide (c j = l j)
/-- c fits the line -/
def mm_fit (m l c : Nat → Int32) : Prop := 2 * mm_ct (mm_dif m l c) 7 + mm_ct (mm_mis m) 7 ≤ 4
/-- c holds the code word with upper symbols a, b, d -/
def mm_is (c : Nat → Int32) (a b d : Nat) : Prop := ∀ j, j < 7 → c j = nI (mm_cw a b d j)
/-- c holds a code word -/
def mm_code (c : Nat → Int32) : Prop := ∃ a b d, a < 8 ∧ b < 8 ∧ d < 8 ∧ mm_is c a b d
theorem mm_dif_congr {m l c c' : Nat → Int32} (h : ∀ j, j < 7 → c j = c' j) : mm_ct (mm_dif m l c) 7 = mm_ct (mm_dif m l c') 7 :=
  mm_ct_congr 7 fun j hj => by unfold mm_dif; rw [h j hj]
theorem mm_fit_congr {m l c c' : Nat → Int32} (h : ∀ j, j < 7 → c j = c' j) (f : mm_fit m l c) : mm_fit m l c' := by
  unfold mm_fit at f ⊢
  rw [← mm_dif_congr h]
  exact f
/-- two code words that fit are one -/
theorem mm_uniq {m l c c' : Nat → Int32} (hc : mm_code c) (hc' : mm_code c') (f : mm_fit m l c) (f' : mm_fit m l c') : ∀ j, j < 7 → c j = c' j := by
  obtain ⟨a, b, d, ha, hb, hd, h⟩ := hc
  obtain ⟨a', b', d', ha', hb', hd', h'⟩ := hc'
  have ht : mm_ct (fun j => !decide (mm_cw (a ^^^ a') (b ^^^ b') (d ^^^ d') j = 0)) 7 ≤ mm_ct (mm_mis m) 7 + mm_ct (mm_dif m l c) 7 + mm_ct (mm_dif m l c') 7 := by
    apply mm_ct_tri
    intro j hj hD
    by_cases hm : m j = 0
    · by_cases h1 : c j = l j
      · by_cases h2 : c' j = l j
        · exfalso
          have e : c j = c' j := h1.trans h2.symm
          have q1 := mm_cw_lt a b d j
          have q2 := mm_cw_lt a' b' d' j
          rw [h j hj, h' j hj, nI_eq (by omega) (by omega)] at e
          have z : mm_cw (a ^^^ a') (b ^^^ b') (d ^^^ d') j = 0 := by
            rw [mm_cw_add ha hb hd ha' hb' hd', e, Nat.xor_self]
          rw [z] at hD
          exact absurd hD (by decide)
        · exact Or.inr (Or.inr (by simp [mm_dif, hm, h2]))
      · exact Or.inr (Or.inl (by simp [mm_dif, hm, h1]))
    · exact Or.inl (by simp [mm_mis, hm])
  unfold mm_fit at f f'
  rcases mm_wt _ (mm_x8 ha ha') _ (mm_x8 hb hb') _ (mm_x8 hd hd') with ⟨e1, e2, e3⟩ | hw
  · have ea := mm_x0 a ha a' ha' e1
    have eb := mm_x0 b hb b' hb' e2
    have ed := mm_x0 d hd d' hd' e3
    intro j hj
    rw [h j hj, h' j hj, ea, eb, ed]
  · omega
/-- one step of the long division -/
def mm_dv (w : Nat × Nat × Nat × Nat) (s : Nat) : Nat × Nat × Nat × Nat :=
  (mm_mu (w.2.2.2 ^^^ s) 3, w.1 ^^^ mm_mu (w.2.2.2 ^^^ s) 2, w.2.1 ^^^ mm_mu (w.2.2.2 ^^^ s) 1, w.2.2.1 ^^^ mm_mu (w.2.2.2 ^^^ s) 3)
theorem mm_dv30 : ∀ a, a < 8 → ∀ b, b < 8 → ∀ d, d < 8 → (mm_dv (mm_dv (mm_dv (0, 0, 0, 0) d) b) a).1 = mm_cw a b d 0 := by decide +kernel
theorem mm_dv31 : ∀ a, a < 8 → ∀ b, b < 8 → ∀ d, d < 8 → (mm_dv (mm_dv (mm_dv (0, 0, 0, 0) d) b) a).2.1 = mm_cw a b d 1 := by decide +kernel
theorem mm_dv32 : ∀ a, a < 8 → ∀ b, b < 8 → ∀ d, d < 8 → (mm_dv (mm_dv (mm_dv (0, 0, 0, 0) d) b) a).2.2.1 = mm_cw a b d 2 := by decide +kernel
theorem mm_dv33 : ∀ a, a < 8 → ∀ b, b < 8 → ∀ d, d < 8 → (mm_dv (mm_dv (mm_dv (0, 0, 0, 0) d) b) a).2.2.2 = mm_cw a b d 3 := by decide +kernel
/-- the reference's polynomial -/
def mm_z (i : Nat) : Nat := 5715 / 8 ^ i % 8
/-- what i inner steps add at place k, digit d shifted by j -/
def mm_in (d j i k : Nat) : Nat := if j ≤ k ∧ k < j + i then mm_mu (mm_z (k - j)) d else 0
/-- the reference's word of number n after j digits -/
def mm_ys (n : Nat) : Nat → Nat → Nat
  | 0, _ => 0
  | j + 1, k => mm_ys n j k ^^^ mm_in (n / 8 ^ j % 8) j 5 k
theorem mm_z_lt (i : Nat) : mm_z i < 8 := Nat.mod_lt _ (by decide)
theorem mm_in_lt (d j i k : Nat) : mm_in d j i k < 8 := by
  unfold mm_in
  split
  · exact mm_mu_lt _ _
  · decide
theorem mm_in_0 (d j k : Nat) : mm_in d j 0 k = 0 := by
  unfold mm_in
  rw [if_neg (by omega)]
theorem mm_in_s (d j i : Nat) : mm_in d j i (i + j) = 0 ∧ mm_in d j (i + 1) (i + j) = mm_mu (mm_z i) d := by
  unfold mm_in
  rw [if_neg (by omega), if_pos (by omega), Nat.add_sub_cancel]
  exact ⟨rfl, rfl⟩
theorem mm_in_n {d j i k : Nat} (h : k ≠ i + j) : mm_in d j (i + 1) k = mm_in d j i k := by
  unfold mm_in
  by_cases c : j ≤ k ∧ k < j + i
  · rw [if_pos c, if_pos (by omega)]
  · rw [if_neg c, if_neg (by omega)]
theorem mm_ys_lt (n j k : Nat) : mm_ys n j k < 8 := by
  induction j with
  | zero => exact (by decide : 0 < 8)
  | succ j ih => exact mm_x8 ih (mm_in_lt _ _ _ _)
theorem mm_ys_cw : ∀ n, n < 512 → ∀ k, k < 7 → mm_ys n 3 k = mm_cw (mm_ys n 3 4) (mm_ys n 3 5) (mm_ys n 3 6) k := by decide +kernel
/-- the number under which the reference makes the code word with upper symbols a, b, d -/
def mm_q (a b d : Nat) : Nat := (a ^^^ mm_mu 3 (b ^^^ mm_mu 3 d) ^^^ d) + 8 * (b ^^^ mm_mu 3 d) + 64 * d
theorem mm_ys_q : ∀ a, a < 8 → ∀ b, b < 8 → ∀ d, d < 8 → mm_q a b d < 512 ∧ ∀ k, k < 7 → mm_ys (mm_q a b d) 3 k = mm_cw a b d k := by decide +kernel
/-- the value by Horner's way, from the highest place down -/
def mm_hz (w : Nat → Nat) (s : Nat) : Nat → Nat
  | 0 => 0
  | i + 1 => mm_mu (mm_hz w s i) s ^^^ w (6 - i)
def mm_pw (s : Nat) : Nat → Nat
  | 0 => 1
  | i + 1 => mm_mu (mm_pw s i) s
/-- the value by powers, from the lowest place up -/
def mm_sv (w : Nat → Nat) (s : Nat) : Nat → Nat
  | 0 => 0
  | i + 1 => mm_sv w s i ^^^ mm_mu (w i) (mm_pw s i)
theorem mm_pw_lt (s i : Nat) : mm_pw s i < 8 := by
  cases i with
  | zero => exact (by decide : 1 < 8)
  | succ i => exact mm_mu_lt _ _
theorem mm_hz_lt {w : Nat → Nat} {s : Nat} (hw : ∀ j, j < 7 → w j < 8) (i : Nat) : mm_hz w s i < 8 := by
  cases i with
  | zero => exact (by decide : 0 < 8)
  | succ i => exact mm_x8 (mm_mu_lt _ _) (hw _ (by omega))
theorem mm_sv_lt {w : Nat → Nat} {s : Nat} (i : Nat) : mm_sv w s i < 8 := by
  induction i with
  | zero => exact (by decide : 0 < 8)
  | succ i ih => exact mm_x8 ih (mm_mu_lt _ _)
theorem mm_val {w : Nat → Nat} {s : Nat} (hw : ∀ j, j < 7 → w j < 8) (hs : s < 8) : mm_sv w s 7 = mm_hz w s 7 := by
  have key : ∀ i, i ≤ 7 → mm_sv w s 7 = mm_sv w s (7 - i) ^^^ mm_mu (mm_hz w s i) (mm_pw s (7 - i)) := by
    intro i
    induction i with
    | zero =>
      intro _
      show mm_sv w s 7 = mm_sv w s 7 ^^^ mm_mu 0 (mm_pw s 7)
      rw [mm_mu_zero _ (mm_pw_lt _ _), Nat.xor_zero]
    | succ i ih =>
      intro hi
      have e := ih (by omega)
      have hk : 7 - i = (6 - i) + 1 := by omega
      have hk2 : 7 - (i + 1) = 6 - i := by omega
      have es : mm_sv w s (6 - i + 1) = mm_sv w s (6 - i) ^^^ mm_mu (w (6 - i)) (mm_pw s (6 - i)) := rfl
      have ep : mm_pw s (6 - i + 1) = mm_mu (mm_pw s (6 - i)) s := rfl
      have eh : mm_hz w s (i + 1) = mm_mu (mm_hz w s i) s ^^^ w (6 - i) := rfl
      rw [hk, es, ep] at e
      rw [hk2, eh, mm_mu_add _ (mm_mu_lt _ _) _ (hw _ (by omega)) _ (mm_pw_lt _ _),
        mm_mu_assoc _ (mm_hz_lt hw i) _ hs _ (mm_pw_lt _ _), mm_mu_comm s hs _ (mm_pw_lt _ _), e]
      ac_rfl
  have e : mm_sv w s 7 = mm_sv w s 0 ^^^ mm_mu (mm_hz w s 7) (mm_pw s 0) := key 7 (Nat.le_refl 7)
  rw [e]
  show 0 ^^^ mm_mu (mm_hz w s 7) 1 = mm_hz w s 7
  rw [mm_mu_one _ (mm_hz_lt hw 7), Nat.zero_xor]
