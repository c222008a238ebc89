section
theorem pk_us {f : Nat → Int32} {k : Nat} {x : Int32} : upd f k x k = x := if_pos rfl
theorem pk_un {f : Nat → Int32} {k j : Nat} {x : Int32} (h : j ≠ k) : upd f k x j = f j := if_neg h
theorem pk_sub {a b : Nat} (h : b ≤ a) : nI a - nI b = nI (a - b) := by
  obtain ⟨c, rfl⟩ : ∃ c, a = c + b := ⟨a - b, by omega⟩
  rw [← nI_add, Int32.add_sub_cancel, Nat.add_sub_cancel]
theorem pk_m1 (n : Nat) : nI (n + 1) + (-1) = nI n := by
  rw [← nI_1, Int32.add_assoc, show (1 : Int32) + (-1) = 0 from rfl, Int32.add_zero]
theorem pk_mul (a b : Nat) : nI a * nI b = nI (a * b) := (Int32.ofNat_mul a b).symm
theorem pk_ix (x : Int32) {n : Nat} (hn : n < 2 ^ 31) : x < 0 ∨ nI n ≤ x ∨ ∃ j : Nat, j < n ∧ x = nI j := by
  by_cases h : x < 0
  · exact Or.inl h
  · obtain ⟨j, hj, rfl⟩ := nI_of h
    by_cases h2 : j < n
    · exact Or.inr (Or.inr ⟨j, h2, rfl⟩)
    · exact Or.inr (Or.inl (nI_le (by omega) hj))
theorem pk_le {x y : Int32} {A B : Prop} (a b : Nat) (f : a ≤ b → A) (g : b < a → B) (hx : x = nI a := by rfl) (hy : y = nI b := by rfl) (ha : a < 2 ^ 31 := by omega) (hb : b < 2 ^ 31 := by omega) : (x ≤ y → A) ∧ (¬ x ≤ y → B) := by
  subst hx hy
  rw [nI_leI ha hb]
  exact ⟨f, fun z => g (by omega)⟩
theorem pk_lt {x y : Int32} {A B : Prop} (a b : Nat) (f : a < b → A) (g : b ≤ a → B) (hx : x = nI a := by rfl) (hy : y = nI b := by rfl) (ha : a < 2 ^ 31 := by omega) (hb : b < 2 ^ 31 := by omega) : (x < y → A) ∧ (¬ x < y → B) := by
  subst hx hy
  rw [nI_ltI ha hb]
  exact ⟨f, fun z => g (by omega)⟩
theorem pk_eq {x y : Int32} {A B : Prop} (a b : Nat) (f : a = b → A) (g : a ≠ b → B) (hx : x = nI a := by rfl) (hy : y = nI b := by rfl) (ha : a < 2 ^ 31 := by omega) (hb : b < 2 ^ 31 := by omega) : (x = y → A) ∧ (¬ x = y → B) := by
  subst hx hy
  rw [nI_eq ha hb]
  exact ⟨f, g⟩
theorem pk_in {x : Int32} (n N : Nat) (h : n < N) (hx : x = nI n := by rfl) (hN : N < 2 ^ 31 := by omega) : vp_in x N := by
  subst hx
  exact vp_in_nI h hN
theorem pk_cl {x : Int32} (n : Nat) (hx : x = nI n := by rfl) (h : n < 2 ^ 31 := by omega) : x.toNatClampNeg = n := by
  subst hx
  exact nI_clamp h
theorem pk_tn {n : Nat} (h : n < 2 ^ 32) : (nI n).toBitVec.toNat = n := Nat.mod_eq_of_lt h
theorem pk_and (x : Int32) {m : Int32} (k : Nat) (hm : m.toBitVec.toNat = 2 ^ k - 1) : x &&& m = nI (x.toBitVec.toNat % 2 ^ k) := by
  apply Int32.toBitVec_inj.mp
  apply BitVec.eq_of_toNat_eq
  rw [Int32.toBitVec_and, BitVec.toNat_and, hm, Nat.and_two_pow_sub_one_eq_mod]
  show _ = (BitVec.ofNat 32 _).toNat
  rw [BitVec.toNat_ofNat]
  exact (Nat.mod_eq_of_lt (Nat.lt_of_le_of_lt (Nat.mod_le _ _) x.toBitVec.isLt)).symm
theorem pk_andN {n : Nat} (h : n < 2 ^ 32) {m : Int32} (k : Nat) (hm : m.toBitVec.toNat = 2 ^ k - 1) : nI n &&& m = nI (n % 2 ^ k) := by
  rw [pk_and _ k hm, pk_tn h]
theorem pk_shl (a s : Int32) (k : Nat) (hs : (s.toBitVec.smod 32).toNat = k) : (a <<< s).toBitVec.toNat = a.toBitVec.toNat * 2 ^ k % 2 ^ 32 := by
  show (a.toBitVec <<< (s.toBitVec.smod 32).toNat).toNat = _
  rw [hs, BitVec.toNat_shiftLeft, Nat.shiftLeft_eq]
theorem pk_shlN {n : Nat} (s : Int32) (k : Nat) (hs : (s.toBitVec.smod 32).toNat = k) (h : n * 2 ^ k < 2 ^ 32) : nI n <<< s = nI (n * 2 ^ k) := by
  apply Int32.toBitVec_inj.mp
  apply BitVec.eq_of_toNat_eq
  have hn : n < 2 ^ 32 := Nat.lt_of_le_of_lt (Nat.le_mul_of_pos_right n (Nat.two_pow_pos k)) h
  rw [pk_shl _ _ k hs, pk_tn hn, pk_tn h, Nat.mod_eq_of_lt h]
theorem pk_shr (a s : Int32) (k : Nat) (hs : (s.toBitVec.smod 32).toNat = k) : (a >>> s).toInt = a.toInt >>> k := by
  show (a.toBitVec.sshiftRight (s.toBitVec.smod 32).toNat).toInt = _
  rw [hs, BitVec.toInt_sshiftRight]
  rfl
theorem pk_shrN {n : Nat} (h : n < 2 ^ 31) (s : Int32) (k : Nat) (hs : (s.toBitVec.smod 32).toNat = k) : nI n >>> s = nI (n / 2 ^ k) := by
  apply Int32.toInt_inj.mp
  have h2 : n / 2 ^ k ≤ n := Nat.div_le_self _ _
  rw [pk_shr _ _ k hs, nI_toInt h, nI_toInt (by omega), Int.shiftRight_eq_div_pow]
  rfl
theorem pk_loop {σ : Type} (W : Nat → Nat → σ → Prop) (I : Nat → σ → Prop) (e i0 : Nat) (s : σ) (hi : i0 ≤ e) (h0 : I i0 s) (hx : ∀ n s, I e s → W (n + 1) e s)
    (hs : ∀ n i s, i < e → I i s → (∀ s', I (i + 1) s' → W n (i + 1) s') → W (n + 1) i s) : ∃ n, W n i0 s :=
  ⟨e + 1, loop_i W I e hx hs (e + 1) i0 s hi (by omega) h0⟩
theorem ek_if {c d A B : Prop} (e : c ↔ d) (f : d → A) (g : ¬ d → B) : (c → A) ∧ (¬ c → B) :=
  ⟨fun z => f (e.mp z), fun z => g (fun y => z (e.mpr y))⟩
theorem nx_and (a b : Nat) : nI a &&& nI b = nI (a &&& b) := by
  apply Int32.toBitVec_inj.1
  show BitVec.ofNat 32 a &&& BitVec.ofNat 32 b = BitVec.ofNat 32 (a &&& b)
  apply BitVec.eq_of_getLsbD_eq
  intro i hi
  simp [hi]
theorem nx_xor (a b : Nat) : nI a ^^^ nI b = nI (a ^^^ b) := by
  apply Int32.toBitVec_inj.1
  show BitVec.ofNat 32 a ^^^ BitVec.ofNat 32 b = BitVec.ofNat 32 (a ^^^ b)
  apply BitVec.eq_of_getLsbD_eq
  intro i hi
  simp [hi]
end
section
/-! the mathematics alone: products of symbols, code words, how far they lie apart, the value of a word -/
/-- the product of two symbols below 8, out of a table packed into one number -/
def mm_mu (a b : Nat) : Nat := 2821848294356612419217921029917578219971947684264937521152 / 8 ^ (8 * a + b) % 8
/-- row i of the code's matrix: the code word whose upper symbols are the i-th unit -/
def mm_k (i j : Nat) : Nat := 1166955744266819155 / 8 ^ (7 * i + j) % 8
/-- place j of the code word with upper symbols a, b, d -/
def mm_cw (a b d j : Nat) : Nat := mm_mu (mm_k 0 j) a ^^^ mm_mu (mm_k 1 j) b ^^^ mm_mu (mm_k 2 j) d
theorem mm_mu_lt (a b : Nat) : mm_mu a b < 8 := Nat.mod_lt _ (by decide)
theorem mm_k_lt (i j : Nat) : mm_k i j < 8 := Nat.mod_lt _ (by decide)
theorem mm_x8 {a b : Nat} (ha : a < 8) (hb : b < 8) : a ^^^ b < 8 := Nat.xor_lt_two_pow (n := 3) ha hb
theorem mm_cw_lt (a b d j : Nat) : mm_cw a b d j < 8 := mm_x8 (mm_x8 (mm_mu_lt _ _) (mm_mu_lt _ _)) (mm_mu_lt _ _)
theorem mm_mu_add : ∀ a, a < 8 → ∀ b, b < 8 → ∀ c, c < 8 → mm_mu (a ^^^ b) c = mm_mu a c ^^^ mm_mu b c := by decide +kernel
theorem mm_mu_addr : ∀ k, k < 8 → ∀ a, a < 8 → ∀ b, b < 8 → mm_mu k (a ^^^ b) = mm_mu k a ^^^ mm_mu k b := by decide +kernel
theorem mm_mu_assoc : ∀ a, a < 8 → ∀ b, b < 8 → ∀ c, c < 8 → mm_mu (mm_mu a b) c = mm_mu a (mm_mu b c) := by decide +kernel
theorem mm_mu_comm : ∀ a, a < 8 → ∀ b, b < 8 → mm_mu a b = mm_mu b a := by decide +kernel
theorem mm_mu_one : ∀ a, a < 8 → mm_mu a 1 = a := by decide +kernel
theorem mm_mu_zero : ∀ p, p < 8 → mm_mu 0 p = 0 := by decide +kernel
theorem mm_x0 : ∀ a, a < 8 → ∀ b, b < 8 → a ^^^ b = 0 → a = b := by decide +kernel
theorem mm_ac (p q r p' q' r' : Nat) : (p ^^^ p') ^^^ (q ^^^ q') ^^^ (r ^^^ r') = (p ^^^ q ^^^ r) ^^^ (p' ^^^ q' ^^^ r') := by
  ac_rfl
theorem mm_cw_add {a b d a' b' d' : Nat} (ha : a < 8) (hb : b < 8) (hd : d < 8) (ha' : a' < 8) (hb' : b' < 8) (hd' : d' < 8) (j : Nat) :
    mm_cw (a ^^^ a') (b ^^^ b') (d ^^^ d') j = mm_cw a b d j ^^^ mm_cw a' b' d' j := by
  unfold mm_cw
  rw [mm_mu_addr _ (mm_k_lt 0 j) a ha a' ha', mm_mu_addr _ (mm_k_lt 1 j) b hb b' hb', mm_mu_addr _ (mm_k_lt 2 j) d hd d' hd']
  exact mm_ac _ _ _ _ _ _
theorem mm_cw4 : ∀ a, a < 8 → ∀ b, b < 8 → ∀ d, d < 8 → mm_cw a b d 4 = a ∧ mm_cw a b d 5 = b ∧ mm_cw a b d 6 = d := by decide +kernel
/-- how many places below i satisfy P -/
def mm_ct (P : Nat → Bool) : Nat → Nat
  | 0 => 0
  | i + 1 => mm_ct P i + (P i).toNat
theorem mm_wt : ∀ a, a < 8 → ∀ b, b < 8 → ∀ d, d < 8 → (a = 0 ∧ b = 0 ∧ d = 0) ∨ 5 ≤ mm_ct (fun j => !decide (mm_cw a b d j = 0)) 7 := by decide +kernel
theorem mm_ct_congr {P Q : Nat → Bool} (i : Nat) (h : ∀ j, j < i → P j = Q j) : mm_ct P i = mm_ct Q i := by
  induction i with
  | zero => rfl
  | succ i ih => rw [mm_ct, mm_ct, ih (fun j hj => h j (by omega)), h i (by omega)]
theorem mm_ct_le (P : Nat → Bool) (i : Nat) : mm_ct P i ≤ i := by
  induction i with
  | zero => exact Nat.le_refl 0
  | succ i ih =>
    have h : (P i).toNat ≤ 1 := by cases P i <;> decide
    rw [mm_ct]
    omega
theorem mm_b4 (d m p q : Bool) (h : d = true → m = true ∨ p = true ∨ q = true) : d.toNat ≤ m.toNat + p.toNat + q.toNat := by
  revert h
  cases d <;> cases m <;> cases p <;> cases q <;> decide
theorem mm_ct_tri {D M P Q : Nat → Bool} (i : Nat) (h : ∀ j, j < i → D j = true → M j = true ∨ P j = true ∨ Q j = true) :
    mm_ct D i ≤ mm_ct M i + mm_ct P i + mm_ct Q i := by
  induction i with
  | zero => exact Nat.le_refl 0
  | succ i ih =>
    have h1 := ih (fun j hj => h j (by omega))
    have h2 := mm_b4 _ _ _ _ (h i (by omega))
    rw [mm_ct, mm_ct, mm_ct, mm_ct]
    omega
/-- place j is missing -/
def mm_mis (m : Nat → Int32) (j : Nat) : Bool := !decide (m j = 0)
/-- place j isn't missing, and the line l holds another symbol there than c -/
def mm_dif (m l c : Nat → Int32) (j : Nat) : Bool := decide (m j = 0) && !decide (c j = l j)
/-- c fits the line -/
def mm_fit (m l c : Nat → Int32) : Prop := 2 * mm_ct (mm_dif m l c) 7 + mm_ct (mm_mis m) 7 ≤ 4
/-- c holds the code word with upper symbols a, b, d -/
def mm_is (c : Nat → Int32) (a b d : Nat) : Prop := ∀ j, j < 7 → c j = nI (mm_cw a b d j)
/-- c holds a code word -/
def mm_code (c : Nat → Int32) : Prop := ∃ a b d, a < 8 ∧ b < 8 ∧ d < 8 ∧ mm_is c a b d
theorem mm_dif_congr {m l c c' : Nat → Int32} (h : ∀ j, j < 7 → c j = c' j) : mm_ct (mm_dif m l c) 7 = mm_ct (mm_dif m l c') 7 :=
  mm_ct_congr 7 fun j hj => by unfold mm_dif; rw [h j hj]
theorem mm_fit_congr {m l c c' : Nat → Int32} (h : ∀ j, j < 7 → c j = c' j) (f : mm_fit m l c) : mm_fit m l c' := by
  unfold mm_fit at f ⊢
  rw [← mm_dif_congr h]
  exact f
/-- two code words that fit are one -/
theorem mm_uniq {m l c c' : Nat → Int32} (hc : mm_code c) (hc' : mm_code c') (f : mm_fit m l c) (f' : mm_fit m l c') : ∀ j, j < 7 → c j = c' j := by
  obtain ⟨a, b, d, ha, hb, hd, h⟩ := hc
  obtain ⟨a', b', d', ha', hb', hd', h'⟩ := hc'
  have ht : mm_ct (fun j => !decide (mm_cw (a ^^^ a') (b ^^^ b') (d ^^^ d') j = 0)) 7 ≤ mm_ct (mm_mis m) 7 + mm_ct (mm_dif m l c) 7 + mm_ct (mm_dif m l c') 7 := by
    apply mm_ct_tri
    intro j hj hD
    by_cases hm : m j = 0
    · by_cases h1 : c j = l j
      · by_cases h2 : c' j = l j
        · exfalso
          have e : c j = c' j := h1.trans h2.symm
          have q1 := mm_cw_lt a b d j
          have q2 := mm_cw_lt a' b' d' j
          rw [h j hj, h' j hj, nI_eq (by omega) (by omega)] at e
          have z : mm_cw (a ^^^ a') (b ^^^ b') (d ^^^ d') j = 0 := by
            rw [mm_cw_add ha hb hd ha' hb' hd', e, Nat.xor_self]
          rw [z] at hD
          exact absurd hD (by decide)
        · exact Or.inr (Or.inr (by simp [mm_dif, hm, h2]))
      · exact Or.inr (Or.inl (by simp [mm_dif, hm, h1]))
    · exact Or.inl (by simp [mm_mis, hm])
  unfold mm_fit at f f'
  rcases mm_wt _ (mm_x8 ha ha') _ (mm_x8 hb hb') _ (mm_x8 hd hd') with ⟨e1, e2, e3⟩ | hw
  · have ea := mm_x0 a ha a' ha' e1
    have eb := mm_x0 b hb b' hb' e2
    have ed := mm_x0 d hd d' hd' e3
    intro j hj
    rw [h j hj, h' j hj, ea, eb, ed]
  · omega
/-- one step of the long division -/
def mm_dv (w : Nat × Nat × Nat × Nat) (s : Nat) : Nat × Nat × Nat × Nat :=
  (mm_mu (w.2.2.2 ^^^ s) 3, w.1 ^^^ mm_mu (w.2.2.2 ^^^ s) 2, w.2.1 ^^^ mm_mu (w.2.2.2 ^^^ s) 1, w.2.2.1 ^^^ mm_mu (w.2.2.2 ^^^ s) 3)
theorem mm_dv30 : ∀ a, a < 8 → ∀ b, b < 8 → ∀ d, d < 8 → (mm_dv (mm_dv (mm_dv (0, 0, 0, 0) d) b) a).1 = mm_cw a b d 0 := by decide +kernel
theorem mm_dv31 : ∀ a, a < 8 → ∀ b, b < 8 → ∀ d, d < 8 → (mm_dv (mm_dv (mm_dv (0, 0, 0, 0) d) b) a).2.1 = mm_cw a b d 1 := by decide +kernel
theorem mm_dv32 : ∀ a, a < 8 → ∀ b, b < 8 → ∀ d, d < 8 → (mm_dv (mm_dv (mm_dv (0, 0, 0, 0) d) b) a).2.2.1 = mm_cw a b d 2 := by decide +kernel
theorem mm_dv33 : ∀ a, a < 8 → ∀ b, b < 8 → ∀ d, d < 8 → (mm_dv (mm_dv (mm_dv (0, 0, 0, 0) d) b) a).2.2.2 = mm_cw a b d 3 := by decide +kernel
/-- the reference's polynomial -/
def mm_z (i : Nat) : Nat := 5715 / 8 ^ i % 8
/-- what i inner steps add at place k, digit d shifted by j -/
def mm_in (d j i k : Nat) : Nat := if j ≤ k ∧ k < j + i then mm_mu (mm_z (k - j)) d else 0
/-- the reference's word of number n after j digits -/
def mm_ys (n : Nat) : Nat → Nat → Nat
  | 0, _ => 0
  | j + 1, k => mm_ys n j k ^^^ mm_in (n / 8 ^ j % 8) j 5 k
theorem mm_z_lt (i : Nat) : mm_z i < 8 := Nat.mod_lt _ (by decide)
theorem mm_in_lt (d j i k : Nat) : mm_in d j i k < 8 := by
  unfold mm_in
  split
  · exact mm_mu_lt _ _
  · decide
theorem mm_in_0 (d j k : Nat) : mm_in d j 0 k = 0 := by
  unfold mm_in
  rw [if_neg (by omega)]
theorem mm_in_s (d j i : Nat) : mm_in d j i (i + j) = 0 ∧ mm_in d j (i + 1) (i + j) = mm_mu (mm_z i) d := by
  unfold mm_in
  rw [if_neg (by omega), if_pos (by omega), Nat.add_sub_cancel]
  exact ⟨rfl, rfl⟩
theorem mm_in_n {d j i k : Nat} (h : k ≠ i + j) : mm_in d j (i + 1) k = mm_in d j i k := by
  unfold mm_in
  by_cases c : j ≤ k ∧ k < j + i
  · rw [if_pos c, if_pos (by omega)]
  · rw [if_neg c, if_neg (by omega)]
theorem mm_ys_lt (n j k : Nat) : mm_ys n j k < 8 := by
  induction j with
  | zero => exact (by decide : 0 < 8)
  | succ j ih => exact mm_x8 ih (mm_in_lt _ _ _ _)
theorem mm_ys_cw : ∀ n, n < 512 → ∀ k, k < 7 → mm_ys n 3 k = mm_cw (mm_ys n 3 4) (mm_ys n 3 5) (mm_ys n 3 6) k := by decide +kernel
/-- the number under which the reference makes the code word with upper symbols a, b, d -/
def mm_q (a b d : Nat) : Nat := (a ^^^ mm_mu 3 (b ^^^ mm_mu 3 d) ^^^ d) + 8 * (b ^^^ mm_mu 3 d) + 64 * d
theorem mm_ys_q : ∀ a, a < 8 → ∀ b, b < 8 → ∀ d, d < 8 → mm_q a b d < 512 ∧ ∀ k, k < 7 → mm_ys (mm_q a b d) 3 k = mm_cw a b d k := by decide +kernel
/-- the value by Horner's way, from the highest place down -/
def mm_hz (w : Nat → Nat) (s : Nat) : Nat → Nat
  | 0 => 0
  | i + 1 => mm_mu (mm_hz w s i) s ^^^ w (6 - i)
def mm_pw (s : Nat) : Nat → Nat
  | 0 => 1
  | i + 1 => mm_mu (mm_pw s i) s
/-- the value by powers, from the lowest place up -/
def mm_sv (w : Nat → Nat) (s : Nat) : Nat → Nat
  | 0 => 0
  | i + 1 => mm_sv w s i ^^^ mm_mu (w i) (mm_pw s i)
theorem mm_pw_lt (s i : Nat) : mm_pw s i < 8 := by
  cases i with
  | zero => exact (by decide : 1 < 8)
  | succ i => exact mm_mu_lt _ _
theorem mm_hz_lt {w : Nat → Nat} {s : Nat} (hw : ∀ j, j < 7 → w j < 8) (i : Nat) : mm_hz w s i < 8 := by
  cases i with
  | zero => exact (by decide : 0 < 8)
  | succ i => exact mm_x8 (mm_mu_lt _ _) (hw _ (by omega))
theorem mm_sv_lt {w : Nat → Nat} {s : Nat} (i : Nat) : mm_sv w s i < 8 := by
  induction i with
  | zero => exact (by decide : 0 < 8)
  | succ i ih => exact mm_x8 ih (mm_mu_lt _ _)
theorem mm_val {w : Nat → Nat} {s : Nat} (hw : ∀ j, j < 7 → w j < 8) (hs : s < 8) : mm_sv w s 7 = mm_hz w s 7 := by
  have key : ∀ i, i ≤ 7 → mm_sv w s 7 = mm_sv w s (7 - i) ^^^ mm_mu (mm_hz w s i) (mm_pw s (7 - i)) := by
    intro i
    induction i with
    | zero =>
      intro _
      show mm_sv w s 7 = mm_sv w s 7 ^^^ mm_mu 0 (mm_pw s 7)
      rw [mm_mu_zero _ (mm_pw_lt _ _), Nat.xor_zero]
    | succ i ih =>
      intro hi
      have e := ih (by omega)
      have hk : 7 - i = (6 - i) + 1 := by omega
      have hk2 : 7 - (i + 1) = 6 - i := by omega
      have es : mm_sv w s (6 - i + 1) = mm_sv w s (6 - i) ^^^ mm_mu (w (6 - i)) (mm_pw s (6 - i)) := rfl
      have ep : mm_pw s (6 - i + 1) = mm_mu (mm_pw s (6 - i)) s := rfl
      have eh : mm_hz w s (i + 1) = mm_mu (mm_hz w s i) s ^^^ w (6 - i) := rfl
      rw [hk, es, ep] at e
      rw [hk2, eh, mm_mu_add _ (mm_mu_lt _ _) _ (hw _ (by omega)) _ (mm_pw_lt _ _),
        mm_mu_assoc _ (mm_hz_lt hw i) _ hs _ (mm_pw_lt _ _), mm_mu_comm s hs _ (mm_pw_lt _ _), e]
      ac_rfl
  have e : mm_sv w s 7 = mm_sv w s 0 ^^^ mm_mu (mm_hz w s 7) (mm_pw s 0) := key 7 (Nat.le_refl 7)
  rw [e]
  show 0 ^^^ mm_mu (mm_hz w s 7) 1 = mm_hz w s 7
  rw [mm_mu_one _ (mm_hz_lt hw 7), Nat.zero_xor]
end
section
/-! helpers over Int32: ranges, overwritten arrays, digits -/
/-- no symbol -/
def mm_bs (x : Int32) : Prop := x < 0 ∨ nI 8 ≤ x
/-- no place -/
def mm_bp (x : Int32) : Prop := x < 0 ∨ nI 7 ≤ x
theorem mm_sym (x : Int32) : mm_bs x ∨ ∃ j : Nat, j < 8 ∧ x = nI j := by
  rcases pk_ix x (n := 8) (by decide) with h | h | h
  · exact Or.inl (Or.inl h)
  · exact Or.inl (Or.inr h)
  · exact Or.inr h
theorem mm_plc (x : Int32) : mm_bp x ∨ ∃ j : Nat, j < 7 ∧ x = nI j := by
  rcases pk_ix x (n := 7) (by decide) with h | h | h
  · exact Or.inl (Or.inl h)
  · exact Or.inl (Or.inr h)
  · exact Or.inr h
theorem mm_ge8 {x : Int32} (h : nI 8 ≤ x) : ¬ x < 0 ∧ ¬ x < 8 ∧ 8 ≤ x ∧ 7 < x ∧ ¬ x ≤ 7 := by
  have e : (nI 8).toInt = 8 := by decide
  have e7 : (7 : Int32).toInt = 7 := by decide
  have e8 : (8 : Int32).toInt = 8 := by decide
  have e0 : (0 : Int32).toInt = 0 := by decide
  rw [Int32.le_iff_toInt_le, e] at h
  refine ⟨?_, ?_, ?_, ?_, ?_⟩
  · rw [Int32.lt_iff_toInt_lt, e0]; omega
  · rw [Int32.lt_iff_toInt_lt, e8]; omega
  · rw [Int32.le_iff_toInt_le, e8]; omega
  · rw [Int32.lt_iff_toInt_lt, e7]; omega
  · rw [Int32.le_iff_toInt_le, e7]; omega
theorem mm_ge7 {x : Int32} (h : nI 7 ≤ x) : ¬ x < 0 ∧ ¬ x < 7 ∧ 7 ≤ x ∧ 6 < x ∧ ¬ x ≤ 6 := by
  have e : (nI 7).toInt = 7 := by decide
  have e7 : (7 : Int32).toInt = 7 := by decide
  have e6 : (6 : Int32).toInt = 6 := by decide
  have e0 : (0 : Int32).toInt = 0 := by decide
  rw [Int32.le_iff_toInt_le, e] at h
  refine ⟨?_, ?_, ?_, ?_, ?_⟩
  · rw [Int32.lt_iff_toInt_lt, e0]; omega
  · rw [Int32.lt_iff_toInt_lt, e7]; omega
  · rw [Int32.le_iff_toInt_le, e7]; omega
  · rw [Int32.lt_iff_toInt_lt, e6]; omega
  · rw [Int32.le_iff_toInt_le, e6]; omega
theorem mm_lt8 : ∀ j, j < 8 → ¬ nI j < 0 ∧ 0 ≤ nI j ∧ nI j < 8 ∧ ¬ 8 ≤ nI j ∧ ¬ 7 < nI j ∧ nI j ≤ 7 := by decide +kernel
theorem mm_lt7 : ∀ j, j < 7 → ¬ nI j < 0 ∧ 0 ≤ nI j ∧ nI j < 7 ∧ ¬ 7 ≤ nI j ∧ ¬ 6 < nI j ∧ nI j ≤ 6 := by decide +kernel
/-- f below i, g from there on -/
def mm_ow (f g : Nat → Int32) (i : Nat) : Nat → Int32 := fun j => if j < i then f j else g j
theorem mm_ow_0 (f g : Nat → Int32) : mm_ow f g 0 = g := by
  funext j
  unfold mm_ow
  rw [if_neg (by omega)]
theorem mm_ow_s (f g : Nat → Int32) (i : Nat) {x : Int32} (hx : x = f i) : upd (mm_ow f g i) i x = mm_ow f g (i + 1) := by
  funext j
  unfold mm_ow upd
  by_cases e : j = i
  · rw [if_pos e, if_pos (by omega), hx, e]
  · rw [if_neg e]
    dsimp only
    by_cases h : j < i
    · rw [if_pos h, if_pos (by omega)]
    · rw [if_neg h, if_neg (by omega)]
theorem mm_ow_lt {f g : Nat → Int32} {i j : Nat} (h : j < i) : mm_ow f g i j = f j := if_pos h
theorem mm_ow_ge {f g : Nat → Int32} {i j : Nat} (h : ¬ j < i) : mm_ow f g i j = g j := if_neg h
theorem mm_ow_congr {f f' g : Nat → Int32} {i : Nat} (h : ∀ j, j < i → f j = f' j) : mm_ow f g i = mm_ow f' g i := by
  funext j
  unfold mm_ow
  by_cases c : j < i
  · rw [if_pos c, if_pos c, h j c]
  · rw [if_neg c, if_neg c]
theorem mm_ow_ow {f f' g : Nat → Int32} {i : Nat} (h : ∀ j, j < i → f j = f' j) : mm_ow f (mm_ow f' g i) i = mm_ow f' g i := by
  funext j
  unfold mm_ow
  by_cases c : j < i
  · rw [if_pos c, if_pos c, h j c]
  · rw [if_neg c, if_neg c]
/-- the line holds symbols -/
def mm_wd (l : Nat → Int32) : Prop := ∀ j, j < 7 → ∃ s : Nat, s < 8 ∧ l j = nI s
/-- the marks are booleans -/
def mm_bo (m : Nat → Int32) : Prop := ∀ j, j < 7 → m j = 0 ∨ m j = 1
/-- the reference's polynomial lies in z -/
def mm_zz (z : Nat → Int32) : Prop := ∀ i, i < 5 → z i = nI (mm_z i)
theorem mm_wd_w {l : Nat → Int32} (h : mm_wd l) : ∃ w : Nat → Nat, ∀ j, j < 7 → w j < 8 ∧ l j = nI (w j) := by
  refine ⟨fun j => (l j).toNatClampNeg, fun j hj => ?_⟩
  obtain ⟨s, hs, e⟩ := h j hj
  have e2 : (l j).toNatClampNeg = s := by rw [e]; exact nI_clamp (by omega)
  dsimp only
  rw [e2]
  exact ⟨hs, e⟩
theorem mm_wd_u {l : Nat → Int32} (h : mm_wd l) (k : Nat) {s : Nat} (hs : s < 8) : mm_wd (upd l k (nI s)) := by
  intro j hj
  by_cases e : j = k
  · rw [e, pk_us]
    exact ⟨s, hs, rfl⟩
  · rw [pk_un e]
    exact h j hj
theorem mm_bo_u {m : Nat → Int32} (h : mm_bo m) (k : Nat) {x : Int32} (hx : x = 0 ∨ x = 1) : mm_bo (upd m k x) := by
  intro j hj
  by_cases e : j = k
  · rw [e, pk_us]
    exact hx
  · rw [pk_un e]
    exact h j hj
theorem mm_wd_c {c l : Nat → Int32} (h : mm_code c) : mm_wd (mm_ow c l 7) := by
  obtain ⟨a, b, d, _, _, _, h⟩ := h
  intro j hj
  rw [mm_ow_lt hj, h j hj]
  exact ⟨_, mm_cw_lt _ _ _ _, rfl⟩
theorem mm_bo_0 (m : Nat → Int32) : mm_bo (mm_ow (fun _ => 0) m 7) := by
  intro j hj
  rw [mm_ow_lt hj]
  exact Or.inl rfl
/-- the comparison of the search -/
theorem mm_cmp {d e : Nat} (hd : d ≤ 7) (he : e ≤ 7) : 2 * nI d + nI e ≤ 4 ↔ 2 * d + e ≤ 4 := by
  have h : 2 * nI d + nI e = nI (2 * d + e) := by
    rw [show (2 : Int32) = nI 2 from rfl, pk_mul, nI_add]
  rw [h, show (4 : Int32) = nI 4 from rfl, nI_leI (by omega) (by omega)]
theorem mm_and7 {n : Nat} (h : n < 2 ^ 31) : nI n &&& 7 = nI (n % 8) := pk_andN (by omega) 3 (by decide)
theorem mm_s3 {n : Nat} (h : n < 2 ^ 31) : nI n >>> ((3 : Int32) &&& 31) = nI (n / 8) := pk_shrN h _ 3 (by decide)
theorem mm_s6 {n : Nat} (h : n < 2 ^ 31) : nI n >>> ((6 : Int32) &&& 31) = nI (n / 64) := pk_shrN h _ 6 (by decide)
end
section
/-! the component's walks, each against its picture -/
theorem mm_10 : ¬ (1 : Int32) = 0 := by decide
theorem mm_nar0 : vp_nar .boolean 0 = 0 := by decide
theorem mm_narb (v : Int32) : vp_nar .boolean (lw_bz v) = lw_bz v := by
  rcases lw_bz_01 v with h | h <;> rw [h] <;> decide
theorem mm_ne1 : ∀ d, d < 8 → ¬ nI d = -1 := by decide +kernel
theorem mm_cl {i : Nat} (h : i < 512) : (nI i).toNatClampNeg = i := nI_clamp (by omega)
theorem mx_symb {post : Int32 → Prop} {x : Int32} (hb : mm_bs x) (h : post 0) : wpX_isSymbol post x := by
  unfold wpX_isSymbol
  rcases hb with hb | hb
  · exact br_t hb h
  · exact br_f (mm_ge8 hb).1 (br_t (mm_ge8 hb).2.2.1 h)
theorem mx_symg {post : Int32 → Prop} {j : Nat} (hj : j < 8) (h : post 1) : wpX_isSymbol post (nI j) := by
  unfold wpX_isSymbol
  exact br_f (mm_lt8 j hj).1 (br_f (mm_lt8 j hj).2.2.2.1 h)
theorem mx_plcb {post : Int32 → Prop} {x : Int32} (hb : mm_bp x) (h : post 0) : wpX_isPlace post x := by
  unfold wpX_isPlace
  rcases hb with hb | hb
  · exact br_t hb h
  · exact br_f (mm_ge7 hb).1 (br_t (mm_ge7 hb).2.2.1 h)
theorem mx_plcg {post : Int32 → Prop} {j : Nat} (hj : j < 7) (h : post 1) : wpX_isPlace post (nI j) := by
  unfold wpX_isPlace
  exact br_f (mm_lt7 j hj).1 (br_f (mm_lt7 j hj).2.2.2.1 h)
/-- the doubled sum, brought below 8 -/
def mm_t1 (s : Int32) : Int32 := if (s <<< ((1 : Int32) &&& 31)) &&& 8 = 0 then s <<< ((1 : Int32) &&& 31) else (s <<< ((1 : Int32) &&& 31)) ^^^ 11
/-- one turn of the component's product -/
def mm_ts (a b s p : Int32) : Int32 := if ((b >>> (p &&& 31)) &&& 1) = 0 then mm_t1 s else mm_t1 s ^^^ a
theorem mx_t24 {post : Int32 → Prop} {J : Int32 → Int32 → Prop} {x0 x1 x2 x3 : Int32} (h : J (if ((x1 >>> (x3 &&& 31)) &&& 1) = 0 then x2 else x2 ^^^ x0) (x3 + (-1))) :
    wX_times_24 post J x0 x1 x2 x3 := by
  unfold wX_times_24
  by_cases c : ((x1 >>> (x3 &&& 31)) &&& 1) = 0
  · rw [if_pos c] at h
    exact br_t c (nm_e h)
  · rw [if_neg c] at h
    exact br_f c (nm_e (nm_e h))
theorem mx_t4 {post : Int32 → Prop} {a b s p : Int32} {n : Nat} (hp : ¬ p < 0) (h : wX_times_4 post a b n (mm_ts a b s p) (p + (-1))) : wX_times_4 post a b (n + 1) s p := by
  refine br_f hp (nm_e ?_)
  unfold mm_ts mm_t1 at h
  by_cases c : (s <<< ((1 : Int32) &&& 31)) &&& 8 = 0
  · rw [if_pos c] at h
    exact br_t c (mx_t24 h)
  · rw [if_neg c] at h
    exact br_f c (nm_e (mx_t24 h))
theorem mm_T : ∀ a, a < 8 → ∀ b, b < 8 → mm_ts (nI a) (nI b) (mm_ts (nI a) (nI b) (mm_ts (nI a) (nI b) 0 2) (2 + (-1))) (2 + (-1) + (-1)) = nI (mm_mu a b) := by decide +kernel
theorem mx_times {post : Int32 → Prop} {x y : Int32} (a b : Nat) (ha : a < 8) (hb : b < 8) (h : post (nI (mm_mu a b))) (hx : x = nI a := by rfl) (hy : y = nI b := by rfl) : wpX_times post x y := by
  subst hx hy
  rw [← mm_T a ha b hb] at h
  exact Exists.intro 4 (mx_t4 (by decide) (mx_t4 (by decide) (mx_t4 (by decide) (br_t (by decide) h))))
/-- c begins with the four symbols w -/
def mm_c4 (c : Nat → Int32) (w : Nat × Nat × Nat × Nat) : Prop :=
  (c 0 = nI w.1 ∧ w.1 < 8) ∧ (c 1 = nI w.2.1 ∧ w.2.1 < 8) ∧ (c 2 = nI w.2.2.1 ∧ w.2.2.1 < 8) ∧ (c 3 = nI w.2.2.2 ∧ w.2.2.2 < 8)
theorem mx_div {post : SX → Prop} {l m c : Nat → Int32} {w : Nat × Nat × Nat × Nat} {s : Nat} (hw : mm_c4 c w) (hs : s < 8)
    (h : ∀ c', mm_c4 c' (mm_dv w s) → post (l, m, c')) : wpX_divideIn post (l, m, c) (nI s) := by
  obtain ⟨w0, w1, w2, w3⟩ := w
  obtain ⟨⟨h0, q0⟩, ⟨h1, q1⟩, ⟨h2, q2⟩, ⟨h3, q3⟩⟩ := hw
  dsimp only at h0 q0 h1 q1 h2 q2 h3 q3
  have ql : w3 ^^^ s < 8 := mm_x8 q3 hs
  unfold wpX_divideIn
  dsimp only
  refine nm_r (e' := nI (w3 ^^^ s)) (by rw [h3, nx_xor]) ?_
  refine mx_times (w3 ^^^ s) 3 ql (by decide) ?_
  intro c1 e1
  refine mx_times (w3 ^^^ s) 1 ql (by decide) ?_
  intro c2 e2
  refine mx_times (w3 ^^^ s) 2 ql (by decide) ?_
  intro c3 e3
  refine mx_times (w3 ^^^ s) 3 ql (by decide) ?_
  intro c4 e4
  have a0 : c1 0 = nI w0 := by rw [e1, pk_un (by decide), h0]
  have a1 : c1 1 = nI w1 := by rw [e1, pk_un (by decide), h1]
  have a3 : c1 3 = nI (w2 ^^^ mm_mu (w3 ^^^ s) 3) := by rw [e1, pk_us, h2, nx_xor]
  have b0 : c2 0 = nI w0 := by rw [e2, pk_un (by decide), a0]
  have b2 : c2 2 = nI (w1 ^^^ mm_mu (w3 ^^^ s) 1) := by rw [e2, pk_us, a1, nx_xor]
  have b3 : c2 3 = nI (w2 ^^^ mm_mu (w3 ^^^ s) 3) := by rw [e2, pk_un (by decide), a3]
  have d1 : c3 1 = nI (w0 ^^^ mm_mu (w3 ^^^ s) 2) := by rw [e3, pk_us, b0, nx_xor]
  have d2 : c3 2 = nI (w1 ^^^ mm_mu (w3 ^^^ s) 1) := by rw [e3, pk_un (by decide), b2]
  have d3 : c3 3 = nI (w2 ^^^ mm_mu (w3 ^^^ s) 3) := by rw [e3, pk_un (by decide), b3]
  apply h
  refine ⟨⟨?_, mm_mu_lt _ _⟩, ⟨?_, mm_x8 q0 (mm_mu_lt _ _)⟩, ⟨?_, mm_x8 q1 (mm_mu_lt _ _)⟩, ⟨?_, mm_x8 q2 (mm_mu_lt _ _)⟩⟩
  · show c4 0 = nI (mm_mu (w3 ^^^ s) 3)
    rw [e4, pk_us]
  · show c4 1 = nI (w0 ^^^ mm_mu (w3 ^^^ s) 2)
    rw [e4, pk_un (by decide), d1]
  · show c4 2 = nI (w1 ^^^ mm_mu (w3 ^^^ s) 1)
    rw [e4, pk_un (by decide), d2]
  · show c4 3 = nI (w2 ^^^ mm_mu (w3 ^^^ s) 3)
    rw [e4, pk_un (by decide), d3]
theorem mx_write {post : SX → Prop} {l m c : Nat → Int32} {x y t : Int32} (a b d : Nat) (ha : a < 8) (hb : b < 8) (hd : d < 8) (hx : x = nI a) (hy : y = nI b) (ht : t = nI d)
    (h : ∀ c', mm_is c' a b d → post (l, m, c')) : wpX_writeCodeWord post (l, m, c) x y t := by
  subst hx hy ht
  unfold wpX_writeCodeWord
  dsimp only
  intro c1 e1 c2 e2 c3 e3 c4 e4
  have z : mm_c4 c4 (0, 0, 0, 0) := by
    refine ⟨⟨?_, by decide⟩, ⟨?_, by decide⟩, ⟨?_, by decide⟩, ⟨?_, by decide⟩⟩
    · rw [e4, pk_un (by decide), e3, pk_un (by decide), e2, pk_un (by decide), e1, pk_us]; rfl
    · rw [e4, pk_un (by decide), e3, pk_un (by decide), e2, pk_us]; rfl
    · rw [e4, pk_un (by decide), e3, pk_us]; rfl
    · rw [e4, pk_us]; rfl
  refine mx_div z hd (fun c5 h5 => ?_)
  dsimp only
  refine mx_div h5 hb (fun c6 h6 => ?_)
  dsimp only
  refine mx_div h6 ha (fun c7 h7 => ?_)
  dsimp only
  intro c8 e8 c9 e9 c10 e10
  obtain ⟨⟨g0, _⟩, ⟨g1, _⟩, ⟨g2, _⟩, ⟨g3, _⟩⟩ := h7
  rw [mm_dv30 a ha b hb d hd] at g0
  rw [mm_dv31 a ha b hb d hd] at g1
  rw [mm_dv32 a ha b hb d hd] at g2
  rw [mm_dv33 a ha b hb d hd] at g3
  apply h
  intro j hj
  have hj' : j = 0 ∨ j = 1 ∨ j = 2 ∨ j = 3 ∨ j = 4 ∨ j = 5 ∨ j = 6 := by omega
  rcases hj' with rfl | rfl | rfl | rfl | rfl | rfl | rfl
  · rw [e10, pk_un (by decide), e9, pk_un (by decide), e8, pk_un (by decide), g0]
  · rw [e10, pk_un (by decide), e9, pk_un (by decide), e8, pk_un (by decide), g1]
  · rw [e10, pk_un (by decide), e9, pk_un (by decide), e8, pk_un (by decide), g2]
  · rw [e10, pk_un (by decide), e9, pk_un (by decide), e8, pk_un (by decide), g3]
  · rw [e10, pk_un (by decide), e9, pk_un (by decide), e8, pk_us, (mm_cw4 a ha b hb d hd).1]
  · rw [e10, pk_un (by decide), e9, pk_us, (mm_cw4 a ha b hb d hd).2.1]
  · rw [e10, pk_us, (mm_cw4 a ha b hb d hd).2.2]
theorem mx_put {post : SX → Prop} {l m c : Nat → Int32} (h : post (mm_ow c l 7, mm_ow (fun _ => 0) m 7, c)) : wpX_putCodeWordOnLine post (l, m, c) := by
  unfold wpX_putCodeWordOnLine
  dsimp only
  have key : ∃ n, wX_putCodeWordOnLine_2 post n (nI 0) (mm_ow c l 0) (mm_ow (fun _ => 0) m 0) c := by
    refine loop_0 (σ := Unit) (fun n i _ => wX_putCodeWordOnLine_2 post n (nI i) (mm_ow c l i) (mm_ow (fun _ => 0) m i) c) (fun _ _ => True) 7 () trivial ?_ ?_
    · intro n _ _
      exact br_t (by decide) h
    · intro n i _ hi _ ih
      have hv : vp_in (nI i) 7 := vp_in_nI hi (by decide)
      have hc := mm_cl (i := i) (by omega)
      refine br_f (mm_lt7 i hi).2.2.2.1 ⟨hv, hv, nm_r (e' := mm_ow c l (i + 1)) ?_ ⟨hv, nm_r (e' := mm_ow (fun _ => 0) m (i + 1)) ?_ (nm_r (nI_1 i) (ih () trivial))⟩⟩
      · rw [hc]
        exact mm_ow_s _ _ _ rfl
      · rw [hc]
        exact mm_ow_s _ _ _ mm_nar0
  rw [mm_ow_0, mm_ow_0] at key
  exact key
end
section
/-! the component's counts, its search and its value -/
theorem mm_mis0 {m : Nat → Int32} {i : Nat} (z : m i = 0) : mm_ct (mm_mis m) (i + 1) = mm_ct (mm_mis m) i := by
  rw [mm_ct]
  simp [mm_mis, z]
theorem mm_mis1 {m : Nat → Int32} {i : Nat} (z : ¬ m i = 0) : mm_ct (mm_mis m) (i + 1) = mm_ct (mm_mis m) i + 1 := by
  rw [mm_ct]
  simp [mm_mis, z]
theorem mm_dif0 {m l c : Nat → Int32} {i : Nat} (z : ¬ m i = 0) : mm_ct (mm_dif m l c) (i + 1) = mm_ct (mm_dif m l c) i := by
  rw [mm_ct]
  simp [mm_dif, z]
theorem mm_dif1 {m l c : Nat → Int32} {i : Nat} (e : c i = l i) : mm_ct (mm_dif m l c) (i + 1) = mm_ct (mm_dif m l c) i := by
  rw [mm_ct]
  simp [mm_dif, e]
theorem mm_dif2 {m l c : Nat → Int32} {i : Nat} (z : m i = 0) (e : ¬ c i = l i) : mm_ct (mm_dif m l c) (i + 1) = mm_ct (mm_dif m l c) i + 1 := by
  rw [mm_ct]
  simp [mm_dif, z, e]
theorem mx_cm {post : Int32 → Prop} {l m c : Nat → Int32} (h : post (nI (mm_ct (mm_mis m) 7))) : wpX_countMissing post (l, m, c) := by
  unfold wpX_countMissing
  dsimp only
  refine loop_0 (σ := Unit) (fun n i _ => wX_countMissing_4 post l m c n (nI (mm_ct (mm_mis m) i)) (nI i)) (fun _ _ => True) 7 () trivial ?_ ?_
  · intro n _ _
    exact br_t (by decide) h
  · intro n i _ hi _ ih
    have hv : vp_in (nI i) 7 := vp_in_nI hi (by decide)
    have hc := mm_cl (i := i) (by omega)
    have ih := ih () trivial
    refine br_f (mm_lt7 i hi).2.2.2.1 ⟨hv, ?_⟩
    by_cases z : m i = 0
    · rw [mm_mis0 z] at ih
      exact br_t (by rw [hc]; exact z) (nm_r (nI_1 i) ih)
    · rw [mm_mis1 z] at ih
      exact br_f (by rw [hc]; exact z) (nm_r (nI_1 _) (nm_r (nI_1 i) ih))
theorem mx_cd {post : Int32 → Prop} {l m c : Nat → Int32} (h : post (nI (mm_ct (mm_dif m l c) 7))) : wpX_countDiffering post (l, m, c) := by
  unfold wpX_countDiffering
  dsimp only
  refine loop_0 (σ := Unit) (fun n i _ => wX_countDiffering_4 post l m c n (nI (mm_ct (mm_dif m l c) i)) (nI i)) (fun _ _ => True) 7 () trivial ?_ ?_
  · intro n _ _
    exact br_t (by decide) h
  · intro n i _ hi _ ih
    have hv : vp_in (nI i) 7 := vp_in_nI hi (by decide)
    have hc := mm_cl (i := i) (by omega)
    have ih := ih () trivial
    refine br_f (mm_lt7 i hi).2.2.2.1 ⟨hv, ?_⟩
    by_cases z : m i = 0
    · refine br_t (by rw [hc]; exact z) ⟨hv, hv, ?_⟩
      by_cases e : c i = l i
      · rw [mm_dif1 e] at ih
        exact br_t (by rw [hc]; exact e) (nm_r (nI_1 i) ih)
      · rw [mm_dif2 z e] at ih
        exact br_f (by rw [hc]; exact e) (nm_r (nI_1 _) (nm_r (nI_1 i) ih))
    · rw [mm_dif0 z] at ih
      exact br_f (by rw [hc]; exact z) (nm_r (nI_1 i) ih)
/-- the search's branch, by whether c fits -/
theorem mm_br {A B : Prop} {m l c : Nat → Int32} (f : ¬ mm_fit m l c → A) (g : mm_fit m l c → B) :
    (4 < (2 * nI (mm_ct (mm_dif m l c) 7)) + nI (mm_ct (mm_mis m) 7) → A) ∧ (¬ 4 < (2 * nI (mm_ct (mm_dif m l c) 7)) + nI (mm_ct (mm_mis m) 7) → B) := by
  have q := mm_cmp (mm_ct_le (mm_dif m l c) 7) (mm_ct_le (mm_mis m) 7)
  refine ⟨fun h => f (fun y => Int32.not_le.mpr h (q.mpr y)), fun h => g (q.mp (Int32.not_lt.mp h))⟩
theorem mx_find {post : Int32 → SX → Prop} {l m c0 : Nat → Int32}
    (h1 : ∀ c, mm_code c → mm_fit m l c → post (nI (mm_ct (mm_dif m l c) 7)) (l, m, c))
    (h0 : (∀ c, mm_code c → ¬ mm_fit m l c) → ∀ c, post (-1) (l, m, c)) : wpX_findFitting post (l, m, c0) := by
  unfold wpX_findFitting
  dsimp only
  refine mx_cm ?_
  refine loop_0 (fun n i c => wX_findFitting_7 post (nI (mm_ct (mm_mis m) 7)) n (nI i) l m c)
    (fun i _ => ∀ k, k < i → ∀ c', mm_is c' (k % 8) (k / 8 % 8) (k / 64 % 8) → ¬ mm_fit m l c') 512 c0 (fun k hk => absurd hk (Nat.not_lt_zero k)) ?_ ?_
  · intro n c I
    refine br_t (by decide) (h0 ?_ c)
    rintro c' ⟨a, b, d, ha, hb, hd, h⟩
    refine I (a + 8 * b + 64 * d) (by omega) c' ?_
    rw [show (a + 8 * b + 64 * d) % 8 = a from by omega, show (a + 8 * b + 64 * d) / 8 % 8 = b from by omega, show (a + 8 * b + 64 * d) / 64 % 8 = d from by omega]
    exact h
  · intro n i c hi I ih
    refine br_f (nI_ge (b := 512) hi (by decide)) ?_
    refine mx_write (i % 8) (i / 8 % 8) (i / 64 % 8) (by omega) (by omega) (by omega) (mm_and7 (by omega)) ?_ ?_ (fun c' hc => ?_)
    · rw [mm_s3 (by omega), mm_and7 (by omega)]
    · rw [mm_s6 (by omega), mm_and7 (by omega)]
    dsimp only
    refine mx_cd ?_
    refine mm_br (fun f => nm_r (nI_1 i) (ih c' ?_)) (fun f => h1 c' ⟨_, _, _, by omega, by omega, by omega, hc⟩ f)
    intro k hk c'' hc''
    by_cases e : k = i
    · subst e
      exact fun f' => f (mm_fit_congr (fun j hj => (hc'' j hj).trans (hc j hj).symm) f')
    · exact I k (by omega) c'' hc''
theorem mx_val {post : Int32 → Prop} {l m c : Nat → Int32} {w : Nat → Nat} {s : Nat} (hs : s < 8) (hw : ∀ j, j < 7 → w j < 8 ∧ l j = nI (w j)) (h : post (nI (mm_hz w s 7))) :
    ∃ n, wX_value_14 post (nI s) l m c n 0 6 := by
  have key : ∃ n, wX_value_14 post (nI s) l m c n (nI (mm_hz w s 0)) (nI (7 - 0) + (-1)) := by
    refine loop_0 (σ := Unit) (fun n i _ => wX_value_14 post (nI s) l m c n (nI (mm_hz w s i)) (nI (7 - i) + (-1))) (fun _ _ => True) 7 () trivial ?_ ?_
    · intro n _ _
      exact br_t (by decide) h
    · intro n i _ hi _ ih
      have ih := ih () trivial
      have e : nI (7 - i) + (-1) = nI (6 - i) := by
        rw [show 7 - i = (6 - i) + 1 from by omega]
        exact pk_m1 _
      have e2 : 7 - (i + 1) = 6 - i := by omega
      have hc := mm_cl (i := 6 - i) (by omega)
      rw [e2] at ih
      rw [e]
      refine br_f (nI_pos (by omega)) (mx_times (mm_hz w s i) s (mm_hz_lt (fun j hj => (hw j hj).1) i) hs ⟨vp_in_nI (by omega) (by decide), nm_r ?_ (nm_e ih)⟩)
      rw [hc, (hw (6 - i) (by omega)).2, nx_xor]
      rfl
  rw [show nI (7 - 0) + (-1) = 6 from by decide] at key
  exact key
end
section
/-! the reference's walks, each against its picture -/
theorem my_symb {post : Int32 → Prop} {x : Int32} (hb : mm_bs x) (h : post 1) : wpY_badSymbol post x := by
  unfold wpY_badSymbol
  rcases hb with hb | hb
  · exact br_t hb h
  · exact br_f (mm_ge8 hb).1 (br_f (mm_ge8 hb).2.2.2.2 h)
theorem my_symg {post : Int32 → Prop} {j : Nat} (hj : j < 8) (h : post 0) : wpY_badSymbol post (nI j) := by
  unfold wpY_badSymbol
  exact br_f (mm_lt8 j hj).1 (br_t (mm_lt8 j hj).2.2.2.2.2 h)
theorem my_plcb {post : Int32 → Prop} {x : Int32} (hb : mm_bp x) (h : post 1) : wpY_badPlace post x := by
  unfold wpY_badPlace
  rcases hb with hb | hb
  · exact br_t hb h
  · exact br_f (mm_ge7 hb).1 (br_f (mm_ge7 hb).2.2.2.2 h)
theorem my_plcg {post : Int32 → Prop} {j : Nat} (hj : j < 7) (h : post 0) : wpY_badPlace post (nI j) := by
  unfold wpY_badPlace
  exact br_f (mm_lt7 j hj).1 (br_t (mm_lt7 j hj).2.2.2.2.2 h)
def mm_m8 (x : Int32) : Int32 := if x &&& 8 = 0 then x else (x ^^^ 8) ^^^ 3
def mm_me (s : Int32) : Int32 := mm_m8 (if s &&& 16 = 0 then s else (s ^^^ 16) ^^^ 6)
def mm_ms (a b s p : Int32) : Int32 := if ((b >>> (p &&& 31)) &&& 1) = 1 then s ^^^ (a <<< (p &&& 31)) else s
theorem my_m45 {post : Int32 → Prop} {x : Int32} (h : post (mm_m8 x)) : wY_multiplied_45 post x := by
  unfold wY_multiplied_45
  unfold mm_m8 at h
  by_cases c : x &&& 8 = 0
  · rw [if_pos c] at h
    exact br_t c h
  · rw [if_neg c] at h
    exact br_f c (nm_e h)
theorem my_m4e {post : Int32 → Prop} {a b s p : Int32} {n : Nat} (hp : 3 ≤ p) (h : post (mm_me s)) : wY_multiplied_4 post a b (n + 1) s p := by
  refine br_t hp ?_
  unfold mm_me at h
  by_cases c : s &&& 16 = 0
  · rw [if_pos c] at h
    exact br_t c (my_m45 h)
  · rw [if_neg c] at h
    exact br_f c (nm_e (my_m45 h))
theorem my_m4 {post : Int32 → Prop} {a b s p : Int32} {n : Nat} (hp : ¬ 3 ≤ p) (h : wY_multiplied_4 post a b n (mm_ms a b s p) (p + 1)) : wY_multiplied_4 post a b (n + 1) s p := by
  refine br_f hp ?_
  unfold mm_ms at h
  by_cases c : ((b >>> (p &&& 31)) &&& 1) = 1
  · rw [if_pos c] at h
    exact br_t c (nm_e (nm_e h))
  · rw [if_neg c] at h
    exact br_f c (nm_e h)
theorem mm_M : ∀ a, a < 8 → ∀ b, b < 8 → mm_me (mm_ms (nI a) (nI b) (mm_ms (nI a) (nI b) (mm_ms (nI a) (nI b) 0 0) (0 + 1)) (0 + 1 + 1)) = nI (mm_mu a b) := by decide +kernel
theorem my_mul {post : Int32 → Prop} {x y : Int32} (a b : Nat) (ha : a < 8) (hb : b < 8) (h : post (nI (mm_mu a b))) (hx : x = nI a := by rfl) (hy : y = nI b := by rfl) : wpY_multiplied post x y := by
  subst hx hy
  rw [← mm_M a ha b hb] at h
  exact Exists.intro 4 (my_m4 (by decide) (my_m4 (by decide) (my_m4 (by decide) (my_m4e (by decide) h))))
/-- what multiplying by (x + r) makes of the polynomial g -/
def mm_nz (g : Nat → Nat) (r k : Nat) : Nat := (if 0 < k then g (k - 1) else 0) ^^^ mm_mu (g k) r
theorem my_t22 {post : SY → Prop} {J : Int32 → (Nat → Int32) → (Nat → Int32) → (Nat → Int32) → (Nat → Int32) → Prop} {l m z d : Nat → Int32} {x0 : Int32} {r p b q : Nat}
    (hr : r < 8) (hp : p < 5) (hb : b < 8) (hz : z p = nI b) (hq : x0 = nI q)
    (h : J (nI p + (-1)) l m (upd z p (nI (q ^^^ mm_mu b r))) d) : wY_times_22 post J (nI r) (nI p) x0 l m z d := by
  have hc := mm_cl (i := p) (by omega)
  have hv : vp_in (nI p) 5 := vp_in_nI hp (by decide)
  unfold wY_times_22
  refine ⟨hv, my_mul b r hb hr ⟨hv, nm_r (e' := upd z p (nI (q ^^^ mm_mu b r))) ?_ (nm_e h)⟩ (by rw [hc]; exact hz) rfl⟩
  rw [hc, hq, nx_xor]
theorem my_times {post : SY → Prop} {l m z d : Nat → Int32} {g : Nat → Nat} {r : Nat} (hr : r < 8) (hg : ∀ i, i < 5 → g i < 8 ∧ z i = nI (g i))
    (h : ∀ z', (∀ i, i < 5 → mm_nz g r i < 8 ∧ z' i = nI (mm_nz g r i)) → post (l, m, z', d)) : wpY_times post (l, m, z, d) (nI r) := by
  have hn : ∀ i, i < 5 → mm_nz g r i < 8 := by
    intro i hi
    unfold mm_nz
    refine mm_x8 ?_ (mm_mu_lt _ _)
    by_cases c : 0 < i
    · rw [if_pos c]; exact (hg (i - 1) (by omega)).1
    · rw [if_neg c]; decide
  unfold wpY_times
  dsimp only
  have key : ∃ n, wY_times_2 post (nI r) n (nI (5 - 0) + (-1)) l m z d := by
    refine loop_0 (fun n i z' => wY_times_2 post (nI r) n (nI (5 - i) + (-1)) l m z' d)
      (fun i z' => ∀ k, k < 5 → z' k = nI (if 5 - i ≤ k then mm_nz g r k else g k)) 5 z ?_ ?_ ?_
    · intro k hk
      rw [if_neg (by omega)]
      exact (hg k hk).2
    · intro n z' I
      refine br_t (by decide) (h z' (fun i hi => ⟨hn i hi, ?_⟩))
      have e := I i hi
      rw [if_pos (by omega)] at e
      exact e
    · intro n i z' hi I ih
      have e : nI (5 - i) + (-1) = nI (4 - i) := by
        rw [show 5 - i = (4 - i) + 1 from by omega]
        exact pk_m1 _
      rw [e]
      have e2 : 5 - (i + 1) = 4 - i := by omega
      rw [e2] at ih
      have hp : 4 - i < 5 := by omega
      have hb := (hg (4 - i) hp).1
      have hzp : z' (4 - i) = nI (g (4 - i)) := by
        have e := I (4 - i) hp
        rw [if_neg (by omega)] at e
        exact e
      have ih := ih (upd z' (4 - i) (nI (mm_nz g r (4 - i)))) (by
        intro k hk
        by_cases c : k = 4 - i
        · rw [c, pk_us, if_pos (by omega)]
        · rw [pk_un c, I k hk]
          by_cases c2 : 5 - i ≤ k
          · rw [if_pos c2, if_pos (by omega)]
          · rw [if_neg c2, if_neg (by omega)])
      refine br_f (nI_pos (by omega)) ?_
      by_cases c : 4 - i = 0
      · refine br_t (by rw [c]; decide) (my_t22 (q := 0) hr hp hb hzp rfl ?_)
        unfold mm_nz at ih
        rw [if_neg (by omega)] at ih
        exact ih
      · have e3 : nI (4 - i) - 1 = nI (3 - i) := by
          rw [show 4 - i = (3 - i) + 1 from by omega]
          exact nI_pred _
        have hc3 := mm_cl (i := 3 - i) (by omega)
        have hz3 : z' (3 - i) = nI (g (3 - i)) := by
          have e := I (3 - i) (by omega)
          rw [if_neg (by omega)] at e
          exact e
        refine br_f (nI_nle (by omega) (by omega)) ⟨by rw [e3]; exact vp_in_nI (by omega) (by decide), my_t22 (q := g (3 - i)) hr hp hb hzp (by rw [e3, hc3, hz3]) ?_⟩
        unfold mm_nz at ih
        rw [if_pos (by omega), show 4 - i - 1 = 3 - i from by omega] at ih
        exact ih
  rw [show nI (5 - 0) + (-1) = 4 from by decide] at key
  exact key
theorem mm_sh : ∀ j, j < 3 → (((3 * nI j) &&& 31).toBitVec.smod 32).toNat = 3 * j := by decide +kernel
theorem mm_dig {n j : Nat} (hn : n < 512) (hj : j < 3) : (nI n >>> ((3 * nI j) &&& 31)) &&& 7 = nI (n / 8 ^ j % 8) := by
  have h2 : n / 2 ^ (3 * j) ≤ n := Nat.div_le_self _ _
  rw [pk_shrN (by omega) _ (3 * j) (mm_sh j hj), mm_and7 (by omega), Nat.pow_mul]
theorem my_in {post : SY → Prop} {J : Int32 → (Nat → Int32) → (Nat → Int32) → (Nat → Int32) → (Nat → Int32) → Prop} {x1 : Int32} {l m z d0 : Nat → Int32} {j q : Nat} {g : Nat → Nat}
    (hj : j < 3) (hq : q < 8) (hz : mm_zz z) (hg : ∀ k, k < 7 → d0 k = nI (g k))
    (h : ∀ d', (∀ k, k < 7 → d' k = nI (g k ^^^ mm_in q j 5 k)) → J (nI (j + 1)) l m z d') : ∃ n, wY_make_40 post J x1 (nI j) (nI q) n 0 l m z d0 := by
  refine loop_0 (fun n i d => wY_make_40 post J x1 (nI j) (nI q) n (nI i) l m z d) (fun i d => ∀ k, k < 7 → d k = nI (g k ^^^ mm_in q j i k)) 5 d0 ?_ ?_ ?_
  · intro k hk
    rw [mm_in_0, Nat.xor_zero]
    exact hg k hk
  · intro n d I
    exact br_t (by decide) (nm_r (nI_1 j) (h d I))
  · intro n i d hi I ih
    have hv : vp_in (nI i + nI j) 7 := by
      rw [nI_add]
      exact vp_in_nI (by omega) (by decide)
    have hc : (nI i + nI j).toNatClampNeg = i + j := by
      rw [nI_add]
      exact mm_cl (by omega)
    have hci := mm_cl (i := i) (by omega)
    refine br_f (nI_ge (b := 5) hi (by decide)) ⟨hv, vp_in_nI hi (by decide), my_mul (mm_z i) q (mm_z_lt i) hq ⟨hv, nm_e (nm_r (nI_1 i) (ih _ ?_))⟩ (by rw [hci]; exact hz i hi) rfl⟩
    intro k hk
    rw [hc]
    by_cases e : k = i + j
    · subst e
      rw [pk_us, I (i + j) hk, nx_xor, (mm_in_s q j i).1, (mm_in_s q j i).2, Nat.xor_zero]
    · rw [pk_un e, I k hk, mm_in_n e]
theorem my_make {post : SY → Prop} {l m z d : Nat → Int32} {n : Nat} (hz : mm_zz z) (hn : n < 512)
    (h : ∀ d', (∀ k, k < 7 → d' k = nI (mm_ys n 3 k)) → post (l, m, z, d')) : wpY_make post (l, m, z, d) (nI n) := by
  have key2 : ∀ d1 : Nat → Int32, (∀ k, k < 7 → d1 k = nI (mm_ys n 0 k)) → ∃ n23, wY_make_23 post (nI n) n23 0 l m z d1 := by
    intro d1 hd1
    refine loop_0 (fun f j d => wY_make_23 post (nI n) f (nI j) l m z d) (fun j d => ∀ k, k < 7 → d k = nI (mm_ys n j k)) 3 d1 hd1 ?_ ?_
    · intro f d' I
      exact br_t (by decide) (h d' I)
    · intro f j d' hj I ih
      refine br_f (nI_ge (b := 3) hj (by decide)) (nm_r (mm_dig hn hj) ?_)
      exact my_in hj (Nat.mod_lt _ (by decide)) hz I (fun d'' hd'' => ih d'' hd'')
  unfold wpY_make
  dsimp only
  have key : ∃ f, wY_make_2 post (nI n) f (nI 0) l m z (mm_ow (fun _ => 0) d 0) := by
    refine loop_0 (σ := Unit) (fun f i _ => wY_make_2 post (nI n) f (nI i) l m z (mm_ow (fun _ => 0) d i)) (fun _ _ => True) 7 () trivial ?_ ?_
    · intro f _ _
      refine br_t (by decide) (key2 _ (fun k hk => ?_))
      rw [mm_ow_lt hk]
      rfl
    · intro f i _ hi _ ih
      have hc := mm_cl (i := i) (by omega)
      refine br_f (mm_lt7 i hi).2.2.2.1 ⟨vp_in_nI hi (by decide), nm_r (e' := mm_ow (fun _ => 0) d (i + 1)) ?_ (nm_r (nI_1 i) (ih () trivial))⟩
      rw [hc]
      exact mm_ow_s _ _ _ rfl
  rw [mm_ow_0] at key
  exact key
theorem my_take {post : SY → Prop} {l m z d : Nat → Int32} (h : post (mm_ow d l 7, mm_ow (fun _ => 0) m 7, z, d)) : wpY_take post (l, m, z, d) := by
  unfold wpY_take
  dsimp only
  have key : ∃ n, wY_take_2 post n (nI 0) (mm_ow d l 0) (mm_ow (fun _ => 0) m 0) z d := by
    refine loop_0 (σ := Unit) (fun n i _ => wY_take_2 post n (nI i) (mm_ow d l i) (mm_ow (fun _ => 0) m i) z d) (fun _ _ => True) 7 () trivial ?_ ?_
    · intro n _ _
      exact br_t (by decide) h
    · intro n i _ hi _ ih
      have hv : vp_in (nI i) 7 := vp_in_nI hi (by decide)
      have hc := mm_cl (i := i) (by omega)
      refine br_f (mm_lt7 i hi).2.2.2.1 ⟨hv, hv, nm_r (e' := mm_ow d l (i + 1)) ?_ ⟨hv, nm_r (e' := mm_ow (fun _ => 0) m (i + 1)) ?_ (nm_r (nI_1 i) (ih () trivial))⟩⟩
      · rw [hc]
        exact mm_ow_s _ _ _ rfl
      · rw [hc]
        exact mm_ow_s _ _ _ mm_nar0
  rw [mm_ow_0, mm_ow_0] at key
  exact key
end
section
/-! the reference's counts, its search, its send and its value -/
theorem my_lost {post : Int32 → Prop} {l m z d : Nat → Int32} (h : post (nI (mm_ct (mm_mis m) 7))) : wpY_lost post (l, m, z, d) := by
  unfold wpY_lost
  dsimp only
  refine loop_0 (σ := Unit) (fun n i _ => wY_lost_4 post l m z d n (nI (mm_ct (mm_mis m) i)) (nI i)) (fun _ _ => True) 7 () trivial ?_ ?_
  · intro n _ _
    exact br_t (by decide) h
  · intro n i _ hi _ ih
    have hv : vp_in (nI i) 7 := vp_in_nI hi (by decide)
    have hc := mm_cl (i := i) (by omega)
    have ih := ih () trivial
    refine br_f (mm_lt7 i hi).2.2.2.1 ⟨hv, ?_⟩
    by_cases q : m i = 0
    · rw [mm_mis0 q] at ih
      exact br_t (by rw [hc]; exact q) (nm_r (Int32.add_zero _) (nm_r (nI_1 i) ih))
    · rw [mm_mis1 q] at ih
      exact br_f (by rw [hc]; exact q) (nm_r (nI_1 _) (nm_r (nI_1 i) ih))
theorem my_diff {post : Int32 → Prop} {l m z d : Nat → Int32} (h : post (nI (mm_ct (mm_dif m l d) 7))) : wpY_different post (l, m, z, d) := by
  unfold wpY_different
  dsimp only
  refine loop_0 (σ := Unit) (fun n i _ => wY_different_4 post l m z d n (nI (mm_ct (mm_dif m l d) i)) (nI i)) (fun _ _ => True) 7 () trivial ?_ ?_
  · intro n _ _
    exact br_t (by decide) h
  · intro n i _ hi _ ih
    have hv : vp_in (nI i) 7 := vp_in_nI hi (by decide)
    have hc := mm_cl (i := i) (by omega)
    have ih := ih () trivial
    refine br_f (mm_lt7 i hi).2.2.2.1 ⟨hv, ?_⟩
    by_cases q : m i = 0
    · refine br_t (by rw [hc]; exact q) ⟨hv, hv, ?_⟩
      by_cases e : d i = l i
      · rw [mm_dif1 e] at ih
        exact br_t (by rw [hc]; exact e.symm) (nm_r (nI_1 i) ih)
      · rw [mm_dif2 q e] at ih
        exact br_f (by rw [hc]; exact fun y => e y.symm) (nm_r (nI_1 _) (nm_r (nI_1 i) ih))
    · rw [mm_dif0 q] at ih
      exact br_f (by rw [hc]; exact q) (nm_r (nI_1 i) ih)
theorem mm_ys_code {d : Nat → Int32} {n : Nat} (hn : n < 512) (h : ∀ k, k < 7 → d k = nI (mm_ys n 3 k)) : mm_is d (mm_ys n 3 4) (mm_ys n 3 5) (mm_ys n 3 6) :=
  fun j hj => (h j hj).trans (congrArg nI (mm_ys_cw n hn j hj))
theorem my_find {post : Int32 → SY → Prop} {l m z d0 : Nat → Int32} (hz : mm_zz z)
    (h1 : ∀ d, mm_code d → mm_fit m l d → post 1 (l, m, z, d))
    (h0 : (∀ d, mm_code d → ¬ mm_fit m l d) → ∀ d, post 0 (l, m, z, d)) : wpY_find post (l, m, z, d0) := by
  unfold wpY_find
  dsimp only
  refine my_lost ?_
  refine loop_0 (fun n i d => wY_find_7 post (nI (mm_ct (mm_mis m) 7)) n (nI i) l m z d)
    (fun i _ => ∀ k, k < i → ∀ d', (∀ j, j < 7 → d' j = nI (mm_ys k 3 j)) → ¬ mm_fit m l d') 512 d0 (fun k hk => absurd hk (Nat.not_lt_zero k)) ?_ ?_
  · intro n d I
    refine br_t (by decide) (h0 ?_ d)
    rintro d' ⟨a, b, c, ha, hb, hc, h⟩
    have hq := mm_ys_q a ha b hb c hc
    exact I (mm_q a b c) hq.1 d' (fun j hj => (h j hj).trans (congrArg nI (hq.2 j hj).symm))
  · intro n i d hi I ih
    refine br_f (nI_ge (b := 512) hi (by decide)) ?_
    refine my_make hz hi (fun d' hd => ?_)
    dsimp only
    refine my_diff ?_
    refine mm_br (fun f => nm_r (nI_1 i) (ih d' ?_)) (fun f => h1 d' ⟨_, _, _, mm_ys_lt _ _ _, mm_ys_lt _ _ _, mm_ys_lt _ _ _, mm_ys_code hi hd⟩ f)
    intro k hk d'' hd''
    by_cases e : k = i
    · subst e
      exact fun f' => f (mm_fit_congr (fun j hj => (hd'' j hj).trans (hd j hj).symm) f')
    · exact I k (by omega) d'' hd''
theorem my_send {post : Int32 → SY → Prop} {l m z d0 : Nat → Int32} {a b c : Nat} (hz : mm_zz z) (ha : a < 8) (hb : b < 8) (hc : c < 8)
    (h : ∀ d', post 0 (mm_ow (fun j => nI (mm_cw a b c j)) l 7, mm_ow (fun _ => 0) m 7, z, d')) : ∃ n, wY_send_26 post (nI a) (nI b) (nI c) n 0 l m z d0 := by
  refine loop_0 (σ := (Nat → Int32) × (Nat → Int32) × (Nat → Int32)) (fun n i s => wY_send_26 post (nI a) (nI b) (nI c) n (nI i) s.1 s.2.1 z s.2.2)
    (fun i s => (s.1 = l ∧ s.2.1 = m ∧ ∀ k, k < i → ¬ (mm_ys k 3 4 = a ∧ mm_ys k 3 5 = b ∧ mm_ys k 3 6 = c)) ∨ (s.1 = mm_ow (fun j => nI (mm_cw a b c j)) l 7 ∧ s.2.1 = mm_ow (fun _ => 0) m 7))
    512 (l, m, d0) (Or.inl ⟨rfl, rfl, fun k hk => absurd hk (Nat.not_lt_zero k)⟩) ?_ ?_
  · rintro n ⟨s1, s2, s3⟩ I
    dsimp only at I ⊢
    rcases I with ⟨_, _, I⟩ | ⟨e1, e2⟩
    · exfalso
      have hq := mm_ys_q a ha b hb c hc
      have h4 := mm_cw4 a ha b hb c hc
      exact I (mm_q a b c) hq.1 ⟨(hq.2 4 (by decide)).trans h4.1, (hq.2 5 (by decide)).trans h4.2.1, (hq.2 6 (by decide)).trans h4.2.2⟩
    · rw [e1, e2]
      exact br_t (by decide) (h s3)
  · rintro n i ⟨s1, s2, s3⟩ hi I ih
    dsimp only at I ⊢
    refine br_f (nI_ge (b := 512) hi (by decide)) ?_
    refine my_make hz hi (fun d' hd => ?_)
    dsimp only
    have q4 := mm_ys_lt i 3 4
    have q5 := mm_ys_lt i 3 5
    have q6 := mm_ys_lt i 3 6
    have g4 : d' 4 = nI a ↔ mm_ys i 3 4 = a := by rw [hd 4 (by decide)]; exact nI_eq (by omega) (by omega)
    have g5 : d' 5 = nI b ↔ mm_ys i 3 5 = b := by rw [hd 5 (by decide)]; exact nI_eq (by omega) (by omega)
    have g6 : d' 6 = nI c ↔ mm_ys i 3 6 = c := by rw [hd 6 (by decide)]; exact nI_eq (by omega) (by omega)
    have no : ¬ (mm_ys i 3 4 = a ∧ mm_ys i 3 5 = b ∧ mm_ys i 3 6 = c) → wY_send_26 post (nI a) (nI b) (nI c) n (nI (i + 1)) s1 s2 z d' := by
      intro hne
      refine ih (s1, s2, d') ?_
      rcases I with ⟨e1, e2, I⟩ | I
      · refine Or.inl ⟨e1, e2, fun k hk => ?_⟩
        by_cases e : k = i
        · rw [e]; exact hne
        · exact I k (by omega)
      · exact Or.inr I
    refine ek_if g4 (fun e4 => ek_if g5 (fun e5 => ek_if g6 (fun e6 => ?_) (fun n6 => nm_r (nI_1 i) (no (fun y => n6 y.2.2)))) (fun n5 => nm_r (nI_1 i) (no (fun y => n5 y.2.1)))) (fun n4 => nm_r (nI_1 i) (no (fun y => n4 y.1)))
    refine my_take ?_
    refine nm_r (nI_1 i) (ih (mm_ow d' s1 7, mm_ow (fun _ => 0) s2 7, d') (Or.inr ?_))
    have hT : ∀ j, j < 7 → d' j = nI (mm_cw a b c j) := by
      have hy := mm_ys_code hi hd
      rw [e4, e5, e6] at hy
      exact hy
    dsimp only
    rcases I with ⟨e1, e2, _⟩ | ⟨e1, e2⟩
    · rw [e1, e2]
      exact ⟨mm_ow_congr hT, rfl⟩
    · rw [e1, e2]
      exact ⟨mm_ow_ow hT, mm_ow_ow (fun _ _ => rfl)⟩
theorem my_val {post : Int32 → Prop} {l m z d : Nat → Int32} {w : Nat → Nat} {s : Nat} (hs : s < 8) (hw : ∀ j, j < 7 → w j < 8 ∧ l j = nI (w j)) (h : post (nI (mm_sv w s 7))) :
    ∃ n, wY_value_16 post (nI s) l m z d n 0 1 0 := by
  refine loop_0 (σ := Unit) (fun n i _ => wY_value_16 post (nI s) l m z d n (nI (mm_sv w s i)) (nI (mm_pw s i)) (nI i)) (fun _ _ => True) 7 () trivial ?_ ?_
  · intro n _ _
    exact br_t (by decide) h
  · intro n i _ hi _ ih
    have hv : vp_in (nI i) 7 := vp_in_nI hi (by decide)
    have hc := mm_cl (i := i) (by omega)
    have ih := ih () trivial
    exact br_f (mm_lt7 i hi).2.2.2.1 ⟨hv, my_mul (w i) (mm_pw s i) (hw i hi).1 (mm_pw_lt s i) (nm_r (nx_xor _ _) (my_mul (mm_pw s i) s (mm_pw_lt s i) hs (nm_r (nI_1 i) ih))) (by rw [hc]; exact (hw i hi).2) rfl⟩
end
section
/-- the same line, the same marks, symbols and booleans in them, and the reference's polynomial in its place -/
def i_Rel (_ : Nat) (u : SX) (v : SY) : Prop :=
  ∃ l m c z d : Nat → Int32, u = (l, m, c) ∧ v = (l, m, z, d) ∧ mm_wd l ∧ mm_bo m ∧ mm_zz z
theorem mm_rel {k : Nat} {l m c z d : Nat → Int32} (hl : mm_wd l) (hb : mm_bo m) (hz : mm_zz z) : i_Rel k (l, m, c) (l, m, z, d) := ⟨l, m, c, z, d, rfl, rfl, hl, hb, hz⟩
theorem i_up {k : Nat} {u : SX} {v : SY} (h : i_Rel k u v) : i_Rel (k + 4) u v := h
def mm_g0 (i : Nat) : Nat := if i = 0 then 1 else 0
theorem mm_gz : ∀ i, i < 5 → mm_nz (mm_nz (mm_nz (mm_nz mm_g0 2) 4) 3) 6 i = mm_z i := by decide +kernel
theorem i_vc0 : wpX_init (fun u => wpY_init (fun v => i_Rel 0 u v)) := by
  unfold wpX_init wpY_init
  refine nm_e ?_
  refine my_times (r := 2) (g := mm_g0) (by decide) ?_ (fun z1 h1 => ?_)
  · intro i hi
    unfold mm_g0
    by_cases e : i = 0
    · subst e
      rw [pk_us, if_pos rfl]
      exact ⟨by decide, rfl⟩
    · rw [pk_un e, if_neg e]
      exact ⟨by decide, rfl⟩
  dsimp only
  refine my_times (r := 4) (by decide) h1 (fun z2 h2 => ?_)
  dsimp only
  refine my_times (r := 3) (by decide) h2 (fun z3 h3 => ?_)
  dsimp only
  refine my_times (r := 6) (by decide) h3 (fun z4 h4 => ?_)
  dsimp only
  refine mm_rel (fun j _ => ⟨0, by decide, rfl⟩) (fun j _ => Or.inl rfl) (fun i hi => ?_)
  rw [(h4 i hi).2, mm_gz i hi]
theorem i_vc_send {k : Nat} {u : SX} {v : SY} (I : i_Rel k u v) (hk : k + 4 ≤ 2048) (v1 : Int32) (v2 : Int32) (v3 : Int32) : wpX_send (fun r u' => wpY_send (fun r' v' => r' = r ∧ i_Rel (k + 4) u' v') v v1 v2 v3) u v1 v2 v3 := by
  obtain ⟨l, m, c, z, d, rfl, rfl, hl, hb, hz⟩ := I
  unfold wpX_send wpY_send
  dsimp only
  rcases mm_sym v1 with b1 | ⟨a1, g1, rfl⟩
  · exact mx_symb b1 (br_t rfl (my_symb b1 (br_f mm_10 ⟨rfl, mm_rel hl hb hz⟩)))
  refine mx_symg g1 (br_f mm_10 ?_)
  rcases mm_sym v2 with b2 | ⟨a2, g2, rfl⟩
  · exact mx_symb b2 (br_t rfl (my_symg g1 (br_t rfl (my_symb b2 (br_f mm_10 ⟨rfl, mm_rel hl hb hz⟩)))))
  refine mx_symg g2 (br_f mm_10 ?_)
  rcases mm_sym v3 with b3 | ⟨a3, g3, rfl⟩
  · exact mx_symb b3 (br_t rfl (my_symg g1 (br_t rfl (my_symg g2 (br_t rfl (my_symb b3 (br_f mm_10 ⟨rfl, mm_rel hl hb hz⟩)))))))
  refine mx_symg g3 (br_f mm_10 ?_)
  refine mx_write a1 a2 a3 g1 g2 g3 rfl rfl rfl (fun c' hc => ?_)
  dsimp only
  refine mx_put ?_
  dsimp only
  refine my_symg g1 (br_t rfl (my_symg g2 (br_t rfl (my_symg g3 (br_t rfl ?_)))))
  refine my_send hz g1 g2 g3 (fun d' => ⟨rfl, ?_⟩)
  rw [← mm_ow_congr (g := l) hc]
  exact mm_rel (mm_wd_c ⟨a1, a2, a3, g1, g2, g3, hc⟩) (mm_bo_0 m) hz
theorem i_vc_change {k : Nat} {u : SX} {v : SY} (I : i_Rel k u v) (hk : k + 4 ≤ 2048) (v1 : Int32) (v2 : Int32) : wpX_change (fun r u' => wpY_change (fun r' v' => r' = r ∧ i_Rel (k + 4) u' v') v v1 v2) u v1 v2 := by
  obtain ⟨l, m, c, z, d, rfl, rfl, hl, hb, hz⟩ := I
  unfold wpX_change wpY_change
  dsimp only
  rcases mm_plc v1 with b1 | ⟨p, g1, rfl⟩
  · exact mx_plcb b1 (br_t rfl (my_plcb b1 (br_f mm_10 ⟨rfl, mm_rel hl hb hz⟩)))
  refine mx_plcg g1 (br_f mm_10 ?_)
  rcases mm_sym v2 with b2 | ⟨s, g2, rfl⟩
  · exact mx_symb b2 (br_t rfl (my_plcg g1 (br_t rfl (my_symb b2 (br_f mm_10 ⟨rfl, mm_rel hl hb hz⟩)))))
  have hv : vp_in (nI p) 7 := vp_in_nI g1 (by decide)
  refine mx_symg g2 (br_f mm_10 ⟨hv, nm_e ⟨hv, nm_e ?_⟩⟩)
  exact my_plcg g1 (br_t rfl (my_symg g2 (br_t rfl ⟨hv, nm_e ⟨hv, nm_e ⟨rfl, mm_rel (mm_wd_u hl _ g2) hb hz⟩⟩⟩)))
theorem i_vc_lose {k : Nat} {u : SX} {v : SY} (I : i_Rel k u v) (hk : k + 4 ≤ 2048) (v1 : Int32) (v2 : Int32) : wpX_lose (fun r u' => wpY_lose (fun r' v' => r' = r ∧ i_Rel (k + 4) u' v') v v1 (lw_bz v2)) u v1 (lw_bz v2) := by
  obtain ⟨l, m, c, z, d, rfl, rfl, hl, hb, hz⟩ := I
  unfold wpX_lose wpY_lose
  dsimp only
  rcases mm_plc v1 with b1 | ⟨p, g1, rfl⟩
  · exact mx_plcb b1 (br_t rfl (my_plcb b1 (br_f mm_10 ⟨rfl, mm_rel hl hb hz⟩)))
  have hv : vp_in (nI p) 7 := vp_in_nI g1 (by decide)
  have hn : vp_nar .boolean (lw_bz v2) = 0 ∨ vp_nar .boolean (lw_bz v2) = 1 := by rw [mm_narb]; exact lw_bz_01 v2
  have R : i_Rel (k + 4) (l, upd m (nI p).toNatClampNeg (vp_nar .boolean (lw_bz v2)), c) (l, upd m (nI p).toNatClampNeg (vp_nar .boolean (lw_bz v2)), z, d) := mm_rel hl (mm_bo_u hb _ hn) hz
  refine mx_plcg g1 (br_f mm_10 ⟨hv, ?_⟩)
  by_cases q : m (nI p).toNatClampNeg = 0
  · refine br_t q ⟨hv, nm_e ?_⟩
    exact my_plcg g1 (br_t rfl ⟨hv, nm_e ⟨hv, nm_e (br_t q ⟨rfl, R⟩)⟩⟩)
  · refine br_f q ⟨hv, nm_e ?_⟩
    exact my_plcg g1 (br_t rfl ⟨hv, nm_e ⟨hv, nm_e (br_f q ⟨rfl, R⟩)⟩⟩)
theorem i_vc_at {k : Nat} {u : SX} {v : SY} (I : i_Rel k u v) (hk : k + 4 ≤ 2048) (v1 : Int32) : wpX_at (fun r => wpY_at (fun r' => r' = r ∧ i_Rel (k + 4) u v) v v1) u v1 := by
  obtain ⟨l, m, c, z, d, rfl, rfl, hl, hb, hz⟩ := I
  unfold wpX_at wpY_at
  dsimp only
  rcases mm_plc v1 with b1 | ⟨p, g1, rfl⟩
  · exact mx_plcb b1 (br_t rfl (my_plcb b1 (br_f mm_10 ⟨rfl, mm_rel hl hb hz⟩)))
  have hv : vp_in (nI p) 7 := vp_in_nI g1 (by decide)
  exact mx_plcg g1 (br_f mm_10 ⟨hv, my_plcg g1 (br_t rfl ⟨hv, rfl, mm_rel hl hb hz⟩)⟩)
theorem i_vc_fits {k : Nat} {u : SX} {v : SY} (I : i_Rel k u v) (hk : k + 4 ≤ 2048) : wpX_fits (fun r u' => wpY_fits (fun r' v' => r' = r ∧ i_Rel (k + 4) u' v') v) u := by
  obtain ⟨l, m, c, z, d, rfl, rfl, hl, hb, hz⟩ := I
  unfold wpX_fits wpY_fits
  dsimp only
  refine mx_find (fun c' hc hf => ?_) (fun hn c' => ?_)
  · refine br_f (mm_ne1 _ (Nat.lt_succ_of_le (mm_ct_le _ 7))) ?_
    exact my_find hz (fun d' hd hf' => br_f mm_10 ⟨rfl, mm_rel hl hb hz⟩) (fun hn => absurd hf (hn c' hc))
  · refine br_t rfl ?_
    exact my_find hz (fun d' hd hf' => absurd hf' (hn d' hd)) (fun _ d' => br_t rfl ⟨rfl, mm_rel hl hb hz⟩)
theorem i_vc_mended {k : Nat} {u : SX} {v : SY} (I : i_Rel k u v) (hk : k + 4 ≤ 2048) (v1 : Int32) : wpX_mended (fun r u' => wpY_mended (fun r' v' => r' = r ∧ i_Rel (k + 4) u' v') v v1) u v1 := by
  obtain ⟨l, m, c, z, d, rfl, rfl, hl, hb, hz⟩ := I
  unfold wpX_mended wpY_mended
  dsimp only
  rcases mm_plc v1 with b1 | ⟨p, g1, rfl⟩
  · exact mx_plcb b1 (br_t rfl (my_plcb b1 (br_f mm_10 ⟨rfl, mm_rel hl hb hz⟩)))
  have hv : vp_in (nI p) 7 := vp_in_nI g1 (by decide)
  have hc1 := mm_cl (i := p) (by omega)
  refine mx_plcg g1 (br_f mm_10 ?_)
  refine mx_find (fun c' hc hf => ?_) (fun hn c' => ?_)
  · refine br_f (mm_ne1 _ (Nat.lt_succ_of_le (mm_ct_le _ 7))) ⟨hv, my_plcg g1 (br_t rfl ?_)⟩
    refine my_find hz (fun d' hd hf' => br_f mm_10 ⟨hv, ?_, mm_rel hl hb hz⟩) (fun hn => absurd hf (hn c' hc))
    rw [hc1]
    exact mm_uniq hd hc hf' hf p g1
  · refine br_t rfl (my_plcg g1 (br_t rfl ?_))
    exact my_find hz (fun d' hd hf' => absurd hf' (hn d' hd)) (fun _ d' => br_t rfl ⟨rfl, mm_rel hl hb hz⟩)
theorem i_vc_wrong {k : Nat} {u : SX} {v : SY} (I : i_Rel k u v) (hk : k + 4 ≤ 2048) : wpX_wrong (fun r u' => wpY_wrong (fun r' v' => r' = r ∧ i_Rel (k + 4) u' v') v) u := by
  obtain ⟨l, m, c, z, d, rfl, rfl, hl, hb, hz⟩ := I
  unfold wpX_wrong wpY_wrong
  dsimp only
  refine mx_find (fun c' hc hf => ?_) (fun hn c' => ?_)
  · refine my_find hz (fun d' hd hf' => br_f mm_10 (my_diff ⟨?_, mm_rel hl hb hz⟩)) (fun hn => absurd hf (hn c' hc))
    rw [mm_dif_congr (mm_uniq hd hc hf' hf)]
  · exact my_find hz (fun d' hd hf' => absurd hf' (hn d' hd)) (fun _ d' => br_t rfl ⟨rfl, mm_rel hl hb hz⟩)
theorem i_vc_mend {k : Nat} {u : SX} {v : SY} (I : i_Rel k u v) (hk : k + 4 ≤ 2048) : wpX_mend (fun r u' => wpY_mend (fun r' v' => r' = r ∧ i_Rel (k + 4) u' v') v) u := by
  obtain ⟨l, m, c, z, d, rfl, rfl, hl, hb, hz⟩ := I
  unfold wpX_mend wpY_mend
  dsimp only
  refine mx_find (fun c' hc hf => ?_) (fun hn c' => ?_)
  · refine br_f (mm_ne1 _ (Nat.lt_succ_of_le (mm_ct_le _ 7))) (mx_put ?_)
    refine my_find hz (fun d' hd hf' => br_f mm_10 (my_take ⟨rfl, ?_⟩)) (fun hn => absurd hf (hn c' hc))
    rw [mm_ow_congr (g := l) (mm_uniq hd hc hf' hf)]
    exact mm_rel (mm_wd_c hc) (mm_bo_0 m) hz
  · refine br_t rfl ?_
    exact my_find hz (fun d' hd hf' => absurd hf' (hn d' hd)) (fun _ d' => br_t rfl ⟨rfl, mm_rel hl hb hz⟩)
theorem i_vc_product {k : Nat} {u : SX} {v : SY} (I : i_Rel k u v) (hk : k + 4 ≤ 2048) (v1 : Int32) (v2 : Int32) : wpX_product (fun r => wpY_product (fun r' => r' = r ∧ i_Rel (k + 4) u v) v v1 v2) u v1 v2 := by
  obtain ⟨l, m, c, z, d, rfl, rfl, hl, hb, hz⟩ := I
  unfold wpX_product wpY_product
  dsimp only
  rcases mm_sym v1 with b1 | ⟨a1, g1, rfl⟩
  · exact mx_symb b1 (br_t rfl (my_symb b1 (br_f mm_10 ⟨rfl, mm_rel hl hb hz⟩)))
  refine mx_symg g1 (br_f mm_10 ?_)
  rcases mm_sym v2 with b2 | ⟨a2, g2, rfl⟩
  · exact mx_symb b2 (br_t rfl (my_symg g1 (br_t rfl (my_symb b2 (br_f mm_10 ⟨rfl, mm_rel hl hb hz⟩)))))
  refine mx_symg g2 (br_f mm_10 (mx_times a1 a2 g1 g2 ?_))
  exact my_symg g1 (br_t rfl (my_symg g2 (br_t rfl (my_mul a1 a2 g1 g2 ⟨rfl, mm_rel hl hb hz⟩))))
theorem i_vc_value {k : Nat} {u : SX} {v : SY} (I : i_Rel k u v) (hk : k + 4 ≤ 2048) (v1 : Int32) : wpX_value (fun r => wpY_value (fun r' => r' = r ∧ i_Rel (k + 4) u v) v v1) u v1 := by
  obtain ⟨l, m, c, z, d, rfl, rfl, hl, hb, hz⟩ := I
  unfold wpX_value wpY_value
  dsimp only
  rcases mm_sym v1 with b1 | ⟨s, g1, rfl⟩
  · exact mx_symb b1 (br_t rfl (my_symb b1 (br_f mm_10 ⟨rfl, mm_rel hl hb hz⟩)))
  obtain ⟨w, hw⟩ := mm_wd_w hl
  refine mx_symg g1 (br_f mm_10 (mx_val g1 hw ?_))
  exact my_symg g1 (br_t rfl (my_val g1 hw ⟨congrArg nI (mm_val (fun j hj => (hw j hj).1) g1), mm_rel hl hb hz⟩))
end
