/-! the component's counts, its search and its value -/
theorem mm_mis0 {m : Nat → Int32} {i : Nat} (z : m i = 0) : mm_ct (mm_mis m) (i + 1) = mm_ct (mm_mis m) i := by
  rw [mm_ct]
  simp [mm_mis, z]
theorem mm_mis1 {m : Nat → Int32} {i : Nat} (z : ¬ m i = 0) : mm_ct (mm_mis m) (i + 1) = mm_ct (mm_mis m) i + 1 := by
  rw [mm_ct]
  simp [mm_mis, z]
theorem mm_dif0 {m l c : Nat → Int32} {i : Nat} (z : ¬ m i = 0) : mm_ct (mm_dif m l c) (i + 1) = mm_ct (mm_dif m l c) i := by
  rw [mm_ct]
  simp [mm_dif, z]
theorem mm_dif1 {m l c : Nat → Int32} {i : Nat} (e : c i = l i) : mm_ct (mm_dif m l c) (i + 1) = mm_ct (mm_dif m l c) i := by
  rw [mm_ct]
  simp [mm_dif, e]
theorem mm_dif2 {m l c : Nat → Int32} {i : Nat} (z : m i = 0) (e : ¬ c i = l i) : mm_ct (mm_dif m l c) (i + 1) = mm_ct (mm_dif m l c) i + 1 := by
  rw [mm_ct]
  simp [mm_dif, z, e]
theorem mx_cm {post : Int32 → Prop} {l m c : Nat → Int32} (h : post (nI (mm_ct (mm_mis m) 7))) : wpX_countMissing post (l, m, c) := by
  unfold wpX_countMissing
  dsimp only
  refine loop_0 (σ := Unit) (fun n i _ => wX_countMissing_4 post l m c n (nI (mm_ct (mm_mis m) i)) (nI i)) (fun _ _ => True) 7 () trivial ?_ ?_
  · intro n _ _
    exact br_t (by decide) h
  · intro n i _ hi _ ih
    have hv : vp_in (nI i) 7 := vp_in_nI hi (by decide)
    have hc := mm_cl (i := i) (by omega)
    have ih := ih () trivial
    refine br_f (mm_lt7 i hi).2.2.2.1 ⟨hv, ?_⟩
    by_cases z : m i = 0
    · rw [mm_mis0 z] at ih
      exact br_t (by rw [hc]; exact z) (nm_r (nI_1 i) ih)
    · rw [mm_mis1 z] at ih
      exact br_f (by rw [hc]; exact z) (nm_r (nI_1 _) (nm_r (nI_1 i) ih))
theorem mx_cd {post : Int32 → Prop} {l m c : Nat → Int32} (h : post (nI (mm_ct (mm_dif m l c) 7))) : wpX_countDiffering post (l, m, c) := by
  unfold wpX_countDiffering
  dsimp only
  refine loop_0 (σ := Unit) (fun n i _ => wX_countDiffering_4 post l m c n (nI (mm_ct (mm_dif m l c) i)) (nI i)) (fun _ _ => True) 7 () trivial ?_ ?_
  · intro n _ _
    exact br_t (by decide) h
  · intro n i _ hi _ ih
    have hv : vp_in (nI i) 7 := vp_in_nI hi (by decide)
    have hc := mm_cl (i := i) (by omega)
    have ih := ih () trivial
    refine br_f (mm_lt7 i hi).2.2.2.1 ⟨hv, ?_⟩
    by_cases z : m i = 0
    · refine br_t (by rw [hc]; exact z) ⟨hv, hv, ?_⟩
      by_cases e : c i = l i
      · rw [mm_dif1 e] at ih
        exact br_t (by rw [hc]; exact e) (nm_r (nI_1 i) ih)
      · rw [mm_dif2 z e] at ih
        exact br_f (by rw [hc]; exact e) (nm_r (nI_1 _) (nm_r (nI_1 i) ih))
    · rw [mm_dif0 z] at ih
      exact br_f (by rw [hc]; exact z) (nm_r (nI_1 i) ih)
/-- the search's branch, by whether c fits -/
theorem mm_br {A B : Prop} {m l c : Nat → Int32} (f : ¬ mm_fit m l c → A) (g : mm_fit m l c → B) :
    (4 < (2 * nI (mm_ct (mm_dif m l c) 7)) + nI (mm_ct (mm_mis m) 7) → A) ∧ (¬ 4 < (2 * nI (mm_ct (mm_dif m l c) 7)) + nI (mm_ct (mm_mis m) 7) → B) := by
  have q := mm_cmp (mm_ct_le (mm_dif m l c) 7) (mm_ct_le (mm_mis m) 7)
  refine ⟨fun h => f (fun y => Int32.not_le.mpr h (q.mpr y)), fun h => g (q.mp (Int32.not_lt.mp h))⟩
theorem mx_find {post : Int32 → SX → Prop} {l m c0 : Nat → Int32}
    (h1 : ∀ c, mm_code c → mm_fit m l c → post (nI (mm_ct (mm_dif m l c) 7)) (l, m, c))
    (h0 : (∀ c, mm_code c → ¬ mm_fit m l c) → ∀ c, post (-1) (l, m, c)) : wpX_findFitting post (l, m, c0) := by
  unfold wpX_findFitting
  dsimp only
  refine mx_cm ?_
  refine loop_0 (fun n i c => wX_findFitting_7 post (nI (mm_ct (mm_mis m) 7)) n (nI i) l m c)
    (fun i _ => ∀ k, k < i → ∀ c', mm_is c' (k % 8) (k / 8 % 8) (k / 64 % 8) → ¬ mm_fit m l c') 512 c0 (fun k hk => absurd hk (Nat.not_lt_zero k)) ?_ ?_
  · intro n c I
    refine br_t (by decide) (h0 ?_ c)
    rintro c' ⟨a, b, d, ha, hb, hd, h⟩
    refine I (a + 8 * b + 64 * d) (by omega) c' ?_
    rw [show (a + 8 * b + 64 * d) % 8 = a from by omega, show (a + 8 * b + 64 * d) / 8 % 8 = b from by omega, show (a + 8 * b + 64 * d) / 64 % 8 = d from by omega]
    exact h
  · intro n i c hi I ih
    refine br_f (nI_ge (b := 512) hi (by decide)) ?_
    refine mx_write (i % 8) (i / 8 % 8) (i / 64 % 8) (by omega) (by omega) (by omega) (mm_and7 (by omega)) ?_ ?_ (fun c' hc => ?_)
    · rw [mm_s3 (by omega), mm_and7 (by omega)]
    · rw [mm_s6 (by omega), mm_and7 (by omega)]
    dsimp only
    refine mx_cd ?_
    refine mm_br (fun f => nm_r (nI_1 i) (ih c' ?_)) (fun f => h1 c' ⟨_, _, _, by omega, by omega, by omega, hc⟩ f)
    intro k hk c'' hc''
    by_cases e : k = i
    · subst e
      exact fun f' => f (mm_fit_congr (fun j hj => (hc'' j hj).trans (hc j hj).symm) f')
    · exact I k (by omega) c'' hc''
theorem mx_val {post : Int32 → Prop} {l m c : Nat → Int32} {w : Nat → Nat} {s : Nat} (hs : s < 8) (hw : ∀ j, j < 7 → w j < 8 ∧ l j = nI (w j)) (h : post (nI (mm_hz w s 7))) :
    ∃ n, wX_value_14 post (nI s) l m c n 0 6 := by
  have key : ∃ n, wX_value_14 post (nI s) l m c n (nI (mm_hz w s 0)) (nI (7 - 0) + (-1)) := by
    refine loop_0 (σ := Unit) (fun n i _ => wX_value_14 post (nI s) l m c n (nI (mm_hz w s i)) (nI (7 - i) + (-1))) (fun _ _ => True) 7 () trivial ?_ ?_
    · intro n _ _
      exact br_t (by decide) h
    · intro n i _ hi _ ih
      have ih := ih () trivial
      have e : nI (7 - i) + (-1) = nI (6 - i) := by
        rw [show 7 - i = (6 - i) + 1 from by omega]
        exact pk_m1 _
      have e2 : 7 - (i + 1) = 6 - i := by omega
      have hc := mm_cl (i := 6 - i) (by omega)
      rw [e2] at ih
      rw [e]
      refine br_f (nI_pos (by omega)) (mx_times (mm_hz w s i) s (mm_hz_lt (fun j hj => (hw j hj).1) i) hs ⟨vp_in_nI (by omega) (by decide), nm_r ?_ (nm_e ih)⟩)
      rw [hc, (hw (6 - i) (by omega)).2, nx_xor]
      rfl
  rw [show nI (7 - 0) + (-1) = 6 from by decide] at key
  exact key
