/-! the reference's counts, its search, its send and its value -/
theorem my_lost {post : Int32 → Prop} {l m z d : Nat → Int32} (h : post (nI (mm_ct (mm_mis m) 7))) : wpY_lost post (l, m, z, d) := by
  unfold wpY_lost
  dsimp only
  refine loop_0 (σ := Unit) (fun n i _ => wY_lost_4 post l m z d n (nI (mm_ct (mm_mis m) i)) (nI i)) (fun _ _ => True) 7 () trivial ?_ ?_
  · intro n _ _
    exact br_t (by decide) h
  · intro n i _ hi _ ih
    have hv : vp_in (nI i) 7 := vp_in_nI hi (by decide)
    have hc := mm_cl (i := i) (by omega)
    have ih := ih () trivial
    refine br_f (mm_lt7 i hi).2.2.2.1 ⟨hv, ?_⟩
    by_cases q : m i = 0
    · rw [mm_mis0 q] at ih
      exact br_t (by rw [hc]; exact q) (nm_r (Int32.add_zero _) (nm_r (nI_1 i) ih))
    · rw [mm_mis1 q] at ih
      exact br_f (by rw [hc]; exact q) (nm_r (nI_1 _) (nm_r (nI_1 i) ih))
theorem my_diff {post : Int32 → Prop} {l m z d : Nat → Int32} (h : post (nI (mm_ct (mm_dif m l d) 7))) : wpY_different post (l, m, z, d) := by
  unfold wpY_different
  dsimp only
  refine loop_0 (σ := Unit) (fun n i _ => wY_different_4 post l m z d n (nI (mm_ct (mm_dif m l d) i)) (nI i)) (fun _ _ => True) 7 () trivial ?_ ?_
  · intro n _ _
    exact br_t (by decide) h
  · intro n i _ hi _ ih
    have hv : vp_in (nI i) 7 := vp_in_nI hi (by decide)
    have hc := mm_cl (i := i) (by omega)
    have ih := ih () trivial
    refine br_f (mm_lt7 i hi).2.2.2.1 ⟨hv, ?_⟩
    by_cases q : m i = 0
    · refine br_t (by rw [hc]; exact q) ⟨hv, hv, ?_⟩
      by_cases e : d i = l i
      · rw [mm_dif1 e] at ih
        exact br_t (by rw [hc]; exact e.symm) (nm_r (nI_1 i) ih)
      · rw [mm_dif2 q e] at ih
        exact br_f (by rw [hc]; exact fun y => e y.symm) (nm_r (nI_1 _) (nm_r (nI_1 i) ih))
    · rw [mm_dif0 q] at ih
      exact br_f (by rw [hc]; exact q) (nm_r (nI_1 i) ih)
theorem mm_ys_code {d : Nat → Int32} {n : Nat} (hn : n < 512) (h : ∀ k, k < 7 → d k = nI (mm_ys n 3 k)) : mm_is d (mm_ys n 3 4) (mm_ys n 3 5) (mm_ys n 3 6) :=
  fun j hj => (h j hj).trans (congrArg nI (mm_ys_cw n hn j hj))
theorem my_find {post : Int32 → SY → Prop} {l m z d0 : Nat → Int32} (hz : mm_zz z)
    (h1 : ∀ d, mm_code d → mm_fit m l d → post 1 (l, m, z, d))
    (h0 : (∀ d, mm_code d → ¬ mm_fit m l d) → ∀ d, post 0 (l, m, z, d)) : wpY_find post (l, m, z, d0) := by
  unfold wpY_find
  dsimp only
  refine my_lost ?_
  refine loop_0 (fun n i d => wY_find_7 post (nI (mm_ct (mm_mis m) 7)) n (nI i) l m z d)
    (fun i _ => ∀ k, k < i → ∀ d', (∀ j, j < 7 → d' j = nI (mm_ys k 3 j)) → ¬ mm_fit m l d') 512 d0 (fun k hk => absurd hk (Nat.not_lt_zero k)) ?_ ?_
  · intro n d I
    refine br_t (by decide) (h0 ?_ d)
    rintro d' ⟨a, b, c, ha, hb, hc, h⟩
    have hq := mm_ys_q a ha b hb c hc
    exact I (mm_q a b c) hq.1 d' (fun j hj => (h j hj).trans (congrArg nI (hq.2 j hj).symm))
  · intro n i d hi I ih
    refine br_f (nI_ge (b := 512) hi (by decide)) ?_
    refine my_make hz hi (fun d' hd => ?_)
    dsimp only
    refine my_diff ?_
    refine mm_br (fun f => nm_r (nI_1 i) (ih d' ?_)) (fun f => h1 d' ⟨_, _, _, mm_ys_lt _ _ _, mm_ys_lt _ _ _, mm_ys_lt _ _ _, mm_ys_code hi hd⟩ f)
    intro k hk d'' hd''
    by_cases e : k = i
    · subst e
      exact fun f' => f (mm_fit_congr (fun j hj => (hd'' j hj).trans (hd j hj).symm) f')
    · exact I k (by omega) d'' hd''
theorem my_send {post : Int32 → SY → Prop} {l m z d0 : Nat → Int32} {a b c : Nat} (hz : mm_zz z) (ha : a < 8) (hb : b < 8) (hc : c < 8)
    (h : ∀ d', post 0 (mm_ow (fun j => nI (mm_cw a b c j)) l 7, mm_ow (fun _ => 0) m 7, z, d')) : ∃ n, wY_send_26 post (nI a) (nI b) (nI c) n 0 l m z d0 := by
  refine loop_0 (σ := (Nat → Int32) × (Nat → Int32) × (Nat → Int32)) (fun n i s => wY_send_26 post (nI a) (nI b) (nI c) n (nI i) s.1 s.2.1 z s.2.2)
    (fun i s => (s.1 = l ∧ s.2.1 = m ∧ ∀ k, k < i → ¬ (mm_ys k 3 4 = a ∧ mm_ys k 3 5 = b ∧ mm_ys k 3 6 = c)) ∨ (s.1 = mm_ow (fun j => nI (mm_cw a b c j)) l 7 ∧ s.2.1 = mm_ow (fun _ => 0) m 7))
    512 (l, m, d0) (Or.inl ⟨rfl, rfl, fun k hk => absurd hk (Nat.not_lt_zero k)⟩) ?_ ?_
  · rintro n ⟨s1, s2, s3⟩ I
    dsimp only at I ⊢
    rcases I with ⟨_, _, I⟩ | ⟨e1, e2⟩
    · exfalso
      have hq := mm_ys_q a ha b hb c hc
      have h4 := mm_cw4 a ha b hb c hc
      exact I (mm_q a b c) hq.1 ⟨(hq.2 4 (by decide)).trans h4.1, (hq.2 5 (by decide)).trans h4.2.1, (hq.2 6 (by decide)).trans h4.2.2⟩
    · rw [e1, e2]
      exact br_t (by decide) (h s3)
  · rintro n i ⟨s1, s2, s3⟩ hi I ih
    dsimp only at I ⊢
    refine br_f (nI_ge (b := 512) hi (by decide)) ?_
    refine my_make hz hi (fun d' hd => ?_)
    dsimp only
    have q4 := mm_ys_lt i 3 4
    have q5 := mm_ys_lt i 3 5
    have q6 := mm_ys_lt i 3 6
    have g4 : d' 4 = nI a ↔ mm_ys i 3 4 = a := by rw [hd 4 (by decide)]; exact nI_eq (by omega) (by omega)
    have g5 : d' 5 = nI b ↔ mm_ys i 3 5 = b := by rw [hd 5 (by decide)]; exact nI_eq (by omega) (by omega)
    have g6 : d' 6 = nI c ↔ mm_ys i 3 6 = c := by rw [hd 6 (by decide)]; exact nI_eq (by omega) (by omega)
    have no : ¬ (mm_ys i 3 4 = a ∧ mm_ys i 3 5 = b ∧ mm_ys i 3 6 = c) → wY_send_26 post (nI a) (nI b) (nI c) n (nI (i + 1)) s1 s2 z d' := by
      intro hne
      refine ih (s1, s2, d') ?_
      rcases I with ⟨e1, e2, I⟩ | I
      · refine Or.inl ⟨e1, e2, fun k hk => ?_⟩
        by_cases e : k = i
        · rw [e]; exact hne
        · exact I k (by omega)
      · exact Or.inr I
    refine ek_if g4 (fun e4 => ek_if g5 (fun e5 => ek_if g6 (fun e6 => ?_) (fun n6 => nm_r (nI_1 i) (no (fun y => n6 y.2.2)))) (fun n5 => nm_r (nI_1 i) (no (fun y => n5 y.2.1)))) (fun n4 => nm_r (nI_1 i) (no (fun y => n4 y.1)))
    refine my_take ?_
    refine nm_r (nI_1 i) (ih (mm_ow d' s1 7, mm_ow (fun _ => 0) s2 7, d') (Or.inr ?_))
    have hT : ∀ j, j < 7 → d' j = nI (mm_cw a b c j) := by
      have hy := mm_ys_code hi hd
      rw [e4, e5, e6] at hy
      exact hy
    dsimp only
    rcases I with ⟨e1, e2, _⟩ | ⟨e1, e2⟩
    · rw [e1, e2]
      exact ⟨mm_ow_congr hT, rfl⟩
    · rw [e1, e2]
      exact ⟨mm_ow_ow hT, mm_ow_ow (fun _ _ => rfl)⟩
theorem my_val {post : Int32 → Prop} {l m z d : Nat → Int32} {w : Nat → Nat} {s : Nat} (hs : s < 8) (hw : ∀ j, j < 7 → w j < 8 ∧ l j = nI (w j)) (h : post (nI (mm_sv w s 7))) :
    ∃ n, wY_value_16 post (nI s) l m z d n 0 1 0 := by
  refine loop_0 (σ := Unit) (fun n i _ => wY_value_16 post (nI s) l m z d n (nI (mm_sv w s i)) (nI (mm_pw s i)) (nI i)) (fun _ _ => True) 7 () trivial ?_ ?_
  · intro n _ _
    exact br_t (by decide) h
  · intro n i _ hi _ ih
    have hv : vp_in (nI i) 7 := vp_in_nI hi (by decide)
    have hc := mm_cl (i := i) (by omega)
    have ih := ih () trivial
    exact br_f (mm_lt7 i hi).2.2.2.1 ⟨hv, my_mul (w i) (mm_pw s i) (hw i hi).1 (mm_pw_lt s i) (nm_r (nx_xor _ _) (my_mul (mm_pw s i) s (mm_pw_lt s i) hs (nm_r (nI_1 i) ih))) (by rw [hc]; exact (hw i hi).2) rfl⟩
