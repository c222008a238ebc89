/-! the component's walks, each against its picture -/
theorem mm_10 : ¬ (1 : Int32) = 0 := by decide
theorem mm_nar0 : vp_nar .boolean 0 = 0 := by decide
theorem mm_narb (v : Int32) : vp_nar .boolean (lw_bz v) = lw_bz v := by
  rcases lw_bz_01 v with h | h <;> rw [h] <;> decide
theorem mm_ne1 : ∀ d, d < 8 → ¬ nI d = -1 := by decide +kernel
theorem mm_cl {i : Nat} (h : i < 512) : (nI i).toNatClampNeg = i := nI_clamp (by omega)
theorem mx_symb {post : Int32 → Prop} {x : Int32} (hb : mm_bs x) (h : post 0) : wpX_isSymbol post x := by
  unfold wpX_isSymbol
  rcases hb with hb | hb
  · exact br_t hb h
  · exact br_f (mm_ge8 hb).1 (br_t (mm_ge8 hb).2.2.1 h)
theorem mx_symg {post : Int32 → Prop} {j : Nat} (hj : j < 8) (h : post 1) : wpX_isSymbol post (nI j) := by
  unfold wpX_isSymbol
  exact br_f (mm_lt8 j hj).1 (br_f (mm_lt8 j hj).2.2.2.1 h)
theorem mx_plcb {post : Int32 → Prop} {x : Int32} (hb : mm_bp x) (h : post 0) : wpX_isPlace post x := by
  unfold wpX_isPlace
  rcases hb with hb | hb
  · exact br_t hb h
  · exact br_f (mm_ge7 hb).1 (br_t (mm_ge7 hb).2.2.1 h)
theorem mx_plcg {post : Int32 → Prop} {j : Nat} (hj : j < 7) (h : post 1) : wpX_isPlace post (nI j) := by
  unfold wpX_isPlace
  exact br_f (mm_lt7 j hj).1 (br_f (mm_lt7 j hj).2.2.2.1 h)
/-- the doubled sum, brought below 8 -/
def mm_t1 (s : Int32) : Int32 := if (s <<< ((1 : Int32) &&& 31)) &&& 8 = 0 then s <<< ((1 : Int32) &&& 31) else (s <<< ((1 : Int32) &&& 31)) ^^^ 11
/-- one turn of the component's product -/
def mm_ts (a b s p : Int32) : Int32 := if ((b >>> (p &&& 31)) &&& 1) = 0 then mm_t1 s else mm_t1 s ^^^ a
theorem mx_t24 {post : Int32 → Prop} {J : Int32 → Int32 → Prop} {x0 x1 x2 x3 : Int32} (h : J (if ((x1 >>> (x3 &&& 31)) &&& 1) = 0 then x2 else x2 ^^^ x0) (x3 + (-1))) :
    wX_times_24 post J x0 x1 x2 x3 := by
  unfold wX_times_24
  by_cases c : ((x1 >>> (x3 &&& 31)) &&& 1) = 0
  · rw [if_pos c] at h
    exact br_t c (nm_e h)
  · rw [if_neg c] at h
    exact br_f c (nm_e (nm_e h))
theorem mx_t4 {post : Int32 → Prop} {a b s p : Int32} {n : Nat} (hp : ¬ p < 0) (h : wX_times_4 post a b n (mm_ts a b s p) (p + (-1))) : wX_times_4 post a b (n + 1) s p := by
  refine br_f hp (nm_e ?_)
  unfold mm_ts mm_t1 at h
  by_cases c : (s <<< ((1 : Int32) &&& 31)) &&& 8 = 0
  · rw [if_pos c] at h
    exact br_t c (mx_t24 h)
  · rw [if_neg c] at h
    exact br_f c (nm_e (mx_t24 h))
theorem mm_T : ∀ a, a < 8 → ∀ b, b < 8 → mm_ts (nI a) (nI b) (mm_ts (nI a) (nI b) (mm_ts (nI a) (nI b) 0 2) (2 + (-1))) (2 + (-1) + (-1)) = nI (mm_mu a b) := by decide +kernel
theorem mx_times {post : Int32 → Prop} {x y : Int32} (a b : Nat) (ha : a < 8) (hb : b < 8) (h : post (nI (mm_mu a b))) (hx : x = nI a := by rfl) (hy : y = nI b := by rfl) : wpX_times post x y := by
  subst hx hy
  rw [← mm_T a ha b hb] at h
  exact Exists.intro 4 (mx_t4 (by decide) (mx_t4 (by decide) (mx_t4 (by decide) (br_t (by decide) h))))
/-- c begins with the four symbols w -/
def mm_c4 (c : Nat → Int32) (w : Nat × Nat × Nat × Nat) : Prop :=
  (c 0 = nI w.1 ∧ w.1 < 8) ∧ (c 1 = nI w.2.1 ∧ w.2.1 < 8) ∧ (c 2 = nI w.2.2.1 ∧ w.2.2.1 < 8) ∧ (c 3 = nI w.2.2.2 ∧ w.2.2.2 < 8)
theorem mx_div {post : SX → Prop} {l m c : Nat → Int32} {w : Nat × Nat × Nat × Nat} {s : Nat} (hw : mm_c4 c w) (hs : s < 8)
    (h : ∀ c', mm_c4 c' (mm_dv w s) → post (l, m, c')) : wpX_divideIn post (l, m, c) (nI s) := by
  obtain ⟨w0, w1, w2, w3⟩ := w
  obtain ⟨⟨h0, q0⟩, ⟨h1, q1⟩, ⟨h2, q2⟩, ⟨h3, q3⟩⟩ := hw
  dsimp only at h0 q0 h1 q1 h2 q2 h3 q3
  have ql : w3 ^^^ s < 8 := mm_x8 q3 hs
  unfold wpX_divideIn
  dsimp only
  refine nm_r (e' := nI (w3 ^^^ s)) (by rw [h3, nx_xor]) ?_
  refine mx_times (w3 ^^^ s) 3 ql (by decide) ?_
  intro c1 e1
  refine mx_times (w3 ^^^ s) 1 ql (by decide) ?_
  intro c2 e2
  refine mx_times (w3 ^^^ s) 2 ql (by decide) ?_
  intro c3 e3
  refine mx_times (w3 ^^^ s) 3 ql (by decide) ?_
  intro c4 e4
  have a0 : c1 0 = nI w0 := by rw [e1, pk_un (by decide), h0]
  have a1 : c1 1 = nI w1 := by rw [e1, pk_un (by decide), h1]
  have a3 : c1 3 = nI (w2 ^^^ mm_mu (w3 ^^^ s) 3) := by rw [e1, pk_us, h2, nx_xor]
  have b0 : c2 0 = nI w0 := by rw [e2, pk_un (by decide), a0]
  have b2 : c2 2 = nI (w1 ^^^ mm_mu (w3 ^^^ s) 1) := by rw [e2, pk_us, a1, nx_xor]
  have b3 : c2 3 = nI (w2 ^^^ mm_mu (w3 ^^^ s) 3) := by rw [e2, pk_un (by decide), a3]
  have d1 : c3 1 = nI (w0 ^^^ mm_mu (w3 ^^^ s) 2) := by rw [e3, pk_us, b0, nx_xor]
  have d2 : c3 2 = nI (w1 ^^^ mm_mu (w3 ^^^ s) 1) := by rw [e3, pk_un (by decide), b2]
  have d3 : c3 3 = nI (w2 ^^^ mm_mu (w3 ^^^ s) 3) := by rw [e3, pk_un (by decide), b3]
  apply h
  refine ⟨⟨?_, mm_mu_lt _ _⟩, ⟨?_, mm_x8 q0 (mm_mu_lt _ _)⟩, ⟨?_, mm_x8 q1 (mm_mu_lt _ _)⟩, ⟨?_, mm_x8 q2 (mm_mu_lt _ _)⟩⟩
  · show c4 0 = nI (mm_mu (w3 ^^^ s) 3)
    rw [e4, pk_us]
  · show c4 1 = nI (w0 ^^^ mm_mu (w3 ^^^ s) 2)
    rw [e4, pk_un (by decide), d1]
  · show c4 2 = nI (w1 ^^^ mm_mu (w3 ^^^ s) 1)
    rw [e4, pk_un (by decide), d2]
  · show c4 3 = nI (w2 ^^^ mm_mu (w3 ^^^ s) 3)
    rw [e4, pk_un (by decide), d3]
theorem mx_write {post : SX → Prop} {l m c : Nat → Int32} {x y t : Int32} (a b d : Nat) (ha : a < 8) (hb : b < 8) (hd : d < 8) (hx : x = nI a) (hy : y = nI b) (ht : t = nI d)
    (h : ∀ c', mm_is c' a b d → post (l, m, c')) : wpX_writeCodeWord post (l, m, c) x y t := by
  subst hx hy ht
  unfold wpX_writeCodeWord
  dsimp only
  intro c1 e1 c2 e2 c3 e3 c4 e4
  have z : mm_c4 c4 (0, 0, 0, 0) := by
    refine ⟨⟨?_, by decide⟩, ⟨?_, by decide⟩, ⟨?_, by decide⟩, ⟨?_, by decide⟩⟩
    · rw [e4, pk_un (by decide), e3, pk_un (by decide), e2, pk_un (by decide), e1, pk_us]; rfl
    · rw [e4, pk_un (by decide), e3, pk_un (by decide), e2, pk_us]; rfl
    · rw [e4, pk_un (by decide), e3, pk_us]; rfl
    · rw [e4, pk_us]; rfl
  refine mx_div z hd (fun c5 h5 => ?_)
  dsimp only
  refine mx_div h5 hb (fun c6 h6 => ?_)
  dsimp only
  refine mx_div h6 ha (fun c7 h7 => ?_)
  dsimp only
  intro c8 e8 c9 e9 c10 e10
  obtain ⟨⟨g0, _⟩, ⟨g1, _⟩, ⟨g2, _⟩, ⟨g3, _⟩⟩ := h7
  rw [mm_dv30 a ha b hb d hd] at g0
  rw [mm_dv31 a ha b hb d hd] at g1
  rw [mm_dv32 a ha b hb d hd] at g2
  rw [mm_dv33 a ha b hb d hd] at g3
  apply h
  intro j hj
  have hj' : j = 0 ∨ j = 1 ∨ j = 2 ∨ j = 3 ∨ j = 4 ∨ j = 5 ∨ j = 6 := by omega
  rcases hj' with rfl | rfl | rfl | rfl | rfl | rfl | rfl
  · rw [e10, pk_un (by decide), e9, pk_un (by decide), e8, pk_un (by decide), g0]
  · rw [e10, pk_un (by decide), e9, pk_un (by decide), e8, pk_un (by decide), g1]
  · rw [e10, pk_un (by decide), e9, pk_un (by decide), e8, pk_un (by decide), g2]
  · rw [e10, pk_un (by decide), e9, pk_un (by decide), e8, pk_un (by decide), g3]
  · rw [e10, pk_un (by decide), e9, pk_un (by decide), e8, pk_us, (mm_cw4 a ha b hb d hd).1]
  · rw [e10, pk_un (by decide), e9, pk_us, (mm_cw4 a ha b hb d hd).2.1]
  · rw [e10, pk_us, (mm_cw4 a ha b hb d hd).2.2]
theorem mx_put {post : SX → Prop} {l m c : Nat → Int32} (h : post (mm_ow c l 7, mm_ow (fun _ => 0) m 7, c)) : wpX_putCodeWordOnLine post (l, m, c) := by
  unfold wpX_putCodeWordOnLine
  dsimp only
  have key : ∃ n, wX_putCodeWordOnLine_2 post n (nI 0) (mm_ow c l 0) (mm_ow (fun _ => 0) m 0) c := by
    refine loop_0 (σ := Unit) (fun n i _ => wX_putCodeWordOnLine_2 post n (nI i) (mm_ow c l i) (mm_ow (fun _ => 0) m i) c) (fun _ _ => True) 7 () trivial ?_ ?_
    · intro n _ _
      exact br_t (by decide) h
    · intro n i _ hi _ ih
      have hv : vp_in (nI i) 7 := vp_in_nI hi (by decide)
      have hc := mm_cl (i := i) (by omega)
      refine br_f (mm_lt7 i hi).2.2.2.1 ⟨hv, hv, nm_r (e' := mm_ow c l (i + 1)) ?_ ⟨hv, nm_r (e' := mm_ow (fun _ => 0) m (i + 1)) ?_ (nm_r (nI_1 i) (ih () trivial))⟩⟩
      · rw [hc]
        exact mm_ow_s _ _ _ rfl
      · rw [hc]
        exact mm_ow_s _ _ _ mm_nar0
  rw [mm_ow_0, mm_ow_0] at key
  exact key
