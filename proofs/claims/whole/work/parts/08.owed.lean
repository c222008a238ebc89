/-- the same line, the same marks, symbols and booleans in them, and the reference's polynomial in its place -/
def i_Rel (_ : Nat) (u : SX) (v : SY) : Prop :=
  ∃ l m c z d : Nat → Int32, u = (l, m, c) ∧ v = (l, m, z, d) ∧ mm_wd l ∧ mm_bo m ∧ mm_zz z
theorem mm_rel {k : Nat} {l m c z d : Nat → Int32} (hl : mm_wd l) (hb : mm_bo m) (hz : mm_zz z) : i_Rel k (l, m, c) (l, m, z, d) := ⟨l, m, c, z, d, rfl, rfl, hl, hb, hz⟩
theorem i_up {k : Nat} {u : SX} {v : SY} (h : i_Rel k u v) : i_Rel (k + 4) u v := h
def mm_g0 (i : Nat) : Nat := if i = 0 then 1 else 0
theorem mm_gz : ∀ i, i < 5 → mm_nz (mm_nz (mm_nz (mm_nz mm_g0 2) 4) 3) 6 i = mm_z i := by decide +kernel
theorem i_vc0 : wpX_init (fun u => wpY_init (fun v => i_Rel 0 u v)) := by
  unfold wpX_init wpY_init
  refine nm_e ?_
  refine my_times (r := 2) (g := mm_g0) (by decide) ?_ (fun z1 h1 => ?_)
  · intro i hi
    unfold mm_g0
    by_cases e : i = 0
    · subst e
      rw [pk_us, if_pos rfl]
      exact ⟨by decide, rfl⟩
    · rw [pk_un e, if_neg e]
      exact ⟨by decide, rfl⟩
  dsimp only
  refine my_times (r := 4) (by decide) h1 (fun z2 h2 => ?_)
  dsimp only
  refine my_times (r := 3) (by decide) h2 (fun z3 h3 => ?_)
  dsimp only
  refine my_times (r := 6) (by decide) h3 (fun z4 h4 => ?_)
  dsimp only
  refine mm_rel (fun j _ => ⟨0, by decide, rfl⟩) (fun j _ => Or.inl rfl) (fun i hi => ?_)
  rw [(h4 i hi).2, mm_gz i hi]
theorem i_vc_send {k : Nat} {u : SX} {v : SY} (I : i_Rel k u v) (hk : k + 4 ≤ 2048) (v1 : Int32) (v2 : Int32) (v3 : Int32) : wpX_send (fun r u' => wpY_send (fun r' v' => r' = r ∧ i_Rel (k + 4) u' v') v v1 v2 v3) u v1 v2 v3 := by
  obtain ⟨l, m, c, z, d, rfl, rfl, hl, hb, hz⟩ := I
  unfold wpX_send wpY_send
  dsimp only
  rcases mm_sym v1 with b1 | ⟨a1, g1, rfl⟩
  · exact mx_symb b1 (br_t rfl (my_symb b1 (br_f mm_10 ⟨rfl, mm_rel hl hb hz⟩)))
  refine mx_symg g1 (br_f mm_10 ?_)
  rcases mm_sym v2 with b2 | ⟨a2, g2, rfl⟩
  · exact mx_symb b2 (br_t rfl (my_symg g1 (br_t rfl (my_symb b2 (br_f mm_10 ⟨rfl, mm_rel hl hb hz⟩)))))
  refine mx_symg g2 (br_f mm_10 ?_)
  rcases mm_sym v3 with b3 | ⟨a3, g3, rfl⟩
  · exact mx_symb b3 (br_t rfl (my_symg g1 (br_t rfl (my_symg g2 (br_t rfl (my_symb b3 (br_f mm_10 ⟨rfl, mm_rel hl hb hz⟩)))))))
  refine mx_symg g3 (br_f mm_10 ?_)
  refine mx_write a1 a2 a3 g1 g2 g3 rfl rfl rfl (fun c' hc => ?_)
  dsimp only
  refine mx_put ?_
  dsimp only
  refine my_symg g1 (br_t rfl (my_symg g2 (br_t rfl (my_symg g3 (br_t rfl ?_)))))
  refine my_send hz g1 g2 g3 (fun d' => ⟨rfl, ?_⟩)
  rw [← mm_ow_congr (g := l) hc]
  exact mm_rel (mm_wd_c ⟨a1, a2, a3, g1, g2, g3, hc⟩) (mm_bo_0 m) hz
theorem i_vc_change {k : Nat} {u : SX} {v : SY} (I : i_Rel k u v) (hk : k + 4 ≤ 2048) (v1 : Int32) (v2 : Int32) : wpX_change (fun r u' => wpY_change (fun r' v' => r' = r ∧ i_Rel (k + 4) u' v') v v1 v2) u v1 v2 := by
  obtain ⟨l, m, c, z, d, rfl, rfl, hl, hb, hz⟩ := I
  unfold wpX_change wpY_change
  dsimp only
  rcases mm_plc v1 with b1 | ⟨p, g1, rfl⟩
  · exact mx_plcb b1 (br_t rfl (my_plcb b1 (br_f mm_10 ⟨rfl, mm_rel hl hb hz⟩)))
  refine mx_plcg g1 (br_f mm_10 ?_)
  rcases mm_sym v2 with b2 | ⟨s, g2, rfl⟩
  · exact mx_symb b2 (br_t rfl (my_plcg g1 (br_t rfl (my_symb b2 (br_f mm_10 ⟨rfl, mm_rel hl hb hz⟩)))))
  have hv : vp_in (nI p) 7 := vp_in_nI g1 (by decide)
  refine mx_symg g2 (br_f mm_10 ⟨hv, nm_e ⟨hv, nm_e ?_⟩⟩)
  exact my_plcg g1 (br_t rfl (my_symg g2 (br_t rfl ⟨hv, nm_e ⟨hv, nm_e ⟨rfl, mm_rel (mm_wd_u hl _ g2) hb hz⟩⟩⟩)))
theorem i_vc_lose {k : Nat} {u : SX} {v : SY} (I : i_Rel k u v) (hk : k + 4 ≤ 2048) (v1 : Int32) (v2 : Int32) : wpX_lose (fun r u' => wpY_lose (fun r' v' => r' = r ∧ i_Rel (k + 4) u' v') v v1 (lw_bz v2)) u v1 (lw_bz v2) := by
  obtain ⟨l, m, c, z, d, rfl, rfl, hl, hb, hz⟩ := I
  unfold wpX_lose wpY_lose
  dsimp only
  rcases mm_plc v1 with b1 | ⟨p, g1, rfl⟩
  · exact mx_plcb b1 (br_t rfl (my_plcb b1 (br_f mm_10 ⟨rfl, mm_rel hl hb hz⟩)))
  have hv : vp_in (nI p) 7 := vp_in_nI g1 (by decide)
  have hn : vp_nar .boolean (lw_bz v2) = 0 ∨ vp_nar .boolean (lw_bz v2) = 1 := by rw [mm_narb]; exact lw_bz_01 v2
  have R : i_Rel (k + 4) (l, upd m (nI p).toNatClampNeg (vp_nar .boolean (lw_bz v2)), c) (l, upd m (nI p).toNatClampNeg (vp_nar .boolean (lw_bz v2)), z, d) := mm_rel hl (mm_bo_u hb _ hn) hz
  refine mx_plcg g1 (br_f mm_10 ⟨hv, ?_⟩)
  by_cases q : m (nI p).toNatClampNeg = 0
  · refine br_t q ⟨hv, nm_e ?_⟩
    exact my_plcg g1 (br_t rfl ⟨hv, nm_e ⟨hv, nm_e (br_t q ⟨rfl, R⟩)⟩⟩)
  · refine br_f q ⟨hv, nm_e ?_⟩
    exact my_plcg g1 (br_t rfl ⟨hv, nm_e ⟨hv, nm_e (br_f q ⟨rfl, R⟩)⟩⟩)
theorem i_vc_at {k : Nat} {u : SX} {v : SY} (I : i_Rel k u v) (hk : k + 4 ≤ 2048) (v1 : Int32) : wpX_at (fun r => wpY_at (fun r' => r' = r ∧ i_Rel (k + 4) u v) v v1) u v1 := by
  obtain ⟨l, m, c, z, d, rfl, rfl, hl, hb, hz⟩ := I
  unfold wpX_at wpY_at
  dsimp only
  rcases mm_plc v1 with b1 | ⟨p, g1, rfl⟩
  · exact mx_plcb b1 (br_t rfl (my_plcb b1 (br_f mm_10 ⟨rfl, mm_rel hl hb hz⟩)))
  have hv : vp_in (nI p) 7 := vp_in_nI g1 (by decide)
  exact mx_plcg g1 (br_f mm_10 ⟨hv, my_plcg g1 (br_t rfl ⟨hv, rfl, mm_rel hl hb hz⟩)⟩)
theorem i_vc_fits {k : Nat} {u : SX} {v : SY} (I : i_Rel k u v) (hk : k + 4 ≤ 2048) : wpX_fits (fun r u' => wpY_fits (fun r' v' => r' = r ∧ i_Rel (k + 4) u' v') v) u := by
  obtain ⟨l, m, c, z, d, rfl, rfl, hl, hb, hz⟩ := I
  unfold wpX_fits wpY_fits
  dsimp only
  refine mx_find (fun c' hc hf => ?_) (fun hn c' => ?_)
  · refine br_f (mm_ne1 _ (Nat.lt_succ_of_le (mm_ct_le _ 7))) ?_
    exact my_find hz (fun d' hd hf' => br_f mm_10 ⟨rfl, mm_rel hl hb hz⟩) (fun hn => absurd hf (hn c' hc))
  · refine br_t rfl ?_
    exact my_find hz (fun d' hd hf' => absurd hf' (hn d' hd)) (fun _ d' => br_t rfl ⟨rfl, mm_rel hl hb hz⟩)
theorem i_vc_mended {k : Nat} {u : SX} {v : SY} (I : i_Rel k u v) (hk : k + 4 ≤ 2048) (v1 : Int32) : wpX_mended (fun r u' => wpY_mended (fun r' v' => r' = r ∧ i_Rel (k + 4) u' v') v v1) u v1 := by
  obtain ⟨l, m, c, z, d, rfl, rfl, hl, hb, hz⟩ := I
  unfold wpX_mended wpY_mended
  dsimp only
  rcases mm_plc v1 with b1 | ⟨p, g1, rfl⟩
  · exact mx_plcb b1 (br_t rfl (my_plcb b1 (br_f mm_10 ⟨rfl, mm_rel hl hb hz⟩)))
  have hv : vp_in (nI p) 7 := vp_in_nI g1 (by decide)
  have hc1 := mm_cl (i := p) (by omega)
  refine mx_plcg g1 (br_f mm_10 ?_)
  refine mx_find (fun c' hc hf => ?_) (fun hn c' => ?_)
  · refine br_f (mm_ne1 _ (Nat.lt_succ_of_le (mm_ct_le _ 7))) ⟨hv, my_plcg g1 (br_t rfl ?_)⟩
    refine my_find hz (fun d' hd hf' => br_f mm_10 ⟨hv, ?_, mm_rel hl hb hz⟩) (fun hn => absurd hf (hn c' hc))
    rw [hc1]
    exact mm_uniq hd hc hf' hf p g1
  · refine br_t rfl (my_plcg g1 (br_t rfl ?_))
    exact my_find hz (fun d' hd hf' => absurd hf' (hn d' hd)) (fun _ d' => br_t rfl ⟨rfl, mm_rel hl hb hz⟩)
theorem i_vc_wrong {k : Nat} {u : SX} {v : SY} (I : i_Rel k u v) (hk : k + 4 ≤ 2048) : wpX_wrong (fun r u' => wpY_wrong (fun r' v' => r' = r ∧ i_Rel (k + 4) u' v') v) u := by
  obtain ⟨l, m, c, z, d, rfl, rfl, hl, hb, hz⟩ := I
  unfold wpX_wrong wpY_wrong
  dsimp only
  refine mx_find (fun c' hc hf => ?_) (fun hn c' => ?_)
  · refine my_find hz (fun d' hd hf' => br_f mm_10 (my_diff ⟨?_, mm_rel hl hb hz⟩)) (fun hn => absurd hf (hn c' hc))
    rw [mm_dif_congr (mm_uniq hd hc hf' hf)]
  · exact my_find hz (fun d' hd hf' => absurd hf' (hn d' hd)) (fun _ d' => br_t rfl ⟨rfl, mm_rel hl hb hz⟩)
theorem i_vc_mend {k : Nat} {u : SX} {v : SY} (I : i_Rel k u v) (hk : k + 4 ≤ 2048) : wpX_mend (fun r u' => wpY_mend (fun r' v' => r' = r ∧ i_Rel (k + 4) u' v') v) u := by
  obtain ⟨l, m, c, z, d, rfl, rfl, hl, hb, hz⟩ := I
  unfold wpX_mend wpY_mend
  dsimp only
  refine mx_find (fun c' hc hf => ?_) (fun hn c' => ?_)
  · refine br_f (mm_ne1 _ (Nat.lt_succ_of_le (mm_ct_le _ 7))) (mx_put ?_)
    refine my_find hz (fun d' hd hf' => br_f mm_10 (my_take ⟨rfl, ?_⟩)) (fun hn => absurd hf (hn c' hc))
    rw [mm_ow_congr (g := l) (mm_uniq hd hc hf' hf)]
    exact mm_rel (mm_wd_c hc) (mm_bo_0 m) hz
  · refine br_t rfl ?_
    exact my_find hz (fun d' hd hf' => absurd hf' (hn d' hd)) (fun _ d' => br_t rfl ⟨rfl, mm_rel hl hb hz⟩)
theorem i_vc_product {k : Nat} {u : SX} {v : SY} (I : i_Rel k u v) (hk : k + 4 ≤ 2048) (v1 : Int32) (v2 : Int32) : wpX_product (fun r => wpY_product (fun r' => r' = r ∧ i_Rel (k + 4) u v) v v1 v2) u v1 v2 := by
  obtain ⟨l, m, c, z, d, rfl, rfl, hl, hb, hz⟩ := I
  unfold wpX_product wpY_product
  dsimp only
  rcases mm_sym v1 with b1 | ⟨a1, g1, rfl⟩
  · exact mx_symb b1 (br_t rfl (my_symb b1 (br_f mm_10 ⟨rfl, mm_rel hl hb hz⟩)))
  refine mx_symg g1 (br_f mm_10 ?_)
  rcases mm_sym v2 with b2 | ⟨a2, g2, rfl⟩
  · exact mx_symb b2 (br_t rfl (my_symg g1 (br_t rfl (my_symb b2 (br_f mm_10 ⟨rfl, mm_rel hl hb hz⟩)))))
  refine mx_symg g2 (br_f mm_10 (mx_times a1 a2 g1 g2 ?_))
  exact my_symg g1 (br_t rfl (my_symg g2 (br_t rfl (my_mul a1 a2 g1 g2 ⟨rfl, mm_rel hl hb hz⟩))))
theorem i_vc_value {k : Nat} {u : SX} {v : SY} (I : i_Rel k u v) (hk : k + 4 ≤ 2048) (v1 : Int32) : wpX_value (fun r => wpY_value (fun r' => r' = r ∧ i_Rel (k + 4) u v) v v1) u v1 := by
  obtain ⟨l, m, c, z, d, rfl, rfl, hl, hb, hz⟩ := I
  unfold wpX_value wpY_value
  dsimp only
  rcases mm_sym v1 with b1 | ⟨s, g1, rfl⟩
  · exact mx_symb b1 (br_t rfl (my_symb b1 (br_f mm_10 ⟨rfl, mm_rel hl hb hz⟩)))
  obtain ⟨w, hw⟩ := mm_wd_w hl
  refine mx_symg g1 (br_f mm_10 (mx_val g1 hw ?_))
  exact my_symg g1 (br_t rfl (my_val g1 hw ⟨congrArg nI (mm_val (fun j hj => (hw j hj).1) g1), mm_rel hl hb hz⟩))
