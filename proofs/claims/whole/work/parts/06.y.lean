/-! the reference's walks, each against its picture -/
theorem my_symb {post : Int32 → Prop} {x : Int32} (hb : mm_bs x) (h : post 1) : wpY_badSymbol post x := by
  unfold wpY_badSymbol
  rcases hb with hb | hb
  · exact br_t hb h
  · exact br_f (mm_ge8 hb).1 (br_f (mm_ge8 hb).2.2.2.2 h)
theorem my_symg {post : Int32 → Prop} {j : Nat} (hj : j < 8) (h : post 0) : wpY_badSymbol post (nI j) := by
  unfold wpY_badSymbol
  exact br_f (mm_lt8 j hj).1 (br_t (mm_lt8 j hj).2.2.2.2.2 h)
theorem my_plcb {post : Int32 → Prop} {x : Int32} (hb : mm_bp x) (h : post 1) : wpY_badPlace post x := by
  unfold wpY_badPlace
  rcases hb with hb | hb
  · exact br_t hb h
  · exact br_f (mm_ge7 hb).1 (br_f (mm_ge7 hb).2.2.2.2 h)
theorem my_plcg {post : Int32 → Prop} {j : Nat} (hj : j < 7) (h : post 0) : wpY_badPlace post (nI j) := by
  unfold wpY_badPlace
  exact br_f (mm_lt7 j hj).1 (br_t (mm_lt7 j hj).2.2.2.2.2 h)
def mm_m8 (x : Int32) : Int32 := if x &&& 8 = 0 then x else (x ^^^ 8) ^^^ 3
def mm_me (s : Int32) : Int32 := mm_m8 (if s &&& 16 = 0 then s else (s ^^^ 16) ^^^ 6)
def mm_ms (a b s p : Int32) : Int32 := if ((b >>> (p &&& 31)) &&& 1) = 1 then s ^^^ (a <<< (p &&& 31)) else s
theorem my_m45 {post : Int32 → Prop} {x : Int32} (h : post (mm_m8 x)) : wY_multiplied_45 post x := by
  unfold wY_multiplied_45
  unfold mm_m8 at h
  by_cases c : x &&& 8 = 0
  · rw [if_pos c] at h
    exact br_t c h
  · rw [if_neg c] at h
    exact br_f c (nm_e h)
theorem my_m4e {post : Int32 → Prop} {a b s p : Int32} {n : Nat} (hp : 3 ≤ p) (h : post (mm_me s)) : wY_multiplied_4 post a b (n + 1) s p := by
  refine br_t hp ?_
  unfold mm_me at h
  by_cases c : s &&& 16 = 0
  · rw [if_pos c] at h
    exact br_t c (my_m45 h)
  · rw [if_neg c] at h
    exact br_f c (nm_e (my_m45 h))
theorem my_m4 {post : Int32 → Prop} {a b s p : Int32} {n : Nat} (hp : ¬ 3 ≤ p) (h : wY_multiplied_4 post a b n (mm_ms a b s p) (p + 1)) : wY_multiplied_4 post a b (n + 1) s p := by
  refine br_f hp ?_
  unfold mm_ms at h
  by_cases c : ((b >>> (p &&& 31)) &&& 1) = 1
  · rw [if_pos c] at h
    exact br_t c (nm_e (nm_e h))
  · rw [if_neg c] at h
    exact br_f c (nm_e h)
theorem mm_M : ∀ a, a < 8 → ∀ b, b < 8 → mm_me (mm_ms (nI a) (nI b) (mm_ms (nI a) (nI b) (mm_ms (nI a) (nI b) 0 0) (0 + 1)) (0 + 1 + 1)) = nI (mm_mu a b) := by decide +kernel
theorem my_mul {post : Int32 → Prop} {x y : Int32} (a b : Nat) (ha : a < 8) (hb : b < 8) (h : post (nI (mm_mu a b))) (hx : x = nI a := by rfl) (hy : y = nI b := by rfl) : wpY_multiplied post x y := by
  subst hx hy
  rw [← mm_M a ha b hb] at h
  exact Exists.intro 4 (my_m4 (by decide) (my_m4 (by decide) (my_m4 (by decide) (my_m4e (by decide) h))))
/-- what multiplying by (x + r) makes of the polynomial g -/
def mm_nz (g : Nat → Nat) (r k : Nat) : Nat := (if 0 < k then g (k - 1) else 0) ^^^ mm_mu (g k) r
theorem my_t22 {post : SY → Prop} {J : Int32 → (Nat → Int32) → (Nat → Int32) → (Nat → Int32) → (Nat → Int32) → Prop} {l m z d : Nat → Int32} {x0 : Int32} {r p b q : Nat}
    (hr : r < 8) (hp : p < 5) (hb : b < 8) (hz : z p = nI b) (hq : x0 = nI q)
    (h : J (nI p + (-1)) l m (upd z p (nI (q ^^^ mm_mu b r))) d) : wY_times_22 post J (nI r) (nI p) x0 l m z d := by
  have hc := mm_cl (i := p) (by omega)
  have hv : vp_in (nI p) 5 := vp_in_nI hp (by decide)
  unfold wY_times_22
  refine ⟨hv, my_mul b r hb hr ⟨hv, nm_r (e' := upd z p (nI (q ^^^ mm_mu b r))) ?_ (nm_e h)⟩ (by rw [hc]; exact hz) rfl⟩
  rw [hc, hq, nx_xor]
theorem my_times {post : SY → Prop} {l m z d : Nat → Int32} {g : Nat → Nat} {r : Nat} (hr : r < 8) (hg : ∀ i, i < 5 → g i < 8 ∧ z i = nI (g i))
    (h : ∀ z', (∀ i, i < 5 → mm_nz g r i < 8 ∧ z' i = nI (mm_nz g r i)) → post (l, m, z', d)) : wpY_times post (l, m, z, d) (nI r) := by
  have hn : ∀ i, i < 5 → mm_nz g r i < 8 := by
    intro i hi
    unfold mm_nz
    refine mm_x8 ?_ (mm_mu_lt _ _)
    by_cases c : 0 < i
    · rw [if_pos c]; exact (hg (i - 1) (by omega)).1
    · rw [if_neg c]; decide
  unfold wpY_times
  dsimp only
  have key : ∃ n, wY_times_2 post (nI r) n (nI (5 - 0) + (-1)) l m z d := by
    refine loop_0 (fun n i z' => wY_times_2 post (nI r) n (nI (5 - i) + (-1)) l m z' d)
      (fun i z' => ∀ k, k < 5 → z' k = nI (if 5 - i ≤ k then mm_nz g r k else g k)) 5 z ?_ ?_ ?_
    · intro k hk
      rw [if_neg (by omega)]
      exact (hg k hk).2
    · intro n z' I
      refine br_t (by decide) (h z' (fun i hi => ⟨hn i hi, ?_⟩))
      have e := I i hi
      rw [if_pos (by omega)] at e
      exact e
    · intro n i z' hi I ih
      have e : nI (5 - i) + (-1) = nI (4 - i) := by
        rw [show 5 - i = (4 - i) + 1 from by omega]
        exact pk_m1 _
      rw [e]
      have e2 : 5 - (i + 1) = 4 - i := by omega
      rw [e2] at ih
      have hp : 4 - i < 5 := by omega
      have hb := (hg (4 - i) hp).1
      have hzp : z' (4 - i) = nI (g (4 - i)) := by
        have e := I (4 - i) hp
        rw [if_neg (by omega)] at e
        exact e
      have ih := ih (upd z' (4 - i) (nI (mm_nz g r (4 - i)))) (by
        intro k hk
        by_cases c : k = 4 - i
        · rw [c, pk_us, if_pos (by omega)]
        · rw [pk_un c, I k hk]
          by_cases c2 : 5 - i ≤ k
          · rw [if_pos c2, if_pos (by omega)]
          · rw [if_neg c2, if_neg (by omega)])
      refine br_f (nI_pos (by omega)) ?_
      by_cases c : 4 - i = 0
      · refine br_t (by rw [c]; decide) (my_t22 (q := 0) hr hp hb hzp rfl ?_)
        unfold mm_nz at ih
        rw [if_neg (by omega)] at ih
        exact ih
      · have e3 : nI (4 - i) - 1 = nI (3 - i) := by
          rw [show 4 - i = (3 - i) + 1 from by omega]
          exact nI_pred _
        have hc3 := mm_cl (i := 3 - i) (by omega)
        have hz3 : z' (3 - i) = nI (g (3 - i)) := by
          have e := I (3 - i) (by omega)
          rw [if_neg (by omega)] at e
          exact e
        refine br_f (nI_nle (by omega) (by omega)) ⟨by rw [e3]; exact vp_in_nI (by omega) (by decide), my_t22 (q := g (3 - i)) hr hp hb hzp (by rw [e3, hc3, hz3]) ?_⟩
        unfold mm_nz at ih
        rw [if_pos (by omega), show 4 - i - 1 = 3 - i from by omega] at ih
        exact ih
  rw [show nI (5 - 0) + (-1) = 4 from by decide] at key
  exact key
theorem mm_sh : ∀ j, j < 3 → (((3 * nI j) &&& 31).toBitVec.smod 32).toNat = 3 * j := by decide +kernel
theorem mm_dig {n j : Nat} (hn : n < 512) (hj : j < 3) : (nI n >>> ((3 * nI j) &&& 31)) &&& 7 = nI (n / 8 ^ j % 8) := by
  have h2 : n / 2 ^ (3 * j) ≤ n := Nat.div_le_self _ _
  rw [pk_shrN (by omega) _ (3 * j) (mm_sh j hj), mm_and7 (by omega), Nat.pow_mul]
theorem my_in {post : SY → Prop} {J : Int32 → (Nat → Int32) → (Nat → Int32) → (Nat → Int32) → (Nat → Int32) → Prop} {x1 : Int32} {l m z d0 : Nat → Int32} {j q : Nat} {g : Nat → Nat}
    (hj : j < 3) (hq : q < 8) (hz : mm_zz z) (hg : ∀ k, k < 7 → d0 k = nI (g k))
    (h : ∀ d', (∀ k, k < 7 → d' k = nI (g k ^^^ mm_in q j 5 k)) → J (nI (j + 1)) l m z d') : ∃ n, wY_make_40 post J x1 (nI j) (nI q) n 0 l m z d0 := by
  refine loop_0 (fun n i d => wY_make_40 post J x1 (nI j) (nI q) n (nI i) l m z d) (fun i d => ∀ k, k < 7 → d k = nI (g k ^^^ mm_in q j i k)) 5 d0 ?_ ?_ ?_
  · intro k hk
    rw [mm_in_0, Nat.xor_zero]
    exact hg k hk
  · intro n d I
    exact br_t (by decide) (nm_r (nI_1 j) (h d I))
  · intro n i d hi I ih
    have hv : vp_in (nI i + nI j) 7 := by
      rw [nI_add]
      exact vp_in_nI (by omega) (by decide)
    have hc : (nI i + nI j).toNatClampNeg = i + j := by
      rw [nI_add]
      exact mm_cl (by omega)
    have hci := mm_cl (i := i) (by omega)
    refine br_f (nI_ge (b := 5) hi (by decide)) ⟨hv, vp_in_nI hi (by decide), my_mul (mm_z i) q (mm_z_lt i) hq ⟨hv, nm_e (nm_r (nI_1 i) (ih _ ?_))⟩ (by rw [hci]; exact hz i hi) rfl⟩
    intro k hk
    rw [hc]
    by_cases e : k = i + j
    · subst e
      rw [pk_us, I (i + j) hk, nx_xor, (mm_in_s q j i).1, (mm_in_s q j i).2, Nat.xor_zero]
    · rw [pk_un e, I k hk, mm_in_n e]
theorem my_make {post : SY → Prop} {l m z d : Nat → Int32} {n : Nat} (hz : mm_zz z) (hn : n < 512)
    (h : ∀ d', (∀ k, k < 7 → d' k = nI (mm_ys n 3 k)) → post (l, m, z, d')) : wpY_make post (l, m, z, d) (nI n) := by
  have key2 : ∀ d1 : Nat → Int32, (∀ k, k < 7 → d1 k = nI (mm_ys n 0 k)) → ∃ n23, wY_make_23 post (nI n) n23 0 l m z d1 := by
    intro d1 hd1
    refine loop_0 (fun f j d => wY_make_23 post (nI n) f (nI j) l m z d) (fun j d => ∀ k, k < 7 → d k = nI (mm_ys n j k)) 3 d1 hd1 ?_ ?_
    · intro f d' I
      exact br_t (by decide) (h d' I)
    · intro f j d' hj I ih
      refine br_f (nI_ge (b := 3) hj (by decide)) (nm_r (mm_dig hn hj) ?_)
      exact my_in hj (Nat.mod_lt _ (by decide)) hz I (fun d'' hd'' => ih d'' hd'')
  unfold wpY_make
  dsimp only
  have key : ∃ f, wY_make_2 post (nI n) f (nI 0) l m z (mm_ow (fun _ => 0) d 0) := by
    refine loop_0 (σ := Unit) (fun f i _ => wY_make_2 post (nI n) f (nI i) l m z (mm_ow (fun _ => 0) d i)) (fun _ _ => True) 7 () trivial ?_ ?_
    · intro f _ _
      refine br_t (by decide) (key2 _ (fun k hk => ?_))
      rw [mm_ow_lt hk]
      rfl
    · intro f i _ hi _ ih
      have hc := mm_cl (i := i) (by omega)
      refine br_f (mm_lt7 i hi).2.2.2.1 ⟨vp_in_nI hi (by decide), nm_r (e' := mm_ow (fun _ => 0) d (i + 1)) ?_ (nm_r (nI_1 i) (ih () trivial))⟩
      rw [hc]
      exact mm_ow_s _ _ _ rfl
  rw [mm_ow_0] at key
  exact key
theorem my_take {post : SY → Prop} {l m z d : Nat → Int32} (h : post (mm_ow d l 7, mm_ow (fun _ => 0) m 7, z, d)) : wpY_take post (l, m, z, d) := by
  unfold wpY_take
  dsimp only
  have key : ∃ n, wY_take_2 post n (nI 0) (mm_ow d l 0) (mm_ow (fun _ => 0) m 0) z d := by
    refine loop_0 (σ := Unit) (fun n i _ => wY_take_2 post n (nI i) (mm_ow d l i) (mm_ow (fun _ => 0) m i) z d) (fun _ _ => True) 7 () trivial ?_ ?_
    · intro n _ _
      exact br_t (by decide) h
    · intro n i _ hi _ ih
      have hv : vp_in (nI i) 7 := vp_in_nI hi (by decide)
      have hc := mm_cl (i := i) (by omega)
      refine br_f (mm_lt7 i hi).2.2.2.1 ⟨hv, hv, nm_r (e' := mm_ow d l (i + 1)) ?_ ⟨hv, nm_r (e' := mm_ow (fun _ => 0) m (i + 1)) ?_ (nm_r (nI_1 i) (ih () trivial))⟩⟩
      · rw [hc]
        exact mm_ow_s _ _ _ rfl
      · rw [hc]
        exact mm_ow_s _ _ _ mm_nar0
  rw [mm_ow_0, mm_ow_0] at key
  exact key
