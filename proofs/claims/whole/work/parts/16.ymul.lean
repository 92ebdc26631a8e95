/-! the reference: sum, product, division -/
theorem fx_ps_b {c : Nat → Nat} {C : Nat} (hC : 0 < C) (h : ∀ k, c k < C) : ∀ n, fx_ps c n < 10 ^ n * C := by
  intro n
  induction n with
  | zero => show 0 < 10 ^ 0 * C; rw [Nat.pow_zero, Nat.one_mul]; exact hC
  | succ n ih =>
    show fx_ps c n + 10 ^ n * c n < 10 ^ (n + 1) * C
    have h1 : 10 ^ n * c n ≤ 10 ^ n * C := Nat.mul_le_mul_left _ (Nat.le_of_lt (h n))
    have h2 : 10 ^ (n + 1) * C = 10 * (10 ^ n * C) := by rw [Nat.pow_succ]; grind
    have h3 : 0 < 10 ^ n * C := Nat.mul_pos (fx_pp (by omega) n) hC
    omega
theorem fx_T82 {V : Nat} (h : V < fx_T) : V < 10 ^ 82 := Nat.lt_trans h (by decide)
section
variable {sz dp oc : Int32} {o g d mi bg tm : Nat → Int32}
theorem cy_add {x y V m W k : Nat} (hx : x < 14) (hy : y < 14) (hm : m < 2) (hk : k < 2) (pX : fx_pd d (x * 82) 82 V) (sX : mi x = nI m) (pY : fx_pd d (y * 82) 82 W) (hV : V < fx_T) (hW : W < fx_T) {post : SY → Prop} (K : ∀ d', fy_fill d d' 1148 82 (fx_sv V m W k) → post (sz, dp, oc, o, g, d', upd mi 14 (nI (fx_sm V m W k)), bg, tm)) : wpY_add post (sz, dp, oc, o, g, d, mi, bg, tm) (nI x) (nI y) (nI k) := by
  refine ⟨fx_v16 (by omega), ?_⟩
  rw [fx_k16 (by omega), sX]
  unfold fx_sv fx_sm at K
  by_cases c : m = k
  · rw [if_pos c, if_pos c] at K
    refine br_t (by rw [c]) (cy_sm hx hy pX pY ?_)
    intro d' hf
    exact nm_r (e' := upd mi 14 (nI m)) (by rw [fy_bm hk, c]) (K d' hf)
  · rw [if_neg c, if_neg c] at K
    refine br_f (fun z => c ((nI_eq (by omega) (by omega)).mp z)) (cy_sz (by omega) (by omega) pX pY (fx_T82 hV) (fx_T82 hW) ?_)
    by_cases q : V < W
    · rw [if_neg (by omega), if_neg (by omega)] at K
      rw [fx_cmp_lt q]
      refine br_t (by decide) (cy_df (t := 14) (by omega) (by omega) (by omega) pY pX (by omega) ?_)
      intro d' hf
      exact nm_r (e' := upd mi 14 (nI k)) (by rw [fy_bm hk]) (K d' hf)
    · rw [if_pos (by omega), if_pos (by omega)] at K
      have hd : wpY_difference (fun u => match u with | (sz, dp, oc, o, g, d, mi, bg, tm) => vp_in (nI x) 16 ∧ (∀ z, z = upd mi 14 (vp_nar .boolean (mi x)) → post (sz, dp, oc, o, g, d, z, bg, tm))) (sz, dp, oc, o, g, d, mi, bg, tm) (nI x) (nI y) 14 := by
        refine cy_df (t := 14) (by omega) (by omega) (by omega) pX pY (by omega) ?_
        intro d' hf
        exact ⟨fx_v16 (by omega), nm_r (e' := upd mi 14 (nI m)) (by rw [sX, fy_bm hm]) (K d' hf)⟩
      by_cases z : V = W
      · have e0 : fx_cmp V W = 0 := by rw [z]; exact fx_cmp_eq W
        rw [e0]
        exact br_f (by decide) hd
      · rw [fx_cmp_gt (show W < V by omega)]
        exact br_f (by decide) hd
/-! the product -/
theorem cy_pr_n {x y V W m k : Nat} {c : Nat → Nat} (hx : x < 14) (hy : y < 14) (hm : m < 2) (hk : k < 2) (sX : mi x = nI m) (sY : mi y = nI k) (hc : ∀ k, c k ≤ 136161) (hps : fx_ps c 82 = V * W) {post : SY → Prop} (K : ∀ d', fy_fill d d' 1148 82 (V * W) → post (sz, dp, oc, o, g, d', upd mi 14 (nI (if m = k then 0 else 1)), bg, tm)) : ∀ e i, i + e = 82 → ∀ d', fy_fr d d' 1148 82 → fx_pd d' 1148 i (V * W) → (∀ k, i ≤ k → k < 82 → d' (1148 + k) = nI (c k)) → wY_product_111 post (nI x) (nI y) sz dp oc (e + 1) (nI (fx_ps c i / 10 ^ i)) (nI i) o g d' mi bg tm := by
  intro e
  induction e with
  | zero =>
    intro i hi d' hf hp _
    have : i = 82 := by omega
    subst this
    have K' := K d' ⟨hf, hp⟩
    refine br_t fx_82 ⟨fx_v16 (by omega), fx_v16 (by omega), ?_⟩
    rw [fx_k16 (by omega), fx_k16 (by omega), sX, sY]
    by_cases z : m = k
    · rw [if_pos z] at K'
      exact br_t (by rw [z]) (nm_r (e' := upd mi 14 (nI 0)) rfl K')
    · rw [if_neg z] at K'
      exact br_f (fun w => z ((nI_eq (by omega) (by omega)).mp w)) (nm_r (e' := upd mi 14 (nI 1)) rfl K')
  | succ e ih =>
    intro i hi d' hf hp hr
    have ei : ((1148 : Int32) + nI i).toNatClampNeg = 1148 + i := fx_cA (b := 1148) (by omega)
    have vi : vp_in ((1148 : Int32) + nI i) 1312 := fx_vA (b := 1148) (by omega)
    have b1 := hc i
    have b2 : fx_ps c i / 10 ^ i < 136162 := by
      rw [Nat.div_lt_iff_lt_mul (fx_pp (by omega) i), Nat.mul_comm]
      exact fx_ps_b (by omega) (fun k => by have := hc k; omega) i
    refine br_f (fx_n82 (by omega)) ⟨vi, nm_r (e' := nI (c i + fx_ps c i / 10 ^ i)) (by rw [ei, hr i (Nat.le_refl i) (by omega), nI_add]) ⟨fx_10i, vi, nm_r (e' := upd d' (1148 + i) (nI (fx_dg 10 (V * W) i))) (by rw [ei, fx_irem (by omega), fx_ps_dg c i 82 (by omega), hps]) ⟨fx_10i, nm_r (e' := nI (fx_ps c (i + 1) / 10 ^ (i + 1))) (by rw [fx_idiv (by omega), fx_ps_cy]) (nm_r (nI_1 i) (ih (i + 1) (by omega) _ ?_ ?_ ?_))⟩⟩⟩
    · intro j hj
      rw [pk_un (by omega)]; exact hf j hj
    · intro j hj
      by_cases e : j = i
      · subst e; rw [pk_us]
      · rw [pk_un (by omega)]; exact hp j (by omega)
    · intro j h1 h2
      rw [pk_un (by omega)]; exact hr j (by omega) h2
theorem cy_pr_i {x y V W i : Nat} (hx : x < 14) (hy : y < 14) (hi : i < 41) (pX : fx_pd d (x * 82) 82 V) (pY : fx_pd d (y * 82) 82 W) (hW : W < fx_T) {post : SY → Prop} {J : Int32 → (Nat → Int32) → (Nat → Int32) → (Nat → Int32) → (Nat → Int32) → (Nat → Int32) → (Nat → Int32) → Prop} (K : ∀ d' c, fy_fr d d' 1148 82 → (∀ k, k < 82 → d' (1148 + k) = nI (c k)) → (∀ k, c k ≤ 81 * (41 * (i + 1))) → fx_ps c 82 = V % 10 ^ (i + 1) * W → J (nI (i + 1)) o g d' mi bg tm) : ∀ e j, j + e = 41 → ∀ d' c, fy_fr d d' 1148 82 → (∀ k, k < 82 → d' (1148 + k) = nI (c k)) → (∀ k, c k ≤ 81 * (41 * i + j)) → fx_ps c 82 = V % 10 ^ i * W + fx_dg 10 V i * (W % 10 ^ j) * 10 ^ i → wY_product_36 post J (nI x) (nI y) (nI i) sz dp oc (e + 1) (nI j) o g d' mi bg tm := by
  intro e
  induction e with
  | zero =>
    intro j hj d' c hf hc hb hps
    have : j = 41 := by omega
    subst this
    rw [Nat.mod_eq_of_lt (Nat.lt_trans hW (by decide)), ← fx_row_p] at hps
    exact br_t (by decide) (nm_r (nI_1 i) (K d' c hf hc (fun k => by have := hb k; omega) hps))
  | succ e ih =>
    intro j hj d' c hf hc hb hps
    have ei : ((1148 : Int32) + nI i + nI j).toNatClampNeg = 1148 + (i + j) := by
      rw [show (1148 : Int32) = nI 1148 from rfl, nI_add, nI_add, nI_clamp (by omega)]; omega
    have vi : vp_in ((1148 : Int32) + nI i + nI j) 1312 := by
      rw [show (1148 : Int32) = nI 1148 from rfl, nI_add, nI_add]; exact vp_in_nI (by omega) (by omega)
    have e1 : d' (x * 82 + i) = nI (fx_dg 10 V i) := by rw [hf _ (by omega)]; exact pX i (by omega)
    have e2 : d' (y * 82 + j) = nI (fx_dg 10 W j) := by rw [hf _ (by omega)]; exact pY j (by omega)
    have b1 := fx_dg10 V i
    have b2 := fx_dg10 W j
    have b3 : fx_dg 10 V i * fx_dg 10 W j ≤ 9 * 9 := Nat.mul_le_mul (by omega) (by omega)
    refine br_f (nI_ge (b := 41) (by omega) (by omega)) ⟨vi, fx_v82 (by omega) (by omega), fx_v82 (by omega) (by omega), vi, nm_r (e' := upd d' (1148 + (i + j)) (nI (c (i + j) + fx_dg 10 V i * fx_dg 10 W j))) (by rw [ei, fx_c82 (by omega) (by omega), fx_c82 (by omega) (by omega), e1, e2, hc (i + j) (by omega), pk_mul, nI_add]) (nm_r (nI_1 j) (ih (j + 1) (by omega) _ (fx_up c (i + j) (c (i + j) + fx_dg 10 V i * fx_dg 10 W j)) ?_ ?_ ?_ (fx_col hps (by omega))))⟩
    · intro q hq
      rw [pk_un (by omega)]; exact hf q hq
    · intro q hq
      unfold fx_up
      by_cases e : q = i + j
      · rw [if_pos e, e, pk_us]
      · rw [if_neg e, pk_un (by omega)]; exact hc q hq
    · intro q
      unfold fx_up
      have hb1 := hb q
      have hb2 := hb (i + j)
      split <;> omega
theorem cy_pr_o {x y V W m k : Nat} (hx : x < 14) (hy : y < 14) (hm : m < 2) (hk : k < 2) (pX : fx_pd d (x * 82) 82 V) (sX : mi x = nI m) (pY : fx_pd d (y * 82) 82 W) (sY : mi y = nI k) (hV : V < fx_T) (hW : W < fx_T) {post : SY → Prop} (K : ∀ d', fy_fill d d' 1148 82 (V * W) → post (sz, dp, oc, o, g, d', upd mi 14 (nI (if m = k then 0 else 1)), bg, tm)) : ∀ e i, i + e = 41 → ∀ d' c, fy_fr d d' 1148 82 → (∀ k, k < 82 → d' (1148 + k) = nI (c k)) → (∀ k, c k ≤ 81 * (41 * i)) → fx_ps c 82 = V % 10 ^ i * W → wY_product_27 post (nI x) (nI y) sz dp oc (e + 1) (nI i) o g d' mi bg tm := by
  intro e
  induction e with
  | zero =>
    intro i hi d' c hf hc hb hps
    have : i = 41 := by omega
    subst this
    rw [Nat.mod_eq_of_lt (Nat.lt_trans hV (by decide))] at hps
    refine br_t (by decide) ⟨83, ?_⟩
    have h := cy_pr_n (sz := sz) (dp := dp) (oc := oc) (o := o) (g := g) (d := d) (bg := bg) (tm := tm) hx hy hm hk sX sY (fun q => hb q) hps K 82 0 rfl d' hf (fun q hq => absurd hq (by omega)) (fun q _ hq => hc q hq)
    have hz : fx_ps c 0 / 10 ^ 0 = 0 := Nat.zero_div _
    rw [hz] at h
    exact h
  | succ e ih =>
    intro i hi d' c hf hc hb hps
    refine br_f (nI_ge (b := 41) (by omega) (by omega)) ⟨42, ?_⟩
    refine cy_pr_i (d := d) hx hy (by omega) pX pY hW ?_ 41 0 rfl d' c hf hc (fun q => by have := hb q; omega) (by rw [Nat.pow_zero, Nat.mod_one, Nat.mul_zero, Nat.zero_mul, Nat.add_zero]; exact hps)
    intro d2 c2 hf2 hc2 hb2 hps2
    exact ih (i + 1) (by omega) d2 c2 hf2 hc2 hb2 hps2
theorem cy_pr_z {x y V W m k : Nat} (hx : x < 14) (hy : y < 14) (hm : m < 2) (hk : k < 2) (pX : fx_pd d (x * 82) 82 V) (sX : mi x = nI m) (pY : fx_pd d (y * 82) 82 W) (sY : mi y = nI k) (hV : V < fx_T) (hW : W < fx_T) {post : SY → Prop} (K : ∀ d', fy_fill d d' 1148 82 (V * W) → post (sz, dp, oc, o, g, d', upd mi 14 (nI (if m = k then 0 else 1)), bg, tm)) : ∀ e i, i + e = 82 → ∀ d', fy_fill d d' 1148 i 0 → wY_product_2 post (nI x) (nI y) sz dp oc (e + 1) (nI i) o g d' mi bg tm := by
  intro e
  induction e with
  | zero =>
    intro i hi d' hf
    have : i = 82 := by omega
    subst this
    refine br_t fx_82 ⟨42, cy_pr_o hx hy hm hk pX sX pY sY hV hW K 41 0 rfl d' (fun _ => 0) hf.1 ?_ (fun _ => Nat.zero_le _) ?_⟩
    · intro q hq
      rw [hf.2 q hq, fx_dg_0]
    · rw [fx_ps_0, Nat.pow_zero, Nat.mod_one, Nat.zero_mul]
  | succ e ih =>
    intro i hi d' hf
    exact br_f (fx_n82 (by omega)) ⟨fx_vA (b := 1148) (by omega), nm_r (e' := upd d' (1148 + i) (nI (fx_dg 10 0 i))) (by rw [show ((1148 : Int32) + nI i).toNatClampNeg = 1148 + i from fx_cA (b := 1148) (by omega), fx_dg_0]; rfl) (nm_r (nI_1 i) (ih (i + 1) (by omega) _ (fy_fill_s hf)))⟩
theorem cy_pr {x y V W m k : Nat} (hx : x < 14) (hy : y < 14) (hm : m < 2) (hk : k < 2) (pX : fx_pd d (x * 82) 82 V) (sX : mi x = nI m) (pY : fx_pd d (y * 82) 82 W) (sY : mi y = nI k) (hV : V < fx_T) (hW : W < fx_T) {post : SY → Prop} (K : ∀ d', fy_fill d d' 1148 82 (V * W) → post (sz, dp, oc, o, g, d', upd mi 14 (nI (if m = k then 0 else 1)), bg, tm)) : wpY_product post (sz, dp, oc, o, g, d, mi, bg, tm) (nI x) (nI y) :=
  ⟨83, cy_pr_z hx hy hm hk pX sX pY sY hV hW K 82 0 rfl d (fy_fill_0 d _ _)⟩
/-! division -/
theorem cy_ti_l {y W R : Nat} (hy : y < 14) (pY : fx_pd d (y * 82) 82 W) (hW : W < fx_T) (hR : R < 10 * W) {post : Int32 → SY → Prop} (K : ∀ d', fy_fr d d' 1230 82 → fx_pd d' 1230 82 (R % W) → post (nI (R / W)) (sz, dp, oc, o, g, d', mi, bg, tm)) : ∀ e i, i + e = 9 → ∀ d' r c, fy_fr d d' 1230 82 → fx_pd d' 1230 82 r → R = r + W * c → c ≤ i → (c = i ∨ r < W) → wY_times_4 post (nI y) (e + 1) (nI c) (nI i) sz dp oc o g d' mi bg tm := by
  have h82 : 10 * W < 10 ^ 82 := by
    have : 10 * fx_T < 10 ^ 82 := by decide
    omega
  intro e
  induction e with
  | zero =>
    intro i hi d' r c hf hp hr hc h
    have : i = 9 := by omega
    subst this
    have hlt : r < W := by
      rcases h with rfl | h
      · omega
      · exact h
    obtain ⟨q1, q2⟩ := fx_dm hr hlt
    rw [q2] at hp
    rw [q1]
    exact br_t (by decide) (K d' hf hp)
  | succ e ih =>
    intro i hi d' r c hf hp hr hc h
    have pY' : fx_pd d' (y * 82) 82 W := fun q hq => by rw [hf _ (by omega)]; exact pY q hq
    refine br_f (nI_ge (b := 9) (by omega) (by omega)) (cy_sz (a := 15) (by omega) (by omega) hp pY' (by omega) (fx_T82 hW) ?_)
    by_cases q : r < W
    · rw [fx_cmp_lt q]
      exact br_t (by decide) (nm_r (nI_1 i) (ih (i + 1) (by omega) d' r c hf hp hr (by omega) (Or.inr q)))
    · have hn : ¬ fx_cmp r W < 0 := by
        by_cases z : r = W
        · rw [z, fx_cmp_eq]; decide
        · rw [fx_cmp_gt (by omega)]; decide
      refine br_f hn (cy_df (a := 15) (t := 15) (by omega) (by omega) (by omega) hp pY' (by omega) ?_)
      intro d2 hf2
      refine nm_r (nI_1 c) (nm_r (nI_1 i) (ih (i + 1) (by omega) d2 (r - W) (c + 1) ?_ hf2.2 ?_ (by omega) (Or.inl (by omega))))
      · intro j hj
        rw [hf2.1 j hj]; exact hf j hj
      · rw [Nat.mul_add]; omega
theorem cy_ti {y W R : Nat} (hy : y < 14) (pY : fx_pd d (y * 82) 82 W) (hW : W < fx_T) (hR : R < 10 * W) (pR : fx_pd d 1230 82 R) {post : Int32 → SY → Prop} (K : ∀ d', fy_fr d d' 1230 82 → fx_pd d' 1230 82 (R % W) → post (nI (R / W)) (sz, dp, oc, o, g, d', mi, bg, tm)) : wpY_times post (sz, dp, oc, o, g, d, mi, bg, tm) (nI y) :=
  ⟨10, cy_ti_l hy pY hW hR K 9 0 rfl d R 0 (fun _ _ => rfl) pR (by omega) (Nat.le_refl 0) (Or.inl rfl)⟩
theorem cy_dv_s {x y V W i R : Nat} (hx : x < 14) (hy : y < 14) (hi : i < 41) (pX : fx_pd d (x * 82) 82 V) (pY : fx_pd d (y * 82) 82 W) (hW : W < fx_T) (hRW : R < W) (hR : R * 10 + fx_dg 10 V i < 10 * W) {post : SY → Prop} {J : Int32 → Int32 → Int32 → Int32 → (Nat → Int32) → (Nat → Int32) → (Nat → Int32) → (Nat → Int32) → (Nat → Int32) → (Nat → Int32) → Prop} (K : ∀ d', (∀ j, j < 1230 → j ≠ 1148 + i → d' j = d j) → d' (1148 + i) = nI ((R * 10 + fx_dg 10 V i) / W) → fx_pd d' 1230 82 ((R * 10 + fx_dg 10 V i) % W) → J (nI i + (-1)) sz dp oc o g d' mi bg tm) : ∀ k, k ≤ 41 → ∀ d', (∀ j, j < 1230 → d' j = d j) → (∀ j, j ≤ k → d' (1230 + j) = nI (fx_dg 10 R j)) → (∀ j, k < j → j < 82 → d' (1230 + j) = nI (fx_dg 10 (R * 10 + fx_dg 10 V i) j)) → wY_divide_47 post J (nI x) (nI y) (nI i) sz dp oc (k + 1) (nI k) o g d' mi bg tm := by
  intro k
  induction k with
  | zero =>
    intro _ d' hf h1 h2
    have e1 : d' (nI x * 82 + nI i).toNatClampNeg = nI (fx_dg 10 V i) := by rw [fx_c82 (by omega) (by omega), hf _ (by omega)]; exact pX i (by omega)
    refine br_t (by decide) ⟨fx_v82 (by omega) (by omega), nm_r (e' := upd d' 1230 (nI (fx_dg 10 V i))) (by rw [e1]) ?_⟩
    refine cy_ti hy ?_ hW hR ?_ ?_
    · intro q hq
      rw [pk_un (by omega), hf _ (by omega)]; exact pY q hq
    · intro q hq
      by_cases e : q = 0
      · subst e; rw [Nat.add_zero, pk_us, fx_shift_0 _ _ (fx_dg10 V i)]
      · rw [pk_un (by omega)]; exact h2 q (by omega) hq
    · intro d2 hf2 hp2
      refine ⟨fx_vA (b := 1148) (by omega), nm_r (e' := upd d2 (1148 + i) (nI ((R * 10 + fx_dg 10 V i) / W))) (by rw [show ((1148 : Int32) + nI i).toNatClampNeg = 1148 + i from fx_cA (b := 1148) (by omega)]) (nm_e (K _ ?_ pk_us ?_))⟩
      · intro j hj hne
        rw [pk_un hne, hf2 j (Or.inl hj), pk_un (by omega)]; exact hf j hj
      · intro q hq
        rw [pk_un (by omega)]; exact hp2 q hq
  | succ k ih =>
    intro hk d' hf h1 h2
    have e0 : ((1230 : Int32) + nI (k + 1)).toNatClampNeg = 1230 + (k + 1) := fx_cA (b := 1230) (by omega)
    have ep : (1230 : Int32) + nI (k + 1) - 1 = nI (1230 + k) := by
      rw [show (1230 : Int32) = nI 1230 from rfl, nI_add, ← Nat.add_assoc, nI_pred]
    refine br_f (nI_nle (by omega) (by omega)) ⟨by rw [ep]; exact vp_in_nI (by omega) (by omega), fx_vA (b := 1230) (by omega), nm_r (e' := upd d' (1230 + (k + 1)) (nI (fx_dg 10 R k))) (by rw [e0, ep, nI_clamp (by omega), h1 k (by omega)]) (nm_r (pk_m1 k) (ih (by omega) _ ?_ ?_ ?_))⟩
    · intro j hj
      rw [pk_un (by omega)]; exact hf j hj
    · intro j hj
      rw [pk_un (by omega)]; exact h1 j (by omega)
    · intro j hj hj2
      by_cases e : j = k + 1
      · subst e; rw [pk_us, fx_shift_s _ _ _ (fx_dg10 V i)]
      · rw [pk_un (by omega)]; exact h2 j (by omega) hj2
theorem cy_dv_o {x y V W m k : Nat} (hx : x < 14) (hy : y < 14) (hm : m < 2) (hk : k < 2) (pX : fx_pd d (x * 82) 82 V) (sX : mi x = nI m) (pY : fx_pd d (y * 82) 82 W) (sY : mi y = nI k) (hV : V < fx_T) (hW : W < fx_T) (hW0 : W ≠ 0) {post : SY → Prop} (K : ∀ d', (∀ j, j < 1148 → d' j = d j) → fx_pd d' 1148 82 (V / W) → fx_pd d' 1230 82 (V % W) → post (sz, dp, oc, o, g, d', upd (upd mi 14 (nI (if m = k then 0 else 1))) 15 (nI m), bg, tm)) : ∀ i, i ≤ 41 → ∀ d', (∀ j, j < 1148 → d' j = d j) → (∀ j, i ≤ j → j < 82 → d' (1148 + j) = nI (fx_dg 10 (V / W) j)) → fx_pd d' 1230 82 (V / 10 ^ i % W) → wY_divide_39 post (nI x) (nI y) (i + 1) (nI i + (-1)) sz dp oc o g d' mi bg tm := by
  have hWp : 0 < W := by omega
  intro i
  induction i with
  | zero =>
    intro _ d' hf hq hr
    rw [Nat.pow_zero, Nat.div_one] at hr
    have K' := K d' hf (fun j hj => hq j (by omega) hj) hr
    refine br_t fx_m1z ⟨fx_v16 (by omega), fx_v16 (by omega), ?_⟩
    rw [fx_k16 (by omega), fx_k16 (by omega), sX, sY]
    have h148 : ∀ z : Nat, z < 2 → (if m = k then 0 else 1) = z → wY_divide_148 post (nI x) (nI z) 14 sz dp oc o g d' mi bg tm := by
      intro z hz ez
      rw [ez] at K'
      exact ⟨fx_v16 (x := 14) (by omega), nm_r (e' := upd mi 14 (nI z)) (by rw [fy_bm hz]; rfl) ⟨fx_v16 (by omega), nm_r (e' := upd (upd mi 14 (nI z)) 15 (nI m)) (by rw [fx_k16 (by omega), pk_un (by omega), sX, fy_bm hm]) K'⟩⟩
    by_cases z : m = k
    · exact br_t (by rw [z]) (h148 0 (by omega) (if_pos z))
    · exact br_f (fun w => z ((nI_eq (by omega) (by omega)).mp w)) (h148 1 (by omega) (if_neg z))
  | succ i ih =>
    intro hi d' hf hq hr
    obtain ⟨s1, s2, s3⟩ := fx_div_step (B := 10) (by omega) V W i hWp
    have hRW : V / 10 ^ (i + 1) % W < W := Nat.mod_lt _ hWp
    rw [pk_m1]
    refine br_f (nI_pos (by omega)) ⟨42, ?_⟩
    refine cy_dv_s (d := d') (R := V / 10 ^ (i + 1) % W) (V := V) (W := W) hx hy (by omega) (fun q hq => by rw [hf _ (by omega)]; exact pX q hq) (fun q hq => by rw [hf _ (by omega)]; exact pY q hq) hW hRW s3 ?_ 41 (Nat.le_refl 41) d' (fun _ _ => rfl) (fun j hj => hr j (by omega)) ?_
    · intro d2 h1 h2 h3
      rw [s1] at h2
      rw [s2] at h3
      refine ih (by omega) d2 (fun j hj => by rw [h1 j (by omega) (by omega)]; exact hf j hj) ?_ h3
      intro j hj hj2
      by_cases e : j = i
      · subst e; exact h2
      · rw [h1 _ (by omega) (by omega)]; exact hq j (by omega) hj2
    · intro j hj hj2
      rw [hr j hj2]
      obtain ⟨t, rfl⟩ : ∃ t, j = t + 1 := ⟨j - 1, by omega⟩
      rw [fx_shift_s _ _ _ (fx_dg10 V i)]
      have hRT : V / 10 ^ (i + 1) % W < 10 ^ 40 := Nat.lt_trans hRW hW
      rw [fx_dg_hi (n := 40) (by omega) hRT (by omega), fx_dg_hi (n := 40) (by omega) hRT (by omega)]
theorem cy_dv_z {x y V W m k : Nat} (hx : x < 14) (hy : y < 14) (hm : m < 2) (hk : k < 2) (pX : fx_pd d (x * 82) 82 V) (sX : mi x = nI m) (pY : fx_pd d (y * 82) 82 W) (sY : mi y = nI k) (hV : V < fx_T) (hW : W < fx_T) (hW0 : W ≠ 0) {post : SY → Prop} (K : ∀ d', (∀ j, j < 1148 → d' j = d j) → fx_pd d' 1148 82 (V / W) → fx_pd d' 1230 82 (V % W) → post (sz, dp, oc, o, g, d', upd (upd mi 14 (nI (if m = k then 0 else 1))) 15 (nI m), bg, tm)) : ∀ e i, i + e = 82 → ∀ d', (∀ j, j < 1148 → d' j = d j) → (∀ j, j < i → d' (1148 + j) = 0 ∧ d' (1230 + j) = 0) → wY_divide_2 post (nI x) (nI y) sz dp oc (e + 1) (nI i) o g d' mi bg tm := by
  intro e
  induction e with
  | zero =>
    intro i hi d' hf hz
    have : i = 82 := by omega
    subst this
    refine br_t fx_82 ⟨42, ?_⟩
    have h := cy_dv_o (sz := sz) (dp := dp) (oc := oc) (o := o) (g := g) (bg := bg) (tm := tm) hx hy hm hk pX sX pY sY hV hW hW0 K 41 (Nat.le_refl 41) d' hf (by
      intro j h1 h2
      have : V / W < 10 ^ 40 := Nat.lt_of_le_of_lt (Nat.div_le_self V W) hV
      rw [(hz j h2).1, fx_dg_hi (n := 40) (by omega) this (by omega)]
      rfl) (by
      intro j hj
      rw [(hz j hj).2, Nat.div_eq_of_lt (Nat.lt_trans hV (by decide)), Nat.zero_mod, fx_dg_0]
      rfl)
    rw [pk_m1] at h
    exact h
  | succ e ih =>
    intro i hi d' hf hz
    refine br_f (fx_n82 (by omega)) ⟨fx_vA (b := 1148) (by omega), nm_r (e' := upd d' (1148 + i) 0) (by rw [show ((1148 : Int32) + nI i).toNatClampNeg = 1148 + i from fx_cA (b := 1148) (by omega)]) ⟨fx_vA (b := 1230) (by omega), nm_r (e' := upd (upd d' (1148 + i) 0) (1230 + i) 0) (by rw [show ((1230 : Int32) + nI i).toNatClampNeg = 1230 + i from fx_cA (b := 1230) (by omega)]) (nm_r (nI_1 i) (ih (i + 1) (by omega) _ ?_ ?_))⟩⟩
    · intro j hj
      rw [pk_un (by omega), pk_un (by omega)]; exact hf j hj
    · intro j hj
      by_cases e : j = i
      · subst e; exact ⟨by rw [pk_un (by omega), pk_us], pk_us⟩
      · have := hz j (by omega)
        exact ⟨by rw [pk_un (by omega), pk_un (by omega)]; exact this.1, by rw [pk_un (by omega), pk_un (by omega)]; exact this.2⟩
theorem cy_dv {x y V W m k : Nat} (hx : x < 14) (hy : y < 14) (hm : m < 2) (hk : k < 2) (pX : fx_pd d (x * 82) 82 V) (sX : mi x = nI m) (pY : fx_pd d (y * 82) 82 W) (sY : mi y = nI k) (hV : V < fx_T) (hW : W < fx_T) (hW0 : W ≠ 0) {post : SY → Prop} (K : ∀ d', (∀ j, j < 1148 → d' j = d j) → fx_pd d' 1148 82 (V / W) → fx_pd d' 1230 82 (V % W) → post (sz, dp, oc, o, g, d', upd (upd mi 14 (nI (if m = k then 0 else 1))) 15 (nI m), bg, tm)) : wpY_divide post (sz, dp, oc, o, g, d, mi, bg, tm) (nI x) (nI y) :=
  ⟨83, cy_dv_z hx hy hm hk pX sX pY sY hV hW hW0 K 82 0 rfl d (fun _ _ => rfl) (fun j hj => absurd hj (by omega))⟩
end
