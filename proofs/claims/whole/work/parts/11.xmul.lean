/-! the component: addition, writing a number, the long product -/
def fx_pz (A : Nat → Int64) (n V : Nat) : Prop := ∀ i, i < n → A i = lN (fx_dg 100000000 V i)
theorem fx_mnz {V i : Nat} (c : fx_dg 100000000 V i ≠ 0) : V % 100000000 ^ (i + 1) ≠ 0 := by
  rw [fx_ms]
  have h : 0 < 100000000 ^ i * fx_dg 100000000 V i := Nat.mul_pos (fx_pp (by omega) i) (by omega)
  omega
theorem fx_lowdg {B : Nat} (hB : 0 < B) (P0 c : Nat) {i k : Nat} (h : k < i) : fx_dg B (P0 + c * B ^ i) k = fx_dg B P0 k := by
  unfold fx_dg
  obtain ⟨e, rfl⟩ : ∃ e, i = k + 1 + e := ⟨i - (k + 1), by omega⟩
  rw [show c * B ^ (k + 1 + e) = B ^ k * (B * (B ^ e * c)) by rw [Nat.pow_add, Nat.pow_succ]; grind]
  rw [Nat.add_mul_div_left _ _ (fx_pp hB k), Nat.add_mul_mod_self_left]
section
variable {tc dp oc ht : Int32} {L : Nat → Int64} {S o g pt ob rl : Nat → Int32} {pr qu re mu : Nat → Int64}
theorem cx_add {x y V m W k : Nat} (hx : x < 14) (hy : y < 14) (hxy : x ≠ y) (hm : m < 2) (hk : k < 2) (pX : xs_pic L S x V m) (pY : xs_pic L S y W k) (hV : V < fx_T) (hW : W < fx_T) {post : Int32 → SX → Prop} (K : ∀ L' S', fx_fr L L' (x * 5) 5 → (∀ s, s ≠ x → S' s = S s) → (fx_sv V m W k < fx_T → xs_pic L' S' x (fx_sv V m W k) (fx_sm V m W k)) → post (if fx_sv V m W k < fx_T then 0 else 2) (tc, dp, oc, ht, L', S', o, g, pt, ob, rl, pr, qu, re, mu)) : wpX_add post (tc, dp, oc, ht, L, S, o, g, pt, ob, rl, pr, qu, re, mu) (nI x) (nI y) := by
  refine ⟨fx_v14 hx, fx_v14 hy, ?_⟩
  by_cases c : S x = S y
  · refine br_t (by rw [fx_k14 hx, fx_k14 hy]; exact c) (cx_am hx hy hxy pX.1 pY.1 hV hW ?_)
    intro L' hf
    have c' : fx_sg V m = fx_sg W k := by rw [← pX.2, ← pY.2]; exact c
    obtain ⟨e1, e2⟩ := fx_a1 hm hk c'
    have K' := K L' S hf.1 (fun _ _ => rfl) (fun _ => ⟨by rw [e1]; exact hf.2, by rw [e1, e2]; exact pX.2⟩)
    rw [e1] at K'
    exact K'
  · have c' : fx_sg V m ≠ fx_sg W k := by rw [← pX.2, ← pY.2]; exact c
    refine br_f (by rw [fx_k14 hx, fx_k14 hy]; exact c) (cx_cm hx hy pX.1 pY.1 hV hW ?_)
    by_cases q : V < W
    · rw [fx_cmp_lt q]
      refine br_t (by decide) (cx_sm hy hx hx pY.1 pX.1 (by omega) ?_)
      intro L' hf
      obtain ⟨e1, e2⟩ := fx_a3 c' q
      refine ⟨fx_v14 hy, fx_v14 hx, nm_r (e' := upd S x (S y)) (by rw [fx_k14 hx, fx_k14 hy]) (br_f (by decide) ?_)⟩
      have K' := K L' (upd S x (S y)) hf.1 (fun s hs => pk_un hs) (fun _ => ⟨by rw [e1]; exact hf.2, by rw [pk_us, e1, e2]; exact pY.2⟩)
      rw [e1, if_pos (by omega)] at K'
      exact K'
    · obtain ⟨e1, e2⟩ := fx_a2 c' (show W ≤ V by omega)
      have hsub : ∀ r : Int32, (r = 0 ↔ V = W) → ¬ r < 0 → wpX_subtractMagnitudes (fun u => match u with | (tc, dp, oc, ht, L, S, o, g, pt, ob, rl, pr, qu, re, mu) => wX_add_62 post (nI x) r tc dp oc ht L S o g pt ob rl pr qu re mu) (tc, dp, oc, ht, L, S, o, g, pt, ob, rl, pr, qu, re, mu) (nI x) (nI y) (nI x) := by
        intro r hr _
        refine cx_sm hx hy hx pX.1 pY.1 (by omega) ?_
        intro L' hf
        by_cases z : V = W
        · refine br_t (hr.mpr z) ⟨fx_v14 hx, nm_r (e' := upd S x 0) (by rw [fx_k14 hx]) ?_⟩
          have K' := K L' (upd S x 0) hf.1 (fun s hs => pk_un hs) (fun _ => ⟨by rw [e1]; exact hf.2, by rw [pk_us, e1, e2, if_pos z]⟩)
          rw [e1, if_pos (by omega)] at K'
          exact K'
        · refine br_f (fun w => z (hr.mp w)) ?_
          have K' := K L' S hf.1 (fun _ _ => rfl) (fun _ => ⟨by rw [e1]; exact hf.2, by rw [e1, e2, if_neg z]; exact pX.2⟩)
          rw [e1, if_pos (by omega)] at K'
          exact K'
      by_cases z : V = W
      · have e0 : fx_cmp V W = 0 := by rw [z]; exact fx_cmp_eq W
        rw [e0]
        exact br_f (by decide) (hsub 0 ⟨fun _ => z, fun _ => rfl⟩ (by decide))
      · rw [fx_cmp_gt (show W < V by omega)]
        exact br_f (by decide) (hsub 1 ⟨fun w => absurd w (by decide), fun w => absurd w z⟩ (by decide))
theorem cx_wn_product_l {x V : Nat} (hx : x < 14) (hV : V < fx_T) (sg : Int32) (pP : fx_pz pr 5 V) {post : SX → Prop} (K : ∀ L' S', fx_fill L L' (x * 5) 5 V → S' x = (if V = 0 then 0 else sg) → (∀ s, s ≠ x → S' s = S s) → post (tc, dp, oc, ht, L', S', o, g, pt, ob, rl, pr, qu, re, mu)) : ∀ d i, i + d = 5 → ∀ L' S', fx_fill L L' (x * 5) i V → S' x = (if V % 100000000 ^ i = 0 then 0 else sg) → (∀ s, s ≠ x → S' s = S s) → wX_writeNumber__product_10 post (nI x) sg tc dp oc ht (d + 1) (nI i) L' S' o g pt ob rl pr qu re mu := by
  intro d
  induction d with
  | zero =>
    intro i hi L' S' hf hs hfr
    have : i = 5 := by omega
    subst this
    rw [fx_pow5, Nat.mod_eq_of_lt hV] at hs
    exact br_t fx_5 (K L' S' hf hs hfr)
  | succ d ih =>
    intro i hi L' S' hf hs hfr
    have hi5 : i < 5 := by omega
    have e1 : pr (nI i).toNatClampNeg = lN (fx_dg 100000000 V i) := by rw [nI_clamp (by omega)]; exact pP i hi5
    have b1 := fx_dgB V i
    refine br_f (fx_n5 hi5) ⟨vp_in_nI (by omega) (by omega), fx_v5 hx hi5, nm_r (e' := vp_updL L' (x * 5 + i) (lN (fx_dg 100000000 V i))) (by rw [fx_c5 hx hi5, e1]) ⟨vp_in_nI (by omega) (by omega), ?_⟩⟩
    by_cases c : fx_dg 100000000 V i = 0
    · refine br_t (by rw [e1, c]; rfl) (nm_r (nI_1 i) (ih (i + 1) (by omega) _ S' (fx_fill_s hf) ?_ hfr))
      rw [fx_ms, c, Nat.mul_zero, Nat.add_zero]
      exact hs
    · refine br_f (by rw [e1]; exact fun z => c ((fx_l0 (by omega)).mp z)) ⟨fx_v14 hx, nm_r (e' := upd S' x sg) (by rw [fx_k14 hx]) (nm_r (nI_1 i) (ih (i + 1) (by omega) _ _ (fx_fill_s hf) ?_ (fun s h => by rw [pk_un h]; exact hfr s h)))⟩
      rw [pk_us, if_neg (fx_mnz c)]
theorem cx_wn_product {x V : Nat} (hx : x < 14) (hV : V < fx_T) (sg : Int32) (pP : fx_pz pr 5 V) {post : SX → Prop} (K : ∀ L' S', fx_fill L L' (x * 5) 5 V → S' x = (if V = 0 then 0 else sg) → (∀ s, s ≠ x → S' s = S s) → post (tc, dp, oc, ht, L', S', o, g, pt, ob, rl, pr, qu, re, mu)) : wpX_writeNumber__product post (tc, dp, oc, ht, L, S, o, g, pt, ob, rl, pr, qu, re, mu) (nI x) sg := by
  refine ⟨fx_v14 hx, nm_r (e' := upd S x 0) (by rw [fx_k14 hx]) ⟨6, ?_⟩⟩
  exact cx_wn_product_l hx hV sg pP K 5 0 rfl L (upd S x 0) (fx_fill_0 L _ _) (by rw [pk_us, Nat.pow_zero, Nat.mod_one, if_pos rfl]) (fun s h => pk_un h)
theorem cx_wn_quotient_l {x V : Nat} (hx : x < 14) (hV : V < fx_T) (sg : Int32) (pP : fx_pz qu 5 V) {post : SX → Prop} (K : ∀ L' S', fx_fill L L' (x * 5) 5 V → S' x = (if V = 0 then 0 else sg) → (∀ s, s ≠ x → S' s = S s) → post (tc, dp, oc, ht, L', S', o, g, pt, ob, rl, pr, qu, re, mu)) : ∀ d i, i + d = 5 → ∀ L' S', fx_fill L L' (x * 5) i V → S' x = (if V % 100000000 ^ i = 0 then 0 else sg) → (∀ s, s ≠ x → S' s = S s) → wX_writeNumber__quotient_10 post (nI x) sg tc dp oc ht (d + 1) (nI i) L' S' o g pt ob rl pr qu re mu := by
  intro d
  induction d with
  | zero =>
    intro i hi L' S' hf hs hfr
    have : i = 5 := by omega
    subst this
    rw [fx_pow5, Nat.mod_eq_of_lt hV] at hs
    exact br_t fx_5 (K L' S' hf hs hfr)
  | succ d ih =>
    intro i hi L' S' hf hs hfr
    have hi5 : i < 5 := by omega
    have e1 : qu (nI i).toNatClampNeg = lN (fx_dg 100000000 V i) := by rw [nI_clamp (by omega)]; exact pP i hi5
    have b1 := fx_dgB V i
    refine br_f (fx_n5 hi5) ⟨vp_in_nI (by omega) (by omega), fx_v5 hx hi5, nm_r (e' := vp_updL L' (x * 5 + i) (lN (fx_dg 100000000 V i))) (by rw [fx_c5 hx hi5, e1]) ⟨vp_in_nI (by omega) (by omega), ?_⟩⟩
    by_cases c : fx_dg 100000000 V i = 0
    · refine br_t (by rw [e1, c]; rfl) (nm_r (nI_1 i) (ih (i + 1) (by omega) _ S' (fx_fill_s hf) ?_ hfr))
      rw [fx_ms, c, Nat.mul_zero, Nat.add_zero]
      exact hs
    · refine br_f (by rw [e1]; exact fun z => c ((fx_l0 (by omega)).mp z)) ⟨fx_v14 hx, nm_r (e' := upd S' x sg) (by rw [fx_k14 hx]) (nm_r (nI_1 i) (ih (i + 1) (by omega) _ _ (fx_fill_s hf) ?_ (fun s h => by rw [pk_un h]; exact hfr s h)))⟩
      rw [pk_us, if_neg (fx_mnz c)]
theorem cx_wn_quotient {x V : Nat} (hx : x < 14) (hV : V < fx_T) (sg : Int32) (pP : fx_pz qu 5 V) {post : SX → Prop} (K : ∀ L' S', fx_fill L L' (x * 5) 5 V → S' x = (if V = 0 then 0 else sg) → (∀ s, s ≠ x → S' s = S s) → post (tc, dp, oc, ht, L', S', o, g, pt, ob, rl, pr, qu, re, mu)) : wpX_writeNumber__quotient post (tc, dp, oc, ht, L, S, o, g, pt, ob, rl, pr, qu, re, mu) (nI x) sg := by
  refine ⟨fx_v14 hx, nm_r (e' := upd S x 0) (by rw [fx_k14 hx]) ⟨6, ?_⟩⟩
  exact cx_wn_quotient_l hx hV sg pP K 5 0 rfl L (upd S x 0) (fx_fill_0 L _ _) (by rw [pk_us, Nat.pow_zero, Nat.mod_one, if_pos rfl]) (fun s h => pk_un h)
theorem cx_wn_remainder_l {x V : Nat} (hx : x < 14) (hV : V < fx_T) (sg : Int32) (pP : fx_pz re 5 V) {post : SX → Prop} (K : ∀ L' S', fx_fill L L' (x * 5) 5 V → S' x = (if V = 0 then 0 else sg) → (∀ s, s ≠ x → S' s = S s) → post (tc, dp, oc, ht, L', S', o, g, pt, ob, rl, pr, qu, re, mu)) : ∀ d i, i + d = 5 → ∀ L' S', fx_fill L L' (x * 5) i V → S' x = (if V % 100000000 ^ i = 0 then 0 else sg) → (∀ s, s ≠ x → S' s = S s) → wX_writeNumber__remainder_10 post (nI x) sg tc dp oc ht (d + 1) (nI i) L' S' o g pt ob rl pr qu re mu := by
  intro d
  induction d with
  | zero =>
    intro i hi L' S' hf hs hfr
    have : i = 5 := by omega
    subst this
    rw [fx_pow5, Nat.mod_eq_of_lt hV] at hs
    exact br_t fx_5 (K L' S' hf hs hfr)
  | succ d ih =>
    intro i hi L' S' hf hs hfr
    have hi5 : i < 5 := by omega
    have e1 : re (nI i).toNatClampNeg = lN (fx_dg 100000000 V i) := by rw [nI_clamp (by omega)]; exact pP i hi5
    have b1 := fx_dgB V i
    refine br_f (fx_n5 hi5) ⟨vp_in_nI (by omega) (by omega), fx_v5 hx hi5, nm_r (e' := vp_updL L' (x * 5 + i) (lN (fx_dg 100000000 V i))) (by rw [fx_c5 hx hi5, e1]) ⟨vp_in_nI (by omega) (by omega), ?_⟩⟩
    by_cases c : fx_dg 100000000 V i = 0
    · refine br_t (by rw [e1, c]; rfl) (nm_r (nI_1 i) (ih (i + 1) (by omega) _ S' (fx_fill_s hf) ?_ hfr))
      rw [fx_ms, c, Nat.mul_zero, Nat.add_zero]
      exact hs
    · refine br_f (by rw [e1]; exact fun z => c ((fx_l0 (by omega)).mp z)) ⟨fx_v14 hx, nm_r (e' := upd S' x sg) (by rw [fx_k14 hx]) (nm_r (nI_1 i) (ih (i + 1) (by omega) _ _ (fx_fill_s hf) ?_ (fun s h => by rw [pk_un h]; exact hfr s h)))⟩
      rw [pk_us, if_neg (fx_mnz c)]
theorem cx_wn_remainder {x V : Nat} (hx : x < 14) (hV : V < fx_T) (sg : Int32) (pP : fx_pz re 5 V) {post : SX → Prop} (K : ∀ L' S', fx_fill L L' (x * 5) 5 V → S' x = (if V = 0 then 0 else sg) → (∀ s, s ≠ x → S' s = S s) → post (tc, dp, oc, ht, L', S', o, g, pt, ob, rl, pr, qu, re, mu)) : wpX_writeNumber__remainder post (tc, dp, oc, ht, L, S, o, g, pt, ob, rl, pr, qu, re, mu) (nI x) sg := by
  refine ⟨fx_v14 hx, nm_r (e' := upd S x 0) (by rw [fx_k14 hx]) ⟨6, ?_⟩⟩
  exact cx_wn_remainder_l hx hV sg pP K 5 0 rfl L (upd S x 0) (fx_fill_0 L _ _) (by rw [pk_us, Nat.pow_zero, Nat.mod_one, if_pos rfl]) (fun s h => pk_un h)
theorem fx_i2 (i j : Nat) : nI i + nI j = nI (i + j) := nI_add i j
theorem cx_ap_l {y V W i : Nat} (hy : y < 14) (hi : i < 5) (pY : fx_pl L (y * 5) 5 W) (hW : W < fx_T) {post : SX → Prop} (K : ∀ pr', fx_pz pr' 10 (V % 100000000 ^ (i + 1) * W) → post (tc, dp, oc, ht, L, S, o, g, pt, ob, rl, pr', qu, re, mu)) : ∀ d j, j + d = 5 → ∀ pr', (∀ k, k < i + j → pr' k = lN (fx_dg 100000000 (V % 100000000 ^ (i + 1) * W) k)) → (∀ k, i + j ≤ k → k < 10 → pr' k = lN (fx_dg 100000000 (V % 100000000 ^ i * W) k)) → wX_addToProduct_6 post (lN (fx_dg 100000000 V i)) (nI y) (nI i) tc dp oc ht (d + 1) (lN ((V % 100000000 ^ i * W % 100000000 ^ (i + j) + fx_dg 100000000 V i * (W % 100000000 ^ j) * 100000000 ^ i) / 100000000 ^ (i + j))) (nI j) L S o g pt ob rl pr' qu re mu := by
  have hW' : W < 100000000 ^ 5 := by rw [fx_pow5]; exact hW
  intro d
  induction d with
  | zero =>
    intro j hj pr' h1 h2
    have : j = 5 := by omega
    subst this
    rw [fx_row_e (by omega) hW']
    refine br_t fx_5 ⟨by rw [show (5 : Int32) = nI 5 from rfl, nI_add]; exact vp_in_nI (by omega) (by omega), nm_r (e' := vp_updL pr' (i + 5) (lN (fx_dg 100000000 (V % 100000000 ^ (i + 1) * W) (i + 5)))) (by rw [show (5 : Int32) = nI 5 from rfl, nI_add, nI_clamp (by omega)]) (K _ ?_)⟩
    intro k hk
    by_cases e : k = i + 5
    · subst e; rw [pk_uLs]
    · rw [pk_uLn e]
      by_cases c : k < i + 5
      · exact h1 k c
      · rw [h2 k (by omega) hk, fx_dg_hi (by omega) (fx_row_lt (by omega) hW') (by omega), fx_dg_hi (by omega) (fx_row_lt (by omega) hW') (by omega)]
  | succ d ih =>
    intro j hj pr' h1 h2
    have e1 : pr' (i + j) = lN (fx_dg 100000000 (V % 100000000 ^ i * W) (i + j)) := h2 _ (Nat.le_refl _) (by omega)
    have e2 : L (y * 5 + j) = lN (fx_dg 100000000 W j) := pY j (by omega)
    have b1 := fx_dgB (V % 100000000 ^ i * W) (i + j)
    have b2 := fx_dgB W j
    have b3 := fx_dgB V i
    have b4 := fx_row_b (B := 100000000) (by omega) (V % 100000000 ^ i * W) (fx_dg 100000000 V i) W i j
    have b5 : fx_dg 100000000 V i * fx_dg 100000000 W j ≤ 100000000 * 100000000 := Nat.mul_le_mul (by omega) (by omega)
    have ep : (nI i + nI j).toNatClampNeg = i + j := by rw [nI_add]; exact nI_clamp (by omega)
    have vp : vp_in (nI i + nI j) 10 := by rw [nI_add]; exact vp_in_nI (by omega) (by omega)
    refine br_f (fx_n5 (by omega)) ⟨vp, fx_v5 hy (by omega), nm_r (e' := lN (fx_dg 100000000 (V % 100000000 ^ i * W) (i + j) + fx_dg 100000000 V i * fx_dg 100000000 W j + (V % 100000000 ^ i * W % 100000000 ^ (i + j) + fx_dg 100000000 V i * (W % 100000000 ^ j) * 100000000 ^ i) / 100000000 ^ (i + j))) (by rw [ep, fx_c5 hy (by omega), e1, e2, lN_mul, lN_add, lN_add]) ⟨fx_Bne, vp, nm_r (e' := vp_updL pr' (i + j) (lN (fx_dg 100000000 (V % 100000000 ^ (i + 1) * W) (i + j)))) (by rw [ep, fx_lrem (by omega), fx_row_dg (by omega), ← fx_row_p]) ⟨fx_Bne, nm_r (by rw [fx_ldiv (by omega), fx_row_cy (by omega), Nat.add_assoc i j 1]) (nm_r (nI_1 j) (ih (j + 1) (by omega) _ ?_ ?_))⟩⟩⟩
    · intro k hk
      by_cases e : k = i + j
      · subst e; rw [pk_uLs]
      · rw [pk_uLn e]; exact h1 k (by omega)
    · intro k hk hk2
      rw [pk_uLn (by omega)]
      exact h2 k (by omega) hk2
theorem cx_ap {y V W i : Nat} (hy : y < 14) (hi : i < 5) (pY : fx_pl L (y * 5) 5 W) (hW : W < fx_T) (pP : fx_pz pr 10 (V % 100000000 ^ i * W)) {post : SX → Prop} (K : ∀ pr', fx_pz pr' 10 (V % 100000000 ^ (i + 1) * W) → post (tc, dp, oc, ht, L, S, o, g, pt, ob, rl, pr', qu, re, mu)) : wpX_addToProduct post (tc, dp, oc, ht, L, S, o, g, pt, ob, rl, pr, qu, re, mu) (lN (fx_dg 100000000 V i)) (nI y) (nI i) := by
  refine ⟨6, ?_⟩
  have h := cx_ap_l (tc := tc) (dp := dp) (oc := oc) (ht := ht) (S := S) (o := o) (g := g) (pt := pt) (ob := ob) (rl := rl) (qu := qu) (re := re) (mu := mu) hy hi pY hW K 5 0 rfl pr (by
    intro k hk
    rw [fx_row_p, fx_lowdg (by omega) _ _ (show k < i by omega)]
    exact pP k (by omega)) (fun k _ hk => pP k hk)
  have hz : (V % 100000000 ^ i * W % 100000000 ^ (i + 0) + fx_dg 100000000 V i * (W % 100000000 ^ 0) * 100000000 ^ i) / 100000000 ^ (i + 0) = 0 := by
    simp only [Nat.add_zero, Nat.pow_zero, Nat.mod_one, Nat.mul_zero, Nat.zero_mul]
    exact Nat.div_eq_of_lt (Nat.mod_lt _ (fx_pp (by omega) i))
  rw [hz] at h
  exact h
theorem fx_n10 {i : Nat} (h : i < 10) : ¬ (10 : Int32) ≤ nI i := nI_ge (b := 10) h (by omega)
theorem cx_mul_c {x y V W m k : Nat} (hx : x < 14) (hy : y < 14) (hm : m < 2) (hk : k < 2) (sX : S x = fx_sg V m) (sY : S y = fx_sg W k) (pP : fx_pz pr 10 (V * W)) (hVW : V * W < 100000000 ^ 10) {post : Int32 → SX → Prop} (K : ∀ L' S', fx_fr L L' (x * 5) 5 → (∀ s, s ≠ x → S' s = S s) → (V * W < fx_T → xs_pic L' S' x (V * W) (if m = k then 0 else 1)) → post (if V * W < fx_T then 0 else 2) (tc, dp, oc, ht, L', S', o, g, pt, ob, rl, pr, qu, re, mu)) : ∀ d i, i + d = 10 → 5 ≤ i → (∀ j, 5 ≤ j → j < i → fx_dg 100000000 (V * W) j = 0) → wX_multiply_52 post (nI x) (nI y) tc dp oc ht L S o g pt ob rl pr qu re mu (d + 1) (nI i) := by
  intro d
  induction d with
  | zero =>
    intro i hi _ hz
    have : i = 10 := by omega
    subst this
    have hlt : V * W < fx_T := by rw [← fx_pow5]; exact fx_below 10 5 hVW (by omega) hz
    refine br_t (by decide) ⟨fx_v14 hx, fx_v14 hy, cx_wn_product hx hlt _ (fun i hi => pP i (by omega)) ?_⟩
    intro L' S' hf hs hfr
    have K' := K L' S' hf.1 hfr (fun _ => ⟨hf.2, by
      rw [hs, fx_k14 hx, fx_k14 hy, sX, sY]
      by_cases z : V * W = 0
      · rw [if_pos z, z, fx_sg_0]
      · rw [if_neg z]
        exact fx_sg_mul hm hk (fun e => z (by rw [e, Nat.zero_mul])) (fun e => z (by rw [e, Nat.mul_zero])) z⟩)
    rw [if_pos hlt] at K'
    exact K'
  | succ d ih =>
    intro i hi h5 hz
    have e1 : pr (nI i).toNatClampNeg = lN (fx_dg 100000000 (V * W) i) := by rw [nI_clamp (by omega)]; exact pP i (by omega)
    have b1 := fx_dgB (V * W) i
    refine br_f (fx_n10 (by omega)) ⟨vp_in_nI (by omega) (by omega), ?_⟩
    by_cases c : fx_dg 100000000 (V * W) i = 0
    · refine br_t (by rw [e1, c]; rfl) (nm_r (nI_1 i) (ih (i + 1) (by omega) (by omega) ?_))
      intro j h1 h2
      by_cases e : j = i
      · subst e; exact c
      · exact hz j h1 (by omega)
    · refine br_f (by rw [e1]; exact fun z => c ((fx_l0 (by omega)).mp z)) ?_
      have hge : ¬ V * W < fx_T := by
        have h1 := fx_dg_ge c
        have h2 := Nat.pow_le_pow_right (n := 100000000) (by omega) h5
        rw [fx_pow5] at h2
        omega
      have K' := K L S (fun _ _ => rfl) (fun _ _ => rfl) (fun h => absurd h hge)
      rw [if_neg hge] at K'
      exact K'
theorem cx_mul_b {x y V W m k : Nat} (hx : x < 14) (hy : y < 14) (hm : m < 2) (hk : k < 2) (pX : xs_pic L S x V m) (pY : xs_pic L S y W k) (hV : V < fx_T) (hW : W < fx_T) {post : Int32 → SX → Prop} (K : ∀ L' S' pr', fx_fr L L' (x * 5) 5 → (∀ s, s ≠ x → S' s = S s) → (V * W < fx_T → xs_pic L' S' x (V * W) (if m = k then 0 else 1)) → post (if V * W < fx_T then 0 else 2) (tc, dp, oc, ht, L', S', o, g, pt, ob, rl, pr', qu, re, mu)) : ∀ d i, i + d = 5 → ∀ pr', fx_pz pr' 10 (V % 100000000 ^ i * W) → wX_multiply_23 post (nI x) (nI y) (d + 1) (nI i) tc dp oc ht L S o g pt ob rl pr' qu re mu := by
  intro d
  induction d with
  | zero =>
    intro i hi pr' hp
    have : i = 5 := by omega
    subst this
    have hV' := hV
    rw [← fx_pow5] at hV'
    rw [Nat.mod_eq_of_lt hV'] at hp
    have hlt : V * W < 100000000 ^ 10 := by
      rw [show (100000000 : Nat) ^ 10 = 100000000 ^ 5 * 100000000 ^ 5 by rw [← Nat.pow_add], fx_pow5]
      exact fx_lt_mul hV hW
    exact br_t fx_5 ⟨6, cx_mul_c hx hy hm hk pX.2 pY.2 hp hlt (fun L' S' => K L' S' pr') 5 5 rfl (by omega) (fun j h1 h2 => absurd h1 (by omega))⟩
  | succ d ih =>
    intro i hi pr' hp
    have e1 : L (nI x * 5 + nI i).toNatClampNeg = lN (fx_dg 100000000 V i) := by rw [fx_c5 hx (by omega)]; exact pX.1 i (by omega)
    refine br_f (fx_n5 (by omega)) ⟨fx_v5 hx (by omega), ?_⟩
    rw [e1]
    refine cx_ap hy (by omega) pY.1 hW hp ?_
    intro pr2 hp2
    exact nm_r (nI_1 i) (ih (i + 1) (by omega) pr2 hp2)
theorem cx_mul_a {x y V W m k : Nat} (hx : x < 14) (hy : y < 14) (hm : m < 2) (hk : k < 2) (pX : xs_pic L S x V m) (pY : xs_pic L S y W k) (hV : V < fx_T) (hW : W < fx_T) {post : Int32 → SX → Prop} (K : ∀ L' S' pr', fx_fr L L' (x * 5) 5 → (∀ s, s ≠ x → S' s = S s) → (V * W < fx_T → xs_pic L' S' x (V * W) (if m = k then 0 else 1)) → post (if V * W < fx_T then 0 else 2) (tc, dp, oc, ht, L', S', o, g, pt, ob, rl, pr', qu, re, mu)) : ∀ d i, i + d = 10 → ∀ pr', (∀ j, j < i → pr' j = 0) → wX_multiply_2 post (nI x) (nI y) tc dp oc ht (d + 1) (nI i) L S o g pt ob rl pr' qu re mu := by
  intro d
  induction d with
  | zero =>
    intro i hi pr' hp
    have : i = 10 := by omega
    subst this
    refine br_t (by decide) ⟨6, cx_mul_b hx hy hm hk pX pY hV hW K 5 0 rfl pr' ?_⟩
    intro j hj
    rw [hp j hj, Nat.pow_zero, Nat.mod_one, Nat.zero_mul, fx_dg_0]
    rfl
  | succ d ih =>
    intro i hi pr' hp
    refine br_f (fx_n10 (by omega)) ⟨vp_in_nI (by omega) (by omega), nm_r (e' := vp_updL pr' i 0) (by rw [nI_clamp (by omega)]) (nm_r (nI_1 i) (ih (i + 1) (by omega) _ ?_))⟩
    intro j hj
    by_cases e : j = i
    · subst e; exact pk_uLs
    · rw [pk_uLn e]; exact hp j (by omega)
theorem cx_mul {x y V W m k : Nat} (hx : x < 14) (hy : y < 14) (hm : m < 2) (hk : k < 2) (pX : xs_pic L S x V m) (pY : xs_pic L S y W k) (hV : V < fx_T) (hW : W < fx_T) {post : Int32 → SX → Prop} (K : ∀ L' S' pr', fx_fr L L' (x * 5) 5 → (∀ s, s ≠ x → S' s = S s) → (V * W < fx_T → xs_pic L' S' x (V * W) (if m = k then 0 else 1)) → post (if V * W < fx_T then 0 else 2) (tc, dp, oc, ht, L', S', o, g, pt, ob, rl, pr', qu, re, mu)) : wpX_multiply post (tc, dp, oc, ht, L, S, o, g, pt, ob, rl, pr, qu, re, mu) (nI x) (nI y) :=
  ⟨11, cx_mul_a hx hy hm hk pX pY hV hW K 10 0 rfl pr (fun j hj => absurd hj (by omega))⟩
end
