/-! the component: long division -/
theorem fx_T0 : 0 < fx_T := by decide
section
variable {tc dp oc ht : Int32} {L : Nat → Int64} {S o g pt ob rl : Nat → Int32} {pr qu re mu : Nat → Int64}
theorem cx_bd_l {R a : Nat} (ha : a < 100000000) {post : SX → Prop} (K : ∀ re', fx_pz re' 6 (R * 100000000 + a) → post (tc, dp, oc, ht, L, S, o, g, pt, ob, rl, pr, qu, re', mu)) : ∀ i, i ≤ 5 → ∀ re', (∀ k, k ≤ i → re' k = lN (fx_dg 100000000 R k)) → (∀ k, i < k → k < 6 → re' k = lN (fx_dg 100000000 (R * 100000000 + a) k)) → wX_bringDown_2 post (lN a) tc dp oc ht (i + 1) (nI i) L S o g pt ob rl pr qu re' mu := by
  intro i
  induction i with
  | zero =>
    intro _ re' h1 h2
    refine br_t (by decide) (nm_e (K _ ?_))
    intro k hk
    by_cases e : k = 0
    · subst e; rw [pk_uLs, fx_shift_0 _ _ ha]
    · rw [pk_uLn e]; exact h2 k (by omega) hk
  | succ i ih =>
    intro hi re' h1 h2
    have e1 : (nI (i + 1) - 1).toNatClampNeg = i := by rw [nI_pred]; exact nI_clamp (by omega)
    refine br_f (nI_nle (by omega) (by omega)) ⟨by rw [nI_pred]; exact vp_in_nI (by omega) (by omega), vp_in_nI (by omega) (by omega), nm_r (e' := vp_updL re' (i + 1) (lN (fx_dg 100000000 R i))) (by rw [e1, nI_clamp (by omega), h1 i (by omega)]) (nm_r (pk_m1 i) (ih (by omega) _ ?_ ?_))⟩
    · intro k hk
      rw [pk_uLn (by omega)]; exact h1 k (by omega)
    · intro k hk hk2
      by_cases e : k = i + 1
      · subst e; rw [pk_uLs, fx_shift_s _ _ _ ha]
      · rw [pk_uLn e]; exact h2 k (by omega) hk2
theorem cx_bd {R a : Nat} (ha : a < 100000000) (pR : fx_pz re 6 R) {post : SX → Prop} (K : ∀ re', fx_pz re' 6 (R * 100000000 + a) → post (tc, dp, oc, ht, L, S, o, g, pt, ob, rl, pr, qu, re', mu)) : wpX_bringDown post (tc, dp, oc, ht, L, S, o, g, pt, ob, rl, pr, qu, re, mu) (lN a) :=
  ⟨6, cx_bd_l ha K 5 (Nat.le_refl 5) re (fun k hk => pR k (by omega)) (fun k h1 h2 => absurd h1 (by omega))⟩
theorem cx_mm_l {y W t : Nat} (hy : y < 14) (pY : fx_pl L (y * 5) 5 W) (hW : W < fx_T) (ht' : t < 100000000) {post : SX → Prop} (K : ∀ mu', fx_pz mu' 6 (W * t) → post (tc, dp, oc, ht, L, S, o, g, pt, ob, rl, pr, qu, re, mu')) : ∀ d i, i + d = 5 → ∀ mu', fx_pz mu' i (W * t) → wX_makeMultiple_6 post (nI y) (lN t) tc dp oc ht (d + 1) (lN (W % 100000000 ^ i * t / 100000000 ^ i)) (nI i) L S o g pt ob rl pr qu re mu' := by
  have hW' : W < 100000000 ^ 5 := by rw [fx_pow5]; exact hW
  intro d
  induction d with
  | zero =>
    intro i hi mu' hp
    have : i = 5 := by omega
    subst this
    rw [fx_mul_e (by omega) hW' ht']
    refine br_t fx_5 (nm_e (K _ ?_))
    intro k hk
    by_cases e : k = 5
    · subst e; rw [pk_uLs]
    · rw [pk_uLn e]; exact hp k (by omega)
  | succ d ih =>
    intro i hi mu' hp
    have e2 : L (y * 5 + i) = lN (fx_dg 100000000 W i) := pY i (by omega)
    have b2 := fx_dgB W i
    have b4 := fx_mul_b (B := 100000000) (by omega) W t i
    have b5 : fx_dg 100000000 W i * t ≤ 100000000 * 100000000 := Nat.mul_le_mul (by omega) (by omega)
    refine br_f (fx_n5 (by omega)) ⟨fx_v5 hy (by omega), nm_r (e' := lN (fx_dg 100000000 W i * t + W % 100000000 ^ i * t / 100000000 ^ i)) (by rw [fx_c5 hy (by omega), e2, lN_mul, lN_add]) ⟨fx_Bne, vp_in_nI (by omega) (by omega), nm_r (e' := vp_updL mu' i (lN (fx_dg 100000000 (W * t) i))) (by rw [nI_clamp (by omega), fx_lrem (by omega), fx_mul_dg (by omega)]) ⟨fx_Bne, nm_r (e' := lN (W % 100000000 ^ (i + 1) * t / 100000000 ^ (i + 1))) (by rw [fx_ldiv (by omega), fx_mul_cy (by omega)]) (nm_r (nI_1 i) (ih (i + 1) (by omega) _ ?_))⟩⟩⟩
    intro k hk
    by_cases e : k = i
    · subst e; rw [pk_uLs]
    · rw [pk_uLn e]; exact hp k (by omega)
theorem cx_mm {y W t : Nat} (hy : y < 14) (pY : fx_pl L (y * 5) 5 W) (hW : W < fx_T) (ht' : t < 100000000) {post : SX → Prop} (K : ∀ mu', fx_pz mu' 6 (W * t) → post (tc, dp, oc, ht, L, S, o, g, pt, ob, rl, pr, qu, re, mu')) : wpX_makeMultiple post (tc, dp, oc, ht, L, S, o, g, pt, ob, rl, pr, qu, re, mu) (nI y) (lN t) := by
  refine ⟨6, ?_⟩
  have h := cx_mm_l (tc := tc) (dp := dp) (oc := oc) (ht := ht) (S := S) (o := o) (g := g) (pt := pt) (ob := ob) (rl := rl) (pr := pr) (qu := qu) (re := re) hy pY hW ht' K 5 0 rfl mu (fun k hk => absurd hk (by omega))
  have hz : W % 100000000 ^ 0 * t / 100000000 ^ 0 = 0 := by
    simp only [Nat.pow_zero, Nat.mod_one, Nat.zero_mul, Nat.zero_div]
  rw [hz] at h
  exact h
theorem cx_gi_l {M R : Nat} (pM : fx_pz mu 6 M) (pR : fx_pz re 6 R) {post : Int32 → Prop} (K : post (if M ≤ R then 1 else 0)) : ∀ i, i ≤ 6 → M / 100000000 ^ i = R / 100000000 ^ i → wX_multipleGoesIn_2 post tc dp oc ht L S o g pt ob rl pr qu re mu (i + 1) (nI i + (-1)) := by
  intro i
  induction i with
  | zero =>
    intro _ he
    rw [Nat.pow_zero, Nat.div_one, Nat.div_one] at he
    subst he
    rw [if_pos (Nat.le_refl _)] at K
    exact br_t fx_m1z K
  | succ i ih =>
    intro hi he
    have b1 := fx_dgB M i
    have b2 := fx_dgB R i
    have e1 : mu (nI i).toNatClampNeg = lN (fx_dg 100000000 M i) := by rw [nI_clamp (by omega)]; exact pM i (by omega)
    have e2 : re (nI i).toNatClampNeg = lN (fx_dg 100000000 R i) := by rw [nI_clamp (by omega)]; exact pR i (by omega)
    have v6 : vp_in (nI i) 6 := vp_in_nI (by omega) (by omega)
    rw [pk_m1]
    refine br_f (nI_pos (by omega)) ⟨v6, v6, ?_⟩
    by_cases c : fx_dg 100000000 M i = fx_dg 100000000 R i
    · exact br_t (by rw [e1, e2, c]) (nm_e (ih (by omega) (fx_top_eq he c)))
    · refine br_f (by rw [e1, e2]; exact fun z => c ((lN_eq (by omega) (by omega)).mp z)) ⟨v6, v6, ?_⟩
      by_cases c2 : fx_dg 100000000 M i < fx_dg 100000000 R i
      · have := fx_top_lt he c2
        rw [if_pos (by omega)] at K
        exact br_f (by rw [e1, e2]; exact fun z => by have := (lN_le (by omega) (by omega)).mp z; omega) K
      · have := fx_top_lt he.symm (show fx_dg 100000000 R i < fx_dg 100000000 M i by omega)
        rw [if_neg (by omega)] at K
        exact br_t (by rw [e1, e2]; exact (lN_le (by omega) (by omega)).mpr (by omega)) K
theorem cx_gi {M R : Nat} (pM : fx_pz mu 6 M) (pR : fx_pz re 6 R) (hM : M < 100000000 ^ 6) (hR : R < 100000000 ^ 6) {post : Int32 → Prop} (K : post (if M ≤ R then 1 else 0)) : wpX_multipleGoesIn post (tc, dp, oc, ht, L, S, o, g, pt, ob, rl, pr, qu, re, mu) := by
  refine ⟨7, ?_⟩
  have h := cx_gi_l (tc := tc) (dp := dp) (oc := oc) (ht := ht) (L := L) (S := S) (o := o) (g := g) (pt := pt) (ob := ob) (rl := rl) (pr := pr) (qu := qu) pM pR K 6 (Nat.le_refl 6) (by rw [Nat.div_eq_of_lt hM, Nat.div_eq_of_lt hR])
  rw [pk_m1] at h
  exact h
theorem cx_to_l {M R : Nat} (pM : fx_pz mu 6 M) (h : M ≤ R) {post : SX → Prop} (K : ∀ re', fx_pz re' 6 (R - M) → post (tc, dp, oc, ht, L, S, o, g, pt, ob, rl, pr, qu, re', mu)) : ∀ d i, i + d = 6 → ∀ re', (∀ k, k < i → re' k = lN (fx_dg 100000000 (R - M) k)) → (∀ k, i ≤ k → k < 6 → re' k = lN (fx_dg 100000000 R k)) → wX_takeOutMultiple_4 post tc dp oc ht (d + 1) (lN (fx_bw 100000000 R M i)) (nI i) L S o g pt ob rl pr qu re' mu := by
  intro d
  induction d with
  | zero =>
    intro i hi re' h1 h2
    have : i = 6 := by omega
    subst this
    exact br_t (by decide) (K re' h1)
  | succ d ih =>
    intro i hi re' h1 h2
    have b1 := fx_dgB R i
    have b2 := fx_dgB M i
    have b3 := fx_bw_le 100000000 R M i
    have hs := fx_bw_s (B := 100000000) (by omega) R M i
    have hd := fx_sub_d2 (B := 100000000) (by omega) R M i h
    have v6 : vp_in (nI i) 6 := vp_in_nI (by omega) (by omega)
    have ec : (nI i).toNatClampNeg = i := nI_clamp (by omega)
    refine br_f (nI_ge (b := 6) (by omega) (by omega)) ⟨v6, v6, nm_r (e' := lN (fx_dg 100000000 R i) - lN (fx_dg 100000000 M i) - lN (fx_bw 100000000 R M i)) (by rw [ec, h2 i (by omega) (by omega), pM i (by omega)]) ?_⟩
    have hn := fx_dneg (a := fx_dg 100000000 R i) (b := fx_dg 100000000 M i) (c := fx_bw 100000000 R M i) (by omega) (by omega) b3
    have ih' := ih (i + 1) (by omega) (vp_updL re' i (lN (fx_dg 100000000 (R - M) i))) (by
      intro k hk
      by_cases e : k = i
      · subst e; rw [pk_uLs]
      · rw [pk_uLn e]; exact h1 k (by omega)) (by
      intro k hk hk2
      rw [pk_uLn (by omega)]; exact h2 k (by omega) hk2)
    by_cases c : fx_dg 100000000 R i < fx_dg 100000000 M i + fx_bw 100000000 R M i
    · rw [if_pos c] at hs hd
      rw [hs, hd] at ih'
      exact br_f (fun z => Int64.not_le.mpr (hn.mpr c) z) ⟨v6, nm_r (by rw [ec, fx_dval1 (by omega) b3]) (nm_r (nI_1 i) ih')⟩
    · rw [if_neg c] at hs hd
      rw [hs, hd] at ih'
      exact br_t (Int64.not_lt.mp (fun z => c (hn.mp z))) ⟨v6, nm_r (by rw [ec, fx_dval0 c]) (nm_r (nI_1 i) ih')⟩
theorem cx_to {M R : Nat} (pM : fx_pz mu 6 M) (pR : fx_pz re 6 R) (h : M ≤ R) {post : SX → Prop} (K : ∀ re', fx_pz re' 6 (R - M) → post (tc, dp, oc, ht, L, S, o, g, pt, ob, rl, pr, qu, re', mu)) : wpX_takeOutMultiple post (tc, dp, oc, ht, L, S, o, g, pt, ob, rl, pr, qu, re, mu) := by
  refine ⟨7, ?_⟩
  have h := cx_to_l (tc := tc) (dp := dp) (oc := oc) (ht := ht) (L := L) (S := S) (o := o) (g := g) (pt := pt) (ob := ob) (rl := rl) (pr := pr) (qu := qu) pM h K 6 0 rfl re (fun k hk => absurd hk (by omega)) (fun k _ hk => pR k hk)
  rw [fx_bw_0] at h
  exact h
theorem cx_ts_l {y W R : Nat} (hy : y < 14) (pY : fx_pl L (y * 5) 5 W) (hW : W < fx_T) (hR : R < 100000000 * W) {post : Int64 → SX → Prop} (K : ∀ re' mu', fx_pz re' 6 (R % W) → post (lN (R / W)) (tc, dp, oc, ht, L, S, o, g, pt, ob, rl, pr, qu, re', mu')) : ∀ b, b ≤ 27 → ∀ r t re' mu', R = r + W * t → r < W * 2 ^ b → fx_pz re' 6 r → wX_takeOutMultiples_6 post (nI y) (b + 1) (lN t) (nI b + (-1)) tc dp oc ht L S o g pt ob rl pr qu re' mu' := by
  have h6 : 100000000 * W < 100000000 ^ 6 := by
    have : (100000000 : Nat) ^ 6 = 100000000 * fx_T := by decide
    omega
  intro b
  induction b with
  | zero =>
    intro _ r t re' mu' e1 e2 hp
    rw [Nat.pow_zero, Nat.mul_one] at e2
    obtain ⟨q1, q2⟩ := fx_dm e1 e2
    rw [q2] at hp
    rw [q1]
    exact br_t fx_m1z (K re' mu' hp)
  | succ b ih =>
    intro hb r t re' mu' e1 e2 hp
    have hb26 : b ≤ 26 := by omega
    have h2b : 2 ^ b ≤ 2 ^ 26 := Nat.pow_le_pow_right (by omega) hb26
    have hM : W * 2 ^ b < 100000000 ^ 6 := by
      have h3 : W * 2 ^ b ≤ W * 2 ^ 26 := Nat.mul_le_mul_left W h2b
      omega
    rw [pk_m1]
    refine br_f (nI_pos (by omega)) (nm_r (e' := lN (2 ^ b)) (by rw [show (1 : Int64) = lN 1 from rfl, wb_shl 1 (by omega), Nat.one_mul]) ?_)
    refine cx_mm hy pY hW (by omega) ?_
    intro mu2 hmu
    refine cx_gi hmu hp hM (by omega) ?_
    rw [Nat.pow_succ, ← Nat.mul_assoc] at e2
    by_cases c : W * 2 ^ b ≤ r
    · rw [if_pos c]
      refine br_f (by decide) (cx_to hmu hp c ?_)
      intro re2 hre
      refine nm_r (lN_add _ _) (nm_e (ih (by omega) (r - W * 2 ^ b) (t + 2 ^ b) re2 mu2 ?_ (by omega) hre))
      rw [Nat.mul_add]
      omega
    · rw [if_neg c]
      exact br_t rfl (nm_e (ih (by omega) r t re' mu2 e1 (by omega) hp))
theorem cx_ts {y W R : Nat} (hy : y < 14) (pY : fx_pl L (y * 5) 5 W) (hW : W < fx_T) (hR : R < 100000000 * W) (pR : fx_pz re 6 R) {post : Int64 → SX → Prop} (K : ∀ re' mu', fx_pz re' 6 (R % W) → post (lN (R / W)) (tc, dp, oc, ht, L, S, o, g, pt, ob, rl, pr, qu, re', mu')) : wpX_takeOutMultiples post (tc, dp, oc, ht, L, S, o, g, pt, ob, rl, pr, qu, re, mu) (nI y) := by
  refine ⟨28, ?_⟩
  have h := cx_ts_l (tc := tc) (dp := dp) (oc := oc) (ht := ht) (S := S) (o := o) (g := g) (pt := pt) (ob := ob) (rl := rl) (pr := pr) (qu := qu) hy pY hW hR K 27 (Nat.le_refl 27) R 0 re mu (by omega) (by omega) pR
  rw [pk_m1] at h
  exact h
theorem cx_div_b {x y V m W k : Nat} {op : Int32} (hx : x < 14) (hy : y < 14) (hm : m < 2) (hk : k < 2) (pX : xs_pic L S x V m) (pY : xs_pic L S y W k) (hV : V < fx_T) (hW : W < fx_T) (hW0 : W ≠ 0) {post : Int32 → SX → Prop} (K : ∀ L' S' qu' re' mu', fx_fr L L' (x * 5) 5 → (∀ s, s ≠ x → S' s = S s) → xs_pic L' S' x (if op = 6 then V / W else V % W) (if op = 6 then (if m = k then 0 else 1) else m) → post 0 (tc, dp, oc, ht, L', S', o, g, pt, ob, rl, pr, qu', re', mu')) : ∀ i, i ≤ 5 → ∀ qu' re' mu', fx_pz re' 6 (V / 100000000 ^ i % W) → (∀ j, i ≤ j → j < 5 → qu' j = lN (fx_dg 100000000 (V / W) j)) → wX_divide_38 post op (nI x) (nI y) (i + 1) (nI i + (-1)) tc dp oc ht L S o g pt ob rl pr qu' re' mu' := by
  intro i
  induction i with
  | zero =>
    intro _ qu' re' mu' hr hq
    rw [Nat.pow_zero, Nat.div_one] at hr
    have hWp : 0 < W := by omega
    refine br_t fx_m1z ?_
    by_cases c : op = 6
    · rw [if_pos c, if_pos c] at K
      have hlt : V / W < fx_T := Nat.lt_of_le_of_lt (Nat.div_le_self V W) hV
      refine br_t c ⟨fx_v14 hx, fx_v14 hy, cx_wn_quotient hx hlt _ (fun j hj => hq j (by omega) hj) ?_⟩
      intro L' S' hf hs hfr
      refine K L' S' qu' re' mu' hf.1 hfr ⟨hf.2, ?_⟩
      rw [hs, fx_k14 hx, fx_k14 hy, pX.2, pY.2]
      by_cases z : V / W = 0
      · rw [if_pos z, z, fx_sg_0]
      · rw [if_neg z]
        exact fx_sg_mul hm hk (fun e => z (by rw [e, Nat.zero_div])) hW0 z
    · rw [if_neg c, if_neg c] at K
      have hlt : V % W < fx_T := Nat.lt_trans (Nat.mod_lt V hWp) hW
      refine br_f c ⟨fx_v14 hx, cx_wn_remainder hx hlt _ (fun j hj => hr j (by omega)) ?_⟩
      intro L' S' hf hs hfr
      refine K L' S' qu' re' mu' hf.1 hfr ⟨hf.2, ?_⟩
      rw [hs, fx_k14 hx, pX.2]
      by_cases z : V % W = 0
      · rw [if_pos z, z, fx_sg_0]
      · rw [if_neg z]
        exact fx_sg_nz (fun e => z (by rw [e, Nat.zero_mod])) z m
  | succ i ih =>
    intro hi qu' re' mu' hr hq
    have hWp : 0 < W := by omega
    obtain ⟨s1, s2, s3⟩ := fx_div_step (B := 100000000) (by omega) V W i hWp
    have e1 : L (nI x * 5 + nI i).toNatClampNeg = lN (fx_dg 100000000 V i) := by rw [fx_c5 hx (by omega)]; exact pX.1 i (by omega)
    rw [pk_m1]
    refine br_f (nI_pos (by omega)) ⟨fx_v5 hx (by omega), ?_⟩
    rw [e1]
    refine cx_bd (fx_dgB V i) hr ?_
    intro re2 hr2
    refine cx_ts hy pY.1 hW s3 hr2 ?_
    intro re3 mu3 hr3
    rw [s1]
    rw [s2] at hr3
    refine ⟨vp_in_nI (by omega) (by omega), nm_r (e' := vp_updL qu' i (lN (fx_dg 100000000 (V / W) i))) (by rw [nI_clamp (by omega)]) (nm_e (ih (by omega) _ re3 mu3 hr3 ?_))⟩
    intro j h1 h2
    by_cases e : j = i
    · subst e; rw [pk_uLs]
    · rw [pk_uLn e]; exact hq j (by omega) h2
theorem cx_div_a {x y V m W k : Nat} {op : Int32} (hx : x < 14) (hy : y < 14) (hm : m < 2) (hk : k < 2) (pX : xs_pic L S x V m) (pY : xs_pic L S y W k) (hV : V < fx_T) (hW : W < fx_T) (hW0 : W ≠ 0) {post : Int32 → SX → Prop} (K : ∀ L' S' qu' re' mu', fx_fr L L' (x * 5) 5 → (∀ s, s ≠ x → S' s = S s) → xs_pic L' S' x (if op = 6 then V / W else V % W) (if op = 6 then (if m = k then 0 else 1) else m) → post 0 (tc, dp, oc, ht, L', S', o, g, pt, ob, rl, pr, qu', re', mu')) : ∀ d i, i + d = 6 → ∀ re', (∀ j, j < i → re' j = 0) → wX_divide_14 post op (nI x) (nI y) tc dp oc ht (d + 1) (nI i) L S o g pt ob rl pr qu re' mu := by
  intro d
  induction d with
  | zero =>
    intro i hi re' hp
    have : i = 6 := by omega
    subst this
    refine br_t (by decide) ⟨6, ?_⟩
    have h := cx_div_b (tc := tc) (dp := dp) (oc := oc) (ht := ht) (o := o) (g := g) (pt := pt) (ob := ob) (rl := rl) (pr := pr) hx hy hm hk pX pY hV hW hW0 K 5 (Nat.le_refl 5) qu re' mu (by
      intro j hj
      rw [hp j hj, fx_pow5, Nat.div_eq_of_lt hV, Nat.zero_mod, fx_dg_0]
      rfl) (fun j h1 h2 => absurd h1 (by omega))
    rw [pk_m1] at h
    exact h
  | succ d ih =>
    intro i hi re' hp
    refine br_f (nI_ge (b := 6) (by omega) (by omega)) ⟨vp_in_nI (by omega) (by omega), nm_r (e' := vp_updL re' i 0) (by rw [nI_clamp (by omega)]) (nm_r (nI_1 i) (ih (i + 1) (by omega) _ ?_))⟩
    intro j hj
    by_cases e : j = i
    · subst e; exact pk_uLs
    · rw [pk_uLn e]; exact hp j (by omega)
theorem cx_div {x y V m W k : Nat} {op : Int32} (hx : x < 14) (hy : y < 14) (hm : m < 2) (hk : k < 2) (pX : xs_pic L S x V m) (pY : xs_pic L S y W k) (hV : V < fx_T) (hW : W < fx_T) {post : Int32 → SX → Prop} (K0 : W = 0 → post 1 (tc, dp, oc, ht, L, S, o, g, pt, ob, rl, pr, qu, re, mu)) (K : W ≠ 0 → ∀ L' S' qu' re' mu', fx_fr L L' (x * 5) 5 → (∀ s, s ≠ x → S' s = S s) → xs_pic L' S' x (if op = 6 then V / W else V % W) (if op = 6 then (if m = k then 0 else 1) else m) → post 0 (tc, dp, oc, ht, L', S', o, g, pt, ob, rl, pr, qu', re', mu')) : wpX_divide post (tc, dp, oc, ht, L, S, o, g, pt, ob, rl, pr, qu, re, mu) op (nI x) (nI y) := by
  refine ⟨fx_v14 hy, ?_⟩
  by_cases z : W = 0
  · refine br_t (by rw [fx_k14 hy, pY.2, z, fx_sg_0]) (K0 z)
  · exact br_f (by rw [fx_k14 hy, pY.2]; exact fx_sg_ne W z k) ⟨7, cx_div_a hx hy hm hk pX pY hV hW z (K z) 6 0 rfl re (fun j hj => absurd hj (by omega))⟩
theorem cx_cn {x y V m W k : Nat} (hx : x < 14) (hy : y < 14) (pX : xs_pic L S x V m) (pY : xs_pic L S y W k) (hV : V < fx_T) (hW : W < fx_T) {post : Int32 → Prop} (K : post (fx_ord V m W k)) : wpX_compareNumbers post (tc, dp, oc, ht, L, S, o, g, pt, ob, rl, pr, qu, re, mu) (nI x) (nI y) := by
  refine ⟨fx_v14 hx, fx_v14 hy, ?_⟩
  unfold fx_ord at K
  rw [fx_k14 hx, fx_k14 hy, pX.2, pY.2]
  by_cases c : fx_sg V m = fx_sg W k
  · rw [if_pos c] at K
    exact br_t c (cx_cm hx hy pX.1 pY.1 hV hW ⟨fx_v14 hx, K⟩)
  · rw [if_neg c] at K
    refine br_f c ⟨fx_v14 hx, fx_v14 hy, ?_⟩
    by_cases c2 : fx_sg V m < fx_sg W k
    · rw [if_pos c2] at K
      exact br_f (Int32.not_le.mpr c2) K
    · rw [if_neg c2] at K
      exact br_t (Int32.not_lt.mp c2) K
end
