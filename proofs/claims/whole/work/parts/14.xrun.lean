/-! the component: the run, and what is read -/
section
variable {tc dp oc ht : Int32} {L : Nat → Int64} {S o g pt ob rl : Nat → Int32} {pr qu re mu : Nat → Int64}
theorem cx_stop {post : Int32 → SX → Prop} {c x y : Int32} (d : Nat) (hc : c ≠ 0) (K : post c (tc, dp, oc, ht, L, S, o, g, pt, ob, rl, pr, qu, re, mu)) : wX_run_28 post (d + 1) x c y tc dp oc ht L S o g pt ob rl pr qu re mu := by
  by_cases h1 : 8640 ≤ y
  · exact br_t h1 K
  · refine br_f h1 ?_
    by_cases h2 : tc ≤ x
    · exact br_t h2 K
    · exact br_f h2 (br_f hc K)
theorem cx_run {n : Nat} (hN : n ≤ 40) (H : bk_wf o g n) (hn : bk_st o n = []) (PT : bk_pt o pt n) {post : Int32 → SX → Prop} : ∀ (d stp p : Nat) (V M : Nat → Nat) (rl : Nat → Int32) (L : Nat → Int64) (S : Nat → Int32) (pr qu re mu : Nat → Int64), stp + d = 8640 → p ≤ n → mc_G (8 + bk_dp o p) V M → xs_all L S (8 + bk_dp o p) V M → (∀ ht' L' S' rl' pr' qu' re' mu', xs_all L' S' 8 (mc_run o g pt n d p V M rl).2.1 (mc_run o g pt n d p V M rl).2.2 → post (mc_run o g pt n d p V M rl).1 (nI n, dp, oc, ht', L', S', o, g, pt, ob, rl', pr', qu', re', mu')) → wX_run_28 post (d + 2) (nI p) 0 (nI stp) (nI n) dp oc (nI (bk_dp o p)) L S o g pt ob rl pr qu re mu := by
  intro d
  induction d with
  | zero =>
    intro stp p V M rl L S pr qu re mu hs hp G XA K
    have : stp = 8640 := by omega
    subst this
    exact br_t (by decide) (K _ L S rl pr qu re mu (xs_all_le XA (by omega)))
  | succ d ih =>
    intro stp p V M rl L S pr qu re mu hs hp G XA K
    refine br_f (nI_ge (b := 8640) (by omega) (by omega)) ?_
    by_cases hpn : p < n
    · obtain ⟨k, hk, ho, t⟩ := H p hpn
      obtain ⟨ta, tp, t6, _⟩ := t
      have hR : mc_run o g pt n (d + 1) p V M rl = if mc_c k (bk_dp o p) V M = 0 then mc_run o g pt n d (mc_p k (bk_dp o p) p (mc_s o p) (o (mc_s o p)) (pt p) V rl) (mc_V k (bk_dp o p) (g p) V M) (mc_M k (bk_dp o p) (g p) V M) (mc_rl k p (mc_s o p) (o (mc_s o p)) (g p) rl) else (mc_c k (bk_dp o p) V M, V, M) := by
        show (if p < n then _ else _) = _
        rw [if_pos hpn, mc_kk ho hk]
      rw [hR] at K
      have nx := mc_nx (V := V) (rl := rl) hN H hn PT hpn ho hk
      have v40 : vp_in (nI p) 40 := fx_v40 (by omega)
      have k40 : (nI p).toNatClampNeg = p := fx_k40 (by omega)
      have h6 := bk_dp_6 H p (by omega)
      refine br_f (nI_ge (by omega) (by omega)) (br_t rfl ⟨v40, ?_⟩)
      rw [k40, ho]
      by_cases k8 : k ≤ 8
      · refine br_t (nI_lt (b := 9) (by omega) (by omega)) ⟨v40, v40, ?_⟩
        have ep : mc_p k (bk_dp o p) p (mc_s o p) (o (mc_s o p)) (pt p) V rl = p + 1 := by
          unfold mc_p; rw [if_neg (by omega), if_neg (by omega)]
        have er : mc_rl k p (mc_s o p) (o (mc_s o p)) (g p) rl = rl := by
          unfold mc_rl; rw [if_neg (by omega), if_neg (by omega)]
        have ed : (if k ≤ 1 then bk_dp o p + 1 else if k ≤ 9 then bk_dp o p - 1 else bk_dp o p) = (if k ≤ 1 then bk_dp o p + 1 else bk_dp o p - 1) := by
          split
          · rfl
          · rw [if_pos (by omega)]
        refine cx_co k8 ta tp h6 t6 G XA ?_ ?_
        · intro hc L' S' pr' qu' re' mu' XA'
          have G' := mc_nG H hpn ho hk G hc
          rw [if_pos hc] at K
          rw [ep, er] at K
          rw [ep] at nx
          rw [ed] at nx G'
          refine nm_r (nI_1 p) (nm_r (nI_1 stp) ?_)
          rw [← nx.2.1] at G' XA' ⊢
          exact ih (stp + 1) (p + 1) _ _ rl L' S' pr' qu' re' mu' (by omega) nx.1 G' XA' K
        · intro hc ht' L' S' pr' qu' re' mu' XA'
          rw [if_neg hc] at K
          exact nm_e (nm_e (cx_stop (d + 1) hc (K ht' L' S' rl pr' qu' re' mu' XA')))
      · refine br_f (nI_nlt (b := 9) (by omega) (by omega)) ?_
        have hc : mc_c k (bk_dp o p) V M = 0 := by unfold mc_c; rw [if_neg (by omega)]
        have eV : mc_V k (bk_dp o p) (g p) V M = V := by
          unfold mc_V; rw [if_neg (by omega), if_neg (by omega), if_neg (by omega), if_neg k8]
        have eM : mc_M k (bk_dp o p) (g p) V M = M := by
          unfold mc_M; rw [if_neg (by omega), if_neg (by omega), if_neg (by omega), if_neg k8]
        rw [if_pos hc, eV, eM] at K
        have ed : (if k ≤ 1 then bk_dp o p + 1 else if k ≤ 9 then bk_dp o p - 1 else bk_dp o p) = (if k ≤ 9 then bk_dp o p - 1 else bk_dp o p) := if_neg (by omega)
        have le : (if k ≤ 9 then bk_dp o p - 1 else bk_dp o p) ≤ bk_dp o p := by split <;> omega
        rw [ed] at nx
        refine cx_nb hN H hn PT hpn ho (by omega) hk XA ?_
        refine nm_r (nI_1 stp) ?_
        rw [← nx.2.1] at le ⊢
        exact ih (stp + 1) _ V M _ L S pr qu re mu (by omega) nx.1 (mc_G_le G (by omega)) (xs_all_le XA (by omega)) K
    · have : p = n := by omega
      subst this
      refine br_t (nI_le (Nat.le_refl p) (by omega)) ?_
      have hR : mc_run o g pt p (d + 1) p V M rl = (0, V, M) := by
        show (if p < p then _ else _) = _
        rw [if_neg (by omega)]
      rw [hR] at K
      exact K _ L S rl pr qu re mu (xs_all_le XA (by omega))
theorem cx_dd_l {A i : Nat} (hA : A < 100000000) (hi : i < 40) {post : Int32 → Prop} (K : post (nI (A / 10 ^ (i % 8) % 10))) : ∀ d k, k + d = i % 8 → wX_decimalDigit_17 post (nI i) tc dp oc ht L S o g pt ob rl pr qu re mu (d + 1) (lN (A / 10 ^ k)) (nI k) := by
  have e8 : nI i - nI i / 8 * 8 = nI (i % 8) := by
    rw [show (8 : Int32) = nI 8 from rfl]; exact pk_rem (by omega) (by omega) (by omega)
  intro d
  induction d with
  | zero =>
    intro k hk
    have : k = i % 8 := by omega
    subst this
    have hb : A / 10 ^ (i % 8) < 2 ^ 63 := Nat.lt_of_le_of_lt (Nat.div_le_self _ _) (by omega)
    refine ⟨by decide, br_t (by rw [e8]; exact nI_le (Nat.le_refl _) (by omega)) ⟨by decide, ?_⟩⟩
    rw [fx_lrem10 hb, lN_i]
    exact K
  | succ d ih =>
    intro k hk
    have hb : A / 10 ^ k < 2 ^ 63 := Nat.lt_of_le_of_lt (Nat.div_le_self _ _) (by omega)
    exact ⟨by decide, br_f (by rw [e8]; exact nI_ge (by omega) (by omega)) ⟨by decide, nm_r (e' := lN (A / 10 ^ (k + 1))) (by rw [fx_ldiv10 hb, Nat.div_div_eq_div_mul, ← Nat.pow_succ]) (nm_r (nI_1 k) (ih (k + 1) (by omega)))⟩⟩
theorem cx_dd {s i V : Nat} (hs : s < 14) (hi : i < 40) (pX : fx_pl L (s * 5) 5 V) {post : Int32 → Prop} (K : post (nI (fx_dg 10 V i))) : wpX_decimalDigit post (tc, dp, oc, ht, L, S, o, g, pt, ob, rl, pr, qu, re, mu) (nI s) (nI i) := by
  have e8 : nI i / 8 = nI (i / 8) := by
    rw [show (8 : Int32) = nI 8 from rfl]; exact pk_div (by omega) (by omega) (by omega)
  have h5 : i / 8 < 5 := by omega
  refine ⟨by decide, by rw [e8]; exact fx_v5 hs h5, nm_r (e' := lN (fx_dg 100000000 V (i / 8))) (by rw [e8, fx_c5 hs h5]; exact pX _ h5) ⟨i % 8 + 1, ?_⟩⟩
  have h := cx_dd_l (tc := tc) (dp := dp) (oc := oc) (ht := ht) (L := L) (S := S) (o := o) (g := g) (pt := pt) (ob := ob) (rl := rl) (pr := pr) (qu := qu) (re := re) (mu := mu) (post := post) (fx_dgB V (i / 8)) hi (by rw [fx_limb]; exact K) (i % 8) 0 (by omega)
  rw [Nat.pow_zero, Nat.div_one] at h
  exact h
theorem cx_ds_l {s V : Nat} (hs : s < 14) (pX : fx_pl L (s * 5) 5 V) {post : Int32 → Prop} (K : ∀ r : Nat, 1 ≤ r → V < 10 ^ r → (r = 1 ∨ 10 ^ (r - 1) ≤ V) → post (nI r)) : ∀ i, i < 40 → V < 10 ^ (i + 1) → wX_digits_13 post (nI s) tc dp oc ht L S o g pt ob rl pr qu re mu (i + 1) (nI i) := by
  intro i
  induction i with
  | zero =>
    intro _ hV
    exact br_t (by decide) (K 1 (by omega) hV (Or.inl rfl))
  | succ i ih =>
    intro hi hV
    refine br_f (nI_nle (by omega) (by omega)) (cx_dd hs hi pX ?_)
    by_cases c : fx_dg 10 V (i + 1) = 0
    · rw [c]
      refine br_t rfl (nm_r (pk_m1 i) (ih (by omega) (fx_below (i + 1 + 1) (i + 1) hV (by omega) ?_)))
      intro j h1 h2
      have : j = i + 1 := by omega
      subst this
      exact c
    · have b := fx_dg10 V (i + 1)
      refine br_f (nI_ne0 (by omega) (by omega)) ?_
      rw [nI_1]
      exact K (i + 1 + 1) (by omega) hV (Or.inr (fx_dg_ge c))
theorem cx_lv {s V m : Nat} (hs : s < 14) (pX : xs_pic L S s V m) (hV : V < 100000000 ^ 2) {post : Int64 → Prop} (K : post (fx_l V m)) : wpX_lowValue post (tc, dp, oc, ht, L, S, o, g, pt, ob, rl, pr, qu, re, mu) (nI s) := by
  have e1 : (nI s * 5 + 1).toNatClampNeg = s * 5 + 1 := fx_c5 (i := 1) hs (by omega)
  have e0 : (nI s * 5).toNatClampNeg = s * 5 := by
    rw [show (5 : Int32) = nI 5 from rfl, pk_mul]; exact nI_clamp (by omega)
  refine ⟨fx_v14 hs, fx_v5 (i := 1) hs (by omega), ?_, ?_⟩
  · rw [show (5 : Int32) = nI 5 from rfl, pk_mul]; exact vp_in_nI (by omega) (by omega)
  · have h0 : L (s * 5) = lN (fx_dg 100000000 V 0) := pX.1 0 (by omega)
    have h1 : L (s * 5 + 1) = lN (fx_dg 100000000 V 1) := pX.1 1 (by omega)
    have hv : fx_dg 100000000 V 1 * 100000000 + fx_dg 100000000 V 0 = V := by
      have a1 := fx_ms 100000000 V 1
      have a0 := fx_ms 100000000 V 0
      rw [Nat.mod_eq_of_lt hV] at a1
      rw [Nat.pow_zero, Nat.mod_one] at a0
      rw [Nat.pow_one] at a1
      rw [show 0 + 1 = 1 from rfl, Nat.pow_one] at a0
      omega
    rw [fx_k14 hs, e1, e0, h0, h1, pX.2, fx_B, lN_mul, lN_add, hv, fx_l_sg]
    exact K
theorem cx_ii_l {s V m : Nat} (hs : s < 14) (pX : xs_pic L S s V m) (hV : V < fx_T) {post : Int32 → Prop} (K1 : fx_isI V m → post 1) (K0 : ¬ fx_isI V m → post 0) : ∀ d i, i + d = 5 → 2 ≤ i → (∀ j, 2 ≤ j → j < i → fx_dg 100000000 V j = 0) → wX_isInt_11 post (nI s) tc dp oc ht L S o g pt ob rl pr qu re mu (d + 1) (nI i) := by
  intro d
  induction d with
  | zero =>
    intro i hi _ hz
    have : i = 5 := by omega
    subst this
    have hlt : V < 100000000 ^ 2 := fx_below 5 2 (by rw [fx_pow5]; exact hV) (by omega) hz
    have h63 : V < 2 ^ 63 := Nat.lt_trans hlt (by decide)
    refine br_t fx_5 (cx_lv hs pX hlt ?_)
    have hi := fx_isI_lo h63 m
    by_cases c1 : fx_l V m < -2147483648
    · exact br_t c1 (K0 (fun z => Int64.not_le.mpr c1 (hi.mpr z).1))
    · refine br_f c1 ?_
      by_cases c2 : 2147483647 < fx_l V m
      · exact br_t c2 (K0 (fun z => Int64.not_le.mpr c2 (hi.mpr z).2))
      · exact br_f c2 (K1 (hi.mp ⟨Int64.not_lt.mp c1, Int64.not_lt.mp c2⟩))
  | succ d ih =>
    intro i hi h2 hz
    have e1 : L (nI s * 5 + nI i).toNatClampNeg = lN (fx_dg 100000000 V i) := by rw [fx_c5 hs (by omega)]; exact pX.1 i (by omega)
    have b1 := fx_dgB V i
    refine br_f (fx_n5 (by omega)) ⟨fx_v5 hs (by omega), ?_⟩
    rw [e1]
    by_cases c : fx_dg 100000000 V i = 0
    · refine br_t (by rw [c]; rfl) (nm_r (nI_1 i) (ih (i + 1) (by omega) (by omega) ?_))
      intro j h1 h3
      by_cases e : j = i
      · subst e; exact c
      · exact hz j h1 (by omega)
    · refine br_f (fun z => c ((fx_l0 (by omega)).mp z)) (K0 ?_)
      have h4 := fx_dg_ge c
      have h5 := Nat.pow_le_pow_right (n := 100000000) (by omega) h2
      have h6 : (100000000 : Nat) ^ 2 = 10000000000000000 := by decide
      unfold fx_isI
      split <;> omega
theorem cx_ii {s V m : Nat} (hs : s < 14) (pX : xs_pic L S s V m) (hV : V < fx_T) {post : Int32 → Prop} (K1 : fx_isI V m → post 1) (K0 : ¬ fx_isI V m → post 0) : ∃ n, wX_isInt_11 post (nI s) tc dp oc ht L S o g pt ob rl pr qu re mu n 2 :=
  ⟨4, cx_ii_l hs pX hV K1 K0 3 2 rfl (Nat.le_refl 2) (fun j h1 h2 => absurd h1 (by omega))⟩
end
theorem cx_iv1 {post : Int32 → Prop} {s : Nat} (hs : s < 8) (K : post 1) : wpX_isVariable post (nI s) :=
  br_f (nI_pos (by omega)) (br_f (nI_ge (b := 8) hs (by omega)) K)
theorem cx_iv0 {post : Int32 → Prop} {x : Int32} (hx : x < 0 ∨ 8 ≤ x) (K : post 0) : wpX_isVariable post x := by
  by_cases h : x < 0
  · exact br_t h K
  · exact br_f h (br_t (hx.resolve_left h) K)
