/-! the component: one calculation, one token, the run -/
theorem fx_rc_n {op V m W k : Nat} (h : ¬ ((op = 6 ∨ op = 7) ∧ W = 0)) : fx_rc op V m W k = if fx_rv op V m W k < fx_T then 0 else 2 := by
  unfold fx_rc
  rw [if_neg h]
  by_cases c : fx_T ≤ fx_rv op V m W k
  · rw [if_pos c, if_neg (by omega)]
  · rw [if_neg c, if_pos (by omega)]
theorem fx_rc_z {op V m W k : Nat} (h : (op = 6 ∨ op = 7) ∧ W = 0) : fx_rc op V m W k = 1 := if_pos h
section
variable {tc dp oc ht : Int32} {L : Nat → Int64} {S o g pt ob rl : Nat → Int32} {pr qu re mu : Nat → Int64}
theorem cx_calc {x y V m W k op : Nat} (h3 : 3 ≤ op) (h8 : op ≤ 8) (hx : x < 14) (hy : y < 14) (hxy : x ≠ y) (hm : m < 2) (hk : k < 2) (pX : xs_pic L S x V m) (pY : xs_pic L S y W k) (hV : V < fx_T) (hW : W < fx_T) {post : Int32 → SX → Prop} (K : ∀ L' S' pr' qu' re' mu', fx_fr L L' (x * 5) 5 → (∀ s, s ≠ x → s ≠ y → S' s = S s) → (fx_rc op V m W k = 0 → xs_pic L' S' x (fx_rv op V m W k) (fx_rm op V m W k)) → post (fx_rc op V m W k) (tc, dp, oc, ht, L', S', o, g, pt, ob, rl, pr', qu', re', mu')) : wpX_calculate post (tc, dp, oc, ht, L, S, o, g, pt, ob, rl, pr, qu, re, mu) (nI op) (nI x) (nI y) := by
  have hop : op = 3 ∨ op = 4 ∨ op = 5 ∨ op = 6 ∨ op = 7 ∨ op = 8 := by omega
  rcases hop with rfl | rfl | rfl | rfl | rfl | rfl
  · refine br_f (by decide) (br_f (by decide) (br_t (by decide) (cx_add hx hy hxy hm hk pX pY hV hW ?_)))
    intro L' S' hf hs hp
    have K' := K L' S' pr qu re mu hf (fun s h _ => hs s h) (fun h0 => hp (fx_rc_0 h0))
    rw [fx_rc_n (by omega)] at K'
    exact K'
  · refine br_f (by decide) (br_f (by decide) (br_f (by decide) (br_t (by decide) ⟨fx_v14 hy, fx_v14 hy, nm_r (e' := upd S y (fx_sg W (1 - k))) (by rw [fx_k14 hy, pY.2, fx_sub_neg W k hk]) (cx_add (k := 1 - k) hx hy hxy hm (by omega) ⟨pX.1, by rw [pk_un hxy]; exact pX.2⟩ ⟨pY.1, pk_us⟩ hV hW ?_)⟩)))
    intro L' S' hf hs hp
    have K' := K L' S' pr qu re mu hf (fun s h h2 => by rw [hs s h, pk_un h2]) (fun h0 => hp (fx_rc_0 h0))
    rw [fx_rc_n (by omega)] at K'
    exact K'
  · refine br_f (by decide) (br_f (by decide) (br_f (by decide) (br_f (by decide) (br_t (by decide) (cx_mul hx hy hm hk pX pY hV hW ?_)))))
    intro L' S' pr' hf hs hp
    have K' := K L' S' pr' qu re mu hf (fun s h _ => hs s h) (fun h0 => hp (fx_rc_0 h0))
    rw [fx_rc_n (by omega)] at K'
    exact K'
  · refine br_f (by decide) (br_f (by decide) (br_f (by decide) (br_f (by decide) (br_f (by decide) (br_t (by decide) ?_)))))
    unfold wX_calculate_70
    refine cx_div hx hy hm hk pX pY hV hW ?_ ?_
    · intro z
      have K' := K L S pr qu re mu (fun _ _ => rfl) (fun _ _ _ => rfl) (fun h0 => absurd (h0.symm.trans (fx_rc_z ⟨Or.inl rfl, z⟩)) (by decide))
      rw [fx_rc_z ⟨Or.inl rfl, z⟩] at K'
      exact K'
    · intro z L' S' qu' re' mu' hf hs hp
      have hlt : fx_rv 6 V m W k < fx_T := Nat.lt_of_le_of_lt (Nat.div_le_self V W) hV
      have K' := K L' S' pr qu' re' mu' hf (fun s h _ => hs s h) (fun _ => hp)
      rw [fx_rc_n (fun h => z h.2), if_pos hlt] at K'
      exact K'
  · refine br_f (by decide) (br_f (by decide) (br_f (by decide) (br_f (by decide) (br_f (by decide) (br_f (by decide) (br_t (by decide) ?_))))))
    unfold wX_calculate_70
    refine cx_div hx hy hm hk pX pY hV hW ?_ ?_
    · intro z
      have K' := K L S pr qu re mu (fun _ _ => rfl) (fun _ _ _ => rfl) (fun h0 => absurd (h0.symm.trans (fx_rc_z ⟨Or.inr rfl, z⟩)) (by decide))
      rw [fx_rc_z ⟨Or.inr rfl, z⟩] at K'
      exact K'
    · intro z L' S' qu' re' mu' hf hs hp
      have hlt : fx_rv 7 V m W k < fx_T := Nat.lt_trans (Nat.mod_lt V (by omega)) hW
      have K' := K L' S' pr qu' re' mu' hf (fun s h _ => hs s h) (fun _ => hp)
      rw [fx_rc_n (fun h => z h.2), if_pos hlt] at K'
      exact K'
  · refine br_f (by decide) (br_t (by decide) (cx_cn hx hy pX pY hV hW ?_))
    have hw : ∀ z : Int32, z = (if fx_ord V m W k < 0 then 1 else 0) → wX_calculate_98 post z (nI x) tc dp oc ht L S o g pt ob rl pr qu re mu := by
      intro z hz
      unfold wX_calculate_98
      refine cx_wi hx z ?_
      intro L' S' hf hs hfr
      have e1 : fx_rv 8 V m W k = fx_ab z := by
        rw [hz]
        show (if fx_ord V m W k < 0 then 1 else 0) = _
        split <;> decide
      have e2 : fx_mn z = 0 := by
        rw [hz]
        split <;> decide
      have hlt : fx_rv 8 V m W k < fx_T := by rw [e1]; exact fx_ab_T z
      have K' := K L' S' pr qu re mu hf.1 (fun s h _ => hfr s h) (fun _ => ⟨by rw [e1]; exact hf.2, by rw [e1, hs, e2]; rfl⟩)
      rw [fx_rc_n (by omega), if_pos hlt] at K'
      exact K'
    by_cases c : fx_ord V m W k < 0
    · exact br_f (Int32.not_le.mpr c) (hw 1 (by rw [if_pos c]))
    · exact br_t (Int32.not_lt.mp c) (hw 0 (by rw [if_neg c]))
theorem fx_8h (h : Nat) : (8 : Int32) + nI h = nI (8 + h) := nI_add 8 h
theorem cx_co {k h : Nat} {a : Int32} {V M : Nat → Nat} (hk : k ≤ 8) (ha : k = 1 ∨ k = 2 → ∃ v : Nat, v < 8 ∧ a = nI v) (hp : bk_pops k ≤ h) (h6 : h ≤ 6) (hp6 : k ≤ 1 → h < 6) (G : mc_G (8 + h) V M) (XA : xs_all L S (8 + h) V M) {post : Int32 → SX → Prop} (K0 : mc_c k h V M = 0 → ∀ L' S' pr' qu' re' mu', xs_all L' S' (8 + (if k ≤ 1 then h + 1 else h - 1)) (mc_V k h a V M) (mc_M k h a V M) → post 0 (tc, dp, oc, nI (if k ≤ 1 then h + 1 else h - 1), L', S', o, g, pt, ob, rl, pr', qu', re', mu')) (K1 : mc_c k h V M ≠ 0 → ∀ ht' L' S' pr' qu' re' mu', xs_all L' S' 8 V M → post (mc_c k h V M) (tc, dp, oc, ht', L', S', o, g, pt, ob, rl, pr', qu', re', mu')) : wpX_carryOut post (tc, dp, oc, nI h, L, S, o, g, pt, ob, rl, pr, qu, re, mu) (nI k) a := by
  by_cases c0 : k = 0
  · subst c0
    have h6' := hp6 (by omega)
    refine br_t (by decide) ?_
    rw [fx_8h]
    refine cx_wi (by omega) a ?_
    intro L' S' hf hs hfr
    exact nm_r (nI_1 h) (K0 rfl L' S' pr qu re mu (xs_wr (y := 14) (c' := 8 + (h + 1)) XA hf.1 (fun s h _ => hfr s h) ⟨hf.2, hs⟩ (by omega) (fun s h1 h2 => by omega)))
  · by_cases c1 : k = 1
    · subst c1
      have h6' := hp6 (by omega)
      obtain ⟨v, hv, rfl⟩ := ha (Or.inl rfl)
      refine br_f (by decide) (br_t (by decide) ?_)
      rw [fx_8h]
      have pa := XA v (by omega)
      refine cx_cp (by omega) (by omega) (by omega) pa.1 ?_
      intro L' hf
      refine nm_r (nI_1 h) (K0 rfl L' _ pr qu re mu ?_)
      have e : (nI v).toNatClampNeg = v := nI_clamp (by omega)
      show xs_all _ _ _ (fx_up V (8 + h) (V (nI v).toNatClampNeg)) (fx_up M (8 + h) (M (nI v).toNatClampNeg))
      rw [e]
      exact xs_wr (y := 14) (c' := 8 + (h + 1)) XA hf.1 (fun s h _ => pk_un h) ⟨hf.2, by rw [pk_us]; exact pa.2⟩ (by omega) (fun s h1 h2 => by omega)
    · have hp1 : 1 ≤ h := by
        unfold bk_pops at hp
        split at hp
        · omega
        · rw [if_pos (by omega)] at hp; exact hp
      obtain ⟨t, rfl⟩ : ∃ t, h = t + 1 := ⟨h - 1, by omega⟩
      have n0 : ¬ nI k = 0 := fun z => c0 ((nI_eq (b := 0) (by omega) (by omega)).mp z)
      have n1 : ¬ nI k = 1 := fun z => c1 ((nI_eq (b := 1) (by omega) (by omega)).mp z)
      have ek : (if k ≤ 1 then t + 1 + 1 else t + 1 - 1) = t := by rw [if_neg (by omega)]; omega
      rw [ek] at K0
      refine br_f n0 (br_f n1 (nm_r (nI_pred t) (nm_r (fx_8h t) ?_)))
      by_cases c2 : k = 2
      · subst c2
        obtain ⟨v, hv, rfl⟩ := ha (Or.inr rfl)
        have pa := XA (8 + t) (by omega)
        refine br_t (by decide) (cx_cp (by omega) (by omega) (by omega) pa.1 ?_)
        intro L' hf
        refine K0 rfl L' _ pr qu re mu ?_
        have e : (nI v).toNatClampNeg = v := nI_clamp (by omega)
        show xs_all _ _ _ (fx_up V (nI v).toNatClampNeg (V (7 + (t + 1)))) (fx_up M (nI v).toNatClampNeg (M (7 + (t + 1))))
        rw [e, show 7 + (t + 1) = 8 + t by omega]
        exact xs_wr (y := 14) (c' := 8 + t) XA hf.1 (fun s h _ => pk_un h) ⟨hf.2, by rw [pk_us]; exact pa.2⟩ (by omega) (fun s h1 h2 => by omega)
      · have n2 : ¬ nI k = 2 := fun z => c2 ((nI_eq (b := 2) (by omega) (by omega)).mp z)
        have hp2 : 1 ≤ t := by
          unfold bk_pops at hp
          rw [if_pos (by omega)] at hp
          omega
        obtain ⟨q, rfl⟩ : ∃ q, t = q + 1 := ⟨t - 1, by omega⟩
        refine br_f n2 ?_
        rw [show nI (8 + (q + 1)) - 1 = nI (8 + q) from nI_pred (8 + q)]
        have pa := XA (8 + q) (by omega)
        have pb := XA (8 + (q + 1)) (by omega)
        have ga := G (8 + q) (by omega)
        have gb := G (8 + (q + 1)) (by omega)
        have ec : mc_c k (q + 1 + 1) V M = fx_rc k (V (8 + q)) (M (8 + q)) (V (8 + (q + 1))) (M (8 + (q + 1))) := by
          unfold mc_c
          rw [if_pos ⟨by omega, hk⟩, show 6 + (q + 1 + 1) = 8 + q by omega, show 7 + (q + 1 + 1) = 8 + (q + 1) by omega]
        rw [ec] at K0 K1
        refine cx_calc (by omega) hk (by omega) (by omega) (by omega) ga.2 gb.2 pa pb ga.1 gb.1 ?_
        intro L' S' pr' qu' re' mu' hf hs hpic
        by_cases z : fx_rc k (V (8 + q)) (M (8 + q)) (V (8 + (q + 1))) (M (8 + (q + 1))) = 0
        · rw [z]
          refine K0 z L' S' pr' qu' re' mu' ?_
          unfold mc_V mc_M
          rw [if_neg c0, if_neg c0, if_neg c1, if_neg c1, if_neg c2, if_neg c2, if_pos hk, if_pos hk, show 6 + (q + 1 + 1) = 8 + q by omega, show 7 + (q + 1 + 1) = 8 + (q + 1) by omega]
          exact xs_wr (y := 8 + (q + 1)) (c' := 8 + (q + 1)) XA hf hs (hpic z) (by omega) (fun s h1 h2 => by omega)
        · refine K1 z _ L' S' pr' qu' re' mu' ?_
          intro s h
          have a := XA s (by omega)
          exact ⟨xs_fr_pl hf (by omega) (by omega) a.1, by rw [hs s (by omega) (by omega)]; exact a.2⟩
theorem fx_v40 {p : Nat} (h : p < 40) : vp_in (nI p) 40 := vp_in_nI h (by omega)
theorem fx_k40 {p : Nat} (h : p < 40) : (nI p).toNatClampNeg = p := nI_clamp (by omega)
theorem fx_sg_z (V m : Nat) : fx_sg V m = 0 ↔ V = 0 := ⟨fun h => by by_cases e : V = 0; exact e; exact absurd h (fx_sg_ne V e m), fun h => by rw [h, fx_sg_0]⟩
theorem cx_nb {n p k : Nat} {V M : Nat → Nat} (hN : n ≤ 40) (H : bk_wf o g n) (hn : bk_st o n = []) (PT : bk_pt o pt n) (hp : p < n) (ho : o p = nI k) (hk9 : 9 ≤ k) (hk : k < 12) (XA : xs_all L S (8 + bk_dp o p) V M) {post : Int32 → SX → Prop} (K : post (nI (mc_p k (bk_dp o p) p (mc_s o p) (o (mc_s o p)) (pt p) V rl)) (tc, dp, oc, nI (if k ≤ 9 then bk_dp o p - 1 else bk_dp o p), L, S, o, g, pt, ob, mc_rl k p (mc_s o p) (o (mc_s o p)) (g p) rl, pr, qu, re, mu)) : wpX_nextAfterBlockToken post (tc, dp, oc, nI (bk_dp o p), L, S, o, g, pt, ob, rl, pr, qu, re, mu) (nI p) := by
  have v40 : vp_in (nI p) 40 := fx_v40 (by omega)
  have k40 : (nI p).toNatClampNeg = p := fx_k40 (by omega)
  obtain ⟨k', hk', ho', t⟩ := H p hp
  have : k' = k := (mc_eq hk' hk).mp (ho'.symm.trans ho)
  subst this
  obtain ⟨_, _, _, t9, t10, _, t11⟩ := t
  have hkk : k' = 9 ∨ k' = 10 ∨ k' = 11 := by omega
  rcases hkk with rfl | rfl | rfl
  · have h1 := t9 rfl
    rw [h1] at XA K ⊢
    obtain ⟨q, q1, q2, q3, q4, q5⟩ := mc_skip H hn PT hp (Or.inl ho)
    refine ⟨v40, nm_r (e' := nI q) (by rw [k40]; exact q5) ⟨v40, br_t (by rw [k40]; exact ho) (nm_r (e' := nI 0) (by decide) ⟨by rw [fx_8h]; exact vp_in_nI (by omega) (by omega), ?_⟩)⟩⟩
    have e8 : ((8 : Int32) + nI 0).toNatClampNeg = 8 := by decide
    have s8 := (XA 8 (by omega)).2
    rw [e8, s8]
    unfold mc_p at K
    by_cases z : V 8 = 0
    · rw [if_pos ⟨rfl, z⟩, q5, nI_clamp (by omega)] at K
      refine br_t ((fx_sg_z _ _).mpr z) ?_
      rw [nI_1]
      exact K
    · rw [if_neg (fun w => z w.2), if_neg (by omega)] at K
      refine br_f (fun w => z ((fx_sg_z _ _).mp w)) ?_
      rw [nI_1]
      exact K
  · refine ⟨v40, nm_e ⟨v40, br_f (by rw [k40, ho]; decide) ⟨v40, br_t (by rw [k40]; exact ho) ⟨v40, v40, nm_r (e' := upd rl p (g p)) (by rw [k40]) ?_⟩⟩⟩⟩
    unfold mc_p at K
    rw [if_neg (by omega), if_neg (by omega)] at K
    rw [nI_1]
    exact K
  · cases hs : bk_st o p with
    | nil => exact absurd hs (t11 rfl)
    | cons s r =>
      have es : mc_s o p = s := by unfold mc_s; rw [hs]; rfl
      have hk2 := bk_ok o p s r hs
      have hpt := (PT p hp ho s r hs).1
      have vs : vp_in (nI s) 40 := fx_v40 (by omega)
      have ks : (nI s).toNatClampNeg = s := fx_k40 (by omega)
      rw [es] at K
      unfold mc_p mc_rl at K
      rw [if_neg (show ¬ (11 = 9 ∧ V (7 + bk_dp o p) = 0) by omega), if_neg (show ¬ (11 = 10) by omega)] at K
      refine ⟨v40, nm_r (e' := nI s) (by rw [k40]; exact hpt) ⟨v40, br_f (by rw [k40, ho]; decide) ⟨v40, br_f (by rw [k40, ho]; decide) ⟨vs, ?_⟩⟩⟩⟩
      rw [ks]
      by_cases c : o s = 10
      · rw [if_pos (⟨rfl, c⟩ : 11 = 11 ∧ o s = 10)] at K
        refine br_t c ⟨vs, vs, nm_e ⟨vs, ?_⟩⟩
        rw [pk_us]
        by_cases z : 0 < rl s - 1
        · rw [if_pos ⟨rfl, c, z⟩] at K
          refine br_f (Int32.not_le.mpr z) ?_
          rw [nI_1]
          exact K
        · rw [if_neg (fun w => z w.2.2)] at K
          refine br_t (Int32.not_lt.mp z) ?_
          rw [nI_1]
          exact K
      · rw [if_neg (show ¬ (11 = 11 ∧ o s = 10 ∧ 0 < rl s - 1) from fun w => c w.2.1), if_neg (show ¬ (11 = 11 ∧ o s = 10) from fun w => c w.2)] at K
        refine br_f c ?_
        rw [nI_1]
        exact K
end
