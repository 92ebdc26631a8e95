/-! the reference: the end of a block, the run -/
section
variable {sz dp oc : Int32} {o g d mi bg tm : Nat → Int32}
theorem cy_en_l {n p : Nat} (hN : n ≤ 40) (H : bk_wf o g n) (hn : bk_st o n = []) {post : Int32 → Prop} (K : ∀ q, q < n → o q = 11 → bk_st o q = p :: bk_st o p → post (nI q)) : ∀ e i l, i + e = n → bk_st o i = l ++ (p :: bk_st o p) → wY_end_4 post (nI n) dp oc o g d mi bg tm (e + 1) (nI (l.length + 1)) (nI i) := by
  intro e
  induction e with
  | zero =>
    intro i l hi h
    have : i = n := by omega
    subst this
    rw [hn] at h
    cases l <;> exact nomatch h
  | succ e ih =>
    intro i l hi h
    obtain ⟨k, hk, ho, _⟩ := H i (by omega)
    have hs := bk_st_s ho hk
    have hlen := bk_len H i (by omega)
    rw [h, List.length_append] at hlen
    have v40 : vp_in (nI i) 40 := fx_v40 (by omega)
    have k40 : (nI i).toNatClampNeg = i := fx_k40 (by omega)
    refine br_f (nI_ge (by omega) (by omega)) ⟨v40, ?_⟩
    rw [k40]
    by_cases c9 : k = 9
    · subst c9
      rw [if_pos (Or.inl rfl), h] at hs
      exact br_t ho (nm_r (nI_1 _) ⟨v40, br_f (by rw [k40, ho]; decide) (nm_r (nI_1 i) (ih (i + 1) (i :: l) (by omega) hs))⟩)
    · have n9 : ¬ o i = 9 := by rw [ho]; exact fun z => c9 ((nI_eq (b := 9) (by omega) (by omega)).mp z)
      refine br_f n9 ⟨v40, ?_⟩
      by_cases c10 : k = 10
      · subst c10
        rw [if_pos (Or.inr rfl), h] at hs
        exact br_t ho (nm_r (nI_1 _) ⟨v40, br_f (by rw [k40, ho]; decide) (nm_r (nI_1 i) (ih (i + 1) (i :: l) (by omega) hs))⟩)
      · have n10 : ¬ o i = 10 := by rw [ho]; exact fun z => c10 ((nI_eq (b := 10) (by omega) (by omega)).mp z)
        rw [if_neg (by omega)] at hs
        refine br_f n10 ⟨v40, ?_⟩
        rw [k40]
        by_cases c11 : k = 11
        · subst c11
          rw [if_pos rfl, h] at hs
          refine br_t ho (nm_r (pk_m1 _) ?_)
          cases l with
          | nil => exact br_t rfl (K i (by omega) ho h)
          | cons b l =>
            rw [List.length_cons] at hlen
            exact br_f (nI_ne0 (by rw [List.length_cons]; omega) (by rw [List.length_cons]; omega)) (nm_r (nI_1 i) (ih (i + 1) l (by omega) hs))
        · have n11 : ¬ o i = 11 := by rw [ho]; exact fun z => c11 ((nI_eq (b := 11) (by omega) (by omega)).mp z)
          rw [if_neg c11, h] at hs
          exact br_f n11 (nm_r (nI_1 i) (ih (i + 1) l (by omega) hs))
theorem cy_en {n p : Nat} (hN : n ≤ 40) (H : bk_wf o g n) (hn : bk_st o n = []) (hp : p < n) (h9 : o p = 9) {post : Int32 → Prop} (K : ∀ q, q < n → o q = 11 → bk_st o q = p :: bk_st o p → post (nI q)) : wpY_end post (nI n, dp, oc, o, g, d, mi, bg, tm) (nI p) := by
  have v40 : vp_in (nI p) 40 := fx_v40 (by omega)
  have k40 : (nI p).toNatClampNeg = p := fx_k40 (by omega)
  have h := cy_en_l (dp := dp) (oc := oc) (d := d) (mi := mi) (bg := bg) (tm := tm) hN H hn K (n - (p + 1)) (p + 1) [] (by omega) (bk_open (Or.inl h9))
  exact ⟨n - (p + 1) + 2, br_f (nI_ge (by omega) (by omega)) ⟨v40, br_t (by rw [k40]; exact h9) (nm_r (e' := nI 1) rfl ⟨v40, br_f (by rw [k40, h9]; decide) (nm_r (nI_1 p) h)⟩)⟩⟩
theorem cy_284 {k h stp : Nat} {x3 x6 : Int32} (hk : k < 12) (hh : 2 ≤ k → k ≤ 9 → 1 ≤ h) {post : Int32 → SY → Prop} {J : Int32 → Int32 → Int32 → Int32 → Int32 → Int32 → Int32 → (Nat → Int32) → (Nat → Int32) → (Nat → Int32) → (Nat → Int32) → (Nat → Int32) → (Nat → Int32) → Prop} (K : J x6 (nI (if k ≤ 1 then h + 1 else if k ≤ 9 then h - 1 else h)) x3 (nI (stp + 1)) sz dp oc o g d mi bg tm) : wY_run_284 post J (nI h) x3 (nI stp) (nI k) x6 sz dp oc o g d mi bg tm := by
  by_cases c1 : k ≤ 1
  · rw [if_pos c1] at K
    exact br_f (nI_nlt (b := k) (a := 1) c1 (by omega)) (nm_r (nI_1 h) (nm_r (nI_1 stp) K))
  · rw [if_neg c1] at K
    refine br_t (nI_lt (a := 1) (by omega) (by omega)) ?_
    by_cases c9 : k ≤ 9
    · rw [if_pos c9] at K
      have h1 := hh (by omega) c9
      obtain ⟨t, rfl⟩ : ∃ t, h = t + 1 := ⟨h - 1, by omega⟩
      exact br_f (nI_nlt (b := k) (a := 9) c9 (by omega)) (nm_r (pk_m1 t) (nm_r (nI_1 stp) K))
    · rw [if_neg c9] at K
      exact br_t (nI_lt (a := 9) (by omega) (by omega)) (nm_r (nI_1 stp) K)
theorem fx_k4 {p : Nat} (h : p < 4) : (nI p).toNatClampNeg = p := nI_clamp (by omega)
theorem fx_v4 {p : Nat} (h : p < 4) : vp_in (nI p) 4 := vp_in_nI h (by omega)
theorem ys_put {d d' mi mi' : Nat → Int32} {c c' x v m : Nat} {V M : Nat → Nat} (h : ys_all d mi c V M) (hf : fy_fill d d' (x * 82) 82 v) (hm : mi' = upd mi x (nI m)) (hc : ∀ s, s < c' → s ≠ x → s < c) : ys_all d' mi' c' (fx_up V x v) (fx_up M x m) := by
  subst hm
  refine ys_wr h ?_ (fun s _ e => pk_un e) ⟨hf.2, pk_us⟩ hc
  intro s _ e p i hi
  rw [hf.1 _ (by omega)]
  exact p i hi
theorem cy_run {n : Nat} {e : Nat → Int32} (hN : n ≤ 40) (H : bk_wf o g n) (hn : bk_st o n = []) (PT : bk_pt o e n) {post : Int32 → SY → Prop} : ∀ (f stp p : Nat) (V M : Nat → Nat) (rl d mi bg tm : Nat → Int32), stp + f = 8640 → p ≤ n → mc_G (8 + bk_dp o p) V M → ys_all d mi (8 + bk_dp o p) V M → bk_rs o bg tm rl (bk_st o p) → (∀ d' mi' bg' tm', ys_all d' mi' 8 (mc_run o g e n f p V M rl).2.1 (mc_run o g e n f p V M rl).2.2 → post (mc_run o g e n f p V M rl).1 (nI n, dp, oc, o, g, d', mi', bg', tm')) → wY_run_26 post (f + 1) (nI p) (nI (bk_dp o p)) (nI (bk_st o p).length) (nI stp) (nI n) dp oc o g d mi bg tm := by
  intro f
  induction f with
  | zero =>
    intro stp p V M rl d mi bg tm hs hp G YA RS K
    have : stp = 8640 := by omega
    subst this
    exact br_t (by decide) (K d mi bg tm (ys_all_le YA (by omega)))
  | succ f ih =>
    intro stp p V M rl d mi bg tm hs hp G YA RS K
    refine br_f (nI_ge (b := 8640) (by omega) (by omega)) ?_
    by_cases hpn : p < n
    · obtain ⟨k, hk, ho, t⟩ := H p hpn
      obtain ⟨ta, tp, t6, t9, t10, t3, t11⟩ := t
      have hR : mc_run o g e n (f + 1) p V M rl = if mc_c k (bk_dp o p) V M = 0 then mc_run o g e n f (mc_p k (bk_dp o p) p (mc_s o p) (o (mc_s o p)) (e p) V rl) (mc_V k (bk_dp o p) (g p) V M) (mc_M k (bk_dp o p) (g p) V M) (mc_rl k p (mc_s o p) (o (mc_s o p)) (g p) rl) else (mc_c k (bk_dp o p) V M, V, M) := by
        show (if p < n then _ else _) = _
        rw [if_pos hpn, mc_kk ho hk]
      rw [hR] at K
      have nx := mc_nx (V := V) (rl := rl) hN H hn PT hpn ho hk
      have v40 : vp_in (nI p) 40 := fx_v40 (by omega)
      have k40 : (nI p).toNatClampNeg = p := fx_k40 (by omega)
      have h6 := bk_dp_6 H p (by omega)
      have hl3 := bk_len H p (by omega)
      have hh : 2 ≤ k → k ≤ 9 → 1 ≤ bk_dp o p := by
        intro a b
        unfold bk_pops at tp
        split at tp
        · omega
        · rw [if_pos (by omega)] at tp; exact tp
      -- what every case ends with
      have hend : ∀ (q : Nat) (d' mi' bg' tm' : Nat → Int32), mc_c k (bk_dp o p) V M = 0 → q = mc_p k (bk_dp o p) p (mc_s o p) (o (mc_s o p)) (e p) V rl → ys_all d' mi' (8 + (if k ≤ 1 then bk_dp o p + 1 else if k ≤ 9 then bk_dp o p - 1 else bk_dp o p)) (mc_V k (bk_dp o p) (g p) V M) (mc_M k (bk_dp o p) (g p) V M) → bk_rs o bg' tm' (mc_rl k p (mc_s o p) (o (mc_s o p)) (g p) rl) (bk_st o q) → wY_run_284 post (wY_run_26 post (f + 1)) (nI (bk_dp o p)) (nI (bk_st o q).length) (nI stp) (nI k) (nI q) (nI n) dp oc o g d' mi' bg' tm' := by
        intro q d' mi' bg' tm' hc hq YA' RS'
        have G' := mc_nG H hpn ho hk G hc
        rw [if_pos hc, ← hq] at K
        rw [← hq] at nx
        refine cy_284 hk hh ?_
        rw [← nx.2.1] at G' YA' ⊢
        exact ih (stp + 1) q _ _ _ d' mi' bg' tm' (by omega) nx.1 G' YA' RS' K
      refine br_f (nI_ge (by omega) (by omega)) ⟨v40, nm_r (e' := nI k) (by rw [k40]; exact ho) (nm_r (nI_1 p) ?_)⟩
      by_cases k8 : k ≤ 8
      · have ep : mc_p k (bk_dp o p) p (mc_s o p) (o (mc_s o p)) (e p) V rl = p + 1 := by
          unfold mc_p; rw [if_neg (by omega), if_neg (by omega)]
        have er : mc_rl k p (mc_s o p) (o (mc_s o p)) (g p) rl = rl := by
          unfold mc_rl; rw [if_neg (by omega), if_neg (by omega)]
        have es : bk_st o (p + 1) = bk_st o p := by
          rw [bk_st_s ho hk, if_neg (by omega), if_neg (by omega)]
        have hend2 := hend (p + 1)
        rw [er, ep, es] at hend2
        rw [k40]
        by_cases c0 : k = 0
        · subst c0
          have h66 := t6 (by omega)
          refine br_t rfl ⟨v40, ?_⟩
          rw [fx_8h]
          refine cy_wr (by omega) (g p) ?_
          intro d' hf
          exact hend2 d' _ bg tm rfl rfl (ys_put YA hf rfl (fun s h1 h2 => by rw [if_pos (by omega)] at h1; omega)) RS
        · refine br_f (fun z => c0 ((nI_eq (b := 0) (by omega) (by omega)).mp z)) ?_
          by_cases c1 : k = 1
          · subst c1
            have h66 := t6 (by omega)
            obtain ⟨v, hv, hg⟩ := ta (Or.inl rfl)
            refine br_t rfl ⟨v40, ?_⟩
            rw [fx_8h, hg]
            have pa := YA v (by omega)
            have ga := G v (by omega)
            refine cy_cp (by omega) (by omega) (by omega) pa.1 pa.2 ga.2 ?_
            intro d' hf
            refine hend2 d' _ bg tm rfl rfl ?_ RS
            have e1 : (g p).toNatClampNeg = v := by rw [hg]; exact nI_clamp (by omega)
            show ys_all _ _ _ (fx_up V (8 + bk_dp o p) (V (g p).toNatClampNeg)) (fx_up M (8 + bk_dp o p) (M (g p).toNatClampNeg))
            rw [e1]
            exact ys_put YA hf rfl (fun s h1 h2 => by rw [if_pos (by omega)] at h1; omega)
          · refine br_f (fun z => c1 ((nI_eq (b := 1) (by omega) (by omega)).mp z)) ?_
            have hp1 := hh (by omega) (by omega)
            have ed : (if k ≤ 1 then bk_dp o p + 1 else if k ≤ 9 then bk_dp o p - 1 else bk_dp o p) = bk_dp o p - 1 := by rw [if_neg (by omega), if_pos (by omega)]
            rw [ed] at hend2
            by_cases c2 : k = 2
            · subst c2
              obtain ⟨v, hv, hg⟩ := ta (Or.inr rfl)
              refine br_t rfl ⟨v40, ?_⟩
              rw [show (7 : Int32) + nI (bk_dp o p) = nI (7 + bk_dp o p) from nI_add 7 _, hg]
              have pa := YA (7 + bk_dp o p) (by omega)
              have ga := G (7 + bk_dp o p) (by omega)
              refine cy_cp (by omega) (by omega) (by omega) pa.1 pa.2 ga.2 ?_
              intro d' hf
              refine hend2 d' _ bg tm rfl rfl ?_ RS
              have e1 : (g p).toNatClampNeg = v := by rw [hg]; exact nI_clamp (by omega)
              show ys_all _ _ _ (fx_up V (g p).toNatClampNeg (V (7 + bk_dp o p))) (fx_up M (g p).toNatClampNeg (M (7 + bk_dp o p)))
              rw [e1]
              exact ys_put YA hf rfl (fun s h1 h2 => by omega)
            · refine br_f (fun z => c2 ((nI_eq (b := 2) (by omega) (by omega)).mp z)) (br_f (nI_nlt (a := 8) k8 (by omega)) ?_)
              have hp2 : 2 ≤ bk_dp o p := by
                unfold bk_pops at tp
                rw [if_pos (by omega)] at tp
                exact tp
              rw [show (7 : Int32) + nI (bk_dp o p) = nI (7 + bk_dp o p) from nI_add 7 _, show (6 : Int32) + nI (bk_dp o p) = nI (6 + bk_dp o p) from nI_add 6 _]
              have pa := YA (6 + bk_dp o p) (by omega)
              have pb := YA (7 + bk_dp o p) (by omega)
              have ga := G (6 + bk_dp o p) (by omega)
              have gb := G (7 + bk_dp o p) (by omega)
              have ec : mc_c k (bk_dp o p) V M = fx_rc k (V (6 + bk_dp o p)) (M (6 + bk_dp o p)) (V (7 + bk_dp o p)) (M (7 + bk_dp o p)) := if_pos ⟨by omega, k8⟩
              refine cy_calc (by omega) k8 (by omega) (by omega) ga.2 gb.2 pa.1 pa.2 pb.1 pb.2 ga.1 gb.1 ?_
              intro d' mi' hfr hm' hpic
              rw [ec] at hend2 K
              by_cases z : fx_rc k (V (6 + bk_dp o p)) (M (6 + bk_dp o p)) (V (7 + bk_dp o p)) (M (7 + bk_dp o p)) = 0
              · rw [z]
                refine br_t rfl (hend2 d' mi' bg tm z rfl ?_ RS)
                unfold mc_V mc_M
                rw [if_neg c0, if_neg c0, if_neg c1, if_neg c1, if_neg c2, if_neg c2, if_pos k8, if_pos k8]
                refine ys_wr YA ?_ (fun s h1 h2 => hm' s (by omega) h2) (hpic z) (fun s h1 h2 => by omega)
                intro s h1 h2 pp i hi
                rw [hfr _ (by omega) (by omega)]
                exact pp i hi
              · refine br_f z ?_
                rw [if_neg z] at K
                refine K d' mi' bg tm ?_
                intro s hs8
                have a := YA s (by omega)
                exact ⟨fun i hi => by rw [hfr _ (by omega) (by omega)]; exact a.1 i hi, by rw [hm' s (by omega) (by omega)]; exact a.2⟩
      · have hc : mc_c k (bk_dp o p) V M = 0 := by unfold mc_c; rw [if_neg (by omega)]
        have eV : mc_V k (bk_dp o p) (g p) V M = V := by
          unfold mc_V; rw [if_neg (by omega), if_neg (by omega), if_neg (by omega), if_neg k8]
        have eM : mc_M k (bk_dp o p) (g p) V M = M := by
          unfold mc_M; rw [if_neg (by omega), if_neg (by omega), if_neg (by omega), if_neg k8]
        have hYA : ∀ c, c ≤ bk_dp o p → ys_all d mi (8 + c) V M := fun c hcc => ys_all_le YA (by omega)
        have hle : (if k ≤ 1 then bk_dp o p + 1 else if k ≤ 9 then bk_dp o p - 1 else bk_dp o p) ≤ bk_dp o p := by
          rw [if_neg (by omega)]; split <;> omega
        rw [eV, eM] at hend
        have n0 : ¬ nI k = 0 := fun z => by have := (nI_eq (b := 0) (by omega) (by omega)).mp z; omega
        have n1 : ¬ nI k = 1 := fun z => by have := (nI_eq (b := 1) (by omega) (by omega)).mp z; omega
        have n2 : ¬ nI k = 2 := fun z => by have := (nI_eq (b := 2) (by omega) (by omega)).mp z; omega
        refine br_f n0 (br_f n1 (br_f n2 (br_t (nI_lt (a := 8) (by omega) (by omega)) ?_)))
        -- IF that goes on, and REPEAT
        have hopen : (k = 9 ∧ ¬ V (7 + bk_dp o p) = 0) ∨ k = 10 → wY_run_201 post (wY_run_26 post (f + 1)) (nI p) (nI (bk_dp o p)) (nI (bk_st o p).length) (nI stp) (nI k) (nI (p + 1)) (nI n) dp oc o g d mi bg tm := by
          intro hko
          have hl := t3 (by omega)
          have eop : o p = 9 ∨ o p = 10 := by
            rw [ho]
            rcases hko with h | h
            · rw [h.1]; exact Or.inl rfl
            · rw [h]; exact Or.inr rfl
          have est : bk_st o (p + 1) = p :: bk_st o p := bk_open eop
          have ep : mc_p k (bk_dp o p) p (mc_s o p) (o (mc_s o p)) (e p) V rl = p + 1 := by
            unfold mc_p; rw [if_neg (by omega), if_neg (by omega)]
          have hfin : ∀ z : Int32, (z = if k = 10 then g p else 1) → wY_run_230 post (wY_run_26 post (f + 1)) (nI (bk_dp o p)) (nI (bk_st o p).length) (nI stp) (nI k) (nI (p + 1)) z (nI (bk_st o p).length) (nI n) dp oc o g d mi (upd bg (bk_st o p).length (nI p)) tm := by
            intro z hz
            refine ⟨fx_v4 (by omega), nm_r (e' := upd tm (bk_st o p).length z) (by rw [fx_k4 (by omega)]) (nm_r (nI_1 _) ?_)⟩
            have h := hend (p + 1) d mi (upd bg (bk_st o p).length (nI p)) (upd tm (bk_st o p).length z) hc ep.symm (hYA _ hle) (by
              rw [est]
              refine ⟨pk_us, ?_, ?_⟩
              · rw [pk_us, hz]
                unfold mc_rl
                by_cases c : k = 10
                · rw [if_pos c, if_pos c, if_pos (by rw [ho, c]; rfl), pk_us]
                · rw [if_neg c, if_neg (by rw [ho]; exact fun w => c ((nI_eq (b := 10) (by omega) (by omega)).mp w))]
              · refine bk_rs_cg (fun j hj => pk_un (by omega)) (fun j hj => pk_un (by omega)) ?_ RS
                intro s hs2
                have hlt := bk_mem o p s hs2
                unfold mc_rl
                by_cases c : k = 10
                · rw [if_pos c, pk_un (by omega)]
                · rw [if_neg c, if_neg (by omega)])
            rw [est, List.length_cons] at h
            exact h
          refine ⟨fx_v4 (by omega), nm_r (e' := upd bg (bk_st o p).length (nI p)) (by rw [fx_k4 (by omega)]) ?_⟩
          by_cases c : k = 10
          · refine br_t (by rw [c]; rfl) ⟨v40, ?_⟩
            rw [k40]
            exact hfin _ (by rw [if_pos c])
          · exact br_f (fun w => c ((nI_eq (b := 10) (by omega) (by omega)).mp w)) (hfin _ (by rw [if_neg c]))
        by_cases c9 : k = 9
        · subst c9
          have h1 := t9 rfl
          refine br_t rfl ?_
          rw [show (7 : Int32) + nI (bk_dp o p) = nI (7 + bk_dp o p) from nI_add 7 _]
          have pa := YA (7 + bk_dp o p) (by omega)
          have ga := G (7 + bk_dp o p) (by omega)
          refine cy_ln (by omega) pa.1 (fx_T82 ga.1) ?_
          intro l hl82 hl
          by_cases z : l = 0
          · have hV0 := (fx_len_0 hl).mp z
            refine br_t (by rw [z]; rfl) (cy_en hN H hn hpn ho ?_)
            intro q hq1 hq2 hq3
            have hept := (PT q hq1 hq2 p _ hq3).2
            have ep : mc_p 9 (bk_dp o p) p (mc_s o p) (o (mc_s o p)) (e p) V rl = q + 1 := by
              unfold mc_p; rw [if_pos ⟨rfl, hV0⟩, hept, nI_clamp (by omega)]
            have est : bk_st o (q + 1) = bk_st o p := by rw [bk_end hq2, hq3]; rfl
            have h := hend (q + 1) d mi bg tm hc ep.symm (hYA _ hle) (by rw [est]; exact RS)
            rw [est] at h
            exact nm_r (nI_1 q) h
          · exact br_f (nI_ne0 (by omega) (by omega)) (br_t rfl (hopen (Or.inl ⟨rfl, fun w => z ((fx_len_0 hl).mpr w)⟩)))
        · have n9 : ¬ nI k = 9 := fun w => c9 ((nI_eq (b := 9) (by omega) (by omega)).mp w)
          refine br_f n9 (br_f n9 ?_)
          by_cases c10 : k = 10
          · exact br_t (by rw [c10]; rfl) (hopen (Or.inr c10))
          · have e11 : k = 11 := by omega
            subst e11
            refine br_f (by decide) ?_
            cases hst : bk_st o p with
            | nil => exact absurd hst (t11 rfl)
            | cons s r =>
              have es : mc_s o p = s := by unfold mc_s; rw [hst]; rfl
              have hk2 := bk_ok o p s r hst
              have hlr : r.length < 3 := by rw [hst, List.length_cons] at hl3; omega
              have e1 : nI (s :: r).length - 1 = nI r.length := nI_pred _
              rw [hst] at RS
              obtain ⟨rs1, rs2, rs3⟩ := RS
              have vr : vp_in (nI r.length) 4 := fx_v4 (by omega)
              have kr : (nI r.length).toNatClampNeg = r.length := fx_k4 (by omega)
              have hmem : ∀ q, q ∈ r → q < s := fun q hq => bk_mem o s q (by rw [← hk2.2.1]; exact hq)
              rw [es] at hend
              rw [e1]
              refine ⟨vr, vr, nm_r (e' := upd tm r.length (tm r.length - 1)) (by rw [kr]) ⟨vr, ?_⟩⟩
              rw [kr, pk_us]
              by_cases c : o s = 10
              · rw [if_pos c] at rs2
                rw [rs2]
                have erl : mc_rl 11 p s (o s) (g p) rl = upd rl s (rl s - 1) := by
                  unfold mc_rl; rw [if_neg (by omega), if_pos ⟨rfl, c⟩]
                rw [erl] at hend
                by_cases z : 0 < rl s - 1
                · refine br_f (Int32.not_le.mpr z) ⟨vr, ?_⟩
                  rw [rs1]
                  have ep : mc_p 11 (bk_dp o p) p s (o s) (e p) V rl = s + 1 := by
                    unfold mc_p; rw [if_neg (by omega), if_pos ⟨rfl, c, z⟩]
                  have est : bk_st o (s + 1) = s :: r := by rw [bk_open (Or.inr c), ← hk2.2.1]
                  have h := hend (s + 1) d mi bg (upd tm r.length (rl s - 1)) hc ep.symm (hYA _ hle) (by
                    rw [est]
                    refine ⟨rs1, by rw [pk_us, if_pos c, pk_us], bk_rs_cg (fun j _ => rfl) (fun j hj => pk_un (by omega)) ?_ rs3⟩
                    intro q hq
                    have := hmem q hq
                    exact pk_un (by omega))
                  rw [est] at h
                  exact nm_r (nI_1 s) h
                · refine br_t (Int32.not_lt.mp z) ?_
                  have ep : mc_p 11 (bk_dp o p) p s (o s) (e p) V rl = p + 1 := by
                    unfold mc_p; rw [if_neg (by omega), if_neg (fun w => z w.2.2)]
                  have est : bk_st o (p + 1) = r := by rw [bk_end ho, hst]; rfl
                  have h := hend (p + 1) d mi bg (upd tm r.length (rl s - 1)) hc ep.symm (hYA _ hle) (by
                    rw [est]
                    refine bk_rs_cg (fun j _ => rfl) (fun j hj => pk_un (by omega)) ?_ rs3
                    intro q hq
                    have := hmem q hq
                    exact pk_un (by omega))
                  rw [est] at h
                  exact nm_r (e' := nI r.length) (pk_m1 _) h
              · rw [if_neg c] at rs2
                rw [rs2]
                have erl : mc_rl 11 p s (o s) (g p) rl = rl := by
                  unfold mc_rl; rw [if_neg (by omega), if_neg (fun w => c w.2)]
                rw [erl] at hend
                refine br_t (by decide) ?_
                have ep : mc_p 11 (bk_dp o p) p s (o s) (e p) V rl = p + 1 := by
                  unfold mc_p; rw [if_neg (by omega), if_neg (fun w => c w.2.1)]
                have est : bk_st o (p + 1) = r := by rw [bk_end ho, hst]; rfl
                have h := hend (p + 1) d mi bg (upd tm r.length (1 - 1)) hc ep.symm (hYA _ hle) (by
                  rw [est]
                  exact bk_rs_cg (fun j _ => rfl) (fun j hj => pk_un (by omega)) (fun _ _ => rfl) rs3)
                rw [est] at h
                exact nm_r (e' := nI r.length) (pk_m1 _) h
    · have : p = n := by omega
      subst this
      refine br_t (nI_le (Nat.le_refl p) (by omega)) ?_
      have hR : mc_run o g e p (f + 1) p V M rl = (0, V, M) := by
        show (if p < p then _ else _) = _
        rw [if_neg (by omega)]
      rw [hR] at K
      exact K d mi bg tm (ys_all_le YA (by omega))
end
