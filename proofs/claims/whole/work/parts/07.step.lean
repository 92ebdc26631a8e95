/-! where a step leads -/
theorem mc_skip {o g e : Nat → Int32} {n p : Nat} (H : bk_wf o g n) (hn : bk_st o n = []) (PT : bk_pt o e n) (hp : p < n) (h9 : o p = 9 ∨ o p = 10) : ∃ q, p < q ∧ q < n ∧ o q = 11 ∧ bk_st o q = p :: bk_st o p ∧ e p = nI q := by
  obtain ⟨q, h1, h2, h3, h4⟩ := bk_close H hn (a := p) (n - (p + 1)) (p + 1) [] (by omega) (bk_open h9)
  exact ⟨q, by omega, h2, h3, h4, (PT q h2 h3 p _ h4).2⟩
theorem mc_o11 {o : Nat → Int32} {q k : Nat} (h : o q = 11) (ho : o q = nI k) (hk : k < 12) : k = 11 :=
  (mc_eq hk (by omega)).mp (ho.symm.trans (h.trans (show (11 : Int32) = nI 11 from rfl)))
theorem mc_o10 {o : Nat → Int32} {q k : Nat} (h : o q = 10) (ho : o q = nI k) (hk : k < 12) : k = 10 :=
  (mc_eq hk (by omega)).mp (ho.symm.trans (h.trans (show (10 : Int32) = nI 10 from rfl)))
theorem mc_nx {o g e : Nat → Int32} {n p k : Nat} {V : Nat → Nat} {rl : Nat → Int32} (hN : n ≤ 40) (H : bk_wf o g n) (hn : bk_st o n = []) (PT : bk_pt o e n) (hp : p < n) (ho : o p = nI k) (hk : k < 12) :
    mc_p k (bk_dp o p) p (mc_s o p) (o (mc_s o p)) (e p) V rl ≤ n ∧
    bk_dp o (mc_p k (bk_dp o p) p (mc_s o p) (o (mc_s o p)) (e p) V rl) = (if k ≤ 1 then bk_dp o p + 1 else if k ≤ 9 then bk_dp o p - 1 else bk_dp o p) ∧
    bk_st o (mc_p k (bk_dp o p) p (mc_s o p) (o (mc_s o p)) (e p) V rl) = (if k = 9 then (if V (7 + bk_dp o p) = 0 then bk_st o p else p :: bk_st o p) else if k = 10 then p :: bk_st o p else if k = 11 then (if o (mc_s o p) = 10 ∧ 0 < rl (mc_s o p) - 1 then bk_st o p else (bk_st o p).tail) else bk_st o p) := by
  obtain ⟨k', hk', ho', t⟩ := H p hp
  have : k' = k := (mc_eq hk' hk).mp (ho'.symm.trans ho)
  subst this
  obtain ⟨_, _, _, t9, t10, _, t11⟩ := t
  unfold mc_p
  by_cases c1 : k' = 9 ∧ V (7 + bk_dp o p) = 0
  · rw [if_pos c1]
    obtain ⟨rfl, c2⟩ := c1
    obtain ⟨q, h1, h2, h3, h4, h5⟩ := mc_skip H hn PT hp (Or.inl ho)
    obtain ⟨j, hj, hoj, _, _, _, _, j10, _⟩ := H q h2
    have := mc_o11 h3 hoj hj
    subst this
    rw [h5, nI_clamp (by omega)]
    have d0 := j10 (by omega)
    refine ⟨by omega, ?_, ?_⟩
    · rw [bk_dp_s hoj hj, t9 rfl, d0]; rfl
    · rw [bk_end h3, h4, if_pos rfl, if_pos c2]; rfl
  · rw [if_neg c1]
    by_cases c2 : k' = 11 ∧ o (mc_s o p) = 10 ∧ 0 < rl (mc_s o p) - 1
    · rw [if_pos c2]
      obtain ⟨rfl, c3⟩ := c2
      cases hs : bk_st o p with
      | nil => exact absurd hs (t11 rfl)
      | cons s r =>
        have es : mc_s o p = s := by unfold mc_s; rw [hs]; rfl
        rw [es] at c3 ⊢
        have hk2 := bk_ok o p s r hs
        obtain ⟨j, hj, hoj, _, _, _, _, j10, _⟩ := H s (by omega)
        have := mc_o10 c3.1 hoj hj
        subst this
        refine ⟨by omega, ?_, ?_⟩
        · rw [bk_dp_s hoj hj, j10 (by omega), t10 (by omega)]; rfl
        · rw [bk_open (Or.inr c3.1), ← hk2.2.1, if_pos c3]; rfl
    · rw [if_neg c2]
      refine ⟨by omega, bk_dp_s ho hk', ?_⟩
      rw [bk_st_s ho hk']
      by_cases e9 : k' = 9
      · subst e9
        rw [if_pos (Or.inl rfl), if_pos rfl, if_neg (fun z => c1 ⟨rfl, z⟩)]
      · by_cases e10 : k' = 10
        · subst e10; rfl
        · rw [if_neg (by omega), if_neg e9, if_neg e10]
          by_cases e11 : k' = 11
          · subst e11
            rw [if_pos rfl, if_pos rfl, if_neg (fun z => c2 ⟨rfl, z⟩)]
          · rw [if_neg e11, if_neg e11]
/-- the numbers stay below ten to the 40th -/
theorem fx_rc_0 {op V m W k : Nat} (h : fx_rc op V m W k = 0) : fx_rv op V m W k < fx_T := by
  unfold fx_rc at h
  by_cases c1 : (op = 6 ∨ op = 7) ∧ W = 0
  · rw [if_pos c1] at h; exact absurd h (by decide)
  · rw [if_neg c1] at h
    by_cases c2 : fx_T ≤ fx_rv op V m W k
    · rw [if_pos c2] at h; exact absurd h (by decide)
    · omega
theorem mc_nG {o g : Nat → Int32} {n p k : Nat} {V M : Nat → Nat} (H : bk_wf o g n) (hp : p < n) (ho : o p = nI k) (hk : k < 12) (G : mc_G (8 + bk_dp o p) V M) (hc : mc_c k (bk_dp o p) V M = 0) :
    mc_G (8 + (if k ≤ 1 then bk_dp o p + 1 else if k ≤ 9 then bk_dp o p - 1 else bk_dp o p)) (mc_V k (bk_dp o p) (g p) V M) (mc_M k (bk_dp o p) (g p) V M) := by
  obtain ⟨k', hk', ho', t⟩ := H p hp
  have : k' = k := (mc_eq hk' hk).mp (ho'.symm.trans ho)
  subst this
  obtain ⟨ta, tp, t6, t9, _⟩ := t
  unfold mc_V mc_M
  by_cases c0 : k' = 0
  · subst c0
    exact mc_G_ps (c := 8 + bk_dp o p) G (fx_ab_T _) (fx_mn_2 _)
  · rw [if_neg c0, if_neg c0]
    by_cases c1 : k' = 1
    · subst c1
      obtain ⟨v, hv, hg⟩ := ta (Or.inl rfl)
      rw [hg, nI_clamp (by omega)]
      have := G v (by omega)
      exact mc_G_ps (c := 8 + bk_dp o p) G this.1 this.2
    · rw [if_neg c1, if_neg c1, if_neg (show ¬ k' ≤ 1 by omega)]
      by_cases c2 : k' = 2
      · subst c2
        have hpp : 1 ≤ bk_dp o p := tp
        have := G (7 + bk_dp o p) (by omega)
        rw [if_pos rfl, if_pos rfl, if_pos (by omega)]
        exact mc_G_up (mc_G_le G (by omega)) this.1 this.2
      · rw [if_neg c2, if_neg c2]
        by_cases c8 : k' ≤ 8
        · have hpp : 2 ≤ bk_dp o p := by
            have : bk_pops k' = 2 := if_pos ⟨by omega, c8⟩
            omega
          rw [if_pos c8, if_pos c8, if_pos (by omega)]
          have g1 := G (6 + bk_dp o p) (by omega)
          have g2 := G (7 + bk_dp o p) (by omega)
          unfold mc_c at hc
          rw [if_pos ⟨by omega, c8⟩] at hc
          exact mc_G_up (mc_G_le G (by omega)) (fx_rc_0 hc) (fx_rm_le g1.2 g2.2)
        · rw [if_neg c8, if_neg c8]
          refine mc_G_le G ?_
          split <;> omega
