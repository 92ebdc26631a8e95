/-! emit on both sides -/
def em_c7 (k oc : Nat) : Int32 := if k = 11 ∧ oc = 0 then -8 else 0
def em_c6 (k oc : Nat) : Int32 := if (k = 9 ∨ k = 10) ∧ 3 ≤ oc then -7 else em_c7 k oc
def em_c5 (k dp oc : Nat) : Int32 := if 9 ≤ k ∧ dp ≠ bk_pops k then -6 else em_c6 k oc
def em_c4 (k dp oc : Nat) : Int32 := if k ≤ 1 ∧ 6 ≤ dp then -5 else em_c5 k dp oc
def em_c3 (k dp oc : Nat) : Int32 := if dp < bk_pops k then -4 else em_c4 k dp oc
abbrev em_bad (k : Nat) (a : Int32) : Prop := ((k = 1 ∨ k = 2) ∧ (a < 0 ∨ 8 ≤ a)) ∨ (k = 10 ∧ (a < 1 ∨ 6 < a))
noncomputable def em_c2 (k : Nat) (a : Int32) (dp oc : Nat) : Int32 := if em_bad k a then -2 else em_c3 k dp oc
noncomputable def em_c (k : Nat) (a : Int32) (n dp oc : Nat) : Int32 := if 40 ≤ n then -3 else em_c2 k a dp oc
theorem em_bad1 {k : Nat} {a : Int32} (h : k = 1 ∨ k = 2) : em_bad k a ↔ (a < 0 ∨ 8 ≤ a) := by
  unfold em_bad
  constructor
  · intro w
    rcases w with w | w
    · exact w.2
    · omega
  · intro w
    exact Or.inl ⟨h, w⟩
theorem em_bad10 {a : Int32} : em_bad 10 a ↔ (a < 1 ∨ 6 < a) := by
  unfold em_bad
  constructor
  · intro w
    rcases w with w | w
    · omega
    · exact w.2
  · intro w
    exact Or.inr ⟨rfl, w⟩
theorem em_badn {k : Nat} {a : Int32} (h1 : k ≠ 1) (h2 : k ≠ 2) (h3 : k ≠ 10) : ¬ em_bad k a := by
  unfold em_bad
  omega
theorem em_pops_le (k : Nat) : bk_pops k ≤ 2 := by unfold bk_pops; split; omega; split <;> omega
/-- what an accepted token has -/
theorem em_c0 {k : Nat} {a : Int32} {n dp oc : Nat} (h : em_c k a n dp oc = 0) : n < 40 ∧ (k = 1 ∨ k = 2 → ∃ v : Nat, v < 8 ∧ a = nI v) ∧ bk_pops k ≤ dp ∧ (k ≤ 1 → dp < 6) ∧ (9 ≤ k → dp = bk_pops k) ∧ (k = 9 ∨ k = 10 → oc < 3) ∧ (k = 11 → oc ≠ 0) := by
  unfold em_c em_c2 em_c3 em_c4 em_c5 em_c6 em_c7 at h
  by_cases c1 : 40 ≤ n
  · rw [if_pos c1] at h; exact absurd h (by decide)
  · rw [if_neg c1] at h
    by_cases c2 : em_bad k a
    · rw [if_pos c2] at h; exact absurd h (by decide)
    · rw [if_neg c2] at h
      by_cases c3 : dp < bk_pops k
      · rw [if_pos c3] at h; exact absurd h (by decide)
      · rw [if_neg c3] at h
        by_cases c4 : k ≤ 1 ∧ 6 ≤ dp
        · rw [if_pos c4] at h; exact absurd h (by decide)
        · rw [if_neg c4] at h
          by_cases c5 : 9 ≤ k ∧ dp ≠ bk_pops k
          · rw [if_pos c5] at h; exact absurd h (by decide)
          · rw [if_neg c5] at h
            by_cases c6 : (k = 9 ∨ k = 10) ∧ 3 ≤ oc
            · rw [if_pos c6] at h; exact absurd h (by decide)
            · rw [if_neg c6] at h
              by_cases c7 : k = 11 ∧ oc = 0
              · rw [if_pos c7] at h; exact absurd h (by decide)
              · refine ⟨by omega, ?_, by omega, by omega, by omega, by omega, by omega⟩
                intro hk
                rcases pk_ix a (n := 8) (by omega) with w | w | w
                · exact absurd ((em_bad1 hk).mpr (Or.inl w)) c2
                · exact absurd ((em_bad1 hk).mpr (Or.inr w)) c2
                · exact w
theorem em_neg {k : Nat} {a : Int32} {n dp oc : Nat} (h : em_c k a n dp oc ≠ 0) : ¬ 0 ≤ em_c k a n dp oc := by
  unfold em_c em_c2 em_c3 em_c4 em_c5 em_c6 em_c7 at *
  by_cases c1 : 40 ≤ n
  · rw [if_pos c1]; decide
  · rw [if_neg c1] at h ⊢
    by_cases c2 : em_bad k a
    · rw [if_pos c2]; decide
    · rw [if_neg c2] at h ⊢
      by_cases c3 : dp < bk_pops k
      · rw [if_pos c3]; decide
      · rw [if_neg c3] at h ⊢
        by_cases c4 : k ≤ 1 ∧ 6 ≤ dp
        · rw [if_pos c4]; decide
        · rw [if_neg c4] at h ⊢
          by_cases c5 : 9 ≤ k ∧ dp ≠ bk_pops k
          · rw [if_pos c5]; decide
          · rw [if_neg c5] at h ⊢
            by_cases c6 : (k = 9 ∨ k = 10) ∧ 3 ≤ oc
            · rw [if_pos c6]; decide
            · rw [if_neg c6] at h ⊢
              by_cases c7 : k = 11 ∧ oc = 0
              · rw [if_pos c7]; decide
              · rw [if_neg c7] at h; exact absurd rfl h
theorem em_12 {P : Nat → Prop} (h0 : P 0) (h1 : P 1) (h2 : P 2) (h3 : P 3) (h4 : P 4) (h5 : P 5) (h6 : P 6) (h7 : P 7) (h8 : P 8) (h9 : P 9) (h10 : P 10) (h11 : P 11) {k : Nat} (hk : k < 12) : P k := by
  have : k = 0 ∨ k = 1 ∨ k = 2 ∨ k = 3 ∨ k = 4 ∨ k = 5 ∨ k = 6 ∨ k = 7 ∨ k = 8 ∨ k = 9 ∨ k = 10 ∨ k = 11 := by omega
  rcases this with rfl | rfl | rfl | rfl | rfl | rfl | rfl | rfl | rfl | rfl | rfl | rfl <;> assumption
theorem cx_po {post : Int32 → Prop} {k : Nat} (hk : k < 12) (K : post (nI (bk_pops k))) : wpX_popsOf post (nI k) := by
  revert K
  revert k
  intro k hk
  refine em_12 (P := fun k => post (nI (bk_pops k)) → wpX_popsOf post (nI k)) ?_ ?_ ?_ ?_ ?_ ?_ ?_ ?_ ?_ ?_ ?_ ?_ hk <;> (intro K; repeat (first | exact K | refine br_t (by decide) ?_ | refine br_f (by decide) ?_))
theorem cx_op {post : Int32 → Prop} {k : Nat} (hk : k < 12) (K : post (if k = 9 ∨ k = 10 then 1 else 0)) : wpX_opensBlock post (nI k) := by
  revert K
  refine em_12 (P := fun k => post (if k = 9 ∨ k = 10 then 1 else 0) → wpX_opensBlock post (nI k)) ?_ ?_ ?_ ?_ ?_ ?_ ?_ ?_ ?_ ?_ ?_ ?_ hk <;> (intro K; repeat (first | exact K | refine br_t (by decide) ?_ | refine br_f (by decide) ?_))
theorem cx_dc {post : Int32 → Prop} {k : Nat} (hk : k < 12) (K : post (if k ≤ 1 then 1 else if k ≤ 9 then -1 else 0)) : wpX_depthChange post (nI k) := by
  revert K
  refine em_12 (P := fun k => post (if k ≤ 1 then 1 else if k ≤ 9 then -1 else 0) → wpX_depthChange post (nI k)) ?_ ?_ ?_ ?_ ?_ ?_ ?_ ?_ ?_ ?_ ?_ ?_ hk <;> (intro K; repeat (first | exact K | refine br_t (by decide) ?_ | refine br_f (by decide) ?_))
theorem em_nk {k j : Nat} (hk : k < 12) (hj : j < 12) (h : k ≠ j) : ¬ nI k = nI j := fun z => h ((mc_eq hk hj).mp z)
theorem cx_ga {post : Int32 → Prop} {k : Nat} {a : Int32} (hk : k < 12) (K0 : em_bad k a → post 0) (K1 : ¬ em_bad k a → post 1) : wpX_isGoodArgument post (nI k) a := by
  have h10 : (k = 1 ∨ k = 2) → wX_isGoodArgument_10 post a := by
    intro h
    unfold wX_isGoodArgument_10
    by_cases c : a < 0
    · exact br_t c ⟨rfl, K0 ((em_bad1 h).mpr (Or.inl c))⟩
    · refine br_f c ?_
      by_cases c8 : 8 ≤ a
      · exact br_t c8 ⟨rfl, K0 ((em_bad1 h).mpr (Or.inr c8))⟩
      · refine br_f c8 ⟨rfl, K1 (fun w => ?_)⟩
        rcases (em_bad1 h).mp w with w | w
        · exact c w
        · exact c8 w
  by_cases c1 : k = 1
  · exact br_t (by rw [c1]; rfl) (h10 (Or.inl c1))
  · refine br_f (em_nk (j := 1) hk (by omega) c1) ?_
    by_cases c2 : k = 2
    · exact br_t (by rw [c2]; rfl) (h10 (Or.inr c2))
    · refine br_f (em_nk (j := 2) hk (by omega) c2) ?_
      by_cases c10 : k = 10
      · subst c10
        refine br_t rfl ?_
        by_cases c : a < 1
        · exact br_t c (K0 (em_bad10.mpr (Or.inl c)))
        · refine br_f c ?_
          by_cases c6 : 6 < a
          · exact br_t c6 (K0 (em_bad10.mpr (Or.inr c6)))
          · refine br_f c6 (K1 (fun w => ?_))
            rcases em_bad10.mp w with w | w
            · exact c w
            · exact c6 w
      · exact br_f (em_nk (j := 10) hk (by omega) c10) (K1 (em_badn c1 c2 c10))
section
variable {tc dp oc ht : Int32} {L : Nat → Int64} {S o g pt ob rl : Nat → Int32} {pr qu re mu : Nat → Int64}
theorem cx_104 {post : Int32 → Prop} {k ocn : Nat} (hk : k < 12) (ho : ocn ≤ 3) (K : post (em_c7 k ocn)) : wX_refusalOf_104 post (nI k) tc dp (nI ocn) ht L S o g pt ob rl pr qu re mu := by
  unfold em_c7 at K
  by_cases c : k = 11
  · refine br_t (by rw [c]; rfl) ?_
    by_cases z : ocn = 0
    · rw [if_pos ⟨c, z⟩] at K
      exact br_f (by rw [z]; decide) K
    · rw [if_neg (fun w => z w.2)] at K
      exact br_t (nI_lt (a := 0) (by omega) (by omega)) K
  · rw [if_neg (fun w => c w.1)] at K
    exact br_f (em_nk (j := 11) hk (by omega) c) K
theorem cx_86 {post : Int32 → Prop} {k ocn : Nat} (hk : k < 12) (ho : ocn ≤ 3) (K : post (em_c6 k ocn)) : wX_refusalOf_86 post (nI k) tc dp (nI ocn) ht L S o g pt ob rl pr qu re mu := by
  unfold wX_refusalOf_86
  refine cx_op hk ?_
  unfold em_c6 at K
  by_cases c : k = 9 ∨ k = 10
  · rw [if_pos c]
    refine br_f (by decide) ?_
    by_cases z : 3 ≤ ocn
    · rw [if_pos ⟨c, z⟩] at K
      exact br_f (nI_nlt (b := 3) z (by omega)) K
    · rw [if_neg (fun w => z w.2)] at K
      exact br_t (nI_lt (b := 3) (by omega) (by omega)) (cx_104 hk ho K)
  · rw [if_neg c]
    rw [if_neg (fun w => c w.1)] at K
    exact br_t rfl (cx_104 hk ho K)
theorem cx_66 {post : Int32 → Prop} {k dpn ocn : Nat} (hk : k < 12) (hd : dpn ≤ 6) (ho : ocn ≤ 3) (K : post (em_c5 k dpn ocn)) : wX_refusalOf_66 post (nI k) tc (nI dpn) (nI ocn) ht L S o g pt ob rl pr qu re mu := by
  unfold em_c5 at K
  have hpp := em_pops_le k
  by_cases c : 9 ≤ k
  · refine br_f (nI_nlt (b := 9) c (by omega)) (cx_po hk ?_)
    by_cases z : dpn = bk_pops k
    · rw [if_neg (fun w => w.2 z)] at K
      exact br_t (by rw [z]) (cx_86 hk ho K)
    · rw [if_pos ⟨c, z⟩] at K
      exact br_f (fun w => z ((nI_eq (by omega) (by omega)).mp w)) K
  · rw [if_neg (fun w => c w.1)] at K
    exact br_t (nI_lt (b := 9) (by omega) (by omega)) (cx_86 hk ho K)
theorem cx_rf {post : Int32 → Prop} {k n dpn ocn : Nat} {a : Int32} (hk : k < 12) (hn : n ≤ 40) (hd : dpn ≤ 6) (ho : ocn ≤ 3) (K : post (em_c k a n dpn ocn)) : wpX_refusalOf post (nI n, nI dpn, nI ocn, ht, L, S, o, g, pt, ob, rl, pr, qu, re, mu) (nI k) a := by
  have hpp := em_pops_le k
  unfold em_c at K
  refine br_f (nI_pos (by omega)) (br_t (nI_le (b := 11) (by omega) (by omega)) ?_)
  by_cases c1 : 40 ≤ n
  · rw [if_pos c1] at K
    exact br_f (nI_nlt (b := 40) c1 (by omega)) K
  · rw [if_neg c1] at K
    refine br_t (nI_lt (b := 40) (by omega) (by omega)) (cx_ga hk ?_ ?_)
    · intro hb
      unfold em_c2 at K
      rw [if_pos hb] at K
      exact br_t rfl K
    · intro hb
      unfold em_c2 at K
      rw [if_neg hb] at K
      refine br_f (by decide) (cx_po hk ?_)
      unfold em_c3 at K
      by_cases c3 : dpn < bk_pops k
      · rw [if_pos c3] at K
        exact br_f (nI_ge c3 (by omega)) K
      · rw [if_neg c3] at K
        refine br_t (nI_le (by omega) (by omega)) ?_
        unfold em_c4 at K
        by_cases c4 : k ≤ 1
        · refine br_f (nI_nlt (a := 1) c4 (by omega)) ?_
          by_cases c6 : 6 ≤ dpn
          · rw [if_pos ⟨c4, c6⟩] at K
            exact br_f (nI_nlt (b := 6) c6 (by omega)) K
          · rw [if_neg (fun w => c6 w.2)] at K
            exact br_t (nI_lt (b := 6) (by omega) (by omega)) (cx_66 hk hd ho K)
        · rw [if_neg (fun w => c4 w.1)] at K
          exact br_t (nI_lt (a := 1) (by omega) (by omega)) (cx_66 hk hd ho K)
theorem em_dc {k dpn : Nat} (h : 2 ≤ k → k ≤ 9 → 1 ≤ dpn) : nI dpn + (if k ≤ 1 then (1 : Int32) else if k ≤ 9 then -1 else 0) = nI (if k ≤ 1 then dpn + 1 else if k ≤ 9 then dpn - 1 else dpn) := by
  by_cases c1 : k ≤ 1
  · rw [if_pos c1, if_pos c1, nI_1]
  · rw [if_neg c1, if_neg c1]
    by_cases c9 : k ≤ 9
    · rw [if_pos c9, if_pos c9]
      have := h (by omega) c9
      obtain ⟨t, rfl⟩ : ∃ t, dpn = t + 1 := ⟨dpn - 1, by omega⟩
      exact pk_m1 t
    · rw [if_neg c9, if_neg c9, Int32.add_zero]
theorem em_h1 {k dpn : Nat} (h : bk_pops k ≤ dpn) : 2 ≤ k → k ≤ 9 → 1 ≤ dpn := by
  intro a b
  unfold bk_pops at h
  split at h
  · omega
  · rw [if_pos (by omega)] at h; exact h
/-- refused -/
theorem cx_em0 {post : Int32 → SX → Prop} {k n dpn ocn : Nat} {a : Int32} (hk : k < 12) (hn : n ≤ 40) (hd : dpn ≤ 6) (ho : ocn ≤ 3) (hc : em_c k a n dpn ocn ≠ 0) (K : post (em_c k a n dpn ocn) (nI n, nI dpn, nI ocn, ht, L, S, o, g, pt, ob, rl, pr, qu, re, mu)) : wpX_emit post (nI n, nI dpn, nI ocn, ht, L, S, o, g, pt, ob, rl, pr, qu, re, mu) (nI k) a := by
  unfold wpX_emit
  exact cx_rf hk hn hd ho (br_f (em_neg hc) K)
/-- taken -/
theorem cx_em1 {post : Int32 → SX → Prop} {k n dpn ocn : Nat} {a : Int32} (hk : k < 12) (hd : dpn ≤ 6) (ho : ocn ≤ 3) (hc : em_c k a n dpn ocn = 0) (KA : k ≤ 8 → post (nI n) (nI (n + 1), nI (if k ≤ 1 then dpn + 1 else dpn - 1), nI ocn, ht, L, S, upd o n (nI k), upd g n a, pt, ob, rl, pr, qu, re, mu)) (KB : k = 9 ∨ k = 10 → post (nI n) (nI (n + 1), nI 0, nI (ocn + 1), ht, L, S, upd o n (nI k), upd g n a, pt, upd ob ocn (nI n), rl, pr, qu, re, mu)) (KC : k = 11 → ∀ s, s < n → ob (ocn - 1) = nI s → post (nI n) (nI (n + 1), nI 0, nI (ocn - 1), ht, L, S, upd o n (nI 11), upd g n a, upd (upd pt s (nI n)) n (nI s), ob, rl, pr, qu, re, mu)) (HC : k = 11 → ∃ s, s < n ∧ ob (ocn - 1) = nI s) : wpX_emit post (nI n, nI dpn, nI ocn, ht, L, S, o, g, pt, ob, rl, pr, qu, re, mu) (nI k) a := by
  obtain ⟨q1, q2, q3, q4, q5, q6, q7⟩ := em_c0 hc
  have v40 : vp_in (nI n) 40 := fx_v40 q1
  have k40 : (nI n).toNatClampNeg = n := fx_k40 q1
  unfold wpX_emit
  refine cx_rf hk (by omega) hd ho ?_
  rw [hc]
  refine br_t (by decide) ⟨v40, nm_r (e' := upd o n (nI k)) (by rw [k40]) ⟨v40, nm_r (e' := upd g n a) (by rw [k40]) (nm_r (nI_1 n) (cx_dc hk (nm_r (em_dc (em_h1 q3)) (cx_op hk ?_))))⟩⟩
  by_cases c8 : k ≤ 8
  · rw [if_neg (show ¬ (k = 9 ∨ k = 10) by omega)]
    have K' := KA c8
    have ed : (if k ≤ 1 then dpn + 1 else if k ≤ 9 then dpn - 1 else dpn) = (if k ≤ 1 then dpn + 1 else dpn - 1) := by
      split
      · rfl
      · rw [if_pos (by omega)]
    rw [ed]
    exact br_t rfl (br_f (em_nk (j := 11) hk (by omega) (by omega)) K')
  · by_cases c : k = 9 ∨ k = 10
    · rw [if_pos c]
      have K' := KB c
      have ed : (if k ≤ 1 then dpn + 1 else if k ≤ 9 then dpn - 1 else dpn) = 0 := by
        have := q5 (by omega)
        rcases c with rfl | rfl
        · rw [show bk_pops 9 = 1 from rfl] at this; rw [this]; rfl
        · rw [show bk_pops 10 = 0 from rfl] at this; rw [this]; rfl
      rw [ed]
      exact br_f (by decide) ⟨vp_in_nI (q6 c) (by omega), nm_r (e' := upd ob ocn (nI n)) (by rw [nI_clamp (by omega)]) (nm_r (nI_1 ocn) (br_f (em_nk (j := 11) hk (by omega) (by omega)) K'))⟩
    · have e11 : k = 11 := by omega
      subst e11
      rw [if_neg c]
      obtain ⟨s, hs, es⟩ := HC rfl
      have K' := KC rfl s hs es
      have ed : (if 11 ≤ 1 then dpn + 1 else if 11 ≤ 9 then dpn - 1 else dpn) = 0 := by
        have := q5 (by omega)
        rw [show bk_pops 11 = 0 from rfl] at this; rw [this]; rfl
      rw [ed]
      have h0 := q7 rfl
      obtain ⟨t, rfl⟩ : ∃ t, ocn = t + 1 := ⟨ocn - 1, by omega⟩
      rw [Nat.add_sub_cancel] at es K'
      refine br_t rfl (br_t rfl (nm_r (nI_pred t) ⟨vp_in_nI (by omega) (by omega), nm_r (e' := nI s) (by rw [nI_clamp (by omega)]; exact es) ⟨fx_v40 (by omega), nm_r (e' := upd pt s (nI n)) (by rw [fx_k40 (by omega)]) ⟨v40, nm_r (e' := upd (upd pt s (nI n)) n (nI s)) (by rw [k40]) K'⟩⟩⟩))
end
