/-! the reference's emit -/
def em_q (c : Int32) (A : Prop) (P : Int32 → Prop) : Prop := (c = 0 → A) ∧ (c ≠ 0 → P c)
theorem em_q0 {A : Prop} {P : Int32 → Prop} (h : em_q 0 A P) : A := h.1 rfl
theorem em_qn {c : Int32} {A : Prop} {P : Int32 → Prop} (hc : c ≠ 0) (h : em_q c A P) : P c := h.2 hc
section
variable {sz dp oc : Int32} {o g d mi bg tm : Nat → Int32}
theorem cy_po {post : Int32 → Prop} {k : Nat} (hk : k < 12) (K : post (nI (bk_pops k))) : wpY_pops post (sz, dp, oc, o, g, d, mi, bg, tm) (nI k) := by
  revert K
  refine em_12 (P := fun k => post (nI (bk_pops k)) → wpY_pops post (sz, dp, oc, o, g, d, mi, bg, tm) (nI k)) ?_ ?_ ?_ ?_ ?_ ?_ ?_ ?_ ?_ ?_ ?_ ?_ hk <;> (intro K; repeat (first | exact K | refine br_t (by decide) ?_ | refine br_f (by decide) ?_))
theorem cy_152 {post : Int32 → SY → Prop} {k ocn : Nat} {a : Int32} (hk : k < 12) (ho : ocn ≤ 3) (K : em_q (em_c7 k ocn) (wY_emit_168 post (nI k) a sz dp (nI ocn) o g d mi bg tm) (fun c => post c (sz, dp, nI ocn, o, g, d, mi, bg, tm))) : wY_emit_152 post (nI k) a sz dp (nI ocn) o g d mi bg tm := by
  unfold em_c7 at K
  by_cases c : k = 11
  · refine br_t (by rw [c]; rfl) ?_
    by_cases z : ocn = 0
    · rw [if_pos ⟨c, z⟩] at K
      exact br_t (by rw [z]; rfl) (em_qn (by decide) K)
    · rw [if_neg (fun w => z w.2)] at K
      exact br_f (nI_ne0 (by omega) (by omega)) (em_q0 K)
  · rw [if_neg (fun w => c w.1)] at K
    exact br_f (em_nk (j := 11) hk (by omega) c) (em_q0 K)
theorem cy_129 {post : Int32 → SY → Prop} {k ocn : Nat} {a : Int32} (hk : k < 12) (ho : ocn ≤ 3) (K : em_q (em_c6 k ocn) (wY_emit_168 post (nI k) a sz dp (nI ocn) o g d mi bg tm) (fun c => post c (sz, dp, nI ocn, o, g, d, mi, bg, tm))) : wY_emit_129 post (nI k) a sz dp (nI ocn) o g d mi bg tm := by
  unfold em_c6 at K
  have h141 : (k = 9 ∨ k = 10) → wY_emit_141 post (nI k) a sz dp (nI ocn) o g d mi bg tm := by
    intro c
    by_cases z : 3 ≤ ocn
    · rw [if_pos ⟨c, z⟩] at K
      exact br_t (by rw [show ocn = 3 by omega]; rfl) (em_qn (by decide) K)
    · rw [if_neg (fun w => z w.2)] at K
      exact br_f (fun w => by have := (nI_eq (b := 3) (by omega) (by omega)).mp w; omega) (cy_152 hk ho K)
  by_cases c9 : k = 9
  · exact br_t (by rw [c9]; rfl) (h141 (Or.inl c9))
  · refine br_f (em_nk (j := 9) hk (by omega) c9) ?_
    by_cases c10 : k = 10
    · exact br_t (by rw [c10]; rfl) (h141 (Or.inr c10))
    · rw [if_neg (by omega)] at K
      exact br_f (em_nk (j := 10) hk (by omega) c10) (cy_152 hk ho K)
theorem cy_99 {post : Int32 → SY → Prop} {k dpn ocn : Nat} {a : Int32} (hk : k < 12) (hd : dpn ≤ 6) (ho : ocn ≤ 3) (K : em_q (em_c5 k dpn ocn) (wY_emit_168 post (nI k) a sz (nI dpn) (nI ocn) o g d mi bg tm) (fun c => post c (sz, nI dpn, nI ocn, o, g, d, mi, bg, tm))) : wY_emit_99 post (nI k) a sz (nI dpn) (nI ocn) o g d mi bg tm := by
  unfold em_c5 at K
  by_cases c9 : k = 9
  · subst c9
    rw [show bk_pops 9 = 1 from rfl] at K
    refine br_t rfl ?_
    by_cases z : dpn = 1
    · rw [if_neg (fun w => w.2 z)] at K
      exact br_t (by rw [z]; rfl) (br_t (by decide) (cy_129 hk ho K))
    · rw [if_pos ⟨Nat.le_refl 9, z⟩] at K
      exact br_f (fun w => z ((nI_eq (b := 1) (by omega) (by omega)).mp w)) (em_qn (by decide) K)
  · refine br_f (em_nk (j := 9) hk (by omega) c9) ?_
    by_cases c10 : k < 10
    · rw [if_neg (by omega)] at K
      exact br_t (nI_lt (b := 10) c10 (by omega)) (cy_129 hk ho K)
    · have ep : bk_pops k = 0 := by
        unfold bk_pops
        rw [if_neg (by omega), if_neg (by omega)]
      rw [ep] at K
      refine br_f (nI_nlt (b := 10) (by omega) (by omega)) ?_
      by_cases z : dpn = 0
      · rw [if_neg (fun w => w.2 z)] at K
        exact br_t (by rw [z]; rfl) (cy_129 hk ho K)
      · rw [if_pos ⟨by omega, z⟩] at K
        exact br_f (nI_ne0 (by omega) (by omega)) (em_qn (by decide) K)
theorem cy_67 {post : Int32 → SY → Prop} {k dpn ocn : Nat} {a : Int32} (hk : k < 12) (hd : dpn ≤ 6) (ho : ocn ≤ 3) (K : em_q (em_c3 k dpn ocn) (wY_emit_168 post (nI k) a sz (nI dpn) (nI ocn) o g d mi bg tm) (fun c => post c (sz, nI dpn, nI ocn, o, g, d, mi, bg, tm))) : wY_emit_67 post (nI k) a sz (nI dpn) (nI ocn) o g d mi bg tm := by
  have hpp := em_pops_le k
  unfold wY_emit_67
  refine cy_po hk ?_
  unfold em_c3 at K
  by_cases c3 : dpn < bk_pops k
  · rw [if_pos c3] at K
    exact br_f (nI_ge c3 (by omega)) (em_qn (by decide) K)
  · rw [if_neg c3] at K
    refine br_t (nI_le (by omega) (by omega)) ?_
    unfold em_c4 at K
    by_cases c4 : k ≤ 1
    · refine br_f (nI_nlt (a := 1) c4 (by omega)) ?_
      by_cases c6 : 6 ≤ dpn
      · rw [if_pos ⟨c4, c6⟩] at K
        exact br_t (by rw [show dpn = 6 by omega]; rfl) (em_qn (by decide) K)
      · rw [if_neg (fun w => c6 w.2)] at K
        exact br_f (fun w => by have := (nI_eq (b := 6) (by omega) (by omega)).mp w; omega) (cy_99 hk hd ho K)
    · rw [if_neg (fun w => c4 w.1)] at K
      exact br_t (nI_lt (a := 1) (by omega) (by omega)) (cy_99 hk hd ho K)
theorem cy_47 {post : Int32 → SY → Prop} {k dpn ocn : Nat} {a : Int32} (hk : k < 12) (hd : dpn ≤ 6) (ho : ocn ≤ 3) (hb : em_bad k a → k = 10) (K : em_q (em_c2 k a dpn ocn) (wY_emit_168 post (nI k) a sz (nI dpn) (nI ocn) o g d mi bg tm) (fun c => post c (sz, nI dpn, nI ocn, o, g, d, mi, bg, tm))) : wY_emit_47 post (nI k) a sz (nI dpn) (nI ocn) o g d mi bg tm := by
  unfold em_c2 at K
  by_cases c10 : k = 10
  · subst c10
    refine br_t rfl ?_
    by_cases c : a < 1
    · rw [if_pos (em_bad10.mpr (Or.inl c))] at K
      exact br_t c (em_qn (by decide) K)
    · refine br_f c ?_
      by_cases c6 : a ≤ 6
      · rw [if_neg (fun w => by
          rcases em_bad10.mp w with w | w
          · exact c w
          · exact Int32.not_le.mpr w c6)] at K
        exact br_t c6 (cy_67 hk hd ho K)
      · rw [if_pos (em_bad10.mpr (Or.inr (Int32.not_le.mp c6)))] at K
        exact br_f c6 (em_qn (by decide) K)
  · rw [if_neg (fun w => c10 (hb w))] at K
    exact br_f (em_nk (j := 10) hk (by omega) c10) (cy_67 hk hd ho K)
theorem cy_em {post : Int32 → SY → Prop} {k n dpn ocn : Nat} {a : Int32} (hk : k < 12) (hn : n ≤ 40) (hd : dpn ≤ 6) (ho : ocn ≤ 3) (K : em_q (em_c k a n dpn ocn) (wY_emit_168 post (nI k) a (nI n) (nI dpn) (nI ocn) o g d mi bg tm) (fun c => post c (nI n, nI dpn, nI ocn, o, g, d, mi, bg, tm))) : wpY_emit post (nI n, nI dpn, nI ocn, o, g, d, mi, bg, tm) (nI k) a := by
  unfold em_c at K
  refine br_f (nI_pos (by omega)) (br_t (nI_le (b := 11) (by omega) (by omega)) ?_)
  by_cases c1 : 40 ≤ n
  · rw [if_pos c1] at K
    exact br_f (nI_nlt (b := 40) c1 (by omega)) (em_qn (by decide) K)
  · rw [if_neg c1] at K
    refine br_t (nI_lt (b := 40) (by omega) (by omega)) ?_
    have h34 : (k = 1 ∨ k = 2) → wY_emit_34 post (nI k) a (nI n) (nI dpn) (nI ocn) o g d mi bg tm := by
      intro h
      by_cases c : a < 0
      · unfold em_c2 at K
        rw [if_pos ((em_bad1 h).mpr (Or.inl c))] at K
        exact br_t c (em_qn (by decide) K)
      · refine br_f c ?_
        by_cases c7 : a ≤ 7
        · have hnb : ¬ em_bad k a := by
            intro w
            rcases (em_bad1 h).mp w with w | w
            · exact c w
            · exact absurd (Int32.le_trans w c7) (by decide)
          exact br_t c7 (cy_47 hk hd ho (fun w => absurd w hnb) K)
        · unfold em_c2 at K
          have h8 : (8 : Int32) ≤ a := by
            have h7 := Int32.not_le.mp c7
            rw [Int32.lt_iff_toInt_lt, show (7 : Int32).toInt = 7 from by decide] at h7
            rw [Int32.le_iff_toInt_le, show (8 : Int32).toInt = 8 from by decide]
            omega
          rw [if_pos ((em_bad1 h).mpr (Or.inr h8))] at K
          exact br_f c7 (em_qn (by decide) K)
    by_cases d1 : k = 1
    · exact br_t (by rw [d1]; rfl) (h34 (Or.inl d1))
    · refine br_f (em_nk (j := 1) hk (by omega) d1) ?_
      by_cases d2 : k = 2
      · exact br_t (by rw [d2]; rfl) (h34 (Or.inr d2))
      · refine br_f (em_nk (j := 2) hk (by omega) d2) (cy_47 hk hd ho ?_ K)
        intro w
        rcases w with w | w
        · omega
        · exact w.1
theorem cy_168 {post : Int32 → SY → Prop} {k n dpn ocn : Nat} {a : Int32} (hk : k < 12) (hn : n < 40) (hh : 2 ≤ k → k ≤ 9 → 1 ≤ dpn) (h11 : k = 11 → 1 ≤ ocn) (ho : ocn ≤ 3) (K : post (nI n) (nI (n + 1), nI (if k ≤ 1 then dpn + 1 else if k ≤ 9 then dpn - 1 else dpn), nI (if k = 9 ∨ k = 10 then ocn + 1 else if k = 11 then ocn - 1 else ocn), upd o n (nI k), upd g n a, d, mi, bg, tm)) : wY_emit_168 post (nI k) a (nI n) (nI dpn) (nI ocn) o g d mi bg tm := by
  have v40 : vp_in (nI n) 40 := fx_v40 hn
  have k40 : (nI n).toNatClampNeg = n := fx_k40 hn
  have h240 : ∀ dp' oc' : Int32, post (nI n) (nI (n + 1), dp', oc', upd o n (nI k), upd g n a, d, mi, bg, tm) → wY_emit_240 post (nI k) a (nI n) dp' oc' o g d mi bg tm := by
    intro dp' oc' K
    refine ⟨v40, nm_r (e' := upd o n (nI k)) (by rw [k40]) ⟨v40, nm_r (e' := upd g n a) (by rw [k40]) (nm_r (nI_1 n) ?_)⟩⟩
    rw [nI_pred]
    exact K
  have h202 : ∀ dp' : Int32, post (nI n) (nI (n + 1), dp', nI (if k = 9 ∨ k = 10 then ocn + 1 else if k = 11 then ocn - 1 else ocn), upd o n (nI k), upd g n a, d, mi, bg, tm) → wY_emit_202 post (nI k) a (nI n) dp' (nI ocn) o g d mi bg tm := by
    intro dp' K
    have h214 : (k = 9 ∨ k = 10) → wY_emit_214 post (nI k) a (nI n) dp' (nI ocn) o g d mi bg tm := by
      intro c
      rw [if_pos c] at K
      exact nm_r (nI_1 ocn) (br_f (em_nk (j := 11) hk (by omega) (by omega)) (h240 _ _ K))
    by_cases c9 : k = 9
    · exact br_t (by rw [c9]; rfl) (h214 (Or.inl c9))
    · refine br_f (em_nk (j := 9) hk (by omega) c9) ?_
      by_cases c10 : k = 10
      · exact br_t (by rw [c10]; rfl) (h214 (Or.inr c10))
      · refine br_f (em_nk (j := 10) hk (by omega) c10) ?_
        rw [if_neg (by omega)] at K
        by_cases c11 : k = 11
        · rw [if_pos c11] at K
          have := h11 c11
          obtain ⟨t, rfl⟩ : ∃ t, ocn = t + 1 := ⟨ocn - 1, by omega⟩
          exact br_t (by rw [c11]; rfl) (nm_r (nI_pred t) (h240 _ _ K))
        · rw [if_neg c11] at K
          exact br_f (em_nk (j := 11) hk (by omega) c11) (h240 _ _ K)
  by_cases c1 : k ≤ 1
  · rw [if_pos c1] at K
    exact br_f (nI_nlt (a := 1) c1 (by omega)) (nm_r (nI_1 dpn) (h202 _ K))
  · rw [if_neg c1] at K
    refine br_t (nI_lt (a := 1) (by omega) (by omega)) ?_
    by_cases c9 : k ≤ 9
    · rw [if_pos c9] at K
      have := hh (by omega) c9
      obtain ⟨t, rfl⟩ : ∃ t, dpn = t + 1 := ⟨dpn - 1, by omega⟩
      exact br_f (nI_nlt (a := 9) c9 (by omega)) (nm_r (nI_pred t) (h202 _ K))
    · rw [if_neg c9] at K
      exact br_t (nI_lt (a := 9) (by omega) (by omega)) (h202 _ K)
theorem cy_bd0 {post : Int32 → Prop} {s : Nat} (hs : s < 8) (K : post 0) : wpY_bad post (sz, dp, oc, o, g, d, mi, bg, tm) (nI s) :=
  br_f (nI_pos (by omega)) (br_t (nI_le (b := 7) (by omega) (by omega)) K)
theorem cy_bd1 {post : Int32 → Prop} {x : Int32} (hx : x < 0 ∨ 8 ≤ x) (K : post 1) : wpY_bad post (sz, dp, oc, o, g, d, mi, bg, tm) x := by
  by_cases h : x < 0
  · exact br_t h K
  · exact br_f h (br_f (fun z => absurd (Int32.le_trans (hx.resolve_left h) z) (by decide)) K)
end
