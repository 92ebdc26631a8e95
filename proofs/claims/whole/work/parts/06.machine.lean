/-! the machine itself, on numbers: slots 0 to 7 variables, 8 and on the stack; V absolute values, M signs (1: minus) -/
noncomputable def mc_V (k h : Nat) (a : Int32) (V M : Nat → Nat) : Nat → Nat :=
  if k = 0 then fx_up V (8 + h) (fx_ab a) else if k = 1 then fx_up V (8 + h) (V a.toNatClampNeg) else if k = 2 then fx_up V a.toNatClampNeg (V (7 + h)) else if k ≤ 8 then fx_up V (6 + h) (fx_rv k (V (6 + h)) (M (6 + h)) (V (7 + h)) (M (7 + h))) else V
def mc_M (k h : Nat) (a : Int32) (V M : Nat → Nat) : Nat → Nat :=
  if k = 0 then fx_up M (8 + h) (fx_mn a) else if k = 1 then fx_up M (8 + h) (M a.toNatClampNeg) else if k = 2 then fx_up M a.toNatClampNeg (M (7 + h)) else if k ≤ 8 then fx_up M (6 + h) (fx_rm k (V (6 + h)) (M (6 + h)) (V (7 + h)) (M (7 + h))) else M
noncomputable def mc_c (k h : Nat) (V M : Nat → Nat) : Int32 :=
  if 3 ≤ k ∧ k ≤ 8 then fx_rc k (V (6 + h)) (M (6 + h)) (V (7 + h)) (M (7 + h)) else 0
def mc_rl (k p s : Nat) (os a : Int32) (rl : Nat → Int32) : Nat → Int32 :=
  if k = 10 then upd rl p a else if k = 11 ∧ os = 10 then upd rl s (rl s - 1) else rl
def mc_p (k h p s : Nat) (os e : Int32) (V : Nat → Nat) (rl : Nat → Int32) : Nat :=
  if k = 9 ∧ V (7 + h) = 0 then e.toNatClampNeg + 1 else if k = 11 ∧ os = 10 ∧ 0 < rl s - 1 then s + 1 else p + 1
def mc_s (o : Nat → Int32) (p : Nat) : Nat := (bk_st o p).headD 0
def mc_k (o : Nat → Int32) (p : Nat) : Nat := (o p).toNatClampNeg
noncomputable def mc_run (o g e : Nat → Int32) (n : Nat) : Nat → Nat → (Nat → Nat) → (Nat → Nat) → (Nat → Int32) → Int32 × (Nat → Nat) × (Nat → Nat)
  | 0, _, V, M, _ => (0, V, M)
  | d + 1, p, V, M, rl => if p < n then (if mc_c (mc_k o p) (bk_dp o p) V M = 0 then mc_run o g e n d (mc_p (mc_k o p) (bk_dp o p) p (mc_s o p) (o (mc_s o p)) (e p) V rl) (mc_V (mc_k o p) (bk_dp o p) (g p) V M) (mc_M (mc_k o p) (bk_dp o p) (g p) V M) (mc_rl (mc_k o p) p (mc_s o p) (o (mc_s o p)) (g p) rl) else (mc_c (mc_k o p) (bk_dp o p) V M, V, M)) else (0, V, M)
/-- numbers below ten to the 40th in the first c slots -/
def mc_G (c : Nat) (V M : Nat → Nat) : Prop := ∀ s, s < c → V s < fx_T ∧ M s < 2
theorem mc_G_le {c c' : Nat} {V M : Nat → Nat} (h : mc_G c V M) (hc : c' ≤ c) : mc_G c' V M := fun s hs => h s (by omega)
theorem mc_G_up {c : Nat} {V M : Nat → Nat} {k x y : Nat} (h : mc_G c V M) (hx : x < fx_T) (hy : y < 2) : mc_G c (fx_up V k x) (fx_up M k y) := by
  intro s hs
  unfold fx_up
  by_cases e : s = k
  · rw [if_pos e, if_pos e]; exact ⟨hx, hy⟩
  · rw [if_neg e, if_neg e]; exact h s hs
theorem mc_G_ps {c : Nat} {V M : Nat → Nat} {x y : Nat} (h : mc_G c V M) (hx : x < fx_T) (hy : y < 2) : mc_G (c + 1) (fx_up V c x) (fx_up M c y) := by
  intro s hs
  unfold fx_up
  by_cases e : s = c
  · rw [if_pos e, if_pos e]; exact ⟨hx, hy⟩
  · rw [if_neg e, if_neg e]; exact h s (by omega)
theorem fx_up_s {c : Nat → Nat} {k x : Nat} : fx_up c k x k = x := if_pos rfl
theorem fx_up_n {c : Nat → Nat} {k x j : Nat} (h : j ≠ k) : fx_up c k x j = c j := if_neg h
theorem fx_ab_T (v : Int32) : fx_ab v < fx_T := Nat.lt_trans (fx_ab_lt v) (by decide)
theorem fx_mn_2 (v : Int32) : fx_mn v < 2 := by unfold fx_mn; split <;> omega
theorem mc_kk {o : Nat → Int32} {p k : Nat} (h : o p = nI k) (hk : k < 12) : mc_k o p = k := by
  unfold mc_k; rw [h]; exact nI_clamp (by omega)
theorem mc_le1 {k : Nat} (hk : k < 12) : (nI k ≤ 1 ↔ k ≤ 1) := nI_leI (a := k) (b := 1) (by omega) (by omega)
theorem mc_le9 {k : Nat} (hk : k < 12) : (nI k ≤ 9 ↔ k ≤ 9) := nI_leI (a := k) (b := 9) (by omega) (by omega)
theorem bk_dp_s {o : Nat → Int32} {p k : Nat} (h : o p = nI k) (hk : k < 12) : bk_dp o (p + 1) = if k ≤ 1 then bk_dp o p + 1 else if k ≤ 9 then bk_dp o p - 1 else bk_dp o p := by
  show (if _ then _ else if _ then _ else _) = _
  rw [h]
  by_cases h1 : k ≤ 1
  · rw [if_pos ((mc_le1 hk).mpr h1), if_pos h1]
  · rw [if_neg (fun z => h1 ((mc_le1 hk).mp z)), if_neg h1]
    by_cases h2 : k ≤ 9
    · rw [if_pos ((mc_le9 hk).mpr h2), if_pos h2]
    · rw [if_neg (fun z => h2 ((mc_le9 hk).mp z)), if_neg h2]
theorem mc_eq {k j : Nat} (hk : k < 12) (hj : j < 12) : nI k = nI j ↔ k = j := nI_eq (by omega) (by omega)
theorem bk_st_s {o : Nat → Int32} {p k : Nat} (h : o p = nI k) (hk : k < 12) : bk_st o (p + 1) = if k = 9 ∨ k = 10 then p :: bk_st o p else if k = 11 then (bk_st o p).tail else bk_st o p := by
  by_cases h1 : k = 9 ∨ k = 10
  · rw [if_pos h1]
    apply bk_open
    rw [h]
    rcases h1 with rfl | rfl
    · exact Or.inl rfl
    · exact Or.inr rfl
  · rw [if_neg h1]
    by_cases h2 : k = 11
    · subst h2; rw [if_pos rfl]; exact bk_end h
    · rw [if_neg h2]
      exact bk_same (by rw [h]; intro z; exact h1 (Or.inl ((mc_eq hk (by omega)).mp (z.trans (show (9 : Int32) = nI 9 from rfl))))) (by rw [h]; intro z; exact h1 (Or.inr ((mc_eq hk (by omega)).mp (z.trans (show (10 : Int32) = nI 10 from rfl))))) (by rw [h]; intro z; exact h2 ((mc_eq hk (by omega)).mp (z.trans (show (11 : Int32) = nI 11 from rfl))))
theorem bk_len {o g : Nat → Int32} {n : Nat} (H : bk_wf o g n) : ∀ p, p ≤ n → (bk_st o p).length ≤ 3 := by
  intro p
  induction p with
  | zero => intro _; exact Nat.zero_le _
  | succ p ih =>
    intro hp
    have i := ih (by omega)
    obtain ⟨k, hk, ho, _, _, _, _, _, h3, _⟩ := H p (by omega)
    rw [bk_st_s ho hk]
    split
    · rename_i h; have := h3 h; rw [List.length_cons]; omega
    · split
      · rw [List.length_tail]; omega
      · exact i
theorem bk_dp_6 {o g : Nat → Int32} {n : Nat} (H : bk_wf o g n) : ∀ p, p ≤ n → bk_dp o p ≤ 6 := by
  intro p
  induction p with
  | zero => intro _; exact Nat.zero_le _
  | succ p ih =>
    intro hp
    have i := ih (by omega)
    obtain ⟨k, hk, ho, _, _, h6, _⟩ := H p (by omega)
    rw [bk_dp_s ho hk]
    split
    · rename_i h; have := h6 h; omega
    · split <;> omega
/-- the end that belongs to a start -/
theorem bk_close {o g : Nat → Int32} {n : Nat} (H : bk_wf o g n) (hn : bk_st o n = []) {a : Nat} : ∀ d i l, i + d = n → bk_st o i = l ++ (a :: bk_st o a) → ∃ e, i ≤ e ∧ e < n ∧ o e = 11 ∧ bk_st o e = a :: bk_st o a := by
  intro d
  induction d with
  | zero =>
    intro i l hi h
    have : i = n := by omega
    subst this
    rw [hn] at h
    cases l <;> exact nomatch h
  | succ d ih =>
    intro i l hi h
    obtain ⟨k, hk, ho, _⟩ := H i (by omega)
    have hs := bk_st_s ho hk
    by_cases h1 : k = 9 ∨ k = 10
    · rw [if_pos h1, h] at hs
      obtain ⟨e, he⟩ := ih (i + 1) (i :: l) (by omega) hs
      exact ⟨e, by omega, he.2⟩
    · rw [if_neg h1] at hs
      by_cases h2 : k = 11
      · subst h2
        rw [if_pos rfl, h] at hs
        cases l with
        | nil => exact ⟨i, Nat.le_refl i, by omega, ho, h⟩
        | cons b l =>
          obtain ⟨e, he⟩ := ih (i + 1) l (by omega) hs
          exact ⟨e, by omega, he.2⟩
      · rw [if_neg h2, h] at hs
        obtain ⟨e, he⟩ := ih (i + 1) l (by omega) hs
        exact ⟨e, by omega, he.2⟩
