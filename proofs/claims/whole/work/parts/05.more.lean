/-! bounds and ends of the long product and the multiple -/
theorem fx_row_b {B : Nat} (hB : 0 < B) (P0 a W i j : Nat) : (P0 % B ^ (i + j) + a * (W % B ^ j) * B ^ i) / B ^ (i + j) ≤ a := by
  have h1 := Nat.mod_lt P0 (fx_pp hB (i + j))
  have h2 := Nat.mod_lt W (fx_pp hB j)
  have h3 : a * (W % B ^ j) * B ^ i ≤ a * B ^ (i + j) := by
    rw [Nat.pow_add, Nat.mul_comm (B ^ i), ← Nat.mul_assoc]
    exact Nat.mul_le_mul_right _ (Nat.mul_le_mul_left _ (by omega))
  have h4 : P0 % B ^ (i + j) + a * (W % B ^ j) * B ^ i < (a + 1) * B ^ (i + j) := by
    rw [Nat.add_mul]; omega
  have h5 := (Nat.div_lt_iff_lt_mul (fx_pp hB (i + j))).mpr h4
  omega
theorem fx_mul_b {B : Nat} (hB : 0 < B) (W t i : Nat) : W % B ^ i * t / B ^ i ≤ t := by
  have h2 := Nat.mod_lt W (fx_pp hB i)
  have h3 : W % B ^ i * t ≤ B ^ i * t := Nat.mul_le_mul_right _ (by omega)
  have h4 := Nat.div_le_div_right (c := B ^ i) h3
  rw [Nat.mul_div_cancel_left _ (fx_pp hB i)] at h4
  exact h4
theorem fx_lt_mul {a b c d : Nat} (h1 : a < c) (h2 : b < d) : a * b < c * d := Nat.mul_lt_mul'' h1 h2
/-- the rows of the product -/
theorem fx_row_p (V W i : Nat) (B : Nat) : V % B ^ (i + 1) * W = V % B ^ i * W + fx_dg B V i * W * B ^ i := by
  rw [fx_ms, Nat.add_mul]
  congr 1
  grind
theorem fx_row_lt {B V W i : Nat} (hB : 0 < B) (hW : W < B ^ 5) : V % B ^ i * W < B ^ (i + 5) := by
  rw [Nat.pow_add]
  exact fx_lt_mul (Nat.mod_lt V (fx_pp hB i)) hW
/-- the last carry of a row is its highest limb -/
theorem fx_row_e {B V W i : Nat} (hB : 0 < B) (hW : W < B ^ 5) : (V % B ^ i * W % B ^ (i + 5) + fx_dg B V i * (W % B ^ 5) * B ^ i) / B ^ (i + 5) = fx_dg B (V % B ^ (i + 1) * W) (i + 5) := by
  have h1 := fx_row_lt (V := V) (i := i) hB hW
  have h2 := fx_row_lt (V := V) (i := i + 1) hB hW
  rw [Nat.mod_eq_of_lt h1, Nat.mod_eq_of_lt hW, ← fx_row_p]
  unfold fx_dg
  refine (Nat.mod_eq_of_lt ?_).symm
  rw [Nat.div_lt_iff_lt_mul (fx_pp hB (i + 5)), Nat.mul_comm B, ← Nat.pow_succ]
  rw [show (i + 5).succ = i + 1 + 5 by omega]
  exact h2
theorem fx_mul_e {B W t : Nat} (hB : 0 < B) (hW : W < B ^ 5) (ht : t < B) : W % B ^ 5 * t / B ^ 5 = fx_dg B (W * t) 5 := by
  rw [Nat.mod_eq_of_lt hW]
  unfold fx_dg
  refine (Nat.mod_eq_of_lt ?_).symm
  rw [Nat.div_lt_iff_lt_mul (fx_pp hB 5), Nat.mul_comm W t]
  exact fx_lt_mul ht hW
/-! order of two signed numbers -/
def fx_bl (V m : Nat) : Prop := m ≠ 0 ∧ V ≠ 0
theorem fx_bl_d (V m : Nat) : fx_bl V m ∨ ¬ fx_bl V m := Classical.em _
noncomputable def fx_ord (V m W k : Nat) : Int32 := if fx_sg V m = fx_sg W k then fx_sg V m * fx_cmp V W else if fx_sg V m < fx_sg W k then -1 else 1
theorem fx_neg_cmp (V W : Nat) : -1 * fx_cmp V W = fx_cmp W V := by
  by_cases h : V < W
  · rw [fx_cmp_lt h, fx_cmp_gt h]; decide
  · by_cases g : V = W
    · subst g; rw [fx_cmp_eq]; decide
    · rw [fx_cmp_gt (show W < V by omega), fx_cmp_lt (show W < V by omega)]; decide
theorem fx_ord_tf {V m W k : Nat} (h : fx_bl V m) (g : ¬ fx_bl W k) : fx_ord V m W k = -1 := by
  unfold fx_ord
  rw [fx_sg_n h.2 h.1]
  by_cases w : W = 0
  · subst w; rw [fx_sg_0, if_neg (by decide), if_pos (by decide)]
  · have : k = 0 := by
      by_cases e : k = 0
      · exact e
      · exact absurd ⟨e, w⟩ g
    subst this
    rw [fx_sg_p w, if_neg (by decide), if_pos (by decide)]
theorem fx_ord_ft {V m W k : Nat} (h : ¬ fx_bl V m) (g : fx_bl W k) : fx_ord V m W k = 1 := by
  unfold fx_ord
  rw [fx_sg_n g.2 g.1]
  by_cases w : V = 0
  · subst w; rw [fx_sg_0, if_neg (by decide), if_neg (by decide)]
  · have : m = 0 := by
      by_cases e : m = 0
      · exact e
      · exact absurd ⟨e, w⟩ h
    subst this
    rw [fx_sg_p w, if_neg (by decide), if_neg (by decide)]
theorem fx_ord_tt {V m W k : Nat} (h : fx_bl V m) (g : fx_bl W k) : fx_ord V m W k = fx_cmp W V := by
  unfold fx_ord
  rw [fx_sg_n g.2 g.1, fx_sg_n h.2 h.1, if_pos rfl, fx_neg_cmp]
theorem fx_ord_ff {V m W k : Nat} (h : ¬ fx_bl V m) (g : ¬ fx_bl W k) : fx_ord V m W k = fx_cmp V W := by
  unfold fx_ord
  by_cases v : V = 0
  · subst v
    rw [fx_sg_0]
    by_cases w : W = 0
    · subst w; rw [fx_sg_0, if_pos rfl, fx_cmp_eq]; decide
    · have : k = 0 := by
        by_cases e : k = 0
        · exact e
        · exact absurd ⟨e, w⟩ g
      subst this
      rw [fx_sg_p w, if_neg (by decide), if_pos (by decide), fx_cmp_lt (by omega)]
  · have : m = 0 := by
      by_cases e : m = 0
      · exact e
      · exact absurd ⟨e, v⟩ h
    subst this
    rw [fx_sg_p v]
    by_cases w : W = 0
    · subst w; rw [fx_sg_0, if_neg (by decide), if_neg (by decide), fx_cmp_gt (by omega)]
    · have : k = 0 := by
        by_cases e : k = 0
        · exact e
        · exact absurd ⟨e, w⟩ g
      subst this
      rw [fx_sg_p w, if_pos rfl, Int32.one_mul]
/-! the result of an operation: absolute value and sign -/
def fx_sv (V m W k : Nat) : Nat := if m = k then V + W else if W ≤ V then V - W else W - V
def fx_sm (V m W k : Nat) : Nat := if m = k then m else if W ≤ V then m else k
noncomputable def fx_rv (op V m W k : Nat) : Nat := if op = 3 then fx_sv V m W k else if op = 4 then fx_sv V m W (1 - k) else if op = 5 then V * W else if op = 6 then V / W else if op = 7 then V % W else if fx_ord V m W k < 0 then 1 else 0
def fx_rm (op V m W k : Nat) : Nat := if op = 3 then fx_sm V m W k else if op = 4 then fx_sm V m W (1 - k) else if op = 5 ∨ op = 6 then (if m = k then 0 else 1) else if op = 7 then m else 0
noncomputable def fx_rc (op V m W k : Nat) : Int32 := if (op = 6 ∨ op = 7) ∧ W = 0 then 1 else if fx_T ≤ fx_rv op V m W k then 2 else 0
theorem fx_sm_le {V m W k : Nat} (hm : m < 2) (hk : k < 2) : fx_sm V m W k < 2 := by unfold fx_sm; split; exact hm; split; exact hm; exact hk
theorem fx_rm_le {op V m W k : Nat} (hm : m < 2) (hk : k < 2) : fx_rm op V m W k < 2 := by
  unfold fx_rm
  split
  · exact fx_sm_le hm hk
  · split
    · exact fx_sm_le hm (by omega)
    · split
      · split <;> omega
      · split
        · exact hm
        · omega
/-! signs of the results -/
theorem fx_sgs {V m k : Nat} (h : V = 0 ∨ m = k) : fx_sg V m = fx_sg V k := by
  cases h with
  | inl h => subst h; rw [fx_sg_0, fx_sg_0]
  | inr h => rw [h]
theorem fx_sg_mul {V m W k : Nat} (hm : m < 2) (hk : k < 2) (hV : V ≠ 0) (hW : W ≠ 0) {R : Nat} (hR : R ≠ 0) : fx_sg V m * fx_sg W k = fx_sg R (if m = k then 0 else 1) := by
  have h1 : m = 0 ∨ m = 1 := by omega
  have h2 : k = 0 ∨ k = 1 := by omega
  rcases h1 with rfl | rfl <;> rcases h2 with rfl | rfl <;> simp [fx_sg, hV, hW, hR]
/-! columns of the reference's product -/
theorem fx_col {c : Nat → Nat} {V W a i j : Nat} (h : fx_ps c 82 = V % 10 ^ i * W + a * (W % 10 ^ j) * 10 ^ i) (hij : i + j < 82) : fx_ps (fx_up c (i + j) (c (i + j) + a * fx_dg 10 W j)) 82 = V % 10 ^ i * W + a * (W % 10 ^ (j + 1)) * 10 ^ i := by
  rw [fx_ps_up, if_pos hij, h, fx_ms, Nat.pow_add]
  grind
/-! quotient and remainder as they come out -/
theorem fx_dm {R r W t : Nat} (h : R = r + W * t) (hr : r < W) : t = R / W ∧ r = R % W := by
  subst h
  rw [Nat.add_mul_div_left _ _ (by omega), Nat.add_mul_mod_self_left, Nat.div_eq_of_lt hr, Nat.mod_eq_of_lt hr]
  omega
/-- what the remainder is after a digit has been brought down, in limbs and in digits -/
theorem fx_shift_0 {B : Nat} (R a : Nat) (ha : a < B) : fx_dg B (R * B + a) 0 = a := by
  unfold fx_dg
  rw [Nat.pow_zero, Nat.div_one, Nat.mul_comm, Nat.mul_add_mod, Nat.mod_eq_of_lt ha]
theorem fx_shift_s {B : Nat} (R a i : Nat) (ha : a < B) : fx_dg B (R * B + a) (i + 1) = fx_dg B R i := by
  unfold fx_dg
  rw [Nat.pow_succ, Nat.mul_comm (B ^ i), ← Nat.div_div_eq_div_mul]
  rw [Nat.add_comm, Nat.mul_comm R B, Nat.add_mul_div_left _ _ (by omega), Nat.div_eq_of_lt ha, Nat.zero_add]
theorem fx_sub_neg (W k : Nat) (hk : k < 2) : -(fx_sg W k) = fx_sg W (1 - k) := by
  unfold fx_sg
  have : k = 0 ∨ k = 1 := by omega
  by_cases h : W = 0
  · rw [if_pos h, if_pos h]; decide
  · rw [if_neg h, if_neg h]
    rcases this with rfl | rfl <;> decide
/-! the sum of two signed numbers, as the component makes it -/
theorem fx_sg_ne (V : Nat) (hV : V ≠ 0) (m : Nat) : fx_sg V m ≠ 0 := by
  unfold fx_sg
  rw [if_neg hV]
  split <;> decide
theorem fx_sg_in {V W m k : Nat} (hV : V ≠ 0) (hW : W ≠ 0) (hm : m < 2) (hk : k < 2) (h : fx_sg V m = fx_sg W k) : m = k := by
  have h1 : m = 0 ∨ m = 1 := by omega
  have h2 : k = 0 ∨ k = 1 := by omega
  unfold fx_sg at h
  rw [if_neg hV, if_neg hW] at h
  rcases h1 with rfl | rfl <;> rcases h2 with rfl | rfl
  · rfl
  · exact absurd h (by decide)
  · exact absurd h (by decide)
  · rfl
theorem fx_sg_nz {V W : Nat} (hV : V ≠ 0) (hW : W ≠ 0) (m : Nat) : fx_sg V m = fx_sg W m := by
  unfold fx_sg
  rw [if_neg hV, if_neg hW]
theorem fx_a1 {V m W k : Nat} (hm : m < 2) (hk : k < 2) (h : fx_sg V m = fx_sg W k) : fx_sv V m W k = V + W ∧ fx_sg (V + W) (fx_sm V m W k) = fx_sg V m := by
  by_cases hV : V = 0
  · subst hV
    rw [fx_sg_0] at h
    have hW : W = 0 := by
      by_cases w : W = 0
      · exact w
      · exact absurd h.symm (fx_sg_ne W w k)
    subst hW
    refine ⟨?_, rfl⟩
    unfold fx_sv
    split
    · rfl
    · split <;> rfl
  · have hW : W ≠ 0 := by
      intro w
      subst w
      rw [fx_sg_0] at h
      exact fx_sg_ne V hV m h
    have e := fx_sg_in hV hW hm hk h
    subst e
    unfold fx_sv fx_sm
    rw [if_pos rfl, if_pos rfl]
    exact ⟨rfl, fx_sg_nz (by omega) hV m⟩
theorem fx_a2 {V m W k : Nat} (h : fx_sg V m ≠ fx_sg W k) (g : W ≤ V) : fx_sv V m W k = V - W ∧ fx_sg (V - W) (fx_sm V m W k) = if V = W then 0 else fx_sg V m := by
  have e1 : fx_sm V m W k = m := by unfold fx_sm; rw [if_pos g]; split <;> rfl
  have e2 : fx_sv V m W k = V - W := by
    unfold fx_sv
    by_cases c : m = k
    · subst c
      rw [if_pos rfl]
      by_cases hW : W = 0
      · omega
      · exact absurd (fx_sg_nz (by omega) hW m) h
    · rw [if_neg c, if_pos g]
  refine ⟨e2, ?_⟩
  rw [e1]
  by_cases c : V = W
  · rw [if_pos c, show V - W = 0 by omega, fx_sg_0]
  · rw [if_neg c]
    exact fx_sg_nz (by omega) (by omega) m
theorem fx_a3 {V m W k : Nat} (h : fx_sg V m ≠ fx_sg W k) (g : V < W) : fx_sv V m W k = W - V ∧ fx_sg (W - V) (fx_sm V m W k) = fx_sg W k := by
  by_cases c : m = k
  · subst c
    have hV : V = 0 := by
      by_cases v : V = 0
      · exact v
      · exact absurd (fx_sg_nz v (by omega) m) h
    subst hV
    unfold fx_sv fx_sm
    rw [if_pos rfl, if_pos rfl]
    exact ⟨by omega, fx_sg_nz (by omega) (by omega) m⟩
  · unfold fx_sv fx_sm
    rw [if_neg c, if_neg c, if_neg (by omega), if_neg (by omega)]
    exact ⟨rfl, fx_sg_nz (by omega) (by omega) k⟩
