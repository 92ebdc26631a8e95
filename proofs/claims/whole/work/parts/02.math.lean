/-! numbers written to a base: digit i of V is V / B^i % B -/
def fx_dg (B V i : Nat) : Nat := V / B ^ i % B
theorem fx_pp {B : Nat} (hB : 0 < B) (i : Nat) : 0 < B ^ i := Nat.pow_pos_iff.mpr (Or.inl hB)
theorem fx_dg_lt {B : Nat} (hB : 0 < B) (V i : Nat) : fx_dg B V i < B := Nat.mod_lt _ hB
theorem fx_ms (B V i : Nat) : V % B ^ (i + 1) = V % B ^ i + B ^ i * fx_dg B V i := Nat.mod_pow_succ
theorem fx_ds (B V i : Nat) : V / B ^ i = B * (V / B ^ (i + 1)) + fx_dg B V i := by
  unfold fx_dg
  rw [Nat.pow_succ, ← Nat.div_div_eq_div_mul]
  exact (Nat.div_add_mod _ _).symm
theorem fx_full (B V i : Nat) : V = V % B ^ i + B ^ i * fx_dg B V i + B ^ i * B * (V / B ^ (i + 1)) := by
  have h := Nat.mod_add_div V (B ^ (i + 1))
  rw [fx_ms] at h
  rw [← Nat.pow_succ]
  exact h.symm
/-- a column x over a carry S / P -/
theorem fx_cy {P B : Nat} (hP : 0 < P) (S x : Nat) : (x + S / P) / B = (S + P * x) / (P * B) := by
  rw [← Nat.div_div_eq_div_mul, Nat.add_mul_div_left _ _ hP, Nat.add_comm]
theorem fx_cd {P B N : Nat} (hP : 0 < P) (S x r : Nat) (h : N = S + P * x + P * B * r) : (x + S / P) % B = N / P % B := by
  have e : N = S + P * (x + B * r) := by rw [h, Nat.mul_add, Nat.mul_assoc, Nat.add_assoc]
  rw [e, Nat.add_mul_div_left _ _ hP, ← Nat.add_assoc, Nat.add_mul_mod_self_left, Nat.add_comm]
/-! addition -/
theorem fx_add_cy {B : Nat} (hB : 0 < B) (V W i : Nat) : (fx_dg B V i + fx_dg B W i + (V % B ^ i + W % B ^ i) / B ^ i) / B = (V % B ^ (i + 1) + W % B ^ (i + 1)) / B ^ (i + 1) := by
  rw [fx_cy (fx_pp hB i), fx_ms, fx_ms, Nat.pow_succ, Nat.mul_add]
  congr 1
  omega
theorem fx_add_dg {B : Nat} (hB : 0 < B) (V W i : Nat) : (fx_dg B V i + fx_dg B W i + (V % B ^ i + W % B ^ i) / B ^ i) % B = fx_dg B (V + W) i := by
  refine fx_cd (fx_pp hB i) _ _ (V / B ^ (i + 1) + W / B ^ (i + 1)) ?_
  have h1 := fx_full B V i
  have h2 := fx_full B W i
  rw [Nat.mul_add, Nat.mul_add]
  omega
/-! subtraction: the borrow -/
def fx_bw (B V W i : Nat) : Nat := if V % B ^ i < W % B ^ i then 1 else 0
theorem fx_bw_le (B V W i : Nat) : fx_bw B V W i ≤ 1 := by unfold fx_bw; split <;> omega
theorem fx_bw_0 (B V W : Nat) : fx_bw B V W 0 = 0 := by
  unfold fx_bw
  rw [if_neg]
  rw [Nat.pow_zero, Nat.mod_one, Nat.mod_one]
  omega
theorem fx_lex {P a b x y : Nat} (ha : a < P) (hb : b < P) : a + P * x < b + P * y ↔ x < y ∨ (x = y ∧ a < b) := by
  constructor
  · intro h
    by_cases h1 : x < y
    · exact Or.inl h1
    · by_cases h2 : x = y
      · subst h2; exact Or.inr ⟨rfl, by omega⟩
      · have h3 : P * (y + 1) ≤ P * x := Nat.mul_le_mul_left P (by omega)
        rw [Nat.mul_add] at h3
        omega
  · intro h
    cases h with
    | inl h =>
      have h3 : P * (x + 1) ≤ P * y := Nat.mul_le_mul_left P (by omega)
      rw [Nat.mul_add] at h3
      omega
    | inr h => obtain ⟨rfl, h⟩ := h; omega
theorem fx_bw_s {B : Nat} (hB : 0 < B) (V W i : Nat) : fx_bw B V W (i + 1) = if fx_dg B V i < fx_dg B W i + fx_bw B V W i then 1 else 0 := by
  have hl := fx_lex (P := B ^ i) (x := fx_dg B V i) (y := fx_dg B W i) (Nat.mod_lt V (fx_pp hB i)) (Nat.mod_lt W (fx_pp hB i))
  rw [← fx_ms, ← fx_ms] at hl
  unfold fx_bw
  by_cases h1 : V % B ^ i < W % B ^ i
  · rw [if_pos h1]
    by_cases h2 : V % B ^ (i + 1) < W % B ^ (i + 1)
    · rw [if_pos h2, if_pos (by have := hl.mp h2; omega)]
    · rw [if_neg h2, if_neg (fun h => h2 (hl.mpr (by omega)))]
  · rw [if_neg h1]
    by_cases h2 : V % B ^ (i + 1) < W % B ^ (i + 1)
    · rw [if_pos h2, if_pos (by have := hl.mp h2; omega)]
    · rw [if_neg h2, if_neg (fun h => h2 (hl.mpr (by omega)))]
theorem fx_sub_dg {B : Nat} (hB : 0 < B) (V W i : Nat) (h : W ≤ V) : (fx_dg B V i + B - fx_dg B W i - fx_bw B V W i) % B = fx_dg B (V - W) i := by
  have hd := fx_add_dg hB (V - W) W i
  rw [Nat.sub_add_cancel h] at hd
  have hP := fx_pp hB i
  have h1 := fx_dg_lt hB (V - W) i
  have h2 := fx_dg_lt hB W i
  have hc : ((V - W) % B ^ i + W % B ^ i) / B ^ i = fx_bw B V W i := by
    have e : V % B ^ i = ((V - W) % B ^ i + W % B ^ i) % B ^ i := by
      rw [← Nat.add_mod, Nat.sub_add_cancel h]
    have a1 := Nat.mod_lt (V - W) hP
    have a2 := Nat.mod_lt W hP
    unfold fx_bw
    rw [e]
    generalize (V - W) % B ^ i = x at *
    generalize W % B ^ i = y at *
    generalize B ^ i = P at *
    by_cases g : x + y < P
    · rw [Nat.div_eq_of_lt g, Nat.mod_eq_of_lt g, if_neg (by omega)]
    · have e2 : x + y = (x + y - P) + P * 1 := by omega
      rw [e2, Nat.add_mul_div_left _ _ hP, Nat.add_mul_mod_self_left, Nat.div_eq_of_lt (by omega), Nat.mod_eq_of_lt (by omega), if_pos (by omega)]
  rw [hc] at hd
  have h3 := fx_bw_le B V W i
  rw [← hd]
  generalize fx_dg B (V - W) i = x at *
  generalize fx_dg B W i = y at *
  generalize fx_bw B V W i = c at *
  by_cases g : x + y + c < B
  · rw [Nat.mod_eq_of_lt g, show x + y + c + B - y - c = x + B * 1 by omega, Nat.add_mul_mod_self_left, Nat.mod_eq_of_lt h1]
  · have e2 : x + y + c = (x + y + c - B) + B * 1 := by omega
    have e3 : (x + y + c) % B = x + y + c - B := by
      rw [e2, Nat.add_mul_mod_self_left, Nat.mod_eq_of_lt (by omega)]; omega
    rw [e3, show x + y + c - B + B - y - c = x by omega, Nat.mod_eq_of_lt h1]
/-- the same without the remainder -/
theorem fx_sub_d2 {B : Nat} (hB : 0 < B) (V W i : Nat) (h : W ≤ V) : fx_dg B (V - W) i = if fx_dg B V i < fx_dg B W i + fx_bw B V W i then fx_dg B V i + B - fx_dg B W i - fx_bw B V W i else fx_dg B V i - fx_dg B W i - fx_bw B V W i := by
  have h0 := fx_sub_dg hB V W i h
  have h1 := fx_dg_lt hB V i
  have h2 := fx_dg_lt hB W i
  have h3 := fx_bw_le B V W i
  rw [← h0]
  generalize fx_dg B V i = x at *
  generalize fx_dg B W i = y at *
  generalize fx_bw B V W i = c at *
  by_cases g : x < y + c
  · rw [if_pos g, Nat.mod_eq_of_lt (by omega)]
  · rw [if_neg g, show x + B - y - c = (x - y - c) + B * 1 by omega, Nat.add_mul_mod_self_left, Nat.mod_eq_of_lt (by omega)]
/-! comparison -/
def fx_cmp (a b : Nat) : Int32 := if a < b then -1 else if a = b then 0 else 1
theorem fx_cmp_lt {a b : Nat} (h : a < b) : fx_cmp a b = -1 := if_pos h
theorem fx_cmp_eq (a : Nat) : fx_cmp a a = 0 := by unfold fx_cmp; rw [if_neg (by omega), if_pos rfl]
theorem fx_cmp_gt {a b : Nat} (h : b < a) : fx_cmp a b = 1 := by unfold fx_cmp; rw [if_neg (by omega), if_neg (by omega)]
theorem fx_div_lt {V W P : Nat} (h : V / P < W / P) : V < W := by
  by_cases g : V < W
  · exact g
  · have := Nat.div_le_div_right (c := P) (show W ≤ V by omega)
    omega
/-- from the top -/
theorem fx_top_lt {B V W i : Nat} (he : V / B ^ (i + 1) = W / B ^ (i + 1)) (h : fx_dg B V i < fx_dg B W i) : V < W := by
  apply fx_div_lt (P := B ^ i)
  rw [fx_ds B V i, fx_ds B W i, he]
  omega
theorem fx_top_eq {B V W i : Nat} (he : V / B ^ (i + 1) = W / B ^ (i + 1)) (h : fx_dg B V i = fx_dg B W i) : V / B ^ i = W / B ^ i := by
  rw [fx_ds B V i, fx_ds B W i, he, h]
/-- from the bottom -/
theorem fx_bot_s {B : Nat} (hB : 0 < B) (V W i : Nat) : fx_cmp (V % B ^ (i + 1)) (W % B ^ (i + 1)) = if fx_dg B V i = fx_dg B W i then fx_cmp (V % B ^ i) (W % B ^ i) else fx_cmp (fx_dg B V i) (fx_dg B W i) := by
  have a := Nat.mod_lt V (fx_pp hB i)
  have b := Nat.mod_lt W (fx_pp hB i)
  have hl := fx_lex (P := B ^ i) (x := fx_dg B V i) (y := fx_dg B W i) a b
  have hg := fx_lex (P := B ^ i) (x := fx_dg B W i) (y := fx_dg B V i) b a
  rw [fx_ms, fx_ms]
  by_cases h : fx_dg B V i = fx_dg B W i
  · rw [if_pos h, h]
    unfold fx_cmp
    by_cases h1 : V % B ^ i < W % B ^ i
    · rw [if_pos (by omega), if_pos h1]
    · by_cases h2 : V % B ^ i = W % B ^ i
      · rw [if_neg (by omega), if_neg h1, if_pos (by omega), if_pos h2]
      · rw [if_neg (by omega), if_neg h1, if_neg (by omega), if_neg h2]
  · rw [if_neg h]
    by_cases h1 : fx_dg B V i < fx_dg B W i
    · rw [fx_cmp_lt h1, fx_cmp_lt (hl.mpr (Or.inl h1))]
    · rw [fx_cmp_gt (show fx_dg B W i < fx_dg B V i by omega), fx_cmp_gt (hg.mpr (Or.inl (by omega)))]
/-! a number below B^n has the digit 0 from n on -/
theorem fx_dg_hi {B V n i : Nat} (hB : 0 < B) (h : V < B ^ n) (hi : n ≤ i) : fx_dg B V i = 0 := by
  unfold fx_dg
  rw [Nat.div_eq_of_lt (Nat.lt_of_lt_of_le h (Nat.pow_le_pow_right hB hi)), Nat.zero_mod]
theorem fx_dg_0 (B i : Nat) : fx_dg B 0 i = 0 := by unfold fx_dg; rw [Nat.zero_div, Nat.zero_mod]
theorem fx_zero {B V : Nat} (n : Nat) (h : V < B ^ n) (hz : ∀ i, i < n → fx_dg B V i = 0) : V = 0 := by
  have : ∀ k, k ≤ n → V % B ^ k = 0 := by
    intro k
    induction k with
    | zero => intro _; rw [Nat.pow_zero, Nat.mod_one]
    | succ k ih => intro hk; rw [fx_ms, ih (by omega), hz k (by omega), Nat.mul_zero]
  have := this n (Nat.le_refl n)
  rwa [Nat.mod_eq_of_lt h] at this
/-- all digits from j up to n are 0 -/
theorem fx_below {B V : Nat} (n j : Nat) (h : V < B ^ n) (hj : j ≤ n) (hz : ∀ i, j ≤ i → i < n → fx_dg B V i = 0) : V < B ^ j := by
  induction n with
  | zero => have : j = 0 := by omega
            subst this; exact h
  | succ n ih =>
    by_cases hn : j = n + 1
    · subst hn; exact h
    · apply ih _ (by omega) (fun i a b => hz i a (by omega))
      have h1 := hz n (by omega) (by omega)
      have h2 := fx_ms B V n
      rw [Nat.mod_eq_of_lt h, h1, Nat.mul_zero, Nat.add_zero] at h2
      by_cases hB : 0 < B
      · rw [h2]; exact Nat.mod_lt _ (fx_pp hB n)
      · have : B = 0 := by omega
        subst this
        rw [Nat.pow_succ, Nat.mul_zero] at h
        omega
theorem fx_dg_ge {B V i : Nat} (h : fx_dg B V i ≠ 0) : B ^ i ≤ V := by
  by_cases g : V < B ^ i
  · exact absurd (by unfold fx_dg; rw [Nat.div_eq_of_lt g, Nat.zero_mod]) h
  · omega
/-! sums of columns to the base 10 -/
def fx_ps (c : Nat → Nat) : Nat → Nat
  | 0 => 0
  | n + 1 => fx_ps c n + 10 ^ n * c n
def fx_up (c : Nat → Nat) (k x : Nat) : Nat → Nat := fun j => if j = k then x else c j
theorem fx_ps_up (c : Nat → Nat) (k x : Nat) : ∀ n, fx_ps (fx_up c k (c k + x)) n = fx_ps c n + (if k < n then 10 ^ k * x else 0) := by
  intro n
  induction n with
  | zero => rfl
  | succ n ih =>
    show fx_ps (fx_up c k (c k + x)) n + 10 ^ n * (if n = k then c k + x else c n) = fx_ps c n + 10 ^ n * c n + _
    rw [ih]
    by_cases h : n = k
    · subst h
      rw [if_pos rfl, if_neg (by omega), if_pos (by omega), Nat.mul_add]
      omega
    · rw [if_neg h]
      by_cases h2 : k < n
      · rw [if_pos h2, if_pos (by omega)]; omega
      · rw [if_neg h2, if_neg (by omega)]; omega
theorem fx_ps_0 : ∀ n, fx_ps (fun _ => 0) n = 0 := by
  intro n
  induction n with
  | zero => rfl
  | succ n ih => show fx_ps _ n + _ = 0; rw [ih, Nat.mul_zero]
theorem fx_ps_more (c : Nat → Nat) (n : Nat) : ∀ d, ∃ r, fx_ps c (n + d) = fx_ps c n + 10 ^ n * r := by
  intro d
  induction d with
  | zero => exact ⟨0, by rw [Nat.mul_zero]; rfl⟩
  | succ d ih =>
    obtain ⟨r, hr⟩ := ih
    refine ⟨r + 10 ^ d * c (n + d), ?_⟩
    show fx_ps c (n + d) + 10 ^ (n + d) * c (n + d) = _
    rw [hr, Nat.pow_add, Nat.mul_add, Nat.mul_assoc]
    omega
theorem fx_ps_cy (c : Nat → Nat) (i : Nat) : (c i + fx_ps c i / 10 ^ i) / 10 = fx_ps c (i + 1) / 10 ^ (i + 1) := by
  rw [fx_cy (fx_pp (by omega) i), ← Nat.pow_succ]
  rfl
theorem fx_ps_dg (c : Nat → Nat) (i n : Nat) (h : i < n) : (c i + fx_ps c i / 10 ^ i) % 10 = fx_dg 10 (fx_ps c n) i := by
  obtain ⟨d, rfl⟩ : ∃ d, n = i + 1 + d := ⟨n - (i + 1), by omega⟩
  obtain ⟨r, hr⟩ := fx_ps_more c (i + 1) d
  refine fx_cd (fx_pp (by omega) i) _ _ r ?_
  rw [hr, ← Nat.pow_succ]
  rfl
/-! the multiple of a number -/
theorem fx_mul_cy {B : Nat} (hB : 0 < B) (W t i : Nat) : (fx_dg B W i * t + W % B ^ i * t / B ^ i) / B = W % B ^ (i + 1) * t / B ^ (i + 1) := by
  rw [fx_cy (fx_pp hB i), fx_ms, Nat.pow_succ, Nat.add_mul, Nat.mul_assoc]
theorem fx_mul_dg {B : Nat} (hB : 0 < B) (W t i : Nat) : (fx_dg B W i * t + W % B ^ i * t / B ^ i) % B = fx_dg B (W * t) i := by
  refine fx_cd (fx_pp hB i) _ _ (W / B ^ (i + 1) * t) ?_
  have h : W * t = (W % B ^ i + B ^ i * fx_dg B W i + B ^ i * B * (W / B ^ (i + 1))) * t := by rw [← fx_full B W i]
  rw [Nat.add_mul, Nat.add_mul] at h
  rw [← Nat.mul_assoc, ← Nat.mul_assoc]
  exact h
/-! one row of the long product: P0 has what is done, a * W is added at i -/
theorem fx_row_cy {B : Nat} (hB : 0 < B) (P0 a W i j : Nat) : (fx_dg B P0 (i + j) + a * fx_dg B W j + (P0 % B ^ (i + j) + a * (W % B ^ j) * B ^ i) / B ^ (i + j)) / B = (P0 % B ^ (i + j + 1) + a * (W % B ^ (j + 1)) * B ^ i) / B ^ (i + j + 1) := by
  rw [fx_cy (fx_pp hB (i + j)), fx_ms B P0 (i + j), fx_ms B W j, Nat.pow_succ]
  congr 1
  rw [Nat.pow_add]
  grind
theorem fx_row_dg {B : Nat} (hB : 0 < B) (P0 a W i j : Nat) : (fx_dg B P0 (i + j) + a * fx_dg B W j + (P0 % B ^ (i + j) + a * (W % B ^ j) * B ^ i) / B ^ (i + j)) % B = fx_dg B (P0 + a * W * B ^ i) (i + j) := by
  refine fx_cd (fx_pp hB (i + j)) _ _ (P0 / B ^ (i + j + 1) + a * (W / B ^ (j + 1))) ?_
  have h1 := fx_full B P0 (i + j)
  have h2 := fx_full B W j
  have h3 : a * W * B ^ i = a * (W % B ^ j + B ^ j * fx_dg B W j + B ^ j * B * (W / B ^ (j + 1))) * B ^ i := by rw [← h2]
  have h4 : P0 + a * W * B ^ i = (P0 % B ^ (i + j) + B ^ (i + j) * fx_dg B P0 (i + j) + B ^ (i + j) * B * (P0 / B ^ (i + j + 1))) + a * W * B ^ i := by rw [← h1]
  rw [h4, h3, Nat.pow_add]
  grind
/-! division, a digit a step -/
theorem fx_div_step {B : Nat} (hB : 0 < B) (V W i : Nat) (hW : 0 < W) : (V / B ^ (i + 1) % W * B + fx_dg B V i) / W = fx_dg B (V / W) i ∧ (V / B ^ (i + 1) % W * B + fx_dg B V i) % W = V / B ^ i % W ∧ V / B ^ (i + 1) % W * B + fx_dg B V i < B * W := by
  have h1 := fx_ds B V i
  have h2 := Nat.div_add_mod (V / B ^ (i + 1)) W
  have hr := Nat.mod_lt (V / B ^ (i + 1)) hW
  have hd := fx_dg_lt hB V i
  have e : V / B ^ i = V / B ^ (i + 1) % W * B + fx_dg B V i + W * (B * (V / B ^ (i + 1) / W)) := by
    have h3 : B * (V / B ^ (i + 1)) = B * (W * (V / B ^ (i + 1) / W) + V / B ^ (i + 1) % W) := by rw [h2]
    rw [h1, h3]
    grind
  have hlt : V / B ^ (i + 1) % W * B + fx_dg B V i < B * W := by
    have h4 : (V / B ^ (i + 1) % W + 1) * B ≤ W * B := Nat.mul_le_mul_right B hr
    rw [Nat.add_mul] at h4
    rw [Nat.mul_comm B W]
    omega
  have e2 : V / W / B ^ i = V / B ^ i / W := by
    rw [Nat.div_div_eq_div_mul, Nat.div_div_eq_div_mul, Nat.mul_comm]
  refine ⟨?_, ?_, hlt⟩
  · show _ = V / W / B ^ i % B
    rw [e2, e, Nat.add_mul_div_left _ _ hW, Nat.add_mul_mod_self_left]
    refine (Nat.mod_eq_of_lt ?_).symm
    exact Nat.div_lt_of_lt_mul (by rw [Nat.mul_comm W B]; exact hlt)
  · rw [e, Nat.add_mul_mod_self_left]
/-! digits of limbs -/
theorem fx_limb (V i : Nat) : fx_dg 100000000 V (i / 8) / 10 ^ (i % 8) % 10 = fx_dg 10 V i := by
  unfold fx_dg
  have h8 : (100000000 : Nat) = 10 ^ 8 := by decide
  have hr : i % 8 < 8 := Nat.mod_lt _ (by omega)
  have e : 10 ^ 8 = 10 ^ (i % 8) * (10 * 10 ^ (7 - i % 8)) := by
    rw [← Nat.mul_assoc, ← Nat.pow_succ, ← Nat.pow_add]
    congr 1
    omega
  rw [h8, ← Nat.pow_mul]
  rw [show V / 10 ^ (8 * (i / 8)) % 10 ^ 8 = V / 10 ^ (8 * (i / 8)) % (10 ^ (i % 8) * (10 * 10 ^ (7 - i % 8))) by rw [← e]]
  rw [Nat.mod_mul_right_div_self, Nat.mod_mul_right_mod, Nat.div_div_eq_div_mul, ← Nat.pow_add, Nat.div_add_mod]
/-! how many digits: n as the loop counts it -/
def fx_len (V n : Nat) : Prop := V < 10 ^ n ∧ (n = 0 ∨ 10 ^ (n - 1) ≤ V)
theorem fx_len_0 {V n : Nat} (h : fx_len V n) : n = 0 ↔ V = 0 := by
  obtain ⟨h1, h2⟩ := h
  constructor
  · intro e; subst e; rw [Nat.pow_zero] at h1; omega
  · intro e
    cases h2 with
    | inl h => exact h
    | inr h => have := fx_pp (B := 10) (by omega) (n - 1); omega
theorem fx_len_gt {V n : Nat} (h : fx_len V n) (k : Nat) : k < n ↔ 10 ^ k ≤ V := by
  obtain ⟨h1, h2⟩ := h
  constructor
  · intro hk
    cases h2 with
    | inl h => omega
    | inr h => exact Nat.le_trans (Nat.pow_le_pow_right (by omega) (by omega)) h
  · intro hk
    by_cases g : k < n
    · exact g
    · have := Nat.pow_le_pow_right (n := 10) (by omega) (show n ≤ k by omega)
      omega
theorem fx_len_un {V n m : Nat} (h : fx_len V n) (g : fx_len V m) : n = m := by
  by_cases h1 : n < m
  · have a := (fx_len_gt g n).mp h1
    have b := h.1
    omega
  · by_cases h2 : m < n
    · have a := (fx_len_gt h m).mp h2
      have b := g.1
      omega
    · omega
/-! signs -/
def fx_sg (V m : Nat) : Int32 := if V = 0 then 0 else if m = 0 then 1 else -1
theorem fx_sg_0 (m : Nat) : fx_sg 0 m = 0 := if_pos rfl
theorem fx_sg_p {V : Nat} (h : V ≠ 0) : fx_sg V 0 = 1 := by unfold fx_sg; rw [if_neg h, if_pos rfl]
theorem fx_sg_n {V m : Nat} (h : V ≠ 0) (hm : m ≠ 0) : fx_sg V m = -1 := by unfold fx_sg; rw [if_neg h, if_neg hm]
