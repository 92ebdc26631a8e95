section
/-! rows pasted from the pure rows and the bit rows -/
theorem pk_us {f : Nat → Int32} {k : Nat} {x : Int32} : upd f k x k = x := if_pos rfl
theorem pk_un {f : Nat → Int32} {k j : Nat} {x : Int32} (h : j ≠ k) : upd f k x j = f j := if_neg h
theorem pk_uLs {f : Nat → Int64} {k : Nat} {x : Int64} : vp_updL f k x k = x := if_pos rfl
theorem pk_uLn {f : Nat → Int64} {k j : Nat} {x : Int64} (h : j ≠ k) : vp_updL f k x j = f j := if_neg h
theorem pk_sub {a b : Nat} (h : b ≤ a) : nI a - nI b = nI (a - b) := by
  obtain ⟨c, rfl⟩ : ∃ c, a = c + b := ⟨a - b, by omega⟩
  rw [← nI_add, Int32.add_sub_cancel, Nat.add_sub_cancel]
theorem pk_m1 (n : Nat) : nI (n + 1) + (-1) = nI n := by
  rw [← nI_1, Int32.add_assoc, show (1 : Int32) + (-1) = 0 from rfl, Int32.add_zero]
theorem pk_mul (a b : Nat) : nI a * nI b = nI (a * b) := (Int32.ofNat_mul a b).symm
theorem pk_div {a d : Nat} (ha : a < 2 ^ 31) (h0 : 0 < d) (hd : d < 2 ^ 31) : nI a / nI d = nI (a / d) := by
  apply Int32.toInt_inj.mp
  rw [lg_idiv_nonneg (by rw [nI_toInt ha]; omega) (by rw [nI_toInt hd]; omega), nI_toInt ha, nI_toInt hd, nI_toInt (Nat.lt_of_le_of_lt (Nat.div_le_self a d) ha)]
  first | rfl | exact (Int.natCast_ediv _ _).symm
theorem pk_rem {a d : Nat} (ha : a < 2 ^ 31) (h0 : 0 < d) (hd : d < 2 ^ 31) : nI a - nI a / nI d * nI d = nI (a % d) := by
  rw [pk_div ha h0 hd, pk_mul, pk_sub (Nat.div_mul_le_self a d)]
  exact congrArg nI (by have := Nat.div_add_mod' a d; omega)
theorem pk_sub_toInt {a b : Nat} (ha : a < 2 ^ 30) (hb : b < 2 ^ 30) : (nI a - nI b).toInt = (a : Int) - b := by
  rw [Int32.toInt_sub, nI_toInt (by omega), nI_toInt (by omega)]
  exact Int.bmod_eq_of_le (by omega) (by omega)
theorem pk_sneg {a b : Nat} (hb : b < 2 ^ 30) (h : a < b) : nI a - nI b < 0 := by
  rw [Int32.lt_iff_toInt_lt, pk_sub_toInt (by omega) hb, show (0 : Int32).toInt = 0 from by decide]
  omega
theorem pk_ix (x : Int32) {n : Nat} (hn : n < 2 ^ 31) : x < 0 ∨ nI n ≤ x ∨ ∃ j : Nat, j < n ∧ x = nI j := by
  by_cases h : x < 0
  · exact Or.inl h
  · obtain ⟨j, hj, rfl⟩ := nI_of h
    by_cases h2 : j < n
    · exact Or.inr (Or.inr ⟨j, h2, rfl⟩)
    · exact Or.inr (Or.inl (nI_le (by omega) hj))
theorem pk_le {x y : Int32} {A B : Prop} (a b : Nat) (f : a ≤ b → A) (g : b < a → B) (hx : x = nI a := by rfl) (hy : y = nI b := by rfl) (ha : a < 2 ^ 31 := by omega) (hb : b < 2 ^ 31 := by omega) : (x ≤ y → A) ∧ (¬ x ≤ y → B) := by
  subst hx hy
  rw [nI_leI ha hb]
  exact ⟨f, fun z => g (by omega)⟩
theorem pk_lt {x y : Int32} {A B : Prop} (a b : Nat) (f : a < b → A) (g : b ≤ a → B) (hx : x = nI a := by rfl) (hy : y = nI b := by rfl) (ha : a < 2 ^ 31 := by omega) (hb : b < 2 ^ 31 := by omega) : (x < y → A) ∧ (¬ x < y → B) := by
  subst hx hy
  rw [nI_ltI ha hb]
  exact ⟨f, fun z => g (by omega)⟩
theorem pk_eq {x y : Int32} {A B : Prop} (a b : Nat) (f : a = b → A) (g : a ≠ b → B) (hx : x = nI a := by rfl) (hy : y = nI b := by rfl) (ha : a < 2 ^ 31 := by omega) (hb : b < 2 ^ 31 := by omega) : (x = y → A) ∧ (¬ x = y → B) := by
  subst hx hy
  rw [nI_eq ha hb]
  exact ⟨f, g⟩
theorem pk_in {x : Int32} (n N : Nat) (h : n < N) (hx : x = nI n := by rfl) (hN : N < 2 ^ 31 := by omega) : vp_in x N := by
  subst hx
  exact vp_in_nI h hN
theorem pk_cl {x : Int32} (n : Nat) (hx : x = nI n := by rfl) (h : n < 2 ^ 31 := by omega) : x.toNatClampNeg = n := by
  subst hx
  exact nI_clamp h
theorem pk_lT {n : Nat} (h : n < 2 ^ 63) : (lN n).toInt = (n : Int) := lg_ofNat_toInt h
theorem pk_lLT {a b : Nat} (ha : a < 2 ^ 63) (hb : b < 2 ^ 63) : lN a < lN b ↔ a < b := by
  rw [Int64.lt_iff_toInt_lt, pk_lT ha, pk_lT hb]; omega
theorem pk_lLE {a b : Nat} (ha : a < 2 ^ 63) (hb : b < 2 ^ 63) : lN a ≤ lN b ↔ a ≤ b := by
  rw [Int64.le_iff_toInt_le, pk_lT ha, pk_lT hb]; omega
theorem pk_lEQ {a b : Nat} (ha : a < 2 ^ 63) (hb : b < 2 ^ 63) : lN a = lN b ↔ a = b := by
  rw [← Int64.toInt_inj, pk_lT ha, pk_lT hb]; omega
theorem pk_lOf {x : Int64} (h : ¬ x < 0) : ∃ k : Nat, k < 2 ^ 63 ∧ x = lN k := by
  rw [Int64.lt_iff_toInt_lt] at h
  have h0 : (0 : Int64).toInt = 0 := by decide
  have hx := Int64.toInt_lt x
  refine ⟨x.toInt.toNat, by omega, Int64.toInt_inj.mp ?_⟩
  rw [pk_lT (by omega)]
  omega
theorem pk_lDiv {a b : Nat} (ha : a < 2 ^ 63) (h0 : 0 < b) (hb : b < 2 ^ 63) : lN a / lN b = lN (a / b) := by
  apply Int64.toInt_inj.mp
  rw [lg_ldiv_nonneg (by rw [pk_lT ha]; omega) (by rw [pk_lT hb]; omega), pk_lT ha, pk_lT hb, pk_lT (Nat.lt_of_le_of_lt (Nat.div_le_self a b) ha)]
  rfl
theorem pk_lRem {a b : Nat} (ha : a < 2 ^ 63) (h0 : 0 < b) (hb : b < 2 ^ 63) : lN a - lN a / lN b * lN b = lN (a % b) := by
  rw [pk_lDiv ha h0 hb, lN_mul, lN_sub (Nat.div_mul_le_self a b)]
  exact congrArg lN (by have := Nat.div_add_mod' a b; omega)
theorem pk_loop {σ : Type} (W : Nat → Nat → σ → Prop) (I : Nat → σ → Prop) (e i0 : Nat) (s : σ) (hi : i0 ≤ e) (h0 : I i0 s) (hx : ∀ n s, I e s → W (n + 1) e s)
    (hs : ∀ n i s, i < e → I i s → (∀ s', I (i + 1) s' → W n (i + 1) s') → W (n + 1) i s) : ∃ n, W n i0 s :=
  ⟨e + 1, loop_i W I e hx hs (e + 1) i0 s hi (by omega) h0⟩
theorem pk_loopD {σ : Type} (W : Nat → Nat → σ → Prop) (I : Nat → σ → Prop) (hx : ∀ n s, I 0 s → W (n + 1) 0 s)
    (hs : ∀ n i s, I (i + 1) s → (∀ s', I i s' → W n i s') → W (n + 1) (i + 1) s) : ∀ (e : Nat) (s : σ), I e s → W (e + 1) e s := by
  intro e
  induction e with
  | zero => exact fun s h => hx 0 s h
  | succ e ih => exact fun s h => hs (e + 1) e s h (fun s' h' => ih s' h')
theorem wb_tb (n : Nat) : (lN n).toBitVec = BitVec.ofNat 64 n := rfl
theorem wb_inj {a b : Int64} (h : a.toBitVec = b.toBitVec) : a = b := Int64.toBitVec_inj.mp h
theorem wb_tn {n : Nat} (h : n < 2 ^ 64) : (lN n).toBitVec.toNat = n := by rw [wb_tb, BitVec.toNat_ofNat, Nat.mod_eq_of_lt h]
theorem wb_c : ∀ k, k < 64 → ((nI k).toInt64 &&& 63) = lN k := by decide +kernel
theorem wb_sm : ∀ k, k < 64 → (BitVec.ofNat 64 k).smod 64 = BitVec.ofNat 64 k := by decide +kernel
theorem wb_shl (n : Nat) {k : Nat} (hk : k < 64) : lN n <<< ((nI k).toInt64 &&& 63) = lN (n * 2 ^ k) := by
  rw [wb_c k hk]
  apply wb_inj
  rw [Int64.toBitVec_shiftLeft, wb_tb, wb_tb, wb_tb, wb_sm k hk]
  apply BitVec.eq_of_toNat_eq
  rw [BitVec.shiftLeft_eq', BitVec.toNat_shiftLeft, BitVec.toNat_ofNat, BitVec.toNat_ofNat, BitVec.toNat_ofNat, Nat.mod_eq_of_lt (show k < 2 ^ 64 by omega), Nat.shiftLeft_eq, Nat.mul_mod, Nat.mod_mod, ← Nat.mul_mod]
end
section
/-! numbers written to a base: digit i of V is V / B^i % B -/
def fx_dg (B V i : Nat) : Nat := V / B ^ i % B
theorem fx_pp {B : Nat} (hB : 0 < B) (i : Nat) : 0 < B ^ i := Nat.pow_pos_iff.mpr (Or.inl hB)
theorem fx_dg_lt {B : Nat} (hB : 0 < B) (V i : Nat) : fx_dg B V i < B := Nat.mod_lt _ hB
theorem fx_ms (B V i : Nat) : V % B ^ (i + 1) = V % B ^ i + B ^ i * fx_dg B V i := Nat.mod_pow_succ
theorem fx_ds (B V i : Nat) : V / B ^ i = B * (V / B ^ (i + 1)) + fx_dg B V i := by
  unfold fx_dg
  rw [Nat.pow_succ, ← Nat.div_div_eq_div_mul]
  exact (Nat.div_add_mod _ _).symm
theorem fx_full (B V i : Nat) : V = V % B ^ i + B ^ i * fx_dg B V i + B ^ i * B * (V / B ^ (i + 1)) := by
  have h := Nat.mod_add_div V (B ^ (i + 1))
  rw [fx_ms] at h
  rw [← Nat.pow_succ]
  exact h.symm
/-- a column x over a carry S / P -/
theorem fx_cy {P B : Nat} (hP : 0 < P) (S x : Nat) : (x + S / P) / B = (S + P * x) / (P * B) := by
  rw [← Nat.div_div_eq_div_mul, Nat.add_mul_div_left _ _ hP, Nat.add_comm]
theorem fx_cd {P B N : Nat} (hP : 0 < P) (S x r : Nat) (h : N = S + P * x + P * B * r) : (x + S / P) % B = N / P % B := by
  have e : N = S + P * (x + B * r) := by rw [h, Nat.mul_add, Nat.mul_assoc, Nat.add_assoc]
  rw [e, Nat.add_mul_div_left _ _ hP, ← Nat.add_assoc, Nat.add_mul_mod_self_left, Nat.add_comm]
/-! addition -/
theorem fx_add_cy {B : Nat} (hB : 0 < B) (V W i : Nat) : (fx_dg B V i + fx_dg B W i + (V % B ^ i + W % B ^ i) / B ^ i) / B = (V % B ^ (i + 1) + W % B ^ (i + 1)) / B ^ (i + 1) := by
  rw [fx_cy (fx_pp hB i), fx_ms, fx_ms, Nat.pow_succ, Nat.mul_add]
  congr 1
  omega
theorem fx_add_dg {B : Nat} (hB : 0 < B) (V W i : Nat) : (fx_dg B V i + fx_dg B W i + (V % B ^ i + W % B ^ i) / B ^ i) % B = fx_dg B (V + W) i := by
  refine fx_cd (fx_pp hB i) _ _ (V / B ^ (i + 1) + W / B ^ (i + 1)) ?_
  have h1 := fx_full B V i
  have h2 := fx_full B W i
  rw [Nat.mul_add, Nat.mul_add]
  omega
/-! subtraction: the borrow -/
def fx_bw (B V W i : Nat) : Nat := if V % B ^ i < W % B ^ i then 1 else 0
theorem fx_bw_le (B V W i : Nat) : fx_bw B V W i ≤ 1 := by unfold fx_bw; split <;> omega
theorem fx_bw_0 (B V W : Nat) : fx_bw B V W 0 = 0 := by
  unfold fx_bw
  rw [if_neg]
  rw [Nat.pow_zero, Nat.mod_one, Nat.mod_one]
  omega
theorem fx_lex {P a b x y : Nat} (ha : a < P) (hb : b < P) : a + P * x < b + P * y ↔ x < y ∨ (x = y ∧ a < b) := by
  constructor
  · intro h
    by_cases h1 : x < y
    · exact Or.inl h1
    · by_cases h2 : x = y
      · subst h2; exact Or.inr ⟨rfl, by omega⟩
      · have h3 : P * (y + 1) ≤ P * x := Nat.mul_le_mul_left P (by omega)
        rw [Nat.mul_add] at h3
        omega
  · intro h
    cases h with
    | inl h =>
      have h3 : P * (x + 1) ≤ P * y := Nat.mul_le_mul_left P (by omega)
      rw [Nat.mul_add] at h3
      omega
    | inr h => obtain ⟨rfl, h⟩ := h; omega
theorem fx_bw_s {B : Nat} (hB : 0 < B) (V W i : Nat) : fx_bw B V W (i + 1) = if fx_dg B V i < fx_dg B W i + fx_bw B V W i then 1 else 0 := by
  have hl := fx_lex (P := B ^ i) (x := fx_dg B V i) (y := fx_dg B W i) (Nat.mod_lt V (fx_pp hB i)) (Nat.mod_lt W (fx_pp hB i))
  rw [← fx_ms, ← fx_ms] at hl
  unfold fx_bw
  by_cases h1 : V % B ^ i < W % B ^ i
  · rw [if_pos h1]
    by_cases h2 : V % B ^ (i + 1) < W % B ^ (i + 1)
    · rw [if_pos h2, if_pos (by have := hl.mp h2; omega)]
    · rw [if_neg h2, if_neg (fun h => h2 (hl.mpr (by omega)))]
  · rw [if_neg h1]
    by_cases h2 : V % B ^ (i + 1) < W % B ^ (i + 1)
    · rw [if_pos h2, if_pos (by have := hl.mp h2; omega)]
    · rw [if_neg h2, if_neg (fun h => h2 (hl.mpr (by omega)))]
theorem fx_sub_dg {B : Nat} (hB : 0 < B) (V W i : Nat) (h : W ≤ V) : (fx_dg B V i + B - fx_dg B W i - fx_bw B V W i) % B = fx_dg B (V - W) i := by
  have hd := fx_add_dg hB (V - W) W i
  rw [Nat.sub_add_cancel h] at hd
  have hP := fx_pp hB i
  have h1 := fx_dg_lt hB (V - W) i
  have h2 := fx_dg_lt hB W i
  have hc : ((V - W) % B ^ i + W % B ^ i) / B ^ i = fx_bw B V W i := by
    have e : V % B ^ i = ((V - W) % B ^ i + W % B ^ i) % B ^ i := by
      rw [← Nat.add_mod, Nat.sub_add_cancel h]
    have a1 := Nat.mod_lt (V - W) hP
    have a2 := Nat.mod_lt W hP
    unfold fx_bw
    rw [e]
    generalize (V - W) % B ^ i = x at *
    generalize W % B ^ i = y at *
    generalize B ^ i = P at *
    by_cases g : x + y < P
    · rw [Nat.div_eq_of_lt g, Nat.mod_eq_of_lt g, if_neg (by omega)]
    · have e2 : x + y = (x + y - P) + P * 1 := by omega
      rw [e2, Nat.add_mul_div_left _ _ hP, Nat.add_mul_mod_self_left, Nat.div_eq_of_lt (by omega), Nat.mod_eq_of_lt (by omega), if_pos (by omega)]
  rw [hc] at hd
  have h3 := fx_bw_le B V W i
  rw [← hd]
  generalize fx_dg B (V - W) i = x at *
  generalize fx_dg B W i = y at *
  generalize fx_bw B V W i = c at *
  by_cases g : x + y + c < B
  · rw [Nat.mod_eq_of_lt g, show x + y + c + B - y - c = x + B * 1 by omega, Nat.add_mul_mod_self_left, Nat.mod_eq_of_lt h1]
  · have e2 : x + y + c = (x + y + c - B) + B * 1 := by omega
    have e3 : (x + y + c) % B = x + y + c - B := by
      rw [e2, Nat.add_mul_mod_self_left, Nat.mod_eq_of_lt (by omega)]; omega
    rw [e3, show x + y + c - B + B - y - c = x by omega, Nat.mod_eq_of_lt h1]
/-- the same without the remainder -/
theorem fx_sub_d2 {B : Nat} (hB : 0 < B) (V W i : Nat) (h : W ≤ V) : fx_dg B (V - W) i = if fx_dg B V i < fx_dg B W i + fx_bw B V W i then fx_dg B V i + B - fx_dg B W i - fx_bw B V W i else fx_dg B V i - fx_dg B W i - fx_bw B V W i := by
  have h0 := fx_sub_dg hB V W i h
  have h1 := fx_dg_lt hB V i
  have h2 := fx_dg_lt hB W i
  have h3 := fx_bw_le B V W i
  rw [← h0]
  generalize fx_dg B V i = x at *
  generalize fx_dg B W i = y at *
  generalize fx_bw B V W i = c at *
  by_cases g : x < y + c
  · rw [if_pos g, Nat.mod_eq_of_lt (by omega)]
  · rw [if_neg g, show x + B - y - c = (x - y - c) + B * 1 by omega, Nat.add_mul_mod_self_left, Nat.mod_eq_of_lt (by omega)]
/-! comparison -/
def fx_cmp (a b : Nat) : Int32 := if a < b then -1 else if a = b then 0 else 1
theorem fx_cmp_lt {a b : Nat} (h : a < b) : fx_cmp a b = -1 := if_pos h
theorem fx_cmp_eq (a : Nat) : fx_cmp a a = 0 := by unfold fx_cmp; rw [if_neg (by omega), if_pos rfl]
theorem fx_cmp_gt {a b : Nat} (h : b < a) : fx_cmp a b = 1 := by unfold fx_cmp; rw [if_neg (by omega), if_neg (by omega)]
theorem fx_div_lt {V W P : Nat} (h : V / P < W / P) : V < W := by
  by_cases g : V < W
  · exact g
  · have := Nat.div_le_div_right (c := P) (show W ≤ V by omega)
    omega
/-- from the top -/
theorem fx_top_lt {B V W i : Nat} (he : V / B ^ (i + 1) = W / B ^ (i + 1)) (h : fx_dg B V i < fx_dg B W i) : V < W := by
  apply fx_div_lt (P := B ^ i)
  rw [fx_ds B V i, fx_ds B W i, he]
  omega
theorem fx_top_eq {B V W i : Nat} (he : V / B ^ (i + 1) = W / B ^ (i + 1)) (h : fx_dg B V i = fx_dg B W i) : V / B ^ i = W / B ^ i := by
  rw [fx_ds B V i, fx_ds B W i, he, h]
/-- from the bottom -/
theorem fx_bot_s {B : Nat} (hB : 0 < B) (V W i : Nat) : fx_cmp (V % B ^ (i + 1)) (W % B ^ (i + 1)) = if fx_dg B V i = fx_dg B W i then fx_cmp (V % B ^ i) (W % B ^ i) else fx_cmp (fx_dg B V i) (fx_dg B W i) := by
  have a := Nat.mod_lt V (fx_pp hB i)
  have b := Nat.mod_lt W (fx_pp hB i)
  have hl := fx_lex (P := B ^ i) (x := fx_dg B V i) (y := fx_dg B W i) a b
  have hg := fx_lex (P := B ^ i) (x := fx_dg B W i) (y := fx_dg B V i) b a
  rw [fx_ms, fx_ms]
  by_cases h : fx_dg B V i = fx_dg B W i
  · rw [if_pos h, h]
    unfold fx_cmp
    by_cases h1 : V % B ^ i < W % B ^ i
    · rw [if_pos (by omega), if_pos h1]
    · by_cases h2 : V % B ^ i = W % B ^ i
      · rw [if_neg (by omega), if_neg h1, if_pos (by omega), if_pos h2]
      · rw [if_neg (by omega), if_neg h1, if_neg (by omega), if_neg h2]
  · rw [if_neg h]
    by_cases h1 : fx_dg B V i < fx_dg B W i
    · rw [fx_cmp_lt h1, fx_cmp_lt (hl.mpr (Or.inl h1))]
    · rw [fx_cmp_gt (show fx_dg B W i < fx_dg B V i by omega), fx_cmp_gt (hg.mpr (Or.inl (by omega)))]
/-! a number below B^n has the digit 0 from n on -/
theorem fx_dg_hi {B V n i : Nat} (hB : 0 < B) (h : V < B ^ n) (hi : n ≤ i) : fx_dg B V i = 0 := by
  unfold fx_dg
  rw [Nat.div_eq_of_lt (Nat.lt_of_lt_of_le h (Nat.pow_le_pow_right hB hi)), Nat.zero_mod]
theorem fx_dg_0 (B i : Nat) : fx_dg B 0 i = 0 := by unfold fx_dg; rw [Nat.zero_div, Nat.zero_mod]
theorem fx_zero {B V : Nat} (n : Nat) (h : V < B ^ n) (hz : ∀ i, i < n → fx_dg B V i = 0) : V = 0 := by
  have : ∀ k, k ≤ n → V % B ^ k = 0 := by
    intro k
    induction k with
    | zero => intro _; rw [Nat.pow_zero, Nat.mod_one]
    | succ k ih => intro hk; rw [fx_ms, ih (by omega), hz k (by omega), Nat.mul_zero]
  have := this n (Nat.le_refl n)
  rwa [Nat.mod_eq_of_lt h] at this
/-- all digits from j up to n are 0 -/
theorem fx_below {B V : Nat} (n j : Nat) (h : V < B ^ n) (hj : j ≤ n) (hz : ∀ i, j ≤ i → i < n → fx_dg B V i = 0) : V < B ^ j := by
  induction n with
  | zero => have : j = 0 := by omega
            subst this; exact h
  | succ n ih =>
    by_cases hn : j = n + 1
    · subst hn; exact h
    · apply ih _ (by omega) (fun i a b => hz i a (by omega))
      have h1 := hz n (by omega) (by omega)
      have h2 := fx_ms B V n
      rw [Nat.mod_eq_of_lt h, h1, Nat.mul_zero, Nat.add_zero] at h2
      by_cases hB : 0 < B
      · rw [h2]; exact Nat.mod_lt _ (fx_pp hB n)
      · have : B = 0 := by omega
        subst this
        rw [Nat.pow_succ, Nat.mul_zero] at h
        omega
theorem fx_dg_ge {B V i : Nat} (h : fx_dg B V i ≠ 0) : B ^ i ≤ V := by
  by_cases g : V < B ^ i
  · exact absurd (by unfold fx_dg; rw [Nat.div_eq_of_lt g, Nat.zero_mod]) h
  · omega
/-! sums of columns to the base 10 -/
def fx_ps (c : Nat → Nat) : Nat → Nat
  | 0 => 0
  | n + 1 => fx_ps c n + 10 ^ n * c n
def fx_up (c : Nat → Nat) (k x : Nat) : Nat → Nat := fun j => if j = k then x else c j
theorem fx_ps_up (c : Nat → Nat) (k x : Nat) : ∀ n, fx_ps (fx_up c k (c k + x)) n = fx_ps c n + (if k < n then 10 ^ k * x else 0) := by
  intro n
  induction n with
  | zero => rfl
  | succ n ih =>
    show fx_ps (fx_up c k (c k + x)) n + 10 ^ n * (if n = k then c k + x else c n) = fx_ps c n + 10 ^ n * c n + _
    rw [ih]
    by_cases h : n = k
    · subst h
      rw [if_pos rfl, if_neg (by omega), if_pos (by omega), Nat.mul_add]
      omega
    · rw [if_neg h]
      by_cases h2 : k < n
      · rw [if_pos h2, if_pos (by omega)]; omega
      · rw [if_neg h2, if_neg (by omega)]; omega
theorem fx_ps_0 : ∀ n, fx_ps (fun _ => 0) n = 0 := by
  intro n
  induction n with
  | zero => rfl
  | succ n ih => show fx_ps _ n + _ = 0; rw [ih, Nat.mul_zero]
theorem fx_ps_more (c : Nat → Nat) (n : Nat) : ∀ d, ∃ r, fx_ps c (n + d) = fx_ps c n + 10 ^ n * r := by
  intro d
  induction d with
  | zero => exact ⟨0, by rw [Nat.mul_zero]; rfl⟩
  | succ d ih =>
    obtain ⟨r, hr⟩ := ih
    refine ⟨r + 10 ^ d * c (n + d), ?_⟩
    show fx_ps c (n + d) + 10 ^ (n + d) * c (n + d) = _
    rw [hr, Nat.pow_add, Nat.mul_add, Nat.mul_assoc]
    omega
theorem fx_ps_cy (c : Nat → Nat) (i : Nat) : (c i + fx_ps c i / 10 ^ i) / 10 = fx_ps c (i + 1) / 10 ^ (i + 1) := by
  rw [fx_cy (fx_pp (by omega) i), ← Nat.pow_succ]
  rfl
theorem fx_ps_dg (c : Nat → Nat) (i n : Nat) (h : i < n) : (c i + fx_ps c i / 10 ^ i) % 10 = fx_dg 10 (fx_ps c n) i := by
  obtain ⟨d, rfl⟩ : ∃ d, n = i + 1 + d := ⟨n - (i + 1), by omega⟩
  obtain ⟨r, hr⟩ := fx_ps_more c (i + 1) d
  refine fx_cd (fx_pp (by omega) i) _ _ r ?_
  rw [hr, ← Nat.pow_succ]
  rfl
/-! the multiple of a number -/
theorem fx_mul_cy {B : Nat} (hB : 0 < B) (W t i : Nat) : (fx_dg B W i * t + W % B ^ i * t / B ^ i) / B = W % B ^ (i + 1) * t / B ^ (i + 1) := by
  rw [fx_cy (fx_pp hB i), fx_ms, Nat.pow_succ, Nat.add_mul, Nat.mul_assoc]
theorem fx_mul_dg {B : Nat} (hB : 0 < B) (W t i : Nat) : (fx_dg B W i * t + W % B ^ i * t / B ^ i) % B = fx_dg B (W * t) i := by
  refine fx_cd (fx_pp hB i) _ _ (W / B ^ (i + 1) * t) ?_
  have h : W * t = (W % B ^ i + B ^ i * fx_dg B W i + B ^ i * B * (W / B ^ (i + 1))) * t := by rw [← fx_full B W i]
  rw [Nat.add_mul, Nat.add_mul] at h
  rw [← Nat.mul_assoc, ← Nat.mul_assoc]
  exact h
/-! one row of the long product: P0 has what is done, a * W is added at i -/
theorem fx_row_cy {B : Nat} (hB : 0 < B) (P0 a W i j : Nat) : (fx_dg B P0 (i + j) + a * fx_dg B W j + (P0 % B ^ (i + j) + a * (W % B ^ j) * B ^ i) / B ^ (i + j)) / B = (P0 % B ^ (i + j + 1) + a * (W % B ^ (j + 1)) * B ^ i) / B ^ (i + j + 1) := by
  rw [fx_cy (fx_pp hB (i + j)), fx_ms B P0 (i + j), fx_ms B W j, Nat.pow_succ]
  congr 1
  rw [Nat.pow_add]
  grind
theorem fx_row_dg {B : Nat} (hB : 0 < B) (P0 a W i j : Nat) : (fx_dg B P0 (i + j) + a * fx_dg B W j + (P0 % B ^ (i + j) + a * (W % B ^ j) * B ^ i) / B ^ (i + j)) % B = fx_dg B (P0 + a * W * B ^ i) (i + j) := by
  refine fx_cd (fx_pp hB (i + j)) _ _ (P0 / B ^ (i + j + 1) + a * (W / B ^ (j + 1))) ?_
  have h1 := fx_full B P0 (i + j)
  have h2 := fx_full B W j
  have h3 : a * W * B ^ i = a * (W % B ^ j + B ^ j * fx_dg B W j + B ^ j * B * (W / B ^ (j + 1))) * B ^ i := by rw [← h2]
  have h4 : P0 + a * W * B ^ i = (P0 % B ^ (i + j) + B ^ (i + j) * fx_dg B P0 (i + j) + B ^ (i + j) * B * (P0 / B ^ (i + j + 1))) + a * W * B ^ i := by rw [← h1]
  rw [h4, h3, Nat.pow_add]
  grind
/-! division, a digit a step -/
theorem fx_div_step {B : Nat} (hB : 0 < B) (V W i : Nat) (hW : 0 < W) : (V / B ^ (i + 1) % W * B + fx_dg B V i) / W = fx_dg B (V / W) i ∧ (V / B ^ (i + 1) % W * B + fx_dg B V i) % W = V / B ^ i % W ∧ V / B ^ (i + 1) % W * B + fx_dg B V i < B * W := by
  have h1 := fx_ds B V i
  have h2 := Nat.div_add_mod (V / B ^ (i + 1)) W
  have hr := Nat.mod_lt (V / B ^ (i + 1)) hW
  have hd := fx_dg_lt hB V i
  have e : V / B ^ i = V / B ^ (i + 1) % W * B + fx_dg B V i + W * (B * (V / B ^ (i + 1) / W)) := by
    have h3 : B * (V / B ^ (i + 1)) = B * (W * (V / B ^ (i + 1) / W) + V / B ^ (i + 1) % W) := by rw [h2]
    rw [h1, h3]
    grind
  have hlt : V / B ^ (i + 1) % W * B + fx_dg B V i < B * W := by
    have h4 : (V / B ^ (i + 1) % W + 1) * B ≤ W * B := Nat.mul_le_mul_right B hr
    rw [Nat.add_mul] at h4
    rw [Nat.mul_comm B W]
    omega
  have e2 : V / W / B ^ i = V / B ^ i / W := by
    rw [Nat.div_div_eq_div_mul, Nat.div_div_eq_div_mul, Nat.mul_comm]
  refine ⟨?_, ?_, hlt⟩
  · show _ = V / W / B ^ i % B
    rw [e2, e, Nat.add_mul_div_left _ _ hW, Nat.add_mul_mod_self_left]
    refine (Nat.mod_eq_of_lt ?_).symm
    exact Nat.div_lt_of_lt_mul (by rw [Nat.mul_comm W B]; exact hlt)
  · rw [e, Nat.add_mul_mod_self_left]
/-! digits of limbs -/
theorem fx_limb (V i : Nat) : fx_dg 100000000 V (i / 8) / 10 ^ (i % 8) % 10 = fx_dg 10 V i := by
  unfold fx_dg
  have h8 : (100000000 : Nat) = 10 ^ 8 := by decide
  have hr : i % 8 < 8 := Nat.mod_lt _ (by omega)
  have e : 10 ^ 8 = 10 ^ (i % 8) * (10 * 10 ^ (7 - i % 8)) := by
    rw [← Nat.mul_assoc, ← Nat.pow_succ, ← Nat.pow_add]
    congr 1
    omega
  rw [h8, ← Nat.pow_mul]
  rw [show V / 10 ^ (8 * (i / 8)) % 10 ^ 8 = V / 10 ^ (8 * (i / 8)) % (10 ^ (i % 8) * (10 * 10 ^ (7 - i % 8))) by rw [← e]]
  rw [Nat.mod_mul_right_div_self, Nat.mod_mul_right_mod, Nat.div_div_eq_div_mul, ← Nat.pow_add, Nat.div_add_mod]
/-! how many digits: n as the loop counts it -/
def fx_len (V n : Nat) : Prop := V < 10 ^ n ∧ (n = 0 ∨ 10 ^ (n - 1) ≤ V)
theorem fx_len_0 {V n : Nat} (h : fx_len V n) : n = 0 ↔ V = 0 := by
  obtain ⟨h1, h2⟩ := h
  constructor
  · intro e; subst e; rw [Nat.pow_zero] at h1; omega
  · intro e
    cases h2 with
    | inl h => exact h
    | inr h => have := fx_pp (B := 10) (by omega) (n - 1); omega
theorem fx_len_gt {V n : Nat} (h : fx_len V n) (k : Nat) : k < n ↔ 10 ^ k ≤ V := by
  obtain ⟨h1, h2⟩ := h
  constructor
  · intro hk
    cases h2 with
    | inl h => omega
    | inr h => exact Nat.le_trans (Nat.pow_le_pow_right (by omega) (by omega)) h
  · intro hk
    by_cases g : k < n
    · exact g
    · have := Nat.pow_le_pow_right (n := 10) (by omega) (show n ≤ k by omega)
      omega
theorem fx_len_un {V n m : Nat} (h : fx_len V n) (g : fx_len V m) : n = m := by
  by_cases h1 : n < m
  · have a := (fx_len_gt g n).mp h1
    have b := h.1
    omega
  · by_cases h2 : m < n
    · have a := (fx_len_gt h m).mp h2
      have b := g.1
      omega
    · omega
/-! signs -/
def fx_sg (V m : Nat) : Int32 := if V = 0 then 0 else if m = 0 then 1 else -1
theorem fx_sg_0 (m : Nat) : fx_sg 0 m = 0 := if_pos rfl
theorem fx_sg_p {V : Nat} (h : V ≠ 0) : fx_sg V 0 = 1 := by unfold fx_sg; rw [if_neg h, if_pos rfl]
theorem fx_sg_n {V m : Nat} (h : V ≠ 0) (hm : m ≠ 0) : fx_sg V m = -1 := by unfold fx_sg; rw [if_neg h, if_neg hm]
end
section
/-! the blocks of a program: the open starts ahead of token p, the innermost first -/
def bk_st (o : Nat → Int32) : Nat → List Nat
  | 0 => []
  | p + 1 => if o p = 9 ∨ o p = 10 then p :: bk_st o p else if o p = 11 then (bk_st o p).tail else bk_st o p
def bk_dp (o : Nat → Int32) : Nat → Nat
  | 0 => 0
  | p + 1 => if o p ≤ 1 then bk_dp o p + 1 else if o p ≤ 9 then bk_dp o p - 1 else bk_dp o p
def bk_pops (k : Nat) : Nat := if 3 ≤ k ∧ k ≤ 8 then 2 else if k = 2 ∨ k = 9 then 1 else 0
/-- what emit has seen to of token p -/
def bk_tok (o g : Nat → Int32) (p : Nat) : Prop := ∃ k : Nat, k < 12 ∧ o p = nI k ∧ (k = 1 ∨ k = 2 → ∃ v : Nat, v < 8 ∧ g p = nI v) ∧ bk_pops k ≤ bk_dp o p ∧ (k ≤ 1 → bk_dp o p < 6) ∧ (k = 9 → bk_dp o p = 1) ∧ (10 ≤ k → bk_dp o p = 0) ∧ (k = 9 ∨ k = 10 → (bk_st o p).length < 3) ∧ (k = 11 → bk_st o p ≠ [])
def bk_wf (o g : Nat → Int32) (n : Nat) : Prop := ∀ p, p < n → bk_tok o g p
theorem bk_open {o : Nat → Int32} {p : Nat} (h : o p = 9 ∨ o p = 10) : bk_st o (p + 1) = p :: bk_st o p := if_pos h
theorem bk_end {o : Nat → Int32} {p : Nat} (h : o p = 11) : bk_st o (p + 1) = (bk_st o p).tail := by
  show (if _ then _ else _) = _
  rw [if_neg (by rw [h]; decide), if_pos h]
theorem bk_same {o : Nat → Int32} {p : Nat} (h9 : o p ≠ 9) (h10 : o p ≠ 10) (h11 : o p ≠ 11) : bk_st o (p + 1) = bk_st o p := by
  show (if _ then _ else _) = _
  rw [if_neg (by intro h; cases h with | inl h => exact h9 h | inr h => exact h10 h), if_neg h11]
theorem bk_ok (o : Nat → Int32) : ∀ p s r, bk_st o p = s :: r → s < p ∧ r = bk_st o s ∧ (o s = 9 ∨ o s = 10) := by
  intro p
  induction p using Nat.strongRecOn with
  | _ p ih =>
    intro s r h
    cases p with
    | zero => exact nomatch h
    | succ p =>
      by_cases h1 : o p = 9 ∨ o p = 10
      · rw [bk_open h1] at h
        injection h with a b
        subst a
        exact ⟨by omega, b.symm, h1⟩
      · by_cases h2 : o p = 11
        · rw [bk_end h2] at h
          cases hs : bk_st o p with
          | nil => rw [hs] at h; exact nomatch h
          | cons s0 r0 =>
            rw [hs] at h
            have a := ih p (by omega) s0 r0 hs
            have b := ih s0 (by omega) s r (by rw [← a.2.1]; exact h)
            exact ⟨by omega, b.2.1, b.2.2⟩
        · rw [bk_same (fun e => h1 (Or.inl e)) (fun e => h1 (Or.inr e)) h2] at h
          have a := ih p (by omega) s r h
          exact ⟨by omega, a.2.1, a.2.2⟩
theorem bk_mem (o : Nat → Int32) : ∀ p x, x ∈ bk_st o p → x < p := by
  intro p
  induction p using Nat.strongRecOn with
  | _ p ih =>
    intro x h
    cases hs : bk_st o p with
    | nil => rw [hs] at h; exact nomatch h
    | cons s r =>
      have a := bk_ok o p s r hs
      rw [hs] at h
      cases h with
      | head => exact a.1
      | tail _ h =>
        have := ih s a.1 x (by rw [← a.2.1]; exact h)
        omega
theorem bk_gone (o : Nat → Int32) {p s : Nat} {r : List Nat} (h : o p = 11) (hs : bk_st o p = s :: r) : ∀ d x, x ∈ bk_st o (p + 1 + d) → x < s ∨ p < x := by
  intro d
  induction d with
  | zero =>
    intro x hx
    rw [Nat.add_zero, bk_end h, hs] at hx
    have a := bk_ok o p s r hs
    rw [show (s :: r).tail = r from rfl, a.2.1] at hx
    exact Or.inl (bk_mem o s x hx)
  | succ d ih =>
    intro x hx
    rw [← Nat.add_assoc] at hx
    by_cases h1 : o (p + 1 + d) = 9 ∨ o (p + 1 + d) = 10
    · rw [bk_open h1] at hx
      cases hx with
      | head => exact Or.inr (by omega)
      | tail _ hx => exact ih x hx
    · by_cases h2 : o (p + 1 + d) = 11
      · rw [bk_end h2] at hx
        exact ih x (List.mem_of_mem_tail hx)
      · rw [bk_same (fun e => h1 (Or.inl e)) (fun e => h1 (Or.inr e)) h2] at hx
        exact ih x hx
/-- what lies ahead of n alone counts -/
theorem bk_st_cg {o o' : Nat → Int32} {n : Nat} (h : ∀ j, j < n → o' j = o j) : ∀ p, p ≤ n → bk_st o' p = bk_st o p := by
  intro p
  induction p with
  | zero => intro _; rfl
  | succ p ih =>
    intro hp
    show (if _ then _ else _) = (if _ then _ else _)
    rw [ih (by omega), h p (by omega)]
theorem bk_dp_cg {o o' : Nat → Int32} {n : Nat} (h : ∀ j, j < n → o' j = o j) : ∀ p, p ≤ n → bk_dp o' p = bk_dp o p := by
  intro p
  induction p with
  | zero => intro _; rfl
  | succ p ih =>
    intro hp
    show (if _ then _ else _) = (if _ then _ else _)
    rw [ih (by omega), h p (by omega)]
theorem bk_tok_cg {o o' g g' : Nat → Int32} {n : Nat} (h : ∀ j, j < n → o' j = o j) (hg : ∀ j, j < n → g' j = g j) {p : Nat} (hp : p < n) (H : bk_tok o g p) : bk_tok o' g' p := by
  unfold bk_tok at *
  rw [h p hp, hg p hp, bk_st_cg h p (by omega), bk_dp_cg h p (by omega)]
  exact H
/-- one token more -/
theorem bk_wf_s {o g : Nat → Int32} {n : Nat} {x y : Int32} (H : bk_wf o g n) (h : bk_tok (upd o n x) (upd g n y) n) : bk_wf (upd o n x) (upd g n y) (n + 1) := by
  intro p hp
  by_cases e : p = n
  · subst e; exact h
  · exact bk_tok_cg (fun j hj => pk_un (by omega)) (fun j hj => pk_un (by omega)) (show p < n by omega) (H p (by omega))
/-- the open blocks in an array, the outermost first -/
def bk_ob (a : Nat → Int32) : List Nat → Prop
  | [] => True
  | s :: r => a r.length = nI s ∧ bk_ob a r
theorem bk_ob_up {a : Nat → Int32} {x : Int32} : ∀ {l : List Nat} {k : Nat}, l.length ≤ k → bk_ob a l → bk_ob (upd a k x) l := by
  intro l
  induction l with
  | nil => intro k _ _; trivial
  | cons s r ih =>
    intro k hk h
    rw [List.length_cons] at hk
    exact ⟨by rw [pk_un (by omega)]; exact h.1, ih (by omega) h.2⟩
/-- partners lead from a start to its end and back -/
def bk_pt (o a : Nat → Int32) (n : Nat) : Prop := ∀ p, p < n → o p = 11 → ∀ s r, bk_st o p = s :: r → a p = nI s ∧ a s = nI p
theorem bk_pt_cg {o a : Nat → Int32} {n : Nat} {x : Int32} (H : bk_pt o a n) (hx : x ≠ 11) : bk_pt (upd o n x) a (n + 1) := by
  intro p hp ho s r hs
  have hc : ∀ j, j < n → upd o n x j = o j := fun j hj => pk_un (by omega)
  by_cases e : p = n
  · subst e; rw [pk_us] at ho; exact absurd ho hx
  · rw [bk_st_cg hc p (by omega)] at hs
    rw [hc p (by omega)] at ho
    exact H p (by omega) ho s r hs
theorem bk_pt_end {o a : Nat → Int32} {n s : Nat} {r : List Nat} (H : bk_pt o a n) (hs : bk_st o n = s :: r) : bk_pt (upd o n 11) (upd (upd a s (nI n)) n (nI s)) (n + 1) := by
  intro p hp ho s1 r1 hs1
  have hc : ∀ j, j < n → upd o n 11 j = o j := fun j hj => pk_un (by omega)
  have hk := bk_ok o n s r hs
  by_cases e : p = n
  · subst e
    rw [bk_st_cg hc p (by omega), hs] at hs1
    injection hs1 with e1 e2
    subst e1
    exact ⟨pk_us, by rw [pk_un (by omega), pk_us]⟩
  · rw [bk_st_cg hc p (by omega)] at hs1
    rw [hc p (by omega)] at ho
    have h1 := H p (by omega) ho s1 r1 hs1
    have hk1 := bk_ok o p s1 r1 hs1
    have hps : p ≠ s := by
      intro e2
      subst e2
      rw [ho] at hk
      exact absurd hk.2.2 (by decide)
    have hss : s1 ≠ s := by
      intro e2
      have hm : s ∈ bk_st o n := by rw [hs]; exact List.Mem.head _
      obtain ⟨d, hd⟩ : ∃ d, n = p + 1 + d := ⟨n - (p + 1), by omega⟩
      have := bk_gone o ho hs1 d s (by rw [← hd]; exact hm)
      omega
    refine ⟨?_, ?_⟩
    · rw [pk_un e, pk_un hps]; exact h1.1
    · rw [pk_un (by omega), pk_un hss]; exact h1.2
/-- the reference's block stack in the run against the component's rounds left -/
def bk_rs (o bg tm rl : Nat → Int32) : List Nat → Prop
  | [] => True
  | s :: r => bg r.length = nI s ∧ tm r.length = (if o s = 10 then rl s else 1) ∧ bk_rs o bg tm rl r
theorem bk_rs_cg {o bg tm rl bg' tm' rl' : Nat → Int32} : ∀ {l : List Nat}, (∀ j, j < l.length → bg' j = bg j) → (∀ j, j < l.length → tm' j = tm j) → (∀ s, s ∈ l → rl' s = rl s) → bk_rs o bg tm rl l → bk_rs o bg' tm' rl' l := by
  intro l
  induction l with
  | nil => intro _ _ _ _; trivial
  | cons s r ih =>
    intro h1 h2 h3 h
    rw [List.length_cons] at h1 h2
    refine ⟨by rw [h1 _ (by omega)]; exact h.1, ?_, ih (fun j hj => h1 j (by omega)) (fun j hj => h2 j (by omega)) (fun x hx => h3 x (List.Mem.tail _ hx)) h.2.2⟩
    rw [h2 _ (by omega), h3 s (List.Mem.head _)]
    exact h.2.1
end
section
/-! the machine's numbers -/
theorem fx_B : (100000000 : Int64) = lN 100000000 := rfl
theorem fx_10 : (10 : Int64) = lN 10 := rfl
theorem fx_i5 (x i : Nat) : nI x * 5 + nI i = nI (x * 5 + i) := by
  rw [show (5 : Int32) = nI 5 from rfl, pk_mul, nI_add]
theorem fx_i82 (x i : Nat) : nI x * 82 + nI i = nI (x * 82 + i) := by
  rw [show (82 : Int32) = nI 82 from rfl, pk_mul, nI_add]
theorem fx_lrem {a : Nat} (ha : a < 2 ^ 63) : lN a - lN a / 100000000 * 100000000 = lN (a % 100000000) := by
  rw [fx_B]; exact pk_lRem ha (by omega) (by omega)
theorem fx_ldiv {a : Nat} (ha : a < 2 ^ 63) : lN a / 100000000 = lN (a / 100000000) := by
  rw [fx_B]; exact pk_lDiv ha (by omega) (by omega)
theorem fx_lrem10 {a : Nat} (ha : a < 2 ^ 63) : lN a - lN a / 10 * 10 = lN (a % 10) := by
  rw [fx_10]; exact pk_lRem ha (by omega) (by omega)
theorem fx_ldiv10 {a : Nat} (ha : a < 2 ^ 63) : lN a / 10 = lN (a / 10) := by
  rw [fx_10]; exact pk_lDiv ha (by omega) (by omega)
theorem fx_irem {a : Nat} (ha : a < 2 ^ 31) : nI a - nI a / 10 * 10 = nI (a % 10) := by
  rw [show (10 : Int32) = nI 10 from rfl]; exact pk_rem ha (by omega) (by omega)
theorem fx_idiv {a : Nat} (ha : a < 2 ^ 31) : nI a / 10 = nI (a / 10) := by
  rw [show (10 : Int32) = nI 10 from rfl]; exact pk_div ha (by omega) (by omega)
theorem fx_lnegT {k : Nat} (h : k < 2 ^ 63) : (-(lN k)).toInt = -(k : Int) := by
  rw [Int64.toInt_neg, pk_lT h]
  exact Int.bmod_eq_of_le (by omega) (by omega)
theorem fx_lneg {k : Nat} (h0 : 0 < k) (h : k < 2 ^ 63) : -(lN k) < 0 := by
  rw [Int64.lt_iff_toInt_lt, fx_lnegT h, show (0 : Int64).toInt = 0 from by decide]
  omega
theorem fx_lnn {k : Nat} (h : k < 2 ^ 63) : ¬ lN k < 0 := by
  rw [Int64.lt_iff_toInt_lt, pk_lT h, show (0 : Int64).toInt = 0 from by decide]
  omega
/-- a difference with a borrow -/
theorem fx_dneg {a b c : Nat} (ha : a < 2 ^ 31) (hb : b < 2 ^ 31) (hc : c ≤ 1) : lN a - lN b - lN c < 0 ↔ a < b + c := by
  by_cases h : a < b + c
  · have e : lN a - lN b - lN c = -(lN (b + c - a)) := by
      have e1 : lN (b + c - a) = lN b + lN c - lN a := by rw [← lN_sub (by omega), ← lN_add]
      rw [e1]; grind
    rw [e]
    exact ⟨fun _ => h, fun _ => fx_lneg (by omega) (by omega)⟩
  · rw [lN_sub (by omega), lN_sub (by omega)]
    exact ⟨fun z => absurd z (fx_lnn (by omega)), fun z => absurd z h⟩
theorem fx_dval1 {a b c : Nat} (hb : b ≤ 100000000 - 1) (hc : c ≤ 1) : lN a - lN b - lN c + 1 * 100000000 = lN (a + 100000000 - b - c) := by
  rw [← lN_sub (by omega), ← lN_sub (by omega), ← lN_add, ← fx_B]
  grind
theorem fx_dval0 {a b c : Nat} (h : ¬ a < b + c) : lN a - lN b - lN c + 0 * 100000000 = lN (a - b - c) := by
  rw [lN_sub (by omega), lN_sub (by omega)]
  grind
theorem fx_yd {a b c : Nat} (hb : b < 10) (hc : c ≤ 1) : nI a - nI b - nI c + 10 = nI (a + 10 - b - c) := by
  have e : nI (a + 10 - b - c) = nI a + nI 10 - nI b - nI c := by
    rw [← pk_sub (show c ≤ a + 10 - b by omega), ← pk_sub (show b ≤ a + 10 by omega), ← nI_add]
  rw [e, show nI 10 = (10 : Int32) from rfl]
  grind
/-- an int's absolute value -/
def fx_ab (v : Int32) : Nat := v.toInt.natAbs
def fx_mn (v : Int32) : Nat := if v < 0 then 1 else 0
theorem fx_ab_lt (v : Int32) : fx_ab v < 2 ^ 32 := by
  unfold fx_ab
  have h1 := Int32.toInt_lt v
  have h2 := Int32.le_toInt v
  omega
theorem fx_ab_n {v : Int32} (h : v < 0) : -(v.toInt64) = lN (fx_ab v) := by
  have h1 := Int32.le_toInt v
  rw [Int32.lt_iff_toInt_lt, show (0 : Int32).toInt = 0 from by decide] at h
  apply Int64.toInt_inj.mp
  rw [pk_lT (by have := fx_ab_lt v; omega), Int64.toInt_neg, Int32.toInt_toInt64]
  unfold fx_ab
  rw [Int.bmod_eq_of_le (by omega) (by omega)]
  omega
theorem fx_ab_p {v : Int32} (h : ¬ v < 0) : v.toInt64 = lN (fx_ab v) := by
  rw [Int32.lt_iff_toInt_lt, show (0 : Int32).toInt = 0 from by decide] at h
  apply Int64.toInt_inj.mp
  rw [pk_lT (by have := fx_ab_lt v; omega), Int32.toInt_toInt64]
  unfold fx_ab
  omega
theorem fx_ab_0 (v : Int32) : fx_ab v = 0 ↔ v = 0 := by
  unfold fx_ab
  rw [← Int32.toInt_inj, show (0 : Int32).toInt = 0 from by decide]
  omega
theorem fx_l_neg (v : Int32) : v.toInt64 < 0 ↔ v < 0 := by
  rw [Int64.lt_iff_toInt_lt, Int32.lt_iff_toInt_lt, Int32.toInt_toInt64, show (0 : Int32).toInt = 0 from by decide, show (0 : Int64).toInt = 0 from by decide]
/-- pictures of a number in an array -/
def fx_pl (L : Nat → Int64) (b n V : Nat) : Prop := ∀ i, i < n → L (b + i) = lN (fx_dg 100000000 V i)
def fx_pd (d : Nat → Int32) (b n V : Nat) : Prop := ∀ i, i < n → d (b + i) = nI (fx_dg 10 V i)
theorem fx_dgB (V i : Nat) : fx_dg 100000000 V i < 100000000 := fx_dg_lt (by omega) V i
theorem fx_dg10 (V i : Nat) : fx_dg 10 V i < 10 := fx_dg_lt (by omega) V i
/-- one of the 40 digits -/
def fx_T : Nat := 10 ^ 40
theorem fx_T5 : fx_T = 100000000 ^ 5 := by decide
theorem fx_T40 : fx_T = 10 ^ 40 := rfl
/-- the signed long of a small number -/
def fx_l (V m : Nat) : Int64 := if m = 0 then lN V else -(lN V)
theorem fx_l_sg {V m : Nat} : (fx_sg V m).toInt64 * lN V = fx_l V m := by
  unfold fx_sg fx_l
  by_cases h : V = 0
  · subst h
    rw [if_pos rfl]
    by_cases hm : m = 0
    · rw [if_pos hm]; decide
    · rw [if_neg hm]; decide
  · rw [if_neg h]
    by_cases hm : m = 0
    · rw [if_pos hm, if_pos hm, show (1 : Int32).toInt64 = 1 from by decide]; grind
    · rw [if_neg hm, if_neg hm, show (-1 : Int32).toInt64 = -1 from by decide]; grind
theorem fx_lT {V : Nat} (h : V < 2 ^ 63) (m : Nat) : (fx_l V m).toInt = if m = 0 then (V : Int) else -(V : Int) := by
  unfold fx_l
  by_cases hm : m = 0
  · rw [if_pos hm, if_pos hm, pk_lT h]
  · rw [if_neg hm, if_neg hm, fx_lnegT h]
/-- what is an int -/
def fx_isI (V m : Nat) : Prop := if m = 0 then V < 2147483648 else V ≤ 2147483648
theorem fx_isI_lo {V : Nat} (h : V < 2 ^ 63) (m : Nat) : ((-2147483648 : Int64) ≤ fx_l V m ∧ fx_l V m ≤ 2147483647) ↔ fx_isI V m := by
  unfold fx_isI
  rw [Int64.le_iff_toInt_le, Int64.le_iff_toInt_le, fx_lT h m, show (-2147483648 : Int64).toInt = -2147483648 from by decide, show (2147483647 : Int64).toInt = 2147483647 from by decide]
  by_cases hm : m = 0
  · rw [if_pos hm, if_pos hm]; omega
  · rw [if_neg hm, if_neg hm]; omega
end
section
/-! bounds and ends of the long product and the multiple -/
theorem fx_row_b {B : Nat} (hB : 0 < B) (P0 a W i j : Nat) : (P0 % B ^ (i + j) + a * (W % B ^ j) * B ^ i) / B ^ (i + j) ≤ a := by
  have h1 := Nat.mod_lt P0 (fx_pp hB (i + j))
  have h2 := Nat.mod_lt W (fx_pp hB j)
  have h3 : a * (W % B ^ j) * B ^ i ≤ a * B ^ (i + j) := by
    rw [Nat.pow_add, Nat.mul_comm (B ^ i), ← Nat.mul_assoc]
    exact Nat.mul_le_mul_right _ (Nat.mul_le_mul_left _ (by omega))
  have h4 : P0 % B ^ (i + j) + a * (W % B ^ j) * B ^ i < (a + 1) * B ^ (i + j) := by
    rw [Nat.add_mul]; omega
  have h5 := (Nat.div_lt_iff_lt_mul (fx_pp hB (i + j))).mpr h4
  omega
theorem fx_mul_b {B : Nat} (hB : 0 < B) (W t i : Nat) : W % B ^ i * t / B ^ i ≤ t := by
  have h2 := Nat.mod_lt W (fx_pp hB i)
  have h3 : W % B ^ i * t ≤ B ^ i * t := Nat.mul_le_mul_right _ (by omega)
  have h4 := Nat.div_le_div_right (c := B ^ i) h3
  rw [Nat.mul_div_cancel_left _ (fx_pp hB i)] at h4
  exact h4
theorem fx_lt_mul {a b c d : Nat} (h1 : a < c) (h2 : b < d) : a * b < c * d := Nat.mul_lt_mul'' h1 h2
/-- the rows of the product -/
theorem fx_row_p (V W i : Nat) (B : Nat) : V % B ^ (i + 1) * W = V % B ^ i * W + fx_dg B V i * W * B ^ i := by
  rw [fx_ms, Nat.add_mul]
  congr 1
  grind
theorem fx_row_lt {B V W i : Nat} (hB : 0 < B) (hW : W < B ^ 5) : V % B ^ i * W < B ^ (i + 5) := by
  rw [Nat.pow_add]
  exact fx_lt_mul (Nat.mod_lt V (fx_pp hB i)) hW
/-- the last carry of a row is its highest limb -/
theorem fx_row_e {B V W i : Nat} (hB : 0 < B) (hW : W < B ^ 5) : (V % B ^ i * W % B ^ (i + 5) + fx_dg B V i * (W % B ^ 5) * B ^ i) / B ^ (i + 5) = fx_dg B (V % B ^ (i + 1) * W) (i + 5) := by
  have h1 := fx_row_lt (V := V) (i := i) hB hW
  have h2 := fx_row_lt (V := V) (i := i + 1) hB hW
  rw [Nat.mod_eq_of_lt h1, Nat.mod_eq_of_lt hW, ← fx_row_p]
  unfold fx_dg
  refine (Nat.mod_eq_of_lt ?_).symm
  rw [Nat.div_lt_iff_lt_mul (fx_pp hB (i + 5)), Nat.mul_comm B, ← Nat.pow_succ]
  rw [show (i + 5).succ = i + 1 + 5 by omega]
  exact h2
theorem fx_mul_e {B W t : Nat} (hB : 0 < B) (hW : W < B ^ 5) (ht : t < B) : W % B ^ 5 * t / B ^ 5 = fx_dg B (W * t) 5 := by
  rw [Nat.mod_eq_of_lt hW]
  unfold fx_dg
  refine (Nat.mod_eq_of_lt ?_).symm
  rw [Nat.div_lt_iff_lt_mul (fx_pp hB 5), Nat.mul_comm W t]
  exact fx_lt_mul ht hW
/-! order of two signed numbers -/
def fx_bl (V m : Nat) : Prop := m ≠ 0 ∧ V ≠ 0
theorem fx_bl_d (V m : Nat) : fx_bl V m ∨ ¬ fx_bl V m := Classical.em _
noncomputable def fx_ord (V m W k : Nat) : Int32 := if fx_sg V m = fx_sg W k then fx_sg V m * fx_cmp V W else if fx_sg V m < fx_sg W k then -1 else 1
theorem fx_neg_cmp (V W : Nat) : -1 * fx_cmp V W = fx_cmp W V := by
  by_cases h : V < W
  · rw [fx_cmp_lt h, fx_cmp_gt h]; decide
  · by_cases g : V = W
    · subst g; rw [fx_cmp_eq]; decide
    · rw [fx_cmp_gt (show W < V by omega), fx_cmp_lt (show W < V by omega)]; decide
theorem fx_ord_tf {V m W k : Nat} (h : fx_bl V m) (g : ¬ fx_bl W k) : fx_ord V m W k = -1 := by
  unfold fx_ord
  rw [fx_sg_n h.2 h.1]
  by_cases w : W = 0
  · subst w; rw [fx_sg_0, if_neg (by decide), if_pos (by decide)]
  · have : k = 0 := by
      by_cases e : k = 0
      · exact e
      · exact absurd ⟨e, w⟩ g
    subst this
    rw [fx_sg_p w, if_neg (by decide), if_pos (by decide)]
theorem fx_ord_ft {V m W k : Nat} (h : ¬ fx_bl V m) (g : fx_bl W k) : fx_ord V m W k = 1 := by
  unfold fx_ord
  rw [fx_sg_n g.2 g.1]
  by_cases w : V = 0
  · subst w; rw [fx_sg_0, if_neg (by decide), if_neg (by decide)]
  · have : m = 0 := by
      by_cases e : m = 0
      · exact e
      · exact absurd ⟨e, w⟩ h
    subst this
    rw [fx_sg_p w, if_neg (by decide), if_neg (by decide)]
theorem fx_ord_tt {V m W k : Nat} (h : fx_bl V m) (g : fx_bl W k) : fx_ord V m W k = fx_cmp W V := by
  unfold fx_ord
  rw [fx_sg_n g.2 g.1, fx_sg_n h.2 h.1, if_pos rfl, fx_neg_cmp]
theorem fx_ord_ff {V m W k : Nat} (h : ¬ fx_bl V m) (g : ¬ fx_bl W k) : fx_ord V m W k = fx_cmp V W := by
  unfold fx_ord
  by_cases v : V = 0
  · subst v
    rw [fx_sg_0]
    by_cases w : W = 0
    · subst w; rw [fx_sg_0, if_pos rfl, fx_cmp_eq]; decide
    · have : k = 0 := by
        by_cases e : k = 0
        · exact e
        · exact absurd ⟨e, w⟩ g
      subst this
      rw [fx_sg_p w, if_neg (by decide), if_pos (by decide), fx_cmp_lt (by omega)]
  · have : m = 0 := by
      by_cases e : m = 0
      · exact e
      · exact absurd ⟨e, v⟩ h
    subst this
    rw [fx_sg_p v]
    by_cases w : W = 0
    · subst w; rw [fx_sg_0, if_neg (by decide), if_neg (by decide), fx_cmp_gt (by omega)]
    · have : k = 0 := by
        by_cases e : k = 0
        · exact e
        · exact absurd ⟨e, w⟩ g
      subst this
      rw [fx_sg_p w, if_pos rfl, Int32.one_mul]
/-! the result of an operation: absolute value and sign -/
def fx_sv (V m W k : Nat) : Nat := if m = k then V + W else if W ≤ V then V - W else W - V
def fx_sm (V m W k : Nat) : Nat := if m = k then m else if W ≤ V then m else k
noncomputable def fx_rv (op V m W k : Nat) : Nat := if op = 3 then fx_sv V m W k else if op = 4 then fx_sv V m W (1 - k) else if op = 5 then V * W else if op = 6 then V / W else if op = 7 then V % W else if fx_ord V m W k < 0 then 1 else 0
def fx_rm (op V m W k : Nat) : Nat := if op = 3 then fx_sm V m W k else if op = 4 then fx_sm V m W (1 - k) else if op = 5 ∨ op = 6 then (if m = k then 0 else 1) else if op = 7 then m else 0
noncomputable def fx_rc (op V m W k : Nat) : Int32 := if (op = 6 ∨ op = 7) ∧ W = 0 then 1 else if fx_T ≤ fx_rv op V m W k then 2 else 0
theorem fx_sm_le {V m W k : Nat} (hm : m < 2) (hk : k < 2) : fx_sm V m W k < 2 := by unfold fx_sm; split; exact hm; split; exact hm; exact hk
theorem fx_rm_le {op V m W k : Nat} (hm : m < 2) (hk : k < 2) : fx_rm op V m W k < 2 := by
  unfold fx_rm
  split
  · exact fx_sm_le hm hk
  · split
    · exact fx_sm_le hm (by omega)
    · split
      · split <;> omega
      · split
        · exact hm
        · omega
/-! signs of the results -/
theorem fx_sgs {V m k : Nat} (h : V = 0 ∨ m = k) : fx_sg V m = fx_sg V k := by
  cases h with
  | inl h => subst h; rw [fx_sg_0, fx_sg_0]
  | inr h => rw [h]
theorem fx_sg_mul {V m W k : Nat} (hm : m < 2) (hk : k < 2) (hV : V ≠ 0) (hW : W ≠ 0) {R : Nat} (hR : R ≠ 0) : fx_sg V m * fx_sg W k = fx_sg R (if m = k then 0 else 1) := by
  have h1 : m = 0 ∨ m = 1 := by omega
  have h2 : k = 0 ∨ k = 1 := by omega
  rcases h1 with rfl | rfl <;> rcases h2 with rfl | rfl <;> simp [fx_sg, hV, hW, hR]
/-! columns of the reference's product -/
theorem fx_col {c : Nat → Nat} {V W a i j : Nat} (h : fx_ps c 82 = V % 10 ^ i * W + a * (W % 10 ^ j) * 10 ^ i) (hij : i + j < 82) : fx_ps (fx_up c (i + j) (c (i + j) + a * fx_dg 10 W j)) 82 = V % 10 ^ i * W + a * (W % 10 ^ (j + 1)) * 10 ^ i := by
  rw [fx_ps_up, if_pos hij, h, fx_ms, Nat.pow_add]
  grind
/-! quotient and remainder as they come out -/
theorem fx_dm {R r W t : Nat} (h : R = r + W * t) (hr : r < W) : t = R / W ∧ r = R % W := by
  subst h
  rw [Nat.add_mul_div_left _ _ (by omega), Nat.add_mul_mod_self_left, Nat.div_eq_of_lt hr, Nat.mod_eq_of_lt hr]
  omega
/-- what the remainder is after a digit has been brought down, in limbs and in digits -/
theorem fx_shift_0 {B : Nat} (R a : Nat) (ha : a < B) : fx_dg B (R * B + a) 0 = a := by
  unfold fx_dg
  rw [Nat.pow_zero, Nat.div_one, Nat.mul_comm, Nat.mul_add_mod, Nat.mod_eq_of_lt ha]
theorem fx_shift_s {B : Nat} (R a i : Nat) (ha : a < B) : fx_dg B (R * B + a) (i + 1) = fx_dg B R i := by
  unfold fx_dg
  rw [Nat.pow_succ, Nat.mul_comm (B ^ i), ← Nat.div_div_eq_div_mul]
  rw [Nat.add_comm, Nat.mul_comm R B, Nat.add_mul_div_left _ _ (by omega), Nat.div_eq_of_lt ha, Nat.zero_add]
theorem fx_sub_neg (W k : Nat) (hk : k < 2) : -(fx_sg W k) = fx_sg W (1 - k) := by
  unfold fx_sg
  have : k = 0 ∨ k = 1 := by omega
  by_cases h : W = 0
  · rw [if_pos h, if_pos h]; decide
  · rw [if_neg h, if_neg h]
    rcases this with rfl | rfl <;> decide
/-! the sum of two signed numbers, as the component makes it -/
theorem fx_sg_ne (V : Nat) (hV : V ≠ 0) (m : Nat) : fx_sg V m ≠ 0 := by
  unfold fx_sg
  rw [if_neg hV]
  split <;> decide
theorem fx_sg_in {V W m k : Nat} (hV : V ≠ 0) (hW : W ≠ 0) (hm : m < 2) (hk : k < 2) (h : fx_sg V m = fx_sg W k) : m = k := by
  have h1 : m = 0 ∨ m = 1 := by omega
  have h2 : k = 0 ∨ k = 1 := by omega
  unfold fx_sg at h
  rw [if_neg hV, if_neg hW] at h
  rcases h1 with rfl | rfl <;> rcases h2 with rfl | rfl
  · rfl
  · exact absurd h (by decide)
  · exact absurd h (by decide)
  · rfl
theorem fx_sg_nz {V W : Nat} (hV : V ≠ 0) (hW : W ≠ 0) (m : Nat) : fx_sg V m = fx_sg W m := by
  unfold fx_sg
  rw [if_neg hV, if_neg hW]
theorem fx_a1 {V m W k : Nat} (hm : m < 2) (hk : k < 2) (h : fx_sg V m = fx_sg W k) : fx_sv V m W k = V + W ∧ fx_sg (V + W) (fx_sm V m W k) = fx_sg V m := by
  by_cases hV : V = 0
  · subst hV
    rw [fx_sg_0] at h
    have hW : W = 0 := by
      by_cases w : W = 0
      · exact w
      · exact absurd h.symm (fx_sg_ne W w k)
    subst hW
    refine ⟨?_, rfl⟩
    unfold fx_sv
    split
    · rfl
    · split <;> rfl
  · have hW : W ≠ 0 := by
      intro w
      subst w
      rw [fx_sg_0] at h
      exact fx_sg_ne V hV m h
    have e := fx_sg_in hV hW hm hk h
    subst e
    unfold fx_sv fx_sm
    rw [if_pos rfl, if_pos rfl]
    exact ⟨rfl, fx_sg_nz (by omega) hV m⟩
theorem fx_a2 {V m W k : Nat} (h : fx_sg V m ≠ fx_sg W k) (g : W ≤ V) : fx_sv V m W k = V - W ∧ fx_sg (V - W) (fx_sm V m W k) = if V = W then 0 else fx_sg V m := by
  have e1 : fx_sm V m W k = m := by unfold fx_sm; rw [if_pos g]; split <;> rfl
  have e2 : fx_sv V m W k = V - W := by
    unfold fx_sv
    by_cases c : m = k
    · subst c
      rw [if_pos rfl]
      by_cases hW : W = 0
      · omega
      · exact absurd (fx_sg_nz (by omega) hW m) h
    · rw [if_neg c, if_pos g]
  refine ⟨e2, ?_⟩
  rw [e1]
  by_cases c : V = W
  · rw [if_pos c, show V - W = 0 by omega, fx_sg_0]
  · rw [if_neg c]
    exact fx_sg_nz (by omega) (by omega) m
theorem fx_a3 {V m W k : Nat} (h : fx_sg V m ≠ fx_sg W k) (g : V < W) : fx_sv V m W k = W - V ∧ fx_sg (W - V) (fx_sm V m W k) = fx_sg W k := by
  by_cases c : m = k
  · subst c
    have hV : V = 0 := by
      by_cases v : V = 0
      · exact v
      · exact absurd (fx_sg_nz v (by omega) m) h
    subst hV
    unfold fx_sv fx_sm
    rw [if_pos rfl, if_pos rfl]
    exact ⟨by omega, fx_sg_nz (by omega) (by omega) m⟩
  · unfold fx_sv fx_sm
    rw [if_neg c, if_neg c, if_neg (by omega), if_neg (by omega)]
    exact ⟨rfl, fx_sg_nz (by omega) (by omega) k⟩
end
section
/-! the machine itself, on numbers: slots 0 to 7 variables, 8 and on the stack; V absolute values, M signs (1: minus) -/
noncomputable def mc_V (k h : Nat) (a : Int32) (V M : Nat → Nat) : Nat → Nat :=
  if k = 0 then fx_up V (8 + h) (fx_ab a) else if k = 1 then fx_up V (8 + h) (V a.toNatClampNeg) else if k = 2 then fx_up V a.toNatClampNeg (V (7 + h)) else if k ≤ 8 then fx_up V (6 + h) (fx_rv k (V (6 + h)) (M (6 + h)) (V (7 + h)) (M (7 + h))) else V
def mc_M (k h : Nat) (a : Int32) (V M : Nat → Nat) : Nat → Nat :=
  if k = 0 then fx_up M (8 + h) (fx_mn a) else if k = 1 then fx_up M (8 + h) (M a.toNatClampNeg) else if k = 2 then fx_up M a.toNatClampNeg (M (7 + h)) else if k ≤ 8 then fx_up M (6 + h) (fx_rm k (V (6 + h)) (M (6 + h)) (V (7 + h)) (M (7 + h))) else M
noncomputable def mc_c (k h : Nat) (V M : Nat → Nat) : Int32 :=
  if 3 ≤ k ∧ k ≤ 8 then fx_rc k (V (6 + h)) (M (6 + h)) (V (7 + h)) (M (7 + h)) else 0
def mc_rl (k p s : Nat) (os a : Int32) (rl : Nat → Int32) : Nat → Int32 :=
  if k = 10 then upd rl p a else if k = 11 ∧ os = 10 then upd rl s (rl s - 1) else rl
def mc_p (k h p s : Nat) (os e : Int32) (V : Nat → Nat) (rl : Nat → Int32) : Nat :=
  if k = 9 ∧ V (7 + h) = 0 then e.toNatClampNeg + 1 else if k = 11 ∧ os = 10 ∧ 0 < rl s - 1 then s + 1 else p + 1
def mc_s (o : Nat → Int32) (p : Nat) : Nat := (bk_st o p).headD 0
def mc_k (o : Nat → Int32) (p : Nat) : Nat := (o p).toNatClampNeg
noncomputable def mc_run (o g e : Nat → Int32) (n : Nat) : Nat → Nat → (Nat → Nat) → (Nat → Nat) → (Nat → Int32) → Int32 × (Nat → Nat) × (Nat → Nat)
  | 0, _, V, M, _ => (0, V, M)
  | d + 1, p, V, M, rl => if p < n then (if mc_c (mc_k o p) (bk_dp o p) V M = 0 then mc_run o g e n d (mc_p (mc_k o p) (bk_dp o p) p (mc_s o p) (o (mc_s o p)) (e p) V rl) (mc_V (mc_k o p) (bk_dp o p) (g p) V M) (mc_M (mc_k o p) (bk_dp o p) (g p) V M) (mc_rl (mc_k o p) p (mc_s o p) (o (mc_s o p)) (g p) rl) else (mc_c (mc_k o p) (bk_dp o p) V M, V, M)) else (0, V, M)
/-- numbers below ten to the 40th in the first c slots -/
def mc_G (c : Nat) (V M : Nat → Nat) : Prop := ∀ s, s < c → V s < fx_T ∧ M s < 2
theorem mc_G_le {c c' : Nat} {V M : Nat → Nat} (h : mc_G c V M) (hc : c' ≤ c) : mc_G c' V M := fun s hs => h s (by omega)
theorem mc_G_up {c : Nat} {V M : Nat → Nat} {k x y : Nat} (h : mc_G c V M) (hx : x < fx_T) (hy : y < 2) : mc_G c (fx_up V k x) (fx_up M k y) := by
  intro s hs
  unfold fx_up
  by_cases e : s = k
  · rw [if_pos e, if_pos e]; exact ⟨hx, hy⟩
  · rw [if_neg e, if_neg e]; exact h s hs
theorem mc_G_ps {c : Nat} {V M : Nat → Nat} {x y : Nat} (h : mc_G c V M) (hx : x < fx_T) (hy : y < 2) : mc_G (c + 1) (fx_up V c x) (fx_up M c y) := by
  intro s hs
  unfold fx_up
  by_cases e : s = c
  · rw [if_pos e, if_pos e]; exact ⟨hx, hy⟩
  · rw [if_neg e, if_neg e]; exact h s (by omega)
theorem fx_up_s {c : Nat → Nat} {k x : Nat} : fx_up c k x k = x := if_pos rfl
theorem fx_up_n {c : Nat → Nat} {k x j : Nat} (h : j ≠ k) : fx_up c k x j = c j := if_neg h
theorem fx_ab_T (v : Int32) : fx_ab v < fx_T := Nat.lt_trans (fx_ab_lt v) (by decide)
theorem fx_mn_2 (v : Int32) : fx_mn v < 2 := by unfold fx_mn; split <;> omega
theorem mc_kk {o : Nat → Int32} {p k : Nat} (h : o p = nI k) (hk : k < 12) : mc_k o p = k := by
  unfold mc_k; rw [h]; exact nI_clamp (by omega)
theorem mc_le1 {k : Nat} (hk : k < 12) : (nI k ≤ 1 ↔ k ≤ 1) := nI_leI (a := k) (b := 1) (by omega) (by omega)
theorem mc_le9 {k : Nat} (hk : k < 12) : (nI k ≤ 9 ↔ k ≤ 9) := nI_leI (a := k) (b := 9) (by omega) (by omega)
theorem bk_dp_s {o : Nat → Int32} {p k : Nat} (h : o p = nI k) (hk : k < 12) : bk_dp o (p + 1) = if k ≤ 1 then bk_dp o p + 1 else if k ≤ 9 then bk_dp o p - 1 else bk_dp o p := by
  show (if _ then _ else if _ then _ else _) = _
  rw [h]
  by_cases h1 : k ≤ 1
  · rw [if_pos ((mc_le1 hk).mpr h1), if_pos h1]
  · rw [if_neg (fun z => h1 ((mc_le1 hk).mp z)), if_neg h1]
    by_cases h2 : k ≤ 9
    · rw [if_pos ((mc_le9 hk).mpr h2), if_pos h2]
    · rw [if_neg (fun z => h2 ((mc_le9 hk).mp z)), if_neg h2]
theorem mc_eq {k j : Nat} (hk : k < 12) (hj : j < 12) : nI k = nI j ↔ k = j := nI_eq (by omega) (by omega)
theorem bk_st_s {o : Nat → Int32} {p k : Nat} (h : o p = nI k) (hk : k < 12) : bk_st o (p + 1) = if k = 9 ∨ k = 10 then p :: bk_st o p else if k = 11 then (bk_st o p).tail else bk_st o p := by
  by_cases h1 : k = 9 ∨ k = 10
  · rw [if_pos h1]
    apply bk_open
    rw [h]
    rcases h1 with rfl | rfl
    · exact Or.inl rfl
    · exact Or.inr rfl
  · rw [if_neg h1]
    by_cases h2 : k = 11
    · subst h2; rw [if_pos rfl]; exact bk_end h
    · rw [if_neg h2]
      exact bk_same (by rw [h]; intro z; exact h1 (Or.inl ((mc_eq hk (by omega)).mp (z.trans (show (9 : Int32) = nI 9 from rfl))))) (by rw [h]; intro z; exact h1 (Or.inr ((mc_eq hk (by omega)).mp (z.trans (show (10 : Int32) = nI 10 from rfl))))) (by rw [h]; intro z; exact h2 ((mc_eq hk (by omega)).mp (z.trans (show (11 : Int32) = nI 11 from rfl))))
theorem bk_len {o g : Nat → Int32} {n : Nat} (H : bk_wf o g n) : ∀ p, p ≤ n → (bk_st o p).length ≤ 3 := by
  intro p
  induction p with
  | zero => intro _; exact Nat.zero_le _
  | succ p ih =>
    intro hp
    have i := ih (by omega)
    obtain ⟨k, hk, ho, _, _, _, _, _, h3, _⟩ := H p (by omega)
    rw [bk_st_s ho hk]
    split
    · rename_i h; have := h3 h; rw [List.length_cons]; omega
    · split
      · rw [List.length_tail]; omega
      · exact i
theorem bk_dp_6 {o g : Nat → Int32} {n : Nat} (H : bk_wf o g n) : ∀ p, p ≤ n → bk_dp o p ≤ 6 := by
  intro p
  induction p with
  | zero => intro _; exact Nat.zero_le _
  | succ p ih =>
    intro hp
    have i := ih (by omega)
    obtain ⟨k, hk, ho, _, _, h6, _⟩ := H p (by omega)
    rw [bk_dp_s ho hk]
    split
    · rename_i h; have := h6 h; omega
    · split <;> omega
/-- the end that belongs to a start -/
theorem bk_close {o g : Nat → Int32} {n : Nat} (H : bk_wf o g n) (hn : bk_st o n = []) {a : Nat} : ∀ d i l, i + d = n → bk_st o i = l ++ (a :: bk_st o a) → ∃ e, i ≤ e ∧ e < n ∧ o e = 11 ∧ bk_st o e = a :: bk_st o a := by
  intro d
  induction d with
  | zero =>
    intro i l hi h
    have : i = n := by omega
    subst this
    rw [hn] at h
    cases l <;> exact nomatch h
  | succ d ih =>
    intro i l hi h
    obtain ⟨k, hk, ho, _⟩ := H i (by omega)
    have hs := bk_st_s ho hk
    by_cases h1 : k = 9 ∨ k = 10
    · rw [if_pos h1, h] at hs
      obtain ⟨e, he⟩ := ih (i + 1) (i :: l) (by omega) hs
      exact ⟨e, by omega, he.2⟩
    · rw [if_neg h1] at hs
      by_cases h2 : k = 11
      · subst h2
        rw [if_pos rfl, h] at hs
        cases l with
        | nil => exact ⟨i, Nat.le_refl i, by omega, ho, h⟩
        | cons b l =>
          obtain ⟨e, he⟩ := ih (i + 1) l (by omega) hs
          exact ⟨e, by omega, he.2⟩
      · rw [if_neg h2, h] at hs
        obtain ⟨e, he⟩ := ih (i + 1) l (by omega) hs
        exact ⟨e, by omega, he.2⟩
end
section
/-! where a step leads -/
theorem mc_skip {o g e : Nat → Int32} {n p : Nat} (H : bk_wf o g n) (hn : bk_st o n = []) (PT : bk_pt o e n) (hp : p < n) (h9 : o p = 9 ∨ o p = 10) : ∃ q, p < q ∧ q < n ∧ o q = 11 ∧ bk_st o q = p :: bk_st o p ∧ e p = nI q := by
  obtain ⟨q, h1, h2, h3, h4⟩ := bk_close H hn (a := p) (n - (p + 1)) (p + 1) [] (by omega) (bk_open h9)
  exact ⟨q, by omega, h2, h3, h4, (PT q h2 h3 p _ h4).2⟩
theorem mc_o11 {o : Nat → Int32} {q k : Nat} (h : o q = 11) (ho : o q = nI k) (hk : k < 12) : k = 11 :=
  (mc_eq hk (by omega)).mp (ho.symm.trans (h.trans (show (11 : Int32) = nI 11 from rfl)))
theorem mc_o10 {o : Nat → Int32} {q k : Nat} (h : o q = 10) (ho : o q = nI k) (hk : k < 12) : k = 10 :=
  (mc_eq hk (by omega)).mp (ho.symm.trans (h.trans (show (10 : Int32) = nI 10 from rfl)))
theorem mc_nx {o g e : Nat → Int32} {n p k : Nat} {V : Nat → Nat} {rl : Nat → Int32} (hN : n ≤ 40) (H : bk_wf o g n) (hn : bk_st o n = []) (PT : bk_pt o e n) (hp : p < n) (ho : o p = nI k) (hk : k < 12) :
    mc_p k (bk_dp o p) p (mc_s o p) (o (mc_s o p)) (e p) V rl ≤ n ∧
    bk_dp o (mc_p k (bk_dp o p) p (mc_s o p) (o (mc_s o p)) (e p) V rl) = (if k ≤ 1 then bk_dp o p + 1 else if k ≤ 9 then bk_dp o p - 1 else bk_dp o p) ∧
    bk_st o (mc_p k (bk_dp o p) p (mc_s o p) (o (mc_s o p)) (e p) V rl) = (if k = 9 then (if V (7 + bk_dp o p) = 0 then bk_st o p else p :: bk_st o p) else if k = 10 then p :: bk_st o p else if k = 11 then (if o (mc_s o p) = 10 ∧ 0 < rl (mc_s o p) - 1 then bk_st o p else (bk_st o p).tail) else bk_st o p) := by
  obtain ⟨k', hk', ho', t⟩ := H p hp
  have : k' = k := (mc_eq hk' hk).mp (ho'.symm.trans ho)
  subst this
  obtain ⟨_, _, _, t9, t10, _, t11⟩ := t
  unfold mc_p
  by_cases c1 : k' = 9 ∧ V (7 + bk_dp o p) = 0
  · rw [if_pos c1]
    obtain ⟨rfl, c2⟩ := c1
    obtain ⟨q, h1, h2, h3, h4, h5⟩ := mc_skip H hn PT hp (Or.inl ho)
    obtain ⟨j, hj, hoj, _, _, _, _, j10, _⟩ := H q h2
    have := mc_o11 h3 hoj hj
    subst this
    rw [h5, nI_clamp (by omega)]
    have d0 := j10 (by omega)
    refine ⟨by omega, ?_, ?_⟩
    · rw [bk_dp_s hoj hj, t9 rfl, d0]; rfl
    · rw [bk_end h3, h4, if_pos rfl, if_pos c2]; rfl
  · rw [if_neg c1]
    by_cases c2 : k' = 11 ∧ o (mc_s o p) = 10 ∧ 0 < rl (mc_s o p) - 1
    · rw [if_pos c2]
      obtain ⟨rfl, c3⟩ := c2
      cases hs : bk_st o p with
      | nil => exact absurd hs (t11 rfl)
      | cons s r =>
        have es : mc_s o p = s := by unfold mc_s; rw [hs]; rfl
        rw [es] at c3 ⊢
        have hk2 := bk_ok o p s r hs
        obtain ⟨j, hj, hoj, _, _, _, _, j10, _⟩ := H s (by omega)
        have := mc_o10 c3.1 hoj hj
        subst this
        refine ⟨by omega, ?_, ?_⟩
        · rw [bk_dp_s hoj hj, j10 (by omega), t10 (by omega)]; rfl
        · rw [bk_open (Or.inr c3.1), ← hk2.2.1, if_pos c3]; rfl
    · rw [if_neg c2]
      refine ⟨by omega, bk_dp_s ho hk', ?_⟩
      rw [bk_st_s ho hk']
      by_cases e9 : k' = 9
      · subst e9
        rw [if_pos (Or.inl rfl), if_pos rfl, if_neg (fun z => c1 ⟨rfl, z⟩)]
      · by_cases e10 : k' = 10
        · subst e10; rfl
        · rw [if_neg (by omega), if_neg e9, if_neg e10]
          by_cases e11 : k' = 11
          · subst e11
            rw [if_pos rfl, if_pos rfl, if_neg (fun z => c2 ⟨rfl, z⟩)]
          · rw [if_neg e11, if_neg e11]
/-- the numbers stay below ten to the 40th -/
theorem fx_rc_0 {op V m W k : Nat} (h : fx_rc op V m W k = 0) : fx_rv op V m W k < fx_T := by
  unfold fx_rc at h
  by_cases c1 : (op = 6 ∨ op = 7) ∧ W = 0
  · rw [if_pos c1] at h; exact absurd h (by decide)
  · rw [if_neg c1] at h
    by_cases c2 : fx_T ≤ fx_rv op V m W k
    · rw [if_pos c2] at h; exact absurd h (by decide)
    · omega
theorem mc_nG {o g : Nat → Int32} {n p k : Nat} {V M : Nat → Nat} (H : bk_wf o g n) (hp : p < n) (ho : o p = nI k) (hk : k < 12) (G : mc_G (8 + bk_dp o p) V M) (hc : mc_c k (bk_dp o p) V M = 0) :
    mc_G (8 + (if k ≤ 1 then bk_dp o p + 1 else if k ≤ 9 then bk_dp o p - 1 else bk_dp o p)) (mc_V k (bk_dp o p) (g p) V M) (mc_M k (bk_dp o p) (g p) V M) := by
  obtain ⟨k', hk', ho', t⟩ := H p hp
  have : k' = k := (mc_eq hk' hk).mp (ho'.symm.trans ho)
  subst this
  obtain ⟨ta, tp, t6, t9, _⟩ := t
  unfold mc_V mc_M
  by_cases c0 : k' = 0
  · subst c0
    exact mc_G_ps (c := 8 + bk_dp o p) G (fx_ab_T _) (fx_mn_2 _)
  · rw [if_neg c0, if_neg c0]
    by_cases c1 : k' = 1
    · subst c1
      obtain ⟨v, hv, hg⟩ := ta (Or.inl rfl)
      rw [hg, nI_clamp (by omega)]
      have := G v (by omega)
      exact mc_G_ps (c := 8 + bk_dp o p) G this.1 this.2
    · rw [if_neg c1, if_neg c1, if_neg (show ¬ k' ≤ 1 by omega)]
      by_cases c2 : k' = 2
      · subst c2
        have hpp : 1 ≤ bk_dp o p := tp
        have := G (7 + bk_dp o p) (by omega)
        rw [if_pos rfl, if_pos rfl, if_pos (by omega)]
        exact mc_G_up (mc_G_le G (by omega)) this.1 this.2
      · rw [if_neg c2, if_neg c2]
        by_cases c8 : k' ≤ 8
        · have hpp : 2 ≤ bk_dp o p := by
            have : bk_pops k' = 2 := if_pos ⟨by omega, c8⟩
            omega
          rw [if_pos c8, if_pos c8, if_pos (by omega)]
          have g1 := G (6 + bk_dp o p) (by omega)
          have g2 := G (7 + bk_dp o p) (by omega)
          unfold mc_c at hc
          rw [if_pos ⟨by omega, c8⟩] at hc
          exact mc_G_up (mc_G_le G (by omega)) (fx_rc_0 hc) (fx_rm_le g1.2 g2.2)
        · rw [if_neg c8, if_neg c8]
          refine mc_G_le G ?_
          split <;> omega
end
section
/-! pictures of the slots -/
def xs_pic (L : Nat → Int64) (S : Nat → Int32) (s V m : Nat) : Prop := fx_pl L (s * 5) 5 V ∧ S s = fx_sg V m
def ys_pic (d mi : Nat → Int32) (s V m : Nat) : Prop := fx_pd d (s * 82) 82 V ∧ mi s = nI m
def xs_all (L : Nat → Int64) (S : Nat → Int32) (c : Nat) (V M : Nat → Nat) : Prop := ∀ s, s < c → xs_pic L S s (V s) (M s)
def ys_all (d mi : Nat → Int32) (c : Nat) (V M : Nat → Nat) : Prop := ∀ s, s < c → ys_pic d mi s (V s) (M s)
/-- L' is L but in slot x -/
def xs_fr (L L' : Nat → Int64) (x : Nat) : Prop := ∀ j, (j < x * 5 ∨ x * 5 + 5 ≤ j) → L' j = L j
def ys_fr (d d' : Nat → Int32) (x : Nat) : Prop := ∀ j, (j < x * 82 ∨ x * 82 + 82 ≤ j) → d' j = d j
theorem xs_fr_pl {L L' : Nat → Int64} {x s n V : Nat} (h : xs_fr L L' x) (hs : s ≠ x) (hn : n ≤ 5) (p : fx_pl L (s * 5) n V) : fx_pl L' (s * 5) n V := by
  intro i hi
  rw [h _ (by omega)]
  exact p i hi
theorem ys_fr_pd {d d' : Nat → Int32} {x s n V : Nat} (h : ys_fr d d' x) (hs : s ≠ x) (hn : n ≤ 82) (p : fx_pd d (s * 82) n V) : fx_pd d' (s * 82) n V := by
  intro i hi
  rw [h _ (by omega)]
  exact p i hi
theorem xs_all_le {L : Nat → Int64} {S : Nat → Int32} {c c' : Nat} {V M : Nat → Nat} (h : xs_all L S c V M) (hc : c' ≤ c) : xs_all L S c' V M := fun s hs => h s (by omega)
theorem ys_all_le {d mi : Nat → Int32} {c c' : Nat} {V M : Nat → Nat} (h : ys_all d mi c V M) (hc : c' ≤ c) : ys_all d mi c' V M := fun s hs => h s (by omega)
/-- slot x is written, slot y may lose its sign: the slots below c but y -/
theorem xs_wr {L L' : Nat → Int64} {S S' : Nat → Int32} {c c' x y v m : Nat} {V M : Nat → Nat} (h : xs_all L S c V M) (fr : xs_fr L L' x) (fs : ∀ s, s ≠ x → s ≠ y → S' s = S s) (pc : xs_pic L' S' x v m) (hy : c' ≤ y) (hc : ∀ s, s < c' → s ≠ x → s < c) : xs_all L' S' c' (fx_up V x v) (fx_up M x m) := by
  intro s hs
  by_cases e : s = x
  · subst e; rw [fx_up_s, fx_up_s]; exact pc
  · rw [fx_up_n e, fx_up_n e]
    have a := h s (hc s hs e)
    exact ⟨xs_fr_pl fr e (by omega) a.1, by rw [fs s e (by omega)]; exact a.2⟩
theorem ys_wr {d d' mi mi' : Nat → Int32} {c c' x v m : Nat} {V M : Nat → Nat} (h : ys_all d mi c V M) (fr : ∀ s, s < c' → s ≠ x → fx_pd d (s * 82) 82 (V s) → fx_pd d' (s * 82) 82 (V s)) (fs : ∀ s, s < c' → s ≠ x → mi' s = mi s) (pc : ys_pic d' mi' x v m) (hc : ∀ s, s < c' → s ≠ x → s < c) : ys_all d' mi' c' (fx_up V x v) (fx_up M x m) := by
  intro s hs
  by_cases e : s = x
  · subst e; rw [fx_up_s, fx_up_s]; exact pc
  · rw [fx_up_n e, fx_up_n e]
    have a := h s (hc s hs e)
    exact ⟨fr s hs e a.1, by rw [fs s hs e]; exact a.2⟩
theorem fx_pl_le {L : Nat → Int64} {b n m V : Nat} (h : fx_pl L b n V) (hm : m ≤ n) : fx_pl L b m V := fun i hi => h i (by omega)
theorem fx_pd_le {d : Nat → Int32} {b n m V : Nat} (h : fx_pd d b n V) (hm : m ≤ n) : fx_pd d b m V := fun i hi => h i (by omega)
end
section
/-! one token more -/
theorem em_st (o : Nat → Int32) (n : Nat) (x : Int32) : bk_st (upd o n x) n = bk_st o n := bk_st_cg (n := n) (fun j hj => pk_un (by omega)) n (Nat.le_refl n)
theorem em_dp (o : Nat → Int32) (n : Nat) (x : Int32) : bk_dp (upd o n x) n = bk_dp o n := bk_dp_cg (n := n) (fun j hj => pk_un (by omega)) n (Nat.le_refl n)
theorem em_tok {o g : Nat → Int32} {n k : Nat} {a : Int32} (hk : k < 12) (h1 : k = 1 ∨ k = 2 → ∃ v : Nat, v < 8 ∧ a = nI v) (h2 : bk_pops k ≤ bk_dp o n) (h3 : k ≤ 1 → bk_dp o n < 6) (h4 : k = 9 → bk_dp o n = 1) (h5 : 10 ≤ k → bk_dp o n = 0) (h6 : k = 9 ∨ k = 10 → (bk_st o n).length < 3) (h7 : k = 11 → bk_st o n ≠ []) : bk_tok (upd o n (nI k)) (upd g n a) n := by
  refine ⟨k, hk, pk_us, ?_, ?_, ?_, ?_, ?_, ?_, ?_⟩
  · rw [pk_us]; exact h1
  · rw [em_dp]; exact h2
  · rw [em_dp]; exact h3
  · rw [em_dp]; exact h4
  · rw [em_dp]; exact h5
  · rw [em_st]; exact h6
  · rw [em_st]; exact h7
theorem em_dps {o : Nat → Int32} {n k : Nat} (hk : k < 12) : bk_dp (upd o n (nI k)) (n + 1) = if k ≤ 1 then bk_dp o n + 1 else if k ≤ 9 then bk_dp o n - 1 else bk_dp o n := by
  rw [bk_dp_s (k := k) pk_us hk, em_dp]
theorem em_sts {o : Nat → Int32} {n k : Nat} (hk : k < 12) : bk_st (upd o n (nI k)) (n + 1) = if k = 9 ∨ k = 10 then n :: bk_st o n else if k = 11 then (bk_st o n).tail else bk_st o n := by
  rw [bk_st_s (k := k) pk_us hk, em_st]
theorem em_n11 {k : Nat} (hk : k < 12) (h : k ≠ 11) : nI k ≠ 11 := fun z => h ((mc_eq hk (by omega)).mp (z.trans (show (11 : Int32) = nI 11 from rfl)))
/-- what the relation says of a program -/
def em_R (n dp oc : Nat) (o g pt ob : Nat → Int32) : Prop := n ≤ 40 ∧ bk_wf o g n ∧ bk_dp o n = dp ∧ (bk_st o n).length = oc ∧ bk_ob ob (bk_st o n) ∧ bk_pt o pt n
theorem em_R0 (o g pt ob : Nat → Int32) : em_R 0 0 0 o g pt ob := ⟨by omega, fun p hp => absurd hp (by omega), rfl, rfl, trivial, fun p hp => absurd hp (by omega)⟩
theorem em_Rdp {n dp oc : Nat} {o g pt ob : Nat → Int32} (R : em_R n dp oc o g pt ob) : dp ≤ 6 := by
  obtain ⟨_, h, rfl, _⟩ := R
  exact bk_dp_6 h n (Nat.le_refl n)
theorem em_Roc {n dp oc : Nat} {o g pt ob : Nat → Int32} (R : em_R n dp oc o g pt ob) : oc ≤ 3 := by
  obtain ⟨_, h, _, rfl, _⟩ := R
  exact bk_len h n (Nat.le_refl n)
/-- a token that opens and closes nothing -/
theorem em_A {n dp oc k : Nat} {o g pt ob : Nat → Int32} {a : Int32} (R : em_R n dp oc o g pt ob) (hn : n < 40) (hk : k ≤ 8) (h1 : k = 1 ∨ k = 2 → ∃ v : Nat, v < 8 ∧ a = nI v) (h2 : bk_pops k ≤ dp) (h3 : k ≤ 1 → dp < 6) : em_R (n + 1) (if k ≤ 1 then dp + 1 else dp - 1) oc (upd o n (nI k)) (upd g n a) pt ob := by
  obtain ⟨_, hw, rfl, rfl, hb, hp⟩ := R
  have e := em_sts (o := o) (n := n) (k := k) (by omega)
  rw [if_neg (by omega), if_neg (by omega)] at e
  refine ⟨by omega, bk_wf_s hw (em_tok (by omega) h1 h2 h3 (by omega) (by omega) (by omega) (by omega)), ?_, by rw [e], by rw [e]; exact hb, bk_pt_cg hp (em_n11 (by omega) (by omega))⟩
  rw [em_dps (by omega)]
  split
  · rfl
  · rw [if_pos (by omega)]
/-- IF or REPEAT -/
theorem em_B {n dp oc k : Nat} {o g pt ob : Nat → Int32} {a : Int32} (R : em_R n dp oc o g pt ob) (hn : n < 40) (hk : k = 9 ∨ k = 10) (h1 : k = 9 → dp = 1) (h2 : k = 10 → dp = 0) (h3 : oc < 3) : em_R (n + 1) 0 (oc + 1) (upd o n (nI k)) (upd g n a) pt (upd ob oc (nI n)) := by
  obtain ⟨_, hw, rfl, rfl, hb, hp⟩ := R
  have e := em_sts (o := o) (n := n) (k := k) (by omega)
  rw [if_pos hk] at e
  refine ⟨by omega, bk_wf_s hw (em_tok (by omega) (by omega) ?_ (by omega) h1 (by omega) (fun _ => h3) (by omega)), ?_, by rw [e]; rfl, ?_, bk_pt_cg hp (em_n11 (by omega) (by omega))⟩
  · rcases hk with rfl | rfl
    · rw [h1 rfl]; decide
    · rw [h2 rfl]; decide
  · rw [em_dps (by omega), if_neg (by omega)]
    rcases hk with rfl | rfl
    · rw [if_pos (by omega), h1 rfl]
    · rw [if_neg (by omega), h2 rfl]
  · rw [e]
    exact ⟨pk_us, bk_ob_up (Nat.le_refl _) hb⟩
/-- END -/
theorem em_C {n oc : Nat} {o g pt ob : Nat → Int32} {a : Int32} (R : em_R n 0 (oc + 1) o g pt ob) (hn : n < 40) : ∃ s, s < n ∧ ob oc = nI s ∧ em_R (n + 1) 0 oc (upd o n (nI 11)) (upd g n a) (upd (upd pt s (nI n)) n (nI s)) ob := by
  obtain ⟨_, hw, h0, hl, hb, hp⟩ := R
  cases hs : bk_st o n with
  | nil => rw [hs] at hl; exact absurd hl (by rw [List.length_nil]; omega)
  | cons s r =>
    have e := em_sts (o := o) (n := n) (k := 11) (by omega)
    rw [if_neg (by omega), if_pos rfl, hs] at e
    rw [hs] at hl hb
    rw [List.length_cons] at hl
    have hr : r.length = oc := by omega
    refine ⟨s, (bk_ok o n s r hs).1, by rw [← hr]; exact hb.1, by omega, bk_wf_s hw (em_tok (by omega) (by omega) (by rw [h0]; decide) (by omega) (by omega) (fun _ => h0) (by omega) (fun _ => by rw [hs]; exact List.cons_ne_nil s r)), ?_, by rw [e]; exact hr, by rw [e]; exact hb.2, bk_pt_end hp hs⟩
    rw [em_dps (by omega), if_neg (by omega), if_neg (by omega), h0]
end
section
/-! filling an array from b on -/
def fx_fr (L L' : Nat → Int64) (b n : Nat) : Prop := ∀ j, (j < b ∨ b + n ≤ j) → L' j = L j
def fx_fill (L L' : Nat → Int64) (b n V : Nat) : Prop := fx_fr L L' b n ∧ fx_pl L' b n V
theorem fx_fill_0 (L : Nat → Int64) (b V : Nat) : fx_fill L L b 0 V := ⟨fun _ _ => rfl, fun i hi => absurd hi (by omega)⟩
theorem fx_fr_s {L L' : Nat → Int64} {b n : Nat} {v : Int64} (h : fx_fr L L' b n) : fx_fr L (vp_updL L' (b + n) v) b (n + 1) := fun j hj => by rw [pk_uLn (by omega)]; exact h j (by omega)
theorem fx_pl_s {L' : Nat → Int64} {b n V : Nat} {v : Int64} (h : fx_pl L' b n V) (hv : v = lN (fx_dg 100000000 V n)) : fx_pl (vp_updL L' (b + n) v) b (n + 1) V := by
  intro i hi
  by_cases e : i = n
  · subst e; rw [pk_uLs, hv]
  · rw [pk_uLn (by omega)]; exact h i (by omega)
theorem fx_fill_s {L L' : Nat → Int64} {b n V : Nat} (h : fx_fill L L' b n V) : fx_fill L (vp_updL L' (b + n) (lN (fx_dg 100000000 V n))) b (n + 1) V := ⟨fx_fr_s h.1, fx_pl_s h.2 rfl⟩
theorem fx_c5 {x i : Nat} (hx : x < 14) (hi : i < 5) : (nI x * 5 + nI i).toNatClampNeg = x * 5 + i := by rw [fx_i5]; exact nI_clamp (by omega)
theorem fx_v5 {x i : Nat} (hx : x < 14) (hi : i < 5) : vp_in (nI x * 5 + nI i) 70 := by rw [fx_i5]; exact vp_in_nI (by omega) (by omega)
theorem fx_v14 {x : Nat} (hx : x < 14) : vp_in (nI x) 14 := vp_in_nI hx (by omega)
theorem fx_k14 {x : Nat} (hx : x < 14) : (nI x).toNatClampNeg = x := nI_clamp (by omega)
theorem fx_Bne : ¬ (100000000 : Int64) = 0 := by decide
theorem fx_5 : (5 : Int32) ≤ nI 5 := by decide
theorem fx_n5 {i : Nat} (h : i < 5) : ¬ (5 : Int32) ≤ nI i := nI_ge (b := 5) h (by omega)
theorem fx_l0 {a : Nat} (h : a < 2 ^ 63) : lN a = 0 ↔ a = 0 := pk_lEQ (b := 0) h (by omega)
theorem fx_pow5 : (100000000 : Nat) ^ 5 = fx_T := fx_T5.symm
section
variable {tc dp oc ht : Int32} {L : Nat → Int64} {S o g pt ob rl : Nat → Int32} {pr qu re mu : Nat → Int64}
theorem cx_wi_l {x A : Nat} (hx : x < 14) (hA : A < 2 ^ 63) {post : SX → Prop} (K : ∀ L', fx_fill L L' (x * 5) 5 A → post (tc, dp, oc, ht, L', S, o, g, pt, ob, rl, pr, qu, re, mu)) : ∀ d i, i + d = 5 → ∀ L', fx_fill L L' (x * 5) i A → wX_writeInt_35 post (nI x) tc dp oc ht (d + 1) (lN (A / 100000000 ^ i)) (nI i) L' S o g pt ob rl pr qu re mu := by
  intro d
  induction d with
  | zero =>
    intro i hi L' hf
    have : i = 5 := by omega
    subst this
    exact br_t fx_5 (K L' hf)
  | succ d ih =>
    intro i hi L' hf
    have hA' : A / 100000000 ^ i < 2 ^ 63 := Nat.lt_of_le_of_lt (Nat.div_le_self _ _) hA
    refine br_f (fx_n5 (by omega)) ⟨fx_Bne, fx_v5 hx (by omega), nm_r (e' := vp_updL L' (x * 5 + i) (lN (fx_dg 100000000 A i))) (by rw [fx_c5 hx (by omega), fx_lrem hA']; rfl) ⟨fx_Bne, nm_r (e' := lN (A / 100000000 ^ (i + 1))) (by rw [fx_ldiv hA', Nat.div_div_eq_div_mul, ← Nat.pow_succ]) (nm_r (nI_1 i) (ih (i + 1) (by omega) _ (fx_fill_s hf)))⟩⟩
theorem cx_wi {x : Nat} (hx : x < 14) (v : Int32) {post : SX → Prop} (K : ∀ L' S', fx_fill L L' (x * 5) 5 (fx_ab v) → S' x = fx_sg (fx_ab v) (fx_mn v) → (∀ s, s ≠ x → S' s = S s) → post (tc, dp, oc, ht, L', S', o, g, pt, ob, rl, pr, qu, re, mu)) : wpX_writeInt post (tc, dp, oc, ht, L, S, o, g, pt, ob, rl, pr, qu, re, mu) (nI x) v := by
  have hA : fx_ab v < 2 ^ 63 := by have := fx_ab_lt v; omega
  have h17 : ∀ z : Int32, (v = 0 → z = 0) → (v ≠ 0 → z = 1) → wX_writeInt_17 post (nI x) v v.toInt64 z (nI x) tc dp oc ht L S o g pt ob rl pr qu re mu := by
    intro z z0 z1
    refine ⟨fx_v14 hx, nm_r (e' := upd S x z) (by rw [fx_k14 hx]) ?_⟩
    by_cases h0 : 0 ≤ v
    · have hn : ¬ v < 0 := Int32.not_lt.mpr h0
      refine br_t h0 ⟨6, ?_⟩
      have h := cx_wi_l (tc := tc) (dp := dp) (oc := oc) (ht := ht) (L := L) (S := upd S x z) (o := o) (g := g) (pt := pt) (ob := ob) (rl := rl) (pr := pr) (qu := qu) (re := re) (mu := mu) (post := post) hx hA (fun L' hf => K L' _ hf (by
        rw [pk_us]
        have hm : fx_mn v = 0 := if_neg hn
        rw [hm]
        by_cases e : v = 0
        · rw [z0 e, (fx_ab_0 v).mpr e, fx_sg_0]
        · rw [z1 e, fx_sg_p (fun w => e ((fx_ab_0 v).mp w))]) (fun s hs => pk_un hs)) 5 0 rfl L (fx_fill_0 L _ _)
      rw [Nat.pow_zero, Nat.div_one, ← fx_ab_p hn] at h
      exact h
    · have hn : v < 0 := Int32.not_le.mp h0
      refine br_f h0 (nm_r (fx_ab_n hn) ⟨fx_v14 hx, nm_r (e' := upd (upd S x z) x (-1)) (by rw [fx_k14 hx]) ⟨6, ?_⟩⟩)
      have h := cx_wi_l (tc := tc) (dp := dp) (oc := oc) (ht := ht) (L := L) (S := upd (upd S x z) x (-1)) (o := o) (g := g) (pt := pt) (ob := ob) (rl := rl) (pr := pr) (qu := qu) (re := re) (mu := mu) (post := post) hx hA (fun L' hf => K L' _ hf (by
        rw [pk_us]
        have hm : fx_mn v = 1 := if_pos hn
        have hv : v ≠ 0 := fun e => by rw [e] at hn; exact absurd hn (by decide)
        rw [hm, fx_sg_n (fun w => hv ((fx_ab_0 v).mp w)) (by omega)]) (fun s hs => by rw [pk_un hs, pk_un hs])) 5 0 rfl L (fx_fill_0 L _ _)
      rw [Nat.pow_zero, Nat.div_one] at h
      exact h
  exact br_c (fun e => h17 0 (fun _ => rfl) (fun h => absurd e h)) (fun e => h17 1 (fun h => absurd h e) (fun _ => rfl))
theorem cx_cp_l {a b V : Nat} (ha : a < 14) (hb : b < 14) (hab : a ≠ b) (pa : fx_pl L (a * 5) 5 V) {post : SX → Prop} (K : ∀ L', fx_fill L L' (b * 5) 5 V → post (tc, dp, oc, ht, L', upd S b (S a), o, g, pt, ob, rl, pr, qu, re, mu)) : ∀ d i, i + d = 5 → ∀ L', fx_fill L L' (b * 5) i V → wX_copyNumber_2 post (nI a) (nI b) tc dp oc ht (d + 1) (nI i) L' S o g pt ob rl pr qu re mu := by
  intro d
  induction d with
  | zero =>
    intro i hi L' hf
    have : i = 5 := by omega
    subst this
    exact br_t fx_5 ⟨fx_v14 ha, fx_v14 hb, nm_r (e' := upd S b (S a)) (by rw [fx_k14 ha, fx_k14 hb]) (K L' hf)⟩
  | succ d ih =>
    intro i hi L' hf
    have e : L' (a * 5 + i) = lN (fx_dg 100000000 V i) := by rw [hf.1 _ (by omega)]; exact pa i (by omega)
    exact br_f (fx_n5 (by omega)) ⟨fx_v5 ha (by omega), fx_v5 hb (by omega), nm_r (e' := vp_updL L' (b * 5 + i) (lN (fx_dg 100000000 V i))) (by rw [fx_c5 ha (by omega), fx_c5 hb (by omega), e]) (nm_r (nI_1 i) (ih (i + 1) (by omega) _ (fx_fill_s hf)))⟩
theorem cx_cp {a b V : Nat} (ha : a < 14) (hb : b < 14) (hab : a ≠ b) (pa : fx_pl L (a * 5) 5 V) {post : SX → Prop} (K : ∀ L', fx_fill L L' (b * 5) 5 V → post (tc, dp, oc, ht, L', upd S b (S a), o, g, pt, ob, rl, pr, qu, re, mu)) : wpX_copyNumber post (tc, dp, oc, ht, L, S, o, g, pt, ob, rl, pr, qu, re, mu) (nI a) (nI b) :=
  ⟨6, cx_cp_l ha hb hab pa K 5 0 rfl L (fx_fill_0 L _ _)⟩
theorem fx_m1n {i : Nat} (h : i < 2 ^ 31) : ¬ nI (i + 1) + (-1) < 0 := by rw [pk_m1]; exact nI_pos h
theorem fx_m1z : nI 0 + (-1) < 0 := by decide
theorem cx_cm_l {x y V W : Nat} (hx : x < 14) (hy : y < 14) (pX : fx_pl L (x * 5) 5 V) (pY : fx_pl L (y * 5) 5 W) {post : Int32 → Prop} (K : post (fx_cmp V W)) : ∀ i, i ≤ 5 → V / 100000000 ^ i = W / 100000000 ^ i → wX_compareMagnitudes_2 post (nI x) (nI y) tc dp oc ht L S o g pt ob rl pr qu re mu (i + 1) (nI i + (-1)) := by
  intro i
  induction i with
  | zero =>
    intro _ he
    rw [Nat.pow_zero, Nat.div_one, Nat.div_one] at he
    subst he
    rw [fx_cmp_eq] at K
    exact br_t fx_m1z K
  | succ i ih =>
    intro hi he
    have bV := fx_dgB V i
    have bW := fx_dgB W i
    rw [pk_m1]
    refine br_f (nI_pos (by omega)) ⟨fx_v5 hx (by omega), nm_r (e' := lN (fx_dg 100000000 V i)) (by rw [fx_c5 hx (by omega)]; exact pX i (by omega)) ⟨fx_v5 hy (by omega), nm_r (e' := lN (fx_dg 100000000 W i)) (by rw [fx_c5 hy (by omega)]; exact pY i (by omega)) ?_⟩⟩
    by_cases c : fx_dg 100000000 V i = fx_dg 100000000 W i
    · exact br_t (by rw [c]) (nm_e (ih (by omega) (fx_top_eq he c)))
    · refine br_f (fun z => c ((lN_eq (by omega) (by omega)).mp z)) ?_
      by_cases c2 : fx_dg 100000000 V i < fx_dg 100000000 W i
      · rw [fx_cmp_lt (fx_top_lt he c2)] at K
        exact br_f (fun z => by have := (lN_le (by omega) (by omega)).mp z; omega) K
      · rw [fx_cmp_gt (fx_top_lt he.symm (by omega))] at K
        exact br_t ((lN_le (by omega) (by omega)).mpr (by omega)) K
theorem cx_cm {x y V W : Nat} (hx : x < 14) (hy : y < 14) (pX : fx_pl L (x * 5) 5 V) (pY : fx_pl L (y * 5) 5 W) (hV : V < fx_T) (hW : W < fx_T) {post : Int32 → Prop} (K : post (fx_cmp V W)) : wpX_compareMagnitudes post (tc, dp, oc, ht, L, S, o, g, pt, ob, rl, pr, qu, re, mu) (nI x) (nI y) := by
  refine ⟨6, ?_⟩
  have h := cx_cm_l (tc := tc) (dp := dp) (oc := oc) (ht := ht) (S := S) (o := o) (g := g) (pt := pt) (ob := ob) (rl := rl) (pr := pr) (qu := qu) (re := re) (mu := mu) hx hy pX pY K 5 (Nat.le_refl 5) (by rw [fx_pow5, Nat.div_eq_of_lt hV, Nat.div_eq_of_lt hW])
  rw [pk_m1] at h
  exact h
theorem cx_am_l {x y V W : Nat} (hx : x < 14) (hy : y < 14) (hxy : x ≠ y) (pX : fx_pl L (x * 5) 5 V) (pY : fx_pl L (y * 5) 5 W) (hV : V < fx_T) (hW : W < fx_T) {post : Int32 → SX → Prop} (K : ∀ L', fx_fill L L' (x * 5) 5 (V + W) → post (if V + W < fx_T then 0 else 2) (tc, dp, oc, ht, L', S, o, g, pt, ob, rl, pr, qu, re, mu)) : ∀ d i, i + d = 5 → ∀ L', fx_fill L L' (x * 5) i (V + W) → wX_addMagnitudes_5 post (nI x) (nI y) tc dp oc ht (d + 1) (lN ((V % 100000000 ^ i + W % 100000000 ^ i) / 100000000 ^ i)) (nI i) L' S o g pt ob rl pr qu re mu := by
  intro d
  induction d with
  | zero =>
    intro i hi L' hf
    have : i = 5 := by omega
    subst this
    have K' := K L' hf
    rw [fx_pow5, Nat.mod_eq_of_lt hV, Nat.mod_eq_of_lt hW]
    have hT : 0 < fx_T := by decide
    have hb : (V + W) / fx_T < 2 := by rw [Nat.div_lt_iff_lt_mul hT]; omega
    refine br_t fx_5 ?_
    by_cases c : V + W < fx_T
    · rw [if_pos c] at K'
      exact br_t (by rw [Nat.div_eq_of_lt c]; rfl) K'
    · rw [if_neg c] at K'
      refine br_f (fun z => c ?_) K'
      have := (fx_l0 (by omega)).mp z
      rw [Nat.div_eq_zero_iff] at this
      omega
  | succ d ih =>
    intro i hi L' hf
    have e1 : L' (x * 5 + i) = lN (fx_dg 100000000 V i) := by rw [hf.1 _ (by omega)]; exact pX i (by omega)
    have e2 : L' (y * 5 + i) = lN (fx_dg 100000000 W i) := by rw [hf.1 _ (by omega)]; exact pY i (by omega)
    have b1 := fx_dgB V i
    have b2 := fx_dgB W i
    have b3 : (V % 100000000 ^ i + W % 100000000 ^ i) / 100000000 ^ i < 2 := by
      have hp := fx_pp (B := 100000000) (by omega) i
      have a1 := Nat.mod_lt V hp
      have a2 := Nat.mod_lt W hp
      rw [Nat.div_lt_iff_lt_mul hp]
      omega
    refine br_f (fx_n5 (by omega)) ⟨fx_v5 hx (by omega), fx_v5 hy (by omega), nm_r (e' := lN (fx_dg 100000000 V i + fx_dg 100000000 W i + (V % 100000000 ^ i + W % 100000000 ^ i) / 100000000 ^ i)) (by rw [fx_c5 hx (by omega), fx_c5 hy (by omega), e1, e2, lN_add, lN_add]) ⟨fx_Bne, fx_v5 hx (by omega), nm_r (e' := vp_updL L' (x * 5 + i) (lN (fx_dg 100000000 (V + W) i))) (by rw [fx_c5 hx (by omega), fx_lrem (by omega), fx_add_dg (by omega)]) ⟨fx_Bne, nm_r (e' := lN ((V % 100000000 ^ (i + 1) + W % 100000000 ^ (i + 1)) / 100000000 ^ (i + 1))) (by rw [fx_ldiv (by omega), fx_add_cy (by omega)]) (nm_r (nI_1 i) (ih (i + 1) (by omega) _ (fx_fill_s hf)))⟩⟩⟩
theorem cx_am {x y V W : Nat} (hx : x < 14) (hy : y < 14) (hxy : x ≠ y) (pX : fx_pl L (x * 5) 5 V) (pY : fx_pl L (y * 5) 5 W) (hV : V < fx_T) (hW : W < fx_T) {post : Int32 → SX → Prop} (K : ∀ L', fx_fill L L' (x * 5) 5 (V + W) → post (if V + W < fx_T then 0 else 2) (tc, dp, oc, ht, L', S, o, g, pt, ob, rl, pr, qu, re, mu)) : wpX_addMagnitudes post (tc, dp, oc, ht, L, S, o, g, pt, ob, rl, pr, qu, re, mu) (nI x) (nI y) := by
  refine ⟨6, ?_⟩
  have h := cx_am_l (tc := tc) (dp := dp) (oc := oc) (ht := ht) (S := S) (o := o) (g := g) (pt := pt) (ob := ob) (rl := rl) (pr := pr) (qu := qu) (re := re) (mu := mu) hx hy hxy pX pY hV hW K 5 0 rfl L (fx_fill_0 L _ _)
  rw [Nat.pow_zero, Nat.div_one, Nat.mod_one, Nat.mod_one] at h
  exact h
theorem cx_sm_l {a l r V W : Nat} (ha : a < 14) (hl : l < 14) (hr : r < 14) (pG : fx_pl L (a * 5) 5 V) (pL : fx_pl L (l * 5) 5 W) (h : W ≤ V) {post : SX → Prop} (K : ∀ L', fx_fill L L' (r * 5) 5 (V - W) → post (tc, dp, oc, ht, L', S, o, g, pt, ob, rl, pr, qu, re, mu)) : ∀ d i, i + d = 5 → ∀ L', fx_fill L L' (r * 5) i (V - W) → wX_subtractMagnitudes_6 post (nI a) (nI l) (nI r) tc dp oc ht (d + 1) (lN (fx_bw 100000000 V W i)) (nI i) L' S o g pt ob rl pr qu re mu := by
  intro d
  induction d with
  | zero =>
    intro i hi L' hf
    have : i = 5 := by omega
    subst this
    exact br_t fx_5 (K L' hf)
  | succ d ih =>
    intro i hi L' hf
    have e1 : L' (a * 5 + i) = lN (fx_dg 100000000 V i) := by rw [hf.1 _ (by omega)]; exact pG i (by omega)
    have e2 : L' (l * 5 + i) = lN (fx_dg 100000000 W i) := by rw [hf.1 _ (by omega)]; exact pL i (by omega)
    have b1 := fx_dgB V i
    have b2 := fx_dgB W i
    have b3 := fx_bw_le 100000000 V W i
    have hs := fx_bw_s (B := 100000000) (by omega) V W i
    have hd := fx_sub_d2 (B := 100000000) (by omega) V W i h
    refine br_f (fx_n5 (by omega)) ⟨fx_v5 ha (by omega), fx_v5 hl (by omega), nm_r (e' := lN (fx_dg 100000000 V i) - lN (fx_dg 100000000 W i) - lN (fx_bw 100000000 V W i)) (by rw [fx_c5 ha (by omega), fx_c5 hl (by omega), e1, e2]) ?_⟩
    have hn := fx_dneg (a := fx_dg 100000000 V i) (b := fx_dg 100000000 W i) (c := fx_bw 100000000 V W i) (by omega) (by omega) b3
    have ih' := ih (i + 1) (by omega) _ (fx_fill_s hf)
    by_cases c : fx_dg 100000000 V i < fx_dg 100000000 W i + fx_bw 100000000 V W i
    · rw [if_pos c] at hs hd
      rw [hs, hd] at ih'
      exact br_f (fun z => Int64.not_le.mpr (hn.mpr c) z) ⟨fx_v5 hr (by omega), nm_r (by rw [fx_c5 hr (by omega), fx_dval1 (by omega) b3]) (nm_r (nI_1 i) ih')⟩
    · rw [if_neg c] at hs hd
      rw [hs, hd] at ih'
      exact br_t (Int64.not_lt.mp (fun z => c (hn.mp z))) ⟨fx_v5 hr (by omega), nm_r (by rw [fx_c5 hr (by omega), fx_dval0 c]) (nm_r (nI_1 i) ih')⟩
theorem cx_sm {a l r V W : Nat} (ha : a < 14) (hl : l < 14) (hr : r < 14) (pG : fx_pl L (a * 5) 5 V) (pL : fx_pl L (l * 5) 5 W) (h : W ≤ V) {post : SX → Prop} (K : ∀ L', fx_fill L L' (r * 5) 5 (V - W) → post (tc, dp, oc, ht, L', S, o, g, pt, ob, rl, pr, qu, re, mu)) : wpX_subtractMagnitudes post (tc, dp, oc, ht, L, S, o, g, pt, ob, rl, pr, qu, re, mu) (nI a) (nI l) (nI r) := by
  refine ⟨6, ?_⟩
  have h := cx_sm_l (tc := tc) (dp := dp) (oc := oc) (ht := ht) (S := S) (o := o) (g := g) (pt := pt) (ob := ob) (rl := rl) (pr := pr) (qu := qu) (re := re) (mu := mu) ha hl hr pG pL h K 5 0 rfl L (fx_fill_0 L _ _)
  rw [fx_bw_0] at h
  exact h
end
end
section
/-! the component: addition, writing a number, the long product -/
def fx_pz (A : Nat → Int64) (n V : Nat) : Prop := ∀ i, i < n → A i = lN (fx_dg 100000000 V i)
theorem fx_mnz {V i : Nat} (c : fx_dg 100000000 V i ≠ 0) : V % 100000000 ^ (i + 1) ≠ 0 := by
  rw [fx_ms]
  have h : 0 < 100000000 ^ i * fx_dg 100000000 V i := Nat.mul_pos (fx_pp (by omega) i) (by omega)
  omega
theorem fx_lowdg {B : Nat} (hB : 0 < B) (P0 c : Nat) {i k : Nat} (h : k < i) : fx_dg B (P0 + c * B ^ i) k = fx_dg B P0 k := by
  unfold fx_dg
  obtain ⟨e, rfl⟩ : ∃ e, i = k + 1 + e := ⟨i - (k + 1), by omega⟩
  rw [show c * B ^ (k + 1 + e) = B ^ k * (B * (B ^ e * c)) by rw [Nat.pow_add, Nat.pow_succ]; grind]
  rw [Nat.add_mul_div_left _ _ (fx_pp hB k), Nat.add_mul_mod_self_left]
section
variable {tc dp oc ht : Int32} {L : Nat → Int64} {S o g pt ob rl : Nat → Int32} {pr qu re mu : Nat → Int64}
theorem cx_add {x y V m W k : Nat} (hx : x < 14) (hy : y < 14) (hxy : x ≠ y) (hm : m < 2) (hk : k < 2) (pX : xs_pic L S x V m) (pY : xs_pic L S y W k) (hV : V < fx_T) (hW : W < fx_T) {post : Int32 → SX → Prop} (K : ∀ L' S', fx_fr L L' (x * 5) 5 → (∀ s, s ≠ x → S' s = S s) → (fx_sv V m W k < fx_T → xs_pic L' S' x (fx_sv V m W k) (fx_sm V m W k)) → post (if fx_sv V m W k < fx_T then 0 else 2) (tc, dp, oc, ht, L', S', o, g, pt, ob, rl, pr, qu, re, mu)) : wpX_add post (tc, dp, oc, ht, L, S, o, g, pt, ob, rl, pr, qu, re, mu) (nI x) (nI y) := by
  refine ⟨fx_v14 hx, fx_v14 hy, ?_⟩
  by_cases c : S x = S y
  · refine br_t (by rw [fx_k14 hx, fx_k14 hy]; exact c) (cx_am hx hy hxy pX.1 pY.1 hV hW ?_)
    intro L' hf
    have c' : fx_sg V m = fx_sg W k := by rw [← pX.2, ← pY.2]; exact c
    obtain ⟨e1, e2⟩ := fx_a1 hm hk c'
    have K' := K L' S hf.1 (fun _ _ => rfl) (fun _ => ⟨by rw [e1]; exact hf.2, by rw [e1, e2]; exact pX.2⟩)
    rw [e1] at K'
    exact K'
  · have c' : fx_sg V m ≠ fx_sg W k := by rw [← pX.2, ← pY.2]; exact c
    refine br_f (by rw [fx_k14 hx, fx_k14 hy]; exact c) (cx_cm hx hy pX.1 pY.1 hV hW ?_)
    by_cases q : V < W
    · rw [fx_cmp_lt q]
      refine br_t (by decide) (cx_sm hy hx hx pY.1 pX.1 (by omega) ?_)
      intro L' hf
      obtain ⟨e1, e2⟩ := fx_a3 c' q
      refine ⟨fx_v14 hy, fx_v14 hx, nm_r (e' := upd S x (S y)) (by rw [fx_k14 hx, fx_k14 hy]) (br_f (by decide) ?_)⟩
      have K' := K L' (upd S x (S y)) hf.1 (fun s hs => pk_un hs) (fun _ => ⟨by rw [e1]; exact hf.2, by rw [pk_us, e1, e2]; exact pY.2⟩)
      rw [e1, if_pos (by omega)] at K'
      exact K'
    · obtain ⟨e1, e2⟩ := fx_a2 c' (show W ≤ V by omega)
      have hsub : ∀ r : Int32, (r = 0 ↔ V = W) → ¬ r < 0 → wpX_subtractMagnitudes (fun u => match u with | (tc, dp, oc, ht, L, S, o, g, pt, ob, rl, pr, qu, re, mu) => wX_add_62 post (nI x) r tc dp oc ht L S o g pt ob rl pr qu re mu) (tc, dp, oc, ht, L, S, o, g, pt, ob, rl, pr, qu, re, mu) (nI x) (nI y) (nI x) := by
        intro r hr _
        refine cx_sm hx hy hx pX.1 pY.1 (by omega) ?_
        intro L' hf
        by_cases z : V = W
        · refine br_t (hr.mpr z) ⟨fx_v14 hx, nm_r (e' := upd S x 0) (by rw [fx_k14 hx]) ?_⟩
          have K' := K L' (upd S x 0) hf.1 (fun s hs => pk_un hs) (fun _ => ⟨by rw [e1]; exact hf.2, by rw [pk_us, e1, e2, if_pos z]⟩)
          rw [e1, if_pos (by omega)] at K'
          exact K'
        · refine br_f (fun w => z (hr.mp w)) ?_
          have K' := K L' S hf.1 (fun _ _ => rfl) (fun _ => ⟨by rw [e1]; exact hf.2, by rw [e1, e2, if_neg z]; exact pX.2⟩)
          rw [e1, if_pos (by omega)] at K'
          exact K'
      by_cases z : V = W
      · have e0 : fx_cmp V W = 0 := by rw [z]; exact fx_cmp_eq W
        rw [e0]
        exact br_f (by decide) (hsub 0 ⟨fun _ => z, fun _ => rfl⟩ (by decide))
      · rw [fx_cmp_gt (show W < V by omega)]
        exact br_f (by decide) (hsub 1 ⟨fun w => absurd w (by decide), fun w => absurd w z⟩ (by decide))
theorem cx_wn_product_l {x V : Nat} (hx : x < 14) (hV : V < fx_T) (sg : Int32) (pP : fx_pz pr 5 V) {post : SX → Prop} (K : ∀ L' S', fx_fill L L' (x * 5) 5 V → S' x = (if V = 0 then 0 else sg) → (∀ s, s ≠ x → S' s = S s) → post (tc, dp, oc, ht, L', S', o, g, pt, ob, rl, pr, qu, re, mu)) : ∀ d i, i + d = 5 → ∀ L' S', fx_fill L L' (x * 5) i V → S' x = (if V % 100000000 ^ i = 0 then 0 else sg) → (∀ s, s ≠ x → S' s = S s) → wX_writeNumber__product_10 post (nI x) sg tc dp oc ht (d + 1) (nI i) L' S' o g pt ob rl pr qu re mu := by
  intro d
  induction d with
  | zero =>
    intro i hi L' S' hf hs hfr
    have : i = 5 := by omega
    subst this
    rw [fx_pow5, Nat.mod_eq_of_lt hV] at hs
    exact br_t fx_5 (K L' S' hf hs hfr)
  | succ d ih =>
    intro i hi L' S' hf hs hfr
    have hi5 : i < 5 := by omega
    have e1 : pr (nI i).toNatClampNeg = lN (fx_dg 100000000 V i) := by rw [nI_clamp (by omega)]; exact pP i hi5
    have b1 := fx_dgB V i
    refine br_f (fx_n5 hi5) ⟨vp_in_nI (by omega) (by omega), fx_v5 hx hi5, nm_r (e' := vp_updL L' (x * 5 + i) (lN (fx_dg 100000000 V i))) (by rw [fx_c5 hx hi5, e1]) ⟨vp_in_nI (by omega) (by omega), ?_⟩⟩
    by_cases c : fx_dg 100000000 V i = 0
    · refine br_t (by rw [e1, c]; rfl) (nm_r (nI_1 i) (ih (i + 1) (by omega) _ S' (fx_fill_s hf) ?_ hfr))
      rw [fx_ms, c, Nat.mul_zero, Nat.add_zero]
      exact hs
    · refine br_f (by rw [e1]; exact fun z => c ((fx_l0 (by omega)).mp z)) ⟨fx_v14 hx, nm_r (e' := upd S' x sg) (by rw [fx_k14 hx]) (nm_r (nI_1 i) (ih (i + 1) (by omega) _ _ (fx_fill_s hf) ?_ (fun s h => by rw [pk_un h]; exact hfr s h)))⟩
      rw [pk_us, if_neg (fx_mnz c)]
theorem cx_wn_product {x V : Nat} (hx : x < 14) (hV : V < fx_T) (sg : Int32) (pP : fx_pz pr 5 V) {post : SX → Prop} (K : ∀ L' S', fx_fill L L' (x * 5) 5 V → S' x = (if V = 0 then 0 else sg) → (∀ s, s ≠ x → S' s = S s) → post (tc, dp, oc, ht, L', S', o, g, pt, ob, rl, pr, qu, re, mu)) : wpX_writeNumber__product post (tc, dp, oc, ht, L, S, o, g, pt, ob, rl, pr, qu, re, mu) (nI x) sg := by
  refine ⟨fx_v14 hx, nm_r (e' := upd S x 0) (by rw [fx_k14 hx]) ⟨6, ?_⟩⟩
  exact cx_wn_product_l hx hV sg pP K 5 0 rfl L (upd S x 0) (fx_fill_0 L _ _) (by rw [pk_us, Nat.pow_zero, Nat.mod_one, if_pos rfl]) (fun s h => pk_un h)
theorem cx_wn_quotient_l {x V : Nat} (hx : x < 14) (hV : V < fx_T) (sg : Int32) (pP : fx_pz qu 5 V) {post : SX → Prop} (K : ∀ L' S', fx_fill L L' (x * 5) 5 V → S' x = (if V = 0 then 0 else sg) → (∀ s, s ≠ x → S' s = S s) → post (tc, dp, oc, ht, L', S', o, g, pt, ob, rl, pr, qu, re, mu)) : ∀ d i, i + d = 5 → ∀ L' S', fx_fill L L' (x * 5) i V → S' x = (if V % 100000000 ^ i = 0 then 0 else sg) → (∀ s, s ≠ x → S' s = S s) → wX_writeNumber__quotient_10 post (nI x) sg tc dp oc ht (d + 1) (nI i) L' S' o g pt ob rl pr qu re mu := by
  intro d
  induction d with
  | zero =>
    intro i hi L' S' hf hs hfr
    have : i = 5 := by omega
    subst this
    rw [fx_pow5, Nat.mod_eq_of_lt hV] at hs
    exact br_t fx_5 (K L' S' hf hs hfr)
  | succ d ih =>
    intro i hi L' S' hf hs hfr
    have hi5 : i < 5 := by omega
    have e1 : qu (nI i).toNatClampNeg = lN (fx_dg 100000000 V i) := by rw [nI_clamp (by omega)]; exact pP i hi5
    have b1 := fx_dgB V i
    refine br_f (fx_n5 hi5) ⟨vp_in_nI (by omega) (by omega), fx_v5 hx hi5, nm_r (e' := vp_updL L' (x * 5 + i) (lN (fx_dg 100000000 V i))) (by rw [fx_c5 hx hi5, e1]) ⟨vp_in_nI (by omega) (by omega), ?_⟩⟩
    by_cases c : fx_dg 100000000 V i = 0
    · refine br_t (by rw [e1, c]; rfl) (nm_r (nI_1 i) (ih (i + 1) (by omega) _ S' (fx_fill_s hf) ?_ hfr))
      rw [fx_ms, c, Nat.mul_zero, Nat.add_zero]
      exact hs
    · refine br_f (by rw [e1]; exact fun z => c ((fx_l0 (by omega)).mp z)) ⟨fx_v14 hx, nm_r (e' := upd S' x sg) (by rw [fx_k14 hx]) (nm_r (nI_1 i) (ih (i + 1) (by omega) _ _ (fx_fill_s hf) ?_ (fun s h => by rw [pk_un h]; exact hfr s h)))⟩
      rw [pk_us, if_neg (fx_mnz c)]
theorem cx_wn_quotient {x V : Nat} (hx : x < 14) (hV : V < fx_T) (sg : Int32) (pP : fx_pz qu 5 V) {post : SX → Prop} (K : ∀ L' S', fx_fill L L' (x * 5) 5 V → S' x = (if V = 0 then 0 else sg) → (∀ s, s ≠ x → S' s = S s) → post (tc, dp, oc, ht, L', S', o, g, pt, ob, rl, pr, qu, re, mu)) : wpX_writeNumber__quotient post (tc, dp, oc, ht, L, S, o, g, pt, ob, rl, pr, qu, re, mu) (nI x) sg := by
  refine ⟨fx_v14 hx, nm_r (e' := upd S x 0) (by rw [fx_k14 hx]) ⟨6, ?_⟩⟩
  exact cx_wn_quotient_l hx hV sg pP K 5 0 rfl L (upd S x 0) (fx_fill_0 L _ _) (by rw [pk_us, Nat.pow_zero, Nat.mod_one, if_pos rfl]) (fun s h => pk_un h)
theorem cx_wn_remainder_l {x V : Nat} (hx : x < 14) (hV : V < fx_T) (sg : Int32) (pP : fx_pz re 5 V) {post : SX → Prop} (K : ∀ L' S', fx_fill L L' (x * 5) 5 V → S' x = (if V = 0 then 0 else sg) → (∀ s, s ≠ x → S' s = S s) → post (tc, dp, oc, ht, L', S', o, g, pt, ob, rl, pr, qu, re, mu)) : ∀ d i, i + d = 5 → ∀ L' S', fx_fill L L' (x * 5) i V → S' x = (if V % 100000000 ^ i = 0 then 0 else sg) → (∀ s, s ≠ x → S' s = S s) → wX_writeNumber__remainder_10 post (nI x) sg tc dp oc ht (d + 1) (nI i) L' S' o g pt ob rl pr qu re mu := by
  intro d
  induction d with
  | zero =>
    intro i hi L' S' hf hs hfr
    have : i = 5 := by omega
    subst this
    rw [fx_pow5, Nat.mod_eq_of_lt hV] at hs
    exact br_t fx_5 (K L' S' hf hs hfr)
  | succ d ih =>
    intro i hi L' S' hf hs hfr
    have hi5 : i < 5 := by omega
    have e1 : re (nI i).toNatClampNeg = lN (fx_dg 100000000 V i) := by rw [nI_clamp (by omega)]; exact pP i hi5
    have b1 := fx_dgB V i
    refine br_f (fx_n5 hi5) ⟨vp_in_nI (by omega) (by omega), fx_v5 hx hi5, nm_r (e' := vp_updL L' (x * 5 + i) (lN (fx_dg 100000000 V i))) (by rw [fx_c5 hx hi5, e1]) ⟨vp_in_nI (by omega) (by omega), ?_⟩⟩
    by_cases c : fx_dg 100000000 V i = 0
    · refine br_t (by rw [e1, c]; rfl) (nm_r (nI_1 i) (ih (i + 1) (by omega) _ S' (fx_fill_s hf) ?_ hfr))
      rw [fx_ms, c, Nat.mul_zero, Nat.add_zero]
      exact hs
    · refine br_f (by rw [e1]; exact fun z => c ((fx_l0 (by omega)).mp z)) ⟨fx_v14 hx, nm_r (e' := upd S' x sg) (by rw [fx_k14 hx]) (nm_r (nI_1 i) (ih (i + 1) (by omega) _ _ (fx_fill_s hf) ?_ (fun s h => by rw [pk_un h]; exact hfr s h)))⟩
      rw [pk_us, if_neg (fx_mnz c)]
theorem cx_wn_remainder {x V : Nat} (hx : x < 14) (hV : V < fx_T) (sg : Int32) (pP : fx_pz re 5 V) {post : SX → Prop} (K : ∀ L' S', fx_fill L L' (x * 5) 5 V → S' x = (if V = 0 then 0 else sg) → (∀ s, s ≠ x → S' s = S s) → post (tc, dp, oc, ht, L', S', o, g, pt, ob, rl, pr, qu, re, mu)) : wpX_writeNumber__remainder post (tc, dp, oc, ht, L, S, o, g, pt, ob, rl, pr, qu, re, mu) (nI x) sg := by
  refine ⟨fx_v14 hx, nm_r (e' := upd S x 0) (by rw [fx_k14 hx]) ⟨6, ?_⟩⟩
  exact cx_wn_remainder_l hx hV sg pP K 5 0 rfl L (upd S x 0) (fx_fill_0 L _ _) (by rw [pk_us, Nat.pow_zero, Nat.mod_one, if_pos rfl]) (fun s h => pk_un h)
theorem fx_i2 (i j : Nat) : nI i + nI j = nI (i + j) := nI_add i j
theorem cx_ap_l {y V W i : Nat} (hy : y < 14) (hi : i < 5) (pY : fx_pl L (y * 5) 5 W) (hW : W < fx_T) {post : SX → Prop} (K : ∀ pr', fx_pz pr' 10 (V % 100000000 ^ (i + 1) * W) → post (tc, dp, oc, ht, L, S, o, g, pt, ob, rl, pr', qu, re, mu)) : ∀ d j, j + d = 5 → ∀ pr', (∀ k, k < i + j → pr' k = lN (fx_dg 100000000 (V % 100000000 ^ (i + 1) * W) k)) → (∀ k, i + j ≤ k → k < 10 → pr' k = lN (fx_dg 100000000 (V % 100000000 ^ i * W) k)) → wX_addToProduct_6 post (lN (fx_dg 100000000 V i)) (nI y) (nI i) tc dp oc ht (d + 1) (lN ((V % 100000000 ^ i * W % 100000000 ^ (i + j) + fx_dg 100000000 V i * (W % 100000000 ^ j) * 100000000 ^ i) / 100000000 ^ (i + j))) (nI j) L S o g pt ob rl pr' qu re mu := by
  have hW' : W < 100000000 ^ 5 := by rw [fx_pow5]; exact hW
  intro d
  induction d with
  | zero =>
    intro j hj pr' h1 h2
    have : j = 5 := by omega
    subst this
    rw [fx_row_e (by omega) hW']
    refine br_t fx_5 ⟨by rw [show (5 : Int32) = nI 5 from rfl, nI_add]; exact vp_in_nI (by omega) (by omega), nm_r (e' := vp_updL pr' (i + 5) (lN (fx_dg 100000000 (V % 100000000 ^ (i + 1) * W) (i + 5)))) (by rw [show (5 : Int32) = nI 5 from rfl, nI_add, nI_clamp (by omega)]) (K _ ?_)⟩
    intro k hk
    by_cases e : k = i + 5
    · subst e; rw [pk_uLs]
    · rw [pk_uLn e]
      by_cases c : k < i + 5
      · exact h1 k c
      · rw [h2 k (by omega) hk, fx_dg_hi (by omega) (fx_row_lt (by omega) hW') (by omega), fx_dg_hi (by omega) (fx_row_lt (by omega) hW') (by omega)]
  | succ d ih =>
    intro j hj pr' h1 h2
    have e1 : pr' (i + j) = lN (fx_dg 100000000 (V % 100000000 ^ i * W) (i + j)) := h2 _ (Nat.le_refl _) (by omega)
    have e2 : L (y * 5 + j) = lN (fx_dg 100000000 W j) := pY j (by omega)
    have b1 := fx_dgB (V % 100000000 ^ i * W) (i + j)
    have b2 := fx_dgB W j
    have b3 := fx_dgB V i
    have b4 := fx_row_b (B := 100000000) (by omega) (V % 100000000 ^ i * W) (fx_dg 100000000 V i) W i j
    have b5 : fx_dg 100000000 V i * fx_dg 100000000 W j ≤ 100000000 * 100000000 := Nat.mul_le_mul (by omega) (by omega)
    have ep : (nI i + nI j).toNatClampNeg = i + j := by rw [nI_add]; exact nI_clamp (by omega)
    have vp : vp_in (nI i + nI j) 10 := by rw [nI_add]; exact vp_in_nI (by omega) (by omega)
    refine br_f (fx_n5 (by omega)) ⟨vp, fx_v5 hy (by omega), nm_r (e' := lN (fx_dg 100000000 (V % 100000000 ^ i * W) (i + j) + fx_dg 100000000 V i * fx_dg 100000000 W j + (V % 100000000 ^ i * W % 100000000 ^ (i + j) + fx_dg 100000000 V i * (W % 100000000 ^ j) * 100000000 ^ i) / 100000000 ^ (i + j))) (by rw [ep, fx_c5 hy (by omega), e1, e2, lN_mul, lN_add, lN_add]) ⟨fx_Bne, vp, nm_r (e' := vp_updL pr' (i + j) (lN (fx_dg 100000000 (V % 100000000 ^ (i + 1) * W) (i + j)))) (by rw [ep, fx_lrem (by omega), fx_row_dg (by omega), ← fx_row_p]) ⟨fx_Bne, nm_r (by rw [fx_ldiv (by omega), fx_row_cy (by omega), Nat.add_assoc i j 1]) (nm_r (nI_1 j) (ih (j + 1) (by omega) _ ?_ ?_))⟩⟩⟩
    · intro k hk
      by_cases e : k = i + j
      · subst e; rw [pk_uLs]
      · rw [pk_uLn e]; exact h1 k (by omega)
    · intro k hk hk2
      rw [pk_uLn (by omega)]
      exact h2 k (by omega) hk2
theorem cx_ap {y V W i : Nat} (hy : y < 14) (hi : i < 5) (pY : fx_pl L (y * 5) 5 W) (hW : W < fx_T) (pP : fx_pz pr 10 (V % 100000000 ^ i * W)) {post : SX → Prop} (K : ∀ pr', fx_pz pr' 10 (V % 100000000 ^ (i + 1) * W) → post (tc, dp, oc, ht, L, S, o, g, pt, ob, rl, pr', qu, re, mu)) : wpX_addToProduct post (tc, dp, oc, ht, L, S, o, g, pt, ob, rl, pr, qu, re, mu) (lN (fx_dg 100000000 V i)) (nI y) (nI i) := by
  refine ⟨6, ?_⟩
  have h := cx_ap_l (tc := tc) (dp := dp) (oc := oc) (ht := ht) (S := S) (o := o) (g := g) (pt := pt) (ob := ob) (rl := rl) (qu := qu) (re := re) (mu := mu) hy hi pY hW K 5 0 rfl pr (by
    intro k hk
    rw [fx_row_p, fx_lowdg (by omega) _ _ (show k < i by omega)]
    exact pP k (by omega)) (fun k _ hk => pP k hk)
  have hz : (V % 100000000 ^ i * W % 100000000 ^ (i + 0) + fx_dg 100000000 V i * (W % 100000000 ^ 0) * 100000000 ^ i) / 100000000 ^ (i + 0) = 0 := by
    simp only [Nat.add_zero, Nat.pow_zero, Nat.mod_one, Nat.mul_zero, Nat.zero_mul]
    exact Nat.div_eq_of_lt (Nat.mod_lt _ (fx_pp (by omega) i))
  rw [hz] at h
  exact h
theorem fx_n10 {i : Nat} (h : i < 10) : ¬ (10 : Int32) ≤ nI i := nI_ge (b := 10) h (by omega)
theorem cx_mul_c {x y V W m k : Nat} (hx : x < 14) (hy : y < 14) (hm : m < 2) (hk : k < 2) (sX : S x = fx_sg V m) (sY : S y = fx_sg W k) (pP : fx_pz pr 10 (V * W)) (hVW : V * W < 100000000 ^ 10) {post : Int32 → SX → Prop} (K : ∀ L' S', fx_fr L L' (x * 5) 5 → (∀ s, s ≠ x → S' s = S s) → (V * W < fx_T → xs_pic L' S' x (V * W) (if m = k then 0 else 1)) → post (if V * W < fx_T then 0 else 2) (tc, dp, oc, ht, L', S', o, g, pt, ob, rl, pr, qu, re, mu)) : ∀ d i, i + d = 10 → 5 ≤ i → (∀ j, 5 ≤ j → j < i → fx_dg 100000000 (V * W) j = 0) → wX_multiply_52 post (nI x) (nI y) tc dp oc ht L S o g pt ob rl pr qu re mu (d + 1) (nI i) := by
  intro d
  induction d with
  | zero =>
    intro i hi _ hz
    have : i = 10 := by omega
    subst this
    have hlt : V * W < fx_T := by rw [← fx_pow5]; exact fx_below 10 5 hVW (by omega) hz
    refine br_t (by decide) ⟨fx_v14 hx, fx_v14 hy, cx_wn_product hx hlt _ (fun i hi => pP i (by omega)) ?_⟩
    intro L' S' hf hs hfr
    have K' := K L' S' hf.1 hfr (fun _ => ⟨hf.2, by
      rw [hs, fx_k14 hx, fx_k14 hy, sX, sY]
      by_cases z : V * W = 0
      · rw [if_pos z, z, fx_sg_0]
      · rw [if_neg z]
        exact fx_sg_mul hm hk (fun e => z (by rw [e, Nat.zero_mul])) (fun e => z (by rw [e, Nat.mul_zero])) z⟩)
    rw [if_pos hlt] at K'
    exact K'
  | succ d ih =>
    intro i hi h5 hz
    have e1 : pr (nI i).toNatClampNeg = lN (fx_dg 100000000 (V * W) i) := by rw [nI_clamp (by omega)]; exact pP i (by omega)
    have b1 := fx_dgB (V * W) i
    refine br_f (fx_n10 (by omega)) ⟨vp_in_nI (by omega) (by omega), ?_⟩
    by_cases c : fx_dg 100000000 (V * W) i = 0
    · refine br_t (by rw [e1, c]; rfl) (nm_r (nI_1 i) (ih (i + 1) (by omega) (by omega) ?_))
      intro j h1 h2
      by_cases e : j = i
      · subst e; exact c
      · exact hz j h1 (by omega)
    · refine br_f (by rw [e1]; exact fun z => c ((fx_l0 (by omega)).mp z)) ?_
      have hge : ¬ V * W < fx_T := by
        have h1 := fx_dg_ge c
        have h2 := Nat.pow_le_pow_right (n := 100000000) (by omega) h5
        rw [fx_pow5] at h2
        omega
      have K' := K L S (fun _ _ => rfl) (fun _ _ => rfl) (fun h => absurd h hge)
      rw [if_neg hge] at K'
      exact K'
theorem cx_mul_b {x y V W m k : Nat} (hx : x < 14) (hy : y < 14) (hm : m < 2) (hk : k < 2) (pX : xs_pic L S x V m) (pY : xs_pic L S y W k) (hV : V < fx_T) (hW : W < fx_T) {post : Int32 → SX → Prop} (K : ∀ L' S' pr', fx_fr L L' (x * 5) 5 → (∀ s, s ≠ x → S' s = S s) → (V * W < fx_T → xs_pic L' S' x (V * W) (if m = k then 0 else 1)) → post (if V * W < fx_T then 0 else 2) (tc, dp, oc, ht, L', S', o, g, pt, ob, rl, pr', qu, re, mu)) : ∀ d i, i + d = 5 → ∀ pr', fx_pz pr' 10 (V % 100000000 ^ i * W) → wX_multiply_23 post (nI x) (nI y) (d + 1) (nI i) tc dp oc ht L S o g pt ob rl pr' qu re mu := by
  intro d
  induction d with
  | zero =>
    intro i hi pr' hp
    have : i = 5 := by omega
    subst this
    have hV' := hV
    rw [← fx_pow5] at hV'
    rw [Nat.mod_eq_of_lt hV'] at hp
    have hlt : V * W < 100000000 ^ 10 := by
      rw [show (100000000 : Nat) ^ 10 = 100000000 ^ 5 * 100000000 ^ 5 by rw [← Nat.pow_add], fx_pow5]
      exact fx_lt_mul hV hW
    exact br_t fx_5 ⟨6, cx_mul_c hx hy hm hk pX.2 pY.2 hp hlt (fun L' S' => K L' S' pr') 5 5 rfl (by omega) (fun j h1 h2 => absurd h1 (by omega))⟩
  | succ d ih =>
    intro i hi pr' hp
    have e1 : L (nI x * 5 + nI i).toNatClampNeg = lN (fx_dg 100000000 V i) := by rw [fx_c5 hx (by omega)]; exact pX.1 i (by omega)
    refine br_f (fx_n5 (by omega)) ⟨fx_v5 hx (by omega), ?_⟩
    rw [e1]
    refine cx_ap hy (by omega) pY.1 hW hp ?_
    intro pr2 hp2
    exact nm_r (nI_1 i) (ih (i + 1) (by omega) pr2 hp2)
theorem cx_mul_a {x y V W m k : Nat} (hx : x < 14) (hy : y < 14) (hm : m < 2) (hk : k < 2) (pX : xs_pic L S x V m) (pY : xs_pic L S y W k) (hV : V < fx_T) (hW : W < fx_T) {post : Int32 → SX → Prop} (K : ∀ L' S' pr', fx_fr L L' (x * 5) 5 → (∀ s, s ≠ x → S' s = S s) → (V * W < fx_T → xs_pic L' S' x (V * W) (if m = k then 0 else 1)) → post (if V * W < fx_T then 0 else 2) (tc, dp, oc, ht, L', S', o, g, pt, ob, rl, pr', qu, re, mu)) : ∀ d i, i + d = 10 → ∀ pr', (∀ j, j < i → pr' j = 0) → wX_multiply_2 post (nI x) (nI y) tc dp oc ht (d + 1) (nI i) L S o g pt ob rl pr' qu re mu := by
  intro d
  induction d with
  | zero =>
    intro i hi pr' hp
    have : i = 10 := by omega
    subst this
    refine br_t (by decide) ⟨6, cx_mul_b hx hy hm hk pX pY hV hW K 5 0 rfl pr' ?_⟩
    intro j hj
    rw [hp j hj, Nat.pow_zero, Nat.mod_one, Nat.zero_mul, fx_dg_0]
    rfl
  | succ d ih =>
    intro i hi pr' hp
    refine br_f (fx_n10 (by omega)) ⟨vp_in_nI (by omega) (by omega), nm_r (e' := vp_updL pr' i 0) (by rw [nI_clamp (by omega)]) (nm_r (nI_1 i) (ih (i + 1) (by omega) _ ?_))⟩
    intro j hj
    by_cases e : j = i
    · subst e; exact pk_uLs
    · rw [pk_uLn e]; exact hp j (by omega)
theorem cx_mul {x y V W m k : Nat} (hx : x < 14) (hy : y < 14) (hm : m < 2) (hk : k < 2) (pX : xs_pic L S x V m) (pY : xs_pic L S y W k) (hV : V < fx_T) (hW : W < fx_T) {post : Int32 → SX → Prop} (K : ∀ L' S' pr', fx_fr L L' (x * 5) 5 → (∀ s, s ≠ x → S' s = S s) → (V * W < fx_T → xs_pic L' S' x (V * W) (if m = k then 0 else 1)) → post (if V * W < fx_T then 0 else 2) (tc, dp, oc, ht, L', S', o, g, pt, ob, rl, pr', qu, re, mu)) : wpX_multiply post (tc, dp, oc, ht, L, S, o, g, pt, ob, rl, pr, qu, re, mu) (nI x) (nI y) :=
  ⟨11, cx_mul_a hx hy hm hk pX pY hV hW K 10 0 rfl pr (fun j hj => absurd hj (by omega))⟩
end
end
section
/-! the component: long division -/
theorem fx_T0 : 0 < fx_T := by decide
section
variable {tc dp oc ht : Int32} {L : Nat → Int64} {S o g pt ob rl : Nat → Int32} {pr qu re mu : Nat → Int64}
theorem cx_bd_l {R a : Nat} (ha : a < 100000000) {post : SX → Prop} (K : ∀ re', fx_pz re' 6 (R * 100000000 + a) → post (tc, dp, oc, ht, L, S, o, g, pt, ob, rl, pr, qu, re', mu)) : ∀ i, i ≤ 5 → ∀ re', (∀ k, k ≤ i → re' k = lN (fx_dg 100000000 R k)) → (∀ k, i < k → k < 6 → re' k = lN (fx_dg 100000000 (R * 100000000 + a) k)) → wX_bringDown_2 post (lN a) tc dp oc ht (i + 1) (nI i) L S o g pt ob rl pr qu re' mu := by
  intro i
  induction i with
  | zero =>
    intro _ re' h1 h2
    refine br_t (by decide) (nm_e (K _ ?_))
    intro k hk
    by_cases e : k = 0
    · subst e; rw [pk_uLs, fx_shift_0 _ _ ha]
    · rw [pk_uLn e]; exact h2 k (by omega) hk
  | succ i ih =>
    intro hi re' h1 h2
    have e1 : (nI (i + 1) - 1).toNatClampNeg = i := by rw [nI_pred]; exact nI_clamp (by omega)
    refine br_f (nI_nle (by omega) (by omega)) ⟨by rw [nI_pred]; exact vp_in_nI (by omega) (by omega), vp_in_nI (by omega) (by omega), nm_r (e' := vp_updL re' (i + 1) (lN (fx_dg 100000000 R i))) (by rw [e1, nI_clamp (by omega), h1 i (by omega)]) (nm_r (pk_m1 i) (ih (by omega) _ ?_ ?_))⟩
    · intro k hk
      rw [pk_uLn (by omega)]; exact h1 k (by omega)
    · intro k hk hk2
      by_cases e : k = i + 1
      · subst e; rw [pk_uLs, fx_shift_s _ _ _ ha]
      · rw [pk_uLn e]; exact h2 k (by omega) hk2
theorem cx_bd {R a : Nat} (ha : a < 100000000) (pR : fx_pz re 6 R) {post : SX → Prop} (K : ∀ re', fx_pz re' 6 (R * 100000000 + a) → post (tc, dp, oc, ht, L, S, o, g, pt, ob, rl, pr, qu, re', mu)) : wpX_bringDown post (tc, dp, oc, ht, L, S, o, g, pt, ob, rl, pr, qu, re, mu) (lN a) :=
  ⟨6, cx_bd_l ha K 5 (Nat.le_refl 5) re (fun k hk => pR k (by omega)) (fun k h1 h2 => absurd h1 (by omega))⟩
theorem cx_mm_l {y W t : Nat} (hy : y < 14) (pY : fx_pl L (y * 5) 5 W) (hW : W < fx_T) (ht' : t < 100000000) {post : SX → Prop} (K : ∀ mu', fx_pz mu' 6 (W * t) → post (tc, dp, oc, ht, L, S, o, g, pt, ob, rl, pr, qu, re, mu')) : ∀ d i, i + d = 5 → ∀ mu', fx_pz mu' i (W * t) → wX_makeMultiple_6 post (nI y) (lN t) tc dp oc ht (d + 1) (lN (W % 100000000 ^ i * t / 100000000 ^ i)) (nI i) L S o g pt ob rl pr qu re mu' := by
  have hW' : W < 100000000 ^ 5 := by rw [fx_pow5]; exact hW
  intro d
  induction d with
  | zero =>
    intro i hi mu' hp
    have : i = 5 := by omega
    subst this
    rw [fx_mul_e (by omega) hW' ht']
    refine br_t fx_5 (nm_e (K _ ?_))
    intro k hk
    by_cases e : k = 5
    · subst e; rw [pk_uLs]
    · rw [pk_uLn e]; exact hp k (by omega)
  | succ d ih =>
    intro i hi mu' hp
    have e2 : L (y * 5 + i) = lN (fx_dg 100000000 W i) := pY i (by omega)
    have b2 := fx_dgB W i
    have b4 := fx_mul_b (B := 100000000) (by omega) W t i
    have b5 : fx_dg 100000000 W i * t ≤ 100000000 * 100000000 := Nat.mul_le_mul (by omega) (by omega)
    refine br_f (fx_n5 (by omega)) ⟨fx_v5 hy (by omega), nm_r (e' := lN (fx_dg 100000000 W i * t + W % 100000000 ^ i * t / 100000000 ^ i)) (by rw [fx_c5 hy (by omega), e2, lN_mul, lN_add]) ⟨fx_Bne, vp_in_nI (by omega) (by omega), nm_r (e' := vp_updL mu' i (lN (fx_dg 100000000 (W * t) i))) (by rw [nI_clamp (by omega), fx_lrem (by omega), fx_mul_dg (by omega)]) ⟨fx_Bne, nm_r (e' := lN (W % 100000000 ^ (i + 1) * t / 100000000 ^ (i + 1))) (by rw [fx_ldiv (by omega), fx_mul_cy (by omega)]) (nm_r (nI_1 i) (ih (i + 1) (by omega) _ ?_))⟩⟩⟩
    intro k hk
    by_cases e : k = i
    · subst e; rw [pk_uLs]
    · rw [pk_uLn e]; exact hp k (by omega)
theorem cx_mm {y W t : Nat} (hy : y < 14) (pY : fx_pl L (y * 5) 5 W) (hW : W < fx_T) (ht' : t < 100000000) {post : SX → Prop} (K : ∀ mu', fx_pz mu' 6 (W * t) → post (tc, dp, oc, ht, L, S, o, g, pt, ob, rl, pr, qu, re, mu')) : wpX_makeMultiple post (tc, dp, oc, ht, L, S, o, g, pt, ob, rl, pr, qu, re, mu) (nI y) (lN t) := by
  refine ⟨6, ?_⟩
  have h := cx_mm_l (tc := tc) (dp := dp) (oc := oc) (ht := ht) (S := S) (o := o) (g := g) (pt := pt) (ob := ob) (rl := rl) (pr := pr) (qu := qu) (re := re) hy pY hW ht' K 5 0 rfl mu (fun k hk => absurd hk (by omega))
  have hz : W % 100000000 ^ 0 * t / 100000000 ^ 0 = 0 := by
    simp only [Nat.pow_zero, Nat.mod_one, Nat.zero_mul, Nat.zero_div]
  rw [hz] at h
  exact h
theorem cx_gi_l {M R : Nat} (pM : fx_pz mu 6 M) (pR : fx_pz re 6 R) {post : Int32 → Prop} (K : post (if M ≤ R then 1 else 0)) : ∀ i, i ≤ 6 → M / 100000000 ^ i = R / 100000000 ^ i → wX_multipleGoesIn_2 post tc dp oc ht L S o g pt ob rl pr qu re mu (i + 1) (nI i + (-1)) := by
  intro i
  induction i with
  | zero =>
    intro _ he
    rw [Nat.pow_zero, Nat.div_one, Nat.div_one] at he
    subst he
    rw [if_pos (Nat.le_refl _)] at K
    exact br_t fx_m1z K
  | succ i ih =>
    intro hi he
    have b1 := fx_dgB M i
    have b2 := fx_dgB R i
    have e1 : mu (nI i).toNatClampNeg = lN (fx_dg 100000000 M i) := by rw [nI_clamp (by omega)]; exact pM i (by omega)
    have e2 : re (nI i).toNatClampNeg = lN (fx_dg 100000000 R i) := by rw [nI_clamp (by omega)]; exact pR i (by omega)
    have v6 : vp_in (nI i) 6 := vp_in_nI (by omega) (by omega)
    rw [pk_m1]
    refine br_f (nI_pos (by omega)) ⟨v6, v6, ?_⟩
    by_cases c : fx_dg 100000000 M i = fx_dg 100000000 R i
    · exact br_t (by rw [e1, e2, c]) (nm_e (ih (by omega) (fx_top_eq he c)))
    · refine br_f (by rw [e1, e2]; exact fun z => c ((lN_eq (by omega) (by omega)).mp z)) ⟨v6, v6, ?_⟩
      by_cases c2 : fx_dg 100000000 M i < fx_dg 100000000 R i
      · have := fx_top_lt he c2
        rw [if_pos (by omega)] at K
        exact br_f (by rw [e1, e2]; exact fun z => by have := (lN_le (by omega) (by omega)).mp z; omega) K
      · have := fx_top_lt he.symm (show fx_dg 100000000 R i < fx_dg 100000000 M i by omega)
        rw [if_neg (by omega)] at K
        exact br_t (by rw [e1, e2]; exact (lN_le (by omega) (by omega)).mpr (by omega)) K
theorem cx_gi {M R : Nat} (pM : fx_pz mu 6 M) (pR : fx_pz re 6 R) (hM : M < 100000000 ^ 6) (hR : R < 100000000 ^ 6) {post : Int32 → Prop} (K : post (if M ≤ R then 1 else 0)) : wpX_multipleGoesIn post (tc, dp, oc, ht, L, S, o, g, pt, ob, rl, pr, qu, re, mu) := by
  refine ⟨7, ?_⟩
  have h := cx_gi_l (tc := tc) (dp := dp) (oc := oc) (ht := ht) (L := L) (S := S) (o := o) (g := g) (pt := pt) (ob := ob) (rl := rl) (pr := pr) (qu := qu) pM pR K 6 (Nat.le_refl 6) (by rw [Nat.div_eq_of_lt hM, Nat.div_eq_of_lt hR])
  rw [pk_m1] at h
  exact h
theorem cx_to_l {M R : Nat} (pM : fx_pz mu 6 M) (h : M ≤ R) {post : SX → Prop} (K : ∀ re', fx_pz re' 6 (R - M) → post (tc, dp, oc, ht, L, S, o, g, pt, ob, rl, pr, qu, re', mu)) : ∀ d i, i + d = 6 → ∀ re', (∀ k, k < i → re' k = lN (fx_dg 100000000 (R - M) k)) → (∀ k, i ≤ k → k < 6 → re' k = lN (fx_dg 100000000 R k)) → wX_takeOutMultiple_4 post tc dp oc ht (d + 1) (lN (fx_bw 100000000 R M i)) (nI i) L S o g pt ob rl pr qu re' mu := by
  intro d
  induction d with
  | zero =>
    intro i hi re' h1 h2
    have : i = 6 := by omega
    subst this
    exact br_t (by decide) (K re' h1)
  | succ d ih =>
    intro i hi re' h1 h2
    have b1 := fx_dgB R i
    have b2 := fx_dgB M i
    have b3 := fx_bw_le 100000000 R M i
    have hs := fx_bw_s (B := 100000000) (by omega) R M i
    have hd := fx_sub_d2 (B := 100000000) (by omega) R M i h
    have v6 : vp_in (nI i) 6 := vp_in_nI (by omega) (by omega)
    have ec : (nI i).toNatClampNeg = i := nI_clamp (by omega)
    refine br_f (nI_ge (b := 6) (by omega) (by omega)) ⟨v6, v6, nm_r (e' := lN (fx_dg 100000000 R i) - lN (fx_dg 100000000 M i) - lN (fx_bw 100000000 R M i)) (by rw [ec, h2 i (by omega) (by omega), pM i (by omega)]) ?_⟩
    have hn := fx_dneg (a := fx_dg 100000000 R i) (b := fx_dg 100000000 M i) (c := fx_bw 100000000 R M i) (by omega) (by omega) b3
    have ih' := ih (i + 1) (by omega) (vp_updL re' i (lN (fx_dg 100000000 (R - M) i))) (by
      intro k hk
      by_cases e : k = i
      · subst e; rw [pk_uLs]
      · rw [pk_uLn e]; exact h1 k (by omega)) (by
      intro k hk hk2
      rw [pk_uLn (by omega)]; exact h2 k (by omega) hk2)
    by_cases c : fx_dg 100000000 R i < fx_dg 100000000 M i + fx_bw 100000000 R M i
    · rw [if_pos c] at hs hd
      rw [hs, hd] at ih'
      exact br_f (fun z => Int64.not_le.mpr (hn.mpr c) z) ⟨v6, nm_r (by rw [ec, fx_dval1 (by omega) b3]) (nm_r (nI_1 i) ih')⟩
    · rw [if_neg c] at hs hd
      rw [hs, hd] at ih'
      exact br_t (Int64.not_lt.mp (fun z => c (hn.mp z))) ⟨v6, nm_r (by rw [ec, fx_dval0 c]) (nm_r (nI_1 i) ih')⟩
theorem cx_to {M R : Nat} (pM : fx_pz mu 6 M) (pR : fx_pz re 6 R) (h : M ≤ R) {post : SX → Prop} (K : ∀ re', fx_pz re' 6 (R - M) → post (tc, dp, oc, ht, L, S, o, g, pt, ob, rl, pr, qu, re', mu)) : wpX_takeOutMultiple post (tc, dp, oc, ht, L, S, o, g, pt, ob, rl, pr, qu, re, mu) := by
  refine ⟨7, ?_⟩
  have h := cx_to_l (tc := tc) (dp := dp) (oc := oc) (ht := ht) (L := L) (S := S) (o := o) (g := g) (pt := pt) (ob := ob) (rl := rl) (pr := pr) (qu := qu) pM h K 6 0 rfl re (fun k hk => absurd hk (by omega)) (fun k _ hk => pR k hk)
  rw [fx_bw_0] at h
  exact h
theorem cx_ts_l {y W R : Nat} (hy : y < 14) (pY : fx_pl L (y * 5) 5 W) (hW : W < fx_T) (hR : R < 100000000 * W) {post : Int64 → SX → Prop} (K : ∀ re' mu', fx_pz re' 6 (R % W) → post (lN (R / W)) (tc, dp, oc, ht, L, S, o, g, pt, ob, rl, pr, qu, re', mu')) : ∀ b, b ≤ 27 → ∀ r t re' mu', R = r + W * t → r < W * 2 ^ b → fx_pz re' 6 r → wX_takeOutMultiples_6 post (nI y) (b + 1) (lN t) (nI b + (-1)) tc dp oc ht L S o g pt ob rl pr qu re' mu' := by
  have h6 : 100000000 * W < 100000000 ^ 6 := by
    have : (100000000 : Nat) ^ 6 = 100000000 * fx_T := by decide
    omega
  intro b
  induction b with
  | zero =>
    intro _ r t re' mu' e1 e2 hp
    rw [Nat.pow_zero, Nat.mul_one] at e2
    obtain ⟨q1, q2⟩ := fx_dm e1 e2
    rw [q2] at hp
    rw [q1]
    exact br_t fx_m1z (K re' mu' hp)
  | succ b ih =>
    intro hb r t re' mu' e1 e2 hp
    have hb26 : b ≤ 26 := by omega
    have h2b : 2 ^ b ≤ 2 ^ 26 := Nat.pow_le_pow_right (by omega) hb26
    have hM : W * 2 ^ b < 100000000 ^ 6 := by
      have h3 : W * 2 ^ b ≤ W * 2 ^ 26 := Nat.mul_le_mul_left W h2b
      omega
    rw [pk_m1]
    refine br_f (nI_pos (by omega)) (nm_r (e' := lN (2 ^ b)) (by rw [show (1 : Int64) = lN 1 from rfl, wb_shl 1 (by omega), Nat.one_mul]) ?_)
    refine cx_mm hy pY hW (by omega) ?_
    intro mu2 hmu
    refine cx_gi hmu hp hM (by omega) ?_
    rw [Nat.pow_succ, ← Nat.mul_assoc] at e2
    by_cases c : W * 2 ^ b ≤ r
    · rw [if_pos c]
      refine br_f (by decide) (cx_to hmu hp c ?_)
      intro re2 hre
      refine nm_r (lN_add _ _) (nm_e (ih (by omega) (r - W * 2 ^ b) (t + 2 ^ b) re2 mu2 ?_ (by omega) hre))
      rw [Nat.mul_add]
      omega
    · rw [if_neg c]
      exact br_t rfl (nm_e (ih (by omega) r t re' mu2 e1 (by omega) hp))
theorem cx_ts {y W R : Nat} (hy : y < 14) (pY : fx_pl L (y * 5) 5 W) (hW : W < fx_T) (hR : R < 100000000 * W) (pR : fx_pz re 6 R) {post : Int64 → SX → Prop} (K : ∀ re' mu', fx_pz re' 6 (R % W) → post (lN (R / W)) (tc, dp, oc, ht, L, S, o, g, pt, ob, rl, pr, qu, re', mu')) : wpX_takeOutMultiples post (tc, dp, oc, ht, L, S, o, g, pt, ob, rl, pr, qu, re, mu) (nI y) := by
  refine ⟨28, ?_⟩
  have h := cx_ts_l (tc := tc) (dp := dp) (oc := oc) (ht := ht) (S := S) (o := o) (g := g) (pt := pt) (ob := ob) (rl := rl) (pr := pr) (qu := qu) hy pY hW hR K 27 (Nat.le_refl 27) R 0 re mu (by omega) (by omega) pR
  rw [pk_m1] at h
  exact h
theorem cx_div_b {x y V m W k : Nat} {op : Int32} (hx : x < 14) (hy : y < 14) (hm : m < 2) (hk : k < 2) (pX : xs_pic L S x V m) (pY : xs_pic L S y W k) (hV : V < fx_T) (hW : W < fx_T) (hW0 : W ≠ 0) {post : Int32 → SX → Prop} (K : ∀ L' S' qu' re' mu', fx_fr L L' (x * 5) 5 → (∀ s, s ≠ x → S' s = S s) → xs_pic L' S' x (if op = 6 then V / W else V % W) (if op = 6 then (if m = k then 0 else 1) else m) → post 0 (tc, dp, oc, ht, L', S', o, g, pt, ob, rl, pr, qu', re', mu')) : ∀ i, i ≤ 5 → ∀ qu' re' mu', fx_pz re' 6 (V / 100000000 ^ i % W) → (∀ j, i ≤ j → j < 5 → qu' j = lN (fx_dg 100000000 (V / W) j)) → wX_divide_38 post op (nI x) (nI y) (i + 1) (nI i + (-1)) tc dp oc ht L S o g pt ob rl pr qu' re' mu' := by
  intro i
  induction i with
  | zero =>
    intro _ qu' re' mu' hr hq
    rw [Nat.pow_zero, Nat.div_one] at hr
    have hWp : 0 < W := by omega
    refine br_t fx_m1z ?_
    by_cases c : op = 6
    · rw [if_pos c, if_pos c] at K
      have hlt : V / W < fx_T := Nat.lt_of_le_of_lt (Nat.div_le_self V W) hV
      refine br_t c ⟨fx_v14 hx, fx_v14 hy, cx_wn_quotient hx hlt _ (fun j hj => hq j (by omega) hj) ?_⟩
      intro L' S' hf hs hfr
      refine K L' S' qu' re' mu' hf.1 hfr ⟨hf.2, ?_⟩
      rw [hs, fx_k14 hx, fx_k14 hy, pX.2, pY.2]
      by_cases z : V / W = 0
      · rw [if_pos z, z, fx_sg_0]
      · rw [if_neg z]
        exact fx_sg_mul hm hk (fun e => z (by rw [e, Nat.zero_div])) hW0 z
    · rw [if_neg c, if_neg c] at K
      have hlt : V % W < fx_T := Nat.lt_trans (Nat.mod_lt V hWp) hW
      refine br_f c ⟨fx_v14 hx, cx_wn_remainder hx hlt _ (fun j hj => hr j (by omega)) ?_⟩
      intro L' S' hf hs hfr
      refine K L' S' qu' re' mu' hf.1 hfr ⟨hf.2, ?_⟩
      rw [hs, fx_k14 hx, pX.2]
      by_cases z : V % W = 0
      · rw [if_pos z, z, fx_sg_0]
      · rw [if_neg z]
        exact fx_sg_nz (fun e => z (by rw [e, Nat.zero_mod])) z m
  | succ i ih =>
    intro hi qu' re' mu' hr hq
    have hWp : 0 < W := by omega
    obtain ⟨s1, s2, s3⟩ := fx_div_step (B := 100000000) (by omega) V W i hWp
    have e1 : L (nI x * 5 + nI i).toNatClampNeg = lN (fx_dg 100000000 V i) := by rw [fx_c5 hx (by omega)]; exact pX.1 i (by omega)
    rw [pk_m1]
    refine br_f (nI_pos (by omega)) ⟨fx_v5 hx (by omega), ?_⟩
    rw [e1]
    refine cx_bd (fx_dgB V i) hr ?_
    intro re2 hr2
    refine cx_ts hy pY.1 hW s3 hr2 ?_
    intro re3 mu3 hr3
    rw [s1]
    rw [s2] at hr3
    refine ⟨vp_in_nI (by omega) (by omega), nm_r (e' := vp_updL qu' i (lN (fx_dg 100000000 (V / W) i))) (by rw [nI_clamp (by omega)]) (nm_e (ih (by omega) _ re3 mu3 hr3 ?_))⟩
    intro j h1 h2
    by_cases e : j = i
    · subst e; rw [pk_uLs]
    · rw [pk_uLn e]; exact hq j (by omega) h2
theorem cx_div_a {x y V m W k : Nat} {op : Int32} (hx : x < 14) (hy : y < 14) (hm : m < 2) (hk : k < 2) (pX : xs_pic L S x V m) (pY : xs_pic L S y W k) (hV : V < fx_T) (hW : W < fx_T) (hW0 : W ≠ 0) {post : Int32 → SX → Prop} (K : ∀ L' S' qu' re' mu', fx_fr L L' (x * 5) 5 → (∀ s, s ≠ x → S' s = S s) → xs_pic L' S' x (if op = 6 then V / W else V % W) (if op = 6 then (if m = k then 0 else 1) else m) → post 0 (tc, dp, oc, ht, L', S', o, g, pt, ob, rl, pr, qu', re', mu')) : ∀ d i, i + d = 6 → ∀ re', (∀ j, j < i → re' j = 0) → wX_divide_14 post op (nI x) (nI y) tc dp oc ht (d + 1) (nI i) L S o g pt ob rl pr qu re' mu := by
  intro d
  induction d with
  | zero =>
    intro i hi re' hp
    have : i = 6 := by omega
    subst this
    refine br_t (by decide) ⟨6, ?_⟩
    have h := cx_div_b (tc := tc) (dp := dp) (oc := oc) (ht := ht) (o := o) (g := g) (pt := pt) (ob := ob) (rl := rl) (pr := pr) hx hy hm hk pX pY hV hW hW0 K 5 (Nat.le_refl 5) qu re' mu (by
      intro j hj
      rw [hp j hj, fx_pow5, Nat.div_eq_of_lt hV, Nat.zero_mod, fx_dg_0]
      rfl) (fun j h1 h2 => absurd h1 (by omega))
    rw [pk_m1] at h
    exact h
  | succ d ih =>
    intro i hi re' hp
    refine br_f (nI_ge (b := 6) (by omega) (by omega)) ⟨vp_in_nI (by omega) (by omega), nm_r (e' := vp_updL re' i 0) (by rw [nI_clamp (by omega)]) (nm_r (nI_1 i) (ih (i + 1) (by omega) _ ?_))⟩
    intro j hj
    by_cases e : j = i
    · subst e; exact pk_uLs
    · rw [pk_uLn e]; exact hp j (by omega)
theorem cx_div {x y V m W k : Nat} {op : Int32} (hx : x < 14) (hy : y < 14) (hm : m < 2) (hk : k < 2) (pX : xs_pic L S x V m) (pY : xs_pic L S y W k) (hV : V < fx_T) (hW : W < fx_T) {post : Int32 → SX → Prop} (K0 : W = 0 → post 1 (tc, dp, oc, ht, L, S, o, g, pt, ob, rl, pr, qu, re, mu)) (K : W ≠ 0 → ∀ L' S' qu' re' mu', fx_fr L L' (x * 5) 5 → (∀ s, s ≠ x → S' s = S s) → xs_pic L' S' x (if op = 6 then V / W else V % W) (if op = 6 then (if m = k then 0 else 1) else m) → post 0 (tc, dp, oc, ht, L', S', o, g, pt, ob, rl, pr, qu', re', mu')) : wpX_divide post (tc, dp, oc, ht, L, S, o, g, pt, ob, rl, pr, qu, re, mu) op (nI x) (nI y) := by
  refine ⟨fx_v14 hy, ?_⟩
  by_cases z : W = 0
  · refine br_t (by rw [fx_k14 hy, pY.2, z, fx_sg_0]) (K0 z)
  · exact br_f (by rw [fx_k14 hy, pY.2]; exact fx_sg_ne W z k) ⟨7, cx_div_a hx hy hm hk pX pY hV hW z (K z) 6 0 rfl re (fun j hj => absurd hj (by omega))⟩
theorem cx_cn {x y V m W k : Nat} (hx : x < 14) (hy : y < 14) (pX : xs_pic L S x V m) (pY : xs_pic L S y W k) (hV : V < fx_T) (hW : W < fx_T) {post : Int32 → Prop} (K : post (fx_ord V m W k)) : wpX_compareNumbers post (tc, dp, oc, ht, L, S, o, g, pt, ob, rl, pr, qu, re, mu) (nI x) (nI y) := by
  refine ⟨fx_v14 hx, fx_v14 hy, ?_⟩
  unfold fx_ord at K
  rw [fx_k14 hx, fx_k14 hy, pX.2, pY.2]
  by_cases c : fx_sg V m = fx_sg W k
  · rw [if_pos c] at K
    exact br_t c (cx_cm hx hy pX.1 pY.1 hV hW ⟨fx_v14 hx, K⟩)
  · rw [if_neg c] at K
    refine br_f c ⟨fx_v14 hx, fx_v14 hy, ?_⟩
    by_cases c2 : fx_sg V m < fx_sg W k
    · rw [if_pos c2] at K
      exact br_f (Int32.not_le.mpr c2) K
    · rw [if_neg c2] at K
      exact br_t (Int32.not_lt.mp c2) K
end
end
section
/-! the component: one calculation, one token, the run -/
theorem fx_rc_n {op V m W k : Nat} (h : ¬ ((op = 6 ∨ op = 7) ∧ W = 0)) : fx_rc op V m W k = if fx_rv op V m W k < fx_T then 0 else 2 := by
  unfold fx_rc
  rw [if_neg h]
  by_cases c : fx_T ≤ fx_rv op V m W k
  · rw [if_pos c, if_neg (by omega)]
  · rw [if_neg c, if_pos (by omega)]
theorem fx_rc_z {op V m W k : Nat} (h : (op = 6 ∨ op = 7) ∧ W = 0) : fx_rc op V m W k = 1 := if_pos h
section
variable {tc dp oc ht : Int32} {L : Nat → Int64} {S o g pt ob rl : Nat → Int32} {pr qu re mu : Nat → Int64}
theorem cx_calc {x y V m W k op : Nat} (h3 : 3 ≤ op) (h8 : op ≤ 8) (hx : x < 14) (hy : y < 14) (hxy : x ≠ y) (hm : m < 2) (hk : k < 2) (pX : xs_pic L S x V m) (pY : xs_pic L S y W k) (hV : V < fx_T) (hW : W < fx_T) {post : Int32 → SX → Prop} (K : ∀ L' S' pr' qu' re' mu', fx_fr L L' (x * 5) 5 → (∀ s, s ≠ x → s ≠ y → S' s = S s) → (fx_rc op V m W k = 0 → xs_pic L' S' x (fx_rv op V m W k) (fx_rm op V m W k)) → post (fx_rc op V m W k) (tc, dp, oc, ht, L', S', o, g, pt, ob, rl, pr', qu', re', mu')) : wpX_calculate post (tc, dp, oc, ht, L, S, o, g, pt, ob, rl, pr, qu, re, mu) (nI op) (nI x) (nI y) := by
  have hop : op = 3 ∨ op = 4 ∨ op = 5 ∨ op = 6 ∨ op = 7 ∨ op = 8 := by omega
  rcases hop with rfl | rfl | rfl | rfl | rfl | rfl
  · refine br_f (by decide) (br_f (by decide) (br_t (by decide) (cx_add hx hy hxy hm hk pX pY hV hW ?_)))
    intro L' S' hf hs hp
    have K' := K L' S' pr qu re mu hf (fun s h _ => hs s h) (fun h0 => hp (fx_rc_0 h0))
    rw [fx_rc_n (by omega)] at K'
    exact K'
  · refine br_f (by decide) (br_f (by decide) (br_f (by decide) (br_t (by decide) ⟨fx_v14 hy, fx_v14 hy, nm_r (e' := upd S y (fx_sg W (1 - k))) (by rw [fx_k14 hy, pY.2, fx_sub_neg W k hk]) (cx_add (k := 1 - k) hx hy hxy hm (by omega) ⟨pX.1, by rw [pk_un hxy]; exact pX.2⟩ ⟨pY.1, pk_us⟩ hV hW ?_)⟩)))
    intro L' S' hf hs hp
    have K' := K L' S' pr qu re mu hf (fun s h h2 => by rw [hs s h, pk_un h2]) (fun h0 => hp (fx_rc_0 h0))
    rw [fx_rc_n (by omega)] at K'
    exact K'
  · refine br_f (by decide) (br_f (by decide) (br_f (by decide) (br_f (by decide) (br_t (by decide) (cx_mul hx hy hm hk pX pY hV hW ?_)))))
    intro L' S' pr' hf hs hp
    have K' := K L' S' pr' qu re mu hf (fun s h _ => hs s h) (fun h0 => hp (fx_rc_0 h0))
    rw [fx_rc_n (by omega)] at K'
    exact K'
  · refine br_f (by decide) (br_f (by decide) (br_f (by decide) (br_f (by decide) (br_f (by decide) (br_t (by decide) ?_)))))
    unfold wX_calculate_70
    refine cx_div hx hy hm hk pX pY hV hW ?_ ?_
    · intro z
      have K' := K L S pr qu re mu (fun _ _ => rfl) (fun _ _ _ => rfl) (fun h0 => absurd (h0.symm.trans (fx_rc_z ⟨Or.inl rfl, z⟩)) (by decide))
      rw [fx_rc_z ⟨Or.inl rfl, z⟩] at K'
      exact K'
    · intro z L' S' qu' re' mu' hf hs hp
      have hlt : fx_rv 6 V m W k < fx_T := Nat.lt_of_le_of_lt (Nat.div_le_self V W) hV
      have K' := K L' S' pr qu' re' mu' hf (fun s h _ => hs s h) (fun _ => hp)
      rw [fx_rc_n (fun h => z h.2), if_pos hlt] at K'
      exact K'
  · refine br_f (by decide) (br_f (by decide) (br_f (by decide) (br_f (by decide) (br_f (by decide) (br_f (by decide) (br_t (by decide) ?_))))))
    unfold wX_calculate_70
    refine cx_div hx hy hm hk pX pY hV hW ?_ ?_
    · intro z
      have K' := K L S pr qu re mu (fun _ _ => rfl) (fun _ _ _ => rfl) (fun h0 => absurd (h0.symm.trans (fx_rc_z ⟨Or.inr rfl, z⟩)) (by decide))
      rw [fx_rc_z ⟨Or.inr rfl, z⟩] at K'
      exact K'
    · intro z L' S' qu' re' mu' hf hs hp
      have hlt : fx_rv 7 V m W k < fx_T := Nat.lt_trans (Nat.mod_lt V (by omega)) hW
      have K' := K L' S' pr qu' re' mu' hf (fun s h _ => hs s h) (fun _ => hp)
      rw [fx_rc_n (fun h => z h.2), if_pos hlt] at K'
      exact K'
  · refine br_f (by decide) (br_t (by decide) (cx_cn hx hy pX pY hV hW ?_))
    have hw : ∀ z : Int32, z = (if fx_ord V m W k < 0 then 1 else 0) → wX_calculate_98 post z (nI x) tc dp oc ht L S o g pt ob rl pr qu re mu := by
      intro z hz
      unfold wX_calculate_98
      refine cx_wi hx z ?_
      intro L' S' hf hs hfr
      have e1 : fx_rv 8 V m W k = fx_ab z := by
        rw [hz]
        show (if fx_ord V m W k < 0 then 1 else 0) = _
        split <;> decide
      have e2 : fx_mn z = 0 := by
        rw [hz]
        split <;> decide
      have hlt : fx_rv 8 V m W k < fx_T := by rw [e1]; exact fx_ab_T z
      have K' := K L' S' pr qu re mu hf.1 (fun s h _ => hfr s h) (fun _ => ⟨by rw [e1]; exact hf.2, by rw [e1, hs, e2]; rfl⟩)
      rw [fx_rc_n (by omega), if_pos hlt] at K'
      exact K'
    by_cases c : fx_ord V m W k < 0
    · exact br_f (Int32.not_le.mpr c) (hw 1 (by rw [if_pos c]))
    · exact br_t (Int32.not_lt.mp c) (hw 0 (by rw [if_neg c]))
theorem fx_8h (h : Nat) : (8 : Int32) + nI h = nI (8 + h) := nI_add 8 h
theorem cx_co {k h : Nat} {a : Int32} {V M : Nat → Nat} (hk : k ≤ 8) (ha : k = 1 ∨ k = 2 → ∃ v : Nat, v < 8 ∧ a = nI v) (hp : bk_pops k ≤ h) (h6 : h ≤ 6) (hp6 : k ≤ 1 → h < 6) (G : mc_G (8 + h) V M) (XA : xs_all L S (8 + h) V M) {post : Int32 → SX → Prop} (K0 : mc_c k h V M = 0 → ∀ L' S' pr' qu' re' mu', xs_all L' S' (8 + (if k ≤ 1 then h + 1 else h - 1)) (mc_V k h a V M) (mc_M k h a V M) → post 0 (tc, dp, oc, nI (if k ≤ 1 then h + 1 else h - 1), L', S', o, g, pt, ob, rl, pr', qu', re', mu')) (K1 : mc_c k h V M ≠ 0 → ∀ ht' L' S' pr' qu' re' mu', xs_all L' S' 8 V M → post (mc_c k h V M) (tc, dp, oc, ht', L', S', o, g, pt, ob, rl, pr', qu', re', mu')) : wpX_carryOut post (tc, dp, oc, nI h, L, S, o, g, pt, ob, rl, pr, qu, re, mu) (nI k) a := by
  by_cases c0 : k = 0
  · subst c0
    have h6' := hp6 (by omega)
    refine br_t (by decide) ?_
    rw [fx_8h]
    refine cx_wi (by omega) a ?_
    intro L' S' hf hs hfr
    exact nm_r (nI_1 h) (K0 rfl L' S' pr qu re mu (xs_wr (y := 14) (c' := 8 + (h + 1)) XA hf.1 (fun s h _ => hfr s h) ⟨hf.2, hs⟩ (by omega) (fun s h1 h2 => by omega)))
  · by_cases c1 : k = 1
    · subst c1
      have h6' := hp6 (by omega)
      obtain ⟨v, hv, rfl⟩ := ha (Or.inl rfl)
      refine br_f (by decide) (br_t (by decide) ?_)
      rw [fx_8h]
      have pa := XA v (by omega)
      refine cx_cp (by omega) (by omega) (by omega) pa.1 ?_
      intro L' hf
      refine nm_r (nI_1 h) (K0 rfl L' _ pr qu re mu ?_)
      have e : (nI v).toNatClampNeg = v := nI_clamp (by omega)
      show xs_all _ _ _ (fx_up V (8 + h) (V (nI v).toNatClampNeg)) (fx_up M (8 + h) (M (nI v).toNatClampNeg))
      rw [e]
      exact xs_wr (y := 14) (c' := 8 + (h + 1)) XA hf.1 (fun s h _ => pk_un h) ⟨hf.2, by rw [pk_us]; exact pa.2⟩ (by omega) (fun s h1 h2 => by omega)
    · have hp1 : 1 ≤ h := by
        unfold bk_pops at hp
        split at hp
        · omega
        · rw [if_pos (by omega)] at hp; exact hp
      obtain ⟨t, rfl⟩ : ∃ t, h = t + 1 := ⟨h - 1, by omega⟩
      have n0 : ¬ nI k = 0 := fun z => c0 ((nI_eq (b := 0) (by omega) (by omega)).mp z)
      have n1 : ¬ nI k = 1 := fun z => c1 ((nI_eq (b := 1) (by omega) (by omega)).mp z)
      have ek : (if k ≤ 1 then t + 1 + 1 else t + 1 - 1) = t := by rw [if_neg (by omega)]; omega
      rw [ek] at K0
      refine br_f n0 (br_f n1 (nm_r (nI_pred t) (nm_r (fx_8h t) ?_)))
      by_cases c2 : k = 2
      · subst c2
        obtain ⟨v, hv, rfl⟩ := ha (Or.inr rfl)
        have pa := XA (8 + t) (by omega)
        refine br_t (by decide) (cx_cp (by omega) (by omega) (by omega) pa.1 ?_)
        intro L' hf
        refine K0 rfl L' _ pr qu re mu ?_
        have e : (nI v).toNatClampNeg = v := nI_clamp (by omega)
        show xs_all _ _ _ (fx_up V (nI v).toNatClampNeg (V (7 + (t + 1)))) (fx_up M (nI v).toNatClampNeg (M (7 + (t + 1))))
        rw [e, show 7 + (t + 1) = 8 + t by omega]
        exact xs_wr (y := 14) (c' := 8 + t) XA hf.1 (fun s h _ => pk_un h) ⟨hf.2, by rw [pk_us]; exact pa.2⟩ (by omega) (fun s h1 h2 => by omega)
      · have n2 : ¬ nI k = 2 := fun z => c2 ((nI_eq (b := 2) (by omega) (by omega)).mp z)
        have hp2 : 1 ≤ t := by
          unfold bk_pops at hp
          rw [if_pos (by omega)] at hp
          omega
        obtain ⟨q, rfl⟩ : ∃ q, t = q + 1 := ⟨t - 1, by omega⟩
        refine br_f n2 ?_
        rw [show nI (8 + (q + 1)) - 1 = nI (8 + q) from nI_pred (8 + q)]
        have pa := XA (8 + q) (by omega)
        have pb := XA (8 + (q + 1)) (by omega)
        have ga := G (8 + q) (by omega)
        have gb := G (8 + (q + 1)) (by omega)
        have ec : mc_c k (q + 1 + 1) V M = fx_rc k (V (8 + q)) (M (8 + q)) (V (8 + (q + 1))) (M (8 + (q + 1))) := by
          unfold mc_c
          rw [if_pos ⟨by omega, hk⟩, show 6 + (q + 1 + 1) = 8 + q by omega, show 7 + (q + 1 + 1) = 8 + (q + 1) by omega]
        rw [ec] at K0 K1
        refine cx_calc (by omega) hk (by omega) (by omega) (by omega) ga.2 gb.2 pa pb ga.1 gb.1 ?_
        intro L' S' pr' qu' re' mu' hf hs hpic
        by_cases z : fx_rc k (V (8 + q)) (M (8 + q)) (V (8 + (q + 1))) (M (8 + (q + 1))) = 0
        · rw [z]
          refine K0 z L' S' pr' qu' re' mu' ?_
          unfold mc_V mc_M
          rw [if_neg c0, if_neg c0, if_neg c1, if_neg c1, if_neg c2, if_neg c2, if_pos hk, if_pos hk, show 6 + (q + 1 + 1) = 8 + q by omega, show 7 + (q + 1 + 1) = 8 + (q + 1) by omega]
          exact xs_wr (y := 8 + (q + 1)) (c' := 8 + (q + 1)) XA hf hs (hpic z) (by omega) (fun s h1 h2 => by omega)
        · refine K1 z _ L' S' pr' qu' re' mu' ?_
          intro s h
          have a := XA s (by omega)
          exact ⟨xs_fr_pl hf (by omega) (by omega) a.1, by rw [hs s (by omega) (by omega)]; exact a.2⟩
theorem fx_v40 {p : Nat} (h : p < 40) : vp_in (nI p) 40 := vp_in_nI h (by omega)
theorem fx_k40 {p : Nat} (h : p < 40) : (nI p).toNatClampNeg = p := nI_clamp (by omega)
theorem fx_sg_z (V m : Nat) : fx_sg V m = 0 ↔ V = 0 := ⟨fun h => by by_cases e : V = 0; exact e; exact absurd h (fx_sg_ne V e m), fun h => by rw [h, fx_sg_0]⟩
theorem cx_nb {n p k : Nat} {V M : Nat → Nat} (hN : n ≤ 40) (H : bk_wf o g n) (hn : bk_st o n = []) (PT : bk_pt o pt n) (hp : p < n) (ho : o p = nI k) (hk9 : 9 ≤ k) (hk : k < 12) (XA : xs_all L S (8 + bk_dp o p) V M) {post : Int32 → SX → Prop} (K : post (nI (mc_p k (bk_dp o p) p (mc_s o p) (o (mc_s o p)) (pt p) V rl)) (tc, dp, oc, nI (if k ≤ 9 then bk_dp o p - 1 else bk_dp o p), L, S, o, g, pt, ob, mc_rl k p (mc_s o p) (o (mc_s o p)) (g p) rl, pr, qu, re, mu)) : wpX_nextAfterBlockToken post (tc, dp, oc, nI (bk_dp o p), L, S, o, g, pt, ob, rl, pr, qu, re, mu) (nI p) := by
  have v40 : vp_in (nI p) 40 := fx_v40 (by omega)
  have k40 : (nI p).toNatClampNeg = p := fx_k40 (by omega)
  obtain ⟨k', hk', ho', t⟩ := H p hp
  have : k' = k := (mc_eq hk' hk).mp (ho'.symm.trans ho)
  subst this
  obtain ⟨_, _, _, t9, t10, _, t11⟩ := t
  have hkk : k' = 9 ∨ k' = 10 ∨ k' = 11 := by omega
  rcases hkk with rfl | rfl | rfl
  · have h1 := t9 rfl
    rw [h1] at XA K ⊢
    obtain ⟨q, q1, q2, q3, q4, q5⟩ := mc_skip H hn PT hp (Or.inl ho)
    refine ⟨v40, nm_r (e' := nI q) (by rw [k40]; exact q5) ⟨v40, br_t (by rw [k40]; exact ho) (nm_r (e' := nI 0) (by decide) ⟨by rw [fx_8h]; exact vp_in_nI (by omega) (by omega), ?_⟩)⟩⟩
    have e8 : ((8 : Int32) + nI 0).toNatClampNeg = 8 := by decide
    have s8 := (XA 8 (by omega)).2
    rw [e8, s8]
    unfold mc_p at K
    by_cases z : V 8 = 0
    · rw [if_pos ⟨rfl, z⟩, q5, nI_clamp (by omega)] at K
      refine br_t ((fx_sg_z _ _).mpr z) ?_
      rw [nI_1]
      exact K
    · rw [if_neg (fun w => z w.2), if_neg (by omega)] at K
      refine br_f (fun w => z ((fx_sg_z _ _).mp w)) ?_
      rw [nI_1]
      exact K
  · refine ⟨v40, nm_e ⟨v40, br_f (by rw [k40, ho]; decide) ⟨v40, br_t (by rw [k40]; exact ho) ⟨v40, v40, nm_r (e' := upd rl p (g p)) (by rw [k40]) ?_⟩⟩⟩⟩
    unfold mc_p at K
    rw [if_neg (by omega), if_neg (by omega)] at K
    rw [nI_1]
    exact K
  · cases hs : bk_st o p with
    | nil => exact absurd hs (t11 rfl)
    | cons s r =>
      have es : mc_s o p = s := by unfold mc_s; rw [hs]; rfl
      have hk2 := bk_ok o p s r hs
      have hpt := (PT p hp ho s r hs).1
      have vs : vp_in (nI s) 40 := fx_v40 (by omega)
      have ks : (nI s).toNatClampNeg = s := fx_k40 (by omega)
      rw [es] at K
      unfold mc_p mc_rl at K
      rw [if_neg (show ¬ (11 = 9 ∧ V (7 + bk_dp o p) = 0) by omega), if_neg (show ¬ (11 = 10) by omega)] at K
      refine ⟨v40, nm_r (e' := nI s) (by rw [k40]; exact hpt) ⟨v40, br_f (by rw [k40, ho]; decide) ⟨v40, br_f (by rw [k40, ho]; decide) ⟨vs, ?_⟩⟩⟩⟩
      rw [ks]
      by_cases c : o s = 10
      · rw [if_pos (⟨rfl, c⟩ : 11 = 11 ∧ o s = 10)] at K
        refine br_t c ⟨vs, vs, nm_e ⟨vs, ?_⟩⟩
        rw [pk_us]
        by_cases z : 0 < rl s - 1
        · rw [if_pos ⟨rfl, c, z⟩] at K
          refine br_f (Int32.not_le.mpr z) ?_
          rw [nI_1]
          exact K
        · rw [if_neg (fun w => z w.2.2)] at K
          refine br_t (Int32.not_lt.mp z) ?_
          rw [nI_1]
          exact K
      · rw [if_neg (show ¬ (11 = 11 ∧ o s = 10 ∧ 0 < rl s - 1) from fun w => c w.2.1), if_neg (show ¬ (11 = 11 ∧ o s = 10) from fun w => c w.2)] at K
        refine br_f c ?_
        rw [nI_1]
        exact K
end
end
section
/-! the component: the run, and what is read -/
section
variable {tc dp oc ht : Int32} {L : Nat → Int64} {S o g pt ob rl : Nat → Int32} {pr qu re mu : Nat → Int64}
theorem cx_stop {post : Int32 → SX → Prop} {c x y : Int32} (d : Nat) (hc : c ≠ 0) (K : post c (tc, dp, oc, ht, L, S, o, g, pt, ob, rl, pr, qu, re, mu)) : wX_run_28 post (d + 1) x c y tc dp oc ht L S o g pt ob rl pr qu re mu := by
  by_cases h1 : 8640 ≤ y
  · exact br_t h1 K
  · refine br_f h1 ?_
    by_cases h2 : tc ≤ x
    · exact br_t h2 K
    · exact br_f h2 (br_f hc K)
theorem cx_run {n : Nat} (hN : n ≤ 40) (H : bk_wf o g n) (hn : bk_st o n = []) (PT : bk_pt o pt n) {post : Int32 → SX → Prop} : ∀ (d stp p : Nat) (V M : Nat → Nat) (rl : Nat → Int32) (L : Nat → Int64) (S : Nat → Int32) (pr qu re mu : Nat → Int64), stp + d = 8640 → p ≤ n → mc_G (8 + bk_dp o p) V M → xs_all L S (8 + bk_dp o p) V M → (∀ ht' L' S' rl' pr' qu' re' mu', xs_all L' S' 8 (mc_run o g pt n d p V M rl).2.1 (mc_run o g pt n d p V M rl).2.2 → post (mc_run o g pt n d p V M rl).1 (nI n, dp, oc, ht', L', S', o, g, pt, ob, rl', pr', qu', re', mu')) → wX_run_28 post (d + 2) (nI p) 0 (nI stp) (nI n) dp oc (nI (bk_dp o p)) L S o g pt ob rl pr qu re mu := by
  intro d
  induction d with
  | zero =>
    intro stp p V M rl L S pr qu re mu hs hp G XA K
    have : stp = 8640 := by omega
    subst this
    exact br_t (by decide) (K _ L S rl pr qu re mu (xs_all_le XA (by omega)))
  | succ d ih =>
    intro stp p V M rl L S pr qu re mu hs hp G XA K
    refine br_f (nI_ge (b := 8640) (by omega) (by omega)) ?_
    by_cases hpn : p < n
    · obtain ⟨k, hk, ho, t⟩ := H p hpn
      obtain ⟨ta, tp, t6, _⟩ := t
      have hR : mc_run o g pt n (d + 1) p V M rl = if mc_c k (bk_dp o p) V M = 0 then mc_run o g pt n d (mc_p k (bk_dp o p) p (mc_s o p) (o (mc_s o p)) (pt p) V rl) (mc_V k (bk_dp o p) (g p) V M) (mc_M k (bk_dp o p) (g p) V M) (mc_rl k p (mc_s o p) (o (mc_s o p)) (g p) rl) else (mc_c k (bk_dp o p) V M, V, M) := by
        show (if p < n then _ else _) = _
        rw [if_pos hpn, mc_kk ho hk]
      rw [hR] at K
      have nx := mc_nx (V := V) (rl := rl) hN H hn PT hpn ho hk
      have v40 : vp_in (nI p) 40 := fx_v40 (by omega)
      have k40 : (nI p).toNatClampNeg = p := fx_k40 (by omega)
      have h6 := bk_dp_6 H p (by omega)
      refine br_f (nI_ge (by omega) (by omega)) (br_t rfl ⟨v40, ?_⟩)
      rw [k40, ho]
      by_cases k8 : k ≤ 8
      · refine br_t (nI_lt (b := 9) (by omega) (by omega)) ⟨v40, v40, ?_⟩
        have ep : mc_p k (bk_dp o p) p (mc_s o p) (o (mc_s o p)) (pt p) V rl = p + 1 := by
          unfold mc_p; rw [if_neg (by omega), if_neg (by omega)]
        have er : mc_rl k p (mc_s o p) (o (mc_s o p)) (g p) rl = rl := by
          unfold mc_rl; rw [if_neg (by omega), if_neg (by omega)]
        have ed : (if k ≤ 1 then bk_dp o p + 1 else if k ≤ 9 then bk_dp o p - 1 else bk_dp o p) = (if k ≤ 1 then bk_dp o p + 1 else bk_dp o p - 1) := by
          split
          · rfl
          · rw [if_pos (by omega)]
        refine cx_co k8 ta tp h6 t6 G XA ?_ ?_
        · intro hc L' S' pr' qu' re' mu' XA'
          have G' := mc_nG H hpn ho hk G hc
          rw [if_pos hc] at K
          rw [ep, er] at K
          rw [ep] at nx
          rw [ed] at nx G'
          refine nm_r (nI_1 p) (nm_r (nI_1 stp) ?_)
          rw [← nx.2.1] at G' XA' ⊢
          exact ih (stp + 1) (p + 1) _ _ rl L' S' pr' qu' re' mu' (by omega) nx.1 G' XA' K
        · intro hc ht' L' S' pr' qu' re' mu' XA'
          rw [if_neg hc] at K
          exact nm_e (nm_e (cx_stop (d + 1) hc (K ht' L' S' rl pr' qu' re' mu' XA')))
      · refine br_f (nI_nlt (b := 9) (by omega) (by omega)) ?_
        have hc : mc_c k (bk_dp o p) V M = 0 := by unfold mc_c; rw [if_neg (by omega)]
        have eV : mc_V k (bk_dp o p) (g p) V M = V := by
          unfold mc_V; rw [if_neg (by omega), if_neg (by omega), if_neg (by omega), if_neg k8]
        have eM : mc_M k (bk_dp o p) (g p) V M = M := by
          unfold mc_M; rw [if_neg (by omega), if_neg (by omega), if_neg (by omega), if_neg k8]
        rw [if_pos hc, eV, eM] at K
        have ed : (if k ≤ 1 then bk_dp o p + 1 else if k ≤ 9 then bk_dp o p - 1 else bk_dp o p) = (if k ≤ 9 then bk_dp o p - 1 else bk_dp o p) := if_neg (by omega)
        have le : (if k ≤ 9 then bk_dp o p - 1 else bk_dp o p) ≤ bk_dp o p := by split <;> omega
        rw [ed] at nx
        refine cx_nb hN H hn PT hpn ho (by omega) hk XA ?_
        refine nm_r (nI_1 stp) ?_
        rw [← nx.2.1] at le ⊢
        exact ih (stp + 1) _ V M _ L S pr qu re mu (by omega) nx.1 (mc_G_le G (by omega)) (xs_all_le XA (by omega)) K
    · have : p = n := by omega
      subst this
      refine br_t (nI_le (Nat.le_refl p) (by omega)) ?_
      have hR : mc_run o g pt p (d + 1) p V M rl = (0, V, M) := by
        show (if p < p then _ else _) = _
        rw [if_neg (by omega)]
      rw [hR] at K
      exact K _ L S rl pr qu re mu (xs_all_le XA (by omega))
theorem cx_dd_l {A i : Nat} (hA : A < 100000000) (hi : i < 40) {post : Int32 → Prop} (K : post (nI (A / 10 ^ (i % 8) % 10))) : ∀ d k, k + d = i % 8 → wX_decimalDigit_17 post (nI i) tc dp oc ht L S o g pt ob rl pr qu re mu (d + 1) (lN (A / 10 ^ k)) (nI k) := by
  have e8 : nI i - nI i / 8 * 8 = nI (i % 8) := by
    rw [show (8 : Int32) = nI 8 from rfl]; exact pk_rem (by omega) (by omega) (by omega)
  intro d
  induction d with
  | zero =>
    intro k hk
    have : k = i % 8 := by omega
    subst this
    have hb : A / 10 ^ (i % 8) < 2 ^ 63 := Nat.lt_of_le_of_lt (Nat.div_le_self _ _) (by omega)
    refine ⟨by decide, br_t (by rw [e8]; exact nI_le (Nat.le_refl _) (by omega)) ⟨by decide, ?_⟩⟩
    rw [fx_lrem10 hb, lN_i]
    exact K
  | succ d ih =>
    intro k hk
    have hb : A / 10 ^ k < 2 ^ 63 := Nat.lt_of_le_of_lt (Nat.div_le_self _ _) (by omega)
    exact ⟨by decide, br_f (by rw [e8]; exact nI_ge (by omega) (by omega)) ⟨by decide, nm_r (e' := lN (A / 10 ^ (k + 1))) (by rw [fx_ldiv10 hb, Nat.div_div_eq_div_mul, ← Nat.pow_succ]) (nm_r (nI_1 k) (ih (k + 1) (by omega)))⟩⟩
theorem cx_dd {s i V : Nat} (hs : s < 14) (hi : i < 40) (pX : fx_pl L (s * 5) 5 V) {post : Int32 → Prop} (K : post (nI (fx_dg 10 V i))) : wpX_decimalDigit post (tc, dp, oc, ht, L, S, o, g, pt, ob, rl, pr, qu, re, mu) (nI s) (nI i) := by
  have e8 : nI i / 8 = nI (i / 8) := by
    rw [show (8 : Int32) = nI 8 from rfl]; exact pk_div (by omega) (by omega) (by omega)
  have h5 : i / 8 < 5 := by omega
  refine ⟨by decide, by rw [e8]; exact fx_v5 hs h5, nm_r (e' := lN (fx_dg 100000000 V (i / 8))) (by rw [e8, fx_c5 hs h5]; exact pX _ h5) ⟨i % 8 + 1, ?_⟩⟩
  have h := cx_dd_l (tc := tc) (dp := dp) (oc := oc) (ht := ht) (L := L) (S := S) (o := o) (g := g) (pt := pt) (ob := ob) (rl := rl) (pr := pr) (qu := qu) (re := re) (mu := mu) (post := post) (fx_dgB V (i / 8)) hi (by rw [fx_limb]; exact K) (i % 8) 0 (by omega)
  rw [Nat.pow_zero, Nat.div_one] at h
  exact h
theorem cx_ds_l {s V : Nat} (hs : s < 14) (pX : fx_pl L (s * 5) 5 V) {post : Int32 → Prop} (K : ∀ r : Nat, 1 ≤ r → V < 10 ^ r → (r = 1 ∨ 10 ^ (r - 1) ≤ V) → post (nI r)) : ∀ i, i < 40 → V < 10 ^ (i + 1) → wX_digits_13 post (nI s) tc dp oc ht L S o g pt ob rl pr qu re mu (i + 1) (nI i) := by
  intro i
  induction i with
  | zero =>
    intro _ hV
    exact br_t (by decide) (K 1 (by omega) hV (Or.inl rfl))
  | succ i ih =>
    intro hi hV
    refine br_f (nI_nle (by omega) (by omega)) (cx_dd hs hi pX ?_)
    by_cases c : fx_dg 10 V (i + 1) = 0
    · rw [c]
      refine br_t rfl (nm_r (pk_m1 i) (ih (by omega) (fx_below (i + 1 + 1) (i + 1) hV (by omega) ?_)))
      intro j h1 h2
      have : j = i + 1 := by omega
      subst this
      exact c
    · have b := fx_dg10 V (i + 1)
      refine br_f (nI_ne0 (by omega) (by omega)) ?_
      rw [nI_1]
      exact K (i + 1 + 1) (by omega) hV (Or.inr (fx_dg_ge c))
theorem cx_lv {s V m : Nat} (hs : s < 14) (pX : xs_pic L S s V m) (hV : V < 100000000 ^ 2) {post : Int64 → Prop} (K : post (fx_l V m)) : wpX_lowValue post (tc, dp, oc, ht, L, S, o, g, pt, ob, rl, pr, qu, re, mu) (nI s) := by
  have e1 : (nI s * 5 + 1).toNatClampNeg = s * 5 + 1 := fx_c5 (i := 1) hs (by omega)
  have e0 : (nI s * 5).toNatClampNeg = s * 5 := by
    rw [show (5 : Int32) = nI 5 from rfl, pk_mul]; exact nI_clamp (by omega)
  refine ⟨fx_v14 hs, fx_v5 (i := 1) hs (by omega), ?_, ?_⟩
  · rw [show (5 : Int32) = nI 5 from rfl, pk_mul]; exact vp_in_nI (by omega) (by omega)
  · have h0 : L (s * 5) = lN (fx_dg 100000000 V 0) := pX.1 0 (by omega)
    have h1 : L (s * 5 + 1) = lN (fx_dg 100000000 V 1) := pX.1 1 (by omega)
    have hv : fx_dg 100000000 V 1 * 100000000 + fx_dg 100000000 V 0 = V := by
      have a1 := fx_ms 100000000 V 1
      have a0 := fx_ms 100000000 V 0
      rw [Nat.mod_eq_of_lt hV] at a1
      rw [Nat.pow_zero, Nat.mod_one] at a0
      rw [Nat.pow_one] at a1
      rw [show 0 + 1 = 1 from rfl, Nat.pow_one] at a0
      omega
    rw [fx_k14 hs, e1, e0, h0, h1, pX.2, fx_B, lN_mul, lN_add, hv, fx_l_sg]
    exact K
theorem cx_ii_l {s V m : Nat} (hs : s < 14) (pX : xs_pic L S s V m) (hV : V < fx_T) {post : Int32 → Prop} (K1 : fx_isI V m → post 1) (K0 : ¬ fx_isI V m → post 0) : ∀ d i, i + d = 5 → 2 ≤ i → (∀ j, 2 ≤ j → j < i → fx_dg 100000000 V j = 0) → wX_isInt_11 post (nI s) tc dp oc ht L S o g pt ob rl pr qu re mu (d + 1) (nI i) := by
  intro d
  induction d with
  | zero =>
    intro i hi _ hz
    have : i = 5 := by omega
    subst this
    have hlt : V < 100000000 ^ 2 := fx_below 5 2 (by rw [fx_pow5]; exact hV) (by omega) hz
    have h63 : V < 2 ^ 63 := Nat.lt_trans hlt (by decide)
    refine br_t fx_5 (cx_lv hs pX hlt ?_)
    have hi := fx_isI_lo h63 m
    by_cases c1 : fx_l V m < -2147483648
    · exact br_t c1 (K0 (fun z => Int64.not_le.mpr c1 (hi.mpr z).1))
    · refine br_f c1 ?_
      by_cases c2 : 2147483647 < fx_l V m
      · exact br_t c2 (K0 (fun z => Int64.not_le.mpr c2 (hi.mpr z).2))
      · exact br_f c2 (K1 (hi.mp ⟨Int64.not_lt.mp c1, Int64.not_lt.mp c2⟩))
  | succ d ih =>
    intro i hi h2 hz
    have e1 : L (nI s * 5 + nI i).toNatClampNeg = lN (fx_dg 100000000 V i) := by rw [fx_c5 hs (by omega)]; exact pX.1 i (by omega)
    have b1 := fx_dgB V i
    refine br_f (fx_n5 (by omega)) ⟨fx_v5 hs (by omega), ?_⟩
    rw [e1]
    by_cases c : fx_dg 100000000 V i = 0
    · refine br_t (by rw [c]; rfl) (nm_r (nI_1 i) (ih (i + 1) (by omega) (by omega) ?_))
      intro j h1 h3
      by_cases e : j = i
      · subst e; exact c
      · exact hz j h1 (by omega)
    · refine br_f (fun z => c ((fx_l0 (by omega)).mp z)) (K0 ?_)
      have h4 := fx_dg_ge c
      have h5 := Nat.pow_le_pow_right (n := 100000000) (by omega) h2
      have h6 : (100000000 : Nat) ^ 2 = 10000000000000000 := by decide
      unfold fx_isI
      split <;> omega
theorem cx_ii {s V m : Nat} (hs : s < 14) (pX : xs_pic L S s V m) (hV : V < fx_T) {post : Int32 → Prop} (K1 : fx_isI V m → post 1) (K0 : ¬ fx_isI V m → post 0) : ∃ n, wX_isInt_11 post (nI s) tc dp oc ht L S o g pt ob rl pr qu re mu n 2 :=
  ⟨4, cx_ii_l hs pX hV K1 K0 3 2 rfl (Nat.le_refl 2) (fun j h1 h2 => absurd h1 (by omega))⟩
end
theorem cx_iv1 {post : Int32 → Prop} {s : Nat} (hs : s < 8) (K : post 1) : wpX_isVariable post (nI s) :=
  br_f (nI_pos (by omega)) (br_f (nI_ge (b := 8) hs (by omega)) K)
theorem cx_iv0 {post : Int32 → Prop} {x : Int32} (hx : x < 0 ∨ 8 ≤ x) (K : post 0) : wpX_isVariable post x := by
  by_cases h : x < 0
  · exact br_t h K
  · exact br_f h (br_t (hx.resolve_left h) K)
end
section
/-! the reference: filling an array of digits -/
def fy_fr (d d' : Nat → Int32) (b n : Nat) : Prop := ∀ j, (j < b ∨ b + n ≤ j) → d' j = d j
def fy_fill (d d' : Nat → Int32) (b n V : Nat) : Prop := fy_fr d d' b n ∧ fx_pd d' b n V
theorem fy_fill_0 (d : Nat → Int32) (b V : Nat) : fy_fill d d b 0 V := ⟨fun _ _ => rfl, fun i hi => absurd hi (by omega)⟩
theorem fy_fill_s {d d' : Nat → Int32} {b n V : Nat} (h : fy_fill d d' b n V) : fy_fill d (upd d' (b + n) (nI (fx_dg 10 V n))) b (n + 1) V := by
  refine ⟨fun j hj => by rw [pk_un (by omega)]; exact h.1 j (by omega), ?_⟩
  intro i hi
  by_cases e : i = n
  · subst e; rw [pk_us]
  · rw [pk_un (by omega)]; exact h.2 i (by omega)
theorem fx_c82 {x i : Nat} (hx : x < 16) (hi : i < 82) : (nI x * 82 + nI i).toNatClampNeg = x * 82 + i := by rw [fx_i82]; exact nI_clamp (by omega)
theorem fx_v82 {x i : Nat} (hx : x < 16) (hi : i < 82) : vp_in (nI x * 82 + nI i) 1312 := by rw [fx_i82]; exact vp_in_nI (by omega) (by omega)
theorem fx_cA {b i : Nat} (h : b + i < 1312) : (nI b + nI i).toNatClampNeg = b + i := by rw [nI_add]; exact nI_clamp (by omega)
theorem fx_vA {b i : Nat} (h : b + i < 1312) : vp_in (nI b + nI i) 1312 := by rw [nI_add]; exact vp_in_nI h (by omega)
theorem fx_v16 {x : Nat} (hx : x < 16) : vp_in (nI x) 16 := vp_in_nI hx (by omega)
theorem fx_k16 {x : Nat} (hx : x < 16) : (nI x).toNatClampNeg = x := nI_clamp (by omega)
theorem fx_82 : (82 : Int32) ≤ nI 82 := by decide
theorem fx_n82 {i : Nat} (h : i < 82) : ¬ (82 : Int32) ≤ nI i := nI_ge (b := 82) h (by omega)
theorem fx_10l : ¬ (10 : Int64) = 0 := by decide
theorem fx_10i : ¬ (10 : Int32) = 0 := by decide
theorem fy_b0 : vp_nar .boolean 0 = 0 := rfl
theorem fy_b1 : vp_nar .boolean 1 = 1 := rfl
theorem fy_bm {m : Nat} (h : m < 2) : vp_nar .boolean (nI m) = nI m := by
  have : m = 0 ∨ m = 1 := by omega
  rcases this with rfl | rfl
  · exact fy_b0
  · exact fy_b1
section
variable {sz dp oc : Int32} {o g d mi bg tm : Nat → Int32}
theorem cy_wr_l {s A : Nat} (hs : s < 16) (hA : A < 2 ^ 63) {post : SY → Prop} (K : ∀ d', fy_fill d d' (s * 82) 82 A → post (sz, dp, oc, o, g, d', mi, bg, tm)) : ∀ e i, i + e = 82 → ∀ d', fy_fill d d' (s * 82) i A → wY_write_30 post (nI s) sz dp oc (e + 1) (lN (A / 10 ^ i)) (nI i) o g d' mi bg tm := by
  intro e
  induction e with
  | zero =>
    intro i hi d' hf
    have : i = 82 := by omega
    subst this
    exact br_t fx_82 (K d' hf)
  | succ e ih =>
    intro i hi d' hf
    have hb : A / 10 ^ i < 2 ^ 63 := Nat.lt_of_le_of_lt (Nat.div_le_self _ _) hA
    exact br_f (fx_n82 (by omega)) ⟨fx_10l, fx_v82 hs (by omega), nm_r (e' := upd d' (s * 82 + i) (nI (fx_dg 10 A i))) (by rw [fx_c82 hs (by omega), fx_lrem10 hb, lN_i]; rfl) ⟨fx_10l, nm_r (e' := lN (A / 10 ^ (i + 1))) (by rw [fx_ldiv10 hb, Nat.div_div_eq_div_mul, ← Nat.pow_succ]) (nm_r (nI_1 i) (ih (i + 1) (by omega) _ (fy_fill_s hf)))⟩⟩
theorem cy_wr {s : Nat} (hs : s < 16) (v : Int32) {post : SY → Prop} (K : ∀ d', fy_fill d d' (s * 82) 82 (fx_ab v) → post (sz, dp, oc, o, g, d', upd mi s (nI (fx_mn v)), bg, tm)) : wpY_write post (sz, dp, oc, o, g, d, mi, bg, tm) (nI s) v := by
  have hA : fx_ab v < 2 ^ 63 := by have := fx_ab_lt v; omega
  have h := cy_wr_l (sz := sz) (dp := dp) (oc := oc) (o := o) (g := g) (d := d) (mi := upd mi s (nI (fx_mn v))) (bg := bg) (tm := tm) hs hA K 82 0 rfl d (fy_fill_0 d _ _)
  rw [Nat.pow_zero, Nat.div_one] at h
  by_cases h0 : 0 ≤ v
  · have hn : ¬ v < 0 := Int32.not_lt.mpr h0
    have hm : fx_mn v = 0 := if_neg hn
    have hl : (0 : Int64) ≤ v.toInt64 := Int64.not_lt.mp (fun z => hn ((fx_l_neg v).mp z))
    refine br_t h0 ⟨fx_v16 hs, nm_r (e' := upd mi s (nI (fx_mn v))) (by rw [fx_k16 hs, fy_b0, hm]; rfl) (br_t hl ⟨83, ?_⟩)⟩
    rw [← fx_ab_p hn] at h
    exact h
  · have hn : v < 0 := Int32.not_le.mp h0
    have hm : fx_mn v = 1 := if_pos hn
    have hl : ¬ (0 : Int64) ≤ v.toInt64 := Int64.not_le.mpr ((fx_l_neg v).mpr hn)
    exact br_f h0 ⟨fx_v16 hs, nm_r (e' := upd mi s (nI (fx_mn v))) (by rw [fx_k16 hs, fy_b1, hm]; rfl) (br_f hl (nm_r (fx_ab_n hn) ⟨83, h⟩))⟩
theorem cy_cp_l {a b V : Nat} (ha : a < 16) (hb : b < 16) (hab : a ≠ b) (pa : fx_pd d (a * 82) 82 V) {post : SY → Prop} (K : ∀ d', fy_fill d d' (b * 82) 82 V → post (sz, dp, oc, o, g, d', mi, bg, tm)) : ∀ e i, i + e = 82 → ∀ d', fy_fill d d' (b * 82) i V → wY_copy_14 post (nI a) (nI b) sz dp oc (e + 1) (nI i) o g d' mi bg tm := by
  intro e
  induction e with
  | zero =>
    intro i hi d' hf
    have : i = 82 := by omega
    subst this
    exact br_t fx_82 (K d' hf)
  | succ e ih =>
    intro i hi d' hf
    have e1 : d' (a * 82 + i) = nI (fx_dg 10 V i) := by rw [hf.1 _ (by omega)]; exact pa i (by omega)
    exact br_f (fx_n82 (by omega)) ⟨fx_v82 ha (by omega), fx_v82 hb (by omega), nm_r (e' := upd d' (b * 82 + i) (nI (fx_dg 10 V i))) (by rw [fx_c82 ha (by omega), fx_c82 hb (by omega), e1]) (nm_r (nI_1 i) (ih (i + 1) (by omega) _ (fy_fill_s hf)))⟩
theorem cy_cp {a b V m : Nat} (ha : a < 16) (hb : b < 16) (hab : a ≠ b) (pa : fx_pd d (a * 82) 82 V) (sa : mi a = nI m) (hm : m < 2) {post : SY → Prop} (K : ∀ d', fy_fill d d' (b * 82) 82 V → post (sz, dp, oc, o, g, d', upd mi b (nI m), bg, tm)) : wpY_copy post (sz, dp, oc, o, g, d, mi, bg, tm) (nI a) (nI b) :=
  ⟨fx_v16 ha, fx_v16 hb, nm_r (e' := upd mi b (nI m)) (by rw [fx_k16 ha, fx_k16 hb, sa, fy_bm hm]) ⟨83, cy_cp_l ha hb hab pa K 82 0 rfl d (fy_fill_0 d _ _)⟩⟩
theorem cy_ln_l {s V : Nat} (hs : s < 16) (pa : fx_pd d (s * 82) 82 V) (hV : V < 10 ^ 82) {post : Int32 → Prop} (K : ∀ n, n ≤ 82 → fx_len V n → post (nI n)) : ∀ e i c, i + e = 82 → c ≤ i → V % 10 ^ i < 10 ^ c → (c = 0 ∨ 10 ^ (c - 1) ≤ V) → wY_length_4 post (nI s) sz dp oc o g d mi bg tm (e + 1) (nI c) (nI i) := by
  intro e
  induction e with
  | zero =>
    intro i c hi hc h1 h2
    have : i = 82 := by omega
    subst this
    rw [Nat.mod_eq_of_lt hV] at h1
    exact br_t fx_82 (K c hc ⟨h1, h2⟩)
  | succ e ih =>
    intro i c hi hc h1 h2
    have e1 : d (nI s * 82 + nI i).toNatClampNeg = nI (fx_dg 10 V i) := by rw [fx_c82 hs (by omega)]; exact pa i (by omega)
    have b1 := fx_dg10 V i
    refine br_f (fx_n82 (by omega)) ⟨fx_v82 hs (by omega), ?_⟩
    rw [e1]
    by_cases z : fx_dg 10 V i = 0
    · refine br_t (by rw [z]; rfl) (nm_r (nI_1 i) (ih (i + 1) c (by omega) (by omega) ?_ h2))
      rw [fx_ms, z, Nat.mul_zero, Nat.add_zero]
      exact h1
    · refine br_f (nI_ne0 (by omega) (by omega)) (nm_r (nI_1 i) (nm_r (nI_1 i) (ih (i + 1) (i + 1) (by omega) (by omega) (Nat.mod_lt _ (fx_pp (by omega) _)) (Or.inr (fx_dg_ge z)))))
theorem cy_ln {s V : Nat} (hs : s < 16) (pa : fx_pd d (s * 82) 82 V) (hV : V < 10 ^ 82) {post : Int32 → Prop} (K : ∀ n, n ≤ 82 → fx_len V n → post (nI n)) : wpY_length post (sz, dp, oc, o, g, d, mi, bg, tm) (nI s) :=
  ⟨83, cy_ln_l hs pa hV K 82 0 0 rfl (Nat.le_refl 0) (by rw [Nat.pow_zero, Nat.mod_one]; omega) (Or.inl rfl)⟩
theorem cy_sz_l {a b V W : Nat} (ha : a < 16) (hb : b < 16) (pA : fx_pd d (a * 82) 82 V) (pB : fx_pd d (b * 82) 82 W) (hV : V < 10 ^ 82) (hW : W < 10 ^ 82) {post : Int32 → Prop} (K : post (fx_cmp V W)) : ∀ e i, i + e = 82 → wY_size_5 post (nI a) (nI b) sz dp oc o g d mi bg tm (e + 1) (fx_cmp (V % 10 ^ i) (W % 10 ^ i)) (nI i) := by
  intro e
  induction e with
  | zero =>
    intro i hi
    have : i = 82 := by omega
    subst this
    rw [Nat.mod_eq_of_lt hV, Nat.mod_eq_of_lt hW]
    exact br_t fx_82 K
  | succ e ih =>
    intro i hi
    have e1 : d (nI a * 82 + nI i).toNatClampNeg = nI (fx_dg 10 V i) := by rw [fx_c82 ha (by omega)]; exact pA i (by omega)
    have e2 : d (nI b * 82 + nI i).toNatClampNeg = nI (fx_dg 10 W i) := by rw [fx_c82 hb (by omega)]; exact pB i (by omega)
    have b1 := fx_dg10 V i
    have b2 := fx_dg10 W i
    have va : vp_in (nI a * 82 + nI i) 1312 := fx_v82 ha (by omega)
    have vb : vp_in (nI b * 82 + nI i) 1312 := fx_v82 hb (by omega)
    have ih' := ih (i + 1) (by omega)
    rw [fx_bot_s (by omega)] at ih'
    refine br_f (fx_n82 (by omega)) ⟨va, vb, ?_⟩
    rw [e1, e2]
    by_cases c : fx_dg 10 V i = fx_dg 10 W i
    · rw [if_pos c] at ih'
      exact br_t (by rw [c]) (nm_r (nI_1 i) ih')
    · rw [if_neg c] at ih'
      refine br_f (fun z => c ((nI_eq (by omega) (by omega)).mp z)) ⟨va, vb, ?_⟩
      by_cases c2 : fx_dg 10 V i < fx_dg 10 W i
      · rw [fx_cmp_lt c2] at ih'
        exact br_f (nI_ge c2 (by omega)) (nm_r (nI_1 i) ih')
      · rw [fx_cmp_gt (show fx_dg 10 W i < fx_dg 10 V i by omega)] at ih'
        exact br_t (nI_le (by omega) (by omega)) (nm_r (nI_1 i) ih')
theorem cy_sz {a b V W : Nat} (ha : a < 16) (hb : b < 16) (pA : fx_pd d (a * 82) 82 V) (pB : fx_pd d (b * 82) 82 W) (hV : V < 10 ^ 82) (hW : W < 10 ^ 82) {post : Int32 → Prop} (K : post (fx_cmp V W)) : wpY_size post (sz, dp, oc, o, g, d, mi, bg, tm) (nI a) (nI b) := by
  refine ⟨83, ?_⟩
  have h := cy_sz_l (sz := sz) (dp := dp) (oc := oc) (o := o) (g := g) (mi := mi) (bg := bg) (tm := tm) ha hb pA pB hV hW K 82 0 rfl
  rw [Nat.pow_zero, Nat.mod_one, Nat.mod_one, fx_cmp_eq] at h
  exact h
theorem cy_sm_l {a b V W : Nat} (ha : a < 14) (hb : b < 14) (pA : fx_pd d (a * 82) 82 V) (pB : fx_pd d (b * 82) 82 W) {post : SY → Prop} (K : ∀ d', fy_fill d d' 1148 82 (V + W) → post (sz, dp, oc, o, g, d', mi, bg, tm)) : ∀ e i, i + e = 82 → ∀ d', fy_fill d d' 1148 i (V + W) → wY_sum_5 post (nI a) (nI b) sz dp oc (e + 1) (nI ((V % 10 ^ i + W % 10 ^ i) / 10 ^ i)) (nI i) o g d' mi bg tm := by
  intro e
  induction e with
  | zero =>
    intro i hi d' hf
    have : i = 82 := by omega
    subst this
    exact br_t fx_82 (K d' hf)
  | succ e ih =>
    intro i hi d' hf
    have e1 : d' (a * 82 + i) = nI (fx_dg 10 V i) := by rw [hf.1 _ (by omega)]; exact pA i (by omega)
    have e2 : d' (b * 82 + i) = nI (fx_dg 10 W i) := by rw [hf.1 _ (by omega)]; exact pB i (by omega)
    have b1 := fx_dg10 V i
    have b2 := fx_dg10 W i
    have b3 : (V % 10 ^ i + W % 10 ^ i) / 10 ^ i < 2 := by
      have hp := fx_pp (B := 10) (by omega) i
      have a1 := Nat.mod_lt V hp
      have a2 := Nat.mod_lt W hp
      rw [Nat.div_lt_iff_lt_mul hp]
      omega
    exact br_f (fx_n82 (by omega)) ⟨fx_v82 (by omega) (by omega), fx_v82 (by omega) (by omega), nm_r (e' := nI (fx_dg 10 V i + fx_dg 10 W i + (V % 10 ^ i + W % 10 ^ i) / 10 ^ i)) (by rw [fx_c82 (by omega) (by omega), fx_c82 (by omega) (by omega), e1, e2, nI_add, nI_add]) ⟨fx_10i, fx_vA (b := 1148) (by omega), nm_r (e' := upd d' (1148 + i) (nI (fx_dg 10 (V + W) i))) (by rw [show ((1148 : Int32) + nI i).toNatClampNeg = 1148 + i from fx_cA (b := 1148) (by omega), fx_irem (by omega), fx_add_dg (by omega)]) ⟨fx_10i, nm_r (e' := nI ((V % 10 ^ (i + 1) + W % 10 ^ (i + 1)) / 10 ^ (i + 1))) (by rw [fx_idiv (by omega), fx_add_cy (by omega)]) (nm_r (nI_1 i) (ih (i + 1) (by omega) _ (fy_fill_s hf)))⟩⟩⟩
theorem cy_sm {a b V W : Nat} (ha : a < 14) (hb : b < 14) (pA : fx_pd d (a * 82) 82 V) (pB : fx_pd d (b * 82) 82 W) {post : SY → Prop} (K : ∀ d', fy_fill d d' 1148 82 (V + W) → post (sz, dp, oc, o, g, d', mi, bg, tm)) : wpY_sum post (sz, dp, oc, o, g, d, mi, bg, tm) (nI a) (nI b) := by
  refine ⟨83, ?_⟩
  have h := cy_sm_l (sz := sz) (dp := dp) (oc := oc) (o := o) (g := g) (mi := mi) (bg := bg) (tm := tm) ha hb pA pB K 82 0 rfl d (fy_fill_0 d _ _)
  rw [Nat.pow_zero, Nat.mod_one, Nat.mod_one] at h
  exact h
theorem cy_df_l {a b t V W : Nat} (ha : a < 16) (hb : b < 16) (ht : t < 16) (pA : fx_pd d (a * 82) 82 V) (pB : fx_pd d (b * 82) 82 W) (h : W ≤ V) {post : SY → Prop} (K : ∀ d', fy_fill d d' (t * 82) 82 (V - W) → post (sz, dp, oc, o, g, d', mi, bg, tm)) : ∀ e i, i + e = 82 → ∀ d', fy_fill d d' (t * 82) i (V - W) → wY_difference_6 post (nI a) (nI b) (nI t) sz dp oc (e + 1) (nI (fx_bw 10 V W i)) (nI i) o g d' mi bg tm := by
  intro e
  induction e with
  | zero =>
    intro i hi d' hf
    have : i = 82 := by omega
    subst this
    exact br_t fx_82 (K d' hf)
  | succ e ih =>
    intro i hi d' hf
    have e1 : d' (a * 82 + i) = nI (fx_dg 10 V i) := by rw [hf.1 _ (by omega)]; exact pA i (by omega)
    have e2 : d' (b * 82 + i) = nI (fx_dg 10 W i) := by rw [hf.1 _ (by omega)]; exact pB i (by omega)
    have b1 := fx_dg10 V i
    have b2 := fx_dg10 W i
    have b3 := fx_bw_le 10 V W i
    have hs := fx_bw_s (B := 10) (by omega) V W i
    have hd := fx_sub_dg (B := 10) (by omega) V W i h
    have ih' := ih (i + 1) (by omega) _ (fy_fill_s hf)
    refine br_f (fx_n82 (by omega)) ⟨fx_v82 ha (by omega), fx_v82 hb (by omega), nm_r (e' := nI (fx_dg 10 V i + 10 - fx_dg 10 W i - fx_bw 10 V W i)) (by rw [fx_c82 ha (by omega), fx_c82 hb (by omega), e1, e2, fx_yd b2 b3]) ⟨fx_10i, fx_v82 ht (by omega), nm_r (e' := upd d' (t * 82 + i) (nI (fx_dg 10 (V - W) i))) (by rw [fx_c82 ht (by omega), fx_irem (by omega), hd]) ?_⟩⟩
    by_cases c : fx_dg 10 V i < fx_dg 10 W i + fx_bw 10 V W i
    · rw [if_pos c] at hs
      rw [hs] at ih'
      exact br_f (nI_ge (b := 10) (by omega) (by omega)) (nm_r (nI_1 i) ih')
    · rw [if_neg c] at hs
      rw [hs] at ih'
      exact br_t (nI_le (a := 10) (by omega) (by omega)) (nm_r (nI_1 i) ih')
theorem cy_df {a b t V W : Nat} (ha : a < 16) (hb : b < 16) (ht : t < 16) (pA : fx_pd d (a * 82) 82 V) (pB : fx_pd d (b * 82) 82 W) (h : W ≤ V) {post : SY → Prop} (K : ∀ d', fy_fill d d' (t * 82) 82 (V - W) → post (sz, dp, oc, o, g, d', mi, bg, tm)) : wpY_difference post (sz, dp, oc, o, g, d, mi, bg, tm) (nI a) (nI b) (nI t) := by
  refine ⟨83, ?_⟩
  have h := cy_df_l (sz := sz) (dp := dp) (oc := oc) (o := o) (g := g) (mi := mi) (bg := bg) (tm := tm) ha hb ht pA pB h K 82 0 rfl d (fy_fill_0 d _ _)
  rw [fx_bw_0] at h
  exact h
end
end
section
/-! the reference: sum, product, division -/
theorem fx_ps_b {c : Nat → Nat} {C : Nat} (hC : 0 < C) (h : ∀ k, c k < C) : ∀ n, fx_ps c n < 10 ^ n * C := by
  intro n
  induction n with
  | zero => show 0 < 10 ^ 0 * C; rw [Nat.pow_zero, Nat.one_mul]; exact hC
  | succ n ih =>
    show fx_ps c n + 10 ^ n * c n < 10 ^ (n + 1) * C
    have h1 : 10 ^ n * c n ≤ 10 ^ n * C := Nat.mul_le_mul_left _ (Nat.le_of_lt (h n))
    have h2 : 10 ^ (n + 1) * C = 10 * (10 ^ n * C) := by rw [Nat.pow_succ]; grind
    have h3 : 0 < 10 ^ n * C := Nat.mul_pos (fx_pp (by omega) n) hC
    omega
theorem fx_T82 {V : Nat} (h : V < fx_T) : V < 10 ^ 82 := Nat.lt_trans h (by decide)
section
variable {sz dp oc : Int32} {o g d mi bg tm : Nat → Int32}
theorem cy_add {x y V m W k : Nat} (hx : x < 14) (hy : y < 14) (hm : m < 2) (hk : k < 2) (pX : fx_pd d (x * 82) 82 V) (sX : mi x = nI m) (pY : fx_pd d (y * 82) 82 W) (hV : V < fx_T) (hW : W < fx_T) {post : SY → Prop} (K : ∀ d', fy_fill d d' 1148 82 (fx_sv V m W k) → post (sz, dp, oc, o, g, d', upd mi 14 (nI (fx_sm V m W k)), bg, tm)) : wpY_add post (sz, dp, oc, o, g, d, mi, bg, tm) (nI x) (nI y) (nI k) := by
  refine ⟨fx_v16 (by omega), ?_⟩
  rw [fx_k16 (by omega), sX]
  unfold fx_sv fx_sm at K
  by_cases c : m = k
  · rw [if_pos c, if_pos c] at K
    refine br_t (by rw [c]) (cy_sm hx hy pX pY ?_)
    intro d' hf
    exact nm_r (e' := upd mi 14 (nI m)) (by rw [fy_bm hk, c]) (K d' hf)
  · rw [if_neg c, if_neg c] at K
    refine br_f (fun z => c ((nI_eq (by omega) (by omega)).mp z)) (cy_sz (by omega) (by omega) pX pY (fx_T82 hV) (fx_T82 hW) ?_)
    by_cases q : V < W
    · rw [if_neg (by omega), if_neg (by omega)] at K
      rw [fx_cmp_lt q]
      refine br_t (by decide) (cy_df (t := 14) (by omega) (by omega) (by omega) pY pX (by omega) ?_)
      intro d' hf
      exact nm_r (e' := upd mi 14 (nI k)) (by rw [fy_bm hk]) (K d' hf)
    · rw [if_pos (by omega), if_pos (by omega)] at K
      have hd : wpY_difference (fun u => match u with | (sz, dp, oc, o, g, d, mi, bg, tm) => vp_in (nI x) 16 ∧ (∀ z, z = upd mi 14 (vp_nar .boolean (mi x)) → post (sz, dp, oc, o, g, d, z, bg, tm))) (sz, dp, oc, o, g, d, mi, bg, tm) (nI x) (nI y) 14 := by
        refine cy_df (t := 14) (by omega) (by omega) (by omega) pX pY (by omega) ?_
        intro d' hf
        exact ⟨fx_v16 (by omega), nm_r (e' := upd mi 14 (nI m)) (by rw [sX, fy_bm hm]) (K d' hf)⟩
      by_cases z : V = W
      · have e0 : fx_cmp V W = 0 := by rw [z]; exact fx_cmp_eq W
        rw [e0]
        exact br_f (by decide) hd
      · rw [fx_cmp_gt (show W < V by omega)]
        exact br_f (by decide) hd
/-! the product -/
theorem cy_pr_n {x y V W m k : Nat} {c : Nat → Nat} (hx : x < 14) (hy : y < 14) (hm : m < 2) (hk : k < 2) (sX : mi x = nI m) (sY : mi y = nI k) (hc : ∀ k, c k ≤ 136161) (hps : fx_ps c 82 = V * W) {post : SY → Prop} (K : ∀ d', fy_fill d d' 1148 82 (V * W) → post (sz, dp, oc, o, g, d', upd mi 14 (nI (if m = k then 0 else 1)), bg, tm)) : ∀ e i, i + e = 82 → ∀ d', fy_fr d d' 1148 82 → fx_pd d' 1148 i (V * W) → (∀ k, i ≤ k → k < 82 → d' (1148 + k) = nI (c k)) → wY_product_111 post (nI x) (nI y) sz dp oc (e + 1) (nI (fx_ps c i / 10 ^ i)) (nI i) o g d' mi bg tm := by
  intro e
  induction e with
  | zero =>
    intro i hi d' hf hp _
    have : i = 82 := by omega
    subst this
    have K' := K d' ⟨hf, hp⟩
    refine br_t fx_82 ⟨fx_v16 (by omega), fx_v16 (by omega), ?_⟩
    rw [fx_k16 (by omega), fx_k16 (by omega), sX, sY]
    by_cases z : m = k
    · rw [if_pos z] at K'
      exact br_t (by rw [z]) (nm_r (e' := upd mi 14 (nI 0)) rfl K')
    · rw [if_neg z] at K'
      exact br_f (fun w => z ((nI_eq (by omega) (by omega)).mp w)) (nm_r (e' := upd mi 14 (nI 1)) rfl K')
  | succ e ih =>
    intro i hi d' hf hp hr
    have ei : ((1148 : Int32) + nI i).toNatClampNeg = 1148 + i := fx_cA (b := 1148) (by omega)
    have vi : vp_in ((1148 : Int32) + nI i) 1312 := fx_vA (b := 1148) (by omega)
    have b1 := hc i
    have b2 : fx_ps c i / 10 ^ i < 136162 := by
      rw [Nat.div_lt_iff_lt_mul (fx_pp (by omega) i), Nat.mul_comm]
      exact fx_ps_b (by omega) (fun k => by have := hc k; omega) i
    refine br_f (fx_n82 (by omega)) ⟨vi, nm_r (e' := nI (c i + fx_ps c i / 10 ^ i)) (by rw [ei, hr i (Nat.le_refl i) (by omega), nI_add]) ⟨fx_10i, vi, nm_r (e' := upd d' (1148 + i) (nI (fx_dg 10 (V * W) i))) (by rw [ei, fx_irem (by omega), fx_ps_dg c i 82 (by omega), hps]) ⟨fx_10i, nm_r (e' := nI (fx_ps c (i + 1) / 10 ^ (i + 1))) (by rw [fx_idiv (by omega), fx_ps_cy]) (nm_r (nI_1 i) (ih (i + 1) (by omega) _ ?_ ?_ ?_))⟩⟩⟩
    · intro j hj
      rw [pk_un (by omega)]; exact hf j hj
    · intro j hj
      by_cases e : j = i
      · subst e; rw [pk_us]
      · rw [pk_un (by omega)]; exact hp j (by omega)
    · intro j h1 h2
      rw [pk_un (by omega)]; exact hr j (by omega) h2
theorem cy_pr_i {x y V W i : Nat} (hx : x < 14) (hy : y < 14) (hi : i < 41) (pX : fx_pd d (x * 82) 82 V) (pY : fx_pd d (y * 82) 82 W) (hW : W < fx_T) {post : SY → Prop} {J : Int32 → (Nat → Int32) → (Nat → Int32) → (Nat → Int32) → (Nat → Int32) → (Nat → Int32) → (Nat → Int32) → Prop} (K : ∀ d' c, fy_fr d d' 1148 82 → (∀ k, k < 82 → d' (1148 + k) = nI (c k)) → (∀ k, c k ≤ 81 * (41 * (i + 1))) → fx_ps c 82 = V % 10 ^ (i + 1) * W → J (nI (i + 1)) o g d' mi bg tm) : ∀ e j, j + e = 41 → ∀ d' c, fy_fr d d' 1148 82 → (∀ k, k < 82 → d' (1148 + k) = nI (c k)) → (∀ k, c k ≤ 81 * (41 * i + j)) → fx_ps c 82 = V % 10 ^ i * W + fx_dg 10 V i * (W % 10 ^ j) * 10 ^ i → wY_product_36 post J (nI x) (nI y) (nI i) sz dp oc (e + 1) (nI j) o g d' mi bg tm := by
  intro e
  induction e with
  | zero =>
    intro j hj d' c hf hc hb hps
    have : j = 41 := by omega
    subst this
    rw [Nat.mod_eq_of_lt (Nat.lt_trans hW (by decide)), ← fx_row_p] at hps
    exact br_t (by decide) (nm_r (nI_1 i) (K d' c hf hc (fun k => by have := hb k; omega) hps))
  | succ e ih =>
    intro j hj d' c hf hc hb hps
    have ei : ((1148 : Int32) + nI i + nI j).toNatClampNeg = 1148 + (i + j) := by
      rw [show (1148 : Int32) = nI 1148 from rfl, nI_add, nI_add, nI_clamp (by omega)]; omega
    have vi : vp_in ((1148 : Int32) + nI i + nI j) 1312 := by
      rw [show (1148 : Int32) = nI 1148 from rfl, nI_add, nI_add]; exact vp_in_nI (by omega) (by omega)
    have e1 : d' (x * 82 + i) = nI (fx_dg 10 V i) := by rw [hf _ (by omega)]; exact pX i (by omega)
    have e2 : d' (y * 82 + j) = nI (fx_dg 10 W j) := by rw [hf _ (by omega)]; exact pY j (by omega)
    have b1 := fx_dg10 V i
    have b2 := fx_dg10 W j
    have b3 : fx_dg 10 V i * fx_dg 10 W j ≤ 9 * 9 := Nat.mul_le_mul (by omega) (by omega)
    refine br_f (nI_ge (b := 41) (by omega) (by omega)) ⟨vi, fx_v82 (by omega) (by omega), fx_v82 (by omega) (by omega), vi, nm_r (e' := upd d' (1148 + (i + j)) (nI (c (i + j) + fx_dg 10 V i * fx_dg 10 W j))) (by rw [ei, fx_c82 (by omega) (by omega), fx_c82 (by omega) (by omega), e1, e2, hc (i + j) (by omega), pk_mul, nI_add]) (nm_r (nI_1 j) (ih (j + 1) (by omega) _ (fx_up c (i + j) (c (i + j) + fx_dg 10 V i * fx_dg 10 W j)) ?_ ?_ ?_ (fx_col hps (by omega))))⟩
    · intro q hq
      rw [pk_un (by omega)]; exact hf q hq
    · intro q hq
      unfold fx_up
      by_cases e : q = i + j
      · rw [if_pos e, e, pk_us]
      · rw [if_neg e, pk_un (by omega)]; exact hc q hq
    · intro q
      unfold fx_up
      have hb1 := hb q
      have hb2 := hb (i + j)
      split <;> omega
theorem cy_pr_o {x y V W m k : Nat} (hx : x < 14) (hy : y < 14) (hm : m < 2) (hk : k < 2) (pX : fx_pd d (x * 82) 82 V) (sX : mi x = nI m) (pY : fx_pd d (y * 82) 82 W) (sY : mi y = nI k) (hV : V < fx_T) (hW : W < fx_T) {post : SY → Prop} (K : ∀ d', fy_fill d d' 1148 82 (V * W) → post (sz, dp, oc, o, g, d', upd mi 14 (nI (if m = k then 0 else 1)), bg, tm)) : ∀ e i, i + e = 41 → ∀ d' c, fy_fr d d' 1148 82 → (∀ k, k < 82 → d' (1148 + k) = nI (c k)) → (∀ k, c k ≤ 81 * (41 * i)) → fx_ps c 82 = V % 10 ^ i * W → wY_product_27 post (nI x) (nI y) sz dp oc (e + 1) (nI i) o g d' mi bg tm := by
  intro e
  induction e with
  | zero =>
    intro i hi d' c hf hc hb hps
    have : i = 41 := by omega
    subst this
    rw [Nat.mod_eq_of_lt (Nat.lt_trans hV (by decide))] at hps
    refine br_t (by decide) ⟨83, ?_⟩
    have h := cy_pr_n (sz := sz) (dp := dp) (oc := oc) (o := o) (g := g) (d := d) (bg := bg) (tm := tm) hx hy hm hk sX sY (fun q => hb q) hps K 82 0 rfl d' hf (fun q hq => absurd hq (by omega)) (fun q _ hq => hc q hq)
    have hz : fx_ps c 0 / 10 ^ 0 = 0 := Nat.zero_div _
    rw [hz] at h
    exact h
  | succ e ih =>
    intro i hi d' c hf hc hb hps
    refine br_f (nI_ge (b := 41) (by omega) (by omega)) ⟨42, ?_⟩
    refine cy_pr_i (d := d) hx hy (by omega) pX pY hW ?_ 41 0 rfl d' c hf hc (fun q => by have := hb q; omega) (by rw [Nat.pow_zero, Nat.mod_one, Nat.mul_zero, Nat.zero_mul, Nat.add_zero]; exact hps)
    intro d2 c2 hf2 hc2 hb2 hps2
    exact ih (i + 1) (by omega) d2 c2 hf2 hc2 hb2 hps2
theorem cy_pr_z {x y V W m k : Nat} (hx : x < 14) (hy : y < 14) (hm : m < 2) (hk : k < 2) (pX : fx_pd d (x * 82) 82 V) (sX : mi x = nI m) (pY : fx_pd d (y * 82) 82 W) (sY : mi y = nI k) (hV : V < fx_T) (hW : W < fx_T) {post : SY → Prop} (K : ∀ d', fy_fill d d' 1148 82 (V * W) → post (sz, dp, oc, o, g, d', upd mi 14 (nI (if m = k then 0 else 1)), bg, tm)) : ∀ e i, i + e = 82 → ∀ d', fy_fill d d' 1148 i 0 → wY_product_2 post (nI x) (nI y) sz dp oc (e + 1) (nI i) o g d' mi bg tm := by
  intro e
  induction e with
  | zero =>
    intro i hi d' hf
    have : i = 82 := by omega
    subst this
    refine br_t fx_82 ⟨42, cy_pr_o hx hy hm hk pX sX pY sY hV hW K 41 0 rfl d' (fun _ => 0) hf.1 ?_ (fun _ => Nat.zero_le _) ?_⟩
    · intro q hq
      rw [hf.2 q hq, fx_dg_0]
    · rw [fx_ps_0, Nat.pow_zero, Nat.mod_one, Nat.zero_mul]
  | succ e ih =>
    intro i hi d' hf
    exact br_f (fx_n82 (by omega)) ⟨fx_vA (b := 1148) (by omega), nm_r (e' := upd d' (1148 + i) (nI (fx_dg 10 0 i))) (by rw [show ((1148 : Int32) + nI i).toNatClampNeg = 1148 + i from fx_cA (b := 1148) (by omega), fx_dg_0]; rfl) (nm_r (nI_1 i) (ih (i + 1) (by omega) _ (fy_fill_s hf)))⟩
theorem cy_pr {x y V W m k : Nat} (hx : x < 14) (hy : y < 14) (hm : m < 2) (hk : k < 2) (pX : fx_pd d (x * 82) 82 V) (sX : mi x = nI m) (pY : fx_pd d (y * 82) 82 W) (sY : mi y = nI k) (hV : V < fx_T) (hW : W < fx_T) {post : SY → Prop} (K : ∀ d', fy_fill d d' 1148 82 (V * W) → post (sz, dp, oc, o, g, d', upd mi 14 (nI (if m = k then 0 else 1)), bg, tm)) : wpY_product post (sz, dp, oc, o, g, d, mi, bg, tm) (nI x) (nI y) :=
  ⟨83, cy_pr_z hx hy hm hk pX sX pY sY hV hW K 82 0 rfl d (fy_fill_0 d _ _)⟩
/-! division -/
theorem cy_ti_l {y W R : Nat} (hy : y < 14) (pY : fx_pd d (y * 82) 82 W) (hW : W < fx_T) (hR : R < 10 * W) {post : Int32 → SY → Prop} (K : ∀ d', fy_fr d d' 1230 82 → fx_pd d' 1230 82 (R % W) → post (nI (R / W)) (sz, dp, oc, o, g, d', mi, bg, tm)) : ∀ e i, i + e = 9 → ∀ d' r c, fy_fr d d' 1230 82 → fx_pd d' 1230 82 r → R = r + W * c → c ≤ i → (c = i ∨ r < W) → wY_times_4 post (nI y) (e + 1) (nI c) (nI i) sz dp oc o g d' mi bg tm := by
  have h82 : 10 * W < 10 ^ 82 := by
    have : 10 * fx_T < 10 ^ 82 := by decide
    omega
  intro e
  induction e with
  | zero =>
    intro i hi d' r c hf hp hr hc h
    have : i = 9 := by omega
    subst this
    have hlt : r < W := by
      rcases h with rfl | h
      · omega
      · exact h
    obtain ⟨q1, q2⟩ := fx_dm hr hlt
    rw [q2] at hp
    rw [q1]
    exact br_t (by decide) (K d' hf hp)
  | succ e ih =>
    intro i hi d' r c hf hp hr hc h
    have pY' : fx_pd d' (y * 82) 82 W := fun q hq => by rw [hf _ (by omega)]; exact pY q hq
    refine br_f (nI_ge (b := 9) (by omega) (by omega)) (cy_sz (a := 15) (by omega) (by omega) hp pY' (by omega) (fx_T82 hW) ?_)
    by_cases q : r < W
    · rw [fx_cmp_lt q]
      exact br_t (by decide) (nm_r (nI_1 i) (ih (i + 1) (by omega) d' r c hf hp hr (by omega) (Or.inr q)))
    · have hn : ¬ fx_cmp r W < 0 := by
        by_cases z : r = W
        · rw [z, fx_cmp_eq]; decide
        · rw [fx_cmp_gt (by omega)]; decide
      refine br_f hn (cy_df (a := 15) (t := 15) (by omega) (by omega) (by omega) hp pY' (by omega) ?_)
      intro d2 hf2
      refine nm_r (nI_1 c) (nm_r (nI_1 i) (ih (i + 1) (by omega) d2 (r - W) (c + 1) ?_ hf2.2 ?_ (by omega) (Or.inl (by omega))))
      · intro j hj
        rw [hf2.1 j hj]; exact hf j hj
      · rw [Nat.mul_add]; omega
theorem cy_ti {y W R : Nat} (hy : y < 14) (pY : fx_pd d (y * 82) 82 W) (hW : W < fx_T) (hR : R < 10 * W) (pR : fx_pd d 1230 82 R) {post : Int32 → SY → Prop} (K : ∀ d', fy_fr d d' 1230 82 → fx_pd d' 1230 82 (R % W) → post (nI (R / W)) (sz, dp, oc, o, g, d', mi, bg, tm)) : wpY_times post (sz, dp, oc, o, g, d, mi, bg, tm) (nI y) :=
  ⟨10, cy_ti_l hy pY hW hR K 9 0 rfl d R 0 (fun _ _ => rfl) pR (by omega) (Nat.le_refl 0) (Or.inl rfl)⟩
theorem cy_dv_s {x y V W i R : Nat} (hx : x < 14) (hy : y < 14) (hi : i < 41) (pX : fx_pd d (x * 82) 82 V) (pY : fx_pd d (y * 82) 82 W) (hW : W < fx_T) (hRW : R < W) (hR : R * 10 + fx_dg 10 V i < 10 * W) {post : SY → Prop} {J : Int32 → Int32 → Int32 → Int32 → (Nat → Int32) → (Nat → Int32) → (Nat → Int32) → (Nat → Int32) → (Nat → Int32) → (Nat → Int32) → Prop} (K : ∀ d', (∀ j, j < 1230 → j ≠ 1148 + i → d' j = d j) → d' (1148 + i) = nI ((R * 10 + fx_dg 10 V i) / W) → fx_pd d' 1230 82 ((R * 10 + fx_dg 10 V i) % W) → J (nI i + (-1)) sz dp oc o g d' mi bg tm) : ∀ k, k ≤ 41 → ∀ d', (∀ j, j < 1230 → d' j = d j) → (∀ j, j ≤ k → d' (1230 + j) = nI (fx_dg 10 R j)) → (∀ j, k < j → j < 82 → d' (1230 + j) = nI (fx_dg 10 (R * 10 + fx_dg 10 V i) j)) → wY_divide_47 post J (nI x) (nI y) (nI i) sz dp oc (k + 1) (nI k) o g d' mi bg tm := by
  intro k
  induction k with
  | zero =>
    intro _ d' hf h1 h2
    have e1 : d' (nI x * 82 + nI i).toNatClampNeg = nI (fx_dg 10 V i) := by rw [fx_c82 (by omega) (by omega), hf _ (by omega)]; exact pX i (by omega)
    refine br_t (by decide) ⟨fx_v82 (by omega) (by omega), nm_r (e' := upd d' 1230 (nI (fx_dg 10 V i))) (by rw [e1]) ?_⟩
    refine cy_ti hy ?_ hW hR ?_ ?_
    · intro q hq
      rw [pk_un (by omega), hf _ (by omega)]; exact pY q hq
    · intro q hq
      by_cases e : q = 0
      · subst e; rw [Nat.add_zero, pk_us, fx_shift_0 _ _ (fx_dg10 V i)]
      · rw [pk_un (by omega)]; exact h2 q (by omega) hq
    · intro d2 hf2 hp2
      refine ⟨fx_vA (b := 1148) (by omega), nm_r (e' := upd d2 (1148 + i) (nI ((R * 10 + fx_dg 10 V i) / W))) (by rw [show ((1148 : Int32) + nI i).toNatClampNeg = 1148 + i from fx_cA (b := 1148) (by omega)]) (nm_e (K _ ?_ pk_us ?_))⟩
      · intro j hj hne
        rw [pk_un hne, hf2 j (Or.inl hj), pk_un (by omega)]; exact hf j hj
      · intro q hq
        rw [pk_un (by omega)]; exact hp2 q hq
  | succ k ih =>
    intro hk d' hf h1 h2
    have e0 : ((1230 : Int32) + nI (k + 1)).toNatClampNeg = 1230 + (k + 1) := fx_cA (b := 1230) (by omega)
    have ep : (1230 : Int32) + nI (k + 1) - 1 = nI (1230 + k) := by
      rw [show (1230 : Int32) = nI 1230 from rfl, nI_add, ← Nat.add_assoc, nI_pred]
    refine br_f (nI_nle (by omega) (by omega)) ⟨by rw [ep]; exact vp_in_nI (by omega) (by omega), fx_vA (b := 1230) (by omega), nm_r (e' := upd d' (1230 + (k + 1)) (nI (fx_dg 10 R k))) (by rw [e0, ep, nI_clamp (by omega), h1 k (by omega)]) (nm_r (pk_m1 k) (ih (by omega) _ ?_ ?_ ?_))⟩
    · intro j hj
      rw [pk_un (by omega)]; exact hf j hj
    · intro j hj
      rw [pk_un (by omega)]; exact h1 j (by omega)
    · intro j hj hj2
      by_cases e : j = k + 1
      · subst e; rw [pk_us, fx_shift_s _ _ _ (fx_dg10 V i)]
      · rw [pk_un (by omega)]; exact h2 j (by omega) hj2
theorem cy_dv_o {x y V W m k : Nat} (hx : x < 14) (hy : y < 14) (hm : m < 2) (hk : k < 2) (pX : fx_pd d (x * 82) 82 V) (sX : mi x = nI m) (pY : fx_pd d (y * 82) 82 W) (sY : mi y = nI k) (hV : V < fx_T) (hW : W < fx_T) (hW0 : W ≠ 0) {post : SY → Prop} (K : ∀ d', (∀ j, j < 1148 → d' j = d j) → fx_pd d' 1148 82 (V / W) → fx_pd d' 1230 82 (V % W) → post (sz, dp, oc, o, g, d', upd (upd mi 14 (nI (if m = k then 0 else 1))) 15 (nI m), bg, tm)) : ∀ i, i ≤ 41 → ∀ d', (∀ j, j < 1148 → d' j = d j) → (∀ j, i ≤ j → j < 82 → d' (1148 + j) = nI (fx_dg 10 (V / W) j)) → fx_pd d' 1230 82 (V / 10 ^ i % W) → wY_divide_39 post (nI x) (nI y) (i + 1) (nI i + (-1)) sz dp oc o g d' mi bg tm := by
  have hWp : 0 < W := by omega
  intro i
  induction i with
  | zero =>
    intro _ d' hf hq hr
    rw [Nat.pow_zero, Nat.div_one] at hr
    have K' := K d' hf (fun j hj => hq j (by omega) hj) hr
    refine br_t fx_m1z ⟨fx_v16 (by omega), fx_v16 (by omega), ?_⟩
    rw [fx_k16 (by omega), fx_k16 (by omega), sX, sY]
    have h148 : ∀ z : Nat, z < 2 → (if m = k then 0 else 1) = z → wY_divide_148 post (nI x) (nI z) 14 sz dp oc o g d' mi bg tm := by
      intro z hz ez
      rw [ez] at K'
      exact ⟨fx_v16 (x := 14) (by omega), nm_r (e' := upd mi 14 (nI z)) (by rw [fy_bm hz]; rfl) ⟨fx_v16 (by omega), nm_r (e' := upd (upd mi 14 (nI z)) 15 (nI m)) (by rw [fx_k16 (by omega), pk_un (by omega), sX, fy_bm hm]) K'⟩⟩
    by_cases z : m = k
    · exact br_t (by rw [z]) (h148 0 (by omega) (if_pos z))
    · exact br_f (fun w => z ((nI_eq (by omega) (by omega)).mp w)) (h148 1 (by omega) (if_neg z))
  | succ i ih =>
    intro hi d' hf hq hr
    obtain ⟨s1, s2, s3⟩ := fx_div_step (B := 10) (by omega) V W i hWp
    have hRW : V / 10 ^ (i + 1) % W < W := Nat.mod_lt _ hWp
    rw [pk_m1]
    refine br_f (nI_pos (by omega)) ⟨42, ?_⟩
    refine cy_dv_s (d := d') (R := V / 10 ^ (i + 1) % W) (V := V) (W := W) hx hy (by omega) (fun q hq => by rw [hf _ (by omega)]; exact pX q hq) (fun q hq => by rw [hf _ (by omega)]; exact pY q hq) hW hRW s3 ?_ 41 (Nat.le_refl 41) d' (fun _ _ => rfl) (fun j hj => hr j (by omega)) ?_
    · intro d2 h1 h2 h3
      rw [s1] at h2
      rw [s2] at h3
      refine ih (by omega) d2 (fun j hj => by rw [h1 j (by omega) (by omega)]; exact hf j hj) ?_ h3
      intro j hj hj2
      by_cases e : j = i
      · subst e; exact h2
      · rw [h1 _ (by omega) (by omega)]; exact hq j (by omega) hj2
    · intro j hj hj2
      rw [hr j hj2]
      obtain ⟨t, rfl⟩ : ∃ t, j = t + 1 := ⟨j - 1, by omega⟩
      rw [fx_shift_s _ _ _ (fx_dg10 V i)]
      have hRT : V / 10 ^ (i + 1) % W < 10 ^ 40 := Nat.lt_trans hRW hW
      rw [fx_dg_hi (n := 40) (by omega) hRT (by omega), fx_dg_hi (n := 40) (by omega) hRT (by omega)]
theorem cy_dv_z {x y V W m k : Nat} (hx : x < 14) (hy : y < 14) (hm : m < 2) (hk : k < 2) (pX : fx_pd d (x * 82) 82 V) (sX : mi x = nI m) (pY : fx_pd d (y * 82) 82 W) (sY : mi y = nI k) (hV : V < fx_T) (hW : W < fx_T) (hW0 : W ≠ 0) {post : SY → Prop} (K : ∀ d', (∀ j, j < 1148 → d' j = d j) → fx_pd d' 1148 82 (V / W) → fx_pd d' 1230 82 (V % W) → post (sz, dp, oc, o, g, d', upd (upd mi 14 (nI (if m = k then 0 else 1))) 15 (nI m), bg, tm)) : ∀ e i, i + e = 82 → ∀ d', (∀ j, j < 1148 → d' j = d j) → (∀ j, j < i → d' (1148 + j) = 0 ∧ d' (1230 + j) = 0) → wY_divide_2 post (nI x) (nI y) sz dp oc (e + 1) (nI i) o g d' mi bg tm := by
  intro e
  induction e with
  | zero =>
    intro i hi d' hf hz
    have : i = 82 := by omega
    subst this
    refine br_t fx_82 ⟨42, ?_⟩
    have h := cy_dv_o (sz := sz) (dp := dp) (oc := oc) (o := o) (g := g) (bg := bg) (tm := tm) hx hy hm hk pX sX pY sY hV hW hW0 K 41 (Nat.le_refl 41) d' hf (by
      intro j h1 h2
      have : V / W < 10 ^ 40 := Nat.lt_of_le_of_lt (Nat.div_le_self V W) hV
      rw [(hz j h2).1, fx_dg_hi (n := 40) (by omega) this (by omega)]
      rfl) (by
      intro j hj
      rw [(hz j hj).2, Nat.div_eq_of_lt (Nat.lt_trans hV (by decide)), Nat.zero_mod, fx_dg_0]
      rfl)
    rw [pk_m1] at h
    exact h
  | succ e ih =>
    intro i hi d' hf hz
    refine br_f (fx_n82 (by omega)) ⟨fx_vA (b := 1148) (by omega), nm_r (e' := upd d' (1148 + i) 0) (by rw [show ((1148 : Int32) + nI i).toNatClampNeg = 1148 + i from fx_cA (b := 1148) (by omega)]) ⟨fx_vA (b := 1230) (by omega), nm_r (e' := upd (upd d' (1148 + i) 0) (1230 + i) 0) (by rw [show ((1230 : Int32) + nI i).toNatClampNeg = 1230 + i from fx_cA (b := 1230) (by omega)]) (nm_r (nI_1 i) (ih (i + 1) (by omega) _ ?_ ?_))⟩⟩
    · intro j hj
      rw [pk_un (by omega), pk_un (by omega)]; exact hf j hj
    · intro j hj
      by_cases e : j = i
      · subst e; exact ⟨by rw [pk_un (by omega), pk_us], pk_us⟩
      · have := hz j (by omega)
        exact ⟨by rw [pk_un (by omega), pk_un (by omega)]; exact this.1, by rw [pk_un (by omega), pk_un (by omega)]; exact this.2⟩
theorem cy_dv {x y V W m k : Nat} (hx : x < 14) (hy : y < 14) (hm : m < 2) (hk : k < 2) (pX : fx_pd d (x * 82) 82 V) (sX : mi x = nI m) (pY : fx_pd d (y * 82) 82 W) (sY : mi y = nI k) (hV : V < fx_T) (hW : W < fx_T) (hW0 : W ≠ 0) {post : SY → Prop} (K : ∀ d', (∀ j, j < 1148 → d' j = d j) → fx_pd d' 1148 82 (V / W) → fx_pd d' 1230 82 (V % W) → post (sz, dp, oc, o, g, d', upd (upd mi 14 (nI (if m = k then 0 else 1))) 15 (nI m), bg, tm)) : wpY_divide post (sz, dp, oc, o, g, d, mi, bg, tm) (nI x) (nI y) :=
  ⟨83, cy_dv_z hx hy hm hk pX sX pY sY hV hW hW0 K 82 0 rfl d (fun _ _ => rfl) (fun j hj => absurd hj (by omega))⟩
end
end
section
/-! the reference: order, one calculation, what is read -/
section
variable {sz dp oc : Int32} {o g d mi bg tm : Nat → Int32}
theorem cy_o45 {x y V m W k a b : Nat} (hx : x < 14) (hy : y < 14) (pX : fx_pd d (x * 82) 82 V) (pY : fx_pd d (y * 82) 82 W) (hV : V < fx_T) (hW : W < fx_T) (A : (fx_bl V m ∧ a = 1) ∨ (¬ fx_bl V m ∧ a = 0)) (B : (fx_bl W k ∧ b = 1) ∨ (¬ fx_bl W k ∧ b = 0)) {post : Int32 → Prop} (K : post (fx_ord V m W k)) : wY_order_45 post (nI x) (nI y) (nI a) (nI b) sz dp oc o g d mi bg tm := by
  rcases A with ⟨A, rfl⟩ | ⟨A, rfl⟩ <;> rcases B with ⟨B, rfl⟩ | ⟨B, rfl⟩
  · rw [fx_ord_tt A B] at K
    exact br_t rfl (br_f (by decide) (cy_sz (by omega) (by omega) pY pX (fx_T82 hW) (fx_T82 hV) K))
  · rw [fx_ord_tf A B] at K
    exact br_f (by decide) (br_f (by decide) K)
  · rw [fx_ord_ft A B] at K
    exact br_f (by decide) (br_t rfl K)
  · rw [fx_ord_ff A B] at K
    exact br_t rfl (br_t rfl (cy_sz (by omega) (by omega) pX pY (fx_T82 hV) (fx_T82 hW) K))
theorem cy_o22 {x y V m W k a : Nat} (hx : x < 14) (hy : y < 14) (hk : k < 2) (pX : fx_pd d (x * 82) 82 V) (pY : fx_pd d (y * 82) 82 W) (sY : mi y = nI k) (hV : V < fx_T) (hW : W < fx_T) (A : (fx_bl V m ∧ a = 1) ∨ (¬ fx_bl V m ∧ a = 0)) {post : Int32 → Prop} (K : post (fx_ord V m W k)) : wY_order_22 post (nI x) (nI y) (nI a) sz dp oc o g d mi bg tm := by
  refine ⟨fx_v16 (by omega), ?_⟩
  rw [fx_k16 (by omega), sY]
  by_cases c : k = 0
  · refine br_t (by rw [c]; rfl) ?_
    unfold wY_order_44
    exact cy_o45 (b := 0) hx hy pX pY hV hW A (Or.inr ⟨fun z => z.1 c, rfl⟩) K
  · refine br_f (nI_ne0 (by omega) (by omega)) (cy_ln (by omega) pY (fx_T82 hW) ?_)
    intro n hn hl
    by_cases z : n = 0
    · refine br_t (by rw [z]; decide) ?_
      unfold wY_order_44
      exact cy_o45 (b := 0) hx hy pX pY hV hW A (Or.inr ⟨fun w => w.2 ((fx_len_0 hl).mp z), rfl⟩) K
    · exact br_f (nI_nle (by omega) (by omega)) (cy_o45 (b := 1) hx hy pX pY hV hW A (Or.inl ⟨⟨c, fun w => z ((fx_len_0 hl).mpr w)⟩, rfl⟩) K)
theorem cy_or {x y V m W k : Nat} (hx : x < 14) (hy : y < 14) (hm : m < 2) (hk : k < 2) (pX : fx_pd d (x * 82) 82 V) (sX : mi x = nI m) (pY : fx_pd d (y * 82) 82 W) (sY : mi y = nI k) (hV : V < fx_T) (hW : W < fx_T) {post : Int32 → Prop} (K : post (fx_ord V m W k)) : wpY_order post (sz, dp, oc, o, g, d, mi, bg, tm) (nI x) (nI y) := by
  refine ⟨fx_v16 (by omega), ?_⟩
  rw [fx_k16 (by omega), sX]
  by_cases c : m = 0
  · refine br_t (by rw [c]; rfl) ?_
    unfold wY_order_21
    exact cy_o22 (a := 0) hx hy hk pX pY sY hV hW (Or.inr ⟨fun z => z.1 c, rfl⟩) K
  · refine br_f (nI_ne0 (by omega) (by omega)) (cy_ln (by omega) pX (fx_T82 hV) ?_)
    intro n hn hl
    by_cases z : n = 0
    · refine br_t (by rw [z]; decide) ?_
      unfold wY_order_21
      exact cy_o22 (a := 0) hx hy hk pX pY sY hV hW (Or.inr ⟨fun w => w.2 ((fx_len_0 hl).mp z), rfl⟩) K
    · exact br_f (nI_nle (by omega) (by omega)) (cy_o22 (a := 1) hx hy hk pX pY sY hV hW (Or.inl ⟨⟨c, fun w => z ((fx_len_0 hl).mpr w)⟩, rfl⟩) K)
theorem cy_fin {x r op V m W k : Nat} {d1 mi1 : Nat → Int32} (hx : x < 14) (hr : 14 ≤ r) (hr2 : r < 16) (hd1 : ∀ j, j < 1148 → d1 j = d j) (hm1 : ∀ s, s < 14 → mi1 s = mi s) (pR : fx_pd d1 (r * 82) 82 (fx_rv op V m W k)) (sR : mi1 r = nI (fx_rm op V m W k)) (hm : m < 2) (hk : k < 2) (h82 : fx_rv op V m W k < 10 ^ 82) (hz : ¬ ((op = 6 ∨ op = 7) ∧ W = 0)) {post : Int32 → SY → Prop} (K : ∀ d' mi', (∀ j, j < 1148 → (j < x * 82 ∨ x * 82 + 82 ≤ j) → d' j = d j) → (∀ s, s < 14 → s ≠ x → mi' s = mi s) → (fx_rc op V m W k = 0 → fx_pd d' (x * 82) 82 (fx_rv op V m W k) ∧ mi' x = nI (fx_rm op V m W k)) → post (fx_rc op V m W k) (sz, dp, oc, o, g, d', mi', bg, tm)) : wY_calculate_136 post (nI x) (nI r) sz dp oc o g d1 mi1 bg tm := by
  unfold wY_calculate_136
  refine cy_ln hr2 pR h82 ?_
  intro n hn hl
  have hg := fx_len_gt hl 40
  rw [fx_rc_n hz] at K
  by_cases c : fx_rv op V m W k < fx_T
  · rw [if_pos c] at K
    have c' : ¬ 10 ^ 40 ≤ fx_rv op V m W k := by rw [← fx_T40]; omega
    refine br_t (nI_le (b := 40) (by omega) (by omega)) (cy_cp hr2 (by omega) (by omega) pR sR (fx_rm_le hm hk) ?_)
    intro d' hf
    refine K d' _ (fun j h1 h2 => by rw [hf.1 j h2]; exact hd1 j h1) (fun s h1 h2 => by rw [pk_un h2]; exact hm1 s h1) (fun _ => ⟨hf.2, pk_us⟩)
  · rw [if_neg c] at K
    have c' : 10 ^ 40 ≤ fx_rv op V m W k := by rw [← fx_T40]; omega
    have := hg.mpr c'
    exact br_f (nI_ge (a := 40) (by omega) (by omega)) (K d1 mi1 (fun j h1 _ => hd1 j h1) (fun s h1 _ => hm1 s h1) (fun z => absurd z (by decide)))
theorem fx_sv82 {V m W k : Nat} (hV : V < fx_T) (hW : W < fx_T) : fx_sv V m W k < 10 ^ 82 := by
  have : fx_T + fx_T < 10 ^ 82 := by decide
  unfold fx_sv
  split
  · omega
  · split <;> omega
theorem cy_123 {x r op V m W k : Nat} {d1 mi1 : Nat → Int32} (hop : op < 12) (er : r = if op = 7 then 15 else 14) (hx : x < 14) (hd1 : ∀ j, j < 1148 → d1 j = d j) (hm1 : ∀ s, s < 14 → mi1 s = mi s) (pR : fx_pd d1 (r * 82) 82 (fx_rv op V m W k)) (sR : mi1 r = nI (fx_rm op V m W k)) (hm : m < 2) (hk : k < 2) (h82 : fx_rv op V m W k < 10 ^ 82) (hz : ¬ ((op = 6 ∨ op = 7) ∧ W = 0)) {post : Int32 → SY → Prop} (K : ∀ d' mi', (∀ j, j < 1148 → (j < x * 82 ∨ x * 82 + 82 ≤ j) → d' j = d j) → (∀ s, s < 14 → s ≠ x → mi' s = mi s) → (fx_rc op V m W k = 0 → fx_pd d' (x * 82) 82 (fx_rv op V m W k) ∧ mi' x = nI (fx_rm op V m W k)) → post (fx_rc op V m W k) (sz, dp, oc, o, g, d', mi', bg, tm)) : wY_calculate_123 post (nI op) (nI x) sz dp oc o g d1 mi1 bg tm := by
  by_cases c : op = 7
  · rw [if_pos c] at er
    subst er
    exact br_t (by rw [c]; rfl) (cy_fin (r := 15) hx (by omega) (by omega) hd1 hm1 pR sR hm hk h82 hz K)
  · rw [if_neg c] at er
    subst er
    exact br_f (fun z => c ((nI_eq (b := 7) (by omega) (by omega)).mp z)) (cy_fin (r := 14) hx (by omega) (by omega) hd1 hm1 pR sR hm hk h82 hz K)
theorem cy_c22 {x y V m W k op : Nat} (h3 : 3 ≤ op) (h8 : op ≤ 8) (hx : x < 14) (hy : y < 14) (hm : m < 2) (hk : k < 2) (pX : fx_pd d (x * 82) 82 V) (sX : mi x = nI m) (pY : fx_pd d (y * 82) 82 W) (sY : mi y = nI k) (hV : V < fx_T) (hW : W < fx_T) (hz : ¬ ((op = 6 ∨ op = 7) ∧ W = 0)) {post : Int32 → SY → Prop} (K : ∀ d' mi', (∀ j, j < 1148 → (j < x * 82 ∨ x * 82 + 82 ≤ j) → d' j = d j) → (∀ s, s < 14 → s ≠ x → mi' s = mi s) → (fx_rc op V m W k = 0 → fx_pd d' (x * 82) 82 (fx_rv op V m W k) ∧ mi' x = nI (fx_rm op V m W k)) → post (fx_rc op V m W k) (sz, dp, oc, o, g, d', mi', bg, tm)) : wY_calculate_22 post (nI op) (nI x) (nI y) sz dp oc o g d mi bg tm := by
  have hop : op = 3 ∨ op = 4 ∨ op = 5 ∨ op = 8 ∨ (op = 6 ∨ op = 7) := by omega
  rcases hop with rfl | rfl | rfl | rfl | h67
  · refine br_t (by decide) ⟨fx_v16 (by omega), ?_⟩
    rw [fx_k16 (by omega), sY]
    refine cy_add hx hy hm hk pX sX pY hV hW ?_
    intro d' hf
    exact cy_123 (op := 3) (V := V) (m := m) (W := W) (k := k) (mi := mi) (d := d) (r := 14) (by omega) rfl hx (fun j hj => hf.1 j (Or.inl hj)) (fun s hs => pk_un (by omega)) hf.2 pk_us hm hk (fx_sv82 hV hW) hz K
  · refine br_f (by decide) (br_t (by decide) ⟨fx_v16 (by omega), ?_⟩)
    rw [fx_k16 (by omega), sY]
    have h64 : ∀ z : Nat, z = 1 - k → wY_calculate_64 post (nI 4) (nI x) (nI z) (nI y) (nI x) sz dp oc o g d mi bg tm := by
      intro z ez
      subst ez
      unfold wY_calculate_64
      refine cy_add hx hy hm (by omega) pX sX pY hV hW ?_
      intro d' hf
      exact cy_123 (op := 4) (V := V) (m := m) (W := W) (k := k) (mi := mi) (d := d) (r := 14) (by omega) rfl hx (fun j hj => hf.1 j (Or.inl hj)) (fun s hs => pk_un (by omega)) hf.2 pk_us hm hk (fx_sv82 hV hW) hz K
    by_cases c : k = 0
    · exact br_t (by rw [c]; rfl) (h64 1 (by omega))
    · exact br_f (nI_ne0 (by omega) (by omega)) (h64 0 (by omega))
  · refine br_f (by decide) (br_f (by decide) (br_t (by decide) (cy_pr hx hy hm hk pX sX pY sY hV hW ?_)))
    intro d' hf
    have hlt : V * W < 10 ^ 82 := Nat.lt_trans (fx_lt_mul hV hW) (by decide)
    exact cy_123 (op := 5) (V := V) (m := m) (W := W) (k := k) (mi := mi) (d := d) (r := 14) (by omega) rfl hx (fun j hj => hf.1 j (Or.inl hj)) (fun s hs => pk_un (by omega)) hf.2 pk_us hm hk hlt hz K
  · refine br_f (by decide) (br_f (by decide) (br_f (by decide) (br_t (by decide) (cy_or hx hy hm hk pX sX pY sY hV hW ?_))))
    have hw : ∀ z : Int32, z = (if fx_ord V m W k < 0 then 1 else 0) → wY_calculate_111 post (nI 8) (nI x) z 14 sz dp oc o g d mi bg tm := by
      intro z hz2
      unfold wY_calculate_111
      refine cy_wr (s := 14) (by omega) z ?_
      intro d' hf
      have e1 : fx_rv 8 V m W k = fx_ab z := by
        rw [hz2]
        show (if fx_ord V m W k < 0 then 1 else 0) = _
        split <;> decide
      have e2 : fx_mn z = 0 := by
        rw [hz2]
        split <;> decide
      refine cy_123 (op := 8) (V := V) (m := m) (W := W) (k := k) (mi := mi) (d := d) (r := 14) (by omega) rfl hx (fun j hj => hf.1 j (Or.inl hj)) (fun s hs => pk_un (by omega)) (by rw [e1]; exact hf.2) ?_ hm hk (by rw [e1]; exact Nat.lt_trans (fx_ab_lt z) (by decide)) hz K
      rw [pk_us, e2]
      rfl
    by_cases c : fx_ord V m W k < 0
    · exact br_f (Int32.not_le.mpr c) (hw 1 (by rw [if_pos c]))
    · exact br_t (Int32.not_lt.mp c) (hw 0 (by rw [if_neg c]))
  · have n3 : ¬ nI op = 3 := fun z => by have := (nI_eq (b := 3) (by omega) (by omega)).mp z; omega
    have n4 : ¬ nI op = 4 := fun z => by have := (nI_eq (b := 4) (by omega) (by omega)).mp z; omega
    have n5 : ¬ nI op = 5 := fun z => by have := (nI_eq (b := 5) (by omega) (by omega)).mp z; omega
    have n8 : ¬ nI op = 8 := fun z => by have := (nI_eq (b := 8) (by omega) (by omega)).mp z; omega
    have hW0 : W ≠ 0 := fun z => hz ⟨h67, z⟩
    refine br_f n3 (br_f n4 (br_f n5 (br_f n8 (cy_dv hx hy hm hk pX sX pY sY hV hW hW0 ?_))))
    intro d' hf hq hr
    rcases h67 with rfl | rfl
    · refine cy_123 (op := 6) (V := V) (m := m) (W := W) (k := k) (mi := mi) (d := d) (r := 14) (by omega) rfl hx hf (fun s hs => by rw [pk_un (by omega), pk_un (by omega)]) hq ?_ hm hk (Nat.lt_of_le_of_lt (Nat.div_le_self V W) (fx_T82 hV)) hz K
      rw [pk_un (by omega), pk_us]
      rfl
    · refine cy_123 (op := 7) (V := V) (m := m) (W := W) (k := k) (mi := mi) (d := d) (r := 15) (by omega) rfl hx hf (fun s hs => by rw [pk_un (by omega), pk_un (by omega)]) hr ?_ hm hk (Nat.lt_trans (Nat.mod_lt V (by omega)) (fx_T82 hW)) hz K
      rw [pk_us]
      rfl
theorem cy_calc {x y V m W k op : Nat} (h3 : 3 ≤ op) (h8 : op ≤ 8) (hx : x < 14) (hy : y < 14) (hm : m < 2) (hk : k < 2) (pX : fx_pd d (x * 82) 82 V) (sX : mi x = nI m) (pY : fx_pd d (y * 82) 82 W) (sY : mi y = nI k) (hV : V < fx_T) (hW : W < fx_T) {post : Int32 → SY → Prop} (K : ∀ d' mi', (∀ j, j < 1148 → (j < x * 82 ∨ x * 82 + 82 ≤ j) → d' j = d j) → (∀ s, s < 14 → s ≠ x → mi' s = mi s) → (fx_rc op V m W k = 0 → fx_pd d' (x * 82) 82 (fx_rv op V m W k) ∧ mi' x = nI (fx_rm op V m W k)) → post (fx_rc op V m W k) (sz, dp, oc, o, g, d', mi', bg, tm)) : wpY_calculate post (sz, dp, oc, o, g, d, mi, bg, tm) (nI op) (nI x) (nI y) := by
  have h12 : (op = 6 ∨ op = 7) → wY_calculate_12 post (nI op) (nI x) (nI y) sz dp oc o g d mi bg tm := by
    intro h67
    unfold wY_calculate_12
    refine cy_ln (by omega) pY (fx_T82 hW) ?_
    intro n hn hl
    by_cases z : n = 0
    · have hW0 := (fx_len_0 hl).mp z
      have K' := K d mi (fun _ _ _ => rfl) (fun _ _ _ => rfl) (fun h0 => absurd (h0.symm.trans (fx_rc_z ⟨h67, hW0⟩)) (by decide))
      rw [fx_rc_z ⟨h67, hW0⟩] at K'
      exact br_t (by rw [z]; rfl) K'
    · exact br_f (nI_ne0 (by omega) (by omega)) (cy_c22 h3 h8 hx hy hm hk pX sX pY sY hV hW (fun w => z ((fx_len_0 hl).mpr w.2)) K)
  by_cases c6 : op = 6
  · exact br_t (by rw [c6]; rfl) (h12 (Or.inl c6))
  · refine br_f (fun z => c6 ((nI_eq (b := 6) (by omega) (by omega)).mp z)) ?_
    by_cases c7 : op = 7
    · exact br_t (by rw [c7]; rfl) (h12 (Or.inr c7))
    · exact br_f (fun z => c7 ((nI_eq (b := 7) (by omega) (by omega)).mp z)) (cy_c22 h3 h8 hx hy hm hk pX sX pY sY hV hW (by omega) K)
theorem cy_sl_l {s V m : Nat} (hs : s < 16) (hm : m < 2) (pa : fx_pd d (s * 82) 82 V) (sa : mi s = nI m) {post : Int64 → Prop} (K : post (fx_l V m)) : ∀ i, i ≤ 10 → wY_small_6 post (nI s) sz dp oc o g d mi bg tm (i + 1) (lN (V / 10 ^ i)) (nI i + (-1)) := by
  intro i
  induction i with
  | zero =>
    intro _
    rw [Nat.pow_zero, Nat.div_one]
    refine br_t fx_m1z ⟨fx_v16 hs, ?_⟩
    rw [fx_k16 hs, sa]
    unfold fx_l at K
    by_cases c : m = 0
    · rw [if_pos c] at K
      exact br_t (by rw [c]; rfl) K
    · rw [if_neg c] at K
      exact br_f (nI_ne0 (by omega) (by omega)) K
  | succ i ih =>
    intro hi
    have b := fx_dg10 V i
    rw [pk_m1]
    refine br_f (nI_pos (by omega)) ⟨fx_v82 hs (by omega), nm_r (e' := lN (V / 10 ^ i)) ?_ (nm_e (ih (by omega)))⟩
    rw [fx_c82 hs (by omega), pa i (by omega), nI_l (by omega), fx_10, lN_mul, lN_add, fx_ds 10 V i, Nat.mul_comm]
theorem cy_sl {s V m : Nat} (hs : s < 16) (hm : m < 2) (pa : fx_pd d (s * 82) 82 V) (sa : mi s = nI m) (hV : V < 10 ^ 10) {post : Int64 → Prop} (K : post (fx_l V m)) : wpY_small post (sz, dp, oc, o, g, d, mi, bg, tm) (nI s) := by
  refine ⟨11, ?_⟩
  have h := cy_sl_l (sz := sz) (dp := dp) (oc := oc) (o := o) (g := g) (bg := bg) (tm := tm) hs hm pa sa K 10 (Nat.le_refl 10)
  rw [Nat.div_eq_of_lt hV, pk_m1] at h
  exact h
end
end
section
/-! the reference: the end of a block, the run -/
section
variable {sz dp oc : Int32} {o g d mi bg tm : Nat → Int32}
theorem cy_en_l {n p : Nat} (hN : n ≤ 40) (H : bk_wf o g n) (hn : bk_st o n = []) {post : Int32 → Prop} (K : ∀ q, q < n → o q = 11 → bk_st o q = p :: bk_st o p → post (nI q)) : ∀ e i l, i + e = n → bk_st o i = l ++ (p :: bk_st o p) → wY_end_4 post (nI n) dp oc o g d mi bg tm (e + 1) (nI (l.length + 1)) (nI i) := by
  intro e
  induction e with
  | zero =>
    intro i l hi h
    have : i = n := by omega
    subst this
    rw [hn] at h
    cases l <;> exact nomatch h
  | succ e ih =>
    intro i l hi h
    obtain ⟨k, hk, ho, _⟩ := H i (by omega)
    have hs := bk_st_s ho hk
    have hlen := bk_len H i (by omega)
    rw [h, List.length_append] at hlen
    have v40 : vp_in (nI i) 40 := fx_v40 (by omega)
    have k40 : (nI i).toNatClampNeg = i := fx_k40 (by omega)
    refine br_f (nI_ge (by omega) (by omega)) ⟨v40, ?_⟩
    rw [k40]
    by_cases c9 : k = 9
    · subst c9
      rw [if_pos (Or.inl rfl), h] at hs
      exact br_t ho (nm_r (nI_1 _) ⟨v40, br_f (by rw [k40, ho]; decide) (nm_r (nI_1 i) (ih (i + 1) (i :: l) (by omega) hs))⟩)
    · have n9 : ¬ o i = 9 := by rw [ho]; exact fun z => c9 ((nI_eq (b := 9) (by omega) (by omega)).mp z)
      refine br_f n9 ⟨v40, ?_⟩
      by_cases c10 : k = 10
      · subst c10
        rw [if_pos (Or.inr rfl), h] at hs
        exact br_t ho (nm_r (nI_1 _) ⟨v40, br_f (by rw [k40, ho]; decide) (nm_r (nI_1 i) (ih (i + 1) (i :: l) (by omega) hs))⟩)
      · have n10 : ¬ o i = 10 := by rw [ho]; exact fun z => c10 ((nI_eq (b := 10) (by omega) (by omega)).mp z)
        rw [if_neg (by omega)] at hs
        refine br_f n10 ⟨v40, ?_⟩
        rw [k40]
        by_cases c11 : k = 11
        · subst c11
          rw [if_pos rfl, h] at hs
          refine br_t ho (nm_r (pk_m1 _) ?_)
          cases l with
          | nil => exact br_t rfl (K i (by omega) ho h)
          | cons b l =>
            rw [List.length_cons] at hlen
            exact br_f (nI_ne0 (by rw [List.length_cons]; omega) (by rw [List.length_cons]; omega)) (nm_r (nI_1 i) (ih (i + 1) l (by omega) hs))
        · have n11 : ¬ o i = 11 := by rw [ho]; exact fun z => c11 ((nI_eq (b := 11) (by omega) (by omega)).mp z)
          rw [if_neg c11, h] at hs
          exact br_f n11 (nm_r (nI_1 i) (ih (i + 1) l (by omega) hs))
theorem cy_en {n p : Nat} (hN : n ≤ 40) (H : bk_wf o g n) (hn : bk_st o n = []) (hp : p < n) (h9 : o p = 9) {post : Int32 → Prop} (K : ∀ q, q < n → o q = 11 → bk_st o q = p :: bk_st o p → post (nI q)) : wpY_end post (nI n, dp, oc, o, g, d, mi, bg, tm) (nI p) := by
  have v40 : vp_in (nI p) 40 := fx_v40 (by omega)
  have k40 : (nI p).toNatClampNeg = p := fx_k40 (by omega)
  have h := cy_en_l (dp := dp) (oc := oc) (d := d) (mi := mi) (bg := bg) (tm := tm) hN H hn K (n - (p + 1)) (p + 1) [] (by omega) (bk_open (Or.inl h9))
  exact ⟨n - (p + 1) + 2, br_f (nI_ge (by omega) (by omega)) ⟨v40, br_t (by rw [k40]; exact h9) (nm_r (e' := nI 1) rfl ⟨v40, br_f (by rw [k40, h9]; decide) (nm_r (nI_1 p) h)⟩)⟩⟩
theorem cy_284 {k h stp : Nat} {x3 x6 : Int32} (hk : k < 12) (hh : 2 ≤ k → k ≤ 9 → 1 ≤ h) {post : Int32 → SY → Prop} {J : Int32 → Int32 → Int32 → Int32 → Int32 → Int32 → Int32 → (Nat → Int32) → (Nat → Int32) → (Nat → Int32) → (Nat → Int32) → (Nat → Int32) → (Nat → Int32) → Prop} (K : J x6 (nI (if k ≤ 1 then h + 1 else if k ≤ 9 then h - 1 else h)) x3 (nI (stp + 1)) sz dp oc o g d mi bg tm) : wY_run_284 post J (nI h) x3 (nI stp) (nI k) x6 sz dp oc o g d mi bg tm := by
  by_cases c1 : k ≤ 1
  · rw [if_pos c1] at K
    exact br_f (nI_nlt (b := k) (a := 1) c1 (by omega)) (nm_r (nI_1 h) (nm_r (nI_1 stp) K))
  · rw [if_neg c1] at K
    refine br_t (nI_lt (a := 1) (by omega) (by omega)) ?_
    by_cases c9 : k ≤ 9
    · rw [if_pos c9] at K
      have h1 := hh (by omega) c9
      obtain ⟨t, rfl⟩ : ∃ t, h = t + 1 := ⟨h - 1, by omega⟩
      exact br_f (nI_nlt (b := k) (a := 9) c9 (by omega)) (nm_r (pk_m1 t) (nm_r (nI_1 stp) K))
    · rw [if_neg c9] at K
      exact br_t (nI_lt (a := 9) (by omega) (by omega)) (nm_r (nI_1 stp) K)
theorem fx_k4 {p : Nat} (h : p < 4) : (nI p).toNatClampNeg = p := nI_clamp (by omega)
theorem fx_v4 {p : Nat} (h : p < 4) : vp_in (nI p) 4 := vp_in_nI h (by omega)
theorem ys_put {d d' mi mi' : Nat → Int32} {c c' x v m : Nat} {V M : Nat → Nat} (h : ys_all d mi c V M) (hf : fy_fill d d' (x * 82) 82 v) (hm : mi' = upd mi x (nI m)) (hc : ∀ s, s < c' → s ≠ x → s < c) : ys_all d' mi' c' (fx_up V x v) (fx_up M x m) := by
  subst hm
  refine ys_wr h ?_ (fun s _ e => pk_un e) ⟨hf.2, pk_us⟩ hc
  intro s _ e p i hi
  rw [hf.1 _ (by omega)]
  exact p i hi
theorem cy_run {n : Nat} {e : Nat → Int32} (hN : n ≤ 40) (H : bk_wf o g n) (hn : bk_st o n = []) (PT : bk_pt o e n) {post : Int32 → SY → Prop} : ∀ (f stp p : Nat) (V M : Nat → Nat) (rl d mi bg tm : Nat → Int32), stp + f = 8640 → p ≤ n → mc_G (8 + bk_dp o p) V M → ys_all d mi (8 + bk_dp o p) V M → bk_rs o bg tm rl (bk_st o p) → (∀ d' mi' bg' tm', ys_all d' mi' 8 (mc_run o g e n f p V M rl).2.1 (mc_run o g e n f p V M rl).2.2 → post (mc_run o g e n f p V M rl).1 (nI n, dp, oc, o, g, d', mi', bg', tm')) → wY_run_26 post (f + 1) (nI p) (nI (bk_dp o p)) (nI (bk_st o p).length) (nI stp) (nI n) dp oc o g d mi bg tm := by
  intro f
  induction f with
  | zero =>
    intro stp p V M rl d mi bg tm hs hp G YA RS K
    have : stp = 8640 := by omega
    subst this
    exact br_t (by decide) (K d mi bg tm (ys_all_le YA (by omega)))
  | succ f ih =>
    intro stp p V M rl d mi bg tm hs hp G YA RS K
    refine br_f (nI_ge (b := 8640) (by omega) (by omega)) ?_
    by_cases hpn : p < n
    · obtain ⟨k, hk, ho, t⟩ := H p hpn
      obtain ⟨ta, tp, t6, t9, t10, t3, t11⟩ := t
      have hR : mc_run o g e n (f + 1) p V M rl = if mc_c k (bk_dp o p) V M = 0 then mc_run o g e n f (mc_p k (bk_dp o p) p (mc_s o p) (o (mc_s o p)) (e p) V rl) (mc_V k (bk_dp o p) (g p) V M) (mc_M k (bk_dp o p) (g p) V M) (mc_rl k p (mc_s o p) (o (mc_s o p)) (g p) rl) else (mc_c k (bk_dp o p) V M, V, M) := by
        show (if p < n then _ else _) = _
        rw [if_pos hpn, mc_kk ho hk]
      rw [hR] at K
      have nx := mc_nx (V := V) (rl := rl) hN H hn PT hpn ho hk
      have v40 : vp_in (nI p) 40 := fx_v40 (by omega)
      have k40 : (nI p).toNatClampNeg = p := fx_k40 (by omega)
      have h6 := bk_dp_6 H p (by omega)
      have hl3 := bk_len H p (by omega)
      have hh : 2 ≤ k → k ≤ 9 → 1 ≤ bk_dp o p := by
        intro a b
        unfold bk_pops at tp
        split at tp
        · omega
        · rw [if_pos (by omega)] at tp; exact tp
      -- what every case ends with
      have hend : ∀ (q : Nat) (d' mi' bg' tm' : Nat → Int32), mc_c k (bk_dp o p) V M = 0 → q = mc_p k (bk_dp o p) p (mc_s o p) (o (mc_s o p)) (e p) V rl → ys_all d' mi' (8 + (if k ≤ 1 then bk_dp o p + 1 else if k ≤ 9 then bk_dp o p - 1 else bk_dp o p)) (mc_V k (bk_dp o p) (g p) V M) (mc_M k (bk_dp o p) (g p) V M) → bk_rs o bg' tm' (mc_rl k p (mc_s o p) (o (mc_s o p)) (g p) rl) (bk_st o q) → wY_run_284 post (wY_run_26 post (f + 1)) (nI (bk_dp o p)) (nI (bk_st o q).length) (nI stp) (nI k) (nI q) (nI n) dp oc o g d' mi' bg' tm' := by
        intro q d' mi' bg' tm' hc hq YA' RS'
        have G' := mc_nG H hpn ho hk G hc
        rw [if_pos hc, ← hq] at K
        rw [← hq] at nx
        refine cy_284 hk hh ?_
        rw [← nx.2.1] at G' YA' ⊢
        exact ih (stp + 1) q _ _ _ d' mi' bg' tm' (by omega) nx.1 G' YA' RS' K
      refine br_f (nI_ge (by omega) (by omega)) ⟨v40, nm_r (e' := nI k) (by rw [k40]; exact ho) (nm_r (nI_1 p) ?_)⟩
      by_cases k8 : k ≤ 8
      · have ep : mc_p k (bk_dp o p) p (mc_s o p) (o (mc_s o p)) (e p) V rl = p + 1 := by
          unfold mc_p; rw [if_neg (by omega), if_neg (by omega)]
        have er : mc_rl k p (mc_s o p) (o (mc_s o p)) (g p) rl = rl := by
          unfold mc_rl; rw [if_neg (by omega), if_neg (by omega)]
        have es : bk_st o (p + 1) = bk_st o p := by
          rw [bk_st_s ho hk, if_neg (by omega), if_neg (by omega)]
        have hend2 := hend (p + 1)
        rw [er, ep, es] at hend2
        rw [k40]
        by_cases c0 : k = 0
        · subst c0
          have h66 := t6 (by omega)
          refine br_t rfl ⟨v40, ?_⟩
          rw [fx_8h]
          refine cy_wr (by omega) (g p) ?_
          intro d' hf
          exact hend2 d' _ bg tm rfl rfl (ys_put YA hf rfl (fun s h1 h2 => by rw [if_pos (by omega)] at h1; omega)) RS
        · refine br_f (fun z => c0 ((nI_eq (b := 0) (by omega) (by omega)).mp z)) ?_
          by_cases c1 : k = 1
          · subst c1
            have h66 := t6 (by omega)
            obtain ⟨v, hv, hg⟩ := ta (Or.inl rfl)
            refine br_t rfl ⟨v40, ?_⟩
            rw [fx_8h, hg]
            have pa := YA v (by omega)
            have ga := G v (by omega)
            refine cy_cp (by omega) (by omega) (by omega) pa.1 pa.2 ga.2 ?_
            intro d' hf
            refine hend2 d' _ bg tm rfl rfl ?_ RS
            have e1 : (g p).toNatClampNeg = v := by rw [hg]; exact nI_clamp (by omega)
            show ys_all _ _ _ (fx_up V (8 + bk_dp o p) (V (g p).toNatClampNeg)) (fx_up M (8 + bk_dp o p) (M (g p).toNatClampNeg))
            rw [e1]
            exact ys_put YA hf rfl (fun s h1 h2 => by rw [if_pos (by omega)] at h1; omega)
          · refine br_f (fun z => c1 ((nI_eq (b := 1) (by omega) (by omega)).mp z)) ?_
            have hp1 := hh (by omega) (by omega)
            have ed : (if k ≤ 1 then bk_dp o p + 1 else if k ≤ 9 then bk_dp o p - 1 else bk_dp o p) = bk_dp o p - 1 := by rw [if_neg (by omega), if_pos (by omega)]
            rw [ed] at hend2
            by_cases c2 : k = 2
            · subst c2
              obtain ⟨v, hv, hg⟩ := ta (Or.inr rfl)
              refine br_t rfl ⟨v40, ?_⟩
              rw [show (7 : Int32) + nI (bk_dp o p) = nI (7 + bk_dp o p) from nI_add 7 _, hg]
              have pa := YA (7 + bk_dp o p) (by omega)
              have ga := G (7 + bk_dp o p) (by omega)
              refine cy_cp (by omega) (by omega) (by omega) pa.1 pa.2 ga.2 ?_
              intro d' hf
              refine hend2 d' _ bg tm rfl rfl ?_ RS
              have e1 : (g p).toNatClampNeg = v := by rw [hg]; exact nI_clamp (by omega)
              show ys_all _ _ _ (fx_up V (g p).toNatClampNeg (V (7 + bk_dp o p))) (fx_up M (g p).toNatClampNeg (M (7 + bk_dp o p)))
              rw [e1]
              exact ys_put YA hf rfl (fun s h1 h2 => by omega)
            · refine br_f (fun z => c2 ((nI_eq (b := 2) (by omega) (by omega)).mp z)) (br_f (nI_nlt (a := 8) k8 (by omega)) ?_)
              have hp2 : 2 ≤ bk_dp o p := by
                unfold bk_pops at tp
                rw [if_pos (by omega)] at tp
                exact tp
              rw [show (7 : Int32) + nI (bk_dp o p) = nI (7 + bk_dp o p) from nI_add 7 _, show (6 : Int32) + nI (bk_dp o p) = nI (6 + bk_dp o p) from nI_add 6 _]
              have pa := YA (6 + bk_dp o p) (by omega)
              have pb := YA (7 + bk_dp o p) (by omega)
              have ga := G (6 + bk_dp o p) (by omega)
              have gb := G (7 + bk_dp o p) (by omega)
              have ec : mc_c k (bk_dp o p) V M = fx_rc k (V (6 + bk_dp o p)) (M (6 + bk_dp o p)) (V (7 + bk_dp o p)) (M (7 + bk_dp o p)) := if_pos ⟨by omega, k8⟩
              refine cy_calc (by omega) k8 (by omega) (by omega) ga.2 gb.2 pa.1 pa.2 pb.1 pb.2 ga.1 gb.1 ?_
              intro d' mi' hfr hm' hpic
              rw [ec] at hend2 K
              by_cases z : fx_rc k (V (6 + bk_dp o p)) (M (6 + bk_dp o p)) (V (7 + bk_dp o p)) (M (7 + bk_dp o p)) = 0
              · rw [z]
                refine br_t rfl (hend2 d' mi' bg tm z rfl ?_ RS)
                unfold mc_V mc_M
                rw [if_neg c0, if_neg c0, if_neg c1, if_neg c1, if_neg c2, if_neg c2, if_pos k8, if_pos k8]
                refine ys_wr YA ?_ (fun s h1 h2 => hm' s (by omega) h2) (hpic z) (fun s h1 h2 => by omega)
                intro s h1 h2 pp i hi
                rw [hfr _ (by omega) (by omega)]
                exact pp i hi
              · refine br_f z ?_
                rw [if_neg z] at K
                refine K d' mi' bg tm ?_
                intro s hs8
                have a := YA s (by omega)
                exact ⟨fun i hi => by rw [hfr _ (by omega) (by omega)]; exact a.1 i hi, by rw [hm' s (by omega) (by omega)]; exact a.2⟩
      · have hc : mc_c k (bk_dp o p) V M = 0 := by unfold mc_c; rw [if_neg (by omega)]
        have eV : mc_V k (bk_dp o p) (g p) V M = V := by
          unfold mc_V; rw [if_neg (by omega), if_neg (by omega), if_neg (by omega), if_neg k8]
        have eM : mc_M k (bk_dp o p) (g p) V M = M := by
          unfold mc_M; rw [if_neg (by omega), if_neg (by omega), if_neg (by omega), if_neg k8]
        have hYA : ∀ c, c ≤ bk_dp o p → ys_all d mi (8 + c) V M := fun c hcc => ys_all_le YA (by omega)
        have hle : (if k ≤ 1 then bk_dp o p + 1 else if k ≤ 9 then bk_dp o p - 1 else bk_dp o p) ≤ bk_dp o p := by
          rw [if_neg (by omega)]; split <;> omega
        rw [eV, eM] at hend
        have n0 : ¬ nI k = 0 := fun z => by have := (nI_eq (b := 0) (by omega) (by omega)).mp z; omega
        have n1 : ¬ nI k = 1 := fun z => by have := (nI_eq (b := 1) (by omega) (by omega)).mp z; omega
        have n2 : ¬ nI k = 2 := fun z => by have := (nI_eq (b := 2) (by omega) (by omega)).mp z; omega
        refine br_f n0 (br_f n1 (br_f n2 (br_t (nI_lt (a := 8) (by omega) (by omega)) ?_)))
        -- IF that goes on, and REPEAT
        have hopen : (k = 9 ∧ ¬ V (7 + bk_dp o p) = 0) ∨ k = 10 → wY_run_201 post (wY_run_26 post (f + 1)) (nI p) (nI (bk_dp o p)) (nI (bk_st o p).length) (nI stp) (nI k) (nI (p + 1)) (nI n) dp oc o g d mi bg tm := by
          intro hko
          have hl := t3 (by omega)
          have eop : o p = 9 ∨ o p = 10 := by
            rw [ho]
            rcases hko with h | h
            · rw [h.1]; exact Or.inl rfl
            · rw [h]; exact Or.inr rfl
          have est : bk_st o (p + 1) = p :: bk_st o p := bk_open eop
          have ep : mc_p k (bk_dp o p) p (mc_s o p) (o (mc_s o p)) (e p) V rl = p + 1 := by
            unfold mc_p; rw [if_neg (by omega), if_neg (by omega)]
          have hfin : ∀ z : Int32, (z = if k = 10 then g p else 1) → wY_run_230 post (wY_run_26 post (f + 1)) (nI (bk_dp o p)) (nI (bk_st o p).length) (nI stp) (nI k) (nI (p + 1)) z (nI (bk_st o p).length) (nI n) dp oc o g d mi (upd bg (bk_st o p).length (nI p)) tm := by
            intro z hz
            refine ⟨fx_v4 (by omega), nm_r (e' := upd tm (bk_st o p).length z) (by rw [fx_k4 (by omega)]) (nm_r (nI_1 _) ?_)⟩
            have h := hend (p + 1) d mi (upd bg (bk_st o p).length (nI p)) (upd tm (bk_st o p).length z) hc ep.symm (hYA _ hle) (by
              rw [est]
              refine ⟨pk_us, ?_, ?_⟩
              · rw [pk_us, hz]
                unfold mc_rl
                by_cases c : k = 10
                · rw [if_pos c, if_pos c, if_pos (by rw [ho, c]; rfl), pk_us]
                · rw [if_neg c, if_neg (by rw [ho]; exact fun w => c ((nI_eq (b := 10) (by omega) (by omega)).mp w))]
              · refine bk_rs_cg (fun j hj => pk_un (by omega)) (fun j hj => pk_un (by omega)) ?_ RS
                intro s hs2
                have hlt := bk_mem o p s hs2
                unfold mc_rl
                by_cases c : k = 10
                · rw [if_pos c, pk_un (by omega)]
                · rw [if_neg c, if_neg (by omega)])
            rw [est, List.length_cons] at h
            exact h
          refine ⟨fx_v4 (by omega), nm_r (e' := upd bg (bk_st o p).length (nI p)) (by rw [fx_k4 (by omega)]) ?_⟩
          by_cases c : k = 10
          · refine br_t (by rw [c]; rfl) ⟨v40, ?_⟩
            rw [k40]
            exact hfin _ (by rw [if_pos c])
          · exact br_f (fun w => c ((nI_eq (b := 10) (by omega) (by omega)).mp w)) (hfin _ (by rw [if_neg c]))
        by_cases c9 : k = 9
        · subst c9
          have h1 := t9 rfl
          refine br_t rfl ?_
          rw [show (7 : Int32) + nI (bk_dp o p) = nI (7 + bk_dp o p) from nI_add 7 _]
          have pa := YA (7 + bk_dp o p) (by omega)
          have ga := G (7 + bk_dp o p) (by omega)
          refine cy_ln (by omega) pa.1 (fx_T82 ga.1) ?_
          intro l hl82 hl
          by_cases z : l = 0
          · have hV0 := (fx_len_0 hl).mp z
            refine br_t (by rw [z]; rfl) (cy_en hN H hn hpn ho ?_)
            intro q hq1 hq2 hq3
            have hept := (PT q hq1 hq2 p _ hq3).2
            have ep : mc_p 9 (bk_dp o p) p (mc_s o p) (o (mc_s o p)) (e p) V rl = q + 1 := by
              unfold mc_p; rw [if_pos ⟨rfl, hV0⟩, hept, nI_clamp (by omega)]
            have est : bk_st o (q + 1) = bk_st o p := by rw [bk_end hq2, hq3]; rfl
            have h := hend (q + 1) d mi bg tm hc ep.symm (hYA _ hle) (by rw [est]; exact RS)
            rw [est] at h
            exact nm_r (nI_1 q) h
          · exact br_f (nI_ne0 (by omega) (by omega)) (br_t rfl (hopen (Or.inl ⟨rfl, fun w => z ((fx_len_0 hl).mpr w)⟩)))
        · have n9 : ¬ nI k = 9 := fun w => c9 ((nI_eq (b := 9) (by omega) (by omega)).mp w)
          refine br_f n9 (br_f n9 ?_)
          by_cases c10 : k = 10
          · exact br_t (by rw [c10]; rfl) (hopen (Or.inr c10))
          · have e11 : k = 11 := by omega
            subst e11
            refine br_f (by decide) ?_
            cases hst : bk_st o p with
            | nil => exact absurd hst (t11 rfl)
            | cons s r =>
              have es : mc_s o p = s := by unfold mc_s; rw [hst]; rfl
              have hk2 := bk_ok o p s r hst
              have hlr : r.length < 3 := by rw [hst, List.length_cons] at hl3; omega
              have e1 : nI (s :: r).length - 1 = nI r.length := nI_pred _
              rw [hst] at RS
              obtain ⟨rs1, rs2, rs3⟩ := RS
              have vr : vp_in (nI r.length) 4 := fx_v4 (by omega)
              have kr : (nI r.length).toNatClampNeg = r.length := fx_k4 (by omega)
              have hmem : ∀ q, q ∈ r → q < s := fun q hq => bk_mem o s q (by rw [← hk2.2.1]; exact hq)
              rw [es] at hend
              rw [e1]
              refine ⟨vr, vr, nm_r (e' := upd tm r.length (tm r.length - 1)) (by rw [kr]) ⟨vr, ?_⟩⟩
              rw [kr, pk_us]
              by_cases c : o s = 10
              · rw [if_pos c] at rs2
                rw [rs2]
                have erl : mc_rl 11 p s (o s) (g p) rl = upd rl s (rl s - 1) := by
                  unfold mc_rl; rw [if_neg (by omega), if_pos ⟨rfl, c⟩]
                rw [erl] at hend
                by_cases z : 0 < rl s - 1
                · refine br_f (Int32.not_le.mpr z) ⟨vr, ?_⟩
                  rw [rs1]
                  have ep : mc_p 11 (bk_dp o p) p s (o s) (e p) V rl = s + 1 := by
                    unfold mc_p; rw [if_neg (by omega), if_pos ⟨rfl, c, z⟩]
                  have est : bk_st o (s + 1) = s :: r := by rw [bk_open (Or.inr c), ← hk2.2.1]
                  have h := hend (s + 1) d mi bg (upd tm r.length (rl s - 1)) hc ep.symm (hYA _ hle) (by
                    rw [est]
                    refine ⟨rs1, by rw [pk_us, if_pos c, pk_us], bk_rs_cg (fun j _ => rfl) (fun j hj => pk_un (by omega)) ?_ rs3⟩
                    intro q hq
                    have := hmem q hq
                    exact pk_un (by omega))
                  rw [est] at h
                  exact nm_r (nI_1 s) h
                · refine br_t (Int32.not_lt.mp z) ?_
                  have ep : mc_p 11 (bk_dp o p) p s (o s) (e p) V rl = p + 1 := by
                    unfold mc_p; rw [if_neg (by omega), if_neg (fun w => z w.2.2)]
                  have est : bk_st o (p + 1) = r := by rw [bk_end ho, hst]; rfl
                  have h := hend (p + 1) d mi bg (upd tm r.length (rl s - 1)) hc ep.symm (hYA _ hle) (by
                    rw [est]
                    refine bk_rs_cg (fun j _ => rfl) (fun j hj => pk_un (by omega)) ?_ rs3
                    intro q hq
                    have := hmem q hq
                    exact pk_un (by omega))
                  rw [est] at h
                  exact nm_r (e' := nI r.length) (pk_m1 _) h
              · rw [if_neg c] at rs2
                rw [rs2]
                have erl : mc_rl 11 p s (o s) (g p) rl = rl := by
                  unfold mc_rl; rw [if_neg (by omega), if_neg (fun w => c w.2)]
                rw [erl] at hend
                refine br_t (by decide) ?_
                have ep : mc_p 11 (bk_dp o p) p s (o s) (e p) V rl = p + 1 := by
                  unfold mc_p; rw [if_neg (by omega), if_neg (fun w => c w.2.1)]
                have est : bk_st o (p + 1) = r := by rw [bk_end ho, hst]; rfl
                have h := hend (p + 1) d mi bg (upd tm r.length (1 - 1)) hc ep.symm (hYA _ hle) (by
                  rw [est]
                  exact bk_rs_cg (fun j _ => rfl) (fun j hj => pk_un (by omega)) (fun _ _ => rfl) rs3)
                rw [est] at h
                exact nm_r (e' := nI r.length) (pk_m1 _) h
    · have : p = n := by omega
      subst this
      refine br_t (nI_le (Nat.le_refl p) (by omega)) ?_
      have hR : mc_run o g e p (f + 1) p V M rl = (0, V, M) := by
        show (if p < p then _ else _) = _
        rw [if_neg (by omega)]
      rw [hR] at K
      exact K d mi bg tm (ys_all_le YA (by omega))
end
end
section
/-! emit on both sides -/
def em_c7 (k oc : Nat) : Int32 := if k = 11 ∧ oc = 0 then -8 else 0
def em_c6 (k oc : Nat) : Int32 := if (k = 9 ∨ k = 10) ∧ 3 ≤ oc then -7 else em_c7 k oc
def em_c5 (k dp oc : Nat) : Int32 := if 9 ≤ k ∧ dp ≠ bk_pops k then -6 else em_c6 k oc
def em_c4 (k dp oc : Nat) : Int32 := if k ≤ 1 ∧ 6 ≤ dp then -5 else em_c5 k dp oc
def em_c3 (k dp oc : Nat) : Int32 := if dp < bk_pops k then -4 else em_c4 k dp oc
abbrev em_bad (k : Nat) (a : Int32) : Prop := ((k = 1 ∨ k = 2) ∧ (a < 0 ∨ 8 ≤ a)) ∨ (k = 10 ∧ (a < 1 ∨ 6 < a))
noncomputable def em_c2 (k : Nat) (a : Int32) (dp oc : Nat) : Int32 := if em_bad k a then -2 else em_c3 k dp oc
noncomputable def em_c (k : Nat) (a : Int32) (n dp oc : Nat) : Int32 := if 40 ≤ n then -3 else em_c2 k a dp oc
theorem em_bad1 {k : Nat} {a : Int32} (h : k = 1 ∨ k = 2) : em_bad k a ↔ (a < 0 ∨ 8 ≤ a) := by
  unfold em_bad
  constructor
  · intro w
    rcases w with w | w
    · exact w.2
    · omega
  · intro w
    exact Or.inl ⟨h, w⟩
theorem em_bad10 {a : Int32} : em_bad 10 a ↔ (a < 1 ∨ 6 < a) := by
  unfold em_bad
  constructor
  · intro w
    rcases w with w | w
    · omega
    · exact w.2
  · intro w
    exact Or.inr ⟨rfl, w⟩
theorem em_badn {k : Nat} {a : Int32} (h1 : k ≠ 1) (h2 : k ≠ 2) (h3 : k ≠ 10) : ¬ em_bad k a := by
  unfold em_bad
  omega
theorem em_pops_le (k : Nat) : bk_pops k ≤ 2 := by unfold bk_pops; split; omega; split <;> omega
/-- what an accepted token has -/
theorem em_c0 {k : Nat} {a : Int32} {n dp oc : Nat} (h : em_c k a n dp oc = 0) : n < 40 ∧ (k = 1 ∨ k = 2 → ∃ v : Nat, v < 8 ∧ a = nI v) ∧ bk_pops k ≤ dp ∧ (k ≤ 1 → dp < 6) ∧ (9 ≤ k → dp = bk_pops k) ∧ (k = 9 ∨ k = 10 → oc < 3) ∧ (k = 11 → oc ≠ 0) := by
  unfold em_c em_c2 em_c3 em_c4 em_c5 em_c6 em_c7 at h
  by_cases c1 : 40 ≤ n
  · rw [if_pos c1] at h; exact absurd h (by decide)
  · rw [if_neg c1] at h
    by_cases c2 : em_bad k a
    · rw [if_pos c2] at h; exact absurd h (by decide)
    · rw [if_neg c2] at h
      by_cases c3 : dp < bk_pops k
      · rw [if_pos c3] at h; exact absurd h (by decide)
      · rw [if_neg c3] at h
        by_cases c4 : k ≤ 1 ∧ 6 ≤ dp
        · rw [if_pos c4] at h; exact absurd h (by decide)
        · rw [if_neg c4] at h
          by_cases c5 : 9 ≤ k ∧ dp ≠ bk_pops k
          · rw [if_pos c5] at h; exact absurd h (by decide)
          · rw [if_neg c5] at h
            by_cases c6 : (k = 9 ∨ k = 10) ∧ 3 ≤ oc
            · rw [if_pos c6] at h; exact absurd h (by decide)
            · rw [if_neg c6] at h
              by_cases c7 : k = 11 ∧ oc = 0
              · rw [if_pos c7] at h; exact absurd h (by decide)
              · refine ⟨by omega, ?_, by omega, by omega, by omega, by omega, by omega⟩
                intro hk
                rcases pk_ix a (n := 8) (by omega) with w | w | w
                · exact absurd ((em_bad1 hk).mpr (Or.inl w)) c2
                · exact absurd ((em_bad1 hk).mpr (Or.inr w)) c2
                · exact w
theorem em_neg {k : Nat} {a : Int32} {n dp oc : Nat} (h : em_c k a n dp oc ≠ 0) : ¬ 0 ≤ em_c k a n dp oc := by
  unfold em_c em_c2 em_c3 em_c4 em_c5 em_c6 em_c7 at *
  by_cases c1 : 40 ≤ n
  · rw [if_pos c1]; decide
  · rw [if_neg c1] at h ⊢
    by_cases c2 : em_bad k a
    · rw [if_pos c2]; decide
    · rw [if_neg c2] at h ⊢
      by_cases c3 : dp < bk_pops k
      · rw [if_pos c3]; decide
      · rw [if_neg c3] at h ⊢
        by_cases c4 : k ≤ 1 ∧ 6 ≤ dp
        · rw [if_pos c4]; decide
        · rw [if_neg c4] at h ⊢
          by_cases c5 : 9 ≤ k ∧ dp ≠ bk_pops k
          · rw [if_pos c5]; decide
          · rw [if_neg c5] at h ⊢
            by_cases c6 : (k = 9 ∨ k = 10) ∧ 3 ≤ oc
            · rw [if_pos c6]; decide
            · rw [if_neg c6] at h ⊢
              by_cases c7 : k = 11 ∧ oc = 0
              · rw [if_pos c7]; decide
              · rw [if_neg c7] at h; exact absurd rfl h
theorem em_12 {P : Nat → Prop} (h0 : P 0) (h1 : P 1) (h2 : P 2) (h3 : P 3) (h4 : P 4) (h5 : P 5) (h6 : P 6) (h7 : P 7) (h8 : P 8) (h9 : P 9) (h10 : P 10) (h11 : P 11) {k : Nat} (hk : k < 12) : P k := by
  have : k = 0 ∨ k = 1 ∨ k = 2 ∨ k = 3 ∨ k = 4 ∨ k = 5 ∨ k = 6 ∨ k = 7 ∨ k = 8 ∨ k = 9 ∨ k = 10 ∨ k = 11 := by omega
  rcases this with rfl | rfl | rfl | rfl | rfl | rfl | rfl | rfl | rfl | rfl | rfl | rfl <;> assumption
theorem cx_po {post : Int32 → Prop} {k : Nat} (hk : k < 12) (K : post (nI (bk_pops k))) : wpX_popsOf post (nI k) := by
  revert K
  revert k
  intro k hk
  refine em_12 (P := fun k => post (nI (bk_pops k)) → wpX_popsOf post (nI k)) ?_ ?_ ?_ ?_ ?_ ?_ ?_ ?_ ?_ ?_ ?_ ?_ hk <;> (intro K; repeat (first | exact K | refine br_t (by decide) ?_ | refine br_f (by decide) ?_))
theorem cx_op {post : Int32 → Prop} {k : Nat} (hk : k < 12) (K : post (if k = 9 ∨ k = 10 then 1 else 0)) : wpX_opensBlock post (nI k) := by
  revert K
  refine em_12 (P := fun k => post (if k = 9 ∨ k = 10 then 1 else 0) → wpX_opensBlock post (nI k)) ?_ ?_ ?_ ?_ ?_ ?_ ?_ ?_ ?_ ?_ ?_ ?_ hk <;> (intro K; repeat (first | exact K | refine br_t (by decide) ?_ | refine br_f (by decide) ?_))
theorem cx_dc {post : Int32 → Prop} {k : Nat} (hk : k < 12) (K : post (if k ≤ 1 then 1 else if k ≤ 9 then -1 else 0)) : wpX_depthChange post (nI k) := by
  revert K
  refine em_12 (P := fun k => post (if k ≤ 1 then 1 else if k ≤ 9 then -1 else 0) → wpX_depthChange post (nI k)) ?_ ?_ ?_ ?_ ?_ ?_ ?_ ?_ ?_ ?_ ?_ ?_ hk <;> (intro K; repeat (first | exact K | refine br_t (by decide) ?_ | refine br_f (by decide) ?_))
theorem em_nk {k j : Nat} (hk : k < 12) (hj : j < 12) (h : k ≠ j) : ¬ nI k = nI j := fun z => h ((mc_eq hk hj).mp z)
theorem cx_ga {post : Int32 → Prop} {k : Nat} {a : Int32} (hk : k < 12) (K0 : em_bad k a → post 0) (K1 : ¬ em_bad k a → post 1) : wpX_isGoodArgument post (nI k) a := by
  have h10 : (k = 1 ∨ k = 2) → wX_isGoodArgument_10 post a := by
    intro h
    unfold wX_isGoodArgument_10
    by_cases c : a < 0
    · exact br_t c ⟨rfl, K0 ((em_bad1 h).mpr (Or.inl c))⟩
    · refine br_f c ?_
      by_cases c8 : 8 ≤ a
      · exact br_t c8 ⟨rfl, K0 ((em_bad1 h).mpr (Or.inr c8))⟩
      · refine br_f c8 ⟨rfl, K1 (fun w => ?_)⟩
        rcases (em_bad1 h).mp w with w | w
        · exact c w
        · exact c8 w
  by_cases c1 : k = 1
  · exact br_t (by rw [c1]; rfl) (h10 (Or.inl c1))
  · refine br_f (em_nk (j := 1) hk (by omega) c1) ?_
    by_cases c2 : k = 2
    · exact br_t (by rw [c2]; rfl) (h10 (Or.inr c2))
    · refine br_f (em_nk (j := 2) hk (by omega) c2) ?_
      by_cases c10 : k = 10
      · subst c10
        refine br_t rfl ?_
        by_cases c : a < 1
        · exact br_t c (K0 (em_bad10.mpr (Or.inl c)))
        · refine br_f c ?_
          by_cases c6 : 6 < a
          · exact br_t c6 (K0 (em_bad10.mpr (Or.inr c6)))
          · refine br_f c6 (K1 (fun w => ?_))
            rcases em_bad10.mp w with w | w
            · exact c w
            · exact c6 w
      · exact br_f (em_nk (j := 10) hk (by omega) c10) (K1 (em_badn c1 c2 c10))
section
variable {tc dp oc ht : Int32} {L : Nat → Int64} {S o g pt ob rl : Nat → Int32} {pr qu re mu : Nat → Int64}
theorem cx_104 {post : Int32 → Prop} {k ocn : Nat} (hk : k < 12) (ho : ocn ≤ 3) (K : post (em_c7 k ocn)) : wX_refusalOf_104 post (nI k) tc dp (nI ocn) ht L S o g pt ob rl pr qu re mu := by
  unfold em_c7 at K
  by_cases c : k = 11
  · refine br_t (by rw [c]; rfl) ?_
    by_cases z : ocn = 0
    · rw [if_pos ⟨c, z⟩] at K
      exact br_f (by rw [z]; decide) K
    · rw [if_neg (fun w => z w.2)] at K
      exact br_t (nI_lt (a := 0) (by omega) (by omega)) K
  · rw [if_neg (fun w => c w.1)] at K
    exact br_f (em_nk (j := 11) hk (by omega) c) K
theorem cx_86 {post : Int32 → Prop} {k ocn : Nat} (hk : k < 12) (ho : ocn ≤ 3) (K : post (em_c6 k ocn)) : wX_refusalOf_86 post (nI k) tc dp (nI ocn) ht L S o g pt ob rl pr qu re mu := by
  unfold wX_refusalOf_86
  refine cx_op hk ?_
  unfold em_c6 at K
  by_cases c : k = 9 ∨ k = 10
  · rw [if_pos c]
    refine br_f (by decide) ?_
    by_cases z : 3 ≤ ocn
    · rw [if_pos ⟨c, z⟩] at K
      exact br_f (nI_nlt (b := 3) z (by omega)) K
    · rw [if_neg (fun w => z w.2)] at K
      exact br_t (nI_lt (b := 3) (by omega) (by omega)) (cx_104 hk ho K)
  · rw [if_neg c]
    rw [if_neg (fun w => c w.1)] at K
    exact br_t rfl (cx_104 hk ho K)
theorem cx_66 {post : Int32 → Prop} {k dpn ocn : Nat} (hk : k < 12) (hd : dpn ≤ 6) (ho : ocn ≤ 3) (K : post (em_c5 k dpn ocn)) : wX_refusalOf_66 post (nI k) tc (nI dpn) (nI ocn) ht L S o g pt ob rl pr qu re mu := by
  unfold em_c5 at K
  have hpp := em_pops_le k
  by_cases c : 9 ≤ k
  · refine br_f (nI_nlt (b := 9) c (by omega)) (cx_po hk ?_)
    by_cases z : dpn = bk_pops k
    · rw [if_neg (fun w => w.2 z)] at K
      exact br_t (by rw [z]) (cx_86 hk ho K)
    · rw [if_pos ⟨c, z⟩] at K
      exact br_f (fun w => z ((nI_eq (by omega) (by omega)).mp w)) K
  · rw [if_neg (fun w => c w.1)] at K
    exact br_t (nI_lt (b := 9) (by omega) (by omega)) (cx_86 hk ho K)
theorem cx_rf {post : Int32 → Prop} {k n dpn ocn : Nat} {a : Int32} (hk : k < 12) (hn : n ≤ 40) (hd : dpn ≤ 6) (ho : ocn ≤ 3) (K : post (em_c k a n dpn ocn)) : wpX_refusalOf post (nI n, nI dpn, nI ocn, ht, L, S, o, g, pt, ob, rl, pr, qu, re, mu) (nI k) a := by
  have hpp := em_pops_le k
  unfold em_c at K
  refine br_f (nI_pos (by omega)) (br_t (nI_le (b := 11) (by omega) (by omega)) ?_)
  by_cases c1 : 40 ≤ n
  · rw [if_pos c1] at K
    exact br_f (nI_nlt (b := 40) c1 (by omega)) K
  · rw [if_neg c1] at K
    refine br_t (nI_lt (b := 40) (by omega) (by omega)) (cx_ga hk ?_ ?_)
    · intro hb
      unfold em_c2 at K
      rw [if_pos hb] at K
      exact br_t rfl K
    · intro hb
      unfold em_c2 at K
      rw [if_neg hb] at K
      refine br_f (by decide) (cx_po hk ?_)
      unfold em_c3 at K
      by_cases c3 : dpn < bk_pops k
      · rw [if_pos c3] at K
        exact br_f (nI_ge c3 (by omega)) K
      · rw [if_neg c3] at K
        refine br_t (nI_le (by omega) (by omega)) ?_
        unfold em_c4 at K
        by_cases c4 : k ≤ 1
        · refine br_f (nI_nlt (a := 1) c4 (by omega)) ?_
          by_cases c6 : 6 ≤ dpn
          · rw [if_pos ⟨c4, c6⟩] at K
            exact br_f (nI_nlt (b := 6) c6 (by omega)) K
          · rw [if_neg (fun w => c6 w.2)] at K
            exact br_t (nI_lt (b := 6) (by omega) (by omega)) (cx_66 hk hd ho K)
        · rw [if_neg (fun w => c4 w.1)] at K
          exact br_t (nI_lt (a := 1) (by omega) (by omega)) (cx_66 hk hd ho K)
theorem em_dc {k dpn : Nat} (h : 2 ≤ k → k ≤ 9 → 1 ≤ dpn) : nI dpn + (if k ≤ 1 then (1 : Int32) else if k ≤ 9 then -1 else 0) = nI (if k ≤ 1 then dpn + 1 else if k ≤ 9 then dpn - 1 else dpn) := by
  by_cases c1 : k ≤ 1
  · rw [if_pos c1, if_pos c1, nI_1]
  · rw [if_neg c1, if_neg c1]
    by_cases c9 : k ≤ 9
    · rw [if_pos c9, if_pos c9]
      have := h (by omega) c9
      obtain ⟨t, rfl⟩ : ∃ t, dpn = t + 1 := ⟨dpn - 1, by omega⟩
      exact pk_m1 t
    · rw [if_neg c9, if_neg c9, Int32.add_zero]
theorem em_h1 {k dpn : Nat} (h : bk_pops k ≤ dpn) : 2 ≤ k → k ≤ 9 → 1 ≤ dpn := by
  intro a b
  unfold bk_pops at h
  split at h
  · omega
  · rw [if_pos (by omega)] at h; exact h
/-- refused -/
theorem cx_em0 {post : Int32 → SX → Prop} {k n dpn ocn : Nat} {a : Int32} (hk : k < 12) (hn : n ≤ 40) (hd : dpn ≤ 6) (ho : ocn ≤ 3) (hc : em_c k a n dpn ocn ≠ 0) (K : post (em_c k a n dpn ocn) (nI n, nI dpn, nI ocn, ht, L, S, o, g, pt, ob, rl, pr, qu, re, mu)) : wpX_emit post (nI n, nI dpn, nI ocn, ht, L, S, o, g, pt, ob, rl, pr, qu, re, mu) (nI k) a := by
  unfold wpX_emit
  exact cx_rf hk hn hd ho (br_f (em_neg hc) K)
/-- taken -/
theorem cx_em1 {post : Int32 → SX → Prop} {k n dpn ocn : Nat} {a : Int32} (hk : k < 12) (hd : dpn ≤ 6) (ho : ocn ≤ 3) (hc : em_c k a n dpn ocn = 0) (KA : k ≤ 8 → post (nI n) (nI (n + 1), nI (if k ≤ 1 then dpn + 1 else dpn - 1), nI ocn, ht, L, S, upd o n (nI k), upd g n a, pt, ob, rl, pr, qu, re, mu)) (KB : k = 9 ∨ k = 10 → post (nI n) (nI (n + 1), nI 0, nI (ocn + 1), ht, L, S, upd o n (nI k), upd g n a, pt, upd ob ocn (nI n), rl, pr, qu, re, mu)) (KC : k = 11 → ∀ s, s < n → ob (ocn - 1) = nI s → post (nI n) (nI (n + 1), nI 0, nI (ocn - 1), ht, L, S, upd o n (nI 11), upd g n a, upd (upd pt s (nI n)) n (nI s), ob, rl, pr, qu, re, mu)) (HC : k = 11 → ∃ s, s < n ∧ ob (ocn - 1) = nI s) : wpX_emit post (nI n, nI dpn, nI ocn, ht, L, S, o, g, pt, ob, rl, pr, qu, re, mu) (nI k) a := by
  obtain ⟨q1, q2, q3, q4, q5, q6, q7⟩ := em_c0 hc
  have v40 : vp_in (nI n) 40 := fx_v40 q1
  have k40 : (nI n).toNatClampNeg = n := fx_k40 q1
  unfold wpX_emit
  refine cx_rf hk (by omega) hd ho ?_
  rw [hc]
  refine br_t (by decide) ⟨v40, nm_r (e' := upd o n (nI k)) (by rw [k40]) ⟨v40, nm_r (e' := upd g n a) (by rw [k40]) (nm_r (nI_1 n) (cx_dc hk (nm_r (em_dc (em_h1 q3)) (cx_op hk ?_))))⟩⟩
  by_cases c8 : k ≤ 8
  · rw [if_neg (show ¬ (k = 9 ∨ k = 10) by omega)]
    have K' := KA c8
    have ed : (if k ≤ 1 then dpn + 1 else if k ≤ 9 then dpn - 1 else dpn) = (if k ≤ 1 then dpn + 1 else dpn - 1) := by
      split
      · rfl
      · rw [if_pos (by omega)]
    rw [ed]
    exact br_t rfl (br_f (em_nk (j := 11) hk (by omega) (by omega)) K')
  · by_cases c : k = 9 ∨ k = 10
    · rw [if_pos c]
      have K' := KB c
      have ed : (if k ≤ 1 then dpn + 1 else if k ≤ 9 then dpn - 1 else dpn) = 0 := by
        have := q5 (by omega)
        rcases c with rfl | rfl
        · rw [show bk_pops 9 = 1 from rfl] at this; rw [this]; rfl
        · rw [show bk_pops 10 = 0 from rfl] at this; rw [this]; rfl
      rw [ed]
      exact br_f (by decide) ⟨vp_in_nI (q6 c) (by omega), nm_r (e' := upd ob ocn (nI n)) (by rw [nI_clamp (by omega)]) (nm_r (nI_1 ocn) (br_f (em_nk (j := 11) hk (by omega) (by omega)) K'))⟩
    · have e11 : k = 11 := by omega
      subst e11
      rw [if_neg c]
      obtain ⟨s, hs, es⟩ := HC rfl
      have K' := KC rfl s hs es
      have ed : (if 11 ≤ 1 then dpn + 1 else if 11 ≤ 9 then dpn - 1 else dpn) = 0 := by
        have := q5 (by omega)
        rw [show bk_pops 11 = 0 from rfl] at this; rw [this]; rfl
      rw [ed]
      have h0 := q7 rfl
      obtain ⟨t, rfl⟩ : ∃ t, ocn = t + 1 := ⟨ocn - 1, by omega⟩
      rw [Nat.add_sub_cancel] at es K'
      refine br_t rfl (br_t rfl (nm_r (nI_pred t) ⟨vp_in_nI (by omega) (by omega), nm_r (e' := nI s) (by rw [nI_clamp (by omega)]; exact es) ⟨fx_v40 (by omega), nm_r (e' := upd pt s (nI n)) (by rw [fx_k40 (by omega)]) ⟨v40, nm_r (e' := upd (upd pt s (nI n)) n (nI s)) (by rw [k40]) K'⟩⟩⟩))
end
end
section
/-! the reference's emit -/
def em_q (c : Int32) (A : Prop) (P : Int32 → Prop) : Prop := (c = 0 → A) ∧ (c ≠ 0 → P c)
theorem em_q0 {A : Prop} {P : Int32 → Prop} (h : em_q 0 A P) : A := h.1 rfl
theorem em_qn {c : Int32} {A : Prop} {P : Int32 → Prop} (hc : c ≠ 0) (h : em_q c A P) : P c := h.2 hc
section
variable {sz dp oc : Int32} {o g d mi bg tm : Nat → Int32}
theorem cy_po {post : Int32 → Prop} {k : Nat} (hk : k < 12) (K : post (nI (bk_pops k))) : wpY_pops post (sz, dp, oc, o, g, d, mi, bg, tm) (nI k) := by
  revert K
  refine em_12 (P := fun k => post (nI (bk_pops k)) → wpY_pops post (sz, dp, oc, o, g, d, mi, bg, tm) (nI k)) ?_ ?_ ?_ ?_ ?_ ?_ ?_ ?_ ?_ ?_ ?_ ?_ hk <;> (intro K; repeat (first | exact K | refine br_t (by decide) ?_ | refine br_f (by decide) ?_))
theorem cy_152 {post : Int32 → SY → Prop} {k ocn : Nat} {a : Int32} (hk : k < 12) (ho : ocn ≤ 3) (K : em_q (em_c7 k ocn) (wY_emit_168 post (nI k) a sz dp (nI ocn) o g d mi bg tm) (fun c => post c (sz, dp, nI ocn, o, g, d, mi, bg, tm))) : wY_emit_152 post (nI k) a sz dp (nI ocn) o g d mi bg tm := by
  unfold em_c7 at K
  by_cases c : k = 11
  · refine br_t (by rw [c]; rfl) ?_
    by_cases z : ocn = 0
    · rw [if_pos ⟨c, z⟩] at K
      exact br_t (by rw [z]; rfl) (em_qn (by decide) K)
    · rw [if_neg (fun w => z w.2)] at K
      exact br_f (nI_ne0 (by omega) (by omega)) (em_q0 K)
  · rw [if_neg (fun w => c w.1)] at K
    exact br_f (em_nk (j := 11) hk (by omega) c) (em_q0 K)
theorem cy_129 {post : Int32 → SY → Prop} {k ocn : Nat} {a : Int32} (hk : k < 12) (ho : ocn ≤ 3) (K : em_q (em_c6 k ocn) (wY_emit_168 post (nI k) a sz dp (nI ocn) o g d mi bg tm) (fun c => post c (sz, dp, nI ocn, o, g, d, mi, bg, tm))) : wY_emit_129 post (nI k) a sz dp (nI ocn) o g d mi bg tm := by
  unfold em_c6 at K
  have h141 : (k = 9 ∨ k = 10) → wY_emit_141 post (nI k) a sz dp (nI ocn) o g d mi bg tm := by
    intro c
    by_cases z : 3 ≤ ocn
    · rw [if_pos ⟨c, z⟩] at K
      exact br_t (by rw [show ocn = 3 by omega]; rfl) (em_qn (by decide) K)
    · rw [if_neg (fun w => z w.2)] at K
      exact br_f (fun w => by have := (nI_eq (b := 3) (by omega) (by omega)).mp w; omega) (cy_152 hk ho K)
  by_cases c9 : k = 9
  · exact br_t (by rw [c9]; rfl) (h141 (Or.inl c9))
  · refine br_f (em_nk (j := 9) hk (by omega) c9) ?_
    by_cases c10 : k = 10
    · exact br_t (by rw [c10]; rfl) (h141 (Or.inr c10))
    · rw [if_neg (by omega)] at K
      exact br_f (em_nk (j := 10) hk (by omega) c10) (cy_152 hk ho K)
theorem cy_99 {post : Int32 → SY → Prop} {k dpn ocn : Nat} {a : Int32} (hk : k < 12) (hd : dpn ≤ 6) (ho : ocn ≤ 3) (K : em_q (em_c5 k dpn ocn) (wY_emit_168 post (nI k) a sz (nI dpn) (nI ocn) o g d mi bg tm) (fun c => post c (sz, nI dpn, nI ocn, o, g, d, mi, bg, tm))) : wY_emit_99 post (nI k) a sz (nI dpn) (nI ocn) o g d mi bg tm := by
  unfold em_c5 at K
  by_cases c9 : k = 9
  · subst c9
    rw [show bk_pops 9 = 1 from rfl] at K
    refine br_t rfl ?_
    by_cases z : dpn = 1
    · rw [if_neg (fun w => w.2 z)] at K
      exact br_t (by rw [z]; rfl) (br_t (by decide) (cy_129 hk ho K))
    · rw [if_pos ⟨Nat.le_refl 9, z⟩] at K
      exact br_f (fun w => z ((nI_eq (b := 1) (by omega) (by omega)).mp w)) (em_qn (by decide) K)
  · refine br_f (em_nk (j := 9) hk (by omega) c9) ?_
    by_cases c10 : k < 10
    · rw [if_neg (by omega)] at K
      exact br_t (nI_lt (b := 10) c10 (by omega)) (cy_129 hk ho K)
    · have ep : bk_pops k = 0 := by
        unfold bk_pops
        rw [if_neg (by omega), if_neg (by omega)]
      rw [ep] at K
      refine br_f (nI_nlt (b := 10) (by omega) (by omega)) ?_
      by_cases z : dpn = 0
      · rw [if_neg (fun w => w.2 z)] at K
        exact br_t (by rw [z]; rfl) (cy_129 hk ho K)
      · rw [if_pos ⟨by omega, z⟩] at K
        exact br_f (nI_ne0 (by omega) (by omega)) (em_qn (by decide) K)
theorem cy_67 {post : Int32 → SY → Prop} {k dpn ocn : Nat} {a : Int32} (hk : k < 12) (hd : dpn ≤ 6) (ho : ocn ≤ 3) (K : em_q (em_c3 k dpn ocn) (wY_emit_168 post (nI k) a sz (nI dpn) (nI ocn) o g d mi bg tm) (fun c => post c (sz, nI dpn, nI ocn, o, g, d, mi, bg, tm))) : wY_emit_67 post (nI k) a sz (nI dpn) (nI ocn) o g d mi bg tm := by
  have hpp := em_pops_le k
  unfold wY_emit_67
  refine cy_po hk ?_
  unfold em_c3 at K
  by_cases c3 : dpn < bk_pops k
  · rw [if_pos c3] at K
    exact br_f (nI_ge c3 (by omega)) (em_qn (by decide) K)
  · rw [if_neg c3] at K
    refine br_t (nI_le (by omega) (by omega)) ?_
    unfold em_c4 at K
    by_cases c4 : k ≤ 1
    · refine br_f (nI_nlt (a := 1) c4 (by omega)) ?_
      by_cases c6 : 6 ≤ dpn
      · rw [if_pos ⟨c4, c6⟩] at K
        exact br_t (by rw [show dpn = 6 by omega]; rfl) (em_qn (by decide) K)
      · rw [if_neg (fun w => c6 w.2)] at K
        exact br_f (fun w => by have := (nI_eq (b := 6) (by omega) (by omega)).mp w; omega) (cy_99 hk hd ho K)
    · rw [if_neg (fun w => c4 w.1)] at K
      exact br_t (nI_lt (a := 1) (by omega) (by omega)) (cy_99 hk hd ho K)
theorem cy_47 {post : Int32 → SY → Prop} {k dpn ocn : Nat} {a : Int32} (hk : k < 12) (hd : dpn ≤ 6) (ho : ocn ≤ 3) (hb : em_bad k a → k = 10) (K : em_q (em_c2 k a dpn ocn) (wY_emit_168 post (nI k) a sz (nI dpn) (nI ocn) o g d mi bg tm) (fun c => post c (sz, nI dpn, nI ocn, o, g, d, mi, bg, tm))) : wY_emit_47 post (nI k) a sz (nI dpn) (nI ocn) o g d mi bg tm := by
  unfold em_c2 at K
  by_cases c10 : k = 10
  · subst c10
    refine br_t rfl ?_
    by_cases c : a < 1
    · rw [if_pos (em_bad10.mpr (Or.inl c))] at K
      exact br_t c (em_qn (by decide) K)
    · refine br_f c ?_
      by_cases c6 : a ≤ 6
      · rw [if_neg (fun w => by
          rcases em_bad10.mp w with w | w
          · exact c w
          · exact Int32.not_le.mpr w c6)] at K
        exact br_t c6 (cy_67 hk hd ho K)
      · rw [if_pos (em_bad10.mpr (Or.inr (Int32.not_le.mp c6)))] at K
        exact br_f c6 (em_qn (by decide) K)
  · rw [if_neg (fun w => c10 (hb w))] at K
    exact br_f (em_nk (j := 10) hk (by omega) c10) (cy_67 hk hd ho K)
theorem cy_em {post : Int32 → SY → Prop} {k n dpn ocn : Nat} {a : Int32} (hk : k < 12) (hn : n ≤ 40) (hd : dpn ≤ 6) (ho : ocn ≤ 3) (K : em_q (em_c k a n dpn ocn) (wY_emit_168 post (nI k) a (nI n) (nI dpn) (nI ocn) o g d mi bg tm) (fun c => post c (nI n, nI dpn, nI ocn, o, g, d, mi, bg, tm))) : wpY_emit post (nI n, nI dpn, nI ocn, o, g, d, mi, bg, tm) (nI k) a := by
  unfold em_c at K
  refine br_f (nI_pos (by omega)) (br_t (nI_le (b := 11) (by omega) (by omega)) ?_)
  by_cases c1 : 40 ≤ n
  · rw [if_pos c1] at K
    exact br_f (nI_nlt (b := 40) c1 (by omega)) (em_qn (by decide) K)
  · rw [if_neg c1] at K
    refine br_t (nI_lt (b := 40) (by omega) (by omega)) ?_
    have h34 : (k = 1 ∨ k = 2) → wY_emit_34 post (nI k) a (nI n) (nI dpn) (nI ocn) o g d mi bg tm := by
      intro h
      by_cases c : a < 0
      · unfold em_c2 at K
        rw [if_pos ((em_bad1 h).mpr (Or.inl c))] at K
        exact br_t c (em_qn (by decide) K)
      · refine br_f c ?_
        by_cases c7 : a ≤ 7
        · have hnb : ¬ em_bad k a := by
            intro w
            rcases (em_bad1 h).mp w with w | w
            · exact c w
            · exact absurd (Int32.le_trans w c7) (by decide)
          exact br_t c7 (cy_47 hk hd ho (fun w => absurd w hnb) K)
        · unfold em_c2 at K
          have h8 : (8 : Int32) ≤ a := by
            have h7 := Int32.not_le.mp c7
            rw [Int32.lt_iff_toInt_lt, show (7 : Int32).toInt = 7 from by decide] at h7
            rw [Int32.le_iff_toInt_le, show (8 : Int32).toInt = 8 from by decide]
            omega
          rw [if_pos ((em_bad1 h).mpr (Or.inr h8))] at K
          exact br_f c7 (em_qn (by decide) K)
    by_cases d1 : k = 1
    · exact br_t (by rw [d1]; rfl) (h34 (Or.inl d1))
    · refine br_f (em_nk (j := 1) hk (by omega) d1) ?_
      by_cases d2 : k = 2
      · exact br_t (by rw [d2]; rfl) (h34 (Or.inr d2))
      · refine br_f (em_nk (j := 2) hk (by omega) d2) (cy_47 hk hd ho ?_ K)
        intro w
        rcases w with w | w
        · omega
        · exact w.1
theorem cy_168 {post : Int32 → SY → Prop} {k n dpn ocn : Nat} {a : Int32} (hk : k < 12) (hn : n < 40) (hh : 2 ≤ k → k ≤ 9 → 1 ≤ dpn) (h11 : k = 11 → 1 ≤ ocn) (ho : ocn ≤ 3) (K : post (nI n) (nI (n + 1), nI (if k ≤ 1 then dpn + 1 else if k ≤ 9 then dpn - 1 else dpn), nI (if k = 9 ∨ k = 10 then ocn + 1 else if k = 11 then ocn - 1 else ocn), upd o n (nI k), upd g n a, d, mi, bg, tm)) : wY_emit_168 post (nI k) a (nI n) (nI dpn) (nI ocn) o g d mi bg tm := by
  have v40 : vp_in (nI n) 40 := fx_v40 hn
  have k40 : (nI n).toNatClampNeg = n := fx_k40 hn
  have h240 : ∀ dp' oc' : Int32, post (nI n) (nI (n + 1), dp', oc', upd o n (nI k), upd g n a, d, mi, bg, tm) → wY_emit_240 post (nI k) a (nI n) dp' oc' o g d mi bg tm := by
    intro dp' oc' K
    refine ⟨v40, nm_r (e' := upd o n (nI k)) (by rw [k40]) ⟨v40, nm_r (e' := upd g n a) (by rw [k40]) (nm_r (nI_1 n) ?_)⟩⟩
    rw [nI_pred]
    exact K
  have h202 : ∀ dp' : Int32, post (nI n) (nI (n + 1), dp', nI (if k = 9 ∨ k = 10 then ocn + 1 else if k = 11 then ocn - 1 else ocn), upd o n (nI k), upd g n a, d, mi, bg, tm) → wY_emit_202 post (nI k) a (nI n) dp' (nI ocn) o g d mi bg tm := by
    intro dp' K
    have h214 : (k = 9 ∨ k = 10) → wY_emit_214 post (nI k) a (nI n) dp' (nI ocn) o g d mi bg tm := by
      intro c
      rw [if_pos c] at K
      exact nm_r (nI_1 ocn) (br_f (em_nk (j := 11) hk (by omega) (by omega)) (h240 _ _ K))
    by_cases c9 : k = 9
    · exact br_t (by rw [c9]; rfl) (h214 (Or.inl c9))
    · refine br_f (em_nk (j := 9) hk (by omega) c9) ?_
      by_cases c10 : k = 10
      · exact br_t (by rw [c10]; rfl) (h214 (Or.inr c10))
      · refine br_f (em_nk (j := 10) hk (by omega) c10) ?_
        rw [if_neg (by omega)] at K
        by_cases c11 : k = 11
        · rw [if_pos c11] at K
          have := h11 c11
          obtain ⟨t, rfl⟩ : ∃ t, ocn = t + 1 := ⟨ocn - 1, by omega⟩
          exact br_t (by rw [c11]; rfl) (nm_r (nI_pred t) (h240 _ _ K))
        · rw [if_neg c11] at K
          exact br_f (em_nk (j := 11) hk (by omega) c11) (h240 _ _ K)
  by_cases c1 : k ≤ 1
  · rw [if_pos c1] at K
    exact br_f (nI_nlt (a := 1) c1 (by omega)) (nm_r (nI_1 dpn) (h202 _ K))
  · rw [if_neg c1] at K
    refine br_t (nI_lt (a := 1) (by omega) (by omega)) ?_
    by_cases c9 : k ≤ 9
    · rw [if_pos c9] at K
      have := hh (by omega) c9
      obtain ⟨t, rfl⟩ : ∃ t, dpn = t + 1 := ⟨dpn - 1, by omega⟩
      exact br_f (nI_nlt (a := 9) c9 (by omega)) (nm_r (nI_pred t) (h202 _ K))
    · rw [if_neg c9] at K
      exact br_t (nI_lt (a := 9) (by omega) (by omega)) (h202 _ K)
theorem cy_bd0 {post : Int32 → Prop} {s : Nat} (hs : s < 8) (K : post 0) : wpY_bad post (sz, dp, oc, o, g, d, mi, bg, tm) (nI s) :=
  br_f (nI_pos (by omega)) (br_t (nI_le (b := 7) (by omega) (by omega)) K)
theorem cy_bd1 {post : Int32 → Prop} {x : Int32} (hx : x < 0 ∨ 8 ≤ x) (K : post 1) : wpY_bad post (sz, dp, oc, o, g, d, mi, bg, tm) x := by
  by_cases h : x < 0
  · exact br_t h K
  · exact br_f h (br_f (fun z => absurd (Int32.le_trans (hx.resolve_left h) z) (by decide)) K)
end
end
section
/-! the methods that read, and set, on both sides -/
theorem fx_big {V m : Nat} (h : 10 ^ 10 ≤ V) : ¬ fx_isI V m := by
  have h6 : (10 : Nat) ^ 10 = 10000000000 := by decide
  unfold fx_isI
  split <;> omega
section
variable {tc dp oc ht : Int32} {L : Nat → Int64} {S o g pt ob rl : Nat → Int32} {pr qu re mu : Nat → Int64}
theorem cx_set {s : Nat} (hs : s < 8) (v : Int32) {post : Int32 → SX → Prop} (K : ∀ L' S', fx_fill L L' (s * 5) 5 (fx_ab v) → S' s = fx_sg (fx_ab v) (fx_mn v) → (∀ q, q ≠ s → S' q = S q) → post 0 (tc, dp, oc, ht, L', S', o, g, pt, ob, rl, pr, qu, re, mu)) : wpX_set post (tc, dp, oc, ht, L, S, o, g, pt, ob, rl, pr, qu, re, mu) (nI s) v := by
  unfold wpX_set
  exact cx_iv1 hs (br_f (by decide) (cx_wi (by omega) v K))
theorem cx_set0 {x : Int32} (hx : x < 0 ∨ 8 ≤ x) (v : Int32) {post : Int32 → SX → Prop} (K : post (-2) (tc, dp, oc, ht, L, S, o, g, pt, ob, rl, pr, qu, re, mu)) : wpX_set post (tc, dp, oc, ht, L, S, o, g, pt, ob, rl, pr, qu, re, mu) x v := by
  unfold wpX_set
  exact cx_iv0 hx (br_t rfl K)
theorem cx_sign {s V m : Nat} (hs : s < 8) (pX : xs_pic L S s V m) {post : Int32 → Prop} (K : post (fx_sg V m)) : wpX_sign post (tc, dp, oc, ht, L, S, o, g, pt, ob, rl, pr, qu, re, mu) (nI s) := by
  unfold wpX_sign
  refine cx_iv1 hs (br_f (by decide) ⟨fx_v14 (by omega), ?_⟩)
  rw [fx_k14 (by omega), pX.2]
  exact K
theorem cx_sign0 {x : Int32} (hx : x < 0 ∨ 8 ≤ x) {post : Int32 → Prop} (K : post (-2)) : wpX_sign post (tc, dp, oc, ht, L, S, o, g, pt, ob, rl, pr, qu, re, mu) x := by
  unfold wpX_sign
  exact cx_iv0 hx (br_t rfl K)
theorem cx_digits {s V : Nat} (hs : s < 8) (pX : fx_pl L (s * 5) 5 V) (hV : V < fx_T) {post : Int32 → Prop} (K : ∀ r : Nat, 1 ≤ r → V < 10 ^ r → (r = 1 ∨ 10 ^ (r - 1) ≤ V) → post (nI r)) : wpX_digits post (tc, dp, oc, ht, L, S, o, g, pt, ob, rl, pr, qu, re, mu) (nI s) := by
  unfold wpX_digits
  exact cx_iv1 hs (br_f (by decide) ⟨40, cx_ds_l (by omega) pX K 39 (by omega) hV⟩)
theorem cx_digits0 {x : Int32} (hx : x < 0 ∨ 8 ≤ x) {post : Int32 → Prop} (K : post (-2)) : wpX_digits post (tc, dp, oc, ht, L, S, o, g, pt, ob, rl, pr, qu, re, mu) x := by
  unfold wpX_digits
  exact cx_iv0 hx (br_t rfl K)
theorem cx_digit {s V : Nat} {y : Int32} (hs : s < 8) (pX : fx_pl L (s * 5) 5 V) (hV : V < fx_T) {post : Int32 → Prop} (K0 : y < 0 → post (-2)) (K : ∀ i, i < 2 ^ 31 → y = nI i → post (nI (fx_dg 10 V i))) : wpX_digit post (tc, dp, oc, ht, L, S, o, g, pt, ob, rl, pr, qu, re, mu) (nI s) y := by
  unfold wpX_digit
  refine cx_iv1 hs (br_f (by decide) ?_)
  by_cases c : y < 0
  · exact br_f (Int32.not_le.mpr c) (K0 c)
  · refine br_t (Int32.not_lt.mp c) ?_
    obtain ⟨i, hi, rfl⟩ := nI_of c
    have K' := K i hi rfl
    by_cases c4 : 40 ≤ i
    · rw [fx_dg_hi (n := 40) (by omega) hV c4] at K'
      exact br_t (nI_le (a := 40) c4 hi) K'
    · exact br_f (nI_ge (b := 40) (by omega) (by omega)) (cx_dd (by omega) (by omega) pX K')
theorem cx_digit0 {x y : Int32} (hx : x < 0 ∨ 8 ≤ x) {post : Int32 → Prop} (K : post (-2)) : wpX_digit post (tc, dp, oc, ht, L, S, o, g, pt, ob, rl, pr, qu, re, mu) x y := by
  unfold wpX_digit
  exact cx_iv0 hx (br_t rfl K)
theorem cx_cmp {a b V m W k : Nat} (ha : a < 8) (hb : b < 8) (pX : xs_pic L S a V m) (pY : xs_pic L S b W k) (hV : V < fx_T) (hW : W < fx_T) {post : Int32 → Prop} (K : post (fx_ord V m W k)) : wpX_compare post (tc, dp, oc, ht, L, S, o, g, pt, ob, rl, pr, qu, re, mu) (nI a) (nI b) := by
  unfold wpX_compare
  exact cx_iv1 ha (br_f (by decide) (cx_iv1 hb (br_f (by decide) (cx_cn (by omega) (by omega) pX pY hV hW K))))
theorem cx_cmp0 {x y : Int32} (hx : x < 0 ∨ 8 ≤ x) {post : Int32 → Prop} (K : post (-2)) : wpX_compare post (tc, dp, oc, ht, L, S, o, g, pt, ob, rl, pr, qu, re, mu) x y := by
  unfold wpX_compare
  exact cx_iv0 hx (br_t rfl K)
theorem cx_cmp1 {a : Nat} {y : Int32} (ha : a < 8) (hy : y < 0 ∨ 8 ≤ y) {post : Int32 → Prop} (K : post (-2)) : wpX_compare post (tc, dp, oc, ht, L, S, o, g, pt, ob, rl, pr, qu, re, mu) (nI a) y := by
  unfold wpX_compare
  exact cx_iv1 ha (br_f (by decide) (cx_iv0 hy (br_t rfl K)))
theorem cx_isI {s V m : Nat} (hs : s < 8) (pX : xs_pic L S s V m) (hV : V < fx_T) {post : Int32 → Prop} (K1 : fx_isI V m → post 1) (K0 : ¬ fx_isI V m → post 0) : wpX_isInt post (tc, dp, oc, ht, L, S, o, g, pt, ob, rl, pr, qu, re, mu) (nI s) := by
  unfold wpX_isInt
  exact cx_iv1 hs (br_f (by decide) (cx_ii (by omega) pX hV K1 K0))
theorem cx_isI0 {x : Int32} (hx : x < 0 ∨ 8 ≤ x) {post : Int32 → Prop} (K : post 0) : wpX_isInt post (tc, dp, oc, ht, L, S, o, g, pt, ob, rl, pr, qu, re, mu) x := by
  unfold wpX_isInt
  exact cx_iv0 hx (br_t rfl K)
theorem fx_isI_2 {V m : Nat} (h : fx_isI V m) : V ≤ 2147483648 := by
  unfold fx_isI at h
  split at h <;> omega
theorem cx_as {s V m : Nat} (hs : s < 8) (pX : xs_pic L S s V m) (hV : V < fx_T) {post : Int32 → Prop} (K1 : fx_isI V m → post (fx_l V m).toInt32) (K0 : ¬ fx_isI V m → post 0) : wpX_asInt post (tc, dp, oc, ht, L, S, o, g, pt, ob, rl, pr, qu, re, mu) (nI s) := by
  unfold wpX_asInt
  refine cx_isI hs pX hV ?_ ?_
  · intro h
    have := fx_isI_2 h
    exact br_f (by decide) (cx_lv (by omega) pX (Nat.lt_of_le_of_lt this (by decide)) (K1 h))
  · intro h
    exact br_t rfl (K0 h)
theorem cx_as0 {x : Int32} (hx : x < 0 ∨ 8 ≤ x) {post : Int32 → Prop} (K : post 0) : wpX_asInt post (tc, dp, oc, ht, L, S, o, g, pt, ob, rl, pr, qu, re, mu) x := by
  unfold wpX_asInt
  exact cx_isI0 hx (br_t rfl K)
theorem cx_rn9 {n dpn ocn : Nat} (hd : dpn ≤ 6) (ho : ocn ≤ 3) (h : dpn ≠ 0 ∨ ocn ≠ 0) {post : Int32 → SX → Prop} (K : post (-9) (nI n, nI dpn, nI ocn, ht, L, S, o, g, pt, ob, rl, pr, qu, re, mu)) : wpX_run post (nI n, nI dpn, nI ocn, ht, L, S, o, g, pt, ob, rl, pr, qu, re, mu) := by
  by_cases c : dpn = 0
  · exact br_t (by rw [c]; rfl) (br_f (nI_ne0 (by omega) (by omega)) K)
  · exact br_f (nI_ne0 (by omega) (by omega)) K
end
section
variable {sz dp oc : Int32} {o g d mi bg tm : Nat → Int32}
theorem cy_set {s : Nat} (hs : s < 8) (v : Int32) {post : Int32 → SY → Prop} (K : ∀ d', fy_fill d d' (s * 82) 82 (fx_ab v) → post 0 (sz, dp, oc, o, g, d', upd mi s (nI (fx_mn v)), bg, tm)) : wpY_set post (sz, dp, oc, o, g, d, mi, bg, tm) (nI s) v := by
  unfold wpY_set
  exact cy_bd0 hs (br_t rfl (cy_wr (by omega) v K))
theorem cy_set0 {x : Int32} (hx : x < 0 ∨ 8 ≤ x) (v : Int32) {post : Int32 → SY → Prop} (K : post (-2) (sz, dp, oc, o, g, d, mi, bg, tm)) : wpY_set post (sz, dp, oc, o, g, d, mi, bg, tm) x v := by
  unfold wpY_set
  exact cy_bd1 hx (br_f (by decide) K)
theorem cy_sign {s V m : Nat} (hs : s < 8) (hm : m < 2) (pY : ys_pic d mi s V m) (hV : V < fx_T) {post : Int32 → Prop} (K : post (fx_sg V m)) : wpY_sign post (sz, dp, oc, o, g, d, mi, bg, tm) (nI s) := by
  unfold wpY_sign
  refine cy_bd0 hs (br_t rfl (cy_ln (by omega) pY.1 (fx_T82 hV) ?_))
  intro n hn hl
  by_cases z : n = 0
  · rw [(fx_len_0 hl).mp z, fx_sg_0] at K
    exact br_t (by rw [z]; rfl) K
  · have hv : V ≠ 0 := fun w => z ((fx_len_0 hl).mpr w)
    refine br_f (nI_ne0 (by omega) (by omega)) ⟨fx_v16 (by omega), ?_⟩
    rw [fx_k16 (by omega), pY.2]
    by_cases c : m = 0
    · rw [c, fx_sg_p hv] at K
      exact br_t (by rw [c]; rfl) K
    · rw [fx_sg_n hv c] at K
      exact br_f (nI_ne0 (by omega) (by omega)) K
theorem cy_sign0 {x : Int32} (hx : x < 0 ∨ 8 ≤ x) {post : Int32 → Prop} (K : post (-2)) : wpY_sign post (sz, dp, oc, o, g, d, mi, bg, tm) x := by
  unfold wpY_sign
  exact cy_bd1 hx (br_f (by decide) K)
theorem cy_digits {s V r : Nat} (hs : s < 8) (pY : fx_pd d (s * 82) 82 V) (hV : V < fx_T) (h1 : 1 ≤ r) (h2 : V < 10 ^ r) (h3 : r = 1 ∨ 10 ^ (r - 1) ≤ V) {post : Int32 → Prop} (K : post (nI r)) : wpY_digits post (sz, dp, oc, o, g, d, mi, bg, tm) (nI s) := by
  unfold wpY_digits
  refine cy_bd0 hs (br_t rfl (cy_ln (by omega) pY (fx_T82 hV) ?_))
  intro n hn hl
  by_cases z : n = 0
  · have hv := (fx_len_0 hl).mp z
    have e : r = 1 := by
      rcases h3 with h3 | h3
      · exact h3
      · have := fx_pp (B := 10) (by omega) (r - 1)
        omega
    rw [e] at K
    exact br_t (by rw [z]; rfl) K
  · have hv : V ≠ 0 := fun w => z ((fx_len_0 hl).mpr w)
    have hr : fx_len V r := ⟨h2, Or.inr (by
      rcases h3 with h3 | h3
      · rw [h3, Nat.pow_zero]; omega
      · exact h3)⟩
    rw [← fx_len_un hl hr] at K
    exact br_f (nI_ne0 (by omega) (by omega)) K
theorem cy_digits0 {x : Int32} (hx : x < 0 ∨ 8 ≤ x) {post : Int32 → Prop} (K : post (-2)) : wpY_digits post (sz, dp, oc, o, g, d, mi, bg, tm) x := by
  unfold wpY_digits
  exact cy_bd1 hx (br_f (by decide) K)
theorem cy_digit {s V : Nat} {y : Int32} (hs : s < 8) (pY : fx_pd d (s * 82) 82 V) (hV : V < fx_T) {post : Int32 → Prop} (K0 : y < 0 → post (-2)) (K : ∀ i, i < 2 ^ 31 → y = nI i → post (nI (fx_dg 10 V i))) : wpY_digit post (sz, dp, oc, o, g, d, mi, bg, tm) (nI s) y := by
  unfold wpY_digit
  refine cy_bd0 hs (br_t rfl ?_)
  by_cases c : y < 0
  · exact br_f (Int32.not_le.mpr c) (K0 c)
  · refine br_t (Int32.not_lt.mp c) ?_
    obtain ⟨i, hi, rfl⟩ := nI_of c
    have K' := K i hi rfl
    by_cases c4 : 82 ≤ i
    · rw [fx_dg_hi (n := 40) (by omega) hV (by omega)] at K'
      exact br_t (nI_le (a := 82) c4 hi) K'
    · refine br_f (nI_ge (b := 82) (by omega) (by omega)) ⟨fx_v82 (by omega) (by omega), ?_⟩
      rw [fx_c82 (by omega) (by omega), pY i (by omega)]
      exact K'
theorem cy_digit0 {x y : Int32} (hx : x < 0 ∨ 8 ≤ x) {post : Int32 → Prop} (K : post (-2)) : wpY_digit post (sz, dp, oc, o, g, d, mi, bg, tm) x y := by
  unfold wpY_digit
  exact cy_bd1 hx (br_f (by decide) K)
theorem cy_cmp {a b V m W k : Nat} (ha : a < 8) (hb : b < 8) (hm : m < 2) (hk : k < 2) (pX : ys_pic d mi a V m) (pY : ys_pic d mi b W k) (hV : V < fx_T) (hW : W < fx_T) {post : Int32 → Prop} (K : post (fx_ord V m W k)) : wpY_compare post (sz, dp, oc, o, g, d, mi, bg, tm) (nI a) (nI b) := by
  unfold wpY_compare
  exact cy_bd0 ha (br_t rfl (cy_bd0 hb (br_t rfl (cy_or (by omega) (by omega) hm hk pX.1 pX.2 pY.1 pY.2 hV hW K))))
theorem cy_cmp0 {x y : Int32} (hx : x < 0 ∨ 8 ≤ x) {post : Int32 → Prop} (K : post (-2)) : wpY_compare post (sz, dp, oc, o, g, d, mi, bg, tm) x y := by
  unfold wpY_compare
  exact cy_bd1 hx (br_f (by decide) K)
theorem cy_cmp1 {a : Nat} {y : Int32} (ha : a < 8) (hy : y < 0 ∨ 8 ≤ y) {post : Int32 → Prop} (K : post (-2)) : wpY_compare post (sz, dp, oc, o, g, d, mi, bg, tm) (nI a) y := by
  unfold wpY_compare
  exact cy_bd0 ha (br_t rfl (cy_bd1 hy (br_f (by decide) K)))
theorem cy_isI {s V m : Nat} (hs : s < 8) (hm : m < 2) (pY : ys_pic d mi s V m) (hV : V < fx_T) {post : Int32 → Prop} (K1 : fx_isI V m → post 1) (K0 : ¬ fx_isI V m → post 0) : wpY_isInt post (sz, dp, oc, o, g, d, mi, bg, tm) (nI s) := by
  unfold wpY_isInt
  refine cy_bd0 hs (br_t rfl (cy_ln (by omega) pY.1 (fx_T82 hV) ?_))
  intro n hn hl
  have hg := fx_len_gt hl 10
  by_cases c : 10 < n
  · exact br_f (nI_ge (a := 10) c (by omega)) (K0 (fx_big (hg.mp c)))
  · have hlt : V < 10 ^ 10 := by
      by_cases w : 10 ^ 10 ≤ V
      · exact absurd (hg.mpr w) c
      · omega
    have h63 : V < 2 ^ 63 := Nat.lt_trans hlt (by decide)
    have hi := fx_isI_lo h63 m
    refine br_t (nI_le (b := 10) (by omega) (by omega)) (cy_sl (by omega) hm pY.1 pY.2 hlt ?_)
    by_cases c1 : fx_l V m < -2147483648
    · exact br_t c1 (K0 (fun z => Int64.not_le.mpr c1 (hi.mpr z).1))
    · refine br_f c1 ?_
      by_cases c2 : 2147483647 < fx_l V m
      · exact br_t c2 (K0 (fun z => Int64.not_le.mpr c2 (hi.mpr z).2))
      · exact br_f c2 (K1 (hi.mp ⟨Int64.not_lt.mp c1, Int64.not_lt.mp c2⟩))
theorem cy_isI0 {x : Int32} (hx : x < 0 ∨ 8 ≤ x) {post : Int32 → Prop} (K : post 0) : wpY_isInt post (sz, dp, oc, o, g, d, mi, bg, tm) x := by
  unfold wpY_isInt
  exact cy_bd1 hx (br_f (by decide) K)
theorem cy_as {s V m : Nat} (hs : s < 8) (hm : m < 2) (pY : ys_pic d mi s V m) (hV : V < fx_T) {post : Int32 → Prop} (K1 : fx_isI V m → post (fx_l V m).toInt32) (K0 : ¬ fx_isI V m → post 0) : wpY_asInt post (sz, dp, oc, o, g, d, mi, bg, tm) (nI s) := by
  unfold wpY_asInt
  refine cy_isI hs hm pY hV ?_ ?_
  · intro h
    have := fx_isI_2 h
    exact br_f (by decide) (cy_sl (by omega) hm pY.1 pY.2 (Nat.lt_of_le_of_lt this (by decide)) (K1 h))
  · intro h
    exact br_t rfl (K0 h)
theorem cy_as0 {x : Int32} (hx : x < 0 ∨ 8 ≤ x) {post : Int32 → Prop} (K : post 0) : wpY_asInt post (sz, dp, oc, o, g, d, mi, bg, tm) x := by
  unfold wpY_asInt
  exact cy_isI0 hx (br_t rfl K)
theorem cy_rn9 {n dpn ocn : Nat} (hd : dpn ≤ 6) (ho : ocn ≤ 3) (h : dpn ≠ 0 ∨ ocn ≠ 0) {post : Int32 → SY → Prop} (K : post (-9) (nI n, nI dpn, nI ocn, o, g, d, mi, bg, tm)) : wpY_run post (nI n, nI dpn, nI ocn, o, g, d, mi, bg, tm) := by
  by_cases c : dpn = 0
  · exact br_t (by rw [c]; rfl) (br_f (nI_ne0 (by omega) (by omega)) K)
  · exact br_f (nI_ne0 (by omega) (by omega)) K
end
theorem fx_var (x : Int32) : (x < 0 ∨ 8 ≤ x) ∨ ∃ s : Nat, s < 8 ∧ x = nI s := by
  rcases pk_ix x (n := 8) (by omega) with h | h | h
  · exact Or.inl (Or.inl h)
  · exact Or.inl (Or.inr h)
  · exact Or.inr h
theorem mc_run_G {o g e : Nat → Int32} {n : Nat} (hN : n ≤ 40) (H : bk_wf o g n) (hn : bk_st o n = []) (PT : bk_pt o e n) : ∀ (f p : Nat) (V M : Nat → Nat) (rl : Nat → Int32), p ≤ n → mc_G (8 + bk_dp o p) V M → mc_G 8 (mc_run o g e n f p V M rl).2.1 (mc_run o g e n f p V M rl).2.2 := by
  intro f
  induction f with
  | zero => intro p V M rl _ G; exact mc_G_le G (by omega)
  | succ f ih =>
    intro p V M rl hp G
    by_cases hpn : p < n
    · obtain ⟨k, hk, ho, t⟩ := H p hpn
      have hR : mc_run o g e n (f + 1) p V M rl = if mc_c k (bk_dp o p) V M = 0 then mc_run o g e n f (mc_p k (bk_dp o p) p (mc_s o p) (o (mc_s o p)) (e p) V rl) (mc_V k (bk_dp o p) (g p) V M) (mc_M k (bk_dp o p) (g p) V M) (mc_rl k p (mc_s o p) (o (mc_s o p)) (g p) rl) else (mc_c k (bk_dp o p) V M, V, M) := by
        show (if p < n then _ else _) = _
        rw [if_pos hpn, mc_kk ho hk]
      rw [hR]
      by_cases hc : mc_c k (bk_dp o p) V M = 0
      · rw [if_pos hc]
        have nx := mc_nx (V := V) (rl := rl) hN H hn PT hpn ho hk
        have G' := mc_nG H hpn ho hk G hc
        rw [← nx.2.1] at G'
        exact ih _ _ _ _ nx.1 G'
      · rw [if_neg hc]
        exact mc_G_le G (by omega)
    · have hR : mc_run o g e n (f + 1) p V M rl = (0, V, M) := by
        show (if p < n then _ else _) = _
        rw [if_neg hpn]
      rw [hR]
      exact mc_G_le G (by omega)
end
section
/-- both sides hold the same program; the eight variables have, on each side, the picture of the same numbers -/
def i_Rel (k : Nat) (u : SX) (v : SY) : Prop := ∃ (n dpn ocn : Nat) (ht : Int32) (L : Nat → Int64) (S o g pt ob rl : Nat → Int32) (pr qu re mu : Nat → Int64) (d mi bg tm : Nat → Int32) (V M : Nat → Nat), u = (nI n, nI dpn, nI ocn, ht, L, S, o, g, pt, ob, rl, pr, qu, re, mu) ∧ v = (nI n, nI dpn, nI ocn, o, g, d, mi, bg, tm) ∧ em_R n dpn ocn o g pt ob ∧ mc_G 8 V M ∧ xs_all L S 8 V M ∧ ys_all d mi 8 V M
theorem i_up {k : Nat} {u : SX} {v : SY} (h : i_Rel k u v) : i_Rel (k + 3) u v := h
theorem i_vc0 : wpX_init (fun u => wpY_init (fun v => i_Rel 0 u v)) := by
  refine ⟨0, 0, 0, 0, _, _, _, _, _, _, _, _, _, _, _, _, _, _, _, fun _ => 0, fun _ => 0, rfl, rfl, em_R0 _ _ _ _, fun _ _ => ⟨fx_T0, show (0 : Nat) < 2 by omega⟩, fun s _ => ⟨fun i _ => by rw [fx_dg_0]; rfl, rfl⟩, fun s _ => ⟨fun i _ => by rw [fx_dg_0]; rfl, rfl⟩⟩
theorem i_vc_emit {k : Nat} {u : SX} {v : SY} (I : i_Rel k u v) (hk : k + 3 ≤ 1536) (v1 : Int32) (v2 : Int32) : wpX_emit (fun r u' => wpY_emit (fun r' v' => r' = r ∧ i_Rel (k + 3) u' v') v v1 v2) u v1 v2 := by
  have I' := I
  obtain ⟨n, dpn, ocn, ht, L, S, o, g, pt, ob, rl, pr, qu, re, mu, d, mi, bg, tm, V, M, rfl, rfl, R, G, XA, YA⟩ := I
  have hd := em_Rdp R
  have hoc := em_Roc R
  have hn := R.1
  rcases pk_ix v1 (n := 12) (by omega) with h | h | ⟨j, hj, rfl⟩
  · exact br_t h (br_f (by decide) (br_t h ⟨rfl, I'⟩))
  · have h0 : ¬ v1 < 0 := fun z => absurd (Int32.lt_of_lt_of_le (Int32.lt_of_le_of_lt h z) (Int32.le_refl 0)) (by decide)
    have h11 : ¬ v1 ≤ 11 := fun z => absurd (Int32.le_trans h z) (by decide)
    exact br_f h0 (br_f h11 (br_f (by decide) (br_f h0 (br_f h11 ⟨rfl, I'⟩))))
  · by_cases c : em_c j v2 n dpn ocn = 0
    · obtain ⟨q1, q2, q3, q4, q5, q6, q7⟩ := em_c0 c
      refine cx_em1 hj hd hoc c ?_ ?_ ?_ ?_
      · intro h8
        refine cy_em hj hn hd hoc ⟨fun _ => cy_168 hj q1 (em_h1 q3) (by omega) hoc ?_, fun z => absurd c z⟩
        have ed : (if j ≤ 1 then dpn + 1 else if j ≤ 9 then dpn - 1 else dpn) = (if j ≤ 1 then dpn + 1 else dpn - 1) := by
          split
          · rfl
          · rw [if_pos (by omega)]
        rw [ed, if_neg (show ¬ (j = 9 ∨ j = 10) by omega), if_neg (show ¬ j = 11 by omega)]
        exact ⟨rfl, _, _, _, ht, L, S, _, _, pt, ob, rl, pr, qu, re, mu, d, mi, bg, tm, V, M, rfl, rfl, em_A R q1 h8 q2 q3 q4, G, XA, YA⟩
      · intro h9
        refine cy_em hj hn hd hoc ⟨fun _ => cy_168 hj q1 (em_h1 q3) (by omega) hoc ?_, fun z => absurd c z⟩
        have e5 := q5 (by omega)
        have ed : (if j ≤ 1 then dpn + 1 else if j ≤ 9 then dpn - 1 else dpn) = 0 := by
          rcases h9 with rfl | rfl
          · rw [show bk_pops 9 = 1 from rfl] at e5; rw [e5]; rfl
          · rw [show bk_pops 10 = 0 from rfl] at e5; rw [e5]; rfl
        rw [ed, if_pos h9]
        refine ⟨rfl, _, _, _, ht, L, S, _, _, pt, _, rl, pr, qu, re, mu, d, mi, bg, tm, V, M, rfl, rfl, em_B R q1 h9 ?_ ?_ (q6 h9), G, XA, YA⟩
        · intro e; subst e; exact e5
        · intro e; subst e; exact e5
      · intro h11 s hs es
        subst h11
        have e5 : dpn = 0 := q5 (by omega)
        subst e5
        have h0 := q7 rfl
        obtain ⟨t, rfl⟩ : ∃ t, ocn = t + 1 := ⟨ocn - 1, by omega⟩
        refine cy_em hj hn hd hoc ⟨fun _ => cy_168 hj q1 (em_h1 q3) (by omega) hoc ?_, fun z => absurd c z⟩
        obtain ⟨s', hs', es', R'⟩ := em_C (a := v2) R q1
        have e : s' = s := (nI_eq (by omega) (by omega)).mp (es'.symm.trans es)
        subst e
        exact ⟨rfl, _, _, _, ht, L, S, _, _, _, ob, rl, pr, qu, re, mu, d, mi, bg, tm, V, M, rfl, rfl, R', G, XA, YA⟩
      · intro h11
        subst h11
        have e5 : dpn = 0 := q5 (by omega)
        subst e5
        have h0 := q7 rfl
        obtain ⟨t, rfl⟩ : ∃ t, ocn = t + 1 := ⟨ocn - 1, by omega⟩
        obtain ⟨s', hs', es', R'⟩ := em_C (a := v2) R q1
        exact ⟨s', hs', es'⟩
    · exact cx_em0 hj hn hd hoc c (cy_em hj hn hd hoc ⟨fun z => absurd z c, fun _ => ⟨rfl, I'⟩⟩)
theorem i_vc_clear {k : Nat} {u : SX} {v : SY} (I : i_Rel k u v) (hk : k + 3 ≤ 1536) : wpX_clear (fun u' => wpY_clear (fun v' => i_Rel (k + 3) u' v') v) u := by
  obtain ⟨n, dpn, ocn, ht, L, S, o, g, pt, ob, rl, pr, qu, re, mu, d, mi, bg, tm, V, M, rfl, rfl, R, G, XA, YA⟩ := I
  exact ⟨0, 0, 0, ht, L, S, o, g, pt, ob, rl, pr, qu, re, mu, d, mi, bg, tm, V, M, rfl, rfl, em_R0 _ _ _ _, G, XA, YA⟩
theorem i_vc_set {k : Nat} {u : SX} {v : SY} (I : i_Rel k u v) (hk : k + 3 ≤ 1536) (v1 : Int32) (v2 : Int32) : wpX_set (fun r u' => wpY_set (fun r' v' => r' = r ∧ i_Rel (k + 3) u' v') v v1 v2) u v1 v2 := by
  have I' := I
  obtain ⟨n, dpn, ocn, ht, L, S, o, g, pt, ob, rl, pr, qu, re, mu, d, mi, bg, tm, V, M, rfl, rfl, R, G, XA, YA⟩ := I
  rcases fx_var v1 with h | ⟨s, hs, rfl⟩
  · exact cx_set0 h v2 (cy_set0 h v2 ⟨rfl, I'⟩)
  · refine cx_set hs v2 ?_
    intro L' S' hf h1 h2
    refine cy_set hs v2 ?_
    intro d' hf'
    exact ⟨rfl, n, dpn, ocn, ht, L', S', o, g, pt, ob, rl, pr, qu, re, mu, d', _, bg, tm, fx_up V s (fx_ab v2), fx_up M s (fx_mn v2), rfl, rfl, R, mc_G_up G (fx_ab_T v2) (fx_mn_2 v2), xs_wr (y := 14) XA hf.1 (fun q h _ => h2 q h) ⟨hf.2, h1⟩ (by omega) (fun q h _ => h), ys_put YA hf' rfl (fun q h _ => h)⟩
theorem i_vc_run {k : Nat} {u : SX} {v : SY} (I : i_Rel k u v) (hk : k + 3 ≤ 1536) : wpX_run (fun r u' => wpY_run (fun r' v' => r' = r ∧ i_Rel (k + 3) u' v') v) u := by
  have I' := I
  obtain ⟨n, dpn, ocn, ht, L, S, o, g, pt, ob, rl, pr, qu, re, mu, d, mi, bg, tm, V, M, rfl, rfl, R, G, XA, YA⟩ := I
  have hd := em_Rdp R
  have hoc := em_Roc R
  by_cases c : dpn ≠ 0 ∨ ocn ≠ 0
  · exact cx_rn9 hd hoc c (cy_rn9 hd hoc c ⟨rfl, I'⟩)
  · have e1 : dpn = 0 := by omega
    have e2 : ocn = 0 := by omega
    subst e1
    subst e2
    obtain ⟨hN, H, h0, hl, hb, PT⟩ := id R
    have hst : bk_st o n = [] := List.eq_nil_of_length_eq_zero hl
    refine br_t rfl (br_t rfl ⟨8642, cx_run hN H hst PT 8640 0 0 V M rl L S pr qu re mu rfl (Nat.zero_le n) G XA ?_⟩)
    intro ht' L' S' rl' pr' qu' re' mu' XA'
    refine br_t rfl (br_t rfl ⟨8641, cy_run (e := pt) hN H hst PT 8640 0 0 V M rl d mi bg tm rfl (Nat.zero_le n) G YA trivial ?_⟩)
    intro d' mi' bg' tm' YA'
    exact ⟨rfl, n, 0, 0, ht', L', S', o, g, pt, ob, rl', pr', qu', re', mu', d', mi', bg', tm', _, _, rfl, rfl, R, mc_run_G hN H hst PT 8640 0 V M rl (Nat.zero_le n) G, XA', YA'⟩
theorem i_vc_tokens {k : Nat} {u : SX} {v : SY} (I : i_Rel k u v) (hk : k + 3 ≤ 1536) : wpX_tokens (fun r => wpY_tokens (fun r' => r' = r ∧ i_Rel (k + 3) u v) v) u := by
  have I' := I
  obtain ⟨n, dpn, ocn, ht, L, S, o, g, pt, ob, rl, pr, qu, re, mu, d, mi, bg, tm, V, M, rfl, rfl, R, G, XA, YA⟩ := I
  exact ⟨rfl, I'⟩
theorem i_vc_sign {k : Nat} {u : SX} {v : SY} (I : i_Rel k u v) (hk : k + 3 ≤ 1536) (v1 : Int32) : wpX_sign (fun r => wpY_sign (fun r' => r' = r ∧ i_Rel (k + 3) u v) v v1) u v1 := by
  have I' := I
  obtain ⟨n, dpn, ocn, ht, L, S, o, g, pt, ob, rl, pr, qu, re, mu, d, mi, bg, tm, V, M, rfl, rfl, R, G, XA, YA⟩ := I
  rcases fx_var v1 with h | ⟨s, hs, rfl⟩
  · exact cx_sign0 h (cy_sign0 h ⟨rfl, I'⟩)
  · exact cx_sign hs (XA s hs) (cy_sign hs (G s hs).2 (YA s hs) (G s hs).1 ⟨rfl, I'⟩)
theorem i_vc_digits {k : Nat} {u : SX} {v : SY} (I : i_Rel k u v) (hk : k + 3 ≤ 1536) (v1 : Int32) : wpX_digits (fun r => wpY_digits (fun r' => r' = r ∧ i_Rel (k + 3) u v) v v1) u v1 := by
  have I' := I
  obtain ⟨n, dpn, ocn, ht, L, S, o, g, pt, ob, rl, pr, qu, re, mu, d, mi, bg, tm, V, M, rfl, rfl, R, G, XA, YA⟩ := I
  rcases fx_var v1 with h | ⟨s, hs, rfl⟩
  · exact cx_digits0 h (cy_digits0 h ⟨rfl, I'⟩)
  · exact cx_digits hs (XA s hs).1 (G s hs).1 (fun r h1 h2 h3 => cy_digits hs (YA s hs).1 (G s hs).1 h1 h2 h3 ⟨rfl, I'⟩)
theorem i_vc_digit {k : Nat} {u : SX} {v : SY} (I : i_Rel k u v) (hk : k + 3 ≤ 1536) (v1 : Int32) (v2 : Int32) : wpX_digit (fun r => wpY_digit (fun r' => r' = r ∧ i_Rel (k + 3) u v) v v1 v2) u v1 v2 := by
  have I' := I
  obtain ⟨n, dpn, ocn, ht, L, S, o, g, pt, ob, rl, pr, qu, re, mu, d, mi, bg, tm, V, M, rfl, rfl, R, G, XA, YA⟩ := I
  rcases fx_var v1 with h | ⟨s, hs, rfl⟩
  · exact cx_digit0 h (cy_digit0 h ⟨rfl, I'⟩)
  · refine cx_digit hs (XA s hs).1 (G s hs).1 ?_ ?_
    · intro hy
      exact cy_digit hs (YA s hs).1 (G s hs).1 (fun _ => ⟨rfl, I'⟩) (fun i hi e => absurd hy (by rw [e]; exact nI_pos hi))
    · intro i hi e
      refine cy_digit hs (YA s hs).1 (G s hs).1 (fun hy => absurd hy (by rw [e]; exact nI_pos hi)) ?_
      intro j hj e'
      have : j = i := (nI_eq hj hi).mp (e'.symm.trans e)
      subst this
      exact ⟨rfl, I'⟩
theorem i_vc_compare {k : Nat} {u : SX} {v : SY} (I : i_Rel k u v) (hk : k + 3 ≤ 1536) (v1 : Int32) (v2 : Int32) : wpX_compare (fun r => wpY_compare (fun r' => r' = r ∧ i_Rel (k + 3) u v) v v1 v2) u v1 v2 := by
  have I' := I
  obtain ⟨n, dpn, ocn, ht, L, S, o, g, pt, ob, rl, pr, qu, re, mu, d, mi, bg, tm, V, M, rfl, rfl, R, G, XA, YA⟩ := I
  rcases fx_var v1 with h | ⟨s, hs, rfl⟩
  · exact cx_cmp0 h (cy_cmp0 h ⟨rfl, I'⟩)
  · rcases fx_var v2 with h | ⟨t, ht2, rfl⟩
    · exact cx_cmp1 hs h (cy_cmp1 hs h ⟨rfl, I'⟩)
    · exact cx_cmp hs ht2 (XA s hs) (XA t ht2) (G s hs).1 (G t ht2).1 (cy_cmp hs ht2 (G s hs).2 (G t ht2).2 (YA s hs) (YA t ht2) (G s hs).1 (G t ht2).1 ⟨rfl, I'⟩)
theorem i_vc_isInt {k : Nat} {u : SX} {v : SY} (I : i_Rel k u v) (hk : k + 3 ≤ 1536) (v1 : Int32) : wpX_isInt (fun r => wpY_isInt (fun r' => r' = r ∧ i_Rel (k + 3) u v) v v1) u v1 := by
  have I' := I
  obtain ⟨n, dpn, ocn, ht, L, S, o, g, pt, ob, rl, pr, qu, re, mu, d, mi, bg, tm, V, M, rfl, rfl, R, G, XA, YA⟩ := I
  rcases fx_var v1 with h | ⟨s, hs, rfl⟩
  · exact cx_isI0 h (cy_isI0 h ⟨rfl, I'⟩)
  · exact cx_isI hs (XA s hs) (G s hs).1 (fun h => cy_isI hs (G s hs).2 (YA s hs) (G s hs).1 (fun _ => ⟨rfl, I'⟩) (fun z => absurd h z)) (fun h => cy_isI hs (G s hs).2 (YA s hs) (G s hs).1 (fun z => absurd z h) (fun _ => ⟨rfl, I'⟩))
theorem i_vc_asInt {k : Nat} {u : SX} {v : SY} (I : i_Rel k u v) (hk : k + 3 ≤ 1536) (v1 : Int32) : wpX_asInt (fun r => wpY_asInt (fun r' => r' = r ∧ i_Rel (k + 3) u v) v v1) u v1 := by
  have I' := I
  obtain ⟨n, dpn, ocn, ht, L, S, o, g, pt, ob, rl, pr, qu, re, mu, d, mi, bg, tm, V, M, rfl, rfl, R, G, XA, YA⟩ := I
  rcases fx_var v1 with h | ⟨s, hs, rfl⟩
  · exact cx_as0 h (cy_as0 h ⟨rfl, I'⟩)
  · exact cx_as hs (XA s hs) (G s hs).1 (fun h => cy_as hs (G s hs).2 (YA s hs) (G s hs).1 (fun _ => ⟨rfl, I'⟩) (fun z => absurd h z)) (fun h => cy_as hs (G s hs).2 (YA s hs) (G s hs).1 (fun z => absurd z h) (fun _ => ⟨rfl, I'⟩))
end
