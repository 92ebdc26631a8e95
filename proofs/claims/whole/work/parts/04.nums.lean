/-! the machine's numbers -/
theorem fx_B : (100000000 : Int64) = lN 100000000 := rfl
theorem fx_10 : (10 : Int64) = lN 10 := rfl
theorem fx_i5 (x i : Nat) : nI x * 5 + nI i = nI (x * 5 + i) := by
  rw [show (5 : Int32) = nI 5 from rfl, pk_mul, nI_add]
theorem fx_i82 (x i : Nat) : nI x * 82 + nI i = nI (x * 82 + i) := by
  rw [show (82 : Int32) = nI 82 from rfl, pk_mul, nI_add]
theorem fx_lrem {a : Nat} (ha : a < 2 ^ 63) : lN a - lN a / 100000000 * 100000000 = lN (a % 100000000) := by
  rw [fx_B]; exact pk_lRem ha (by omega) (by omega)
theorem fx_ldiv {a : Nat} (ha : a < 2 ^ 63) : lN a / 100000000 = lN (a / 100000000) := by
  rw [fx_B]; exact pk_lDiv ha (by omega) (by omega)
theorem fx_lrem10 {a : Nat} (ha : a < 2 ^ 63) : lN a - lN a / 10 * 10 = lN (a % 10) := by
  rw [fx_10]; exact pk_lRem ha (by omega) (by omega)
theorem fx_ldiv10 {a : Nat} (ha : a < 2 ^ 63) : lN a / 10 = lN (a / 10) := by
  rw [fx_10]; exact pk_lDiv ha (by omega) (by omega)
theorem fx_irem {a : Nat} (ha : a < 2 ^ 31) : nI a - nI a / 10 * 10 = nI (a % 10) := by
  rw [show (10 : Int32) = nI 10 from rfl]; exact pk_rem ha (by omega) (by omega)
theorem fx_idiv {a : Nat} (ha : a < 2 ^ 31) : nI a / 10 = nI (a / 10) := by
  rw [show (10 : Int32) = nI 10 from rfl]; exact pk_div ha (by omega) (by omega)
theorem fx_lnegT {k : Nat} (h : k < 2 ^ 63) : (-(lN k)).toInt = -(k : Int) := by
  rw [Int64.toInt_neg, pk_lT h]
  exact Int.bmod_eq_of_le (by omega) (by omega)
theorem fx_lneg {k : Nat} (h0 : 0 < k) (h : k < 2 ^ 63) : -(lN k) < 0 := by
  rw [Int64.lt_iff_toInt_lt, fx_lnegT h, show (0 : Int64).toInt = 0 from by decide]
  omega
theorem fx_lnn {k : Nat} (h : k < 2 ^ 63) : ¬ lN k < 0 := by
  rw [Int64.lt_iff_toInt_lt, pk_lT h, show (0 : Int64).toInt = 0 from by decide]
  omega
/-- a difference with a borrow -/
theorem fx_dneg {a b c : Nat} (ha : a < 2 ^ 31) (hb : b < 2 ^ 31) (hc : c ≤ 1) : lN a - lN b - lN c < 0 ↔ a < b + c := by
  by_cases h : a < b + c
  · have e : lN a - lN b - lN c = -(lN (b + c - a)) := by
      have e1 : lN (b + c - a) = lN b + lN c - lN a := by rw [← lN_sub (by omega), ← lN_add]
      rw [e1]; grind
    rw [e]
    exact ⟨fun _ => h, fun _ => fx_lneg (by omega) (by omega)⟩
  · rw [lN_sub (by omega), lN_sub (by omega)]
    exact ⟨fun z => absurd z (fx_lnn (by omega)), fun z => absurd z h⟩
theorem fx_dval1 {a b c : Nat} (hb : b ≤ 100000000 - 1) (hc : c ≤ 1) : lN a - lN b - lN c + 1 * 100000000 = lN (a + 100000000 - b - c) := by
  rw [← lN_sub (by omega), ← lN_sub (by omega), ← lN_add, ← fx_B]
  grind
theorem fx_dval0 {a b c : Nat} (h : ¬ a < b + c) : lN a - lN b - lN c + 0 * 100000000 = lN (a - b - c) := by
  rw [lN_sub (by omega), lN_sub (by omega)]
  grind
theorem fx_yd {a b c : Nat} (hb : b < 10) (hc : c ≤ 1) : nI a - nI b - nI c + 10 = nI (a + 10 - b - c) := by
  have e : nI (a + 10 - b - c) = nI a + nI 10 - nI b - nI c := by
    rw [← pk_sub (show c ≤ a + 10 - b by omega), ← pk_sub (show b ≤ a + 10 by omega), ← nI_add]
  rw [e, show nI 10 = (10 : Int32) from rfl]
  grind
/-- an int's absolute value -/
def fx_ab (v : Int32) : Nat := v.toInt.natAbs
def fx_mn (v : Int32) : Nat := if v < 0 then 1 else 0
theorem fx_ab_lt (v : Int32) : fx_ab v < 2 ^ 32 := by
  unfold fx_ab
  have h1 := Int32.toInt_lt v
  have h2 := Int32.le_toInt v
  omega
theorem fx_ab_n {v : Int32} (h : v < 0) : -(v.toInt64) = lN (fx_ab v) := by
  have h1 := Int32.le_toInt v
  rw [Int32.lt_iff_toInt_lt, show (0 : Int32).toInt = 0 from by decide] at h
  apply Int64.toInt_inj.mp
  rw [pk_lT (by have := fx_ab_lt v; omega), Int64.toInt_neg, Int32.toInt_toInt64]
  unfold fx_ab
  rw [Int.bmod_eq_of_le (by omega) (by omega)]
  omega
theorem fx_ab_p {v : Int32} (h : ¬ v < 0) : v.toInt64 = lN (fx_ab v) := by
  rw [Int32.lt_iff_toInt_lt, show (0 : Int32).toInt = 0 from by decide] at h
  apply Int64.toInt_inj.mp
  rw [pk_lT (by have := fx_ab_lt v; omega), Int32.toInt_toInt64]
  unfold fx_ab
  omega
theorem fx_ab_0 (v : Int32) : fx_ab v = 0 ↔ v = 0 := by
  unfold fx_ab
  rw [← Int32.toInt_inj, show (0 : Int32).toInt = 0 from by decide]
  omega
theorem fx_l_neg (v : Int32) : v.toInt64 < 0 ↔ v < 0 := by
  rw [Int64.lt_iff_toInt_lt, Int32.lt_iff_toInt_lt, Int32.toInt_toInt64, show (0 : Int32).toInt = 0 from by decide, show (0 : Int64).toInt = 0 from by decide]
/-- pictures of a number in an array -/
def fx_pl (L : Nat → Int64) (b n V : Nat) : Prop := ∀ i, i < n → L (b + i) = lN (fx_dg 100000000 V i)
def fx_pd (d : Nat → Int32) (b n V : Nat) : Prop := ∀ i, i < n → d (b + i) = nI (fx_dg 10 V i)
theorem fx_dgB (V i : Nat) : fx_dg 100000000 V i < 100000000 := fx_dg_lt (by omega) V i
theorem fx_dg10 (V i : Nat) : fx_dg 10 V i < 10 := fx_dg_lt (by omega) V i
/-- one of the 40 digits -/
def fx_T : Nat := 10 ^ 40
theorem fx_T5 : fx_T = 100000000 ^ 5 := by decide
theorem fx_T40 : fx_T = 10 ^ 40 := rfl
/-- the signed long of a small number -/
def fx_l (V m : Nat) : Int64 := if m = 0 then lN V else -(lN V)
theorem fx_l_sg {V m : Nat} : (fx_sg V m).toInt64 * lN V = fx_l V m := by
  unfold fx_sg fx_l
  by_cases h : V = 0
  · subst h
    rw [if_pos rfl]
    by_cases hm : m = 0
    · rw [if_pos hm]; decide
    · rw [if_neg hm]; decide
  · rw [if_neg h]
    by_cases hm : m = 0
    · rw [if_pos hm, if_pos hm, show (1 : Int32).toInt64 = 1 from by decide]; grind
    · rw [if_neg hm, if_neg hm, show (-1 : Int32).toInt64 = -1 from by decide]; grind
theorem fx_lT {V : Nat} (h : V < 2 ^ 63) (m : Nat) : (fx_l V m).toInt = if m = 0 then (V : Int) else -(V : Int) := by
  unfold fx_l
  by_cases hm : m = 0
  · rw [if_pos hm, if_pos hm, pk_lT h]
  · rw [if_neg hm, if_neg hm, fx_lnegT h]
/-- what is an int -/
def fx_isI (V m : Nat) : Prop := if m = 0 then V < 2147483648 else V ≤ 2147483648
theorem fx_isI_lo {V : Nat} (h : V < 2 ^ 63) (m : Nat) : ((-2147483648 : Int64) ≤ fx_l V m ∧ fx_l V m ≤ 2147483647) ↔ fx_isI V m := by
  unfold fx_isI
  rw [Int64.le_iff_toInt_le, Int64.le_iff_toInt_le, fx_lT h m, show (-2147483648 : Int64).toInt = -2147483648 from by decide, show (2147483647 : Int64).toInt = 2147483647 from by decide]
  by_cases hm : m = 0
  · rw [if_pos hm, if_pos hm]; omega
  · rw [if_neg hm, if_neg hm]; omega
