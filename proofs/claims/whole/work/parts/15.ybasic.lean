/-! the reference: filling an array of digits -/
def fy_fr (d d' : Nat → Int32) (b n : Nat) : Prop := ∀ j, (j < b ∨ b + n ≤ j) → d' j = d j
def fy_fill (d d' : Nat → Int32) (b n V : Nat) : Prop := fy_fr d d' b n ∧ fx_pd d' b n V
theorem fy_fill_0 (d : Nat → Int32) (b V : Nat) : fy_fill d d b 0 V := ⟨fun _ _ => rfl, fun i hi => absurd hi (by omega)⟩
theorem fy_fill_s {d d' : Nat → Int32} {b n V : Nat} (h : fy_fill d d' b n V) : fy_fill d (upd d' (b + n) (nI (fx_dg 10 V n))) b (n + 1) V := by
  refine ⟨fun j hj => by rw [pk_un (by omega)]; exact h.1 j (by omega), ?_⟩
  intro i hi
  by_cases e : i = n
  · subst e; rw [pk_us]
  · rw [pk_un (by omega)]; exact h.2 i (by omega)
theorem fx_c82 {x i : Nat} (hx : x < 16) (hi : i < 82) : (nI x * 82 + nI i).toNatClampNeg = x * 82 + i := by rw [fx_i82]; exact nI_clamp (by omega)
theorem fx_v82 {x i : Nat} (hx : x < 16) (hi : i < 82) : vp_in (nI x * 82 + nI i) 1312 := by rw [fx_i82]; exact vp_in_nI (by omega) (by omega)
theorem fx_cA {b i : Nat} (h : b + i < 1312) : (nI b + nI i).toNatClampNeg = b + i := by rw [nI_add]; exact nI_clamp (by omega)
theorem fx_vA {b i : Nat} (h : b + i < 1312) : vp_in (nI b + nI i) 1312 := by rw [nI_add]; exact vp_in_nI h (by omega)
theorem fx_v16 {x : Nat} (hx : x < 16) : vp_in (nI x) 16 := vp_in_nI hx (by omega)
theorem fx_k16 {x : Nat} (hx : x < 16) : (nI x).toNatClampNeg = x := nI_clamp (by omega)
theorem fx_82 : (82 : Int32) ≤ nI 82 := by decide
theorem fx_n82 {i : Nat} (h : i < 82) : ¬ (82 : Int32) ≤ nI i := nI_ge (b := 82) h (by omega)
theorem fx_10l : ¬ (10 : Int64) = 0 := by decide
theorem fx_10i : ¬ (10 : Int32) = 0 := by decide
theorem fy_b0 : vp_nar .boolean 0 = 0 := rfl
theorem fy_b1 : vp_nar .boolean 1 = 1 := rfl
theorem fy_bm {m : Nat} (h : m < 2) : vp_nar .boolean (nI m) = nI m := by
  have : m = 0 ∨ m = 1 := by omega
  rcases this with rfl | rfl
  · exact fy_b0
  · exact fy_b1
section
variable {sz dp oc : Int32} {o g d mi bg tm : Nat → Int32}
theorem cy_wr_l {s A : Nat} (hs : s < 16) (hA : A < 2 ^ 63) {post : SY → Prop} (K : ∀ d', fy_fill d d' (s * 82) 82 A → post (sz, dp, oc, o, g, d', mi, bg, tm)) : ∀ e i, i + e = 82 → ∀ d', fy_fill d d' (s * 82) i A → wY_write_30 post (nI s) sz dp oc (e + 1) (lN (A / 10 ^ i)) (nI i) o g d' mi bg tm := by
  intro e
  induction e with
  | zero =>
    intro i hi d' hf
    have : i = 82 := by omega
    subst this
    exact br_t fx_82 (K d' hf)
  | succ e ih =>
    intro i hi d' hf
    have hb : A / 10 ^ i < 2 ^ 63 := Nat.lt_of_le_of_lt (Nat.div_le_self _ _) hA
    exact br_f (fx_n82 (by omega)) ⟨fx_10l, fx_v82 hs (by omega), nm_r (e' := upd d' (s * 82 + i) (nI (fx_dg 10 A i))) (by rw [fx_c82 hs (by omega), fx_lrem10 hb, lN_i]; rfl) ⟨fx_10l, nm_r (e' := lN (A / 10 ^ (i + 1))) (by rw [fx_ldiv10 hb, Nat.div_div_eq_div_mul, ← Nat.pow_succ]) (nm_r (nI_1 i) (ih (i + 1) (by omega) _ (fy_fill_s hf)))⟩⟩
theorem cy_wr {s : Nat} (hs : s < 16) (v : Int32) {post : SY → Prop} (K : ∀ d', fy_fill d d' (s * 82) 82 (fx_ab v) → post (sz, dp, oc, o, g, d', upd mi s (nI (fx_mn v)), bg, tm)) : wpY_write post (sz, dp, oc, o, g, d, mi, bg, tm) (nI s) v := by
  have hA : fx_ab v < 2 ^ 63 := by have := fx_ab_lt v; omega
  have h := cy_wr_l (sz := sz) (dp := dp) (oc := oc) (o := o) (g := g) (d := d) (mi := upd mi s (nI (fx_mn v))) (bg := bg) (tm := tm) hs hA K 82 0 rfl d (fy_fill_0 d _ _)
  rw [Nat.pow_zero, Nat.div_one] at h
  by_cases h0 : 0 ≤ v
  · have hn : ¬ v < 0 := Int32.not_lt.mpr h0
    have hm : fx_mn v = 0 := if_neg hn
    have hl : (0 : Int64) ≤ v.toInt64 := Int64.not_lt.mp (fun z => hn ((fx_l_neg v).mp z))
    refine br_t h0 ⟨fx_v16 hs, nm_r (e' := upd mi s (nI (fx_mn v))) (by rw [fx_k16 hs, fy_b0, hm]; rfl) (br_t hl ⟨83, ?_⟩)⟩
    rw [← fx_ab_p hn] at h
    exact h
  · have hn : v < 0 := Int32.not_le.mp h0
    have hm : fx_mn v = 1 := if_pos hn
    have hl : ¬ (0 : Int64) ≤ v.toInt64 := Int64.not_le.mpr ((fx_l_neg v).mpr hn)
    exact br_f h0 ⟨fx_v16 hs, nm_r (e' := upd mi s (nI (fx_mn v))) (by rw [fx_k16 hs, fy_b1, hm]; rfl) (br_f hl (nm_r (fx_ab_n hn) ⟨83, h⟩))⟩
theorem cy_cp_l {a b V : Nat} (ha : a < 16) (hb : b < 16) (hab : a ≠ b) (pa : fx_pd d (a * 82) 82 V) {post : SY → Prop} (K : ∀ d', fy_fill d d' (b * 82) 82 V → post (sz, dp, oc, o, g, d', mi, bg, tm)) : ∀ e i, i + e = 82 → ∀ d', fy_fill d d' (b * 82) i V → wY_copy_14 post (nI a) (nI b) sz dp oc (e + 1) (nI i) o g d' mi bg tm := by
  intro e
  induction e with
  | zero =>
    intro i hi d' hf
    have : i = 82 := by omega
    subst this
    exact br_t fx_82 (K d' hf)
  | succ e ih =>
    intro i hi d' hf
    have e1 : d' (a * 82 + i) = nI (fx_dg 10 V i) := by rw [hf.1 _ (by omega)]; exact pa i (by omega)
    exact br_f (fx_n82 (by omega)) ⟨fx_v82 ha (by omega), fx_v82 hb (by omega), nm_r (e' := upd d' (b * 82 + i) (nI (fx_dg 10 V i))) (by rw [fx_c82 ha (by omega), fx_c82 hb (by omega), e1]) (nm_r (nI_1 i) (ih (i + 1) (by omega) _ (fy_fill_s hf)))⟩
theorem cy_cp {a b V m : Nat} (ha : a < 16) (hb : b < 16) (hab : a ≠ b) (pa : fx_pd d (a * 82) 82 V) (sa : mi a = nI m) (hm : m < 2) {post : SY → Prop} (K : ∀ d', fy_fill d d' (b * 82) 82 V → post (sz, dp, oc, o, g, d', upd mi b (nI m), bg, tm)) : wpY_copy post (sz, dp, oc, o, g, d, mi, bg, tm) (nI a) (nI b) :=
  ⟨fx_v16 ha, fx_v16 hb, nm_r (e' := upd mi b (nI m)) (by rw [fx_k16 ha, fx_k16 hb, sa, fy_bm hm]) ⟨83, cy_cp_l ha hb hab pa K 82 0 rfl d (fy_fill_0 d _ _)⟩⟩
theorem cy_ln_l {s V : Nat} (hs : s < 16) (pa : fx_pd d (s * 82) 82 V) (hV : V < 10 ^ 82) {post : Int32 → Prop} (K : ∀ n, n ≤ 82 → fx_len V n → post (nI n)) : ∀ e i c, i + e = 82 → c ≤ i → V % 10 ^ i < 10 ^ c → (c = 0 ∨ 10 ^ (c - 1) ≤ V) → wY_length_4 post (nI s) sz dp oc o g d mi bg tm (e + 1) (nI c) (nI i) := by
  intro e
  induction e with
  | zero =>
    intro i c hi hc h1 h2
    have : i = 82 := by omega
    subst this
    rw [Nat.mod_eq_of_lt hV] at h1
    exact br_t fx_82 (K c hc ⟨h1, h2⟩)
  | succ e ih =>
    intro i c hi hc h1 h2
    have e1 : d (nI s * 82 + nI i).toNatClampNeg = nI (fx_dg 10 V i) := by rw [fx_c82 hs (by omega)]; exact pa i (by omega)
    have b1 := fx_dg10 V i
    refine br_f (fx_n82 (by omega)) ⟨fx_v82 hs (by omega), ?_⟩
    rw [e1]
    by_cases z : fx_dg 10 V i = 0
    · refine br_t (by rw [z]; rfl) (nm_r (nI_1 i) (ih (i + 1) c (by omega) (by omega) ?_ h2))
      rw [fx_ms, z, Nat.mul_zero, Nat.add_zero]
      exact h1
    · refine br_f (nI_ne0 (by omega) (by omega)) (nm_r (nI_1 i) (nm_r (nI_1 i) (ih (i + 1) (i + 1) (by omega) (by omega) (Nat.mod_lt _ (fx_pp (by omega) _)) (Or.inr (fx_dg_ge z)))))
theorem cy_ln {s V : Nat} (hs : s < 16) (pa : fx_pd d (s * 82) 82 V) (hV : V < 10 ^ 82) {post : Int32 → Prop} (K : ∀ n, n ≤ 82 → fx_len V n → post (nI n)) : wpY_length post (sz, dp, oc, o, g, d, mi, bg, tm) (nI s) :=
  ⟨83, cy_ln_l hs pa hV K 82 0 0 rfl (Nat.le_refl 0) (by rw [Nat.pow_zero, Nat.mod_one]; omega) (Or.inl rfl)⟩
theorem cy_sz_l {a b V W : Nat} (ha : a < 16) (hb : b < 16) (pA : fx_pd d (a * 82) 82 V) (pB : fx_pd d (b * 82) 82 W) (hV : V < 10 ^ 82) (hW : W < 10 ^ 82) {post : Int32 → Prop} (K : post (fx_cmp V W)) : ∀ e i, i + e = 82 → wY_size_5 post (nI a) (nI b) sz dp oc o g d mi bg tm (e + 1) (fx_cmp (V % 10 ^ i) (W % 10 ^ i)) (nI i) := by
  intro e
  induction e with
  | zero =>
    intro i hi
    have : i = 82 := by omega
    subst this
    rw [Nat.mod_eq_of_lt hV, Nat.mod_eq_of_lt hW]
    exact br_t fx_82 K
  | succ e ih =>
    intro i hi
    have e1 : d (nI a * 82 + nI i).toNatClampNeg = nI (fx_dg 10 V i) := by rw [fx_c82 ha (by omega)]; exact pA i (by omega)
    have e2 : d (nI b * 82 + nI i).toNatClampNeg = nI (fx_dg 10 W i) := by rw [fx_c82 hb (by omega)]; exact pB i (by omega)
    have b1 := fx_dg10 V i
    have b2 := fx_dg10 W i
    have va : vp_in (nI a * 82 + nI i) 1312 := fx_v82 ha (by omega)
    have vb : vp_in (nI b * 82 + nI i) 1312 := fx_v82 hb (by omega)
    have ih' := ih (i + 1) (by omega)
    rw [fx_bot_s (by omega)] at ih'
    refine br_f (fx_n82 (by omega)) ⟨va, vb, ?_⟩
    rw [e1, e2]
    by_cases c : fx_dg 10 V i = fx_dg 10 W i
    · rw [if_pos c] at ih'
      exact br_t (by rw [c]) (nm_r (nI_1 i) ih')
    · rw [if_neg c] at ih'
      refine br_f (fun z => c ((nI_eq (by omega) (by omega)).mp z)) ⟨va, vb, ?_⟩
      by_cases c2 : fx_dg 10 V i < fx_dg 10 W i
      · rw [fx_cmp_lt c2] at ih'
        exact br_f (nI_ge c2 (by omega)) (nm_r (nI_1 i) ih')
      · rw [fx_cmp_gt (show fx_dg 10 W i < fx_dg 10 V i by omega)] at ih'
        exact br_t (nI_le (by omega) (by omega)) (nm_r (nI_1 i) ih')
theorem cy_sz {a b V W : Nat} (ha : a < 16) (hb : b < 16) (pA : fx_pd d (a * 82) 82 V) (pB : fx_pd d (b * 82) 82 W) (hV : V < 10 ^ 82) (hW : W < 10 ^ 82) {post : Int32 → Prop} (K : post (fx_cmp V W)) : wpY_size post (sz, dp, oc, o, g, d, mi, bg, tm) (nI a) (nI b) := by
  refine ⟨83, ?_⟩
  have h := cy_sz_l (sz := sz) (dp := dp) (oc := oc) (o := o) (g := g) (mi := mi) (bg := bg) (tm := tm) ha hb pA pB hV hW K 82 0 rfl
  rw [Nat.pow_zero, Nat.mod_one, Nat.mod_one, fx_cmp_eq] at h
  exact h
theorem cy_sm_l {a b V W : Nat} (ha : a < 14) (hb : b < 14) (pA : fx_pd d (a * 82) 82 V) (pB : fx_pd d (b * 82) 82 W) {post : SY → Prop} (K : ∀ d', fy_fill d d' 1148 82 (V + W) → post (sz, dp, oc, o, g, d', mi, bg, tm)) : ∀ e i, i + e = 82 → ∀ d', fy_fill d d' 1148 i (V + W) → wY_sum_5 post (nI a) (nI b) sz dp oc (e + 1) (nI ((V % 10 ^ i + W % 10 ^ i) / 10 ^ i)) (nI i) o g d' mi bg tm := by
  intro e
  induction e with
  | zero =>
    intro i hi d' hf
    have : i = 82 := by omega
    subst this
    exact br_t fx_82 (K d' hf)
  | succ e ih =>
    intro i hi d' hf
    have e1 : d' (a * 82 + i) = nI (fx_dg 10 V i) := by rw [hf.1 _ (by omega)]; exact pA i (by omega)
    have e2 : d' (b * 82 + i) = nI (fx_dg 10 W i) := by rw [hf.1 _ (by omega)]; exact pB i (by omega)
    have b1 := fx_dg10 V i
    have b2 := fx_dg10 W i
    have b3 : (V % 10 ^ i + W % 10 ^ i) / 10 ^ i < 2 := by
      have hp := fx_pp (B := 10) (by omega) i
      have a1 := Nat.mod_lt V hp
      have a2 := Nat.mod_lt W hp
      rw [Nat.div_lt_iff_lt_mul hp]
      omega
    exact br_f (fx_n82 (by omega)) ⟨fx_v82 (by omega) (by omega), fx_v82 (by omega) (by omega), nm_r (e' := nI (fx_dg 10 V i + fx_dg 10 W i + (V % 10 ^ i + W % 10 ^ i) / 10 ^ i)) (by rw [fx_c82 (by omega) (by omega), fx_c82 (by omega) (by omega), e1, e2, nI_add, nI_add]) ⟨fx_10i, fx_vA (b := 1148) (by omega), nm_r (e' := upd d' (1148 + i) (nI (fx_dg 10 (V + W) i))) (by rw [show ((1148 : Int32) + nI i).toNatClampNeg = 1148 + i from fx_cA (b := 1148) (by omega), fx_irem (by omega), fx_add_dg (by omega)]) ⟨fx_10i, nm_r (e' := nI ((V % 10 ^ (i + 1) + W % 10 ^ (i + 1)) / 10 ^ (i + 1))) (by rw [fx_idiv (by omega), fx_add_cy (by omega)]) (nm_r (nI_1 i) (ih (i + 1) (by omega) _ (fy_fill_s hf)))⟩⟩⟩
theorem cy_sm {a b V W : Nat} (ha : a < 14) (hb : b < 14) (pA : fx_pd d (a * 82) 82 V) (pB : fx_pd d (b * 82) 82 W) {post : SY → Prop} (K : ∀ d', fy_fill d d' 1148 82 (V + W) → post (sz, dp, oc, o, g, d', mi, bg, tm)) : wpY_sum post (sz, dp, oc, o, g, d, mi, bg, tm) (nI a) (nI b) := by
  refine ⟨83, ?_⟩
  have h := cy_sm_l (sz := sz) (dp := dp) (oc := oc) (o := o) (g := g) (mi := mi) (bg := bg) (tm := tm) ha hb pA pB K 82 0 rfl d (fy_fill_0 d _ _)
  rw [Nat.pow_zero, Nat.mod_one, Nat.mod_one] at h
  exact h
theorem cy_df_l {a b t V W : Nat} (ha : a < 16) (hb : b < 16) (ht : t < 16) (pA : fx_pd d (a * 82) 82 V) (pB : fx_pd d (b * 82) 82 W) (h : W ≤ V) {post : SY → Prop} (K : ∀ d', fy_fill d d' (t * 82) 82 (V - W) → post (sz, dp, oc, o, g, d', mi, bg, tm)) : ∀ e i, i + e = 82 → ∀ d', fy_fill d d' (t * 82) i (V - W) → wY_difference_6 post (nI a) (nI b) (nI t) sz dp oc (e + 1) (nI (fx_bw 10 V W i)) (nI i) o g d' mi bg tm := by
  intro e
  induction e with
  | zero =>
    intro i hi d' hf
    have : i = 82 := by omega
    subst this
    exact br_t fx_82 (K d' hf)
  | succ e ih =>
    intro i hi d' hf
    have e1 : d' (a * 82 + i) = nI (fx_dg 10 V i) := by rw [hf.1 _ (by omega)]; exact pA i (by omega)
    have e2 : d' (b * 82 + i) = nI (fx_dg 10 W i) := by rw [hf.1 _ (by omega)]; exact pB i (by omega)
    have b1 := fx_dg10 V i
    have b2 := fx_dg10 W i
    have b3 := fx_bw_le 10 V W i
    have hs := fx_bw_s (B := 10) (by omega) V W i
    have hd := fx_sub_dg (B := 10) (by omega) V W i h
    have ih' := ih (i + 1) (by omega) _ (fy_fill_s hf)
    refine br_f (fx_n82 (by omega)) ⟨fx_v82 ha (by omega), fx_v82 hb (by omega), nm_r (e' := nI (fx_dg 10 V i + 10 - fx_dg 10 W i - fx_bw 10 V W i)) (by rw [fx_c82 ha (by omega), fx_c82 hb (by omega), e1, e2, fx_yd b2 b3]) ⟨fx_10i, fx_v82 ht (by omega), nm_r (e' := upd d' (t * 82 + i) (nI (fx_dg 10 (V - W) i))) (by rw [fx_c82 ht (by omega), fx_irem (by omega), hd]) ?_⟩⟩
    by_cases c : fx_dg 10 V i < fx_dg 10 W i + fx_bw 10 V W i
    · rw [if_pos c] at hs
      rw [hs] at ih'
      exact br_f (nI_ge (b := 10) (by omega) (by omega)) (nm_r (nI_1 i) ih')
    · rw [if_neg c] at hs
      rw [hs] at ih'
      exact br_t (nI_le (a := 10) (by omega) (by omega)) (nm_r (nI_1 i) ih')
theorem cy_df {a b t V W : Nat} (ha : a < 16) (hb : b < 16) (ht : t < 16) (pA : fx_pd d (a * 82) 82 V) (pB : fx_pd d (b * 82) 82 W) (h : W ≤ V) {post : SY → Prop} (K : ∀ d', fy_fill d d' (t * 82) 82 (V - W) → post (sz, dp, oc, o, g, d', mi, bg, tm)) : wpY_difference post (sz, dp, oc, o, g, d, mi, bg, tm) (nI a) (nI b) (nI t) := by
  refine ⟨83, ?_⟩
  have h := cy_df_l (sz := sz) (dp := dp) (oc := oc) (o := o) (g := g) (mi := mi) (bg := bg) (tm := tm) ha hb ht pA pB h K 82 0 rfl d (fy_fill_0 d _ _)
  rw [fx_bw_0] at h
  exact h
end
