/-! the methods that read, and set, on both sides -/
theorem fx_big {V m : Nat} (h : 10 ^ 10 ≤ V) : ¬ fx_isI V m := by
  have h6 : (10 : Nat) ^ 10 = 10000000000 := by decide
  unfold fx_isI
  split <;> omega
section
variable {tc dp oc ht : Int32} {L : Nat → Int64} {S o g pt ob rl : Nat → Int32} {pr qu re mu : Nat → Int64}
theorem cx_set {s : Nat} (hs : s < 8) (v : Int32) {post : Int32 → SX → Prop} (K : ∀ L' S', fx_fill L L' (s * 5) 5 (fx_ab v) → S' s = fx_sg (fx_ab v) (fx_mn v) → (∀ q, q ≠ s → S' q = S q) → post 0 (tc, dp, oc, ht, L', S', o, g, pt, ob, rl, pr, qu, re, mu)) : wpX_set post (tc, dp, oc, ht, L, S, o, g, pt, ob, rl, pr, qu, re, mu) (nI s) v := by
  unfold wpX_set
  exact cx_iv1 hs (br_f (by decide) (cx_wi (by omega) v K))
theorem cx_set0 {x : Int32} (hx : x < 0 ∨ 8 ≤ x) (v : Int32) {post : Int32 → SX → Prop} (K : post (-2) (tc, dp, oc, ht, L, S, o, g, pt, ob, rl, pr, qu, re, mu)) : wpX_set post (tc, dp, oc, ht, L, S, o, g, pt, ob, rl, pr, qu, re, mu) x v := by
  unfold wpX_set
  exact cx_iv0 hx (br_t rfl K)
theorem cx_sign {s V m : Nat} (hs : s < 8) (pX : xs_pic L S s V m) {post : Int32 → Prop} (K : post (fx_sg V m)) : wpX_sign post (tc, dp, oc, ht, L, S, o, g, pt, ob, rl, pr, qu, re, mu) (nI s) := by
  unfold wpX_sign
  refine cx_iv1 hs (br_f (by decide) ⟨fx_v14 (by omega), ?_⟩)
  rw [fx_k14 (by omega), pX.2]
  exact K
theorem cx_sign0 {x : Int32} (hx : x < 0 ∨ 8 ≤ x) {post : Int32 → Prop} (K : post (-2)) : wpX_sign post (tc, dp, oc, ht, L, S, o, g, pt, ob, rl, pr, qu, re, mu) x := by
  unfold wpX_sign
  exact cx_iv0 hx (br_t rfl K)
theorem cx_digits {s V : Nat} (hs : s < 8) (pX : fx_pl L (s * 5) 5 V) (hV : V < fx_T) {post : Int32 → Prop} (K : ∀ r : Nat, 1 ≤ r → V < 10 ^ r → (r = 1 ∨ 10 ^ (r - 1) ≤ V) → post (nI r)) : wpX_digits post (tc, dp, oc, ht, L, S, o, g, pt, ob, rl, pr, qu, re, mu) (nI s) := by
  unfold wpX_digits
  exact cx_iv1 hs (br_f (by decide) ⟨40, cx_ds_l (by omega) pX K 39 (by omega) hV⟩)
theorem cx_digits0 {x : Int32} (hx : x < 0 ∨ 8 ≤ x) {post : Int32 → Prop} (K : post (-2)) : wpX_digits post (tc, dp, oc, ht, L, S, o, g, pt, ob, rl, pr, qu, re, mu) x := by
  unfold wpX_digits
  exact cx_iv0 hx (br_t rfl K)
theorem cx_digit {s V : Nat} {y : Int32} (hs : s < 8) (pX : fx_pl L (s * 5) 5 V) (hV : V < fx_T) {post : Int32 → Prop} (K0 : y < 0 → post (-2)) (K : ∀ i, i < 2 ^ 31 → y = nI i → post (nI (fx_dg 10 V i))) : wpX_digit post (tc, dp, oc, ht, L, S, o, g, pt, ob, rl, pr, qu, re, mu) (nI s) y := by
  unfold wpX_digit
  refine cx_iv1 hs (br_f (by decide) ?_)
  by_cases c : y < 0
  · exact br_f (Int32.not_le.mpr c) (K0 c)
  · refine br_t (Int32.not_lt.mp c) ?_
    obtain ⟨i, hi, rfl⟩ := nI_of c
    have K' := K i hi rfl
    by_cases c4 : 40 ≤ i
    · rw [fx_dg_hi (n := 40) (by omega) hV c4] at K'
      exact br_t (nI_le (a := 40) c4 hi) K'
    · exact br_f (nI_ge (b := 40) (by omega) (by omega)) (cx_dd (by omega) (by omega) pX K')
theorem cx_digit0 {x y : Int32} (hx : x < 0 ∨ 8 ≤ x) {post : Int32 → Prop} (K : post (-2)) : wpX_digit post (tc, dp, oc, ht, L, S, o, g, pt, ob, rl, pr, qu, re, mu) x y := by
  unfold wpX_digit
  exact cx_iv0 hx (br_t rfl K)
theorem cx_cmp {a b V m W k : Nat} (ha : a < 8) (hb : b < 8) (pX : xs_pic L S a V m) (pY : xs_pic L S b W k) (hV : V < fx_T) (hW : W < fx_T) {post : Int32 → Prop} (K : post (fx_ord V m W k)) : wpX_compare post (tc, dp, oc, ht, L, S, o, g, pt, ob, rl, pr, qu, re, mu) (nI a) (nI b) := by
  unfold wpX_compare
  exact cx_iv1 ha (br_f (by decide) (cx_iv1 hb (br_f (by decide) (cx_cn (by omega) (by omega) pX pY hV hW K))))
theorem cx_cmp0 {x y : Int32} (hx : x < 0 ∨ 8 ≤ x) {post : Int32 → Prop} (K : post (-2)) : wpX_compare post (tc, dp, oc, ht, L, S, o, g, pt, ob, rl, pr, qu, re, mu) x y := by
  unfold wpX_compare
  exact cx_iv0 hx (br_t rfl K)
theorem cx_cmp1 {a : Nat} {y : Int32} (ha : a < 8) (hy : y < 0 ∨ 8 ≤ y) {post : Int32 → Prop} (K : post (-2)) : wpX_compare post (tc, dp, oc, ht, L, S, o, g, pt, ob, rl, pr, qu, re, mu) (nI a) y := by
  unfold wpX_compare
  exact cx_iv1 ha (br_f (by decide) (cx_iv0 hy (br_t rfl K)))
theorem cx_isI {s V m : Nat} (hs : s < 8) (pX : xs_pic L S s V m) (hV : V < fx_T) {post : Int32 → Prop} (K1 : fx_isI V m → post 1) (K0 : ¬ fx_isI V m → post 0) : wpX_isInt post (tc, dp, oc, ht, L, S, o, g, pt, ob, rl, pr, qu, re, mu) (nI s) := by
  unfold wpX_isInt
  exact cx_iv1 hs (br_f (by decide) (cx_ii (by omega) pX hV K1 K0))
theorem cx_isI0 {x : Int32} (hx : x < 0 ∨ 8 ≤ x) {post : Int32 → Prop} (K : post 0) : wpX_isInt post (tc, dp, oc, ht, L, S, o, g, pt, ob, rl, pr, qu, re, mu) x := by
  unfold wpX_isInt
  exact cx_iv0 hx (br_t rfl K)
theorem fx_isI_2 {V m : Nat} (h : fx_isI V m) : V ≤ 2147483648 := by
  unfold fx_isI at h
  split at h <;> omega
theorem cx_as {s V m : Nat} (hs : s < 8) (pX : xs_pic L S s V m) (hV : V < fx_T) {post : Int32 → Prop} (K1 : fx_isI V m → post (fx_l V m).toInt32) (K0 : ¬ fx_isI V m → post 0) : wpX_asInt post (tc, dp, oc, ht, L, S, o, g, pt, ob, rl, pr, qu, re, mu) (nI s) := by
  unfold wpX_asInt
  refine cx_isI hs pX hV ?_ ?_
  · intro h
    have := fx_isI_2 h
    exact br_f (by decide) (cx_lv (by omega) pX (Nat.lt_of_le_of_lt this (by decide)) (K1 h))
  · intro h
    exact br_t rfl (K0 h)
theorem cx_as0 {x : Int32} (hx : x < 0 ∨ 8 ≤ x) {post : Int32 → Prop} (K : post 0) : wpX_asInt post (tc, dp, oc, ht, L, S, o, g, pt, ob, rl, pr, qu, re, mu) x := by
  unfold wpX_asInt
  exact cx_isI0 hx (br_t rfl K)
theorem cx_rn9 {n dpn ocn : Nat} (hd : dpn ≤ 6) (ho : ocn ≤ 3) (h : dpn ≠ 0 ∨ ocn ≠ 0) {post : Int32 → SX → Prop} (K : post (-9) (nI n, nI dpn, nI ocn, ht, L, S, o, g, pt, ob, rl, pr, qu, re, mu)) : wpX_run post (nI n, nI dpn, nI ocn, ht, L, S, o, g, pt, ob, rl, pr, qu, re, mu) := by
  by_cases c : dpn = 0
  · exact br_t (by rw [c]; rfl) (br_f (nI_ne0 (by omega) (by omega)) K)
  · exact br_f (nI_ne0 (by omega) (by omega)) K
end
section
variable {sz dp oc : Int32} {o g d mi bg tm : Nat → Int32}
theorem cy_set {s : Nat} (hs : s < 8) (v : Int32) {post : Int32 → SY → Prop} (K : ∀ d', fy_fill d d' (s * 82) 82 (fx_ab v) → post 0 (sz, dp, oc, o, g, d', upd mi s (nI (fx_mn v)), bg, tm)) : wpY_set post (sz, dp, oc, o, g, d, mi, bg, tm) (nI s) v := by
  unfold wpY_set
  exact cy_bd0 hs (br_t rfl (cy_wr (by omega) v K))
theorem cy_set0 {x : Int32} (hx : x < 0 ∨ 8 ≤ x) (v : Int32) {post : Int32 → SY → Prop} (K : post (-2) (sz, dp, oc, o, g, d, mi, bg, tm)) : wpY_set post (sz, dp, oc, o, g, d, mi, bg, tm) x v := by
  unfold wpY_set
  exact cy_bd1 hx (br_f (by decide) K)
theorem cy_sign {s V m : Nat} (hs : s < 8) (hm : m < 2) (pY : ys_pic d mi s V m) (hV : V < fx_T) {post : Int32 → Prop} (K : post (fx_sg V m)) : wpY_sign post (sz, dp, oc, o, g, d, mi, bg, tm) (nI s) := by
  unfold wpY_sign
  refine cy_bd0 hs (br_t rfl (cy_ln (by omega) pY.1 (fx_T82 hV) ?_))
  intro n hn hl
  by_cases z : n = 0
  · rw [(fx_len_0 hl).mp z, fx_sg_0] at K
    exact br_t (by rw [z]; rfl) K
  · have hv : V ≠ 0 := fun w => z ((fx_len_0 hl).mpr w)
    refine br_f (nI_ne0 (by omega) (by omega)) ⟨fx_v16 (by omega), ?_⟩
    rw [fx_k16 (by omega), pY.2]
    by_cases c : m = 0
    · rw [c, fx_sg_p hv] at K
      exact br_t (by rw [c]; rfl) K
    · rw [fx_sg_n hv c] at K
      exact br_f (nI_ne0 (by omega) (by omega)) K
theorem cy_sign0 {x : Int32} (hx : x < 0 ∨ 8 ≤ x) {post : Int32 → Prop} (K : post (-2)) : wpY_sign post (sz, dp, oc, o, g, d, mi, bg, tm) x := by
  unfold wpY_sign
  exact cy_bd1 hx (br_f (by decide) K)
theorem cy_digits {s V r : Nat} (hs : s < 8) (pY : fx_pd d (s * 82) 82 V) (hV : V < fx_T) (h1 : 1 ≤ r) (h2 : V < 10 ^ r) (h3 : r = 1 ∨ 10 ^ (r - 1) ≤ V) {post : Int32 → Prop} (K : post (nI r)) : wpY_digits post (sz, dp, oc, o, g, d, mi, bg, tm) (nI s) := by
  unfold wpY_digits
  refine cy_bd0 hs (br_t rfl (cy_ln (by omega) pY (fx_T82 hV) ?_))
  intro n hn hl
  by_cases z : n = 0
  · have hv := (fx_len_0 hl).mp z
    have e : r = 1 := by
      rcases h3 with h3 | h3
      · exact h3
      · have := fx_pp (B := 10) (by omega) (r - 1)
        omega
    rw [e] at K
    exact br_t (by rw [z]; rfl) K
  · have hv : V ≠ 0 := fun w => z ((fx_len_0 hl).mpr w)
    have hr : fx_len V r := ⟨h2, Or.inr (by
      rcases h3 with h3 | h3
      · rw [h3, Nat.pow_zero]; omega
      · exact h3)⟩
    rw [← fx_len_un hl hr] at K
    exact br_f (nI_ne0 (by omega) (by omega)) K
theorem cy_digits0 {x : Int32} (hx : x < 0 ∨ 8 ≤ x) {post : Int32 → Prop} (K : post (-2)) : wpY_digits post (sz, dp, oc, o, g, d, mi, bg, tm) x := by
  unfold wpY_digits
  exact cy_bd1 hx (br_f (by decide) K)
theorem cy_digit {s V : Nat} {y : Int32} (hs : s < 8) (pY : fx_pd d (s * 82) 82 V) (hV : V < fx_T) {post : Int32 → Prop} (K0 : y < 0 → post (-2)) (K : ∀ i, i < 2 ^ 31 → y = nI i → post (nI (fx_dg 10 V i))) : wpY_digit post (sz, dp, oc, o, g, d, mi, bg, tm) (nI s) y := by
  unfold wpY_digit
  refine cy_bd0 hs (br_t rfl ?_)
  by_cases c : y < 0
  · exact br_f (Int32.not_le.mpr c) (K0 c)
  · refine br_t (Int32.not_lt.mp c) ?_
    obtain ⟨i, hi, rfl⟩ := nI_of c
    have K' := K i hi rfl
    by_cases c4 : 82 ≤ i
    · rw [fx_dg_hi (n := 40) (by omega) hV (by omega)] at K'
      exact br_t (nI_le (a := 82) c4 hi) K'
    · refine br_f (nI_ge (b := 82) (by omega) (by omega)) ⟨fx_v82 (by omega) (by omega), ?_⟩
      rw [fx_c82 (by omega) (by omega), pY i (by omega)]
      exact K'
theorem cy_digit0 {x y : Int32} (hx : x < 0 ∨ 8 ≤ x) {post : Int32 → Prop} (K : post (-2)) : wpY_digit post (sz, dp, oc, o, g, d, mi, bg, tm) x y := by
  unfold wpY_digit
  exact cy_bd1 hx (br_f (by decide) K)
theorem cy_cmp {a b V m W k : Nat} (ha : a < 8) (hb : b < 8) (hm : m < 2) (hk : k < 2) (pX : ys_pic d mi a V m) (pY : ys_pic d mi b W k) (hV : V < fx_T) (hW : W < fx_T) {post : Int32 → Prop} (K : post (fx_ord V m W k)) : wpY_compare post (sz, dp, oc, o, g, d, mi, bg, tm) (nI a) (nI b) := by
  unfold wpY_compare
  exact cy_bd0 ha (br_t rfl (cy_bd0 hb (br_t rfl (cy_or (by omega) (by omega) hm hk pX.1 pX.2 pY.1 pY.2 hV hW K))))
theorem cy_cmp0 {x y : Int32} (hx : x < 0 ∨ 8 ≤ x) {post : Int32 → Prop} (K : post (-2)) : wpY_compare post (sz, dp, oc, o, g, d, mi, bg, tm) x y := by
  unfold wpY_compare
  exact cy_bd1 hx (br_f (by decide) K)
theorem cy_cmp1 {a : Nat} {y : Int32} (ha : a < 8) (hy : y < 0 ∨ 8 ≤ y) {post : Int32 → Prop} (K : post (-2)) : wpY_compare post (sz, dp, oc, o, g, d, mi, bg, tm) (nI a) y := by
  unfold wpY_compare
  exact cy_bd0 ha (br_t rfl (cy_bd1 hy (br_f (by decide) K)))
theorem cy_isI {s V m : Nat} (hs : s < 8) (hm : m < 2) (pY : ys_pic d mi s V m) (hV : V < fx_T) {post : Int32 → Prop} (K1 : fx_isI V m → post 1) (K0 : ¬ fx_isI V m → post 0) : wpY_isInt post (sz, dp, oc, o, g, d, mi, bg, tm) (nI s) := by
  unfold wpY_isInt
  refine cy_bd0 hs (br_t rfl (cy_ln (by omega) pY.1 (fx_T82 hV) ?_))
  intro n hn hl
  have hg := fx_len_gt hl 10
  by_cases c : 10 < n
  · exact br_f (nI_ge (a := 10) c (by omega)) (K0 (fx_big (hg.mp c)))
  · have hlt : V < 10 ^ 10 := by
      by_cases w : 10 ^ 10 ≤ V
      · exact absurd (hg.mpr w) c
      · omega
    have h63 : V < 2 ^ 63 := Nat.lt_trans hlt (by decide)
    have hi := fx_isI_lo h63 m
    refine br_t (nI_le (b := 10) (by omega) (by omega)) (cy_sl (by omega) hm pY.1 pY.2 hlt ?_)
    by_cases c1 : fx_l V m < -2147483648
    · exact br_t c1 (K0 (fun z => Int64.not_le.mpr c1 (hi.mpr z).1))
    · refine br_f c1 ?_
      by_cases c2 : 2147483647 < fx_l V m
      · exact br_t c2 (K0 (fun z => Int64.not_le.mpr c2 (hi.mpr z).2))
      · exact br_f c2 (K1 (hi.mp ⟨Int64.not_lt.mp c1, Int64.not_lt.mp c2⟩))
theorem cy_isI0 {x : Int32} (hx : x < 0 ∨ 8 ≤ x) {post : Int32 → Prop} (K : post 0) : wpY_isInt post (sz, dp, oc, o, g, d, mi, bg, tm) x := by
  unfold wpY_isInt
  exact cy_bd1 hx (br_f (by decide) K)
theorem cy_as {s V m : Nat} (hs : s < 8) (hm : m < 2) (pY : ys_pic d mi s V m) (hV : V < fx_T) {post : Int32 → Prop} (K1 : fx_isI V m → post (fx_l V m).toInt32) (K0 : ¬ fx_isI V m → post 0) : wpY_asInt post (sz, dp, oc, o, g, d, mi, bg, tm) (nI s) := by
  unfold wpY_asInt
  refine cy_isI hs hm pY hV ?_ ?_
  · intro h
    have := fx_isI_2 h
    exact br_f (by decide) (cy_sl (by omega) hm pY.1 pY.2 (Nat.lt_of_le_of_lt this (by decide)) (K1 h))
  · intro h
    exact br_t rfl (K0 h)
theorem cy_as0 {x : Int32} (hx : x < 0 ∨ 8 ≤ x) {post : Int32 → Prop} (K : post 0) : wpY_asInt post (sz, dp, oc, o, g, d, mi, bg, tm) x := by
  unfold wpY_asInt
  exact cy_isI0 hx (br_t rfl K)
theorem cy_rn9 {n dpn ocn : Nat} (hd : dpn ≤ 6) (ho : ocn ≤ 3) (h : dpn ≠ 0 ∨ ocn ≠ 0) {post : Int32 → SY → Prop} (K : post (-9) (nI n, nI dpn, nI ocn, o, g, d, mi, bg, tm)) : wpY_run post (nI n, nI dpn, nI ocn, o, g, d, mi, bg, tm) := by
  by_cases c : dpn = 0
  · exact br_t (by rw [c]; rfl) (br_f (nI_ne0 (by omega) (by omega)) K)
  · exact br_f (nI_ne0 (by omega) (by omega)) K
end
theorem fx_var (x : Int32) : (x < 0 ∨ 8 ≤ x) ∨ ∃ s : Nat, s < 8 ∧ x = nI s := by
  rcases pk_ix x (n := 8) (by omega) with h | h | h
  · exact Or.inl (Or.inl h)
  · exact Or.inl (Or.inr h)
  · exact Or.inr h
theorem mc_run_G {o g e : Nat → Int32} {n : Nat} (hN : n ≤ 40) (H : bk_wf o g n) (hn : bk_st o n = []) (PT : bk_pt o e n) : ∀ (f p : Nat) (V M : Nat → Nat) (rl : Nat → Int32), p ≤ n → mc_G (8 + bk_dp o p) V M → mc_G 8 (mc_run o g e n f p V M rl).2.1 (mc_run o g e n f p V M rl).2.2 := by
  intro f
  induction f with
  | zero => intro p V M rl _ G; exact mc_G_le G (by omega)
  | succ f ih =>
    intro p V M rl hp G
    by_cases hpn : p < n
    · obtain ⟨k, hk, ho, t⟩ := H p hpn
      have hR : mc_run o g e n (f + 1) p V M rl = if mc_c k (bk_dp o p) V M = 0 then mc_run o g e n f (mc_p k (bk_dp o p) p (mc_s o p) (o (mc_s o p)) (e p) V rl) (mc_V k (bk_dp o p) (g p) V M) (mc_M k (bk_dp o p) (g p) V M) (mc_rl k p (mc_s o p) (o (mc_s o p)) (g p) rl) else (mc_c k (bk_dp o p) V M, V, M) := by
        show (if p < n then _ else _) = _
        rw [if_pos hpn, mc_kk ho hk]
      rw [hR]
      by_cases hc : mc_c k (bk_dp o p) V M = 0
      · rw [if_pos hc]
        have nx := mc_nx (V := V) (rl := rl) hN H hn PT hpn ho hk
        have G' := mc_nG H hpn ho hk G hc
        rw [← nx.2.1] at G'
        exact ih _ _ _ _ nx.1 G'
      · rw [if_neg hc]
        exact mc_G_le G (by omega)
    · have hR : mc_run o g e n (f + 1) p V M rl = (0, V, M) := by
        show (if p < n then _ else _) = _
        rw [if_neg hpn]
      rw [hR]
      exact mc_G_le G (by omega)
