/-! filling an array from b on -/
def fx_fr (L L' : Nat → Int64) (b n : Nat) : Prop := ∀ j, (j < b ∨ b + n ≤ j) → L' j = L j
def fx_fill (L L' : Nat → Int64) (b n V : Nat) : Prop := fx_fr L L' b n ∧ fx_pl L' b n V
theorem fx_fill_0 (L : Nat → Int64) (b V : Nat) : fx_fill L L b 0 V := ⟨fun _ _ => rfl, fun i hi => absurd hi (by omega)⟩
theorem fx_fr_s {L L' : Nat → Int64} {b n : Nat} {v : Int64} (h : fx_fr L L' b n) : fx_fr L (vp_updL L' (b + n) v) b (n + 1) := fun j hj => by rw [pk_uLn (by omega)]; exact h j (by omega)
theorem fx_pl_s {L' : Nat → Int64} {b n V : Nat} {v : Int64} (h : fx_pl L' b n V) (hv : v = lN (fx_dg 100000000 V n)) : fx_pl (vp_updL L' (b + n) v) b (n + 1) V := by
  intro i hi
  by_cases e : i = n
  · subst e; rw [pk_uLs, hv]
  · rw [pk_uLn (by omega)]; exact h i (by omega)
theorem fx_fill_s {L L' : Nat → Int64} {b n V : Nat} (h : fx_fill L L' b n V) : fx_fill L (vp_updL L' (b + n) (lN (fx_dg 100000000 V n))) b (n + 1) V := ⟨fx_fr_s h.1, fx_pl_s h.2 rfl⟩
theorem fx_c5 {x i : Nat} (hx : x < 14) (hi : i < 5) : (nI x * 5 + nI i).toNatClampNeg = x * 5 + i := by rw [fx_i5]; exact nI_clamp (by omega)
theorem fx_v5 {x i : Nat} (hx : x < 14) (hi : i < 5) : vp_in (nI x * 5 + nI i) 70 := by rw [fx_i5]; exact vp_in_nI (by omega) (by omega)
theorem fx_v14 {x : Nat} (hx : x < 14) : vp_in (nI x) 14 := vp_in_nI hx (by omega)
theorem fx_k14 {x : Nat} (hx : x < 14) : (nI x).toNatClampNeg = x := nI_clamp (by omega)
theorem fx_Bne : ¬ (100000000 : Int64) = 0 := by decide
theorem fx_5 : (5 : Int32) ≤ nI 5 := by decide
theorem fx_n5 {i : Nat} (h : i < 5) : ¬ (5 : Int32) ≤ nI i := nI_ge (b := 5) h (by omega)
theorem fx_l0 {a : Nat} (h : a < 2 ^ 63) : lN a = 0 ↔ a = 0 := pk_lEQ (b := 0) h (by omega)
theorem fx_pow5 : (100000000 : Nat) ^ 5 = fx_T := fx_T5.symm
section
variable {tc dp oc ht : Int32} {L : Nat → Int64} {S o g pt ob rl : Nat → Int32} {pr qu re mu : Nat → Int64}
theorem cx_wi_l {x A : Nat} (hx : x < 14) (hA : A < 2 ^ 63) {post : SX → Prop} (K : ∀ L', fx_fill L L' (x * 5) 5 A → post (tc, dp, oc, ht, L', S, o, g, pt, ob, rl, pr, qu, re, mu)) : ∀ d i, i + d = 5 → ∀ L', fx_fill L L' (x * 5) i A → wX_writeInt_35 post (nI x) tc dp oc ht (d + 1) (lN (A / 100000000 ^ i)) (nI i) L' S o g pt ob rl pr qu re mu := by
  intro d
  induction d with
  | zero =>
    intro i hi L' hf
    have : i = 5 := by omega
    subst this
    exact br_t fx_5 (K L' hf)
  | succ d ih =>
    intro i hi L' hf
    have hA' : A / 100000000 ^ i < 2 ^ 63 := Nat.lt_of_le_of_lt (Nat.div_le_self _ _) hA
    refine br_f (fx_n5 (by omega)) ⟨fx_Bne, fx_v5 hx (by omega), nm_r (e' := vp_updL L' (x * 5 + i) (lN (fx_dg 100000000 A i))) (by rw [fx_c5 hx (by omega), fx_lrem hA']; rfl) ⟨fx_Bne, nm_r (e' := lN (A / 100000000 ^ (i + 1))) (by rw [fx_ldiv hA', Nat.div_div_eq_div_mul, ← Nat.pow_succ]) (nm_r (nI_1 i) (ih (i + 1) (by omega) _ (fx_fill_s hf)))⟩⟩
theorem cx_wi {x : Nat} (hx : x < 14) (v : Int32) {post : SX → Prop} (K : ∀ L' S', fx_fill L L' (x * 5) 5 (fx_ab v) → S' x = fx_sg (fx_ab v) (fx_mn v) → (∀ s, s ≠ x → S' s = S s) → post (tc, dp, oc, ht, L', S', o, g, pt, ob, rl, pr, qu, re, mu)) : wpX_writeInt post (tc, dp, oc, ht, L, S, o, g, pt, ob, rl, pr, qu, re, mu) (nI x) v := by
  have hA : fx_ab v < 2 ^ 63 := by have := fx_ab_lt v; omega
  have h17 : ∀ z : Int32, (v = 0 → z = 0) → (v ≠ 0 → z = 1) → wX_writeInt_17 post (nI x) v v.toInt64 z (nI x) tc dp oc ht L S o g pt ob rl pr qu re mu := by
    intro z z0 z1
    refine ⟨fx_v14 hx, nm_r (e' := upd S x z) (by rw [fx_k14 hx]) ?_⟩
    by_cases h0 : 0 ≤ v
    · have hn : ¬ v < 0 := Int32.not_lt.mpr h0
      refine br_t h0 ⟨6, ?_⟩
      have h := cx_wi_l (tc := tc) (dp := dp) (oc := oc) (ht := ht) (L := L) (S := upd S x z) (o := o) (g := g) (pt := pt) (ob := ob) (rl := rl) (pr := pr) (qu := qu) (re := re) (mu := mu) (post := post) hx hA (fun L' hf => K L' _ hf (by
        rw [pk_us]
        have hm : fx_mn v = 0 := if_neg hn
        rw [hm]
        by_cases e : v = 0
        · rw [z0 e, (fx_ab_0 v).mpr e, fx_sg_0]
        · rw [z1 e, fx_sg_p (fun w => e ((fx_ab_0 v).mp w))]) (fun s hs => pk_un hs)) 5 0 rfl L (fx_fill_0 L _ _)
      rw [Nat.pow_zero, Nat.div_one, ← fx_ab_p hn] at h
      exact h
    · have hn : v < 0 := Int32.not_le.mp h0
      refine br_f h0 (nm_r (fx_ab_n hn) ⟨fx_v14 hx, nm_r (e' := upd (upd S x z) x (-1)) (by rw [fx_k14 hx]) ⟨6, ?_⟩⟩)
      have h := cx_wi_l (tc := tc) (dp := dp) (oc := oc) (ht := ht) (L := L) (S := upd (upd S x z) x (-1)) (o := o) (g := g) (pt := pt) (ob := ob) (rl := rl) (pr := pr) (qu := qu) (re := re) (mu := mu) (post := post) hx hA (fun L' hf => K L' _ hf (by
        rw [pk_us]
        have hm : fx_mn v = 1 := if_pos hn
        have hv : v ≠ 0 := fun e => by rw [e] at hn; exact absurd hn (by decide)
        rw [hm, fx_sg_n (fun w => hv ((fx_ab_0 v).mp w)) (by omega)]) (fun s hs => by rw [pk_un hs, pk_un hs])) 5 0 rfl L (fx_fill_0 L _ _)
      rw [Nat.pow_zero, Nat.div_one] at h
      exact h
  exact br_c (fun e => h17 0 (fun _ => rfl) (fun h => absurd e h)) (fun e => h17 1 (fun h => absurd h e) (fun _ => rfl))
theorem cx_cp_l {a b V : Nat} (ha : a < 14) (hb : b < 14) (hab : a ≠ b) (pa : fx_pl L (a * 5) 5 V) {post : SX → Prop} (K : ∀ L', fx_fill L L' (b * 5) 5 V → post (tc, dp, oc, ht, L', upd S b (S a), o, g, pt, ob, rl, pr, qu, re, mu)) : ∀ d i, i + d = 5 → ∀ L', fx_fill L L' (b * 5) i V → wX_copyNumber_2 post (nI a) (nI b) tc dp oc ht (d + 1) (nI i) L' S o g pt ob rl pr qu re mu := by
  intro d
  induction d with
  | zero =>
    intro i hi L' hf
    have : i = 5 := by omega
    subst this
    exact br_t fx_5 ⟨fx_v14 ha, fx_v14 hb, nm_r (e' := upd S b (S a)) (by rw [fx_k14 ha, fx_k14 hb]) (K L' hf)⟩
  | succ d ih =>
    intro i hi L' hf
    have e : L' (a * 5 + i) = lN (fx_dg 100000000 V i) := by rw [hf.1 _ (by omega)]; exact pa i (by omega)
    exact br_f (fx_n5 (by omega)) ⟨fx_v5 ha (by omega), fx_v5 hb (by omega), nm_r (e' := vp_updL L' (b * 5 + i) (lN (fx_dg 100000000 V i))) (by rw [fx_c5 ha (by omega), fx_c5 hb (by omega), e]) (nm_r (nI_1 i) (ih (i + 1) (by omega) _ (fx_fill_s hf)))⟩
theorem cx_cp {a b V : Nat} (ha : a < 14) (hb : b < 14) (hab : a ≠ b) (pa : fx_pl L (a * 5) 5 V) {post : SX → Prop} (K : ∀ L', fx_fill L L' (b * 5) 5 V → post (tc, dp, oc, ht, L', upd S b (S a), o, g, pt, ob, rl, pr, qu, re, mu)) : wpX_copyNumber post (tc, dp, oc, ht, L, S, o, g, pt, ob, rl, pr, qu, re, mu) (nI a) (nI b) :=
  ⟨6, cx_cp_l ha hb hab pa K 5 0 rfl L (fx_fill_0 L _ _)⟩
theorem fx_m1n {i : Nat} (h : i < 2 ^ 31) : ¬ nI (i + 1) + (-1) < 0 := by rw [pk_m1]; exact nI_pos h
theorem fx_m1z : nI 0 + (-1) < 0 := by decide
theorem cx_cm_l {x y V W : Nat} (hx : x < 14) (hy : y < 14) (pX : fx_pl L (x * 5) 5 V) (pY : fx_pl L (y * 5) 5 W) {post : Int32 → Prop} (K : post (fx_cmp V W)) : ∀ i, i ≤ 5 → V / 100000000 ^ i = W / 100000000 ^ i → wX_compareMagnitudes_2 post (nI x) (nI y) tc dp oc ht L S o g pt ob rl pr qu re mu (i + 1) (nI i + (-1)) := by
  intro i
  induction i with
  | zero =>
    intro _ he
    rw [Nat.pow_zero, Nat.div_one, Nat.div_one] at he
    subst he
    rw [fx_cmp_eq] at K
    exact br_t fx_m1z K
  | succ i ih =>
    intro hi he
    have bV := fx_dgB V i
    have bW := fx_dgB W i
    rw [pk_m1]
    refine br_f (nI_pos (by omega)) ⟨fx_v5 hx (by omega), nm_r (e' := lN (fx_dg 100000000 V i)) (by rw [fx_c5 hx (by omega)]; exact pX i (by omega)) ⟨fx_v5 hy (by omega), nm_r (e' := lN (fx_dg 100000000 W i)) (by rw [fx_c5 hy (by omega)]; exact pY i (by omega)) ?_⟩⟩
    by_cases c : fx_dg 100000000 V i = fx_dg 100000000 W i
    · exact br_t (by rw [c]) (nm_e (ih (by omega) (fx_top_eq he c)))
    · refine br_f (fun z => c ((lN_eq (by omega) (by omega)).mp z)) ?_
      by_cases c2 : fx_dg 100000000 V i < fx_dg 100000000 W i
      · rw [fx_cmp_lt (fx_top_lt he c2)] at K
        exact br_f (fun z => by have := (lN_le (by omega) (by omega)).mp z; omega) K
      · rw [fx_cmp_gt (fx_top_lt he.symm (by omega))] at K
        exact br_t ((lN_le (by omega) (by omega)).mpr (by omega)) K
theorem cx_cm {x y V W : Nat} (hx : x < 14) (hy : y < 14) (pX : fx_pl L (x * 5) 5 V) (pY : fx_pl L (y * 5) 5 W) (hV : V < fx_T) (hW : W < fx_T) {post : Int32 → Prop} (K : post (fx_cmp V W)) : wpX_compareMagnitudes post (tc, dp, oc, ht, L, S, o, g, pt, ob, rl, pr, qu, re, mu) (nI x) (nI y) := by
  refine ⟨6, ?_⟩
  have h := cx_cm_l (tc := tc) (dp := dp) (oc := oc) (ht := ht) (S := S) (o := o) (g := g) (pt := pt) (ob := ob) (rl := rl) (pr := pr) (qu := qu) (re := re) (mu := mu) hx hy pX pY K 5 (Nat.le_refl 5) (by rw [fx_pow5, Nat.div_eq_of_lt hV, Nat.div_eq_of_lt hW])
  rw [pk_m1] at h
  exact h
theorem cx_am_l {x y V W : Nat} (hx : x < 14) (hy : y < 14) (hxy : x ≠ y) (pX : fx_pl L (x * 5) 5 V) (pY : fx_pl L (y * 5) 5 W) (hV : V < fx_T) (hW : W < fx_T) {post : Int32 → SX → Prop} (K : ∀ L', fx_fill L L' (x * 5) 5 (V + W) → post (if V + W < fx_T then 0 else 2) (tc, dp, oc, ht, L', S, o, g, pt, ob, rl, pr, qu, re, mu)) : ∀ d i, i + d = 5 → ∀ L', fx_fill L L' (x * 5) i (V + W) → wX_addMagnitudes_5 post (nI x) (nI y) tc dp oc ht (d + 1) (lN ((V % 100000000 ^ i + W % 100000000 ^ i) / 100000000 ^ i)) (nI i) L' S o g pt ob rl pr qu re mu := by
  intro d
  induction d with
  | zero =>
    intro i hi L' hf
    have : i = 5 := by omega
    subst this
    have K' := K L' hf
    rw [fx_pow5, Nat.mod_eq_of_lt hV, Nat.mod_eq_of_lt hW]
    have hT : 0 < fx_T := by decide
    have hb : (V + W) / fx_T < 2 := by rw [Nat.div_lt_iff_lt_mul hT]; omega
    refine br_t fx_5 ?_
    by_cases c : V + W < fx_T
    · rw [if_pos c] at K'
      exact br_t (by rw [Nat.div_eq_of_lt c]; rfl) K'
    · rw [if_neg c] at K'
      refine br_f (fun z => c ?_) K'
      have := (fx_l0 (by omega)).mp z
      rw [Nat.div_eq_zero_iff] at this
      omega
  | succ d ih =>
    intro i hi L' hf
    have e1 : L' (x * 5 + i) = lN (fx_dg 100000000 V i) := by rw [hf.1 _ (by omega)]; exact pX i (by omega)
    have e2 : L' (y * 5 + i) = lN (fx_dg 100000000 W i) := by rw [hf.1 _ (by omega)]; exact pY i (by omega)
    have b1 := fx_dgB V i
    have b2 := fx_dgB W i
    have b3 : (V % 100000000 ^ i + W % 100000000 ^ i) / 100000000 ^ i < 2 := by
      have hp := fx_pp (B := 100000000) (by omega) i
      have a1 := Nat.mod_lt V hp
      have a2 := Nat.mod_lt W hp
      rw [Nat.div_lt_iff_lt_mul hp]
      omega
    refine br_f (fx_n5 (by omega)) ⟨fx_v5 hx (by omega), fx_v5 hy (by omega), nm_r (e' := lN (fx_dg 100000000 V i + fx_dg 100000000 W i + (V % 100000000 ^ i + W % 100000000 ^ i) / 100000000 ^ i)) (by rw [fx_c5 hx (by omega), fx_c5 hy (by omega), e1, e2, lN_add, lN_add]) ⟨fx_Bne, fx_v5 hx (by omega), nm_r (e' := vp_updL L' (x * 5 + i) (lN (fx_dg 100000000 (V + W) i))) (by rw [fx_c5 hx (by omega), fx_lrem (by omega), fx_add_dg (by omega)]) ⟨fx_Bne, nm_r (e' := lN ((V % 100000000 ^ (i + 1) + W % 100000000 ^ (i + 1)) / 100000000 ^ (i + 1))) (by rw [fx_ldiv (by omega), fx_add_cy (by omega)]) (nm_r (nI_1 i) (ih (i + 1) (by omega) _ (fx_fill_s hf)))⟩⟩⟩
theorem cx_am {x y V W : Nat} (hx : x < 14) (hy : y < 14) (hxy : x ≠ y) (pX : fx_pl L (x * 5) 5 V) (pY : fx_pl L (y * 5) 5 W) (hV : V < fx_T) (hW : W < fx_T) {post : Int32 → SX → Prop} (K : ∀ L', fx_fill L L' (x * 5) 5 (V + W) → post (if V + W < fx_T then 0 else 2) (tc, dp, oc, ht, L', S, o, g, pt, ob, rl, pr, qu, re, mu)) : wpX_addMagnitudes post (tc, dp, oc, ht, L, S, o, g, pt, ob, rl, pr, qu, re, mu) (nI x) (nI y) := by
  refine ⟨6, ?_⟩
  have h := cx_am_l (tc := tc) (dp := dp) (oc := oc) (ht := ht) (S := S) (o := o) (g := g) (pt := pt) (ob := ob) (rl := rl) (pr := pr) (qu := qu) (re := re) (mu := mu) hx hy hxy pX pY hV hW K 5 0 rfl L (fx_fill_0 L _ _)
  rw [Nat.pow_zero, Nat.div_one, Nat.mod_one, Nat.mod_one] at h
  exact h
theorem cx_sm_l {a l r V W : Nat} (ha : a < 14) (hl : l < 14) (hr : r < 14) (pG : fx_pl L (a * 5) 5 V) (pL : fx_pl L (l * 5) 5 W) (h : W ≤ V) {post : SX → Prop} (K : ∀ L', fx_fill L L' (r * 5) 5 (V - W) → post (tc, dp, oc, ht, L', S, o, g, pt, ob, rl, pr, qu, re, mu)) : ∀ d i, i + d = 5 → ∀ L', fx_fill L L' (r * 5) i (V - W) → wX_subtractMagnitudes_6 post (nI a) (nI l) (nI r) tc dp oc ht (d + 1) (lN (fx_bw 100000000 V W i)) (nI i) L' S o g pt ob rl pr qu re mu := by
  intro d
  induction d with
  | zero =>
    intro i hi L' hf
    have : i = 5 := by omega
    subst this
    exact br_t fx_5 (K L' hf)
  | succ d ih =>
    intro i hi L' hf
    have e1 : L' (a * 5 + i) = lN (fx_dg 100000000 V i) := by rw [hf.1 _ (by omega)]; exact pG i (by omega)
    have e2 : L' (l * 5 + i) = lN (fx_dg 100000000 W i) := by rw [hf.1 _ (by omega)]; exact pL i (by omega)
    have b1 := fx_dgB V i
    have b2 := fx_dgB W i
    have b3 := fx_bw_le 100000000 V W i
    have hs := fx_bw_s (B := 100000000) (by omega) V W i
    have hd := fx_sub_d2 (B := 100000000) (by omega) V W i h
    refine br_f (fx_n5 (by omega)) ⟨fx_v5 ha (by omega), fx_v5 hl (by omega), nm_r (e' := lN (fx_dg 100000000 V i) - lN (fx_dg 100000000 W i) - lN (fx_bw 100000000 V W i)) (by rw [fx_c5 ha (by omega), fx_c5 hl (by omega), e1, e2]) ?_⟩
    have hn := fx_dneg (a := fx_dg 100000000 V i) (b := fx_dg 100000000 W i) (c := fx_bw 100000000 V W i) (by omega) (by omega) b3
    have ih' := ih (i + 1) (by omega) _ (fx_fill_s hf)
    by_cases c : fx_dg 100000000 V i < fx_dg 100000000 W i + fx_bw 100000000 V W i
    · rw [if_pos c] at hs hd
      rw [hs, hd] at ih'
      exact br_f (fun z => Int64.not_le.mpr (hn.mpr c) z) ⟨fx_v5 hr (by omega), nm_r (by rw [fx_c5 hr (by omega), fx_dval1 (by omega) b3]) (nm_r (nI_1 i) ih')⟩
    · rw [if_neg c] at hs hd
      rw [hs, hd] at ih'
      exact br_t (Int64.not_lt.mp (fun z => c (hn.mp z))) ⟨fx_v5 hr (by omega), nm_r (by rw [fx_c5 hr (by omega), fx_dval0 c]) (nm_r (nI_1 i) ih')⟩
theorem cx_sm {a l r V W : Nat} (ha : a < 14) (hl : l < 14) (hr : r < 14) (pG : fx_pl L (a * 5) 5 V) (pL : fx_pl L (l * 5) 5 W) (h : W ≤ V) {post : SX → Prop} (K : ∀ L', fx_fill L L' (r * 5) 5 (V - W) → post (tc, dp, oc, ht, L', S, o, g, pt, ob, rl, pr, qu, re, mu)) : wpX_subtractMagnitudes post (tc, dp, oc, ht, L, S, o, g, pt, ob, rl, pr, qu, re, mu) (nI a) (nI l) (nI r) := by
  refine ⟨6, ?_⟩
  have h := cx_sm_l (tc := tc) (dp := dp) (oc := oc) (ht := ht) (S := S) (o := o) (g := g) (pt := pt) (ob := ob) (rl := rl) (pr := pr) (qu := qu) (re := re) (mu := mu) ha hl hr pG pL h K 5 0 rfl L (fx_fill_0 L _ _)
  rw [fx_bw_0] at h
  exact h
end
