/-! the reference: order, one calculation, what is read -/
section
variable {sz dp oc : Int32} {o g d mi bg tm : Nat → Int32}
theorem cy_o45 {x y V m W k a b : Nat} (hx : x < 14) (hy : y < 14) (pX : fx_pd d (x * 82) 82 V) (pY : fx_pd d (y * 82) 82 W) (hV : V < fx_T) (hW : W < fx_T) (A : (fx_bl V m ∧ a = 1) ∨ (¬ fx_bl V m ∧ a = 0)) (B : (fx_bl W k ∧ b = 1) ∨ (¬ fx_bl W k ∧ b = 0)) {post : Int32 → Prop} (K : post (fx_ord V m W k)) : wY_order_45 post (nI x) (nI y) (nI a) (nI b) sz dp oc o g d mi bg tm := by
  rcases A with ⟨A, rfl⟩ | ⟨A, rfl⟩ <;> rcases B with ⟨B, rfl⟩ | ⟨B, rfl⟩
  · rw [fx_ord_tt A B] at K
    exact br_t rfl (br_f (by decide) (cy_sz (by omega) (by omega) pY pX (fx_T82 hW) (fx_T82 hV) K))
  · rw [fx_ord_tf A B] at K
    exact br_f (by decide) (br_f (by decide) K)
  · rw [fx_ord_ft A B] at K
    exact br_f (by decide) (br_t rfl K)
  · rw [fx_ord_ff A B] at K
    exact br_t rfl (br_t rfl (cy_sz (by omega) (by omega) pX pY (fx_T82 hV) (fx_T82 hW) K))
theorem cy_o22 {x y V m W k a : Nat} (hx : x < 14) (hy : y < 14) (hk : k < 2) (pX : fx_pd d (x * 82) 82 V) (pY : fx_pd d (y * 82) 82 W) (sY : mi y = nI k) (hV : V < fx_T) (hW : W < fx_T) (A : (fx_bl V m ∧ a = 1) ∨ (¬ fx_bl V m ∧ a = 0)) {post : Int32 → Prop} (K : post (fx_ord V m W k)) : wY_order_22 post (nI x) (nI y) (nI a) sz dp oc o g d mi bg tm := by
  refine ⟨fx_v16 (by omega), ?_⟩
  rw [fx_k16 (by omega), sY]
  by_cases c : k = 0
  · refine br_t (by rw [c]; rfl) ?_
    unfold wY_order_44
    exact cy_o45 (b := 0) hx hy pX pY hV hW A (Or.inr ⟨fun z => z.1 c, rfl⟩) K
  · refine br_f (nI_ne0 (by omega) (by omega)) (cy_ln (by omega) pY (fx_T82 hW) ?_)
    intro n hn hl
    by_cases z : n = 0
    · refine br_t (by rw [z]; decide) ?_
      unfold wY_order_44
      exact cy_o45 (b := 0) hx hy pX pY hV hW A (Or.inr ⟨fun w => w.2 ((fx_len_0 hl).mp z), rfl⟩) K
    · exact br_f (nI_nle (by omega) (by omega)) (cy_o45 (b := 1) hx hy pX pY hV hW A (Or.inl ⟨⟨c, fun w => z ((fx_len_0 hl).mpr w)⟩, rfl⟩) K)
theorem cy_or {x y V m W k : Nat} (hx : x < 14) (hy : y < 14) (hm : m < 2) (hk : k < 2) (pX : fx_pd d (x * 82) 82 V) (sX : mi x = nI m) (pY : fx_pd d (y * 82) 82 W) (sY : mi y = nI k) (hV : V < fx_T) (hW : W < fx_T) {post : Int32 → Prop} (K : post (fx_ord V m W k)) : wpY_order post (sz, dp, oc, o, g, d, mi, bg, tm) (nI x) (nI y) := by
  refine ⟨fx_v16 (by omega), ?_⟩
  rw [fx_k16 (by omega), sX]
  by_cases c : m = 0
  · refine br_t (by rw [c]; rfl) ?_
    unfold wY_order_21
    exact cy_o22 (a := 0) hx hy hk pX pY sY hV hW (Or.inr ⟨fun z => z.1 c, rfl⟩) K
  · refine br_f (nI_ne0 (by omega) (by omega)) (cy_ln (by omega) pX (fx_T82 hV) ?_)
    intro n hn hl
    by_cases z : n = 0
    · refine br_t (by rw [z]; decide) ?_
      unfold wY_order_21
      exact cy_o22 (a := 0) hx hy hk pX pY sY hV hW (Or.inr ⟨fun w => w.2 ((fx_len_0 hl).mp z), rfl⟩) K
    · exact br_f (nI_nle (by omega) (by omega)) (cy_o22 (a := 1) hx hy hk pX pY sY hV hW (Or.inl ⟨⟨c, fun w => z ((fx_len_0 hl).mpr w)⟩, rfl⟩) K)
theorem cy_fin {x r op V m W k : Nat} {d1 mi1 : Nat → Int32} (hx : x < 14) (hr : 14 ≤ r) (hr2 : r < 16) (hd1 : ∀ j, j < 1148 → d1 j = d j) (hm1 : ∀ s, s < 14 → mi1 s = mi s) (pR : fx_pd d1 (r * 82) 82 (fx_rv op V m W k)) (sR : mi1 r = nI (fx_rm op V m W k)) (hm : m < 2) (hk : k < 2) (h82 : fx_rv op V m W k < 10 ^ 82) (hz : ¬ ((op = 6 ∨ op = 7) ∧ W = 0)) {post : Int32 → SY → Prop} (K : ∀ d' mi', (∀ j, j < 1148 → (j < x * 82 ∨ x * 82 + 82 ≤ j) → d' j = d j) → (∀ s, s < 14 → s ≠ x → mi' s = mi s) → (fx_rc op V m W k = 0 → fx_pd d' (x * 82) 82 (fx_rv op V m W k) ∧ mi' x = nI (fx_rm op V m W k)) → post (fx_rc op V m W k) (sz, dp, oc, o, g, d', mi', bg, tm)) : wY_calculate_136 post (nI x) (nI r) sz dp oc o g d1 mi1 bg tm := by
  unfold wY_calculate_136
  refine cy_ln hr2 pR h82 ?_
  intro n hn hl
  have hg := fx_len_gt hl 40
  rw [fx_rc_n hz] at K
  by_cases c : fx_rv op V m W k < fx_T
  · rw [if_pos c] at K
    have c' : ¬ 10 ^ 40 ≤ fx_rv op V m W k := by rw [← fx_T40]; omega
    refine br_t (nI_le (b := 40) (by omega) (by omega)) (cy_cp hr2 (by omega) (by omega) pR sR (fx_rm_le hm hk) ?_)
    intro d' hf
    refine K d' _ (fun j h1 h2 => by rw [hf.1 j h2]; exact hd1 j h1) (fun s h1 h2 => by rw [pk_un h2]; exact hm1 s h1) (fun _ => ⟨hf.2, pk_us⟩)
  · rw [if_neg c] at K
    have c' : 10 ^ 40 ≤ fx_rv op V m W k := by rw [← fx_T40]; omega
    have := hg.mpr c'
    exact br_f (nI_ge (a := 40) (by omega) (by omega)) (K d1 mi1 (fun j h1 _ => hd1 j h1) (fun s h1 _ => hm1 s h1) (fun z => absurd z (by decide)))
theorem fx_sv82 {V m W k : Nat} (hV : V < fx_T) (hW : W < fx_T) : fx_sv V m W k < 10 ^ 82 := by
  have : fx_T + fx_T < 10 ^ 82 := by decide
  unfold fx_sv
  split
  · omega
  · split <;> omega
theorem cy_123 {x r op V m W k : Nat} {d1 mi1 : Nat → Int32} (hop : op < 12) (er : r = if op = 7 then 15 else 14) (hx : x < 14) (hd1 : ∀ j, j < 1148 → d1 j = d j) (hm1 : ∀ s, s < 14 → mi1 s = mi s) (pR : fx_pd d1 (r * 82) 82 (fx_rv op V m W k)) (sR : mi1 r = nI (fx_rm op V m W k)) (hm : m < 2) (hk : k < 2) (h82 : fx_rv op V m W k < 10 ^ 82) (hz : ¬ ((op = 6 ∨ op = 7) ∧ W = 0)) {post : Int32 → SY → Prop} (K : ∀ d' mi', (∀ j, j < 1148 → (j < x * 82 ∨ x * 82 + 82 ≤ j) → d' j = d j) → (∀ s, s < 14 → s ≠ x → mi' s = mi s) → (fx_rc op V m W k = 0 → fx_pd d' (x * 82) 82 (fx_rv op V m W k) ∧ mi' x = nI (fx_rm op V m W k)) → post (fx_rc op V m W k) (sz, dp, oc, o, g, d', mi', bg, tm)) : wY_calculate_123 post (nI op) (nI x) sz dp oc o g d1 mi1 bg tm := by
  by_cases c : op = 7
  · rw [if_pos c] at er
    subst er
    exact br_t (by rw [c]; rfl) (cy_fin (r := 15) hx (by omega) (by omega) hd1 hm1 pR sR hm hk h82 hz K)
  · rw [if_neg c] at er
    subst er
    exact br_f (fun z => c ((nI_eq (b := 7) (by omega) (by omega)).mp z)) (cy_fin (r := 14) hx (by omega) (by omega) hd1 hm1 pR sR hm hk h82 hz K)
theorem cy_c22 {x y V m W k op : Nat} (h3 : 3 ≤ op) (h8 : op ≤ 8) (hx : x < 14) (hy : y < 14) (hm : m < 2) (hk : k < 2) (pX : fx_pd d (x * 82) 82 V) (sX : mi x = nI m) (pY : fx_pd d (y * 82) 82 W) (sY : mi y = nI k) (hV : V < fx_T) (hW : W < fx_T) (hz : ¬ ((op = 6 ∨ op = 7) ∧ W = 0)) {post : Int32 → SY → Prop} (K : ∀ d' mi', (∀ j, j < 1148 → (j < x * 82 ∨ x * 82 + 82 ≤ j) → d' j = d j) → (∀ s, s < 14 → s ≠ x → mi' s = mi s) → (fx_rc op V m W k = 0 → fx_pd d' (x * 82) 82 (fx_rv op V m W k) ∧ mi' x = nI (fx_rm op V m W k)) → post (fx_rc op V m W k) (sz, dp, oc, o, g, d', mi', bg, tm)) : wY_calculate_22 post (nI op) (nI x) (nI y) sz dp oc o g d mi bg tm := by
  have hop : op = 3 ∨ op = 4 ∨ op = 5 ∨ op = 8 ∨ (op = 6 ∨ op = 7) := by omega
  rcases hop with rfl | rfl | rfl | rfl | h67
  · refine br_t (by decide) ⟨fx_v16 (by omega), ?_⟩
    rw [fx_k16 (by omega), sY]
    refine cy_add hx hy hm hk pX sX pY hV hW ?_
    intro d' hf
    exact cy_123 (op := 3) (V := V) (m := m) (W := W) (k := k) (mi := mi) (d := d) (r := 14) (by omega) rfl hx (fun j hj => hf.1 j (Or.inl hj)) (fun s hs => pk_un (by omega)) hf.2 pk_us hm hk (fx_sv82 hV hW) hz K
  · refine br_f (by decide) (br_t (by decide) ⟨fx_v16 (by omega), ?_⟩)
    rw [fx_k16 (by omega), sY]
    have h64 : ∀ z : Nat, z = 1 - k → wY_calculate_64 post (nI 4) (nI x) (nI z) (nI y) (nI x) sz dp oc o g d mi bg tm := by
      intro z ez
      subst ez
      unfold wY_calculate_64
      refine cy_add hx hy hm (by omega) pX sX pY hV hW ?_
      intro d' hf
      exact cy_123 (op := 4) (V := V) (m := m) (W := W) (k := k) (mi := mi) (d := d) (r := 14) (by omega) rfl hx (fun j hj => hf.1 j (Or.inl hj)) (fun s hs => pk_un (by omega)) hf.2 pk_us hm hk (fx_sv82 hV hW) hz K
    by_cases c : k = 0
    · exact br_t (by rw [c]; rfl) (h64 1 (by omega))
    · exact br_f (nI_ne0 (by omega) (by omega)) (h64 0 (by omega))
  · refine br_f (by decide) (br_f (by decide) (br_t (by decide) (cy_pr hx hy hm hk pX sX pY sY hV hW ?_)))
    intro d' hf
    have hlt : V * W < 10 ^ 82 := Nat.lt_trans (fx_lt_mul hV hW) (by decide)
    exact cy_123 (op := 5) (V := V) (m := m) (W := W) (k := k) (mi := mi) (d := d) (r := 14) (by omega) rfl hx (fun j hj => hf.1 j (Or.inl hj)) (fun s hs => pk_un (by omega)) hf.2 pk_us hm hk hlt hz K
  · refine br_f (by decide) (br_f (by decide) (br_f (by decide) (br_t (by decide) (cy_or hx hy hm hk pX sX pY sY hV hW ?_))))
    have hw : ∀ z : Int32, z = (if fx_ord V m W k < 0 then 1 else 0) → wY_calculate_111 post (nI 8) (nI x) z 14 sz dp oc o g d mi bg tm := by
      intro z hz2
      unfold wY_calculate_111
      refine cy_wr (s := 14) (by omega) z ?_
      intro d' hf
      have e1 : fx_rv 8 V m W k = fx_ab z := by
        rw [hz2]
        show (if fx_ord V m W k < 0 then 1 else 0) = _
        split <;> decide
      have e2 : fx_mn z = 0 := by
        rw [hz2]
        split <;> decide
      refine cy_123 (op := 8) (V := V) (m := m) (W := W) (k := k) (mi := mi) (d := d) (r := 14) (by omega) rfl hx (fun j hj => hf.1 j (Or.inl hj)) (fun s hs => pk_un (by omega)) (by rw [e1]; exact hf.2) ?_ hm hk (by rw [e1]; exact Nat.lt_trans (fx_ab_lt z) (by decide)) hz K
      rw [pk_us, e2]
      rfl
    by_cases c : fx_ord V m W k < 0
    · exact br_f (Int32.not_le.mpr c) (hw 1 (by rw [if_pos c]))
    · exact br_t (Int32.not_lt.mp c) (hw 0 (by rw [if_neg c]))
  · have n3 : ¬ nI op = 3 := fun z => by have := (nI_eq (b := 3) (by omega) (by omega)).mp z; omega
    have n4 : ¬ nI op = 4 := fun z => by have := (nI_eq (b := 4) (by omega) (by omega)).mp z; omega
    have n5 : ¬ nI op = 5 := fun z => by have := (nI_eq (b := 5) (by omega) (by omega)).mp z; omega
    have n8 : ¬ nI op = 8 := fun z => by have := (nI_eq (b := 8) (by omega) (by omega)).mp z; omega
    have hW0 : W ≠ 0 := fun z => hz ⟨h67, z⟩
    refine br_f n3 (br_f n4 (br_f n5 (br_f n8 (cy_dv hx hy hm hk pX sX pY sY hV hW hW0 ?_))))
    intro d' hf hq hr
    rcases h67 with rfl | rfl
    · refine cy_123 (op := 6) (V := V) (m := m) (W := W) (k := k) (mi := mi) (d := d) (r := 14) (by omega) rfl hx hf (fun s hs => by rw [pk_un (by omega), pk_un (by omega)]) hq ?_ hm hk (Nat.lt_of_le_of_lt (Nat.div_le_self V W) (fx_T82 hV)) hz K
      rw [pk_un (by omega), pk_us]
      rfl
    · refine cy_123 (op := 7) (V := V) (m := m) (W := W) (k := k) (mi := mi) (d := d) (r := 15) (by omega) rfl hx hf (fun s hs => by rw [pk_un (by omega), pk_un (by omega)]) hr ?_ hm hk (Nat.lt_trans (Nat.mod_lt V (by omega)) (fx_T82 hW)) hz K
      rw [pk_us]
      rfl
theorem cy_calc {x y V m W k op : Nat} (h3 : 3 ≤ op) (h8 : op ≤ 8) (hx : x < 14) (hy : y < 14) (hm : m < 2) (hk : k < 2) (pX : fx_pd d (x * 82) 82 V) (sX : mi x = nI m) (pY : fx_pd d (y * 82) 82 W) (sY : mi y = nI k) (hV : V < fx_T) (hW : W < fx_T) {post : Int32 → SY → Prop} (K : ∀ d' mi', (∀ j, j < 1148 → (j < x * 82 ∨ x * 82 + 82 ≤ j) → d' j = d j) → (∀ s, s < 14 → s ≠ x → mi' s = mi s) → (fx_rc op V m W k = 0 → fx_pd d' (x * 82) 82 (fx_rv op V m W k) ∧ mi' x = nI (fx_rm op V m W k)) → post (fx_rc op V m W k) (sz, dp, oc, o, g, d', mi', bg, tm)) : wpY_calculate post (sz, dp, oc, o, g, d, mi, bg, tm) (nI op) (nI x) (nI y) := by
  have h12 : (op = 6 ∨ op = 7) → wY_calculate_12 post (nI op) (nI x) (nI y) sz dp oc o g d mi bg tm := by
    intro h67
    unfold wY_calculate_12
    refine cy_ln (by omega) pY (fx_T82 hW) ?_
    intro n hn hl
    by_cases z : n = 0
    · have hW0 := (fx_len_0 hl).mp z
      have K' := K d mi (fun _ _ _ => rfl) (fun _ _ _ => rfl) (fun h0 => absurd (h0.symm.trans (fx_rc_z ⟨h67, hW0⟩)) (by decide))
      rw [fx_rc_z ⟨h67, hW0⟩] at K'
      exact br_t (by rw [z]; rfl) K'
    · exact br_f (nI_ne0 (by omega) (by omega)) (cy_c22 h3 h8 hx hy hm hk pX sX pY sY hV hW (fun w => z ((fx_len_0 hl).mpr w.2)) K)
  by_cases c6 : op = 6
  · exact br_t (by rw [c6]; rfl) (h12 (Or.inl c6))
  · refine br_f (fun z => c6 ((nI_eq (b := 6) (by omega) (by omega)).mp z)) ?_
    by_cases c7 : op = 7
    · exact br_t (by rw [c7]; rfl) (h12 (Or.inr c7))
    · exact br_f (fun z => c7 ((nI_eq (b := 7) (by omega) (by omega)).mp z)) (cy_c22 h3 h8 hx hy hm hk pX sX pY sY hV hW (by omega) K)
theorem cy_sl_l {s V m : Nat} (hs : s < 16) (hm : m < 2) (pa : fx_pd d (s * 82) 82 V) (sa : mi s = nI m) {post : Int64 → Prop} (K : post (fx_l V m)) : ∀ i, i ≤ 10 → wY_small_6 post (nI s) sz dp oc o g d mi bg tm (i + 1) (lN (V / 10 ^ i)) (nI i + (-1)) := by
  intro i
  induction i with
  | zero =>
    intro _
    rw [Nat.pow_zero, Nat.div_one]
    refine br_t fx_m1z ⟨fx_v16 hs, ?_⟩
    rw [fx_k16 hs, sa]
    unfold fx_l at K
    by_cases c : m = 0
    · rw [if_pos c] at K
      exact br_t (by rw [c]; rfl) K
    · rw [if_neg c] at K
      exact br_f (nI_ne0 (by omega) (by omega)) K
  | succ i ih =>
    intro hi
    have b := fx_dg10 V i
    rw [pk_m1]
    refine br_f (nI_pos (by omega)) ⟨fx_v82 hs (by omega), nm_r (e' := lN (V / 10 ^ i)) ?_ (nm_e (ih (by omega)))⟩
    rw [fx_c82 hs (by omega), pa i (by omega), nI_l (by omega), fx_10, lN_mul, lN_add, fx_ds 10 V i, Nat.mul_comm]
theorem cy_sl {s V m : Nat} (hs : s < 16) (hm : m < 2) (pa : fx_pd d (s * 82) 82 V) (sa : mi s = nI m) (hV : V < 10 ^ 10) {post : Int64 → Prop} (K : post (fx_l V m)) : wpY_small post (sz, dp, oc, o, g, d, mi, bg, tm) (nI s) := by
  refine ⟨11, ?_⟩
  have h := cy_sl_l (sz := sz) (dp := dp) (oc := oc) (o := o) (g := g) (bg := bg) (tm := tm) hs hm pa sa K 10 (Nat.le_refl 10)
  rw [Nat.div_eq_of_lt hV, pk_m1] at h
  exact h
end
