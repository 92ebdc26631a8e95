/-- both sides hold the same program; the eight variables have, on each side, the picture of the same numbers -/
def i_Rel (k : Nat) (u : SX) (v : SY) : Prop := ∃ (n dpn ocn : Nat) (ht : Int32) (L : Nat → Int64) (S o g pt ob rl : Nat → Int32) (pr qu re mu : Nat → Int64) (d mi bg tm : Nat → Int32) (V M : Nat → Nat), u = (nI n, nI dpn, nI ocn, ht, L, S, o, g, pt, ob, rl, pr, qu, re, mu) ∧ v = (nI n, nI dpn, nI ocn, o, g, d, mi, bg, tm) ∧ em_R n dpn ocn o g pt ob ∧ mc_G 8 V M ∧ xs_all L S 8 V M ∧ ys_all d mi 8 V M
theorem i_up {k : Nat} {u : SX} {v : SY} (h : i_Rel k u v) : i_Rel (k + 3) u v := h
theorem i_vc0 : wpX_init (fun u => wpY_init (fun v => i_Rel 0 u v)) := by
  refine ⟨0, 0, 0, 0, _, _, _, _, _, _, _, _, _, _, _, _, _, _, _, fun _ => 0, fun _ => 0, rfl, rfl, em_R0 _ _ _ _, fun _ _ => ⟨fx_T0, show (0 : Nat) < 2 by omega⟩, fun s _ => ⟨fun i _ => by rw [fx_dg_0]; rfl, rfl⟩, fun s _ => ⟨fun i _ => by rw [fx_dg_0]; rfl, rfl⟩⟩
theorem i_vc_emit {k : Nat} {u : SX} {v : SY} (I : i_Rel k u v) (hk : k + 3 ≤ 1536) (v1 : Int32) (v2 : Int32) : wpX_emit (fun r u' => wpY_emit (fun r' v' => r' = r ∧ i_Rel (k + 3) u' v') v v1 v2) u v1 v2 := by
  have I' := I
  obtain ⟨n, dpn, ocn, ht, L, S, o, g, pt, ob, rl, pr, qu, re, mu, d, mi, bg, tm, V, M, rfl, rfl, R, G, XA, YA⟩ := I
  have hd := em_Rdp R
  have hoc := em_Roc R
  have hn := R.1
  rcases pk_ix v1 (n := 12) (by omega) with h | h | ⟨j, hj, rfl⟩
  · exact br_t h (br_f (by decide) (br_t h ⟨rfl, I'⟩))
  · have h0 : ¬ v1 < 0 := fun z => absurd (Int32.lt_of_lt_of_le (Int32.lt_of_le_of_lt h z) (Int32.le_refl 0)) (by decide)
    have h11 : ¬ v1 ≤ 11 := fun z => absurd (Int32.le_trans h z) (by decide)
    exact br_f h0 (br_f h11 (br_f (by decide) (br_f h0 (br_f h11 ⟨rfl, I'⟩))))
  · by_cases c : em_c j v2 n dpn ocn = 0
    · obtain ⟨q1, q2, q3, q4, q5, q6, q7⟩ := em_c0 c
      refine cx_em1 hj hd hoc c ?_ ?_ ?_ ?_
      · intro h8
        refine cy_em hj hn hd hoc ⟨fun _ => cy_168 hj q1 (em_h1 q3) (by omega) hoc ?_, fun z => absurd c z⟩
        have ed : (if j ≤ 1 then dpn + 1 else if j ≤ 9 then dpn - 1 else dpn) = (if j ≤ 1 then dpn + 1 else dpn - 1) := by
          split
          · rfl
          · rw [if_pos (by omega)]
        rw [ed, if_neg (show ¬ (j = 9 ∨ j = 10) by omega), if_neg (show ¬ j = 11 by omega)]
        exact ⟨rfl, _, _, _, ht, L, S, _, _, pt, ob, rl, pr, qu, re, mu, d, mi, bg, tm, V, M, rfl, rfl, em_A R q1 h8 q2 q3 q4, G, XA, YA⟩
      · intro h9
        refine cy_em hj hn hd hoc ⟨fun _ => cy_168 hj q1 (em_h1 q3) (by omega) hoc ?_, fun z => absurd c z⟩
        have e5 := q5 (by omega)
        have ed : (if j ≤ 1 then dpn + 1 else if j ≤ 9 then dpn - 1 else dpn) = 0 := by
          rcases h9 with rfl | rfl
          · rw [show bk_pops 9 = 1 from rfl] at e5; rw [e5]; rfl
          · rw [show bk_pops 10 = 0 from rfl] at e5; rw [e5]; rfl
        rw [ed, if_pos h9]
        refine ⟨rfl, _, _, _, ht, L, S, _, _, pt, _, rl, pr, qu, re, mu, d, mi, bg, tm, V, M, rfl, rfl, em_B R q1 h9 ?_ ?_ (q6 h9), G, XA, YA⟩
        · intro e; subst e; exact e5
        · intro e; subst e; exact e5
      · intro h11 s hs es
        subst h11
        have e5 : dpn = 0 := q5 (by omega)
        subst e5
        have h0 := q7 rfl
        obtain ⟨t, rfl⟩ : ∃ t, ocn = t + 1 := ⟨ocn - 1, by omega⟩
        refine cy_em hj hn hd hoc ⟨fun _ => cy_168 hj q1 (em_h1 q3) (by omega) hoc ?_, fun z => absurd c z⟩
        obtain ⟨s', hs', es', R'⟩ := em_C (a := v2) R q1
        have e : s' = s := (nI_eq (by omega) (by omega)).mp (es'.symm.trans es)
        subst e
        exact ⟨rfl, _, _, _, ht, L, S, _, _, _, ob, rl, pr, qu, re, mu, d, mi, bg, tm, V, M, rfl, rfl, R', G, XA, YA⟩
      · intro h11
        subst h11
        have e5 : dpn = 0 := q5 (by omega)
        subst e5
        have h0 := q7 rfl
        obtain ⟨t, rfl⟩ : ∃ t, ocn = t + 1 := ⟨ocn - 1, by omega⟩
        obtain ⟨s', hs', es', R'⟩ := em_C (a := v2) R q1
        exact ⟨s', hs', es'⟩
    · exact cx_em0 hj hn hd hoc c (cy_em hj hn hd hoc ⟨fun z => absurd z c, fun _ => ⟨rfl, I'⟩⟩)
theorem i_vc_clear {k : Nat} {u : SX} {v : SY} (I : i_Rel k u v) (hk : k + 3 ≤ 1536) : wpX_clear (fun u' => wpY_clear (fun v' => i_Rel (k + 3) u' v') v) u := by
  obtain ⟨n, dpn, ocn, ht, L, S, o, g, pt, ob, rl, pr, qu, re, mu, d, mi, bg, tm, V, M, rfl, rfl, R, G, XA, YA⟩ := I
  exact ⟨0, 0, 0, ht, L, S, o, g, pt, ob, rl, pr, qu, re, mu, d, mi, bg, tm, V, M, rfl, rfl, em_R0 _ _ _ _, G, XA, YA⟩
theorem i_vc_set {k : Nat} {u : SX} {v : SY} (I : i_Rel k u v) (hk : k + 3 ≤ 1536) (v1 : Int32) (v2 : Int32) : wpX_set (fun r u' => wpY_set (fun r' v' => r' = r ∧ i_Rel (k + 3) u' v') v v1 v2) u v1 v2 := by
  have I' := I
  obtain ⟨n, dpn, ocn, ht, L, S, o, g, pt, ob, rl, pr, qu, re, mu, d, mi, bg, tm, V, M, rfl, rfl, R, G, XA, YA⟩ := I
  rcases fx_var v1 with h | ⟨s, hs, rfl⟩
  · exact cx_set0 h v2 (cy_set0 h v2 ⟨rfl, I'⟩)
  · refine cx_set hs v2 ?_
    intro L' S' hf h1 h2
    refine cy_set hs v2 ?_
    intro d' hf'
    exact ⟨rfl, n, dpn, ocn, ht, L', S', o, g, pt, ob, rl, pr, qu, re, mu, d', _, bg, tm, fx_up V s (fx_ab v2), fx_up M s (fx_mn v2), rfl, rfl, R, mc_G_up G (fx_ab_T v2) (fx_mn_2 v2), xs_wr (y := 14) XA hf.1 (fun q h _ => h2 q h) ⟨hf.2, h1⟩ (by omega) (fun q h _ => h), ys_put YA hf' rfl (fun q h _ => h)⟩
theorem i_vc_run {k : Nat} {u : SX} {v : SY} (I : i_Rel k u v) (hk : k + 3 ≤ 1536) : wpX_run (fun r u' => wpY_run (fun r' v' => r' = r ∧ i_Rel (k + 3) u' v') v) u := by
  have I' := I
  obtain ⟨n, dpn, ocn, ht, L, S, o, g, pt, ob, rl, pr, qu, re, mu, d, mi, bg, tm, V, M, rfl, rfl, R, G, XA, YA⟩ := I
  have hd := em_Rdp R
  have hoc := em_Roc R
  by_cases c : dpn ≠ 0 ∨ ocn ≠ 0
  · exact cx_rn9 hd hoc c (cy_rn9 hd hoc c ⟨rfl, I'⟩)
  · have e1 : dpn = 0 := by omega
    have e2 : ocn = 0 := by omega
    subst e1
    subst e2
    obtain ⟨hN, H, h0, hl, hb, PT⟩ := id R
    have hst : bk_st o n = [] := List.eq_nil_of_length_eq_zero hl
    refine br_t rfl (br_t rfl ⟨8642, cx_run hN H hst PT 8640 0 0 V M rl L S pr qu re mu rfl (Nat.zero_le n) G XA ?_⟩)
    intro ht' L' S' rl' pr' qu' re' mu' XA'
    refine br_t rfl (br_t rfl ⟨8641, cy_run (e := pt) hN H hst PT 8640 0 0 V M rl d mi bg tm rfl (Nat.zero_le n) G YA trivial ?_⟩)
    intro d' mi' bg' tm' YA'
    exact ⟨rfl, n, 0, 0, ht', L', S', o, g, pt, ob, rl', pr', qu', re', mu', d', mi', bg', tm', _, _, rfl, rfl, R, mc_run_G hN H hst PT 8640 0 V M rl (Nat.zero_le n) G, XA', YA'⟩
theorem i_vc_tokens {k : Nat} {u : SX} {v : SY} (I : i_Rel k u v) (hk : k + 3 ≤ 1536) : wpX_tokens (fun r => wpY_tokens (fun r' => r' = r ∧ i_Rel (k + 3) u v) v) u := by
  have I' := I
  obtain ⟨n, dpn, ocn, ht, L, S, o, g, pt, ob, rl, pr, qu, re, mu, d, mi, bg, tm, V, M, rfl, rfl, R, G, XA, YA⟩ := I
  exact ⟨rfl, I'⟩
theorem i_vc_sign {k : Nat} {u : SX} {v : SY} (I : i_Rel k u v) (hk : k + 3 ≤ 1536) (v1 : Int32) : wpX_sign (fun r => wpY_sign (fun r' => r' = r ∧ i_Rel (k + 3) u v) v v1) u v1 := by
  have I' := I
  obtain ⟨n, dpn, ocn, ht, L, S, o, g, pt, ob, rl, pr, qu, re, mu, d, mi, bg, tm, V, M, rfl, rfl, R, G, XA, YA⟩ := I
  rcases fx_var v1 with h | ⟨s, hs, rfl⟩
  · exact cx_sign0 h (cy_sign0 h ⟨rfl, I'⟩)
  · exact cx_sign hs (XA s hs) (cy_sign hs (G s hs).2 (YA s hs) (G s hs).1 ⟨rfl, I'⟩)
theorem i_vc_digits {k : Nat} {u : SX} {v : SY} (I : i_Rel k u v) (hk : k + 3 ≤ 1536) (v1 : Int32) : wpX_digits (fun r => wpY_digits (fun r' => r' = r ∧ i_Rel (k + 3) u v) v v1) u v1 := by
  have I' := I
  obtain ⟨n, dpn, ocn, ht, L, S, o, g, pt, ob, rl, pr, qu, re, mu, d, mi, bg, tm, V, M, rfl, rfl, R, G, XA, YA⟩ := I
  rcases fx_var v1 with h | ⟨s, hs, rfl⟩
  · exact cx_digits0 h (cy_digits0 h ⟨rfl, I'⟩)
  · exact cx_digits hs (XA s hs).1 (G s hs).1 (fun r h1 h2 h3 => cy_digits hs (YA s hs).1 (G s hs).1 h1 h2 h3 ⟨rfl, I'⟩)
theorem i_vc_digit {k : Nat} {u : SX} {v : SY} (I : i_Rel k u v) (hk : k + 3 ≤ 1536) (v1 : Int32) (v2 : Int32) : wpX_digit (fun r => wpY_digit (fun r' => r' = r ∧ i_Rel (k + 3) u v) v v1 v2) u v1 v2 := by
  have I' := I
  obtain ⟨n, dpn, ocn, ht, L, S, o, g, pt, ob, rl, pr, qu, re, mu, d, mi, bg, tm, V, M, rfl, rfl, R, G, XA, YA⟩ := I
  rcases fx_var v1 with h | ⟨s, hs, rfl⟩
  · exact cx_digit0 h (cy_digit0 h ⟨rfl, I'⟩)
  · refine cx_digit hs (XA s hs).1 (G s hs).1 ?_ ?_
    · intro hy
      exact cy_digit hs (YA s hs).1 (G s hs).1 (fun _ => ⟨rfl, I'⟩) (fun i hi e => absurd hy (by rw [e]; exact nI_pos hi))
    · intro i hi e
      refine cy_digit hs (YA s hs).1 (G s hs).1 (fun hy => absurd hy (by rw [e]; exact nI_pos hi)) ?_
      intro j hj e'
      have : j = i := (nI_eq hj hi).mp (e'.symm.trans e)
      subst this
      exact ⟨rfl, I'⟩
theorem i_vc_compare {k : Nat} {u : SX} {v : SY} (I : i_Rel k u v) (hk : k + 3 ≤ 1536) (v1 : Int32) (v2 : Int32) : wpX_compare (fun r => wpY_compare (fun r' => r' = r ∧ i_Rel (k + 3) u v) v v1 v2) u v1 v2 := by
  have I' := I
  obtain ⟨n, dpn, ocn, ht, L, S, o, g, pt, ob, rl, pr, qu, re, mu, d, mi, bg, tm, V, M, rfl, rfl, R, G, XA, YA⟩ := I
  rcases fx_var v1 with h | ⟨s, hs, rfl⟩
  · exact cx_cmp0 h (cy_cmp0 h ⟨rfl, I'⟩)
  · rcases fx_var v2 with h | ⟨t, ht2, rfl⟩
    · exact cx_cmp1 hs h (cy_cmp1 hs h ⟨rfl, I'⟩)
    · exact cx_cmp hs ht2 (XA s hs) (XA t ht2) (G s hs).1 (G t ht2).1 (cy_cmp hs ht2 (G s hs).2 (G t ht2).2 (YA s hs) (YA t ht2) (G s hs).1 (G t ht2).1 ⟨rfl, I'⟩)
theorem i_vc_isInt {k : Nat} {u : SX} {v : SY} (I : i_Rel k u v) (hk : k + 3 ≤ 1536) (v1 : Int32) : wpX_isInt (fun r => wpY_isInt (fun r' => r' = r ∧ i_Rel (k + 3) u v) v v1) u v1 := by
  have I' := I
  obtain ⟨n, dpn, ocn, ht, L, S, o, g, pt, ob, rl, pr, qu, re, mu, d, mi, bg, tm, V, M, rfl, rfl, R, G, XA, YA⟩ := I
  rcases fx_var v1 with h | ⟨s, hs, rfl⟩
  · exact cx_isI0 h (cy_isI0 h ⟨rfl, I'⟩)
  · exact cx_isI hs (XA s hs) (G s hs).1 (fun h => cy_isI hs (G s hs).2 (YA s hs) (G s hs).1 (fun _ => ⟨rfl, I'⟩) (fun z => absurd h z)) (fun h => cy_isI hs (G s hs).2 (YA s hs) (G s hs).1 (fun z => absurd z h) (fun _ => ⟨rfl, I'⟩))
theorem i_vc_asInt {k : Nat} {u : SX} {v : SY} (I : i_Rel k u v) (hk : k + 3 ≤ 1536) (v1 : Int32) : wpX_asInt (fun r => wpY_asInt (fun r' => r' = r ∧ i_Rel (k + 3) u v) v v1) u v1 := by
  have I' := I
  obtain ⟨n, dpn, ocn, ht, L, S, o, g, pt, ob, rl, pr, qu, re, mu, d, mi, bg, tm, V, M, rfl, rfl, R, G, XA, YA⟩ := I
  rcases fx_var v1 with h | ⟨s, hs, rfl⟩
  · exact cx_as0 h (cy_as0 h ⟨rfl, I'⟩)
  · exact cx_as hs (XA s hs) (G s hs).1 (fun h => cy_as hs (G s hs).2 (YA s hs) (G s hs).1 (fun _ => ⟨rfl, I'⟩) (fun z => absurd h z)) (fun h => cy_as hs (G s hs).2 (YA s hs) (G s hs).1 (fun z => absurd z h) (fun _ => ⟨rfl, I'⟩))
