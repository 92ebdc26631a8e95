/-! pictures of the slots -/
def xs_pic (L : Nat → Int64) (S : Nat → Int32) (s V m : Nat) : Prop := fx_pl L (s * 5) 5 V ∧ S s = fx_sg V m
def ys_pic (d mi : Nat → Int32) (s V m : Nat) : Prop := fx_pd d (s * 82) 82 V ∧ mi s = nI m
def xs_all (L : Nat → Int64) (S : Nat → Int32) (c : Nat) (V M : Nat → Nat) : Prop := ∀ s, s < c → xs_pic L S s (V s) (M s)
def ys_all (d mi : Nat → Int32) (c : Nat) (V M : Nat → Nat) : Prop := ∀ s, s < c → ys_pic d mi s (V s) (M s)
/-- L' is L but in slot x -/
def xs_fr (L L' : Nat → Int64) (x : Nat) : Prop := ∀ j, (j < x * 5 ∨ x * 5 + 5 ≤ j) → L' j = L j
def ys_fr (d d' : Nat → Int32) (x : Nat) : Prop := ∀ j, (j < x * 82 ∨ x * 82 + 82 ≤ j) → d' j = d j
theorem xs_fr_pl {L L' : Nat → Int64} {x s n V : Nat} (h : xs_fr L L' x) (hs : s ≠ x) (hn : n ≤ 5) (p : fx_pl L (s * 5) n V) : fx_pl L' (s * 5) n V := by
  intro i hi
  rw [h _ (by omega)]
  exact p i hi
theorem ys_fr_pd {d d' : Nat → Int32} {x s n V : Nat} (h : ys_fr d d' x) (hs : s ≠ x) (hn : n ≤ 82) (p : fx_pd d (s * 82) n V) : fx_pd d' (s * 82) n V := by
  intro i hi
  rw [h _ (by omega)]
  exact p i hi
theorem xs_all_le {L : Nat → Int64} {S : Nat → Int32} {c c' : Nat} {V M : Nat → Nat} (h : xs_all L S c V M) (hc : c' ≤ c) : xs_all L S c' V M := fun s hs => h s (by omega)
theorem ys_all_le {d mi : Nat → Int32} {c c' : Nat} {V M : Nat → Nat} (h : ys_all d mi c V M) (hc : c' ≤ c) : ys_all d mi c' V M := fun s hs => h s (by omega)
/-- slot x is written, slot y may lose its sign: the slots below c but y -/
theorem xs_wr {L L' : Nat → Int64} {S S' : Nat → Int32} {c c' x y v m : Nat} {V M : Nat → Nat} (h : xs_all L S c V M) (fr : xs_fr L L' x) (fs : ∀ s, s ≠ x → s ≠ y → S' s = S s) (pc : xs_pic L' S' x v m) (hy : c' ≤ y) (hc : ∀ s, s < c' → s ≠ x → s < c) : xs_all L' S' c' (fx_up V x v) (fx_up M x m) := by
  intro s hs
  by_cases e : s = x
  · subst e; rw [fx_up_s, fx_up_s]; exact pc
  · rw [fx_up_n e, fx_up_n e]
    have a := h s (hc s hs e)
    exact ⟨xs_fr_pl fr e (by omega) a.1, by rw [fs s e (by omega)]; exact a.2⟩
theorem ys_wr {d d' mi mi' : Nat → Int32} {c c' x v m : Nat} {V M : Nat → Nat} (h : ys_all d mi c V M) (fr : ∀ s, s < c' → s ≠ x → fx_pd d (s * 82) 82 (V s) → fx_pd d' (s * 82) 82 (V s)) (fs : ∀ s, s < c' → s ≠ x → mi' s = mi s) (pc : ys_pic d' mi' x v m) (hc : ∀ s, s < c' → s ≠ x → s < c) : ys_all d' mi' c' (fx_up V x v) (fx_up M x m) := by
  intro s hs
  by_cases e : s = x
  · subst e; rw [fx_up_s, fx_up_s]; exact pc
  · rw [fx_up_n e, fx_up_n e]
    have a := h s (hc s hs e)
    exact ⟨fr s hs e a.1, by rw [fs s hs e]; exact a.2⟩
theorem fx_pl_le {L : Nat → Int64} {b n m V : Nat} (h : fx_pl L b n V) (hm : m ≤ n) : fx_pl L b m V := fun i hi => h i (by omega)
theorem fx_pd_le {d : Nat → Int32} {b n m V : Nat} (h : fx_pd d b n V) (hm : m ≤ n) : fx_pd d b m V := fun i hi => h i (by omega)
