/-! the blocks of a program: the open starts ahead of token p, the innermost first -/
def bk_st (o : Nat → Int32) : Nat → List Nat
  | 0 => []
  | p + 1 => if o p = 9 ∨ o p = 10 then p :: bk_st o p else if o p = 11 then (bk_st o p).tail else bk_st o p
def bk_dp (o : Nat → Int32) : Nat → Nat
  | 0 => 0
  | p + 1 => if o p ≤ 1 then bk_dp o p + 1 else if o p ≤ 9 then bk_dp o p - 1 else bk_dp o p
def bk_pops (k : Nat) : Nat := if 3 ≤ k ∧ k ≤ 8 then 2 else if k = 2 ∨ k = 9 then 1 else 0
/-- what emit has seen to of token p -/
def bk_tok (o g : Nat → Int32) (p : Nat) : Prop := ∃ k : Nat, k < 12 ∧ o p = nI k ∧ (k = 1 ∨ k = 2 → ∃ v : Nat, v < 8 ∧ g p = nI v) ∧ bk_pops k ≤ bk_dp o p ∧ (k ≤ 1 → bk_dp o p < 6) ∧ (k = 9 → bk_dp o p = 1) ∧ (10 ≤ k → bk_dp o p = 0) ∧ (k = 9 ∨ k = 10 → (bk_st o p).length < 3) ∧ (k = 11 → bk_st o p ≠ [])
def bk_wf (o g : Nat → Int32) (n : Nat) : Prop := ∀ p, p < n → bk_tok o g p
theorem bk_open {o : Nat → Int32} {p : Nat} (h : o p = 9 ∨ o p = 10) : bk_st o (p + 1) = p :: bk_st o p := if_pos h
theorem bk_end {o : Nat → Int32} {p : Nat} (h : o p = 11) : bk_st o (p + 1) = (bk_st o p).tail := by
  show (if _ then _ else _) = _
  rw [if_neg (by rw [h]; decide), if_pos h]
theorem bk_same {o : Nat → Int32} {p : Nat} (h9 : o p ≠ 9) (h10 : o p ≠ 10) (h11 : o p ≠ 11) : bk_st o (p + 1) = bk_st o p := by
  show (if _ then _ else _) = _
  rw [if_neg (by intro h; cases h with | inl h => exact h9 h | inr h => exact h10 h), if_neg h11]
theorem bk_ok (o : Nat → Int32) : ∀ p s r, bk_st o p = s :: r → s < p ∧ r = bk_st o s ∧ (o s = 9 ∨ o s = 10) := by
  intro p
  induction p using Nat.strongRecOn with
  | _ p ih =>
    intro s r h
    cases p with
    | zero => exact nomatch h
    | succ p =>
      by_cases h1 : o p = 9 ∨ o p = 10
      · rw [bk_open h1] at h
        injection h with a b
        subst a
        exact ⟨by omega, b.symm, h1⟩
      · by_cases h2 : o p = 11
        · rw [bk_end h2] at h
          cases hs : bk_st o p with
          | nil => rw [hs] at h; exact nomatch h
          | cons s0 r0 =>
            rw [hs] at h
            have a := ih p (by omega) s0 r0 hs
            have b := ih s0 (by omega) s r (by rw [← a.2.1]; exact h)
            exact ⟨by omega, b.2.1, b.2.2⟩
        · rw [bk_same (fun e => h1 (Or.inl e)) (fun e => h1 (Or.inr e)) h2] at h
          have a := ih p (by omega) s r h
          exact ⟨by omega, a.2.1, a.2.2⟩
theorem bk_mem (o : Nat → Int32) : ∀ p x, x ∈ bk_st o p → x < p := by
  intro p
  induction p using Nat.strongRecOn with
  | _ p ih =>
    intro x h
    cases hs : bk_st o p with
    | nil => rw [hs] at h; exact nomatch h
    | cons s r =>
      have a := bk_ok o p s r hs
      rw [hs] at h
      cases h with
      | head => exact a.1
      | tail _ h =>
        have := ih s a.1 x (by rw [← a.2.1]; exact h)
        omega
theorem bk_gone (o : Nat → Int32) {p s : Nat} {r : List Nat} (h : o p = 11) (hs : bk_st o p = s :: r) : ∀ d x, x ∈ bk_st o (p + 1 + d) → x < s ∨ p < x := by
  intro d
  induction d with
  | zero =>
    intro x hx
    rw [Nat.add_zero, bk_end h, hs] at hx
    have a := bk_ok o p s r hs
    rw [show (s :: r).tail = r from rfl, a.2.1] at hx
    exact Or.inl (bk_mem o s x hx)
  | succ d ih =>
    intro x hx
    rw [← Nat.add_assoc] at hx
    by_cases h1 : o (p + 1 + d) = 9 ∨ o (p + 1 + d) = 10
    · rw [bk_open h1] at hx
      cases hx with
      | head => exact Or.inr (by omega)
      | tail _ hx => exact ih x hx
    · by_cases h2 : o (p + 1 + d) = 11
      · rw [bk_end h2] at hx
        exact ih x (List.mem_of_mem_tail hx)
      · rw [bk_same (fun e => h1 (Or.inl e)) (fun e => h1 (Or.inr e)) h2] at hx
        exact ih x hx
/-- what lies ahead of n alone counts -/
theorem bk_st_cg {o o' : Nat → Int32} {n : Nat} (h : ∀ j, j < n → o' j = o j) : ∀ p, p ≤ n → bk_st o' p = bk_st o p := by
  intro p
  induction p with
  | zero => intro _; rfl
  | succ p ih =>
    intro hp
    show (if _ then _ else _) = (if _ then _ else _)
    rw [ih (by omega), h p (by omega)]
theorem bk_dp_cg {o o' : Nat → Int32} {n : Nat} (h : ∀ j, j < n → o' j = o j) : ∀ p, p ≤ n → bk_dp o' p = bk_dp o p := by
  intro p
  induction p with
  | zero => intro _; rfl
  | succ p ih =>
    intro hp
    show (if _ then _ else _) = (if _ then _ else _)
    rw [ih (by omega), h p (by omega)]
theorem bk_tok_cg {o o' g g' : Nat → Int32} {n : Nat} (h : ∀ j, j < n → o' j = o j) (hg : ∀ j, j < n → g' j = g j) {p : Nat} (hp : p < n) (H : bk_tok o g p) : bk_tok o' g' p := by
  unfold bk_tok at *
  rw [h p hp, hg p hp, bk_st_cg h p (by omega), bk_dp_cg h p (by omega)]
  exact H
/-- one token more -/
theorem bk_wf_s {o g : Nat → Int32} {n : Nat} {x y : Int32} (H : bk_wf o g n) (h : bk_tok (upd o n x) (upd g n y) n) : bk_wf (upd o n x) (upd g n y) (n + 1) := by
  intro p hp
  by_cases e : p = n
  · subst e; exact h
  · exact bk_tok_cg (fun j hj => pk_un (by omega)) (fun j hj => pk_un (by omega)) (show p < n by omega) (H p (by omega))
/-- the open blocks in an array, the outermost first -/
def bk_ob (a : Nat → Int32) : List Nat → Prop
  | [] => True
  | s :: r => a r.length = nI s ∧ bk_ob a r
theorem bk_ob_up {a : Nat → Int32} {x : Int32} : ∀ {l : List Nat} {k : Nat}, l.length ≤ k → bk_ob a l → bk_ob (upd a k x) l := by
  intro l
  induction l with
  | nil => intro k _ _; trivial
  | cons s r ih =>
    intro k hk h
    rw [List.length_cons] at hk
    exact ⟨by rw [pk_un (by omega)]; exact h.1, ih (by omega) h.2⟩
/-- partners lead from a start to its end and back -/
def bk_pt (o a : Nat → Int32) (n : Nat) : Prop := ∀ p, p < n → o p = 11 → ∀ s r, bk_st o p = s :: r → a p = nI s ∧ a s = nI p
theorem bk_pt_cg {o a : Nat → Int32} {n : Nat} {x : Int32} (H : bk_pt o a n) (hx : x ≠ 11) : bk_pt (upd o n x) a (n + 1) := by
  intro p hp ho s r hs
  have hc : ∀ j, j < n → upd o n x j = o j := fun j hj => pk_un (by omega)
  by_cases e : p = n
  · subst e; rw [pk_us] at ho; exact absurd ho hx
  · rw [bk_st_cg hc p (by omega)] at hs
    rw [hc p (by omega)] at ho
    exact H p (by omega) ho s r hs
theorem bk_pt_end {o a : Nat → Int32} {n s : Nat} {r : List Nat} (H : bk_pt o a n) (hs : bk_st o n = s :: r) : bk_pt (upd o n 11) (upd (upd a s (nI n)) n (nI s)) (n + 1) := by
  intro p hp ho s1 r1 hs1
  have hc : ∀ j, j < n → upd o n 11 j = o j := fun j hj => pk_un (by omega)
  have hk := bk_ok o n s r hs
  by_cases e : p = n
  · subst e
    rw [bk_st_cg hc p (by omega), hs] at hs1
    injection hs1 with e1 e2
    subst e1
    exact ⟨pk_us, by rw [pk_un (by omega), pk_us]⟩
  · rw [bk_st_cg hc p (by omega)] at hs1
    rw [hc p (by omega)] at ho
    have h1 := H p (by omega) ho s1 r1 hs1
    have hk1 := bk_ok o p s1 r1 hs1
    have hps : p ≠ s := by
      intro e2
      subst e2
      rw [ho] at hk
      exact absurd hk.2.2 (by decide)
    have hss : s1 ≠ s := by
      intro e2
      have hm : s ∈ bk_st o n := by rw [hs]; exact List.Mem.head _
      obtain ⟨d, hd⟩ : ∃ d, n = p + 1 + d := ⟨n - (p + 1), by omega⟩
      have := bk_gone o ho hs1 d s (by rw [← hd]; exact hm)
      omega
    refine ⟨?_, ?_⟩
    · rw [pk_un e, pk_un hps]; exact h1.1
    · rw [pk_un (by omega), pk_un hss]; exact h1.2
/-- the reference's block stack in the run against the component's rounds left -/
def bk_rs (o bg tm rl : Nat → Int32) : List Nat → Prop
  | [] => True
  | s :: r => bg r.length = nI s ∧ tm r.length = (if o s = 10 then rl s else 1) ∧ bk_rs o bg tm rl r
theorem bk_rs_cg {o bg tm rl bg' tm' rl' : Nat → Int32} : ∀ {l : List Nat}, (∀ j, j < l.length → bg' j = bg j) → (∀ j, j < l.length → tm' j = tm j) → (∀ s, s ∈ l → rl' s = rl s) → bk_rs o bg tm rl l → bk_rs o bg' tm' rl' l := by
  intro l
  induction l with
  | nil => intro _ _ _ _; trivial
  | cons s r ih =>
    intro h1 h2 h3 h
    rw [List.length_cons] at h1 h2
    refine ⟨by rw [h1 _ (by omega)]; exact h.1, ?_, ih (fun j hj => h1 j (by omega)) (fun j hj => h2 j (by omega)) (fun x hx => h3 x (List.Mem.tail _ hx)) h.2.2⟩
    rw [h2 _ (by omega), h3 s (List.Mem.head _)]
    exact h.2.1
