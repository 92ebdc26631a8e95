/-! one token more -/
theorem em_st (o : Nat → Int32) (n : Nat) (x : Int32) : bk_st (upd o n x) n = bk_st o n := bk_st_cg (n := n) (fun j hj => pk_un (by omega)) n (Nat.le_refl n)
theorem em_dp (o : Nat → Int32) (n : Nat) (x : Int32) : bk_dp (upd o n x) n = bk_dp o n := bk_dp_cg (n := n) (fun j hj => pk_un (by omega)) n (Nat.le_refl n)
theorem em_tok {o g : Nat → Int32} {n k : Nat} {a : Int32} (hk : k < 12) (h1 : k = 1 ∨ k = 2 → ∃ v : Nat, v < 8 ∧ a = nI v) (h2 : bk_pops k ≤ bk_dp o n) (h3 : k ≤ 1 → bk_dp o n < 6) (h4 : k = 9 → bk_dp o n = 1) (h5 : 10 ≤ k → bk_dp o n = 0) (h6 : k = 9 ∨ k = 10 → (bk_st o n).length < 3) (h7 : k = 11 → bk_st o n ≠ []) : bk_tok (upd o n (nI k)) (upd g n a) n := by
  refine ⟨k, hk, pk_us, ?_, ?_, ?_, ?_, ?_, ?_, ?_⟩
  · rw [pk_us]; exact h1
  · rw [em_dp]; exact h2
  · rw [em_dp]; exact h3
  · rw [em_dp]; exact h4
  · rw [em_dp]; exact h5
  · rw [em_st]; exact h6
  · rw [em_st]; exact h7
theorem em_dps {o : Nat → Int32} {n k : Nat} (hk : k < 12) : bk_dp (upd o n (nI k)) (n + 1) = if k ≤ 1 then bk_dp o n + 1 else if k ≤ 9 then bk_dp o n - 1 else bk_dp o n := by
  rw [bk_dp_s (k := k) pk_us hk, em_dp]
theorem em_sts {o : Nat → Int32} {n k : Nat} (hk : k < 12) : bk_st (upd o n (nI k)) (n + 1) = if k = 9 ∨ k = 10 then n :: bk_st o n else if k = 11 then (bk_st o n).tail else bk_st o n := by
  rw [bk_st_s (k := k) pk_us hk, em_st]
theorem em_n11 {k : Nat} (hk : k < 12) (h : k ≠ 11) : nI k ≠ 11 := fun z => h ((mc_eq hk (by omega)).mp (z.trans (show (11 : Int32) = nI 11 from rfl)))
/-- what the relation says of a program -/
def em_R (n dp oc : Nat) (o g pt ob : Nat → Int32) : Prop := n ≤ 40 ∧ bk_wf o g n ∧ bk_dp o n = dp ∧ (bk_st o n).length = oc ∧ bk_ob ob (bk_st o n) ∧ bk_pt o pt n
theorem em_R0 (o g pt ob : Nat → Int32) : em_R 0 0 0 o g pt ob := ⟨by omega, fun p hp => absurd hp (by omega), rfl, rfl, trivial, fun p hp => absurd hp (by omega)⟩
theorem em_Rdp {n dp oc : Nat} {o g pt ob : Nat → Int32} (R : em_R n dp oc o g pt ob) : dp ≤ 6 := by
  obtain ⟨_, h, rfl, _⟩ := R
  exact bk_dp_6 h n (Nat.le_refl n)
theorem em_Roc {n dp oc : Nat} {o g pt ob : Nat → Int32} (R : em_R n dp oc o g pt ob) : oc ≤ 3 := by
  obtain ⟨_, h, _, rfl, _⟩ := R
  exact bk_len h n (Nat.le_refl n)
/-- a token that opens and closes nothing -/
theorem em_A {n dp oc k : Nat} {o g pt ob : Nat → Int32} {a : Int32} (R : em_R n dp oc o g pt ob) (hn : n < 40) (hk : k ≤ 8) (h1 : k = 1 ∨ k = 2 → ∃ v : Nat, v < 8 ∧ a = nI v) (h2 : bk_pops k ≤ dp) (h3 : k ≤ 1 → dp < 6) : em_R (n + 1) (if k ≤ 1 then dp + 1 else dp - 1) oc (upd o n (nI k)) (upd g n a) pt ob := by
  obtain ⟨_, hw, rfl, rfl, hb, hp⟩ := R
  have e := em_sts (o := o) (n := n) (k := k) (by omega)
  rw [if_neg (by omega), if_neg (by omega)] at e
  refine ⟨by omega, bk_wf_s hw (em_tok (by omega) h1 h2 h3 (by omega) (by omega) (by omega) (by omega)), ?_, by rw [e], by rw [e]; exact hb, bk_pt_cg hp (em_n11 (by omega) (by omega))⟩
  rw [em_dps (by omega)]
  split
  · rfl
  · rw [if_pos (by omega)]
/-- IF or REPEAT -/
theorem em_B {n dp oc k : Nat} {o g pt ob : Nat → Int32} {a : Int32} (R : em_R n dp oc o g pt ob) (hn : n < 40) (hk : k = 9 ∨ k = 10) (h1 : k = 9 → dp = 1) (h2 : k = 10 → dp = 0) (h3 : oc < 3) : em_R (n + 1) 0 (oc + 1) (upd o n (nI k)) (upd g n a) pt (upd ob oc (nI n)) := by
  obtain ⟨_, hw, rfl, rfl, hb, hp⟩ := R
  have e := em_sts (o := o) (n := n) (k := k) (by omega)
  rw [if_pos hk] at e
  refine ⟨by omega, bk_wf_s hw (em_tok (by omega) (by omega) ?_ (by omega) h1 (by omega) (fun _ => h3) (by omega)), ?_, by rw [e]; rfl, ?_, bk_pt_cg hp (em_n11 (by omega) (by omega))⟩
  · rcases hk with rfl | rfl
    · rw [h1 rfl]; decide
    · rw [h2 rfl]; decide
  · rw [em_dps (by omega), if_neg (by omega)]
    rcases hk with rfl | rfl
    · rw [if_pos (by omega), h1 rfl]
    · rw [if_neg (by omega), h2 rfl]
  · rw [e]
    exact ⟨pk_us, bk_ob_up (Nat.le_refl _) hb⟩
/-- END -/
theorem em_C {n oc : Nat} {o g pt ob : Nat → Int32} {a : Int32} (R : em_R n 0 (oc + 1) o g pt ob) (hn : n < 40) : ∃ s, s < n ∧ ob oc = nI s ∧ em_R (n + 1) 0 oc (upd o n (nI 11)) (upd g n a) (upd (upd pt s (nI n)) n (nI s)) ob := by
  obtain ⟨_, hw, h0, hl, hb, hp⟩ := R
  cases hs : bk_st o n with
  | nil => rw [hs] at hl; exact absurd hl (by rw [List.length_nil]; omega)
  | cons s r =>
    have e := em_sts (o := o) (n := n) (k := 11) (by omega)
    rw [if_neg (by omega), if_pos rfl, hs] at e
    rw [hs] at hl hb
    rw [List.length_cons] at hl
    have hr : r.length = oc := by omega
    refine ⟨s, (bk_ok o n s r hs).1, by rw [← hr]; exact hb.1, by omega, bk_wf_s hw (em_tok (by omega) (by omega) (by rw [h0]; decide) (by omega) (by omega) (fun _ => h0) (by omega) (fun _ => by rw [hs]; exact List.cons_ne_nil s r)), ?_, by rw [e]; exact hr, by rw [e]; exact hb.2, bk_pt_end hp hs⟩
    rw [em_dps (by omega), if_neg (by omega), if_neg (by omega), h0]
