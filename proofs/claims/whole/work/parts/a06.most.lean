/-! The biggest circle with the boat, for strangers. -/
def smB (g k x : Nat) : Bool := decide (1 ≤ x ∧ x &&& g = x ∧ oN x = k ∧ gpN x &&& gpN g = gpN x)
theorem small_all : ∀ g : Nat, g < 32 → ∀ k : Nat, k < 6 → (k = 0 || decide (oN g < k) || (List.range 32).any (smB g k)) = true := by decide +kernel
theorem small_tab (g : Nat) (hg : g < 32) (k : Nat) (hk : k < 6) (h1 : 1 ≤ k) (h2 : k ≤ oN g) : ∃ x, x < 32 ∧ 1 ≤ x ∧ x &&& g = x ∧ oN x = k ∧ gpN x &&& gpN g = gpN x := by
  have h := small_all g hg k hk
  have e1 : decide (k = 0) = false := decide_eq_false (by omega)
  have e2 : decide (oN g < k) = false := decide_eq_false (by omega)
  rw [e1, e2, Bool.false_or, Bool.false_or] at h
  obtain ⟨x, x1, x2⟩ := List.any_eq_true.mp h
  exact ⟨x, List.mem_range.mp x1, of_decide_eq_true x2⟩
theorem cBig_ok (m : zI) (cs : List pCl) (among : Nat) : ∀ n, cBig m cs among n = 0 ∨ (cBig m cs among n < n ∧ 1 ≤ cBig m cs among n ∧ gSub (cBig m cs among n) among ∧ gpN (cBig m cs among n) &&& clN m cs = 0)
  | 0 => .inl rfl
  | n + 1 => by
    have ih := cBig_ok m cs among n
    rw [cBig]
    split
    · rename_i q
      exact .inr ⟨Nat.lt_succ_self n, q.1, q.2.1, q.2.2.1⟩
    · rcases ih with h | h
      · exact .inl h
      · exact .inr ⟨by omega, h.2⟩
theorem cBig_max (m : zI) (cs : List pCl) (among : Nat) : ∀ n x, x < n → 1 ≤ x → gSub x among → gpN x &&& clN m cs = 0 → oN x ≤ oN (cBig m cs among n)
  | 0, _, h, _, _, _ => absurd h (Nat.not_lt_zero _)
  | n + 1, x, h, h1, h2, h3 => by
    have ih := cBig_max m cs among n x
    rw [cBig]
    by_cases e : x = n
    · subst e
      split
      · exact Nat.le_refl _
      · rename_i q
        exact Nat.le_of_not_lt (fun z => q ⟨h1, h2, h3, z⟩)
    · have ih := ih (by omega) h1 h2 h3
      split
      · rename_i q
        have := q.2.2.2
        omega
      · exact ih
abbrev fitM (m : zI) (tk : Nat → List Nat) (g : Nat) : Prop := 1 ≤ g ∧ Int32.ofNat (oN g) ≤ mLaw m 0 ∧ sThere (Int32.ofNat g) (m 0 1) (m 0 3) ∧ cOK m tk g
theorem cMost_ok (m : zI) (tk : Nat → List Nat) : ∀ n, cMost m tk n = 0 ∨ ∃ x, x < n ∧ fitM m tk x ∧ oN x = cMost m tk n
  | 0 => .inl rfl
  | n + 1 => by
    have ih := cMost_ok m tk n
    rw [cMost]
    split
    · rename_i q
      exact .inr ⟨n, Nat.lt_succ_self n, ⟨q.1, q.2.1, q.2.2.2.1, q.2.2.2.2⟩, rfl⟩
    · rcases ih with h | ⟨x, x1, x2⟩
      · exact .inl h
      · exact .inr ⟨x, by omega, x2⟩
theorem cMost_max (m : zI) (tk : Nat → List Nat) : ∀ n x, x < n → fitM m tk x → oN x ≤ cMost m tk n
  | 0, _, h, _ => absurd h (Nat.not_lt_zero _)
  | n + 1, x, h, hf => by
    have ih := cMost_max m tk n x
    rw [cMost]
    by_cases e : x = n
    · subst e
      split
      · exact Nat.le_refl _
      · rename_i q
        exact Nat.le_of_not_lt (fun z => q ⟨hf.1, hf.2.1, z, hf.2.2.1, hf.2.2.2⟩)
    · have ih := ih (by omega) hf
      split
      · rename_i q
        have := q.2.2.1
        omega
      · exact ih
