/-! The model reads: words, clauses. -/
def wFst : List Nat := [104, 108, 102, 98, 119]
def wLt (w : Nat) : List Nat := match w with
  | 0 => [104, 111, 108, 100, 115]
  | 1 => [108, 101, 97, 115, 116]
  | 2 => [102, 111, 114, 103, 101, 116]
  | 3 => [98, 97, 114]
  | _ => [119, 111, 114, 116, 104]
def pSkip : List Nat → List Nat → Bool × List Nat
  | [], l => (true, l)
  | s :: ss, l => match l with
    | [] => (false, [])
    | c :: r => if c = s then pSkip ss r else (false, c :: r)
/-- a clause: whether it goes, what is left, the word, the number, the tokens -/
abbrev pCl : Type := Nat × Nat × List Nat
def pCond (w v : Nat) (l : List Nat) : Bool × List Nat × pCl := ((pz pFu 3 0 l).1, (pz pFu 3 0 l).2.1, (w, v, (pz pFu 3 0 l).2.2))
def pClause (l : List Nat) : Bool × List Nat × pCl := match l with
  | [] => (false, [], (0, 0, []))
  | c :: r => if 5 ≤ pIn wFst c then (false, c :: r, (0, 0, []))
    else if (pSkip (wLt (pIn wFst c) ++ [32]) (c :: r)).1 = false then (false, (pSkip (wLt (pIn wFst c) ++ [32]) (c :: r)).2, (0, 0, []))
    else if pIn wFst c = 3 then pCond 3 0 (pSkip (wLt (pIn wFst c) ++ [32]) (c :: r)).2
    else if (pNum (pSkip (wLt (pIn wFst c) ++ [32]) (c :: r)).2).1 = false then (false, (pNum (pSkip (wLt (pIn wFst c) ++ [32]) (c :: r)).2).2.1, (0, 0, []))
    else if pIn wFst c = 4 then (if (pSkip [32] (pNum (pSkip (wLt (pIn wFst c) ++ [32]) (c :: r)).2).2.1).1 = false then (false, (pSkip [32] (pNum (pSkip (wLt (pIn wFst c) ++ [32]) (c :: r)).2).2.1).2, (0, 0, []))
      else pCond 4 (pNum (pSkip (wLt (pIn wFst c) ++ [32]) (c :: r)).2).2.2 (pSkip [32] (pNum (pSkip (wLt (pIn wFst c) ++ [32]) (c :: r)).2).2.1).2)
    else (true, (pNum (pSkip (wLt (pIn wFst c) ++ [32]) (c :: r)).2).2.1, (pIn wFst c, (pNum (pSkip (wLt (pIn wFst c) ++ [32]) (c :: r)).2).2.2, []))
theorem pSkip_app : ∀ (a b l : List Nat), pSkip (a ++ b) l = if (pSkip a l).1 = true then pSkip b (pSkip a l).2 else (false, (pSkip a l).2)
  | [], b, l => rfl
  | s :: a, b, [] => rfl
  | s :: a, b, c :: r => by
    rw [List.cons_append, pSkip, pSkip]
    by_cases h : c = s
    · simp only [h, if_true]; exact pSkip_app a b r
    · simp only [h, if_false]; rfl
theorem pSkip_len : ∀ (a l : List Nat), (pSkip a l).2.length ≤ l.length
  | [], l => Nat.le_refl _
  | s :: a, [] => Nat.le_refl _
  | s :: a, c :: r => by
    rw [pSkip]
    split
    · have := pSkip_len a r; simp only [List.length_cons]; omega
    · exact Nat.le_refl _
theorem wFst_in : ∀ c : Nat, c < 128 → ∀ k : Nat, k < 5 → (c = wdL.getD (6 * k) 0 ↔ pIn wFst c = k) := by decide +kernel
theorem wFst_le : ∀ c : Nat, c < 128 → pIn wFst c ≤ 5 := by decide +kernel
theorem wLt_len : ∀ w : Nat, w < 5 → (wLt w).length = wdN.getD w 0 ∧ (wLt w).length ≤ 6 := by decide
theorem wLt_at : ∀ w : Nat, w < 5 → ∀ i : Nat, i < 6 → i < (wLt w).length → (wLt w).getD i 0 = wdL.getD (6 * w + i) 0 := by decide
def ltW (l : List Nat) (k : Nat) : Int32 := match l with | [] => -1 | c :: _ => if pIn wFst c < k then Int32.ofNat (pIn wFst c) else -1
theorem ltW_c (c : Nat) (r : List Nat) (k : Nat) : ltW (c :: r) k = if pIn wFst c < k then Int32.ofNat (pIn wFst c) else -1 := rfl
section CLAUSE
variable {d : Nat} {ml : zJ}
/-- the same but for the place -/
abbrev x30 (mi mi' : zI) : Prop := ∀ x k, ¬ (x = 0 ∧ k = 30) → mi' x k = mi x k
theorem t_171_at {Q : zQ} {m0 : zI} {n w : Nat} (hw : iWd m0) (h5 : w < 5) : ∀ (j i : Nat) (l : List Nat) (mi : zI), i + j = (wLt w).length → x30 m0 mi → xT mi n l →
    ((pSkip ((wLt w).drop i) l).1 = false → ∀ mi', x30 m0 mi' → xT mi' n (pSkip ((wLt w).drop i) l).2 → Q (some (.int (-1))) mi' ml) →
    ((pSkip ((wLt w).drop i) l).1 = true → ∀ mi', x30 m0 mi' → xT mi' n (pSkip ((wLt w).drop i) l).2 → Q (some (.int (Int32.ofNat w))) mi' ml) →
    Wf (d + 3) 171 24 [.ref 0, .int (Int32.ofNat w), .int (Int32.ofNat i)] [] zMS zMR mi ml Q
  | 0, i, l, mi, e, hF, hT, h0, h1 => by
    obtain ⟨w1, w2⟩ := wLt_len w h5
    rw [List.drop_eq_nil_of_le (by omega)] at h1
    refine B_171_24 _ _ ⟨fun x => absurd x (n_ne1 (by omega)), fun _ => ⟨n_zin h5 (by omega), ?_⟩⟩
    rw [n_cl (by omega), hF 18 w (by omega), hw.2.1 w h5, ← w1]
    exact ⟨fun _ => h1 rfl mi hF hT, fun x => absurd ((n_le (by omega) (by omega)).mpr (by omega)) x⟩
  | j + 1, i, l, mi, e, hF, hT, h0, h1 => by
    obtain ⟨w1, w2⟩ := wLt_len w h5
    have hi : i < (wLt w).length := by omega
    have hat := wLt_at w h5 i (by omega) hi
    have hb : wdL.getD (6 * w + i) 0 < 1000 := by
      have : ∀ k : Nat, k < 30 → wdL.getD k 0 < 1000 := by decide
      exact this _ (by omega)
    have ed : (wLt w).drop i = wdL.getD (6 * w + i) 0 :: (wLt w).drop (i + 1) := by
      rw [List.drop_eq_getElem_cons hi, ← hat, List.getD_eq_getElem?_getD, List.getElem?_eq_getElem hi]; rfl
    rw [ed] at h0 h1
    refine B_171_24 _ _ ⟨fun x => absurd x (n_ne1 (by omega)), fun _ => ⟨n_zin h5 (by omega), ?_⟩⟩
    have e6 : (6 : Int32) * Int32.ofNat w + Int32.ofNat i = Int32.ofNat (6 * w + i) := by
      show Int32.ofNat 6 * Int32.ofNat w + Int32.ofNat i = _
      rw [← Int32.ofNat_mul, n_add]
    rw [n_cl (by omega), hF 18 w (by omega), hw.2.1 w h5, ← w1, e6, n_cl (by omega), hF 17 _ (by omega), hw.1 _ (by omega), n_suc]
    refine ⟨fun x => absurd ((n_le (by omega) (by omega)).mp x) (by omega), fun _ => ⟨n_zin (by omega) (by omega), t_173 hb hT (fun hno => ⟨fun x => absurd rfl x, fun _ => ?_⟩) (fun r mi' el hF' hT' e' => ⟨fun _ => ?_, fun x => absurd (by decide) x⟩)⟩⟩
    · match l, hno, hT, h0 with
      | [], _, hT, h0 => exact h0 rfl mi hF hT
      | c :: r, hno, hT, h0 =>
        have : ¬ c = wdL.getD (6 * w + i) 0 := fun q => hno r (by rw [q])
        rw [pSkip] at h0
        simp only [this, if_false] at h0
        exact h0 trivial mi hF hT
    · subst el
      rw [pSkip] at h0 h1
      simp only [if_true] at h0 h1
      exact t_171_at hw h5 j (i + 1) r mi' (by omega) (fun x k q => by rw [e' x k q, hF x k q]) hT' h0 h1
theorem t_171 {K : Int32 → zI → zJ → Prop} {mi : zI} {n : Nat} {l : List Nat} (hw : iWd mi) (hT : xT mi n l)
    (hA : (∀ c r, l = c :: r → 5 ≤ pIn wFst c) → K (-1) mi ml)
    (hB : ∀ c r mi', l = c :: r → pIn wFst c < 5 → (pSkip (wLt (pIn wFst c)) l).1 = false → x30 mi mi' → xT mi' n (pSkip (wLt (pIn wFst c)) l).2 → K (-1) mi' ml)
    (hC : ∀ c r mi', l = c :: r → pIn wFst c < 5 → (pSkip (wLt (pIn wFst c)) l).1 = true → x30 mi mi' → xT mi' n (pSkip (wLt (pIn wFst c)) l).2 → K (Int32.ofNat (pIn wFst c)) mi' ml) : TI (d + 3) 171 [.ref 0] zMS zMR mi ml K := by
  have loop : ∀ j k : Nat, k + j = 5 → Wf (d + 3) 171 4 [.ref 0, .int (ltW l k), .int (Int32.ofNat k)] [] zMS zMR mi ml (qI K) := by
    intro j
    induction j with
    | succ j ih =>
      intro k e
      have nx := ih (k + 1) (by omega)
      have e6 : (6 : Int32) * Int32.ofNat k = Int32.ofNat (6 * k) := by
        show Int32.ofNat 6 * Int32.ofNat k = _
        rw [← Int32.ofNat_mul]
      refine B_171_4 _ _ ⟨fun x => absurd ((n_le (a := 5) (by omega) (by omega)).mp x) (by omega), fun _ => t_172 hT ?_⟩
      rw [e6, n_cl (by omega), hw.1 _ (by omega), n_suc]
      refine ⟨n_zin (by omega) (by omega), ?_⟩
      match l, hT, nx with
      | [], hT, nx =>
        refine ⟨fun _ => nx, fun x => absurd (Decidable.not_not.mp x) (fun e => ?_)⟩
        have : ∀ k : Nat, k < 5 → ¬ (-1 : Int32) = Int32.ofNat (wdL.getD (6 * k) 0) := by decide
        exact this k (by omega) e
      | c :: r, hT, nx =>
        have hc := xT_c hT
        have hin := wFst_in c hc k (by omega)
        have hlt : wdL.getD (6 * k) 0 < 1000 := by
          have : ∀ k : Nat, k < 5 → wdL.getD (6 * k) 0 < 1000 := by decide
          exact this _ (by omega)
        rw [ltW_c] at nx ⊢
        refine ⟨fun x => ?_, fun x => ?_⟩
        · have hne : ¬ pIn wFst c = k := fun q => x (by show Int32.ofNat c = _; rw [← hin.mpr q])
          by_cases q : pIn wFst c < k
          · rw [if_pos (by omega)] at nx; rw [if_pos q]; exact nx
          · rw [if_neg (by omega)] at nx; rw [if_neg q]; exact nx
        · have heq : pIn wFst c = k := hin.mp ((n_eq (by omega) (by omega)).mp (Decidable.not_not.mp x))
          rw [if_pos (by omega), heq] at nx; exact nx
    | zero =>
      intro k e
      obtain rfl : k = 5 := by omega
      refine B_171_4 _ _ ⟨fun _ => ?_, fun x => absurd (show (5 : Int32) ≤ Int32.ofNat 5 by decide) x⟩
      match l, hT, hA, hB, hC with
      | [], hT, hA, hB, hC => exact B_171_24 _ _ ⟨fun _ => hA (fun c r e => by cases e), fun x => absurd rfl x⟩
      | c :: r, hT, hA, hB, hC =>
        rw [ltW_c]
        by_cases h5 : pIn wFst c < 5
        · rw [if_pos h5]
          exact t_171_at (m0 := mi) hw h5 (wLt (pIn wFst c)).length 0 (c :: r) mi (by omega) (fun _ _ _ => rfl) hT (fun e mi' hF' hT' => hB c r mi' rfl h5 e hF' hT') (fun e mi' hF' hT' => hC c r mi' rfl h5 e hF' hT')
        · rw [if_neg h5]
          exact B_171_24 _ _ ⟨fun _ => hA (fun c' r' e => by injection e with e1 e2; rw [← e1]; omega), fun x => absurd rfl x⟩
  refine TI_of (B_171 ?_)
  have q := loop 5 0 rfl
  have e0 : ltW l 0 = -1 := by match l with | [] => rfl | c :: r => rfl
  rw [e0] at q
  exact q
end CLAUSE
