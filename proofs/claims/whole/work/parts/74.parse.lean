/-! Texts, read: from a list of signs on; whether it goes, what is left (or stands at the fault), the tokens. -/
abbrev pR : Type := Bool × List Nat × List Nat
def pFig (c : Nat) : Bool := 48 ≤ c && c ≤ 57
/-- a number of one digit or two -/
def pNum (l : List Nat) : Bool × List Nat × Nat := match l with
  | [] => (false, [], 0)
  | c :: r => if pFig c = true then (match r with
    | [] => (true, [], c - 48)
    | c2 :: r2 => if pFig c2 = true then (true, r2, 10 * (c - 48) + (c2 - 48)) else (true, c2 :: r2, c - 48)) else (false, c :: r, 0)
/-- the place of a sign among some -/
def pIn (s : List Nat) (c : Nat) : Nat := s.idxOf c
def pLet : List Nat := [97, 98, 110, 119, 115, 99]
def pSig : List Nat := [60, 61, 62]
def pTest (l : List Nat) : pR := match l with
  | [] => (false, [], [])
  | c :: r => if pIn pLet c < 6 then (match r with
    | [] => (false, [], [])
    | s :: r2 => if pIn pSig s < 3 then (if (pNum r2).1 = true then (true, (pNum r2).2.1, [3 + ((3 * pIn pLet c + pIn pSig s) * 100 + (pNum r2).2.2)]) else (false, (pNum r2).2.1, [])) else (false, s :: r2, [])) else (false, c :: r, [])
def pNot (x : pR) : pR := if x.1 = true then (true, x.2.1, x.2.2 ++ [2]) else (false, x.2.1, [])
def pPar (x : pR) : pR := if x.1 = true then (match x.2.1 with
  | [] => (false, [], [])
  | c :: r => if c = 41 then (true, r, x.2.2) else (false, c :: r, [])) else (false, x.2.1, [])
def pSeq (x : pR) (f : List Nat → pR) : pR := if x.1 = true then (if (f x.2.1).1 = true then (true, (f x.2.1).2.1, x.2.2 ++ (f x.2.1).2.2) else (false, (f x.2.1).2.1, [])) else (false, x.2.1, [])
def pBin (t : Nat) (x : pR) (f : List Nat → pR) : pR := if x.1 = true then (if (f x.2.1).1 = true then (true, (f x.2.1).2.1, x.2.2 ++ t :: (f x.2.1).2.2) else (false, (f x.2.1).2.1, [])) else (false, x.2.1, [])
/-- F (0), T (1), what stands behind the first F of a T (2), E (3), what stands behind the first T of an E (4), within d openings -/
def pz : Nat → Nat → Nat → List Nat → pR
  | 0, _, _, l => (false, l, [])
  | n + 1, mo, d, l =>
    if mo = 0 then (match l with
      | [] => (false, [], [])
      | c :: r => if c = 33 ∧ d < 4 then pNot (pz n 0 (d + 1) r) else if c = 40 ∧ d < 4 then pPar (pz n 3 (d + 1) r) else pTest (c :: r))
    else if mo = 1 then pSeq (pz n 0 d l) (fun r => pz n 2 d r)
    else if mo = 2 then (match l with
      | [] => (true, [], [])
      | c :: r => if c = 38 then pBin 0 (pz n 0 d r) (fun r => pz n 2 d r) else (true, c :: r, []))
    else if mo = 3 then pSeq (pz n 1 d l) (fun r => pz n 4 d r)
    else (match l with
      | [] => (true, [], [])
      | c :: r => if c = 124 then pBin 1 (pz n 1 d r) (fun r => pz n 4 d r) else (true, c :: r, []))
theorem pNum_len (l : List Nat) : ((pNum l).1 = true → (pNum l).2.1.length + 1 ≤ l.length ∧ (pNum l).2.2 < 100) ∧ (pNum l).2.1.length ≤ l.length := by
  unfold pNum
  match l with
  | [] => exact ⟨fun h => absurd h Bool.false_ne_true, Nat.le_refl _⟩
  | c :: r =>
    simp only
    split
    · rename_i hc
      have hc' : c ≤ 57 := by unfold pFig at hc; simp at hc; omega
      match r with
      | [] => exact ⟨fun _ => ⟨by simp, by simp only; omega⟩, by simp⟩
      | c2 :: r2 =>
        simp only
        split
        · rename_i h2
          have h2' : c2 ≤ 57 := by unfold pFig at h2; simp at h2; omega
          exact ⟨fun _ => ⟨by simp, by simp only; omega⟩, by simp only [List.length_cons]; omega⟩
        · exact ⟨fun _ => ⟨by simp, by simp only; omega⟩, by simp⟩
    · exact ⟨fun h => absurd h Bool.false_ne_true, Nat.le_refl _⟩
theorem pTest_len (l : List Nat) : ((pTest l).1 = true → (pTest l).2.1.length + 3 ≤ l.length ∧ ∃ u, u < 1800 ∧ (pTest l).2.2 = [3 + u]) ∧ (pTest l).2.1.length ≤ l.length := by
  unfold pTest
  match l with
  | [] => exact ⟨fun h => absurd h Bool.false_ne_true, Nat.le_refl _⟩
  | c :: r =>
    simp only
    split
    · rename_i hc
      match r with
      | [] => exact ⟨fun h => absurd h Bool.false_ne_true, by simp⟩
      | s :: r2 =>
        simp only
        split
        · rename_i hs
          obtain ⟨a, b⟩ := pNum_len r2
          split
          · rename_i hn
            obtain ⟨a1, a2⟩ := a hn
            refine ⟨fun _ => ⟨?_, (3 * pIn pLet c + pIn pSig s) * 100 + (pNum r2).2.2, by omega, rfl⟩, ?_⟩
            · simp only [List.length_cons]; omega
            · simp only [List.length_cons]; omega
          · refine ⟨fun h => absurd h Bool.false_ne_true, ?_⟩
            simp only [List.length_cons]; omega
        · exact ⟨fun h => absurd h Bool.false_ne_true, by simp⟩
    · exact ⟨fun h => absurd h Bool.false_ne_true, Nat.le_refl _⟩
/-- less is left; how much a mode takes at least -/
def pTk (mo : Nat) : Nat := if mo = 2 ∨ mo = 4 then 0 else 1
theorem pNot_len {x : pR} {L : Nat} (h : (x.1 = true → x.2.1.length + 1 ≤ L) ∧ x.2.1.length ≤ L) : ((pNot x).1 = true → (pNot x).2.1.length + 1 ≤ L) ∧ (pNot x).2.1.length ≤ L := by
  unfold pNot
  split
  · rename_i e; exact ⟨fun _ => h.1 e, h.2⟩
  · exact ⟨fun e => absurd e Bool.false_ne_true, h.2⟩
theorem pPar_len {x : pR} {L : Nat} (h : (x.1 = true → x.2.1.length + 1 ≤ L) ∧ x.2.1.length ≤ L) : ((pPar x).1 = true → (pPar x).2.1.length + 1 ≤ L) ∧ (pPar x).2.1.length ≤ L := by
  obtain ⟨x1, x2, x3⟩ := x
  unfold pPar
  split
  · rename_i e
    have h1 := h.1 e
    simp only at h1 h ⊢
    match x2 with
    | [] => exact ⟨fun e => absurd e Bool.false_ne_true, h.2⟩
    | c :: r =>
      simp only [List.length_cons] at h1 ⊢
      split
      · exact ⟨fun _ => (by simp only; omega), (by simp only; omega)⟩
      · exact ⟨fun e => absurd e Bool.false_ne_true, (by simp only [List.length_cons]; omega)⟩
  · exact ⟨fun e => absurd e Bool.false_ne_true, h.2⟩
theorem pSeq_len {x : pR} {f : List Nat → pR} {L : Nat} (h : (x.1 = true → x.2.1.length + 1 ≤ L) ∧ x.2.1.length ≤ L) (hf : ∀ r, (f r).2.1.length ≤ r.length) : ((pSeq x f).1 = true → (pSeq x f).2.1.length + 1 ≤ L) ∧ (pSeq x f).2.1.length ≤ L := by
  unfold pSeq
  have hf := hf x.2.1
  split
  · rename_i e
    have := h.1 e
    split
    · exact ⟨fun _ => (by simp only; omega), (by simp only; omega)⟩
    · exact ⟨fun e => absurd e Bool.false_ne_true, (by simp only; omega)⟩
  · exact ⟨fun e => absurd e Bool.false_ne_true, h.2⟩
theorem pBin_len {t : Nat} {x : pR} {f : List Nat → pR} {L : Nat} (h : x.2.1.length ≤ L) (hf : ∀ r, (f r).2.1.length ≤ r.length) : (pBin t x f).2.1.length ≤ L := by
  unfold pBin
  have hf := hf x.2.1
  split
  · split <;> simp only <;> omega
  · exact h
theorem pz_0 (mo d : Nat) (l : List Nat) : pz 0 mo d l = (false, l, []) := rfl
theorem pz_F0 (n d : Nat) : pz (n + 1) 0 d [] = (false, [], []) := rfl
theorem pz_F (n d c : Nat) (r : List Nat) : pz (n + 1) 0 d (c :: r) = if c = 33 ∧ d < 4 then pNot (pz n 0 (d + 1) r) else if c = 40 ∧ d < 4 then pPar (pz n 3 (d + 1) r) else pTest (c :: r) := rfl
theorem pz_T (n d : Nat) (l : List Nat) : pz (n + 1) 1 d l = pSeq (pz n 0 d l) (pz n 2 d) := rfl
theorem pz_t0 (n d : Nat) : pz (n + 1) 2 d [] = (true, [], []) := rfl
theorem pz_t (n d c : Nat) (r : List Nat) : pz (n + 1) 2 d (c :: r) = if c = 38 then pBin 0 (pz n 0 d r) (pz n 2 d) else (true, c :: r, []) := rfl
theorem pz_E (n d : Nat) (l : List Nat) : pz (n + 1) 3 d l = pSeq (pz n 1 d l) (pz n 4 d) := rfl
theorem pz_e0 (n d : Nat) : pz (n + 1) 4 d [] = (true, [], []) := rfl
theorem pz_e (n d c : Nat) (r : List Nat) : pz (n + 1) 4 d (c :: r) = if c = 124 then pBin 1 (pz n 1 d r) (pz n 4 d) else (true, c :: r, []) := rfl
theorem pz_len : ∀ (n mo d : Nat) (l : List Nat), mo ≤ 4 → ((pz n mo d l).1 = true → (pz n mo d l).2.1.length + pTk mo ≤ l.length) ∧ (pz n mo d l).2.1.length ≤ l.length
  | 0, mo, d, l, _ => by rw [pz_0]; exact ⟨fun h => absurd h Bool.false_ne_true, Nat.le_refl _⟩
  | n + 1, mo, d, l, hmo => by
    have ih := fun mo d l h => pz_len n mo d l h
    have h5 : mo = 0 ∨ mo = 1 ∨ mo = 2 ∨ mo = 3 ∨ mo = 4 := by omega
    rcases h5 with rfl | rfl | rfl | rfl | rfl
    · match l with
      | [] => exact ⟨fun h => absurd h Bool.false_ne_true, Nat.le_refl _⟩
      | c :: r =>
        rw [pz_F]
        show _ ∧ _
        split
        · have := pNot_len (L := r.length) (ih 0 (d + 1) r (by decide))
          simp only [List.length_cons]
          exact ⟨fun e => (by have := this.1 e; have : pTk 0 = 1 := rfl; omega), (by omega)⟩
        split
        · have := pPar_len (L := r.length) (ih 3 (d + 1) r (by decide))
          simp only [List.length_cons]
          exact ⟨fun e => (by have := this.1 e; have : pTk 0 = 1 := rfl; omega), (by omega)⟩
        · have := pTest_len (c :: r)
          exact ⟨fun e => (by have := (this.1 e).1; have : pTk 0 = 1 := rfl; omega), this.2⟩
    · rw [pz_T]
      exact pSeq_len (ih 0 d l (by decide)) (fun r => (ih 2 d r (by decide)).2)
    · match l with
      | [] => exact ⟨fun _ => Nat.le_refl _, Nat.le_refl _⟩
      | c :: r =>
        rw [pz_t]
        have h0 : pTk 2 = 0 := rfl
        split
        · have := pBin_len (t := 0) (ih 0 d r (by decide)).2 (fun r => (ih 2 d r (by decide)).2)
          simp only [List.length_cons]
          exact ⟨fun _ => (by omega), (by omega)⟩
        · exact ⟨fun _ => Nat.le_refl _, Nat.le_refl _⟩
    · rw [pz_E]
      exact pSeq_len (ih 1 d l (by decide)) (fun r => (ih 4 d r (by decide)).2)
    · match l with
      | [] => exact ⟨fun _ => Nat.le_refl _, Nat.le_refl _⟩
      | c :: r =>
        rw [pz_e]
        have h0 : pTk 4 = 0 := rfl
        split
        · have := pBin_len (t := 1) (ih 1 d r (by decide)).2 (fun r => (ih 4 d r (by decide)).2)
          simp only [List.length_cons]
          exact ⟨fun _ => (by omega), (by omega)⟩
        · exact ⟨fun _ => Nat.le_refl _, Nat.le_refl _⟩
/-- how many truths may lie when a mode begins -/
def pBd (mo d : Nat) : Nat := 2 * d + (if mo = 0 then 2 else if mo = 1 then 1 else if mo = 2 then 1 else 0)
/-- a mode that stands behind a truth takes it -/
def pIn0 (mo : Nat) : Nat := if mo = 2 ∨ mo = 4 then 1 else 0
theorem sOK_test {u n : Nat} {R : List Nat} (hu : u < 1800) (hn : n ≤ 31) (h : sOK R (n + 1)) : sOK ((3 + u) :: R) n :=
  ⟨by omega, hn, by rw [if_neg (by omega), if_neg (by omega)]; exact h⟩
theorem sOK_bin {t n : Nat} {R : List Nat} (ht : t < 2) (hn : n + 1 ≤ 30) (h : sOK R (n + 1)) : sOK (t :: R) (n + 2) :=
  ⟨by omega, by omega, by rw [if_pos ht]; exact ⟨by omega, h⟩⟩
theorem sOK_not {n : Nat} {R : List Nat} (hn : n + 1 ≤ 31) (h : sOK R (n + 1)) : sOK (2 :: R) (n + 1) :=
  ⟨by decide, hn, by rw [if_neg (by decide), if_pos rfl]; exact ⟨by omega, h⟩⟩
/-- the tokens never want for truths and lay few: with one more truth behind them -/
theorem pz_ok : ∀ (n mo d : Nat) (l : List Nat) (q : Nat) (R : List Nat), mo ≤ 4 → d ≤ 4 → q ≤ pBd mo d → (pz n mo d l).1 = true → sOK R (q + 1) → sOK ((pz n mo d l).2.2 ++ R) (q + pIn0 mo)
  | 0, mo, d, l, q, R, _, _, _, h, _ => absurd h Bool.false_ne_true
  | n + 1, mo, d, l, q, R, hmo, hd, hq, h, hR => by
    have h5 : mo = 0 ∨ mo = 1 ∨ mo = 2 ∨ mo = 3 ∨ mo = 4 := by omega
    rcases h5 with rfl | rfl | rfl | rfl | rfl
    · have hq : q ≤ 2 * d + 2 := hq
      show sOK _ q
      match l, h with
      | [], h => exact absurd h Bool.false_ne_true
      | c :: r, h =>
        rw [pz_F] at h ⊢
        split at h
        · rename_i hc
          rw [if_pos hc]
          unfold pNot at h ⊢
          split at h
          · rename_i e
            rw [if_pos e]
            show sOK ((_ ++ [2]) ++ R) q
            rw [List.append_assoc]
            exact pz_ok n 0 (d + 1) r q _ (by decide) (by omega) (show q ≤ 2 * (d + 1) + 2 by omega) e (sOK_not (by omega) hR)
          · exact absurd h Bool.false_ne_true
        rename_i hc
        rw [if_neg hc]
        split at h
        · rename_i hc
          rw [if_pos hc]
          generalize hx : pz n 3 (d + 1) r = x at h ⊢
          obtain ⟨x1, x2, x3⟩ := x
          unfold pPar at h ⊢
          simp only at h ⊢
          split at h
          · rename_i e
            rw [if_pos e]
            match x2, h, hx with
            | [], h, _ => exact absurd h Bool.false_ne_true
            | c' :: r', h, hx =>
              simp only at h ⊢
              split at h
              · rename_i e'
                rw [if_pos e']
                have := pz_ok n 3 (d + 1) r q R (by decide) (by omega) (show q ≤ 2 * (d + 1) + 0 by omega) (by rw [hx]; exact e) hR
                rw [hx] at this
                exact this
              · exact absurd h Bool.false_ne_true
          · exact absurd h Bool.false_ne_true
        · rename_i hc
          rw [if_neg hc]
          obtain ⟨-, u, hu, e⟩ := (pTest_len (c :: r)).1 h
          rw [e]
          exact sOK_test hu (by omega) hR
    · have hq : q ≤ 2 * d + 1 := hq
      show sOK _ q
      rw [pz_T] at h ⊢
      unfold pSeq at h ⊢
      split at h
      · rename_i e
        rw [if_pos e]
        split at h
        · rename_i e2
          rw [if_pos e2]
          show sOK ((_ ++ _) ++ R) q
          rw [List.append_assoc]
          exact pz_ok n 0 d l q _ (by decide) hd (show q ≤ 2 * d + 2 by omega) e (pz_ok n 2 d _ q R (by decide) hd (show q ≤ 2 * d + 1 by omega) e2 hR)
        · exact absurd h Bool.false_ne_true
      · exact absurd h Bool.false_ne_true
    · have hq : q ≤ 2 * d + 1 := hq
      show sOK _ (q + 1)
      match l, h with
      | [], h => exact hR
      | c :: r, h =>
        rw [pz_t] at h ⊢
        split at h
        · rename_i hc
          rw [if_pos hc]
          unfold pBin at h ⊢
          split at h
          · rename_i e
            rw [if_pos e]
            split at h
            · rename_i e2
              rw [if_pos e2]
              show sOK ((_ ++ 0 :: _) ++ R) (q + 1)
              rw [List.append_assoc]
              exact pz_ok n 0 d r (q + 1) _ (by decide) hd (show q + 1 ≤ 2 * d + 2 by omega) e (sOK_bin (by decide) (by omega) (pz_ok n 2 d _ q R (by decide) hd (show q ≤ 2 * d + 1 by omega) e2 hR))
            · exact absurd h Bool.false_ne_true
          · exact absurd h Bool.false_ne_true
        · rename_i hc
          rw [if_neg hc]; exact hR
    · have hq : q ≤ 2 * d + 0 := hq
      show sOK _ q
      rw [pz_E] at h ⊢
      unfold pSeq at h ⊢
      split at h
      · rename_i e
        rw [if_pos e]
        split at h
        · rename_i e2
          rw [if_pos e2]
          show sOK ((_ ++ _) ++ R) q
          rw [List.append_assoc]
          exact pz_ok n 1 d l q _ (by decide) hd (show q ≤ 2 * d + 1 by omega) e (pz_ok n 4 d _ q R (by decide) hd (show q ≤ 2 * d + 0 by omega) e2 hR)
        · exact absurd h Bool.false_ne_true
      · exact absurd h Bool.false_ne_true
    · have hq : q ≤ 2 * d + 0 := hq
      show sOK _ (q + 1)
      match l, h with
      | [], h => exact hR
      | c :: r, h =>
        rw [pz_e] at h ⊢
        split at h
        · rename_i hc
          rw [if_pos hc]
          unfold pBin at h ⊢
          split at h
          · rename_i e
            rw [if_pos e]
            split at h
            · rename_i e2
              rw [if_pos e2]
              show sOK ((_ ++ 1 :: _) ++ R) (q + 1)
              rw [List.append_assoc]
              exact pz_ok n 1 d r (q + 1) _ (by decide) hd (show q + 1 ≤ 2 * d + 1 by omega) e (sOK_bin (by decide) (by omega) (pz_ok n 4 d _ q R (by decide) hd (show q ≤ 2 * d + 0 by omega) e2 hR))
            · exact absurd h Bool.false_ne_true
          · exact absurd h Bool.false_ne_true
        · rename_i hc
          rw [if_neg hc]; exact hR
