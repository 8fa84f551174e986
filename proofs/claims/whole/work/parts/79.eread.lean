/-! The model reads a condition as it is read from the left on. -/
section EREAD
variable {d : Nat} {ml : zJ} {Q : zQ} {m0 : zI} {n co : Nat}
/-- where reading stops, the answer is no -/
abbrev xFail (m0 : zI) (n : Nat) (ml : zJ) (Q : zQ) (x : pR) : Prop := x.1 = false → ∀ mi', xF m0 mi' → xT mi' n x.2.1 → Q (some (.int 0)) mi' ml
abbrev xOps (P : List Nat) : Prop := ∀ p, p ∈ P → p = 1 ∨ p = 2
abbrev xBase (W : List Nat) : Prop := ∀ w r, W = w :: r → w = 0
abbrev x176 (d : Nat) (b : Int32) (mi : zI) (ml : zJ) (Q : zQ) : Prop := Wf (d + 5) 176 9 [.ref 0, .int b, .retAddr 0] [] zMS zMR mi ml Q
theorem pTest_33 (r : List Nat) : pTest (33 :: r) = (false, 33 :: r, []) := rfl
theorem pTest_40 (r : List Nat) : pTest (40 :: r) = (false, 40 :: r, []) := rfl
theorem x_all (hw : iWd m0) : ∀ f : Nat,
    (∀ (dp j : Nat) (l W0 out : List Nat) (mi : zI), 5 * l.length + 1 ≤ f → (∀ w r, W0 = w :: r → w < 3) → opn (List.replicate j 3 ++ W0) = dp → dp ≤ 4 → xF m0 mi → xE mi n l (List.replicate j 3 ++ W0) co out → xFail m0 n ml Q (pz f 0 dp l) →
      ((pz f 0 dp l).1 = true → ∀ mi', xF m0 mi' → xE mi' n (pz f 0 dp l).2.1 W0 co ((out ++ (pz f 0 dp l).2.2) ++ List.replicate j 2) → x176 d 0 mi' ml Q) → x176 d 1 mi ml Q) ∧
    (∀ (dp : Nat) (l O Wb out : List Nat) (mi : zI), 5 * l.length + 2 ≤ f → (O = [] ∨ O = [1]) → xBase Wb → opn Wb = dp → dp ≤ 4 → xF m0 mi → xE mi n l (O ++ Wb) co out → xFail m0 n ml Q (pz f 1 dp l) →
      ((pz f 1 dp l).1 = true → ∀ mi' A out', (A = [] ∨ A = [2]) → (∀ r, (pz f 1 dp l).2.1 ≠ 38 :: r) → xF m0 mi' → xE mi' n (pz f 1 dp l).2.1 (A ++ (O ++ Wb)) co out' → out' ++ A.map tkW = out ++ (pz f 1 dp l).2.2 → x176 d 0 mi' ml Q) → x176 d 1 mi ml Q) ∧
    (∀ (dp : Nat) (l A O Wb out V : List Nat) (mi : zI), 5 * l.length + 1 ≤ f → (A = [] ∨ A = [2]) → (O = [] ∨ O = [1]) → xBase Wb → opn Wb = dp → dp ≤ 4 → xF m0 mi → xE mi n l (A ++ (O ++ Wb)) co out → out ++ A.map tkW = V → xFail m0 n ml Q (pz f 2 dp l) →
      ((pz f 2 dp l).1 = true → ∀ mi' A' out', (A' = [] ∨ A' = [2]) → (∀ r, (pz f 2 dp l).2.1 ≠ 38 :: r) → xF m0 mi' → xE mi' n (pz f 2 dp l).2.1 (A' ++ (O ++ Wb)) co out' → out' ++ A'.map tkW = V ++ (pz f 2 dp l).2.2 → x176 d 0 mi' ml Q) → x176 d 0 mi ml Q) ∧
    (∀ (dp : Nat) (l Wb out : List Nat) (mi : zI), 5 * l.length + 3 ≤ f → xBase Wb → opn Wb = dp → dp ≤ 4 → xF m0 mi → xE mi n l Wb co out → xFail m0 n ml Q (pz f 3 dp l) →
      ((pz f 3 dp l).1 = true → ∀ mi' P out', xOps P → (∀ r, (pz f 3 dp l).2.1 ≠ 38 :: r) → (∀ r, (pz f 3 dp l).2.1 ≠ 124 :: r) → xF m0 mi' → xE mi' n (pz f 3 dp l).2.1 (P ++ Wb) co out' → out' ++ P.map tkW = out ++ (pz f 3 dp l).2.2 → x176 d 0 mi' ml Q) → x176 d 1 mi ml Q) ∧
    (∀ (dp : Nat) (l P Wb out V : List Nat) (mi : zI), 5 * l.length + 1 ≤ f → xOps P → (∀ r, l ≠ 38 :: r) → xBase Wb → opn Wb = dp → dp ≤ 4 → xF m0 mi → xE mi n l (P ++ Wb) co out → out ++ P.map tkW = V → xFail m0 n ml Q (pz f 4 dp l) →
      ((pz f 4 dp l).1 = true → ∀ mi' P' out', xOps P' → (∀ r, (pz f 4 dp l).2.1 ≠ 38 :: r) → (∀ r, (pz f 4 dp l).2.1 ≠ 124 :: r) → xF m0 mi' → xE mi' n (pz f 4 dp l).2.1 (P' ++ Wb) co out' → out' ++ P'.map tkW = V ++ (pz f 4 dp l).2.2 → x176 d 0 mi' ml Q) → x176 d 0 mi ml Q) := by
  intro f
  induction f with
  | zero =>
    refine ⟨?_, ?_, ?_, ?_, ?_⟩
    · intro dp j l W0 out mi h; omega
    · intro dp l O Wb out mi h; omega
    · intro dp l A O Wb out V mi h; omega
    · intro dp l Wb out mi h; omega
    · intro dp l P Wb out V mi h; omega
  | succ f ih =>
    obtain ⟨S0, S1, S2, S3, S4⟩ := ih
    have opO : ∀ O Wb : List Nat, (O = [] ∨ O = [1]) → opn (O ++ Wb) = opn Wb := by
      rintro O Wb (rfl | rfl)
      · rfl
      · show (if 1 = 0 ∨ 1 = 3 then 1 else 0) + opn Wb = opn Wb
        rw [if_neg (by decide), Nat.zero_add]
    have topO : ∀ O Wb : List Nat, (O = [] ∨ O = [1]) → xBase Wb → ∀ w r, O ++ Wb = w :: r → w < 2 := by
      rintro O Wb (rfl | rfl) hWb w r e
      · rw [List.nil_append] at e; rw [hWb w r e]; decide
      · injection e with e1 e2; rw [← e1]; decide
    refine ⟨?_, ?_, ?_, ?_, ?_⟩
    · -- F
      intro dp j l W0 out mi hf hW ho hd hF hx hno hk
      match l, hf, hx, hno, hk with
      | [], hf, hx, hno, hk =>
        exact e_test hw hF hW hx (fun r e => by cases e) (fun r e => by cases e) (fun mi' e => hno rfl mi') (fun mi' e => absurd e Bool.false_ne_true)
      | c :: r, hf, hx, hno, hk =>
        simp only [List.length_cons] at hf
        rw [pz_F] at hno hk
        by_cases h33 : c = 33 ∧ dp < 4
        · rw [if_pos h33] at hno hk
          obtain ⟨rfl, hd4⟩ := h33
          refine e_open (.inr rfl) hF hx (fun e => by omega) (fun mi' _ hF' hx' => ?_)
          have es : (if (33 : Nat) = 40 then 0 else 3) :: (List.replicate j 3 ++ W0) = List.replicate (j + 1) 3 ++ W0 := by rw [if_neg (by decide), List.replicate_succ, List.cons_append]
          rw [es] at hx'
          refine S0 (dp + 1) (j + 1) r W0 out mi' (by omega) hW ?_ (by omega) hF' hx' (fun e => ?_) (fun e mi2 hF2 hx2 => ?_)
          · rw [List.replicate_succ, List.cons_append, opn, if_pos (.inr rfl), ho, Nat.add_comm]
          · unfold pNot at hno; rw [if_neg (by rw [e]; exact Bool.false_ne_true)] at hno; exact hno rfl
          · unfold pNot at hk; rw [if_pos e] at hk
            refine hk rfl mi2 hF2 ?_
            rw [List.replicate_succ] at hx2
            simpa [List.append_assoc] using hx2
        rw [if_neg h33] at hno hk
        by_cases h40 : c = 40 ∧ dp < 4
        · rw [if_pos h40] at hno hk
          obtain ⟨rfl, hd4⟩ := h40
          refine e_open (.inl rfl) hF hx (fun e => by omega) (fun mi' _ hF' hx' => ?_)
          rw [if_pos rfl] at hx'
          have hlen := (pz_len f 3 (dp + 1) r (by decide)).2
          refine S3 (dp + 1) r (0 :: (List.replicate j 3 ++ W0)) out mi' (by omega) (fun w q e => by injection e with e1 e2; exact e1.symm) ?_ (by omega) hF' hx' (fun e => ?_) (fun e mi2 P out' hP h38 h124 hF2 hx2 hV => ?_)
          · rw [opn, if_pos (.inl rfl), ho, Nat.add_comm]
          · intro mi2 hF2 hx2
            generalize hz : pz f 3 (dp + 1) r = x at *
            obtain ⟨x1, x2, x3⟩ := x
            simp only at e hx2
            subst e
            exact hno rfl mi2 hF2 hx2
          · generalize hz : pz f 3 (dp + 1) r = x at *
            obtain ⟨x1, x2, x3⟩ := x
            simp only at e h38 h124 hx2 hV
            subst e
            match x2, hx2, h38, h124, hno, hk with
            | [], hx2, h38, h124, hno, hk =>
              refine e_end hF2 hP (fun w q e => by injection e with e1 e2; exact e1.symm) hx2 h38 h124 (fun r e => by cases e) (fun mi3 hF3 hx3 => ?_)
              rw [if_neg (by simp)]
              exact hno rfl mi3 hF3 hx3.1
            | c' :: r', hx2, h38, h124, hno, hk =>
              by_cases e41 : c' = 41
              · subst e41
                refine e_close hF2 hP hW hx2 (fun mi3 hF3 hx3 => hk rfl mi3 hF3 ?_)
                rw [hV] at hx3
                exact hx3
              · refine e_end hF2 hP (fun w q e => by injection e with e1 e2; exact e1.symm) hx2 h38 h124 (fun r e => by injection e with e1 e2; exact absurd e1 e41) (fun mi3 hF3 hx3 => ?_)
                rw [if_neg (by simp)]
                have ep : pPar (true, c' :: r', x3) = (false, c' :: r', []) := by unfold pPar; simp [e41]
                rw [ep] at hno
                exact hno rfl mi3 hF3 hx3.1
        rw [if_neg h40] at hno hk
        by_cases hc : c = 40 ∨ c = 33
        · have hd4 : dp = 4 := by omega
          refine e_open hc hF hx (fun e => ?_) (fun mi' e => absurd (by rw [ho, hd4]) e)
          rcases hc with rfl | rfl
          · exact hno rfl mi hF hx.1
          · exact hno rfl mi hF hx.1
        · exact e_test hw hF hW hx (fun q e => hc (by injection e with e1 e2; exact .inl e1)) (fun q e => hc (by injection e with e1 e2; exact .inr e1)) (fun mi' e => hno e mi') (fun mi' e => hk e mi')
    · -- T
      intro dp l O Wb out mi hf hO hWb ho hd hF hx hno hk
      rw [pz_T] at hno hk
      have hlen := (pz_len f 0 dp l (by decide))
      refine S0 dp 0 l (O ++ Wb) out mi (by omega) (fun w r e => by have := topO O Wb hO hWb w r e; omega) (by rw [List.replicate_zero, List.nil_append, opO O Wb hO]; exact ho) hd hF hx (fun e => ?_) (fun e mi2 hF2 hx2 => ?_)
      · unfold pSeq at hno; rw [if_neg (by rw [e]; exact Bool.false_ne_true)] at hno; exact hno rfl
      · have hlen := hlen.1 e
        have hp : pTk 0 = 1 := rfl
        rw [List.replicate_zero, List.append_nil] at hx2
        refine S2 dp (pz f 0 dp l).2.1 [] O Wb _ _ mi2 (by omega) (.inl rfl) hO hWb ho hd hF2 hx2 rfl (fun e2 => ?_) (fun e2 mi3 A' out' hA' h38 hF3 hx3 hV => ?_)
        · unfold pSeq at hno; rw [if_pos e, if_neg (by rw [e2]; exact Bool.false_ne_true)] at hno; exact hno rfl
        · unfold pSeq at hk; rw [if_pos e, if_pos e2] at hk
          refine hk rfl mi3 A' out' hA' h38 hF3 hx3 ?_
          rw [hV]; simp [List.append_assoc]
    · -- behind the first F
      intro dp l A O Wb out V mi hf hA hO hWb ho hd hF hx hV hno hk
      match l, hf, hx, hno, hk with
      | [], hf, hx, hno, hk =>
        exact hk rfl mi A out hA (fun r e => by cases e) hF hx (by rw [hV]; exact (List.append_nil _).symm)
      | c :: r, hf, hx, hno, hk =>
        simp only [List.length_cons] at hf
        rw [pz_t] at hno hk
        by_cases h38 : c = 38
        · rw [if_pos h38] at hno hk
          subst h38
          refine e_amp hF (fun p hp => by rcases hA with rfl | rfl <;> simp at hp; exact hp) (topO O Wb hO hWb) hx (fun mi1 hF1 hx1 => ?_)
          rw [hV] at hx1
          have hlen := pz_len f 0 dp r (by decide)
          refine S0 dp 0 r (2 :: (O ++ Wb)) V mi1 (by omega) (fun w q e => by injection e with e1 e2; rw [← e1]; decide) (by rw [List.replicate_zero, List.nil_append, opn, if_neg (by decide), Nat.zero_add, opO O Wb hO]; exact ho) hd hF1 hx1 (fun e => ?_) (fun e mi2 hF2 hx2 => ?_)
          · unfold pBin at hno; rw [if_neg (by rw [e]; exact Bool.false_ne_true)] at hno; exact hno rfl
          · have hlen := hlen.1 e
            have hp : pTk 0 = 1 := rfl
            rw [List.replicate_zero, List.append_nil] at hx2
            refine S2 dp (pz f 0 dp r).2.1 [2] O Wb _ _ mi2 (by omega) (.inr rfl) hO hWb ho hd hF2 hx2 rfl (fun e2 => ?_) (fun e2 mi3 A' out' hA' h38 hF3 hx3 hV' => ?_)
            · unfold pBin at hno; rw [if_pos e, if_neg (by rw [e2]; exact Bool.false_ne_true)] at hno; exact hno rfl
            · unfold pBin at hk; rw [if_pos e, if_pos e2] at hk
              refine hk rfl mi3 A' out' hA' h38 hF3 hx3 ?_
              rw [hV']; simp [List.append_assoc, tkW]
        · rw [if_neg h38] at hk
          exact hk rfl mi A out hA (fun q e => h38 (by injection e)) hF hx (by rw [hV]; exact (List.append_nil _).symm)
    · -- E
      intro dp l Wb out mi hf hWb ho hd hF hx hno hk
      rw [pz_E] at hno hk
      have hlen := (pz_len f 1 dp l (by decide))
      refine S1 dp l [] Wb out mi (by omega) (.inl rfl) hWb ho hd hF hx (fun e => ?_) (fun e mi2 A out' hA h38 hF2 hx2 hV => ?_)
      · unfold pSeq at hno; rw [if_neg (by rw [e]; exact Bool.false_ne_true)] at hno; exact hno rfl
      · have hlen := hlen.1 e
        have hp : pTk 1 = 1 := rfl
        refine S4 dp (pz f 1 dp l).2.1 A Wb out' _ mi2 (by omega) (fun p hp => by rcases hA with rfl | rfl <;> simp at hp; exact .inr hp) h38 hWb ho hd hF2 hx2 rfl (fun e2 => ?_) (fun e2 mi3 P' out2 hP' h38' h124 hF3 hx3 hV' => ?_)
        · unfold pSeq at hno; rw [if_pos e, if_neg (by rw [e2]; exact Bool.false_ne_true)] at hno; exact hno rfl
        · unfold pSeq at hk; rw [if_pos e, if_pos e2] at hk
          refine hk rfl mi3 P' out2 hP' h38' h124 hF3 hx3 ?_
          rw [hV', hV]; simp [List.append_assoc]
    · -- behind the first T
      intro dp l P Wb out V mi hf hP h38 hWb ho hd hF hx hV hno hk
      match l, hf, h38, hx, hno, hk with
      | [], hf, h38, hx, hno, hk =>
        exact hk rfl mi P out hP (fun r e => by cases e) (fun r e => by cases e) hF hx (by rw [hV]; exact (List.append_nil _).symm)
      | c :: r, hf, h38, hx, hno, hk =>
        simp only [List.length_cons] at hf
        rw [pz_e] at hno hk
        by_cases h124 : c = 124
        · rw [if_pos h124] at hno hk
          subst h124
          refine e_bar hF hP hWb hx (fun mi1 hF1 hx1 => ?_)
          rw [hV] at hx1
          have hlen := pz_len f 1 dp r (by decide)
          refine S1 dp r [1] Wb V mi1 (by omega) (.inr rfl) hWb ho hd hF1 hx1 (fun e => ?_) (fun e mi2 A out' hA h38' hF2 hx2 hV2 => ?_)
          · unfold pBin at hno; rw [if_neg (by rw [e]; exact Bool.false_ne_true)] at hno; exact hno rfl
          · have hlen := hlen.1 e
            have hp : pTk 1 = 1 := rfl
            have ea : A ++ ([1] ++ Wb) = (A ++ [1]) ++ Wb := by simp
            rw [ea] at hx2
            refine S4 dp (pz f 1 dp r).2.1 (A ++ [1]) Wb out' _ mi2 (by omega) (fun p hp => ?_) h38' hWb ho hd hF2 hx2 rfl (fun e2 => ?_) (fun e2 mi3 P' out2 hP' h38'' h124 hF3 hx3 hV' => ?_)
            · rw [List.mem_append] at hp
              rcases hp with hp | hp
              · rcases hA with rfl | rfl <;> simp at hp
                exact .inr hp
              · simp at hp; exact .inl hp
            · unfold pBin at hno; rw [if_pos e, if_neg (by rw [e2]; exact Bool.false_ne_true)] at hno; exact hno rfl
            · unfold pBin at hk; rw [if_pos e, if_pos e2] at hk
              refine hk rfl mi3 P' out2 hP' h38'' h124 hF3 hx3 ?_
              rw [hV', List.map_append, ← List.append_assoc out', hV2]; simp [List.append_assoc, tkW]
        · rw [if_neg h124] at hk
          exact hk rfl mi P out hP h38 (fun q e => h124 (by injection e)) hF hx (by rw [hV]; exact (List.append_nil _).symm)
end EREAD
section EREAD2
variable {d : Nat} {ml : zJ}
/-- enough for a text of so many signs -/
def pFu : Nat := 600
/-- eRead -/
theorem t_176 {K : Int32 → zI → zJ → Prop} {mi : zI} {n : Nat} {l out : List Nat} (hw : iWd mi) (hT : xT mi n l) (hc : mi 0 31 = Int32.ofNat out.length) (hC : mCodes mi 720 out) (hb : out.length + l.length ≤ n)
    (h0 : ∀ mi', (pz pFu 3 0 l).1 = false → xF mi mi' → xT mi' n (pz pFu 3 0 l).2.1 → K 0 mi' ml)
    (h1 : ∀ mi', (pz pFu 3 0 l).1 = true → xF mi mi' → xT mi' n (pz pFu 3 0 l).2.1 → mi' 0 31 = Int32.ofNat (out ++ (pz pFu 3 0 l).2.2).length → mCodes mi' 720 (out ++ (pz pFu 3 0 l).2.2) → (out ++ (pz pFu 3 0 l).2.2).length + (pz pFu 3 0 l).2.1.length ≤ n → K 1 mi' ml) : TI (d + 5) 176 [.ref 0] zMS zMR mi ml K := by
  refine TI_of (B_176 ?_)
  have hF : xF mi (zu (zu mi 0 33 0) 0 34 0) := (xF.rfl.put0 (by decide)).put0 (by decide)
  have hT' : xT (zu (zu mi 0 33 0) 0 34 0) n l := xT_eq (by rw [zu_nk (by decide), zu_nk (by decide)]) (by rw [zu_nk (by decide), zu_nk (by decide)]) (fun k => by rw [zu_nc (by decide), zu_nc (by decide)]) hT
  have hx : xE (zu (zu mi 0 33 0) 0 34 0) n l [] 0 out := ⟨hT', ⟨by rw [zu_nk (by decide), zu_eq]; rfl, by rw [zu_eq]; rfl, trivial⟩, ⟨by rw [zu_nk (by decide), zu_nk (by decide), Nat.zero_add]; exact hc, mCodes_eq (fun k => by rw [zu_nc (by decide), zu_nc (by decide)]) hC⟩, by simp only [List.length_nil]; omega⟩
  have hl := hT.1
  refine (x_all (d := d) (ml := ml) (Q := qI K) (m0 := mi) (n := n) (co := 0) hw pFu).2.2.2.1 0 l [] out _ (by unfold pFu; omega) (fun w r e => by cases e) rfl (by decide) hF hx (fun e mi' hF' hx' => h0 mi' e hF' hx') (fun e mi' P out' hP h38 h124 hF' hx' hV => ?_)
  refine e_end hF' hP (fun w r e => by cases e) hx' h38 h124 (fun _ _ => rfl) (fun mi3 hF3 hx3 => ?_)
  rw [if_pos rfl]
  rw [hV] at hx3
  obtain ⟨a, b, ⟨c1, c2⟩, f⟩ := hx3
  rw [Nat.zero_add] at c1
  exact h1 mi3 e hF3 a c1 c2 (by simp only [List.length_nil] at f; omega)
end EREAD2
