/-! The model reads: clauses, one behind the other. -/
/-- all tokens -/
def aTk : List pCl → List Nat
  | [] => []
  | c :: cs => c.2.2 ++ aTk cs
theorem aTk_snoc (c : pCl) : ∀ cs, aTk (cs ++ [c]) = aTk cs ++ c.2.2
  | [] => by simp [aTk]
  | x :: cs => by rw [List.cons_append, aTk, aTk_snoc c cs, aTk, List.append_assoc]
/-- clauses laid from row b + k on, tokens from a on -/
def xCs (mi : zI) (b : Nat) : Nat → Nat → List pCl → Prop
  | _, _, [] => True
  | k, a, c :: cs => (mi 7 (b + k) = Int32.ofNat c.1 ∧ mi 8 (b + k) = Int32.ofNat c.2.1 ∧ mi 9 (b + k) = Int32.ofNat a ∧ mi 10 (b + k) = Int32.ofNat (a + c.2.2.length)) ∧ xCs mi b (k + 1) (a + c.2.2.length) cs
theorem xCs_snoc {mi : zI} {b : Nat} {c : pCl} : ∀ (cs : List pCl) (k a : Nat), xCs mi b k a cs → mi 7 (b + (k + cs.length)) = Int32.ofNat c.1 → mi 8 (b + (k + cs.length)) = Int32.ofNat c.2.1 → mi 9 (b + (k + cs.length)) = Int32.ofNat (a + (aTk cs).length) → mi 10 (b + (k + cs.length)) = Int32.ofNat (a + (aTk cs).length + c.2.2.length) → xCs mi b k a (cs ++ [c])
  | [], k, a, _, h1, h2, h3, h4 => ⟨⟨h1, h2, h3, h4⟩, trivial⟩
  | x :: cs, k, a, h, h1, h2, h3, h4 => by
    rw [List.length_cons, show k + (cs.length + 1) = k + 1 + cs.length by omega] at h1 h2 h3 h4
    exact ⟨h.1, xCs_snoc cs (k + 1) (a + x.2.2.length) h.2 h1 h2 (by rw [h3, aTk, List.length_append, Nat.add_assoc a]) (by rw [h4, aTk, List.length_append, ← Nat.add_assoc a])⟩
theorem xCs_eq {mi mi' : zI} {b : Nat} : ∀ (cs : List pCl) (k a : Nat), (∀ c q, 7 ≤ c → c ≤ 10 → b + k ≤ q → q < b + k + cs.length → mi' c q = mi c q) → xCs mi b k a cs → xCs mi' b k a cs
  | [], _, _, _, _ => trivial
  | x :: cs, k, a, h, q => by
    simp only [List.length_cons] at h
    refine ⟨⟨?_, ?_, ?_, ?_⟩, xCs_eq cs (k + 1) _ (fun c r h1 h2 h3 h4 => h c r h1 h2 (by omega) (by omega)) q.2⟩
    · rw [h 7 _ (by omega) (by omega) (by omega) (by omega)]; exact q.1.1
    · rw [h 8 _ (by omega) (by omega) (by omega) (by omega)]; exact q.1.2.1
    · rw [h 9 _ (by omega) (by omega) (by omega) (by omega)]; exact q.1.2.2.1
    · rw [h 10 _ (by omega) (by omega) (by omega) (by omega)]; exact q.1.2.2.2
/-- the same but for what reading a text writes -/
def xG (m0 mi : zI) : Prop := ∀ c k, ¬ (c = 0 ∧ (k = 30 ∨ k = 31 ∨ k = 33 ∨ k = 34)) → c ≠ 20 → ¬ (c = 11 ∧ 720 ≤ k) → ¬ (c = 6 ∧ k = 6) → ¬ (7 ≤ c ∧ c ≤ 10 ∧ 60 ≤ k) → mi c k = m0 c k
theorem xF.g {a b : zI} (h : xF a b) : xG a b := fun c k p q r _ _ => h c k p q r
theorem xG.trans {a b c : zI} (h : xG a b) (h' : xG b c) : xG a c := fun x k p q r s t => by rw [h' x k p q r s t, h x k p q r s t]
theorem xG.put6 {a b : zI} {v : Int32} (h : xG a b) : xG a (zu b 6 6 v) := fun x y p q r s t => by rw [zu_ne s]; exact h x y p q r s t
theorem xG.put7 {a b : zI} {c k : Nat} {v : Int32} (h : xG a b) (hc : 7 ≤ c ∧ c ≤ 10) (hk : 60 ≤ k) : xG a (zu b c k v) := fun x y p q r s t => by rw [zu_ne (fun e => t ⟨by omega, by omega, by omega⟩)]; exact h x y p q r s t
theorem xG.put0 {a b : zI} {k : Nat} {v : Int32} (h : xG a b) (hk : k = 30 ∨ k = 31 ∨ k = 33 ∨ k = 34) : xG a (zu b 0 k v) := fun x y p q r s t => by rw [zu_ne (fun e => p ⟨e.1, by rw [e.2]; exact hk⟩)]; exact h x y p q r s t
theorem iWd_g {m mi : zI} (h : xG m mi) (q : iWd m) : iWd mi :=
  ⟨fun k hk => by rw [h 17 k (by omega) (by omega) (by omega) (by omega) (by omega)]; exact q.1 k hk, fun k hk => by rw [h 18 k (by omega) (by omega) (by omega) (by omega) (by omega)]; exact q.2.1 k hk, fun k hk => by rw [h 19 k (by omega) (by omega) (by omega) (by omega) (by omega)]; exact q.2.2 k hk⟩
/-- so much is read -/
def xP (mi : zI) (n : Nat) (l : List Nat) (cs : List pCl) : Prop := xT mi n l ∧ mi 6 6 = Int32.ofNat cs.length ∧ mi 0 31 = Int32.ofNat (aTk cs).length ∧ mCodes mi 720 (aTk cs) ∧ (aTk cs).length + l.length ≤ n ∧ xCs mi 60 0 0 cs
theorem x30.f {a b : zI} (h : x30 a b) : xF a b := fun c k p _ _ => h c k (fun q => p ⟨q.1, .inl q.2⟩)
/-- the clause is laid -/
theorem xP_add {mi m' : zI} {n w v : Nat} {l r tk : List Nat} {cs : List pCl} (h : xP mi n l cs) (hT : xT m' n r) (h31 : m' 0 31 = Int32.ofNat (aTk cs ++ tk).length) (hC : mCodes m' 720 (aTk cs ++ tk)) (hb : (aTk cs ++ tk).length + r.length ≤ n)
    (h6 : m' 6 6 = Int32.ofNat cs.length) (h7 : m' 7 (60 + cs.length) = Int32.ofNat w) (h8 : m' 8 (60 + cs.length) = Int32.ofNat v) (h9 : m' 9 (60 + cs.length) = Int32.ofNat (aTk cs).length) (hf : ∀ c k, 7 ≤ c → c ≤ 10 → ¬ k = 60 + cs.length → m' c k = mi c k) :
    xP (zu (zu m' 10 (60 + cs.length) (m' 0 31)) 6 6 (Int32.ofNat (cs.length + 1))) n r (cs ++ [(w, v, tk)]) := by
  obtain ⟨a, b, c, e, f, g⟩ := h
  have ea : aTk (cs ++ [(w, v, tk)]) = aTk cs ++ tk := aTk_snoc _ cs
  refine ⟨xT_eq (by rw [zu_nc (by decide), zu_nc (by decide)]) (by rw [zu_nc (by decide), zu_nc (by decide)]) (fun k => by rw [zu_nc (by decide), zu_nc (by decide)]) hT, ?_, ?_, ?_, ?_, ?_⟩
  · rw [zu_eq, List.length_append]; rfl
  · rw [zu_nc (by decide), zu_nc (by decide), ea]; exact h31
  · rw [ea]; exact mCodes_eq (fun k => by rw [zu_nc (by decide), zu_nc (by decide)]) hC
  · rw [ea]; exact hb
  · refine xCs_snoc cs 0 0 (xCs_eq cs 0 0 (fun c q h1 h2 h3 h4 => ?_) g) ?_ ?_ ?_ ?_
    · rw [zu_nc (by omega), zu_ne (by omega)]; exact hf c q h1 h2 (by omega)
    · rw [zu_nc (by decide), zu_nc (by decide), Nat.zero_add]; exact h7
    · rw [zu_nc (by decide), zu_nc (by decide), Nat.zero_add]; exact h8
    · rw [zu_nc (by decide), zu_nc (by decide), Nat.zero_add, Nat.zero_add]; exact h9
    · rw [zu_nc (by decide), Nat.zero_add, zu_eq, h31, Nat.zero_add, List.length_append]
section CLAUSES
variable {d : Nat} {ml : zJ}
theorem pz_len3 (l : List Nat) : (pz pFu 3 0 l).2.1.length ≤ l.length := (pz_len pFu 3 0 l (by decide)).2
theorem t_170 {K : Int32 → zI → zJ → Prop} {mi : zI} {n : Nat} {l : List Nat} {cs : List pCl} (hw : iWd mi) (hx : xP mi n l cs) (h10 : cs.length < 10)
    (h0 : ∀ mi', (pClause l).1 = false → xG mi mi' → xT mi' n (pClause l).2.1 → K 0 mi' ml)
    (h1 : ∀ mi', (pClause l).1 = true → xG mi mi' → xP mi' n (pClause l).2.1 (cs ++ [(pClause l).2.2]) → K 1 mi' ml) : TI (d + 6) 170 [.ref 0] zMS zMR mi ml K := by
  have hT := hx.1
  refine TI_of (B_170 (t_171 (d := d + 2) hw hT (fun hA => ⟨fun _ => ?_, fun x => absurd rfl x⟩) (fun c r m1 el h5 e hF1 hT1 => ⟨fun _ => ?_, fun x => absurd rfl x⟩) (fun c r m1 el h5 e hF1 hT1 => ⟨fun x => absurd x (n_ne1 (by omega)), fun _ => ?_⟩)))
  · match l, hT, hA, h0 with
    | [], hT, hA, h0 => exact h0 mi rfl xF.rfl.g hT
    | c :: r, hT, hA, h0 =>
      have := hA c r rfl
      unfold pClause at h0
      simp only [this, if_true] at h0
      exact h0 mi trivial xF.rfl.g hT
  · subst el
    have hn5 : ¬ 5 ≤ pIn wFst c := by omega
    have es : pSkip (wLt (pIn wFst c) ++ [32]) (c :: r) = (false, (pSkip (wLt (pIn wFst c)) (c :: r)).2) := by rw [pSkip_app, if_neg (by rw [e]; exact Bool.false_ne_true)]
    have ep : pClause (c :: r) = (false, (pSkip (wLt (pIn wFst c)) (c :: r)).2, (0, 0, [])) := by
      unfold pClause; simp only [hn5, if_false]; rw [es]; rfl
    rw [ep] at h0
    exact h0 m1 rfl hF1.f.g hT1
  subst el
  have hn5 : ¬ 5 ≤ pIn wFst c := by omega
  have es : pSkip (wLt (pIn wFst c) ++ [32]) (c :: r) = pSkip [32] (pSkip (wLt (pIn wFst c)) (c :: r)).2 := by rw [pSkip_app, if_pos e]
  have hl1 := pSkip_len (wLt (pIn wFst c)) (c :: r)
  generalize hs1 : (pSkip (wLt (pIn wFst c)) (c :: r)).2 = l1 at *
  refine t_173 (d := d + 3) (c := 32) (by decide) hT1 (fun hno => ⟨fun x => absurd rfl x, fun _ => ?_⟩) (fun l2 m2 el hF2 hT2 e2 => ⟨fun _ => ?_, fun x => absurd (by decide) x⟩)
  · have es2 : pSkip [32] l1 = (false, l1) := by
      match l1, hno with
      | [], _ => rfl
      | s :: q, hno => 
        have : ¬ s = 32 := fun z => hno q (by rw [z])
        rw [pSkip]; simp only [this, if_false]
    have ep : pClause (c :: r) = (false, l1, (0, 0, [])) := by
      unfold pClause; simp only [hn5, if_false]; rw [es, es2]; rfl
    rw [ep] at h0
    exact h0 m1 rfl hF1.f.g hT1
  subst el
  have es2 : pSkip (wLt (pIn wFst c) ++ [32]) (c :: r) = (true, l2) := by rw [es]; rfl
  have hx2 : x30 mi m2 := fun x k q => by rw [e2 x k q, hF1 x k q]
  obtain ⟨p1, p2, p3, p4, p5, p6⟩ := hx
  simp only [List.length_cons] at hl1 p5
  have hn := hT.1.2
  have ecl : (60 : Int32) + Int32.ofNat cs.length = Int32.ofNat (60 + cs.length) := n_add 60 _
  have hz6 : zin 6 7 = true := by decide
  have hz60 : zin (Int32.ofNat (60 + cs.length)) 70 = true := n_zin (by omega) (by omega)
  -- what is laid ahead of a condition
  have ahead : ∀ (m3 : zI) (w v : Nat), x30 mi m3 → m3 6 6 = Int32.ofNat cs.length ∧ m3 0 31 = Int32.ofNat (aTk cs).length ∧ mCodes m3 720 (aTk cs) := fun m3 w v h =>
    ⟨by rw [h 6 6 (by omega)]; exact p2, by rw [h 0 31 (by omega)]; exact p3, mCodes_eq (fun k => h 11 k (by omega)) p4⟩
  -- the condition read, and the clause laid
  have cond : ∀ (w v : Nat) (l3 : List Nat) (m3 m4 : zI), pClause (c :: r) = pCond w v l3 → l3.length ≤ r.length → x30 mi m3 → x30 (zu (zu (zu m3 7 (60 + cs.length) (Int32.ofNat w)) 8 (60 + cs.length) (Int32.ofNat v)) 9 (60 + cs.length) (m3 0 31)) m4 → xT m4 n l3 →
      TI (d + 5) 176 [.ref 0] zMS zMR m4 ml (fun v4 mi4 ml4 => ((v4 ≠ 0 → (zin (Int32.ofNat (60 + cs.length)) 70 = true ∧ (zin 6 7 = true ∧ (zin 6 7 = true ∧ qI K (some (.int 1)) (zu (zu mi4 10 (60 + cs.length) (mi4 0 31)) 6 6 ((mi4 6 6) + 1)) ml4)))) ∧ (¬ v4 ≠ 0 → qI K (some (.int 0)) mi4 ml4))) := by
    intro w v l3 m3 m4 ep hl3 hF3 hF4 hT4
    obtain ⟨a1, a2, a3⟩ := ahead m3 w v hF3
    have g34 : xG mi m4 := (hF3.f.g.trans (((xF.rfl.g.put7 (by decide) (by omega)).put7 (by decide) (by omega)).put7 (by decide) (by omega))).trans hF4.f.g
    have e31 : m4 0 31 = Int32.ofNat (aTk cs).length := by rw [hF4 0 31 (by omega), zu_nc (by decide), zu_nc (by decide), zu_nc (by decide)]; exact a2
    have eC : mCodes m4 720 (aTk cs) := mCodes_eq (fun k => by rw [hF4 11 k (by omega), zu_nc (by decide), zu_nc (by decide), zu_nc (by decide)]) a3
    rw [ep] at h0 h1
    refine t_176 (d := d) (iWd_g g34 hw) hT4 e31 eC (by omega) (fun m5 q hF5 hT5 => ⟨fun x => absurd rfl x, fun _ => h0 m5 q (g34.trans hF5.g) hT5⟩) (fun m5 q hF5 hT5 q31 qC qb => ⟨fun _ => ⟨hz60, hz6, hz6, ?_⟩, fun x => absurd (by decide) x⟩)
    have c66 : m5 6 6 = Int32.ofNat cs.length := by rw [hF5 6 6 (by omega) (by omega) (by omega), hF4 6 6 (by omega), zu_nc (by decide), zu_nc (by decide), zu_nc (by decide)]; exact a1
    have k5 : ∀ x k, 7 ≤ x → x ≤ 10 → m5 x k = zu (zu (zu m3 7 (60 + cs.length) (Int32.ofNat w)) 8 (60 + cs.length) (Int32.ofNat v)) 9 (60 + cs.length) (m3 0 31) x k := fun x k h1 h2 => by
      rw [hF5 x k (by omega) (by omega) (by omega), hF4 x k (by omega)]
    rw [c66, n_suc]
    refine h1 _ q (((g34.trans hF5.g).put7 (by decide) (by omega)).put6) ?_
    refine xP_add (w := w) (v := v) (l := c :: r) ⟨p1, p2, p3, p4, p5, p6⟩ hT5 q31 qC qb c66 ?_ ?_ ?_ (fun x k h1 h2 h3 => ?_)
    · rw [k5 7 _ (by omega) (by omega), zu_nc (by decide), zu_nc (by decide), zu_eq]
    · rw [k5 8 _ (by omega) (by omega), zu_nc (by decide), zu_eq]
    · rw [k5 9 _ (by omega) (by omega), zu_eq]; exact a2
    · rw [k5 x k h1 h2, zu_ne (by omega), zu_ne (by omega), zu_ne (by omega)]; exact hF3 x k (by omega)
  have hsk : (pSkip (wLt (pIn wFst c) ++ [32]) (c :: r)).1 = false ↔ False := by rw [es2]; simp
  refine ⟨fun y => ?_, fun y => ?_⟩
  · -- with a number
    have y : ¬ pIn wFst c = 3 := fun z => y (by rw [z]; rfl)
    obtain ⟨L1, L2⟩ := pNum_len l2
    have ep3 : ∀ X, pClause (c :: r) = (if (pNum l2).1 = false then (false, (pNum l2).2.1, (0, 0, [])) else X) → True := fun _ _ => trivial
    refine t_174 (d := d + 2) hT2 (fun q q2 => ⟨fun x => absurd rfl x, fun _ => ?_⟩) (fun m3 q hT3 e3 => ⟨fun _ => ?_, fun x => absurd (n_ne1 (by have := (L1 q).2; omega)) x⟩)
    · have ep : pClause (c :: r) = (false, l2, (0, 0, [])) := by
        unfold pClause; simp only [hn5, if_false]; rw [es2]; simp only [y, if_false, q, if_true]; rw [q2]; simp
      rw [ep] at h0
      exact h0 m2 rfl hx2.f.g hT2
    · have hx3 : x30 mi m3 := fun x k z => by rw [e3 x k z, hx2 x k z]
      obtain ⟨N1, N2⟩ := L1 q
      obtain ⟨a1, a2, a3⟩ := ahead m3 0 0 hx3
      rw [a1, ecl, n_cl (show 60 + cs.length < 2147483648 by omega)]
      have hT30 : xT (zu (zu (zu m3 7 (60 + cs.length) (Int32.ofNat (pIn wFst c))) 8 (60 + cs.length) (Int32.ofNat (pNum l2).2.2)) 9 (60 + cs.length) (m3 0 31)) n (pNum l2).2.1 :=
        xT_eq (by rw [zu_nc (by decide), zu_nc (by decide), zu_nc (by decide)]) (by rw [zu_nc (by decide), zu_nc (by decide), zu_nc (by decide)]) (fun k => by rw [zu_nc (by decide), zu_nc (by decide), zu_nc (by decide)]) hT3
      have g30 : xG mi (zu (zu (zu m3 7 (60 + cs.length) (Int32.ofNat (pIn wFst c))) 8 (60 + cs.length) (Int32.ofNat (pNum l2).2.2)) 9 (60 + cs.length) (m3 0 31)) := hx3.f.g.trans (((xF.rfl.g.put7 (by decide) (by omega)).put7 (by decide) (by omega)).put7 (by decide) (by omega))
      refine ⟨hz6, hz60, hz60, hz60, fun z => ?_, fun z => ?_⟩
      · have z : ¬ pIn wFst c = 4 := fun t => z (by rw [t]; rfl)
        refine ⟨fun u => ⟨hz60, hz6, hz6, ?_⟩, fun u => absurd ((n_le (b := 2) (by omega) (by decide)).mpr (by omega)) u⟩
        have ep : pClause (c :: r) = (true, (pNum l2).2.1, (pIn wFst c, (pNum l2).2.2, [])) := by
          unfold pClause; simp only [hn5, if_false]; rw [es2]; simp only [y, z, if_false, q]; simp
        rw [ep] at h1
        rw [n_suc]
        refine h1 _ rfl ((g30.put7 (by decide) (by omega)).put6) ?_
        have hA := xP_add (w := pIn wFst c) (v := (pNum l2).2.2) (tk := []) (l := c :: r) (r := (pNum l2).2.1) (m' := zu (zu (zu m3 7 (60 + cs.length) (Int32.ofNat (pIn wFst c))) 8 (60 + cs.length) (Int32.ofNat (pNum l2).2.2)) 9 (60 + cs.length) (m3 0 31)) ⟨p1, p2, p3, p4, p5, p6⟩ hT30 (by rw [zu_nc (by decide), zu_nc (by decide), zu_nc (by decide), a2, List.append_nil]) (by rw [List.append_nil]; exact mCodes_eq (fun k => by rw [zu_nc (by decide), zu_nc (by decide), zu_nc (by decide)]) a3) (by rw [List.append_nil]; omega) (by rw [zu_nc (by decide), zu_nc (by decide), zu_nc (by decide)]; exact a1) (by rw [zu_nc (by decide), zu_nc (by decide), zu_eq]) (by rw [zu_nc (by decide), zu_eq]) (by rw [zu_eq]; exact a2) (fun x k h1 h2 h3 => by rw [zu_ne (by omega), zu_ne (by omega), zu_ne (by omega)]; exact hx3 x k (by omega))
        rw [zu_nc (by decide), zu_nc (by decide), zu_nc (by decide)] at hA
        exact hA
      · have z : pIn wFst c = 4 := (n_eq (b := 4) (by omega) (by decide)).mp (Decidable.not_not.mp z)
        refine t_173 (d := d + 3) (c := 32) (by decide) hT30 (fun hno => ⟨fun _ => ?_, fun x => absurd rfl x⟩) (fun l3 m4 el hF4 hT4 e4 => ⟨fun x => absurd x (by decide), fun _ => ⟨fun u => ?_, fun u => ?_⟩⟩)
        · have es3 : pSkip [32] (pNum l2).2.1 = (false, (pNum l2).2.1) := by
            generalize (pNum l2).2.1 = X at hno
            match X, hno with
            | [], _ => rfl
            | s :: q, hno =>
              have : ¬ s = 32 := fun z => hno q (by rw [z])
              rw [pSkip]; simp only [this, if_false]
          have ep : pClause (c :: r) = (false, (pNum l2).2.1, (0, 0, [])) := by
            unfold pClause; simp only [hn5, if_false]; rw [es2]; simp only [y, z, q]; rw [es3]; simp
          rw [ep] at h0
          exact h0 _ rfl g30 hT30
        · rw [z] at u; exact absurd u (by decide)
        · have es3 : pSkip [32] (pNum l2).2.1 = (true, l3) := by rw [el]; rfl
          have ep : pClause (c :: r) = pCond 4 (pNum l2).2.2 l3 := by
            unfold pClause; simp only [hn5, if_false]; rw [es2]; simp only [y, z, q]; rw [es3]; simp
          rw [el] at N1
          simp only [List.length_cons] at N1
          refine cond 4 (pNum l2).2.2 l3 m3 m4 ep (by omega) hx3 ?_ hT4
          rw [z] at e4; exact e4
  · -- without one
    have y : pIn wFst c = 3 := (n_eq (b := 3) (by omega) (by decide)).mp (Decidable.not_not.mp y)
    obtain ⟨a1, a2, a3⟩ := ahead m2 0 0 hx2
    rw [a1, ecl, n_cl (show 60 + cs.length < 2147483648 by omega)]
    refine ⟨fun _ => ⟨hz6, hz60, hz60, hz60, fun z => ⟨fun u => ?_, fun u => ?_⟩, fun z => ?_⟩, fun x => absurd (by decide) x⟩
    · rw [y] at u; exact absurd u (by decide)
    · have ep : pClause (c :: r) = pCond 3 0 l2 := by
        unfold pClause; simp only [hn5, if_false]; rw [es2]; simp only [y]; simp
      have hT30 : xT (zu (zu (zu m2 7 (60 + cs.length) (Int32.ofNat 3)) 8 (60 + cs.length) (Int32.ofNat 0)) 9 (60 + cs.length) (m2 0 31)) n l2 :=
        xT_eq (by rw [zu_nc (by decide), zu_nc (by decide), zu_nc (by decide)]) (by rw [zu_nc (by decide), zu_nc (by decide), zu_nc (by decide)]) (fun k => by rw [zu_nc (by decide), zu_nc (by decide), zu_nc (by decide)]) hT2
      rw [y]
      exact cond 3 0 l2 m2 _ ep (by omega) hx2 (fun _ _ _ => rfl) hT30
    · rw [y] at z; exact absurd (Decidable.not_not.mp z) (by decide)
end CLAUSES
