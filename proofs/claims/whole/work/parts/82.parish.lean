/-! The model reads a text; it is a parish. -/
def pText : Nat → List Nat → Bool × List Nat × List pCl
  | 0, l => (false, l, [])
  | k + 1, l => if (pClause l).1 = false then (false, (pClause l).2.1, []) else match (pClause l).2.1 with
    | [] => (true, [], [(pClause l).2.2])
    | c :: r => if k = 0 ∨ c ≠ 59 then (false, c :: r, []) else if (pText k r).1 = true then (true, (pText k r).2.1, (pClause l).2.2 :: (pText k r).2.2) else (false, (pText k r).2.1, [])
theorem xG.rfl {m : zI} : xG m m := xF.rfl.g
section PARISH
variable {d : Nat} {ml : zJ}
theorem t_169_11 {Q : zQ} {m0 : zI} {n : Nat} (hw : iWd m0) : ∀ (k : Nat) (l : List Nat) (cs : List pCl) (mi : zI), cs.length + (k + 1) = 10 → xG m0 mi → xP mi n l cs →
    ((pText (k + 1) l).1 = false → ∀ mi', xG m0 mi' → xT mi' n (pText (k + 1) l).2.1 → Q (some (.int (Int32.ofNat (n - (pText (k + 1) l).2.1.length)))) mi' ml) →
    ((pText (k + 1) l).1 = true → ∀ mi', xG m0 mi' → xP mi' n [] (cs ++ (pText (k + 1) l).2.2) → Q (some (.int (-1))) mi' ml) →
    Wf (d + 7) 169 11 [.ref 0] [] zMS zMR mi ml Q := by
  intro k
  induction k with
  | zero =>
    intro l cs mi hk hG hx h0 h1
    refine B_169_11 (t_170 (iWd_g hG hw) hx (by omega) (fun m1 e hG1 hT1 => ⟨fun x => absurd rfl x, fun _ => ?_⟩) (fun m1 e hG1 hx1 => ⟨fun _ => ⟨fun y => ⟨by decide, ?_⟩, fun y => ?_⟩, fun x => absurd (by decide) x⟩))
    · have ep : pText 1 l = (false, (pClause l).2.1, []) := by rw [pText, if_pos e]
      rw [ep] at h0
      rw [hT1.2.1]
      exact h0 rfl m1 (hG.trans hG1) hT1
    · have hl := hx1.2.1
      rw [List.length_append] at hl
      rw [hl]
      refine ⟨fun _ => ?_, fun z => absurd (by rw [show cs.length + [(pClause l).2.2].length = 10 from hk]; rfl) z⟩
      have hne : ¬ (pClause l).2.1 = [] := fun q => y (by rw [hx1.1.2.1, hx1.1.2.2.1, q]; rfl)
      have ep : pText 1 l = (false, (pClause l).2.1, []) := by
        rw [pText, if_neg (by rw [e]; exact Bool.noConfusion)]
        generalize (pClause l).2.1 = X at hne
        match X, hne with
        | [], hne => exact absurd rfl hne
        | c :: r, _ => simp
      rw [ep] at h0
      rw [hx1.1.2.1]
      exact h0 rfl m1 (hG.trans hG1) hx1.1
    · have y := Decidable.not_not.mp y
      rw [hx1.1.2.1, hx1.1.2.2.1] at y
      have hl := hx1.1.1
      have := (n_eq (by omega) (by omega)).mp y
      have hnil : (pClause l).2.1 = [] := List.length_eq_zero_iff.mp (by omega)
      have ep : pText 1 l = (true, [], [(pClause l).2.2]) := by
        rw [pText, if_neg (by rw [e]; exact Bool.noConfusion), hnil]
      rw [ep] at h1
      rw [hnil] at hx1
      exact h1 rfl m1 (hG.trans hG1) hx1
  | succ k ih =>
    intro l cs mi hk hG hx h0 h1
    refine B_169_11 (t_170 (iWd_g hG hw) hx (by omega) (fun m1 e hG1 hT1 => ⟨fun x => absurd rfl x, fun _ => ?_⟩) (fun m1 e hG1 hx1 => ⟨fun _ => ⟨fun y => ⟨by decide, ?_⟩, fun y => ?_⟩, fun x => absurd (by decide) x⟩))
    · have ep : pText (k + 1 + 1) l = (false, (pClause l).2.1, []) := by rw [pText, if_pos e]
      rw [ep] at h0
      rw [hT1.2.1]
      exact h0 rfl m1 (hG.trans hG1) hT1
    · have hl := hx1.2.1
      rw [List.length_append, List.length_singleton] at hl
      rw [hl]
      have hne : ¬ (pClause l).2.1 = [] := fun q => y (by rw [hx1.1.2.1, hx1.1.2.2.1, q]; rfl)
      generalize hrest : (pClause l).2.1 = X at hne
      rw [hrest] at hx1
      match X, hne with
      | [], hne => exact absurd rfl hne
      | c :: r, _ =>
        have step : pText (k + 1 + 1) l = if k + 1 = 0 ∨ c ≠ 59 then (false, c :: r, []) else if (pText (k + 1) r).1 = true then (true, (pText (k + 1) r).2.1, (pClause l).2.2 :: (pText (k + 1) r).2.2) else (false, (pText (k + 1) r).2.1, []) := by
          rw [pText, if_neg (by rw [e]; exact Bool.noConfusion), hrest]
        refine ⟨fun z => absurd ((n_eq (b := 10) (by omega) (by decide)).mp z) (by omega), fun _ => t_173 (d := d + 4) (c := 59) (by decide) hx1.1 (fun hno => ⟨fun x => absurd rfl x, fun _ => ?_⟩) (fun r' m2 el hF2 hT2 e2 => ⟨fun _ => ?_, fun x => absurd (by decide) x⟩)⟩
        · have hc : c ≠ 59 := fun q => hno r (by rw [q])
          rw [step, if_pos (.inr hc)] at h0
          rw [hx1.1.2.1]
          exact h0 rfl m1 (hG.trans hG1) hx1.1
        · injection el with el1 el2
          subst el2
          have hc : ¬ (k + 1 = 0 ∨ c ≠ 59) := by omega
          rw [step, if_neg hc] at h0 h1
          have hx2 : xP m2 n r (cs ++ [(pClause l).2.2]) := by
            obtain ⟨p1, p2, p3, p4, p5, p6⟩ := hx1
            simp only [List.length_cons] at p5
            exact ⟨hT2, by rw [e2 6 6 (by omega)]; exact p2, by rw [e2 0 31 (by omega)]; exact p3, mCodes_eq (fun k => e2 11 k (by omega)) p4, by omega, xCs_eq _ _ _ (fun c q a b _ _ => e2 c q (by omega)) p6⟩
          refine ih r (cs ++ [(pClause l).2.2]) m2 (by rw [List.length_append, List.length_singleton]; omega) ((hG.trans hG1).trans hF2.g) hx2 (fun q => ?_) (fun q mi' hG' hx' => ?_)
          · rw [if_neg (by rw [q]; exact Bool.false_ne_true)] at h0
            exact h0 rfl
          · rw [if_pos q] at h1
            refine h1 rfl mi' hG' ?_
            rw [List.append_assoc] at hx'
            exact hx'
    · have y := Decidable.not_not.mp y
      rw [hx1.1.2.1, hx1.1.2.2.1] at y
      have hl := hx1.1.1
      have := (n_eq (by omega) (by omega)).mp y
      have hnil : (pClause l).2.1 = [] := List.length_eq_zero_iff.mp (by omega)
      have ep : pText (k + 1 + 1) l = (true, [], [(pClause l).2.2]) := by
        rw [pText, if_neg (by rw [e]; exact Bool.noConfusion), hnil]
      rw [ep] at h1
      rw [hnil] at hx1
      exact h1 rfl m1 (hG.trans hG1) hx1
/-- the text as it lies -/
def xL (mi : zI) (L : List Nat) : Prop := L.length ≤ 100 ∧ mi 0 21 = Int32.ofNat L.length ∧ ∀ i, i < L.length → mi 12 i = Int32.ofNat (L.getD i 0) ∧ L.getD i 0 < 128
theorem t_169 {K : Int32 → zI → zJ → Prop} {mi : zI} {L : List Nat} (hw : iWd mi) (hL : xL mi L)
    (h0 : (pText 10 L).1 = false → ∀ mi', xG mi mi' → K (Int32.ofNat (L.length - (pText 10 L).2.1.length)) mi' ml)
    (h1 : (pText 10 L).1 = true → ∀ mi', xG mi mi' → xP mi' L.length [] (pText 10 L).2.2 → K (-1) mi' ml) : TI (d + 7) 169 [.ref 0] zMS zMR mi ml K := by
  obtain ⟨a, b, c⟩ := hL
  refine TI_of (B_169 ⟨by decide, ?_⟩)
  have hG : xG mi (zu (zu (zu mi 0 30 0) 0 31 0) 6 6 0) := ((xF.rfl.put0 (by decide)).put0 (by decide)).g.put6
  refine t_169_11 (n := L.length) hw 9 L [] _ rfl hG ⟨⟨⟨Nat.le_refl _, a⟩, ?_, ?_, fun i hi => ?_⟩, zu_eq, ?_, trivial, by simp [aTk], trivial⟩ (fun e mi' q _ => h0 e mi' q) (fun e mi' q hx => h1 e mi' q (by simpa using hx))
  · rw [zu_nc (by decide), zu_nk (by decide), zu_eq, Nat.sub_self]; rfl
  · rw [zu_nc (by decide), zu_nk (by decide), zu_nk (by decide)]; exact b
  · rw [zu_nc (by decide), zu_nc (by decide), zu_nc (by decide), Nat.sub_self, Nat.zero_add]; exact c i hi
  · rw [zu_nc (by decide), zu_eq]; rfl
/-- the text of number p is these clauses -/
def xTxt (m : zI) (p : Nat) (cs : List pCl) : Prop := m 6 p = Int32.ofNat cs.length ∧ cs.length ≤ 10 ∧ xCs m (10 * p) 0 0 cs ∧ mCodes m (120 * p) (aTk cs) ∧ (aTk cs).length ≤ 100
/-- the same but for what a new text of number p writes -/
def xH (p : Nat) (m0 mi : zI) : Prop := ∀ c k, ¬ (c = 0 ∧ (k = 12 ∨ k = 13 ∨ k = 21 ∨ k = 30 ∨ k = 31 ∨ k = 33 ∨ k = 34)) → c ≠ 20 → ¬ (c = 11 ∧ (720 ≤ k ∨ 120 * p ≤ k ∧ k < 120 * p + 120)) → ¬ (c = 6 ∧ (k = 6 ∨ k = p)) → ¬ (7 ≤ c ∧ c ≤ 10 ∧ (60 ≤ k ∨ 10 * p ≤ k ∧ k < 10 * p + 10)) → mi c k = m0 c k
theorem xG.h {p : Nat} {a b : zI} (h : xG a b) : xH p a b := fun c k q r s t u => h c k (by omega) r (by omega) (by omega) (by omega)
theorem mCodes_mv {mi mi' : zI} {a b : Nat} : ∀ (l : List Nat) (k : Nat), (∀ i, k ≤ i → i < k + l.length → mi' 11 (b + i) = mi 11 (a + i)) → mCodes mi (a + k) l → mCodes mi' (b + k) l
  | [], _, _, _ => trivial
  | t :: l, k, h, q => by
    simp only [List.length_cons] at h
    exact ⟨by rw [h k (Nat.le_refl _) (by omega)]; exact q.1, mCodes_mv l (k + 1) (fun i h1 h2 => h i (by omega) (by omega)) q.2⟩
theorem xCs_mv {mi mi' : zI} {a b : Nat} : ∀ (cs : List pCl) (k o : Nat), (∀ c i, 7 ≤ c → c ≤ 10 → k ≤ i → i < k + cs.length → mi' c (b + i) = mi c (a + i)) → xCs mi a k o cs → xCs mi' b k o cs
  | [], _, _, _, _ => trivial
  | x :: cs, k, o, h, q => by
    simp only [List.length_cons] at h
    refine ⟨⟨?_, ?_, ?_, ?_⟩, xCs_mv cs (k + 1) _ (fun c i h1 h2 h3 h4 => h c i h1 h2 (by omega) (by omega)) q.2⟩
    · rw [h 7 k (by omega) (by omega) (by omega) (by omega)]; exact q.1.1
    · rw [h 8 k (by omega) (by omega) (by omega) (by omega)]; exact q.1.2.1
    · rw [h 9 k (by omega) (by omega) (by omega) (by omega)]; exact q.1.2.2.1
    · rw [h 10 k (by omega) (by omega) (by omega) (by omega)]; exact q.1.2.2.2
theorem t_168_99 {Q : zQ} {m0 : zI} {p : Nat} (hp : p < 6) (h : ∀ mi', (∀ c k, ¬ (c = 0 ∧ (k = 12 ∨ k = 13)) → ¬ (c = 11 ∧ 120 * p ≤ k ∧ k < 120 * p + 120) → mi' c k = m0 c k) → (∀ i, i < 120 → mi' 11 (120 * p + i) = m0 11 (720 + i)) → mi' 0 12 = Int32.ofNat (p + 1) → mi' 0 13 = Int32.ofNat p → Q (some (.int (Int32.ofNat p))) mi' ml) :
    ∀ (j i : Nat) (mi : zI), i + j = 120 → (∀ c k, ¬ (c = 11 ∧ 120 * p ≤ k ∧ k < 120 * p + 120) → mi c k = m0 c k) → (∀ x, x < i → mi 11 (120 * p + x) = m0 11 (720 + x)) → m0 0 12 = Int32.ofNat p → Wf (d + 1) 168 99 [.ref 0, .retAddr 0, .int (Int32.ofNat i)] [] zMS zMR mi ml Q
  | 0, i, mi, e, hf, hc, h12 => by
    obtain rfl : i = 120 := by omega
    refine B_168_99 _ ⟨fun _ => ?_, fun x => absurd (show (120 : Int32) ≤ Int32.ofNat 120 by decide) x⟩
    have e12 : mi 0 12 = Int32.ofNat p := by rw [hf 0 12 (by omega)]; exact h12
    rw [e12, n_suc]
    refine h _ (fun c k q r => ?_) (fun x hx => ?_) zu_eq (by rw [zu_nk (by decide), zu_eq])
    · rw [zu_ne (fun t => q ⟨t.1, .inl t.2⟩), zu_ne (fun t => q ⟨t.1, .inr t.2⟩)]; exact hf c k r
    · rw [zu_nc (by decide), zu_nc (by decide)]; exact hc x hx
  | j + 1, i, mi, e, hf, hc, h12 => by
    have e12 : mi 0 12 = Int32.ofNat p := by rw [hf 0 12 (by omega)]; exact h12
    have e720 : (720 : Int32) + Int32.ofNat i = Int32.ofNat (720 + i) := n_add 720 i
    refine B_168_99 _ ⟨fun x => absurd ((n_le (a := 120) (by omega) (by omega)).mp x) (by omega), fun _ => ?_⟩
    rw [e12, n_120, e720, n_suc, n_cl (by omega), n_cl (by omega)]
    refine ⟨n_zin (by omega) (by omega), n_zin (by omega) (by omega), ?_⟩
    refine t_168_99 hp h j (i + 1) _ (by omega) (fun c k q => ?_) (fun x hx => ?_) h12
    · rw [zu_ne (by omega)]; exact hf c k q
    · by_cases ex : x = i
      · subst ex; rw [zu_eq]; exact hf 11 _ (by omega)
      · rw [zu_nk (by omega)]; exact hc x (by omega)
theorem t_168_31 {Q : zQ} {m0 : zI} {p : Nat} (hp : p < 6) (h : ∀ mi', (∀ c k, ¬ (7 ≤ c ∧ c ≤ 10 ∧ 10 * p ≤ k ∧ k < 10 * p + 10) → mi' c k = m0 c k) → (∀ c i, 7 ≤ c → c ≤ 10 → i < 10 → mi' c (10 * p + i) = m0 c (60 + i)) → Wf (d + 1) 168 99 [.ref 0, .retAddr 0, .int 0] [] zMS zMR mi' ml Q) :
    ∀ (j i : Nat) (mi : zI), i + j = 10 → (∀ c k, ¬ (7 ≤ c ∧ c ≤ 10 ∧ 10 * p ≤ k ∧ k < 10 * p + 10) → mi c k = m0 c k) → (∀ c x, 7 ≤ c → c ≤ 10 → x < i → mi c (10 * p + x) = m0 c (60 + x)) → m0 0 12 = Int32.ofNat p → Wf (d + 1) 168 31 [.ref 0, .retAddr 0, .int (Int32.ofNat i)] [] zMS zMR mi ml Q
  | 0, i, mi, e, hf, hc, h12 => by
    obtain rfl : i = 10 := by omega
    exact B_168_31 _ ⟨fun _ => h mi hf hc, fun x => absurd (show (10 : Int32) ≤ Int32.ofNat 10 by decide) x⟩
  | j + 1, i, mi, e, hf, hc, h12 => by
    have e12 : mi 0 12 = Int32.ofNat p := by rw [hf 0 12 (by omega)]; exact h12
    have e60 : (60 : Int32) + Int32.ofNat i = Int32.ofNat (60 + i) := n_add 60 i
    refine B_168_31 _ ⟨fun x => absurd ((n_le (a := 10) (by omega) (by omega)).mp x) (by omega), fun _ => ?_⟩
    rw [e12, n_idx, e60, n_suc, n_cl (by omega), n_cl (by omega)]
    have z1 : zin (Int32.ofNat (60 + i)) 70 = true := n_zin (by omega) (by omega)
    have z2 : zin (Int32.ofNat (10 * p + i)) 70 = true := n_zin (by omega) (by omega)
    refine ⟨z1, z2, z1, z2, z1, z2, z1, z2, ?_⟩
    refine t_168_31 hp h j (i + 1) _ (by omega) (fun c k q => ?_) (fun c x h7 h10 hx => ?_) h12
    · rw [zu_ne (by omega), zu_ne (by omega), zu_ne (by omega), zu_ne (by omega)]; exact hf c k q
    · by_cases ex : x = i
      · subst ex
        have h4 : c = 7 ∨ c = 8 ∨ c = 9 ∨ c = 10 := by omega
        rcases h4 with rfl | rfl | rfl | rfl
        · rw [zu_nc (by decide), zu_nc (by decide), zu_nc (by decide), zu_eq]; exact hf 7 _ (by omega)
        · rw [zu_nc (by decide), zu_nc (by decide), zu_eq]; exact hf 8 _ (by omega)
        · rw [zu_nc (by decide), zu_eq]; exact hf 9 _ (by omega)
        · rw [zu_eq]; exact hf 10 _ (by omega)
      · rw [zu_ne (by omega), zu_ne (by omega), zu_ne (by omega), zu_ne (by omega)]; exact hc c x h7 h10 (by omega)
/-- parish -/
theorem t_168 {K : Int32 → zI → zJ → Prop} {mi : zI} {L : List Nat} {p : Nat} (hw : iWd mi) (hL : xL mi L) (hp : p ≤ 6) (h12 : mi 0 12 = Int32.ofNat p)
    (h6 : p = 6 → K (-4) mi ml)
    (h0 : ¬ p = 6 → (pText 10 L).1 = false → ∀ mi', xG mi mi' → K (-10 - Int32.ofNat (L.length - (pText 10 L).2.1.length)) (zu mi' 0 21 0) ml)
    (h1 : ¬ p = 6 → (pText 10 L).1 = true → ∀ mi', xH p mi mi' → xTxt mi' p (pText 10 L).2.2 → mi' 0 12 = Int32.ofNat (p + 1) → mi' 0 13 = Int32.ofNat p → mi' 0 21 = 0 → K (Int32.ofNat p) mi' ml) : TI (d + 8) 168 [.ref 0] zMS zMR mi ml K := by
  refine TI_of (B_168 ?_)
  rw [h12]
  refine ⟨fun x => ?_, fun x => h6 ((n_eq (b := 6) (by omega) (by decide)).mp (Decidable.not_not.mp x))⟩
  have hp6 : ¬ p = 6 := fun q => x (by rw [q]; rfl)
  refine t_169 hw hL (fun e mi' hG => ⟨fun y => absurd y (n_ne1 (by have := hL.1; omega)), fun _ => h0 hp6 e mi' hG⟩) (fun e m1 hG hx => ⟨fun _ => ⟨by decide, ?_⟩, fun y => absurd rfl y⟩)
  have e12 : m1 0 12 = Int32.ofNat p := by rw [hG 0 12 (by omega) (by omega) (by omega) (by omega) (by omega)]; exact h12
  rw [e12, n_cl (by omega)]
  refine ⟨n_zin (by omega) (by omega), ?_⟩
  have hm2 : ∀ c k, ¬ (c = 0 ∧ k = 21) → ¬ (c = 6 ∧ k = p) → zu (zu m1 0 21 0) 6 p (m1 6 6) c k = m1 c k := fun c k q r => by rw [zu_ne r, zu_ne q]
  obtain ⟨x1, x2, x3, x4, x5, x6⟩ := hx
  have hlen : (pText 10 L).2.2.length ≤ 10 := by
    have : ∀ k l, (pText k l).2.2.length ≤ k := by
      intro k
      induction k with
      | zero => intro l; exact Nat.le_refl _
      | succ k ih =>
        intro l
        rw [pText]
        split
        · exact Nat.zero_le _
        · generalize (pClause l).2.1 = X
          match X with
          | [] => simp
          | c :: r =>
            simp only
            split
            · exact Nat.zero_le _
            · split
              · have := ih r; simp only [List.length_cons]; omega
              · exact Nat.zero_le _
    exact this 10 L
  have hn := hL.1
  simp only [List.length_nil, Nat.add_zero] at x5
  refine t_168_31 (d := d + 7) (p := p) (m0 := zu (zu m1 0 21 0) 6 p (m1 6 6)) (by omega) (fun m3 f3 c3 => ?_) 10 0 _ rfl (fun _ _ _ => rfl) (fun c x _ _ h => absurd h (Nat.not_lt_zero _)) (by rw [hm2 0 12 (by omega) (by omega)]; exact e12)
  refine t_168_99 (d := d + 7) (p := p) (m0 := m3) (by omega) (fun m4 f4 c4 e4 e5 => ?_) 120 0 m3 rfl (fun _ _ _ => rfl) (fun x h => absurd h (Nat.not_lt_zero _)) (by rw [f3 0 12 (by omega), hm2 0 12 (by omega) (by omega)]; exact e12)
  refine h1 hp6 e m4 (fun c k q r s t u => ?_) ⟨?_, hlen, ?_, ?_, by omega⟩ e4 e5 ?_
  · rw [f4 c k (by omega) (by omega), f3 c k (by omega), hm2 c k (by omega) (by omega)]
    exact hG c k (by omega) r (by omega) (by omega) (by omega)
  · rw [f4 6 p (by omega) (by omega), f3 6 p (by omega), zu_eq]; exact x2
  · refine xCs_mv (a := 60) _ 0 0 (fun c i h7 h10 _ hi => ?_) x6
    rw [f4 c _ (by omega) (by omega), c3 c i h7 h10 (by omega), hm2 c _ (by omega) (by omega)]
  · refine mCodes_mv (a := 720) (b := 120 * p) _ 0 (fun i _ hi => ?_) x4
    rw [c4 i (by omega), f3 11 _ (by omega), hm2 11 _ (by omega) (by omega)]
  · rw [f4 0 21 (by omega) (by omega), f3 0 21 (by omega), zu_nc (by decide), zu_eq]
end PARISH
