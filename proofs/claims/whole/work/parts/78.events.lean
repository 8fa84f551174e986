/-! The model reads a condition: what each sign does. -/
theorem xE_push {mi : zI} {n co w c : Nat} {l W out : List Nat} (hw : ¬ (w = 0 ∨ w = 3)) (h : xE mi n (c :: l) W co out) : xE (zu (zu (zu mi 20 W.length (Int32.ofNat w)) 0 33 (Int32.ofNat (W.length + 1))) 0 30 (mi 0 30 + 1)) n l (w :: W) co out := by
  obtain ⟨a, ⟨b1, b2, b3⟩, ⟨c1, c2⟩, e⟩ := h
  have hT := xT_tl a
  simp only [List.length_cons] at e
  refine ⟨xT_eq (by rw [zu_eq, zu_eq]) (by rw [zu_nk (by decide), zu_nk (by decide), zu_nc (by decide), zu_nk (by decide)]) (fun k => by rw [zu_nc (by decide), zu_nc (by decide), zu_nc (by decide), zu_nc (by decide)]) hT, ⟨?_, ?_, ?_, ?_⟩, ⟨?_, ?_⟩, ?_⟩
  · rw [zu_nk (by decide), zu_eq, List.length_cons]
  · rw [zu_nk (by decide), zu_nk (by decide), zu_nc (by decide), opn, if_neg hw, Nat.zero_add]; exact b2
  · rw [zu_nc (by decide), zu_nc (by decide), zu_eq]
  · exact xW_eq (fun k => by rw [zu_nc (by decide), zu_nc (by decide)]) (xW_put (Nat.le_refl _) b3)
  · rw [zu_nk (by decide), zu_nk (by decide), zu_nc (by decide)]; exact c1
  · exact mCodes_eq (fun k => by rw [zu_nc (by decide), zu_nc (by decide), zu_nc (by decide)]) c2
  · simp only [List.length_cons]; omega
theorem xE_open {mi : zI} {n co w c : Nat} {l W out : List Nat} (hw : w = 0 ∨ w = 3) (h : xE mi n (c :: l) W co out) : xE (zu (zu (zu (zu mi 0 34 (Int32.ofNat (opn W + 1))) 20 W.length (Int32.ofNat w)) 0 33 (Int32.ofNat (W.length + 1))) 0 30 (mi 0 30 + 1)) n l (w :: W) co out := by
  obtain ⟨a, ⟨b1, b2, b3⟩, ⟨c1, c2⟩, e⟩ := h
  have hT := xT_tl a
  simp only [List.length_cons] at e
  refine ⟨xT_eq (by rw [zu_eq, zu_eq]) (by rw [zu_nk (by decide), zu_nk (by decide), zu_nc (by decide), zu_nk (by decide), zu_nk (by decide)]) (fun k => by rw [zu_nc (by decide), zu_nc (by decide), zu_nc (by decide), zu_nc (by decide), zu_nc (by decide)]) hT, ⟨?_, ?_, ?_, ?_⟩, ⟨?_, ?_⟩, ?_⟩
  · rw [zu_nk (by decide), zu_eq, List.length_cons]
  · rw [zu_nk (by decide), zu_nk (by decide), zu_nc (by decide), zu_eq, opn, if_pos hw, Nat.add_comm]
  · rw [zu_nc (by decide), zu_nc (by decide), zu_eq]
  · exact xW_eq (fun k => by rw [zu_nc (by decide), zu_nc (by decide)]) (xW_put (Nat.le_refl _) (xW_eq (fun k => by rw [zu_nc (by decide)]) b3))
  · rw [zu_nk (by decide), zu_nk (by decide), zu_nc (by decide), zu_nk (by decide)]; exact c1
  · exact mCodes_eq (fun k => by rw [zu_nc (by decide), zu_nc (by decide), zu_nc (by decide), zu_nc (by decide)]) c2
  · simp only [List.length_cons]; omega
theorem xE_close {mi : zI} {n co c : Nat} {l W out : List Nat} (h : xE mi n (c :: l) (0 :: W) co out) : xE (zu (zu (zu mi 0 33 (Int32.ofNat W.length)) 0 34 (Int32.ofNat (opn W))) 0 30 (mi 0 30 + 1)) n l W co out := by
  obtain ⟨a, ⟨b1, b2, b3⟩, ⟨c1, c2⟩, e⟩ := h
  have hT := xT_tl a
  simp only [List.length_cons] at e
  refine ⟨xT_eq (by rw [zu_eq, zu_eq]) (by rw [zu_nk (by decide), zu_nk (by decide), zu_nk (by decide), zu_nk (by decide)]) (fun k => by rw [zu_nc (by decide), zu_nc (by decide), zu_nc (by decide), zu_nc (by decide)]) hT, ⟨?_, ?_, ?_⟩, ⟨?_, ?_⟩, ?_⟩
  · rw [zu_nk (by decide), zu_nk (by decide), zu_eq]
  · rw [zu_nk (by decide), zu_eq]
  · exact xW_eq (fun k => by rw [zu_nc (by decide), zu_nc (by decide), zu_nc (by decide)]) b3.2
  · rw [zu_nk (by decide), zu_nk (by decide), zu_nk (by decide)]; exact c1
  · exact mCodes_eq (fun k => by rw [zu_nc (by decide), zu_nc (by decide), zu_nc (by decide)]) c2
  · omega
theorem sg_ne {l : List Nat} {mi : zI} {n c : Nat} (hx : xT mi n l) (hc : c < 1000) (h : ∀ r, l ≠ c :: r) : ¬ sg l = Int32.ofNat c := fun e => by
  obtain ⟨r, q⟩ := (sg_eq hx hc).mp e
  exact h r q
section EVENTS
variable {d : Nat} {ml : zJ} {Q : zQ} {m0 mi : zI} {n co : Nat} {l out : List Nat}
theorem e_amp {A W1 : List Nat} (hF : xF m0 mi) (hA : ∀ p, p ∈ A → p = 2) (hW : ∀ w r, W1 = w :: r → w < 2) (hx : xE mi n (38 :: l) (A ++ W1) co out)
    (k : ∀ mi', xF m0 mi' → xE mi' n l (2 :: W1) co (out ++ A.map tkW) → Wf (d + 5) 176 9 [.ref 0, .int 1, .retAddr 0] [] zMS zMR mi' ml Q) : Wf (d + 5) 176 9 [.ref 0, .int 0, .retAddr 0] [] zMS zMR mi ml Q := by
  refine B_176_9 _ (t_172 hx.1 ⟨fun _ => ⟨fun _ => ⟨fun x => absurd rfl x, fun _ => t_181 (d := d + 2) (least := 2) (.inr rfl) (fun w r e => .inr (hW w r e)) (fun p hp => ⟨.inr (hA p hp), by rw [hA p hp]; exact Nat.le_refl _⟩) hx (fun m2 hF2 hx2 => ⟨fun x => absurd rfl x, fun _ => ?_⟩)⟩, fun x => absurd rfl x⟩, fun x => absurd rfl x⟩)
  have hb := xE_bd hx2
  have hp := xE_push (w := 2) (by decide) hx2
  rw [hx2.2.1.1, n_suc, n_cl (by omega)]
  exact ⟨n_zin (by omega) (by omega), k _ (((hF.trans hF2).put20.put0 (by decide)).put0 (by decide)) hp⟩
theorem e_bar {P Wb : List Nat} (hF : xF m0 mi) (hP : ∀ p, p ∈ P → p = 1 ∨ p = 2) (hW : ∀ w r, Wb = w :: r → w = 0) (hx : xE mi n (124 :: l) (P ++ Wb) co out)
    (k : ∀ mi', xF m0 mi' → xE mi' n l (1 :: Wb) co (out ++ P.map tkW) → Wf (d + 5) 176 9 [.ref 0, .int 1, .retAddr 0] [] zMS zMR mi' ml Q) : Wf (d + 5) 176 9 [.ref 0, .int 0, .retAddr 0] [] zMS zMR mi ml Q := by
  refine B_176_9 _ (t_172 hx.1 ⟨fun _ => ⟨fun x => absurd x (show ¬ Int32.ofNat 124 = 38 by decide), fun _ => ⟨fun x => absurd rfl x, fun _ => ⟨fun _ => t_181 (d := d + 2) (least := 1) (.inl rfl) (fun w r e => .inl (hW w r e)) (fun p hp => ⟨hP p hp, by rcases hP p hp with h | h <;> omega⟩) hx (fun m2 hF2 hx2 => ⟨fun _ => ?_, fun x => absurd (show Int32.ofNat 124 ≠ 38 by decide) x⟩), fun x => absurd (show Int32.ofNat 124 ≠ 38 by decide) x⟩⟩⟩, fun x => absurd rfl x⟩)
  have hb := xE_bd hx2
  have hp := xE_push (w := 1) (by decide) hx2
  rw [hx2.2.1.1, n_suc, n_cl (by omega)]
  exact ⟨n_zin (by omega) (by omega), k _ (((hF.trans hF2).put20.put0 (by decide)).put0 (by decide)) hp⟩
theorem e_close {P W0 : List Nat} {j : Nat} (hF : xF m0 mi) (hP : ∀ p, p ∈ P → p = 1 ∨ p = 2) (hW : ∀ w r, W0 = w :: r → w < 3) (hx : xE mi n (41 :: l) (P ++ 0 :: (List.replicate j 3 ++ W0)) co out)
    (k : ∀ mi', xF m0 mi' → xE mi' n l W0 co ((out ++ P.map tkW) ++ List.replicate j 2) → Wf (d + 5) 176 9 [.ref 0, .int 0, .retAddr 0] [] zMS zMR mi' ml Q) : Wf (d + 5) 176 9 [.ref 0, .int 0, .retAddr 0] [] zMS zMR mi ml Q := by
  have ho : 1 ≤ opn (P ++ 0 :: (List.replicate j 3 ++ W0)) := by
    have : ∀ P : List Nat, 1 ≤ opn (P ++ 0 :: (List.replicate j 3 ++ W0)) := by
      intro P
      induction P with
      | nil => rw [List.nil_append, opn, if_pos (.inl rfl)]; omega
      | cons p P ih => rw [List.cons_append, opn]; omega
    exact this P
  have hb0 := xE_bd hx
  refine B_176_9 _ (t_172 hx.1 ⟨fun _ => ⟨fun x => absurd x (show ¬ Int32.ofNat 41 = 38 by decide), fun _ => ⟨fun _ => ⟨fun x => absurd rfl x, fun _ => ⟨fun x => ?_, fun _ => t_181 (d := d + 2) (least := 1) (.inl rfl) (fun w r e => .inl (by injection e with e1 e2; exact e1.symm)) (fun p hp => ⟨hP p hp, by rcases hP p hp with h | h <;> omega⟩) hx (fun m2 hF2 hx2 => ?_)⟩⟩, fun x => absurd (show Int32.ofNat 41 ≠ 124 by decide) x⟩⟩, fun x => absurd rfl x⟩)
  · rw [hx.2.1.2.1] at x
    have := (n_le (b := 0) (by omega) (by omega)).mp x
    omega
  · have hb := xE_bd hx2
    have hp := xE_close hx2
    obtain ⟨-, ⟨b1, b2, b3⟩, -, -⟩ := hx2
    rw [opn, if_pos (.inl rfl), Nat.add_comm] at b2
    simp only [List.length_cons] at b1
    have e33 : m2 0 33 - 1 = Int32.ofNat (List.replicate j 3 ++ W0).length := by rw [b1, n_pred]
    have e34 : m2 0 34 - 1 = Int32.ofNat (opn (List.replicate j 3 ++ W0)) := by rw [b2, n_pred]
    rw [e33, e34]
    exact t_180 (d := d + 2) hW hp (fun m3 hF3 hx3 => k m3 ((((hF.trans hF2).put0 (by decide)).put0 (by decide)).put0 (by decide) |>.trans hF3) hx3)
/-- the end, or what can't go on -/
theorem e_end {P Wb : List Nat} (hF : xF m0 mi) (hP : ∀ p, p ∈ P → p = 1 ∨ p = 2) (hW : ∀ w r, Wb = w :: r → w = 0) (hx : xE mi n l (P ++ Wb) co out) (h38 : ∀ r, l ≠ 38 :: r) (h124 : ∀ r, l ≠ 124 :: r) (h41 : ∀ r, l = 41 :: r → Wb = [])
    (k : ∀ mi', xF m0 mi' → xE mi' n l Wb co (out ++ P.map tkW) → Q (some (.int (if Wb = [] then 1 else 0))) mi' ml) : Wf (d + 5) 176 9 [.ref 0, .int 0, .retAddr 0] [] zMS zMR mi ml Q := by
  have n38 : ¬ sg l = 38 := sg_ne hx.1 (by decide) h38
  have n124 : ¬ sg l = 124 := sg_ne hx.1 (by decide) h124
  have fin : TV (d + 4) 181 [.ref 0, .int 1] zMS zMR mi ml (fun mi4 ml4 => (((mi4 0 33) ≠ 0 → Q (some (.int 0)) mi4 ml4) ∧ (¬ (mi4 0 33) ≠ 0 → Q (some (.int 1)) mi4 ml4))) := by
    refine t_181 (d := d + 2) (least := 1) (.inl rfl) (fun w r e => .inl (hW w r e)) (fun p hp => ⟨hP p hp, by rcases hP p hp with h | h <;> omega⟩) hx (fun m2 hF2 hx2 => ?_)
    have hb := xE_bd hx2
    have hk := k m2 (hF.trans hF2) hx2
    rw [hx2.2.1.1]
    by_cases e : Wb = []
    · rw [if_pos e] at hk
      rw [e]
      exact ⟨fun x => absurd rfl x, fun _ => hk⟩
    · rw [if_neg e] at hk
      refine ⟨fun _ => hk, fun x => absurd (fun y => ?_) x⟩
      have := (n_eq (b := 0) (by omega) (by omega)).mp y
      exact e (List.length_eq_zero_iff.mp this)
  have opn_ops : ∀ P : List Nat, (∀ p, p ∈ P → p = 1 ∨ p = 2) → opn (P ++ []) = 0 := by
    intro P
    induction P with
    | nil => intro _; rfl
    | cons p P ih =>
      intro h
      have h1 := h p (List.mem_cons_self ..)
      rw [List.cons_append, opn, if_neg (by omega), ih (fun q hq => h q (List.mem_cons_of_mem _ hq))]
  refine B_176_9 _ (t_172 hx.1 ⟨fun _ => ⟨fun x => absurd x n38, fun _ => ⟨fun _ => ⟨fun _ => fin, fun x => ⟨fun _ => fin, fun y => absurd ?_ y⟩⟩, fun x => absurd n124 x⟩⟩, fun x => absurd rfl x⟩)
  obtain ⟨r, hr⟩ := (sg_eq (c := 41) hx.1 (by decide)).mp (Decidable.not_not.mp x)
  have hWb := h41 r hr
  subst hWb
  rw [hx.2.1.2.1, opn_ops P hP]
  exact Int32.le_refl _
theorem t_177 {K : Int32 → zI → zJ → Prop} {c w : Nat} {W : List Nat} (hw : w = 0 ∨ w = 3) (hx : xE mi n (c :: l) W co out) (h0 : opn W = 4 → K 0 mi ml) (h1 : ∀ mi', ¬ opn W = 4 → xF mi mi' → xE mi' n l (w :: W) co out → K 1 mi' ml) : TI (d + 1) 177 [.ref 0, .int (Int32.ofNat w)] zMS zMR mi ml K := by
  have hb := xE_bd hx
  have hp := xE_open hw hx
  obtain ⟨a, ⟨b1, b2, b3⟩, c1, e⟩ := hx
  refine TI_of (B_177 _ ?_)
  rw [b1, b2, n_suc, n_suc, n_cl (by omega)]
  refine ⟨fun x => ⟨n_zin (by omega) (by omega), h1 _ (fun y => x (by rw [y]; rfl)) ((((xF.rfl.put0 (by decide)).put20).put0 (by decide)).put0 (by decide)) hp⟩, fun x => h0 ((n_eq (b := 4) (by omega) (by decide)).mp (Decidable.not_not.mp x))⟩
/-- an opening -/
theorem e_open {c : Nat} {W : List Nat} (hc : c = 40 ∨ c = 33) (hF : xF m0 mi) (hx : xE mi n (c :: l) W co out) (h0 : opn W = 4 → Q (some (.int 0)) mi ml)
    (k : ∀ mi', ¬ opn W = 4 → xF m0 mi' → xE mi' n l ((if c = 40 then 0 else 3) :: W) co out → Wf (d + 5) 176 9 [.ref 0, .int 1, .retAddr 0] [] zMS zMR mi' ml Q) : Wf (d + 5) 176 9 [.ref 0, .int 1, .retAddr 0] [] zMS zMR mi ml Q := by
  rcases hc with rfl | rfl
  · refine B_176_9 _ (t_172 hx.1 ⟨fun x => absurd x (by decide), fun _ => ⟨fun _ => ⟨fun x => absurd rfl x, fun _ => t_177 (d := d + 3) (w := 0) (.inl rfl) hx (fun e => ⟨fun x => absurd rfl x, fun _ => h0 e⟩) (fun m2 e hF2 hx2 => ⟨fun _ => k m2 e (hF.trans hF2) hx2, fun x => absurd (by decide) x⟩)⟩, fun x => absurd rfl x⟩⟩)
  · refine B_176_9 _ (t_172 hx.1 ⟨fun x => absurd x (by decide), fun _ => ⟨fun x => absurd x (show ¬ Int32.ofNat 33 = 40 by decide), fun _ => ⟨fun x => absurd rfl x, fun _ => ⟨fun _ => t_177 (d := d + 3) (w := 3) (.inr rfl) hx (fun e => ⟨fun x => absurd rfl x, fun _ => h0 e⟩) (fun m2 e hF2 hx2 => ⟨fun _ => k m2 e (hF.trans hF2) hx2, fun x => absurd (by decide) x⟩), fun x => absurd (show Int32.ofNat 33 ≠ 40 by decide) x⟩⟩⟩⟩)
/-- a test -/
theorem e_test {W0 : List Nat} {j : Nat} (hw : iWd m0) (hF : xF m0 mi) (hW : ∀ w r, W0 = w :: r → w < 3) (hx : xE mi n l (List.replicate j 3 ++ W0) co out) (h40 : ∀ r, l ≠ 40 :: r) (h33 : ∀ r, l ≠ 33 :: r)
    (h0 : ∀ mi', (pTest l).1 = false → xF m0 mi' → xT mi' n (pTest l).2.1 → Q (some (.int 0)) mi' ml)
    (k : ∀ mi', (pTest l).1 = true → xF m0 mi' → xE mi' n (pTest l).2.1 W0 co ((out ++ (pTest l).2.2) ++ List.replicate j 2) → Wf (d + 5) 176 9 [.ref 0, .int 0, .retAddr 0] [] zMS zMR mi' ml Q) : Wf (d + 5) 176 9 [.ref 0, .int 1, .retAddr 0] [] zMS zMR mi ml Q := by
  have n40 : ¬ sg l = 40 := sg_ne hx.1 (by decide) h40
  have n33 : ¬ sg l = 33 := sg_ne hx.1 (by decide) h33
  refine B_176_9 _ (t_172 hx.1 ⟨fun x => absurd x (by decide), fun _ => ⟨fun x => absurd x n40, fun _ => ⟨fun _ => t_178 (iWd_f hF hw) hx (fun m2 e hF2 hx2 => ⟨fun x => absurd rfl x, fun _ => h0 m2 e (hF.trans hF2) hx2⟩) (fun m2 t e et hF2 hx2 => ⟨fun _ => t_180 (d := d + 2) hW hx2 (fun m3 hF3 hx3 => k m3 e ((hF.trans hF2).trans hF3) (by rw [et]; exact hx3)), fun x => absurd (by decide) x⟩), fun x => absurd n33 x⟩⟩⟩)
end EVENTS
