/-! The model reads: a test. -/
theorem xE_mv {mi mi' : zI} {n co : Nat} {l l' W out : List Nat} (h : xE mi n l W co out) (hT : xT mi' n l') (hle : l'.length ≤ l.length) (e : ∀ x k, ¬ (x = 0 ∧ k = 30) → mi' x k = mi x k) : xE mi' n l' W co out := by
  obtain ⟨a, ⟨b1, b2, b3⟩, ⟨c1, c2⟩, f⟩ := h
  exact ⟨hT, ⟨by rw [e 0 33 (by omega)]; exact b1, by rw [e 0 34 (by omega)]; exact b2, xW_eq (fun k => e 20 k (by omega)) b3⟩, ⟨by rw [e 0 31 (by omega)]; exact c1, mCodes_eq (fun k => e 11 k (by omega)) c2⟩, by omega⟩
theorem xF_30 {mi mi' : zI} (e : ∀ x k, ¬ (x = 0 ∧ k = 30) → mi' x k = mi x k) : xF mi mi' := fun x k p _ _ => e x k (fun q => p ⟨q.1, .inl q.2⟩)
theorem mCode_t (u : Nat) : mCode (3 + u) = Int32.ofNat (1000 * (1 + u / 100) + u % 100) := by rw [Nat.add_comm]; rfl
theorem code_eq {li y v : Nat} (hv : v < 100) : (1000 : Int32) * ((1 + 3 * Int32.ofNat li) + Int32.ofNat y) + Int32.ofNat v = mCode (3 + ((3 * li + y) * 100 + v)) := by
  rw [mCode_t]
  show Int32.ofNat 1000 * ((Int32.ofNat 1 + Int32.ofNat 3 * Int32.ofNat li) + Int32.ofNat y) + Int32.ofNat v = _
  rw [← Int32.ofNat_mul, n_add, n_add, ← Int32.ofNat_mul, n_add]
  congr 1; omega
theorem pIn_le : ∀ c : Nat, c < 128 → pIn pLet c ≤ 6 ∧ pIn pSig c ≤ 3 := by decide +kernel
theorem ltL_c (c : Nat) (r : List Nat) (k : Nat) : ltL (c :: r) k = if pIn pLet c < k then Int32.ofNat (pIn pLet c) else -1 := rfl
section TESTS
variable {d : Nat} {ml : zJ}
theorem t_178 {K : Int32 → zI → zJ → Prop} {mi : zI} {n co : Nat} {l W out : List Nat} (hw : iWd mi) (hx : xE mi n l W co out) (h0 : ∀ mi', (pTest l).1 = false → xF mi mi' → xT mi' n (pTest l).2.1 → K 0 mi' ml)
    (h1 : ∀ mi' t, (pTest l).1 = true → (pTest l).2.2 = [t] → xF mi mi' → xE mi' n (pTest l).2.1 W co (out ++ [t]) → K 1 mi' ml) : TI (d + 4) 178 [.ref 0] zMS zMR mi ml K := by
  have hT := hx.1
  have loop : ∀ j k : Nat, k + j = 6 → Wf (d + 4) 178 5 [.ref 0, .int (ltL l k), .int (Int32.ofNat k), .retAddr 0] [] zMS zMR mi ml (qI K) := by
    intro j
    induction j with
    | succ j ih =>
      intro k e
      have nx := ih (k + 1) (by omega)
      refine B_178_5 _ _ ⟨fun x => absurd ((n_le (a := 6) (by omega) (by omega)).mp x) (by omega), fun _ => t_172 hT ⟨n_zin (by omega) (by omega), ?_⟩⟩
      rw [n_cl (by omega), hw.2.2 k (by omega), n_suc]
      match l, hT, nx with
      | [], hT, nx =>
        refine ⟨fun _ => nx, fun x => absurd (Decidable.not_not.mp x) (fun e => ?_)⟩
        have : ∀ k : Nat, k < 6 → ¬ (-1 : Int32) = Int32.ofNat (pLet.getD k 0) := by decide
        exact this k (by omega) e
      | c :: r, hT, nx =>
        have hc := xT_c hT
        have hin := pLet_in c hc k (by omega)
        have hlt : pLet.getD k 0 < 128 := by
          have : ∀ k : Nat, k < 6 → pLet.getD k 0 < 128 := by decide
          exact this k (by omega)
        rw [ltL_c] at nx ⊢
        refine ⟨fun x => ?_, fun x => ?_⟩
        · have hne : ¬ pIn pLet c = k := fun q => x (by show Int32.ofNat c = _; rw [← hin.mpr q])
          by_cases q : pIn pLet c < k
          · rw [if_pos (by omega)] at nx; rw [if_pos q]; exact nx
          · rw [if_neg (by omega)] at nx; rw [if_neg q]; exact nx
        · have heq : pIn pLet c = k := hin.mp ((n_eq (by omega) (by omega)).mp (Decidable.not_not.mp x))
          rw [if_pos (by omega), heq] at nx; exact nx
    | zero =>
      intro k e
      obtain rfl : k = 6 := by omega
      refine B_178_5 _ _ ⟨fun _ => ?_, fun x => absurd (show (6 : Int32) ≤ Int32.ofNat 6 by decide) x⟩
      match l, hT, hx, h0, h1 with
      | [], hT, hx, h0, h1 => exact ⟨fun x => absurd rfl x, fun _ => h0 mi rfl xF.rfl hT⟩
      | c :: r, hT, hx, h0, h1 =>
        have hc := xT_c hT
        rw [ltL_c]
        by_cases hl : pIn pLet c < 6
        · rw [if_pos hl]
          refine ⟨fun _ => ?_, fun x => absurd (n_ne1 (by omega)) x⟩
          have hT1 := xT_tl hT
          have e1 : ∀ x k, ¬ (x = 0 ∧ k = 30) → zu mi 0 30 (mi 0 30 + 1) x k = mi x k := fun x k q => zu_ne q
          match r, hT1, hx, h0, h1 with
          | [], hT1, hx, h0, h1 =>
            have ep : pTest [c] = (false, [], []) := by unfold pTest; simp only [hl, if_true]
            rw [ep] at h0
            exact t_172 hT1 ⟨fun _ => t_172 hT1 ⟨fun _ => t_172 hT1 ⟨fun _ => h0 _ rfl (xF_30 e1) hT1, fun x => absurd (by decide) x⟩, fun x => absurd (by decide) x⟩, fun x => absurd (by decide) x⟩
          | s :: r2, hT1, hx, h0, h1 =>
            have hs := xT_c hT1
            obtain ⟨g1, g2, g3⟩ := pSig_in s hs
            have hT2 := xT_tl hT1
            have e2 : ∀ x k, ¬ (x = 0 ∧ k = 30) → zu (zu mi 0 30 (mi 0 30 + 1)) 0 30 (zu mi 0 30 (mi 0 30 + 1) 0 30 + 1) x k = mi x k := fun x k q => by rw [zu_ne q, zu_ne q]
            obtain ⟨L1, L2⟩ := pNum_len r2
            have fin : ∀ y : Nat, y < 3 → pIn pSig s = y → TI (d + 3) 174 [.ref 0] zMS zMR (zu (zu mi 0 30 (mi 0 30 + 1)) 0 30 (zu mi 0 30 (mi 0 30 + 1) 0 30 + 1)) ml (fun v4 mi4 ml4 => ((v4 ≠ (-1) → TV (d + 3) 179 [.ref 0, .int ((1000 * ((1 + (3 * Int32.ofNat (pIn pLet c))) + Int32.ofNat y)) + v4)] zMS zMR mi4 ml4 (fun mi5 ml5 => qI K (some (.int 1)) mi5 ml5)) ∧ (¬ v4 ≠ (-1) → qI K (some (.int 0)) mi4 ml4))) := by
              intro y hy hsy
              refine t_174 hT2 (fun q q2 => ⟨fun x => absurd rfl x, fun _ => ?_⟩) (fun m4 q hT4 e4 => ⟨fun _ => ?_, fun x => absurd (n_ne1 (by have := (L1 q).2; omega)) x⟩)
              · have ep : pTest (c :: s :: r2) = (false, (pNum r2).2.1, []) := by
                  unfold pTest; simp only [hl, if_true]; rw [if_pos (by omega), q]; rfl
                rw [ep] at h0
                refine h0 _ rfl (xF_30 e2) ?_
                show xT _ n (pNum r2).2.1
                rw [q2]; exact hT2
              · have ep : pTest (c :: s :: r2) = (true, (pNum r2).2.1, [3 + ((3 * pIn pLet c + y) * 100 + (pNum r2).2.2)]) := by
                  unfold pTest; simp only [hl, if_true]; rw [if_pos (by omega), q, hsy]; rfl
                obtain ⟨N1, N2⟩ := L1 q
                have e4' : ∀ x k, ¬ (x = 0 ∧ k = 30) → m4 x k = mi x k := fun x k z => by rw [e4 x k z, e2 x k z]
                have hx4 : xE m4 n (pNum r2).2.1 W co out := xE_mv hx hT4 (by simp only [List.length_cons]; omega) e4'
                have hb := xE_bd hx
                simp only [List.length_cons] at hb
                rw [code_eq N2]
                refine t_179 (d := d + 2) hx4.2.2.1.1 (by omega) ?_
                rw [ep] at h1
                have hlay := xE_lay (t := 3 + ((3 * pIn pLet c + y) * 100 + (pNum r2).2.2)) hx4 (by omega)
                exact h1 _ _ rfl rfl ((xF_30 e4').trans ((xF.rfl.put11 (by omega)).put0 (by decide))) hlay
            have sgs : sg (s :: r2) = Int32.ofNat s := rfl
            refine t_172 hT1 ⟨fun x => t_172 hT1 ⟨fun y => t_172 hT1 ⟨fun z => ?_, fun z => ?_⟩, fun y => ?_⟩, fun x => ?_⟩
            · have n0 : ¬ s = 60 := fun q => x (by rw [sgs, q]; rfl)
              have n1 : ¬ s = 61 := fun q => y (by rw [sgs, q]; rfl)
              have n2 : ¬ s = 62 := fun q => z (by rw [sgs, q]; rfl)
              have hle := (pIn_le s hs).2
              have g1' : ¬ pIn pSig s = 0 := fun q => n0 (g1.mpr q)
              have g2' : ¬ pIn pSig s = 1 := fun q => n1 (g2.mpr q)
              have g3' : ¬ pIn pSig s = 2 := fun q => n2 (g3.mpr q)
              have ep : pTest (c :: s :: r2) = (false, s :: r2, []) := by
                unfold pTest; simp only [hl, if_true]; rw [if_neg (by omega)]
              rw [ep] at h0
              exact h0 _ rfl (xF_30 e1) hT1
            · have : s = 62 := (n_eq (b := 62) (by omega) (by decide)).mp (Decidable.not_not.mp z)
              exact fin 2 (by decide) (g3.mp this)
            · have : s = 61 := (n_eq (b := 61) (by omega) (by decide)).mp (Decidable.not_not.mp y)
              exact fin 1 (by decide) (g2.mp this)
            · have : s = 60 := (n_eq (b := 60) (by omega) (by decide)).mp (Decidable.not_not.mp x)
              exact fin 0 (by decide) (g1.mp this)
        · rw [if_neg hl]
          have ep : pTest (c :: r) = (false, c :: r, []) := by unfold pTest; simp only [hl, if_false]
          rw [ep] at h0
          exact ⟨fun x => absurd rfl x, fun _ => h0 mi rfl xF.rfl hT⟩
  refine TI_of (B_178 ?_)
  have q := loop 6 0 rfl
  have e0 : ltL l 0 = -1 := by unfold ltL; match l with | [] => rfl | c :: r => rfl
  rw [e0] at q
  exact q
end TESTS
