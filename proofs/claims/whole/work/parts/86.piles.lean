/-! The class: conditions done by piles of bits. -/
abbrev iPc (t : Nat) : Prop := t = 27 ∨ t = 44 ∨ t = 49 ∨ t = 54 ∨ t = 59 ∨ t = 64 ∨ t = 69
def b2 (b : Bool) : Nat := if b then 1 else 0
def pN : List Bool → Nat
  | [] => 0
  | b :: st => 2 * pN st + b2 b
theorem b2_le (b : Bool) : b2 b ≤ 1 := by cases b <;> decide
theorem pN_lt : ∀ st : List Bool, pN st < 2 ^ st.length
  | [] => by decide
  | b :: st => by
    have := pN_lt st
    have := b2_le b
    rw [pN, List.length_cons, Nat.pow_succ]; omega
theorem dbl_and (q M a b : Nat) (ha : a ≤ 1) (hb : b ≤ 1) : (2 * q + a) &&& (2 * M + b) = 2 * (q &&& M) + (a &&& b) := by
  have hab : a &&& b ≤ 1 := Nat.le_trans Nat.and_le_left ha
  apply Nat.eq_of_testBit_eq
  intro j
  cases j with
  | zero =>
    have e : ∀ x y : Nat, y ≤ 1 → (2 * x + y).testBit 0 = y.testBit 0 := fun x y h => by
      rw [Nat.testBit_zero, Nat.testBit_zero]; congr 1; apply propext; omega
    rw [Nat.testBit_and, e _ _ ha, e _ _ hb, e _ _ hab, Nat.testBit_and]
  | succ j =>
    have e : ∀ x y : Nat, y ≤ 1 → (2 * x + y).testBit (j + 1) = x.testBit j := fun x y h => by
      rw [Nat.testBit_succ]; congr 1; omega
    rw [Nat.testBit_and, e _ _ ha, e _ _ hb, e _ _ hab, Nat.testBit_and]
theorem dbl_or (q M a b : Nat) (ha : a ≤ 1) (hb : b ≤ 1) : (2 * q + a) ||| (2 * M + b) = 2 * (q ||| M) + (a ||| b) := by
  have hab : a ||| b ≤ 1 := by
    have : ∀ a : Nat, a < 2 → ∀ b : Nat, b < 2 → a ||| b ≤ 1 := by decide
    exact this a (by omega) b (by omega)
  apply Nat.eq_of_testBit_eq
  intro j
  cases j with
  | zero =>
    have e : ∀ x y : Nat, y ≤ 1 → (2 * x + y).testBit 0 = y.testBit 0 := fun x y h => by
      rw [Nat.testBit_zero, Nat.testBit_zero]; congr 1; apply propext; omega
    rw [Nat.testBit_or, e _ _ ha, e _ _ hb, e _ _ hab, Nat.testBit_or]
  | succ j =>
    have e : ∀ x y : Nat, y ≤ 1 → (2 * x + y).testBit (j + 1) = x.testBit j := fun x y h => by
      rw [Nat.testBit_succ]; congr 1; omega
    rw [Nat.testBit_or, e _ _ ha, e _ _ hb, e _ _ hab, Nat.testBit_or]
theorem dbl_xor (q M a b : Nat) (ha : a ≤ 1) (hb : b ≤ 1) : (2 * q + a) ^^^ (2 * M + b) = 2 * (q ^^^ M) + (a ^^^ b) := by
  have hab : a ^^^ b ≤ 1 := by
    have : ∀ a : Nat, a < 2 → ∀ b : Nat, b < 2 → a ^^^ b ≤ 1 := by decide
    exact this a (by omega) b (by omega)
  apply Nat.eq_of_testBit_eq
  intro j
  cases j with
  | zero =>
    have e : ∀ x y : Nat, y ≤ 1 → (2 * x + y).testBit 0 = y.testBit 0 := fun x y h => by
      rw [Nat.testBit_zero, Nat.testBit_zero]; congr 1; apply propext; omega
    rw [Nat.testBit_xor, e _ _ ha, e _ _ hb, e _ _ hab, Nat.testBit_xor]
  | succ j =>
    have e : ∀ x y : Nat, y ≤ 1 → (2 * x + y).testBit (j + 1) = x.testBit j := fun x y h => by
      rw [Nat.testBit_succ]; congr 1; omega
    rw [Nat.testBit_xor, e _ _ ha, e _ _ hb, e _ _ hab, Nat.testBit_xor]
theorem n_one31 : ((1 : Int32) &&& 31).toBitVec.smod 32 = 1#32 := by decide
theorem n_shl (x : Nat) : Int32.ofNat x <<< ((1 : Int32) &&& 31) = Int32.ofNat (2 * x) := by
  apply Int32.toBitVec_inj.mp
  rw [Int32.toBitVec_shiftLeft, n_one31]
  apply BitVec.eq_of_toNat_eq
  show ((BitVec.ofNat 32 x) <<< (1 : Nat)).toNat = (BitVec.ofNat 32 (2 * x)).toNat
  rw [BitVec.toNat_shiftLeft, BitVec.toNat_ofNat, BitVec.toNat_ofNat, Nat.shiftLeft_eq]
  omega
theorem n_sar (x : Nat) (hx : x < 2147483648) : Int32.ofNat x >>> ((1 : Int32) &&& 31) = Int32.ofNat (x / 2) := by
  apply Int32.toBitVec_inj.mp
  rw [Int32.toBitVec_shiftRight, n_one31, BitVec.sshiftRight']
  show (BitVec.ofNat 32 x).sshiftRight 1 = BitVec.ofNat 32 (x / 2)
  have hm : (BitVec.ofNat 32 x).msb = false := by
    rw [BitVec.msb_eq_decide, BitVec.toNat_ofNat]
    exact decide_eq_false (by omega)
  rw [BitVec.sshiftRight_eq_of_msb_false hm]
  apply BitVec.eq_of_toNat_eq
  rw [BitVec.toNat_ushiftRight, BitVec.toNat_ofNat, BitVec.toNat_ofNat, Nat.shiftRight_eq_div_pow]
  omega
/-- a step's number -/
def cStep (t : Nat) : Int32 := match t with
  | 0 => -1
  | 1 => -2
  | 2 => -3
  | u + 3 => Int32.ofNat u
theorem bit_1 (q : Nat) (b : Bool) : (2 * q + b2 b) &&& 1 = b2 b := by
  have := dbl_and q 0 (b2 b) 1 (b2_le b) (Nat.le_refl _)
  simp only [Nat.mul_zero, Nat.zero_add, Nat.and_zero] at this
  rw [this]; cases b <;> decide
theorem p_and (r : Nat) (a b : Bool) (h : 2 * (2 * r + b2 a) + b2 b < 2147483648) : (Int32.ofNat (2 * (2 * r + b2 a) + b2 b) >>> ((1 : Int32) &&& 31)) &&& ((Int32.ofNat (2 * (2 * r + b2 a) + b2 b) &&& 1) ||| (-2)) = Int32.ofNat (2 * r + b2 (a && b)) := by
  have hb := b2_le b
  have ha := b2_le a
  have e1 : Int32.ofNat (2 * (2 * r + b2 a) + b2 b) &&& 1 = Int32.ofNat (b2 b) := by
    show Int32.ofNat _ &&& Int32.ofNat 1 = _
    rw [n_and, bit_1]
  rw [n_sar _ h, e1, show (2 * (2 * r + b2 a) + b2 b) / 2 = 2 * r + b2 a by omega]
  cases b with
  | true =>
    have : Int32.ofNat (b2 true) ||| -2 = -1 := by decide
    rw [this, Int32.and_neg_one, Bool.and_true]
  | false =>
    have : Int32.ofNat (b2 false) ||| -2 = Int32.ofNat (2 * 2147483647 + 0) := by decide
    rw [this, n_and, dbl_and _ _ _ _ ha (by decide), Nat.and_zero, Bool.and_false]
    have : r &&& 2147483647 = r := by
      rw [show (2147483647 : Nat) = 2 ^ 31 - 1 from rfl, Nat.and_two_pow_sub_one_eq_mod, Nat.mod_eq_of_lt (by omega)]
    rw [this]; rfl
theorem p_or (r : Nat) (a b : Bool) (h : 2 * (2 * r + b2 a) + b2 b < 2147483648) : (Int32.ofNat (2 * (2 * r + b2 a) + b2 b) >>> ((1 : Int32) &&& 31)) ||| (Int32.ofNat (2 * (2 * r + b2 a) + b2 b) &&& 1) = Int32.ofNat (2 * r + b2 (a || b)) := by
  have hb := b2_le b
  have ha := b2_le a
  have e1 : Int32.ofNat (2 * (2 * r + b2 a) + b2 b) &&& 1 = Int32.ofNat (b2 b) := by
    show Int32.ofNat _ &&& Int32.ofNat 1 = _
    rw [n_and, bit_1]
  rw [n_sar _ h, e1, show (2 * (2 * r + b2 a) + b2 b) / 2 = 2 * r + b2 a by omega, n_or]
  have := dbl_or r 0 (b2 a) (b2 b) ha hb
  simp only [Nat.mul_zero, Nat.zero_add, Nat.or_zero] at this
  rw [this]
  congr 2
  cases a <;> cases b <;> decide
theorem p_not (r : Nat) (a : Bool) : Int32.ofNat (2 * r + b2 a) ^^^ 1 = Int32.ofNat (2 * r + b2 (!a)) := by
  show Int32.ofNat _ ^^^ Int32.ofNat 1 = _
  rw [n_xor]
  have := dbl_xor r 0 (b2 a) 1 (b2_le a) (Nat.le_refl _)
  simp only [Nat.mul_zero, Nat.zero_add, Nat.xor_zero] at this
  rw [this]
  congr 2
  cases a <;> decide
theorem p_push (x : Nat) : (Int32.ofNat x <<< ((1 : Int32) &&& 31)) ||| 0 = Int32.ofNat (2 * x + b2 false) ∧ (Int32.ofNat x <<< ((1 : Int32) &&& 31)) ||| 1 = Int32.ofNat (2 * x + b2 true) := by
  rw [n_shl]
  refine ⟨by rw [Int32.or_zero]; rfl, ?_⟩
  show Int32.ofNat _ ||| Int32.ofNat 1 = _
  rw [n_or]
  have := dbl_or x 0 0 1 (by decide) (by decide)
  simp only [Nat.mul_zero, Nat.zero_add, Nat.add_zero, Nat.or_zero] at this
  rw [this]; rfl
/-- tokens as the class's steps -/
def cSteps (c : zI) (t : Nat) : Nat → List Nat → Prop
  | _, [] => True
  | k, x :: l => c (t + 1) k = cStep x ∧ cSteps c t (k + 1) l
theorem cSteps_eq {c c' : zI} {t : Nat} : ∀ (l : List Nat) (k : Nat), (∀ i, k ≤ i → i < k + l.length → c' (t + 1) i = c (t + 1) i) → cSteps c t k l → cSteps c' t k l
  | [], _, _, _ => trivial
  | x :: l, k, h, q => by
    simp only [List.length_cons] at h
    exact ⟨by rw [h k (Nat.le_refl _) (by omega)]; exact q.1, cSteps_eq l (k + 1) (fun i h1 h2 => h i (by omega) (by omega)) q.2⟩
theorem cStep_ne : ∀ x : Nat, x < 1803 → (cStep x = -1 ↔ x = 0) ∧ (cStep x = -2 ↔ x = 1) ∧ (cStep x = -3 ↔ x = 2) := by decide +kernel
section PILES
variable {d : Nat} {ml : zJ} {X : zS} {fr nx : Nat} {P : zR0} {t : Nat} {c : zI}
theorem t_47w {K : Int32 → zI → zJ → Prop} {a : Int32} (ht : iPc t) (h : ∀ v, v = 0 ∨ v = 1 → K v c ml) : TI (d + 1) 47 [.ref t, .int a] (zCS ++ X) (zCR fr nx P) c ml K := by
  have h0 := h 0 (.inl rfl)
  have h1 := h 1 (.inr rfl)
  refine TI_of (B_47 t _ ht ⟨by decide, fun _ => h0, fun x => ⟨fun y => ⟨?_, by decide, by decide, by decide, fun _ => ⟨fun _ => h0, fun _ => h1⟩, fun _ => ⟨fun _ => ⟨fun _ => h0, fun _ => h1⟩, fun _ => ⟨fun _ => h0, fun _ => h1⟩⟩⟩, fun _ => h0⟩⟩)
  obtain ⟨k, k1, e⟩ := n_nat x
  rw [e] at y ⊢
  have := (n_lt (b := 6) k1 (by decide)).mp y
  exact n_zin this (by decide)
theorem t_47 {K : Int32 → zI → zJ → Prop} {u : Nat} {nm : Nat → Int32} (ht : iPc t) (hu : u < 1800) (hv : ∀ k, k < 6 → c (t + 4) k = nm k) (h : K (bi (sTest nm u)) c ml) : TI (d + 1) 47 [.ref t, .int (Int32.ofNat u)] (zCS ++ X) (zCR fr nx P) c ml K := by
  have e1 : Int32.ofNat u / 300 = Int32.ofNat (u / 300) := n_div (b := 300) (by omega) (by decide)
  have e2 : Int32.ofNat u / 100 % 3 = Int32.ofNat (u / 100 % 3) := by
    have a1 : Int32.ofNat u / 100 = Int32.ofNat (u / 100) := n_div (b := 100) (by omega) (by decide)
    rw [a1]; exact n_mod (b := 3) (by omega) (by decide)
  have e3 : Int32.ofNat u % 100 = Int32.ofNat (u % 100) := n_mod (b := 100) (by omega) (by decide)
  have h6 : u / 300 < 6 := by omega
  refine TI_of (B_47 t _ ht ?_)
  rw [e1, e2, e3, n_cl (by omega), hv _ h6]
  unfold sTest at h
  have hm3 : u / 100 % 3 = 0 ∨ u / 100 % 3 = 1 ∨ u / 100 % 3 = 2 := by omega
  refine ⟨by decide, fun x => absurd ((n_lt (b := 0) (by omega) (by decide)).mp x) (by omega), fun _ => ⟨fun _ => ⟨n_zin h6 (by decide), by decide, by decide, by decide, ?_⟩, fun x => absurd ((n_lt (b := 6) (by omega) (by decide)).mpr h6) x⟩⟩
  rcases hm3 with e | e | e <;> rw [e] at h ⊢
  · refine ⟨fun _ => ⟨fun x => ?_, fun x => ?_⟩, fun x => absurd rfl x⟩
    · rw [decide_eq_false (Int32.not_lt.mpr x)] at h; exact h
    · rw [decide_eq_true (Int32.not_le.mp x)] at h; exact h
  · refine ⟨fun x => absurd x (by decide), fun _ => ⟨fun _ => ⟨fun x => ?_, fun x => ?_⟩, fun x => absurd rfl x⟩⟩
    · rw [decide_eq_false x] at h; exact h
    · rw [decide_eq_true (Decidable.not_not.mp x)] at h; exact h
  · refine ⟨fun x => absurd x (by decide), fun _ => ⟨fun x => absurd x (by decide), fun _ => ⟨fun x => ?_, fun x => ?_⟩⟩⟩
    · rw [decide_eq_false (Int32.not_lt.mpr x)] at h; exact h
    · rw [decide_eq_true (Int32.not_le.mp x)] at h; exact h
theorem t_46w_at {Q : zQ} {to : Int32} (ht : iPc t) (h : ∀ v, v = 0 ∨ v = 1 → Q (some (.int v)) c ml) : ∀ (j k : Nat) (x : Int32), k + j = 100 → Wf (d + 2) 46 9 [.ref t, .retAddr 0, .int to, .int x, .int (Int32.ofNat k), .retAddr 0, .retAddr 0] [] (zCS ++ X) (zCR fr nx P) c ml Q
  | 0, k, x, e => by
    obtain rfl : k = 100 := by omega
    exact B_46_9 t _ _ _ ht ⟨fun _ => ⟨fun _ => h 0 (.inl rfl), fun _ => h 1 (.inr rfl)⟩, fun _ => ⟨fun _ => ⟨fun _ => h 0 (.inl rfl), fun _ => h 1 (.inr rfl)⟩, fun y => absurd (show (100 : Int32) ≤ Int32.ofNat 100 by decide) y⟩⟩
  | j + 1, k, x, e => by
    refine B_46_9 t _ _ _ ht ⟨fun _ => ⟨fun _ => h 0 (.inl rfl), fun _ => h 1 (.inr rfl)⟩, fun _ => ⟨fun _ => ⟨fun _ => h 0 (.inl rfl), fun _ => h 1 (.inr rfl)⟩, fun y => ⟨n_zin (by omega) (by omega), ?_⟩⟩⟩
    rw [n_suc]
    exact ⟨fun _ => ⟨fun _ => ⟨fun _ => t_47w ht (fun v _ => ⟨fun _ => t_46w_at ht h j (k + 1) _ (by omega), fun _ => t_46w_at ht h j (k + 1) _ (by omega)⟩), fun _ => t_46w_at ht h j (k + 1) _ (by omega)⟩, fun _ => t_46w_at ht h j (k + 1) _ (by omega)⟩, fun _ => t_46w_at ht h j (k + 1) _ (by omega)⟩
/-- whatever the steps are: it ends -/
theorem t_46w {K : Int32 → zI → zJ → Prop} {a : Nat} {b : Int32} (ht : iPc t) (ha : a ≤ 100) (h : ∀ v, v = 0 ∨ v = 1 → K v c ml) : TI (d + 2) 46 [.ref t, .int (Int32.ofNat a), .int b] (zCS ++ X) (zCR fr nx P) c ml K := by
  refine TI_of (B_46 t _ _ ht ?_)
  have e : (if 0 < Int32.ofNat a then Int32.ofNat a else 0) = Int32.ofNat a := by
    by_cases q : 0 < Int32.ofNat a
    · rw [if_pos q]
    · rw [if_neg q]
      have : ¬ 0 < a := fun r => q ((n_lt (a := 0) (by decide) (by omega)).mpr r)
      rw [show a = 0 by omega]; rfl
  rw [e]
  exact t_46w_at ht h (100 - a) a 0 (by omega)
theorem t_46_at {Q : zQ} {nm : Nat → Int32} {b : Nat} (ht : iPc t) (hb : b ≤ 100) (hv : ∀ k, k < 6 → c (t + 4) k = nm k) : ∀ (tk : List Nat) (k : Nat) (st : List Bool), cSteps c t k tk → k + tk.length = b → sOK tk st.length → Q (some (.int (bi ((sEv nm tk st).headD false)))) c ml → Wf (d + 2) 46 9 [.ref t, .retAddr 0, .int (Int32.ofNat b), .int (Int32.ofNat (pN st)), .int (Int32.ofNat k), .retAddr 0, .retAddr 0] [] (zCS ++ X) (zCR fr nx P) c ml Q
  | [], k, st, hC, hl, hok, h => by
    obtain rfl : k = b := by simpa using hl
    match st, hok with
    | [v], _ =>
      have e : Int32.ofNat (pN [v]) &&& 1 = bi v := by cases v <;> decide
      have h : Q (some (.int (bi v))) c ml := h
      refine B_46_9 t _ _ _ ht ⟨fun _ => ?_, fun x => absurd (Int32.le_refl _) x⟩
      rw [e]
      cases v
      · exact ⟨fun _ => h, fun x => absurd rfl x⟩
      · exact ⟨fun x => absurd x (by decide), fun _ => h⟩
  | x :: tk, k, st, hC, hl, hok, h => by
    obtain ⟨hx, hn, hok⟩ := hok
    simp only [List.length_cons] at hl
    obtain ⟨hc1, hC⟩ := hC
    obtain ⟨n1, n2, n3⟩ := cStep_ne x hx
    have hpl := pN_lt st
    have hp31 : 2 ^ st.length ≤ 2 ^ 31 := Nat.pow_le_pow_right (by decide) hn
    have hp : pN st < 2147483648 := Nat.lt_of_lt_of_le hpl hp31
    refine B_46_9 t _ _ _ ht ⟨fun q => absurd ((n_le (by omega) (by omega)).mp q) (by omega), fun _ => ⟨fun q => absurd ((n_le (a := 100) (by omega) (by omega)).mp q) (by omega), fun _ => ⟨n_zin (by omega) (by omega), ?_⟩⟩⟩
    rw [n_cl (by omega), hc1, n_suc]
    have step : ∀ st1 : List Bool, sStep nm x st = st1 → sOK tk st1.length → Wf (d + 2) 46 9 [.ref t, .retAddr 0, .int (Int32.ofNat b), .int (Int32.ofNat (pN st1)), .int (Int32.ofNat (k + 1)), .retAddr 0, .retAddr 0] [] (zCS ++ X) (zCR fr nx P) c ml Q := by
      intro st1 e ho
      refine t_46_at ht hb hv tk (k + 1) st1 hC (by omega) ho ?_
      rw [sEv, e] at h; exact h
    have h4 : x = 0 ∨ x = 1 ∨ x = 2 ∨ 3 ≤ x := by omega
    rcases h4 with rfl | rfl | rfl | h3
    · match st, hok, hp, step with
      | bb :: a :: st, hok, hp, step =>
        refine ⟨fun _ => ⟨fun q => absurd rfl q, fun _ => ?_⟩, fun q => absurd (show cStep 0 ≠ -3 by decide) q⟩
        rw [pN, pN] at hp ⊢
        rw [p_and _ _ _ hp]
        exact step ((a && bb) :: st) rfl hok.2
    · match st, hok, hp, step with
      | bb :: a :: st, hok, hp, step =>
        refine ⟨fun _ => ⟨fun _ => ⟨fun q => absurd rfl q, fun _ => ?_⟩, fun q => absurd (show cStep 1 ≠ -1 by decide) q⟩, fun q => absurd (show cStep 1 ≠ -3 by decide) q⟩
        rw [pN, pN] at hp ⊢
        rw [p_or _ _ _ hp]
        exact step ((a || bb) :: st) rfl hok.2
    · match st, hok, hp, step with
      | a :: st, hok, hp, step =>
        refine ⟨fun q => absurd rfl q, fun _ => ?_⟩
        rw [pN]
        rw [p_not]
        exact step ((!a) :: st) rfl hok.2
    · obtain ⟨u, rfl⟩ : ∃ u, x = u + 3 := ⟨x - 3, by omega⟩
      have e : cStep (u + 3) = Int32.ofNat u := rfl
      have hok' : sOK tk (st.length + 1) := by rw [if_neg (by omega), if_neg (by omega)] at hok; exact hok
      refine ⟨fun _ => ⟨fun _ => ⟨fun _ => ?_, fun q => absurd (n2.mp (Decidable.not_not.mp q)) (by omega)⟩, fun q => absurd (n1.mp (Decidable.not_not.mp q)) (by omega)⟩, fun q => absurd (n3.mp (Decidable.not_not.mp q)) (by omega)⟩
      rw [e]
      obtain ⟨p0, p1⟩ := p_push (pN st)
      refine t_47 (u := u) ht (by omega) hv ⟨fun q => ?_, fun q => ?_⟩
      · have hf : sTest nm u = false := bi_ne.mp q
        rw [p0]
        exact step (false :: st) (by show sTest nm u :: st = _; rw [hf]) hok'
      · have hf : sTest nm u = true := by
          cases hh : sTest nm u with
          | true => rfl
          | false => exact absurd (by rw [hh]; rfl) q
        rw [p1]
        exact step (true :: st) (by show sTest nm u :: st = _; rw [hf]) hok'
theorem t_46 {K : Int32 → zI → zJ → Prop} {nm : Nat → Int32} {a : Nat} {tk : List Nat} (ht : iPc t) (hb : a + tk.length ≤ 100) (hv : ∀ k, k < 6 → c (t + 4) k = nm k) (hC : cSteps c t a tk) (hok : sOK tk 0) (h : K (bi (sTrue nm tk)) c ml) : TI (d + 2) 46 [.ref t, .int (Int32.ofNat a), .int (Int32.ofNat (a + tk.length))] (zCS ++ X) (zCR fr nx P) c ml K := by
  refine TI_of (B_46 t _ _ ht ?_)
  have e : (if 0 < Int32.ofNat a then Int32.ofNat a else 0) = Int32.ofNat a := by
    by_cases q : 0 < Int32.ofNat a
    · rw [if_pos q]
    · rw [if_neg q]
      have : ¬ 0 < a := fun r => q ((n_lt (a := 0) (by decide) (by omega)).mpr r)
      rw [show a = 0 by omega]; rfl
  rw [e]
  exact t_46_at (Q := qI K) ht hb hv tk a [] hC rfl hok h
end PILES
