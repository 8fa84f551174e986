/-! Lots over bits. -/
theorem gl_suc (f : Nat → Prop) [DecidablePred f] (g : Nat) : gl f (g + 1) = if 1 ≤ g ∧ f g then gl f g ++ [g] else gl f g := rfl
theorem pc_gl {S : Nat → Prop} [DecidablePred S] (h1 : ∀ g, S g → 1 ≤ g) : ∀ n, n ≤ 32 → pcN (bN S 32) n = (gl S n).length
  | 0, _ => rfl
  | n + 1, h => by
    have ih := pc_gl h1 n (by omega)
    rw [pcN, ih, gl_suc, bN_bit]
    by_cases q : S n
    · have : decide (n < 32 ∧ S n) = true := decide_eq_true ⟨by omega, q⟩
      rw [this, if_pos rfl, if_pos ⟨h1 n q, q⟩, List.length_append]; rfl
    · have : decide (n < 32 ∧ S n) = false := decide_eq_false (fun z => q z.2)
      rw [this, if_neg (fun z => absurd z Bool.false_ne_true), if_neg (fun z => q z.2)]; rfl
theorem gl_app {S : Nat → Prop} [DecidablePred S] (g : Nat) : ∀ n, g ≤ n → ∃ r, gl S n = gl S g ++ r
  | 0, h => ⟨[], by obtain rfl : g = 0 := by omega
                    rw [List.append_nil]⟩
  | n + 1, h => by
    by_cases e : g = n + 1
    · exact ⟨[], by rw [e, List.append_nil]⟩
    · obtain ⟨r, hr⟩ := gl_app (S := S) g n (by omega)
      rw [gl_suc]
      split
      · exact ⟨r ++ [n], by rw [hr, List.append_assoc]⟩
      · exact ⟨r, hr⟩
theorem gl_at {S : Nat → Prop} [DecidablePred S] {g n : Nat} (h1 : 1 ≤ g) (hs : S g) (hg : g < n) : (gl S n).getD (gl S g).length 0 = g := by
  obtain ⟨r, hr⟩ := gl_app (S := S) (g + 1) n (by omega)
  rw [hr, gl_suc, if_pos ⟨h1, hs⟩, List.getD_eq_getElem?_getD, List.append_assoc, List.getElem?_append_right (Nat.le_refl _), Nat.sub_self]
  rfl
theorem gl_fil {S : Nat → Prop} [DecidablePred S] {L : List Nat} (hL : ∀ k, k ∈ L ↔ k < 32 ∧ 1 ≤ k ∧ S k) (fw : Nat) : ∀ n, n ≤ 32 → gl (fun k => k ∈ L ∧ oN k = fw) n = (gl S n).filter (fun g => oN g == fw)
  | 0, _ => rfl
  | n + 1, h => by
    have ih := gl_fil hL fw n (by omega)
    rw [gl_suc, gl_suc, ih]
    by_cases q : 1 ≤ n ∧ S n
    · rw [if_pos q, List.filter_append]
      by_cases z : oN n = fw
      · rw [if_pos ⟨q.1, (hL n).mpr ⟨by omega, q⟩, z⟩]
        simp [z]
      · rw [if_neg (fun y => z y.2.2)]
        simp [z]
    · rw [if_neg q, if_neg (fun y => q ((hL n).mp y.2.1).2)]
theorem gl_sp {S : Nat → Prop} [DecidablePred S] : gl (fun k => k ∈ sSpar (gl S 32)) 32 = sSpar (gl S 32) := by
  have e := gl_fil (S := S) (L := gl S 32) (fun k => gl_mem S k 32) (sFew (gl S 32)) 32 (Nat.le_refl _)
  refine Eq.trans ?_ e
  exact gl_congr 32 (fun g _ => sSpar_mem)
section LOTS
variable {d : Nat} {X : zS} {fr nx : Nat} {P : zR0} {c : zI} {lc : zJ}
theorem t_71 {K : Int32 → zI → zJ → Prop} {t : Nat} {a : Int32} (h : K a c lc) : TI (d + 1) 71 [.ref t, .int a] (zCS ++ X) (zCR fr nx P) c lc K := TI_of (B_71 _ _ h)
def spF (l : List Nat) : Nat := if l = [] then 32 else sFew l
theorem bN_put {S T : Nat → Prop} [DecidablePred S] [DecidablePred T] {g : Nat} (hg : g < 32) (h : ∀ k, k < 32 → (T k ↔ S k ∨ k = g)) : bN S 32 ||| 2 ^ g = bN T 32 := by
  apply Nat.eq_of_testBit_eq
  intro k
  rw [Nat.testBit_or, bN_bit, bN_bit, Nat.testBit_two_pow]
  by_cases hk : k < 32
  · by_cases e : g = k
    · have : T k := (h k hk).mpr (.inr e.symm)
      simp [e, this, hk]
    · by_cases q : S k
      · have : T k := (h k hk).mpr (.inl q)
        simp [this, hk, q]
      · have : ¬ T k := fun z => ((h k hk).mp z).elim q (fun y => e y.symm)
        simp [e, q, this]
  · have : ¬ g = k := by omega
    simp [hk, this]
theorem bN_0 (n : Nat) : bN (fun _ => False) n = 0 := by
  induction n with
  | zero => rfl
  | succ n ih => rw [bN, if_neg (fun q => q), ih]
theorem bN_same {S T : Nat → Prop} [DecidablePred S] [DecidablePred T] : ∀ n, (∀ k, k < n → (S k ↔ T k)) → bN S n = bN T n
  | 0, _ => rfl
  | n + 1, h => by
    have ih := bN_same n (fun g hg => h g (by omega))
    rw [bN, bN, ih]
    by_cases q : S n
    · rw [if_pos q, if_pos ((h n (by omega)).mp q)]
    · rw [if_neg q, if_neg (fun z => q ((h n (by omega)).mpr z))]
theorem t_70_7 {Q : zQ} {S : Nat → Prop} [DecidablePred S] (h1 : ∀ g, S g → 1 ≤ g) (h : Q (some (.int (Int32.ofNat (bN (fun k => k ∈ sSpar (gl S 32)) 32)))) c lc) : ∀ j g : Nat, g + j = 32 → 1 ≤ g → Wf (d + 2) 70 7 [.retAddr 0, .int (Int32.ofNat (bN S 32)), .int (Int32.ofNat (bN (fun k => k ∈ sSpar (gl S g)) 32)), .int (Int32.ofNat (spF (gl S g))), .int (Int32.ofNat g)] [] (zCS ++ X) (zCR fr nx P) c lc Q
  | 0, g, e, hg1 => by
    obtain rfl : g = 32 := by omega
    exact B_70_7 _ _ _ _ ⟨fun _ => h, fun x => absurd (show (32 : Int32) ≤ Int32.ofNat 32 by decide) x⟩
  | j + 1, g, e, hg1 => by
    have hg : g < 32 := by omega
    have ih := t_70_7 h1 h j (g + 1) (by omega) (by omega)
    rw [gl_suc] at ih
    obtain ⟨o1, o2⟩ := oN_ok g hg
    have hF : spF (gl S g) ≤ 32 := by
      unfold spF
      have := sFew_9 (gl S g)
      split <;> omega
    refine B_70_7 _ _ _ _ ⟨fun x => absurd ((n_le (a := 32) (by decide) (by omega)).mp x) (by omega), fun _ => ⟨fun x => ?_, fun x => t_50g hg ?_⟩⟩
    · rw [n_bit0 _ _ hg, bN_bit, decide_eq_false_iff_not] at x
      rw [if_neg (fun z => x ⟨hg, z.2⟩)] at ih
      rw [n_suc]; exact ih
    · have x : S g := by
        rw [n_bit0 _ _ hg, bN_bit, decide_eq_false_iff_not] at x
        exact (Decidable.not_not.mp x).2
      rw [if_pos ⟨hg1, x⟩] at ih
      have f1 : sFew (gl S g ++ [g]) = few1 (sFew (gl S g)) g := sFew_snoc _ _
      have hne : gl S g ++ [g] ≠ [] := by simp
      have eF : spF (gl S g ++ [g]) = few1 (sFew (gl S g)) g := by unfold spF; rw [if_neg hne, f1]
      have f9 : gl S g = [] → sFew (gl S g) = 9 := fun z => by rw [z]; rfl
      have s9 := sFew_9 (gl S g)
      have not_in : g ∉ gl S g := fun z => by have := ((gl_mem S g g).mp z).1; omega
      refine ⟨fun y => ?_, fun y => t_50g hg ⟨fun z => t_50g hg ?_, fun z => t_50g hg ?_⟩⟩
      · have y := (n_lt (by omega) (by omega)).mp y
        have ne : gl S g ≠ [] := fun z => by unfold spF at y; rw [if_pos z] at y; omega
        have eo : spF (gl S g) = sFew (gl S g) := if_neg ne
        rw [eo] at y
        have e2 : few1 (sFew (gl S g)) g = sFew (gl S g) := if_neg (by omega)
        rw [eF, e2, ← eo] at ih
        have e3 : bN (fun k => k ∈ sSpar (gl S g ++ [g])) 32 = bN (fun k => k ∈ sSpar (gl S g)) 32 := bN_same 32 (fun k _ => by
          rw [sSpar_mem, sSpar_mem, f1, e2, List.mem_append, List.mem_singleton]
          constructor
          · rintro ⟨q | q, q2⟩
            · exact ⟨q, q2⟩
            · subst q; omega
          · rintro ⟨q, q2⟩; exact ⟨.inl q, q2⟩)
        rw [e3] at ih
        rw [n_suc]; exact ih
      · have y : ¬ spF (gl S g) < oN g := fun q => y ((n_lt (by omega) (by omega)).mpr q)
        have z := (n_le (by omega) (by omega)).mp z
        have ne : gl S g ≠ [] := fun q => by unfold spF at z; rw [if_pos q] at z; omega
        have eo : spF (gl S g) = sFew (gl S g) := if_neg ne
        rw [eo] at y z
        have e2 : few1 (sFew (gl S g)) g = oN g := by unfold few1; split <;> omega
        rw [eF, e2] at ih
        have e3 : bN (fun k => k ∈ sSpar (gl S g)) 32 ||| 2 ^ g = bN (fun k => k ∈ sSpar (gl S g ++ [g])) 32 := bN_put hg (fun k _ => by
          rw [sSpar_mem, sSpar_mem, f1, e2, List.mem_append, List.mem_singleton]
          constructor
          · rintro ⟨q | q, q2⟩
            · exact .inl ⟨q, by omega⟩
            · exact .inr q
          · rintro (⟨q, q2⟩ | q)
            · exact ⟨.inl q, by omega⟩
            · exact ⟨.inr q, by rw [q]⟩)
        rw [n_pow32 g hg, n_or, e3, n_suc]; exact ih
      · have y : ¬ spF (gl S g) < oN g := fun q => y ((n_lt (by omega) (by omega)).mpr q)
        have z : ¬ spF (gl S g) ≤ oN g := fun q => z ((n_le (by omega) (by omega)).mpr q)
        have lt : oN g < sFew (gl S g) := by
          by_cases q : gl S g = []
          · rw [f9 q]; omega
          · have : spF (gl S g) = sFew (gl S g) := if_neg q
            omega
        have e2 : few1 (sFew (gl S g)) g = oN g := if_pos lt
        rw [eF, e2] at ih
        have e3 : bN (fun _ => False) 32 ||| 2 ^ g = bN (fun k => k ∈ sSpar (gl S g ++ [g])) 32 := bN_put hg (fun k _ => by
          rw [sSpar_mem, f1, e2, List.mem_append, List.mem_singleton]
          constructor
          · rintro ⟨q | q, q2⟩
            · have := sFew_le q; omega
            · exact .inr q
          · rintro (q | q)
            · exact q.elim
            · exact ⟨.inr q, by rw [q]⟩)
        rw [bN_0, Nat.zero_or] at e3
        rw [n_pow32 g hg, Int32.zero_or, e3, n_suc]; exact ih
theorem t_70 {K : Int32 → zI → zJ → Prop} {t : Nat} {S : Nat → Prop} [DecidablePred S] (h1 : ∀ g, S g → 1 ≤ g) (h : K (Int32.ofNat (bN (fun k => k ∈ sSpar (gl S 32)) 32)) c lc) : TI (d + 2) 70 [.ref t, .int (Int32.ofNat (bN S 32))] (zCS ++ X) (zCR fr nx P) c lc K := by
  refine TI_of (B_70 _ _ ?_)
  have q := t_70_7 (d := d) (X := X) (fr := fr) (nx := nx) (P := P) (Q := qI K) h1 h 31 1 rfl (by decide)
  have e0 : gl S 1 = [] := by rw [gl_suc, if_neg (fun q => absurd q.1 (by decide))]; rfl
  have e1 : bN (fun k => k ∈ sSpar []) 32 = 0 := by
    rw [bN_same (S := fun k => k ∈ sSpar []) (T := fun _ => False) 32 (fun k _ => Iff.intro (fun (z : k ∈ ([] : List Nat)) => absurd z List.not_mem_nil) (fun z => z.elim)), bN_0]
  rw [e0, e1] at q
  exact q
end LOTS
