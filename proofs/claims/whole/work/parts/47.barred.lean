-- @after: 00.privs 01.names 02.code 03.tabs 04.mach 05.rows 26.rows2 27.wp 28.mem 30.bc0 34.bm0 35.bm1 40.num 41.leaf 42.laws 43.known 44.post 45.holds 46.worth
/-! The model: who is barred. -/
/-- one of the clauses k, k + 1 .. (m of them) bars -/
def sBar (mi : zI) (tk : Nat → List Nat) (nm : Nat → Int32) : Nat → Nat → Bool
  | 0, _ => false
  | m + 1, k => (decide (mi 7 (10 * mP mi + k) = 3) && sTrue nm (tk k)) || sBar mi tk nm m (k + 1)
def mBar (mi : zI) (tk : Nat → List Nat) (a b : Nat) : Bool := sBar mi tk (sNm (Int32.ofNat (min a b)) (Int32.ofNat (max a b)) 99 99 99 99) (mN mi) 0
section BARRED
variable {d : Nat} {ml : zJ}
theorem sBar_as {mi mi' : zI} (h : mAs [21, 22] mi mi') {tk : Nat → List Nat} {nm : Nat → Int32} : ∀ m k, sBar mi' tk nm m k = sBar mi tk nm m k
  | 0, _ => rfl
  | m + 1, k => by rw [sBar, sBar, sBar_as h m, mP_as h, h 7 _ (by decide)]
theorem t_186_at {Q : zQ} {tk : Nat → List Nat} {nm : Nat → Int32} {m0 : zI} : ∀ (m k : Nat) (mi : zI), k + m = mN m0 → mAs [21, 22] m0 mi → iH mi → iT mi tk → (∀ q, q < 6 → mi 22 q = nm q) →
    (∀ mi', mAs [21, 22] m0 mi' → Q (some (.int (bi (sBar m0 tk nm m k)))) mi' ml) → Wf (d + 2) 186 22 [.ref 0, .retAddr 0, .retAddr 0, .int (Int32.ofNat k)] [] zMS zMR mi ml Q
  | 0, k, mi, e, hA, hi, hT, hn, hQ => by
    obtain rfl : k = mN m0 := by omega
    refine B_186_22 _ (t_163 hi ⟨fun _ => hQ mi hA, fun n => ?_⟩)
    rw [mN_as hA] at n
    exact absurd (Int32.le_refl _) n
  | m + 1, k, mi, e, hA, hi, hT, hn, hQ => by
    have h10 := mN_le hi
    have eN := mN_as hA
    obtain ⟨e1, e2⟩ := mN_pos hi (k := k) (by omega)
    refine B_186_22 _ (t_163 hi ⟨fun n => absurd ((n_le (by omega) (by omega)).mp n) (by omega), fun _ => ?_⟩)
    rw [e1, n_idx, n_suc, n_cl (by omega)]
    have hz : zin (Int32.ofNat (10 * mP mi + k)) 70 = true := n_zin (by omega) (by omega)
    have eP := mP_as hA
    have e7 : mi 7 (10 * mP mi + k) = m0 7 (10 * mP m0 + k) := by rw [eP, hA 7 _ (by decide)]
    refine ⟨hz, fun n => ?_, fun n => ?_⟩
    · refine t_186_at m (k + 1) mi (by omega) hA hi hT hn (fun mi' h' => ?_)
      have q := hQ mi' h'
      rw [sBar, decide_eq_false (by rw [← e7]; exact n), Bool.false_and, Bool.false_or] at q
      exact q
    · have hw : mi 7 (10 * mP mi + k) = 3 := Decidable.not_not.mp n
      have hC := hT k (by omega) (.inl hw)
      refine t_188 e2 (by omega) e1 hC (fun mi' hA' => ?_)
      rw [sTrue_as hn hC]
      have hB : mAs [21, 22] mi mi' := hA'.as (by decide)
      have hn' : ∀ q, q < 6 → mi' 22 q = nm q := fun q hq => by rw [hA' 22 q (by decide)]; exact hn q hq
      rw [sBar, decide_eq_true (by rw [← e7]; exact hw), Bool.true_and] at hQ
      cases hb : sTrue nm (tk k) with
      | true =>
        rw [hb, Bool.true_or] at hQ
        exact ⟨fun n1 => absurd n1 (by decide), fun _ => hQ mi' (hA.trans hB)⟩
      | false =>
        rw [hb, Bool.false_or] at hQ
        exact ⟨fun _ => t_186_at m (k + 1) mi' (by omega) (hA.trans hB) (iH_as hB hi) (iT_as hB hT) hn' hQ, fun n1 => absurd rfl n1⟩
theorem t_186 {K : Int32 → zI → zJ → Prop} {tk : Nat → List Nat} {mi : zI} {a b : Nat} (ha : a < 5) (hb : b < 5) (hi : iH mi) (hT : iT mi tk) (h : ∀ mi', mAs [21, 22] mi mi' → K (bi (mBar mi tk a b)) mi' ml) : TI (d + 2) 186 [.ref 0, .int (Int32.ofNat a), .int (Int32.ofNat b)] zMS zMR mi ml K := by
  have fin : ∀ (x y : Int32) (mi' : zI), x = Int32.ofNat (min a b) → y = Int32.ofNat (max a b) → mAs [21, 22] mi mi' → (∀ q, q < 6 → mi' 22 q = sNm x y 99 99 99 99 q) →
      Wf (d + 2) 186 22 [.ref 0, .retAddr 0, .retAddr 0, .int 0] [] zMS zMR mi' ml (qI K) := by
    intro x y mi' hx hy hA hn
    subst hx; subst hy
    exact t_186_at (Q := qI K) (tk := tk) (nm := sNm (Int32.ofNat (min a b)) (Int32.ofNat (max a b)) 99 99 99 99) (m0 := mi) (mN mi) 0 mi' (by omega) hA (iH_as hA hi) (iT_as hA hT) hn (fun mi1 h1 => h mi1 h1)
  refine TI_of (B_186 _ _ ⟨fun e => ⟨fun e1 => t_187 (fun mi' hA hn => fin _ _ mi' ?_ ?_ hA hn), fun e1 => absurd e e1⟩, fun e => ⟨fun e1 => absurd e1 e, fun e1 => t_187 (fun mi' hA hn => fin _ _ mi' ?_ ?_ hA hn)⟩⟩)
  · have := (n_le (by omega) (by omega)).mp e; rw [Nat.min_eq_right this]
  · have := (n_le (by omega) (by omega)).mp e; rw [Nat.max_eq_left this]
  · have : ¬ b ≤ a := fun q => e ((n_le (by omega) (by omega)).mpr q); rw [Nat.min_eq_left (by omega)]
  · have : ¬ b ≤ a := fun q => e ((n_le (by omega) (by omega)).mpr q); rw [Nat.max_eq_right (by omega)]
end BARRED
