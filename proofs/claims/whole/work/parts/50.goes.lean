-- @after: 00.privs 01.names 02.code 03.tabs 04.mach 05.rows 26.rows2 27.wp 28.mem 30.bc0 34.bm0 35.bm1 40.num 41.leaf 42.laws 43.known 44.post 45.holds 46.worth 47.barred 48.looks 49.looks2
/-! The model: a crossing. -/
/-- the memory behind a crossing of a group: who is where, the boat, how many went, who met -/
def mGo (mi : zI) (g : Nat) : zI := fun c k =>
  if c = 1 then (if k < 10 ∧ (gPairs g >>> (Int32.ofNat k &&& 31)) &&& 1 = 1 then mi 0 4 + 1 else mi 1 k)
  else if c = 0 then (if k = 1 then mi 0 1 ^^^ Int32.ofNat g else if k = 3 then 1 - mi 0 3 else if k = 4 then mi 0 4 + 1 else mi 0 k)
  else mi c k
section GOES
variable {d : Nat} {ml : zJ}
theorem t_200_at {Q : zQ} {m0 : zI} {g : Nat} {w : Int32} (hg : g < 32) (hQ : ∀ mi, mAs [21, 22] (mGo m0 g) mi → Q (some (.int w)) mi ml) :
    ∀ (m k : Nat) (mi : zI), k + m = 10 → (∀ c q, c ∉ [1, 21, 22] → mi c q = mGo m0 g c q) → (∀ q, q < k → mi 1 q = mGo m0 g 1 q) → (∀ q, k ≤ q → mi 1 q = m0 1 q) → mi 23 g = gPairs g →
      Wf (d + 1) 200 24 [.ref 0, .int (Int32.ofNat g), .int w, .int (Int32.ofNat k)] [] zMS zMR mi ml Q
  | 0, k, mi, e, hA, h1, h2, h3 => by
    obtain rfl : k = 10 := by omega
    refine B_200_24 _ _ _ ⟨fun _ => hQ mi (fun c q hc => ?_), fun n => absurd (show (10 : Int32) ≤ Int32.ofNat 10 by decide) n⟩
    by_cases hc1 : c = 1
    · subst hc1
      by_cases hq : q < 10
      · exact h1 q hq
      · rw [h2 q (by omega)]; unfold mGo; rw [if_pos rfl, if_neg (fun r => hq r.1)]
    · exact hA c q (by simp only [List.mem_cons, List.not_mem_nil, or_false] at hc ⊢; omega)
  | m + 1, k, mi, e, hA, h1, h2, h3 => by
    have hz : zin (Int32.ofNat g) 32 = true := n_zin hg (by omega)
    have hz1 : zin (Int32.ofNat k) 10 = true := n_zin (by omega) (by omega)
    have fin : ∀ v, v = mGo m0 g 1 k → Wf (d + 1) 200 24 [.ref 0, .int (Int32.ofNat g), .int w, .int (Int32.ofNat (k + 1))] [] zMS zMR (zu mi 1 k v) ml Q := by
      intro v hv
      refine t_200_at hg hQ m (k + 1) _ (by omega) (fun c q hc => ?_) (fun q hq => ?_) (fun q hq => ?_) (by rw [zu_nc (by decide)]; exact h3)
      · rw [zu_nc (fun r => hc (by rw [r]; decide))]; exact hA c q hc
      · by_cases hh : q = k
        · subst hh; rw [zu_eq]; exact hv
        · rw [zu_nk hh]; exact h1 q (by omega)
      · rw [zu_nk (by omega)]; exact h2 q (by omega)
    have e4 : mi 0 4 = m0 0 4 + 1 := by rw [hA 0 4 (by decide)]; rfl
    refine B_200_24 _ _ _ ⟨fun n => absurd ((n_le (a := 10) (by omega) (by omega)).mp n) (by omega), fun _ => ⟨hz, fun n => ⟨hz1, hz1, ?_⟩, fun n => ⟨hz1, ?_⟩⟩⟩
    · rw [n_cl (by omega), h3] at n
      rw [n_suc, n_cl (by omega)]
      refine fin _ ?_
      unfold mGo
      rw [if_pos rfl, if_neg (fun r => n r.2), h2 k (Nat.le_refl _)]
    · rw [n_cl (by omega), h3] at n
      rw [n_suc, n_cl (by omega), e4]
      refine fin _ ?_
      unfold mGo
      rw [if_pos rfl, if_pos ⟨by omega, Decidable.not_not.mp n⟩]
/-- goes -/
theorem t_200 {K : Int32 → zI → zJ → Prop} {tk : Nat → List Nat} {mi : zI} {g : Nat} (hg : g < 32) (hi : iH mi) (hT : iT mi tk) (h3 : mi 23 g = gPairs g) (h : ∀ mi', mAs [21, 22] (mGo mi g) mi' → K (mWor mi tk (Int32.ofNat g)) mi' ml) : TI (d + 3) 200 [.ref 0, .int (Int32.ofNat g)] zMS zMR mi ml K := by
  refine TI_of (B_200 _ (t_193 hi hT (fun mi' hA => ?_)))
  refine t_200_at (m0 := mi) hg h 10 0 _ (by omega) (fun c q hc => ?_) (fun q hq => absurd hq (by omega)) (fun q _ => ?_) ?_
  · have hc' : c ∉ [21, 22] := fun r => hc (List.mem_cons_of_mem _ r)
    have a1 : mi' 0 1 = mi 0 1 := hA 0 1 (by decide)
    have a3 : mi' 0 3 = mi 0 3 := hA 0 3 (by decide)
    have a4 : mi' 0 4 = mi 0 4 := hA 0 4 (by decide)
    unfold mGo
    rw [if_neg (fun r => hc (by rw [r]; decide))]
    by_cases h0 : c = 0
    · subst h0
      rw [if_pos rfl]
      by_cases q4 : q = 4
      · subst q4; rw [zu_eq, a4]; rfl
      · rw [zu_nk q4]
        by_cases q3 : q = 3
        · subst q3; rw [zu_eq, a3]; rfl
        · rw [zu_nk q3]
          by_cases q1 : q = 1
          · subst q1; rw [zu_eq, a1]; rfl
          · rw [zu_nk q1, if_neg q1, if_neg q3, if_neg q4, hA 0 q (by decide)]
    · rw [if_neg h0, zu_nc h0, zu_nc h0, zu_nc h0, hA c q hc']
  · rw [zu_nc (by decide), zu_nc (by decide), zu_nc (by decide), hA 1 q (by decide)]
  · rw [zu_nc (by decide), zu_nc (by decide), zu_nc (by decide), hA 23 g (by decide)]; exact h3
end GOES
