-- @after: 00.privs 01.names 02.code 03.tabs 04.mach 05.rows 26.rows2 27.wp 28.mem 30.bc0 34.bm0 35.bm1 40.num 41.leaf 42.laws
/-! The model: sets as bits. -/
def sTri (p : Nat) : Nat := p * (p - 1) / 2
theorem n_tri : ∀ p : Nat, p < 6 → (Int32.ofNat p * (Int32.ofNat p - 1)) / 2 = Int32.ofNat (sTri p) := by decide +kernel
theorem sTri_le : ∀ p : Nat, p < 6 → sTri p ≤ 10 := by decide
def sBit (k : Nat) : Int32 := (1 : Int32) <<< (Int32.ofNat k &&& 31)
def sBits (f : Nat → Prop) [DecidablePred f] : Nat → Int32
  | 0 => 0
  | k + 1 => if f k then sBits f k ||| sBit k else sBits f k
/-- how many people -/
def mPe (mi : zI) : Nat := (mi 0 0).toNatClampNeg
def iP (mi : zI) : Prop := ∃ p : Nat, p < 6 ∧ mi 0 0 = Int32.ofNat p
theorem iP_of {mi : zI} (h : iP mi) : mi 0 0 = Int32.ofNat (mPe mi) ∧ mPe mi < 6 := by
  obtain ⟨p, h1, h2⟩ := h
  have e : mPe mi = p := by unfold mPe; rw [h2, n_cl (by omega)]
  rw [e]; exact ⟨h2, h1⟩
abbrev mKnows (mi : zI) (k : Nat) : Prop := sKnow (mi 1 k) (mi 0 4) (mLaw mi 2)
def mKnown (mi : zI) : Int32 := sBits (mKnows mi) (sTri (mPe mi))
section KNOWN
variable {d : Nat} {mi : zI} {ml : zJ}
theorem t_183_at {Q : zQ} (hi : iH mi) (hp : iP mi) (h : Q (some (.int (mKnown mi))) mi ml) : ∀ m k : Nat, k + m = sTri (mPe mi) → Wf (d + 4) 183 4 [.ref 0, .int (sBits (mKnows mi) k), .int (Int32.ofNat k)] [] zMS zMR mi ml Q
  | 0, k, e => by
    obtain rfl : k = sTri (mPe mi) := by omega
    obtain ⟨e1, e2⟩ := iP_of hp
    refine B_183_4 _ _ ?_
    rw [e1, n_tri _ e2]
    exact ⟨by decide, fun _ => h, fun n => absurd (Int32.le_refl _) n⟩
  | m + 1, k, e => by
    obtain ⟨e1, e2⟩ := iP_of hp
    have h10 := sTri_le _ e2
    refine B_183_4 _ _ ?_
    rw [e1, n_tri _ e2]
    refine ⟨by decide, fun n => absurd ((n_le (by omega) (by omega)).mp n) (by omega), fun _ => ?_⟩
    rw [n_suc]
    have ih := t_183_at hi hp h m (k + 1) (by omega)
    rw [sBits] at ih
    refine t_161 hi (k := k) (by omega) ⟨fun n => ?_, fun n => ?_⟩
    · rw [if_neg (fun q => by rw [if_pos q] at n; exact absurd n (by decide))] at ih
      rw [Int32.or_zero]; exact ih
    · rw [if_pos (Decidable.byContradiction fun q => by rw [if_neg q] at n; exact absurd rfl n)] at ih
      exact ih
theorem t_183 {K : Int32 → zI → zJ → Prop} (hi : iH mi) (hp : iP mi) (h : K (mKnown mi) mi ml) : TI (d + 4) 183 [.ref 0] zMS zMR mi ml K :=
  TI_of (B_183 (t_183_at hi hp h (sTri (mPe mi)) 0 (by omega)))
/-- all there -/
abbrev sThere (g where_ at1 : Int32) : Prop := (if at1 = 1 then g &&& (where_ ^^^ -1) else g &&& where_) = 0
theorem t_196 {K : Int32 → zI → zJ → Prop} {a b c : Int32} (h : K (if sThere a b c then 1 else 0) mi ml) : TI (d + 1) 196 [.int a, .int b, .int c] zMS zMR mi ml K := by
  refine TI_of (B_196 _ _ _ ⟨fun e => ⟨fun e1 => ?_, fun e1 => ?_⟩, fun e => ⟨fun e1 => ?_, fun e1 => ?_⟩⟩)
  · rw [if_neg (fun q => by unfold sThere at q; rw [if_neg e] at q; exact e1 q)] at h; exact h
  · rw [if_pos (by unfold sThere; rw [if_neg e]; exact Decidable.not_not.mp e1)] at h; exact h
  · rw [if_neg (fun q => by unfold sThere at q; rw [if_pos (Decidable.not_not.mp e)] at q; exact e1 q)] at h; exact h
  · rw [if_pos (by unfold sThere; rw [if_pos (Decidable.not_not.mp e)]; exact Decidable.not_not.mp e1)] at h; exact h
/-- may -/
abbrev mMay (mi : zI) (g : Nat) (known where_ at1 : Int32) : Prop := ¬ mi 24 g = 0 ∧ sThere (Int32.ofNat g) where_ at1 ∧ mi 23 g &&& known = 0
theorem t_195 {K : Int32 → zI → zJ → Prop} {g : Nat} (hg : g < 32) {b c e : Int32} (h : K (if mMay mi g b c e then 1 else 0) mi ml) : TI (d + 2) 195 [.ref 0, .int (Int32.ofNat g), .int b, .int c, .int e] zMS zMR mi ml K := by
  have hz : zin (Int32.ofNat g) 32 = true := n_zin hg (by omega)
  refine TI_of (B_195 _ _ _ _ ?_)
  rw [n_cl (by omega)]
  refine ⟨hz, fun e1 => ?_, fun e1 => t_196 ⟨fun e2 => ?_, fun e2 => ⟨hz, fun e3 => ?_, fun e3 => ?_⟩⟩⟩
  · rw [if_neg (fun q => q.1 e1)] at h; exact h
  · rw [if_neg (fun q => by rw [if_pos q.2.1] at e2; exact absurd e2 (by decide))] at h; exact h
  · rw [if_neg (fun q => e3 q.2.2)] at h; exact h
  · rw [if_pos ⟨e1, Decidable.byContradiction fun q => by rw [if_neg q] at e2; exact e2 rfl, Decidable.not_not.mp e3⟩] at h; exact h
theorem t_194 {K : Int32 → zI → zJ → Prop} (hi : iH mi) (hp : iP mi) {g : Nat} (hg : g < 32) (h : K (if mMay mi g (mKnown mi) (mi 0 1) (mi 0 3) then 1 else 0) mi ml) : TI (d + 5) 194 [.ref 0, .int (Int32.ofNat g)] zMS zMR mi ml K := by
  refine TI_of (B_194 _ (t_183 hi hp (t_195 hg ⟨?_, h⟩)))
  split
  · exact .inr rfl
  · exact .inl rfl
end KNOWN
