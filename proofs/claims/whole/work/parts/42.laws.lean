-- @after: 00.privs 01.names 02.code 03.tabs 04.mach 05.rows 26.rows2 27.wp 28.mem 30.bc0 34.bm0 35.bm1 40.num 41.leaf
/-! The model: the clauses of the text that holds, who knows whom. -/
/-- which text holds, and how many clauses it has -/
def mP (mi : zI) : Nat := (mi 0 13).toNatClampNeg
def mN (mi : zI) : Nat := if 0 ≤ mi 0 13 then (mi 6 (mP mi)).toNatClampNeg else 0
def iH (mi : zI) : Prop := mi 0 13 = -1 ∨ ∃ p n : Nat, p < 6 ∧ n ≤ 10 ∧ mi 0 13 = Int32.ofNat p ∧ mi 6 p = Int32.ofNat n
theorem mN_of {mi : zI} {p n : Nat} (hp : p < 6) (hn : n ≤ 10) (h1 : mi 0 13 = Int32.ofNat p) (h2 : mi 6 p = Int32.ofNat n) : mP mi = p ∧ mN mi = n := by
  have e : mP mi = p := by unfold mP; rw [h1, n_cl (by omega)]
  refine ⟨e, ?_⟩
  unfold mN
  rw [e, h1, h2, n_cl (by omega), if_pos (show (0 : Int32) ≤ Int32.ofNat p from (n_le (a := 0) (by omega) (by omega)).mpr (by omega))]
section LAWS
variable {d : Nat} {mi : zI} {ml : zJ}
theorem t_163 {K : Int32 → zI → zJ → Prop} (hi : iH mi) (h : K (Int32.ofNat (mN mi)) mi ml) : TI (d + 1) 163 [.ref 0] zMS zMR mi ml K := by
  refine TI_of (B_163 ⟨fun e => ?_, fun e => ?_⟩)
  · rcases hi with hi | ⟨p, n, hp, hn, h1, h2⟩
    · rw [hi] at e; exact absurd e (by decide)
    · obtain ⟨e1, e2⟩ := mN_of hp hn h1 h2
      rw [e2] at h
      rw [h1]
      refine ⟨n_zin (by omega) (by omega), ?_⟩
      rw [n_cl (by omega), h2]
      exact h
  · unfold mN at h
    rw [if_neg e] at h
    exact h
/-- the last clause of a word among the first k: its number -/
def sLaw (mi : zI) (w n0 : Int32) : Nat → Int32
  | 0 => n0
  | k + 1 => if mi 7 (10 * mP mi + k) = w then mi 8 (10 * mP mi + k) else sLaw mi w n0 k
def mLaw (mi : zI) (w : Int32) : Int32 := sLaw mi w (if w = 0 then 2 else if w = 1 then 1 else 0) (mN mi)
theorem mN_le {mi : zI} (hi : iH mi) : mN mi ≤ 10 := by
  rcases hi with hi | ⟨p, n, hp, hn, h1, h2⟩
  · unfold mN; rw [hi, if_neg (by decide)]; omega
  · rw [(mN_of hp hn h1 h2).2]; exact hn
/-- where there is a clause there is a text -/
theorem mN_pos {mi : zI} (hi : iH mi) {k : Nat} (hk : k < mN mi) : mi 0 13 = Int32.ofNat (mP mi) ∧ mP mi < 6 := by
  rcases hi with hi | ⟨p, n, hp, hn, h1, h2⟩
  · unfold mN at hk; rw [hi, if_neg (by decide)] at hk; omega
  · rw [(mN_of hp hn h1 h2).1]; exact ⟨h1, hp⟩
theorem n_idx {p k : Nat} : (10 : Int32) * Int32.ofNat p + Int32.ofNat k = Int32.ofNat (10 * p + k) := by
  show Int32.ofNat 10 * Int32.ofNat p + Int32.ofNat k = _
  rw [← Int32.ofNat_mul, n_add]
theorem t_162_at {Q : zQ} (hi : iH mi) (w n0 : Int32) (h : Q (some (.int (sLaw mi w n0 (mN mi)))) mi ml) : ∀ m k : Nat, k + m = mN mi → Wf (d + 2) 162 13 [.ref 0, .int w, .int (sLaw mi w n0 k), .int (Int32.ofNat k)] [] zMS zMR mi ml Q
  | 0, k, e => by
    obtain rfl : k = mN mi := by omega
    exact B_162_13 _ _ _ (t_163 hi ⟨fun _ => h, fun n => absurd (Int32.le_refl _) n⟩)
  | m + 1, k, e => by
    have h10 := mN_le hi
    obtain ⟨e1, e2⟩ := mN_pos hi (k := k) (by omega)
    refine B_162_13 _ _ _ (t_163 hi ⟨fun n => absurd ((n_le (by omega) (by omega)).mp n) (by omega), fun _ => ?_⟩)
    rw [e1, n_idx, n_suc, n_cl (by omega)]
    have hz : zin (Int32.ofNat (10 * mP mi + k)) 70 = true := n_zin (by omega) (by omega)
    have ih := t_162_at hi w n0 h m (k + 1) (by omega)
    refine ⟨hz, fun n => ?_, fun n => ⟨hz, ?_⟩⟩
    · rw [sLaw, if_neg n] at ih; exact ih
    · rw [sLaw, if_pos (Decidable.not_not.mp n)] at ih; exact ih
theorem t_162 {K : Int32 → zI → zJ → Prop} (hi : iH mi) (w : Int32) (h : K (mLaw mi w) mi ml) : TI (d + 2) 162 [.ref 0, .int w] zMS zMR mi ml K := by
  unfold mLaw at h
  refine TI_of (B_162 _ ⟨fun e => ⟨fun e1 => ?_, fun e1 => ?_⟩, fun e => ?_⟩)
  · rw [if_neg e, if_neg e1] at h; exact t_162_at hi w 0 h (mN mi) 0 (by omega)
  · rw [if_neg e, if_pos (Decidable.not_not.mp e1)] at h; exact t_162_at hi w 1 h (mN mi) 0 (by omega)
  · rw [if_pos (Decidable.not_not.mp e)] at h; exact t_162_at hi w 2 h (mN mi) 0 (by omega)
/-- least -/
def mLeast (mi : zI) : Int32 := if mLaw mi 1 < 1 then 1 else mLaw mi 1
theorem t_192 {K : Int32 → zI → zJ → Prop} (hi : iH mi) (h : K (mLeast mi) mi ml) : TI (d + 3) 192 [.ref 0] zMS zMR mi ml K := by
  unfold mLeast at h
  refine TI_of (B_192 (t_162 hi 1 ⟨fun e => t_162 hi 1 ?_, fun e => ?_⟩))
  · rw [if_neg (Int32.not_lt.mpr e)] at h; exact h
  · rw [if_pos (Int32.not_le.mp e)] at h; exact h
/-- whether a pair's meeting still counts, some crossings later -/
abbrev sKnow (m cr forget : Int32) : Prop := ¬ m = -1 ∧ (forget = 0 ∨ cr - m < forget)

theorem t_161 {K : Int32 → zI → zJ → Prop} (hi : iH mi) {k : Nat} (hk : k < 10) (h : K (if sKnow (mi 1 k) (mi 0 4) (mLaw mi 2) then 1 else 0) mi ml) : TI (d + 3) 161 [.ref 0, .int (Int32.ofNat k)] zMS zMR mi ml K := by
  refine TI_of (B_161 _ (t_162 hi 2 ?_))
  rw [n_cl (by omega)]
  have hz : zin (Int32.ofNat k) 10 = true := n_zin hk (by omega)

  refine ⟨hz, fun e => ?_, fun e => ⟨fun e1 => ?_, fun e1 => ⟨hz, fun e2 => ?_, fun e2 => ?_⟩⟩⟩
  · rw [if_neg (fun q => q.1 e)] at h; exact h
  · rw [if_pos ⟨e, .inl e1⟩] at h; exact h
  · rw [if_neg (fun q => q.2.elim e1 (fun r => absurd e2 (Int32.not_le.mpr r)))] at h; exact h
  · rw [if_pos ⟨e, .inr (Int32.not_le.mp e2)⟩] at h; exact h
end LAWS
