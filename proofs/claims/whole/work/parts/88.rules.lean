/-! The class: the rules that hold, open groups, circles, worth. -/
/-- the worths, one behind the other -/
def cWs (c : zI) (t : Nat) : Nat → Nat → List pCl → Prop
  | _, _, [] => True
  | k, a, x :: ws => (c (t + 2) k = Int32.ofNat x.2.1 ∧ c (t + 3) k = Int32.ofNat (a + x.2.2.length) ∧ cSteps c t a x.2.2) ∧ cWs c t (k + 1) (a + x.2.2.length) ws
def wCl (cs : List pCl) : List pCl := cs.filter (fun x => x.1 == 4)
/-- a Parish object is this text -/
def cPa (t : Nat) (c : zI) (cs : List pCl) : Prop := (c t 0 = Int32.ofNat (cLaw 0 2 cs) ∧ c t 1 = Int32.ofNat (cLaw 1 1 cs) ∧ c t 2 = Int32.ofNat (cLaw 2 0 cs) ∧ c t 3 = sBits (fun k => cBarB cs k = true) 10) ∧ (c t 8 = Int32.ofNat (wCl cs).length ∧ (wCl cs).length ≤ 10) ∧ cWs c t 0 0 (wCl cs) ∧ (aTk (wCl cs)).length ≤ 100
/-- the Parish object that holds -/
def ruC (m : zI) : Nat := if m 0 13 = -1 then 27 else 44 + 5 * mP m
def cRu (c m : zI) (cs : List pCl) : Prop := c 1 6 = m 0 13 ∧ iHold m cs ∧ iCs cs ∧ cPa (ruC m) c cs
theorem ruC_of {m : zI} {cs : List pCl} (h : iHold m cs) : iPc (ruC m) ∧ ((m 0 13 = -1 ∧ ruC m = 27) ∨ ∃ p : Nat, p < 6 ∧ m 0 13 = Int32.ofNat p ∧ ruC m = 44 + 5 * p) := by
  rcases h with ⟨h, -⟩ | ⟨p, hp, h, -⟩
  · have e : ruC m = 27 := by unfold ruC; rw [if_pos h]
    exact ⟨.inl e, .inl ⟨h, e⟩⟩
  · have e0 : mP m = p := by unfold mP; rw [h, n_cl (by omega)]
    have e : ruC m = 44 + 5 * p := by unfold ruC; rw [if_neg (by rw [h]; exact n_ne1 (by omega)), e0]
    refine ⟨?_, .inr ⟨p, hp, h, e⟩⟩
    unfold iPc; omega
theorem cWs_eq {c c' : zI} {t : Nat} (h1 : ∀ k, c' (t + 1) k = c (t + 1) k) (h2 : ∀ k, c' (t + 2) k = c (t + 2) k) (h3 : ∀ k, c' (t + 3) k = c (t + 3) k) : ∀ (ws : List pCl) (k a : Nat), cWs c t k a ws → cWs c' t k a ws
  | [], _, _, _ => trivial
  | x :: ws, k, a, q => ⟨⟨by rw [h2]; exact q.1.1, by rw [h3]; exact q.1.2.1, cSteps_eq _ _ (fun i _ _ => h1 i) q.1.2.2⟩, cWs_eq h1 h2 h3 ws _ _ q.2⟩
theorem cPa_eq {c c' : zI} {t : Nat} {cs : List pCl} (h0 : ∀ k, c' t k = c t k) (h1 : ∀ k, c' (t + 1) k = c (t + 1) k) (h2 : ∀ k, c' (t + 2) k = c (t + 2) k) (h3 : ∀ k, c' (t + 3) k = c (t + 3) k) (q : cPa t c cs) : cPa t c' cs := by
  obtain ⟨⟨a, b, e, f⟩, ⟨g, g2⟩, i, j⟩ := q
  exact ⟨⟨by rw [h0]; exact a, by rw [h0]; exact b, by rw [h0]; exact e, by rw [h0]; exact f⟩, ⟨by rw [h0]; exact g, g2⟩, cWs_eq h1 h2 h3 _ _ _ i, j⟩
section RULES
variable {d : Nat} {ml : zJ} {X : zS} {fr nx : Nat} {P : zR0} {t : Nat} {c m : zI} {cs : List pCl}
theorem t_11 {K : Nat → zI → zJ → Prop} (hR : cRu c m cs) (h : K (ruC m + 1) c ml) : TA (d + 1) 11 [.ref 0] (zCS ++ X) (zCR fr nx P) c ml K := by
  obtain ⟨r1, r2, -⟩ := hR
  refine TA_of (B_11 ?_)
  rw [r1]
  rcases (ruC_of r2).2 with ⟨e, e2⟩ | ⟨p, hp, e, e2⟩
  · rw [e2] at h
    rw [e]
    exact ⟨fun _ => h, fun x => absurd (by decide) x⟩
  · rw [e2] at h
    rw [e]
    refine ⟨fun x => absurd ((n_lt (b := 0) (by omega) (by decide)).mp x) (by omega), fun _ => ⟨fun x => absurd ((n_le (a := 6) (by decide) (by omega)).mp x) (by omega), fun _ => ⟨n_zin hp (by decide), ?_⟩⟩⟩
    rw [n_cl (by omega)]
    have hz : ∀ p : Nat, p < 6 → zCR fr nx P 32 p = 45 + 5 * p := by
      intro p hp
      have : p = 0 ∨ p = 1 ∨ p = 2 ∨ p = 3 ∨ p = 4 ∨ p = 5 := by omega
      rcases this with rfl | rfl | rfl | rfl | rfl | rfl <;> rfl
    rw [hz p hp]
    refine ⟨by omega, fun c1 hc => ?_⟩
    have : c1 + 1 = 44 + 5 * p + 1 := by omega
    show K (c1 + 1) c ml
    rw [this]; exact h
theorem g_pa {k : Nat} (ht : iPc t) (hk : k < 10) : zand (zhas [4] (zk (zCS ++ X) t)) (Nat.blt k (zn (zCS ++ X) t)) = true := by
  have e1 : zk (zCS ++ X) t = 4 ∧ zn (zCS ++ X) t = 10 := by
    rcases ht with rfl | rfl | rfl | rfl | rfl | rfl | rfl <;> exact ⟨rfl, rfl⟩
  rw [e1.1, e1.2]
  have : ∀ k : Nat, k < 10 → zand (zhas [4] 4) (Nat.blt k 10) = true := by decide
  exact this k hk
theorem t_65 {K : Int32 → zI → zJ → Prop} (ht : iSc t) (hR : cRu c m cs) (hS : cSc t c m) (h : K (Int32.ofNat (clN m cs)) c ml) : TI (d + 2) 65 [.ref 0, .ref t] (zCS ++ X) (zCR fr nx P) c ml K := by
  have hR' := hR
  obtain ⟨r1, r2, r3, ⟨p0, p1, p2, p3⟩, -⟩ := hR'
  have hi := (ruC_of r2).1
  refine TI_of (B_65 t ht (t_11 hR ⟨by omega, fun c2 e => ?_⟩))
  obtain rfl : c2 = ruC m := by omega
  refine ⟨g_pa hi (by decide), t_12 ht hS ⟨g_pa hi (by decide), ?_⟩⟩
  have l2 : mLaw m 2 = Int32.ofNat (cLaw 2 0 cs) := hold_law r2 r3 (w := 2) (by decide)
  rw [p3, p2, ← l2, Int32.add_zero, sBits_bN _ 10 (by decide), sBits_bN _ 10 (by decide), n_or, bN_or]
  exact h
theorem t_68 {K : Int32 → zI → zJ → Prop} {g : Nat} (hg : g < 32) (ht : iPc t) (hP : cPa t c cs) (hc : iCs cs) (h : K (if cLaw 1 1 cs ≤ oN g ∧ oN g ≤ cLaw 0 2 cs then 1 else 0) c ml) : TI (d + 2) 68 [.ref t, .int (Int32.ofNat g)] (zCS ++ X) (zCR fr nx P) c ml K := by
  obtain ⟨⟨p0, p1, p2, p3⟩, -⟩ := hP
  have b1 := cLaw_lt (w := 1) cs 1 hc (by decide)
  have b0 := cLaw_lt (w := 0) cs 2 hc (by decide)
  have o2 := (oN_ok g hg).2
  refine TI_of (B_68 t _ ht (t_50g hg ?_))
  rw [p0, p1]
  refine ⟨fun x => ?_, fun x => ⟨fun y => ?_, fun y => ?_⟩⟩
  · have := (n_lt (by omega) (by omega)).mp x
    rw [if_neg (by omega)] at h; exact h
  · have := (n_lt (by omega) (by omega)).mp y
    rw [if_neg (by omega)] at h; exact h
  · have hx : ¬ oN g < cLaw 1 1 cs := fun q => x ((n_lt (by omega) (by omega)).mpr q)
    have hy : ¬ cLaw 0 2 cs < oN g := fun q => y ((n_lt (by omega) (by omega)).mpr q)
    rw [if_pos (by omega)] at h; exact h
theorem gp_closed (g : Nat) (hg : g < 32) : (zTab 1).getD g 0 &&& Int32.ofNat (clN m cs) = 0 ↔ gpN g &&& clN m cs = 0 := by
  rw [← gPairs_tab g hg, (gpN_ok g hg).1, n_and]
  have := clN_lt m cs
  exact n_eq (b := 0) (Nat.lt_of_le_of_lt Nat.and_le_right (by omega)) (by decide)
theorem t_64_16 {Q : zQ} (ht : iSc t) (hR : cRu c m cs) (hh : hN m < 32) (h : Q (some (.int (Int32.ofNat (bN (opP m cs) 32)))) c ml) : ∀ j g : Nat, g + j = 32 → 1 ≤ g → Wf (d + 3) 64 16 [.retAddr 0, .retAddr 0, .ref (ruC m), .int (Int32.ofNat (clN m cs)), .int (Int32.ofNat (hN m)), .int (Int32.ofNat (bN (opP m cs) g)), .int (Int32.ofNat g)] [] (zCS ++ X) (zCR fr nx P) c ml Q
  | 0, g, e, h1 => by
    obtain rfl : g = 32 := by omega
    exact B_64_16 t _ _ _ _ _ ht ⟨fun _ => h, fun x => absurd (show (32 : Int32) ≤ Int32.ofNat 32 by decide) x⟩
  | j + 1, g, e, h1 => by
    have hR' := hR
    obtain ⟨r1, r2, r3, r4⟩ := hR'
    have hi := (ruC_of r2).1
    have ih := t_64_16 ht hR hh h j (g + 1) (by omega) (by omega)
    rw [bN] at ih
    have hs := sub_tab g (by omega) (hN m) hh
    have hz := gp_closed (m := m) (cs := cs) g (by omega)
    have tgt : ztg (zCS ++ X) 64 [.ref (ruC m), .int (Int32.ofNat g)] = some 68 := by
      rcases hi with q | q | q | q | q | q | q <;> rw [q] <;> rfl
    refine B_64_16 t _ _ _ _ _ ht ⟨fun x => absurd ((n_le (a := 32) (by decide) (by omega)).mp x) (by omega), fun _ => ⟨fun x => ?_, fun x => ⟨68, tgt, show 2 ≤ 3 by decide, t_68 (by omega) hi r4 r3 ⟨fun y => ?_, fun y => ⟨n_zin (by omega) (by decide), ?_⟩⟩⟩⟩⟩
    · rw [if_neg (fun q => x (hs.mpr q.2.1))] at ih
      rw [n_suc]; exact ih
    · rw [if_neg (fun q => by rw [if_pos q.2.2.1] at y; exact absurd y (by decide))] at ih
      rw [n_suc]; exact ih
    · have hy : cLaw 1 1 cs ≤ oN g ∧ oN g ≤ cLaw 0 2 cs := Decidable.byContradiction fun q => y (by rw [if_neg q])
      have hx : gSub g (hN m) := hs.mp (Decidable.not_not.mp x)
      rw [n_suc, n_cl (by omega), n_pow32 g (by omega), n_or]
      refine ⟨fun z => ?_, fun z => ?_⟩
      · rw [if_neg (fun q => z (hz.mpr q.2.2.2))] at ih; exact ih
      · rw [if_pos ⟨h1, hx, hy, hz.mp (Decidable.not_not.mp z)⟩] at ih; exact ih
/-- openGroups -/
theorem t_64 {K : Int32 → zI → zJ → Prop} (ht : iSc t) (hR : cRu c m cs) (hS : cSc t c m) (hp : iP m) (hb : iB m) (hw : iW m) (h : K (Int32.ofNat (bN (opP m cs) 32)) c ml) : TI (d + 3) 64 [.ref 0, .ref t] (zCS ++ X) (zCR fr nx P) c ml K := by
  have hpw := pow_tri _ hp
  have hh := hN_lt hp hw
  refine TI_of (B_64 t ht (t_11 hR ⟨by omega, fun c2 e => ?_⟩))
  obtain rfl : c2 = ruC m := by omega
  refine t_65 ht hR hS (t_66 ht hS hp hb hw ?_)
  have q := t_64_16 (d := d) (X := X) (fr := fr) (nx := nx) (P := P) (Q := qI K) ht hR (by omega) h 31 1 rfl (by decide)
  have e1 : bN (opP m cs) 1 = 0 := by rw [bN, if_neg (fun q => absurd q.1 (by decide))]; rfl
  rw [e1] at q
  exact q
/-- the biggest circle among some -/
def cBig (m : zI) (cs : List pCl) (among : Nat) : Nat → Nat
  | 0 => 0
  | g + 1 => if 1 ≤ g ∧ gSub g among ∧ gpN g &&& clN m cs = 0 ∧ oN (cBig m cs among g) < oN g then g else cBig m cs among g
theorem cBig_lt (m : zI) (cs : List pCl) (among : Nat) : ∀ g, cBig m cs among g = 0 ∨ cBig m cs among g < g
  | 0 => .inl rfl
  | g + 1 => by
    rw [cBig]
    split
    · right; omega
    · rcases cBig_lt m cs among g with h | h
      · exact .inl h
      · right; omega
theorem t_110_11 {Q : zQ} {among : Nat} (ha : among < 32) (h : Q (some (.int (Int32.ofNat (cBig m cs among 32)))) c ml) : ∀ j g : Nat, g + j = 32 → 1 ≤ g → Wf (d + 3) 110 11 [.retAddr 0, .int (Int32.ofNat among), .int (Int32.ofNat (clN m cs)), .int (Int32.ofNat (cBig m cs among g)), .int (Int32.ofNat g), .retAddr 0] [] (zCS ++ X) (zCR fr nx P) c ml Q
  | 0, g, e, h1 => by
    obtain rfl : g = 32 := by omega
    exact B_110_11 _ _ _ _ ⟨fun _ => h, fun x => absurd (show (32 : Int32) ≤ Int32.ofNat 32 by decide) x⟩
  | j + 1, g, e, h1 => by
    have ih := t_110_11 ha h j (g + 1) (by omega) (by omega)
    rw [cBig] at ih
    have hs := sub_tab g (by omega) among ha
    have hz := gp_closed (m := m) (cs := cs) g (by omega)
    have hb := cBig_lt m cs among g
    have o1 := (oN_ok g (by omega)).2
    have o2 := (oN_ok (cBig m cs among g) (by omega)).2
    refine B_110_11 _ _ _ _ ⟨fun x => absurd ((n_le (a := 32) (by decide) (by omega)).mp x) (by omega), fun _ => ⟨fun x => ?_, fun x => ⟨n_zin (by omega) (by decide), ?_⟩⟩⟩
    · rw [if_neg (fun q => x (hs.mpr q.2.1))] at ih
      rw [n_suc]; exact ih
    · have hx : gSub g among := hs.mp (Decidable.not_not.mp x)
      rw [n_suc, n_cl (by omega)]
      refine ⟨fun y => ?_, fun y => t_50g (by omega) (t_50g (by omega) ⟨fun z => ?_, fun z => ?_⟩)⟩
      · rw [if_neg (fun q => y (hz.mpr q.2.2.1))] at ih; exact ih
      · have z := (n_le (by omega) (by omega)).mp z
        rw [if_neg (by omega)] at ih; exact ih
      · have z : oN (cBig m cs among g) < oN g := Nat.lt_of_not_le (fun q => z ((n_le (by omega) (by omega)).mpr q))
        rw [if_pos ⟨h1, hx, hz.mp (Decidable.not_not.mp y), z⟩] at ih; exact ih
theorem t_110 {K : Int32 → zI → zJ → Prop} {among : Nat} (ha : among < 32) (hR : cRu c m cs) (hS : cSc 1 c m) (h : K (Int32.ofNat (cBig m cs among 32)) c ml) : TI (d + 4) 110 [.ref 0, .int (Int32.ofNat among)] (zCS ++ X) (zCR fr nx P) c ml K := by
  refine TI_of (B_110 _ (t_65 (d := d + 1) (.inl rfl) hR hS ?_))
  have q := t_110_11 (d := d + 1) (X := X) (fr := fr) (nx := nx) (P := P) (Q := qI K) (m := m) (cs := cs) ha h 31 1 rfl (by decide)
  have e1 : cBig m cs among 1 = 0 := by rw [cBig, if_neg (fun q => absurd q.1 (by decide))]; rfl
  rw [e1] at q
  exact q
end RULES
/-- the class's circle is the model's -/
theorem cBig_all {m : zI} {cs : List pCl} (hp : iP m) (hH : iHold m cs) (hc : iCs cs) : cBig m cs (2 ^ mPe m - 1) 32 = cBest m (tkOf cs) (2 ^ mPe m) := by
  obtain ⟨q1, q2⟩ := iP_of hp
  have hpw := pow_tri _ hp
  have t10 := sTri_le _ q2
  have hsub : ∀ p : Nat, p < 6 → ∀ g : Nat, g < 32 → (gSub g (2 ^ p - 1) ↔ g < 2 ^ p) := by decide +kernel
  have hok : ∀ g, g < 32 → g < 2 ^ mPe m → (gpN g &&& clN m cs = 0 ↔ cOK m (tkOf cs) g) := by
    intro g hg hg2
    have hgp : ∀ k, k < 10 → (gPair g k ↔ (gpN g).testBit k = true) := by
      have : ∀ g : Nat, g < 32 → ∀ k : Nat, k < 10 → (gPair g k ↔ (gpN g).testBit k = true) := by decide +kernel
      exact this g hg
    rw [and0_iff]
    constructor
    · intro h k hk hb
      have := h k ((hgp k (by omega)).mp hb.1)
      rw [clN, bN_bit, decide_eq_false_iff_not] at this
      exact this ⟨by omega, hb.2.elim .inl (fun q => .inr ((hold_bar hH hc (by omega)).mp q))⟩
    · intro h k hk
      have k10 := gp_10 hg hk
      have kt := gp_tri _ q2 g hg k k10 hg2 hk
      rw [clN, bN_bit, decide_eq_false_iff_not]
      intro q
      exact h k kt ⟨(hgp k k10).mpr hk, q.2.elim .inl (fun r => .inr ((hold_bar hH hc k10).mpr r))⟩
  have main : ∀ g, g ≤ 32 → cBig m cs (2 ^ mPe m - 1) g = cBest m (tkOf cs) (min g (2 ^ mPe m)) := by
    intro g
    induction g with
    | zero => intro _; rw [Nat.zero_min]; rfl
    | succ g ih =>
      intro hg
      rw [cBig, ih (by omega)]
      by_cases h : g < 2 ^ mPe m
      · rw [Nat.min_eq_left (by omega), Nat.min_eq_left (by omega), cBest]
        have e1 := hok g (by omega) h
        have e2 := hsub _ q2 g (by omega)
        by_cases q : 1 ≤ g ∧ oN (cBest m (tkOf cs) g) < oN g ∧ cOK m (tkOf cs) g
        · rw [if_pos q, if_pos ⟨q.1, e2.mpr h, e1.mpr q.2.2, q.2.1⟩]
        · rw [if_neg q, if_neg (fun r => q ⟨r.1, r.2.2.2, e1.mp r.2.2.1⟩)]
      · rw [Nat.min_eq_right (by omega), Nat.min_eq_right (by omega), if_neg (fun r => h ((hsub _ q2 g (by omega)).mp r.2.1))]
  rw [main 32 (Nat.le_refl _), Nat.min_eq_right hpw.2.1]
