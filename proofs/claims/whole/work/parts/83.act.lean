/-! The model: acts. -/
/-- the bodies that ran -/
def mTrc (mi : zI) (l : List Nat) : Prop := mi 0 22 = Int32.ofNat l.length ∧ ∀ j, j < l.length → j < 20 → mi 13 j = Int32.ofNat (l.getD j 0)
/-- the same but for them -/
def xR (m0 mi : zI) : Prop := ∀ c k, ¬ (c = 0 ∧ k = 22) → c ≠ 13 → mi c k = m0 c k
theorem xR.rfl {m : zI} : xR m m := fun _ _ _ _ => Eq.refl _
theorem xR.trans {a b c : zI} (h : xR a b) (h' : xR b c) : xR a c := fun x k p q => by rw [h' x k p q, h x k p q]
/-- what acts answer, and the bodies: i, v of the plan, K its kind; from the body of kind k on -/
def aTak (i v : Int32) (k : Nat) (x : Int32) : Int32 × List Nat :=
  if k = 2 ∨ k = 5 then (x * 3 + i, [30, 10]) else if k = 4 then (-(x + i), [50, 10]) else if k = 6 then ((x + i) ^^^ v, [71, 10]) else (x + i, [10])
def aRow (i v : Int32) (K k : Nat) (x : Int32) : Int32 × List Nat :=
  if k = 1 then (((aTak i v K x).1 - v) ^^^ 6, 20 :: 11 :: (aTak i v K x).2)
  else if k = 4 then (((aTak i v K (x + 1)).1 - v) ^^^ 6, 51 :: 20 :: 11 :: (aTak i v K (x + 1)).2)
  else if k = 6 then ((aTak i v K x).1 - v + (2 + i), 70 :: 11 :: ((aTak i v K x).2 ++ [10]))
  else ((aTak i v K x).1 - v, 11 :: (aTak i v K x).2)
def aTel (i v : Int32) (K k : Nat) (x : Int32) : Int32 × List Nat :=
  if k = 3 ∨ k = 6 then ((aRow i v K K x).1 * 2 + (aRow i v K K 1).1, 40 :: 12 :: ((aRow i v K K x).2 ++ (aRow i v K K 1).2))
  else if k = 5 then ((aRow i v K K (x - i)).1 * 2, 60 :: 12 :: (aRow i v K K (x - i)).2)
  else ((aRow i v K K x).1 * 2, 12 :: (aRow i v K K x).2)
theorem aTak_len (i v : Int32) (k : Nat) (x : Int32) : (aTak i v k x).2.length ≤ 2 := by
  unfold aTak
  split
  · exact Nat.le_refl _
  split
  · exact Nat.le_refl _
  split
  · exact Nat.le_refl _
  · exact Nat.le_succ _
theorem aRow_len (i v : Int32) (K k : Nat) (x : Int32) : (aRow i v K k x).2.length ≤ 5 := by
  have h := aTak_len i v K x
  have h1 := aTak_len i v K (x + 1)
  unfold aRow
  split
  · simp only [List.length_cons]; omega
  split
  · simp only [List.length_cons]; omega
  split
  · simp only [List.length_cons, List.length_append, List.length_nil]; omega
  · simp only [List.length_cons]; omega
theorem aTel_len (i v : Int32) (K k : Nat) (x : Int32) : (aTel i v K k x).2.length ≤ 12 := by
  have h := aRow_len i v K K x
  have h1 := aRow_len i v K K 1
  have h2 := aRow_len i v K K (x - i)
  unfold aTel
  split
  · simp only [List.length_cons, List.length_append]; omega
  split
  · simp only [List.length_cons]; omega
  · simp only [List.length_cons]; omega
section ACT
variable {d : Nat} {ml : zJ}
theorem t_246 {K : zI → zJ → Prop} {mi : zI} {l : List Nat} {b : Nat} (hT : mTrc mi l) (hl : l.length < 1000) (h : ∀ mi', xR mi mi' → mTrc mi' (l ++ [b]) → K mi' ml) : TV (d + 1) 246 [.ref 0, .int (Int32.ofNat b)] zMS zMR mi ml K := by
  obtain ⟨t1, t2⟩ := hT
  have g0 : ∀ j, j < l.length → (l ++ [b]).getD j 0 = l.getD j 0 := fun j hj => by simp only [List.getD_eq_getElem?_getD]; rw [List.getElem?_append_left hj]
  refine TV_of (B_246 _ ?_)
  rw [t1, n_suc]
  refine ⟨fun x => h _ (fun c k p q => zu_ne p) ⟨by rw [zu_eq, List.length_append]; rfl, fun j hj hj2 => ?_⟩, fun x => ?_⟩
  · have := (n_le (a := 20) (by decide) (by omega)).mp x
    rw [zu_nc (by decide), g0 j (by omega)]; exact t2 j (by omega) hj2
  · have hlt : l.length < 20 := Nat.lt_of_not_le (fun q => x ((n_le (a := 20) (by decide) (by omega)).mpr q))
    rw [n_cl (by omega)]
    refine ⟨n_zin hlt (by omega), h _ (fun c k p q => by rw [zu_ne p, zu_nc q]) ⟨by rw [zu_eq, List.length_append]; rfl, fun j hj hj2 => ?_⟩⟩
    rw [List.length_append, List.length_singleton] at hj
    rw [zu_nc (by decide)]
    by_cases e : j = l.length
    · subst e; rw [zu_eq]; simp [List.getD_eq_getElem?_getD]
    · rw [zu_nk e, g0 j (by omega)]; exact t2 j (by omega) hj2
theorem t_247 {K : Int32 → zI → zJ → Prop} {mi : zI} {k : Nat} (hk : 1 ≤ k ∧ k < 7) (h : K (Int32.ofNat (if k < 4 then 0 else k - 3)) mi ml) : TI (d + 1) 247 [.int (Int32.ofNat k)] zMS zMR mi ml K := by
  refine TI_of (B_247 _ ⟨fun _ => ⟨fun x => ?_, fun x => ?_⟩, fun x => absurd ((n_eq (b := 0) (by omega) (by decide)).mp (Decidable.not_not.mp x)) (by omega)⟩)
  · have := (n_le (a := 4) (by decide) (by omega)).mp x
    rw [if_neg (by omega)] at h
    have e : Int32.ofNat k - 3 = Int32.ofNat (k - 3) := n_sub (b := 3) (by omega)
    rw [e]; exact h
  · have : k < 4 := Nat.lt_of_not_le (fun q => x ((n_le (a := 4) (by decide) (by omega)).mpr q))
    rw [if_pos this] at h; exact h
/-- the plan that acts -/
def mAct (mi : zI) (p kd : Nat) (v : Int32) (l : List Nat) : Prop := mTrc mi l ∧ mi 0 58 = Int32.ofNat p ∧ p < 10 ∧ mi 2 p = Int32.ofNat kd ∧ mi 3 p = v ∧ kd < 7
theorem mAct.r {mi mi' : zI} {p kd : Nat} {v : Int32} {l l' : List Nat} (h : mAct mi p kd v l) (hx : xR mi mi') (hT : mTrc mi' l') : mAct mi' p kd v l' :=
  ⟨hT, by rw [hx 0 58 (by omega) (by decide)]; exact h.2.1, h.2.2.1, by rw [hx 2 p (by omega) (by decide)]; exact h.2.2.2.1, by rw [hx 3 p (by omega) (by decide)]; exact h.2.2.2.2.1, h.2.2.2.2.2⟩
theorem ne_k {a b : Nat} (ha : a < 7) (hb : b < 7) (h : a ≠ b) : Int32.ofNat a ≠ Int32.ofNat b := fun e => h ((n_eq (by omega) (by omega)).mp e)
theorem t_245 {K : Int32 → zI → zJ → Prop} {mi : zI} {p kd k : Nat} {v x : Int32} {l : List Nat} (hA : mAct mi p kd v l) (hl : l.length < 900) (hk : k < 7) (h : ∀ mi', xR mi mi' → mAct mi' p kd v (l ++ (aTak (Int32.ofNat p) v k x).2) → K (aTak (Int32.ofNat p) v k x).1 mi' ml) : TI (d + 4) 245 [.ref 0, .int (Int32.ofNat k), .int x] zMS zMR mi ml K := by
  -- the body of all
  have z0 : ∀ (d : Nat) (K : Int32 → zI → zJ → Prop) (mi : zI) (x : Int32) (l : List Nat), mAct mi p kd v l → l.length < 1000 → (∀ mi', xR mi mi' → mAct mi' p kd v (l ++ [10]) → K (x + Int32.ofNat p) mi' ml) → TI (d + 2) 245 [.ref 0, .int (Int32.ofNat 0), .int x] zMS zMR mi ml K := by
    intro d K mi x l hA hl h
    refine TI_of (B_245 _ _ ⟨fun _ => ⟨fun _ => ⟨fun _ => ⟨fun _ => t_246 (b := 10) hA.1 hl (fun mi' hx hT => ?_), fun q => absurd (Int32.le_refl _) q⟩, fun q => absurd (by decide) q⟩, fun q => absurd (by decide) q⟩, fun q => absurd (by decide) q⟩)
    have := hA.r hx hT
    rw [this.2.1]; exact h mi' hx this
  -- no body of its own: 1 or 3
  have z1 : ∀ (d k : Nat) (K : Int32 → zI → zJ → Prop) (mi : zI) (x : Int32) (l : List Nat), k = 1 ∨ k = 3 → mAct mi p kd v l → l.length < 1000 → (∀ mi', xR mi mi' → mAct mi' p kd v (l ++ [10]) → K (x + Int32.ofNat p) mi' ml) → TI (d + 3) 245 [.ref 0, .int (Int32.ofNat k), .int x] zMS zMR mi ml K := by
    intro d k K mi x l hk hA hl h
    refine TI_of (B_245 _ _ ⟨fun _ => ⟨fun _ => ⟨fun _ => ⟨fun q => absurd ((n_le (b := 0) (by omega) (by decide)).mp q) (by omega), fun _ => t_247 (by omega) ?_⟩, fun q => absurd (ne_k (b := 6) (by omega) (by decide) (by omega)) q⟩, fun q => absurd (ne_k (b := 4) (by omega) (by decide) (by omega)) q⟩, fun q => absurd (ne_k (b := 2) (by omega) (by decide) (by omega)) q⟩)
    rw [if_pos (by omega)]
    exact z0 d _ mi x l hA hl h
  have z2 : ∀ (d : Nat) (K : Int32 → zI → zJ → Prop) (mi : zI) (x : Int32) (l : List Nat), mAct mi p kd v l → l.length < 950 → (∀ mi', xR mi mi' → mAct mi' p kd v (l ++ [30, 10]) → K (x * 3 + Int32.ofNat p) mi' ml) → TI (d + 3) 245 [.ref 0, .int (Int32.ofNat 2), .int x] zMS zMR mi ml K := by
    intro d K mi x l hA hl h
    refine TI_of (B_245 _ _ ⟨fun q => absurd rfl q, fun _ => t_246 (b := 30) hA.1 (by omega) (fun m1 hx hT => t_247 (by decide) (z0 d _ m1 (x * 3) (l ++ [30]) (hA.r hx hT) (by rw [List.length_append, List.length_singleton]; omega) (fun m2 hx2 hA2 => ?_)))⟩)
    exact h m2 (hx.trans hx2) (by simpa using hA2)
  have hk7 : k = 0 ∨ k = 1 ∨ k = 2 ∨ k = 3 ∨ k = 4 ∨ k = 5 ∨ k = 6 := by omega
  rcases hk7 with rfl | rfl | rfl | rfl | rfl | rfl | rfl
  · exact z0 (d + 2) K mi x l hA (by omega) h
  · exact z1 (d + 1) 1 K mi x l (by decide) hA (by omega) h
  · exact z2 (d + 1) K mi x l hA (by omega) h
  · exact z1 (d + 1) 3 K mi x l (by decide) hA (by omega) h
  · refine TI_of (B_245 _ _ ⟨fun _ => ⟨fun q => absurd rfl q, fun _ => t_246 (b := 50) hA.1 (by omega) (fun m1 hx hT => t_247 (by decide) (z1 d 1 _ m1 x (l ++ [50]) (by decide) (hA.r hx hT) (by rw [List.length_append, List.length_singleton]; omega) (fun m2 hx2 hA2 => ?_)))⟩, fun q => absurd (by decide) q⟩)
    exact h m2 (hx.trans hx2) (by simpa [aTak] using hA2)
  · refine TI_of (B_245 _ _ ⟨fun _ => ⟨fun _ => ⟨fun _ => ⟨fun q => absurd q (by decide), fun _ => t_247 (by decide) (z2 d _ mi x l hA (by omega) h)⟩, fun q => absurd (by decide) q⟩, fun q => absurd (by decide) q⟩, fun q => absurd (by decide) q⟩)
  · refine TI_of (B_245 _ _ ⟨fun _ => ⟨fun _ => ⟨fun q => absurd rfl q, fun _ => t_246 (b := 71) hA.1 (by omega) (fun m1 hx hT => t_247 (by decide) (z1 d 3 _ m1 x (l ++ [71]) (by decide) (hA.r hx hT) (by rw [List.length_append, List.length_singleton]; omega) (fun m2 hx2 hA2 => ?_)))⟩, fun q => absurd (by decide) q⟩, fun q => absurd (by decide) q⟩)
    have hp := hA2.2.2.1
    rw [hA2.2.1, n_cl (by omega), hA2.2.2.2.2.1]
    exact ⟨n_zin hp (by omega), h m2 (hx.trans hx2) (by simpa [aTak] using hA2)⟩
theorem t_248 {K : Int32 → zI → zJ → Prop} {mi : zI} {p kd k : Nat} {v x : Int32} {l : List Nat} (hA : mAct mi p kd v l) (hl : l.length < 800) (hk : k < 7) (h : ∀ mi', xR mi mi' → mAct mi' p kd v (l ++ (aRow (Int32.ofNat p) v kd k x).2) → K (aRow (Int32.ofNat p) v kd k x).1 mi' ml) : TI (d + 7) 248 [.ref 0, .int (Int32.ofNat k), .int x] zMS zMR mi ml K := by
  have hkd := hA.2.2.2.2.2
  have z0 : ∀ (d : Nat) (K : Int32 → zI → zJ → Prop) (mi : zI) (x : Int32) (l : List Nat), mAct mi p kd v l → l.length < 850 → (∀ mi', xR mi mi' → mAct mi' p kd v (l ++ 11 :: (aTak (Int32.ofNat p) v kd x).2) → K ((aTak (Int32.ofNat p) v kd x).1 - v) mi' ml) → TI (d + 5) 248 [.ref 0, .int (Int32.ofNat 0), .int x] zMS zMR mi ml K := by
    intro d K mi x l hA hl h
    refine TI_of (B_248 _ _ ⟨fun _ => ⟨fun _ => ⟨fun _ => ⟨fun _ => t_246 (d := d + 3) (b := 11) hA.1 (by omega) (fun m1 hx hT => ?_), fun q => absurd (Int32.le_refl _) q⟩, fun q => absurd (by decide) q⟩, fun q => absurd (by decide) q⟩, fun q => absurd (by decide) q⟩)
    have hA1 := hA.r hx hT
    have hp := hA1.2.2.1
    rw [hA1.2.1, n_cl (by omega), hA1.2.2.2.1]
    refine ⟨n_zin hp (by omega), t_245 hA1 (by rw [List.length_append, List.length_singleton]; omega) hkd (fun m2 hx2 hA2 => ?_)⟩
    rw [hA2.2.1, n_cl (by omega), hA2.2.2.2.2.1]
    exact ⟨n_zin hp (by omega), h m2 (hx.trans hx2) (by simpa using hA2)⟩
  have z1 : ∀ (d k : Nat) (K : Int32 → zI → zJ → Prop) (mi : zI) (x : Int32) (l : List Nat), k = 2 ∨ k = 3 → mAct mi p kd v l → l.length < 850 → (∀ mi', xR mi mi' → mAct mi' p kd v (l ++ 11 :: (aTak (Int32.ofNat p) v kd x).2) → K ((aTak (Int32.ofNat p) v kd x).1 - v) mi' ml) → TI (d + 6) 248 [.ref 0, .int (Int32.ofNat k), .int x] zMS zMR mi ml K := by
    intro d k K mi x l hk hA hl h
    refine TI_of (B_248 _ _ ⟨fun _ => ⟨fun _ => ⟨fun _ => ⟨fun q => absurd ((n_le (b := 0) (by omega) (by decide)).mp q) (by omega), fun _ => t_247 (d := d + 4) (by omega) ?_⟩, fun q => absurd (ne_k (b := 6) (by omega) (by decide) (by omega)) q⟩, fun q => absurd (ne_k (b := 4) (by omega) (by decide) (by omega)) q⟩, fun q => absurd (ne_k (b := 1) (by omega) (by decide) (by omega)) q⟩)
    rw [if_pos (by omega)]
    exact z0 d _ mi x l hA hl h
  have z2 : ∀ (d : Nat) (K : Int32 → zI → zJ → Prop) (mi : zI) (x : Int32) (l : List Nat), mAct mi p kd v l → l.length < 840 → (∀ mi', xR mi mi' → mAct mi' p kd v (l ++ 20 :: 11 :: (aTak (Int32.ofNat p) v kd x).2) → K (((aTak (Int32.ofNat p) v kd x).1 - v) ^^^ 6) mi' ml) → TI (d + 6) 248 [.ref 0, .int (Int32.ofNat 1), .int x] zMS zMR mi ml K := by
    intro d K mi x l hA hl h
    refine TI_of (B_248 _ _ ⟨fun q => absurd rfl q, fun _ => t_246 (d := d + 4) (b := 20) hA.1 (by omega) (fun m1 hx hT => t_247 (d := d + 4) (by decide) (z0 d _ m1 x (l ++ [20]) (hA.r hx hT) (by rw [List.length_append, List.length_singleton]; omega) (fun m2 hx2 hA2 => ?_)))⟩)
    exact h m2 (hx.trans hx2) (by simpa using hA2)
  have hk7 : k = 0 ∨ k = 1 ∨ k = 2 ∨ k = 3 ∨ k = 4 ∨ k = 5 ∨ k = 6 := by omega
  rcases hk7 with rfl | rfl | rfl | rfl | rfl | rfl | rfl
  · exact z0 (d + 2) K mi x l hA (by omega) h
  · exact z2 (d + 1) K mi x l hA (by omega) h
  · exact z1 (d + 1) 2 K mi x l (by decide) hA (by omega) h
  · exact z1 (d + 1) 3 K mi x l (by decide) hA (by omega) h
  · refine TI_of (B_248 _ _ ⟨fun _ => ⟨fun q => absurd rfl q, fun _ => t_246 (d := d + 5) (b := 51) hA.1 (by omega) (fun m1 hx hT => t_247 (d := d + 5) (by decide) (z2 d _ m1 (x + 1) (l ++ [51]) (hA.r hx hT) (by rw [List.length_append, List.length_singleton]; omega) (fun m2 hx2 hA2 => ?_)))⟩, fun q => absurd (by decide) q⟩)
    exact h m2 (hx.trans hx2) (by simpa [aRow] using hA2)
  · refine TI_of (B_248 _ _ ⟨fun _ => ⟨fun _ => ⟨fun _ => ⟨fun q => absurd q (by decide), fun _ => t_247 (d := d + 5) (by decide) (z1 d 2 _ mi x l (by decide) hA (by omega) h)⟩, fun q => absurd (by decide) q⟩, fun q => absurd (by decide) q⟩, fun q => absurd (by decide) q⟩)
  · have h1 := aTak_len (Int32.ofNat p) v kd x
    refine TI_of (B_248 _ _ ⟨fun _ => ⟨fun _ => ⟨fun q => absurd rfl q, fun _ => t_246 (d := d + 5) (b := 70) hA.1 (by omega) (fun m1 hx hT => t_247 (d := d + 5) (by decide) (z1 d 3 _ m1 x (l ++ [70]) (by decide) (hA.r hx hT) (by rw [List.length_append, List.length_singleton]; omega) (fun m2 hx2 hA2 => t_247 (d := d + 5) (by decide) (t_245 (d := d + 2) (k := 3) (x := 2) hA2 (by simp only [List.length_append, List.length_cons, List.length_nil]; omega) (by decide) (fun m3 hx3 hA3 => ?_)))))⟩, fun q => absurd (by decide) q⟩, fun q => absurd (by decide) q⟩)
    exact h m3 ((hx.trans hx2).trans hx3) (by simpa [aRow, aTak] using hA3)
theorem t_249 {K : Int32 → zI → zJ → Prop} {mi : zI} {p kd k : Nat} {v x : Int32} {l : List Nat} (hA : mAct mi p kd v l) (hl : l.length < 700) (hk : k < 7) (h : ∀ mi', xR mi mi' → mAct mi' p kd v (l ++ (aTel (Int32.ofNat p) v kd k x).2) → K (aTel (Int32.ofNat p) v kd k x).1 mi' ml) : TI (d + 10) 249 [.ref 0, .int (Int32.ofNat k), .int x] zMS zMR mi ml K := by
  have hkd := hA.2.2.2.2.2
  have z0 : ∀ (d : Nat) (K : Int32 → zI → zJ → Prop) (mi : zI) (x : Int32) (l : List Nat), mAct mi p kd v l → l.length < 750 → (∀ mi', xR mi mi' → mAct mi' p kd v (l ++ 12 :: (aRow (Int32.ofNat p) v kd kd x).2) → K ((aRow (Int32.ofNat p) v kd kd x).1 * 2) mi' ml) → TI (d + 8) 249 [.ref 0, .int (Int32.ofNat 0), .int x] zMS zMR mi ml K := by
    intro d K mi x l hA hl h
    refine TI_of (B_249 _ _ ⟨fun _ => ⟨fun _ => ⟨fun _ => t_246 (d := d + 6) (b := 12) hA.1 (by omega) (fun m1 hx hT => ?_), fun q => absurd (Int32.le_refl _) q⟩, fun q => absurd (by decide) q⟩, fun q => absurd (by decide) q⟩)
    have hA1 := hA.r hx hT
    have hp := hA1.2.2.1
    rw [hA1.2.1, n_cl (by omega), hA1.2.2.2.1]
    refine ⟨n_zin hp (by omega), t_248 hA1 (by rw [List.length_append, List.length_singleton]; omega) hkd (fun m2 hx2 hA2 => ?_)⟩
    exact h m2 (hx.trans hx2) (by simpa using hA2)
  have z1 : ∀ (d k : Nat) (K : Int32 → zI → zJ → Prop) (mi : zI) (x : Int32) (l : List Nat), k = 1 ∨ k = 2 → mAct mi p kd v l → l.length < 750 → (∀ mi', xR mi mi' → mAct mi' p kd v (l ++ 12 :: (aRow (Int32.ofNat p) v kd kd x).2) → K ((aRow (Int32.ofNat p) v kd kd x).1 * 2) mi' ml) → TI (d + 9) 249 [.ref 0, .int (Int32.ofNat k), .int x] zMS zMR mi ml K := by
    intro d k K mi x l hk hA hl h
    refine TI_of (B_249 _ _ ⟨fun _ => ⟨fun _ => ⟨fun q => absurd ((n_le (b := 0) (by omega) (by decide)).mp q) (by omega), fun _ => t_247 (d := d + 7) (by omega) ?_⟩, fun q => absurd (ne_k (b := 5) (by omega) (by decide) (by omega)) q⟩, fun q => absurd (ne_k (b := 3) (by omega) (by decide) (by omega)) q⟩)
    rw [if_pos (by omega)]
    exact z0 d _ mi x l hA hl h
  have z3 : ∀ (d : Nat) (K : Int32 → zI → zJ → Prop) (mi : zI) (x : Int32) (l : List Nat), mAct mi p kd v l → l.length < 740 → (∀ mi', xR mi mi' → mAct mi' p kd v (l ++ 40 :: 12 :: ((aRow (Int32.ofNat p) v kd kd x).2 ++ (aRow (Int32.ofNat p) v kd kd 1).2)) → K ((aRow (Int32.ofNat p) v kd kd x).1 * 2 + (aRow (Int32.ofNat p) v kd kd 1).1) mi' ml) → TI (d + 9) 249 [.ref 0, .int (Int32.ofNat 3), .int x] zMS zMR mi ml K := by
    intro d K mi x l hA hl h
    have h5 := aRow_len (Int32.ofNat p) v kd kd x
    refine TI_of (B_249 _ _ ⟨fun q => absurd rfl q, fun _ => t_246 (d := d + 7) (b := 40) hA.1 (by omega) (fun m1 hx hT => t_247 (d := d + 7) (by decide) (z0 d _ m1 x (l ++ [40]) (hA.r hx hT) (by rw [List.length_append, List.length_singleton]; omega) (fun m2 hx2 hA2 => ?_)))⟩)
    have hp := hA2.2.2.1
    rw [hA2.2.1, n_cl (by omega), hA2.2.2.2.1]
    refine ⟨n_zin hp (by omega), t_248 (d := d + 1) (x := 1) hA2 (by simp only [List.length_append, List.length_cons, List.length_nil]; omega) hkd (fun m3 hx3 hA3 => ?_)⟩
    exact h m3 ((hx.trans hx2).trans hx3) (by simpa using hA3)
  have hk7 : k = 0 ∨ k = 1 ∨ k = 2 ∨ k = 3 ∨ k = 4 ∨ k = 5 ∨ k = 6 := by omega
  rcases hk7 with rfl | rfl | rfl | rfl | rfl | rfl | rfl
  · exact z0 (d + 2) K mi x l hA (by omega) h
  · exact z1 (d + 1) 1 K mi x l (by decide) hA (by omega) h
  · exact z1 (d + 1) 2 K mi x l (by decide) hA (by omega) h
  · exact z3 (d + 1) K mi x l hA (by omega) h
  · refine TI_of (B_249 _ _ ⟨fun _ => ⟨fun _ => ⟨fun q => absurd q (by decide), fun _ => t_247 (d := d + 8) (by decide) (z1 d 1 _ mi x l (by decide) hA (by omega) h)⟩, fun q => absurd (by decide) q⟩, fun q => absurd (by decide) q⟩)
  · refine TI_of (B_249 _ _ ⟨fun _ => ⟨fun q => absurd rfl q, fun _ => t_246 (d := d + 8) (b := 60) hA.1 (by omega) (fun m1 hx hT => t_247 (d := d + 8) (by decide) ?_)⟩, fun q => absurd (by decide) q⟩)
    have hA1 := hA.r hx hT
    rw [hA1.2.1]
    refine z1 d 2 _ m1 (x - Int32.ofNat p) (l ++ [60]) (by decide) hA1 (by rw [List.length_append, List.length_singleton]; omega) (fun m2 hx2 hA2 => ?_)
    exact h m2 (hx.trans hx2) (by simpa [aTel] using hA2)
  · refine TI_of (B_249 _ _ ⟨fun _ => ⟨fun _ => ⟨fun q => absurd q (by decide), fun _ => t_247 (d := d + 8) (by decide) (z3 d _ mi x l hA (by omega) h)⟩, fun q => absurd (by decide) q⟩, fun q => absurd (by decide) q⟩)
end ACT
