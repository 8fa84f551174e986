/-! item, shift. -/
def aCut (s : Nat) (v : Int64) : Int64 := if s = 0 then Int32.toInt64 ((Int32.toInt8 (Int64.toInt32 v)).toInt32) else if s = 1 then Int32.toInt64 ((Int32.toInt16 (Int64.toInt32 v)).toInt32) else if s = 2 then Int32.toInt64 (Int64.toInt32 v) else if s = 3 then v else if lg_cmp v 0 = 0 then 0 else 1
section ITEMS
variable {d : Nat} {X : zS} {fr nx : Nat} {P : zR0} {c m : zI} {lc lm : zJ}
theorem t_152 {K : Int64 → zI → zJ → Prop} {s : Nat} {v : Int64} (hs : s < 5) (h : K (aCut s v) c lc) : TL (d + 1) 152 [.int (Int32.ofNat s), .long v] (zCS ++ X) (zCR fr nx P) c lc K := by
  have ne : ∀ a b : Nat, a < 5 → b < 5 → ¬ a = b → ¬ Int32.ofNat a = Int32.ofNat b := fun a b ha hb hn e => hn ((n_eq (by omega) (by omega)).mp e)
  have h5 : s = 0 ∨ s = 1 ∨ s = 2 ∨ s = 3 ∨ s = 4 := by omega
  unfold aCut at h
  rcases h5 with rfl | rfl | rfl | rfl | rfl
  · exact TL_of (B_152 _ _ ⟨fun _ => h, fun x => absurd rfl x⟩)
  · exact TL_of (B_152 _ _ ⟨fun x => absurd x (by decide), fun _ => ⟨fun _ => h, fun x => absurd rfl x⟩⟩)
  · exact TL_of (B_152 _ _ ⟨fun x => absurd x (by decide), fun _ => ⟨fun x => absurd x (by decide), fun _ => ⟨fun _ => h, fun x => absurd rfl x⟩⟩⟩)
  · exact TL_of (B_152 _ _ ⟨fun x => absurd x (by decide), fun _ => ⟨fun x => absurd x (by decide), fun _ => ⟨fun x => absurd x (by decide), fun _ => ⟨fun _ => h, fun x => absurd rfl x⟩⟩⟩⟩)
  · refine TL_of (B_152 _ _ ⟨fun x => absurd x (by decide), fun _ => ⟨fun x => absurd x (by decide), fun _ => ⟨fun x => absurd x (by decide), fun _ => ⟨fun x => absurd x (by decide), fun _ => ⟨fun _ => ⟨fun z => ?_, fun z => ?_⟩, fun x => absurd rfl x⟩⟩⟩⟩⟩)
    · rw [if_neg (by decide), if_neg (by decide), if_neg (by decide), if_neg (by decide), if_pos z] at h; exact h
    · rw [if_neg (by decide), if_neg (by decide), if_neg (by decide), if_neg (by decide), if_neg z] at h; exact h
theorem t_255 {K : Int64 → zI → zJ → Prop} {s : Nat} {v : Int64} (hs : s < 5) (h : K (aCut s v) m lm) : TL (d + 1) 255 [.int (Int32.ofNat s), .long v] zMS zMR m lm K := by
  have h5 : s = 0 ∨ s = 1 ∨ s = 2 ∨ s = 3 ∨ s = 4 := by omega
  unfold aCut at h
  rcases h5 with rfl | rfl | rfl | rfl | rfl
  · exact TL_of (B_255 _ _ ⟨fun x => absurd rfl x, fun _ => h⟩)
  · exact TL_of (B_255 _ _ ⟨fun _ => ⟨fun x => absurd rfl x, fun _ => h⟩, fun x => absurd (by decide) x⟩)
  · exact TL_of (B_255 _ _ ⟨fun _ => ⟨fun _ => ⟨fun x => absurd rfl x, fun _ => h⟩, fun x => absurd (by decide) x⟩, fun x => absurd (by decide) x⟩)
  · exact TL_of (B_255 _ _ ⟨fun _ => ⟨fun _ => ⟨fun _ => ⟨fun x => absurd rfl x, fun _ => h⟩, fun x => absurd (by decide) x⟩, fun x => absurd (by decide) x⟩, fun x => absurd (by decide) x⟩)
  · refine TL_of (B_255 _ _ ⟨fun _ => ⟨fun _ => ⟨fun _ => ⟨fun _ => ⟨fun z => ?_, fun z => ?_⟩, fun x => absurd (by decide) x⟩, fun x => absurd (by decide) x⟩, fun x => absurd (by decide) x⟩, fun x => absurd (by decide) x⟩)
    · rw [if_neg (by decide), if_neg (by decide), if_neg (by decide), if_neg (by decide), if_pos z] at h; exact h
    · rw [if_neg (by decide), if_neg (by decide), if_neg (by decide), if_neg (by decide), if_neg z] at h; exact h
theorem t_151 {K : Int32 → zI → zJ → Prop} {a b : Int32} {v : Int64} (hT : rTap c lc m lm) (h1 : ¬ (0 ≤ a ∧ a ≤ 5) → K (-1) c lc) (h2 : ∀ t, a = Int32.ofNat t → t < 6 → m 14 t = -1 → K (-11) c lc) (h3 : ∀ t, a = Int32.ofNat t → t < 6 → ¬ m 14 t = -1 → ¬ (0 ≤ b ∧ b.toNatClampNeg < mSz m t) → K (-13) c lc)
    (h : ∀ t s n, a = Int32.ofNat t → t < 6 → m 14 t = Int32.ofNat s → s < 5 → b = Int32.ofNat n → n < mSz m t → K 1 c (zu lc (36 + t) n (aCut s v))) : TI (d + 2) 151 [.ref 0, .int a, .int b, .long v] (zCS ++ X) (zCR fr nx P) c lc K := by
  refine TI_of (B_151 _ _ _ (t_124 (d := d) ?_))
  by_cases q : 0 ≤ a ∧ a ≤ 5
  · rw [if_pos q]
    obtain ⟨t, t6, ea, ec⟩ := n_tape q.1 q.2
    obtain ⟨c1, c2, c3⟩ := hT.1 t t6
    obtain ⟨i1, i2, i3⟩ := hT.2 t t6
    obtain ⟨z1, z2, z3⟩ := tp_row (X := X) (fr := fr) (nx := nx) (P := P) t6
    have hz := n_zin (k := t) (n := 6) t6 (by decide)
    subst ea
    refine ⟨fun _ => ⟨hz, ?_⟩, fun z => absurd one_ne z⟩
    rw [n_cl (show t < 2147483648 by omega), c1]
    refine ⟨fun w => t_125 (d := d) t6 i3 (by rw [c2]; exact i2) ?_, fun w => h2 t rfl t6 (Decidable.not_not.mp w)⟩
    obtain ⟨s, s5, es⟩ : ∃ s : Nat, s < 5 ∧ m 14 t = Int32.ofNat s := i1.elim (fun x => absurd x.1 w) id
    rw [Int32.toInt_toInt64]
    by_cases r : 0 ≤ b ∧ b.toNatClampNeg < mSz m t
    · obtain ⟨n, hn, rfl⟩ := n_nat (Int32.not_lt.mpr r.1)
      have r2 := r.2
      rw [n_cl hn] at r2
      rw [if_pos (by rw [n_int hn]; omega)]
      refine ⟨fun _ => ⟨hz, ?_⟩, fun z => absurd one_ne z⟩
      rw [z1]
      refine ⟨by omega, fun c5 e5 => ?_⟩
      obtain rfl : c5 = 36 + t := by omega
      refine ⟨hz, ?_⟩
      rw [c1, es]
      refine t_152 (d := d) s5 ?_
      rw [z2, z3, n_cl hn]
      exact ⟨rfl, n_zin (by omega) (by decide), h t s n rfl t6 es s5 rfl r2⟩
    · rw [if_neg (fun w => r ⟨by rw [Int32.le_iff_toInt_le]; exact w.1, by
        obtain ⟨n, hn, rfl⟩ := n_nat (x := b) (by rw [Int32.lt_iff_toInt_lt]; exact Int.not_lt.mpr w.1)
        rw [n_int hn] at w
        rw [n_cl hn]; omega⟩)]
      exact ⟨fun z => absurd rfl z, fun _ => h3 t rfl t6 w r⟩
  · rw [if_neg q]
    exact ⟨fun z => absurd rfl z, fun _ => h1 q⟩
theorem t_254 {K : Int32 → zI → zJ → Prop} {a b : Int32} {v : Int64} (hT : iTp m) (h1 : ¬ (0 ≤ a ∧ a ≤ 5) → K (-1) m lm) (h2 : ∀ t, a = Int32.ofNat t → t < 6 → m 14 t = -1 → K (-11) m lm) (h3 : ∀ t, a = Int32.ofNat t → t < 6 → ¬ m 14 t = -1 → ¬ (0 ≤ b ∧ b.toNatClampNeg < mSz m t) → K (-13) m lm)
    (h : ∀ t s n, a = Int32.ofNat t → t < 6 → m 14 t = Int32.ofNat s → s < 5 → b = Int32.ofNat n → n < mSz m t → K 1 m (zu lm 16 (60 * t + n) (aCut s v))) : TI (d + 3) 254 [.ref 0, .int a, .int b, .long v] zMS zMR m lm K := by
  refine TI_of (B_254 _ _ _ (t_241 (d := d) ?_))
  by_cases q : 0 ≤ a ∧ a ≤ 5
  · rw [if_pos q]
    obtain ⟨t, t6, ea, ec⟩ := n_tape q.1 q.2
    obtain ⟨i1, i2, i3⟩ := hT t t6
    have hz := n_zin (k := t) (n := 6) t6 (by decide)
    subst ea
    refine ⟨fun _ => ⟨hz, ?_⟩, fun z => absurd one_ne z⟩
    rw [n_cl (show t < 2147483648 by omega)]
    refine ⟨fun w => ⟨hz, t_157 (d := d + 1) ?_⟩, fun w => h2 t rfl t6 (Decidable.not_not.mp w)⟩
    obtain ⟨s, s5, es⟩ : ∃ s : Nat, s < 5 ∧ m 14 t = Int32.ofNat s := i1.elim (fun x => absurd x.1 w) id
    rw [i2]
    by_cases r : 0 ≤ b ∧ b.toNatClampNeg < mSz m t
    · obtain ⟨n, hn, rfl⟩ := n_nat (Int32.not_lt.mpr r.1)
      have r2 := r.2
      rw [n_cl hn] at r2
      rw [if_pos ⟨r.1, (n_lep (by omega)).mpr ((n_lt hn (by omega)).mpr r2)⟩]
      refine ⟨fun _ => ⟨hz, ?_⟩, fun z => absurd one_ne z⟩
      rw [es]
      refine t_255 (d := d + 1) s5 ?_
      rw [n_60, n_cl (show 60 * t + n < 2147483648 by omega)]
      exact ⟨n_zin (by omega) (by decide), h t s n rfl t6 es s5 rfl r2⟩
    · rw [if_neg (fun w => r ⟨w.1, by
        obtain ⟨n, hn, rfl⟩ := n_nat (Int32.not_lt.mpr w.1)
        rw [n_cl hn]
        exact (n_lt hn (by omega)).mp ((n_lep (by omega)).mp w.2)⟩)]
      exact ⟨fun z => absurd rfl z, fun _ => h3 t rfl t6 w r⟩
  · rw [if_neg q]
    exact ⟨fun z => absurd rfl z, fun _ => h1 q⟩
end ITEMS
theorem in_tape {a : Int32} {t : Nat} (e : a = Int32.ofNat t) (h : t < 6) : 0 ≤ a ∧ a ≤ 5 := by
  subst e
  exact ⟨(n_le (a := 0) (by decide) (by omega)).mpr (Nat.zero_le _), (n_le (b := 5) (by omega) (by decide)).mpr (by omega)⟩
theorem s_item {a b : Int32} {v : Int64} : sI 151 254 [.int a, .int b, .long v] := by
  intro X fr nx P c lc m lm h
  have hT := h.2.2.2.2.1
  have nb : ∀ {n t : Nat}, b = Int32.ofNat n → n < mSz m t → mSz m t ≤ 60 → 0 ≤ b ∧ b.toNatClampNeg < mSz m t := fun e h1 h2 => by
    subst e
    exact ⟨(n_le (a := 0) (by decide) (by omega)).mpr (Nat.zero_le _), by rw [n_cl (by omega)]; exact h1⟩
  refine TG_I (t_151 (d := 38) hT (fun z => ?_) (fun t ea t6 z => ?_) (fun t ea t6 z w => ?_) (fun t s n ea t6 es s5 eb nn => ?_))
  · exact t_254 (d := 37) hT.2 (fun _ => ⟨rfl, h⟩) (fun t ea t6 => absurd (in_tape ea t6) z) (fun t ea t6 => absurd (in_tape ea t6) z) (fun t _ _ ea t6 => absurd (in_tape ea t6) z)
  · refine t_254 (d := 37) hT.2 (fun y => absurd (in_tape ea t6) y) (fun _ _ _ _ => ⟨rfl, h⟩) (fun t' ea' t6' y => ?_) (fun t' s _ ea' t6' y _ => ?_)
    · obtain rfl := n_inj32 ea ea' (by omega) (by omega)
      exact absurd z y
    · obtain rfl := n_inj32 ea ea' (by omega) (by omega)
      rw [z] at y
      exact fun hs => absurd y.symm (n_ne1 (by omega))
  · refine t_254 (d := 37) hT.2 (fun y => absurd (in_tape ea t6) y) (fun t' ea' t6' y => ?_) (fun _ _ _ _ _ => ⟨rfl, h⟩) (fun t' s n' ea' t6' _ _ eb' nn' => ?_)
    · obtain rfl := n_inj32 ea ea' (by omega) (by omega)
      exact absurd y z
    · obtain rfl := n_inj32 ea ea' (by omega) (by omega)
      exact absurd (nb eb' nn' (hT.2 t t6).2.2) w
  · refine t_254 (d := 37) hT.2 (fun y => absurd (in_tape ea t6) y) (fun t' ea' t6' y => ?_) (fun t' ea' t6' _ y => ?_) (fun t' s' n' ea' t6' es' s5' eb' nn' => ⟨rfl, ?_⟩)
    · obtain rfl := n_inj32 ea ea' (by omega) (by omega)
      rw [es] at y
      exact absurd y (n_ne1 (by omega))
    · obtain rfl := n_inj32 ea ea' (by omega) (by omega)
      exact absurd (nb eb nn (hT.2 t t6).2.2) y
    · obtain rfl := n_inj32 ea ea' (by omega) (by omega)
      obtain rfl := n_inj32 es es' (by omega) (by omega)
      have sz := (hT.2 t t6).2.2
      obtain rfl : n = n' := (n_eq (by omega) (by omega)).mp (eb.symm.trans eb')
      refine rl_tp h (fun _ _ _ _ => rfl) (fun x k hx => zu_nc (by omega)) (fun _ _ _ _ => rfl) ⟨fun u hu => ?_, hT.2⟩
      obtain ⟨c1, c2, c3⟩ := hT.1 u hu
      refine ⟨c1, c2, fun k hk => ?_⟩
      by_cases q : u = t ∧ k = n
      · rw [q.1, q.2, zu_eq, zu_eq]
      · rw [zu_ne (by omega), zu_nk (by omega)]; exact c3 k hk
