/-! circle; groups. -/
section CIRCLE
variable {d : Nat} {X : zS} {fr nx : Nat} {P : zR0} {cs : List pCl} {c m : zI} {lc : zJ}
theorem t_109 {K : Int32 → zI → zJ → Prop} (hp : iP m) (hR : cRu c m cs) (hS : cSc 1 c m) (h : K (aCircle m (tkOf cs)) c lc) : TI (d + 5) 109 [.ref 0] (zCS ++ X) (zCR fr nx P) c lc K := by
  have pw := pow_tri _ hp
  refine TI_of (B_109 (t_67 (d := d + 3) (.inl rfl) hp hS.1 (t_110 (d := d) (m := m) (cs := cs) (by omega) hR hS ?_)))
  rw [cBig_all hp hR.2.1 hR.2.2.1]
  exact h
/-- groups: how many may go -/
theorem t_88 {K : Int32 → zI → zJ → Prop} {n : Nat} (hA : iA n m (tkOf cs)) (hL : iL m (tkOf cs)) (hR : cRu c m cs) (hS : cSc 1 c m) (h : K (Int32.ofNat (gl (mGoes m) 32).length) c lc) : TI (d + 4) 88 [.ref 0] (zCS ++ X) (zCR fr nx P) c lc K := by
  refine TI_of (B_88 (t_64 (d := d) (.inl rfl) hR hS hA.2.1 hA.2.2.2.1 hA.2.2.2.2.1 (t_50 (d := d + 2) (bN_lt (opP m cs) 32) ?_)))
  rw [pc_gl (S := opP m cs) (fun g q => q.1) 32 (Nat.le_refl _)]
  have egl : gl (opP m cs) 32 = gl (mGoes m) 32 := gl_congr1 32 (fun g hg h1 => (op_iff hA hL hR.2.1 hR.2.2.1 hg).trans ⟨fun q => q.2, fun q => ⟨h1, q⟩⟩)
  rw [egl]
  exact h
end CIRCLE
