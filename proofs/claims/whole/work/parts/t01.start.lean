/-! The law's start: what the tables say of classes, static tables and texts. -/
theorem lw_T {args : Array Value} {s : State} (hts : ∀ w ∈ lw_tbl, w.before args s = true) : ∀ w ∈ zwT, w.before args s = true := fun w hw => hts w (List.mem_filter.mp hw).1
theorem lK_p {args : Array Value} {s : State} {ty : FieldType} (h : (Cond.arrayClass ty).before args s = true) (hp : ∀ C, ty ≠ .object C) : ∃ cA, ArrOfT s cA ty ∧ va_RA s cA ty := by
  obtain ⟨cA, kA, comp, h1, h2, h3⟩ := Cond.arrayClass_spec h
  refine ⟨cA, fun n z => ⟨(fun k h => by cases h), kA, h2, comp, h3⟩, ?_⟩
  cases ty <;> first | exact h1 | exact absurd rfl (hp _)
theorem lK_o {s : State} {C : String} (h : va_AO C s) : ∃ cA, ArrOfT s cA (.object C) ∧ va_RA s cA (.object C) := by
  obtain ⟨comp, cA, kA, f1, -, f2, f3, f4⟩ := Cond.arrayOver_spec h
  exact ⟨cA, fun n z => ⟨(fun k h => by cases h), kA, f2, comp, f3⟩, kA, comp, f2, f3, f1, f4⟩
theorem lK_a {s : State} {t : FieldType} (h : va_Nw (.arrayOver (.array t)) s) : ∃ cA, ArrOfT s cA (.array t) ∧ va_RA s cA (.array t) := by
  obtain ⟨comp, cA, kA, f1, f2, f3, f4⟩ := Cond.arrayOver_specA h
  exact ⟨cA, fun n z => ⟨(fun k h => by cases h), kA, f2, comp, f3⟩, f4⟩
theorem lw_Kn {args : Array Value} {s : State} (hts : ∀ w ∈ zwT, w.before args s = true) : ∀ ci : Nat, ∃ r : ClassId × (Nat → Nat), ∀ q : vw_C, zcl[ci]? = some q → u_Kn s q.1 q.2.1 q.2.2 r.1 r.2 := by
  intro ci
  cases hq : zcl[ci]? with
  | none => exact ⟨(0, fun _ => 0), fun q h => by cases h⟩
  | some q =>
    obtain ⟨C, T, N⟩ := q
    obtain ⟨h1, -, -, h4⟩ := zuT hq
    have h13 := zcl_lt hq
    have hi : ∃ n, (Cond.instantiable C n).before args s = true := by
      rw [h4]
      by_cases h5 : ci ≠ 12 ∧ ci ≠ 11
      · obtain ⟨-, T', N', e, h⟩ := z_new1 h13 h5
        exact ⟨N', hts _ h⟩
      · have : ci = 12 ∨ ci = 11 := by omega
        rcases this with rfl | rfl
        · exact ⟨60, hts _ (zmem_wT (zhas_mem (by decide +kernel)) rfl)⟩
        · exact ⟨15, hts _ (zmem_wT (zhas_mem (by decide +kernel)) rfl)⟩
    obtain ⟨n, hn⟩ := hi
    obtain ⟨cC, iS, h⟩ := u_known hts h1 hn
    exact ⟨(cC, iS), fun q h' => by cases h'; exact h⟩
theorem lw_K {args : Array Value} {s : State} (hts : ∀ w ∈ lw_tbl, w.before args s = true) : ∃ (D : va_G) (cA : Nat → Nat), va_K D zcl (ztys cA) s := by
  obtain ⟨f, hf⟩ := Classical.axiomOfChoice (lw_Kn (lw_T hts))
  obtain ⟨c0, q0⟩ := lK_p (hts (.arrayClass .int) (by decide +kernel)) (fun C h => by cases h)
  obtain ⟨c1, q1⟩ := lK_p (hts (.arrayClass .long) (by decide +kernel)) (fun C h => by cases h)
  obtain ⟨c2, q2⟩ := lK_p (hts (.arrayClass .byte) (by decide +kernel)) (fun C h => by cases h)
  obtain ⟨c3, q3⟩ := lK_p (hts (.arrayClass .boolean) (by decide +kernel)) (fun C h => by cases h)
  obtain ⟨c4, q4⟩ := lK_o (va_AO.of (hts (.arrayOver (.object "OnlyStrangers$Scene")) (by decide +kernel)))
  obtain ⟨c5, q5⟩ := lK_o (va_AO.of (hts (.arrayOver (.object "OnlyStrangers$Parish")) (by decide +kernel)))
  obtain ⟨c6, q6⟩ := lK_o (va_AO.of (hts (.arrayOver (.object "OnlyStrangers$Plan")) (by decide +kernel)))
  obtain ⟨c7, q7⟩ := lK_a (t := .long) (hts (.arrayOver (.array .long)) (by decide +kernel))
  obtain ⟨c8, q8⟩ := lK_a (t := .int) (hts (.arrayOver (.array .int)) (by decide +kernel))
  refine ⟨(fun k => (f k).1, fun k => (f k).2), fun k => match k with | 100 => c0 | 101 => c1 | 102 => c2 | 103 => c3 | 104 => c4 | 105 => c5 | 106 => c6 | 107 => c7 | _ => c8, fun k q hq => hf k q hq, fun k q hq => ?_⟩
  match k, hq with
  | 0, hq => cases hq; exact q0
  | 1, hq => cases hq; exact q1
  | 2, hq => cases hq; exact q2
  | 3, hq => cases hq; exact q3
  | 4, hq => cases hq; exact q4
  | 5, hq => cases hq; exact q5
  | 6, hq => cases hq; exact q6
  | 7, hq => cases hq; exact q7
  | 8, hq => cases hq; exact q8
  | k + 9, hq => simp [ztys] at hq
theorem lNw {w : Cond} {A : Array Value} {s : State} (hz : zisN w = true) (h : w.before A s = true) : va_Nw w s := by
  cases w <;> simp [zisN] at hz
  · exact h
  · exact h
  · exact h
abbrev lA (s : State) : Nat → Prop := fun q => s.heap.size ≤ q
def zKs : List Nat := [51, 63, 68, 73, 96, 102, 82]
abbrev lTm (i : Nat) : Term := .string "OnlyStrangers$Reader" (zKs.getD i 0)
theorem lw_env {b : Addr} {s : State} (hts : ∀ w ∈ lw_tbl, w.before #[Value.ref b] s = true) (hg : (Jvm.Cond.and given_1 narrow_1).before #[Value.ref b] s = true) : ∃ sp, zEnv sp (lA s) s s.heap := by
  have hs := flat_of_before _ hg
  have hA : ∀ a : Nat, a < s.heap.size → ¬ lA s a := fun a h => Nat.not_le.mpr h
  obtain ⟨t1, e1, T1⟩ := va_Tof (tm := .static "OnlyStrangers" "PAIRS_OF" "[I") (ty := .int) (N := 32) (f := fun j => .int ((zTab 1).getD j 0)) (A := lA s) (by decide) (hs _ (by decide +kernel)) (va_eqt (hs _ (by decide +kernel))) (fun j hj => va_eqt (hs _ (by revert j; decide +kernel))) hA
  obtain ⟨t2, e2, T2⟩ := va_Tof (tm := .static "OnlyStrangers" "APART" "[I") (ty := .int) (N := 32) (f := fun j => .int ((zTab 2).getD j 0)) (A := lA s) (by decide) (hs _ (by decide +kernel)) (va_eqt (hs _ (by decide +kernel))) (fun j hj => va_eqt (hs _ (by revert j; decide +kernel))) hA
  obtain ⟨t3, e3, T3⟩ := va_Tof (tm := .static "OnlyStrangers" "KIND_ABOVE" "[I") (ty := .int) (N := 7) (f := fun j => .int ((zTab 3).getD j 0)) (A := lA s) (by decide) (hs _ (by decide +kernel)) (va_eqt (hs _ (by decide +kernel))) (fun j hj => va_eqt (hs _ (by revert j; decide +kernel))) hA
  obtain ⟨adK, adV, S1, S2⟩ := vk_Sof (N := 7) (tm := lTm) (len := zLen) (byt := zByt) (A := lA s) (by decide) (fun i hi => hs _ (by revert i; decide +kernel)) (fun i hi => hs _ (by revert i; decide +kernel)) (fun i hi => hs _ (by revert i; decide +kernel)) (fun i hi => hs _ (by revert i; decide +kernel)) (fun i hi j hj => hs _ (by revert j; revert i; decide +kernel)) (fun i j hi hj hij => by
    have k : ∀ i, i < 7 → ∀ j, j < 7 → i ≠ j → (Cond.not (.eq (lTm i) (lTm j)) ∈ flatC (Jvm.Cond.and given_1 narrow_1) ∨ Cond.not (.eq (lTm j) (lTm i)) ∈ flatC (Jvm.Cond.and given_1 narrow_1)) := by decide +kernel
    rcases k i hi j hj hij with h | h
    · exact Or.inl (hs _ h)
    · exact Or.inr (hs _ h)) hA
  have Z30 : ∃ f31 t30 : Nat, va_Z "jdk/internal/util/Preconditions" "SIOOBE_FORMATTER" "Ljava/util/function/BiFunction;" (if f31 = 0 then .null else .ref t30) (lA s) s s.heap := by
    rcases va_Zqof (A := lA s) (hts (.laysStatic "jdk/internal/util/Preconditions" "SIOOBE_FORMATTER" "Ljava/util/function/BiFunction;") (by decide +kernel)) (hts _ (by decide +kernel)) (hs _ (by decide +kernel)) hA with h | ⟨t, h⟩
    · exact ⟨0, 0, h⟩
    · exact ⟨1, t, h⟩
  obtain ⟨f31, t30, Z30⟩ := Z30
  refine ⟨fun n => if n = 30 then t30 else if n = 31 then f31 else if n = 1 then t1 else if n = 2 then t2 else if n = 3 then t3 else if n < 17 then adK (n - 10) else adV (n - 20), ⟨fun w hw => lNw (List.mem_filter.mp hw).2 (hts w (List.mem_filter.mp hw).1), va_AO.of (hts _ (by decide +kernel)), va_AO.of (hts _ (by decide +kernel)), va_AO.of (hts _ (by decide +kernel)), hts (.arrayOver (.array .long)) (by decide +kernel), hts (.arrayOver (.array .int)) (by decide +kernel)⟩, ⟨va_Zof (hts _ (by decide +kernel)) (hts _ (by decide +kernel)) e1 hA, va_Zof (hts _ (by decide +kernel)) (hts _ (by decide +kernel)) e2 hA, va_Zof (hts _ (by decide +kernel)) (hts _ (by decide +kernel)) e3 hA⟩, fun k k1 k3 => ?_, ⟨va_Zof (hts _ (by decide +kernel)) (hts _ (by decide +kernel)) (va_eqt (hs _ (by decide +kernel))) hA, ?_⟩, ⟨vk_R.of (hts _ (by decide +kernel)) (S2 0 (by decide)), vk_R.of (hts _ (by decide +kernel)) (S2 1 (by decide)), vk_R.of (hts _ (by decide +kernel)) (S2 2 (by decide)), vk_R.of (hts _ (by decide +kernel)) (S2 3 (by decide)), vk_R.of (hts _ (by decide +kernel)) (S2 4 (by decide)), vk_R.of (hts _ (by decide +kernel)) (S2 5 (by decide)), vk_R.of (hts _ (by decide +kernel)) (S2 6 (by decide))⟩, fun i hi => ?_, fun i j hi hj e => ?_⟩
  · have : k = 1 ∨ k = 2 ∨ k = 3 := by omega
    rcases this with rfl | rfl | rfl
    · exact T1
    · exact T2
    · exact T3
  · have e9 : ∀ g : Nat → Nat, g 31 = f31 → g 30 = t30 → zsq g 30 = (if f31 = 0 then .null else .ref t30) := by
      intro g h1 h2
      unfold zsq
      rw [h1, h2]
      by_cases h : f31 = 0 <;> simp [h]
    rw [e9 _ rfl rfl]
    exact Z30
  · have := S1.1 i hi
    have a1 : ¬ 10 + i = 30 := by omega
    have a2 : ¬ 10 + i = 31 := by omega
    have a3 : ¬ 10 + i = 1 := by omega
    have a4 : ¬ 10 + i = 2 := by omega
    have a5 : ¬ 10 + i = 3 := by omega
    have a6 : 10 + i < 17 := by omega
    have b1 : ¬ 20 + i = 30 := by omega
    have b2 : ¬ 20 + i = 31 := by omega
    have b3 : ¬ 20 + i = 1 := by omega
    have b4 : ¬ 20 + i = 2 := by omega
    have b5 : ¬ 20 + i = 3 := by omega
    have b6 : ¬ 20 + i < 17 := by omega
    dsimp only
    rw [if_neg a1, if_neg a2, if_neg a3, if_neg a4, if_neg a5, if_pos a6, if_neg b1, if_neg b2, if_neg b3, if_neg b4, if_neg b5, if_neg b6, Nat.add_sub_cancel_left, Nat.add_sub_cancel_left]
    exact this
  · have go : ∀ i, i < 7 → (if 10 + i = 30 then t30 else if 10 + i = 31 then f31 else if 10 + i = 1 then t1 else if 10 + i = 2 then t2 else if 10 + i = 3 then t3 else if 10 + i < 17 then adK (10 + i - 10) else adV (10 + i - 20)) = adK i := by
      intro i hi
      rw [if_neg (by omega), if_neg (by omega), if_neg (by omega), if_neg (by omega), if_neg (by omega), if_pos (by omega), Nat.add_sub_cancel_left]
    have e' : adK i = adK j := (go i hi).symm.trans ((show _ = _ from e).trans (go j hj))
    exact S1.2 i j hi hj e'
