/-! plan: a new one. -/
theorem g_at {S : zS} (q : Nat × Nat) : (S ++ [q])[S.length]? = some q := by simp
theorem g_lt {S Y : zS} {c : Nat} {q : Nat × Nat} (h : S[c]? = some q) : (S ++ Y)[c]? = some q := by
  have := (List.getElem?_eq_some_iff.mp h).1
  rw [List.getElem?_append_left this]; exact h
theorem zk_some {S : zS} {c : Nat} {q : Nat × Nat} (h : S[c]? = some q) : zk S c = q.1 ∧ zn S c = q.2 := by
  unfold zk zn
  rw [zgl_eq, h]
  exact ⟨rfl, rfl⟩
theorem zw0_at {α : Type} {f : Nat → Nat → α} {c k : Nat} {v : α} : zw0 f c v c k = v := by unfold zw0; rw [if_pos rfl]
theorem zw0_ne {α : Type} {f : Nat → Nat → α} {c a k : Nat} {v : α} (h : a ≠ c) : zw0 f c v a k = f a k := by unfold zw0; rw [if_neg h]
section NEWP
variable {d : Nat} {S : zS} {R : zR0} {mi : zI} {ml : zJ} {Q : Option Value → zS → zR0 → zI → zJ → Prop} {t b ci nf : Nat} {x y z : Int32}
theorem c_56 (hS : S[t]? = some (ci, nf)) (hci : [0, 1, 2, 3, 5, 9, 10].contains ci = true) (hn : 4 ≤ nf) (k : Q none S (zu R t 3 (b + 1)) (zu (zu (zu mi t 0 x) t 1 y) t 2 z) ml) : Tz d 56 [.ref t, .int x, .int y, .int z, .ref b] S R mi ml Q := by
  show Wz d 56 0 [.ref t, .int x, .int y, .int z, .ref b] [] S R mi ml Q
  refine r_run 4 (C := zC_56) (i1 := 4) rfl rfl ?_
  refine r_putI (j := 56) (f := 65) rfl hS hci (show 0 < nf by omega) rfl ?_
  refine r_run 2 (C := zC_56) (i1 := 7) rfl rfl ?_
  refine r_putI (j := 56) (f := 66) rfl hS hci (show 1 < nf by omega) rfl ?_
  refine r_run 2 (C := zC_56) (i1 := 10) rfl rfl ?_
  refine r_putI (j := 56) (f := 67) rfl hS hci (show 2 < nf by omega) rfl ?_
  refine r_run 2 (C := zC_56) (i1 := 13) rfl rfl ?_
  refine r_putR (j := 56) (f := 68) rfl hS hci (show 3 < nf by omega) rfl ?_
  exact r_ret (r := none) (I := .return_) rfl rfl rfl rfl k
def C5 (v : Nat) : List Instr := [.aload 0, .iload 1, .iload 2, .iload 3, .aload 4, .invokespecial v, .return_]
/-- a constructor that only calls the one above it -/
theorem c_sup {j v j1 : Nat} (hC : zC j = C5 v) (hM : (zM j).1 = 5) (hv : (zV v).1 = 5) (hv2 : (zV v).2.1 = 2) (hv3 : (zV v).2.2 = [(99, j1)]) (hM1 : (zM j1).1 = 5) (hS : S[t]? = some (ci, nf)) (h13 : ci < 13) (k : Tz d j1 [.ref t, .int x, .int y, .int z, .ref b] S R mi ml (fun r S1 R1 mi1 ml1 => r = none ∧ Q none S1 R1 mi1 ml1)) : Tz (d + 1) j [.ref t, .int x, .int y, .int z, .ref b] S R mi ml Q := by
  have e : zent [.ref t, .int x, .int y, .int z, .ref b] (zM j).1 = [.ref t, .int x, .int y, .int z, .ref b] := by rw [hM]; rfl
  unfold Tz
  rw [e]
  refine r_run 5 (C := C5 v) (i1 := 5) hC rfl ?_
  refine r_call (I := .invokespecial v) (v := v) (j1 := j1) (n := 5) (args := [.ref t, .int x, .int y, .int z, .ref b]) (rest := []) (r_at hC rfl) rfl rfl rfl rfl hv (Nat.le_refl 5) rfl rfl (tg_sp (q := (99, j1)) (by rw [(zk_some hS).1]; exact h13) hv2 hv3) (by decide) (by rw [hM1]; exact Nat.le_refl 5) (Tz.mono k (fun r S1 R1 mi1 ml1 ⟨e1, q⟩ => ?_))
  subst e1
  exact r_ret (r := none) (I := .return_) (r_at hC rfl) rfl rfl rfl q
theorem ci_13 {ci : Nat} (h : [0, 1, 2, 3, 5, 9, 10].contains ci = true) : ci < 13 := by
  simp at h
  omega
/-- what a new plan's constructor leaves -/
abbrev nP (S : zS) (R : zR0) (mi : zI) (t b : Nat) (x y z : Int32) (R' : zR0) (mi' : zI) : Prop := R' = zu R t 3 (b + 1) ∧ mi' = zu (zu (zu mi t 0 x) t 1 y) t 2 z
theorem c_56' (hS : S[t]? = some (ci, nf)) (hci : [0, 1, 2, 3, 5, 9, 10].contains ci = true) (hn : 4 ≤ nf) (k : Q none S (zu R t 3 (b + 1)) (zu (zu (zu mi t 0 x) t 1 y) t 2 z) ml) : Tz d 56 [.ref t, .int x, .int y, .int z, .ref b] S R mi ml (fun r S1 R1 mi1 ml1 => r = none ∧ Q none S1 R1 mi1 ml1) := c_56 hS hci hn ⟨rfl, k⟩
theorem c_55 (hS : S[t]? = some (ci, nf)) (hci : [0, 1, 2, 3, 5, 9, 10].contains ci = true) (hn : 4 ≤ nf) (k : Q none S (zu R t 3 (b + 1)) (zu (zu (zu mi t 0 x) t 1 y) t 2 z) ml) : Tz (d + 1) 55 [.ref t, .int x, .int y, .int z, .ref b] S R mi ml Q := c_sup (v := 53) (j1 := 56) rfl rfl rfl rfl rfl rfl hS (ci_13 hci) (c_56' hS hci hn k)
theorem c_57 (hS : S[t]? = some (ci, nf)) (hci : [0, 1, 2, 3, 5, 9, 10].contains ci = true) (hn : 4 ≤ nf) (k : Q none S (zu R t 3 (b + 1)) (zu (zu (zu mi t 0 x) t 1 y) t 2 z) ml) : Tz (d + 1) 57 [.ref t, .int x, .int y, .int z, .ref b] S R mi ml Q := c_sup (v := 54) (j1 := 56) rfl rfl rfl rfl rfl rfl hS (ci_13 hci) (c_56' hS hci hn k)
theorem c_58 (hS : S[t]? = some (ci, nf)) (hci : [0, 1, 2, 3, 5, 9, 10].contains ci = true) (hn : 4 ≤ nf) (k : Q none S (zu R t 3 (b + 1)) (zu (zu (zu mi t 0 x) t 1 y) t 2 z) ml) : Tz (d + 1) 58 [.ref t, .int x, .int y, .int z, .ref b] S R mi ml Q := c_sup (v := 55) (j1 := 56) rfl rfl rfl rfl rfl rfl hS (ci_13 hci) (c_56' hS hci hn k)
theorem c_59 (hS : S[t]? = some (ci, nf)) (hci : [0, 1, 2, 3, 5, 9, 10].contains ci = true) (hn : 4 ≤ nf) (k : Q none S (zu R t 3 (b + 1)) (zu (zu (zu mi t 0 x) t 1 y) t 2 z) ml) : Tz (d + 2) 59 [.ref t, .int x, .int y, .int z, .ref b] S R mi ml Q := c_sup (v := 56) (j1 := 55) rfl rfl rfl rfl rfl rfl hS (ci_13 hci) (c_55 hS hci hn ⟨rfl, k⟩)
theorem c_61 (hS : S[t]? = some (ci, nf)) (hci : [0, 1, 2, 3, 5, 9, 10].contains ci = true) (hn : 4 ≤ nf) (k : Q none S (zu R t 3 (b + 1)) (zu (zu (zu mi t 0 x) t 1 y) t 2 z) ml) : Tz (d + 2) 61 [.ref t, .int x, .int y, .int z, .ref b] S R mi ml Q := c_sup (v := 58) (j1 := 58) rfl rfl rfl rfl rfl rfl hS (ci_13 hci) (c_58 hS hci hn ⟨rfl, k⟩)
/-- what a new told plan has more -/
def tR (R : zR0) (t L : Nat) : zR0 := zu (zw0 (zu (zw0 R L 0) t 4 (L + 1)) (L + 1) 0) t 5 (L + 1 + 1)
theorem c_60 (hS : S[t]? = some (10, 6)) (k : Q none (S ++ [(100, 3)] ++ [(100, 3)]) (tR (zu R t 3 (b + 1)) t S.length) (zw0 (zw0 (zu (zu (zu mi t 0 x) t 1 y) t 2 z) S.length 0) (S.length + 1) 0) (zw0 (zw0 ml S.length 0) (S.length + 1) 0)) : Tz (d + 2) 60 [.ref t, .int x, .int y, .int z, .ref b] S R mi ml Q := by
  show Wz (d + 2) 60 0 [.ref t, .int x, .int y, .int z, .ref b] [] S R mi ml Q
  refine r_run 5 (C := zC_60) (i1 := 5) rfl rfl ?_
  refine r_call (j := 60) (I := .invokespecial 57) (v := 57) (j1 := 57) (n := 5) (args := [.ref t, .int x, .int y, .int z, .ref b]) (rest := []) rfl rfl rfl rfl rfl rfl (Nat.le_refl 5) rfl rfl (tg_sp (q := (99, 57)) (by rw [(zk_some hS).1]; decide) rfl rfl) (by decide) (Nat.le_refl 5) (c_57 hS (by decide) (by decide) ?_)
  have hl : (S ++ [((100 : Nat), (3 : Nat))]).length = S.length + 1 := by rw [List.length_append]; rfl
  have hS1 : (S ++ [((100 : Nat), (3 : Nat))])[t]? = some (10, 6) := g_lt hS
  have hS2 : (S ++ [((100 : Nat), (3 : Nat))] ++ [((100 : Nat), (3 : Nat))])[t]? = some (10, 6) := g_lt hS1
  show Wz (d + 2) 60 6 [.ref t, .int x, .int y, .int z, .ref b] [] S (zu R t 3 (b + 1)) (zu (zu (zu mi t 0 x) t 1 y) t 2 z) ml Q
  refine r_run 3 (C := zC_60) (i1 := 9) (L1 := [.ref t, .int x, .int y, .int z, .ref b]) (st1 := [.ref S.length, .ref t]) (S1 := S ++ [(100, 3)]) (R1 := zw0 (zu R t 3 (b + 1)) S.length 0) (mi1 := zw0 (zu (zu (zu mi t 0 x) t 1 y) t 2 z) S.length 0) (ml1 := zw0 ml S.length 0) rfl rfl ?_
  refine r_putR (j := 60) (f := 69) rfl hS1 (by decide) (by decide) rfl ?_
  refine r_run 3 (C := zC_60) (i1 := 13) (L1 := [.ref t, .int x, .int y, .int z, .ref b]) (st1 := [.ref (S ++ [((100 : Nat), (3 : Nat))]).length, .ref t]) (S1 := S ++ [(100, 3)] ++ [(100, 3)]) (R1 := zw0 (zu (zw0 (zu R t 3 (b + 1)) S.length 0) t 4 (S.length + 1)) (S ++ [((100 : Nat), (3 : Nat))]).length 0) (mi1 := zw0 (zw0 (zu (zu (zu mi t 0 x) t 1 y) t 2 z) S.length 0) (S ++ [((100 : Nat), (3 : Nat))]).length 0) (ml1 := zw0 (zw0 ml S.length 0) (S ++ [((100 : Nat), (3 : Nat))]).length 0) rfl rfl ?_
  rw [hl]
  refine r_putR (j := 60) (f := 70) rfl hS2 (by decide) (by decide) rfl ?_
  exact r_ret (r := none) (I := .return_) rfl rfl rfl rfl k
/-- what newPlan leaves: L the new plan's cell -/
def nPl (S : zS) (R : zR0) (mi : zI) (ml : zJ) (kd : Nat) (y z : Int32) (S' : zS) (R' : zR0) (mi' : zI) (ml' : zJ) : Prop :=
  S' = S ++ (if kd = 5 then [(10, 6), (100, 3), (100, 3)] else [(zKd kd, 4)]) ∧ (∀ c k, c < S.length → R' c k = R c k ∧ mi' c k = mi c k ∧ ml' c k = ml c k) ∧ R' S.length 3 = 35 ∧ mi' S.length 0 = Int32.ofNat kd ∧ mi' S.length 1 = y ∧ mi' S.length 2 = z ∧ (kd = 5 → R' S.length 4 = S.length + 2 ∧ R' S.length 5 = S.length + 3 ∧ ∀ k, mi' (S.length + 1) k = 0 ∧ mi' (S.length + 2) k = 0)
theorem nPl_of {kd : Nat} (hk : ¬ kd = 5) : nPl S R mi ml kd y z (S ++ [(zKd kd, 4)]) (zu (zw0 R S.length 0) S.length 3 (34 + 1)) (zu (zu (zu (zw0 mi S.length 0) S.length 0 (Int32.ofNat kd)) S.length 1 y) S.length 2 z) (zw0 ml S.length 0) := by
  refine ⟨by rw [if_neg hk], fun c k h => ⟨?_, ?_, ?_⟩, ?_, ?_, ?_, ?_, fun e => absurd e hk⟩
  · rw [zu_nc (by omega), zw0_ne (by omega)]
  · rw [zu_nc (by omega), zu_nc (by omega), zu_nc (by omega), zw0_ne (by omega)]
  · rw [zw0_ne (by omega)]
  · rw [zu_eq]
  · rw [zu_nk (by decide), zu_nk (by decide), zu_eq]
  · rw [zu_nk (by decide), zu_eq]
  · rw [zu_eq]
theorem nPl_5 : nPl S R mi ml 5 y z (S ++ [(10, 6)] ++ [(100, 3)] ++ [(100, 3)]) (tR (zu (zw0 R S.length 0) S.length 3 (34 + 1)) S.length (S.length + 1)) (zw0 (zw0 (zu (zu (zu (zw0 mi S.length 0) S.length 0 (Int32.ofNat 5)) S.length 1 y) S.length 2 z) (S.length + 1) 0) (S.length + 1 + 1) 0) (zw0 (zw0 (zw0 ml S.length 0) (S.length + 1) 0) (S.length + 1 + 1) 0) := by
  unfold tR
  refine ⟨by rw [if_pos rfl, List.append_assoc, List.append_assoc]; rfl, fun c k h => ⟨?_, ?_, ?_⟩, ?_, ?_, ?_, ?_, fun _ => ⟨?_, ?_, fun k => ⟨?_, ?_⟩⟩⟩
  · rw [zu_nc (by omega), zw0_ne (by omega), zu_nc (by omega), zw0_ne (by omega), zu_nc (by omega), zw0_ne (by omega)]
  · rw [zw0_ne (by omega), zw0_ne (by omega), zu_nc (by omega), zu_nc (by omega), zu_nc (by omega), zw0_ne (by omega)]
  · rw [zw0_ne (by omega), zw0_ne (by omega), zw0_ne (by omega)]
  · rw [zu_nk (by decide), zw0_ne (by omega), zu_nk (by decide), zw0_ne (by omega), zu_eq]
  · rw [zw0_ne (by omega), zw0_ne (by omega), zu_nk (by decide), zu_nk (by decide), zu_eq]
  · rw [zw0_ne (by omega), zw0_ne (by omega), zu_nk (by decide), zu_eq]
  · rw [zw0_ne (by omega), zw0_ne (by omega), zu_eq]
  · rw [zu_nk (by decide), zw0_ne (by omega), zu_eq]
  · rw [zu_eq]
  · rw [zw0_ne (by omega), zw0_at]
  · rw [show S.length + 2 = S.length + 1 + 1 by omega, zw0_at]
/-- a branch of newPlan -/
def C9 (ci v : Nat) : List Instr := [.new ci, .dup, .iload 1, .iload 2, .iload 3, .aload 0, .getfield 11, .invokespecial v, .areturn]
theorem c_54b {i ci v j1 nf : Nat} {Z : zI → zR0 → Prop} (hC : ∀ q, q < 9 → (zC 54)[i + q]? = (C9 ci v)[q]?) (hcl : ∃ a c, zcl[ci]? = some (a, c, nf)) (hv : (zV v).1 = 5) (hv2 : (zV v).2.1 = 2) (hv3 : (zV v).2.2 = [(99, j1)]) (hM1 : (zM j1).1 = 5) (h13 : ci < 13) (h0 : S[0]? = some (11, 15)) (hb : R 0 11 = 35)
    (k : Tz d j1 [.ref S.length, .int x, .int y, .int z, .ref 34] (S ++ [(ci, nf)]) (zw0 R S.length 0) (zw0 mi S.length 0) (zw0 ml S.length 0) (fun r S1 R1 mi1 ml1 => r = none ∧ Q (some (.ref S.length)) S1 R1 mi1 ml1)) : Wz (d + 1) 54 i [.ref 0, .int x, .int y, .int z] [] S R mi ml Q := by
  obtain ⟨a9, c9, hcl⟩ := hcl
  have hS0 : (S ++ [(ci, nf)])[0]? = some (11, 15) := g_lt h0
  have hl0 : 0 < S.length := (List.getElem?_eq_some_iff.mp h0).1
  refine r_st (I := .new ci) (by have := hC 0 (by decide); exact this) (by show (match zcl[ci]? with | some q => znew ci q.2.2 _ _ _ _ _ _ | none => none) = _; rw [hcl]; rfl) ?_
  refine r_st (I := .dup) (hC 1 (by decide)) rfl ?_
  refine r_st (I := .iload 1) (hC 2 (by decide)) rfl ?_
  refine r_st (I := .iload 2) (hC 3 (by decide)) rfl ?_
  refine r_st (I := .iload 3) (hC 4 (by decide)) rfl ?_
  refine r_st (I := .aload 0) (hC 5 (by decide)) rfl ?_
  refine r_getR (f := 11) (v := 35) (hC 6 (by decide)) hS0 (by decide) (by decide) rfl (by show zw0 R S.length 0 0 11 = 35; rw [zw0_ne (by omega)]; exact hb) ?_
  refine r_call (I := .invokespecial v) (v := v) (j1 := j1) (n := 5) (args := [.ref S.length, .int x, .int y, .int z, .ref 34]) (rest := [.ref S.length]) (hC 7 (by decide)) rfl rfl rfl rfl hv (show 5 ≤ 6 by decide) rfl rfl (tg_sp (q := (99, j1)) (by rw [(zk_some (g_at (S := S) (ci, nf))).1]; exact h13) hv2 hv3) (show 1 ≤ 8 by decide) (by rw [hM1]; exact Nat.le_refl 5) (Tz.mono k (fun r S1 R1 mi1 ml1 ⟨e1, q⟩ => ?_))
  subst e1
  exact r_ret (r := some (.ref S.length)) (I := .areturn) (hC 8 (by decide)) rfl rfl rfl q
theorem t_54 {kd : Nat} (hk : kd < 7) (h0 : S[0]? = some (11, 15)) (hb : R 0 11 = 35) (k : ∀ S' R' mi' ml', nPl S R mi ml kd y z S' R' mi' ml' → Q (some (.ref S.length)) S' R' mi' ml') : Tz (d + 3) 54 [.ref 0, .int (Int32.ofNat kd), .int y, .int z] S R mi ml Q := by
  show Wz (d + 3) 54 0 [.ref 0, .int (Int32.ofNat kd), .int y, .int z] [] S R mi ml Q
  refine r_run 1 (C := zC_54) (i1 := 1) rfl rfl ?_
  have ne : ∀ a b : Nat, a < 7 → b < 7 → ¬ a = b → ¬ Int32.ofNat a = Int32.ofNat b := fun a b ha hb hn e => hn ((n_eq (by omega) (by omega)).mp e)
  have h7 : kd = 0 ∨ kd = 1 ∨ kd = 2 ∨ kd = 3 ∨ kd = 4 ∨ kd = 5 ∨ kd = 6 := by omega
  have at_ : ∀ {n : Nat}, (S ++ [(n, 4)])[S.length]? = some (n, 4) := g_at _
  refine r_sw (j := 54) (df := 56) (ps := #[(1, 2), (2, 11), (3, 20), (4, 29), (5, 38), (6, 47)]) rfl ?_
  rcases h7 with rfl | rfl | rfl | rfl | rfl | rfl | rfl
  · refine ⟨fun e => absurd e (by decide), fun _ => ⟨fun e => absurd e (by decide), fun _ => ⟨fun e => absurd e (by decide), fun _ => ⟨fun e => absurd e (by decide), fun _ => ⟨fun e => absurd e (by decide), fun _ => ⟨fun e => absurd e (by decide), fun _ => ?_⟩⟩⟩⟩⟩⟩
    exact c_54b (i := 56) (ci := 5) (v := 52) (j1 := 56) (nf := 4) (Z := fun _ _ => True) (by decide) ⟨_, _, rfl⟩ rfl rfl rfl rfl (by decide) h0 hb (c_56 at_ (by decide) (by decide) ⟨rfl, k _ _ _ _ (nPl_of (kd := 0) (by decide))⟩)
  · refine ⟨fun _ => ?_, fun e => absurd rfl e⟩
    exact c_54b (i := 2) (ci := 1) (v := 46) (j1 := 55) (nf := 4) (Z := fun _ _ => True) (by decide) ⟨_, _, rfl⟩ rfl rfl rfl rfl (by decide) h0 hb (c_55 at_ (by decide) (by decide) ⟨rfl, k _ _ _ _ (nPl_of (kd := 1) (by decide))⟩)
  · refine ⟨fun e => absurd e (by decide), fun _ => ⟨fun _ => ?_, fun e => absurd rfl e⟩⟩
    exact c_54b (i := 11) (ci := 3) (v := 47) (j1 := 57) (nf := 4) (Z := fun _ _ => True) (by decide) ⟨_, _, rfl⟩ rfl rfl rfl rfl (by decide) h0 hb (c_57 at_ (by decide) (by decide) ⟨rfl, k _ _ _ _ (nPl_of (kd := 2) (by decide))⟩)
  · refine ⟨fun e => absurd e (by decide), fun _ => ⟨fun e => absurd e (by decide), fun _ => ⟨fun _ => ?_, fun e => absurd rfl e⟩⟩⟩
    exact c_54b (i := 20) (ci := 2) (v := 48) (j1 := 58) (nf := 4) (Z := fun _ _ => True) (by decide) ⟨_, _, rfl⟩ rfl rfl rfl rfl (by decide) h0 hb (c_58 at_ (by decide) (by decide) ⟨rfl, k _ _ _ _ (nPl_of (kd := 3) (by decide))⟩)
  · refine ⟨fun e => absurd e (by decide), fun _ => ⟨fun e => absurd e (by decide), fun _ => ⟨fun e => absurd e (by decide), fun _ => ⟨fun _ => ?_, fun e => absurd rfl e⟩⟩⟩⟩
    exact c_54b (i := 29) (ci := 0) (v := 49) (j1 := 59) (nf := 4) (Z := fun _ _ => True) (by decide) ⟨_, _, rfl⟩ rfl rfl rfl rfl (by decide) h0 hb (c_59 at_ (by decide) (by decide) ⟨rfl, k _ _ _ _ (nPl_of (kd := 4) (by decide))⟩)
  · refine ⟨fun e => absurd e (by decide), fun _ => ⟨fun e => absurd e (by decide), fun _ => ⟨fun e => absurd e (by decide), fun _ => ⟨fun e => absurd e (by decide), fun _ => ⟨fun _ => ?_, fun e => absurd rfl e⟩⟩⟩⟩⟩
    have hl : (S ++ [((10 : Nat), (6 : Nat))]).length = S.length + 1 := by rw [List.length_append]; rfl
    refine c_54b (i := 38) (ci := 10) (v := 50) (j1 := 60) (nf := 6) (Z := fun _ _ => True) (by decide) ⟨_, _, rfl⟩ rfl rfl rfl rfl (by decide) h0 hb (c_60 (g_at _) ⟨rfl, ?_⟩)
    rw [hl]
    exact k _ _ _ _ nPl_5
  · refine ⟨fun e => absurd e (by decide), fun _ => ⟨fun e => absurd e (by decide), fun _ => ⟨fun e => absurd e (by decide), fun _ => ⟨fun e => absurd e (by decide), fun _ => ⟨fun e => absurd e (by decide), fun _ => ⟨fun _ => ?_, fun e => absurd rfl e⟩⟩⟩⟩⟩⟩
    exact c_54b (i := 47) (ci := 9) (v := 51) (j1 := 61) (nf := 4) (Z := fun _ _ => True) (by decide) ⟨_, _, rfl⟩ rfl rfl rfl rfl (by decide) h0 hb (c_61 at_ (by decide) (by decide) ⟨rfl, k _ _ _ _ (nPl_of (kd := 6) (by decide))⟩)
end NEWP
