/-! The class: lots. -/
theorem lots_l : (72201776446800 : Int64) = Int64.ofNat LOTS := rfl
/-- only scenes ahead, from a level on -/
def fLv (L : Nat) (c c' : zI) : Prop := ∀ x k, (x < 8 + 3 * L ∨ 17 ≤ x) → c' x k = c x k
theorem fLv_rfl (L : Nat) (c : zI) : fLv L c c := fun _ _ _ => rfl
theorem fLv_tr {L : Nat} {a b e : zI} (h : fLv L a b) (q : fLv L b e) : fLv L a e := fun x k z => by rw [q x k z, h x k z]
theorem fLv_le {L : Nat} {a b : zI} (h : fLv (L + 1) a b) : fLv L a b := fun x k z => h x k (by omega)
theorem cRu_lv {L : Nat} {c c' m : zI} {cs : List pCl} (h : fLv L c c') (q : cRu c m cs) : cRu c' m cs := by
  obtain ⟨q1, q2, q3, q4⟩ := q
  have hi := (ruC_of q2).1
  have nv : ∀ j k, c' (ruC m + j) k = c (ruC m + j) k := fun j k => h _ _ (by
    generalize ruC m = r at hi
    omega)
  exact ⟨by rw [h 1 6 (by omega)]; exact q1, q2, q3, cPa_eq (nv 0) (nv 1) (nv 2) (nv 3) q4⟩
def wI (wa : Bool) : Int32 := if wa then 1 else 0
theorem n_of0 {x : Nat} (h : x < 4294967296) : Int32.ofNat x = 0 ↔ x = 0 := by
  constructor
  · intro e
    have e2 : (Int32.ofNat x).toBitVec.toNat = (0 : Int32).toBitVec.toNat := by rw [e]
    have e3 : (Int32.ofNat x).toBitVec.toNat = x % 4294967296 := rfl
    have e4 : (0 : Int32).toBitVec.toNat = 0 := rfl
    omega
  · intro e; rw [e]; rfl
theorem n_max1 {x : Nat} (h : x < 1000) : (if (1 : Int32) < Int32.ofNat x then Int32.ofNat x else 1) = Int32.ofNat (max 1 x) := by
  have q := n_lt (a := 1) (b := x) (by omega) (by omega)
  split
  · rename_i y
    have := q.mp y
    rw [Nat.max_eq_right (by omega)]
  · rename_i y
    have : ¬ 1 < x := fun z => y (q.mpr z)
    rw [Nat.max_eq_left (by omega)]
    rfl
theorem op_cnt {m : zI} {cs : List pCl} {n : Nat} (hA : iA n m (tkOf cs)) (hL : iL m (tkOf cs)) (hH : iHold m cs) (hc : iCs cs) : pcN (bN (opP m cs) 32) 32 = mCnt m := by
  rw [pc_gl (S := opP m cs) (fun g q => q.1) 32 (Nat.le_refl _)]
  unfold mCnt
  rw [gl_congr1 32 (fun g hg h1 => (op_iff hA hL hH hc hg).trans ⟨fun q => q.2, fun q => ⟨h1, q⟩⟩)]
theorem op_zero {m : zI} {cs : List pCl} {n : Nat} (hA : iA n m (tkOf cs)) (hL : iL m (tkOf cs)) (hH : iHold m cs) (hc : iCs cs) : Int32.ofNat (bN (opP m cs) 32) = 0 ↔ mCnt m = 0 := by
  rw [n_of0 (bN_lt _ 32), ← op_cnt hA hL hH hc]
  constructor
  · intro e; rw [e, pcN_0]
  · intro e
    rw [op_cnt hA hL hH hc] at e
    refine (bN_same 32 (fun k hk => ⟨fun q => ?_, fun q => q.elim⟩)).trans (bN_0 32)
    have q2 := (op_iff hA hL hH hc hk).mp q
    have := mCnt_pos hk q2.1 q2.2
    omega
theorem eu_half {a b : Nat} (hb : 0 < b) (hr : 0 < a % b) : 2 * (b % (a % b)) < b := by
  have h1 : a % b < b := Nat.mod_lt _ hb
  generalize a % b = r at hr h1
  have h2 := Nat.div_add_mod b r
  have h3 : 0 < b / r := Nat.div_pos (by omega) hr
  have h4 : b % r < r := Nat.mod_lt _ hr
  have h5 : r ≤ r * (b / r) := Nat.le_mul_of_pos_right r h3
  omega
theorem gcd_st (a b : Nat) : Nat.gcd b (a % b) = Nat.gcd a b := by
  rw [Nat.gcd_comm a b, Nat.gcd_rec b a, Nat.gcd_comm]
theorem lg_pos {g : Nat} (h : 1 ≤ g) (h2 : g < 9223372036854775808) : (0 : Int32) ≤ lg_cmp (Int64.ofNat g) 1 := by
  have e : ¬ Int64.ofNat g < 1 := by
    rw [Int64.lt_iff_toInt_lt, l_int h2]
    show ¬ (g : Int) < 1
    omega
  unfold lg_cmp
  split
  · decide
  · rename_i q
    split
    · decide
    · rename_i q2
      exfalso
      have q : ¬ (1 : Int64) < Int64.ofNat g := q
      rw [Int64.lt_iff_toInt_lt, l_int h2] at q
      have q : ¬ (1 : Int) < (g : Int) := q
      have : g = 1 := by omega
      exact q2 (by rw [this]; rfl)
section LOTSC
variable {d : Nat} {X : zS} {fr nx : Nat} {P : zR0} {cs : List pCl} {lc : zJ}
theorem t_119_st {Q : zQ} {c : zI} {a b k : Nat} (hk : k < 200) (ha : a < 9223372036854775808) (hb : b < 9223372036854775808) (h0 : b = 0 → Q (some (.long (Int64.ofNat a))) c lc) (h1 : 0 < b → Wf (d + 1) 119 14 [.retAddr 0, .retAddr 0, .retAddr 0, .retAddr 0, .long (Int64.ofNat b), .retAddr 0, .long (Int64.ofNat (a % b)), .retAddr 0, .int (Int32.ofNat (k + 1)), .retAddr 0, .retAddr 0] [] (zCS ++ X) (zCR fr nx P) c lc Q) :
    Wf (d + 1) 119 14 [.retAddr 0, .retAddr 0, .retAddr 0, .retAddr 0, .long (Int64.ofNat a), .retAddr 0, .long (Int64.ofNat b), .retAddr 0, .int (Int32.ofNat k), .retAddr 0, .retAddr 0] [] (zCS ++ X) (zCR fr nx P) c lc Q := by
  have e0 : Int64.ofNat b = 0 ↔ b = 0 := l_eq (b := 0) hb (by decide)
  refine B_119_14 _ _ _ ⟨fun x => absurd ((n_le (a := 200) (by decide) (by omega)).mp x) (by omega), fun _ => ⟨fun x => ?_, fun x => ?_⟩⟩
  · exact h0 (e0.mp ((lg_cmp_eq _ _).mp x))
  · have nb : ¬ Int64.ofNat b = 0 := fun z => x ((lg_cmp_eq _ _).mpr z)
    refine ⟨nb, ?_⟩
    rw [l_mod ha hb, n_suc]
    exact h1 (Nat.pos_of_ne_zero (fun z => nb (e0.mpr z)))
theorem t_119_14 {Q : zQ} {c : zI} : ∀ (j k a b : Nat), b < 2 ^ j → k + 2 * j ≤ 190 → a < 9223372036854775808 → b < 9223372036854775808 → Q (some (.long (Int64.ofNat (Nat.gcd a b)))) c lc → Wf (d + 1) 119 14 [.retAddr 0, .retAddr 0, .retAddr 0, .retAddr 0, .long (Int64.ofNat a), .retAddr 0, .long (Int64.ofNat b), .retAddr 0, .int (Int32.ofNat k), .retAddr 0, .retAddr 0] [] (zCS ++ X) (zCR fr nx P) c lc Q
  | 0, k, a, b, hj, hk, ha, hb, h => by
    have hj : b < 1 := hj
    obtain rfl : b = 0 := by omega
    rw [Nat.gcd_zero_right] at h
    exact t_119_st (by omega) ha hb (fun _ => h) (fun z => absurd z (Nat.lt_irrefl _))
  | j + 1, k, a, b, hj, hk, ha, hb, h => by
    have hj : b < 2 ^ j * 2 := by rw [← Nat.pow_succ]; exact hj
    rw [← gcd_st] at h
    refine t_119_st (by omega) ha hb (fun z => ?_) (fun z => ?_)
    · rw [z, Nat.gcd_zero_left, Nat.mod_zero] at h; exact h
    · have r1 : a % b < b := Nat.mod_lt _ z
      rw [← gcd_st] at h
      refine t_119_st (by omega) hb (by omega) (fun y => ?_) (fun y => ?_)
      · rw [y, Nat.gcd_zero_left, Nat.mod_zero] at h; exact h
      · have hh := eu_half z y
        exact t_119_14 j (k + 2) (a % b) (b % (a % b)) (by omega) (by omega) (by omega) (by have := Nat.mod_lt b y; omega) h
theorem t_119 {K : Int64 → zI → zJ → Prop} {c : zI} {a b : Nat} (ha : a < 9223372036854775808) (hb : b < 9223372036854775808) (h : K (Int64.ofNat (Nat.gcd a b)) c lc) : TL (d + 1) 119 [.long (Int64.ofNat a), .long (Int64.ofNat b)] (zCS ++ X) (zCR fr nx P) c lc K :=
  TL_of (B_119 _ _ (t_119_14 63 0 a b hb (by decide) ha hb h))
theorem t_115 {K : Int64 → zI → zJ → Prop} {n t : Nat} {wa : Bool} {c m : zI} (hn : n < 10) (ht : iSc t) (hS : cSc t c m) (hp : iP m) (h : K (Int64.ofNat (if wa = true then (if n = 0 then LOTS else 0) else LOTS * mSat m)) c lc) : TL (d + 3) 115 [.ref t, .int (Int32.ofNat n), .int (wI wa)] (zCS ++ X) (zCR fr nx P) c lc K := by
  have e0 : Int32.ofNat n = 0 ↔ n = 0 := n_eq (b := 0) (by omega) (by decide)
  cases wa with
  | false =>
    rw [if_neg (by decide)] at h
    refine TL_of (B_115 t _ _ ht ⟨fun x => t_116 (d := d) ht hS hp ?_, fun x => absurd rfl x⟩)
    rw [lots_l, l_of (by have := (mSat_of hp).2; omega), l_mul]; exact h
  | true =>
    rw [if_pos rfl] at h
    refine TL_of (B_115 t _ _ ht ⟨fun x => absurd x (by decide), fun x => ⟨fun y => ?_, fun y => ?_⟩⟩)
    · rw [if_neg (fun z => y (e0.mpr z))] at h; exact h
    · rw [if_pos (e0.mp (Decidable.not_not.mp y))] at h
      exact h
theorem t_117_14 {Q : zQ} {wa : Bool} {n L t e n0 : Nat} {m c0 : zI} (hL3 : L < 3) (hn3 : n < 10) (ht : iSc t) (htL : t + 1 < 8 + 3 * L) (hA : iA n0 m (tkOf cs)) (hL : iL m (tkOf cs)) (hR : cRu c0 m cs) (hS : cSc t c0 m)
    (hav : ∀ (g : Nat) (c' : zI) (K : Int64 → zI → zJ → Prop), g < 32 → mGoes m g → cSc (8 + 3 * L) c' (mGo m g) → cRu c' (mGo m g) cs → (∀ c'', fLv (L + 1) c' c'' → K (Int64.ofNat (lotAv wa n (mGo m g))) c'' lc) → TL (e + 4) 118 [.ref 0, .ref (8 + 3 * L), .int (Int32.ofNat n), .int (Int32.ofNat (L + 1)), .int (wI wa)] (zCS ++ X) (zCR fr nx P) c' lc K)
    (h : ∀ c', fLv L c0 c' → Q (some (.long (Int64.ofNat (lS m (fun g => lotAv wa n (mGo m g)) 32)))) c' lc) :
    ∀ (j g : Nat) (c : zI), g + j = 32 → 1 ≤ g → fLv L c0 c → Wf (e + 5) 117 14 [.ref 0, .ref t, .int (Int32.ofNat (bN (opP m cs) 32)), .int (Int32.ofNat (n + 1)), .int (Int32.ofNat L), .int (wI wa), .long (Int64.ofNat (lS m (fun g => lotAv wa n (mGo m g)) g)), .retAddr 0, .int (Int32.ofNat g)] [] (zCS ++ X) (zCR fr nx P) c lc Q
  | 0, g, c, e1, h1, hf => by
    obtain rfl : g = 32 := by omega
    exact B_117_14 t _ _ _ _ _ _ ht ⟨fun _ => h c hf, fun x => absurd (show (32 : Int32) ≤ Int32.ofNat 32 by decide) x⟩
  | j + 1, g, c, e1, h1, hf => by
    have g32 : g < 32 := by omega
    have hop := op_iff hA hL hR.2.1 hR.2.2.1 g32
    have hz3 : zin (Int32.ofNat L) 3 = true := n_zin hL3 (by decide)
    have hi8 : iSc (8 + 3 * L) := by unfold iSc; omega
    have z7 : zCR fr nx P 7 L = 8 + 3 * L + 1 := by
      have : L = 0 ∨ L = 1 ∨ L = 2 := by omega
      rcases this with rfl | rfl | rfl <;> rfl
    have tg1 : ztg (zCS ++ X) 92 [.ref (8 + 3 * L), .ref t] = some 93 := by
      have : L = 0 ∨ L = 1 ∨ L = 2 := by omega
      rcases this with rfl | rfl | rfl <;> rfl
    have tg2 : ztg (zCS ++ X) 88 [.ref (8 + 3 * L), .int (Int32.ofNat g)] = some 90 := by
      have : L = 0 ∨ L = 1 ∨ L = 2 := by omega
      rcases this with rfl | rfl | rfl <;> rfl
    refine B_117_14 t _ _ _ _ _ _ ht ⟨fun x => absurd ((n_le (a := 32) (by omega) (by omega)).mp x) (by omega), fun _ => ⟨fun x => ?_, fun x => ⟨hz3, ?_⟩⟩⟩
    · rw [n_bit0 _ _ g32, bN_bit, decide_eq_false_iff_not] at x
      have w : ¬ (1 ≤ g ∧ mGoes m g) := fun z => x ⟨g32, hop.mpr z⟩
      have ih := t_117_14 hL3 hn3 ht htL hA hL hR hS hav h j (g + 1) c (by omega) (by omega) hf
      rw [lS_suc, if_neg w] at ih
      rw [n_suc]
      exact ih
    · have w : mGoes m g := by
        refine Decidable.byContradiction fun z => x ?_
        rw [n_bit0 _ _ g32, bN_bit, decide_eq_false_iff_not]
        exact fun v => z (hop.mp v.2).2
      have en : Int32.ofNat (n + 1) - 1 = Int32.ofNat n := n_sub (b := 1) (by omega)
      have pw := pow_tri _ hA.2.1
      rw [n_cl (show L < 2147483648 by omega), z7]
      refine ⟨by omega, fun c1 e1 => ?_⟩
      obtain rfl : c1 = 8 + 3 * L := by omega
      have hS1 : cSc t c m := cSc_eq (fun k _ => hf t k (.inl (by omega))) (fun k _ => hf (t + 1) k (.inl (by omega))) hS
      refine ⟨93, tg1, show 2 ≤ _ by decide, t_93 (d := e + 3) hi8 ht (by omega) hS1 (fun c2 S2 A2 _ => ⟨hz3, by omega, fun c4 e4 => ?_⟩)⟩
      obtain rfl : c4 = 8 + 3 * L := by omega
      refine ⟨90, tg2, show 2 ≤ _ by decide, t_90 (d := e + 1) hi8 S2 hA.2.2.2.1 hA.2.2.2.2.1 (by have := hA.2.2.2.2.1.2; omega) g32 w.2.1 (fun c3 S3 A3 _ => ⟨hz3, by omega, fun c7 e7 => ?_⟩)⟩
      obtain rfl : c7 = 8 + 3 * L := by omega
      have F2 : fLv L c c2 := fun x k z => A2 x k (by simp only [List.mem_cons, List.not_mem_nil, or_false]; omega)
      have F3 : fLv L c2 c3 := fun x k z => A3 x k (by simp only [List.mem_cons, List.not_mem_nil, or_false]; omega)
      have F := fLv_tr hf (fLv_tr F2 F3)
      rw [en, n_suc L, n_suc g]
      refine hav g c3 _ g32 w S3 (cRu_go g (cRu_lv F hR)) (fun c5 F5 => ?_)
      rw [l_add]
      have ih := t_117_14 hL3 hn3 ht htL hA hL hR hS hav h j (g + 1) c5 (by omega) (by omega) (fLv_tr F (fLv_le F5))
      rw [lS_suc, if_pos ⟨h1, w⟩] at ih
      exact ih
theorem t_117 {K : Int64 → zI → zJ → Prop} {wa : Bool} {n L t e n0 : Nat} {m c : zI} (hL3 : L < 3) (hn3 : n < 10) (ht : iSc t) (htL : t + 1 < 8 + 3 * L) (hA : iA n0 m (tkOf cs)) (hL : iL m (tkOf cs)) (hR : cRu c m cs) (hS : cSc t c m)
    (hav : ∀ (g : Nat) (c' : zI) (K : Int64 → zI → zJ → Prop), g < 32 → mGoes m g → cSc (8 + 3 * L) c' (mGo m g) → cRu c' (mGo m g) cs → (∀ c'', fLv (L + 1) c' c'' → K (Int64.ofNat (lotAv wa n (mGo m g))) c'' lc) → TL (e + 4) 118 [.ref 0, .ref (8 + 3 * L), .int (Int32.ofNat n), .int (Int32.ofNat (L + 1)), .int (wI wa)] (zCS ++ X) (zCR fr nx P) c' lc K)
    (h : ∀ c', fLv L c c' → K (Int64.ofNat (lS m (fun g => lotAv wa n (mGo m g)) 32)) c' lc) :
    TL (e + 5) 117 [.ref 0, .ref t, .int (Int32.ofNat (bN (opP m cs) 32)), .int (Int32.ofNat (n + 1)), .int (Int32.ofNat L), .int (wI wa)] (zCS ++ X) (zCR fr nx P) c lc K := by
  have q := t_117_14 (Q := qL K) hL3 hn3 ht htL hA hL hR hS hav h 31 1 c rfl (by decide) (fLv_rfl L c)
  rw [lS_1] at q
  exact TL_of (B_117 t _ _ _ _ ht ⟨fun x => absurd ((n_lt (b := 0) (by omega) (by decide)).mp x) (by omega), fun _ => ⟨fun _ => q, fun x => absurd ((n_lt (b := 3) (by omega) (by decide)).mpr hL3) x⟩⟩)
theorem lS_bound {wa : Bool} {n n0 : Nat} {m : zI} (hn : n0 + n ≤ 90000) (hA : iA n0 m (tkOf cs)) (hL : iL m (tkOf cs)) : lS m (fun g => lotAv wa n (mGo m g)) 32 ≤ 155 * LOTS := by
  have := lS_le (m := m) (F := fun g => lotAv wa n (mGo m g)) (B := 5 * LOTS) (g := 32) (Nat.le_refl _) (fun x hx hg => lotAv_le wa n (n0 + 1) (mGo m x) (by omega) (iA_go (by omega) (mGoes_lt (iL_c hA.2.1 hL) hx hg) hA) (iL_go x hL))
  omega
theorem lots_max155 : 155 * LOTS < 9223372036854775808 := by decide +kernel
theorem t_118 {wa : Bool} : ∀ (n e L t n0 : Nat) (m c : zI) (K : Int64 → zI → zJ → Prop), 2 * n ≤ e → L + n ≤ 3 → iSc t → t + 1 < 8 + 3 * L → n0 + n ≤ 90000 → iA n0 m (tkOf cs) → iL m (tkOf cs) → cRu c m cs → cSc t c m → (∀ c', fLv L c c' → K (Int64.ofNat (lotAv wa n m)) c' lc) →
    TL (e + 4) 118 [.ref 0, .ref t, .int (Int32.ofNat n), .int (Int32.ofNat L), .int (wI wa)] (zCS ++ X) (zCR fr nx P) c lc K
  | 0, e, L, t, n0, m, c, K, he, hLn, ht, htL, hn, hA, hL, hR, hS, h => by
    have := h c (fLv_rfl L c)
    rw [lotAv] at this
    refine TL_of (B_118 t _ _ _ ht ⟨fun x => absurd rfl x, fun _ => ⟨fun x => absurd rfl x, fun _ => t_115 (d := e) (n := 0) (by decide) ht hS hA.2.1 ?_⟩⟩)
    rw [if_pos (rfl : (0 : Nat) = 0)]
    exact this
  | n + 1, e0, L, t, n0, m, c, K, he, hLn, ht, htL, hn, hA, hL, hR, hS, h => by
    obtain ⟨e, rfl⟩ : ∃ e, e0 = e + 2 := ⟨e0 - 2, by omega⟩
    have hn1 : Int32.ofNat (n + 1) ≠ 0 := fun z => by
      have := (n_eq (b := 0) (by omega) (by decide)).mp z
      omega
    have hop0 := op_zero hA hL hR.2.1 hR.2.2.1
    have hcnt := op_cnt hA hL hR.2.1 hR.2.2.1
    have hc31 := mCnt_le m
    rw [lotAv] at h
    have hav : ∀ (g : Nat) (c' : zI) (K : Int64 → zI → zJ → Prop), g < 32 → mGoes m g → cSc (8 + 3 * L) c' (mGo m g) → cRu c' (mGo m g) cs → (∀ c'', fLv (L + 1) c' c'' → K (Int64.ofNat (lotAv wa n (mGo m g))) c'' lc) → TL (e + 4) 118 [.ref 0, .ref (8 + 3 * L), .int (Int32.ofNat n), .int (Int32.ofNat (L + 1)), .int (wI wa)] (zCS ++ X) (zCR fr nx P) c' lc K := fun g c' K g32 w S' R' k =>
      t_118 n e (L + 1) (8 + 3 * L) (n0 + 1) (mGo m g) c' K (by omega) (by omega) (by unfold iSc; omega) (by omega) (by omega) (iA_go (by omega) (mGoes_lt (iL_c hA.2.1 hL) g32 w) hA) (iL_go g hL) R' S' k
    have hdiv : ¬ mCnt m = 0 → ¬ (wa = true ∧ n = 0) → TL (e + 5) 117 [.ref 0, .ref t, .int (Int32.ofNat (bN (opP m cs) 32)), .int (Int32.ofNat (n + 1)), .int (Int32.ofNat L), .int (wI wa)] (zCS ++ X) (zCR fr nx P) c lc (fun v2 mi2 ml2 => TI (e + 5) 50 [.int (Int32.ofNat (bN (opP m cs) 32))] (zCS ++ X) (zCR fr nx P) mi2 ml2 (fun v3 mi3 ml3 => (¬ ((Int32.toInt64 (if 1 < v3 then v3 else 1)) : Int64) = 0 ∧ qL K (some (.long (v2 / (Int32.toInt64 (if 1 < v3 then v3 else 1))))) mi3 ml3))) := by
      intro hc hw
      rw [if_neg hc, if_neg hw] at h
      refine t_117 (by omega) (by omega) ht htL hA hL hR hS hav (fun c' F => t_50 (d := e + 4) (bN_lt _ 32) ?_)
      have hb := lS_bound (wa := wa) (n := n) (by omega) hA hL
      have hm := lots_max155
      have em : max 1 (mCnt m) = mCnt m := Nat.max_eq_right (by omega)
      rw [hcnt, n_max1 (by omega), em, l_of (by omega)]
      refine ⟨fun z => hc ((l_eq (b := 0) (by omega) (by decide)).mp z), ?_⟩
      rw [l_div (by omega) (by omega)]
      exact h c' F
    refine TL_of (B_118 t _ _ _ ht ⟨fun _ => t_64 (d := e + 2) ht hR hS hA.2.1 hA.2.2.2.1 hA.2.2.2.2.1 ⟨fun x => ?_, fun x => ?_⟩, fun x => absurd hn1 x⟩)
    · have hc : ¬ mCnt m = 0 := fun z => x (hop0.mpr z)
      refine ⟨fun y => hdiv hc ?_, fun y => ⟨fun z => hdiv hc ?_, fun z => ?_⟩⟩
      · intro q; rw [q.1] at y; exact absurd y (by decide)
      · intro q; rw [q.2] at z; exact absurd rfl z
      · have hw : wa = true := by
          cases wa with
          | true => rfl
          | false => exact absurd rfl y
        have hn0 : n = 0 := by
          have := (n_eq (a := n + 1) (b := 1) (by omega) (by decide)).mp (Decidable.not_not.mp z)
          omega
        rw [if_neg hc, if_pos ⟨hw, hn0⟩] at h
        exact h c (fLv_rfl L c)
    · have hc : mCnt m = 0 := hop0.mp (Decidable.not_not.mp x)
      rw [if_pos hc] at h
      refine t_115 (d := e + 2) (n := n + 1) (by omega) ht hS hA.2.1 ?_
      rw [if_neg (show ¬ n + 1 = 0 by omega)]
      exact h c (fLv_rfl L c)
/-- byLot -/
theorem t_114 {K : Int64 → zI → zJ → Prop} {wa : Bool} {n n0 : Nat} {b : Int32} {m c : zI} (hn : n ≤ 3) (hn0 : n0 ≤ 80000) (hb : 0 ≤ b ∧ b ≤ 1) (hA : iA n0 m (tkOf cs)) (hL : iL m (tkOf cs)) (hR : cRu c m cs) (hS : cSc 1 c m)
    (h : ∀ c', fLv 0 c c' → K (aFrac (lotV wa n m) (lotD n m) b) c' lc) : TL (d + 12) 114 [.ref 0, .int (Int32.ofNat n), .int b, .int (wI wa)] (zCS ++ X) (zCR fr nx P) c lc K := by
  have hop0 := op_zero hA hL hR.2.1 hR.2.2.1
  have hcnt := op_cnt hA hL hR.2.1 hR.2.2.1
  have hc31 := mCnt_le m
  have hsat := (mSat_of hA.2.1).2
  have hm := lots_max155
  have hl0 : 0 < LOTS := by decide
  have hl5 : LOTS * mSat m ≤ 5 * LOTS := by rw [Nat.mul_comm]; exact Nat.mul_le_mul_right _ hsat
  have fin : ∀ (V q : Nat) (c' : zI), fLv 0 c c' → lotV wa n m = V → lotD n m = LOTS * max 1 q → q ≤ 31 → V ≤ 155 * LOTS →
      TL (d + 11) 119 [.long (Int64.ofNat V), .long (72201776446800 * (Int32.toInt64 (if 1 < Int32.ofNat q then Int32.ofNat q else 1)))] (zCS ++ X) (zCR fr nx P) c' lc (fun v4 mi4 ml4 => ((0 ≤ (lg_cmp v4 1) → ((b ≠ 0 → (¬ (v4 : Int64) = 0 ∧ qL K (some (.long ((72201776446800 * (Int32.toInt64 (if 1 < Int32.ofNat q then Int32.ofNat q else 1))) / v4))) mi4 ml4)) ∧ (¬ b ≠ 0 → (¬ (v4 : Int64) = 0 ∧ qL K (some (.long (Int64.ofNat V / v4))) mi4 ml4)))) ∧ (¬ 0 ≤ (lg_cmp v4 1) → qL K (some (.long (-9223372036854775808))) mi4 ml4))) := by
    intro V q c' F eV eD hq hV
    have hD : LOTS * max 1 q ≤ 31 * LOTS := by rw [Nat.mul_comm]; exact Nat.mul_le_mul_right _ (by omega)
    have hD0 : 0 < LOTS * max 1 q := Nat.mul_pos hl0 (by omega)
    rw [n_max1 (by omega), l_of (by omega), lots_l, l_mul]
    have hh := h c' F
    rw [eV, eD] at hh
    generalize LOTS * max 1 q = D at hD hD0 hh
    have hg : 0 < Nat.gcd V D := Nat.gcd_pos_of_pos_right V hD0
    have hg2 : Nat.gcd V D ≤ D := Nat.gcd_le_right V hD0
    refine t_119 (d := d + 10) (by omega) (by omega) ⟨fun _ => ⟨fun y => ⟨fun z => ?_, ?_⟩, fun y => ⟨fun z => ?_, ?_⟩⟩, fun y => absurd (lg_pos hg (by omega)) y⟩
    · have := (l_eq (b := 0) (by omega) (by decide)).mp z; omega
    · rw [l_div (by omega) (by omega)]
      unfold aFrac at hh
      rw [if_neg y] at hh; exact hh
    · have := (l_eq (b := 0) (by omega) (by decide)).mp z; omega
    · rw [l_div (by omega) (by omega)]
      unfold aFrac at hh
      rw [if_pos (Decidable.not_not.mp y)] at hh; exact hh
  refine TL_of (B_114 _ _ _ ⟨fun x => t_64 (d := d + 8) (.inl rfl) hR hS hA.2.1 hA.2.2.2.1 hA.2.2.2.2.1 ⟨fun y => ?_, fun y => ?_⟩, fun x => ⟨fun y => absurd rfl y, fun _ => ?_⟩⟩)
  · have hc : ¬ mCnt m = 0 := fun z => y (hop0.mpr z)
    have hnz : n ≠ 0 := fun z => x (by rw [z]; rfl)
    obtain ⟨n, rfl⟩ : ∃ k, n = k + 1 := ⟨n - 1, by omega⟩
    refine t_117 (e := d + 6) (L := 0) (t := 1) (by decide) (by omega) (.inl rfl) (by decide) hA hL hR hS (fun g c' K g32 w S' R' k => t_118 n (d + 6) 1 8 (n0 + 1) (mGo m g) c' K (by omega) (by omega) (by unfold iSc; omega) (by omega) (by omega) (iA_go (by omega) (mGoes_lt (iL_c hA.2.1 hL) g32 w) hA) (iL_go g hL) R' S' k) (fun c' F => t_50 (d := d + 10) (bN_lt _ 32) ?_)
    rw [hcnt]
    refine fin _ _ c' F ?_ ?_ hc31 (lS_bound (by omega) hA hL)
    · unfold lotV
      rw [if_neg (fun q => q.elim hnz hc), Nat.add_sub_cancel]
    · unfold lotD
      rw [if_neg hnz]
  · have hc : mCnt m = 0 := hop0.mp (Decidable.not_not.mp y)
    refine t_115 (d := d + 8) (by omega) (.inl rfl) hS hA.2.1 (t_50 (d := d + 10) (bN_lt _ 32) ?_)
    rw [hcnt]
    refine fin _ _ c (fLv_rfl 0 c) ?_ ?_ hc31 ?_
    · unfold lotV
      rw [if_pos (.inr hc)]
    · unfold lotD
      split
      · rw [hc]
      · rfl
    · split
      · first | omega | (split <;> omega)
      · omega
  · have hnz : n = 0 := (n_eq (b := 0) (by omega) (by decide)).mp (Decidable.not_not.mp x)
    refine t_115 (d := d + 8) (by omega) (.inl rfl) hS hA.2.1 (t_50 (d := d + 10) (x := 0) (by decide) ?_)
    rw [pcN_0]
    refine fin _ 0 c (fLv_rfl 0 c) ?_ ?_ (by decide) ?_
    · unfold lotV
      rw [if_pos (.inl hnz)]
    · unfold lotD
      rw [if_pos hnz]
    · split
      · first | omega | (split <;> omega)
      · omega
theorem t_113 {K : Int64 → zI → zJ → Prop} {n0 : Nat} {a b : Int32} {m c : zI} (hn0 : n0 ≤ 80000) (hA : iA n0 m (tkOf cs)) (hR : cRu c m cs) (hS : cSc 1 c m)
    (h : ∀ c', fLv 0 c c' → K (aLikely m (tkOf cs) a b) c' lc) : TL (d + 13) 113 [.ref 0, .int a, .int b] (zCS ++ X) (zCR fr nx P) c lc K := by
  have hrf := h c (fLv_rfl 0 c)
  unfold aLikely at h hrf
  refine TL_of (B_113 _ _ ⟨fun x => ?_, fun x => ⟨fun y => ?_, fun y => ⟨fun z => ?_, fun z => ⟨fun u => ?_, fun u => ?_⟩⟩⟩⟩)
  · rw [if_pos (fun q => absurd x (Int32.not_lt.mpr q.1.1))] at hrf; exact hrf
  · rw [if_pos (fun q => absurd y (Int32.not_lt.mpr q.1.2))] at hrf; exact hrf
  · rw [if_pos (fun q => absurd z (Int32.not_lt.mpr q.2.1))] at hrf; exact hrf
  · have a1 := Int32.not_lt.mp x
    have a3 := Int32.not_lt.mp y
    have b0 := Int32.not_lt.mp z
    have h := fun c' F => (by have := h c' F; rw [if_neg (fun q => q ⟨⟨a1, a3⟩, b0, u⟩)] at this; exact this : K (aFrac (lotV true a.toNatClampNeg (mLook m (tkOf cs))) (lotD a.toNatClampNeg (mLook m (tkOf cs))) b) c' lc)
    obtain ⟨N, hN, rfl⟩ := n_nat (x := a) (Int32.not_lt.mpr (Int32.le_trans (by decide) a1))
    have N3 := (n_le (b := 3) hN (by decide)).mp a3
    rw [n_cl hN] at h
    exact t_114 (d := d) (wa := true) N3 hn0 ⟨b0, u⟩ (iA_t (mLook_t m (tkOf cs)) hA) (mLook_l m _) (cRu_look _ hR) (cSc_look _ hS) h
  · rw [if_pos (fun q => u q.2.2)] at hrf; exact hrf
theorem t_120 {K : Int64 → zI → zJ → Prop} {n0 : Nat} {a b : Int32} {m c : zI} (hn0 : n0 ≤ 80000) (hA : iA n0 m (tkOf cs)) (hR : cRu c m cs) (hS : cSc 1 c m)
    (h : ∀ c', fLv 0 c c' → K (aWanted m (tkOf cs) a b) c' lc) : TL (d + 13) 120 [.ref 0, .int a, .int b] (zCS ++ X) (zCR fr nx P) c lc K := by
  have hrf := h c (fLv_rfl 0 c)
  unfold aWanted at h hrf
  refine TL_of (B_120 _ _ ⟨fun x => ?_, fun x => ⟨fun y => ?_, fun y => ⟨fun z => ?_, fun z => ⟨fun u => ?_, fun u => ?_⟩⟩⟩⟩)
  · rw [if_pos (fun q => absurd x (Int32.not_lt.mpr q.1.1))] at hrf; exact hrf
  · rw [if_pos (fun q => absurd y (Int32.not_lt.mpr q.1.2))] at hrf; exact hrf
  · rw [if_pos (fun q => absurd z (Int32.not_lt.mpr q.2.1))] at hrf; exact hrf
  · have a1 := Int32.not_lt.mp x
    have a3 := Int32.not_lt.mp y
    have b0 := Int32.not_lt.mp z
    have h := fun c' F => (by have := h c' F; rw [if_neg (fun q => q ⟨⟨a1, a3⟩, b0, u⟩)] at this; exact this : K (aFrac (lotV false a.toNatClampNeg (mLook m (tkOf cs))) (lotD a.toNatClampNeg (mLook m (tkOf cs))) b) c' lc)
    obtain ⟨N, hN, rfl⟩ := n_nat (x := a) (Int32.not_lt.mpr a1)
    have N2 := (n_le (b := 2) hN (by decide)).mp a3
    rw [n_cl hN] at h
    exact t_114 (d := d) (wa := false) (by omega) hn0 ⟨b0, u⟩ (iA_t (mLook_t m (tkOf cs)) hA) (mLook_l m _) (cRu_look _ hR) (cSc_look _ hS) h
  · rw [if_pos (fun q => u q.2.2)] at hrf; exact hrf
end LOTSC
