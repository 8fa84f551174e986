/-! The class: scenes, over the model's memory as a ghost. -/
abbrev iSc (t : Nat) : Prop := t = 1 ∨ t = 4 ∨ t = 8 ∨ t = 11 ∨ t = 14
/-- scene t is where m is -/
def cSc (t : Nat) (c m : zI) : Prop := c t 0 = m 0 0 ∧ c t 1 = m 0 1 ∧ c t 2 = m 0 2 ∧ c t 3 = m 0 3 ∧ c t 4 = m 0 4 ∧ ∀ k, k < 10 → c (t + 1) k = m 1 k
/-- with the parish and the book -/
def cFul (t : Nat) (c m : zI) : Prop := cSc t c m ∧ c t 6 = m 0 13 ∧ c t 8 = m 0 10 ∧ ∀ k, k < 12 → c (t + 2) k = m 5 k
theorem cSc_eq {t : Nat} {c c' m : zI} (h : ∀ k, k < 5 → c' t k = c t k) (h1 : ∀ k, k < 10 → c' (t + 1) k = c (t + 1) k) (q : cSc t c m) : cSc t c' m := by
  obtain ⟨a, b, e, f, g, i⟩ := q
  exact ⟨by rw [h 0 (by decide)]; exact a, by rw [h 1 (by decide)]; exact b, by rw [h 2 (by decide)]; exact e, by rw [h 3 (by decide)]; exact f, by rw [h 4 (by decide)]; exact g, fun k hk => by rw [h1 k hk]; exact i k hk⟩
theorem cSc_m {t : Nat} {c m m' : zI} (h0 : ∀ k, k < 5 → m' 0 k = m 0 k) (h1 : ∀ k, k < 10 → m' 1 k = m 1 k) (q : cSc t c m) : cSc t c m' := by
  obtain ⟨a, b, e, f, g, i⟩ := q
  exact ⟨by rw [h0 0 (by decide)]; exact a, by rw [h0 1 (by decide)]; exact b, by rw [h0 2 (by decide)]; exact e, by rw [h0 3 (by decide)]; exact f, by rw [h0 4 (by decide)]; exact g, fun k hk => by rw [h1 k hk]; exact i k hk⟩
/-- who is on the boat's shore -/
def hN (m : zI) : Nat := if mBo m = 0 then (2 ^ mPe m - 1) ^^^ mW m else mW m
theorem here_tab : ∀ p : Nat, p < 6 → ∀ w : Nat, w < 32 → w < 2 ^ p → (Int32.ofNat w ^^^ -1) &&& Int32.ofNat (2 ^ p - 1) = Int32.ofNat ((2 ^ p - 1) ^^^ w) ∧ Int32.ofNat w &&& Int32.ofNat (2 ^ p - 1) = Int32.ofNat w ∧ (2 ^ p - 1) ^^^ w < 2 ^ p := by decide +kernel
abbrev gSub (g h : Nat) : Prop := g &&& h = g
theorem sub_tab : ∀ g : Nat, g < 32 → ∀ h : Nat, h < 32 → (Int32.ofNat g &&& (Int32.ofNat h ^^^ -1) = 0 ↔ gSub g h) := by decide +kernel
theorem sub_here1 : ∀ p : Nat, p < 6 → ∀ w : Nat, w < 32 → ∀ g : Nat, g < 32 → w < 2 ^ p → (gSub g ((2 ^ p - 1) ^^^ w) ↔ g < 2 ^ p ∧ Int32.ofNat g &&& Int32.ofNat w = 0) := by decide +kernel
theorem sub_here2 : ∀ p : Nat, p < 6 → ∀ w : Nat, w < 32 → ∀ g : Nat, g < 32 → w < 2 ^ p → gSub g w → g < 2 ^ p := by decide +kernel
theorem sub_here {p w g : Nat} (hp : p < 6) (hw : w < 32) (hw2 : w < 2 ^ p) (hg : g < 32) : (gSub g ((2 ^ p - 1) ^^^ w) ↔ g < 2 ^ p ∧ Int32.ofNat g &&& Int32.ofNat w = 0) ∧ (gSub g w → g < 2 ^ p) ∧ (gSub g w ↔ Int32.ofNat g &&& (Int32.ofNat w ^^^ -1) = 0) :=
  ⟨sub_here1 p hp w hw g hg hw2, sub_here2 p hp w hw g hg hw2, (sub_tab g hg w hw).symm⟩
theorem go_tab : ∀ w : Nat, w < 32 → ∀ g : Nat, g < 32 → (Int32.ofNat g &&& Int32.ofNat w = 0 → Int32.ofNat w ||| Int32.ofNat g = Int32.ofNat (w ^^^ g)) ∧ (Int32.ofNat g &&& (Int32.ofNat w ^^^ -1) = 0 → Int32.ofNat w &&& (Int32.ofNat g ^^^ -1) = Int32.ofNat (w ^^^ g)) := by decide +kernel
theorem hN_lt {m : zI} (hp : iP m) (hw : iW m) : hN m < 2 ^ mPe m := by
  obtain ⟨q1, q2⟩ := iP_of hp
  have hpw := pow_tri _ hp
  have := (here_tab _ q2 _ (by have := hw.2; omega) hw.2).2.2
  unfold hN
  split
  · exact this
  · exact hw.2
theorem hN_sub {m : zI} (hp : iP m) (hb : iB m) (hw : iW m) {g : Nat} (hg : g < 32) : gSub g (hN m) ↔ g < 2 ^ mPe m ∧ sThere (Int32.ofNat g) (m 0 1) (m 0 3) := by
  obtain ⟨q1, q2⟩ := iP_of hp
  have hpw := pow_tri _ hp
  obtain ⟨s1, s2, s3⟩ := sub_here q2 (show mW m < 32 by have := hw.2; omega) hw.2 hg
  unfold hN sThere
  rw [hw.1]
  rcases hb with h | h
  · have e : mBo m = 0 := by unfold mBo; rw [h]; rfl
    rw [if_pos e, h, if_neg (by decide)]
    exact s1
  · have e : ¬ mBo m = 0 := by unfold mBo; rw [h]; decide
    rw [if_neg e, h, if_pos rfl]
    exact ⟨fun z => ⟨s2 z, s3.mp z⟩, fun z => s3.mpr z.2⟩
section SCENES
variable {d : Nat} {ml : zJ} {X : zS} {fr nx : Nat} {P : zR0} {t : Nat} {c m : zI}
theorem t_6 {K : Int32 → zI → zJ → Prop} {a : Int32} (h : K (if a = 0 ∨ a = 1 then 1 else 0) c ml) : TI (d + 1) 6 [.int a] (zCS ++ X) (zCR fr nx P) c ml K := by
  refine TI_of (B_6 _ ⟨fun x => ?_, fun x => ⟨fun y => ?_, fun y => ?_⟩⟩)
  · rw [if_pos (.inl x)] at h; exact h
  · rw [if_neg (fun z => z.elim x y)] at h; exact h
  · rw [if_pos (.inr (Decidable.not_not.mp y))] at h; exact h
theorem t_9 {K : Int32 → zI → zJ → Prop} {a : Int32} (h : K (if 0 ≤ a ∧ a < c 1 0 then 1 else 0) c ml) : TI (d + 1) 9 [.ref 0, .int a] (zCS ++ X) (zCR fr nx P) c ml K := by
  refine TI_of (B_9 _ ⟨fun x => ?_, fun x => ⟨fun y => ?_, fun y => ?_⟩⟩)
  · rw [if_neg (fun z => absurd x (Int32.not_lt.mpr z.1))] at h; exact h
  · rw [if_neg (fun z => absurd z.2 (Int32.not_lt.mpr y))] at h; exact h
  · rw [if_pos ⟨Int32.not_lt.mp x, Int32.not_le.mp y⟩] at h; exact h
theorem t_67 {K : Int32 → zI → zJ → Prop} (ht : iSc t) (hp : iP m) (h0 : c t 0 = m 0 0) (h : K (Int32.ofNat (2 ^ mPe m - 1)) c ml) : TI (d + 1) 67 [.ref t] (zCS ++ X) (zCR fr nx P) c ml K := by
  obtain ⟨q1, q2⟩ := iP_of hp
  refine TI_of (B_67 t ht ?_)
  rw [h0, q1, n_pow _ (by omega), (n_msk _ q2).1]
  exact h
theorem t_66 {K : Int32 → zI → zJ → Prop} (ht : iSc t) (hS : cSc t c m) (hp : iP m) (hb : iB m) (hw : iW m) (h : K (Int32.ofNat (hN m)) c ml) : TI (d + 2) 66 [.ref t] (zCS ++ X) (zCR fr nx P) c ml K := by
  obtain ⟨q1, q2⟩ := iP_of hp
  have hpw := pow_tri _ hp
  obtain ⟨s1, s2, -⟩ := here_tab _ q2 (mW m) (by have := hw.2; omega) hw.2
  obtain ⟨a0, a1, a2, a3, a4, a5⟩ := hS
  refine TI_of (B_66 t ht ?_)
  rw [a3, a1, hw.1]
  unfold hN at h
  rcases hb with hb | hb
  · have e : mBo m = 0 := by unfold mBo; rw [hb]; rfl
    rw [if_pos e] at h
    rw [hb]
    refine ⟨fun x => absurd rfl x, fun _ => t_67 ht hp a0 ?_⟩
    rw [s1]; exact h
  · have e : ¬ mBo m = 0 := by unfold mBo; rw [hb]; decide
    rw [if_neg e] at h
    rw [hb]
    refine ⟨fun _ => t_67 ht hp a0 ?_, fun x => absurd (by decide) x⟩
    rw [s2]; exact h
/-- who wants the other shore, of those that are there -/
theorem t_80 {K : Int32 → zI → zJ → Prop} (ht : iSc t) (hS : cSc t c m) (hp : iP m) (h : K (mOther m &&& Int32.ofNat (2 ^ mPe m - 1)) c ml) : TI (d + 2) 80 [.ref t] (zCS ++ X) (zCR fr nx P) c ml K := by
  obtain ⟨a0, a1, a2, a3, a4, a5⟩ := hS
  refine TI_of (B_80 t ht ?_)
  rw [a3, a2]
  unfold mOther at h
  refine ⟨fun x => t_67 ht hp a0 ?_, fun x => t_67 ht hp a0 ?_⟩
  · rw [if_neg x] at h; exact h
  · rw [if_pos (Decidable.not_not.mp x)] at h; exact h
theorem oN_pc : ∀ g : Nat, g < 32 → pcN g 32 = oN g := by decide +kernel
theorem t_50g {K : Int32 → zI → zJ → Prop} {g : Nat} (hg : g < 32) (h : K (Int32.ofNat (oN g)) c ml) : TI (d + 1) 50 [.int (Int32.ofNat g)] (zCS ++ X) (zCR fr nx P) c ml K :=
  t_50 (by omega) (by rw [oN_pc g hg]; exact h)
theorem t_116 {K : Int32 → zI → zJ → Prop} (ht : iSc t) (hS : cSc t c m) (hp : iP m) (h : K (Int32.ofNat (mSat m)) c ml) : TI (d + 2) 116 [.ref t] (zCS ++ X) (zCR fr nx P) c ml K := by
  obtain ⟨q1, q2⟩ := iP_of hp
  have hpw := pow_tri _ hp
  obtain ⟨a0, a1, a2, a3, a4, a5⟩ := hS
  obtain ⟨w, w1, w2⟩ := n_and_lt ((m 0 1 ^^^ m 0 2) ^^^ -1) hpw.2.2.2 (by omega)
  have e : mSat m = oN w := by unfold mSat; rw [w2]; rfl
  refine TI_of (B_116 t ht (t_67 ht hp a0 ?_))
  rw [a1, a2, ← (n_msk _ q2).1, w2]
  refine t_50g (by omega) ?_
  rw [← e]; exact h
theorem t_12_at {Q : zQ} {f la : Int32} (ht : iSc t) (hS : cSc t c m) (h : Q (some (.int (sBits (fun k => sKnow (m 1 k) (m 0 4 + la) f) 10))) c ml) : ∀ j k : Nat, k + j = 10 → Wf (d + 1) 12 4 [.ref t, .int f, .int la, .int (sBits (fun k => sKnow (m 1 k) (m 0 4 + la) f) k), .int (Int32.ofNat k)] [] (zCS ++ X) (zCR fr nx P) c ml Q
  | 0, k, e => by
    obtain rfl : k = 10 := by omega
    exact B_12_4 t _ _ _ _ ht ⟨fun _ => h, fun x => absurd (show (10 : Int32) ≤ Int32.ofNat 10 by decide) x⟩
  | j + 1, k, e => by
    have hz : zin (Int32.ofNat k) 10 = true := n_zin (by omega) (by omega)
    have ih := t_12_at ht hS h j (k + 1) (by omega)
    rw [sBits] at ih
    obtain ⟨a0, a1, a2, a3, a4, a5⟩ := hS
    refine B_12_4 t _ _ _ _ ht ⟨fun x => absurd ((n_le (a := 10) (by omega) (by omega)).mp x) (by omega), fun _ => ⟨hz, ?_⟩⟩
    rw [n_suc, n_cl (by omega), a5 k (by omega), a4]
    refine ⟨fun e1 => ?_, fun e1 => ⟨fun e2 => ?_, fun e2 => ⟨hz, fun e3 => ?_, fun e3 => ?_⟩⟩⟩
    · rw [if_neg (fun q => q.1 e1)] at ih; exact ih
    · rw [if_pos ⟨e1, .inl e2⟩] at ih; exact ih
    · rw [if_neg (fun q => q.2.elim e2 (fun r => absurd e3 (Int32.not_le.mpr r)))] at ih; exact ih
    · rw [if_pos ⟨e1, .inr (Int32.not_le.mp e3)⟩] at ih; exact ih
theorem t_12 {K : Int32 → zI → zJ → Prop} {f la : Int32} (ht : iSc t) (hS : cSc t c m) (h : K (sBits (fun k => sKnow (m 1 k) (m 0 4 + la) f) 10) c ml) : TI (d + 1) 12 [.ref t, .int f, .int la] (zCS ++ X) (zCR fr nx P) c ml K :=
  TI_of (B_12 t _ _ ht (t_12_at ht hS h 10 0 rfl))
theorem t_17_at {Q : zQ} {a b : Int32} {c0 : zI} (ht : iSc t) (h : ∀ c', (∀ x k, ¬ (x = t + 1 ∧ k < 10) → c' x k = c0 x k) → (∀ k, k < 10 → c' (t + 1) k = if (a >>> (Int32.ofNat k &&& 31)) &&& 1 = 0 then c0 (t + 1) k else b) → Q none c' ml) : ∀ (j k : Nat) (c : zI), k + j = 10 → (∀ x q, ¬ (x = t + 1 ∧ q < k) → c x q = c0 x q) → (∀ q, q < k → c (t + 1) q = if (a >>> (Int32.ofNat q &&& 31)) &&& 1 = 0 then c0 (t + 1) q else b) → Wf (d + 1) 17 2 [.ref t, .int a, .int b, .int (Int32.ofNat k)] [] (zCS ++ X) (zCR fr nx P) c ml Q
  | 0, k, c, e, hf, hv => by
    obtain rfl : k = 10 := by omega
    exact B_17_2 t _ _ _ ht ⟨fun _ => h c hf hv, fun x => absurd (show (10 : Int32) ≤ Int32.ofNat 10 by decide) x⟩
  | j + 1, k, c, e, hf, hv => by
    have hz : zin (Int32.ofNat k) 10 = true := n_zin (by omega) (by omega)
    refine B_17_2 t _ _ _ ht ⟨fun x => absurd ((n_le (a := 10) (by omega) (by omega)).mp x) (by omega), fun _ => ⟨fun x => ?_, fun x => ⟨hz, ?_⟩⟩⟩
    · rw [n_suc]
      refine t_17_at ht h j (k + 1) c (by omega) (fun y q hq => hf y q (by omega)) (fun q hq => ?_)
      by_cases eq : q = k
      · subst eq; rw [if_pos x]; exact hf _ _ (by omega)
      · exact hv q (by omega)
    · rw [n_suc, n_cl (by omega)]
      refine t_17_at ht h j (k + 1) _ (by omega) (fun y q hq => ?_) (fun q hq => ?_)
      · rw [zu_ne (by omega)]; exact hf y q (by omega)
      · by_cases eq : q = k
        · subst eq; rw [if_neg x, zu_eq]
        · rw [zu_nk eq]; exact hv q (by omega)
theorem t_17 {K : zI → zJ → Prop} {a b : Int32} (ht : iSc t) (h : ∀ c', (∀ x k, ¬ (x = t + 1 ∧ k < 10) → c' x k = c x k) → (∀ k, k < 10 → c' (t + 1) k = if (a >>> (Int32.ofNat k &&& 31)) &&& 1 = 0 then c (t + 1) k else b) → K c' ml) : TV (d + 1) 17 [.ref t, .int a, .int b] (zCS ++ X) (zCR fr nx P) c ml K :=
  TV_of (B_17 t _ _ ht (t_17_at (c0 := c) ht h 10 0 c rfl (fun _ _ _ => rfl) (fun q hq => absurd hq (Nat.not_lt_zero _))))
theorem t_75 {K : Int32 → zI → zJ → Prop} {g : Nat} (hg : g < 32) (h : K (gPairs g) c ml) : TI (d + 1) 75 [.int (Int32.ofNat g)] (zCS ++ X) (zCR fr nx P) c ml K := by
  refine TI_of (B_75 _ ⟨fun x => absurd ((n_lt (b := 0) (by omega) (by decide)).mp x) (by omega), fun _ => ⟨fun x => absurd ((n_le (a := 32) (by decide) (by omega)).mp x) (by omega), fun _ => ⟨n_zin hg (by omega), ?_⟩⟩⟩)
  rw [n_cl (by omega), ← gPairs_tab g hg]
  exact h
theorem gbit (g k : Nat) (hg : g < 32) (hk : k < 10) : (gPairs g >>> (Int32.ofNat k &&& 31)) &&& 1 = 0 ∨ (gPairs g >>> (Int32.ofNat k &&& 31)) &&& 1 = 1 := by
  rw [(gpN_ok g hg).1, n_bit _ _ (by omega)]
  split
  · exact .inr rfl
  · exact .inl rfl
/-- a crossing of a group that may go -/
theorem t_90 {K : zI → zJ → Prop} {g : Nat} (ht : iSc t) (hS : cSc t c m) (hb : iB m) (hw : iW m) (hw32 : mW m < 32) (hg : g < 32) (hth : sThere (Int32.ofNat g) (m 0 1) (m 0 3)) (h : ∀ c', cSc t c' (mGo m g) → mAs [t, t + 1] c c' → (∀ k, 5 ≤ k → c' t k = c t k) → K c' ml) : TV (d + 3) 90 [.ref t, .int (Int32.ofNat g)] (zCS ++ X) (zCR fr nx P) c ml K := by
  obtain ⟨a0, a1, a2, a3, a4, a5⟩ := hS
  obtain ⟨g1, g2⟩ := go_tab (mW m) hw32 g hg
  have fin : ∀ v : Int32, v = Int32.ofNat (mW m ^^^ g) → TI (d + 2) 75 [.int (Int32.ofNat g)] (zCS ++ X) (zCR fr nx P) (zu (zu (zu c t 1 v) t 3 (1 - c t 3)) t 4 (c t 4 + 1)) ml (fun v1 mi1 ml1 => TV (d + 2) 16 [.ref t, .int v1] (zCS ++ X) (zCR fr nx P) mi1 ml1 (fun mi2 ml2 => qV K none mi2 ml2)) := by
    intro v hv
    refine t_75 hg (TV_of (B_16 t _ ht (t_17 ht (fun c' f1 f2 => ?_))))
    have ne : t ≠ t + 1 := by omega
    have ft : ∀ k, c' t k = zu (zu (zu c t 1 v) t 3 (1 - c t 3)) t 4 (c t 4 + 1) t k := fun k => f1 t k (by omega)
    refine h c' ⟨?_, ?_, ?_, ?_, ?_, fun k hk => ?_⟩ (fun x k hx => ?_) (fun k hk => ?_)
    · rw [ft, zu_nk (by decide), zu_nk (by decide), zu_nk (by decide), a0]; rfl
    · rw [ft, zu_nk (by decide), zu_nk (by decide), zu_eq, hv, mGo_1, hw.1, n_xor]
    · rw [ft, zu_nk (by decide), zu_nk (by decide), zu_nk (by decide), a2]; rfl
    · rw [ft, zu_nk (by decide), zu_eq, a3, mGo_3]
    · rw [ft, zu_eq, a4, mGo_4]
    · rw [f2 k hk, zu_nc (by omega), zu_nc (by omega), zu_nc (by omega), a5 k hk, zu_eq, a4]
      unfold mGo
      rw [if_pos rfl]
      rcases gbit g k hg hk with e | e
      · rw [if_pos e, if_neg (fun q => by rw [e] at q; exact absurd q.2 (by decide))]
      · rw [if_neg (by rw [e]; decide), if_pos ⟨hk, e⟩]
    · simp only [List.mem_cons, List.not_mem_nil, or_false] at hx
      rw [f1 x k (by omega), zu_nc (by omega), zu_nc (by omega), zu_nc (by omega)]
    · rw [ft, zu_nk (by omega), zu_nk (by omega), zu_nk (by omega)]
  unfold sThere at hth
  refine TV_of (B_90 t _ ht ?_)
  rw [a3]
  rcases hb with hb | hb
  · rw [hb] at hth ⊢
    rw [if_neg (by decide), hw.1] at hth
    refine ⟨fun x => absurd rfl x, fun _ => ?_⟩
    have := fin (c t 1 ||| Int32.ofNat g) (by rw [a1, hw.1]; exact g1 hth)
    rw [a3, hb] at this
    exact this
  · rw [hb] at hth ⊢
    rw [if_pos rfl, hw.1] at hth
    refine ⟨fun _ => ?_, fun x => absurd (by decide) x⟩
    have := fin (c t 1 &&& (Int32.ofNat g ^^^ -1)) (by rw [a1, hw.1]; exact g2 hth)
    rw [a3, hb] at this
    exact this
theorem zcp_in {α : Type} {f : Nat → Nat → α} {x : Nat} {g : Nat → α} {n k : Nat} (h : k < n) : zcp f x g 0 0 n x k = g k := by
  unfold zcp; rw [if_pos ⟨rfl, Nat.zero_le _, by omega⟩]; congr 1; omega
theorem zcp_out {α : Type} {f : Nat → Nat → α} {x y : Nat} {g : Nat → α} {n k : Nat} (h : y ≠ x) : zcp f x g 0 0 n y k = f y k := by
  unfold zcp; rw [if_neg (fun q => h q.1)]
/-- two scenes: their cells are others -/
theorem sc_ne {t a : Nat} (ht : iSc t) (ha : iSc a) : a ≠ t + 1 ∧ a ≠ t + 2 ∧ t ≠ a + 1 ∧ t ≠ a + 2 ∧ (t ≠ a → t + 1 ≠ a + 1 ∧ t + 1 ≠ a + 2 ∧ t + 2 ≠ a + 1 ∧ t + 2 ≠ a + 2) := by
  unfold iSc at ht ha; omega
theorem t_93 {K : zI → zJ → Prop} {a : Nat} (ht : iSc t) (ha : iSc a) (hta : t ≠ a) (hS : cSc a c m) (h : ∀ c', cSc t c' m → mAs [t, t + 1] c c' → (∀ k, 5 ≤ k → c' t k = c t k) → K c' ml) : TV (d + 1) 93 [.ref t, .ref a] (zCS ++ X) (zCR fr nx P) c ml K := by
  obtain ⟨a0, a1, a2, a3, a4, a5⟩ := hS
  obtain ⟨n1, n2, n3, n4, n5⟩ := sc_ne ht ha
  obtain ⟨n6, n7, n8, n9⟩ := n5 hta
  have hat : ∀ (f : zI) (k : Nat) (v : Int32) (j : Nat), zu f t k v a j = f a j := fun f k v j => zu_nc (fun e => hta e.symm)
  have ha1 : ∀ (f : zI) (k : Nat) (v : Int32), zu f t k v (a + 1) = f (a + 1) := fun f k v => by funext j; exact zu_nc (fun e => n3 e.symm)
  refine TV_of (B_93 t a ht ha ⟨by decide, ?_⟩)
  simp only [hat, ha1]
  refine h _ ⟨?_, ?_, ?_, ?_, ?_, fun k hk => ?_⟩ (fun x k hx => ?_) (fun k hk => ?_)
  · rw [zcp_out (by omega), zu_nk (by decide), zu_nk (by decide), zu_nk (by decide), zu_nk (by decide), zu_eq]; exact a0
  · rw [zcp_out (by omega), zu_nk (by decide), zu_nk (by decide), zu_nk (by decide), zu_eq]; exact a1
  · rw [zcp_out (by omega), zu_nk (by decide), zu_nk (by decide), zu_eq]; exact a2
  · rw [zcp_out (by omega), zu_nk (by decide), zu_eq]; exact a3
  · rw [zcp_out (by omega), zu_eq]; exact a4
  · rw [zcp_in hk]; exact a5 k hk
  · simp only [List.mem_cons, List.not_mem_nil, or_false] at hx
    rw [zcp_out (by omega), zu_nc (by omega), zu_nc (by omega), zu_nc (by omega), zu_nc (by omega), zu_nc (by omega)]
  · rw [zcp_out (by omega), zu_nk (by omega), zu_nk (by omega), zu_nk (by omega), zu_nk (by omega), zu_nk (by omega)]
theorem t_127 {K : zI → zJ → Prop} {a : Nat} (ht : iSc t) (ha : iSc a) (hta : t ≠ a) (hS : cFul a c m) (h : ∀ c', cFul t c' m → mAs [t, t + 1, t + 2] c c' → K c' ml) : TV (d + 2) 127 [.ref t, .ref a] (zCS ++ X) (zCR fr nx P) c ml K := by
  obtain ⟨n1, n2, n3, n4, n5⟩ := sc_ne ht ha
  obtain ⟨n6, n7, n8, n9⟩ := n5 hta
  obtain ⟨s, b6, b8, b5⟩ := hS
  refine TV_of (B_127 t a ht ha (t_93 ht ha hta s (fun c1 hs hf _ => ⟨by decide, ?_⟩)))
  have f1 : ∀ x k, ¬ (x = t ∨ x = t + 1) → c1 x k = c x k := fun x k hx => hf x k (by simpa using hx)
  refine h _ ⟨cSc_eq (c := c1) ?_ ?_ ?_, ?_, ?_, fun k hk => ?_⟩ (fun x k hx => ?_)
  · intro k hk
    rw [zu_nk (by omega), zcp_out (by omega), zu_nk (by omega)]
  · intro k _
    rw [zu_nc (by omega), zcp_out (by omega), zu_nc (by omega)]
  · exact hs
  · rw [zu_nk (by decide), zcp_out (by omega), zu_eq, f1 a 6 (by omega)]; exact b6
  · rw [zu_eq, zcp_out (by omega), zu_nc (by omega), f1 a 8 (by omega)]; exact b8
  · rw [zu_nc (by omega), zcp_in hk, zu_nc (by omega), f1 (a + 2) k (by omega)]; exact b5 k hk
  · simp only [List.mem_cons, List.not_mem_nil, or_false] at hx
    rw [zu_nc (by omega), zcp_out (by omega), zu_nc (by omega)]
    exact f1 x k (by omega)
end SCENES
