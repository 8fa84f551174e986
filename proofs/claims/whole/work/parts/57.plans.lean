/-! The model: the ranks of groups, the best of some. -/
theorem n_mod {a b : Nat} (ha : a < 2147483648) (hb : b < 2147483648) : Int32.ofNat a % Int32.ofNat b = Int32.ofNat (a % b) := by
  have h : a % b < 2147483648 := Nat.lt_of_le_of_lt (Nat.mod_le a b) ha
  rw [← Int32.toInt_inj, Int32.toInt_mod, n_int ha, n_int hb, n_int h]
  rfl
theorem n_div {a b : Nat} (ha : a < 2147483648) (hb : b < 2147483648) : Int32.ofNat a / Int32.ofNat b = Int32.ofNat (a / b) := by
  have h : a / b < 2147483648 := Nat.lt_of_le_of_lt (Nat.div_le_self a b) ha
  rw [← Int32.toInt_inj, Int32.toInt_div, n_int ha, n_int hb, n_int h]
  show (Int.ofNat (a / b)).bmod (2 ^ 32) = Int.ofNat (a / b)
  generalize a / b = q at h ⊢
  show (q : Int).bmod (2 ^ 32) = (q : Int)
  rw [Int.bmod_def]
  split <;> omega
/-- who is on shore 1, all the wanting, as numbers -/
def mW (mi : zI) : Nat := (mi 0 1).toNatClampNeg
def iW (mi : zI) : Prop := mi 0 1 = Int32.ofNat (mW mi) ∧ mW mi < 2 ^ mPe mi
def mOther (mi : zI) : Int32 := if mi 0 3 = 0 then mi 0 2 else mi 0 2 ^^^ -1
def mNeed (mi : zI) (g : Int32) : Int32 := sOnes (g &&& mOther mi) 10 - sOnes (g &&& (mOther mi ^^^ -1)) 10 / 2
abbrev mKnows1 (mi : zI) (k : Nat) : Prop := sKnow (mi 1 k) (mi 0 4 + 1) (mLaw mi 2)
def mAfter (mi : zI) (g : Nat) : Int32 := (gPairs g ||| sBits (mKnows1 mi) 10) &&& (Int32.ofNat (2 ^ sTri (mPe mi)) - 1)
def mAftN (mi : zI) (g : Nat) : Nat := (mAfter mi g).toNatClampNeg
theorem n_and_lt (x : Int32) {n : Nat} (h0 : 0 < n) (h : n ≤ 2147483648) : ∃ w : Nat, w < n ∧ x &&& (Int32.ofNat n - 1) = Int32.ofNat w := by
  obtain ⟨k, rfl⟩ : ∃ k, n = k + 1 := ⟨n - 1, by omega⟩
  rw [n_pred]
  obtain ⟨w, h1, h2⟩ := n_small k (by omega) x
  exact ⟨w, by omega, h2⟩
theorem pow_tri (mi : zI) (hp : iP mi) : 2 ^ sTri (mPe mi) ≤ 1024 ∧ 2 ^ mPe mi ≤ 32 ∧ 0 < 2 ^ sTri (mPe mi) ∧ 0 < 2 ^ mPe mi := by
  have ht := sTri_le _ (iP_of hp).2
  exact ⟨(show 2 ^ sTri (mPe mi) ≤ 2 ^ 10 from Nat.pow_le_pow_right (by decide) ht), (show 2 ^ mPe mi ≤ 2 ^ 5 from Nat.pow_le_pow_right (by decide) (by have := (iP_of hp).2; omega)), Nat.pow_pos (by decide), Nat.pow_pos (by decide)⟩
theorem mAftN_of {mi : zI} (hp : iP mi) (g : Nat) : mAfter mi g = Int32.ofNat (mAftN mi g) ∧ mAftN mi g < 2 ^ sTri (mPe mi) := by
  obtain ⟨p1, p2, p3, p4⟩ := pow_tri mi hp
  obtain ⟨w, h1, h2⟩ := n_and_lt (gPairs g ||| sBits (mKnows1 mi) 10) p3 (by omega)
  have e : mAfter mi g = Int32.ofNat w := h2
  have e2 : mAftN mi g = w := by unfold mAftN; rw [e, n_cl (by omega)]
  rw [e, e2]; exact ⟨rfl, h1⟩
/-- the rank of a group by a kind -/
def mRank (mi : zI) (kd g : Nat) : Int32 := if kd = 1 then sOnes (Int32.ofNat g) 10 else if kd = 2 then mNeed mi (Int32.ofNat g) else 8 * LG mi (mAftN mi g) (mW mi ^^^ g) (1 - mBo mi) + sOnes (Int32.ofNat g) 10
/-- the table is right -/
def iTab (mi : zI) : Prop := ∀ k w a, k < 2 ^ sTri (mPe mi) → w < 2 ^ mPe mi → a < 2 → lTab mi k w a = LG mi k w a
/-- the first of the best; 0: there is none -/
def pk1 (r : Nat → Int32) (b g : Nat) : Nat := if b = 0 ∨ r b < r g then g else b
def pk (r : Nat → Int32) (l : List Nat) : Nat := l.foldl (pk1 r) 0
theorem pk_snoc (r : Nat → Int32) (l : List Nat) (g : Nat) : pk r (l ++ [g]) = pk1 r (pk r l) g := by
  unfold pk; rw [List.foldl_append]; rfl
theorem pk_mem (r : Nat → Int32) : ∀ (l : List Nat), l ≠ [] → (∀ g, g ∈ l → 1 ≤ g) → pk r l ∈ l := by
  intro l
  have : ∀ (l : List Nat) (b : Nat), l.foldl (pk1 r) b = b ∨ l.foldl (pk1 r) b ∈ l := by
    intro l
    induction l with
    | nil => intro b; exact .inl rfl
    | cons g l ih =>
      intro b
      rw [List.foldl_cons]
      rcases ih (pk1 r b g) with h | h
      · rw [h]
        unfold pk1
        split
        · exact .inr (List.mem_cons_self ..)
        · exact .inl rfl
      · exact .inr (List.mem_cons_of_mem _ h)
  intro hn h1
  match l, hn with
  | g :: l, _ =>
    have hg := h1 g (List.mem_cons_self ..)
    unfold pk
    rw [List.foldl_cons]
    have e : pk1 r 0 g = g := by unfold pk1; rw [if_pos (.inl rfl)]
    rw [e]
    rcases this l g with h | h
    · rw [h]; exact List.mem_cons_self ..
    · exact List.mem_cons_of_mem _ h
theorem gl_mem (f : Nat → Prop) [DecidablePred f] (g : Nat) : ∀ n, g ∈ gl f n ↔ g < n ∧ 1 ≤ g ∧ f g
  | 0 => by rw [gl]; simp
  | n + 1 => by
    rw [gl]
    have ih := gl_mem f g n
    split
    · rename_i h
      rw [List.mem_append, ih, List.mem_singleton]
      constructor
      · rintro (⟨a, b⟩ | rfl)
        · exact ⟨by omega, b⟩
        · exact ⟨by omega, h⟩
      · intro ⟨a, b⟩
        by_cases e : g = n
        · exact .inr e
        · exact .inl ⟨by omega, b⟩
    · rename_i h
      rw [ih]
      constructor
      · intro ⟨a, b⟩; exact ⟨by omega, b⟩
      · intro ⟨a, b⟩
        refine ⟨?_, b⟩
        by_cases e : g = n
        · subst e; exact absurd b h
        · omega
section PLANS
variable {d : Nat} {ml : zJ}
theorem t_214 {K : Int32 → zI → zJ → Prop} {mi : zI} {a : Int32} (h : K (mNeed mi a) mi ml) : TI (d + 2) 214 [.ref 0, .int a] zMS zMR mi ml K := by
  unfold mNeed mOther at h
  refine TI_of (B_214 _ ⟨fun e => ?_, fun e => ?_⟩)
  · rw [if_neg e] at h; exact t_184 _ (t_184 _ ⟨by decide, h⟩)
  · rw [if_pos (Decidable.not_not.mp e)] at h; exact t_184 _ (t_184 _ ⟨by decide, h⟩)
theorem t_215_at {Q : zQ} {mi : zI} (hp : iP mi) {x : Int32} (h : Q (some (.int ((x ||| sBits (mKnows1 mi) 10) &&& (Int32.ofNat (2 ^ sTri (mPe mi)) - 1)))) mi ml) :
    ∀ m k : Nat, k + m = 10 → Wf (d + 1) 215 12 [.ref 0, .retAddr 0, .int (mLaw mi 2), .int (x ||| sBits (mKnows1 mi) k), .int (Int32.ofNat k)] [] zMS zMR mi ml Q
  | 0, k, e => by
    obtain rfl : k = 10 := by omega
    obtain ⟨q1, q2⟩ := iP_of hp
    have ht := sTri_le _ q2
    refine B_215_12 _ _ _ ⟨fun _ => ⟨by decide, ?_⟩, fun n => absurd (show (10 : Int32) ≤ Int32.ofNat 10 by decide) n⟩
    rw [q1, n_tri _ q2, n_pow _ (by omega)]
    exact h
  | m + 1, k, e => by
    have hz : zin (Int32.ofNat k) 10 = true := n_zin (by omega) (by omega)
    have ih := t_215_at hp h m (k + 1) (by omega)
    rw [sBits] at ih
    refine B_215_12 _ _ _ ⟨fun n => absurd ((n_le (a := 10) (by omega) (by omega)).mp n) (by omega), fun _ => ⟨hz, ?_⟩⟩
    rw [n_suc, n_cl (by omega)]
    refine ⟨fun e1 => ?_, fun e1 => ⟨fun e2 => ?_, fun e2 => ⟨hz, fun e3 => ?_, fun e3 => ?_⟩⟩⟩
    · rw [if_neg (fun q => q.1 e1)] at ih
      rw [Int32.or_zero]; exact ih
    · rw [if_pos ⟨e1, .inl e2⟩] at ih
      rw [Int32.or_assoc]; exact ih
    · rw [if_neg (fun q => q.2.elim e2 (fun r => absurd e3 (Int32.not_le.mpr r)))] at ih
      rw [Int32.or_zero]; exact ih
    · rw [if_pos ⟨e1, .inr (Int32.not_le.mp e3)⟩] at ih
      rw [Int32.or_assoc]; exact ih
theorem t_215 {K : Int32 → zI → zJ → Prop} {mi : zI} {g : Nat} (hg : g < 32) (hi : iH mi) (hp : iP mi) (h3 : mi 23 g = gPairs g) (h : K (mAfter mi g) mi ml) : TI (d + 3) 215 [.ref 0, .int (Int32.ofNat g)] zMS zMR mi ml K := by
  refine TI_of (B_215 _ (t_162 hi 2 ⟨n_zin hg (by omega), ?_⟩))
  rw [n_cl (by omega), h3]
  have q := t_215_at (d := d + 2) (Q := qI K) (x := gPairs g) hp h 10 0 rfl
  rw [sBits, Int32.or_zero] at q
  exact q
theorem n_1sub : ∀ a : Nat, a < 2 → (1 : Int32) - Int32.ofNat a = Int32.ofNat (1 - a) := by decide
theorem t_213 {K : Int32 → zI → zJ → Prop} {mi : zI} {kd g : Nat} (hk : kd = 1 ∨ kd = 2 ∨ kd = 4) (hi : iH mi) (hp : iP mi) (hb : iB mi) (hw : iW mi) (hg : g < 2 ^ mPe mi) (h3 : mi 23 g = gPairs g) (hT : kd = 4 → iTab mi) (h : K (mRank mi kd g) mi ml) : TI (d + 4) 213 [.ref 0, .int (Int32.ofNat kd), .int (Int32.ofNat g)] zMS zMR mi ml K := by
  obtain ⟨q1, q2⟩ := iP_of hp
  obtain ⟨p1, p2, p3, p4⟩ := pow_tri mi hp
  rcases hk with rfl | rfl | rfl
  · exact TI_of (B_213 _ _ ⟨fun e => absurd rfl e, fun e => t_184 _ h⟩)
  · exact TI_of (B_213 _ _ ⟨fun e => ⟨fun e1 => absurd rfl e1, fun e1 => t_214 h⟩, fun e => absurd (by decide) e⟩)
  · obtain ⟨a1, a2⟩ := mAftN_of hp g
    obtain ⟨b1, b2⟩ := mBo_of hb
    obtain ⟨w1, w2⟩ := hw
    have hx : mW mi ^^^ g < 2 ^ mPe mi := Nat.xor_lt_two_pow w2 hg
    have ew : (mi 0 1 ^^^ Int32.ofNat g) &&& (((1 : Int32) <<< (mi 0 0 &&& 31)) - 1) = Int32.ofNat (mW mi ^^^ g) := by
      rw [q1, n_pow _ (by omega), (n_msk _ q2).1, w1, n_xor, n_and, Nat.and_two_pow_sub_one_eq_mod, Nat.mod_eq_of_lt hx]
    have hs := lSt_lt (k := mAftN mi g) (w := mW mi ^^^ g) (a := 1 - mBo mi) (by omega) (by omega) (by omega)
    refine TI_of (B_213 _ _ ⟨fun e => ⟨fun e1 => t_215 (by omega) hi hp h3 ?_, fun e1 => absurd (by decide) e1⟩, fun e => absurd (by decide) e⟩)
    rw [a1, ew, b1, n_1sub _ b2]
    refine t_203 ⟨n_zin hs (by omega), t_184 _ ?_⟩
    rw [n_cl (by omega)]
    have q := hT rfl _ _ _ a2 hx (show 1 - mBo mi < 2 by omega)
    unfold lTab at q
    rw [q]
    exact h
theorem take_snoc {l : List Nat} {i : Nat} (h : i < l.length) : l.take (i + 1) = l.take i ++ [l.getD i 0] := by
  rw [List.take_add_one, List.getD_eq_getElem?_getD, List.getElem?_eq_getElem h]
  rfl
theorem t_212_at {Q : zQ} {mi : zI} {kd : Nat} {l : List Nat} (hk : kd = 1 ∨ kd = 2 ∨ kd = 4) (hi : iH mi) (hp : iP mi) (hb : iB mi) (hw : iW mi) (hl : l.length ≤ 31) (hL : mL mi l) (hg : ∀ g, g ∈ l → 1 ≤ g ∧ g < 2 ^ mPe mi ∧ mi 23 g = gPairs g) (hT : kd = 4 → iTab mi) (h : Q (some (.int (Int32.ofNat (pk (mRank mi kd) l)))) mi ml) :
    ∀ m i : Nat, i + m = l.length → 1 ≤ i → Wf (d + 5) 212 7 [.ref 0, .int (Int32.ofNat kd), .int (Int32.ofNat (pk (mRank mi kd) (l.take i))), .int (Int32.ofNat i)] [] zMS zMR mi ml Q
  | 0, i, e, h1 => by
    obtain rfl : i = l.length := by omega
    refine B_212_7 _ _ _ ⟨fun _ => ?_, fun n => ?_⟩
    · rw [List.take_length]; exact h
    · rw [hL.1] at n; exact absurd (Int32.le_refl _) n
  | m + 1, i, e, h1 => by
    have hz : zin (Int32.ofNat i) 31 = true := n_zin (by omega) (by omega)
    have ih := t_212_at hk hi hp hb hw hl hL hg hT h m (i + 1) (by omega) (by omega)
    rw [take_snoc (by omega), pk_snoc] at ih
    have hne : l.take i ≠ [] := by
      intro q
      have := congrArg List.length q
      rw [List.length_take] at this
      simp only [List.length_nil] at this
      omega
    have hm := pk_mem (mRank mi kd) (l.take i) hne (fun g q => (hg g (List.mem_of_mem_take q)).1)
    obtain ⟨g1, g2, g3⟩ := hg _ (List.mem_of_mem_take hm)
    have hgi : l.getD i 0 ∈ l := by rw [List.getD_eq_getElem?_getD, List.getElem?_eq_getElem (by omega)]; exact List.getElem_mem _
    obtain ⟨f1, f2, f3⟩ := hg _ hgi
    refine B_212_7 _ _ _ ⟨fun n => ?_, fun _ => ⟨hz, ?_⟩⟩
    · rw [hL.1] at n; exact absurd ((n_le (by omega) (by omega)).mp n) (by omega)
    rw [n_suc, n_cl (by omega), hL.2 i (by omega)]
    refine t_213 hk hi hp hb hw f2 f3 hT (t_213 hk hi hp hb hw g2 g3 hT ⟨fun e1 => ?_, fun e1 => ⟨hz, ?_⟩⟩)
    · unfold pk1 at ih
      rw [if_neg (fun q => q.elim (fun r => by omega) (fun r => absurd e1 (Int32.not_le.mpr r)))] at ih
      exact ih
    · unfold pk1 at ih
      rw [if_pos (.inr (Int32.not_le.mp e1))] at ih
      rw [hL.2 i (by omega)]
      exact ih
theorem t_212 {K : Int32 → zI → zJ → Prop} {mi : zI} {kd : Nat} {l : List Nat} (hk : kd = 1 ∨ kd = 2 ∨ kd = 4) (hi : iH mi) (hp : iP mi) (hb : iB mi) (hw : iW mi) (hl : l.length ≤ 31) (h0 : 0 < l.length) (hL : mL mi l) (hg : ∀ g, g ∈ l → 1 ≤ g ∧ g < 2 ^ mPe mi ∧ mi 23 g = gPairs g) (hT : kd = 4 → iTab mi) (h : K (Int32.ofNat (pk (mRank mi kd) l)) mi ml) : TI (d + 5) 212 [.ref 0, .int (Int32.ofNat kd)] zMS zMR mi ml K := by
  refine TI_of (B_212 _ ⟨by decide, ?_⟩)
  rw [hL.2 0 h0]
  have q := t_212_at (d := d) (Q := qI K) hk hi hp hb hw hl hL hg hT h (l.length - 1) 1 (by omega) (by decide)
  rw [take_snoc h0, pk_snoc] at q
  exact q
end PLANS
