-- @after: 00.privs 01.names 02.code 03.tabs 04.mach 05.rows 26.rows2 27.wp 28.mem 30.bc0 34.bm0 35.bm1 40.num 41.leaf 42.laws 43.known 44.post 45.holds
/-! The model: who is barred, what a crossing is worth. -/
/-- the same but for some cells -/
def mAs (l : List Nat) (mi mi' : zI) : Prop := ∀ c k, ¬ c ∈ l → mi' c k = mi c k
theorem mAs.rfl {l : List Nat} {mi : zI} : mAs l mi mi := fun _ _ _ => Eq.refl _
theorem mAs.trans {l : List Nat} {a b c : zI} (h1 : mAs l a b) (h2 : mAs l b c) : mAs l a c := fun x k hx => by rw [h2 x k hx, h1 x k hx]
theorem mAs.put {l : List Nat} {a b : zI} {q k : Nat} {v : Int32} (h : mAs l a b) (hq : q ∈ l) : mAs l a (zu b q k v) := fun x y hx => by rw [zu_nc (fun e => hx (by rw [e]; exact hq))]; exact h x y hx
theorem mA.as {l : List Nat} {q : Nat} {a b : zI} (h : mA q a b) (hq : q ∈ l) : mAs l a b := fun x y hx => h x y (fun e => hx (e ▸ hq))
/-- what the letters name -/
def sNm (a b n w s c : Int32) : Nat → Int32
  | 0 => a
  | 1 => b
  | 2 => n
  | 3 => w
  | 4 => s
  | _ => c
theorem sStep_congr {f g : Nat → Int32} (h : ∀ k, k < 6 → f k = g k) {t : Nat} (ht : t < 1803) (st : List Bool) : sStep f t st = sStep g t st := by
  match t, st with
  | 0, [] => rfl
  | 0, [_] => rfl
  | 0, _ :: _ :: _ => rfl
  | 1, [] => rfl
  | 1, [_] => rfl
  | 1, _ :: _ :: _ => rfl
  | 2, [] => rfl
  | 2, _ :: _ => rfl
  | u + 3, st =>
    show sTest f u :: st = sTest g u :: st
    unfold sTest
    rw [h (u / 300) (by omega)]
theorem sEv_congr {f g : Nat → Int32} (h : ∀ k, k < 6 → f k = g k) : ∀ {l : List Nat} (n : Nat), sOK l n → ∀ st, sEv f l st = sEv g l st
  | [], _, _, _ => rfl
  | t :: l, n, ho, st => by
    obtain ⟨ht, -, ho⟩ := ho
    rw [sEv, sEv, sStep_congr h ht]
    by_cases h1 : t < 2
    · rw [if_pos h1] at ho; exact sEv_congr h _ ho.2 _
    · rw [if_neg h1] at ho
      by_cases h2 : t = 2
      · rw [if_pos h2] at ho; exact sEv_congr h _ ho.2 _
      · rw [if_neg h2] at ho; exact sEv_congr h _ ho _
def sTrue (nm : Nat → Int32) (toks : List Nat) : Bool := (sEv nm toks []).headD false
section WORTH
variable {d : Nat} {ml : zJ}
theorem t_187 {K : zI → zJ → Prop} {mi : zI} {a b c e f g : Int32} (h : ∀ mi', mAs [21, 22] mi mi' → (∀ k, k < 6 → mi' 22 k = sNm a b c e f g k) → K mi' ml) : TV (d + 1) 187 [.ref 0, .int a, .int b, .int c, .int e, .int f, .int g] zMS zMR mi ml K := by
  refine TV_of (B_187 _ _ _ _ _ _ ⟨by decide, by decide, by decide, by decide, by decide, by decide, ?_⟩)
  refine h _ (((((((mAs.rfl (mi := mi)).put (by decide)).put (by decide)).put (by decide)).put (by decide)).put (by decide)).put (by decide)) ?_
  intro k hk
  match k, hk with
  | 0, _ => rfl
  | 1, _ => rfl
  | 2, _ => rfl
  | 3, _ => rfl
  | 4, _ => rfl
  | 5, _ => rfl
/-- the text that holds: the conditions of its clauses are these tokens -/
def iT (mi : zI) (tk : Nat → List Nat) : Prop := ∀ k, k < mN mi → (mi 7 (10 * mP mi + k) = 3 ∨ mi 7 (10 * mP mi + k) = 4) → mClause mi (mP mi) (10 * mP mi + k) (tk k)
theorem mCodes_as {mi mi' : zI} (h : mAs [21, 22] mi mi') : ∀ {l : List Nat} {k : Nat}, mCodes mi k l → mCodes mi' k l
  | [], _, _ => trivial
  | _ :: _, k, q => ⟨by rw [h 11 k (by decide)]; exact q.1, mCodes_as h q.2⟩
theorem mClause_as {mi mi' : zI} (h : mAs [21, 22] mi mi') {p c : Nat} {l : List Nat} (q : mClause mi p c l) : mClause mi' p c l := by
  obtain ⟨a, h1, h2, h3, h4, h5⟩ := q
  exact ⟨a, by rw [h 9 c (by decide)]; exact h1, by rw [h 10 c (by decide)]; exact h2, h3, mCodes_as h h4, h5⟩
theorem mP_as {mi mi' : zI} (h : mAs [21, 22] mi mi') : mP mi' = mP mi := by unfold mP; rw [h 0 13 (by decide)]
theorem mN_as {mi mi' : zI} (h : mAs [21, 22] mi mi') : mN mi' = mN mi := by unfold mN; rw [mP_as h, h 0 13 (by decide), h 6 _ (by decide)]
theorem iH_as {mi mi' : zI} (h : mAs [21, 22] mi mi') (q : iH mi) : iH mi' := by
  rcases q with q | ⟨p, n, hp, hn, h1, h2⟩
  · exact .inl (by rw [h 0 13 (by decide)]; exact q)
  · exact .inr ⟨p, n, hp, hn, by rw [h 0 13 (by decide)]; exact h1, by rw [h 6 _ (by decide)]; exact h2⟩
theorem iT_as {mi mi' : zI} (h : mAs [21, 22] mi mi') {tk : Nat → List Nat} (q : iT mi tk) : iT mi' tk := by
  intro k hk hw
  rw [mN_as h] at hk
  rw [mP_as h, h 7 _ (by decide)] at hw
  rw [mP_as h]
  exact mClause_as h (q k hk hw)
/-- the worth of the first k clauses -/
def sWor (mi : zI) (tk : Nat → List Nat) (nm : Nat → Int32) : Nat → Int32
  | 0 => 0
  | k + 1 => if mi 7 (10 * mP mi + k) = 4 ∧ sTrue nm (tk k) = true then sWor mi tk nm k + mi 8 (10 * mP mi + k) else sWor mi tk nm k
theorem sWor_as {mi mi' : zI} (h : mAs [21, 22] mi mi') {tk : Nat → List Nat} {nm : Nat → Int32} : ∀ k, sWor mi' tk nm k = sWor mi tk nm k
  | 0 => rfl
  | k + 1 => by
    rw [sWor, sWor, sWor_as h k, mP_as h, h 7 _ (by decide), h 8 _ (by decide)]
theorem sTrue_as {nm : Nat → Int32} {f : Nat → Int32} (h : ∀ k, k < 6 → f k = nm k) {mi : zI} {p c : Nat} {l : List Nat} (q : mClause mi p c l) : (sEv f l []).headD false = sTrue nm l := by
  obtain ⟨a, h1, h2, h3, h4, h5⟩ := q
  unfold sTrue
  rw [sEv_congr h 0 h5]
theorem t_193_at {Q : zQ} {tk : Nat → List Nat} {nm : Nat → Int32} {m0 : zI} (hQ : ∀ mi', mAs [21, 22] m0 mi' → Q (some (.int (sWor m0 tk nm (mN m0)))) mi' ml) : ∀ (m k : Nat) (mi : zI), k + m = mN m0 → mAs [21, 22] m0 mi → iH mi → iT mi tk → (∀ q, q < 6 → mi 22 q = nm q) →
    Wf (d + 2) 193 33 [.ref 0, .retAddr 0, .retAddr 0, .int (sWor m0 tk nm k), .int (Int32.ofNat k)] [] zMS zMR mi ml Q
  | 0, k, mi, e, hA, hi, hT, hn => by
    obtain rfl : k = mN m0 := by omega
    refine B_193_33 _ _ (t_163 hi ⟨fun _ => hQ mi hA, fun n => ?_⟩)
    rw [mN_as hA] at n
    exact absurd (Int32.le_refl _) n
  | m + 1, k, mi, e, hA, hi, hT, hn => by
    have h10 := mN_le hi
    have eN := mN_as hA
    obtain ⟨e1, e2⟩ := mN_pos hi (k := k) (by omega)
    refine B_193_33 _ _ (t_163 hi ⟨fun n => absurd ((n_le (by omega) (by omega)).mp n) (by omega), fun _ => ?_⟩)
    rw [e1, n_idx, n_suc, n_cl (by omega)]
    have hz : zin (Int32.ofNat (10 * mP mi + k)) 70 = true := n_zin (by omega) (by omega)
    have eW := sWor_as (tk := tk) (nm := nm) hA (k + 1)
    rw [sWor] at eW
    refine ⟨hz, fun n => ?_, fun n => ?_⟩
    · have ih := t_193_at hQ m (k + 1) mi (by omega) hA hi hT hn
      rw [← eW, if_neg (fun q => n q.1), sWor_as hA] at ih
      rw [Int32.add_zero]; exact ih
    · have hw : mi 7 (10 * mP mi + k) = 4 := Decidable.not_not.mp n
      have hC := hT k (by omega) (.inr hw)
      refine t_188 e2 (by omega) e1 hC (fun mi' hA' => ?_)
      rw [sTrue_as hn hC]
      have hB : mAs [21, 22] mi mi' := hA'.as (by decide)
      have hn' : ∀ q, q < 6 → mi' 22 q = nm q := fun q hq => by rw [hA' 22 q (by decide)]; exact hn q hq
      have e3 : mi' 0 13 = Int32.ofNat (mP mi) := by rw [hA' 0 13 (by decide)]; exact e1
      rw [e3, n_idx, n_cl (by omega)]
      have ih := t_193_at hQ m (k + 1) mi' (by omega) (hA.trans hB) (iH_as hB hi) (iT_as hB hT) hn'
      refine ⟨fun n1 => ?_, fun n1 => ⟨hz, ?_⟩⟩
      · rw [← eW, if_neg (fun q => by rw [q.2] at n1; exact absurd n1 (by decide)), sWor_as hA] at ih
        rw [Int32.add_zero]; exact ih
      · have hb : sTrue nm (tk k) = true := by
          cases hb : sTrue nm (tk k) with
          | true => rfl
          | false => exact absurd (by rw [hb]; rfl) n1
        rw [← eW, if_pos ⟨hw, hb⟩, sWor_as hA] at ih
        rw [hA' 8 _ (by decide)]; exact ih
/-- what a crossing of a group is worth -/
def mNm (mi : zI) (g : Int32) : Nat → Int32 := sNm 99 99 (sOnes g 10) (sOnes (g &&& (if mi 0 3 = 0 then mi 0 2 else mi 0 2 ^^^ -1)) 10) (mi 0 3) (mi 0 4 % 60)
def mWor (mi : zI) (tk : Nat → List Nat) (g : Int32) : Int32 := sWor mi tk (mNm mi g) (mN mi)
theorem t_193 {K : Int32 → zI → zJ → Prop} {tk : Nat → List Nat} {mi : zI} {g : Int32} (hi : iH mi) (hT : iT mi tk) (h : ∀ mi', mAs [21, 22] mi mi' → K (mWor mi tk g) mi' ml) : TI (d + 2) 193 [.ref 0, .int g] zMS zMR mi ml K := by
  have fin : ∀ (b : Int32) (mi' : zI), b = (if mi 0 3 = 0 then mi 0 2 else mi 0 2 ^^^ -1) → mAs [21, 22] mi mi' → (∀ q, q < 6 → mi' 22 q = sNm 99 99 (sOnes g 10) (sOnes (g &&& b) 10) (mi 0 3) (mi 0 4 % 60) q) →
      Wf (d + 2) 193 33 [.ref 0, .retAddr 0, .retAddr 0, .int 0, .int 0] [] zMS zMR mi' ml (qI K) := by
    intro b mi' hb hA hn
    subst hb
    exact t_193_at (Q := qI K) (tk := tk) (nm := mNm mi g) (m0 := mi) (fun mi1 h1 => h mi1 h1) (mN mi) 0 mi' (by omega) hA (iH_as hA hi) (iT_as hA hT) hn
  refine TI_of (B_193 _ ⟨fun e => ?_, fun e => ?_⟩)
  · refine t_184 _ (t_184 _ ⟨by decide, t_187 (fun mi' hA hn => fin _ mi' ?_ hA hn)⟩)
    rw [if_neg e]
  · refine t_184 _ (t_184 _ ⟨by decide, t_187 (fun mi' hA hn => fin _ mi' ?_ hA hn)⟩)
    rw [if_pos (Decidable.not_not.mp e)]
end WORTH
