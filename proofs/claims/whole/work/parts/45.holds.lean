-- @after: 00.privs 01.names 02.code 03.tabs 04.mach 05.rows 26.rows2 27.wp 28.mem 30.bc0 34.bm0 35.bm1 40.num 41.leaf 42.laws 43.known 44.post
/-! The model: whether a clause's condition holds. -/
def mCodes (m : zI) : Nat → List Nat → Prop
  | _, [] => True
  | k, t :: l => m 11 k = mCode t ∧ mCodes m (k + 1) l
section HOLDS
variable {d : Nat} {ml : zJ}
theorem t_188_at {Q : zQ} {m0 : zI} {p c b : Nat} (hp : p < 6) (hc : c < 70) (hb : b ≤ 120) (e1 : m0 0 13 = Int32.ofNat p) (e2 : m0 10 c = Int32.ofNat b) :
    ∀ (toks : List Nat) (i : Nat) (st : List Bool) (mi : zI), mA 21 m0 mi → mCodes m0 (120 * p + i) toks → i + toks.length = b → sOK toks st.length → mRep mi st →
      (∀ mi', mA 21 m0 mi' → Q (some (.int (bi ((sEv (m0 22) toks st).headD false)))) mi' ml) →
      Wf (d + 1) 188 10 [.ref 0, .int (Int32.ofNat c), .int (Int32.ofNat st.length), .int (Int32.ofNat i), .retAddr 0, .retAddr 0, .retAddr 0] [] zMS zMR mi ml Q := by
  intro toks
  induction toks with
  | nil =>
    intro i st mi hA hC hl hok hr hQ
    have hz : zin (Int32.ofNat c) 70 = true := n_zin hc (by omega)
    obtain rfl : i = b := by simpa using hl
    refine B_188_10 _ _ _ ⟨hz, fun _ => ?_, fun n => ?_⟩
    · match st, hok with
      | [v], _ =>
        have h1 : mi 21 0 = bi v := hr.1
        refine ⟨by decide, ?_, ?_⟩
        · rw [h1]; cases v
          · exact .inl rfl
          · exact .inr rfl
        · rw [h1]; exact hQ mi hA
    · rw [n_cl (by omega), hA 10 c (by decide), e2] at n
      exact absurd (Int32.le_refl _) n
  | cons t l ih =>
    intro i st mi hA hC hl hok hr hQ
    have hz : zin (Int32.ofNat c) 70 = true := n_zin hc (by omega)
    obtain ⟨hc1, hC⟩ := hC
    obtain ⟨ht, hn, hok⟩ := hok
    simp only [List.length_cons] at hl
    have hi : i < 120 := by omega
    have e1' : mi 0 13 = Int32.ofNat p := by rw [hA 0 13 (by decide)]; exact e1
    have e2' : mi 10 c = Int32.ofNat b := by rw [hA 10 c (by decide)]; exact e2
    have e3 : mi 11 (120 * p + i) = mCode t := by rw [hA 11 _ (by decide)]; exact hc1
    have e4 : ∀ k, mi 22 k = m0 22 k := fun k => hA 22 k (by decide)
    refine B_188_10 _ _ _ ?_
    rw [n_cl (show c < 2147483648 by omega), e1', e2', n_120, n_cl (show 120 * p + i < 2147483648 by omega), e3]
    have step : ∀ (st1 : List Bool) (mi1 : zI), mA 21 m0 mi1 → sOK l st1.length → mRep mi1 st1 → sEv (m0 22) (t :: l) st = sEv (m0 22) l st1 →
        Wf (d + 1) 188 10 [.ref 0, .int (Int32.ofNat c), .int (Int32.ofNat st1.length), .int (Int32.ofNat (i + 1)), .retAddr 0, .retAddr 0, .retAddr 0] [] zMS zMR mi1 ml Q :=
      fun st1 mi1 h1 h2 h3 h4 => ih (i + 1) st1 mi1 h1 (by rw [← Nat.add_assoc] at *; exact hC) (by omega) h2 h3 (fun mi' h => by rw [← h4]; exact hQ mi' h)
    refine ⟨hz, fun n => absurd ((n_le (by omega) (by omega)).mp n) (by omega), fun _ => ⟨n_zin (by omega) (by omega), fun h1 => ?_, fun h1 => ?_⟩⟩
    · -- and, or, not
      have h3 := (mCode_small t ht).mpr h1
      rw [n_suc]
      have ht' : t = 0 ∨ t = 1 ∨ t = 2 := by omega
      rcases ht' with rfl | rfl | rfl
      · -- and
        match st, hok with
        | y :: x :: st, hok =>
          simp only [List.length_cons] at hn hok ⊢
          have hz1 : zin (Int32.ofNat st.length) 110 = true := n_zin (by omega) (by omega)
          have hz2 : zin (Int32.ofNat (st.length + 1)) 110 = true := n_zin (by omega) (by omega)
          have r1 : mi 21 (st.length + 1) = bi y := hr.1
          have r2 : mi 21 st.length = bi x := hr.2.1
          have fin : ∀ v : Int32, v = bi (x && y) → Wf (d + 1) 188 10 [.ref 0, .int (Int32.ofNat c), .int (Int32.ofNat (st.length + 1)), .int (Int32.ofNat (i + 1)), .retAddr 0, .retAddr 0, .retAddr 0] [] zMS zMR (zu mi 21 st.length v) ml Q := by
            intro v hv
            have hk : sOK l (st.length + 1) := hok.2
            exact step ((x && y) :: st) _ hA.put hk ⟨by rw [zu_eq, hv], mRep_put (Nat.le_refl _) hr.2.2⟩ rfl
          rw [n_predn, n_pred, n_cl (by omega), n_cl (by omega), r1, r2]
          refine ⟨fun _ => ⟨fun _ => ⟨hz1, fun n => ⟨hz1, fin _ ?_⟩, fun n => ⟨hz2, fun n1 => ⟨hz1, fin _ ?_⟩, fun n1 => ⟨hz1, fin _ ?_⟩⟩⟩, fun n => absurd (show mCode 0 ≠ 1 by decide) n⟩, fun n => absurd (show mCode 0 ≠ 3 by decide) n⟩
          · rw [bi_ne.mp n]; rfl
          · rw [bi_ne.mp n1, Bool.and_false]; rfl
          · cases x
            · exact absurd rfl n
            · cases y
              · exact absurd rfl n1
              · rfl
      · -- or
        match st, hok with
        | y :: x :: st, hok =>
          simp only [List.length_cons] at hn hok ⊢
          have hz1 : zin (Int32.ofNat st.length) 110 = true := n_zin (by omega) (by omega)
          have hz2 : zin (Int32.ofNat (st.length + 1)) 110 = true := n_zin (by omega) (by omega)
          have r1 : mi 21 (st.length + 1) = bi y := hr.1
          have r2 : mi 21 st.length = bi x := hr.2.1
          have fin : ∀ v : Int32, v = bi (x || y) → Wf (d + 1) 188 10 [.ref 0, .int (Int32.ofNat c), .int (Int32.ofNat (st.length + 1)), .int (Int32.ofNat (i + 1)), .retAddr 0, .retAddr 0, .retAddr 0] [] zMS zMR (zu mi 21 st.length v) ml Q := by
            intro v hv
            have hk : sOK l (st.length + 1) := hok.2
            exact step ((x || y) :: st) _ hA.put hk ⟨by rw [zu_eq, hv], mRep_put (Nat.le_refl _) hr.2.2⟩ rfl
          rw [n_predn, n_pred, n_cl (by omega), n_cl (by omega), r1, r2]
          refine ⟨fun _ => ⟨fun n => absurd rfl n, fun _ => ⟨hz1, fun n => ⟨hz1, fin _ ?_⟩, fun n => ⟨hz2, fun n1 => ⟨hz1, fin _ ?_⟩, fun n1 => ⟨hz1, fin _ ?_⟩⟩⟩⟩, fun n => absurd (show mCode 1 ≠ 3 by decide) n⟩
          · cases x
            · exact absurd rfl n
            · rfl
          · rw [bi_ne.mp n1, bi_ne.mp (Decidable.not_not.mp n)]; rfl
          · rw [bi_ne.mp (Decidable.not_not.mp n)]
            cases y
            · exact absurd rfl n1
            · rfl
      · -- not
        match st, hok with
        | x :: st, hok =>
          simp only [List.length_cons] at hn hok ⊢
          have hz1 : zin (Int32.ofNat st.length) 110 = true := n_zin (by omega) (by omega)
          have r1 : mi 21 st.length = bi x := hr.1
          have fin : ∀ v : Int32, v = bi (!x) → Wf (d + 1) 188 10 [.ref 0, .int (Int32.ofNat c), .int (Int32.ofNat (st.length + 1)), .int (Int32.ofNat (i + 1)), .retAddr 0, .retAddr 0, .retAddr 0] [] zMS zMR (zu mi 21 st.length v) ml Q := by
            intro v hv
            have hk : sOK l (st.length + 1) := hok.2
            exact step ((!x) :: st) _ hA.put hk ⟨by rw [zu_eq, hv], mRep_put (Nat.le_refl _) hr.2⟩ rfl
          rw [n_pred, n_cl (by omega), r1]
          refine ⟨fun n => absurd rfl n, fun _ => ⟨hz1, fun n => ⟨hz1, fin _ ?_⟩, fun n => ⟨hz1, fin _ ?_⟩⟩⟩
          · cases x
            · exact absurd rfl n
            · rfl
          · rw [bi_ne.mp (Decidable.not_not.mp n)]; rfl
    · -- a test
      have h3 : ¬ t < 3 := fun q => h1 ((mCode_small t ht).mp q)
      obtain ⟨u, rfl⟩ : ∃ u, t = u + 3 := ⟨t - 3, by omega⟩
      obtain ⟨q1, q2, q3⟩ := mCode_test u (by omega)
      have hz1 : zin (Int32.ofNat st.length) 110 = true := n_zin (by omega) (by omega)
      have hk : sOK l (st.length + 1) := by
        rw [if_neg (by omega), if_neg (by omega)] at hok; exact hok
      have fin : ∀ v : Int32, v = bi (sTest (m0 22) u) → Wf (d + 1) 188 10 [.ref 0, .int (Int32.ofNat c), .int (Int32.ofNat (st.length + 1)), .int (Int32.ofNat (i + 1)), .retAddr 0, .retAddr 0, .retAddr 0] [] zMS zMR (zu mi 21 st.length v) ml Q := by
        intro v hv
        exact step (sTest (m0 22) u :: st) _ hA.put hk ⟨by rw [zu_eq, hv], mRep_put (Nat.le_refl _) hr⟩ rfl
      rw [q1, q2, q3, n_suc, n_suc, n_cl (show u / 300 < 2147483648 by omega), n_cl (show st.length < 2147483648 by omega), e4]
      have hm : u / 100 % 3 < 3 := Nat.mod_lt _ (by decide)
      refine ⟨by decide, by decide, n_zin (by omega) (by omega), by decide, by decide, fun n => ⟨fun n1 => ⟨by decide, fun n2 => ⟨hz1, fin _ ?_⟩, fun n2 => ⟨hz1, fin _ ?_⟩⟩, fun n1 => ⟨by decide, fun n2 => ⟨hz1, fin _ ?_⟩, fun n2 => ⟨hz1, fin _ ?_⟩⟩⟩, fun n => ⟨by decide, fun n2 => ⟨hz1, fin _ ?_⟩, fun n2 => ⟨hz1, fin _ ?_⟩⟩⟩
      all_goals
        unfold sTest
        have hm3 : u / 100 % 3 = 0 ∨ u / 100 % 3 = 1 ∨ u / 100 % 3 = 2 := by omega
        rcases hm3 with e | e | e <;> rw [e] at n <;> rw [e] <;> first
          | (exact absurd n (by decide))
          | (rw [e] at n1; exact absurd n1 (by decide))
          | (simp only; rw [decide_eq_true (Int32.not_le.mp n2)]; rfl)
          | (simp only; rw [decide_eq_false (Int32.not_lt.mpr n2)]; rfl)
          | (simp only; rw [decide_eq_true (Decidable.not_not.mp n2)]; rfl)
          | (simp only; rw [decide_eq_false n2]; rfl)
/-- a clause that holds a condition: its codes are some tokens -/
def mClause (mi : zI) (p c : Nat) (toks : List Nat) : Prop := ∃ a : Nat, mi 9 c = Int32.ofNat a ∧ mi 10 c = Int32.ofNat (a + toks.length) ∧ a + toks.length ≤ 120 ∧ mCodes mi (120 * p + a) toks ∧ sOK toks 0
theorem t_188 {K : Int32 → zI → zJ → Prop} {mi : zI} {p c : Nat} {toks : List Nat} (hp : p < 6) (hc : c < 70) (e1 : mi 0 13 = Int32.ofNat p) (h : mClause mi p c toks) (hK : ∀ mi', mA 21 mi mi' → K (bi ((sEv (mi 22) toks []).headD false)) mi' ml) : TI (d + 1) 188 [.ref 0, .int (Int32.ofNat c)] zMS zMR mi ml K := by
  obtain ⟨a, h1, h2, h3, h4, h5⟩ := h
  refine TI_of (B_188 _ ⟨n_zin hc (by omega), ?_⟩)
  rw [n_cl (by omega), h1]
  exact t_188_at hp hc h3 e1 h2 toks a [] mi mA.rfl h4 rfl h5 trivial hK
end HOLDS
