-- @after: 00.privs 01.names 02.code 03.tabs 04.mach 05.rows 26.rows2 27.wp 28.mem 30.bc0 34.bm0 35.bm1 40.num 41.leaf 42.laws 43.known 44.post
/-! The model: whether a clause's condition holds. -/
def mCodes (m : zI) : Nat → List Nat → Prop
  | _, [] => True
  | k, t :: l => m 11 k = mCode t ∧ mCodes m (k + 1) l
section HOLDS
variable {d : Nat} {ml : zJ}
theorem t_188_at {Q : zQ} {m0 : zI} {p c b : Nat} (hp : p < 6) (hc : c < 70) (hb : b ≤ 120) (e1 : m0 0 13 = Int32.ofNat p) (e2 : m0 10 c = Int32.ofNat b) :
    ∀ (toks : List Nat) (i : Nat) (st : List Bool) (mi : zI), mA 21 m0 mi → mCodes m0 (120 * p + i) toks → i + toks.length = b → sOK toks st.length → mRep mi st →
      (∀ mi', mA 21 m0 mi' → Q (some (.int (bi ((sEv (m0 22) toks st).headD false)))) mi' ml) →
      Wf (d + 1) 188 10 [.ref 0, .int (Int32.ofNat c), .int (Int32.ofNat st.length), .int (Int32.ofNat i), .retAddr 0, .retAddr 0, .retAddr 0] [] zMS zMR mi ml Q := by
  intro toks
  induction toks with
  | nil =>
    intro i st mi hA hC hl hok hr hQ
    have hz : zin (Int32.ofNat c) 70 = true := n_zin hc (by omega)
    obtain rfl : i = b := by simpa using hl
    refine B_188_10 _ _ _ ⟨hz, fun _ => ?_, fun n => ?_⟩
    · match st, hok with
      | [v], _ =>
        have h1 : mi 21 0 = bi v := hr.1
        refine ⟨by decide, ?_, ?_⟩
        · rw [h1]; cases v
          · exact .inl rfl
          · exact .inr rfl
        · rw [h1]; exact hQ mi hA
    · rw [n_cl (by omega), hA 10 c (by decide), e2] at n
      exact absurd (Int32.le_refl _) n
  | cons t l ih =>
    intro i st mi hA hC hl hok hr hQ
    have hz : zin (Int32.ofNat c) 70 = true := n_zin hc (by omega)
    obtain ⟨hc1, hC⟩ := hC
    obtain ⟨ht, hok⟩ := hok
    simp only [List.length_cons] at hl
    have hi : i < 120 := by omega
    have e1' : mi 0 13 = Int32.ofNat p := by rw [hA 0 13 (by decide)]; exact e1
    have e2' : mi 10 c = Int32.ofNat b := by rw [hA 10 c (by decide)]; exact e2
    have e3 : mi 11 (120 * p + i) = mCode t := by rw [hA 11 _ (by decide)]; exact hc1
    refine B_188_10 _ _ _ ?_
    rw [n_cl (show c < 2147483648 by omega), e1', e2', n_120, n_cl (show 120 * p + i < 2147483648 by omega), e3]
    refine ⟨hz, fun n => absurd ((n_le (by omega) (by omega)).mp n) (by omega), fun _ => ⟨n_zin (by omega) (by omega), fun h1 => ?_, fun h1 => ?_⟩⟩
    · -- and, or, not
      have h3 := (mCode_small t ht).mpr h1
      rw [n_suc]
      match t, h3, st, hok, hr, hQ with
      | 2, _, a :: st, hok, hr, hQ =>
        refine ⟨fun n => absurd rfl n, fun _ => ?_⟩
        have hn : st.length < 40 := by
          sorry
        simp only [List.length_cons]
        rw [n_pred, n_cl (by omega), hr.1]
        sorry
      | 0, _, st, hok, hr, hQ => sorry
      | 1, _, st, hok, hr, hQ => sorry
    · sorry
end HOLDS
