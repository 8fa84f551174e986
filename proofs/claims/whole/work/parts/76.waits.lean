/-! The model reads: tests, what waits. -/
def xW (mi : zI) : List Nat → Prop
  | [] => True
  | w :: W => mi 20 W.length = Int32.ofNat w ∧ xW mi W
def opn : List Nat → Nat
  | [] => 0
  | w :: W => (if w = 0 ∨ w = 3 then 1 else 0) + opn W
/-- reading a condition: l is left, W waits, out is laid -/
def xE (mi : zI) (n : Nat) (l W : List Nat) (co : Nat) (out : List Nat) : Prop := xT mi n l ∧ (mi 0 33 = Int32.ofNat W.length ∧ mi 0 34 = Int32.ofNat (opn W) ∧ xW mi W) ∧ (mi 0 31 = Int32.ofNat (co + out.length) ∧ mCodes mi (720 + co) out) ∧ co + out.length + W.length + l.length ≤ n
theorem opn_le : ∀ W, opn W ≤ W.length
  | [] => Nat.le_refl _
  | w :: W => by have := opn_le W; rw [opn, List.length_cons]; split <;> omega
theorem xW_put {mi : zI} {v : Int32} {j : Nat} : ∀ {W : List Nat}, W.length ≤ j → xW mi W → xW (zu mi 20 j v) W
  | [], _, _ => trivial
  | w :: W, h, q => by
    simp only [List.length_cons] at h
    exact ⟨by rw [zu_nk (by omega)]; exact q.1, xW_put (by omega) q.2⟩
theorem xW_eq {mi mi' : zI} (h : ∀ k, mi' 20 k = mi 20 k) : ∀ {W : List Nat}, xW mi W → xW mi' W
  | [], _ => trivial
  | _ :: _, q => ⟨by rw [h]; exact q.1, xW_eq h q.2⟩
/-- the words and letters that the model holds -/
def wdL : List Nat := [104, 111, 108, 100, 115, 32, 108, 101, 97, 115, 116, 32, 102, 111, 114, 103, 101, 116, 98, 97, 114, 32, 32, 32, 119, 111, 114, 116, 104, 32]
def wdN : List Nat := [5, 5, 6, 3, 5]
def iWd (m : zI) : Prop := (∀ k, k < 30 → m 17 k = Int32.ofNat (wdL.getD k 0)) ∧ (∀ k, k < 5 → m 18 k = Int32.ofNat (wdN.getD k 0)) ∧ ∀ k, k < 6 → m 19 k = Int32.ofNat (pLet.getD k 0)
theorem iWd_f {m mi : zI} (h : xF m mi) (q : iWd m) : iWd mi :=
  ⟨fun k hk => by rw [h 17 k (by omega) (by omega) (by omega)]; exact q.1 k hk, fun k hk => by rw [h 18 k (by omega) (by omega) (by omega)]; exact q.2.1 k hk, fun k hk => by rw [h 19 k (by omega) (by omega) (by omega)]; exact q.2.2 k hk⟩
theorem pLet_in : ∀ c : Nat, c < 128 → ∀ k : Nat, k < 6 → (c = pLet.getD k 0 ↔ pIn pLet c = k) := by decide +kernel
theorem pSig_in : ∀ c : Nat, c < 128 → (c = 60 ↔ pIn pSig c = 0) ∧ (c = 61 ↔ pIn pSig c = 1) ∧ (c = 62 ↔ pIn pSig c = 2) := by decide +kernel
def ltL (l : List Nat) (k : Nat) : Int32 := match l with | [] => -1 | c :: _ => if pIn pLet c < k then Int32.ofNat (pIn pLet c) else -1
section WAITS
variable {d : Nat} {ml : zJ}
theorem t_179 {K : zI → zJ → Prop} {mi : zI} {co t : Nat} (hc : mi 0 31 = Int32.ofNat co) (hl : co < 120) (h : K (zu (zu mi 11 (720 + co) (mCode t)) 0 31 (Int32.ofNat (co + 1))) ml) : TV (d + 1) 179 [.ref 0, .int (mCode t)] zMS zMR mi ml K := by
  refine TV_of (B_179 _ ?_)
  have e : (720 : Int32) + Int32.ofNat co = Int32.ofNat (720 + co) := n_add 720 co
  rw [hc, e, n_suc, n_cl (by omega)]
  exact ⟨n_zin (by omega) (by omega), h⟩
/-- a token is laid, nothing waits less -/
theorem xE_lay {mi : zI} {n co t : Nat} {l W out : List Nat} (h : xE mi n l W co out) (hb : co + out.length + 1 + W.length + l.length ≤ n) : xE (zu (zu mi 11 (720 + (co + out.length)) (mCode t)) 0 31 (Int32.ofNat (co + out.length + 1))) n l W co (out ++ [t]) := by
  obtain ⟨a, ⟨b1, b2, b3⟩, ⟨c1, c2⟩, e⟩ := h
  refine ⟨xT_eq (by rw [zu_nk (by decide), zu_nc (by decide)]) (by rw [zu_nk (by decide), zu_nc (by decide)]) (fun k => by rw [zu_nc (by decide), zu_nc (by decide)]) a, ⟨?_, ?_, ?_⟩, ⟨?_, ?_⟩, ?_⟩
  · rw [zu_nk (by decide), zu_nc (by decide)]; exact b1
  · rw [zu_nk (by decide), zu_nc (by decide)]; exact b2
  · exact xW_eq (fun k => by rw [zu_nc (by decide), zu_nc (by decide)]) b3
  · rw [zu_eq, List.length_append]; rfl
  · refine mCodes_eq (fun k => zu_nc (by decide)) (mCodes_snoc (mCodes_put (by omega) c2) ?_)
    rw [← Nat.add_assoc, zu_eq]
  · rw [List.length_append]; simp only [List.length_cons, List.length_nil]; omega
/-- what waits last is laid and waits no more -/
theorem xE_pop {mi : zI} {n co t w : Nat} {l W out : List Nat} (h : xE mi n l (w :: W) co out) (ho : ¬ (w = 0 ∨ w = 3)) : xE (zu (zu (zu mi 11 (720 + (co + out.length)) (mCode t)) 0 31 (Int32.ofNat (co + out.length + 1))) 0 33 (Int32.ofNat W.length)) n l W co (out ++ [t]) := by
  obtain ⟨a, ⟨b1, b2, b3⟩, ⟨c1, c2⟩, e⟩ := h
  rw [opn, if_neg ho, Nat.zero_add] at b2
  simp only [List.length_cons] at e
  refine ⟨xT_eq (by rw [zu_nk (by decide), zu_nk (by decide), zu_nc (by decide)]) (by rw [zu_nk (by decide), zu_nk (by decide), zu_nc (by decide)]) (fun k => by rw [zu_nc (by decide), zu_nc (by decide), zu_nc (by decide)]) a, ⟨zu_eq, ?_, ?_⟩, ⟨?_, ?_⟩, ?_⟩
  · rw [zu_nk (by decide), zu_nk (by decide), zu_nc (by decide)]; exact b2
  · exact xW_eq (fun k => by rw [zu_nc (by decide), zu_nc (by decide), zu_nc (by decide)]) b3.2
  · rw [zu_nk (by decide), zu_eq, List.length_append]; rfl
  · refine mCodes_eq (fun k => by rw [zu_nc (by decide), zu_nc (by decide)]) (mCodes_snoc (mCodes_put (by omega) c2) ?_)
    rw [← Nat.add_assoc, zu_eq]
  · rw [List.length_append]; simp only [List.length_cons, List.length_nil]; omega
/-- the same, an opening -/
theorem xE_popo {mi : zI} {n co t w : Nat} {l W out : List Nat} (h : xE mi n l (w :: W) co out) (ho : w = 0 ∨ w = 3) : xE (zu (zu (zu (zu mi 11 (720 + (co + out.length)) (mCode t)) 0 31 (Int32.ofNat (co + out.length + 1))) 0 33 (Int32.ofNat W.length)) 0 34 (Int32.ofNat (opn W))) n l W co (out ++ [t]) := by
  obtain ⟨a, ⟨b1, b2, b3⟩, ⟨c1, c2⟩, e⟩ := h
  simp only [List.length_cons] at e
  refine ⟨xT_eq (by rw [zu_nk (by decide), zu_nk (by decide), zu_nk (by decide), zu_nc (by decide)]) (by rw [zu_nk (by decide), zu_nk (by decide), zu_nk (by decide), zu_nc (by decide)]) (fun k => by rw [zu_nc (by decide), zu_nc (by decide), zu_nc (by decide), zu_nc (by decide)]) a, ⟨by rw [zu_nk (by decide), zu_eq], zu_eq, ?_⟩, ⟨?_, ?_⟩, ?_⟩
  · exact xW_eq (fun k => by rw [zu_nc (by decide), zu_nc (by decide), zu_nc (by decide), zu_nc (by decide)]) b3.2
  · rw [zu_nk (by decide), zu_nk (by decide), zu_eq, List.length_append]; rfl
  · refine mCodes_eq (fun k => by rw [zu_nc (by decide), zu_nc (by decide), zu_nc (by decide)]) (mCodes_snoc (mCodes_put (by omega) c2) ?_)
    rw [← Nat.add_assoc, zu_eq]
  · rw [List.length_append]; simp only [List.length_cons, List.length_nil]; omega
theorem xE_bd {mi : zI} {n co : Nat} {l W out : List Nat} (h : xE mi n l W co out) : co + out.length + W.length + l.length ≤ n ∧ n ≤ 100 ∧ opn W ≤ W.length := ⟨h.2.2.2, h.1.1.2, opn_le W⟩
theorem mCode_2 : mCode 2 = 3 := rfl
/-- noMoreNots -/
theorem f_180 {Q : zQ} {m0 : zI} {n co : Nat} {l W0 : List Nat} (hW : ∀ w r, W0 = w :: r → w < 3) : ∀ (j : Nat) (out : List Nat) (mi : zI), xF m0 mi → xE mi n l (List.replicate j 3 ++ W0) co out → (∀ mi', xF m0 mi' → xE mi' n l W0 co (out ++ List.replicate j 2) → Q none mi' ml) →
    (((mi 0 33) ≤ 0 → Q none mi ml) ∧ (¬ (mi 0 33) ≤ 0 → (zin ((mi 0 33) - 1) 110 = true ∧ (((mi 20 (Int32.toNatClampNeg ((mi 0 33) - 1))) ≠ 3 → Q none mi ml) ∧ (¬ (mi 20 (Int32.toNatClampNeg ((mi 0 33) - 1))) ≠ 3 → TV (d + 1) 179 [.ref 0, .int 3] zMS zMR mi ml (fun mi1 ml1 => Wf (d + 2) 180 0 [.ref 0] [] zMS zMR (zu (zu mi1 0 33 ((mi1 0 33) - 1)) 0 34 ((mi1 0 34) - 1)) ml1 Q))))))
  | 0, out, mi, hF, hx, h => by
    have hb := xE_bd hx
    have h' := h mi hF (by simpa using hx)
    obtain ⟨a, ⟨b1, b2, b3⟩, c, e⟩ := hx
    rw [List.replicate_zero, List.nil_append] at *
    match W0, hW, b1, b3, hb with
    | [], _, b1, _, _ =>
      rw [b1]
      exact ⟨fun _ => h', fun x => absurd (Int32.le_refl _) x⟩
    | w :: r, hW, b1, b3, hb =>
      have hw := hW w r rfl
      simp only [List.length_cons] at *
      rw [b1, n_pred, n_cl (by omega), b3.1]
      refine ⟨fun _ => h', fun _ => ⟨n_zin (by omega) (by omega), fun _ => h', fun x => absurd (Decidable.not_not.mp x) (fun e => ?_)⟩⟩
      have := (n_eq (b := 3) (by omega) (by decide)).mp e
      omega
  | j + 1, out, mi, hF, hx, h => by
    have hb := xE_bd hx
    rw [List.replicate_succ, List.cons_append] at hx hb
    have hp := xE_popo (t := 2) hx (.inr rfl)
    obtain ⟨a, ⟨b1, b2, b3⟩, ⟨c1, c2⟩, e⟩ := hx
    simp only [List.length_cons] at *
    rw [b1, n_pred, n_cl (by omega), b3.1]
    refine ⟨fun x => absurd ((n_le (b := 0) (by omega) (by omega)).mp x) (by omega), fun _ => ⟨n_zin (by omega) (by omega), fun x => absurd rfl x, fun _ => ?_⟩⟩
    refine t_179 (t := 2) c1 (by omega) ?_
    have e33 : zu (zu mi 11 (720 + (co + out.length)) (mCode 2)) 0 31 (Int32.ofNat (co + out.length + 1)) 0 33 - 1 = Int32.ofNat (List.replicate j 3 ++ W0).length := by
      rw [zu_nk (by decide), zu_nc (by decide), b1, n_pred]
    have e34 : zu (zu (zu mi 11 (720 + (co + out.length)) (mCode 2)) 0 31 (Int32.ofNat (co + out.length + 1))) 0 33 (Int32.ofNat (List.replicate j 3 ++ W0).length) 0 34 - 1 = Int32.ofNat (opn (List.replicate j 3 ++ W0)) := by
      rw [zu_nk (by decide), zu_nk (by decide), zu_nc (by decide), b2, opn, if_pos (.inr rfl), Nat.add_comm, n_pred]
    have e34' : zu (zu mi 11 (720 + (co + out.length)) (mCode 2)) 0 31 (Int32.ofNat (co + out.length + 1)) 0 34 - 1 = Int32.ofNat (opn (List.replicate j 3 ++ W0)) := by
      rw [zu_nk (by decide), zu_nc (by decide), b2, opn, if_pos (.inr rfl), Nat.add_comm, n_pred]
    rw [e33, e34']
    refine B_180_0 (f_180 hW j (out ++ [2]) _ ((((hF.put11 (by omega)).put0 (by decide)).put0 (by decide)).put0 (by decide)) hp (fun mi' q1 q2 => h mi' q1 ?_))
    rw [List.append_assoc] at q2
    rw [List.replicate_succ]; exact q2
theorem t_180 {K : zI → zJ → Prop} {mi : zI} {n co j : Nat} {l W0 out : List Nat} (hW : ∀ w r, W0 = w :: r → w < 3) (hx : xE mi n l (List.replicate j 3 ++ W0) co out) (h : ∀ mi', xF mi mi' → xE mi' n l W0 co (out ++ List.replicate j 2) → K mi' ml) : TV (d + 2) 180 [.ref 0] zMS zMR mi ml K :=
  TV_of (B_180 (f_180 hW j out mi xF.rfl hx h))
/-- the token of what waits -/
def tkW (w : Nat) : Nat := if w = 1 then 1 else 0
theorem tkW_code {w : Nat} (h : w = 1 ∨ w = 2) : mCode (tkW w) = Int32.ofNat w := by rcases h with rfl | rfl <;> rfl
/-- unwinds -/
theorem f_181 {Q : zQ} {m0 : zI} {n co least : Nat} {l W0 : List Nat} (hl : least = 1 ∨ least = 2) (hW : ∀ w r, W0 = w :: r → w = 0 ∨ w < least) : ∀ (P out : List Nat) (mi : zI), (∀ p, p ∈ P → (p = 1 ∨ p = 2) ∧ least ≤ p) → xF m0 mi → xE mi n l (P ++ W0) co out → (∀ mi', xF m0 mi' → xE mi' n l W0 co (out ++ P.map tkW) → Q none mi' ml) →
    (((mi 0 33) ≤ 0 → Q none mi ml) ∧ (¬ (mi 0 33) ≤ 0 → (zin ((mi 0 33) - 1) 110 = true ∧ (((mi 20 (Int32.toNatClampNeg ((mi 0 33) - 1))) = 0 → Q none mi ml) ∧ (¬ (mi 20 (Int32.toNatClampNeg ((mi 0 33) - 1))) = 0 → (zin ((mi 0 33) - 1) 110 = true ∧ (((mi 20 (Int32.toNatClampNeg ((mi 0 33) - 1))) < Int32.ofNat least → Q none mi ml) ∧ (¬ (mi 20 (Int32.toNatClampNeg ((mi 0 33) - 1))) < Int32.ofNat least → (zin ((mi 0 33) - 1) 110 = true ∧ TV (d + 1) 179 [.ref 0, .int (mi 20 (Int32.toNatClampNeg ((mi 0 33) - 1)))] zMS zMR mi ml (fun mi1 ml1 => Wf (d + 2) 181 0 [.ref 0, .int (Int32.ofNat least)] [] zMS zMR (zu mi1 0 33 ((mi1 0 33) - 1)) ml1 Q))))))))))
  | [], out, mi, _, hF, hx, h => by
    have hb := xE_bd hx
    have h' := h mi hF (by simpa using hx)
    obtain ⟨a, ⟨b1, b2, b3⟩, c, e⟩ := hx
    rw [List.nil_append] at *
    match W0, hW, b1, b3, hb with
    | [], _, b1, _, _ =>
      rw [b1]
      exact ⟨fun _ => h', fun x => absurd (Int32.le_refl _) x⟩
    | w :: r, hW, b1, b3, hb =>
      have hw := hW w r rfl
      simp only [List.length_cons] at *
      have hz : zin (Int32.ofNat r.length) 110 = true := n_zin (by omega) (by omega)
      rw [b1, n_pred, n_cl (by omega), b3.1]
      refine ⟨fun _ => h', fun _ => ⟨hz, fun _ => h', fun y => ⟨hz, fun _ => h', fun x => absurd ?_ x⟩⟩⟩
      rcases hw with rfl | hw
      · exact absurd rfl y
      · exact (n_lt (by omega) (by omega)).mpr hw
  | p :: P, out, mi, hP, hF, hx, h => by
    have hb := xE_bd hx
    obtain ⟨hp1, hp2⟩ := hP p (List.mem_cons_self ..)
    rw [List.cons_append] at hx hb
    have hp := xE_pop (t := tkW p) hx (by omega)
    obtain ⟨a, ⟨b1, b2, b3⟩, ⟨c1, c2⟩, e⟩ := hx
    simp only [List.length_cons] at *
    have hz : zin (Int32.ofNat (P ++ W0).length) 110 = true := n_zin (by omega) (by omega)
    rw [b1, n_pred, n_cl (by omega), b3.1]
    refine ⟨fun x => absurd ((n_le (b := 0) (by omega) (by omega)).mp x) (by omega), fun _ => ⟨hz, fun x => ?_, fun _ => ⟨hz, fun x => ?_, fun _ => ⟨hz, ?_⟩⟩⟩⟩
    · have := (n_eq (b := 0) (by omega) (by omega)).mp x; omega
    · have := (n_lt (by omega) (by omega)).mp x; omega
    rw [← tkW_code hp1]
    refine t_179 c1 (by omega) ?_
    have e33 : zu (zu mi 11 (720 + (co + out.length)) (mCode (tkW p))) 0 31 (Int32.ofNat (co + out.length + 1)) 0 33 - 1 = Int32.ofNat (P ++ W0).length := by
      rw [zu_nk (by decide), zu_nc (by decide), b1, n_pred]
    rw [e33]
    refine B_181_0 _ (f_181 hl hW P (out ++ [tkW p]) _ (fun q hq => hP q (List.mem_cons_of_mem _ hq)) (((hF.put11 (by omega)).put0 (by decide)).put0 (by decide)) hp (fun mi' q1 q2 => h mi' q1 ?_))
    rw [List.append_assoc] at q2
    exact q2
theorem t_181 {K : zI → zJ → Prop} {mi : zI} {n co least : Nat} {l P W0 out : List Nat} (hl : least = 1 ∨ least = 2) (hW : ∀ w r, W0 = w :: r → w = 0 ∨ w < least) (hP : ∀ p, p ∈ P → (p = 1 ∨ p = 2) ∧ least ≤ p) (hx : xE mi n l (P ++ W0) co out) (h : ∀ mi', xF mi mi' → xE mi' n l W0 co (out ++ P.map tkW) → K mi' ml) : TV (d + 2) 181 [.ref 0, .int (Int32.ofNat least)] zMS zMR mi ml K :=
  TV_of (B_181 _ (f_181 hl hW P out mi hP xF.rfl hx h))
end WAITS
