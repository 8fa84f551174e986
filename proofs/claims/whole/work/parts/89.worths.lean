/-! The class: what a crossing is worth. -/
theorem cWor_w (nm : Nat → Int32) : ∀ (cs : List pCl) (s : Int32), cs.foldl (cWor1 nm) s = (wCl cs).foldl (cWor1 nm) s
  | [], _ => rfl
  | c :: cs, s => by
    unfold wCl
    by_cases h : c.1 = 4
    · rw [List.filter_cons_of_pos (by simp [h]), List.foldl_cons, List.foldl_cons]
      exact cWor_w nm cs _
    · rw [List.filter_cons_of_neg (by simp [h]), List.foldl_cons]
      have : cWor1 nm s c = s := by unfold cWor1; rw [if_neg (fun q => h q.1)]
      rw [this]
      exact cWor_w nm cs _
theorem wCl_mem {cs : List pCl} {x : pCl} (h : x ∈ wCl cs) : x ∈ cs ∧ x.1 = 4 := by
  unfold wCl at h
  rw [List.mem_filter] at h
  simpa using h
section WORTHS
variable {d : Nat} {ml : zJ} {X : zS} {fr nx : Nat} {P : zR0}
theorem t_45 {K : zI → zJ → Prop} {t : Nat} {c : zI} {a b e f g i : Int32} (ht : iPc t) (h : ∀ c', mA (t + 4) c c' → (∀ k, k < 6 → c' (t + 4) k = sNm a b e f g i k) → K c' ml) : TV (d + 1) 45 [.ref t, .int a, .int b, .int e, .int f, .int g, .int i] (zCS ++ X) (zCR fr nx P) c ml K := by
  refine TV_of (B_45 t _ _ _ _ _ _ ht ⟨by decide, by decide, by decide, by decide, by decide, by decide, ?_⟩)
  refine h _ ((((((mA.rfl.put).put).put).put).put).put) ?_
  intro k hk
  match k, hk with
  | 0, _ => simp [zu, sNm]
  | 1, _ => simp [zu, sNm]
  | 2, _ => simp [zu, sNm]
  | 3, _ => simp [zu, sNm]
  | 4, _ => simp [zu, sNm]
  | 5, _ => simp [zu, sNm]
theorem t_87_28 {Q : zQ} {t b N : Nat} {c : zI} {nm : Nat → Int32} (ht : iPc t) (hb : iSc b) (hN : N ≤ 10) (h8 : c t 8 = Int32.ofNat N) (hv : ∀ k, k < 6 → c (t + 4) k = nm k) : ∀ (ws : List pCl) (k a : Nat) (s : Int32), cWs c t k a ws → k + ws.length = N → a + (aTk ws).length ≤ 100 → (∀ x, x ∈ ws → x.1 = 4 ∧ sOK x.2.2 0) → Q (some (.int (ws.foldl (cWor1 nm) s))) c ml →
    Wf (d + 3) 87 28 [.ref t, .retAddr 0, .retAddr 0, .retAddr 0, .int s, .int (Int32.ofNat a), .int (Int32.ofNat k)] [] (zCS ++ X) (zCR fr nx P) c ml Q
  | [], k, a, s, hW, hl, hb2, hok, h => by
    simp only [List.length_nil, Nat.add_zero] at hl
    refine B_87_28 t b _ _ _ ht hb ?_
    rw [h8, hl]
    exact ⟨fun _ => h, fun x => absurd (Int32.le_refl _) x⟩
  | x :: ws, k, a, s, hW, hl, hb2, hok, h => by
    obtain ⟨⟨w1, w2, w3⟩, hW⟩ := hW
    simp only [List.length_cons] at hl
    rw [aTk, List.length_append] at hb2
    obtain ⟨o1, o2⟩ := hok x (List.mem_cons_self ..)
    have hz : zin (Int32.ofNat k) 10 = true := n_zin (by omega) (by decide)
    refine B_87_28 t b _ _ _ ht hb ?_
    rw [h8, n_suc, n_cl (by omega), w2]
    refine ⟨fun y => absurd ((n_le (by omega) (by omega)).mp y) (by omega), fun _ => ⟨fun y => absurd ((n_le (a := 10) (by decide) (by omega)).mp y) (by omega), fun _ => ⟨hz, t_46 ht (by omega) hv w3 o2 ?_⟩⟩⟩
    rw [List.foldl_cons] at h
    have nxt := fun (s' : Int32) (hq : Q (some (.int (ws.foldl (cWor1 nm) s'))) c ml) => t_87_28 (Q := Q) ht hb hN h8 hv ws (k + 1) (a + x.2.2.length) s' hW (by omega) (by omega) (fun y hy => hok y (List.mem_cons_of_mem _ hy)) hq
    unfold cWor1 at h
    refine ⟨fun y => ⟨hz, ?_⟩, fun y => ⟨hz, hz, ?_⟩⟩
    · have hf : sTrue nm x.2.2 = false := bi_ne.mp y
      rw [if_neg (fun q => by rw [hf] at q; exact absurd q.2 (by decide))] at h
      rw [w2]; exact nxt s h
    · have hf : sTrue nm x.2.2 = true := by
        cases hh : sTrue nm x.2.2 with
        | true => rfl
        | false => exact absurd (by rw [hh]; rfl) y
      rw [if_pos ⟨o1, hf⟩] at h
      rw [w1, w2]; exact nxt _ h
theorem and_mask : ∀ p : Nat, p < 6 → ∀ g : Nat, g < 32 → g < 2 ^ p → Int32.ofNat g &&& Int32.ofNat (2 ^ p - 1) = Int32.ofNat g := by decide +kernel
/-- worthOf -/
theorem t_87 {K : Int32 → zI → zJ → Prop} {t b g : Nat} {c m : zI} {cs : List pCl} (ht : iPc t) (hb : iSc b) (hS : cSc b c m) (hp : iP m) (hP : cPa t c cs) (hc : iCs cs) (hg : g < 32) (hg2 : g < 2 ^ mPe m) (h : ∀ c', mA (t + 4) c c' → K (cWor (mNm m (Int32.ofNat g)) cs) c' ml) : TI (d + 3) 87 [.ref t, .int (Int32.ofNat g), .ref b] (zCS ++ X) (zCR fr nx P) c ml K := by
  obtain ⟨q1, q2⟩ := iP_of hp
  obtain ⟨a0, a1, a2, a3, a4, a5⟩ := hS
  obtain ⟨o1, o2⟩ := oN_ok g hg
  have em : Int32.ofNat g &&& (mOther m &&& Int32.ofNat (2 ^ mPe m - 1)) = Int32.ofNat g &&& mOther m := by
    rw [Int32.and_comm (mOther m), ← Int32.and_assoc, and_mask _ q2 g hg hg2]
  obtain ⟨w, w1, w2⟩ := n_small g (by omega) (mOther m)
  rw [Int32.and_comm] at w2
  obtain ⟨o3, o4⟩ := oN_ok w (by omega)
  refine TI_of (B_87 t _ b ht hb (t_80 hb ⟨a0, a1, a2, a3, a4, a5⟩ hp ?_))
  rw [em, w2]
  refine t_50g (by omega) (t_50g hg ⟨by decide, t_45 ht (fun c' hA hv => ?_)⟩)
  rw [a3, a4] at hv
  have hnm : ∀ k, k < 6 → c' (t + 4) k = mNm m (Int32.ofNat g) k := by
    intro k hk
    rw [hv k hk]
    unfold mNm
    rw [o1]
    have e2 : Int32.ofNat g &&& (if m 0 3 = 0 then m 0 2 else m 0 2 ^^^ -1) = Int32.ofNat w := w2
    rw [e2, o3]
  have hP' : cPa t c' cs := cPa_eq (fun k => hA t k (by omega)) (fun k => hA (t + 1) k (by omega)) (fun k => hA (t + 2) k (by omega)) (fun k => hA (t + 3) k (by omega)) hP
  obtain ⟨-, ⟨p8, p9⟩, pW, pl⟩ := hP'
  refine t_87_28 (Q := qI K) (b := b) ht hb p9 p8 hnm (wCl cs) 0 0 0 pW (by omega) (by omega) (fun x hx => ?_) ?_
  · obtain ⟨x1, x2⟩ := wCl_mem hx
    exact ⟨x2, (hc x x1).2.2 (by omega)⟩
  · have := h c' hA
    unfold cWor at this
    rw [cWor_w] at this
    exact this
end WORTHS
