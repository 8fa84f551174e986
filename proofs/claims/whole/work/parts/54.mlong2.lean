-- @after: 00.privs 01.names 02.code 03.tabs 04.mach 05.rows 26.rows2 27.wp 28.mem 30.bc0 34.bm0 35.bm1 36.bm2 40.num 41.leaf 42.laws 43.known 44.post 45.holds 46.worth 47.barred 48.looks 49.looks2 50.goes 51.mays 52.mgroup 53.mlong
/-! The longest rows, as they are: by what they close. -/
theorem gpN_two : ∀ g : Nat, g < 32 → ¬ sOnes (Int32.ofNat g) 10 ≤ 1 → 0 < gpN g := by decide +kernel
theorem n_and (a b : Nat) : Int32.ofNat a &&& Int32.ofNat b = Int32.ofNat (a &&& b) := by
  apply Int32.toBitVec_inj.mp
  simp [Int32.toBitVec_and, BitVec.ofNat_and]
/-- what a row closes is more -/
theorem or_grows {k p : Nat} (hp : 0 < p) (h : p &&& k = 0) : k < k ||| p := by
  have h1 : k ≤ k ||| p := Nat.left_le_or
  refine Nat.lt_of_le_of_ne h1 (fun e => ?_)
  have : p &&& k = p := by
    apply Nat.eq_of_testBit_eq
    intro i
    have e1 : k.testBit i = (k.testBit i || p.testBit i) := by rw [← Nat.testBit_or, ← e]
    rw [Nat.testBit_and]
    generalize k.testBit i = x at e1 ⊢
    generalize p.testBit i = y at e1 ⊢
    revert e1
    cases x <;> cases y <;> decide
  omega
theorem lCan_grows {mi : zI} (hg : ∀ g, g < 32 → mi 23 g = gPairs g) {k w a g : Nat} (hk : k < 1024) (h32 : g < 32) (h : lCan mi k w a g) : k < k ||| gpN g ∧ k ||| gpN g < 1024 := by
  obtain ⟨h3, h1, h2⟩ := h
  obtain ⟨p1, p2⟩ := gpN_ok g h32
  refine ⟨or_grows (gpN_two g h32 h1) ?_, Nat.or_lt_two_pow (n := 10) (by omega) (by omega)⟩
  have q := h2.2.2
  rw [hg g h32, p1, n_and] at q
  have hlt : gpN g &&& k < 2147483648 := Nat.lt_of_le_of_lt Nat.and_le_left (by omega)
  exact (n_eq (b := 0) hlt (by omega)).mp q
theorem lgOf_congr {mi : zI} {f f' : Nat → Nat → Nat → Int32} {k w a : Nat} : ∀ n, (∀ g, g < n → lCan mi k w a g → f (k ||| gpN g) (w ^^^ g) (1 - a) = f' (k ||| gpN g) (w ^^^ g) (1 - a)) → lgOf mi f k w a n = lgOf mi f' k w a n
  | 0, _ => rfl
  | n + 1, h => by
    have ih := lgOf_congr n (fun g hg => h g (by omega))
    rw [lgOf, lgOf, ih]
    by_cases q : lCan mi k w a n
    · rw [if_pos q, if_pos q, h n (by omega) q]
    · rw [if_neg q, if_neg q]
def LGf (mi : zI) : Nat → Nat → Nat → Nat → Int32
  | 0, _, _, _ => 0
  | f + 1, k, w, a => lgOf mi (LGf mi f) k w a 32
/-- the longest row from a place -/
def LG (mi : zI) (k w a : Nat) : Int32 := LGf mi (1024 - k) k w a
theorem LGf_stable {mi : zI} (hg : ∀ g, g < 32 → mi 23 g = gPairs g) : ∀ (f f' k w a : Nat), k < 1024 → 1024 - k ≤ f → 1024 - k ≤ f' → LGf mi f k w a = LGf mi f' k w a
  | 0, _, k, _, _, hk, h, _ => by omega
  | _ + 1, 0, k, _, _, hk, _, h => by omega
  | f + 1, f' + 1, k, w, a, hk, h, h' => by
    rw [LGf, LGf]
    refine lgOf_congr 32 (fun g h32 hc => ?_)
    obtain ⟨q1, q2⟩ := lCan_grows hg hk h32 hc
    exact LGf_stable hg f f' _ _ _ q2 (by omega) (by omega)
theorem LG_eq {mi : zI} (hg : ∀ g, g < 32 → mi 23 g = gPairs g) {k w a : Nat} (hk : k < 1024) : LG mi k w a = lgOf mi (LG mi) k w a 32 := by
  have e : 1024 - k = (1023 - k) + 1 := by omega
  rw [LG, e, LGf]
  refine lgOf_congr 32 (fun g h32 hc => ?_)
  obtain ⟨q1, q2⟩ := lCan_grows hg hk h32 hc
  exact LGf_stable hg _ _ _ _ _ q2 (by omega) (by omega)
