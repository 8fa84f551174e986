-- @after: 00.privs 01.names 02.code 03.tabs 04.mach 05.rows 26.rows2 27.wp 28.mem 30.bc0 34.bm0 35.bm1 40.num 41.leaf 42.laws 43.known
/-! Conditions as tokens, the truth last: 0 and, 1 or, 2 not, 3 + (3 * letter + sign) * 100 + number a test. -/
def bi (b : Bool) : Int32 := if b then 1 else 0
def sTest (nm : Nat → Int32) (u : Nat) : Bool := match u / 100 % 3 with
  | 0 => decide (nm (u / 300) < Int32.ofNat (u % 100))
  | 1 => decide (nm (u / 300) = Int32.ofNat (u % 100))
  | _ => decide (Int32.ofNat (u % 100) < nm (u / 300))
def sStep (nm : Nat → Int32) (t : Nat) (st : List Bool) : List Bool := match t, st with
  | 0, b :: a :: st => (a && b) :: st
  | 1, b :: a :: st => (a || b) :: st
  | 2, a :: st => (!a) :: st
  | u + 3, st => sTest nm u :: st
  | _, _ => []
def sEv (nm : Nat → Int32) : List Nat → List Bool → List Bool
  | [], st => st
  | t :: l, st => sEv nm l (sStep nm t st)
/-- a text that never wants for truths, nor lays more than 31, and ends with one -/
def sOK : List Nat → Nat → Prop
  | [], n => n = 1
  | t :: l, n => t < 1803 ∧ n ≤ 31 ∧ (if t < 2 then 2 ≤ n ∧ sOK l (n - 1) else if t = 2 then 1 ≤ n ∧ sOK l n else sOK l (n + 1))
def mCode (t : Nat) : Int32 := match t with
  | 0 => 2
  | 1 => 1
  | 2 => 3
  | u + 3 => Int32.ofNat (1000 * (1 + u / 100) + u % 100)
theorem mCode_small : ∀ t : Nat, t < 1803 → (t < 3 ↔ mCode t < 1000) := by decide +kernel
theorem mCode_test : ∀ u : Nat, u < 1800 → (((mCode (u + 3) / 1000) - 1) / 3 = Int32.ofNat (u / 300)) ∧ (((mCode (u + 3) / 1000) - 1) % 3 = Int32.ofNat (u / 100 % 3)) ∧ (mCode (u + 3) % 1000 = Int32.ofNat (u % 100)) := by decide +kernel
/-- the model's stack holds such truths -/
def mRep (mi : zI) : List Bool → Prop
  | [] => True
  | b :: st => mi 21 st.length = bi b ∧ mRep mi st
theorem mRep_put {mi : zI} {v : Int32} : ∀ {st : List Bool} {k : Nat}, st.length ≤ k → mRep mi st → mRep (zu mi 21 k v) st
  | [], _, _, _ => trivial
  | b :: st, k, hk, h => by
    simp only [List.length_cons] at hk
    exact ⟨by rw [zu_nk (by omega)]; exact h.1, mRep_put (by omega) h.2⟩
/-- the same but for one cell -/
def mA (q : Nat) (mi mi' : zI) : Prop := ∀ c k, c ≠ q → mi' c k = mi c k
theorem mA.rfl {q : Nat} {mi : zI} : mA q mi mi := fun _ _ _ => Eq.refl _
theorem mA.put {q : Nat} {mi mi' : zI} {k : Nat} {v : Int32} (h : mA q mi mi') : mA q mi (zu mi' q k v) := fun c k1 hc => by rw [zu_nc hc]; exact h c k1 hc
section POST
variable {d : Nat} {ml : zJ}
theorem bi_ne {b : Bool} : bi b = 0 ↔ b = false := by cases b <;> decide
theorem n_120 {p k : Nat} : (120 : Int32) * Int32.ofNat p + Int32.ofNat k = Int32.ofNat (120 * p + k) := by
  show Int32.ofNat 120 * Int32.ofNat p + Int32.ofNat k = _
  rw [← Int32.ofNat_mul, n_add]
theorem n_pred {k : Nat} : Int32.ofNat (k + 1) - 1 = Int32.ofNat k := by
  rw [← n_suc, Int32.add_sub_cancel]
theorem n_predn {k : Nat} : Int32.ofNat (k + 1) + -1 = Int32.ofNat k := by
  rw [← Int32.sub_eq_add_neg, n_pred]
end POST
