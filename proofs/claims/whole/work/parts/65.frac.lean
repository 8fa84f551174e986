/-! The model: fractions. -/
theorem l_int {k : Nat} (h : k < 9223372036854775808) : (Int64.ofNat k).toInt = k := Int64.toInt_ofNat_of_lt (by simpa using h)
theorem l_add (a b : Nat) : Int64.ofNat a + Int64.ofNat b = Int64.ofNat (a + b) := (Int64.ofNat_add a b).symm
theorem l_mul (a b : Nat) : Int64.ofNat a * Int64.ofNat b = Int64.ofNat (a * b) := (Int64.ofNat_mul a b).symm
theorem l_eq {a b : Nat} (ha : a < 9223372036854775808) (hb : b < 9223372036854775808) : Int64.ofNat a = Int64.ofNat b ↔ a = b := by
  rw [← Int64.toInt_inj, l_int ha, l_int hb]; omega
theorem l_mod {a b : Nat} (ha : a < 9223372036854775808) (hb : b < 9223372036854775808) : Int64.ofNat a % Int64.ofNat b = Int64.ofNat (a % b) := by
  have h : a % b < 9223372036854775808 := Nat.lt_of_le_of_lt (Nat.mod_le a b) ha
  rw [← Int64.toInt_inj, Int64.toInt_mod, l_int ha, l_int hb, l_int h]
  rfl
theorem l_div {a b : Nat} (ha : a < 9223372036854775808) (hb : b < 9223372036854775808) : Int64.ofNat a / Int64.ofNat b = Int64.ofNat (a / b) := by
  have h : a / b < 9223372036854775808 := Nat.lt_of_le_of_lt (Nat.div_le_self a b) ha
  rw [← Int64.toInt_inj, Int64.toInt_div, l_int ha, l_int hb, l_int h]
  show (Int.ofNat (a / b)).bmod (2 ^ 64) = Int.ofNat (a / b)
  generalize a / b = q at h ⊢
  show (q : Int).bmod (2 ^ 64) = (q : Int)
  rw [Int.bmod_def]
  split <;> omega
theorem l_of {k : Nat} (h : k < 2147483648) : (Int32.ofNat k).toInt64 = Int64.ofNat k := by
  rw [← Int64.toInt_inj, Int32.toInt_toInt64, n_int h, l_int (by omega)]
/-- lowest terms are the same for equal fractions -/
theorem low_same {a b v e : Nat} (hb : 0 < b) (he : 0 < e) (h : a * e = v * b) : a / Nat.gcd a b = v / Nat.gcd v e ∧ b / Nat.gcd a b = e / Nat.gcd v e := by
  have g0 : 0 < Nat.gcd a b := Nat.gcd_pos_of_pos_right _ hb
  have h0 : 0 < Nat.gcd v e := Nat.gcd_pos_of_pos_right _ he
  have c1 : Nat.Coprime (a / Nat.gcd a b) (b / Nat.gcd a b) := Nat.coprime_div_gcd_div_gcd g0
  have c2 : Nat.Coprime (v / Nat.gcd v e) (e / Nat.gcd v e) := Nat.coprime_div_gcd_div_gcd h0
  have ea : a = Nat.gcd a b * (a / Nat.gcd a b) := (Nat.mul_div_cancel' (Nat.gcd_dvd_left a b)).symm
  have eb : b = Nat.gcd a b * (b / Nat.gcd a b) := (Nat.mul_div_cancel' (Nat.gcd_dvd_right a b)).symm
  have ev : v = Nat.gcd v e * (v / Nat.gcd v e) := (Nat.mul_div_cancel' (Nat.gcd_dvd_left v e)).symm
  have ee : e = Nat.gcd v e * (e / Nat.gcd v e) := (Nat.mul_div_cancel' (Nat.gcd_dvd_right v e)).symm
  generalize Nat.gcd a b = g at *
  generalize Nat.gcd v e = q at *
  generalize a / g = a1 at *
  generalize b / g = b1 at *
  generalize v / q = v1 at *
  generalize e / q = e1 at *
  have key : a1 * e1 = v1 * b1 := by
    rw [ea, eb, ev, ee] at h
    have h2 : (g * q) * (a1 * e1) = (g * q) * (v1 * b1) := by
      rw [Nat.mul_mul_mul_comm] at h
      rw [h, Nat.mul_mul_mul_comm, Nat.mul_comm q g]
    exact Nat.eq_of_mul_eq_mul_left (Nat.mul_pos g0 h0) h2
  refine ⟨Nat.dvd_antisymm ?_ ?_, Nat.dvd_antisymm ?_ ?_⟩
  · exact c1.dvd_of_dvd_mul_right ⟨e1, key.symm⟩
  · exact c2.dvd_of_dvd_mul_right ⟨b1, key⟩
  · exact c1.symm.dvd_of_dvd_mul_left ⟨v1, by rw [key, Nat.mul_comm]⟩
  · exact c2.symm.dvd_of_dvd_mul_left ⟨a1, by rw [← key, Nat.mul_comm]⟩
/-- the same but for the object's own longs -/
def jS (l l' : zJ) : Prop := ∀ c k, 1 ≤ c → l' c k = l c k
theorem jS.rfl {l : zJ} : jS l l := fun _ _ _ => Eq.refl _
theorem jS.trans {a b c : zJ} (h : jS a b) (h' : jS b c) : jS a c := fun x k hx => by rw [h' x k hx, h x k hx]
/-- the fraction is V / D, in lowest terms -/
def iFr (V D : Nat) (l : zJ) : Prop := ∃ a b : Nat, l 0 48 = Int64.ofNat a ∧ l 0 49 = Int64.ofNat b ∧ 0 < b ∧ Nat.Coprime a b ∧ a * D = V * b
theorem iFr_le {V D a b : Nat} (hD : 0 < D) (hc : Nat.Coprime a b) (h : a * D = V * b) : b ∣ D ∧ a ≤ V := by
  have h1 : b ∣ D := hc.symm.dvd_of_dvd_mul_left ⟨V, by rw [h, Nat.mul_comm]⟩
  refine ⟨h1, ?_⟩
  have h2 : b ≤ D := Nat.le_of_dvd hD h1
  have h3 : a * D ≤ V * D := by rw [h]; exact Nat.mul_le_mul_left V h2
  exact Nat.le_of_mul_le_mul_right h3 hD
section FRAC
variable {d : Nat}
theorem t_233_at {Q : zQ} {mi : zI} {ml : zJ} : ∀ (n a b : Nat), b ≤ n → a < 9223372036854775808 → b < 9223372036854775808 → Q (some (.long (Int64.ofNat (Nat.gcd a b)))) mi ml → Wf (d + 1) 233 12 [.retAddr 0, .retAddr 0, .retAddr 0, .retAddr 0, .long (Int64.ofNat a), .retAddr 0, .long (Int64.ofNat b), .retAddr 0, .retAddr 0, .retAddr 0] [] zMS zMR mi ml Q
  | 0, a, b, hn, ha, hb, h => by
    obtain rfl : b = 0 := by omega
    rw [Nat.gcd_zero_right] at h
    exact B_233_12 _ _ ⟨fun _ => h, fun x => absurd ((lg_cmp_eq _ _).mpr rfl) x⟩
  | n + 1, a, b, hn, ha, hb, h => by
    by_cases h0 : b = 0
    · subst h0
      rw [Nat.gcd_zero_right] at h
      exact B_233_12 _ _ ⟨fun _ => h, fun x => absurd ((lg_cmp_eq _ _).mpr rfl) x⟩
    · have hne : ¬ Int64.ofNat b = 0 := fun x => h0 ((l_eq (b := 0) hb (by decide)).mp x)
      refine B_233_12 _ _ ⟨fun x => absurd ((lg_cmp_eq _ _).mp x) hne, fun _ => ⟨hne, ?_⟩⟩
      rw [l_mod ha hb]
      have hm := Nat.mod_lt a (Nat.pos_of_ne_zero h0)
      refine t_233_at n b (a % b) (by omega) hb (by omega) ?_
      rw [Nat.gcd_comm a b, Nat.gcd_rec b a, Nat.gcd_comm] at h
      exact h
theorem t_233 {K : Int64 → zI → zJ → Prop} {mi : zI} {ml : zJ} {a b : Nat} (ha : a < 9223372036854775808) (hb : b < 9223372036854775808) (h : K (Int64.ofNat (Nat.gcd a b)) mi ml) : TL (d + 1) 233 [.long (Int64.ofNat a), .long (Int64.ofNat b)] zMS zMR mi ml K :=
  TL_of (B_233 _ _ (t_233_at b a b (Nat.le_refl _) ha hb h))
/-- adds: the fraction is V / D + n / by, by is a part of D -/
theorem t_232 {K : zI → zJ → Prop} {mi : zI} {ml : zJ} {V D n y : Nat} (hD : 0 < D) (hy : y ∣ D) (hb : V + n * D < 4611686018427387904) (hD2 : D < 4611686018427387904) (hF : iFr V D ml) (h : ∀ ml', jS ml ml' → iFr (V + n * (D / y)) D ml' → K mi ml') : TV (d + 2) 232 [.ref 0, .long (Int64.ofNat n), .long (Int64.ofNat y)] zMS zMR mi ml K := by
  obtain ⟨a, b, e1, e2, hb0, hc, hx⟩ := hF
  obtain ⟨hbD, haV⟩ := iFr_le hD hc hx
  have hy0 : 0 < y := Nat.pos_of_dvd_of_pos hy hD
  have hbl := Nat.le_of_dvd hD hbD
  have hyl := Nat.le_of_dvd hD hy
  have hgp : 0 < Nat.gcd b y := Nat.gcd_pos_of_pos_right _ hy0
  -- to: the least common multiple
  have eto : b / Nat.gcd b y * y = Nat.lcm b y := by
    rw [Nat.lcm, Nat.div_mul_right_comm (Nat.gcd_dvd_left b y)]
  have hto : Nat.lcm b y ∣ D := Nat.lcm_dvd hbD hy
  have htl := Nat.le_of_dvd hD hto
  have htp : 0 < Nat.lcm b y := Nat.lcm_pos hb0 hy0
  have hnD : n ≤ n * D := Nat.le_mul_of_pos_right n hD
  have hgl : Nat.gcd b y ≤ b := Nat.le_of_dvd hb0 (Nat.gcd_dvd_left b y)
  obtain ⟨tb, htb⟩ : b ∣ Nat.lcm b y := Nat.dvd_lcm_left b y
  obtain ⟨ty, hty⟩ : y ∣ Nat.lcm b y := Nat.dvd_lcm_right b y
  obtain ⟨r, hr⟩ := hto
  have dtb : Nat.lcm b y / b = tb := by rw [htb, Nat.mul_div_cancel_left _ hb0]
  have dty : Nat.lcm b y / y = ty := by rw [hty, Nat.mul_div_cancel_left _ hy0]
  have hr0 : 0 < r := by
    rcases Nat.eq_zero_or_pos r with h | h
    · rw [h, Nat.mul_zero] at hr; omega
    · exact h
  -- a * tb ≤ V
  have k1 : a * tb * r = V := by
    have : (a * tb * r) * b = V * b := by
      rw [← hx, hr, htb]
      rw [Nat.mul_assoc a tb r, Nat.mul_assoc a (tb * r) b, Nat.mul_comm (tb * r) b, Nat.mul_assoc b tb r]
    exact Nat.eq_of_mul_eq_mul_right hb0 this
  have k1' : a * tb ≤ V := by rw [← k1]; exact Nat.le_mul_of_pos_right _ hr0
  have k2 : ty * r = D / y := by
    rw [hr, hty, Nat.mul_assoc, Nat.mul_div_cancel_left _ hy0]
  have k2' : n * ty ≤ n * D := Nat.mul_le_mul_left n (by
    have : ty ≤ D / y := by rw [← k2]; exact Nat.le_mul_of_pos_right _ hr0
    exact Nat.le_trans this (Nat.div_le_self _ _))
  have k3 : (a * tb + n * ty) * D = (V + n * (D / y)) * Nat.lcm b y := by
    have : (a * tb + n * ty) * r = V + n * (D / y) := by rw [Nat.add_mul, k1, Nat.mul_assoc, k2]
    rw [← this, Nat.mul_assoc, Nat.mul_comm r, ← hr]
  have hap : a * tb + n * ty < 4611686018427387904 := by omega
  have hgp2 : 0 < Nat.gcd (a * tb + n * ty) (Nat.lcm b y) := Nat.gcd_pos_of_pos_right _ htp
  have hgl2 : Nat.gcd (a * tb + n * ty) (Nat.lcm b y) ≤ Nat.lcm b y := Nat.le_of_dvd htp (Nat.gcd_dvd_right _ _)
  refine TV_of (B_232 _ _ ?_)
  rw [e2]
  refine t_233 (by omega) (by omega) ⟨fun x => ?_, fun x => ?_, fun x => ?_, ?_⟩
  · have := (l_eq (b := 0) (by omega) (by decide)).mp x; omega
  · rw [e2] at x; have := (l_eq (b := 0) (by omega) (by decide)).mp x; omega
  · have := (l_eq (b := 0) (by omega) (by decide)).mp x; omega
  rw [e1, e2, l_div (by omega) (by omega), l_mul, eto, l_div (by omega) (by omega), l_div (by omega) (by omega), dtb, dty, l_mul, l_mul, l_add]
  refine t_233 (by omega) (by omega) ⟨fun x => ?_, fun x => ?_, ?_⟩
  · have := (l_eq (b := 0) (by omega) (by decide)).mp x; omega
  · have := (l_eq (b := 0) (by omega) (by decide)).mp x; omega
  refine h _ (fun c k hc => ?_) ?_
  · rw [zu_nc (by omega), zu_nc (by omega), zu_nc (by omega), zu_nc (by omega)]
  · refine ⟨(a * tb + n * ty) / Nat.gcd (a * tb + n * ty) (Nat.lcm b y), Nat.lcm b y / Nat.gcd (a * tb + n * ty) (Nat.lcm b y), ?_, ?_, Nat.div_pos hgl2 hgp2, Nat.coprime_div_gcd_div_gcd hgp2, ?_⟩
    · rw [zu_nk (by decide), zu_eq, zu_nk (by decide), zu_eq, l_div (by omega) (by omega)]
    · rw [zu_eq, zu_eq, l_div (by omega) (by omega)]
    · refine Nat.eq_of_mul_eq_mul_left hgp2 ?_
      rw [← Nat.mul_assoc, Nat.mul_div_cancel' (Nat.gcd_dvd_left _ _), k3, Nat.mul_left_comm, Nat.mul_div_cancel' (Nat.gcd_dvd_right _ _)]
/-- a part of V / D in lowest terms -/
def aFrac (V D : Nat) (part : Int32) : Int64 := if part = 0 then Int64.ofNat (V / Nat.gcd V D) else Int64.ofNat (D / Nat.gcd V D)
theorem t_234 {K : Int64 → zI → zJ → Prop} {mi : zI} {ml : zJ} {V D a b : Nat} {c : Int32} (hc : c = 0 ∨ c = 1) (hD : 0 < D) (hb : 0 < b) (ha2 : a < 9223372036854775808) (hb2 : b < 9223372036854775808) (hx : a * D = V * b) (h : K (aFrac V D c) mi ml) : TL (d + 2) 234 [.long (Int64.ofNat a), .long (Int64.ofNat b), .int c] zMS zMR mi ml K := by
  obtain ⟨s1, s2⟩ := low_same hb hD hx
  unfold aFrac at h
  rw [← s1, ← s2] at h
  have gp : 0 < Nat.gcd a b := Nat.gcd_pos_of_pos_right _ hb
  have gl : Nat.gcd a b ≤ b := Nat.le_of_dvd hb (Nat.gcd_dvd_right _ _)
  have hne : ¬ Int64.ofNat (Nat.gcd a b) = 0 := fun x => by have := (l_eq (b := 0) (by omega) (by decide)).mp x; omega
  refine TL_of (B_234 _ _ _ ⟨fun _ => t_233 ha2 hb2 ⟨fun x => ⟨hne, ?_⟩, fun x => ⟨hne, ?_⟩⟩, fun x => ?_⟩)
  · rw [if_neg x] at h; rw [l_div hb2 (by omega)]; exact h
  · rw [if_pos (Decidable.not_not.mp x)] at h; rw [l_div ha2 (by omega)]; exact h
  · have h0 : a = 0 := (l_eq (b := 0) ha2 (by decide)).mp ((lg_cmp_eq _ _).mp (Decidable.not_not.mp x))
    subst h0
    rw [Nat.gcd_zero_left, Nat.div_self hb] at h
    rcases hc with rfl | rfl
    · rw [if_pos rfl, Nat.zero_div] at h; exact h
    · rw [if_neg (by decide)] at h; exact h
end FRAC
