/-! Numbers: an Int32 as the image of a whole number; loops as steps counted. -/
theorem jI_lit (n : Nat) : (OfNat.ofNat n : Int32) = jI (n : Int) := Int32.ofInt_eq_ofNat.symm
theorem jI_nI (n : Nat) : nI n = jI (n : Int) := Int32.ofInt_eq_ofNat.symm
theorem jI_of (x : Int32) : x = jI x.toInt := (Int32.ofInt_toInt x).symm
theorem jI_add (a b : Int) : jI a + jI b = jI (a + b) := (Int32.ofInt_add a b).symm
theorem jI_sub (a b : Int) : jI a - jI b = jI (a - b) := (Int32.ofInt_sub a b).symm
theorem jI_mul (a b : Int) : jI a * jI b = jI (a * b) := (Int32.ofInt_mul a b).symm
theorem jI_neg (a : Int) : -jI a = jI (-a) := (Int32.ofInt_neg a).symm
theorem jI_toInt {a : Int} (h1 : -2147483648 ≤ a) (h2 : a < 2147483648) : (jI a).toInt = a := Int32.toInt_ofInt_of_le h1 h2
theorem jI_cl {a : Int} (h1 : 0 ≤ a) (h2 : a < 2147483648) : (jI a).toNatClampNeg = a.toNat := by
  show (jI a).toInt.toNat = a.toNat
  rw [jI_toInt (by omega) h2]
theorem jI_lt {a b : Int} (h1 : -2147483648 ≤ a) (h2 : a < 2147483648) (h3 : -2147483648 ≤ b) (h4 : b < 2147483648) : jI a < jI b ↔ a < b := by
  rw [Int32.lt_iff_toInt_lt, jI_toInt h1 h2, jI_toInt h3 h4]
theorem jI_le {a b : Int} (h1 : -2147483648 ≤ a) (h2 : a < 2147483648) (h3 : -2147483648 ≤ b) (h4 : b < 2147483648) : jI a ≤ jI b ↔ a ≤ b := by
  rw [Int32.le_iff_toInt_le, jI_toInt h1 h2, jI_toInt h3 h4]
theorem jI_eq {a b : Int} (h1 : -2147483648 ≤ a) (h2 : a < 2147483648) (h3 : -2147483648 ≤ b) (h4 : b < 2147483648) : jI a = jI b ↔ a = b := by
  rw [← Int32.toInt_inj, jI_toInt h1 h2, jI_toInt h3 h4]
theorem jI_div {a d : Int} (h1 : 0 ≤ a) (h2 : a < 2147483648) (h3 : 0 < d) (h4 : d < 2147483648) : jI a / jI d = jI (a / d) := by
  have h5 : a / d ≤ a := Int.ediv_le_self d h1
  have h6 : 0 ≤ a / d := Int.ediv_nonneg h1 (by omega)
  rw [← Int32.toInt_inj, Int32.toInt_div, jI_toInt (by omega) h2, jI_toInt (by omega) h4, jI_toInt (by omega) (by omega), Int.tdiv_eq_ediv_of_nonneg h1]
  rw [Int.bmod_eq_of_le (by omega) (by omega)]
theorem jI_rem {a d : Int} (h1 : 0 ≤ a) (h2 : a < 2147483648) (h3 : 0 < d) (h4 : d < 2147483648) : jI a - jI a / jI d * jI d = jI (a % d) := by
  rw [jI_div h1 h2 h3 h4, jI_mul, jI_sub]
  congr 1
  have := Int.mul_ediv_add_emod a d
  have e : a / d * d = d * (a / d) := Int.mul_comm _ _
  omega
theorem jI_in {a : Int} {n : Nat} (h1 : 0 ≤ a) (h2 : a < n) (hn : n < 2147483648) : vp_in (jI a) n := by
  rw [vp_in_iff, jI_toInt (by omega) (by omega)]
  exact ⟨h1, h2⟩
theorem zrg_j {σ : ST} {r : Nat} {a : Int} (h1 : 0 ≤ a) (h2 : a < zlen r) : zrg σ r (jI a) = σ.1 r a.toNat := by
  have h3 := zlen_lt r
  rw [zrg_in (jI_in h1 h2 h3), jI_cl h1 (by omega)]
theorem zrs_j {σ : ST} {r : Nat} {a : Int} {v : Int32} (h1 : 0 ≤ a) (h2 : a < zlen r) : zrs σ r (jI a) v = zrp σ r a.toNat v := by
  have h3 := zlen_lt r
  rw [zrs_in (jI_in h1 h2 h3), jI_cl h1 (by omega)]
/-- a loop whose i-th state is known -/
theorem lp_det {α : Type} {B : (α → Prop) → α → Prop} {L : Nat → α → Prop} (hL : ∀ n a, L (n + 1) a = B (L n) a) (st : Nat → α) (N : Nat) (h : ∀ i, i ≤ N → ∀ LL : α → Prop, (i < N → LL (st (i + 1))) → B LL (st i)) : ∃ n, L n (st 0) := by
  have key : ∀ k i, i + k = N → L (k + 1) (st i) := by
    intro k
    induction k with
    | zero => intro i hi; rw [hL]; exact h i (by omega) _ (fun q => absurd q (by omega))
    | succ k ih => intro i hi; rw [hL]; exact h i (by omega) _ (fun _ => ih (i + 1) (by omega))
  exact ⟨N + 1, key N 0 (by omega)⟩
/-- a loop with an invariant -/
theorem lp_inv {α : Type} {B : (α → Prop) → α → Prop} {L : Nat → α → Prop} (hL : ∀ n a, L (n + 1) a = B (L n) a) (I : Nat → α → Prop) (N : Nat) (h : ∀ i a, i ≤ N → I i a → ∀ LL : α → Prop, (∀ a', i < N → I (i + 1) a' → LL a') → B LL a) (a : α) (h0 : I 0 a) : ∃ n, L n a := by
  have key : ∀ k i a, i + k = N → I i a → L (k + 1) a := by
    intro k
    induction k with
    | zero => intro i a hi ha; rw [hL]; exact h i a (by omega) ha _ (fun _ q _ => absurd q (by omega))
    | succ k ih => intro i a hi ha; rw [hL]; exact h i a (by omega) ha _ (fun a' _ ha' => ih (i + 1) a' (by omega) ha')
  exact ⟨N + 1, key N 0 a (by omega) h0⟩
theorem last_13 : True := trivial
