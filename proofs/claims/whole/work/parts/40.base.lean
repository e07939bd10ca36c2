/-! pure part: helpers -/
theorem qt {c A B : Prop} (hc : c) (h : A) : (c → A) ∧ (¬ c → B) := ⟨fun _ => h, fun n => absurd hc n⟩
theorem qf {c A B : Prop} (hc : ¬ c) (h : B) : (c → A) ∧ (¬ c → B) := ⟨fun z => absurd z hc, fun _ => h⟩
theorem alE {α : Type} {a b : α} {P : α → Prop} (e : a = b) (h : P b) : ∀ v : α, v = a → P v := fun v ev => by rw [ev, e]; exact h
theorem al {α : Type} {a : α} {P : α → Prop} (h : P a) : ∀ v : α, v = a → P v := fun v ev => by rw [ev]; exact h
theorem jle {a b : Int} (h : a ≤ b) (h1 : -2147483648 ≤ a := by omega) (h2 : b < 2147483648 := by omega) : jI a ≤ jI b := (jI_le h1 (by omega) (by omega) h2).mpr h
theorem jnle {a b : Int} (h : b < a) (h1 : -2147483648 ≤ b := by omega) (h2 : a < 2147483648 := by omega) : ¬ jI a ≤ jI b := fun q => absurd ((jI_le (by omega) h2 h1 (by omega)).mp q) (by omega)
theorem jlt {a b : Int} (h : a < b) (h1 : -2147483648 ≤ a := by omega) (h2 : b < 2147483648 := by omega) : jI a < jI b := (jI_lt h1 (by omega) (by omega) h2).mpr h
theorem jnlt {a b : Int} (h : b ≤ a) (h1 : -2147483648 ≤ b := by omega) (h2 : a < 2147483648 := by omega) : ¬ jI a < jI b := fun q => absurd ((jI_lt (by omega) h2 h1 (by omega)).mp q) (by omega)
theorem jeq {a b : Int} (h : a = b) : jI a = jI b := by rw [h]
theorem jne {a b : Int} (h : a ≠ b) (h1 : -2147483648 ≤ a := by omega) (h2 : a < 2147483648 := by omega) (h3 : -2147483648 ≤ b := by omega) (h4 : b < 2147483648 := by omega) : ¬ jI a = jI b := fun q => h ((jI_eq h1 h2 h3 h4).mp q)
/-- an Int32 as a number in its range -/
theorem jI_ex (x : Int32) : ∃ a : Int, x = jI a ∧ -2147483648 ≤ a ∧ a < 2147483648 := ⟨x.toInt, jI_of x, Int32.le_toInt x, Int32.toInt_lt x⟩
/-- decide a comparison: either way, with what holds there -/
theorem qle {a b : Int} {A B : Prop} (h1 : -2147483648 ≤ a) (h2 : a < 2147483648) (h3 : -2147483648 ≤ b) (h4 : b < 2147483648) (kt : a ≤ b → A) (kf : b < a → B) : (jI a ≤ jI b → A) ∧ (¬ jI a ≤ jI b → B) := ⟨fun c => kt ((jI_le h1 h2 h3 h4).mp c), fun c => kf (Int.not_le.mp (fun q => c ((jI_le h1 h2 h3 h4).mpr q)))⟩
theorem qlt {a b : Int} {A B : Prop} (h1 : -2147483648 ≤ a) (h2 : a < 2147483648) (h3 : -2147483648 ≤ b) (h4 : b < 2147483648) (kt : a < b → A) (kf : b ≤ a → B) : (jI a < jI b → A) ∧ (¬ jI a < jI b → B) := ⟨fun c => kt ((jI_lt h1 h2 h3 h4).mp c), fun c => kf (Int.not_lt.mp (fun q => c ((jI_lt h1 h2 h3 h4).mpr q)))⟩
theorem qeq {a b : Int} {A B : Prop} (h1 : -2147483648 ≤ a) (h2 : a < 2147483648) (h3 : -2147483648 ≤ b) (h4 : b < 2147483648) (kt : a = b → A) (kf : a ≠ b → B) : (jI a = jI b → A) ∧ (¬ jI a = jI b → B) := ⟨fun c => kt ((jI_eq h1 h2 h3 h4).mp c), fun c => kf (fun q => c ((jI_eq h1 h2 h3 h4).mpr q))⟩
/-- a truth as the machine has it -/
def bI (b : Bool) : Int := if b then 1 else 0
theorem bI_t : bI true = 1 := rfl
theorem bI_f : bI false = 0 := rfl
theorem qb {b : Bool} {A B : Prop} (kt : b = false → A) (kf : b = true → B) : (jI (bI b) = jI 0 → A) ∧ (¬ jI (bI b) = jI 0 → B) := by
  cases b
  · exact qt rfl (kt rfl)
  · exact qf (jne (a := 1) (b := 0) (by decide)) (kf rfl)
theorem nar_b (b : Bool) : narrow .boolean (.int (jI (bI b))) = .int (jI (bI b)) := by cases b <;> decide +kernel
/-- loops over a state that stays, a sum, and a counter -/
theorem lpA {wl : Nat → ST → Int32 → Int32 → Prop} {wb : (ST → Int32 → Int32 → Prop) → ST → Int32 → Int32 → Prop} (hw : ∀ n, wl (n + 1) = wb (wl n)) (σ : Nat → ST) (acc : Nat → Int32) (j0 N : Nat) (h : ∀ i, i ≤ N → ∀ LL : ST → Int32 → Int32 → Prop, (i < N → LL (σ (i + 1)) (acc (i + 1)) (jI ((j0 + i + 1 : Nat) : Int))) → wb LL (σ i) (acc i) (jI ((j0 + i : Nat) : Int))) : ∃ n, wl n (σ 0) (acc 0) (jI (j0 : Nat)) :=
  lp_det (α := ST × Int32 × Int32) (L := fun n a => wl n a.1 a.2.1 a.2.2) (B := fun LL a => wb (fun t x y => LL (t, x, y)) a.1 a.2.1 a.2.2) (fun n a => by rw [hw]) (fun i => (σ i, acc i, jI ((j0 + i : Nat) : Int))) N (fun i hi LL hLL => h i hi (fun t x y => LL (t, x, y)) hLL)
/-- loops over a state and a counter -/
theorem lpB {wl : Nat → ST → Int32 → Prop} {wb : (ST → Int32 → Prop) → ST → Int32 → Prop} (hw : ∀ n, wl (n + 1) = wb (wl n)) (σ : Nat → ST) (j0 N : Nat) (h : ∀ i, i ≤ N → ∀ LL : ST → Int32 → Prop, (i < N → LL (σ (i + 1)) (jI ((j0 + i + 1 : Nat) : Int))) → wb LL (σ i) (jI ((j0 + i : Nat) : Int))) : ∃ n, wl n (σ 0) (jI (j0 : Nat)) :=
  lp_det (α := ST × Int32) (L := fun n a => wl n a.1 a.2) (B := fun LL a => wb (fun t y => LL (t, y)) a.1 a.2) (fun n a => by rw [hw]) (fun i => (σ i, jI ((j0 + i : Nat) : Int))) N (fun i hi LL hLL => h i hi (fun t y => LL (t, y)) hLL)
/-- the class's rows at a place -/
theorem cg (σ : ST) (r k : Nat) (h : k < zlen r) : zrg σ r (jI k) = σ.1 r k := by
  rw [zrg_j (by omega) (by exact_mod_cast h), Int.toNat_natCast]
theorem cs (σ : ST) (r k : Nat) (v : Int32) (h : k < zlen r) : zrs σ r (jI k) v = zrp σ r k v := by
  rw [zrs_j (by omega) (by exact_mod_cast h), Int.toNat_natCast]
theorem jcl (k : Nat) (h : k < 2147483648 := by omega) : (jI (k : Int)).toNatClampNeg = k := by
  rw [jI_cl (by omega) (by omega), Int.toNat_natCast]
theorem jin {k n : Nat} (h : k < n) (hn : n < 2147483648 := by omega) : vp_in (jI (k : Int)) n := jI_in (by omega) (by exact_mod_cast h) hn
/-- the letter's digits -/
theorem jd {k d : Nat} (hk : k < 2147483648) (hd : 0 < d) (hd2 : d < 2147483648) : jI (k : Int) / jI (d : Int) = jI ((k / d : Nat) : Int) := by
  rw [jI_div (by omega) (by omega) (by omega) (by omega)]
  congr 1
theorem jr {k d : Nat} (hk : k < 2147483648) (hd : 0 < d) (hd2 : d < 2147483648) : jI (k : Int) - jI (k : Int) / jI (d : Int) * jI (d : Int) = jI ((k % d : Nat) : Int) := by
  rw [jI_rem (by omega) (by omega) (by omega) (by omega)]
  congr 1
theorem last_40 : True := trivial
