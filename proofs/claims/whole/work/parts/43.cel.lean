/-! the class's small methods; loops over the row of the letters that are there -/
theorem slo_c {w : Wd} (hW : WF w) {k : Nat} (hk : k < 144) : (aT w k = -1 ∧ slo w k = -2) ∨ (aT w k = 3 ∧ slo w k = -1) ∨ (0 ≤ aT w k ∧ aT w k ≤ 2 ∧ 0 ≤ aS w k ∧ aS w k < 24 ∧ slo w k = 24 * aT w k + aS w k) := by
  obtain ⟨⟨h1, h2, -, -⟩, hb, hc, -⟩ := hW
  unfold slo
  rcases hc k hk with h | h | ⟨h3, h4, h5, h6, -⟩
  · exact Or.inl ⟨h, if_pos h⟩
  · exact Or.inr (Or.inl ⟨h, by rw [if_neg (by omega), if_pos h]⟩)
  · have h7 := hb (aT w k).toNat (by omega)
    exact Or.inr (Or.inr ⟨h3, by omega, h5, by omega, by rw [if_neg (by omega), if_neg (by omega)]⟩)
theorem isP_t {w : Wd} {k : Nat} (h : isP w k = true) : aT w k ≠ -1 := of_decide_eq_true h
theorem isP_f {w : Wd} {k : Nat} (h : isP w k = false) : aT w k = -1 := Classical.not_not.mp (of_decide_eq_false h)
theorem isL_t {w : Wd} {k : Nat} (h : isL w k = true) : 0 ≤ aT w k ∧ aT w k ≤ 2 := of_decide_eq_true h
theorem isL_f {w : Wd} {k : Nat} (h : isL w k = false) : ¬ (0 ≤ aT w k ∧ aT w k ≤ 2) := of_decide_eq_false h
theorem bo_t {p : Prop} [Decidable p] (h : p) : decide p = true := decide_eq_true h
theorem bo_f {p : Prop} [Decidable p] (h : ¬ p) : decide p = false := decide_eq_false h
section CEL
variable {σ : ST} {w : Wd} {l : List Nat} {k : Nat} {Q : Int32 → ST → Prop}
theorem RK.slot (hR : RK σ w l) (hk : k < 144) : zrg σ 3 (jI k) = jI (slo w k) := by
  rw [cg σ 3 k hk]
  exact (hR.2.1 k hk).1
theorem n_isThere (hR : RK σ w l) (hW : WF w) (hk : k < 144) (h : Q (jI (bI (isP w k))) σ) : wp_X4_isThere σ (jI k) Q := by
  unfold wp_X4_isThere
  refine alE (hR.slot hk) ?_
  rcases slo_c hW hk with ⟨h1, h2⟩ | ⟨h1, h2⟩ | ⟨h1, h2, h3, h4, h5⟩
  · rw [show isP w k = false from bo_f (fun q => q h1)] at h
    exact qt (jeq h2) h
  · rw [show isP w k = true from bo_t (by omega)] at h
    exact qf (jne (by omega)) h
  · rw [show isP w k = true from bo_t (by omega)] at h
    exact qf (jne (by omega)) h
theorem n_isLaid (hR : RK σ w l) (hW : WF w) (hk : k < 144) (h : Q (jI (bI (isL w k))) σ) : wp_X4_isLaid σ (jI k) Q := by
  unfold wp_X4_isLaid
  refine alE (hR.slot hk) ?_
  rcases slo_c hW hk with ⟨h1, h2⟩ | ⟨h1, h2⟩ | ⟨h1, h2, h3, h4, h5⟩
  · rw [show isL w k = false from bo_f (by omega)] at h
    exact qt (jlt (by omega)) h
  · rw [show isL w k = false from bo_f (by omega)] at h
    exact qt (jlt (by omega)) h
  · rw [show isL w k = true from bo_t ⟨h1, h2⟩] at h
    exact qf (jnlt (by omega)) h
def isS (w : Wd) (k : Nat) : Bool := decide (aT w k = 3)
theorem n_isInStreet (hR : RK σ w l) (hW : WF w) (hk : k < 144) (h : Q (jI (bI (isS w k))) σ) : wp_X4_isInStreet σ (jI k) Q := by
  unfold wp_X4_isInStreet
  refine alE (hR.slot hk) ?_
  rcases slo_c hW hk with ⟨h1, h2⟩ | ⟨h1, h2⟩ | ⟨h1, h2, h3, h4, h5⟩
  · rw [show isS w k = false from bo_f (by omega)] at h
    exact qf (jne (by omega)) h
  · rw [show isS w k = true from bo_t h1] at h
    exact qt (jeq h2) h
  · rw [show isS w k = false from bo_f (by omega)] at h
    exact qf (jne (by omega)) h
theorem n_isOfLine (hR : RK σ w l) (hk : k < 144) (hp : isP w k = true) (h : Q (jI (bI (isNw w k))) σ) : wp_X4_isOfLine σ (jI k) Q := by
  unfold wp_X4_isOfLine
  refine alE ((cg σ 7 k hk).trans ((hR.2.1 k hk).2.2 hp).2.1) ?_
  have e2 : σ.2 2 = w 1 := hR.2.2.2.2.2.1
  rw [e2]
  refine ⟨fun c => ?_, fun c => ?_⟩
  · rw [show isNw w k = true from bo_t ⟨isP_t hp, c⟩] at h
    exact h
  · rw [show isNw w k = false from bo_f (fun q => c q.2)] at h
    exact h
theorem n_widthOf (hR : RK σ w l) (hk : k < 144) (h : Q (jI (wdt w k)) σ) : wp_X4_widthOf σ (jI k) Q := by
  unfold wp_X4_widthOf wp_X6_signOf wp_X6_sizeOf wp_X6_blurOf
  have e1 : jI (k : Int) / jI 9 = jI ((k / 9 : Nat) : Int) := jd (d := 9) (by omega) (by decide) (by decide)
  have e2 : jI (k : Int) / jI 3 = jI ((k / 3 : Nat) : Int) := jd (d := 3) (by omega) (by decide) (by decide)
  have e3 : jI ((k / 3 : Nat) : Int) - jI ((k / 3 : Nat) : Int) / jI 3 * jI 3 = jI ((k / 3 % 3 : Nat) : Int) := jr (d := 3) (by omega) (by decide) (by decide)
  have e4 : jI (k : Int) - jI (k : Int) / jI 3 * jI 3 = jI ((k % 3 : Nat) : Int) := jr (d := 3) (by omega) (by decide) (by decide)
  have hs : k / 9 < 16 := by omega
  rw [e1]
  refine alE ((cg σ 0 (k / 9) (by show k / 9 < 16; exact hs)).trans ((hR.1.1 (k / 9) hs).trans (gwj w _))) ?_
  rw [e4, e2, e3, jI_add]
  dsimp only
  rw [jI_mul, jI_mul, jI_add]
  refine (jeq ?_ : jI _ = jI (wdt w k)) ▸ h
  unfold wdt
  rw [show k % 9 / 3 + 1 = k / 3 % 3 + 1 by omega]
  push_cast
  rfl
theorem n_heightOf (hR : RK σ w l) (hk : k < 144) (h : Q (jI (hgt w k)) σ) : wp_X4_heightOf σ (jI k) Q := by
  unfold wp_X4_heightOf wp_X6_signOf wp_X6_sizeOf wp_X6_blurOf
  have e1 : jI (k : Int) / jI 9 = jI ((k / 9 : Nat) : Int) := jd (d := 9) (by omega) (by decide) (by decide)
  have e2 : jI (k : Int) / jI 3 = jI ((k / 3 : Nat) : Int) := jd (d := 3) (by omega) (by decide) (by decide)
  have e3 : jI ((k / 3 : Nat) : Int) - jI ((k / 3 : Nat) : Int) / jI 3 * jI 3 = jI ((k / 3 % 3 : Nat) : Int) := jr (d := 3) (by omega) (by decide) (by decide)
  have e4 : jI (k : Int) - jI (k : Int) / jI 3 * jI 3 = jI ((k % 3 : Nat) : Int) := jr (d := 3) (by omega) (by decide) (by decide)
  have hs : k / 9 < 16 := by omega
  rw [e1]
  refine alE ((cg σ 1 (k / 9) (by show k / 9 < 16; exact hs)).trans ((hR.1.2.1 (k / 9) hs).trans (gwj w _))) ?_
  rw [e4, e2, e3, jI_add]
  dsimp only
  rw [jI_mul, jI_mul, jI_add]
  refine (jeq ?_ : jI _ = jI (hgt w k)) ▸ h
  unfold hgt
  rw [show k % 9 / 3 + 1 = k / 3 % 3 + 1 by omega]
  push_cast
  rfl
theorem n_areaOf (hR : RK σ w l) (hk : k < 144) (h : Q (jI (wdt w k * hgt w k)) σ) : wp_X4_areaOf σ (jI k) Q := by
  unfold wp_X4_areaOf
  refine n_widthOf hR hk (n_heightOf hR hk ?_)
  rw [jI_mul]
  exact h
end CEL
/-- the i-th letter of the row -/
theorem RK.at {σ : ST} {w : Wd} {l : List Nat} (hR : RK σ w l) {i k : Nat} (hi : l[i]? = some k) : zrg σ 9 (jI i) = jI k ∧ k < 144 ∧ isP w k = true := by
  have hlen := (List.getElem?_eq_some_iff.mp hi).1
  have h9 := hR.2.2.1.len
  rw [cg σ 9 i (by show i < 144; omega)]
  exact ⟨hR.2.2.1.1 i k hi, (hR.2.2.1.2.2.1 k).mp (List.mem_of_getElem? hi)⟩
theorem RK.n {σ : ST} {w : Wd} {l : List Nat} (hR : RK σ w l) : σ.2 0 = jI (l.length : Nat) := hR.2.2.2.1
/-- a loop over the letters that are there, with a sum -/
theorem lpL {wl : Nat → ST → Int32 → Int32 → Prop} {wb : (ST → Int32 → Int32 → Prop) → ST → Int32 → Int32 → Prop} (hw : ∀ n, wl (n + 1) = wb (wl n)) (σ : ST) (l : List Nat) (f : Int32 → Nat → Int32) (a0 : Int32) (hend : ∀ LL : ST → Int32 → Int32 → Prop, wb LL σ (l.foldl f a0) (jI (l.length : Nat))) (hstep : ∀ (i k : Nat) (a : Int32) (LL : ST → Int32 → Int32 → Prop), l[i]? = some k → LL σ (f a k) (jI ((i + 1 : Nat) : Int)) → wb LL σ a (jI (i : Nat))) : ∃ n, wl n σ a0 (jI 0) := by
  refine lpA (wl := wl) (wb := wb) hw (fun _ => σ) (fun i => (l.take i).foldl f a0) 0 l.length (fun i hi LL hLL => ?_)
  rw [Nat.zero_add]
  by_cases h : i < l.length
  · have h1 := List.getElem?_eq_getElem h
    refine hstep i l[i] _ LL h1 ?_
    have h2 := hLL h
    rw [Nat.zero_add] at h2
    rw [List.take_add_one, h1, List.foldl_append] at h2
    exact h2
  · have e : i = l.length := by omega
    subst e
    rw [List.take_length]
    exact hend LL
/-- .. that ends at the first one for which p holds -/
theorem lpH {wl : Nat → ST → Int32 → Prop} {wb : (ST → Int32 → Prop) → ST → Int32 → Prop} (hw : ∀ n, wl (n + 1) = wb (wl n)) (σ : ST) (l : List Nat) (p : Nat → Bool) (hend : (∀ k ∈ l, p k = false) → ∀ LL : ST → Int32 → Prop, wb LL σ (jI (l.length : Nat))) (hstep : ∀ (i k : Nat), l[i]? = some k → (∀ j k', j < i → l[j]? = some k' → p k' = false) → ∀ LL : ST → Int32 → Prop, (p k = false → LL σ (jI ((i + 1 : Nat) : Int))) → wb LL σ (jI (i : Nat))) : ∃ n, wl n σ (jI 0) := by
  refine lp_inv (α := ST × Int32) (L := fun n a => wl n a.1 a.2) (B := fun LL a => wb (fun t y => LL (t, y)) a.1 a.2) (fun n a => by rw [hw]) (fun i a => a = (σ, jI (i : Nat)) ∧ ∀ j k', j < i → l[j]? = some k' → p k' = false) l.length (fun i a hi ha LL hLL => ?_) (σ, jI 0) ⟨rfl, fun j _ hj => absurd hj (Nat.not_lt_zero j)⟩
  obtain ⟨rfl, ha⟩ := ha
  by_cases h : i < l.length
  · have h1 := List.getElem?_eq_getElem h
    refine hstep i l[i] h1 ha (fun t y => LL (t, y)) (fun hp => hLL _ h ⟨rfl, fun j k' hj hk' => ?_⟩)
    rcases Nat.lt_succ_iff_lt_or_eq.mp hj with h2 | h2
    · exact ha j k' h2 hk'
    · subst h2
      rw [h1] at hk'
      cases hk'
      exact hp
  · have e : i = l.length := by omega
    subst e
    refine hend (fun k hk => ?_) (fun t y => LL (t, y))
    obtain ⟨j, hj⟩ := List.getElem?_of_mem hk
    exact ha j k (List.getElem?_eq_some_iff.mp hj).1 hj
theorem cntF (l : List Nat) (p : Nat → Bool) (f : Int32 → Nat → Int32) (hf : ∀ a k, k ∈ l → f a k = if p k then a + jI 1 else a) (c : Int) : l.foldl f (jI c) = jI (c + (l.countP p : Nat)) := by
  induction l generalizing c with
  | nil => simp
  | cons x l ih =>
    rw [List.foldl_cons, hf _ x List.mem_cons_self, List.countP_cons]
    by_cases h : p x = true
    · rw [if_pos h, jI_add, ih (fun a k hk => hf a k (List.mem_cons_of_mem _ hk)), if_pos h]
      exact jeq (by push_cast; omega)
    · rw [if_neg h, ih (fun a k hk => hf a k (List.mem_cons_of_mem _ hk)), if_neg h]
      exact jeq (by push_cast; omega)
theorem last_43 : True := trivial
