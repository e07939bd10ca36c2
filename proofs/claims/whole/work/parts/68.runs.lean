/-! gaps: rows of free columns -/
def glen (F : Nat → Bool) : Nat → Nat → Nat
  | 0, _ => 0
  | n + 1, x => if F x = true then glen F n (x + 1) + 1 else 0
theorem glen_t (F : Nat → Bool) : ∀ n x i, i < glen F n x → i < n ∧ F (x + i) = true := by
  intro n
  induction n with
  | zero => intro x i h; exact absurd h (Nat.not_lt_zero i)
  | succ n ih =>
    intro x i h
    unfold glen at h
    by_cases hF : F x = true
    · rw [if_pos hF] at h
      cases i with
      | zero => exact ⟨by omega, hF⟩
      | succ i =>
        have := ih (x + 1) i (by omega)
        exact ⟨by omega, by rw [show x + (i + 1) = x + 1 + i by omega]; exact this.2⟩
    · rw [if_neg hF] at h
      exact absurd h (Nat.not_lt_zero i)
theorem glen_ge (F : Nat → Bool) : ∀ n x m, m ≤ n → (∀ i, i < m → F (x + i) = true) → m ≤ glen F n x := by
  intro n
  induction n with
  | zero => intro x m h _; unfold glen; omega
  | succ n ih =>
    intro x m h hF
    cases m with
    | zero => exact Nat.zero_le _
    | succ m =>
      unfold glen
      rw [if_pos (show F x = true from hF 0 (by omega))]
      have := ih (x + 1) m (by omega) (fun i hi => by rw [show x + 1 + i = x + (i + 1) by omega]; exact hF (i + 1) (by omega))
      omega
theorem glen_le (F : Nat → Bool) (n x : Nat) : glen F n x ≤ n := by
  by_cases h : glen F n x = 0
  · omega
  · have := (glen_t F n x (glen F n x - 1) (by omega)).1
    omega
theorem glen_e (F : Nat → Bool) (n x : Nat) (h : glen F n x < n) : F (x + glen F n x) = false := by
  cases hF : F (x + glen F n x)
  · rfl
  · have := glen_ge F n x (glen F n x + 1) (by omega) (fun i hi => by
      by_cases h2 : i < glen F n x
      · exact (glen_t F n x i h2).2
      · rw [show i = glen F n x by omega]
        exact hF)
    omega
def gl (F : Nat → Bool) (x : Nat) : Nat := glen F (24 - x) x
def eo (F : Nat → Bool) (x : Nat) : Nat := if x = 0 ∨ F (x - 1) = false then gl F x else 0
/-- n free columns from a on -/
def FF (F : Nat → Bool) (a n : Nat) : Prop := a + n ≤ 24 ∧ ∀ i, i < n → F (a + i) = true
theorem FF_gl {F : Nat → Bool} {a n : Nat} (h : FF F a n) : n ≤ gl F a := glen_ge F _ _ _ (by have := h.1; omega) h.2
theorem gl_FF {F : Nat → Bool} {a : Nat} (ha : a ≤ 24) : FF F a (gl F a) := ⟨by have := glen_le F (24 - a) a; unfold gl; omega, fun i hi => (glen_t F _ _ i hi).2⟩
theorem FF_le {F : Nat → Bool} {a n m : Nat} (h : FF F a n) (hm : m ≤ n) : FF F a m := ⟨by have := h.1; omega, fun i hi => h.2 i (by omega)⟩
/-- to the left, if the column there is free -/
theorem FF_left {F : Nat → Bool} {a n : Nat} (h : FF F a n) (h0 : a ≠ 0) (hF : F (a - 1) = true) : FF F (a - 1) (n + 1) := by
  refine ⟨by have := h.1; omega, fun i hi => ?_⟩
  cases i with
  | zero => exact hF
  | succ i =>
    rw [show a - 1 + (i + 1) = a + i by omega]
    exact h.2 i (by omega)
def IsW (F : Nat → Bool) (W : Nat) : Prop := (∃ a, FF F a W) ∧ ∀ a n, FF F a n → n ≤ W
theorem IsW.u {F : Nat → Bool} {W W' : Nat} (h : IsW F W) (h' : IsW F W') : W = W' := by
  obtain ⟨⟨a, ha⟩, h2⟩ := h
  obtain ⟨⟨a', ha'⟩, h2'⟩ := h'
  have := h2 a' W' ha'
  have := h2' a W ha
  omega
theorem IsW.b {F : Nat → Bool} {W : Nat} (h : IsW F W) : W ≤ 24 := by
  obtain ⟨⟨a, ha⟩, -⟩ := h
  have := ha.1
  omega
/-- the first place of n free columns, or none -/
def IsF (F : Nat → Bool) (n : Nat) : Option Nat → Prop
  | none => ∀ a, ¬ FF F a n
  | some a => FF F a n ∧ ∀ a', a' < a → ¬ FF F a' n
theorem IsF.u {F : Nat → Bool} {n : Nat} {o o' : Option Nat} (h : IsF F n o) (h' : IsF F n o') : o = o' := by
  cases o with
  | none =>
    cases o' with
    | none => rfl
    | some a' => exact absurd h'.1 (h a')
  | some a =>
    cases o' with
    | none => exact absurd h.1 (h' a)
    | some a' =>
      have h1 : ¬ a' < a := fun q => h.2 a' q h'.1
      have h2 : ¬ a < a' := fun q => h'.2 a q h.1
      rw [show a = a' by omega]
def fst1 (F : Nat → Bool) (x : Nat) : Bool := F x && (x == 0 || !F (x - 1))
def gN (F : Nat → Bool) : Nat := (List.range 24).countP (fst1 F)
theorem gl_pos {F : Nat → Bool} {x : Nat} (hx : x < 24) : 0 < gl F x ↔ F x = true := by
  constructor
  · intro h
    exact (glen_t F _ _ 0 h).2
  · intro h
    exact FF_gl (n := 1) ⟨by omega, fun i hi => by rw [show i = 0 by omega]; exact h⟩
theorem eo_pos {F : Nat → Bool} {x : Nat} (hx : x < 24) : 0 < eo F x ↔ fst1 F x = true := by
  unfold eo fst1
  rw [Bool.and_eq_true, Bool.or_eq_true, beq_iff_eq, Bool.not_eq_true']
  by_cases h : x = 0 ∨ F (x - 1) = false
  · rw [if_pos h, gl_pos hx]
    exact ⟨fun q => ⟨q, h⟩, fun q => q.1⟩
  · rw [if_neg h]
    exact ⟨fun q => absurd q (Nat.lt_irrefl 0), fun q => absurd q.2 h⟩
theorem eo_le {F : Nat → Bool} {x : Nat} (hx : x ≤ 24) : x + eo F x ≤ 24 := by
  unfold eo
  split
  · exact (gl_FF hx).1
  · omega
theorem cnt_s (p : Nat → Bool) (x : Nat) : (List.range (x + 1)).countP p = (List.range x).countP p + if p x = true then 1 else 0 := by
  rw [List.range_succ, List.countP_append, List.countP_singleton]
section RUN
variable {σ : ST} {Q : Int32 → ST → Prop} {F : Nat → Bool} {c : Int32}
theorem n_count (hc : ∀ x, x < 24 → bt c x = !F x) (h : Q (jI (gN F : Nat)) σ) : wp_X1_count σ c Q := by
  have hF : ∀ x, x < 24 → (!bt c x) = F x := fun x hx => by rw [hc x hx, Bool.not_not]
  unfold wp_X1_count
  refine lpA (wl := wl_X1_count_4 _ _) (wb := fun LL => wb_X1_count_4 _ LL _) (fun _ => rfl) (fun _ => σ) (fun i => jI (((List.range i).countP (fst1 F) : Nat) : Int)) 0 24 (fun i hi LL hLL => ?_)
  unfold wb_X1_count_4
  rw [Nat.zero_add]
  by_cases hi2 : i < 24
  · have h9 := hLL hi2
    rw [Nat.zero_add, cnt_s] at h9
    refine qf (jnle (by omega)) (n_isFree hi2 ?_)
    rw [hF i hi2]
    refine qb (fun p => ?_) (fun p => ?_)
    · have e : fst1 F i = false := by unfold fst1; rw [p]; rfl
      rw [e, if_neg (by decide), Nat.add_zero] at h9
      exact alE (jI_add _ _) h9
    · refine qeq (by omega) (by omega) (by decide) (by decide) (fun d => ?_) (fun d => ?_)
      · have e : fst1 F i = true := by
          unfold fst1
          rw [p, beq_iff_eq.mpr (show i = 0 by omega)]
          rfl
        rw [e, if_pos rfl] at h9
        exact alE (jI_add _ _) (alE (jI_add _ _) h9)
      · rw [jI_sub, show (i : Int) - 1 = ((i - 1 : Nat) : Int) by omega]
        refine n_isFree (by omega) ?_
        rw [hF (i - 1) (by omega)]
        have hi0 : (i == 0) = false := beq_eq_false_iff_ne.mpr (by omega)
        refine qb (fun p2 => ?_) (fun p2 => ?_)
        · have e : fst1 F i = true := by
            unfold fst1
            rw [p, p2, hi0]
            rfl
          rw [e, if_pos rfl] at h9
          exact alE (jI_add _ _) (alE (jI_add _ _) h9)
        · have e : fst1 F i = false := by
            unfold fst1
            rw [p, p2, hi0]
            rfl
          rw [e, if_neg (by decide), Nat.add_zero] at h9
          exact alE (jI_add _ _) h9
  · have e : i = 24 := by omega
    subst e
    exact qt (jle (by decide) (by decide) (by decide)) h
/-- the run of free columns that ends before x has r columns -/
def RunE (F : Nat → Bool) (x r : Nat) : Prop := r ≤ x ∧ (∀ i, i < r → F (x - r + i) = true) ∧ (r < x → F (x - r - 1) = false)
theorem RunE.z : RunE F 0 0 := ⟨Nat.le_refl 0, fun i hi => absurd hi (Nat.not_lt_zero i), fun q => absurd q (Nat.lt_irrefl 0)⟩
theorem RunE.t {x r : Nat} (h : RunE F x r) (hF : F x = true) : RunE F (x + 1) (r + 1) := by
  obtain ⟨h1, h2, h3⟩ := h
  refine ⟨by omega, fun i hi => ?_, fun q => ?_⟩
  · rw [show x + 1 - (r + 1) = x - r by omega]
    by_cases hir : i < r
    · exact h2 i hir
    · rw [show x - r + i = x by omega]
      exact hF
  · rw [show x + 1 - (r + 1) - 1 = x - r - 1 by omega]
    exact h3 (by omega)
theorem RunE.f {x : Nat} (hF : F x = false) : RunE F (x + 1) 0 := ⟨Nat.zero_le _, fun i hi => absurd hi (Nat.not_lt_zero i), fun _ => by rw [show x + 1 - 0 - 1 = x by omega]; exact hF⟩
theorem RunE.le {x r a n : Nat} (h : RunE F x r) (hx : a + n = x) (hF : ∀ i, i < n → F (a + i) = true) : n ≤ r := by
  obtain ⟨h1, h2, h3⟩ := h
  by_cases hn : n ≤ r
  · exact hn
  · have := hF (n - r - 1) (by omega)
    rw [show a + (n - r - 1) = x - r - 1 by omega, h3 (by omega)] at this
    cases this
theorem n_widest (hc : ∀ x, x < 24 → bt c x = !F x) (h : ∀ W, IsW F W → Q (jI (W : Nat)) σ) : wp_X1_widest σ c Q := by
  have hF : ∀ x, x < 24 → (!bt c x) = F x := fun x hx => by rw [hc x hx, Bool.not_not]
  unfold wp_X1_widest
  refine lp_inv (α := ST × Int32 × Int32 × Int32) (L := fun n a => wl_X1_widest_6 _ _ n a.1 a.2.1 a.2.2.1 a.2.2.2) (B := fun LL a => wb_X1_widest_6 _ (fun t x y z => LL (t, x, y, z)) _ a.1 a.2.1 a.2.2.1 a.2.2.2) (fun n a => rfl) (fun i a => a.1 = σ ∧ a.2.2.2 = jI (i : Nat) ∧ ∃ r W : Nat, a.2.2.1 = jI (r : Nat) ∧ a.2.1 = jI (W : Nat) ∧ RunE F i r ∧ W ≤ i ∧ (∃ a, a + W ≤ i ∧ ∀ j, j < W → F (a + j) = true) ∧ ∀ a n, a + n ≤ i → (∀ j, j < n → F (a + j) = true) → n ≤ W) 24 (fun i a hi ha LL hLL => ?_) (σ, jI 0, jI 0, jI 0) ⟨rfl, rfl, 0, 0, rfl, rfl, RunE.z, Nat.le_refl 0, ⟨0, Nat.le_refl 0, fun j hj => absurd hj (Nat.not_lt_zero j)⟩, fun a n h1 _ => by omega⟩
  obtain ⟨t, y, z, x⟩ := a
  obtain ⟨ha1, ha2, r, W, ha3, ha4, hr, hWi, hw1, hw2⟩ := ha
  dsimp only at ha1 ha2 ha3 ha4 ⊢
  subst ha1 ha2 ha3 ha4
  unfold wb_X1_widest_6
  by_cases hi2 : i < 24
  · refine qf (jnle (by omega)) (n_isFree hi2 ?_)
    rw [hF i hi2]
    have hr1 := hr.1
    refine qb (fun p => ?_) (fun p => ?_)
    · have e : (if jI (W : Nat) < jI 0 then jI 0 else jI (W : Nat)) = jI (W : Nat) := if_neg (jnlt (by omega))
      rw [e]
      refine al (alE (jI_add _ _) (hLL _ hi2 ⟨rfl, rfl, 0, W, rfl, rfl, RunE.f p, by omega, ?_, fun a n h1 h2 => ?_⟩))
      · obtain ⟨a, q1, q2⟩ := hw1
        exact ⟨a, by omega, q2⟩
      · by_cases h3 : a + n ≤ i
        · exact hw2 a n h3 h2
        · cases n with
          | zero => exact Nat.zero_le _
          | succ n =>
            have := h2 n (by omega)
            rw [show a + n = i by omega, p] at this
            cases this
    · refine alE (jI_add _ _) ?_
      have hmx : (if jI (W : Nat) < jI ((r : Int) + 1) then jI ((r : Int) + 1) else jI (W : Nat)) = jI ((max W (r + 1) : Nat) : Int) := by
        by_cases h9 : W < r + 1
        · rw [if_pos (jlt (by omega))]
          exact jeq (by omega)
        · rw [if_neg (jnlt (by omega))]
          exact jeq (by omega)
      rw [hmx]
      refine al (alE (jI_add _ _) (hLL _ hi2 ⟨rfl, rfl, r + 1, max W (r + 1), rfl, rfl, hr.t p, by omega, ?_, fun a n h1 h2 => ?_⟩))
      · by_cases h9 : W < r + 1
        · refine ⟨i - r, by omega, fun j hj => ?_⟩
          by_cases hj2 : j < r
          · exact hr.2.1 j hj2
          · rw [show i - r + j = i by omega]
            exact p
        · obtain ⟨a, q1, q2⟩ := hw1
          exact ⟨a, by omega, fun j hj => q2 j (by omega)⟩
      · by_cases h3 : a + n ≤ i
        · have := hw2 a n h3 h2
          omega
        · have := (hr.t p).le (show a + n = i + 1 by omega) h2
          omega
  · have e : i = 24 := by omega
    subst e
    obtain ⟨a, q1, q2⟩ := hw1
    exact qt (jle (by decide) (by decide) (by decide)) (h W ⟨⟨a, q1, q2⟩, fun a n hf => hw2 a n hf.1 hf.2⟩)
def oI : Option Nat → Int
  | none => -1
  | some a => a
theorem n_leftmost {n : Nat} (hn : 1 ≤ n) (hn2 : n < 100) (hc : ∀ x, x < 24 → bt c x = !F x) (h : ∀ o, IsF F n o → Q (jI (oI o)) σ) : wp_X1_leftmost σ c (jI (n : Nat)) Q := by
  have hF : ∀ x, x < 24 → (!bt c x) = F x := fun x hx => by rw [hc x hx, Bool.not_not]
  unfold wp_X1_leftmost
  refine lp_inv (α := ST × Int32 × Int32) (L := fun n a => wl_X1_leftmost_4 _ _ _ _ n a.1 a.2.1 a.2.2) (B := fun LL a => wb_X1_leftmost_4 _ _ (fun t x y => LL (t, x, y)) _ _ a.1 a.2.1 a.2.2) (fun n a => rfl) (fun i a => a.1 = σ ∧ a.2.2 = jI (i : Nat) ∧ ∃ r : Nat, a.2.1 = jI (r : Nat) ∧ RunE F i r ∧ r < n ∧ ∀ a, a + n ≤ i → ¬ ∀ j, j < n → F (a + j) = true) 24 (fun i a hi ha LL hLL => ?_) (σ, jI 0, jI 0) ⟨rfl, rfl, 0, rfl, RunE.z, hn, fun a h1 _ => by omega⟩
  obtain ⟨t, y, x⟩ := a
  obtain ⟨ha1, ha2, r, ha3, hr, hrn, hw⟩ := ha
  dsimp only at ha1 ha2 ha3 ⊢
  subst ha1 ha2 ha3
  unfold wb_X1_leftmost_4
  by_cases hi2 : i < 24
  · refine qf (jnle (by omega)) (n_isFree hi2 ?_)
    rw [hF i hi2]
    have hr1 := hr.1
    refine qb (fun p => ?_) (fun p => ?_)
    · refine qt (jlt (by omega)) (alE (jI_add _ _) (hLL _ hi2 ⟨rfl, rfl, 0, rfl, RunE.f p, by omega, fun a h1 h2 => ?_⟩))
      by_cases h3 : a + n ≤ i
      · exact hw a h3 h2
      · have := h2 (n - 1) (by omega)
        rw [show a + (n - 1) = i by omega, p] at this
        cases this
    · refine alE (jI_add _ _) ?_
      have hrt := hr.t p
      refine qlt (by omega) (by omega) (by omega) (by omega) (fun d => ?_) (fun d => ?_)
      · refine alE (jI_add _ _) (hLL _ hi2 ⟨rfl, rfl, r + 1, rfl, hrt, by omega, fun a h1 h2 => ?_⟩)
        by_cases h3 : a + n ≤ i
        · exact hw a h3 h2
        · have := hrt.le (show a + n = i + 1 by omega) h2
          omega
      · have e : n = r + 1 := by omega
        have h9 := h (some (i - r)) ⟨⟨by omega, fun j hj => ?_⟩, fun a' ha' hf => hw a' (by omega) hf.2⟩
        · dsimp only
          rw [jI_sub, jI_add]
          rw [show (i : Int) - ((r : Int) + 1) + 1 = oI (some (i - r)) by show _ = ((i - r : Nat) : Int); omega]
          exact h9
        · by_cases hj2 : j < r
          · exact hr.2.1 j hj2
          · rw [show i - r + j = i by omega]
            exact p
  · have e : i = 24 := by omega
    subst e
    exact qt (jle (by decide) (by decide) (by decide)) (h none (fun a hf => hw a hf.1 hf.2))
end RUN
/-- what covers leaves, seen by the free columns -/
def CovF (v : ST) (F : Nat → Bool) : Prop := (∀ x, x < 24 → v.1 2 x = jI (bI (!F x))) ∧ v.1 2 24 = jI 1
theorem CovM.F {μ μ' : ST} {t s : Nat} (h : CovM μ μ' t s) : CovF μ' (fr (μ.1 0) t s) := ⟨fun x hx => by rw [h.2.2.1 x hx]; unfold fr; rw [Bool.not_not], h.2.2.2⟩
section MRUN
variable {v : ST} {Q : Int32 → ST → Prop} {F : Nat → Bool}
theorem m_endOf (hC : CovF v F) {x : Nat} (hx : x < 24) (h : Q (jI ((x + eo F x : Nat) : Int)) v) : wp_X7_endOf v (jI (x : Nat)) Q := by
  have hle := gl_FF (F := F) (a := x) (by omega)
  unfold wp_X7_endOf
  by_cases hc : x = 0 ∨ F (x - 1) = false
  · have e : eo F x = gl F x := if_pos hc
    rw [e] at h
    refine lpB (wl := wl_X7_endOf_2 _ _) (wb := fun LL => wb_X7_endOf_2 _ LL _) (fun _ => rfl) (fun _ => v) x (gl F x) (fun i hi LL hLL => ?_)
    unfold wb_X7_endOf_2
    have hl1 := hle.1
    have hmid : ∀ A B : Prop, (i < gl F x → A) → (i = gl F x → B) → (vp_in (jI ((x + i : Nat) : Int)) 25 ∧ ∀ v1 : Int32, v1 = (v.1 2 (jI ((x + i : Nat) : Int)).toNatClampNeg) → ((v1 = (jI 0) → A) ∧ (¬ v1 = (jI 0) → B))) := fun A B hA hB => by
      refine m_rd (x + i) rfl (by omega) (by decide) ?_
      by_cases hi2 : i < gl F x
      · rw [hC.1 (x + i) (by omega), hle.2 i hi2]
        exact qt rfl (hA hi2)
      · by_cases h24 : x + i < 24
        · rw [hC.1 (x + i) h24, show F (x + i) = false by rw [show i = gl F x by omega]; exact glen_e F (24 - x) x (by unfold gl at *; omega)]
          exact qf (jne (a := 1) (b := 0) (by decide)) (hB (by omega))
        · rw [show x + i = 24 by omega, hC.2]
          exact qf (jne (a := 1) (b := 0) (by decide)) (hB (by omega))
    have hA : i < gl F x → ∀ x1 : Int32, x1 = jI ((x + i : Nat) : Int) + jI 1 → LL v x1 := fun hi2 => alE (jI_add _ _) (hLL hi2)
    have hB : i = gl F x → Q (jI ((x + i : Nat) : Int)) v := fun q => by rw [q]; exact h
    refine qeq (by omega) (by omega) (by decide) (by decide) (fun d => hmid _ _ hA hB) (fun d => ?_)
    rw [jI_sub, show (x : Int) - 1 = ((x - 1 : Nat) : Int) by omega]
    refine m_rd (x - 1) rfl (by omega) (by decide) ?_
    rw [hC.1 (x - 1) (by omega), show F (x - 1) = false from hc.resolve_left (by omega)]
    exact qf (jne (a := 1) (b := 0) (by decide)) (hmid _ _ hA hB)
  · have e : eo F x = 0 := if_neg hc
    rw [e] at h
    have h0 : x ≠ 0 := fun q => hc (Or.inl q)
    have h1 : F (x - 1) = true := by
      cases h9 : F (x - 1)
      · exact absurd (Or.inr h9) hc
      · rfl
    refine lpB (wl := wl_X7_endOf_2 _ _) (wb := fun LL => wb_X7_endOf_2 _ LL _) (fun _ => rfl) (fun _ => v) x 0 (fun i hi LL hLL => ?_)
    unfold wb_X7_endOf_2
    rw [show i = 0 by omega]
    refine qf (jne (by omega)) ?_
    rw [jI_sub, show (x : Int) - 1 = ((x - 1 : Nat) : Int) by omega]
    refine m_rd (x - 1) rfl (by omega) (by decide) ?_
    rw [hC.1 (x - 1) (by omega), h1]
    exact qt rfl h
theorem m_gapsOf {μ : ST} {t s : Nat} {b : Bool} (hW : WF (μ.1 0)) (ht : t < 3) (hs : s < 24) (h : ∀ (v : ST) (W : Nat), CovM μ v t s → IsW (fr (μ.1 0) t s) W → Q (jI ((if b then gN (fr (μ.1 0) t s) else W : Nat) : Int)) v) : wp_X7_gapsOf μ (jI (t : Nat)) (jI (s : Nat)) (jI (bI b)) Q := by
  unfold wp_X7_gapsOf
  refine m_covers hW ht hs (fun v hv => ?_)
  have hC := hv.F
  generalize hFd : fr (μ.1 0) t s = F at *
  refine lp_inv (α := ST × Int32 × Int32 × Int32) (L := fun n a => wl_X7_gapsOf_15 _ _ n a.1 a.2.1 a.2.2.1 a.2.2.2) (B := fun LL a => wb_X7_gapsOf_15 _ (fun t x y z => LL (t, x, y, z)) _ a.1 a.2.1 a.2.2.1 a.2.2.2) (fun n a => rfl) (fun i a => a.1 = v ∧ a.2.2.2 = jI (i : Nat) ∧ a.2.1 = jI (((List.range i).countP (fst1 F) : Nat) : Int) ∧ ∃ W : Nat, a.2.2.1 = jI (W : Nat) ∧ (∃ a, FF F a W) ∧ ∀ a n, a < i → FF F a n → n ≤ W) 24 (fun i a hi ha LL hLL => ?_) (v, jI 0, jI 0, jI 0) ⟨rfl, rfl, rfl, 0, rfl, ⟨0, by omega, fun j hj => absurd hj (Nat.not_lt_zero j)⟩, fun a n h1 _ => absurd h1 (Nat.not_lt_zero a)⟩
  obtain ⟨u, y, z, x⟩ := a
  obtain ⟨ha1, ha2, ha3, W, ha4, hw1, hw2⟩ := ha
  dsimp only at ha1 ha2 ha3 ha4 ⊢
  subst ha1 ha2 ha3 ha4
  unfold wb_X7_gapsOf_15
  have hWb : W ≤ 24 := by
    obtain ⟨a, ha⟩ := hw1
    have := ha.1
    omega
  by_cases hi2 : i < 24
  · refine qf (jnle (by omega)) (m_endOf hC hi2 (al ?_))
    rw [jI_sub, show ((i + eo F i : Nat) : Int) - (i : Int) = ((eo F i : Nat) : Int) by omega]
    have hel := eo_le (F := F) (x := i) (by omega)
    have hp := eo_pos (F := F) hi2
    have hup : ∀ W' : Nat, W ≤ W' → eo F i ≤ W' → ∀ a n, a < i + 1 → FF F a n → n ≤ W' := fun W' g1 g2 a n h1 h2 => by
      by_cases hai : a < i
      · have := hw2 a n hai h2
        omega
      · have ea : a = i := by omega
        subst ea
        by_cases hc : a = 0 ∨ F (a - 1) = false
        · have e : eo F a = gl F a := if_pos hc
          have := FF_gl h2
          omega
        · have h0 : a ≠ 0 := fun q => hc (Or.inl q)
          have h9 : F (a - 1) = true := by
            cases h9 : F (a - 1)
            · exact absurd (Or.inr h9) hc
            · rfl
          have := hw2 (a - 1) (n + 1) (by omega) (FF_left h2 h0 h9)
          omega
    have hex : ∃ a, FF F a (eo F i) := by
      by_cases hc : i = 0 ∨ F (i - 1) = false
      · rw [show eo F i = gl F i from if_pos hc]
        exact ⟨i, gl_FF (by omega)⟩
      · rw [show eo F i = 0 from if_neg hc]
        exact ⟨0, by omega, fun j hj => absurd hj (Nat.not_lt_zero j)⟩
    have hcnt : ((List.range (i + 1)).countP (fst1 F) : Int) = ((List.range i).countP (fst1 F) : Int) + if 0 < eo F i then 1 else 0 := by
      rw [cnt_s]
      by_cases h9 : fst1 F i = true
      · rw [if_pos h9, if_pos (hp.mpr h9)]
        omega
      · rw [if_neg h9, if_neg (fun q => h9 (hp.mp q))]
        omega
    have hnx : ∀ k : Int, ((List.range (i + 1)).countP (fst1 F) : Int) = ((List.range i).countP (fst1 F) : Int) + k → (∀ x2 : Int32, x2 = jI (((List.range i).countP (fst1 F) : Nat) : Int) + jI k → ((jI ((eo F i : Nat) : Int) ≤ jI (W : Nat) → (∀ x3 : Int32, x3 = jI (i : Nat) + jI 1 → LL (u, x2, jI (W : Nat), x3))) ∧ (¬ jI ((eo F i : Nat) : Int) ≤ jI (W : Nat) → (∀ x4 : Int32, x4 = jI (i : Nat) + jI 1 → LL (u, x2, jI ((eo F i : Nat) : Int), x4))))) := fun k hk => by
      refine alE (jI_add _ _) ?_
      rw [← hk]
      refine qle (by omega) (by omega) (by omega) (by omega) (fun d => ?_) (fun d => ?_)
      · exact alE (jI_add _ _) (hLL _ hi2 ⟨rfl, rfl, rfl, W, rfl, hw1, hup W (Nat.le_refl _) (by omega)⟩)
      · exact alE (jI_add _ _) (hLL _ hi2 ⟨rfl, rfl, rfl, eo F i, rfl, hex, hup (eo F i) (by omega) (Nat.le_refl _)⟩)
    refine qle (by omega) (by omega) (by decide) (by decide) (fun d => ?_) (fun d => ?_)
    · rw [if_neg (by omega)] at hcnt
      exact hnx 0 hcnt
    · rw [if_pos (by omega)] at hcnt
      exact hnx 1 hcnt
  · have e : i = 24 := by omega
    subst e
    have hW9 : IsW F W := ⟨hw1, fun a n hf => by
      by_cases ha : a < 24
      · exact hw2 a n ha hf
      · have := hf.1
        omega⟩
    have h9 := h u W hv hW9
    refine qt (jle (by decide) (by decide) (by decide)) (qb (fun p => ?_) (fun p => ?_))
    · rw [p] at h9
      exact h9
    · rw [p] at h9
      exact h9
end MRUN
theorem last_68 : True := trivial
