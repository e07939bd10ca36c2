/-! the reference saves -/
def shS (μ : ST) (i : Nat) : ST := (fun q => if q = 1 then (fun p => if p < i then μ.1 1 (p + 983) else μ.1 1 p) else μ.1 q, μ.2)
def cpS (μ : ST) (b i : Nat) : ST := (fun q => if q = 1 then (fun p => if b ≤ p ∧ p < b + i then μ.1 0 (p - b) else μ.1 1 p) else μ.1 q, μ.2)
theorem shS_0 (μ : ST) : shS μ 0 = μ := by
  refine Prod.ext (funext fun q => ?_) rfl
  show (if q = 1 then _ else _) = _
  by_cases h : q = 1
  · subst h
    rw [if_pos rfl]
    funext p
    exact if_neg (Nat.not_lt_zero p)
  · rw [if_neg h]
theorem cpS_0 (μ : ST) (b : Nat) : cpS μ b 0 = μ := by
  refine Prod.ext (funext fun q => ?_) rfl
  show (if q = 1 then _ else _) = _
  by_cases h : q = 1
  · subst h
    rw [if_pos rfl]
    funext p
    exact if_neg (by omega)
  · rw [if_neg h]
theorem shS_1 (μ : ST) (i p : Nat) : (shS μ i).1 1 p = if p < i then μ.1 1 (p + 983) else μ.1 1 p := by
  unfold shS
  dsimp only
  rw [if_pos rfl]
theorem cpS_1 (μ : ST) (b i p : Nat) : (cpS μ b i).1 1 p = if b ≤ p ∧ p < b + i then μ.1 0 (p - b) else μ.1 1 p := by
  unfold cpS
  dsimp only
  rw [if_pos rfl]
theorem shS_o (μ : ST) (i q : Nat) (h : q ≠ 1) : (shS μ i).1 q = μ.1 q := if_neg h
theorem cpS_o (μ : ST) (b i q : Nat) (h : q ≠ 1) : (cpS μ b i).1 q = μ.1 q := if_neg h
theorem shS_next (μ : ST) (i : Nat) : zrp (shS μ i) 1 i (μ.1 1 (i + 983)) = shS μ (i + 1) := by
  refine Prod.ext (funext fun q => ?_) rfl
  show (if q = 1 then upd ((shS μ i).1 1) i _ else (shS μ i).1 q) = _
  by_cases h : q = 1
  · subst h
    rw [if_pos rfl]
    funext p
    rw [shS_1]
    unfold upd
    by_cases hp : p = i
    · subst hp
      rw [if_pos rfl, if_pos (by omega)]
    · rw [if_neg hp, shS_1]
      by_cases h2 : p < i
      · rw [if_pos h2, if_pos (by omega)]
      · rw [if_neg h2, if_neg (by omega)]
  · rw [if_neg h, shS_o _ _ _ h, shS_o _ _ _ h]
theorem cpS_next (μ : ST) (b i : Nat) : zrp (cpS μ b i) 1 (b + i) (μ.1 0 i) = cpS μ b (i + 1) := by
  refine Prod.ext (funext fun q => ?_) rfl
  show (if q = 1 then upd ((cpS μ b i).1 1) (b + i) _ else (cpS μ b i).1 q) = _
  by_cases h : q = 1
  · subst h
    rw [if_pos rfl]
    funext p
    rw [cpS_1]
    unfold upd
    by_cases hp : p = b + i
    · subst hp
      rw [if_pos rfl, if_pos (by omega), show b + i - b = i by omega]
    · rw [if_neg hp, cpS_1]
      by_cases h2 : b ≤ p ∧ p < b + i
      · rw [if_pos h2, if_pos (by omega)]
      · rw [if_neg h2, if_neg (by omega)]
  · rw [if_neg h, cpS_o _ _ _ _ h, cpS_o _ _ _ _ h]
theorem m_copies {μ : ST} {K : ST → Prop} {m : Nat} (hm : m < 4) (h0 : μ.2 0 = jI (m : Nat)) (h : K (cpS μ (983 * m) 983)) : ∃ nn, wl_X7_saves_51 K nn μ (jI 0) := by
  have hb := lpB (wl := wl_X7_saves_51 K) (wb := fun LL => wb_X7_saves_51 K LL) (fun _ => rfl) (fun i => cpS μ (983 * m) i) 0 983 (fun i hi LL hLL => ?_)
  · rw [cpS_0] at hb
    exact hb
  · unfold wb_X7_saves_51
    rw [Nat.zero_add]
    refine qle (by decide) (by decide) (by omega) (by omega) (fun c => ?_) (fun c => ?_)
    · rw [show i = 983 by omega]
      exact h
    · have h9 := hLL (by omega)
      rw [Nat.zero_add] at h9
      refine m_rd i rfl (by omega) (by decide) ?_
      rw [cpS_o _ _ _ 0 (by decide)]
      refine m_wr (983 * m + i) ?_ (by omega) (by decide) ?_
      · rw [show (cpS μ (983 * m) i).2 0 = jI (m : Nat) from h0, jI_mul, jI_add]
        exact jeq (by omega)
      · rw [cpS_next]
        exact alE (jI_add _ _) h9
theorem m_shifts {μ : ST} {K : ST → Prop} (h : K (shS μ 2949)) : ∃ nn, wl_X7_saves_10 K nn μ (jI 0) := by
  have hb := lpB (wl := wl_X7_saves_10 K) (wb := fun LL => wb_X7_saves_10 K LL) (fun _ => rfl) (fun i => shS μ i) 0 2949 (fun i hi LL hLL => ?_)
  · rw [shS_0] at hb
    exact hb
  · unfold wb_X7_saves_10
    rw [Nat.zero_add]
    refine qle (by decide) (by decide) (by omega) (by omega) (fun c => ?_) (fun c => ?_)
    · rw [show i = 2949 by omega]
      exact h
    · have h9 := hLL (by omega)
      rw [Nat.zero_add] at h9
      refine m_rd (i + 983) (by rw [jI_add]; exact jeq (by omega)) (by omega) (by decide) ?_
      refine m_wr i rfl (by omega) (by decide) ?_
      rw [shS_1, if_neg (by omega), shS_next]
      exact alE (jI_add _ _) h9
/-- what is saved: m states before, the last of them now the present one -/
def Saved (μ μ' : ST) (m : Nat) : Prop := (∀ r, r ≠ 1 → μ'.1 r = μ.1 r) ∧ (∀ c, c ≠ 0 → μ'.2 c = μ.2 c) ∧ μ'.2 0 = jI ((min (m + 1) 4 : Nat) : Int) ∧ (∀ i j : Nat, i < min m 3 → j < 983 → μ'.1 1 (983 * i + j) = μ.1 1 (983 * (i + (m - min m 3)) + j)) ∧ ∀ j : Nat, j < 983 → μ'.1 1 (983 * min m 3 + j) = μ.1 0 j
theorem m_saves {μ : ST} {Q : ST → Prop} {m : Nat} (hm : m ≤ 4) (h0 : μ.2 0 = jI (m : Nat)) (h : ∀ μ', Saved μ μ' m → Q μ') : wp_X7_saves μ Q := by
  unfold wp_X7_saves
  rw [h0]
  refine qeq (by omega) (by omega) (by decide) (by decide) (fun c => ?_) (fun c => ?_)
  · have e : m = 4 := by omega
    subst e
    refine m_shifts (al ?_)
    have e0 : (shS μ 2949).2 0 - jI 1 = jI ((3 : Nat) : Int) := by
      show μ.2 0 - jI 1 = _
      rw [h0, jI_sub]
      rfl
    rw [e0]
    refine m_copies (μ := zsp (shS μ 2949) 0 (jI ((3 : Nat) : Int))) (m := 3) (by decide) zsp_at (al (h _ ⟨fun r hr => ?_, fun c hc => ?_, ?_, fun i j hi hj => ?_, fun j hj => ?_⟩))
    · exact (cpS_o _ _ _ _ hr).trans (shS_o _ _ _ hr)
    · exact (zsp_nq hc).trans (zsp_nq hc)
    · refine zsp_at.trans ?_
      show (zsp (shS μ 2949) 0 (jI ((3 : Nat) : Int))).2 0 + jI 1 = _
      rw [zsp_at, jI_add]
      rfl
    · refine (cpS_1 _ _ _ _).trans ?_
      rw [if_neg (by omega)]
      refine (shS_1 _ _ _).trans ?_
      rw [if_pos (by omega)]
      exact congrArg _ (by omega)
    · refine (cpS_1 _ _ _ _).trans ?_
      rw [if_pos (by omega), show 983 * min 4 3 + j - 983 * 3 = j by omega]
      rfl
  · refine m_copies (m := m) (by omega) h0 (al (h _ ⟨fun r hr => ?_, fun c hc => ?_, ?_, fun i j hi hj => ?_, fun j hj => ?_⟩))
    · exact cpS_o _ _ _ _ hr
    · exact zsp_nq hc
    · refine zsp_at.trans ?_
      show μ.2 0 + jI 1 = _
      rw [h0, jI_add]
      exact jeq (by omega)
    · refine (cpS_1 _ _ _ _).trans ?_
      rw [if_neg (by omega), show i + (m - min m 3) = i by omega]
    · refine (cpS_1 _ _ _ _).trans ?_
      rw [if_pos (by omega), show 983 * min m 3 + j - 983 * m = j by omega]
theorem last_58 : True := trivial
