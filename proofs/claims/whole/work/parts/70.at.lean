/-! at; the greatest gap -/
def cvr (w : Wd) (t : Nat) (x y : Int) (k : Nat) : Prop := k < 144 ∧ aT w k = t ∧ aX w k ≤ x ∧ x < aX w k + wdt w k ∧ topH w t (aS w k).toNat ≤ y ∧ y < topH w t (aS w k).toNat + hgt w k
theorem topH_lt {w : Wd} (hW : WF w) {t : Nat} (ht : (t : Int) < nT w) {i j : Nat} (hij : i < j) (hj : (j : Int) ≤ nS w t) : topH w t i + tl w t i ≤ topH w t j := by
  have h := topH_mono hW ht (i + 1) (j - (i + 1)) (by omega)
  rw [show i + 1 + (j - (i + 1)) = j by omega] at h
  have e : topH w t (i + 1) = topH w t i + tl w t i := rfl
  omega
theorem cvr_u {w : Wd} (hW : WF w) {t : Nat} {x y : Int} {k k' : Nat} (ht : (t : Int) < nT w) (h : cvr w t x y k) (h' : cvr w t x y k') : k = k' := by
  have ht3 : t < 3 := by have := hW.1.2.1; omega
  obtain ⟨h1, h2, h3, h4, h5, h6⟩ := h
  obtain ⟨g1, g2, g3, g4, g5, g6⟩ := h'
  by_cases hk : k = k'
  · exact hk
  · have hl : isL w k = true := bo_t (by omega)
    have hl' : isL w k' = true := bo_t (by omega)
    obtain ⟨a1, a2, a3, a4, a5, a6, a7, a8, a9⟩ := laid_c hW h1 hl
    obtain ⟨b1, b2, b3, b4, b5, b6, b7, b8, b9⟩ := laid_c hW g1 hl'
    rw [h2, Int.toNat_natCast] at a5 a9
    rw [g2, Int.toNat_natCast] at b5 b9
    by_cases hs : aS w k' = aS w k
    · have := hW.2.2.2.1 k k' h1 g1 hk hl (by rw [h2, g2]) hs
      omega
    · by_cases hlt : aS w k < aS w k'
      · have := topH_lt hW ht (i := (aS w k).toNat) (j := (aS w k').toNat) (by omega) (by omega)
        omega
      · have := topH_lt hW ht (i := (aS w k').toNat) (j := (aS w k).toNat) (by omega) (by omega)
        omega
def IsAt (w : Wd) (t : Nat) (x y : Int) : Option Nat → Prop
  | none => ∀ k, ¬ cvr w t x y k
  | some k => cvr w t x y k
theorem IsAt.u {w : Wd} (hW : WF w) {t : Nat} {x y : Int} (ht : (t : Int) < nT w) {o o' : Option Nat} (h : IsAt w t x y o) (h' : IsAt w t x y o') : o = o' := by
  cases o with
  | none =>
    cases o' with
    | none => rfl
    | some k' => exact absurd h' (h k')
  | some k =>
    cases o' with
    | none => exact absurd h (h' k)
    | some k' => rw [cvr_u hW ht h h']
def oC : Option Nat → Int
  | none => -1
  | some k => cod k
section ATT
variable {σ : ST} {w : Wd} {l : List Nat} {t : Nat} {x y : Int} {Q : Int32 → ST → Prop}
theorem n_covers (hR : RK σ w l) (hW : WF w) {k : Nat} (hk : k < 144) (hT : aT w k = (t : Int)) (ht : (t : Int) < nT w) (x1 : 0 ≤ x) (x2 : x ≤ 23) (y1 : 0 ≤ y) (y2 : y ≤ 23) (ht1 : cvr w t x y k → Q (jI 1) σ) (hf1 : ¬ cvr w t x y k → Q (jI 0) σ) : wp_X4_covers σ (jI (k : Nat)) (jI x) (jI y) Q := by
  have ht3 : t < 3 := by have := hW.1.2.1; omega
  have hl : isL w k = true := bo_t (by omega)
  obtain ⟨a1, a2, a3, a4, a5, a6, a7, a8, a9⟩ := laid_c hW hk hl
  have hw := wdt_b hW hk
  have hh := hgt_b hW hk
  have hs : slo w k = ((24 * t + (aS w k).toNat : Nat) : Int) := by
    rw [slo_on hW hk ht3 (by omega)]
    exact bo_t (by omega)
  rw [hT, Int.toNat_natCast] at a5 a9
  have htb := topH_b hW ht (aS w k).toNat (by omega)
  obtain ⟨r4, r5⟩ := (hR.2.1 k hk).2.1 hl
  unfold wp_X4_covers
  refine alE ((hR.slot hk).trans (jeq hs)) (n_topOf hR hW ht (by omega) (by omega) (alE ((cg σ 4 k hk).trans r4) ?_))
  refine qlt (by omega) (by omega) (by omega) (by omega) (fun c => hf1 (fun q => by have := q.2.2.1; omega)) (fun c => ?_)
  refine alE ((cg σ 5 k hk).trans r5) ?_
  refine qle (by omega) (by omega) (by omega) (by omega) (fun c2 => hf1 (fun q => by have := q.2.2.2.1; omega)) (fun c2 => ?_)
  refine qlt (by omega) (by omega) (by omega) (by omega) (fun c3 => hf1 (fun q => by have := q.2.2.2.2.1; omega)) (fun c3 => ?_)
  refine n_heightOf hR hk ?_
  rw [jI_add]
  exact qle (by omega) (by omega) (by omega) (by omega) (fun c4 => hf1 (fun q => by have := q.2.2.2.2.2; omega)) (fun c4 => ht1 ⟨hk, hT, c, c2, c3, c4⟩)
theorem n_inTray (hR : RK σ w l) (hW : WF w) {k : Nat} (hk : k < 144) (ht3 : t < 3) (ht1 : aT w k = (t : Int) → Q (jI 1) σ) (hf1 : aT w k ≠ (t : Int) → Q (jI 0) σ) : wp_X4_isInTray σ (jI (k : Nat)) (jI (t : Nat)) Q := by
  unfold wp_X4_isInTray
  refine n_isLaid hR hW hk (qb (fun p => ?_) (fun p => ?_))
  · have := isL_f p
    exact hf1 (by omega)
  · obtain ⟨a1, a2, a3, a4, a5, a6, a7, a8, a9⟩ := laid_c hW hk p
    have hs : slo w k = ((24 * (aT w k).toNat + (aS w k).toNat : Nat) : Int) := by
      rw [slo_on hW hk (by omega) (by omega)]
      exact bo_t (by omega)
    refine alE ((hR.slot hk).trans (jeq hs)) ?_
    rw [show jI ((24 * (aT w k).toNat + (aS w k).toNat : Nat) : Int) / jI 24 = jI (((24 * (aT w k).toNat + (aS w k).toNat) / 24 : Nat) : Int) from jd (d := 24) (by omega) (by decide) (by decide)]
    exact qeq (by omega) (by omega) (by omega) (by omega) (fun c => ht1 (by omega)) (fun c => hf1 (by omega))
theorem n_letterAt (hR : RK σ w l) (hW : WF w) (ht : (t : Int) < nT w) (x1 : 0 ≤ x) (x2 : x ≤ 23) (y1 : 0 ≤ y) (y2 : y ≤ 23) (h : ∀ o, IsAt w t x y o → Q (jI (match o with | none => -1 | some k => (k : Int))) σ) : wp_X4_letterAt σ (jI (t : Nat)) (jI x) (jI y) Q := by
  have ht3 : t < 3 := by have := hW.1.2.1; omega
  unfold wp_X4_letterAt
  refine lp_inv (α := ST × Int32) (L := fun n a => wl_X4_letterAt_3 _ _ _ _ _ n a.1 a.2) (B := fun LL a => wb_X4_letterAt_3 _ _ (fun t y => LL (t, y)) _ _ _ a.1 a.2) (fun n a => rfl) (fun i a => a = (σ, jI (i : Nat)) ∧ ∀ k, (∃ j, j < i ∧ l[j]? = some k) → ¬ cvr w t x y k) l.length (fun i a hi ha LL hLL => ?_) (σ, jI 0) ⟨rfl, fun k q => by obtain ⟨j, hj, _⟩ := q; exact absurd hj (Nat.not_lt_zero j)⟩
  obtain ⟨rfl, hn⟩ := ha
  dsimp only
  unfold wb_X4_letterAt_3
  by_cases hil : i < l.length
  · have hi1 := List.getElem?_eq_getElem hil
    obtain ⟨e1, e2, e3⟩ := hR.at hi1
    have hno : ¬ cvr w t x y l[i] → ∀ x1 : Int32, x1 = jI (i : Nat) + jI 1 → LL (σ, x1) := fun q => alE (jI_add _ _) (hLL _ hil ⟨rfl, fun k hk => by
      rcases (at_next l i k _ hi1).mp hk with q2 | q2
      · exact hn k q2
      · rw [q2]; exact q⟩)
    refine pres hR hi1 (alE e1 (n_inTray hR hW e2 ht3 (fun hT => ?_) (fun hT => ?_)))
    · refine qf (jne (a := 1) (b := 0) (by decide)) (n_covers hR hW e2 hT ht x1 x2 y1 y2 (fun q => ?_) (fun q => ?_))
      · exact qf (jne (a := 1) (b := 0) (by decide)) (h (some l[i]) q)
      · exact qt rfl (hno q)
    · exact qt rfl (hno (fun q => hT q.2.1))
  · have e : i = l.length := by omega
    subst e
    refine pend hR (h none (fun k q => ?_))
    have hp : isP w k = true := bo_t (by have := q.2.1; omega)
    exact hn k ((mem_at l k).mpr ((hR.2.2.1.2.2.1 k).mpr ⟨q.1, hp⟩)) q
theorem m_at {μ : ST} {K1 : ST → Int32 → Prop} {K2 : ST → Prop} (hW : WF (μ.1 0)) (ht : (t : Int) < nT (μ.1 0)) (x1 : 0 ≤ x) (x2 : x ≤ 23) (y1 : 0 ≤ y) (y2 : y ≤ 23) (h0 : μ.2 1 = jI 0) (hs : ∀ k : Nat, k < 144 → IsAt (μ.1 0) t x y (some k) → K1 μ (jI (k : Nat))) (hn : IsAt (μ.1 0) t x y none → K2 μ) : ∃ nn, wl_X7_at_44 K1 K2 (jI (t : Nat)) (jI x) (jI y) nn μ (jI 0) := by
  have ht3 : t < 3 := by have := hW.1.2.1; omega
  refine lp_inv (α := ST × Int32) (L := fun n a => wl_X7_at_44 _ _ _ _ _ n a.1 a.2) (B := fun LL a => wb_X7_at_44 _ _ (fun t y => LL (t, y)) _ _ _ a.1 a.2) (fun n a => rfl) (fun i a => a = (μ, jI (i : Nat)) ∧ ∀ k, k < i → ¬ cvr (μ.1 0) t x y k) 144 (fun i a hi ha LL hLL => ?_) (μ, jI 0) ⟨rfl, fun k q => absurd q (Nat.not_lt_zero k)⟩
  obtain ⟨rfl, hno⟩ := ha
  dsimp only
  unfold wb_X7_at_44
  by_cases hil : i < 144
  · have hnx : ¬ cvr (μ.1 0) t x y i → ∀ x1 : Int32, x1 = jI (i : Nat) + jI 1 → LL (μ, x1) := fun q => alE (jI_add _ _) (hLL _ hil ⟨rfl, fun k hk => by
      by_cases hki : k = i
      · rw [hki]; exact q
      · exact hno k (by omega)⟩)
    refine rnot hil ?_
    rw [h0]
    refine qt rfl (m_of (f := 0) hil (by decide) ?_)
    rw [gwj (μ.1 0)]
    refine qeq (gw_lo _ _) (gw_hi _ _) (by omega) (by omega) (fun c => ?_) (fun c => hnx (fun q => c q.2.1))
    have hT : aT (μ.1 0) i = (t : Int) := c
    have hl : isL (μ.1 0) i = true := bo_t (by omega)
    obtain ⟨a1, a2, a3, a4, a5, a6, a7, a8, a9⟩ := laid_c hW hil hl
    have hw := wdt_b hW hil
    have hh := hgt_b hW hil
    rw [hT, Int.toNat_natCast] at a5 a9
    have htb := topH_b hW ht (aS (μ.1 0) i).toNat (by omega)
    refine m_of (f := 2) hil (by decide) (m_of (f := 1) hil (by decide) ?_)
    rw [gwj (μ.1 0) (119 + 6 * i + 2), gwj (μ.1 0) (119 + 6 * i + 1)]
    have eX : gw (μ.1 0) (119 + 6 * i + 2) = aX (μ.1 0) i := rfl
    have eS : gw (μ.1 0) (119 + 6 * i + 1) = (((aS (μ.1 0) i).toNat : Nat) : Int) := by show aS (μ.1 0) i = _; omega
    rw [eX, eS]
    refine m_top ht3 (by omega) (m_widthOf hil ?_)
    rw [jI_add, jI_sub]
    refine m_in (by omega) (by omega) (by omega) (by omega) (by omega) (by omega) (qb (fun p => hnx (fun q => ?_)) (fun p => ?_))
    · have := of_decide_eq_false p
      have := q.2.2
      omega
    · have p := of_decide_eq_true p
      refine m_heightOf hil ?_
      rw [jI_add, jI_sub]
      refine m_in (by omega) (by omega) (by omega) (by omega) (by omega) (by omega) (qb (fun p2 => hnx (fun q => ?_)) (fun p2 => ?_))
      · have := of_decide_eq_false p2
        have := q.2.2.2.2
        omega
      · have p2 := of_decide_eq_true p2
        exact hs i hil ⟨hil, hT, by omega, by omega, by omega, by omega⟩
  · have e : i = 144 := by omega
    subst e
    exact rend (hn (fun k q => hno k q.1 q))
theorem m_atx {μ : ST} {K1 : ST → Int32 → Prop} {K2 : ST → Prop} {p1 p2 p3 : Int32} (h0 : ¬ μ.2 1 = jI 0) (hn : K2 μ) : ∃ nn, wl_X7_at_44 K1 K2 p1 p2 p3 nn μ (jI 0) := by
  refine ⟨1, ?_⟩
  show wb_X7_at_44 _ _ _ _ _ _ _ _
  unfold wb_X7_at_44
  exact qf (jnle (a := 144) (b := 0) (by decide) (by decide) (by decide)) (qf h0 hn)
end ATT
set_option maxHeartbeats 1000000 in
theorem s_at : st_at Inv := by
  intro n σ μ v p1 p2 p3 hn hI
  obtain ⟨a, rfl, a1, a2⟩ := jI_ex p1
  obtain ⟨x, rfl, x1, x2⟩ := jI_ex p2
  obtain ⟨y, rfl, y1, y2⟩ := jI_ex p3
  have hI' := hI
  obtain ⟨hW, hcl, ⟨l, hR⟩, -⟩ := hI'
  have hend : ∀ e : Int, (e = 1 ∨ e = 2) → ∀ Q' : Int32 → ST → Prop, Q' = (fun r μ1 => wp_X7_thrown μ1 (fun th μ2 => th = jI e ∧ (jI e = jI 0 → v = r.toInt64) ∧ Inv (n + 1) σ μ2)) → ∀ (K1 : ST → Int32 → Prop) (p1 p2 p3 : Int32), ∃ nn, wl_X7_at_44 K1 (fun u_145 => (((u_145.2 1) ≤ (jI 0) → Q' (jI (-1)) u_145) ∧ (¬ (u_145.2 1) ≤ (jI 0) → Q' (jI 0) u_145))) p1 p2 p3 nn (zsp μ 1 (jI e)) (jI 0) := fun e he Q' hQ' K1 p1 p2 p3 => by
    subst hQ'
    refine m_atx (by rw [zsp_at]; exact jne (by omega)) ?_
    rw [zsp_at]
    refine qf (jnle (by omega)) ?_
    unfold wp_X7_thrown
    exact ⟨zsp_at, fun q => absurd q (jne (by omega)), hI.next (same_rf σ) (sameM_th μ 1 _ (by decide) (by decide))⟩
  unfold wL_at wx_X6_at
  refine n_isTray hR hW a1 a2 (qb (fun d => ?_) (fun d => ?_))
  · refine x_throw (e := 1) (by decide) (fun _ => ?_) (fun q => absurd q (by decide)) (fun q => absurd q (by decide)) (fun q => absurd q (by decide))
    show wp_X7_at μ _ _ _ _
    unfold wp_X7_at
    refine m_isTray hW a1 a2 ?_
    rw [d]
    exact qt rfl (al (hend 1 (Or.inl rfl) _ rfl _ _ _ _))
  have d' := of_decide_eq_true d
  obtain ⟨t, rfl⟩ : ∃ t : Nat, a = t := ⟨a.toNat, by omega⟩
  refine x_throw (e := 0) (by decide) (fun q => absurd q (by decide)) (fun q => absurd q (by decide)) (fun q => absurd q (by decide)) (fun _ => ?_)
  refine c_in x1 x2 (by decide) (by decide) (by decide) (by decide) (qb (fun f => ?_) (fun f => ?_))
  · refine x_throw (e := 2) (by decide) (fun q => absurd q (by decide)) (fun _ => ?_) (fun q => absurd q (by decide)) (fun q => absurd q (by decide))
    show wp_X7_at μ _ _ _ _
    unfold wp_X7_at
    refine m_isTray hW a1 a2 ?_
    rw [d]
    refine qf (jne (a := 1) (b := 0) (by decide)) (m_in x1 x2 (by decide) (by decide) (by decide) (by decide) ?_)
    rw [f]
    exact qt rfl (al (hend 2 (Or.inr rfl) _ rfl _ _ _ _))
  have f' := of_decide_eq_true f
  refine c_in y1 y2 (by decide) (by decide) (by decide) (by decide) (qb (fun g => ?_) (fun g => ?_))
  · refine x_throw (e := 2) (by decide) (fun q => absurd q (by decide)) (fun _ => ?_) (fun q => absurd q (by decide)) (fun q => absurd q (by decide))
    show wp_X7_at μ _ _ _ _
    unfold wp_X7_at
    refine m_isTray hW a1 a2 ?_
    rw [d]
    refine qf (jne (a := 1) (b := 0) (by decide)) (m_in x1 x2 (by decide) (by decide) (by decide) (by decide) ?_)
    rw [f]
    refine qf (jne (a := 1) (b := 0) (by decide)) (m_in y1 y2 (by decide) (by decide) (by decide) (by decide) ?_)
    rw [g]
    exact qt rfl (al (hend 2 (Or.inr rfl) _ rfl _ _ _ _))
  have g' := of_decide_eq_true g
  refine x_throw (e := 0) (by decide) (fun q => absurd q (by decide)) (fun q => absurd q (by decide)) (fun q => absurd q (by decide)) (fun _ => ?_)
  refine n_letterAt hR hW d'.2 f'.1 f'.2 g'.1 g'.2 (fun o ho => ?_)
  have hm : wp_X7_at μ (jI (t : Nat)) (jI x) (jI y) (fun r μ1 => wp_X7_thrown μ1 (fun th μ2 => th = jI 0 ∧ (jI 0 = jI 0 → (jI (oC o)).toInt64 = r.toInt64) ∧ Inv (n + 1) σ μ2)) := by
    unfold wp_X7_at
    refine m_isTray hW a1 a2 ?_
    rw [d]
    refine qf (jne (a := 1) (b := 0) (by decide)) (m_in x1 x2 (by decide) (by decide) (by decide) (by decide) ?_)
    rw [f]
    refine qf (jne (a := 1) (b := 0) (by decide)) (m_in y1 y2 (by decide) (by decide) (by decide) (by decide) ?_)
    rw [g]
    refine qf (jne (a := 1) (b := 0) (by decide)) (al ?_)
    refine m_at (μ := zsp μ 1 (jI 0)) (t := t) (x := x) (y := y) (by exact hW) (by exact d'.2) f'.1 f'.2 g'.1 g'.2 zsp_at (fun k hk hk2 => m_codeOf hk ?_) (fun hk2 => ?_)
    · unfold wp_X7_thrown
      refine ⟨zsp_at, fun _ => ?_, hI.next (same_rf σ) (sameM_th μ 1 _ (by decide) (by decide))⟩
      rw [IsAt.u hW d'.2 ho hk2]
      rfl
    · rw [zsp_at]
      refine qt (jle (by decide) (by decide) (by decide)) ?_
      unfold wp_X7_thrown
      refine ⟨zsp_at, fun _ => ?_, hI.next (same_rf σ) (sameM_th μ 1 _ (by decide) (by decide))⟩
      rw [IsAt.u hW d'.2 ho hk2]
      rfl
  cases o with
  | none => exact n_codeN hm
  | some k => exact n_codeOf ho.1 hm
noncomputable def ar (w : Wd) (i : Nat) : Int := if ((i / 24 : Nat) : Int) < nT w ∧ ((i % 24 : Nat) : Int) < nS w (i / 24) then (wF (fr w (i / 24) (i % 24)) : Int) * tl w (i / 24) (i % 24) else 0
noncomputable def mxA (w : Wd) : Nat → Int
  | 0 => 0
  | n + 1 => if mxA w n < ar w n then ar w n else mxA w n
theorem ar_b {w : Wd} (hW : WF w) (i : Nat) : 0 ≤ ar w i ∧ ar w i ≤ 576 := by
  unfold ar
  split
  · next h =>
    have h1 := wF_b (fr w (i / 24) (i % 24))
    have h2 := (hsv_in hW h.1 h.2).2
    constructor
    · exact Int.mul_nonneg (by omega) (by omega)
    · have := Int.mul_le_mul (a := (wF (fr w (i / 24) (i % 24)) : Int)) (b := tl w (i / 24) (i % 24)) (c := 24) (d := 24) (by omega) h2.2 (by omega) (by decide)
      omega
  · omega
theorem mxA_b {w : Wd} (hW : WF w) (i : Nat) : 0 ≤ mxA w i ∧ mxA w i ≤ 576 := by
  induction i with
  | zero => exact ⟨Int.le_refl 0, by show (0 : Int) ≤ 576; decide⟩
  | succ i ih =>
    have := ar_b hW i
    unfold mxA
    split <;> omega
theorem mxA_z {w : Wd} (hW : WF w) {i : Nat} (h : ar w i = 0) : mxA w (i + 1) = mxA w i := by
  have := mxA_b hW i
  show (if mxA w i < ar w i then ar w i else mxA w i) = mxA w i
  rw [if_neg (by omega)]
theorem mxA_zs {w : Wd} (hW : WF w) (a n : Nat) (h : ∀ i, a ≤ i → i < a + n → ar w i = 0) : mxA w (a + n) = mxA w a := by
  induction n with
  | zero => rfl
  | succ n ih =>
    rw [show a + (n + 1) = a + n + 1 by omega, mxA_z hW (h (a + n) (by omega) (by omega))]
    exact ih (fun i h1 h2 => h i h1 (by omega))
theorem ar_in {w : Wd} {t s : Nat} (hs2 : s < 24) (h0 : (t : Int) < nT w) (hs : (s : Int) < nS w t) : ar w (24 * t + s) = (wF (fr w t s) : Int) * tl w t s := by
  unfold ar
  rw [show (24 * t + s) / 24 = t by omega, show (24 * t + s) % 24 = s by omega, if_pos ⟨h0, hs⟩]
theorem ar_out {w : Wd} {t s : Nat} (hs2 : s < 24) (h : ¬ ((t : Int) < nT w ∧ (s : Int) < nS w t)) : ar w (24 * t + s) = 0 := by
  unfold ar
  rw [show (24 * t + s) / 24 = t by omega, show (24 * t + s) % 24 = s by omega, if_neg h]
section GRG
variable {σ : ST} {w : Wd} {l : List Nat} {Q : Int32 → ST → Prop}
theorem n_greatest (hR : RK σ w l) (hW : WF w) (h : Q (jI (mxA w 72)) σ) : wp_X4_greatestGapArea σ Q := by
  unfold wp_X4_greatestGapArea
  refine lpA (wl := wl_X4_greatestGapArea_4 _) (wb := fun LL => wb_X4_greatestGapArea_4 _ LL) (fun _ => rfl) (fun _ => σ) (fun i => jI (mxA w i)) 0 72 (fun i hi LL hLL => ?_)
  unfold wb_X4_greatestGapArea_4
  rw [Nat.zero_add]
  by_cases hi2 : i < 72
  · have h9 := hLL hi2
    rw [Nat.zero_add] at h9
    refine qf (jnle (by omega)) ?_
    obtain ⟨t, s, rfl, ht, hs⟩ : ∃ t s : Nat, i = 24 * t + s ∧ t < 3 ∧ s < 24 := ⟨i / 24, i % 24, by omega, by omega, by omega⟩
    refine alE (hR.sh ht hs) ?_
    by_cases hx : (t : Int) < nT w ∧ (s : Int) < nS w t
    · obtain ⟨e1, e2, e3⟩ := hsv_in hW hx.1 hx.2
      rw [e1]
      refine qf (jnle (by omega)) (n_coverOf hR hW ht hs (fun c hc => n_widest (cv_fr w t s hc) (fun W hWd => ?_)))
      have ea := ar_in hs hx.1 hx.2
      have hab := ar_b hW (24 * t + s)
      have hmb := mxA_b hW (24 * t + s)
      rw [hWd.u (wF_is _), jI_mul, ← ea]
      have em : (if jI (mxA w (24 * t + s)) < jI (ar w (24 * t + s)) then jI (ar w (24 * t + s)) else jI (mxA w (24 * t + s))) = jI (mxA w (24 * t + s + 1)) := by
        show _ = jI (if mxA w (24 * t + s) < ar w (24 * t + s) then ar w (24 * t + s) else mxA w (24 * t + s))
        by_cases hlt : mxA w (24 * t + s) < ar w (24 * t + s)
        · rw [if_pos (jlt hlt), if_pos hlt]
        · rw [if_neg (jnlt (by omega)), if_neg hlt]
      rw [em]
      exact alE rfl (alE (jI_add _ _) h9)
    · rw [show hsv w t s = 0 from if_neg hx]
      rw [mxA_z hW (ar_out hs hx)] at h9
      exact qt (jle (by decide) (by decide) (by decide)) (alE (jI_add _ _) h9)
  · have e : i = 72 := by omega
    subst e
    exact qt (jle (by decide) (by decide) (by decide)) h
theorem m_wA1 {μ v : ST} {t : Nat} {K : ST → Int32 → Prop} (hW : WF (μ.1 0)) (ht : (t : Int) < nT (μ.1 0)) (ha1 : ∀ q : Nat, q ≠ 2 → v.1 q = μ.1 q) (ha2 : v.2 = μ.2) (h : ∀ u : ST, (∀ q : Nat, q ≠ 2 → u.1 q = μ.1 q) → u.2 = μ.2 → K u (jI (mxA (μ.1 0) (24 * (t + 1))))) : ∃ nn, wl_X7_widestArea_16 K (jI (t : Nat)) nn v (jI (mxA (μ.1 0) (24 * t))) (jI 0) := by
  have hb := hW.2.1 t ht
  have hT2 := hW.1.2.1
  have ht3 : t < 3 := by omega
  refine lp_inv (α := ST × Int32 × Int32) (L := fun n a => wl_X7_widestArea_16 K (jI (t : Nat)) n a.1 a.2.1 a.2.2) (B := fun LL a => wb_X7_widestArea_16 K (fun t y z => LL (t, y, z)) (jI (t : Nat)) a.1 a.2.1 a.2.2) (fun n a => rfl) (fun s a => (∀ q : Nat, q ≠ 2 → a.1.1 q = μ.1 q) ∧ a.1.2 = μ.2 ∧ a.2.1 = jI (mxA (μ.1 0) (24 * t + s)) ∧ a.2.2 = jI (s : Nat)) (nS (μ.1 0) t).toNat (fun s a hs ha LL2 hLL2 => ?_) (v, jI (mxA (μ.1 0) (24 * t)), jI 0) ⟨ha1, ha2, by rw [Nat.add_zero], rfl⟩
  obtain ⟨u, y, z⟩ := a
  obtain ⟨hb1, hb2, hb3, hb4⟩ := ha
  dsimp only at hb1 hb2 hb3 hb4 ⊢
  subst hb3 hb4
  unfold wb_X7_widestArea_16
  have u0 : u.1 0 = μ.1 0 := hb1 0 (by decide)
  refine m_rd (44 + t) (by rw [jI_add]; exact jeq (by omega)) (by omega) (by decide) ?_
  rw [u0, show μ.1 0 (44 + t) = jI (nS (μ.1 0) t) from gwj _ _]
  refine qle (by omega) (by omega) (by omega) (by omega) (fun d => ?_) (fun d => ?_)
  · have h9 := h u hb1 hb2
    rw [show 24 * (t + 1) = 24 * t + s + (24 - s) by omega, mxA_zs hW (24 * t + s) (24 - s) (fun i h1 h2 => ?_)] at h9
    · exact h9
    · have := ar_out (w := μ.1 0) (t := t) (s := i - 24 * t) (by omega) (fun q => by omega)
      rw [show 24 * t + (i - 24 * t) = i by omega] at this
      exact this
  · have hs2 : s < 24 := by omega
    refine m_gapsOf (b := false) (by rw [u0]; exact hW) ht3 hs2 (fun v2 W hv hWd => ?_)
    have v20 : v2.1 0 = μ.1 0 := (hv.1 0 (by decide)).trans u0
    rw [u0] at hWd
    refine m_tall ht3 hs2 ?_
    rw [v20]
    have ea := ar_in hs2 ht d
    have hab := ar_b hW (24 * t + s)
    have hmb := mxA_b hW (24 * t + s)
    have eW : ((if false = true then gN (fr (u.1 0) t s) else W : Nat) : Int) = (wF (fr (μ.1 0) t s) : Int) := by
      rw [hWd.u (wF_is _)]
      rfl
    rw [eW, jI_mul, ← ea]
    refine al ?_
    have em : mxA (μ.1 0) (24 * t + (s + 1)) = if mxA (μ.1 0) (24 * t + s) < ar (μ.1 0) (24 * t + s) then ar (μ.1 0) (24 * t + s) else mxA (μ.1 0) (24 * t + s) := rfl
    refine qle (by omega) (by omega) (by omega) (by omega) (fun f => ?_) (fun f => ?_)
    · refine alE (jI_add _ _) (hLL2 _ (by omega) ⟨fun q hq => (hv.1 q hq).trans (hb1 q hq), hv.2.1.trans hb2, ?_, rfl⟩)
      dsimp only
      rw [em, if_neg (by omega)]
    · refine alE (jI_add _ _) (hLL2 _ (by omega) ⟨fun q hq => (hv.1 q hq).trans (hb1 q hq), hv.2.1.trans hb2, ?_, rfl⟩)
      dsimp only
      rw [em, if_pos (by omega)]
theorem m_widestArea {μ : ST} (hW : WF (μ.1 0)) (h : ∀ μ' : ST, (∀ q : Nat, q ≠ 2 → μ'.1 q = μ.1 q) → μ'.2 = μ.2 → Q (jI (mxA (μ.1 0) 72)) μ') : wp_X7_widestArea μ Q := by
  have hT1 := hW.1.1
  have hT2 := hW.1.2.1
  unfold wp_X7_widestArea
  have key : ∀ K : ST → Int32 → Prop, (∀ μ' : ST, (∀ q : Nat, q ≠ 2 → μ'.1 q = μ.1 q) → μ'.2 = μ.2 → K μ' (jI (mxA (μ.1 0) 72))) → ∃ nn, wl_X7_widestArea_4 K nn μ (jI 0) (jI 0) := fun K hK => by
    refine lp_inv (α := ST × Int32 × Int32) (L := fun n a => wl_X7_widestArea_4 K n a.1 a.2.1 a.2.2) (B := fun LL a => wb_X7_widestArea_4 K (fun t y z => LL (t, y, z)) a.1 a.2.1 a.2.2) (fun n a => rfl) (fun t a => (∀ q : Nat, q ≠ 2 → a.1.1 q = μ.1 q) ∧ a.1.2 = μ.2 ∧ a.2.1 = jI (mxA (μ.1 0) (24 * t)) ∧ a.2.2 = jI (t : Nat)) (nT (μ.1 0)).toNat (fun t a ht ha LL hLL => ?_) (μ, jI 0, jI 0) ⟨fun _ _ => rfl, rfl, rfl, rfl⟩
    obtain ⟨v, y, z⟩ := a
    obtain ⟨ha1, ha2, ha3, ha4⟩ := ha
    dsimp only at ha1 ha2 ha3 ha4 ⊢
    subst ha3 ha4
    unfold wb_X7_widestArea_4
    have v0 : v.1 0 = μ.1 0 := ha1 0 (by decide)
    refine m_rd 0 rfl (by decide) (by decide) ?_
    rw [v0, show μ.1 0 0 = jI (nT (μ.1 0)) from gwj _ 0]
    refine qle (by omega) (by omega) (by omega) (by omega) (fun c => ?_) (fun c => ?_)
    · have e : t = (nT (μ.1 0)).toNat := by omega
      have h9 := hK v ha1 ha2
      rw [show (72 : Nat) = 24 * t + (72 - 24 * t) by omega, mxA_zs hW (24 * t) (72 - 24 * t) (fun i h1 h2 => ?_)] at h9
      · exact h9
      · have := ar_out (w := μ.1 0) (t := i / 24) (s := i % 24) (by omega) (fun q => by omega)
        rw [show 24 * (i / 24) + i % 24 = i by omega] at this
        exact this
    · exact m_wA1 hW c ha1 ha2 (fun u g1 g2 => alE (jI_add _ _) (hLL _ (by omega) ⟨g1, g2, rfl, rfl⟩))
  exact key _ h
end GRG
theorem s_greatestGap : st_greatestGap Inv := by
  intro n σ μ hn hI
  have hI' := hI
  obtain ⟨hW, hcl, ⟨l, hR⟩, -⟩ := hI'
  unfold wp_X6_greatestGap
  refine n_greatest hR hW ?_
  unfold wp_X7_greatestGap
  refine al (m_widestArea (μ := zsp μ 1 (jI 0)) (by exact hW) (fun μ' g1 g2 => ⟨rfl, hI.next (same_rf σ) ((sameM_th μ 1 _ (by decide) (by decide)).trans (sameM_2 g1 g2))⟩))
theorem last_70 : True := trivial
