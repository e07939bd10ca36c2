/-! gaps: bits and columns -/
def bt (x : Int32) (i : Nat) : Bool := x.toBitVec.getLsbD i
theorem b_ext {x y : Int32} (h : ∀ i, i < 32 → bt x i = bt y i) : x = y := Int32.toBitVec_inj.mp (BitVec.eq_of_getLsbD_eq (fun i hi => h i hi))
theorem b_or (x y : Int32) (i : Nat) : bt (x ||| y) i = (bt x i || bt y i) := by unfold bt; rw [Int32.toBitVec_or, BitVec.getLsbD_or]
theorem b_and (x y : Int32) (i : Nat) : bt (x &&& y) i = (bt x i && bt y i) := by unfold bt; rw [Int32.toBitVec_and, BitVec.getLsbD_and]
theorem s_l : ∀ n, n < 32 → ((nI n &&& 31).toBitVec.smod 32).toNat = n := by decide +kernel
theorem b_sshr (n : Nat) (hn : n < 32) (x : Int32) {i : Nat} (hi : i < 32) : bt (x >>> (nI n &&& 31)) i = if n + i < 32 then bt x (n + i) else bt x 31 := by
  unfold bt
  rw [Int32.toBitVec_shiftRight]
  show (x.toBitVec.sshiftRight ((nI n &&& 31).toBitVec.smod 32).toNat).getLsbD i = _
  rw [s_l n hn, BitVec.getLsbD_sshiftRight, BitVec.msb_eq_getLsbD_last]
  simp [hi]
theorem b_one : ∀ i, i < 32 → bt (jI 1) i = decide (i = 0) := by decide +kernel
theorem b_nul : ∀ i, i < 32 → bt (jI 0) i = false := by decide +kernel
theorem and1 (y : Int32) : y &&& jI 1 = jI 0 ↔ bt y 0 = false := by
  constructor
  · intro h
    have h2 := b_and y (jI 1) 0
    rw [h, b_one 0 (by decide), b_nul 0 (by decide), show decide ((0 : Nat) = 0) = true from rfl, Bool.and_true] at h2
    exact h2.symm
  · intro h
    refine b_ext (fun i hi => ?_)
    rw [b_and, b_one i hi, b_nul i hi]
    by_cases h0 : i = 0
    · subst h0
      rw [h]
      rfl
    · rw [bo_f h0, Bool.and_false]
theorem bt_n (n : Nat) {x : Nat} (hx : x < 32) : bt (nI n) x = n.testBit x := by
  show (BitVec.ofNat 32 n).getLsbD x = _
  rw [BitVec.getLsbD_ofNat, decide_eq_true hx, Bool.true_and]
theorem tb_msk : ∀ b, b < 25 → ∀ a, a < b → ∀ x, x < 24 → (2 ^ b - 2 ^ a).testBit x = decide (a ≤ x ∧ x < b) := by decide +kernel
theorem shl_1 {a : Nat} (ha : a < 25) : jI 1 <<< (jI (a : Nat) &&& 31) = nI (2 ^ a) := by
  rw [← jI_nI a, show jI 1 = nI 1 from (jI_nI 1).symm, pk_shlN _ a (s_l a (by omega)), Nat.one_mul]
  rw [Nat.one_mul]
  exact Nat.pow_lt_pow_right (by decide) (by omega)
theorem b_msk {a b : Nat} (h1 : a < b) (h2 : b < 25) {x : Nat} (hx : x < 24) : bt ((jI 1 <<< (jI (b : Nat) &&& 31)) - (jI 1 <<< (jI (a : Nat) &&& 31))) x = decide (a ≤ x ∧ x < b) := by
  rw [shl_1 h2, shl_1 (by omega), pk_sub (Nat.pow_le_pow_right (by decide) (by omega)), bt_n _ (by omega), tb_msk b h2 a h1 x hx]
/-- is a column covered -/
def cg1 (w : Wd) (t s x : Nat) (k : Nat) : Bool := isO w k t s && decide (aX w k ≤ x ∧ (x : Int) < aX w k + wdt w k)
def cv (w : Wd) (t s x : Nat) : Bool := (List.range 144).any (cg1 w t s x)
def fr (w : Wd) (t s x : Nat) : Bool := !cv w t s x
theorem isO_t {w : Wd} {k : Nat} {t s : Int} (h : isO w k t s = true) : aT w k = t ∧ aS w k = s := of_decide_eq_true h
theorem isO_c {w : Wd} (hW : WF w) {k t s : Nat} (hk : k < 144) (ht : t < 3) (h : isO w k t s = true) : isP w k = true ∧ isL w k = true ∧ 0 ≤ aX w k ∧ aX w k + wdt w k ≤ 24 ∧ (t : Int) < nT w ∧ (s : Int) < nS w t ∧ hgt w k ≤ tl w t s := by
  obtain ⟨h1, h2⟩ := isO_t h
  have hl : isL w k = true := bo_t (by omega)
  have := laid_c hW hk hl
  rw [h1, h2, Int.toNat_natCast, Int.toNat_natCast] at this
  exact ⟨bo_t (by omega), hl, this.2.2.2.2.2.2.1, this.2.2.2.2.2.2.2.1, this.2.1, this.2.2.2.2.1, this.2.2.2.2.2.2.2.2⟩
theorem any_take {l : List Nat} {p : Nat → Bool} {i x : Nat} (h : l[i]? = some x) : (l.take (i + 1)).any p = ((l.take i).any p || p x) := by
  rw [List.take_add_one, h, List.any_append]
  simp
section GAP
variable {σ : ST} {w : Wd} {l : List Nat} {t s : Nat} {Q : Int32 → ST → Prop}
theorem n_isFree {c : Int32} {x : Nat} (hx : x < 24) (h : Q (jI (bI (!bt c x))) σ) : wp_X1_isFree σ c (jI (x : Nat)) Q := by
  unfold wp_X1_isFree
  have e := b_sshr x (by omega) c (i := 0) (by decide)
  rw [Nat.add_zero, if_pos (by omega), jI_nI] at e
  refine ⟨fun q => ?_, fun q => ?_⟩
  · have := (and1 _).mp q
    rw [e] at this
    rw [this] at h
    exact h
  · have : bt c x = true := by
      cases h9 : bt c x
      · exact absurd ((and1 _).mpr (e.trans h9)) q
      · rfl
    rw [this] at h
    exact h
theorem any_lr (hR : RK σ w l) (hW : WF w) (ht : t < 3) (x : Nat) : l.any (cg1 w t s x) = cv w t s x := by
  rw [Bool.eq_iff_iff]
  unfold cv
  rw [List.any_eq_true, List.any_eq_true]
  constructor
  · rintro ⟨k, hk, h⟩
    exact ⟨k, List.mem_range.mpr ((hR.2.2.1.2.2.1 k).mp hk).1, h⟩
  · rintro ⟨k, hk, h⟩
    have hk := List.mem_range.mp hk
    have h2 := h
    unfold cg1 at h2
    rw [Bool.and_eq_true] at h2
    exact ⟨k, (hR.2.2.1.2.2.1 k).mpr ⟨hk, (isO_c hW hk ht h2.1).1⟩, h⟩
theorem n_coverOf (hR : RK σ w l) (hW : WF w) (ht : t < 3) (hs : s < 24) (h : ∀ c : Int32, (∀ x, x < 24 → bt c x = cv w t s x) → Q c σ) : wp_X4_coverOf σ (jI ((24 * t + s : Nat) : Int)) Q := by
  unfold wp_X4_coverOf
  refine lpV (wl := wl_X4_coverOf_4 _ _) (wb := fun LL => wb_X4_coverOf_4 _ LL _) (fun _ => rfl) σ l.length (fun i a => ∀ x, x < 24 → bt a x = (l.take i).any (cg1 w t s x)) (jI 0) (fun x hx => b_nul x (by omega)) (fun i a hi hJ LL hLL => ?_)
  by_cases hil : i < l.length
  · have hi1 := List.getElem?_eq_getElem hil
    obtain ⟨e1, e2, e3⟩ := hR.at hi1
    refine pres hR hi1 (alE e1 (alE (hR.slot e2) ?_))
    have h4 := slo_on hW e2 ht hs
    have h5 := slo_c hW e2
    refine qeq (by omega) (by omega) (by omega) (by omega) (fun c => ?_) (fun c => ?_)
    · have ho := h4.mp c
      obtain ⟨q1, q2, q3, q4, -⟩ := isO_c hW e2 ht ho
      obtain ⟨r4, r5⟩ := (hR.2.1 _ e2).2.1 q2
      have hw := wdt_b hW e2
      have z4 : zrg σ 4 (jI (l[i] : Nat)) = jI (((aX w l[i]).toNat : Nat) : Int) := (cg σ 4 _ e2).trans (r4.trans (jeq (by omega)))
      have z5 : zrg σ 5 (jI (l[i] : Nat)) = jI (((aX w l[i] + wdt w l[i]).toNat : Nat) : Int) := (cg σ 5 _ e2).trans (r5.trans (jeq (by omega)))
      refine alE z5 (alE z4 (al (alE (jI_add _ _) (hLL _ hil (fun x hx => ?_)))))
      rw [b_or, hJ x hx, any_take hi1, b_msk (by omega) (by omega) hx]
      congr 1
      unfold cg1
      rw [ho, Bool.true_and]
      exact decide_eq_decide.mpr (by omega)
    · refine alE (jI_add _ _) (hLL _ hil (fun x hx => ?_))
      rw [hJ x hx, any_take hi1]
      have ho : isO w l[i] t s = false := by
        cases h9 : isO w l[i] t s
        · rfl
        · exact absurd (h4.mpr h9) c
      unfold cg1
      rw [ho, Bool.false_and, Bool.or_false]
  · have e : i = l.length := by omega
    subst e
    refine pend hR (h a (fun x hx => ?_))
    rw [hJ x hx, List.take_length]
    exact any_lr hR hW ht x
end GAP
def CovM (μ μ' : ST) (t s : Nat) : Prop := (∀ q : Nat, q ≠ 2 → μ'.1 q = μ.1 q) ∧ μ'.2 = μ.2 ∧ (∀ x, x < 24 → μ'.1 2 x = jI (bI (cv (μ.1 0) t s x))) ∧ μ'.1 2 24 = jI 1
theorem m_cov1 {μ v : ST} {t s i : Nat} {K : ST → Prop} (hW : WF (μ.1 0)) (ht : t < 3) (hs : s < 24) (hil : i < 144) (hb2 : ∀ q : Nat, q ≠ 2 → v.1 q = μ.1 q) (hb3 : v.2 = μ.2) (g : Nat → Bool) (hb4 : ∀ x, x < 24 → v.1 2 x = jI (bI (g x))) (hb5 : v.1 2 24 = jI 1) (h : ∀ v' : ST, (∀ q : Nat, q ≠ 2 → v'.1 q = μ.1 q) → v'.2 = μ.2 → (∀ x, x < 24 → v'.1 2 x = jI (bI (g x || cg1 (μ.1 0) t s x i))) → v'.1 2 24 = jI 1 → K v') : ∃ nn, wl_X7_covers_41 K (jI (t : Nat)) (jI (s : Nat)) (jI (i : Nat)) nn v (jI 0) := by
  have h0 : v.1 0 = μ.1 0 := hb2 0 (by decide)
  have hw := wdt_b hW hil
  cases ho : isO (μ.1 0) i t s
  · refine ⟨1, ?_⟩
    show wb_X7_covers_41 K _ (jI (t : Nat)) (jI (s : Nat)) (jI (i : Nat)) v (jI 0)
    unfold wb_X7_covers_41
    refine m_widthOf hil ?_
    rw [h0]
    refine qf (jnle (by omega)) (m_isOn hil (by omega) (by omega) (by omega) (by omega) ?_)
    rw [h0, ho]
    refine qt rfl (h v hb2 hb3 (fun x hx => ?_) hb5)
    rw [hb4 x hx]
    unfold cg1
    rw [ho, Bool.false_and, Bool.or_false]
  · obtain ⟨q1, q2, q3, q4, -⟩ := isO_c hW hil ht ho
    refine lp_inv (α := ST × Int32) (L := fun n a => wl_X7_covers_41 K (jI (t : Nat)) (jI (s : Nat)) (jI (i : Nat)) n a.1 a.2) (B := fun LL a => wb_X7_covers_41 K (fun t y => LL (t, y)) (jI (t : Nat)) (jI (s : Nat)) (jI (i : Nat)) a.1 a.2) (fun n a => rfl) (fun j a => a.2 = jI (j : Nat) ∧ (∀ q : Nat, q ≠ 2 → a.1.1 q = μ.1 q) ∧ a.1.2 = μ.2 ∧ (∀ x, x < 24 → a.1.1 2 x = jI (bI (g x || decide (aX (μ.1 0) i ≤ x ∧ (x : Int) < aX (μ.1 0) i + j)))) ∧ a.1.1 2 24 = jI 1) (wdt (μ.1 0) i).toNat (fun j a hj ha LL2 hLL2 => ?_) (v, jI 0) ⟨rfl, hb2, hb3, fun x hx => ?_, hb5⟩
    · obtain ⟨z, y⟩ := a
      obtain ⟨hc1, hc2, hc3, hc4, hc5⟩ := ha
      dsimp only at hc1 hc2 hc3 hc4 hc5 ⊢
      subst hc1
      unfold wb_X7_covers_41
      have z0 : z.1 0 = μ.1 0 := hc2 0 (by decide)
      refine m_widthOf hil ?_
      rw [z0]
      refine qle (by omega) (by omega) (by omega) (by omega) (fun c => ?_) (fun c => ?_)
      · refine h z hc2 hc3 (fun x hx => ?_) hc5
        rw [hc4 x hx]
        unfold cg1
        rw [ho, Bool.true_and, show ((j : Nat) : Int) = wdt (μ.1 0) i by omega]
      · refine m_isOn hil (by omega) (by omega) (by omega) (by omega) ?_
        rw [z0, ho]
        refine qf (jne (a := 1) (b := 0) (by decide)) (m_of (f := 2) hil (by decide) ?_)
        rw [z0, gwj (μ.1 0)]
        have eX : gw (μ.1 0) (119 + 6 * i + 2) = aX (μ.1 0) i := rfl
        rw [eX]
        refine m_wr (aX (μ.1 0) i + j).toNat (by rw [jI_add]; exact jeq (by omega)) (by omega) (by decide) (alE (jI_add _ _) (hLL2 _ (by omega) ⟨rfl, fun q hq => (zrp_o hq).trans (hc2 q hq), hc3, fun x hx => ?_, ?_⟩))
        · dsimp only
          rw [zrp_at]
          by_cases hxe : x = (aX (μ.1 0) i + j).toNat
          · subst hxe
            rw [upd_at, bo_t (show aX (μ.1 0) i ≤ (((aX (μ.1 0) i + j).toNat : Nat) : Int) ∧ (((aX (μ.1 0) i + j).toNat : Nat) : Int) < aX (μ.1 0) i + ((j + 1 : Nat) : Int) by omega), Bool.or_true]
            rfl
          · rw [upd_o hxe, hc4 x hx]
            rw [show decide (aX (μ.1 0) i ≤ (x : Int) ∧ (x : Int) < aX (μ.1 0) i + ((j + 1 : Nat) : Int)) = decide (aX (μ.1 0) i ≤ (x : Int) ∧ (x : Int) < aX (μ.1 0) i + (j : Int)) from decide_eq_decide.mpr (by omega)]
        · dsimp only
          rw [zrp_at, upd_o (by omega)]
          exact hc5
    · dsimp only
      rw [hb4 x hx, bo_f (by omega), Bool.or_false]
theorem m_cov2 {μ u : ST} {t s : Nat} {K : ST → Prop} (hW : WF (μ.1 0)) (ht : t < 3) (hs : s < 24) (hb2 : ∀ q : Nat, q ≠ 2 → u.1 q = μ.1 q) (hb3 : u.2 = μ.2) (hb4 : ∀ x, x < 24 → u.1 2 x = jI 0) (hb5 : u.1 2 24 = jI 1) (h : ∀ μ', CovM μ μ' t s → K μ') : ∃ nn, wl_X7_covers_31 K (jI (t : Nat)) (jI (s : Nat)) nn u (jI 0) := by
  refine lp_inv (α := ST × Int32) (L := fun n a => wl_X7_covers_31 K (jI (t : Nat)) (jI (s : Nat)) n a.1 a.2) (B := fun LL a => wb_X7_covers_31 K (fun t y => LL (t, y)) (jI (t : Nat)) (jI (s : Nat)) a.1 a.2) (fun n a => rfl) (fun i a => a.2 = jI (i : Nat) ∧ (∀ q : Nat, q ≠ 2 → a.1.1 q = μ.1 q) ∧ a.1.2 = μ.2 ∧ (∀ x, x < 24 → a.1.1 2 x = jI (bI ((List.range i).any (cg1 (μ.1 0) t s x)))) ∧ a.1.1 2 24 = jI 1) 144 (fun i a hi ha LL hLL => ?_) (u, jI 0) ⟨rfl, hb2, hb3, fun x hx => hb4 x hx, hb5⟩
  obtain ⟨v, y⟩ := a
  obtain ⟨hc1, hc2, hc3, hc4, hc5⟩ := ha
  dsimp only at hc1 hc2 hc3 hc4 hc5 ⊢
  subst hc1
  unfold wb_X7_covers_31
  by_cases hil : i < 144
  · refine rnot hil (m_cov1 hW ht hs hil hc2 hc3 (fun x => (List.range i).any (cg1 (μ.1 0) t s x)) hc4 hc5 (fun v' g1 g2 g3 g4 => ?_))
    refine alE (jI_add _ _) (hLL _ hil ⟨rfl, g1, g2, fun x hx => ?_, g4⟩)
    rw [g3 x hx, List.range_succ, List.any_append]
    simp
  · have e : i = 144 := by omega
    subst e
    exact rend (h v ⟨hc2, hc3, hc4, hc5⟩)
theorem m_covers {μ : ST} {t s : Nat} {Q : ST → Prop} (hW : WF (μ.1 0)) (ht : t < 3) (hs : s < 24) (h : ∀ μ', CovM μ μ' t s → Q μ') : wp_X7_covers μ (jI (t : Nat)) (jI (s : Nat)) Q := by
  unfold wp_X7_covers
  have key : ∀ K : ST → Prop, (∀ u : ST, (∀ q : Nat, q ≠ 2 → u.1 q = μ.1 q) → u.2 = μ.2 → (∀ x, x < 24 → u.1 2 x = jI 0) → K u) → ∃ nn, wl_X7_covers_2 K (jI (t : Nat)) (jI (s : Nat)) nn μ (jI 0) := fun K hK => by
    refine lp_inv (α := ST × Int32) (L := fun n a => wl_X7_covers_2 K (jI (t : Nat)) (jI (s : Nat)) n a.1 a.2) (B := fun LL a => wb_X7_covers_2 K (fun t y => LL (t, y)) (jI (t : Nat)) (jI (s : Nat)) a.1 a.2) (fun n a => rfl) (fun i a => a.2 = jI (i : Nat) ∧ (∀ q : Nat, q ≠ 2 → a.1.1 q = μ.1 q) ∧ a.1.2 = μ.2 ∧ ∀ x, x < i → a.1.1 2 x = jI 0) 24 (fun i a hi ha LL hLL => ?_) (μ, jI 0) ⟨rfl, fun _ _ => rfl, rfl, fun x hx => absurd hx (Nat.not_lt_zero x)⟩
    obtain ⟨u, y⟩ := a
    obtain ⟨ha1, ha2, ha3, ha4⟩ := ha
    dsimp only at ha1 ha2 ha3 ha4 ⊢
    subst ha1
    unfold wb_X7_covers_2
    refine qle (by omega) (by omega) (by omega) (by omega) (fun c => ?_) (fun c => ?_)
    · have e : i = 24 := by omega
      subst e
      exact hK u ha2 ha3 ha4
    · refine m_wr i rfl (by omega) (by decide) (alE (jI_add _ _) (hLL _ (by omega) ⟨rfl, fun q hq => (zrp_o hq).trans (ha2 q hq), ha3, fun x hx => ?_⟩))
      dsimp only
      rw [zrp_at]
      by_cases hxi : x = i
      · subst hxi
        exact upd_at
      · rw [upd_o hxi]
        exact ha4 x (by omega)
  refine key _ (fun u ha2 ha3 ha4 => m_wr 24 rfl (by decide) (by decide) (m_cov2 hW ht hs (fun q hq => (zrp_o hq).trans (ha2 q hq)) ha3 (fun x hx => ?_) ?_ h))
  · rw [zrp_at, upd_o (by omega)]
    exact ha4 x hx
  · rw [zrp_at, upd_at]
theorem last_67 : True := trivial
