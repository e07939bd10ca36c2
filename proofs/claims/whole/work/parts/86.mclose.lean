/-! the reference closes shelves -/
def refI (w : Wd) (t sh : Nat) (u : Wd) : Prop := (∀ j : Nat, (j < 44 ∨ (119 ≤ j ∧ (j - 119) % 6 ≠ 1)) → u j = w j) ∧ (∀ a : Nat, a < 3 → (a < t → u (44 + a) = jI (rk w a (nS w a).toNat : Nat)) ∧ (t ≤ a → u (44 + a) = w (44 + a))) ∧ (∀ a s : Nat, a < 3 → s < 24 → (s : Int) < nS w a → kp w a s = true → (a < t ∨ (a = t ∧ s < sh)) → u (47 + 24 * a + rk w a s) = jI (tl w a s)) ∧ (∀ a s : Nat, a < 3 → s < 24 → (t < a ∨ (a = t ∧ sh ≤ s)) → u (47 + 24 * a + s) = w (47 + 24 * a + s)) ∧ ∀ k : Nat, k < 144 → u (119 + 6 * k + 1) = if isL w k = true ∧ (aT w k < t ∨ (aT w k = t ∧ aS w k < sh)) then jI ((rk w (aT w k).toNat (aS w k).toNat : Nat) : Int) else w (119 + 6 * k + 1)
theorem refI_0 (w : Wd) (hW : WF w) : refI w 0 0 w := by
  refine ⟨fun _ _ => rfl, fun a ha => ⟨fun q => absurd q (Nat.not_lt_zero a), fun _ => rfl⟩, fun a s _ _ _ _ q => by omega, fun _ _ _ _ _ => rfl, fun k hk => ?_⟩
  rw [if_neg]
  rintro ⟨q1, q2⟩
  obtain ⟨a1, a2, a3, a4, -⟩ := laid_c hW hk q1
  omega
section MCL
variable {w : Wd} {t : Nat}
theorem refI.aT9 {sh : Nat} {u : Wd} (h : refI w t sh u) (k : Nat) : aT u k = aT w k := congrArg Int32.toInt (h.1 _ (by omega))
theorem refI.on {sh : Nat} {u : Wd} (h : refI w t sh u) (hW : WF w) (ht : t < 3) (hs : sh < 24) {k : Nat} (hk : k < 144) : isO u k t sh = isO w k t sh := by
  unfold isO
  rw [h.aT9 k]
  have h5 := h.2.2.2.2 k hk
  by_cases hc : isL w k = true ∧ (aT w k < t ∨ (aT w k = t ∧ aS w k < sh))
  · rw [if_pos hc] at h5
    obtain ⟨a1, a2, a3, a4, a5, a6, -⟩ := laid_c hW hk hc.1
    have hr := rk_le (w := w) (t := (aT w k).toNat) (aS w k).toNat
    have e : aS u k = ((rk w (aT w k).toNat (aS w k).toNat : Nat) : Int) := gw_jI h5 (by omega) (by omega)
    rw [e]
    exact decide_eq_decide.mpr (by omega)
  · rw [if_neg hc] at h5
    have e : aS u k = aS w k := congrArg Int32.toInt h5
    rw [e]
theorem kp_cnt {sh : Nat} : sA (fun k => bI (isO w k t sh)) = ((List.range 144).countP (fun k => isO w k t sh) : Nat) := sm_count _ _
theorem kp_f {sh : Nat} : kp w t sh = false ↔ sA (fun k => bI (isO w k t sh)) ≤ 0 := by
  rw [kp_cnt]
  unfold kp
  rw [List.any_eq_false]
  constructor
  · intro h
    have : (List.range 144).countP (fun k => isO w k t sh) = 0 := List.countP_eq_zero.mpr h
    omega
  · intro h
    exact List.countP_eq_zero.mp (by omega)
theorem kp_b {sh : Nat} : 0 ≤ sA (fun k => bI (isO w k t sh)) ∧ sA (fun k => bI (isO w k t sh)) ≤ 144 := by
  rw [kp_cnt]
  have := List.countP_le_length (p := fun k => isO w k t sh) (l := List.range 144)
  rw [List.length_range] at this
  omega
/-- the letters of one shelf get its new number -/
theorem m_ren {u : ST} {sh to : Nat} {K : ST → Prop} {f1 f5 : Int32} (ht : t < 3) (hs : sh < 24) (hto : to ≤ sh) (h : ∀ u' : ST, (∀ q : Nat, q ≠ 0 → u'.1 q = u.1 q) → u'.2 = u.2 → (∀ j : Nat, (j < 119 ∨ (j - 119) % 6 ≠ 1) → u'.1 0 j = u.1 0 j) → (∀ k : Nat, k < 144 → u'.1 0 (119 + 6 * k + 1) = if isO (u.1 0) k t sh = true then jI (to : Nat) else u.1 0 (119 + 6 * k + 1)) → K u') : ∃ nn, wl_X7_closes_53 K f1 (jI (t : Nat)) (jI (to : Nat)) (jI (sh : Nat)) f5 nn u (jI 0) := by
  refine lp_inv (α := ST × Int32) (L := fun n a => wl_X7_closes_53 K f1 (jI (t : Nat)) (jI (to : Nat)) (jI (sh : Nat)) f5 n a.1 a.2) (B := fun LL a => wb_X7_closes_53 K (fun t y => LL (t, y)) f1 (jI (t : Nat)) (jI (to : Nat)) (jI (sh : Nat)) f5 a.1 a.2) (fun n a => rfl) (fun i a => a.2 = jI (i : Nat) ∧ (∀ q : Nat, q ≠ 0 → a.1.1 q = u.1 q) ∧ a.1.2 = u.2 ∧ (∀ j : Nat, (j < 119 ∨ (j - 119) % 6 ≠ 1) → a.1.1 0 j = u.1 0 j) ∧ ∀ k : Nat, k < 144 → a.1.1 0 (119 + 6 * k + 1) = if isO (u.1 0) k t sh = true ∧ k < i then jI (to : Nat) else u.1 0 (119 + 6 * k + 1)) 144 (fun i a hi ha LL hLL => ?_) (u, jI 0) ⟨rfl, fun _ _ => rfl, rfl, fun _ _ => rfl, fun k hk => by rw [if_neg (fun q => absurd q.2 (Nat.not_lt_zero k))]⟩
  obtain ⟨v, y⟩ := a
  obtain ⟨ha1, ha2, ha3, ha4, ha5⟩ := ha
  dsimp only at ha1 ha2 ha3 ha4 ha5 ⊢
  subst ha1
  unfold wb_X7_closes_53
  by_cases hil : i < 144
  · have ei : v.1 0 (119 + 6 * i + 1) = u.1 0 (119 + 6 * i + 1) := by rw [ha5 i hil, if_neg (fun q => absurd q.2 (Nat.lt_irrefl i))]
    have eO : isO (v.1 0) i t sh = isO (u.1 0) i t sh := by
      unfold isO aT aS gw
      rw [ei, ha4 (119 + 6 * i) (by omega)]
    have hnx : ∀ v' : ST, (∀ q : Nat, q ≠ 0 → v'.1 q = v.1 q) → v'.2 = v.2 → (∀ j : Nat, j ≠ 119 + 6 * i + 1 → v'.1 0 j = v.1 0 j) → (v'.1 0 (119 + 6 * i + 1) = if isO (u.1 0) i t sh = true then jI (to : Nat) else u.1 0 (119 + 6 * i + 1)) → ∀ x1 : Int32, x1 = jI (i : Nat) + jI 1 → LL (v', x1) := fun v' g1 g2 g3 g4 => by
      refine alE (jI_add _ _) (hLL _ hil ⟨rfl, fun q hq => (g1 q hq).trans (ha2 q hq), g2.trans ha3, fun j hj => (g3 j (by omega)).trans (ha4 j hj), fun k hk => ?_⟩)
      by_cases hki : k = i
      · subst hki
        dsimp only
        rw [g4]
        cases ho : isO (u.1 0) k t sh
        · rw [if_neg (by decide), if_neg (fun q => by cases q.1)]
        · rw [if_pos rfl, if_pos ⟨rfl, by omega⟩]
      · dsimp only
        rw [g3 _ (by omega), ha5 k hk]
        by_cases hc : isO (u.1 0) k t sh = true ∧ k < i
        · rw [if_pos hc, if_pos ⟨hc.1, by omega⟩]
        · rw [if_neg hc, if_neg (fun q => hc ⟨q.1, by omega⟩)]
    refine rnot hil (m_isOn hil (by omega) (by omega) (by omega) (by omega) ?_)
    rw [eO]
    refine qb (fun p => ?_) (fun p => ?_)
    · refine m_of (f := 1) hil (by decide) (m_wr (119 + 6 * i + 1) (atc hil 1 rfl) (by omega) (by decide) (hnx _ (fun q hq => zrp_o hq) rfl (fun j hj => by rw [zrp0, upd_o hj]) ?_))
      rw [zrp0, upd_at, p, if_neg (by decide), ei]
    · refine m_wr (119 + 6 * i + 1) (atc hil 1 rfl) (by omega) (by decide) (hnx _ (fun q hq => zrp_o hq) rfl (fun j hj => by rw [zrp0, upd_o hj]) ?_)
      rw [zrp0, upd_at, p, if_pos rfl]
  · have e : i = 144 := by omega
    subst e
    refine rend (h v ha2 ha3 ha4 (fun k hk => ?_))
    rw [ha5 k hk]
    by_cases hc : isO (u.1 0) k t sh = true
    · rw [if_pos ⟨hc, hk⟩, if_pos hc]
    · rw [if_neg (fun q => hc q.1), if_neg hc]
/-- one shelf on -/
theorem refI_step {sh : Nat} {u u' : Wd} (hW : WF w) (ht : (t : Int) < nT w) (hs : (sh : Int) < nS w t) (h : refI w t sh u) (h1 : ∀ j : Nat, (j < 119 ∨ (j - 119) % 6 ≠ 1) → j ≠ 47 + 24 * t + rk w t sh → u' j = u j) (h2 : u' (47 + 24 * t + rk w t sh) = jI (tl w t sh)) (h3 : ∀ k : Nat, k < 144 → u' (119 + 6 * k + 1) = if isO w k t sh = true then jI (rk w t sh : Nat) else u (119 + 6 * k + 1)) : refI w t (sh + 1) u' := by
  obtain ⟨r1, r2, r3, r4, r5⟩ := h
  have hb := hW.2.1 t ht
  have ht3 : t < 3 := by have := hW.1.2.1; omega
  have hrs := rk_le (w := w) (t := t) sh
  refine ⟨fun j hj => ?_, fun a ha => ?_, fun a s ha hs9 hsn hk hc => ?_, fun a s ha hs9 hc => ?_, fun k hk => ?_⟩
  · rw [h1 j (by omega) (by omega)]
    exact r1 j hj
  · rw [h1 (44 + a) (by omega) (by omega)]
    exact r2 a ha
  · have hra := rk_le (w := w) (t := a) s
    by_cases he : a = t ∧ s = sh
    · rw [he.1, he.2]
      exact h2
    · rw [h1 _ (by omega) ?_]
      · exact r3 a s ha hs9 hsn hk (by omega)
      · by_cases hat : a = t
        · subst hat
          have := rk_lt hk (b := sh) (by omega)
          omega
        · omega
  · rw [h1 _ (by omega) (by omega)]
    exact r4 a s ha hs9 (by omega)
  · rw [h3 k hk, r5 k hk]
    cases ho : isO w k t sh
    · rw [if_neg (by decide)]
      have hne : isL w k = true → ¬ (aT w k = t ∧ aS w k = sh) := fun _ q => by
        have : isO w k t sh = true := bo_t q
        rw [ho] at this
        cases this
      by_cases hc : isL w k = true ∧ (aT w k < t ∨ (aT w k = t ∧ aS w k < sh))
      · rw [if_pos hc, if_pos ⟨hc.1, by have := hc.2; omega⟩]
      · rw [if_neg hc, if_neg (fun q => hc ⟨q.1, by have := hne q.1; have := q.2; omega⟩)]
    · obtain ⟨o1, o2⟩ := isO_t ho
      rw [if_pos rfl, if_pos ⟨(isO_c hW hk ht3 ho).2.1, by omega⟩, o1, o2, Int.toNat_natCast, Int.toNat_natCast]
theorem m_cl19 {μ : ST} {u0 : ST} {K : ST → Int32 → Int32 → Prop} (hW : WF (μ.1 0)) (ht : (t : Int) < nT (μ.1 0)) (h0 : (∀ q : Nat, q ≠ 0 → u0.1 q = μ.1 q) ∧ u0.2 = μ.2) (hI : refI (μ.1 0) t 0 (u0.1 0)) (h : ∀ u' : ST, (∀ q : Nat, q ≠ 0 → u'.1 q = μ.1 q) → u'.2 = μ.2 → refI (μ.1 0) t (nS (μ.1 0) t).toNat (u'.1 0) → K u' (jI (((List.range (24 * (t + 1))).countP (exB (μ.1 0)) : Nat) : Int)) (jI (rk (μ.1 0) t (nS (μ.1 0) t).toNat : Nat))) : ∃ nn, wl_X7_closes_19 K (jI (t : Nat)) nn u0 (jI (((List.range (24 * t)).countP (exB (μ.1 0)) : Nat) : Int)) (jI 0) (jI 0) := by
  have hb := hW.2.1 t ht
  have ht3 : t < 3 := by have := hW.1.2.1; omega
  refine lp_inv (α := ST × Int32 × Int32 × Int32) (L := fun n a => wl_X7_closes_19 K (jI (t : Nat)) n a.1 a.2.1 a.2.2.1 a.2.2.2) (B := fun LL a => wb_X7_closes_19 K (fun t x y z => LL (t, x, y, z)) (jI (t : Nat)) a.1 a.2.1 a.2.2.1 a.2.2.2) (fun n a => rfl) (fun sh a => (∀ q : Nat, q ≠ 0 → a.1.1 q = μ.1 q) ∧ a.1.2 = μ.2 ∧ refI (μ.1 0) t sh (a.1.1 0) ∧ a.2.1 = jI (((List.range (24 * t + sh)).countP (exB (μ.1 0)) : Nat) : Int) ∧ a.2.2.1 = jI (rk (μ.1 0) t sh : Nat) ∧ a.2.2.2 = jI (sh : Nat)) (nS (μ.1 0) t).toNat (fun sh a hi ha LL hLL => ?_) (u0, jI (((List.range (24 * t)).countP (exB (μ.1 0)) : Nat) : Int), jI 0, jI 0) ⟨h0.1, h0.2, hI, rfl, rfl, rfl⟩
  obtain ⟨u, y, z, x⟩ := a
  obtain ⟨ha1, ha2, ha3, ha4, ha5, ha6⟩ := ha
  dsimp only at ha1 ha2 ha3 ha4 ha5 ha6 ⊢
  subst ha4 ha5 ha6
  unfold wb_X7_closes_19
  have e44 : u.1 0 (44 + t) = jI (nS (μ.1 0) t) := ((ha3.2.1 t ht3).2 (Nat.le_refl t)).trans (gwj _ _)
  have hcl : (List.range (24 * t + sh)).countP (exB (μ.1 0)) ≤ 24 * t + sh := Nat.le_trans List.countP_le_length (by rw [List.length_range]; exact Nat.le_refl _)
  have hrs := rk_le (w := μ.1 0) (t := t) sh
  refine m_rd (44 + t) (by rw [jI_add]; exact jeq (by omega)) (by omega) (by decide) ?_
  rw [e44]
  refine qle (by omega) (by omega) (by omega) (by omega) (fun c => ?_) (fun c => ?_)
  · have e : sh = (nS (μ.1 0) t).toNat := by omega
    subst e
    have e9 : (List.range (24 * (t + 1))).countP (exB (μ.1 0)) = (List.range (24 * t + (nS (μ.1 0) t).toNat)).countP (exB (μ.1 0)) := by
      have hz : ∀ d : Nat, d ≤ 24 - (nS (μ.1 0) t).toNat → (List.range (24 * t + (nS (μ.1 0) t).toNat + d)).countP (exB (μ.1 0)) = (List.range (24 * t + (nS (μ.1 0) t).toNat)).countP (exB (μ.1 0)) := by
        intro d
        induction d with
        | zero => intro _; rfl
        | succ d ih =>
          intro hd
          rw [show 24 * t + (nS (μ.1 0) t).toNat + (d + 1) = 24 * t + ((nS (μ.1 0) t).toNat + d) + 1 by omega, cnt_s, exB_i (by omega), bo_f (fun q => by have := q.2; omega), Bool.false_and, if_neg (by decide), ← ih (by omega), Nat.add_zero, ← Nat.add_assoc]
      have := hz (24 - (nS (μ.1 0) t).toNat) (Nat.le_refl _)
      rw [show 24 * t + (nS (μ.1 0) t).toNat + (24 - (nS (μ.1 0) t).toNat) = 24 * (t + 1) by omega] at this
      exact this
    rw [← e9]
    exact h u ha1 ha2 ha3
  · have hs2 : sh < 24 := by omega
    have hsO : sA (fun k => bI (isO (u.1 0) k t sh)) = sA (fun k => bI (isO (μ.1 0) k t sh)) := sm_congr _ _ _ (fun k hk => by rw [ha3.on hW ht3 hs2 (List.mem_range.mp hk)])
    have hkb := kp_b (w := μ.1 0) (t := t) (sh := sh)
    refine m_lettersOn ht3 hs2 ?_
    rw [hsO]
    have hcx : (List.range (24 * t + (sh + 1))).countP (exB (μ.1 0)) = (List.range (24 * t + sh)).countP (exB (μ.1 0)) + if kp (μ.1 0) t sh = true then 0 else 1 := by
      rw [show 24 * t + (sh + 1) = 24 * t + sh + 1 by omega, cnt_s, exB_i hs2, bo_t (show (t : Int) < nT (μ.1 0) ∧ (sh : Int) < nS (μ.1 0) t from ⟨ht, c⟩), Bool.true_and]
      cases kp (μ.1 0) t sh <;> simp
    have hgo : ∀ (d1 d2 : Nat), rk (μ.1 0) t (sh + 1) = rk (μ.1 0) t sh + d1 → (List.range (24 * t + (sh + 1))).countP (exB (μ.1 0)) = (List.range (24 * t + sh)).countP (exB (μ.1 0)) + d2 → ∀ u1 : ST, (∀ q : Nat, q ≠ 0 → u1.1 q = u.1 q) → u1.2 = u.2 → (∀ j : Nat, (j < 119 ∨ (j - 119) % 6 ≠ 1) → u1.1 0 j = u.1 0 j) → (∀ k : Nat, k < 144 → u1.1 0 (119 + 6 * k + 1) = if isO (u.1 0) k t sh = true then jI (rk (μ.1 0) t sh : Nat) else u.1 0 (119 + 6 * k + 1)) → wp_X7_tall u1 (jI (t : Nat)) (jI (sh : Nat)) (fun r4 s6 => (vp_in (((jI 47) + ((jI 24) * (jI (t : Nat)))) + (jI (rk (μ.1 0) t sh : Nat))) 983 ∧ ∀ s7 : ST, s7 = zrp s6 0 (((jI 47) + ((jI 24) * (jI (t : Nat)))) + (jI (rk (μ.1 0) t sh : Nat))).toNatClampNeg r4 → (∀ x3 : Int32, x3 = ((jI (rk (μ.1 0) t sh : Nat)) + (jI (d1 : Nat))) → (∀ x4 : Int32, x4 = ((jI (((List.range (24 * t + sh)).countP (exB (μ.1 0)) : Nat) : Int)) + (jI (d2 : Nat))) → (∀ x5 : Int32, x5 = (jI (sh : Nat)) + (jI 1) → LL (s7, x4, x3, x5)))))) := by
      intro d1 d2 hd1 hd2 u1 q1 q2 q3 q4
      refine m_tall ht3 hs2 ?_
      have etl : tl (u1.1 0) t sh = tl (μ.1 0) t sh := by
        unfold tl gw
        rw [q3 (47 + 24 * t + sh) (by omega), ha3.2.2.2.1 t sh ht3 hs2 (Or.inr ⟨rfl, Nat.le_refl _⟩)]
      rw [etl]
      refine m_wr (47 + 24 * t + rk (μ.1 0) t sh) (by rw [jI_mul, jI_add, jI_add]; exact jeq (by omega)) (by omega) (by decide) (alE (jI_add _ _) (alE (jI_add _ _) (alE (jI_add _ _) (hLL _ (by omega) ⟨fun q hq => (zrp_o hq).trans ((q1 q hq).trans (ha1 q hq)), q2.trans ha2, ?_, ?_, ?_, rfl⟩))))
      · refine refI_step hW ht c ha3 (fun j h1 h2 => ?_) ?_ (fun k hk => ?_)
        · dsimp only
          rw [zrp0, upd_o h2]
          exact q3 j h1
        · dsimp only
          rw [zrp0, upd_at]
        · dsimp only
          rw [zrp0, upd_o (by omega), q4 k hk, ha3.on hW ht3 hs2 hk]
      · dsimp only
        rw [hd2]
        exact jeq (by omega)
      · dsimp only
        rw [hd1]
        exact jeq (by omega)
    refine qle (by omega) (by omega) (by decide) (by decide) (fun d => ?_) (fun d => ?_)
    · have hkf := kp_f.mpr d
      refine m_ren ht3 hs2 hrs (hgo 0 1 (rk_f hkf) ?_)
      rw [hcx, hkf, if_neg (by decide)]
    · have hkt : kp (μ.1 0) t sh = true := by
        cases hk : kp (μ.1 0) t sh
        · have := kp_f.mp hk
          omega
        · rfl
      refine m_ren ht3 hs2 hrs (hgo 1 0 (rk_t hkt) ?_)
      rw [hcx, hkt, if_pos rfl]
theorem refI_next {u : Wd} (hW : WF w) (ht : t < 3) (h : refI w t (nS w t).toNat u) : refI w (t + 1) 0 (upd u (44 + t) (jI (rk w t (nS w t).toNat : Nat))) := by
  obtain ⟨r1, r2, r3, r4, r5⟩ := h
  refine ⟨fun j hj => ?_, fun a ha => ⟨fun hat => ?_, fun hat => ?_⟩, fun a s ha hs9 hsn hk hc => ?_, fun a s ha hs9 hc => ?_, fun k hk => ?_⟩
  · rw [upd_o (by omega)]
    exact r1 j hj
  · by_cases e : a = t
    · subst e
      exact upd_at
    · rw [upd_o (by omega)]
      exact (r2 a ha).1 (by omega)
  · rw [upd_o (by omega)]
    exact (r2 a ha).2 (by omega)
  · rw [upd_o (by omega)]
    refine r3 a s ha hs9 hsn hk ?_
    by_cases hat : a = t
    · subst hat
      omega
    · omega
  · rw [upd_o (by omega)]
    exact r4 a s ha hs9 (by omega)
  · rw [upd_o (by omega), r5 k hk]
    by_cases hc : isL w k = true ∧ (aT w k < t ∨ (aT w k = t ∧ aS w k < ((nS w t).toNat : Nat)))
    · rw [if_pos hc, if_pos ⟨hc.1, by have := hc.2; omega⟩]
    · rw [if_neg hc, if_neg]
      rintro ⟨q1, q2⟩
      obtain ⟨a1, a2, a3, a4, a5, -⟩ := laid_c hW hk q1
      refine hc ⟨q1, ?_⟩
      by_cases e : aT w k = t
      · rw [e, Int.toNat_natCast] at a5
        exact Or.inr ⟨e, by omega⟩
      · exact Or.inl (by omega)
theorem refI_end {u : Wd} (hW : WF w) (h : refI w (nT w).toNat 0 u) : ClW w u := by
  obtain ⟨r1, r2, r3, r4, r5⟩ := h
  have hT1 := hW.1.1
  have hT2 := hW.1.2.1
  refine ⟨r1, fun t ht => ?_, fun t s ht hs hk => ?_, fun k hk => ?_⟩
  · have hb := hW.2.1 t ht
    have hr := rk_le (w := w) (t := t) (nS w t).toNat
    exact gw_jI ((r2 t (by omega)).1 (by omega)) (by omega) (by omega)
  · have hb := hW.2.1 t ht
    have h2 := (hsv_in hW ht hs).2
    exact gw_jI (r3 t s (by omega) (by omega) hs hk (by omega)) (by omega) (by omega)
  · have h5 := r5 k hk
    cases hl : isL w k
    · rw [hl, if_neg (fun q => by cases q.1)] at h5
      rw [if_neg (by decide)]
      exact congrArg Int32.toInt h5
    · obtain ⟨a1, a2, a3, a4, a5, a6, -⟩ := laid_c hW hk hl
      have hr := rk_le (w := w) (t := (aT w k).toNat) (aS w k).toNat
      rw [if_pos ⟨hl, by omega⟩] at h5
      rw [if_pos rfl]
      exact gw_jI h5 (by omega) (by omega)
end MCL
theorem m_closes {μ : ST} {Q : Int32 → ST → Prop} (hW : WF (μ.1 0)) (h : ∀ μ' : ST, (∀ q : Nat, q ≠ 0 → μ'.1 q = μ.1 q) → μ'.2 = μ.2 → ClW (μ.1 0) (μ'.1 0) → Q (jI (((List.range 72).countP (exB (μ.1 0)) : Nat) : Int)) μ') : wp_X7_closes μ Q := by
  have hT1 := hW.1.1
  have hT2 := hW.1.2.1
  unfold wp_X7_closes
  have key : ∀ K : ST → Int32 → Prop, (∀ μ' : ST, (∀ q : Nat, q ≠ 0 → μ'.1 q = μ.1 q) → μ'.2 = μ.2 → ClW (μ.1 0) (μ'.1 0) → K μ' (jI (((List.range 72).countP (exB (μ.1 0)) : Nat) : Int))) → ∃ nn, wl_X7_closes_4 K nn μ (jI 0) (jI 0) := fun K hK => by
    refine lp_inv (α := ST × Int32 × Int32) (L := fun n a => wl_X7_closes_4 K n a.1 a.2.1 a.2.2) (B := fun LL a => wb_X7_closes_4 K (fun t y z => LL (t, y, z)) a.1 a.2.1 a.2.2) (fun n a => rfl) (fun t a => (∀ q : Nat, q ≠ 0 → a.1.1 q = μ.1 q) ∧ a.1.2 = μ.2 ∧ refI (μ.1 0) t 0 (a.1.1 0) ∧ a.2.1 = jI (((List.range (24 * t)).countP (exB (μ.1 0)) : Nat) : Int) ∧ a.2.2 = jI (t : Nat)) (nT (μ.1 0)).toNat (fun t a ht ha LL hLL => ?_) (μ, jI 0, jI 0) ⟨fun _ _ => rfl, rfl, refI_0 _ hW, rfl, rfl⟩
    obtain ⟨u, y, z⟩ := a
    obtain ⟨ha1, ha2, ha3, ha4, ha5⟩ := ha
    dsimp only at ha1 ha2 ha3 ha4 ha5 ⊢
    subst ha4 ha5
    unfold wb_X7_closes_4
    refine m_rd 0 rfl (by decide) (by decide) ?_
    rw [ha3.1 0 (by decide), show μ.1 0 0 = jI (nT (μ.1 0)) from gwj _ 0]
    refine qle (by omega) (by omega) (by omega) (by omega) (fun c => ?_) (fun c => ?_)
    · have e : t = (nT (μ.1 0)).toNat := by omega
      rw [e] at ha3
      have e9 : (List.range 72).countP (exB (μ.1 0)) = (List.range (24 * t)).countP (exB (μ.1 0)) := by
        have hz : ∀ d : Nat, (List.range (24 * t + d)).countP (exB (μ.1 0)) = (List.range (24 * t)).countP (exB (μ.1 0)) := by
          intro d
          induction d with
          | zero => rfl
          | succ d ih =>
            rw [show 24 * t + (d + 1) = 24 * t + d + 1 by omega, cnt_s, ih]
            have ex : exB (μ.1 0) (24 * t + d) = false := by
              unfold exB
              rw [bo_f (fun q => by have := q.1; omega)]
              rfl
            rw [ex, if_neg (by decide), Nat.add_zero]
        have := hz (72 - 24 * t)
        rw [show 24 * t + (72 - 24 * t) = 72 by omega] at this
        exact this
      rw [← e9]
      exact hK u ha1 ha2 (refI_end hW ha3)
    · have ht3 : t < 3 := by omega
      refine m_cl19 hW c ⟨ha1, ha2⟩ ha3 (fun u' g1 g2 g3 => ?_)
      refine m_wr (44 + t) (by rw [jI_add]; exact jeq (by omega)) (by omega) (by decide) (alE (jI_add _ _) (hLL _ (by omega) ⟨fun q hq => (zrp_o hq).trans (g1 q hq), g2, ?_, rfl, rfl⟩))
      dsimp only
      rw [zrp0]
      exact refI_next hW ht3 g3
  exact key _ h
theorem last_86 : True := trivial
