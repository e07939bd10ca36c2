/-! the reference's search for a place -/
def gpM (u : ST) : Option (Nat × Nat) → Prop
  | none => u.2 2 = jI (-1)
  | some (q, x) => u.2 2 = jI 1 ∧ u.2 3 = jI ((q / 24 : Nat) : Int) ∧ u.2 4 = jI ((q % 24 : Nat) : Int) ∧ u.2 5 = jI (x : Nat)
def KM (μ v : ST) : Prop := (∀ q : Nat, q ≠ 2 → v.1 q = μ.1 q) ∧ ∀ c : Nat, c < 2 ∨ 5 < c → v.2 c = μ.2 c
theorem KM.rf (μ : ST) : KM μ μ := ⟨fun _ _ => rfl, fun _ _ => rfl⟩
theorem KM.trans {a b c : ST} (h1 : KM a b) (h2 : KM b c) : KM a c := ⟨fun q hq => (h2.1 q hq).trans (h1.1 q hq), fun q hq => (h2.2 q hq).trans (h1.2 q hq)⟩
theorem zsp4 {v : ST} {a b c d : Int32} : (zsp (zsp (zsp (zsp v 2 a) 3 b) 4 c) 5 d).2 2 = a ∧ (zsp (zsp (zsp (zsp v 2 a) 3 b) 4 c) 5 d).2 3 = b ∧ (zsp (zsp (zsp (zsp v 2 a) 3 b) 4 c) 5 d).2 4 = c ∧ (zsp (zsp (zsp (zsp v 2 a) 3 b) 4 c) 5 d).2 5 = d ∧ ∀ e : Nat, e < 2 ∨ 5 < e → (zsp (zsp (zsp (zsp v 2 a) 3 b) 4 c) 5 d).2 e = v.2 e :=
  ⟨(zsp_nq (by decide)).trans ((zsp_nq (by decide)).trans ((zsp_nq (by decide)).trans zsp_at)), (zsp_nq (by decide)).trans ((zsp_nq (by decide)).trans zsp_at), (zsp_nq (by decide)).trans zsp_at, zsp_at, fun e he => (zsp_nq (by omega)).trans ((zsp_nq (by omega)).trans ((zsp_nq (by omega)).trans (zsp_nq (by omega))))⟩
section ML
variable {v : ST} {F : Nat → Bool} {k : Nat}
theorem m_gap57 {t s : Nat} {ov le : Int} {K : ST → Int32 → Prop} (hW : WF (v.1 0)) (hk : k < 144) (hC : CovF v F) (o1 : -100 ≤ ov) (o2 : ov ≤ 100) (l1 : -100 ≤ le) (l2 : le ≤ 100) (h0 : ¬ (0 ≤ ov ∧ ov < le) → K v (jI le)) (hN : IsF F (wdt (v.1 0) k).toNat none → K v (jI le)) (hS : ∀ x : Nat, 0 ≤ ov → ov < le → IsF F (wdt (v.1 0) k).toNat (some x) → ∀ v' : ST, v'.1 = v.1 → (∀ e : Nat, e < 2 ∨ 5 < e → v'.2 e = v.2 e) → v'.2 2 = jI 1 → v'.2 3 = jI (t : Nat) → v'.2 4 = jI (s : Nat) → v'.2 5 = jI (x : Nat) → K v' (jI ov)) : ∃ nn, wl_X7_looksAtGaps_57 K (jI (k : Nat)) (jI (t : Nat)) (jI (s : Nat)) (jI ov) nn v (jI le) (jI 0) := by
  have hw := wdt_b hW hk
  refine lp_inv (α := ST × Int32 × Int32) (L := fun n a => wl_X7_looksAtGaps_57 K (jI (k : Nat)) (jI (t : Nat)) (jI (s : Nat)) (jI ov) n a.1 a.2.1 a.2.2) (B := fun LL a => wb_X7_looksAtGaps_57 K (fun t y z => LL (t, y, z)) (jI (k : Nat)) (jI (t : Nat)) (jI (s : Nat)) (jI ov) a.1 a.2.1 a.2.2) (fun n a => rfl) (fun i a => a.2.2 = jI (i : Nat) ∧ ((a.1 = v ∧ a.2.1 = jI le ∧ ∀ x, x < i → ¬ FF F x (wdt (v.1 0) k).toNat) ∨ (a.2.1 = jI ov ∧ 0 ≤ ov ∧ ov < le ∧ K a.1 (jI ov)))) 24 (fun i a hi ha LL hLL => ?_) (v, jI le, jI 0) ⟨rfl, Or.inl ⟨rfl, rfl, fun x hx => absurd hx (Nat.not_lt_zero x)⟩⟩
  obtain ⟨u, y, z⟩ := a
  obtain ⟨ha1, ha2⟩ := ha
  dsimp only at ha1 ha2 ⊢
  subst ha1
  unfold wb_X7_looksAtGaps_57
  rcases ha2 with ⟨rfl, rfl, hno⟩ | ⟨rfl, p1, p2, hK⟩
  · refine qle (by decide) (by decide) (by omega) (by omega) (fun c => hN (fun a hf => ?_)) (fun c => ?_)
    · by_cases ha : a < i
      · exact hno a ha hf
      · have := hf.1
        omega
    refine qlt (by omega) (by omega) (by decide) (by decide) (fun d => h0 (by omega)) (fun d => ?_)
    refine qle (by omega) (by omega) (by omega) (by omega) (fun e => h0 (by omega)) (fun e => ?_)
    have hi2 : i < 24 := by omega
    have hel := eo_le (F := F) (x := i) (by omega)
    refine m_endOf hC hi2 (m_widthOf hk ?_)
    rw [jI_sub, show ((i + eo F i : Nat) : Int) - (i : Int) = ((eo F i : Nat) : Int) by omega]
    refine qlt (by omega) (by omega) (by omega) (by omega) (fun f => ?_) (fun f => ?_)
    · refine alE (jI_add _ _) (hLL _ hi2 ⟨rfl, Or.inl ⟨rfl, rfl, fun x hx hf => ?_⟩⟩)
      by_cases hxi : x < i
      · exact hno x hxi hf
      · have ex : x = i := by omega
        subst ex
        by_cases hc : x = 0 ∨ F (x - 1) = false
        · have e9 : eo F x = gl F x := if_pos hc
          have := FF_gl hf
          omega
        · have hx0 : x ≠ 0 := fun q => hc (Or.inl q)
          have h9 : F (x - 1) = true := by
            cases h9 : F (x - 1)
            · exact absurd (Or.inr h9) hc
            · rfl
          exact hno (x - 1) (by omega) (FF_le (FF_left hf hx0 h9) (by omega))
    · have hc : i = 0 ∨ F (i - 1) = false := by
        by_cases hc : i = 0 ∨ F (i - 1) = false
        · exact hc
        · have e9 : eo F i = 0 := if_neg hc
          omega
      have e9 : eo F i = gl F i := if_pos hc
      have hff : FF F i (wdt (u.1 0) k).toNat := FF_le (gl_FF (by omega)) (by omega)
      refine al (al (al (al ?_)))
      obtain ⟨z2, z3, z4, z5, z6⟩ := @zsp4 u (jI 1) (jI (t : Nat)) (jI (s : Nat)) (jI (i : Nat))
      exact alE (jI_add _ _) (hLL _ hi2 ⟨rfl, Or.inr ⟨rfl, d, e, hS i d e ⟨hff, hno⟩ _ rfl z6 z2 z3 z4 z5⟩⟩)
  · refine qle (by decide) (by decide) (by omega) (by omega) (fun c => hK) (fun c => ?_)
    refine qf (jnlt (by omega)) ?_
    exact qt (jle (by omega)) hK
theorem m_gap18 {μ : ST} {t : Nat} {K : ST → Int32 → Prop} (hW : WF (μ.1 0)) (hk : k < 144) (ht : (t : Int) < nT (μ.1 0)) (hv : KM μ v) (hg : gpM v (gpS (μ.1 0) k (24 * t)).2) (h : ∀ v' : ST, KM μ v' → gpM v' (gpS (μ.1 0) k (24 * (t + 1))).2 → K v' (jI (gpS (μ.1 0) k (24 * (t + 1))).1)) : ∃ nn, wl_X7_looksAtGaps_18 K (jI (k : Nat)) (jI (t : Nat)) nn v (jI (gpS (μ.1 0) k (24 * t)).1) (jI 0) := by
  have hb := hW.2.1 t ht
  have ht3 : t < 3 := by have := hW.1.2.1; omega
  have hh := hgt_b hW hk
  refine lp_inv (α := ST × Int32 × Int32) (L := fun n a => wl_X7_looksAtGaps_18 K (jI (k : Nat)) (jI (t : Nat)) n a.1 a.2.1 a.2.2) (B := fun LL a => wb_X7_looksAtGaps_18 K (fun t y z => LL (t, y, z)) (jI (k : Nat)) (jI (t : Nat)) a.1 a.2.1 a.2.2) (fun n a => rfl) (fun s a => KM μ a.1 ∧ gpM a.1 (gpS (μ.1 0) k (24 * t + s)).2 ∧ a.2.1 = jI (gpS (μ.1 0) k (24 * t + s)).1 ∧ a.2.2 = jI (s : Nat)) (nS (μ.1 0) t).toNat (fun s a hs ha LL hLL => ?_) (v, jI (gpS (μ.1 0) k (24 * t)).1, jI 0) ⟨hv, hg, by rw [Nat.add_zero], rfl⟩
  obtain ⟨u, y, z⟩ := a
  obtain ⟨hb1, hb2, hb3, hb4⟩ := ha
  dsimp only at hb1 hb2 hb3 hb4 ⊢
  subst hb3 hb4
  unfold wb_X7_looksAtGaps_18
  have u0 : u.1 0 = μ.1 0 := hb1.1 0 (by decide)
  refine m_rd (44 + t) (by rw [jI_add]; exact jeq (by omega)) (by omega) (by decide) ?_
  rw [u0, show μ.1 0 (44 + t) = jI (nS (μ.1 0) t) from gwj _ _]
  refine qle (by omega) (by omega) (by omega) (by omega) (fun d => ?_) (fun d => ?_)
  · have h9 := h u hb1
    rw [show 24 * (t + 1) = 24 * t + s + (24 - s) by omega, gpS_zs (24 * t + s) (24 - s) (fun i h1 h2 q => ?_)] at h9
    · exact h9 hb2
    · rw [show i = 24 * t + (i - 24 * t) by omega, exS_i (by omega)] at q
      have := q.2
      omega
  · have hs2 : s < 24 := by omega
    have eS : gpS (μ.1 0) k (24 * t + (s + 1)) = gpN (μ.1 0) k (24 * t + s) (gpS (μ.1 0) k (24 * t + s)) := rfl
    have hgb := (gpS_spec hW k (24 * t + s)).1
    have htl := (hsv_in hW ht d).2
    refine m_tall ht3 hs2 (m_heightOf hk (al ?_))
    rw [u0, jI_sub]
    refine m_covers (by rw [u0]; exact hW) ht3 hs2 (fun v2 hv2 => ?_)
    have v20 : v2.1 0 = μ.1 0 := (hv2.1 0 (by decide)).trans u0
    have hC := hv2.F
    rw [u0] at hC
    have hKM : KM μ v2 := ⟨fun q hq => (hv2.1 q hq).trans (hb1.1 q hq), fun c hc => by rw [hv2.2.1]; exact hb1.2 c hc⟩
    have hgM : gpM v2 (gpS (μ.1 0) k (24 * t + s)).2 := by
      have e2 := hv2.2.1
      cases hq : (gpS (μ.1 0) k (24 * t + s)).2 with
      | none =>
        rw [hq] at hb2
        show v2.2 2 = _
        rw [e2]
        exact hb2
      | some qx =>
        obtain ⟨q, x⟩ := qx
        rw [hq] at hb2
        show v2.2 2 = _ ∧ v2.2 3 = _ ∧ v2.2 4 = _ ∧ v2.2 5 = _
        rw [e2]
        exact hb2
    refine m_gap57 (by rw [v20]; exact hW) hk hC (by omega) (by omega) (by omega) (by omega) (fun hc => ?_) (fun hN => ?_) (fun x p1 p2 hF v' g1 g2 g3 g4 g5 g6 => ?_)
    · refine alE (jI_add _ _) (hLL _ (by omega) ⟨hKM, ?_, ?_, rfl⟩)
      · dsimp only
        rw [eS, gpN_out hs2 (fun q => hc ⟨by omega, q.2.2⟩)]
        exact hgM
      · dsimp only
        rw [eS, gpN_out hs2 (fun q => hc ⟨by omega, q.2.2⟩)]
    · rw [v20] at hN
      refine alE (jI_add _ _) (hLL _ (by omega) ⟨hKM, ?_, ?_, rfl⟩)
      · dsimp only
        rw [eS, gpN_none hs2 hN]
        exact hgM
      · dsimp only
        rw [eS, gpN_none hs2 hN]
    · rw [v20] at hF
      refine alE (jI_add _ _) (hLL _ (by omega) ⟨hKM.trans ⟨fun q _ => by rw [g1], g2⟩, ?_, ?_, rfl⟩)
      · dsimp only
        rw [eS, gpN_some hs2 ⟨⟨ht, d⟩, by omega, p2⟩ hF]
        show v'.2 2 = _ ∧ v'.2 3 = _ ∧ v'.2 4 = _ ∧ v'.2 5 = _
        rw [show (24 * t + s) / 24 = t by omega, show (24 * t + s) % 24 = s by omega]
        exact ⟨g3, g4, g5, g6⟩
      · dsimp only
        rw [eS, gpN_some hs2 ⟨⟨ht, d⟩, by omega, p2⟩ hF]
theorem m_gap5 {μ : ST} {Q : ST → Prop} (hW : WF (μ.1 0)) (hk : k < 144) (h2 : μ.2 2 = jI (-1)) (h : ∀ v' : ST, KM μ v' → gpM v' (gpS (μ.1 0) k 72).2 → Q v') : wp_X7_looksAtGaps μ (jI (k : Nat)) Q := by
  have hT1 := hW.1.1
  have hT2 := hW.1.2.1
  unfold wp_X7_looksAtGaps
  have key : ∀ K : ST → Prop, (∀ v' : ST, KM μ v' → gpM v' (gpS (μ.1 0) k 72).2 → K v') → ∃ nn, wl_X7_looksAtGaps_5 K (jI (k : Nat)) nn μ (jI 24) (jI 0) := fun K hK => by
    refine lp_inv (α := ST × Int32 × Int32) (L := fun n a => wl_X7_looksAtGaps_5 K (jI (k : Nat)) n a.1 a.2.1 a.2.2) (B := fun LL a => wb_X7_looksAtGaps_5 K (fun t y z => LL (t, y, z)) (jI (k : Nat)) a.1 a.2.1 a.2.2) (fun n a => rfl) (fun t a => KM μ a.1 ∧ gpM a.1 (gpS (μ.1 0) k (24 * t)).2 ∧ a.2.1 = jI (gpS (μ.1 0) k (24 * t)).1 ∧ a.2.2 = jI (t : Nat)) (nT (μ.1 0)).toNat (fun t a ht ha LL hLL => ?_) (μ, jI 24, jI 0) ⟨KM.rf μ, h2, rfl, rfl⟩
    obtain ⟨u, y, z⟩ := a
    obtain ⟨hb1, hb2, hb3, hb4⟩ := ha
    dsimp only at hb1 hb2 hb3 hb4 ⊢
    subst hb3 hb4
    unfold wb_X7_looksAtGaps_5
    have u0 : u.1 0 = μ.1 0 := hb1.1 0 (by decide)
    refine m_rd 0 rfl (by decide) (by decide) ?_
    rw [u0, show μ.1 0 0 = jI (nT (μ.1 0)) from gwj _ 0]
    refine qle (by omega) (by omega) (by omega) (by omega) (fun c => ?_) (fun c => ?_)
    · have h9 := hK u hb1
      rw [show (72 : Nat) = 24 * t + (72 - 24 * t) by omega, gpS_zs (24 * t) (72 - 24 * t) (fun i h1 h2 q => ?_)] at h9
      · exact h9 hb2
      · have := q.1
        omega
    · exact m_gap18 hW hk c hb1 hb2 (fun v' g1 g2 => alE (jI_add _ _) (hLL _ (by omega) ⟨g1, g2, rfl, rfl⟩))
  exact key _ h
end ML
theorem last_74 : True := trivial
