/-! digest: the reference, and the case -/
section MDG
variable {μ : ST} {Q : Int64 → ST → Prop}
theorem m_shelves9 {K : ST → Int64 → Prop} {h0 : Int64} {t : Nat} {u : ST} (hW : WF (μ.1 0)) (ht : (t : Int) < nT (μ.1 0)) (hu1 : ∀ q : Nat, q ≠ 2 → u.1 q = μ.1 q) (hu2 : u.2 = μ.2) (h : ∀ v : ST, (∀ q : Nat, q ≠ 2 → v.1 q = μ.1 q) → v.2 = μ.2 → K v (hs h0 (f7 (μ.1 0) t) (7 * (nS (μ.1 0) t).toNat))) : ∃ nn, wl_X7_digest_154 K (jI (t : Nat)) nn u h0 (jI 0) := by
  have hb := hW.2.1 t ht
  have ht3 : t < 3 := by have := hW.1.2.1; omega
  refine lp_inv (α := ST × Int64 × Int32) (L := fun n a => wl_X7_digest_154 K (jI (t : Nat)) n a.1 a.2.1 a.2.2) (B := fun LL a => wb_X7_digest_154 K (fun t y z => LL (t, y, z)) (jI (t : Nat)) a.1 a.2.1 a.2.2) (fun n a => rfl) (fun i a => (∀ q : Nat, q ≠ 2 → a.1.1 q = μ.1 q) ∧ a.1.2 = μ.2 ∧ a.2.1 = hs h0 (f7 (μ.1 0) t) i ∧ a.2.2 = jI (i : Nat)) (7 * (nS (μ.1 0) t).toNat) (fun i a hi ha LL hLL => ?_) (u, h0, jI 0) ⟨hu1, hu2, rfl, rfl⟩
  obtain ⟨v, y, z⟩ := a
  obtain ⟨ha1, ha2, ha3, ha4⟩ := ha
  dsimp only at ha1 ha2 ha3 ha4 ⊢
  subst ha3 ha4
  have v0 : v.1 0 = μ.1 0 := ha1 0 (by decide)
  unfold wb_X7_digest_154
  refine m_rd (44 + t) (by rw [jI_add]; exact jeq (by omega)) (by omega) (by decide) ?_
  rw [v0, show μ.1 0 (44 + t) = jI (nS (μ.1 0) t) from gwj _ _, jI_mul]
  refine qle (by omega) (by omega) (by omega) (by omega) (fun c => ?_) (fun c => ?_)
  · have h9 := h v ha1 ha2
    rw [show 7 * (nS (μ.1 0) t).toNat = i by omega] at h9
    exact h9
  · rw [show jI (i : Int) / jI 7 = jI ((i / 7 : Nat) : Int) from jd (d := 7) (by omega) (by decide) (by decide)]
    rw [jI_mul, jI_sub, show (i : Int) - ((i / 7 : Nat) : Int) * 7 = ((i % 7 : Nat) : Int) by omega]
    refine m_shelfBy (by rw [v0]; exact hW) (by rw [v0]; exact ht) (by rw [v0]; omega) (by omega) (fun x v' g1 g2 g3 => ?_)
    rw [v0] at g3
    refine al (alE (jI_add _ _) (hLL _ (by omega) ⟨fun q hq => (g1 q hq).trans (ha1 q hq), g2.trans ha2, ?_, rfl⟩))
    dsimp only
    rw [shv_eq hW ht3 (by omega) g3]
    rfl
theorem m_digest (hW : WF (μ.1 0)) (h : ∀ (v : ST) (a z : Int32), (∀ q : Nat, q ≠ 2 → v.1 q = μ.1 q) → v.2 = (zsp μ 1 (jI 0)).2 → MinJ (μ.1 0) (fun k => k < 144 ∧ isP (μ.1 0) k = true) a → (a = jI (-1) → z = jI (-1)) → (∀ k : Nat, a = jI k → k < 144 → z = jI (cod k)) → Q (((31 : Int64) * (((31 : Int64) * allH (μ.1 0) (μ.2 0) (μ.2 8)) + z.toInt64)) + (jI (mxA (μ.1 0) 72)).toInt64) v) : wp_X7_digest μ Q := by
  have hT1 := hW.1.1
  have hT2 := hW.1.2.1
  have f1 := hW.2.2.2.2.2.1
  have f2 := hW.2.2.2.2.2.2.1
  unfold wp_X7_digest
  refine al (al ?_)
  have z0 : (zsp μ 1 (jI 0)).2 0 = μ.2 0 := zsp_nq (by decide)
  have z8 : (zsp μ 1 (jI 0)).2 8 = μ.2 8 := zsp_nq (by decide)
  have z1 : (zsp μ 1 (jI 0)).1 = μ.1 := rfl
  rw [z0]
  generalize zsp μ 1 (jI 0) = u at *
  have u0 : u.1 0 = μ.1 0 := by rw [z1]
  refine lpJ (wl := wl_X7_digest_17 _) (wb := fun LL => wb_X7_digest_17 _ LL) (fun _ => rfl) u (fun x => hs ((1349492 : Int64) + (μ.2 0).toInt64) (f13 (μ.1 0) (u.2 8)) x) 13 (fun x hx LL hLL => ?_)
  unfold wb_X7_digest_17
  by_cases hx2 : x < 13
  · refine qf (jnle (by omega)) (m_wholeBy (by rw [u0]; exact hW) hx2 (fun c => ?_) (fun c => ?_))
    · refine al (alE (jI_add _ _) ?_)
      have h9 := hLL hx2
      have e : f13 (μ.1 0) (u.2 8) x = wv (u.1 0) x := by rw [u0]; exact if_neg (by omega)
      rw [← e]
      exact h9
    · refine al (alE (jI_add _ _) ?_)
      have h9 := hLL hx2
      have e : f13 (μ.1 0) (u.2 8) x = u.2 8 := if_pos c
      have e9 : hs ((1349492 : Int64) + (μ.2 0).toInt64) (f13 (μ.1 0) (u.2 8)) (x + 1) = ((31 : Int64) * hs ((1349492 : Int64) + (μ.2 0).toInt64) (f13 (μ.1 0) (u.2 8)) x) + (u.2 8).toInt64 := by
        show _ + (f13 (μ.1 0) (u.2 8) x).toInt64 = _
        rw [e]
      rw [← e9]
      exact h9
  have e13 : x = 13 := by omega
  subst e13
  refine qt (jle (by decide) (by decide) (by decide)) ?_
  refine lpJ (wl := wl_X7_digest_44 _) (wb := fun LL => wb_X7_digest_44 _ LL) (fun _ => rfl) u (fun x => hs (hs ((1349492 : Int64) + (μ.2 0).toInt64) (f13 (μ.1 0) (u.2 8)) 13) (f64 (μ.1 0)) x) 64 (fun x hx LL hLL => ?_)
  unfold wb_X7_digest_44
  by_cases hx2 : x < 64
  · refine qf (jnle (by omega)) ?_
    rw [show jI (x : Int) / jI 4 = jI ((x / 4 : Nat) : Int) from jd (d := 4) (by omega) (by decide) (by decide), jI_mul, jI_sub, show (x : Int) - ((x / 4 : Nat) : Int) * 4 = ((x % 4 : Nat) : Int) by omega]
    refine m_signBy (by rw [u0]; exact hW) (by omega) (by omega) ?_
    rw [u0]
    exact al (alE (jI_add _ _) (hLL hx2))
  have e64 : x = 64 := by omega
  subst e64
  refine qt (jle (by decide) (by decide) (by decide)) ?_
  generalize hA : hs (hs ((1349492 : Int64) + (μ.2 0).toInt64) (f13 (μ.1 0) (u.2 8)) 13) (f64 (μ.1 0)) 64 = A
  refine lpJ (wl := wl_X7_digest_76 _) (wb := fun LL => wb_X7_digest_76 _ LL) (fun _ => rfl) u (fun x => hs A (f12 (μ.1 0)) x) 1296 (fun x hx LL hLL => ?_)
  unfold wb_X7_digest_76
  by_cases hx2 : x < 1296
  · refine qf (jnle (by omega)) ?_
    rw [show jI (x : Int) / jI 9 = jI ((x / 9 : Nat) : Int) from jd (d := 9) (by omega) (by decide) (by decide), jI_mul, jI_sub, show (x : Int) - ((x / 9 : Nat) : Int) * 9 = ((x % 9 : Nat) : Int) by omega]
    refine m_letterBy (by rw [u0]; exact hW) (by omega) (by omega) ?_
    rw [u0]
    exact al (alE (jI_add _ _) (hLL hx2))
  have e1296 : x = 1296 := by omega
  subst e1296
  refine qt (jle (by decide) (by decide) (by decide)) ?_
  generalize hH : hs A (f12 (μ.1 0)) 1296 = H
  have key : ∀ K : ST → Int64 → Prop, (∀ v : ST, (∀ q : Nat, q ≠ 2 → v.1 q = u.1 q) → v.2 = u.2 → K v (trH (μ.1 0) H (nT (μ.1 0)).toNat)) → ∃ nn, wl_X7_digest_111 K nn u H (jI 0) := fun K hK => by
    refine lp_inv (α := ST × Int64 × Int32) (L := fun n a => wl_X7_digest_111 K n a.1 a.2.1 a.2.2) (B := fun LL a => wb_X7_digest_111 K (fun t y z => LL (t, y, z)) a.1 a.2.1 a.2.2) (fun n a => rfl) (fun t a => (∀ q : Nat, q ≠ 2 → a.1.1 q = u.1 q) ∧ a.1.2 = u.2 ∧ a.2.1 = trH (μ.1 0) H t ∧ a.2.2 = jI (t : Nat)) (nT (μ.1 0)).toNat (fun t a ht ha LL hLL => ?_) (u, H, jI 0) ⟨fun _ _ => rfl, rfl, rfl, rfl⟩
    obtain ⟨v, y, z⟩ := a
    obtain ⟨ha1, ha2, ha3, ha4⟩ := ha
    dsimp only at ha1 ha2 ha3 ha4 ⊢
    subst ha3 ha4
    have v0 : v.1 0 = μ.1 0 := (ha1 0 (by decide)).trans u0
    unfold wb_X7_digest_111
    refine m_rd 0 rfl (by decide) (by decide) ?_
    rw [v0, show μ.1 0 0 = jI (nT (μ.1 0)) from gwj _ 0]
    refine qle (by omega) (by omega) (by omega) (by omega) (fun c => ?_) (fun c => ?_)
    · have h9 := hK v ha1 ha2
      rw [show (nT (μ.1 0)).toNat = t by omega] at h9
      exact h9
    · refine lpJ (wl := wl_X7_digest_124 _ (jI (t : Nat))) (wb := fun LL => wb_X7_digest_124 _ LL (jI (t : Nat))) (fun _ => rfl) v (fun x => hs (trH (μ.1 0) H t) (tv (μ.1 0) t) x) 4 (fun x hx LL2 hLL2 => ?_)
      unfold wb_X7_digest_124
      by_cases hx2 : x < 4
      · refine qf (jnle (by omega)) (m_trayBy (by rw [v0]; exact hW) (by rw [v0]; exact c) hx2 ?_)
        rw [v0]
        exact al (alE (jI_add _ _) (hLL2 hx2))
      · have e4 : x = 4 := by omega
        subst e4
        refine qt (jle (by decide) (by decide) (by decide)) (m_shelves9 (μ := v) (by rw [v0]; exact hW) (by rw [v0]; exact c) (fun _ _ => rfl) rfl (fun v' g1 g2 => alE (jI_add _ _) (hLL _ (by omega) ⟨fun q hq => (g1 q hq).trans (ha1 q hq), g2.trans ha2, ?_, rfl⟩)))
        dsimp only
        rw [v0]
        rfl
  refine key _ (fun v g1 g2 => ?_)
  have v0 : v.1 0 = μ.1 0 := (g1 0 (by decide)).trans u0
  refine lpJ (wl := wl_X7_digest_208 _) (wb := fun LL => wb_X7_digest_208 _ LL) (fun _ => rfl) v (fun x => hs (trH (μ.1 0) H (nT (μ.1 0)).toNat) (fst9 (μ.1 0)) x) (gw (μ.1 0) 7).toNat (fun x hx LL hLL => ?_)
  unfold wb_X7_digest_208
  refine m_rd 7 rfl (by decide) (by decide) ?_
  rw [v0, gwj (μ.1 0) 7]
  refine qle (by omega) (by omega) (by omega) (by omega) (fun d => ?_) (fun d => ?_)
  · rw [show x = (gw (μ.1 0) 7).toNat by omega]
    refine m_oldestOne (fun a ha => ?_)
    rw [v0] at ha
    have hfin : ∀ z : Int32, (a = jI (-1) → z = jI (-1)) → (∀ k : Nat, a = jI k → k < 144 → z = jI (cod k)) → wp_X7_widestArea v (fun r8 s9 => Q (((31 : Int64) * (((31 : Int64) * allH (μ.1 0) (μ.2 0) (u.2 8)) + z.toInt64)) + (r8.toInt64)) s9) := fun z q1 q2 => by
      refine m_widestArea (by rw [v0]; exact hW) (fun v' r1 r2 => ?_)
      rw [v0]
      have := h v' a z (fun q hq => (r1 q hq).trans ((g1 q hq).trans (by rw [z1]))) (r2.trans g2) ha q1 q2
      rw [← z8] at this
      exact this
    have eA : allH (μ.1 0) (μ.2 0) (u.2 8) = hs (trH (μ.1 0) H (nT (μ.1 0)).toNat) (fst9 (μ.1 0)) (gw (μ.1 0) 7).toNat := by
      unfold allH
      rw [hA, hH]
    rw [eA] at hfin
    refine ⟨fun c => al (hfin _ (fun _ => rfl) (fun k q hk => absurd (c.symm.trans q) (jne (by omega)))), fun k c hk => al (hfin _ (fun q => absurd (c.symm.trans q) (jne (by omega))) (fun k' q hk' => ?_))⟩
    have e := (jI_eq (a := k) (b := k') (by omega) (by omega) (by omega) (by omega)).mp (c.symm.trans q)
    rw [show k = k' by omega]
  · refine m_streetAt (by rw [v0]; exact hW) (by omega) (fun k hk => ?_) (fun hk => ?_)
    · rw [v0] at hk
      refine al (alE (jI_add _ _) ?_)
      have h9 := hLL (by omega)
      have e : fst9 (μ.1 0) x = jI (cod k) := by unfold fst9; rw [hk]; rfl
      rw [← e]
      exact h9
    · rw [v0] at hk
      refine al (alE (jI_add _ _) ?_)
      have h9 := hLL (by omega)
      have e : fst9 (μ.1 0) x = jI (-1) := by unfold fst9; rw [hk]; rfl
      rw [← e]
      exact h9
end MDG
theorem s_digest : st_digest Inv := by
  intro n σ μ hn hI
  have hI' := hI
  obtain ⟨hW, hcl, ⟨l, hR⟩, ⟨f, m, -, -, -, a4, a5, -⟩, ⟨k, b1, b2, b3, b4⟩⟩ := hI'
  refine n_digest hR hW (fun a z ha z1 z2 => ?_)
  refine m_digest hW (fun v a' z' g1 g2 ha' w1 w2 => ?_)
  have e : a = a' := MinJ.uniq hW (fun k q => q) ha ha'
  subst e
  have ez : z = z' := by
    rcases ha.ok (fun k q => q) with h1 | ⟨o, h1, ho, hpo⟩
    · rw [z1 h1, w1 h1]
    · rw [z2 o h1 ho, w2 o h1 ho]
  subst ez
  refine ⟨by rw [a4, b2, a5, b3], hI.next (same_rf σ) ((sameM_th μ 1 (jI 0) (by decide) (by decide)).trans ?_)⟩
  exact ⟨g1 0 (by decide), g1 1 (by decide), g1 3 (by decide), by rw [g2], by rw [g2]⟩
theorem last_89a : True := trivial
