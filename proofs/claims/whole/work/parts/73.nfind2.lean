/-! the class's search for a place: the street, and all of it -/
section NFB
variable {σ : ST} {w : Wd} {l : List Nat} {k : Nat}
theorem n_oldestMay {Q : Int32 → ST → Prop} (hR : RK σ w l) (hW : WF w) (h : ∀ a, MinJ w (mayS w) a → Q a σ) : wp_X4_oldestOfStreetThatMayGo σ Q := by
  unfold wp_X4_oldestOfStreetThatMayGo
  have hS : ∀ i k, ((∃ j, j < i ∧ l[j]? = some k) ∧ isS w k = true ∧ isNw w k = false) → k < 144 ∧ isP w k = true := fun i k ⟨⟨j, _, hj⟩, _⟩ => (hR.at hj).2
  refine lpV (wl := wl_X4_oldestOfStreetThatMayGo_4 _) (wb := fun LL => wb_X4_oldestOfStreetThatMayGo_4 _ LL) (fun _ => rfl) σ l.length (fun i a => MinJ w (fun k => (∃ j, j < i ∧ l[j]? = some k) ∧ isS w k = true ∧ isNw w k = false) a) (jI (-1)) (Or.inl ⟨rfl, fun k ⟨⟨j, hj, _⟩, _⟩ => absurd hj (Nat.not_lt_zero j)⟩) (fun i a hi hJ LL hLL => ?_)
  by_cases hil : i < l.length
  · have hi1 := List.getElem?_eq_getElem hil
    obtain ⟨e1, e2, e3⟩ := hR.at hi1
    have hskip : ¬ (isS w l[i] = true ∧ isNw w l[i] = false) → ∀ x1 : Int32, x1 = jI (i : Nat) + jI 1 → LL σ a x1 := fun hc => by
      refine alE (jI_add _ _) (hLL _ hil (hJ.congr (fun k => ?_)))
      rw [at_next l i k _ hi1]
      constructor
      · rintro ⟨q | q, q2⟩
        · exact ⟨q, q2⟩
        · rw [q] at q2
          exact absurd q2 hc
      · rintro ⟨q, q2⟩
        exact ⟨Or.inl q, q2⟩
    refine pres hR hi1 (alE e1 (n_isInStreet hR hW e2 (qb (fun c => ?_) (fun c => ?_))))
    · exact hskip (fun q => by rw [c] at q; cases q.1)
    · refine n_isOfLine hR e2 e3 (qb (fun d => ?_) (fun d => hskip (fun q => by rw [d] at q; cases q.2)))
      have hcg : ∀ k, ((∃ j, j < i + 1 ∧ l[j]? = some k) ∧ isS w k = true ∧ isNw w k = false) ↔ (((∃ j, j < i ∧ l[j]? = some k) ∧ isS w k = true ∧ isNw w k = false) ∨ k = l[i]) := fun k => by
        rw [at_next l i k _ hi1]
        constructor
        · rintro ⟨q | q, q2⟩
          · exact Or.inl ⟨q, q2⟩
          · exact Or.inr q
        · rintro (q | q)
          · exact ⟨Or.inl q.1, q.2⟩
          · exact ⟨Or.inr q, by rw [q]; exact ⟨c, d⟩⟩
      refine n_isOlder hR e2 e3 (hJ.ok (hS i)) (fun f => ?_) (fun f => ?_)
      · exact qf (jne (a := 1) (b := 0) (by decide)) (alE (jI_add _ _) (hLL _ hil ((hJ.take e2 f).congr hcg)))
      · exact qt rfl (alE (jI_add _ _) (hLL _ hil ((hJ.keep f).congr hcg)))
  · have e : i = l.length := by omega
    subst e
    refine pend hR (h a (hJ.congr (fun k => ?_)))
    rw [mem_at, hR.2.2.1.2.2.1 k]
    unfold mayS
    constructor
    · intro q
      exact ⟨⟨q.1, (mayS_P q).2⟩, q.2⟩
    · intro q
      exact ⟨q.1.1, q.2⟩
/-- how the search in the street ends -/
def StEnd (w : Wd) (ru tk lv : Int) : Prop := (gw w 7 < 4 ∧ ru = 4 ∧ tk = 0 ∧ lv = -1) ∨ (4 ≤ gw w 7 ∧ ∃ a : Int32, MinJ w (mayS w) a ∧ ((a = jI (-1) ∧ ru = -1 ∧ tk = 0 ∧ lv = -1) ∨ ∃ o : Nat, a = jI (o : Nat) ∧ o < 144 ∧ ru = 4 ∧ tk = 1 ∧ lv = o))
theorem n_findStreet {Q : ST → Prop} (hR : RK σ w l) (hW : WF w) (h45 : σ.2 45 = jI (-1)) (h48 : σ.2 48 = jI 0) (h49 : σ.2 49 = jI (-1)) (h : ∀ (σ' : ST) (ru tk lv : Int), σ'.1 = σ.1 → (∀ c : Nat, c < 45 → σ'.2 c = σ.2 c) → StEnd w ru tk lv → PC σ' ru 0 0 0 tk lv → Q σ') : wp_X2_findRoomInStreet σ Q := by
  have hf := hW.2.2.2.2.2
  have f1 := hf.1
  have f2 := hf.2.1
  unfold wp_X2_findRoomInStreet
  refine n_countInStreet hR hW ?_
  rw [sS_many hR hW]
  refine qle (by decide) (by decide) (by omega) (by omega) (fun c => ?_) (fun c => ?_)
  · refine n_oldestMay hR hW (fun a ha => al ?_)
    rw [zsp_at]
    rcases ha.ok (fun k q => mayS_P q) with h1 | ⟨o, h1, ho, hpo⟩
    · refine qt h1 (h _ (-1) 0 (-1) rfl (fun c hc => zsp_nq (by omega)) (Or.inr ⟨c, a, ha, Or.inl ⟨h1, rfl, rfl, rfl⟩⟩) ⟨(zsp_nq (by decide)).trans h45, fun q => absurd q (by decide), fun q => absurd q (by decide), (zsp_nq (by decide)).trans h48, zsp_at.trans h1⟩)
    · refine qf (by rw [h1]; exact jne (by omega)) (n_choose (fun u g1 g2 g3 g4 g5 => al (h _ 4 1 o g1 (fun c hc => ?_) (Or.inr ⟨c, a, ha, Or.inr ⟨o, h1, ho, rfl, rfl, rfl⟩⟩) ⟨(zsp_nq (by decide)).trans g3, fun _ q => absurd q (by decide), fun _ => (zsp_nq (by decide)).trans g4, zsp_at, ?_⟩)))
      · exact (zsp_nq (by omega)).trans ((g2 c (by omega) (by omega) (by omega)).trans (zsp_nq (by omega)))
      · exact (zsp_nq (by decide)).trans ((g2 49 (by decide) (by decide) (by decide)).trans (zsp_at.trans h1))
  · refine n_choose (fun u g1 g2 g3 g4 g5 => h _ 4 0 (-1) g1 (fun c hc => g2 c (by omega) (by omega) (by omega)) (Or.inl ⟨c, rfl, rfl, rfl⟩) ⟨g3, fun _ q => absurd q (by decide), fun _ => g4, (g2 48 (by decide) (by decide) (by decide)).trans h48, (g2 49 (by decide) (by decide) (by decide)).trans h49⟩)
theorem n_find {Q : ST → Prop} (hR : RK σ w l) (hW : WF w) (hk : k < 144) (h : ∀ (σ' : ST) (ru : Int) (t s x : Nat) (tk lv : Int), σ'.1 = σ.1 → (∀ c : Nat, c < 45 → σ'.2 c = σ.2 c) → IsPl w k ru t s x tk lv → PC σ' ru t s x tk lv → Q σ') : wp_X2_find σ (jI (k : Nat)) Q := by
  unfold wp_X2_find
  refine n_choose (fun u0 a1 a2 a3 a4 a5 => al (al ?_))
  have ra : RK (zsp (zsp u0 48 (jI 0)) 49 (jI (-1))) w l := hR.cg9 a1 (fun c hc => (zsp_nq (by omega)).trans ((zsp_nq (by omega)).trans (a2 c (by omega) (by omega) (by omega))))
  have b45 : (zsp (zsp u0 48 (jI 0)) 49 (jI (-1))).2 45 = jI (-1) := (zsp_nq (by decide)).trans ((zsp_nq (by decide)).trans a3)
  have b48 : (zsp (zsp u0 48 (jI 0)) 49 (jI (-1))).2 48 = jI 0 := (zsp_nq (by decide)).trans zsp_at
  have b49 : (zsp (zsp u0 48 (jI 0)) 49 (jI (-1))).2 49 = jI (-1) := zsp_at
  have bc : ∀ c : Nat, c < 45 → (zsp (zsp u0 48 (jI 0)) 49 (jI (-1))).2 c = σ.2 c := fun c hc => (zsp_nq (by omega)).trans ((zsp_nq (by omega)).trans (a2 c (by omega) (by omega) (by omega)))
  have b1 : (zsp (zsp u0 48 (jI 0)) 49 (jI (-1))).1 = σ.1 := a1
  generalize zsp (zsp u0 48 (jI 0)) 49 (jI (-1)) = v at *
  refine n_isThere ra hW hk (qb (fun p => ?_) (fun p => ?_))
  · refine n_findGap ra hW hk b45 (fun v1 c1 c2 c3 => ?_)
    have d1 : v1.1 = σ.1 := c1.trans b1
    have dc : ∀ c : Nat, c < 45 → v1.2 c = σ.2 c := fun c hc => (c2 c (by omega) (by omega) (by omega)).trans (bc c hc)
    have d48 : v1.2 48 = jI 0 := (c2 48 (by decide) (by decide) (by decide)).trans b48
    have d49 : v1.2 49 = jI (-1) := (c2 49 (by decide) (by decide) (by decide)).trans b49
    cases hg : (gpS w k 72).2 with
    | some qx =>
      obtain ⟨q, x⟩ := qx
      rw [hg] at c3
      obtain ⟨e1, e2, e3⟩ := c3
      have hne : ¬ v1.2 45 = jI (-1) := by rw [e1]; exact jne (by decide) (by decide) (by decide) (by decide) (by decide)
      refine qf hne (qf hne (qf hne (h v1 1 (q / 24) (q % 24) x 0 (-1) d1 dc (Or.inr ⟨p, Or.inl ⟨q, hg, rfl, by omega, by omega, rfl, rfl⟩⟩) ⟨e1, fun _ _ => ⟨?_, e3⟩, fun z => absurd z (by decide), d48, d49⟩)))
      rw [e2]
      exact jeq (by omega)
    | none =>
      rw [hg] at c3
      have c3 : v1.2 45 = jI (-1) := c3
      have r1 : RK v1 w l := hR.cg9 d1 dc
      refine qt c3 (n_findRoom r1 hW hk (fun v2 o f1 f2 f3 f4 => ?_))
      have g1 : v2.1 = σ.1 := f1.trans d1
      have gc : ∀ c : Nat, c < 45 → v2.2 c = σ.2 c := fun c hc => (f2 c (by omega) (by omega) (by omega)).trans (dc c hc)
      have g48 : v2.2 48 = jI 0 := (f2 48 (by decide) (by decide) (by decide)).trans d48
      have g49 : v2.2 49 = jI (-1) := (f2 49 (by decide) (by decide) (by decide)).trans d49
      cases o with
      | some t =>
        obtain ⟨e1, e2, e3⟩ := f4
        have hb := hW.2.1 t f3.1
        have hne : ¬ v2.2 45 = jI (-1) := by rw [e1]; exact jne (by decide) (by decide) (by decide) (by decide) (by decide)
        exact qf hne (qf hne (h v2 2 t (nS w t).toNat 0 0 (-1) g1 gc (Or.inr ⟨p, Or.inr ⟨hg, Or.inl ⟨f3, rfl, by omega, rfl, rfl, rfl⟩⟩⟩) ⟨e1, fun _ _ => ⟨e2, e3⟩, fun z => absurd z (by decide), g48, g49⟩))
      | none =>
        have f4 : v2.2 45 = jI (-1) := f4.trans c3
        have r2 : RK v2 w l := hR.cg9 g1 gc
        refine qt f4 (n_findEmpty r2 hW hk f4 (fun v3 i1 i2 i3 i4 => ?_))
        have j1 : v3.1 = σ.1 := i1.trans g1
        have jc : ∀ c : Nat, c < 45 → v3.2 c = σ.2 c := fun c hc => (i2 c (by omega) (by omega) (by omega) (by omega)).trans (gc c hc)
        have j49 : v3.2 49 = jI (-1) := (i2 49 (by decide) (by decide) (by decide) (by decide)).trans g49
        cases hs : shP w k 72 with
        | some qv =>
          obtain ⟨q, vv⟩ := qv
          rw [hs] at i3 i4
          obtain ⟨e1, e2, e3⟩ := i3
          have hne : ¬ v3.2 45 = jI (-1) := by rw [e1]; exact jne (by decide) (by decide) (by decide) (by decide) (by decide)
          refine qf hne (h v3 3 (q / 24) (q % 24) 0 _ (-1) j1 jc (Or.inr ⟨p, Or.inr ⟨hg, Or.inr ⟨f3, Or.inl ⟨q, vv, hs, rfl, by omega, by omega, rfl, rfl, rfl⟩⟩⟩⟩) ⟨e1, fun _ _ => ⟨?_, e3⟩, fun z => absurd z (by decide), i4, j49⟩)
          rw [e2]
          exact jeq (by omega)
        | none =>
          rw [hs] at i3 i4
          have i3 : v3.2 45 = jI (-1) := i3
          have j48 : v3.2 48 = jI 0 := i4.trans g48
          have r3 : RK v3 w l := hR.cg9 j1 jc
          exact qt i3 (n_findStreet r3 hW i3 j48 j49 (fun v4 ru tk lv k1 k2 k3 k4 => h v4 ru 0 0 0 tk lv (k1.trans j1) (fun c hc => (k2 c hc).trans (jc c hc)) (Or.inr ⟨p, Or.inr ⟨hg, Or.inr ⟨f3, Or.inr ⟨hs, k3⟩⟩⟩⟩) k4))
  · refine al (h _ 0 0 0 0 0 (-1) b1 (fun c hc => (zsp_nq (by omega)).trans (bc c hc)) (Or.inl ⟨p, rfl, rfl, rfl⟩) ⟨zsp_at, fun q => absurd q (by decide), fun q => absurd q (by decide), (zsp_nq (by decide)).trans b48, (zsp_nq (by decide)).trans b49⟩)
end NFB
theorem last_73 : True := trivial
