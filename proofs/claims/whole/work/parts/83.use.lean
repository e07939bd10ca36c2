/-! use -/
theorem m_uses {μ : ST} {k : Nat} {Q : Int32 → ST → Prop} {ru : Int} {t s x : Nat} {tk lv : Int} (hW : WF (μ.1 0)) (hk : k < 144) (hP : IsPl (μ.1 0) k ru t s x tk lv) (hn : ru = -1 → ∀ μ' : ST, (∀ q : Nat, q ≠ 2 → μ'.1 q = μ.1 q) → (∀ c : Nat, c < 2 ∨ 7 < c → μ'.2 c = μ.2 c) → Q (jI (-1)) μ') (hh : ru = 0 → ∀ μ' : ST, KpM μ μ' → μ'.2 1 = μ.2 1 → μ'.1 0 = hitW (μ.1 0) k → Q (jI ru) μ') (hL : 1 ≤ ru → ru ≤ 3 → ∀ (μ' : ST) (wM : Wd), KpM μ μ' → μ'.2 1 = μ.2 1 → MidM (inkW (μ.1 0) (inkv (μ.1 0) k)) wM k ru t s lv → eqW (putL wM k t s x) (μ'.1 0) → Q (jI ru) μ') (hS : ru = 4 → ∀ (μ' : ST) (wM : Wd), KpM μ μ' → μ'.2 1 = μ.2 1 → MidM (inkW (μ.1 0) (inkv (μ.1 0) k)) wM k ru t s lv → (0 ≤ gw wM 7 ∧ gw wM 7 < 4 → eqW (putS wM k) (μ'.1 0)) → Q (jI ru) μ') : wp_X7_uses μ (jI (k : Nat)) Q := by
  have hb := hP.b
  unfold wp_X7_uses
  refine m_looks hW hk (fun u ru' t' s' x' tk' lv' a1 a2 a3 a4 => ?_)
  obtain ⟨e1, e2, e3, e4⟩ := IsPl.u hW a3 hP
  subst e1 e2 e3
  have u0 : u.1 0 = μ.1 0 := a1 0 (by decide)
  have hku : KpM μ u := ⟨fun r _ h2 => a1 r h2, fun c hc => a2 c (by omega)⟩
  rw [a4.1]
  refine qeq (by omega) (by omega) (by decide) (by decide) (fun c => hn c u a1 a2) (fun c => al ?_)
  refine qle (by omega) (by omega) (by decide) (by decide) (fun d => ?_) (fun d => ?_)
  · refine m_hitTail hk rfl (fun μ' g1 g2 g3 => ?_)
    rw [show μ'.2 2 = jI ru' from (congrFun g2 2).trans a4.1]
    exact hh (by omega) μ' (hku.trans ⟨fun r h1 _ => g1 r h1, fun c _ => by rw [g2]⟩) (by rw [g2]; exact a2 1 (by decide)) (by rw [g3, u0])
  · obtain ⟨hp, hG⟩ := hP.geo hW hk (by omega)
    have hV := inkW_V (μ.1 0) (inkv (μ.1 0) k)
    have hG1 := hG.v hV hW hk
    have hW1 := WF.congrV hV hW
    refine m_rd 6 rfl (by decide) (by decide) (m_inks (by rw [u0]; exact hW) hk ?_)
    rw [u0]
    refine m_wr 6 rfl (by decide) (by decide) (m_rd 4 rfl (by decide) (by decide) (m_wr 4 rfl (by decide) (by decide) ?_))
    have v0 : (zrp (zrp u 0 6 (μ.1 0 6 + jI (inkv (μ.1 0) k))) 0 4 ((zrp u 0 6 (μ.1 0 6 + jI (inkv (μ.1 0) k))).1 0 4 + jI 1)).1 0 = inkW (μ.1 0) (inkv (μ.1 0) k) := by
      rw [zrp0, zrp0, u0, upd_o (show (4 : Nat) ≠ 6 by decide)]
      rfl
    have vq : ∀ q : Nat, q ≠ 0 → (zrp (zrp u 0 6 (μ.1 0 6 + jI (inkv (μ.1 0) k))) 0 4 ((zrp u 0 6 (μ.1 0 6 + jI (inkv (μ.1 0) k))).1 0 4 + jI 1)).1 q = u.1 q := fun q hq => (zrp_o hq).trans (zrp_o hq)
    have v2 : (zrp (zrp u 0 6 (μ.1 0 6 + jI (inkv (μ.1 0) k))) 0 4 ((zrp u 0 6 (μ.1 0 6 + jI (inkv (μ.1 0) k))).1 0 4 + jI 1)).2 = u.2 := rfl
    generalize zrp (zrp u 0 6 (μ.1 0 6 + jI (inkv (μ.1 0) k))) 0 4 ((zrp u 0 6 (μ.1 0 6 + jI (inkv (μ.1 0) k))).1 0 4 + jI 1) = v at *
    have hkv : KpM μ v := hku.trans ⟨fun r h1 _ => vq r h1, fun c _ => by rw [v2]⟩
    have hPM : PM v ru' t s x tk' lv' := by
      obtain ⟨p1, p2, p3, p4⟩ := a4
      refine ⟨by rw [v2]; exact p1, fun q1 q2 => ?_, by rw [v2]; exact p3, by rw [v2]; exact p4⟩
      obtain ⟨f1, f2, f3⟩ := e4 q1 q2
      subst f1 f2 f3
      rw [v2]
      exact p2 q1 q2
    refine m_lays (by rw [v0]; exact hW1) hk (by rw [v0]; exact hG1) hPM (fun q1 q2 m wM g1 g2 g3 g4 => ?_) (fun q m wM g1 g2 g3 g4 => ?_)
    · rw [v0] at g3
      refine m_useTail hk rfl (fun μ' r1 r2 r3 => ?_)
      rw [show μ'.2 2 = jI ru' from (congrFun r2 2).trans ((congrFun g2 2).trans ((congrFun v2 2).trans a4.1))]
      refine hL q1 q2 μ' wM (hkv.trans ⟨fun r h1 _ => (r1 r h1).trans (g1 r h1), fun c _ => by rw [r2, g2]⟩) (by rw [r2, g2, v2]; exact a2 1 (by decide)) g3 ?_
      rw [r3]
      exact putL_eq g4
    · rw [v0] at g3
      refine m_useTail hk rfl (fun μ' r1 r2 r3 => ?_)
      rw [show μ'.2 2 = jI ru' from (congrFun r2 2).trans ((congrFun g2 2).trans ((congrFun v2 2).trans a4.1))]
      refine hS q μ' wM (hkv.trans ⟨fun r h1 _ => (r1 r h1).trans (g1 r h1), fun c _ => by rw [r2, g2]⟩) (by rw [r2, g2, v2]; exact a2 1 (by decide)) g3 (fun hm => ?_)
      rw [r3]
      exact putS_eq hm g4
theorem use_mid {σ1 σ' : ST} {w1 wM : Wd} {l : List Nat} {k : Nat} {ru : Int} {t s x : Nat} {lv : Int} (hR1 : RC σ1.1 σ1.2 w1 l) (hW1 : WF w1) (hk : k < 144) (hp1 : isP w1 k = false) (hG : Geo w1 k ru t s x lv) (hC : ClsU σ1 σ' w1 l k ru t s x lv) (hM : MidM w1 wM k ru t s lv) (hck : 0 ≤ gw w1 2 ∧ gw w1 2 < 2000000) : gw wM 2 = gw w1 2 ∧ ((1 ≤ ru ∧ ru ≤ 3 ∧ WF (putL wM k t s x) ∧ ∃ l', RC σ'.1 σ'.2 (putL wM k t s x) l') ∨ (ru = 4 ∧ (0 ≤ gw wM 7 ∧ gw wM 7 < 4) ∧ WF (putS wM k) ∧ ∃ l', RC σ'.1 σ'.2 (putS wM k) l')) := by
  obtain ⟨m, lM, sl, lf, hPC, hsl, hs4, hm⟩ := hC
  have hT2 := hW1.1.2.1
  have f1 := hW1.2.2.2.2.2.1
  have hwk := wdt_b hW1 hk
  have hhk := hgt_b hW1 hk
  rcases hG with ⟨g1, g2, g3, g4, g5, g6, g7⟩ | ⟨g1, g2, g3, g4, g5, g6⟩ | ⟨g1, g2, g3, g4, g5, g6⟩ | ⟨g1, g2, g3⟩ | ⟨g1, o, g2, g3, g4⟩
  · obtain ⟨e1, e2⟩ := hsl (by omega) (by omega)
    subst e1 e2
    rcases hM with ⟨_, rfl⟩ | ⟨q, _⟩ | ⟨q, _⟩ | ⟨q, _⟩ | ⟨q, _⟩
    · rcases hm with ⟨_, rfl, rfl⟩ | ⟨q, _⟩ | ⟨q, _⟩ | ⟨q, _⟩ | ⟨q, _⟩
      · exact ⟨rfl, Or.inl ⟨by omega, by omega, pL_WF hW1 hk hp1 g2 g3 g5 g4 g7 hck, _, pL_RC hW1 hR1 hk hp1 g2 g3 g5 hPC⟩⟩
      all_goals omega
    all_goals omega
  · obtain ⟨e1, e2⟩ := hsl (by omega) (by omega)
    subst e1 e2
    have hb9 := hW1.2.1 t g2
    rcases hM with ⟨q, _⟩ | ⟨_, rfl⟩ | ⟨q, _⟩ | ⟨q, _⟩ | ⟨q, _⟩
    · omega
    · rcases hm with ⟨q, _⟩ | ⟨_, c1, c2, c3, rfl⟩ | ⟨q, _⟩ | ⟨q, _⟩ | ⟨q, _⟩
      · omega
      · have hs : s = (nS w1 t).toNat := by omega
        have hfit := sh_fits hW1 g2 hhk.1 g4
        have hh24 : 1 ≤ hgt w1 k ∧ hgt w1 k ≤ 24 := ⟨hhk.1, by omega⟩
        have hWM := sh_WF hW1 g2 hh24 g4
        have hRM : RC m.1 m.2 (shW w1 t (hgt w1 k)) lM := by
          rw [c3]
          exact sh_RC hW1 g2 hh24 g4 hR1 (by rw [← hs]; exact c1) c2
        have hg9 : ∀ j : Nat, j < 44 ∨ 119 ≤ j → gw (shW w1 t (hgt w1 k)) j = gw w1 j := fun j hj => sh_g (by omega) (by omega)
        have hpM : isP (shW w1 t (hgt w1 k)) k = false := by
          unfold isP aT
          rw [hg9 _ (by omega)]
          exact hp1
        have hwM : wdt (shW w1 t (hgt w1 k)) k = wdt w1 k := by
          unfold wdt
          rw [hg9 _ (by omega)]
        have hhM : hgt (shW w1 t (hgt w1 k)) k = hgt w1 k := by
          show gw (shW w1 t (hgt w1 k)) (28 + k / 9) * _ + _ = gw w1 (28 + k / 9) * _ + _
          rw [hg9 _ (by omega)]
        have hnT : nT (shW w1 t (hgt w1 k)) = nT w1 := sh_g (by omega) (by omega)
        have hnS : nS (shW w1 t (hgt w1 k)) t = nS w1 t + 1 := sh_nS ⟨hb9.1, hb9.2.1⟩
        have htlM : tl (shW w1 t (hgt w1 k)) t s = hgt w1 k := by rw [hs]; exact sh_tl (by omega) hh24
        have hxM : ((x : Nat) : Int) + wdt (shW w1 t (hgt w1 k)) k ≤ 24 := by rw [hwM, g5]; omega
        rw [← hwM] at hPC
        refine ⟨hg9 2 (by decide), Or.inl ⟨by omega, by omega, pL_WF hWM hk hpM (by rw [hnT]; exact g2) (by rw [hnS]; omega) hxM (by rw [hhM, htlM]; exact Int.le_refl _) (fun k' hk' ho => ?_) (by rw [hg9 2 (by decide)]; exact hck), _, pL_RC hWM hRM hk hpM (by rw [hnT]; exact g2) (by rw [hnS]; omega) hxM hPC⟩⟩
        exfalso
        obtain ⟨o1, o2⟩ := isO_t ho
        have o1 : aT w1 k' = t := (hg9 (119 + 6 * k') (by omega)).symm.trans o1
        have o2 : aS w1 k' = s := (hg9 (119 + 6 * k' + 1) (by omega)).symm.trans o2
        have hl : isL w1 k' = true := bo_t (by omega)
        have hq := (laid_c hW1 hk' hl).2.2.2.2.1
        rw [o1, o2, Int.toNat_natCast] at hq
        omega
      all_goals omega
    all_goals omega
  · obtain ⟨e1, e2⟩ := hsl (by omega) (by omega)
    subst e1 e2
    have hb9 := hW1.2.1 t g2
    rcases hM with ⟨q, _⟩ | ⟨q, _⟩ | ⟨_, hgo⟩ | ⟨q, _⟩ | ⟨q, _⟩
    · omega
    · omega
    · rcases hm with ⟨q, _⟩ | ⟨q, _⟩ | ⟨_, hA, rfl⟩ | ⟨q, _⟩ | ⟨q, _⟩
      · omega
      · omega
      · have hWM := hgo.WF hW1
        have hRM := RC.gone hW1 hR1 hA hgo (onB_P hW1 (by omega))
        have hpM : isP wM k = false := by rw [hgo.qP hk, hp1]; rfl
        have hwM := hgo.qw hk
        have hxM : ((x : Nat) : Int) + wdt wM k ≤ 24 := by rw [hwM, g5]; omega
        have htM : (t : Int) < nT wM := by rw [hgo.qnT]; exact g2
        have hsM : (s : Int) < nS wM t := by rw [hgo.qnS (by omega)]; exact g3
        rw [← hwM] at hPC
        refine ⟨hgo.g (by decide) (by decide) (by decide), Or.inl ⟨by omega, by omega, pL_WF hWM hk hpM htM hsM hxM (by rw [hgo.qh hk, hgo.qtl (by omega) (by omega)]; exact g4) (fun k' hk' ho => ?_) (by rw [hgo.g (by decide) (by decide) (by decide)]; exact hck), _, pL_RC hWM hRM hk hpM htM hsM hxM hPC⟩⟩
        exfalso
        obtain ⟨o1, o2⟩ := isO_t ho
        rw [hgo.qaS] at o2
        cases hsk : onB w1 t s k'
        · rw [hgo.aTn hsk] at o1
          have : isO w1 k' t s = true := bo_t ⟨o1, o2⟩
          unfold onB at hsk
          rw [this] at hsk
          cases hsk
        · rw [hgo.aTs hk' hsk] at o1
          omega
      all_goals omega
    all_goals omega
  · have e1 := hs4 g1
    subst e1
    rcases hM with ⟨q, _⟩ | ⟨q, _⟩ | ⟨q, _⟩ | ⟨_, _, rfl⟩ | ⟨_, o, q, _⟩
    · omega
    · omega
    · omega
    · rcases hm with ⟨q, _⟩ | ⟨q, _⟩ | ⟨q, _⟩ | ⟨_, _, rfl, rfl⟩ | ⟨_, o, q, _⟩
      · omega
      · omega
      · omega
      · exact ⟨rfl, Or.inr ⟨g1, ⟨f1, g3⟩, pS_WF hW1 hk hp1 ⟨f1, g3⟩ hck, _, pS_RC hW1 hR1 hk hp1 ⟨f1, g3⟩ hPC⟩⟩
      · omega
    · omega
  · have e1 := hs4 g1
    subst e1
    rcases hM with ⟨q, _⟩ | ⟨q, _⟩ | ⟨q, _⟩ | ⟨_, q, _⟩ | ⟨_, o2, q, hgo⟩
    · omega
    · omega
    · omega
    · omega
    · rcases hm with ⟨q, _⟩ | ⟨q, _⟩ | ⟨q, _⟩ | ⟨_, q, _⟩ | ⟨_, o3, q3, hA, rfl⟩
      · omega
      · omega
      · omega
      · omega
      · have eo2 : o2 = o := by omega
        have eo3 : o3 = o := by omega
        subst eo2 eo3
        have hpo : isP w1 o3 = true := bo_t (by have : aT w1 o3 = 3 := of_decide_eq_true g4; omega)
        have hWM := hgo.WF hW1
        have hRM := RC.gone hW1 hR1 hA hgo (eqS hpo)
        have hpM : isP wM k = false := by rw [hgo.qP hk, hp1]; rfl
        have hmM := gone_many hW1 hgo g3 g4
        exact ⟨hgo.g (by decide) (by decide) (by decide), Or.inr ⟨g1, hmM, pS_WF hWM hk hpM hmM (by rw [hgo.g (by decide) (by decide) (by decide)]; exact hck), _, pS_RC hWM hRM hk hpM hmM hPC⟩⟩
/-- both sides use a letter -/
theorem both_use {σ μ : ST} {l : List Nat} {k : Nat} {Q : ST → Prop} {ru : Int} {t s x : Nat} {tk lv : Int} (hW : WF (μ.1 0)) (hck : 0 ≤ gw (μ.1 0) 2 ∧ gw (μ.1 0) 2 < 2000000) (hk : k < 144) (hR : RK σ (μ.1 0) l) (hP : IsPl (μ.1 0) k ru t s x tk lv) (hC : PC σ ru t s x tk lv) (hne : ru ≠ -1) (h : ∀ σ' : ST, σ'.2 45 = jI ru → (∀ (μ0 : ST) (Q' : Int32 → ST → Prop), μ0.1 0 = μ.1 0 → (∀ μ' : ST, μ'.2 1 = μ0.2 1 → Core 1 σ μ0 σ' μ' → Q' (jI ru) μ') → wp_X7_uses μ0 (jI (k : Nat)) Q') → Q σ') : wp_X4_useLetter σ (jI (k : Nat)) Q := by
  have hb := hP.b
  have hclk : ∀ {w' : Wd}, w' 2 = μ.1 0 2 + jI 1 → gw w' 2 = gw (μ.1 0) 2 + 1 := fun {w'} hw => gw_jI (hw.trans (w2_1 hck)) (by omega) (by omega)
  refine n_useLetter hR hW hk hP hC hne (fun h0 σ' hH hK h45 => h σ' h45 (fun μ0 Q' e0 hQ => ?_)) (fun h1 σ1 σ' c1 c2 c3 c4 hCl hK h45 => h σ' h45 (fun μ0 Q' e0 hQ => ?_))
  · have hpk : isP (μ.1 0) k = true := by
      rcases hP with ⟨q, _⟩ | ⟨_, h⟩
      · exact q
      · rcases h with ⟨_, _, h, _⟩ | ⟨_, ⟨_, h, _⟩ | ⟨_, ⟨_, _, _, h, _⟩ | ⟨_, ⟨_, h, _⟩ | ⟨_, _, _, ⟨_, h, _⟩ | ⟨_, _, _, h, _⟩⟩⟩⟩⟩ <;> omega
    rw [← e0] at hP hW hR hpk
    refine m_uses hW hk hP (fun q => absurd q hne) (fun _ μ' m1 m2 m3 => hQ μ' m2 ⟨hK, m1, ?_, ⟨l, ?_⟩, ?_⟩) (fun q => by omega) (fun q => by omega)
    · rw [m3]
      exact hW_WF hW hk (by rw [e0]; exact hck)
    · rw [m3]
      exact hW_RC hW hR hk hpk hH
    · rw [m3, e0, hclk (w' := hitW (μ.1 0) k) hW_c]
      push_cast
      omega
  · obtain ⟨hp, hG⟩ := hP.geo hW hk h1
    have hV := inkW_V (μ.1 0) (inkv (μ.1 0) k)
    have hW1 := WF.congrV hV hW
    have hG1 := hG.v hV hW hk
    have hp1 : isP (inkW (μ.1 0) (inkv (μ.1 0) k)) k = false := by rw [hV.qisP hk]; exact hp
    have hR1 : RC σ1.1 σ1.2 (inkW (μ.1 0) (inkv (μ.1 0) k)) l := by
      rw [c1]
      exact inkW_RC hW hR c2 c3 c4
    have hg2 : gw (inkW (μ.1 0) (inkv (μ.1 0) k)) 2 = gw (μ.1 0) 2 := hV.g (by decide)
    have hmid := fun wM hM => use_mid (wM := wM) hR1 hW1 hk hp1 hG1 hCl hM (by rw [hg2]; exact hck)
    have hfin : ∀ (μ' : ST) (wM b : Wd), KpM μ0 μ' → eqW b (μ'.1 0) → WF b → (∃ l', RC σ'.1 σ'.2 b l') → b 2 = wM 2 + jI 1 → gw wM 2 = gw (inkW (μ.1 0) (inkv (μ.1 0) k)) 2 → Core 1 σ μ0 σ' μ' := by
      intro μ' wM b m1 he hWb hRb hb2 hM2
      obtain ⟨l', hRb⟩ := hRb
      refine ⟨hK, m1, WF.congr he hWb, ⟨l', RC.congrW he hWb hRb⟩, ?_⟩
      have hc9 : gw b 2 = gw (μ.1 0) 2 + 1 := gw_jI (hb2.trans (by rw [gwj wM 2, jI_add, hM2, hg2])) (by omega) (by omega)
      rw [he.g (by decide), hc9, e0]
      push_cast
      omega
    refine m_uses (by rw [e0]; exact hW) hk (by rw [e0]; exact hP) (fun q => absurd q hne) (fun q => by omega) (fun q1 q2 μ' wM m1 m2 m3 m4 => hQ μ' m2 ?_) (fun q μ' wM m1 m2 m3 m4 => hQ μ' m2 ?_)
    · rw [e0] at m3
      obtain ⟨d1, d2 | d2⟩ := hmid wM m3
      · exact hfin μ' wM _ m1 m4 d2.2.2.1 d2.2.2.2 pL_c d1
      · omega
    · rw [e0] at m3
      obtain ⟨d1, d2 | d2⟩ := hmid wM m3
      · omega
      · exact hfin μ' wM _ m1 (m4 d2.2.1) d2.2.2.1 d2.2.2.2 pS_c d1
theorem last_83 : True := trivial
