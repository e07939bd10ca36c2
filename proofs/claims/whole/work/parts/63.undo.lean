/-! undo, addTray -/
def upS (μ : ST) (b i : Nat) : ST := (fun q => if q = 0 then (fun p => if p < i then μ.1 1 (b + p) else μ.1 0 p) else μ.1 q, μ.2)
theorem upS_0 (μ : ST) (b : Nat) : upS μ b 0 = μ := by
  refine Prod.ext (funext fun q => ?_) rfl
  show (if q = 0 then _ else _) = _
  by_cases h : q = 0
  · subst h
    rw [if_pos rfl]
    funext p
    exact if_neg (Nat.not_lt_zero p)
  · rw [if_neg h]
theorem upS_1 (μ : ST) (b i p : Nat) : (upS μ b i).1 0 p = if p < i then μ.1 1 (b + p) else μ.1 0 p := by
  unfold upS
  dsimp only
  rw [if_pos rfl]
theorem upS_o (μ : ST) (b i q : Nat) (h : q ≠ 0) : (upS μ b i).1 q = μ.1 q := if_neg h
theorem upS_next (μ : ST) (b i : Nat) : zrp (upS μ b i) 0 i (μ.1 1 (b + i)) = upS μ b (i + 1) := by
  refine Prod.ext (funext fun q => ?_) rfl
  show (if q = 0 then upd ((upS μ b i).1 0) i _ else (upS μ b i).1 q) = _
  by_cases h : q = 0
  · subst h
    rw [if_pos rfl]
    funext p
    rw [upS_1]
    unfold upd
    by_cases hp : p = i
    · subst hp
      rw [if_pos rfl, if_pos (by omega)]
    · rw [if_neg hp, upS_1]
      by_cases h2 : p < i
      · rw [if_pos h2, if_pos (by omega)]
      · rw [if_neg h2, if_neg (by omega)]
  · rw [if_neg h, upS_o _ _ _ _ h, upS_o _ _ _ _ h]
theorem m_back {μ : ST} {K : ST → Prop} {m : Nat} (hm : m < 4) (h0 : μ.2 0 = jI (m : Nat)) (h : K (upS μ (983 * m) 983)) : ∃ nn, wl_X7_undo_37 K nn μ (jI 0) := by
  have hb := lpB (wl := wl_X7_undo_37 K) (wb := fun LL => wb_X7_undo_37 K LL) (fun _ => rfl) (fun i => upS μ (983 * m) i) 0 983 (fun i hi LL hLL => ?_)
  · rw [upS_0] at hb
    exact hb
  · unfold wb_X7_undo_37
    rw [Nat.zero_add]
    refine qle (by decide) (by decide) (by omega) (by omega) (fun c => ?_) (fun c => ?_)
    · rw [show i = 983 by omega]
      exact h
    · have h9 := hLL (by omega)
      rw [Nat.zero_add] at h9
      refine m_rd (983 * m + i) ?_ (by omega) (by decide) ?_
      · rw [show (upS μ (983 * m) i).2 0 = jI (m : Nat) from h0, jI_mul, jI_add]
        exact jeq (by omega)
      rw [upS_o _ _ _ 1 (by decide)]
      refine m_wr i rfl (by omega) (by decide) ?_
      rw [upS_next]
      exact alE (jI_add _ _) h9
theorem s_undo : st_undo Inv := by
  intro n σ μ v hn hI
  have hI' := hI
  obtain ⟨hW, hcl, ⟨l, hR⟩, ⟨f, m, a1, a2, a3, a4, a5, a6⟩, ⟨k, b1, b2, b3, b4⟩⟩ := hI'
  unfold wL_undo wx_X6_undo
  rw [a4]
  refine qle (by omega) (by omega) (by decide) (by decide) (fun c => ?_) (fun c => ?_)
  · refine x_throw (e := 3) (by decide) (fun q => absurd q (by decide)) (fun q => absurd q (by decide)) (fun _ => ?_) (fun q => absurd q (by decide))
    show wp_X7_undo μ _
    unfold wp_X7_undo
    rw [a5]
    refine qt (jeq (by omega)) (al ?_)
    rw [zsp_at]
    refine qf (jnle (by decide) (by decide) (by decide)) ?_
    unfold wp_X7_thrown
    exact ⟨zsp_at, fun q => absurd q (jne (by decide) (by decide) (by decide) (by decide) (by decide)), hI.next (same_rf σ) (sameM_th μ 1 _ (by decide) (by decide))⟩
  · refine x_throw (e := 0) (by decide) (fun q => absurd q (by decide)) (fun q => absurd q (by decide)) (fun q => absurd q (by decide)) (fun _ => ?_)
    unfold wp_X5_popInto
    refine ⟨(f + (m - 1)) % 4, Nat.mod_lt _ (by decide), ?_, ?_, n_copyFrom (by omega) (fun s hs => ?_)⟩
    · rw [a3, a4, jI_add, jI_sub, show (f : Int) + (m : Int) - 1 = ((f + (m - 1) : Nat) : Int) by omega]
      exact jr (k := f + (m - 1)) (d := 4) (by omega) (by decide) (by decide)
    · rw [a4]
      exact jne (by omega)
    have e1 : s.2 41 = jI (m : Nat) := (hs.2.2.2 41 (fun j hj => by omega)).trans a4
    refine al ?_
    show wp_X7_undo μ _
    unfold wp_X7_undo
    rw [a5]
    refine qf (jne (by omega)) (al ?_)
    rw [zsp_at]
    refine qt (jle (by decide) (by decide) (by decide)) (al ?_)
    have e2 : (zsp μ 1 (jI 0)).2 0 - jI 1 = jI ((m - 1 : Nat) : Int) := by
      rw [zsp_nq (by decide), a5, jI_sub]
      exact jeq (by omega)
    rw [e2]
    refine m_back (μ := zsp (zsp μ 1 (jI 0)) 0 (jI ((m - 1 : Nat) : Int))) (m := m - 1) (by omega) zsp_at ?_
    have e3 : s.2 41 - jI 1 = jI ((m - 1 : Nat) : Int) := by
      rw [e1, jI_sub]
      exact jeq (by omega)
    rw [e3]
    unfold wp_X7_thrown
    obtain ⟨u1, u2, l', u3⟩ := a6 (m - 1) (by omega)
    have e : eqW (fun j => μ.1 1 (983 * (m - 1) + j)) ((upS (zsp (zsp μ 1 (jI 0)) 0 (jI ((m - 1 : Nat) : Int))) (983 * (m - 1)) 983).1 0) := fun j hj => by
      rw [upS_1, if_pos hj]
      rfl
    have m0 : (upS (zsp (zsp μ 1 (jI 0)) 0 (jI ((m - 1 : Nat) : Int))) (983 * (m - 1)) 983).2 0 = jI ((m - 1 : Nat) : Int) := (zsp_at : (zsp (zsp μ 1 (jI 0)) 0 (jI ((m - 1 : Nat) : Int))).2 0 = _)
    have m1 : (upS (zsp (zsp μ 1 (jI 0)) 0 (jI ((m - 1 : Nat) : Int))) (983 * (m - 1)) 983).2 1 = jI 0 := (zsp_nq (by decide) : (zsp (zsp μ 1 (jI 0)) 0 (jI ((m - 1 : Nat) : Int))).2 1 = _).trans zsp_at
    have e1q : (upS (zsp (zsp μ 1 (jI 0)) 0 (jI ((m - 1 : Nat) : Int))) (983 * (m - 1)) 983).1 1 = μ.1 1 := upS_o _ _ _ 1 (by decide)
    have ek : ∀ c : Nat, 8 ≤ c → c ≠ 41 → (zsp s 41 (jI ((m - 1 : Nat) : Int))).2 c = σ.2 c := fun c h1 h2 => (zsp_nq h2).trans (hs.2.2.2 c (fun j hj => by omega))
    have er : ∀ r : Nat, 10 ≤ r → s.1 r = σ.1 r := fun r h1 => hs.2.2.1 r (fun j hj => by omega)
    refine ⟨?_, fun _ => ?_, WF.congr e u1, ?_, ⟨l', RC.congrW e u1 (RC_pt u3 (fun j p hj hp => ?_) (fun j hj => ?_))⟩, ⟨f, m - 1, a1, by omega, ?_, zsp_at, m0, fun i hi => ?_⟩, ⟨k, b1, ?_, ?_, fun i hi => ?_⟩⟩
    · exact m1
    · rw [zsp_at]
      exact congrArg Int32.toInt64 m0.symm
    · rw [e.g (by decide)]
      push_cast
      omega
    · have := hs.1 j p hj (by rw [show 10 * 0 + j = j by omega]; exact hp)
      rw [show 10 * 0 + j = j by omega] at this
      exact this
    · have := hs.2.1 j hj
      rw [show 8 * 0 + j = j by omega] at this
      exact (zsp_nq (by omega)).trans this
    · exact (ek 40 (by decide) (by decide)).trans a3
    · rw [e1q]
      obtain ⟨c1, c2, l9, c3⟩ := a6 i (by omega)
      exact ⟨c1, by push_cast; omega, l9, RC_congr c3 (fun j hj => er _ (by omega)) (fun j hj => ek _ (by omega) (by omega))⟩
    · exact (ek 42 (by decide) (by decide)).trans b2
    · exact b3
    · show s.1 50 i = _ ∧ _
      rw [er 50 (by decide)]
      exact b4 i hi
def addW (w : Wd) : Wd := upd (upd w (44 + (nT w).toNat) (jI 0)) 0 (jI (nT w + 1))
section ADT
variable {w : Wd}
theorem addW_o (hW : WF w) {j : Nat} (h0 : j ≠ 0) (h1 : j ≠ 44 + (nT w).toNat) : addW w j = w j := (upd_o h0).trans (upd_o h1)
theorem addW_g (hW : WF w) {j : Nat} (h0 : j ≠ 0) (h1 : j < 44 ∨ 47 ≤ j ∨ j < 44 + (nT w).toNat) (h3 : nT w < 3) : gw (addW w) j = gw w j := congrArg Int32.toInt (addW_o hW h0 (by have := hW.1.1; omega))
theorem addW_nT (hW : WF w) (h3 : nT w < 3) : nT (addW w) = nT w + 1 := gw_jI upd_at (by have := hW.1.1; omega) (by omega)
theorem addW_nS (hW : WF w) (h3 : nT w < 3) : nS (addW w) (nT w).toNat = 0 := by
  refine gw_jI ((upd_o (by omega)).trans upd_at) (by decide) (by decide)
theorem addW_WF (hW : WF w) (h3 : nT w < 3) : WF (addW w) := by
  have g := fun {j : Nat} => @addW_g w hW j
  obtain ⟨⟨a1, a2, a3, a4⟩, hb, hc, hd, ⟨he, hee⟩, ⟨f1, f2, f3, f4, f5⟩⟩ := id hW
  have hT : ∀ k, aT (addW w) k = aT w k := fun k => g (by omega) (by omega) h3
  have hS : ∀ k, aS (addW w) k = aS w k := fun k => g (by omega) (by omega) h3
  have hX : ∀ k, aX (addW w) k = aX w k := fun k => g (by omega) (by omega) h3
  have hL : ∀ k, aL (addW w) k = aL w k := fun k => g (by omega) (by omega) h3
  have hw : ∀ k, k < 144 → wdt (addW w) k = wdt w k := fun k hk => by unfold wdt; rw [g (by omega) (by omega) h3]
  have hh : ∀ k, k < 144 → hgt (addW w) k = hgt w k := fun k hk => by unfold hgt; rw [g (by omega) (by omega) h3]
  have htl : ∀ t s, tl (addW w) t s = tl w t s := fun t s => g (by omega) (by omega) h3
  have htop : ∀ t s, topH (addW w) t s = topH w t s := fun t s => by
    induction s with
    | zero => rfl
    | succ s ih =>
      show topH (addW w) t s + tl (addW w) t s = topH w t s + tl w t s
      rw [ih, htl]
  have hnS : ∀ t : Nat, (t : Int) < nT w → nS (addW w) t = nS w t := fun t ht => g (by omega) (by omega) h3
  have hst : strt (addW w) = strt w := by
    unfold strt
    rw [g (by omega) (by omega) h3]
    refine List.map_congr_left (fun i hi => ?_)
    have := List.mem_range.mp hi
    rw [g (by omega) (by omega) h3]
  have hP : ∀ k, isP (addW w) k = isP w k := fun k => by unfold isP; rw [hT]
  refine ⟨⟨by rw [addW_nT hW h3]; omega, by rw [addW_nT hW h3]; omega, fun s hs => by rw [g (by omega) (by omega) h3]; exact a3 s hs, fun s hs => by rw [g (by omega) (by omega) h3]; exact a4 s hs⟩, fun t ht => ?_, fun k hk => ?_, fun k k' hk hk' hn hl => ?_, ⟨fun k hk hp => ?_, fun k k' hk hk' hp hp' hq => ?_⟩, ⟨by rw [g (by omega) (by omega) h3]; exact f1, by rw [g (by omega) (by omega) h3]; exact f2, fun i hi => ?_, by rw [hst]; exact f4, fun k => by rw [hst, hT]; exact f5 k⟩⟩
  · rw [addW_nT hW h3] at ht
    by_cases h : (t : Int) < nT w
    · obtain ⟨b1, b2, b3, b4⟩ := hb t h
      rw [hnS t h]
      refine ⟨b1, b2, fun s hs => by rw [htl]; exact b3 s hs, by rw [htop]; exact b4⟩
    · have e : t = (nT w).toNat := by omega
      subst e
      rw [addW_nS hW h3]
      exact ⟨by decide, by decide, fun s hs => by omega, (by decide : (0 : Int) ≤ 24)⟩
  · rw [hT, hS, hX, hw k hk, hh k hk, addW_nT hW h3, htl]
    rcases hc k hk with c1 | c1 | ⟨c1, c2, c3, c4, c5, c6, c7⟩
    · exact Or.inl c1
    · exact Or.inr (Or.inl c1)
    · rw [hnS _ (by omega)]
      exact Or.inr (Or.inr ⟨c1, by omega, c3, c4, c5, c6, c7⟩)
  · have hl : isL w k = true := by
      unfold isL at hl ⊢
      rw [hT] at hl
      exact hl
    rw [hT, hT, hS, hS, hX, hX, hw k hk, hw k' hk']
    exact hd k k' hk hk' hn hl
  · rw [hP] at hp
    rw [hL, g (by omega) (by omega) h3]
    exact he k hk hp
  · rw [hP] at hp hp'
    rw [hL, hL] at hq
    exact hee k k' hk hk' hp hp' hq
  · rw [g (by omega) (by omega) h3] at hi
    rw [g (by omega) (by omega) h3]
    exact f3 i hi
theorem addW_RC (hW : WF w) (h3 : nT w < 3) {r : Nat → Nat → Int32} {c c' : Nat → Int32} {l : List Nat} (hR : RC r c w l) (h1 : c' 1 = jI (nT w + 1)) (h2 : ∀ j, j ≠ 1 → c' j = c j) : RC r c' (addW w) l := by
  have g := fun {j : Nat} => @addW_o w hW j
  obtain ⟨⟨a1, a2, a3⟩, hb, ⟨l1, l2, l3, l4⟩, ⟨c0, c1, c2, c3, c4, c5, c6, c7⟩⟩ := hR
  have hn := hW.1.1
  have hT : ∀ k, aT (addW w) k = aT w k := fun k => congrArg Int32.toInt (g (by omega) (by omega))
  have hS : ∀ k, aS (addW w) k = aS w k := fun k => congrArg Int32.toInt (g (by omega) (by omega))
  have hX : ∀ k, aX (addW w) k = aX w k := fun k => congrArg Int32.toInt (g (by omega) (by omega))
  have hw : ∀ k, k < 144 → wdt (addW w) k = wdt w k := fun k hk => by unfold wdt gw; rw [g (by omega) (by omega)]
  have hP : ∀ k, isP (addW w) k = isP w k := fun k => by unfold isP; rw [hT]
  have hL : ∀ k, isL (addW w) k = isL w k := fun k => by unfold isL; rw [hT]
  have hst : strt (addW w) = strt w := by
    unfold strt gw
    rw [g (by omega) (by omega)]
    refine List.map_congr_left (fun i hi => ?_)
    have := List.mem_range.mp hi
    have h9 := hW.2.2.2.2.2.2.1
    unfold gw at h9
    rw [g (by omega) (by omega)]
  refine ⟨⟨fun s hs => by rw [g (by omega) (by omega)]; exact a1 s hs, fun s hs => by rw [g (by omega) (by omega)]; exact a2 s hs, fun t s ht hs => ?_⟩, fun k hk => ?_, ⟨l1, l2, fun k => by rw [hP]; exact l3 k, ?_⟩, ⟨(h2 0 (by decide)).trans c0, h1.trans upd_at.symm, (h2 2 (by decide)).trans (c2.trans (g (by decide) (by omega)).symm), (h2 3 (by decide)).trans (c3.trans (g (by decide) (by omega)).symm), (h2 4 (by decide)).trans (c4.trans (g (by decide) (by omega)).symm), (h2 5 (by decide)).trans (c5.trans (g (by decide) (by omega)).symm), (h2 6 (by decide)).trans (c6.trans (g (by decide) (by omega)).symm), (h2 7 (by decide)).trans (c7.trans (g (by decide) (by omega)).symm)⟩⟩
  · rw [a3 t s ht hs, addW_nT hW h3, g (by omega) (by omega)]
    by_cases h : (t : Int) < nT w
    · rw [show nS (addW w) t = nS w t from congrArg Int32.toInt (g (by omega) (by omega))]
      by_cases h4 : (s : Int) < nS w t
      · rw [if_pos ⟨h, h4⟩, if_pos ⟨by omega, h4⟩]
      · rw [if_neg (fun q => h4 q.2), if_neg (fun q => h4 q.2)]
    · rw [if_neg (fun q => h q.1)]
      by_cases h5 : t = (nT w).toNat
      · subst h5
        rw [addW_nS hW h3, if_neg (fun q => by omega)]
      · rw [if_neg (fun q => by omega)]
  · unfold slo
    rw [hT, hS, hL, hP, hX, hw k hk, g (by omega) (by omega), g (by omega) (by omega), g (by omega) (by omega)]
    exact hb k hk
  · rw [hst, ← l4]
    exact List.filter_congr (fun k hk => by rw [hT])
end ADT
theorem core_tray {σ μ : ST} {l : List Nat} (hW : WF (μ.1 0)) (hR : RK σ (μ.1 0) l) (h3 : nT (μ.1 0) < 3) : Core 0 σ μ (zsp σ 1 (σ.2 1 + jI 1)) (zrp (zrp μ 0 (44 + (nT (μ.1 0)).toNat) (jI 0)) 0 0 (jI (nT (μ.1 0) + 1))) := by
  have hn := hW.1.1
  have e0 : (zrp (zrp μ 0 (44 + (nT (μ.1 0)).toNat) (jI 0)) 0 0 (jI (nT (μ.1 0) + 1))).1 0 = addW (μ.1 0) := by rw [zrp0, zrp0]; rfl
  refine ⟨⟨fun r _ => rfl, fun c h1 _ => zsp_nq (by omega)⟩, ⟨fun r h1 h2 => (zrp_o h1).trans (zrp_o h1), fun c _ => rfl⟩, ?_, ⟨l, ?_⟩, ?_⟩
  · rw [e0]
    exact addW_WF hW h3
  · rw [e0]
    refine addW_RC hW h3 hR ?_ (fun j hj => zsp_nq hj)
    rw [zsp_at, show σ.2 1 = jI (nT (μ.1 0)) from hR.2.2.2.2.1.trans (gwj _ 0), jI_add]
  · rw [e0, addW_g hW (by decide) (by omega) h3]
    omega
theorem m_addsTray {μ : ST} {Q : Int32 → ST → Prop} (hW : WF (μ.1 0)) (h3 : nT (μ.1 0) < 3) (h : Q (jI (nT (μ.1 0))) (zrp (zrp μ 0 (44 + (nT (μ.1 0)).toNat) (jI 0)) 0 0 (jI (nT (μ.1 0) + 1)))) : wp_X7_addsTray μ Q := by
  have hn := hW.1.1
  unfold wp_X7_addsTray
  have e : μ.1 0 0 = jI (nT (μ.1 0)) := gwj _ 0
  refine m_rd 0 rfl (by decide) (by decide) ?_
  rw [e]
  refine m_wr (44 + (nT (μ.1 0)).toNat) (by rw [jI_add]; exact jeq (by omega)) (by omega) (by decide) (m_rd 0 rfl (by decide) (by decide) (m_wr 0 rfl (by decide) (by decide) (m_rd 0 rfl (by decide) (by decide) ?_)))
  have e2 : (zrp μ 0 (44 + (nT (μ.1 0)).toNat) (jI 0)).1 0 0 = jI (nT (μ.1 0)) := by rw [zrp0, upd_o (by omega), e]
  rw [e2, jI_add, zrp0, upd_at, jI_sub, show nT (μ.1 0) + 1 - 1 = nT (μ.1 0) by omega]
  exact h
theorem s_addTray : st_addTray Inv := by
  intro n σ μ v hn hI
  have hI' := hI
  obtain ⟨hW, hcl, ⟨l, hR⟩, -⟩ := hI'
  have w1 := hW.1.1
  have w2 := hW.1.2.1
  have ew : μ.1 0 0 = jI (nT (μ.1 0)) := gwj _ 0
  have es : σ.2 1 = jI (nT (μ.1 0)) := hR.2.2.2.2.1.trans ew
  unfold wL_addTray wx_X6_addTray wp_X6_faultOfAddTray
  rw [es]
  refine qle (by decide) (by decide) (by omega) (by omega) (fun c => ?_) (fun c => ?_)
  · refine x_throw (e := 3) (by decide) (fun q => absurd q (by decide)) (fun q => absurd q (by decide)) (fun _ => ?_) (fun q => absurd q (by decide))
    show wp_X7_addTray μ _
    unfold wp_X7_addTray
    refine m_rd 0 rfl (by decide) (by decide) ?_
    rw [ew]
    refine qt (jeq (by omega)) (al ?_)
    rw [zsp_at]
    refine qf (jnle (by decide) (by decide) (by decide)) ?_
    unfold wp_X7_thrown
    exact ⟨zsp_at, fun q => absurd q (jne (by decide) (by decide) (by decide) (by decide) (by decide)), hI.next (same_rf σ) (sameM_th μ 1 _ (by decide) (by decide))⟩
  · refine x_throw (e := 0) (by decide) (fun q => absurd q (by decide)) (fun q => absurd q (by decide)) (fun q => absurd q (by decide)) (fun _ => ?_)
    refine op_save hI (fun σ1 k1 k2 hs => ?_)
    have hR1 : RK σ1 (μ.1 0) l := RC_congr hR (fun j hj => k1 j (by omega)) (fun j hj => k2 j (by omega))
    unfold wp_X4_openTray
    refine al ?_
    show wp_X7_addTray μ _
    unfold wp_X7_addTray
    refine m_rd 0 rfl (by decide) (by decide) ?_
    rw [ew]
    refine qf (jne (by omega)) (al ?_)
    rw [zsp_at]
    refine qt (jle (by decide) (by decide) (by decide)) (hs _ (sameM_th μ 1 _ (by decide) (by decide)) _ (fun μ1 q1 q2 hu ht => ?_))
    have e0 : μ1.1 0 = μ.1 0 := q1 0 (by decide)
    refine m_addsTray (by rw [e0]; exact hW) (by rw [e0]; exact c) ?_
    unfold wp_X7_thrown
    refine ⟨?_, fun _ => ?_, Inv.core hu ht (by rw [e0]; exact hcl) (by decide) (core_tray (l := l) (by rw [e0]; exact hW) (by rw [e0]; exact hR1) (by rw [e0]; exact c))⟩
    · exact (q2 1 (by decide)).trans zsp_at
    · rw [zsp_at, show σ1.2 1 = jI (nT (μ.1 0)) from (k2 1 (by decide)).trans es, jI_add, jI_sub, e0, show nT (μ.1 0) + 1 - 1 = nT (μ.1 0) by omega]
theorem last_63 : True := trivial
