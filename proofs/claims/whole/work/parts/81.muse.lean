/-! using a letter: where it may stand; the class, the reference -/
/-- what is known of the place that was found -/
def Geo (w : Wd) (k : Nat) (ru : Int) (t s x : Nat) (lv : Int) : Prop := (ru = 1 ∧ (t : Int) < nT w ∧ (s : Int) < nS w t ∧ hgt w k ≤ tl w t s ∧ (x : Int) + wdt w k ≤ 24 ∧ lv = -1 ∧ ∀ k' : Nat, k' < 144 → isO w k' t s = true → (x : Int) + wdt w k ≤ aX w k' ∨ aX w k' + wdt w k' ≤ x) ∨ (ru = 2 ∧ (t : Int) < nT w ∧ (s : Int) = nS w t ∧ topH w t (nS w t).toNat + hgt w k ≤ 24 ∧ x = 0 ∧ lv = -1) ∨ (ru = 3 ∧ (t : Int) < nT w ∧ (s : Int) < nS w t ∧ hgt w k ≤ tl w t s ∧ x = 0 ∧ lv = -1) ∨ (ru = 4 ∧ lv = -1 ∧ gw w 7 < 4) ∨ (ru = 4 ∧ ∃ o : Nat, lv = o ∧ o < 144 ∧ isS w o = true)
theorem IsPl.geo {w : Wd} (hW : WF w) {k : Nat} (hk : k < 144) {ru : Int} {t s x : Nat} {tk lv : Int} (h : IsPl w k ru t s x tk lv) (h1 : 1 ≤ ru) : isP w k = false ∧ Geo w k ru t s x lv := by
  have hw := wdt_b hW hk
  rcases h with ⟨_, h, _⟩ | ⟨hp, h⟩
  · omega
  refine ⟨hp, ?_⟩
  rcases h with ⟨q, h2, h3, h4, h5, h6, h7⟩ | ⟨h2, h3⟩
  · obtain ⟨-, t', s', e1, e2, e3, e4, e5, e6⟩ := (gpS_spec hW k 72).2 q x h2
    have et : t' = t := by omega
    have es : s' = s := by omega
    subst et es
    have ht3 : t' < 3 := by have := hW.1.2.1; omega
    have hx := e6.1
    refine Or.inl ⟨h3, e3, e4, e5, by omega, h7, fun k' hk' ho => ?_⟩
    obtain ⟨-, -, q3, -⟩ := isO_c hW hk' ht3 ho
    have := FF_no (fun k' hk' => (wdt_b hW hk').1) e6 (by omega) k' hk' ho q3
    rw [show (((wdt w k).toNat : Nat) : Int) = wdt w k by omega] at this
    exact this
  rcases h3 with ⟨h3, h4, h5, h6, h7, h8⟩ | ⟨h3, h4⟩
  · exact Or.inr (Or.inl ⟨h4, h3.1, h5, h3.2.1, h6, h8⟩)
  rcases h4 with ⟨q, v, h4, h5, h6, h7, h8, h9, h10⟩ | ⟨h4, h5⟩
  · obtain ⟨-, t', s', e1, e2, e3, e4, e5, -⟩ := shP_spec k 72 q v h4
    have et : t' = t := by omega
    have es : s' = s := by omega
    subst et es
    exact Or.inr (Or.inr (Or.inl ⟨h5, e3, e4, e5, h8, h10⟩))
  rcases h5 with ⟨h5, h6, h7, h8⟩ | ⟨h5, a, h6, h7⟩
  · exact Or.inr (Or.inr (Or.inr (Or.inl ⟨h6, h8, h5⟩)))
  rcases h7 with ⟨h7, h8, h9, h10⟩ | ⟨o, h7, h8, h9, h10, h11⟩
  · omega
  · refine Or.inr (Or.inr (Or.inr (Or.inr ⟨h9, o, h11, h8, ?_⟩)))
    rcases h6 with ⟨q1, q2⟩ | ⟨z, q1, q2, q3, q4⟩
    · exact absurd (q1.symm.trans h7) (jne (by omega))
    · have := (jI_eq (a := z) (b := o) (by omega) (by omega) (by omega) (by omega)).mp (q1.symm.trans h7)
      rw [← show z = o by omega]
      exact q3.2.1
theorem Geo.v {w w' : Wd} (h : eqV w w') (hW : WF w) {k : Nat} (hk : k < 144) {ru : Int} {t s x : Nat} {lv : Int} (hG : Geo w k ru t s x lv) : Geo w' k ru t s x lv := by
  have hT2 := hW.1.2.1
  have hO : ∀ k', k' < 144 → isO w' k' t s = isO w k' t s := fun k' hk' => by unfold isO; rw [h.qaT hk', h.qaS hk']
  rcases hG with ⟨g1, g2, g3, g4, g5, g6, g7⟩ | ⟨g1, g2, g3, g4, g5, g6⟩ | ⟨g1, g2, g3, g4, g5, g6⟩ | ⟨g1, g2, g3⟩ | ⟨g1, o, g2, g3, g4⟩
  · have hb := hW.2.1 t g2
    refine Or.inl ⟨g1, by rw [h.qnT]; exact g2, by rw [h.qnS (by omega)]; exact g3, by rw [h.qhgt hk, h.qtl (by omega) (by omega)]; exact g4, by rw [h.qwdt hk]; exact g5, g6, fun k' hk' ho => ?_⟩
    rw [hO k' hk'] at ho
    rw [h.qwdt hk, h.qwdt hk', h.qaX hk']
    exact g7 k' hk' ho
  · have hb := hW.2.1 t g2
    exact Or.inr (Or.inl ⟨g1, by rw [h.qnT]; exact g2, by rw [h.qnS (by omega)]; exact g3, by rw [h.qnS (by omega), h.qtopH (by omega) _ (by omega), h.qhgt hk]; exact g4, g5, g6⟩)
  · have hb := hW.2.1 t g2
    exact Or.inr (Or.inr (Or.inl ⟨g1, by rw [h.qnT]; exact g2, by rw [h.qnS (by omega)]; exact g3, by rw [h.qhgt hk, h.qtl (by omega) (by omega)]; exact g4, g5, g6⟩))
  · exact Or.inr (Or.inr (Or.inr (Or.inl ⟨g1, g2, by rw [h.g (by decide)]; exact g3⟩)))
  · exact Or.inr (Or.inr (Or.inr (Or.inr ⟨g1, o, g2, g3, by unfold isS; rw [h.qaT g3]; exact g4⟩)))
theorem n_useLetter {σ : ST} {w : Wd} {l : List Nat} {k : Nat} {Q : ST → Prop} {ru : Int} {t s x : Nat} {tk lv : Int} (hR : RK σ w l) (hW : WF w) (hk : k < 144) (hP : IsPl w k ru t s x tk lv) (hC : PC σ ru t s x tk lv) (hne : ru ≠ -1) (hhit : ru = 0 → ∀ σ' : ST, HitC σ.1 σ'.1 σ.2 σ'.2 k → Kp σ σ' → σ'.2 45 = jI ru → Q σ') (hmk : 1 ≤ ru → ∀ σ1 σ' : ST, σ1.1 = σ.1 → σ1.2 5 = σ.2 5 + jI 1 → σ1.2 7 = σ.2 7 + jI (inkv w k) → (∀ j : Nat, j ≠ 5 → j ≠ 7 → σ1.2 j = σ.2 j) → ClsU σ1 σ' (inkW w (inkv w k)) l k ru t s x lv → Kp σ σ' → σ'.2 45 = jI ru → Q σ') : wp_X4_useLetter σ (jI (k : Nat)) Q := by
  have hb := hP.b
  have hz : ∀ r : Nat, zlen r = 144 → ∀ (s : ST) (v : Int32), zrs s r (jI (k : Nat)) v = zrp s r k v := fun r hr s v => cs s r k v (by rw [hr]; exact hk)
  unfold wp_X4_useLetter wp_X4_makeLetter
  by_cases h0 : ru = 0
  · refine qt (by rw [hC.1, h0]) (al (al (alE (hz 6 rfl _ _) (alE (hz 7 rfl _ _) (alE (cg _ 8 k (by show k < 144; exact hk)) (alE (hz 8 rfl _ _) (hhit h0 _ ⟨fun q hq => ?_, ?_, ?_, ?_, ?_, ?_, fun j j3 j4 => ?_⟩ ⟨fun r hr => ?_, fun c c1 c2 => ?_⟩ ?_)))))))
    · rw [zrp_o (by omega), zrp_o (by omega), zrp_o (by omega)]
      rfl
    · rw [zrp_o (by decide), zrp_o (by decide), zrp_at, zsp_at, zsp_nq (by decide)]
      rfl
    · rw [zrp_o (by decide), zrp_at, zrp_o (by decide), zrp_2, zsp_nq (by decide), zsp_nq (by decide)]
      rfl
    · rw [zrp_at, zrp_o (by decide), zrp_o (by decide)]
      rfl
    · rw [zrp_2, zrp_2, zrp_2, zsp_at, zsp_nq (by decide)]
    · rw [zrp_2, zrp_2, zrp_2, zsp_nq (by decide), zsp_at]
    · rw [zrp_2, zrp_2, zrp_2, zsp_nq j3, zsp_nq j4]
    · rw [zrp_o (by omega), zrp_o (by omega), zrp_o (by omega)]
      rfl
    · rw [zrp_2, zrp_2, zrp_2, zsp_nq (by omega), zsp_nq (by omega)]
    · rw [zrp_2, zrp_2, zrp_2, zsp_nq (by decide), zsp_nq (by decide)]
      exact hC.1
  obtain ⟨hp, hG⟩ := hP.geo hW hk (by omega)
  obtain ⟨c45, c46, c4s, -, c49⟩ := hC
  refine qf (by rw [c45]; exact jne h0) (n_inkFor hR hW hk (al (al ?_)))
  have hm := hmk (by omega) (zsp (zsp σ 7 (σ.2 7 + jI (inkv w k))) 5 ((zsp σ 7 (σ.2 7 + jI (inkv w k))).2 5 + jI 1))
  have b1 : (zsp (zsp σ 7 (σ.2 7 + jI (inkv w k))) 5 ((zsp σ 7 (σ.2 7 + jI (inkv w k))).2 5 + jI 1)).1 = σ.1 := rfl
  have b5 : (zsp (zsp σ 7 (σ.2 7 + jI (inkv w k))) 5 ((zsp σ 7 (σ.2 7 + jI (inkv w k))).2 5 + jI 1)).2 5 = σ.2 5 + jI 1 := zsp_at.trans (by rw [zsp_nq (by decide)])
  have b7 : (zsp (zsp σ 7 (σ.2 7 + jI (inkv w k))) 5 ((zsp σ 7 (σ.2 7 + jI (inkv w k))).2 5 + jI 1)).2 7 = σ.2 7 + jI (inkv w k) := (zsp_nq (by decide)).trans zsp_at
  have bo : ∀ j : Nat, j ≠ 5 → j ≠ 7 → (zsp (zsp σ 7 (σ.2 7 + jI (inkv w k))) 5 ((zsp σ 7 (σ.2 7 + jI (inkv w k))).2 5 + jI 1)).2 j = σ.2 j := fun j j5 j7 => (zsp_nq j5).trans (zsp_nq j7)
  generalize zsp (zsp σ 7 (σ.2 7 + jI (inkv w k))) 5 ((zsp σ 7 (σ.2 7 + jI (inkv w k))).2 5 + jI 1) = v at *
  have hR1 : RK v (inkW w (inkv w k)) l := by
    have := inkW_RC (c' := v.2) hW hR b5 b7 bo
    show RC v.1 v.2 _ l
    rw [b1]
    exact this
  have hV := inkW_V w (inkv w k)
  have hW1 := WF.congrV hV hW
  have hG1 := hG.v hV hW hk
  have hp1 : isP (inkW w (inkv w k)) k = false := by rw [hV.qisP hk]; exact hp
  have hkv : Kp σ v := ⟨fun r _ => by rw [b1], fun c h1 _ => bo c (by omega) (by omega)⟩
  have v45 : v.2 45 = jI ru := (bo 45 (by decide) (by decide)).trans c45
  have v49 : v.2 49 = jI lv := (bo 49 (by decide) (by decide)).trans c49
  have v46 : 1 ≤ ru → ru ≤ 3 → v.2 46 = jI ((24 * t + s : Nat) : Int) ∧ v.2 47 = jI (x : Nat) := fun q1 q2 => ⟨(bo 46 (by decide) (by decide)).trans (c46 q1 q2).1, (bo 47 (by decide) (by decide)).trans (c46 q1 q2).2⟩
  have v4s : ru = 4 → v.2 46 = jI (-1) := fun q => (bo 46 (by decide) (by decide)).trans (c4s q)
  generalize hwd : inkW w (inkv w k) = w1 at *
  have hlen := hR1.2.2.1.lt hk hp1
  have hT2 := hW1.1.2.1
  rcases hG1 with ⟨g1, g2, g3, g4, g5, g6, g7⟩ | ⟨g1, g2, g3, g4, g5, g6⟩ | ⟨g1, g2, g3, g4, g5, g6⟩ | ⟨g1, g2, g3⟩ | ⟨g1, o, g2, g3, g4⟩
  · refine qf (by rw [v45, g1]; exact jne (by decide) (by decide) (by decide) (by decide) (by decide)) (qf (by rw [v45, g1]; exact jne (by decide) (by decide) (by decide) (by decide) (by decide)) (qt (by rw [v49, g6]) ?_))
    obtain ⟨e46, e47⟩ := v46 (by omega) (by omega)
    refine n_tlAB (w := w1) (l := l) (fun s hs => hR1.1.1 s hs) hR1.n hlen hk e46 e47 (fun σ' hPC hK => hm σ' b1 b5 b7 bo ⟨v, l, _, _, hPC, fun _ _ => ⟨rfl, rfl⟩, fun q => by omega, Or.inl ⟨g1, rfl, rfl⟩⟩ (hkv.trans hK) ((hPC.2.2.2.2.2.2.2.2.2.2 45 (by decide) (by decide)).trans v45))
  · have hb9 := hW1.2.1 t g2
    have hh := hgt_b hW1 hk
    have hfit := sh_fits hW1 g2 hh.1 g4
    obtain ⟨e46, e47⟩ := v46 (by omega) (by omega)
    refine qt (by rw [v45, g1]) (n_heightOf hR1 hk ?_)
    rw [e46, cs v 2 (24 * t + s) _ (by show 24 * t + s < 72; omega)]
    refine al (qf (by rw [zrp_2, v45, g1]; exact jne (by decide) (by decide) (by decide) (by decide) (by decide)) (qt (by rw [zrp_2, v49, g6]) ?_))
    refine n_tlAB (w := w1) (l := l) (m := zrp v 2 (24 * t + s) (jI (hgt w1 k))) (fun s hs => by rw [zrp_o (by decide)]; exact hR1.1.1 s hs) hR1.n hlen hk e46 e47 (fun σ' hPC hK => hm σ' b1 b5 b7 bo ⟨_, l, _, _, hPC, fun _ _ => ⟨rfl, rfl⟩, fun q => by omega, Or.inr (Or.inl ⟨g1, zrp_at, fun q hq => zrp_o hq, rfl, rfl⟩)⟩ (hkv.trans ⟨fun r hr => (hK.1 r hr).trans (zrp_o (by omega)), fun c h1 h2 => hK.2 c h1 h2⟩) ((hPC.2.2.2.2.2.2.2.2.2.2 45 (by decide) (by decide)).trans v45))
  · have hb9 := hW1.2.1 t g2
    obtain ⟨e46, e47⟩ := v46 (by omega) (by omega)
    refine qf (by rw [v45, g1]; exact jne (by decide) (by decide) (by decide) (by decide) (by decide)) (qt (by rw [v45, g1]) ?_)
    rw [e46]
    refine n_emptyShelf hR1 hW1 (by omega) (by omega) (fun u hA => ?_)
    have a45 : ∀ c : Nat, 45 ≤ c → u.2 c = v.2 c := fun c hc => hA.2.2.2.2.2 c (by omega) (by omega)
    refine qt (by rw [a45 49 (by decide), v49, g6]) ?_
    refine n_tlAB (w := w1) (l := l.filter (fun z => !onB w1 t s z)) (fun s hs => by rw [hA.1 0 (by decide) (by decide)]; exact hR1.1.1 s hs) hA.2.2.2.1 (Nat.lt_of_le_of_lt (List.length_filter_le _ _) hlen) hk ((a45 46 (by decide)).trans e46) ((a45 47 (by decide)).trans e47) (fun σ' hPC hK => hm σ' b1 b5 b7 bo ⟨u, _, _, _, hPC, fun _ _ => ⟨rfl, rfl⟩, fun q => by omega, Or.inr (Or.inr (Or.inl ⟨g1, hA, rfl⟩))⟩ (hkv.trans (Kp.trans ⟨fun r hr => hA.1 r (by omega) (by omega), fun c h1 h2 => hA.2.2.2.2.2 c (by omega) (by omega)⟩ hK)) ((hPC.2.2.2.2.2.2.2.2.2.2 45 (by decide) (by decide)).trans ((a45 45 (by decide)).trans v45)))
  · refine qf (by rw [v45, g1]; exact jne (by decide) (by decide) (by decide) (by decide) (by decide)) (qf (by rw [v45, g1]; exact jne (by decide) (by decide) (by decide) (by decide) (by decide)) (qt (by rw [v49, g2]) ?_))
    obtain ⟨lf, e47, -, -⟩ := jI_ex (v.2 47)
    refine n_tlAB (w := w1) (l := l) (fun s hs => hR1.1.1 s hs) hR1.n hlen hk (v4s g1) e47 (fun σ' hPC hK => hm σ' b1 b5 b7 bo ⟨v, l, _, _, hPC, fun q1 q2 => by omega, fun _ => rfl, Or.inr (Or.inr (Or.inr (Or.inl ⟨g1, g2, rfl, rfl⟩)))⟩ (hkv.trans hK) ((hPC.2.2.2.2.2.2.2.2.2.2 45 (by decide) (by decide)).trans v45))
  · refine qf (by rw [v45, g1]; exact jne (by decide) (by decide) (by decide) (by decide) (by decide)) (qf (by rw [v45, g1]; exact jne (by decide) (by decide) (by decide) (by decide) (by decide)) (qf (by rw [v49, g2]; exact jne (by omega)) ?_))
    rw [v49, g2]
    refine hR1.tk g3 (bo_t (by have : aT w1 o = 3 := of_decide_eq_true g4; omega)) (fun u hA => ?_)
    have a45 : ∀ c : Nat, 45 ≤ c → u.2 c = v.2 c := fun c hc => hA.2.2.2.2.2 c (by omega) (by omega)
    obtain ⟨lf, e47, -, -⟩ := jI_ex (u.2 47)
    refine n_tlAB (w := w1) (l := l.filter (fun z => !(z == o))) (fun s hs => by rw [hA.1 0 (by decide) (by decide)]; exact hR1.1.1 s hs) hA.2.2.2.1 (Nat.lt_of_le_of_lt (List.length_filter_le _ _) hlen) hk ((a45 46 (by decide)).trans (v4s g1)) e47 (fun σ' hPC hK => hm σ' b1 b5 b7 bo ⟨u, _, _, _, hPC, fun q1 q2 => by omega, fun _ => rfl, Or.inr (Or.inr (Or.inr (Or.inr ⟨g1, o, g2, hA, rfl⟩)))⟩ (hkv.trans (Kp.trans ⟨fun r hr => hA.1 r (by omega) (by omega), fun c h1 h2 => hA.2.2.2.2.2 c (by omega) (by omega)⟩ hK)) ((hPC.2.2.2.2.2.2.2.2.2.2 45 (by decide) (by decide)).trans ((a45 45 (by decide)).trans v45)))
theorem last_81 : True := trivial
