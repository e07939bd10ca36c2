/-! what a step keeps; the counters don't matter for what is well-formed -/
theorem zrp0 {μ : ST} {i : Nat} {v : Int32} : (zrp μ 0 i v).1 0 = upd (μ.1 0) i v := by simp [zrp]
theorem zrp_at {μ : ST} {q i : Nat} {v : Int32} : (zrp μ q i v).1 q = upd (μ.1 q) i v := by simp [zrp]
theorem zrp_o {μ : ST} {q i r : Nat} {v : Int32} (h : r ≠ q) : (zrp μ q i v).1 r = μ.1 r := if_neg h
theorem upd_at {w : Nat → Int32} {i : Nat} {v : Int32} : upd w i v i = v := if_pos rfl
theorem upd_o {w : Nat → Int32} {i j : Nat} {v : Int32} (h : j ≠ i) : upd w i v j = w j := if_neg h
theorem gwu_o {w : Wd} {i j : Nat} {v : Int32} (h : j ≠ i) : gw (upd w i v) j = gw w j := congrArg Int32.toInt (upd_o h)
theorem gwu_at {w : Wd} {i : Nat} {a : Int} (h1 : -2147483648 ≤ a) (h2 : a < 2147483648) : gw (upd w i (jI a)) i = a := gw_jI upd_at h1 h2
def Kp (σ σ' : ST) : Prop := (∀ r : Nat, 10 ≤ r → σ'.1 r = σ.1 r) ∧ ∀ c : Nat, 8 ≤ c → c ≤ 44 → σ'.2 c = σ.2 c
def KpM (μ μ' : ST) : Prop := (∀ r : Nat, r ≠ 0 → r ≠ 2 → μ'.1 r = μ.1 r) ∧ ∀ c : Nat, c = 0 ∨ 8 ≤ c → μ'.2 c = μ.2 c
theorem Kp.rf (σ : ST) : Kp σ σ := ⟨fun _ _ => rfl, fun _ _ _ => rfl⟩
theorem KpM.rf (μ : ST) : KpM μ μ := ⟨fun _ _ _ => rfl, fun _ _ => rfl⟩
theorem Kp.trans {a b c : ST} (h1 : Kp a b) (h2 : Kp b c) : Kp a c := ⟨fun r hr => (h2.1 r hr).trans (h1.1 r hr), fun k h3 h4 => (h2.2 k h3 h4).trans (h1.2 k h3 h4)⟩
theorem KpM.trans {a b c : ST} (h1 : KpM a b) (h2 : KpM b c) : KpM a c := ⟨fun r h3 h4 => (h2.1 r h3 h4).trans (h1.1 r h3 h4), fun k h3 => (h2.2 k h3).trans (h1.2 k h3)⟩
def Core (d : Nat) (σ μ σ' μ' : ST) : Prop := Kp σ σ' ∧ KpM μ μ' ∧ WF (μ'.1 0) ∧ (∃ l : List Nat, RK σ' (μ'.1 0) l) ∧ gw (μ.1 0) 2 ≤ gw (μ'.1 0) 2 ∧ gw (μ'.1 0) 2 ≤ gw (μ.1 0) 2 + d
theorem Inv.core {n d : Nat} {σ μ σ' μ' : ST} (hu : UN n σ μ) (ht : TX σ μ) (hc : 0 ≤ gw (μ.1 0) 2 ∧ gw (μ.1 0) 2 ≤ 40 * n) (hd : d ≤ 40) (h : Core d σ μ σ' μ') : Inv (n + 1) σ' μ' := by
  obtain ⟨hs, hm, hW, hR, hcl⟩ := h
  obtain ⟨f, m, a1, a2, a3, a4, a5, a6⟩ := hu
  obtain ⟨k, b1, b2, b3, b4⟩ := ht
  refine ⟨hW, by push_cast; omega, hR, ⟨f, m, a1, a2, (hs.2 40 (by decide) (by decide)).trans a3, (hs.2 41 (by decide) (by decide)).trans a4, (hm.2 0 (Or.inl rfl)).trans a5, fun i hi => ?_⟩, ⟨k, b1, (hs.2 42 (by decide) (by decide)).trans b2, (hm.2 8 (by decide)).trans b3, fun i hi => ?_⟩⟩
  · rw [hm.1 1 (by decide) (by decide)]
    obtain ⟨c1, c2, l', c3⟩ := a6 i hi
    exact ⟨c1, by push_cast; omega, l', RC_congr c3 (fun j hj => hs.1 _ (by omega)) (fun j hj => hs.2 _ (by omega) (by omega))⟩
  · rw [hm.1 3 (by decide) (by decide), hs.1 50 (by decide)]
    exact b4 i hi
theorem op_save {n : Nat} {σ μ : ST} (hI : Inv n σ μ) {K : ST → Prop} (h : ∀ σ1 : ST, (∀ r : Nat, r < 10 ∨ 50 ≤ r → σ1.1 r = σ.1 r) → (∀ c : Nat, c < 8 ∨ 42 ≤ c → σ1.2 c = σ.2 c) → (∀ μ' : ST, sameM μ μ' → ∀ Q' : ST → Prop, (∀ μ1 : ST, (∀ r : Nat, r ≠ 1 → μ1.1 r = μ'.1 r) → (∀ c : Nat, c ≠ 0 → μ1.2 c = μ'.2 c) → UN n σ1 μ1 → TX σ1 μ1 → Q' μ1) → wp_X7_saves μ' Q') → K σ1) : wp_X5_push σ K := by
  obtain ⟨hW, hcl, ⟨l, hR⟩, ⟨f, m, a1, a2, a3, a4, a5, a6⟩, hT⟩ := hI
  refine n_push a1 a2 a3 a4 (fun σ1 hp => h σ1 hp.keep.1 hp.keep.2 (fun μ' hm Q' hQ => ?_))
  obtain ⟨m1, m2, m3, m4, m5⟩ := hm
  refine m_saves a2 (m4.trans a5) (fun μ1 hs => hQ μ1 hs.1 hs.2.1 ?_ ?_)
  · refine UN_save (μ := μ') (l := l) (by rw [m1]; exact hW) (by rw [m1]; exact hcl) (by rw [m1]; exact hR) a1 a2 (fun i hi => ?_) hp hs
    rw [m2]
    exact a6 i hi
  · refine TX_save hp hs ?_
    obtain ⟨k, b1, b2, b3, b4⟩ := hT
    exact ⟨k, b1, b2, m5.trans b3, fun i hi => by rw [m3]; exact b4 i hi⟩
theorem Inv.keep {n : Nat} {σ μ σ' μ' : ST} (h : Inv n σ μ) (hs : same σ σ') (hm : sameM μ μ') : Inv n σ' μ' := by
  obtain ⟨h1, h2, ⟨l, h3⟩, ⟨f, m, a1, a2, a3, a4, a5, a6⟩, ⟨k, b1, b2, b3, b4⟩⟩ := h
  obtain ⟨m1, m2, m3, m4, m5⟩ := hm
  refine ⟨by rw [m1]; exact h1, by rw [m1]; exact h2, ⟨l, by rw [m1]; exact RC_congr h3 (fun j hj => hs.1 j (by omega)) (fun j hj => hs.2 j (by omega))⟩, ⟨f, m, a1, a2, (hs.2 40 (by decide)).trans a3, (hs.2 41 (by decide)).trans a4, m4.trans a5, fun i hi => ?_⟩, ⟨k, b1, (hs.2 42 (by decide)).trans b2, m5.trans b3, fun i hi => ?_⟩⟩
  · rw [m2]
    obtain ⟨c1, c2, l', c3⟩ := a6 i hi
    exact ⟨c1, c2, l', RC_congr c3 (fun j hj => hs.1 _ (by omega)) (fun j hj => hs.2 _ (by omega))⟩
  · rw [m3, hs.1 50 (by decide)]
    exact b4 i hi
def eqV (w w' : Wd) : Prop := ∀ j : Nat, (j = 0 ∨ j = 2 ∨ 7 ≤ j) → j < 983 → w' j = w j
section CNV
variable {w w' : Wd}
theorem eqV.g (h : eqV w w') {j : Nat} (hj : (j = 0 ∨ j = 2 ∨ 7 ≤ j) ∧ j < 983) : gw w' j = gw w j := by unfold gw; rw [h j hj.1 hj.2]
theorem eqV.qaT (h : eqV w w') {k : Nat} (hk : k < 144) : aT w' k = aT w k := h.g (by omega)
theorem eqV.qaS (h : eqV w w') {k : Nat} (hk : k < 144) : aS w' k = aS w k := h.g (by omega)
theorem eqV.qaX (h : eqV w w') {k : Nat} (hk : k < 144) : aX w' k = aX w k := h.g (by omega)
theorem eqV.qaL (h : eqV w w') {k : Nat} (hk : k < 144) : aL w' k = aL w k := h.g (by omega)
theorem eqV.qwdt (h : eqV w w') {k : Nat} (hk : k < 144) : wdt w' k = wdt w k := by
  show gw w' _ * _ + _ = gw w _ * _ + _
  rw [h.g (by omega)]
theorem eqV.qhgt (h : eqV w w') {k : Nat} (hk : k < 144) : hgt w' k = hgt w k := by
  show gw w' _ * _ + _ = gw w _ * _ + _
  rw [h.g (by omega)]
theorem eqV.qnT (h : eqV w w') : nT w' = nT w := h.g (by decide)
theorem eqV.qnS (h : eqV w w') {t : Nat} (ht : t < 3) : nS w' t = nS w t := h.g (by omega)
theorem eqV.qtl (h : eqV w w') {t s : Nat} (ht : t < 3) (hs : s < 24) : tl w' t s = tl w t s := h.g (by omega)
theorem eqV.qtopH (h : eqV w w') {t : Nat} (ht : t < 3) : ∀ s : Nat, s ≤ 24 → topH w' t s = topH w t s := by
  intro s
  induction s with
  | zero => intro _; rfl
  | succ s ih =>
    intro hs
    show topH w' t s + tl w' t s = topH w t s + tl w t s
    rw [ih (by omega), h.qtl ht (by omega)]
theorem eqV.qisP (h : eqV w w') {k : Nat} (hk : k < 144) : isP w' k = isP w k := by
  show decide _ = decide _
  rw [h.qaT hk]
theorem eqV.qisL (h : eqV w w') {k : Nat} (hk : k < 144) : isL w' k = isL w k := by
  show decide _ = decide _
  rw [h.qaT hk]
theorem eqV.qstrt (h : eqV w w') (h4 : gw w 7 ≤ 4) : strt w' = strt w := by
  show (List.range (gw w' 7).toNat).map _ = (List.range (gw w 7).toNat).map _
  rw [h.g (by decide)]
  refine List.map_congr_left (fun i hi => ?_)
  have := List.mem_range.mp hi
  rw [h.g (by omega)]
theorem eqV.qslo (h : eqV w w') {k : Nat} (hk : k < 144) : slo w' k = slo w k := by
  show (if _ then _ else _) = (if _ then _ else _)
  rw [h.qaT hk, h.qaS hk]
theorem WF.congrV (h : eqV w w') (hW : WF w) : WF w' := by
  obtain ⟨⟨a1, a2, a3, a4⟩, hb, hc, hd, ⟨he, hee⟩, ⟨f1, f2, f3, f4, f5⟩⟩ := hW
  refine ⟨⟨by rw [h.qnT]; exact a1, by rw [h.qnT]; exact a2, fun s hs => by rw [h.g (by omega)]; exact a3 s hs, fun s hs => by rw [h.g (by omega)]; exact a4 s hs⟩, fun t ht => ?_, fun k hk => ?_, fun k k' hk hk' hn hl => ?_, ⟨fun k hk hp => ?_, fun k k' hk hk' hp hp' hq => ?_⟩, ⟨by rw [h.g (by decide)]; exact f1, by rw [h.g (by decide)]; exact f2, fun i hi => ?_, by rw [h.qstrt f2]; exact f4, fun k => ?_⟩⟩
  · rw [h.qnT] at ht
    obtain ⟨b1, b2, b3, b4⟩ := hb t ht
    have ht3 : t < 3 := by omega
    rw [h.qnS ht3]
    refine ⟨b1, b2, fun s hs => ?_, ?_⟩
    · rw [h.qtl ht3 (by omega)]
      exact b3 s hs
    · rw [h.qtopH ht3 _ (by omega)]
      exact b4
  · rw [h.qaT hk, h.qaS hk, h.qaX hk, h.qwdt hk, h.qhgt hk, h.qnT]
    rcases hc k hk with c1 | c1 | ⟨c1, c2, c3, c4, c5, c6, c7⟩
    · exact Or.inl c1
    · exact Or.inr (Or.inl c1)
    · have hb9 := hb (aT w k).toNat (by omega)
      have e1 : nS w' (aT w k).toNat = nS w (aT w k).toNat := h.qnS (by omega)
      have e2 : tl w' (aT w k).toNat (aS w k).toNat = tl w (aT w k).toNat (aS w k).toNat := h.qtl (by omega) (by omega)
      rw [e1, e2]
      exact Or.inr (Or.inr ⟨c1, c2, c3, c4, c5, c6, c7⟩)
  · rw [h.qisL hk] at hl
    rw [h.qaT hk, h.qaT hk', h.qaS hk, h.qaS hk', h.qaX hk, h.qaX hk', h.qwdt hk, h.qwdt hk']
    exact hd k k' hk hk' hn hl
  · rw [h.qisP hk] at hp
    rw [h.qaL hk, h.g (by decide)]
    exact he k hk hp
  · rw [h.qisP hk] at hp
    rw [h.qisP hk'] at hp'
    rw [h.qaL hk, h.qaL hk'] at hq
    exact hee k k' hk hk' hp hp' hq
  · rw [h.g (by decide)] at hi
    rw [h.g (by omega)]
    exact f3 i hi
  · rw [h.qstrt f2, f5 k]
    constructor
    · intro ⟨q1, q2⟩
      exact ⟨q1, by rw [h.qaT q1]; exact q2⟩
    · intro ⟨q1, q2⟩
      rw [h.qaT q1] at q2
      exact ⟨q1, q2⟩
theorem eqV.at (h : eqV w w') {j : Nat} (hj : (j = 0 ∨ j = 2 ∨ 7 ≤ j) ∧ j < 983) : w' j = w j := h j hj.1 hj.2
theorem RC.congrV {r : Nat → Nat → Int32} {c : Nat → Int32} {l : List Nat} (h : eqV w w') (hW : WF w) {c' : Nat → Int32} (hs : RCs c' w' l) (hR : RC r c w l) : RC r c' w' l := by
  obtain ⟨⟨a1, a2, a3⟩, hb, ⟨l1, l2, l3, l4⟩, -⟩ := hR
  have hk9 : ∀ k ∈ l, k < 144 := fun k hk => ((l3 k).mp hk).1
  refine ⟨⟨fun s hs => by rw [h.at (by omega)]; exact a1 s hs, fun s hs => by rw [h.at (by omega)]; exact a2 s hs, fun t s ht hs => ?_⟩, fun k hk => ?_, ⟨l1, l2, fun k => ?_, ?_⟩, hs⟩
  · rw [h.qnT, h.qnS ht, h.at (by omega)]
    exact a3 t s ht hs
  · rw [h.qslo hk, h.qisL hk, h.qisP hk, h.qaX hk, h.qwdt hk, h.at (j := 119 + 6 * k + 3) (by omega), h.at (j := 119 + 6 * k + 4) (by omega), h.at (j := 119 + 6 * k + 5) (by omega)]
    exact hb k hk
  · rw [l3 k]
    constructor
    · intro ⟨q1, q2⟩
      exact ⟨q1, by rw [h.qisP q1]; exact q2⟩
    · intro ⟨q1, q2⟩
      rw [h.qisP q1] at q2
      exact ⟨q1, q2⟩
  · rw [h.qstrt hW.2.2.2.2.2.2.1, ← l4]
    refine List.filter_congr (fun k hk => ?_)
    rw [h.qaT (hk9 k hk)]
end CNV
theorem core_line {σ μ : ST} {l : List Nat} (hW : WF (μ.1 0)) (hR : RK σ (μ.1 0) l) : Core 0 σ μ (zsp σ 2 (σ.2 2 + jI 1)) (zrp μ 0 1 (μ.1 0 1 + jI 1)) := by
  have he : eqV (μ.1 0) (upd (μ.1 0) 1 (μ.1 0 1 + jI 1)) := fun j h1 h2 => upd_o (by omega)
  refine ⟨⟨fun r _ => rfl, fun c h1 _ => zsp_nq (by omega)⟩, ⟨fun r h1 h2 => zrp_o h1, fun c _ => rfl⟩, ?_, ⟨l, ?_⟩, ?_⟩
  · rw [zrp0]
    exact WF.congrV he hW
  · rw [zrp0]
    obtain ⟨c0, c1, c2, c3, c4, c5, c6, c7⟩ := hR.2.2.2
    refine RC.congrV he hW ⟨(zsp_nq (by decide)).trans c0, (zsp_nq (by decide)).trans (c1.trans (upd_o (by decide)).symm), ?_, (zsp_nq (by decide)).trans (c3.trans (upd_o (by decide)).symm), (zsp_nq (by decide)).trans (c4.trans (upd_o (by decide)).symm), (zsp_nq (by decide)).trans (c5.trans (upd_o (by decide)).symm), (zsp_nq (by decide)).trans (c6.trans (upd_o (by decide)).symm), (zsp_nq (by decide)).trans (c7.trans (upd_o (by decide)).symm)⟩ hR
    rw [zsp_at, upd_at, c2]
  · rw [zrp0, he.g (by decide)]
    omega
theorem s_newLine : st_newLine Inv := by
  intro n σ μ hn hI
  have hI' := hI
  obtain ⟨hW, hcl, ⟨l, hR⟩, -⟩ := hI'
  unfold wp_X6_newLine
  refine op_save hI (fun σ1 k1 k2 hs => ?_)
  have hR1 : RK σ1 (μ.1 0) l := RC_congr hR (fun j hj => k1 j (by omega)) (fun j hj => k2 j (by omega))
  unfold wp_X4_beginLine
  refine n_countOfLine hR1 (al ?_)
  unfold wp_X7_newLine
  refine al (hs _ (sameM_th μ 1 _ (by decide) (by decide)) _ (fun μ1 q1 q2 hu ht => ?_))
  have e0 : μ1.1 0 = μ.1 0 := q1 0 (by decide)
  refine m_manyNow (m_rd 1 rfl (by decide) (by decide) (m_wr 1 rfl (by decide) (by decide) ⟨by rw [e0], ?_⟩))
  exact Inv.core hu ht (by rw [e0]; exact hcl) (by decide) (core_line (l := l) (by rw [e0]; exact hW) (by rw [e0]; exact hR1))
theorem last_62 : True := trivial
