/-! letters that go -/
theorem cnt1 {l : List Nat} {k : Nat} (hn : l.Nodup) (hk : k ∈ l) : l.countP (fun z => z == k) = 1 := by
  induction l with
  | nil => exact absurd hk List.not_mem_nil
  | cons x l ih =>
    obtain ⟨h1, h2⟩ := List.nodup_cons.mp hn
    rw [List.countP_cons]
    by_cases hx : x = k
    · subst hx
      have h0 : l.countP (fun z => z == x) = 0 := List.countP_eq_zero.mpr (fun z hz q => h1 (by rw [← beq_iff_eq.mp q]; exact hz))
      rw [h0, if_pos (beq_self_eq_true x)]
    · have hk2 : k ∈ l := by
        rcases List.mem_cons.mp hk with h | h
        · exact absurd h.symm hx
        · exact h
      rw [ih h2 hk2, if_neg (fun q => hx (beq_iff_eq.mp q))]
theorem take_f {l : List Nat} {p : Nat → Bool} {i x : Nat} (h : l[i]? = some x) : (l.take (i + 1)).filter p = (l.take i).filter p ++ (if p x = true then [x] else []) := by
  rw [List.take_add_one, h, List.filter_append]
  cases hp : p x <;> simp [hp]
def AwayS (r r' : Nat → Nat → Int32) (c c' : Nat → Int32) (l : List Nat) (S : Nat → Bool) : Prop := (∀ q : Nat, q ≠ 3 → q ≠ 9 → r' q = r q) ∧ (∀ k : Nat, k < 144 → r' 3 k = if S k = true then jI (-2) else r 3 k) ∧ (∀ i k : Nat, (l.filter (fun z => !S z))[i]? = some k → r' 9 i = jI k) ∧ c' 0 = jI ((l.filter (fun z => !S z)).length : Nat) ∧ c' 6 = c 6 + jI ((l.countP S : Nat) : Int) ∧ ∀ j : Nat, j ≠ 0 → j ≠ 6 → c' j = c j
theorem n_takeAway {σ : ST} {l : List Nat} {k : Nat} {Q : ST → Prop} (hl : ∀ i k : Nat, l[i]? = some k → σ.1 9 i = jI k) (hlt : ∀ k ∈ l, k < 144) (hn : l.Nodup) (hlen : l.length ≤ 144) (h0 : σ.2 0 = jI (l.length : Nat)) (hk : k ∈ l) (h : ∀ σ' : ST, AwayS σ.1 σ'.1 σ.2 σ'.2 l (fun z => z == k) → Q σ') : wp_X4_takeAway σ (jI k) Q := by
  have hk9 := hlt k hk
  unfold wp_X4_takeAway
  refine lp_inv (α := ST × Int32 × Int32) (L := fun n a => wl_X4_takeAway_4 _ _ n a.1 a.2.1 a.2.2) (B := fun LL a => wb_X4_takeAway_4 _ (fun t y z => LL (t, y, z)) _ a.1 a.2.1 a.2.2) (fun n a => rfl) (fun i a => a.2.1 = jI (((l.take i).filter (fun z => !(z == k))).length : Nat) ∧ a.2.2 = jI (i : Nat) ∧ a.1.2 = σ.2 ∧ (∀ q : Nat, q ≠ 9 → a.1.1 q = σ.1 q) ∧ (∀ p z : Nat, ((l.take i).filter (fun z => !(z == k)))[p]? = some z → a.1.1 9 p = jI z) ∧ ∀ p z : Nat, i ≤ p → l[p]? = some z → a.1.1 9 p = jI z) l.length (fun i a hi ha LL hLL => ?_) (σ, jI 0, jI 0) ⟨rfl, rfl, rfl, fun _ _ => rfl, fun p z hz => by simp at hz, fun p z _ hz => hl p z hz⟩
  obtain ⟨t, y, x⟩ := a
  obtain ⟨ha1, ha2, ha3, ha4, ha5, ha6⟩ := ha
  dsimp only at ha1 ha2 ha3 ha4 ha5 ha6 ⊢
  subst ha1 ha2
  unfold wb_X4_takeAway_4
  rw [ha3, h0]
  have hfl : ((l.take i).filter (fun z => !(z == k))).length ≤ i := Nat.le_trans (List.length_filter_le _ _) (by rw [List.length_take]; omega)
  refine qle (by omega) (by omega) (by omega) (by omega) (fun c => ?_) (fun c => ?_)
  · have e : i = l.length := by omega
    subst e
    rw [List.take_length] at ha5 hfl ⊢
    refine al ?_
    rw [cs _ 3 k (jI (-2)) (by show k < 144; exact hk9)]
    refine al (al (h _ ⟨fun q q1 q2 => ?_, fun k' hk' => ?_, fun p z hz => ?_, ?_, ?_, fun j j1 j2 => ?_⟩))
    · exact (zrp_o q1).trans (ha4 q q2)
    · show (zrp _ 3 k (jI (-2))).1 3 k' = _
      rw [zrp_at]
      by_cases hkk : k' = k
      · subst hkk
        rw [upd_at, if_pos (beq_self_eq_true k')]
      · rw [upd_o hkk, if_neg (fun q => hkk (beq_iff_eq.mp q))]
        exact congrFun (ha4 3 (by decide)) k'
    · show (zrp _ 3 k (jI (-2))).1 9 p = _
      rw [zrp_o (by decide)]
      exact ha5 p z hz
    · refine (zsp_nq (by decide)).trans ?_
      show (zsp t 0 _).2 0 = _
      exact zsp_at
    · refine zsp_at.trans ?_
      rw [cnt1 hn hk]
      show (zsp t 0 (jI ((l.filter (fun z => !(z == k))).length : Nat))).2 6 + jI 1 = _
      rw [zsp_nq (by decide), ha3]
      rfl
    · refine (zsp_nq j2).trans ?_
      show (zsp t 0 _).2 j = _
      rw [zsp_nq j1, ha3]
  · have hil : i < l.length := by omega
    have hi1 := List.getElem?_eq_getElem hil
    have e2 := hlt _ (List.mem_of_getElem? hi1)
    have e1 : zrg t 9 (jI (i : Nat)) = jI (l[i] : Nat) := (cg t 9 i (by show i < 144; omega)).trans (ha6 i _ (Nat.le_refl i) hi1)
    refine alE e1 ?_
    refine qeq (by omega) (by omega) (by omega) (by omega) (fun c2 => ?_) (fun c2 => ?_)
    · have e3 : (l.take (i + 1)).filter (fun z => !(z == k)) = (l.take i).filter (fun z => !(z == k)) := by
        rw [take_f hi1, if_neg, List.append_nil]
        rw [show l[i] = k by omega, beq_self_eq_true]
        decide
      refine alE (jI_add _ _) (hLL _ hil ⟨by rw [e3], rfl, ha3, ha4, by rw [e3]; exact ha5, fun p z hp hz => ha6 p z (by omega) hz⟩)
    · have e3 : (l.take (i + 1)).filter (fun z => !(z == k)) = (l.take i).filter (fun z => !(z == k)) ++ [l[i]] := by
        rw [take_f hi1, if_pos]
        have : (l[i] == k) = false := beq_eq_false_iff_ne.mpr (by omega)
        rw [this]
        rfl
      rw [cs t 9 _ _ (by show _ < 144; omega)]
      refine al (alE (jI_add _ _) (alE (jI_add _ _) (hLL _ hil ⟨?_, rfl, ha3, fun q hq => (zrp_o hq).trans (ha4 q hq), fun p z hz => ?_, fun p z hp hz => ?_⟩)))
      · rw [e3, List.length_append]
        rfl
      · rw [e3] at hz
        dsimp only
        rw [zrp_at]
        by_cases hp : p = ((l.take i).filter (fun z => !(z == k))).length
        · subst hp
          rw [List.getElem?_append_right (Nat.le_refl _), Nat.sub_self] at hz
          cases hz
          exact upd_at
        · have hp2 := (List.getElem?_eq_some_iff.mp hz).1
          rw [List.length_append] at hp2
          have hp3 : p < ((l.take i).filter (fun z => !(z == k))).length := by
            have : [l[i]].length = 1 := rfl
            omega
          rw [List.getElem?_append_left hp3] at hz
          rw [upd_o hp]
          exact ha5 p z hz
      · dsimp only
        rw [zrp_at, upd_o (by omega)]
        exact ha6 p z (by omega) hz
def GoneS (w w' : Wd) (S : Nat → Bool) : Prop := (∀ j : Nat, j ≠ 5 → (j < 7 ∨ 12 ≤ j) → (∀ k : Nat, k < 144 → S k = true → j ≠ 119 + 6 * k) → w' j = w j) ∧ (∀ k : Nat, k < 144 → S k = true → w' (119 + 6 * k) = jI (-1)) ∧ w' 5 = w 5 + jI (((List.range 144).countP S : Nat) : Int) ∧ strt w' = (strt w).filter (fun z => !S z) ∧ 0 ≤ gw w' 7 ∧ gw w' 7 ≤ 4 ∧ ∀ i : Nat, (i : Int) < gw w' 7 → 0 ≤ gw w' (8 + i) ∧ gw w' (8 + i) < 144
theorem goes_end {w u : Wd} {k : Nat} (hk : k < 144) (ho : ∀ j : Nat, (j < 7 ∨ 12 ≤ j) → u j = w j) (h7 : 0 ≤ gw u 7 ∧ gw u 7 ≤ 4) (hs : strt u = (strt w).filter (fun z => !(z == k))) (hb : ∀ i : Nat, (i : Int) < gw u 7 → 0 ≤ gw u (8 + i) ∧ gw u (8 + i) < 144) : GoneS w (upd (upd u (119 + 6 * k) (jI (-1))) 5 (upd u (119 + 6 * k) (jI (-1)) 5 + jI 1)) (fun z => z == k) := by
  have hc1 : (List.range 144).countP (fun z => z == k) = 1 := cnt1 List.nodup_range (List.mem_range.mpr hk)
  have hg : ∀ j : Nat, 7 ≤ j → j < 12 → gw (upd (upd u (119 + 6 * k) (jI (-1))) 5 (upd u (119 + 6 * k) (jI (-1)) 5 + jI 1)) j = gw u j := fun j h1 h2 => (gwu_o (by omega)).trans (gwu_o (by omega))
  refine ⟨fun j h5 hj hn => ?_, fun k' hk' hq => ?_, ?_, ?_, ?_, ?_, fun i hi => ?_⟩
  · rw [upd_o h5, upd_o (hn k hk (beq_self_eq_true k))]
    exact ho j hj
  · have e : k' = k := beq_iff_eq.mp hq
    subst e
    rw [upd_o (by omega), upd_at]
  · rw [upd_at, upd_o (by omega), ho 5 (by decide), hc1]
    rfl
  · rw [← hs]
    unfold strt
    rw [hg 7 (by decide) (by decide)]
    refine List.map_congr_left (fun i hi => ?_)
    have := List.mem_range.mp hi
    rw [hg (8 + i) (by omega) (by omega)]
  · rw [hg 7 (by decide) (by decide)]
    exact h7.1
  · rw [hg 7 (by decide) (by decide)]
    exact h7.2
  · rw [hg 7 (by decide) (by decide)] at hi
    have := h7.2
    rw [hg (8 + i) (by omega) (by omega)]
    exact hb i hi
theorem m_goes {μ : ST} {k : Nat} {Q : ST → Prop} (hf : WFf (μ.1 0)) (hk : k < 144) (h : ∀ μ' : ST, (∀ q : Nat, q ≠ 0 → μ'.1 q = μ.1 q) → μ'.2 = μ.2 → GoneS (μ.1 0) (μ'.1 0) (fun z => z == k) → Q μ') : wp_X7_goes μ (jI k) Q := by
  have hat : ∀ (e : Int32), e = jI 119 + jI 6 * jI (k : Nat) → e = jI ((119 + 6 * k : Nat) : Int) := fun e he => by
    rw [he, jI_mul, jI_add]
    exact jeq (by omega)
  unfold wp_X7_goes
  refine m_of (f := 0) hk (by decide) ?_
  rw [gwj (μ.1 0)]
  refine qeq (gw_lo _ _) (gw_hi _ _) (by decide) (by decide) (fun c => ?_) (fun c => ?_)
  · obtain ⟨f1, f2, f3, f4, f5⟩ := hf
    refine lp_inv (α := ST × Int32 × Int32) (L := fun n a => wl_X7_goes_14 _ _ n a.1 a.2.1 a.2.2) (B := fun LL a => wb_X7_goes_14 _ (fun t y z => LL (t, y, z)) _ a.1 a.2.1 a.2.2) (fun n a => rfl) (fun i a => a.2.2 = jI (i : Nat) ∧ a.1.2 = μ.2 ∧ (∀ q : Nat, q ≠ 0 → a.1.1 q = μ.1 q) ∧ (∀ j : Nat, (j < 8 ∨ 12 ≤ j) → a.1.1 0 j = μ.1 0 j) ∧ (∃ n : Nat, n ≤ i ∧ a.2.1 = jI (n : Nat) ∧ (List.range n).map (fun p => (gw (a.1.1 0) (8 + p)).toNat) = ((strt (μ.1 0)).take i).filter (fun z => !(z == k)) ∧ ∀ p : Nat, p < n → 0 ≤ gw (a.1.1 0) (8 + p) ∧ gw (a.1.1 0) (8 + p) < 144) ∧ ∀ p : Nat, i ≤ p → p < 4 → a.1.1 0 (8 + p) = μ.1 0 (8 + p)) (gw (μ.1 0) 7).toNat (fun i a hi ha LL hLL => ?_) (μ, jI 0, jI 0) ⟨rfl, rfl, fun _ _ => rfl, fun _ _ => rfl, ⟨0, Nat.le_refl 0, rfl, rfl, fun p hp => absurd hp (Nat.not_lt_zero p)⟩, fun _ _ _ => rfl⟩
    obtain ⟨t, y, x⟩ := a
    obtain ⟨ha2, ha3, ha4, ha5, ⟨n, hn1, hn2, hn3, hn4⟩, ha6⟩ := ha
    dsimp only at ha2 ha3 ha4 ha5 hn2 hn3 hn4 ha6 ⊢
    subst ha2 hn2
    unfold wb_X7_goes_14
    have h7 : t.1 0 7 = jI (gw (μ.1 0) 7) := (ha5 7 (by decide)).trans (gwj _ 7)
    refine m_rd 7 rfl (by decide) (by decide) ?_
    rw [h7]
    refine qle (by omega) (by omega) (by omega) (by omega) (fun c2 => ?_) (fun c2 => ?_)
    · have e : i = (gw (μ.1 0) 7).toNat := by omega
      have el : (strt (μ.1 0)).length = i := by
        unfold strt
        rw [List.length_map, List.length_range, e]
      rw [← el, List.take_length] at hn3
      refine m_wr 7 rfl (by decide) (by decide) (m_wr (119 + 6 * k) (hat _ rfl) (by omega) (by decide) (m_rd 5 rfl (by decide) (by decide) (m_wr 5 rfl (by decide) (by decide) (h _ (fun q hq => ?_) ha3 ?_))))
      · exact (zrp_o hq).trans ((zrp_o hq).trans ((zrp_o hq).trans (ha4 q hq)))
      · rw [zrp0, zrp0, zrp0]
        have h79 : gw (upd (t.1 0) 7 (jI (n : Nat))) 7 = n := gwu_at (by omega) (by omega)
        refine goes_end hk (fun j hj => (upd_o (by omega)).trans (ha5 j (by omega))) ⟨by rw [h79]; omega, by rw [h79]; omega⟩ ?_ (fun p hp => ?_)
        · rw [← hn3]
          unfold strt
          rw [h79, Int.toNat_natCast]
          refine List.map_congr_left (fun p hp => ?_)
          rw [gwu_o (by omega)]
        · rw [h79] at hp
          rw [gwu_o (by omega)]
          exact hn4 p (by omega)
    · have him : (i : Int) < gw (μ.1 0) 7 := by omega
      obtain ⟨g1, g2⟩ := f3 i him
      have ez : μ.1 0 (8 + i) = jI (((gw (μ.1 0) (8 + i)).toNat : Nat) : Int) := (gwj _ _).trans (jeq (by omega))
      have esi : (strt (μ.1 0))[i]? = some (gw (μ.1 0) (8 + i)).toNat := by
        unfold strt
        rw [List.getElem?_map, List.getElem?_range (by omega)]
        rfl
      generalize hz : (gw (μ.1 0) (8 + i)).toNat = z at ez esi
      have hz9 : z < 144 := by omega
      refine m_rd (8 + i) (by rw [jI_add]; exact jeq (by omega)) (by omega) (by decide) ?_
      rw [ha6 i (Nat.le_refl i) (by omega), ez]
      refine m_wr (8 + n) (by rw [jI_add]; exact jeq (by omega)) (by omega) (by decide) (m_rd (8 + i) (by rw [jI_add]; exact jeq (by omega)) (by omega) (by decide) ?_)
      have e8 : (zrp t 0 (8 + n) (jI (z : Nat))).1 0 (8 + i) = jI (z : Nat) := by
        rw [zrp0]
        by_cases hni : n = i
        · subst hni
          exact upd_at
        · rw [upd_o (by omega), ha6 i (Nat.le_refl i) (by omega), ez]
      rw [e8]
      have kq : ∀ q : Nat, q ≠ 0 → (zrp t 0 (8 + n) (jI (z : Nat))).1 q = μ.1 q := fun q hq => (zrp_o hq).trans (ha4 q hq)
      have k5 : ∀ j : Nat, (j < 8 ∨ 12 ≤ j) → (zrp t 0 (8 + n) (jI (z : Nat))).1 0 j = μ.1 0 j := fun j hj => by rw [zrp0, upd_o (by omega)]; exact ha5 j hj
      have k6 : ∀ p : Nat, i + 1 ≤ p → p < 4 → (zrp t 0 (8 + n) (jI (z : Nat))).1 0 (8 + p) = μ.1 0 (8 + p) := fun p h1 h2 => by rw [zrp0, upd_o (by omega)]; exact ha6 p (by omega) h2
      have k3 : (List.range n).map (fun p => (gw ((zrp t 0 (8 + n) (jI (z : Nat))).1 0) (8 + p)).toNat) = (List.range n).map (fun p => (gw (t.1 0) (8 + p)).toNat) := List.map_congr_left (fun p hp => by
        have := List.mem_range.mp hp
        rw [zrp0, gwu_o (by omega)])
      have k4 : ∀ p : Nat, p < n → 0 ≤ gw ((zrp t 0 (8 + n) (jI (z : Nat))).1 0) (8 + p) ∧ gw ((zrp t 0 (8 + n) (jI (z : Nat))).1 0) (8 + p) < 144 := fun p hp => by
        rw [zrp0, gwu_o (by omega)]
        exact hn4 p hp
      refine qeq (by omega) (by omega) (by omega) (by omega) (fun c3 => ?_) (fun c3 => ?_)
      · refine alE (jI_add _ _) (alE (jI_add _ _) (hLL _ (by omega) ⟨rfl, ha3, kq, k5, ⟨n, by omega, jeq (by omega), ?_, k4⟩, k6⟩))
        rw [k3, hn3, take_f esi, if_neg, List.append_nil]
        rw [show z = k by omega, beq_self_eq_true]
        decide
      · refine alE (jI_add _ _) (alE (jI_add _ _) (hLL _ (by omega) ⟨rfl, ha3, kq, k5, ⟨n + 1, by omega, rfl, ?_, fun p hp => ?_⟩, k6⟩))
        · have hb : (z == k) = false := beq_eq_false_iff_ne.mpr (by omega)
          rw [List.range_succ, List.map_append, k3, hn3, take_f esi, if_pos (by rw [hb]; rfl)]
          congr 1
          show [(gw _ (8 + n)).toNat] = [z]
          rw [zrp0, gwu_at (by omega) (by omega), Int.toNat_natCast]
        · by_cases hpn : p = n
          · subst hpn
            dsimp only
            rw [zrp0, gwu_at (by omega) (by omega)]
            omega
          · exact k4 p (by omega)
  · refine m_wr (119 + 6 * k) (hat _ rfl) (by omega) (by decide) (m_rd 5 rfl (by decide) (by decide) (m_wr 5 rfl (by decide) (by decide) (h _ (fun q hq => ?_) rfl ?_)))
    · exact (zrp_o hq).trans (zrp_o hq)
    · obtain ⟨f1, f2, f3, f4, f5⟩ := hf
      rw [zrp0, zrp0]
      refine goes_end hk (fun _ _ => rfl) ⟨f1, f2⟩ ?_ f3
      refine (List.filter_eq_self.mpr (fun z hz => ?_)).symm
      have : (z == k) = false := beq_eq_false_iff_ne.mpr (fun q => c (by subst q; exact ((f5 z).mp hz).2))
      rw [this]
      rfl
theorem GoneS.o {w w' : Wd} {S : Nat → Bool} (h : GoneS w w' S) {j : Nat} (h5 : j ≠ 5) (hj : j < 7 ∨ 12 ≤ j) (hm : j < 119 ∨ (j - 119) % 6 ≠ 0) : w' j = w j := h.1 j h5 hj (fun k _ _ => by omega)
theorem GoneS.n {w w' : Wd} {S : Nat → Bool} (h : GoneS w w' S) {k : Nat} (hk : S k = false) : w' (119 + 6 * k) = w (119 + 6 * k) := h.1 _ (by omega) (by omega) (fun k' _ hk' q => by
  have : k' = k := by omega
  subst this
  rw [hk] at hk'
  cases hk')
section GON
variable {w w' : Wd} {S : Nat → Bool}
theorem GoneS.g (h : GoneS w w' S) {j : Nat} (h5 : j ≠ 5) (hj : j < 7 ∨ 12 ≤ j) (hm : j < 119 ∨ (j - 119) % 6 ≠ 0) : gw w' j = gw w j := congrArg Int32.toInt (h.o h5 hj hm)
theorem GoneS.aTs (h : GoneS w w' S) {k : Nat} (hk : k < 144) (hs : S k = true) : aT w' k = -1 := gw_jI (h.2.1 k hk hs) (by decide) (by decide)
theorem GoneS.aTn (h : GoneS w w' S) {k : Nat} (hs : S k = false) : aT w' k = aT w k := congrArg Int32.toInt (h.n hs)
theorem GoneS.qaS (h : GoneS w w' S) (k : Nat) : aS w' k = aS w k := h.g (by omega) (by omega) (by omega)
theorem GoneS.qaX (h : GoneS w w' S) (k : Nat) : aX w' k = aX w k := h.g (by omega) (by omega) (by omega)
theorem GoneS.qaL (h : GoneS w w' S) (k : Nat) : aL w' k = aL w k := h.g (by omega) (by omega) (by omega)
theorem GoneS.qw (h : GoneS w w' S) {k : Nat} (hk : k < 144) : wdt w' k = wdt w k := by unfold wdt; rw [h.g (by omega) (by omega) (by omega)]
theorem GoneS.qh (h : GoneS w w' S) {k : Nat} (hk : k < 144) : hgt w' k = hgt w k := by unfold hgt; rw [h.g (by omega) (by omega) (by omega)]
theorem GoneS.qnT (h : GoneS w w' S) : nT w' = nT w := h.g (by decide) (by decide) (by decide)
theorem GoneS.qnS (h : GoneS w w' S) {t : Nat} (ht : t < 3) : nS w' t = nS w t := h.g (by omega) (by omega) (by omega)
theorem GoneS.qtl (h : GoneS w w' S) {t s : Nat} (ht : t < 3) (hs : s < 24) : tl w' t s = tl w t s := h.g (by omega) (by omega) (by omega)
theorem GoneS.qtop (h : GoneS w w' S) {t : Nat} (ht : t < 3) : ∀ s : Nat, s ≤ 24 → topH w' t s = topH w t s := by
  intro s
  induction s with
  | zero => intro _; rfl
  | succ s ih =>
    intro hs
    show topH w' t s + tl w' t s = topH w t s + tl w t s
    rw [ih (by omega), h.qtl ht (by omega)]
theorem GoneS.qP (h : GoneS w w' S) {k : Nat} (hk : k < 144) : isP w' k = (isP w k && !S k) := by
  unfold isP
  cases hs : S k
  · rw [h.aTn hs]
    simp
  · rw [h.aTs hk hs]
    simp
theorem GoneS.qL (h : GoneS w w' S) {k : Nat} (hk : k < 144) : isL w' k = (isL w k && !S k) := by
  unfold isL
  cases hs : S k
  · rw [h.aTn hs]
    simp
  · rw [h.aTs hk hs]
    simp
theorem GoneS.WF (hW : WF w) (h : GoneS w w' S) : WF w' := by
  obtain ⟨⟨a1, a2, a3, a4⟩, hb, hc, hd, ⟨he, hee⟩, ⟨f1, f2, f3, f4, f5⟩⟩ := hW
  obtain ⟨-, -, -, s1, s2, s3, s4⟩ := id h
  refine ⟨⟨by rw [h.qnT]; exact a1, by rw [h.qnT]; exact a2, fun s hs => by rw [h.g (by omega) (by omega) (by omega)]; exact a3 s hs, fun s hs => by rw [h.g (by omega) (by omega) (by omega)]; exact a4 s hs⟩, fun t ht => ?_, fun k hk => ?_, fun k k' hk hk' hn hl ht hs => ?_, ⟨fun k hk hp => ?_, fun k k' hk hk' hp hp' hq => ?_⟩, ⟨s2, s3, s4, by rw [s1]; exact f4.filter _, fun k => ?_⟩⟩
  · rw [h.qnT] at ht
    obtain ⟨b1, b2, b3, b4⟩ := hb t ht
    have ht3 : t < 3 := by omega
    rw [h.qnS ht3]
    refine ⟨b1, b2, fun s hs => ?_, ?_⟩
    · rw [h.qtl ht3 (by omega)]
      exact b3 s hs
    · rw [h.qtop ht3 _ (by omega)]
      exact b4
  · cases hs : S k
    · rw [h.aTn hs, h.qaS, h.qaX, h.qw hk, h.qh hk, h.qnT]
      rcases hc k hk with c1 | c1 | ⟨c1, c2, c3, c4, c5, c6, c7⟩
      · exact Or.inl c1
      · exact Or.inr (Or.inl c1)
      · have hb9 := hb (aT w k).toNat (by omega)
        rw [h.qnS (by omega), h.qtl (by omega) (by omega)]
        exact Or.inr (Or.inr ⟨c1, c2, c3, c4, c5, c6, c7⟩)
    · exact Or.inl (h.aTs hk hs)
  · rw [h.qL hk, Bool.and_eq_true] at hl
    have hsk : S k = false := by simpa using hl.2
    cases hs' : S k'
    · rw [h.aTn hsk, h.aTn hs'] at ht
      rw [h.qaS, h.qaS] at hs
      rw [h.qaX, h.qaX, h.qw hk, h.qw hk']
      exact hd k k' hk hk' hn hl.1 ht hs
    · rw [h.aTs hk' hs', h.aTn hsk] at ht
      have := isL_t hl.1
      omega
  · rw [h.qP hk, Bool.and_eq_true] at hp
    rw [h.qaL, h.g (by decide) (by decide) (by decide)]
    exact he k hk hp.1
  · rw [h.qP hk, Bool.and_eq_true] at hp
    rw [h.qP hk', Bool.and_eq_true] at hp'
    rw [h.qaL, h.qaL] at hq
    exact hee k k' hk hk' hp.1 hp'.1 hq
  · rw [s1, List.mem_filter, f5 k]
    constructor
    · intro ⟨⟨q1, q2⟩, q3⟩
      exact ⟨q1, by rw [h.aTn (by simpa using q3)]; exact q2⟩
    · intro ⟨q1, q2⟩
      cases hs : S k
      · rw [h.aTn hs] at q2
        exact ⟨⟨q1, q2⟩, rfl⟩
      · rw [h.aTs q1 hs] at q2
        omega
theorem RC.gone {r r' : Nat → Nat → Int32} {c c' : Nat → Int32} {l : List Nat} (hW : WF w) (hR : RC r c w l) (ha : AwayS r r' c c' l S) (h : GoneS w w' S) (hS : ∀ k, k < 144 → S k = true → isP w k = true) : RC r' c' w' (l.filter (fun z => !S z)) := by
  obtain ⟨g1, g2, g3, g4, g5, g6⟩ := ha
  have hcount : l.countP S = (List.range 144).countP S := by
    rw [hR.2.2.1.perm.countP_eq S]
    unfold ltrs
    rw [List.countP_filter]
    refine List.countP_congr (fun k hk => ?_)
    have := hS k (List.mem_range.mp hk)
    rw [Bool.and_eq_true]
    exact ⟨fun q => q.1, fun q => ⟨q, this q⟩⟩
  obtain ⟨⟨a1, a2, a3⟩, hb, ⟨l1, l2, l3, l4⟩, ⟨c0, c1, c2, c3, c4, c5, c6, c7⟩⟩ := hR
  have hs16 := hW.2.2.2.2.2.2.1
  refine ⟨⟨fun s hs => ?_, fun s hs => ?_, fun t s ht hs => ?_⟩, fun k hk => ?_, ⟨g3, l2.filter _, fun k => ?_, ?_⟩, ⟨g4, ?_, ?_, ?_, ?_, ?_, ?_, ?_⟩⟩
  · rw [g1 0 (by decide) (by decide), h.o (by omega) (by omega) (by omega)]
    exact a1 s hs
  · rw [g1 1 (by decide) (by decide), h.o (by omega) (by omega) (by omega)]
    exact a2 s hs
  · rw [g1 2 (by decide) (by decide), h.qnT, h.qnS ht, h.o (by omega) (by omega) (by omega)]
    exact a3 t s ht hs
  · obtain ⟨b1, b2, b3⟩ := hb k hk
    rw [g2 k hk, g1 4 (by decide) (by decide), g1 5 (by decide) (by decide), g1 6 (by decide) (by decide), g1 7 (by decide) (by decide), g1 8 (by decide) (by decide), h.qL hk, h.qP hk, h.qaX, h.qw hk, h.o (j := 119 + 6 * k + 3) (by omega) (by omega) (by omega), h.o (j := 119 + 6 * k + 4) (by omega) (by omega) (by omega), h.o (j := 119 + 6 * k + 5) (by omega) (by omega) (by omega)]
    cases hs : S k
    · unfold slo
      rw [h.aTn hs, h.qaS, if_neg (by decide)]
      refine ⟨b1, fun q => b2 ?_, fun q => b3 ?_⟩
      · simpa using q
      · simpa using q
    · unfold slo
      rw [h.aTs hk hs]
      refine ⟨rfl, fun q => ?_, fun q => ?_⟩
      · simp at q
      · simp at q
  · rw [List.mem_filter, l3 k]
    constructor
    · intro ⟨⟨q1, q2⟩, q3⟩
      refine ⟨q1, ?_⟩
      rw [h.qP q1, q2, q3]
      rfl
    · intro ⟨q1, q2⟩
      rw [h.qP q1, Bool.and_eq_true] at q2
      exact ⟨⟨q1, q2.1⟩, q2.2⟩
  · rw [h.2.2.2.1, ← l4, List.filter_filter, List.filter_filter]
    refine List.filter_congr (fun k hk => ?_)
    have hk9 := ((l3 k).mp hk).1
    cases hs : S k
    · rw [h.aTn hs]
      simp
    · simp
  · exact (g6 1 (by decide) (by decide)).trans (c1.trans (h.o (by decide) (by decide) (by decide)).symm)
  · exact (g6 2 (by decide) (by decide)).trans (c2.trans (h.o (by decide) (by decide) (by decide)).symm)
  · exact (g6 3 (by decide) (by decide)).trans (c3.trans (h.o (by decide) (by decide) (by decide)).symm)
  · exact (g6 4 (by decide) (by decide)).trans (c4.trans (h.o (by decide) (by decide) (by decide)).symm)
  · exact (g6 5 (by decide) (by decide)).trans (c5.trans (h.o (by decide) (by decide) (by decide)).symm)
  · rw [g5, c6, h.2.2.1, hcount]
  · exact (g6 7 (by decide) (by decide)).trans (c7.trans (h.o (by decide) (by decide) (by decide)).symm)
end GON
theorem last_64 : True := trivial
