/-! the reference reads commands -/
section TXN
variable {B : Nat → Int} {n p : Nat} {v : ST}
theorem r_kind {Q : Int32 → ST → Prop} {σ : ST} (h : Q (jI (kd B n p : Nat)) σ) : wp_X7_kindOf σ (jI (wcd B n p)) Q := by
  have hb := wcd_b (B := B) (n := n) (p := p)
  have w0 : wm B n p 0 = true ↔ wcd B n p = 2774 := by
    have := wcd_3 (B := B) (n := n) (p := p) 99 117 116 (by decide) (by decide) (by decide)
    exact ⟨fun q => this.mp (of_decide_eq_true q), fun q => bo_t (this.mpr q)⟩
  have w1 : wm B n p 1 = true ↔ wcd B n p = 15827 := by
    have := wcd_3 (B := B) (n := n) (p := p) 117 115 101 (by decide) (by decide) (by decide)
    exact ⟨fun q => this.mp (of_decide_eq_true q), fun q => bo_t (this.mpr q)⟩
  have w2 : wm B n p 2 = true ↔ wcd B n p = 92275 := by
    have := wcd_4 (B := B) (n := n) (p := p) 100 114 111 112 (by decide) (by decide) (by decide) (by decide)
    exact ⟨fun q => this.mp (of_decide_eq_true q), fun q => bo_t (this.mpr q)⟩
  have w3' : wm B n p 3 = true ↔ wcd B n p = 243140 := by
    have := wcd_4 (B := B) (n := n) (p := p) 108 105 110 101 (by decide) (by decide) (by decide) (by decide)
    exact ⟨fun q => this.mp (of_decide_eq_true q), fun q => bo_t (this.mpr q)⟩
  have w4' : wm B n p 4 = true ↔ wcd B n p = 406834 := by
    have := wcd_4 (B := B) (n := n) (p := p) 116 114 97 121 (by decide) (by decide) (by decide) (by decide)
    exact ⟨fun q => this.mp (of_decide_eq_true q), fun q => bo_t (this.mpr q)⟩
  have w5' : wm B n p 5 = true ↔ wcd B n p = 1841972 := by
    have := wcd_5 (B := B) (n := n) (p := p) 99 108 111 115 101 (by decide) (by decide) (by decide) (by decide) (by decide)
    exact ⟨fun q => this.mp (of_decide_eq_true q), fun q => bo_t (this.mpr q)⟩
  unfold wp_X7_kindOf
  unfold kd at h
  refine w3 (x := 2774) (by decide) (qeq (by omega) (by omega) (by decide) (by decide) (fun d => ?_) (fun d => ?_))
  · rw [if_pos (w0.mpr d)] at h
    exact h
  rw [if_neg (fun q => d (w0.mp q))] at h
  refine w3 (x := 15827) (by decide) (qeq (by omega) (by omega) (by decide) (by decide) (fun d => ?_) (fun d => ?_))
  · rw [if_pos (w1.mpr d)] at h
    exact h
  rw [if_neg (fun q => d (w1.mp q))] at h
  refine w4 (x := 3417) (y := 92275) (by decide) (by decide) (by decide) (qeq (by omega) (by omega) (by decide) (by decide) (fun d => ?_) (fun d => ?_))
  · rw [if_pos (w2.mpr d)] at h
    exact h
  rw [if_neg (fun q => d (w2.mp q))] at h
  refine w4 (x := 9005) (y := 243140) (by decide) (by decide) (by decide) (qeq (by omega) (by omega) (by decide) (by decide) (fun d => ?_) (fun d => ?_))
  · rw [if_pos (w3'.mpr d)] at h
    exact h
  rw [if_neg (fun q => d (w3'.mp q))] at h
  refine w4 (x := 15067) (y := 406834) (by decide) (by decide) (by decide) (qeq (by omega) (by omega) (by decide) (by decide) (fun d => ?_) (fun d => ?_))
  · rw [if_pos (w4'.mpr d)] at h
    exact h
  rw [if_neg (fun q => d (w4'.mp q))] at h
  refine w5 (x := 2526) (y := 68221) (z := 1841972) (by decide) (by decide) (by decide) (by decide) (by decide) (qeq (by omega) (by omega) (by decide) (by decide) (fun d => ?_) (fun d => ?_))
  · rw [if_pos (w5'.mpr d)] at h
    exact h
  rw [if_neg (fun q => d (w5'.mp q))] at h
  exact h
theorem r_number {Q : Int32 → ST → Prop} {c k : Nat} (hB : TB B n) (hT : TM B n v) (hp : p ≤ 500) (h10 : v.2 10 = jI (c : Nat)) (hc : 4 * c + k < 200) (hf : nok B n p = false → Q (jI 0) (stM v (npos B n p))) (ht : nok B n p = true → Q (jI 1) (stM (zrp v 4 (4 * c + k) (jI (nval B n p))) (npos B n p))) : wp_X7_readsNumber (stM v p) (jI (k : Nat)) Q := by
  have hn := hB.1
  have hle := rsp_le (B := B) (n := n) (p := p)
  unfold wp_X7_readsNumber
  refine r_skips hB hT (by omega) ?_
  refine qeq (by omega) (by omega) (by decide) (by decide) (fun d => ?_) (fun d => ?_)
  · have hr : rsp B n p = 0 := by omega
    have hno : nok B n p = false := by unfold nok; rw [bo_f (fun q => q hr)]; rfl
    have h9 := hf hno
    unfold npos at h9
    rw [hno, if_neg (by decide)] at h9
    exact h9
  · have hr : rsp B n p ≠ 0 := by omega
    have hb0 := bya_b hB (p + rsp B n p)
    have hb1 := bya_b hB (p + rsp B n p + 1)
    refine r_look hB hT.st stM_9 (by omega) ?_
    refine m_in (by omega) (by omega) (by decide) (by decide) (by decide) (by decide) (qb (fun e => ?_) (fun e => ?_))
    · have hno : nok B n p = false := by unfold nok dg; rw [e, Bool.and_false]
      have h9 := hf hno
      unfold npos at h9
      rw [hno, if_neg (by decide)] at h9
      exact h9
    · have hyes : nok B n p = true := by unfold nok dg; rw [e, bo_t hr]; rfl
      have h9 := ht hyes
      unfold npos nval at h9
      rw [hyes, if_pos rfl] at h9
      have e' := of_decide_eq_true e
      refine ⟨3, ?_⟩
      show wb_X7_readsNumber_27 _ _ _ _ _ _
      unfold wb_X7_readsNumber_27
      refine qf (jnle (a := 2) (b := 0) (by decide)) (r_look hB hT.st stM_9 (by omega) ?_)
      refine m_in (by omega) (by omega) (by decide) (by decide) (by decide) (by decide) ?_
      rw [e]
      refine qf (jne (a := 1) (b := 0) (by decide)) (r_look hB hT.st stM_9 (by omega) ?_)
      rw [jI_mul, jI_add, jI_sub, stM_9, jI_add, show ((p + rsp B n p : Nat) : Int) + 1 = ((p + rsp B n p + 1 : Nat) : Int) by omega, stM_nx]
      refine al (al (alE (jI_add 0 1) ?_))
      show wb_X7_readsNumber_27 _ _ _ _ _ _
      unfold wb_X7_readsNumber_27
      refine qf (jnle (a := 2) (b := 0 + 1) (by decide)) (r_look hB hT.st stM_9 (by omega) ?_)
      have e10 : ∀ q : Nat, (stM v q).2 10 = jI (c : Nat) := fun q => (zsp_nq (by decide)).trans h10
      refine m_in (by omega) (by omega) (by decide) (by decide) (by decide) (by decide) (qb (fun f => ?_) (fun f => ?_))
      · have f' : dg B n (p + rsp B n p + 1) = false := f
        rw [f', if_neg (by decide), if_neg (by decide)] at h9
        dsimp only
        rw [e10, jI_mul, jI_add, show (4 : Int) * (c : Int) + (k : Int) = ((4 * c + k : Nat) : Int) by omega, jcl _ (by omega), show 10 * 0 + bya B n (p + rsp B n p) - 48 = bya B n (p + rsp B n p) - 48 by omega]
        exact ⟨jin hc, al h9⟩
      · have f' : dg B n (p + rsp B n p + 1) = true := f
        rw [f', if_pos rfl, if_pos rfl] at h9
        refine r_look hB hT.st stM_9 (by omega) ?_
        rw [jI_mul, jI_add, jI_sub, stM_9, jI_add, show ((p + rsp B n p + 1 : Nat) : Int) + 1 = ((p + rsp B n p + 2 : Nat) : Int) by omega, stM_nx]
        refine al (al (alE (jI_add (0 + 1) 1) ?_))
        show wb_X7_readsNumber_27 _ _ _ _ _ _
        unfold wb_X7_readsNumber_27
        refine qt (jle (a := 2) (b := 0 + 1 + 1) (by decide)) ?_
        dsimp only
        rw [e10, jI_mul, jI_add, show (4 : Int) * (c : Int) + (k : Int) = ((4 * c + k : Nat) : Int) by omega, jcl _ (by omega), show 10 * (10 * 0 + bya B n (p + rsp B n p) - 48) + bya B n (p + rsp B n p + 1) - 48 = 10 * (bya B n (p + rsp B n p) - 48) + (bya B n (p + rsp B n p + 1) - 48) by omega]
        exact ⟨jin hc, al h9⟩
theorem r_nums {K1 K2 : ST → Prop} {c D q : Nat} {kk : Int} (hB : TB B n) (hT : TM B n v) (hq : q ≤ n) (hD : D = if kk ≤ 3 then 3 else 0) (hk : 0 ≤ kk ∧ kk ≤ 6) (h10 : v.2 10 = jI (c : Nat)) (hc : c < 40) (h1 : (nrun B n D q).1 = false → ∀ v' : ST, (∀ r : Nat, r ≠ 4 → v'.1 r = v.1 r) → v'.2 = v.2 → (∀ i : Nat, i < 4 * c + 1 → v'.1 4 i = v.1 4 i) → K1 (stM v' (nrun B n D q).2)) (h2 : (nrun B n D q).1 = true → ∀ v' : ST, (∀ r : Nat, r ≠ 4 → v'.1 r = v.1 r) → v'.2 = v.2 → (∀ i : Nat, i < 4 * c + 1 → v'.1 4 i = v.1 4 i) → (∀ j : Nat, j < D → v'.1 4 (4 * c + 1 + j) = jI (nval B n (nq B n q j))) → K2 (stM v' (nrun B n D q).2)) : ∃ nn, wl_X7_readsCommand_38 K1 K2 (jI kk) nn (stM v q) (jI 1) := by
  have hn := hB.1
  have hD3 : D ≤ 3 := by rw [hD]; split <;> omega
  refine lp_inv (α := ST × Int32) (L := fun nn a => wl_X7_readsCommand_38 K1 K2 (jI kk) nn a.1 a.2) (B := fun LL a => wb_X7_readsCommand_38 K1 K2 (fun t y => LL (t, y)) (jI kk) a.1 a.2) (fun _ _ => rfl) (fun j a => a.2 = jI ((j + 1 : Nat) : Int) ∧ (∀ j', j' < j → nok B n (nq B n q j') = true) ∧ ∃ v' : ST, a.1 = stM v' (nq B n q j) ∧ (∀ r : Nat, r ≠ 4 → v'.1 r = v.1 r) ∧ v'.2 = v.2 ∧ (∀ i : Nat, i < 4 * c + 1 → v'.1 4 i = v.1 4 i) ∧ ∀ j' : Nat, j' < j → v'.1 4 (4 * c + 1 + j') = jI (nval B n (nq B n q j'))) D (fun j a hj ha LL hLL => ?_) (stM v q, jI 1) ⟨rfl, fun j' h9 => absurd h9 (Nat.not_lt_zero j'), v, rfl, fun _ _ => rfl, rfl, fun _ _ => rfl, fun j' h9 => absurd h9 (Nat.not_lt_zero j')⟩
  obtain ⟨t, y⟩ := a
  obtain ⟨ha1, ha2, v', ha3, ha4, ha5, ha6, ha7⟩ := ha
  dsimp only at ha1 ha3 ⊢
  subst ha1 ha3
  have hrun := nrun_j (B := B) (n := n) D q j hj ha2
  have hnq := nq_le (n := n) hB q j
  have hend : j = D → K2 (stM v' (nq B n q j)) := fun e => by
    subst e
    rw [Nat.sub_self] at hrun
    have h9 := h2 (by rw [hrun]; rfl) v' ha4 ha5 ha6 ha7
    rw [hrun] at h9
    exact h9
  unfold wb_X7_readsCommand_38
  refine qle (by decide) (by decide) (by omega) (by omega) (fun d => hend (by omega)) (fun d => ?_)
  refine qle (by decide) (by decide) (by omega) (by omega) (fun d2 => hend ?_) (fun d2 => ?_)
  · rw [if_neg (by omega)] at hD
    omega
  · rw [if_pos (by omega)] at hD
    have hTu : TM B n v' := ⟨by rw [ha5]; exact hT.1, fun i hi => by rw [ha4 3 (by decide)]; exact hT.2 i hi⟩
    rw [show D - j = (D - (j + 1)) + 1 by omega] at hrun
    have e9 : nrun B n (D - (j + 1) + 1) (nq B n q j) = if nok B n (nq B n q j) then nrun B n (D - (j + 1)) (npos B n (nq B n q j)) else (false, npos B n (nq B n q j)) := rfl
    rw [e9] at hrun
    refine r_number (c := c) (k := j + 1) hB hTu (by omega) (by rw [ha5]; exact h10) (by omega) (fun hno => qt rfl ?_) (fun hyes => qf (jne (a := 1) (b := 0) (by decide)) ?_)
    · rw [hno, if_neg (by decide)] at hrun
      have h9 := h1 (by rw [hrun]) v' ha4 ha5 ha6
      rw [hrun] at h9
      exact h9
    · refine alE (jI_add _ _) (hLL _ (by omega) ⟨rfl, fun j' hj' => ?_, zrp v' 4 (4 * c + (j + 1)) (jI (nval B n (nq B n q j))), rfl, fun r hr => (zrp_o hr).trans (ha4 r hr), ha5, fun i hi => ?_, fun j' hj' => ?_⟩)
      · by_cases h9 : j' = j
        · rw [h9]; exact hyes
        · exact ha2 j' (by omega)
      · rw [zrp_at, upd_o (by omega)]
        exact ha6 i hi
      · rw [zrp_at]
        by_cases h9 : j' = j
        · rw [h9, show 4 * c + 1 + j = 4 * c + (j + 1) by omega, upd_at]
        · rw [upd_o (by omega)]
          exact ha7 j' (by omega)
theorem r_command {Q : Int32 → ST → Prop} {c : Nat} (hB : TB B n) (hT : TM B n v) (hp : p ≤ n) (h10 : v.2 10 = jI (c : Nat)) (hc : c < 40) (h1 : (cmd B n p).1 = false → ∀ v' : ST, (∀ r : Nat, r ≠ 4 → v'.1 r = v.1 r) → v'.2 = v.2 → Q (jI 0) (stM v' (cmd B n p).2)) (h2 : (cmd B n p).1 = true → ∀ v' : ST, (∀ r : Nat, r ≠ 4 → v'.1 r = v.1 r) → v'.2 = v.2 → (∀ i : Nat, i < 4 * c → v'.1 4 i = v.1 4 i) → v'.1 4 (4 * c) = jI (kd B n p : Nat) → (kd B n p ≤ 3 → ∀ j : Nat, j < 3 → v'.1 4 (4 * c + 1 + j) = jI (nv B n p j)) → Q (jI 1) (zsp (stM v' (cmd B n p).2) 10 (jI ((c + 1 : Nat) : Int)))) : wp_X7_readsCommand (stM v p) Q := by
  have hn := hB.1
  have hr := rlt_le (B := B) (n := n) (p := p)
  have hkb := kd_b (B := B) (n := n) (p := p)
  unfold wp_X7_readsCommand
  refine r_word hB hT hp (r_kind ?_)
  refine qeq (by omega) (by omega) (by decide) (by decide) (fun d => ?_) (fun d => ?_)
  · have ek : kd B n p = 0 := by omega
    have ec : cmd B n p = (false, p) := if_pos ek
    rw [stM_9, stM_nx]
    have h9 := h1 (by rw [ec]) v (fun _ _ => rfl) rfl
    rw [ec] at h9
    exact al h9
  · have ek : kd B n p ≠ 0 := by omega
    have e10 : ∀ (u : ST) (q : Nat), u.2 = v.2 → (stM u q).2 10 = jI (c : Nat) := fun u q hu => (zsp_nq (by decide)).trans (by rw [hu]; exact h10)
    rw [e10 v _ rfl, jI_mul, show (4 : Int) * (c : Int) = ((4 * c : Nat) : Int) by omega, jcl _ (by omega), zrp_stM]
    refine ⟨jin (by omega), al ?_⟩
    have hu1 : ∀ r : Nat, r ≠ 4 → (zrp v 4 (4 * c) (jI (kd B n p : Nat))).1 r = v.1 r := fun r h => zrp_o h
    have hTu : TM B n (zrp v 4 (4 * c) (jI (kd B n p : Nat))) := ⟨hT.1, fun i hi => by rw [hu1 3 (by decide)]; exact hT.2 i hi⟩
    have ec : cmd B n p = if (nrun B n (if kd B n p ≤ 3 then 3 else 0) (p + rlt B n p)).1 then cend B n (nrun B n (if kd B n p ≤ 3 then 3 else 0) (p + rlt B n p)).2 else (false, (nrun B n (if kd B n p ≤ 3 then 3 else 0) (p + rlt B n p)).2) := if_neg ek
    obtain ⟨D, hDe⟩ : ∃ D : Nat, (if kd B n p ≤ 3 then 3 else 0) = D := ⟨_, rfl⟩
    rw [hDe] at ec
    have hD' : D = if ((kd B n p : Nat) : Int) ≤ 3 then 3 else 0 := by
      rw [← hDe]
      by_cases h9 : kd B n p ≤ 3
      · rw [if_pos h9, if_pos (by omega)]
      · rw [if_neg h9, if_neg (by omega)]
    have hrun := nrun_le (n := n) hB D (p + rlt B n p)
    refine r_nums hB hTu (by omega) hD' (by omega) h10 hc (fun g1 v' g2 g3 g4 => ?_) (fun g1 v' g2 g3 g4 g5 => ?_)
    · rw [g1, if_neg (by decide)] at ec
      have h9 := h1 (by rw [ec]) v' (fun r r1 => (g2 r r1).trans (hu1 r r1)) g3
      rw [ec] at h9
      exact h9
    · rw [g1, if_pos rfl] at ec
      have hTu' : TM B n v' := ⟨by rw [g3]; exact hT.1, fun i hi => by rw [g2 3 (by decide)]; exact hTu.2 i hi⟩
      have hce := rsp_le (B := B) (n := n) (p := (nrun B n D (p + rlt B n p)).2)
      refine r_skips hB hTu' (by omega) ?_
      refine r_look hB hTu'.st stM_9 (by omega) ?_
      have hbb := bya_b hB ((nrun B n D (p + rlt B n p)).2 + rsp B n (nrun B n D (p + rlt B n p)).2)
      unfold cend at ec
      refine qeq (by omega) (by omega) (by decide) (by decide) (fun f => ?_) (fun f => ?_)
      · rw [if_pos f] at ec
        have h9 := h2 (by rw [ec]) v' (fun r r1 => (g2 r r1).trans (hu1 r r1)) g3 (fun i hi => ?_) ?_ (fun hk3 j hj => ?_)
        · rw [ec] at h9
          rw [stM_9, jI_add, show (((nrun B n D (p + rlt B n p)).2 + rsp B n (nrun B n D (p + rlt B n p)).2 : Nat) : Int) + 1 = (((nrun B n D (p + rlt B n p)).2 + rsp B n (nrun B n D (p + rlt B n p)).2 + 1 : Nat) : Int) by omega, stM_nx]
          refine al ?_
          rw [e10 v' _ g3, jI_add]
          exact al h9
        · rw [g4 i (by omega), zrp_at, upd_o (by omega)]
        · rw [g4 (4 * c) (by omega), zrp_at, upd_at]
        · rw [if_pos hk3] at hDe
          exact g5 j (by omega)
      · rw [if_neg f] at ec
        have h9 := h1 (by rw [ec]) v' (fun r r1 => (g2 r r1).trans (hu1 r r1)) g3
        rw [ec] at h9
        exact h9
theorem r_reads {Q : Int32 → ST → Prop} (hB : TB B n) (hT : TM B n v) (h1 : ∀ (N : Nat) (v' : ST), (∀ i, i < N → ps B n i < n ∧ (cmd B n (ps B n i)).1 = true) → ps B n N < n → (cmd B n (ps B n N)).1 = false → KR v v' → v'.2 9 = jI ((cmd B n (ps B n N)).2 : Nat) → Q (jI 0) v') (h2 : ∀ (N : Nat) (v' : ST), (∀ i, i < N → ps B n i < n ∧ (cmd B n (ps B n i)).1 = true) → ¬ ps B n N < n → KR v v' → v'.2 10 = jI (N : Nat) → (∀ i, i < N → EM B n v' i) → Q (jI 1) v') : wp_X7_reads v Q := by
  have hn := hB.1
  unfold wp_X7_reads
  refine al (al ?_)
  have e0 : zsp (zsp v 9 (jI 0)) 10 (jI 0) = stM (zsp v 10 (jI 0)) 0 := by
    refine Prod.ext rfl (funext fun j => ?_)
    show (if j = 10 then jI 0 else if j = 9 then jI 0 else v.2 j) = if j = 9 then jI ((0 : Nat) : Int) else if j = 10 then jI 0 else v.2 j
    by_cases h3 : j = 9
    · subst h3
      rfl
    · rw [if_neg h3, if_neg h3]
  rw [e0]
  have hk0 : KR v (zsp v 10 (jI 0)) := ⟨fun _ _ => rfl, fun c _ h4 => zsp_nq h4⟩
  have h100 : (zsp v 10 (jI 0)).2 10 = jI 0 := zsp_at
  generalize zsp v 10 (jI 0) = v1 at *
  have hT1 := hT.kr hk0
  refine r_skips hB hT1 (by omega) ?_
  rw [Nat.zero_add]
  have key : ∀ K : ST → Int32 → Prop, (∀ (N : Nat) (v' : ST), (∀ i, i < N → ps B n i < n ∧ (cmd B n (ps B n i)).1 = true) → ps B n N < n → (cmd B n (ps B n N)).1 = false → KR v v' → v'.2 9 = jI ((cmd B n (ps B n N)).2 : Nat) → K v' (jI 0)) → (∀ (N : Nat) (v' : ST), (∀ i, i < N → ps B n i < n ∧ (cmd B n (ps B n i)).1 = true) → ¬ ps B n N < n → KR v v' → v'.2 10 = jI (N : Nat) → (∀ i, i < N → EM B n v' i) → K v' (jI 1)) → ∃ nn, wl_X7_reads_17 K nn (stM v1 (rsp B n 0)) (jI 1) := fun K hK1 hK2 => by
    refine lp_inv (α := ST × Int32) (L := fun nn a => wl_X7_reads_17 K nn a.1 a.2) (B := fun LL a => wb_X7_reads_17 K (fun t y => LL (t, y)) a.1 a.2) (fun _ _ => rfl) (fun i a => (a.2 = jI 0 ∧ ∃ N : Nat, (∀ i', i' < N → ps B n i' < n ∧ (cmd B n (ps B n i')).1 = true) ∧ ps B n N < n ∧ (cmd B n (ps B n N)).1 = false ∧ KR v a.1 ∧ a.1.2 9 = jI ((cmd B n (ps B n N)).2 : Nat)) ∨ (a.2 = jI 1 ∧ (∀ i', i' < i → ps B n i' < n ∧ (cmd B n (ps B n i')).1 = true) ∧ ∃ v' : ST, a.1 = stM v' (ps B n i) ∧ KR v v' ∧ v'.2 10 = jI (i : Nat) ∧ ∀ i', i' < i → EM B n v' i')) 31 (fun i a hi ha LL hLL => ?_) (stM v1 (rsp B n 0), jI 1) (Or.inr ⟨rfl, fun i' h9 => absurd h9 (Nat.not_lt_zero i'), v1, rfl, hk0, h100, fun i' h9 => absurd h9 (Nat.not_lt_zero i')⟩)
    obtain ⟨t, y⟩ := a
    unfold wb_X7_reads_17
    rcases ha with ⟨ha0, N, ha1, ha2, ha3, ha4, ha5⟩ | ⟨ha1, ha2, v', ha3, ha4, ha5, ha6⟩
    · dsimp only at ha0 ha4 ha5 ⊢
      subst ha0
      exact qt rfl (hK1 N t ha1 ha2 ha3 ha4 ha5)
    dsimp only at ha1 ha3 ⊢
    subst ha1 ha3
    have hTu := hT.kr ha4
    have hpl := ps_le hB i
    have hpg := ps_ge hB i (fun i' hi' => (ha2 i' hi').2)
    have hkst : ∀ (u : ST) (q : Nat), KR v u → KR v (stM u q) := fun u q hv => ⟨hv.1, fun c c3 c4 => (zsp_nq c3).trans (hv.2 c c3 c4)⟩
    refine qf (jne (a := 1) (b := 0) (by decide)) ?_
    rw [hTu.st.1, stM_9]
    refine qle (by omega) (by omega) (by omega) (by omega) (fun d => ?_) (fun d => ?_)
    · exact hK2 i _ ha2 (by omega) (hkst _ _ ha4) ((zsp_nq (by decide)).trans ha5) ha6
    · have hps : ps B n i < n := by omega
      refine r_command hB hTu (by omega) ha5 (by omega) (fun g1 u g2 g3 => qt rfl ?_) (fun g1 u g2 g3 g4 g5 g6 => qf (jne (a := 1) (b := 0) (by decide)) ?_)
      · have hkv : KR v u := ha4.trans ⟨g2, fun c _ _ => by rw [g3]⟩
        exact hLL _ (by omega) (Or.inl ⟨rfl, i, ha2, hps, g1, hkst _ _ hkv, stM_9⟩)
      · have e1 : zsp (stM u (cmd B n (ps B n i)).2) 10 (jI ((i + 1 : Nat) : Int)) = stM (zsp u 10 (jI ((i + 1 : Nat) : Int))) (cmd B n (ps B n i)).2 := by
          refine Prod.ext rfl (funext fun j => ?_)
          show (if j = 10 then jI ((i + 1 : Nat) : Int) else if j = 9 then jI ((cmd B n (ps B n i)).2 : Nat) else u.2 j) = if j = 9 then jI ((cmd B n (ps B n i)).2 : Nat) else if j = 10 then jI ((i + 1 : Nat) : Int) else u.2 j
          by_cases h3 : j = 9
          · subst h3
            rfl
          · rw [if_neg h3, if_neg h3]
        rw [e1]
        have hkv : KR v (zsp u 10 (jI ((i + 1 : Nat) : Int))) := ha4.trans ⟨g2, fun c _ h4 => (zsp_nq h4).trans (by rw [g3])⟩
        have hcl := cmd_le hB hpl
        refine r_skips hB (hT.kr hkv) (by omega) (hLL _ (by omega) (Or.inr ⟨rfl, fun i' hi' => ?_, zsp u 10 (jI ((i + 1 : Nat) : Int)), rfl, hkv, zsp_at, fun i' hi' => ?_⟩))
        · by_cases h9 : i' = i
          · rw [h9]; exact ⟨hps, g1⟩
          · exact ha2 i' (by omega)
        · show u.1 4 (4 * i') = _ ∧ (_ → ∀ j : Nat, j < 3 → u.1 4 (4 * i' + 1 + j) = _)
          by_cases h9 : i' = i
          · rw [h9]; exact ⟨g5, g6⟩
          · obtain ⟨f1, f2⟩ := ha6 i' (by omega)
            exact ⟨by rw [g4 (4 * i') (by omega)]; exact f1, fun hk j hj => by rw [g4 (4 * i' + 1 + j) (by omega)]; exact f2 hk j hj⟩
  refine key _ (fun N v' a1 a2 a3 a4 a5 => ⟨by decide, h1 N v' a1 a2 a3 a4 a5⟩) (fun N v' a1 a2 a3 a4 a5 => ⟨by decide, h2 N v' a1 a2 a3 a4 a5⟩)
end TXN
theorem last_89g : True := trivial
