/-! the class reads a text of commands -/
section TXC
variable {B : Nat → Int} {n p : Nat} {u v : ST}
theorem npos_le (hB : TB B n) : p ≤ npos B n p ∧ npos B n p ≤ max p n ∧ (nok B n p = true → p + 2 ≤ npos B n p ∧ npos B n p ≤ n) := by
  have hle := rsp_le (B := B) (n := n) (p := p)
  have hd : ∀ i, dg B n i = true → i < n := fun i h => by
    have h := of_decide_eq_true h
    unfold bya at h
    by_cases hi : i < n
    · exact hi
    · rw [if_neg hi] at h
      omega
  unfold npos
  cases hk : nok B n p
  · rw [if_neg (by decide)]
    exact ⟨by omega, by omega, fun q => by cases q⟩
  · rw [if_pos rfl]
    unfold nok at hk
    rw [Bool.and_eq_true] at hk
    have h1 := of_decide_eq_true hk.1
    have h2 := hd _ hk.2
    cases h3 : dg B n (p + rsp B n p + 1)
    · rw [if_neg (by decide)]
      exact ⟨by omega, by omega, fun _ => ⟨by omega, by omega⟩⟩
    · have := hd _ h3
      rw [if_pos rfl]
      exact ⟨by omega, by omega, fun _ => ⟨by omega, by omega⟩⟩
theorem nq_le (hB : TB B n) (q : Nat) : ∀ j : Nat, q ≤ nq B n q j ∧ nq B n q j ≤ max q n := by
  intro j
  induction j with
  | zero => exact ⟨Nat.le_refl _, by show q ≤ max q n; omega⟩
  | succ j ih =>
    have := npos_le (p := nq B n q j) hB
    show q ≤ npos B n (nq B n q j) ∧ npos B n (nq B n q j) ≤ max q n
    omega
theorem nrun_j (D q : Nat) : ∀ j : Nat, j ≤ D → (∀ j', j' < j → nok B n (nq B n q j') = true) → nrun B n D q = nrun B n (D - j) (nq B n q j) := by
  intro j
  induction j with
  | zero => intro _ _; rfl
  | succ j ih =>
    intro hj hn
    rw [ih (by omega) (fun j' h => hn j' (by omega)), show D - j = (D - (j + 1)) + 1 by omega]
    show (if nok B n (nq B n q j) then nrun B n (D - (j + 1)) (npos B n (nq B n q j)) else _) = _
    rw [hn j (by omega), if_pos rfl]
    rfl
theorem kd_hit {i : Nat} (hi : i < 6) (hl : ∀ q, q < i → wm B n p q = false) (h : wm B n p i = true) : kd B n p = i + 1 := by
  have hc : i = 0 ∨ i = 1 ∨ i = 2 ∨ i = 3 ∨ i = 4 ∨ i = 5 := by omega
  unfold kd
  rcases hc with rfl | rfl | rfl | rfl | rfl | rfl
  · rw [h, if_pos rfl]
  · rw [hl 0 (by decide), h]; rfl
  · rw [hl 0 (by decide), hl 1 (by decide), h]; rfl
  · rw [hl 0 (by decide), hl 1 (by decide), hl 2 (by decide), h]; rfl
  · rw [hl 0 (by decide), hl 1 (by decide), hl 2 (by decide), hl 3 (by decide), h]; rfl
  · rw [hl 0 (by decide), hl 1 (by decide), hl 2 (by decide), hl 3 (by decide), hl 4 (by decide), h]; rfl
theorem kd_none (hl : ∀ q, q < 6 → wm B n p q = false) : kd B n p = 0 := by
  unfold kd
  rw [hl 0 (by decide), hl 1 (by decide), hl 2 (by decide), hl 3 (by decide), hl 4 (by decide), hl 5 (by decide)]
  rfl
theorem kd_b : kd B n p ≤ 6 := by
  unfold kd
  split
  · omega
  · split
    · omega
    · split
      · omega
      · split
        · omega
        · split
          · omega
          · split <;> omega
theorem wm_len {q : Nat} (h : wm B n p q = true) : 3 ≤ rlt B n p ∧ (3 ≤ q → 4 ≤ rlt B n p) := by
  have hc : q = 0 ∨ q = 1 ∨ q = 2 ∨ q = 3 ∨ q = 4 ∨ q = 5 ∨ 6 ≤ q := by omega
  rcases hc with rfl | rfl | rfl | rfl | rfl | rfl | hc
  · have := (of_decide_eq_true h).1; omega
  · have := (of_decide_eq_true h).1; omega
  · have := (of_decide_eq_true h).1; omega
  · have := (of_decide_eq_true h).1; omega
  · have := (of_decide_eq_true h).1; omega
  · have := (of_decide_eq_true h).1; omega
  · obtain ⟨q', rfl⟩ : ∃ q', q = q' + 6 := ⟨q - 6, by omega⟩
    cases h
theorem kd_len (h : kd B n p ≠ 0) : 3 ≤ rlt B n p ∧ (4 ≤ kd B n p → 4 ≤ rlt B n p) := by
  by_cases he : ∃ i, i < 6 ∧ wm B n p i = true ∧ ∀ q, q < i → wm B n p q = false
  · obtain ⟨i, h1, h2, h3⟩ := he
    have e := kd_hit h1 h3 h2
    have := wm_len h2
    exact ⟨this.1, fun q => this.2 (by omega)⟩
  · exfalso
    refine h (kd_none (fun q hq => ?_))
    have key : ∀ m, m ≤ 6 → ∀ q, q < m → wm B n p q = false := by
      intro m
      induction m with
      | zero => intro _ q hq; exact absurd hq (Nat.not_lt_zero q)
      | succ m ih =>
        intro hm q hq
        by_cases hqm : q = m
        · subst hqm
          cases hw : wm B n p q
          · rfl
          · exact absurd ⟨q, by omega, hw, ih (by omega)⟩ he
        · exact ih (by omega) q (by omega)
    exact key 6 (Nat.le_refl 6) q hq
theorem cend_le (q : Nat) : q ≤ (cend B n q).2 ∧ (cend B n q).2 ≤ max q n ∧ ((cend B n q).1 = true → q + 1 ≤ (cend B n q).2) := by
  have hle := rsp_le (B := B) (n := n) (p := q)
  unfold cend
  by_cases h : bya B n (q + rsp B n q) = 59
  · rw [if_pos h]
    have hi : q + rsp B n q < n := by
      unfold bya at h
      by_cases hi : q + rsp B n q < n
      · exact hi
      · rw [if_neg hi] at h
        omega
    exact ⟨by show q ≤ _; omega, by show q + rsp B n q + 1 ≤ _; omega, fun _ => by show q + 1 ≤ q + rsp B n q + 1; omega⟩
  · rw [if_neg h]
    exact ⟨by show q ≤ _; omega, by show q + rsp B n q ≤ _; omega, fun q => by cases q⟩
theorem nrun_le (hB : TB B n) : ∀ m q, q ≤ (nrun B n m q).2 ∧ (nrun B n m q).2 ≤ max q n := by
  intro m
  induction m with
  | zero => intro q; exact ⟨Nat.le_refl _, by show q ≤ _; omega⟩
  | succ m ih =>
    intro q
    have h1 := npos_le (p := q) hB
    have h2 := ih (npos B n q)
    show q ≤ (if nok B n q then nrun B n m (npos B n q) else (false, npos B n q)).2 ∧ (if nok B n q then nrun B n m (npos B n q) else (false, npos B n q)).2 ≤ _
    split
    · omega
    · exact ⟨h1.1, h1.2.1⟩
theorem cmd_le (hB : TB B n) (hp : p ≤ n) : p ≤ (cmd B n p).2 ∧ (cmd B n p).2 ≤ n ∧ ((cmd B n p).1 = true → p + 5 ≤ (cmd B n p).2) := by
  have hr := rlt_le (B := B) (n := n) (p := p)
  unfold cmd
  by_cases h0 : kd B n p = 0
  · rw [if_pos h0]
    exact ⟨Nat.le_refl _, hp, fun q => by cases q⟩
  · rw [if_neg h0]
    obtain ⟨l1, l2⟩ := kd_len h0
    have hrun := nrun_le hB (if kd B n p ≤ 3 then 3 else 0) (p + rlt B n p)
    have hce := cend_le (B := B) (n := n) (nrun B n (if kd B n p ≤ 3 then 3 else 0) (p + rlt B n p)).2
    cases hk : (nrun B n (if kd B n p ≤ 3 then 3 else 0) (p + rlt B n p)).1
    · rw [if_neg (by decide)]
      exact ⟨by show p ≤ (nrun B n _ _).2; omega, by show (nrun B n _ _).2 ≤ n; omega, fun q => by cases q⟩
    · rw [if_pos rfl]
      refine ⟨by omega, by omega, fun q => ?_⟩
      have := hce.2.2 q
      by_cases h3 : kd B n p ≤ 3
      · rw [if_pos h3] at hk this hrun ⊢
        have hq : p + rlt B n p + 1 ≤ (nrun B n 3 (p + rlt B n p)).2 := by
          have hn := npos_le (p := p + rlt B n p) hB
          have e : nrun B n 3 (p + rlt B n p) = if nok B n (p + rlt B n p) then nrun B n 2 (npos B n (p + rlt B n p)) else (false, npos B n (p + rlt B n p)) := rfl
          cases hk2 : nok B n (p + rlt B n p)
          · rw [e, hk2, if_neg (by decide)] at hk
            cases hk
          · have h2 := nrun_le hB 2 (npos B n (p + rlt B n p))
            have := hn.2.2 hk2
            rw [e, hk2, if_pos rfl]
            omega
        omega
      · have := l2 (by omega)
        omega
theorem ps_le (hB : TB B n) : ∀ i, ps B n i ≤ n := by
  intro i
  induction i with
  | zero =>
    have := rsp_le (B := B) (n := n) (p := 0)
    show rsp B n 0 ≤ n
    omega
  | succ i ih =>
    have h1 := cmd_le hB ih
    have := rsp_le (B := B) (n := n) (p := (cmd B n (ps B n i)).2)
    show (cmd B n (ps B n i)).2 + rsp B n (cmd B n (ps B n i)).2 ≤ n
    omega
theorem ps_ge (hB : TB B n) : ∀ i, (∀ i', i' < i → (cmd B n (ps B n i')).1 = true) → 5 * i ≤ ps B n i := by
  intro i
  induction i with
  | zero => intro _; omega
  | succ i ih =>
    intro h
    have h1 := (cmd_le hB (ps_le hB i)).2.2 (h i (by omega))
    have h2 := ih (fun i' hi => h i' (by omega))
    show 5 * (i + 1) ≤ (cmd B n (ps B n i)).2 + rsp B n (cmd B n (ps B n i)).2
    omega
theorem n_txt {Q : Int32 → ST → Prop} {q len : Nat} (hB : TB B n) (hT : TC B n u) (hp : p ≤ n) (hq : zln.getD q 0 = len) (hl5 : len ≤ 5) (ht : rlt B n p = len → (∀ i, i < len → jI (B (p + i)) = zch q i ∧ p + i < n) → Q (jI 1) u) (hno : (rlt B n p ≠ len ∨ ∃ i, i < len ∧ jI (B (p + i)) ≠ zch q i) → Q (jI 0) u) : wp_X0_isTextAt u (jI (p : Nat)) (jI ((p + rlt B n p : Nat) : Int)) q Q := by
  have hn := hB.1
  have hle := rlt_le (B := B) (n := n) (p := p)
  unfold wp_X0_isTextAt
  rw [hq, jI_sub, show ((p + rlt B n p : Nat) : Int) - (p : Int) = ((rlt B n p : Nat) : Int) by omega]
  refine qeq (by omega) (by omega) (by omega) (by omega) (fun c => ?_) (fun c => hno (Or.inl (by omega)))
  have hc : rlt B n p = len := by omega
  have hlt : ∀ i, i < len → p + i < n := fun i hi => by
    have := (glen_t (fun x => decide (97 ≤ B x ∧ B x ≤ 122)) (n - p) p i (by unfold rlt at hc; omega)).1
    omega
  have key : ∀ K1 K2 : ST → Prop, ((∃ i, i < len ∧ jI (B (p + i)) ≠ zch q i) → K1 u) → ((∀ i, i < len → jI (B (p + i)) = zch q i ∧ p + i < n) → K2 u) → ∃ nn, wl_X0_isTextAt_15 K1 K2 (jI (p : Nat)) q nn u (jI 0) := fun K1 K2 h1 h2 => by
    refine lp_inv (α := ST × Int32) (L := fun nn a => wl_X0_isTextAt_15 K1 K2 (jI (p : Nat)) q nn a.1 a.2) (B := fun LL a => wb_X0_isTextAt_15 K1 K2 (fun t y => LL (t, y)) (jI (p : Nat)) q a.1 a.2) (fun _ _ => rfl) (fun i a => a = (u, jI (i : Nat)) ∧ ∀ i', i' < i → jI (B (p + i')) = zch q i') len (fun i a hi ha LL hLL => ?_) (u, jI 0) ⟨rfl, fun i' h9 => absurd h9 (Nat.not_lt_zero i')⟩
    obtain ⟨rfl, hm⟩ := ha
    dsimp only
    unfold wb_X0_isTextAt_15
    rw [hq]
    refine qle (by omega) (by omega) (by omega) (by omega) (fun d => h2 (fun i' hi' => ⟨hm i' (by omega), hlt i' hi'⟩)) (fun d => ?_)
    have hpi := hlt i (by omega)
    rw [jI_add, show (p : Int) + (i : Int) = ((p + i : Nat) : Int) by omega]
    refine n_byteAt hB hT (by omega) ⟨jin (by omega), ?_⟩
    rw [show bya B n (p + i) = B (p + i) from if_pos hpi, jcl i (by omega)]
    refine al ⟨fun e => alE (jI_add _ _) (hLL _ (by omega) ⟨rfl, fun i' hi' => ?_⟩), fun e => h1 ⟨i, by omega, e⟩⟩
    by_cases h9 : i' = i
    · rw [h9]; exact e
    · exact hm i' (by omega)
  exact key _ _ (fun h => hno (Or.inr h)) (fun h => ht hc h)
theorem chq (hB : TB B n) {i c : Nat} (hi : i < n) (hc : c < 1000) : jI (B i) = jI (c : Nat) ↔ B i = c := by
  have := hB.2 i hi
  exact jI_eq (by omega) (by omega) (by omega) (by omega)
theorem n_txtq {Q : Int32 → ST → Prop} {q : Nat} (hB : TB B n) (hT : TC B n u) (hp : p ≤ n) (hq : q < 6) (h : Q (jI (bI (wm B n p q))) u) : wp_X0_isTextAt u (jI (p : Nat)) (jI ((p + rlt B n p : Nat) : Int)) q Q := by
  have hc : q = 0 ∨ q = 1 ∨ q = 2 ∨ q = 3 ∨ q = 4 ∨ q = 5 := by omega
  rcases hc with rfl | rfl | rfl | rfl | rfl | rfl
  · refine n_txt (len := 3) hB hT hp rfl (by decide) (fun h1 h2 => ?_) (fun h1 => ?_)
    · have e : wm B n p 0 = true := by
        have a0 := h2 0 (by decide)
        rw [show zch 0 0 = jI ((99 : Nat) : Int) by decide, chq hB a0.2 (by decide)] at a0
        have a1 := h2 1 (by decide)
        rw [show zch 0 1 = jI ((117 : Nat) : Int) by decide, chq hB a1.2 (by decide)] at a1
        have a2 := h2 2 (by decide)
        rw [show zch 0 2 = jI ((116 : Nat) : Int) by decide, chq hB a2.2 (by decide)] at a2
        exact bo_t ⟨h1, a0.1, a1.1, a2.1⟩
      rw [e] at h
      exact h
    · have e : wm B n p 0 = false := by
        refine bo_f (fun g => ?_)
        obtain ⟨g9, g0, g1, g2⟩ := g
        rcases h1 with h1 | ⟨i, hi, hne⟩
        · exact h1 g9
        · have hc : i = 0 ∨ i = 1 ∨ i = 2 := by omega
          rcases hc with rfl | rfl | rfl
          · exact hne (by rw [show B (p + 0) = ((99 : Nat) : Int) from g0]; decide)
          · exact hne (by rw [show B (p + 1) = ((117 : Nat) : Int) from g1]; decide)
          · exact hne (by rw [show B (p + 2) = ((116 : Nat) : Int) from g2]; decide)
      rw [e] at h
      exact h
  · refine n_txt (len := 3) hB hT hp rfl (by decide) (fun h1 h2 => ?_) (fun h1 => ?_)
    · have e : wm B n p 1 = true := by
        have a0 := h2 0 (by decide)
        rw [show zch 1 0 = jI ((117 : Nat) : Int) by decide, chq hB a0.2 (by decide)] at a0
        have a1 := h2 1 (by decide)
        rw [show zch 1 1 = jI ((115 : Nat) : Int) by decide, chq hB a1.2 (by decide)] at a1
        have a2 := h2 2 (by decide)
        rw [show zch 1 2 = jI ((101 : Nat) : Int) by decide, chq hB a2.2 (by decide)] at a2
        exact bo_t ⟨h1, a0.1, a1.1, a2.1⟩
      rw [e] at h
      exact h
    · have e : wm B n p 1 = false := by
        refine bo_f (fun g => ?_)
        obtain ⟨g9, g0, g1, g2⟩ := g
        rcases h1 with h1 | ⟨i, hi, hne⟩
        · exact h1 g9
        · have hc : i = 0 ∨ i = 1 ∨ i = 2 := by omega
          rcases hc with rfl | rfl | rfl
          · exact hne (by rw [show B (p + 0) = ((117 : Nat) : Int) from g0]; decide)
          · exact hne (by rw [show B (p + 1) = ((115 : Nat) : Int) from g1]; decide)
          · exact hne (by rw [show B (p + 2) = ((101 : Nat) : Int) from g2]; decide)
      rw [e] at h
      exact h
  · refine n_txt (len := 4) hB hT hp rfl (by decide) (fun h1 h2 => ?_) (fun h1 => ?_)
    · have e : wm B n p 2 = true := by
        have a0 := h2 0 (by decide)
        rw [show zch 2 0 = jI ((100 : Nat) : Int) by decide, chq hB a0.2 (by decide)] at a0
        have a1 := h2 1 (by decide)
        rw [show zch 2 1 = jI ((114 : Nat) : Int) by decide, chq hB a1.2 (by decide)] at a1
        have a2 := h2 2 (by decide)
        rw [show zch 2 2 = jI ((111 : Nat) : Int) by decide, chq hB a2.2 (by decide)] at a2
        have a3 := h2 3 (by decide)
        rw [show zch 2 3 = jI ((112 : Nat) : Int) by decide, chq hB a3.2 (by decide)] at a3
        exact bo_t ⟨h1, a0.1, a1.1, a2.1, a3.1⟩
      rw [e] at h
      exact h
    · have e : wm B n p 2 = false := by
        refine bo_f (fun g => ?_)
        obtain ⟨g9, g0, g1, g2, g3⟩ := g
        rcases h1 with h1 | ⟨i, hi, hne⟩
        · exact h1 g9
        · have hc : i = 0 ∨ i = 1 ∨ i = 2 ∨ i = 3 := by omega
          rcases hc with rfl | rfl | rfl | rfl
          · exact hne (by rw [show B (p + 0) = ((100 : Nat) : Int) from g0]; decide)
          · exact hne (by rw [show B (p + 1) = ((114 : Nat) : Int) from g1]; decide)
          · exact hne (by rw [show B (p + 2) = ((111 : Nat) : Int) from g2]; decide)
          · exact hne (by rw [show B (p + 3) = ((112 : Nat) : Int) from g3]; decide)
      rw [e] at h
      exact h
  · refine n_txt (len := 4) hB hT hp rfl (by decide) (fun h1 h2 => ?_) (fun h1 => ?_)
    · have e : wm B n p 3 = true := by
        have a0 := h2 0 (by decide)
        rw [show zch 3 0 = jI ((108 : Nat) : Int) by decide, chq hB a0.2 (by decide)] at a0
        have a1 := h2 1 (by decide)
        rw [show zch 3 1 = jI ((105 : Nat) : Int) by decide, chq hB a1.2 (by decide)] at a1
        have a2 := h2 2 (by decide)
        rw [show zch 3 2 = jI ((110 : Nat) : Int) by decide, chq hB a2.2 (by decide)] at a2
        have a3 := h2 3 (by decide)
        rw [show zch 3 3 = jI ((101 : Nat) : Int) by decide, chq hB a3.2 (by decide)] at a3
        exact bo_t ⟨h1, a0.1, a1.1, a2.1, a3.1⟩
      rw [e] at h
      exact h
    · have e : wm B n p 3 = false := by
        refine bo_f (fun g => ?_)
        obtain ⟨g9, g0, g1, g2, g3⟩ := g
        rcases h1 with h1 | ⟨i, hi, hne⟩
        · exact h1 g9
        · have hc : i = 0 ∨ i = 1 ∨ i = 2 ∨ i = 3 := by omega
          rcases hc with rfl | rfl | rfl | rfl
          · exact hne (by rw [show B (p + 0) = ((108 : Nat) : Int) from g0]; decide)
          · exact hne (by rw [show B (p + 1) = ((105 : Nat) : Int) from g1]; decide)
          · exact hne (by rw [show B (p + 2) = ((110 : Nat) : Int) from g2]; decide)
          · exact hne (by rw [show B (p + 3) = ((101 : Nat) : Int) from g3]; decide)
      rw [e] at h
      exact h
  · refine n_txt (len := 4) hB hT hp rfl (by decide) (fun h1 h2 => ?_) (fun h1 => ?_)
    · have e : wm B n p 4 = true := by
        have a0 := h2 0 (by decide)
        rw [show zch 4 0 = jI ((116 : Nat) : Int) by decide, chq hB a0.2 (by decide)] at a0
        have a1 := h2 1 (by decide)
        rw [show zch 4 1 = jI ((114 : Nat) : Int) by decide, chq hB a1.2 (by decide)] at a1
        have a2 := h2 2 (by decide)
        rw [show zch 4 2 = jI ((97 : Nat) : Int) by decide, chq hB a2.2 (by decide)] at a2
        have a3 := h2 3 (by decide)
        rw [show zch 4 3 = jI ((121 : Nat) : Int) by decide, chq hB a3.2 (by decide)] at a3
        exact bo_t ⟨h1, a0.1, a1.1, a2.1, a3.1⟩
      rw [e] at h
      exact h
    · have e : wm B n p 4 = false := by
        refine bo_f (fun g => ?_)
        obtain ⟨g9, g0, g1, g2, g3⟩ := g
        rcases h1 with h1 | ⟨i, hi, hne⟩
        · exact h1 g9
        · have hc : i = 0 ∨ i = 1 ∨ i = 2 ∨ i = 3 := by omega
          rcases hc with rfl | rfl | rfl | rfl
          · exact hne (by rw [show B (p + 0) = ((116 : Nat) : Int) from g0]; decide)
          · exact hne (by rw [show B (p + 1) = ((114 : Nat) : Int) from g1]; decide)
          · exact hne (by rw [show B (p + 2) = ((97 : Nat) : Int) from g2]; decide)
          · exact hne (by rw [show B (p + 3) = ((121 : Nat) : Int) from g3]; decide)
      rw [e] at h
      exact h
  · refine n_txt (len := 5) hB hT hp rfl (by decide) (fun h1 h2 => ?_) (fun h1 => ?_)
    · have e : wm B n p 5 = true := by
        have a0 := h2 0 (by decide)
        rw [show zch 5 0 = jI ((99 : Nat) : Int) by decide, chq hB a0.2 (by decide)] at a0
        have a1 := h2 1 (by decide)
        rw [show zch 5 1 = jI ((108 : Nat) : Int) by decide, chq hB a1.2 (by decide)] at a1
        have a2 := h2 2 (by decide)
        rw [show zch 5 2 = jI ((111 : Nat) : Int) by decide, chq hB a2.2 (by decide)] at a2
        have a3 := h2 3 (by decide)
        rw [show zch 5 3 = jI ((115 : Nat) : Int) by decide, chq hB a3.2 (by decide)] at a3
        have a4 := h2 4 (by decide)
        rw [show zch 5 4 = jI ((101 : Nat) : Int) by decide, chq hB a4.2 (by decide)] at a4
        exact bo_t ⟨h1, a0.1, a1.1, a2.1, a3.1, a4.1⟩
      rw [e] at h
      exact h
    · have e : wm B n p 5 = false := by
        refine bo_f (fun g => ?_)
        obtain ⟨g9, g0, g1, g2, g3, g4⟩ := g
        rcases h1 with h1 | ⟨i, hi, hne⟩
        · exact h1 g9
        · have hc : i = 0 ∨ i = 1 ∨ i = 2 ∨ i = 3 ∨ i = 4 := by omega
          rcases hc with rfl | rfl | rfl | rfl | rfl
          · exact hne (by rw [show B (p + 0) = ((99 : Nat) : Int) from g0]; decide)
          · exact hne (by rw [show B (p + 1) = ((108 : Nat) : Int) from g1]; decide)
          · exact hne (by rw [show B (p + 2) = ((111 : Nat) : Int) from g2]; decide)
          · exact hne (by rw [show B (p + 3) = ((115 : Nat) : Int) from g3]; decide)
          · exact hne (by rw [show B (p + 4) = ((101 : Nat) : Int) from g4]; decide)
      rw [e] at h
      exact h
theorem n_findWord {Q : Int32 → ST → Prop} (hB : TB B n) (hT : TC B n u) (hp : p ≤ n) (h : Q (jI ((kd B n p : Int) - 1)) u) : wp_X0_findWord u (jI (p : Nat)) (jI ((p + rlt B n p : Nat) : Int)) Q := by
  unfold wp_X0_findWord
  have key : ∀ (K1 : ST → Int32 → Prop) (K2 : ST → Prop), (∀ i : Nat, kd B n p = i + 1 → K1 u (jI (i : Nat))) → (kd B n p = 0 → K2 u) → ∃ nn, wl_X0_findWord_2 K1 K2 (jI (p : Nat)) (jI ((p + rlt B n p : Nat) : Int)) nn u (jI 0) := fun K1 K2 h1 h2 => by
    refine lp_inv (α := ST × Int32) (L := fun nn a => wl_X0_findWord_2 K1 K2 (jI (p : Nat)) (jI ((p + rlt B n p : Nat) : Int)) nn a.1 a.2) (B := fun LL a => wb_X0_findWord_2 K1 K2 (fun t y => LL (t, y)) (jI (p : Nat)) (jI ((p + rlt B n p : Nat) : Int)) a.1 a.2) (fun _ _ => rfl) (fun i a => a = (u, jI (i : Nat)) ∧ ∀ q, q < i → wm B n p q = false) 6 (fun i a hi ha LL hLL => ?_) (u, jI 0) ⟨rfl, fun q h9 => absurd h9 (Nat.not_lt_zero q)⟩
    obtain ⟨rfl, hm⟩ := ha
    dsimp only
    unfold wb_X0_findWord_2
    refine qle (by decide) (by decide) (by omega) (by omega) (fun d => h2 (kd_none (fun q hq => hm q (by omega)))) (fun d => ?_)
    refine ⟨i, by omega, rfl, n_txtq hB hT hp (by omega) (qb (fun e => ?_) (fun e => ?_))⟩
    · refine alE (jI_add _ _) (hLL _ (by omega) ⟨rfl, fun q hq => ?_⟩)
      by_cases h9 : q = i
      · rw [h9]; exact e
      · exact hm q (by omega)
    · exact h1 i (kd_hit (by omega) hm e)
  refine key _ _ (fun i hi => ?_) (fun h0 => ?_)
  · rw [hi, show ((i + 1 : Nat) : Int) - 1 = (i : Int) by omega] at h
    exact h
  · rw [h0] at h
    exact h
end TXC
theorem last_89d : True := trivial
