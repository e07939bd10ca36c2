/-! the class reads commands -/
/-- what is kept of command i -/
def EC (B : Nat → Int) (n : Nat) (u : ST) (i : Nat) : Prop := u.1 51 i = jI ((kd B n (ps B n i) : Int) - 1) ∧ (kd B n (ps B n i) ≤ 3 → ∀ j : Nat, j < 3 → u.1 52 (3 * i + j) = jI (nv B n (ps B n i) j))
def KT (u u' : ST) : Prop := (∀ r : Nat, r ≠ 51 → r ≠ 52 → u'.1 r = u.1 r) ∧ ∀ c : Nat, c ≠ 43 → c ≠ 44 → u'.2 c = u.2 c
theorem KT.rf (u : ST) : KT u u := ⟨fun _ _ _ => rfl, fun _ _ _ => rfl⟩
theorem KT.trans {a b c : ST} (h1 : KT a b) (h2 : KT b c) : KT a c := ⟨fun r h3 h4 => (h2.1 r h3 h4).trans (h1.1 r h3 h4), fun k h3 h4 => (h2.2 k h3 h4).trans (h1.2 k h3 h4)⟩
theorem TC.kt {B : Nat → Int} {n : Nat} {u u' : ST} (h : TC B n u) (hk : KT u u') : TC B n u' := ⟨(hk.2 42 (by decide) (by decide)).trans h.1, fun i hi => by rw [hk.1 50 (by decide) (by decide)]; exact h.2 i hi⟩
section TXE
variable {B : Nat → Int} {n p : Nat} {u : ST}
theorem n_nums {K1 K2 : ST → Prop} {c D q : Nat} (hB : TB B n) (hT : TC B n u) (hq : q ≤ n) (hD : D ≤ 3) (h44 : u.2 44 = jI (c : Nat)) (hc : c < 30) (h1 : (nrun B n D q).1 = false → ∀ u' : ST, (∀ r : Nat, r ≠ 52 → u'.1 r = u.1 r) → u'.2 = u.2 → (∀ i : Nat, i < 3 * c → u'.1 52 i = u.1 52 i) → K1 (stC u' (nrun B n D q).2)) (h2 : (nrun B n D q).1 = true → ∀ u' : ST, (∀ r : Nat, r ≠ 52 → u'.1 r = u.1 r) → u'.2 = u.2 → (∀ i : Nat, i < 3 * c → u'.1 52 i = u.1 52 i) → (∀ j : Nat, j < D → u'.1 52 (3 * c + j) = jI (nval B n (nq B n q j))) → K2 (stC u' (nrun B n D q).2)) : ∃ nn, wl_X0_readCommand_51 K1 K2 (jI (D : Nat)) nn (stC u q) (jI 0) := by
  have hn := hB.1
  refine lp_inv (α := ST × Int32) (L := fun nn a => wl_X0_readCommand_51 K1 K2 (jI (D : Nat)) nn a.1 a.2) (B := fun LL a => wb_X0_readCommand_51 K1 K2 (fun t y => LL (t, y)) (jI (D : Nat)) a.1 a.2) (fun _ _ => rfl) (fun j a => a.2 = jI (j : Nat) ∧ (∀ j', j' < j → nok B n (nq B n q j') = true) ∧ ∃ u' : ST, a.1 = stC u' (nq B n q j) ∧ (∀ r : Nat, r ≠ 52 → u'.1 r = u.1 r) ∧ u'.2 = u.2 ∧ (∀ i : Nat, i < 3 * c → u'.1 52 i = u.1 52 i) ∧ ∀ j' : Nat, j' < j → u'.1 52 (3 * c + j') = jI (nval B n (nq B n q j'))) D (fun j a hj ha LL hLL => ?_) (stC u q, jI 0) ⟨rfl, fun j' h9 => absurd h9 (Nat.not_lt_zero j'), u, rfl, fun _ _ => rfl, rfl, fun _ _ => rfl, fun j' h9 => absurd h9 (Nat.not_lt_zero j')⟩
  obtain ⟨t, y⟩ := a
  obtain ⟨ha1, ha2, u', ha3, ha4, ha5, ha6, ha7⟩ := ha
  dsimp only at ha1 ha3 ⊢
  subst ha1 ha3
  have hrun := nrun_j (B := B) (n := n) D q j hj ha2
  have hnq := nq_le (n := n) hB q j
  unfold wb_X0_readCommand_51
  refine qle (by omega) (by omega) (by omega) (by omega) (fun d => ?_) (fun d => ?_)
  · have e : j = D := by omega
    subst e
    rw [Nat.sub_self] at hrun
    have h9 := h2 (by rw [hrun]; rfl) u' ha4 ha5 ha6 ha7
    rw [hrun] at h9
    exact h9
  · have hTu : TC B n u' := ⟨by rw [ha5]; exact hT.1, fun i hi => by rw [ha4 50 (by decide)]; exact hT.2 i hi⟩
    rw [show D - j = (D - (j + 1)) + 1 by omega] at hrun
    have e9 : nrun B n (D - (j + 1) + 1) (nq B n q j) = if nok B n (nq B n q j) then nrun B n (D - (j + 1)) (npos B n (nq B n q j)) else (false, npos B n (nq B n q j)) := rfl
    rw [e9] at hrun
    refine n_number (c := c) (j := j) hB hTu (by omega) (by rw [ha5]; exact h44) (by omega) (fun hno => qt rfl ?_) (fun hyes => qf (jne (a := 1) (b := 0) (by decide)) ?_)
    · rw [hno, if_neg (by decide)] at hrun
      have h9 := h1 (by rw [hrun]) u' ha4 ha5 ha6
      rw [hrun] at h9
      exact h9
    · refine alE (jI_add _ _) (hLL _ (by omega) ⟨rfl, fun j' hj' => ?_, zrp u' 52 (3 * c + j) (jI (nval B n (nq B n q j))), rfl, fun r hr => (zrp_o hr).trans (ha4 r hr), ha5, fun i hi => ?_, fun j' hj' => ?_⟩)
      · by_cases h9 : j' = j
        · rw [h9]; exact hyes
        · exact ha2 j' (by omega)
      · rw [zrp_at, upd_o (by omega)]
        exact ha6 i hi
      · rw [zrp_at]
        by_cases h9 : j' = j
        · rw [h9, upd_at]
        · rw [upd_o (by omega)]
          exact ha7 j' (by omega)
theorem n_readCommand {Q : Int32 → ST → Prop} {c : Nat} (hB : TB B n) (hT : TC B n u) (hp : p ≤ n) (h44 : u.2 44 = jI (c : Nat)) (hc : c < 30) (h1 : (cmd B n p).1 = false → ∀ u' : ST, (∀ r : Nat, r ≠ 51 → r ≠ 52 → u'.1 r = u.1 r) → u'.2 = u.2 → Q (jI 0) (stC u' (cmd B n p).2)) (h2 : (cmd B n p).1 = true → ∀ u' : ST, (∀ r : Nat, r ≠ 51 → r ≠ 52 → u'.1 r = u.1 r) → u'.2 = u.2 → (∀ i : Nat, i < c → u'.1 51 i = u.1 51 i) → (∀ i : Nat, i < 3 * c → u'.1 52 i = u.1 52 i) → u'.1 51 c = jI ((kd B n p : Int) - 1) → (kd B n p ≤ 3 → ∀ j : Nat, j < 3 → u'.1 52 (3 * c + j) = jI (nv B n p j)) → Q (jI 1) (stC u' (cmd B n p).2)) : wp_X0_readCommand (stC u p) Q := by
  have hn := hB.1
  have hr := rlt_le (B := B) (n := n) (p := p)
  have hkb := kd_b (B := B) (n := n) (p := p)
  unfold wp_X0_readCommand
  refine n_skipLt hB hT (by omega) ?_
  rw [stC_43, stC_43]
  refine n_findWord hB hT.st hp ?_
  refine qeq (by omega) (by omega) (by decide) (by decide) (fun d => ?_) (fun d => ?_)
  · have ek : kd B n p = 0 := by omega
    have ec : cmd B n p = (false, p) := if_pos ek
    rw [stC_nx]
    have h9 := h1 (by rw [ec]) u (fun _ _ _ => rfl) rfl
    rw [ec] at h9
    exact al h9
  · have ek : kd B n p ≠ 0 := by omega
    have ec : cmd B n p = if (nrun B n (if kd B n p ≤ 3 then 3 else 0) (p + rlt B n p)).1 then cend B n (nrun B n (if kd B n p ≤ 3 then 3 else 0) (p + rlt B n p)).2 else (false, (nrun B n (if kd B n p ≤ 3 then 3 else 0) (p + rlt B n p)).2) := if_neg ek
    rw [show (stC u (p + rlt B n p)).2 44 = jI (c : Nat) from (zsp_nq (by decide)).trans h44, cs _ 51 c _ (by show c < 30; exact hc), zrp_st]
    refine al ?_
    have hu1 : ∀ r : Nat, r ≠ 51 → (zrp u 51 c (jI ((kd B n p : Int) - 1))).1 r = u.1 r := fun r h => zrp_o h
    have hTu : TC B n (zrp u 51 c (jI ((kd B n p : Int) - 1))) := ⟨hT.1, fun i hi => by rw [hu1 50 (by decide)]; exact hT.2 i hi⟩
    have hD : ∀ D : Nat, (if kd B n p ≤ 3 then 3 else 0) = D → (∃ nn : Nat, wl_X0_readCommand_51 (fun u_66 => Q (jI 0) u_66) (fun u_74 => wp_X0_skipSpaces u_74 (fun s6 => wp_X0_byteAt s6 (s6.2 43) (fun r4 s7 => ((r4 = (jI 59) → (∀ s8 : ST, s8 = zsp s7 43 ((s7.2 43) + (jI 1)) → Q (jI 1) s8)) ∧ (¬ r4 = (jI 59) → Q (jI 0) s7))))) (jI (D : Nat)) nn (stC (zrp u 51 c (jI ((kd B n p : Int) - 1))) (p + rlt B n p)) (jI 0)) := fun D hDe => by
      rw [hDe] at ec
      have hD3 : D ≤ 3 := by
        rw [← hDe]
        split <;> omega
      have hrun := nrun_le (n := n) hB D (p + rlt B n p)
      refine n_nums hB hTu (by omega) hD3 h44 hc (fun g1 u' g2 g3 g4 => ?_) (fun g1 u' g2 g3 g4 g5 => ?_)
      · rw [g1, if_neg (by decide)] at ec
        have h9 := h1 (by rw [ec]) u' (fun r r1 r2 => (g2 r r2).trans (hu1 r r1)) g3
        rw [ec] at h9
        exact h9
      · rw [g1, if_pos rfl] at ec
        have hTu' : TC B n u' := ⟨by rw [g3]; exact hT.1, fun i hi => by rw [g2 50 (by decide)]; exact hTu.2 i hi⟩
        have hce := rsp_le (B := B) (n := n) (p := (nrun B n D (p + rlt B n p)).2)
        refine n_skipSp hB hTu' (by omega) ?_
        rw [stC_43]
        refine n_byteAt hB hTu'.st (by omega) ?_
        have hbb := bya_b hB ((nrun B n D (p + rlt B n p)).2 + rsp B n (nrun B n D (p + rlt B n p)).2)
        unfold cend at ec
        refine qeq (by omega) (by omega) (by decide) (by decide) (fun f => ?_) (fun f => ?_)
        · rw [if_pos f] at ec
          have h9 := h2 (by rw [ec]) u' (fun r r1 r2 => (g2 r r2).trans (hu1 r r1)) g3 (fun i hi => ?_) (fun i hi => ?_) ?_ (fun hk3 j hj => ?_)
          · rw [ec] at h9
            rw [stC_43, jI_add, show (((nrun B n D (p + rlt B n p)).2 + rsp B n (nrun B n D (p + rlt B n p)).2 : Nat) : Int) + 1 = (((nrun B n D (p + rlt B n p)).2 + rsp B n (nrun B n D (p + rlt B n p)).2 + 1 : Nat) : Int) by omega, stC_nx]
            exact al h9
          · rw [g2 51 (by decide), zrp_at, upd_o (by omega)]
          · rw [g4 i hi, hu1 52 (by decide)]
          · rw [g2 51 (by decide), zrp_at, upd_at]
          · rw [if_pos hk3] at hDe
            exact g5 j (by omega)
        · rw [if_neg f] at ec
          have h9 := h1 (by rw [ec]) u' (fun r r1 r2 => (g2 r r2).trans (hu1 r r1)) g3
          rw [ec] at h9
          exact h9
    unfold wp_X0_numbersAfter
    refine qeq (by omega) (by omega) (by decide) (by decide) (fun e => hD 3 (if_pos (by omega))) (fun e => ?_)
    refine qeq (by omega) (by omega) (by decide) (by decide) (fun e2 => hD 3 (if_pos (by omega))) (fun e2 => ?_)
    exact qeq (by omega) (by omega) (by decide) (by decide) (fun e3 => hD 3 (if_pos (by omega))) (fun e3 => hD 0 (if_neg (by omega)))
theorem n_readText {Q : Int32 → ST → Prop} (hB : TB B n) (hT : TC B n u) (h1 : ∀ (N : Nat) (u' : ST), (∀ i, i < N → ps B n i < n ∧ (cmd B n (ps B n i)).1 = true) → ps B n N < n → (cmd B n (ps B n N)).1 = false → KT u u' → u'.2 43 = jI ((cmd B n (ps B n N)).2 : Nat) → Q (jI 0) u') (h2 : ∀ (N : Nat) (u' : ST), (∀ i, i < N → ps B n i < n ∧ (cmd B n (ps B n i)).1 = true) → ¬ ps B n N < n → KT u u' → u'.2 44 = jI (N : Nat) → (∀ i, i < N → EC B n u' i) → Q (jI 1) u') : wp_X0_readText u Q := by
  have hn := hB.1
  unfold wp_X0_readText
  refine al (al ?_)
  have e0 : zsp (zsp u 43 (jI 0)) 44 (jI 0) = stC (zsp u 44 (jI 0)) 0 := by
    refine Prod.ext rfl (funext fun j => ?_)
    show (if j = 44 then jI 0 else if j = 43 then jI 0 else u.2 j) = if j = 43 then jI ((0 : Nat) : Int) else if j = 44 then jI 0 else u.2 j
    by_cases h3 : j = 43
    · subst h3
      rfl
    · rw [if_neg h3, if_neg h3]
  rw [e0]
  have hk0 : KT u (zsp u 44 (jI 0)) := ⟨fun _ _ _ => rfl, fun c _ h4 => zsp_nq h4⟩
  have h440 : (zsp u 44 (jI 0)).2 44 = jI 0 := zsp_at
  generalize zsp u 44 (jI 0) = u1 at *
  have hT1 := hT.kt hk0
  refine n_skipSp hB hT1 (by omega) ?_
  rw [Nat.zero_add]
  have key : ∀ K1 K2 : ST → Prop, (∀ (N : Nat) (u' : ST), (∀ i, i < N → ps B n i < n ∧ (cmd B n (ps B n i)).1 = true) → ps B n N < n → (cmd B n (ps B n N)).1 = false → KT u u' → u'.2 43 = jI ((cmd B n (ps B n N)).2 : Nat) → K1 u') → (∀ (N : Nat) (u' : ST), (∀ i, i < N → ps B n i < n ∧ (cmd B n (ps B n i)).1 = true) → ¬ ps B n N < n → KT u u' → u'.2 44 = jI (N : Nat) → (∀ i, i < N → EC B n u' i) → K2 u') → ∃ nn, wl_X0_readText_16 K1 K2 nn (stC u1 (rsp B n 0)) (jI 0) := fun K1 K2 hK1 hK2 => by
    refine lp_inv (α := ST × Int32) (L := fun nn a => wl_X0_readText_16 K1 K2 nn a.1 a.2) (B := fun LL a => wb_X0_readText_16 K1 K2 (fun t y => LL (t, y)) a.1 a.2) (fun _ _ => rfl) (fun i a => a.2 = jI (i : Nat) ∧ (∀ i', i' < i → ps B n i' < n ∧ (cmd B n (ps B n i')).1 = true) ∧ ∃ u' : ST, a.1 = stC u' (ps B n i) ∧ KT u u' ∧ u'.2 44 = jI (i : Nat) ∧ ∀ i', i' < i → EC B n u' i') 30 (fun i a hi ha LL hLL => ?_) (stC u1 (rsp B n 0), jI 0) ⟨rfl, fun i' h9 => absurd h9 (Nat.not_lt_zero i'), u1, rfl, hk0, h440, fun i' h9 => absurd h9 (Nat.not_lt_zero i')⟩
    obtain ⟨t, y⟩ := a
    obtain ⟨ha1, ha2, u', ha3, ha4, ha5, ha6⟩ := ha
    dsimp only at ha1 ha3 ⊢
    subst ha1 ha3
    have hTu := hT.kt ha4
    have hpl := ps_le hB i
    have hpg := ps_ge hB i (fun i' hi' => (ha2 i' hi').2)
    have hkst : ∀ (v : ST) (q : Nat), KT u v → KT u (stC v q) := fun v q hv => ⟨hv.1, fun c c3 c4 => (zsp_nq c3).trans (hv.2 c c3 c4)⟩
    unfold wb_X0_readText_16
    refine qf (jnle (by omega)) ?_
    rw [hTu.st.1, stC_43]
    refine qle (by omega) (by omega) (by omega) (by omega) (fun d => ?_) (fun d => ?_)
    · exact hK2 i _ ha2 (by omega) (hkst _ _ ha4) ((zsp_nq (by decide)).trans ha5) ha6
    · have hps : ps B n i < n := by omega
      refine n_readCommand hB hTu (by omega) ha5 (by omega) (fun g1 v g2 g3 => qt rfl ?_) (fun g1 v g2 g3 g4 g5 g6 g7 => qf (jne (a := 1) (b := 0) (by decide)) ?_)
      · have hkv : KT u v := ha4.trans ⟨g2, fun c _ _ => by rw [g3]⟩
        exact hK1 i _ ha2 hps g1 (hkst _ _ hkv) stC_43
      · have e44 : (stC v (cmd B n (ps B n i)).2).2 44 = jI (i : Nat) := (zsp_nq (by decide)).trans (by rw [g3]; exact ha5)
        rw [e44, jI_add]
        have e1 : zsp (stC v (cmd B n (ps B n i)).2) 44 (jI ((i : Int) + 1)) = stC (zsp v 44 (jI ((i + 1 : Nat) : Int))) (cmd B n (ps B n i)).2 := by
          refine Prod.ext rfl (funext fun j => ?_)
          show (if j = 44 then jI ((i : Int) + 1) else if j = 43 then jI ((cmd B n (ps B n i)).2 : Nat) else v.2 j) = if j = 43 then jI ((cmd B n (ps B n i)).2 : Nat) else if j = 44 then jI ((i + 1 : Nat) : Int) else v.2 j
          by_cases h3 : j = 43
          · subst h3
            rfl
          · rw [if_neg h3, if_neg h3]
            rfl
        rw [e1]
        have hkv : KT u (zsp v 44 (jI ((i + 1 : Nat) : Int))) := ha4.trans ⟨g2, fun c _ h4 => (zsp_nq h4).trans (by rw [g3])⟩
        have hcl := cmd_le hB hpl
        refine al (n_skipSp hB (hT.kt hkv) (by omega) (al (hLL _ (by omega) ⟨jeq (by omega), fun i' hi' => ?_, zsp v 44 (jI ((i + 1 : Nat) : Int)), rfl, hkv, zsp_at, fun i' hi' => ?_⟩)))
        · by_cases h9 : i' = i
          · rw [h9]; exact ⟨hps, g1⟩
          · exact ha2 i' (by omega)
        · show v.1 51 i' = _ ∧ (_ → ∀ j : Nat, j < 3 → v.1 52 (3 * i' + j) = _)
          by_cases h9 : i' = i
          · rw [h9]; exact ⟨g6, g7⟩
          · obtain ⟨f1, f2⟩ := ha6 i' (by omega)
            exact ⟨by rw [g4 i' (by omega)]; exact f1, fun hk j hj => by rw [g5 (3 * i' + j) (by omega)]; exact f2 hk j hj⟩
  exact key _ _ h1 h2
end TXE
theorem last_89e : True := trivial
