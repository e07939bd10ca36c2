/-! the reference reads a text of commands -/
def wco (B : Nat → Int) (p : Nat) : Nat → Int
  | 0 => 0
  | i + 1 => 27 * wco B p i + (B (p + i) - 96)
def wcd (B : Nat → Int) (n p : Nat) : Int := if rlt B n p ≤ 5 then wco B p (rlt B n p) else 0
def EM (B : Nat → Int) (n : Nat) (v : ST) (i : Nat) : Prop := v.1 4 (4 * i) = jI (kd B n (ps B n i) : Nat) ∧ (kd B n (ps B n i) ≤ 3 → ∀ j : Nat, j < 3 → v.1 4 (4 * i + 1 + j) = jI (nv B n (ps B n i) j))
def KR (u u' : ST) : Prop := (∀ r : Nat, r ≠ 4 → u'.1 r = u.1 r) ∧ ∀ c : Nat, c ≠ 9 → c ≠ 10 → u'.2 c = u.2 c
theorem KR.rf (u : ST) : KR u u := ⟨fun _ _ => rfl, fun _ _ _ => rfl⟩
theorem KR.trans {a b c : ST} (h1 : KR a b) (h2 : KR b c) : KR a c := ⟨fun r h3 => (h2.1 r h3).trans (h1.1 r h3), fun k h3 h4 => (h2.2 k h3 h4).trans (h1.2 k h3 h4)⟩
theorem TM.kr {B : Nat → Int} {n : Nat} {u u' : ST} (h : TM B n u) (hk : KR u u') : TM B n u' := ⟨(hk.2 8 (by decide) (by decide)).trans h.1, fun i hi => by rw [hk.1 3 (by decide)]; exact h.2 i hi⟩
section TXM
variable {B : Nat → Int} {n p : Nat} {v : ST}
theorem r_look {Q : Int32 → ST → Prop} {i : Nat} (hB : TB B n) (hT : TM B n v) (h9 : v.2 9 = jI (i : Nat)) (hi : i < 100000) (h : Q (jI (bya B n i)) v) : wp_X7_look v Q := by
  have hn := hB.1
  unfold wp_X7_look
  rw [hT.1, h9]
  unfold bya at h
  refine qle (by omega) (by omega) (by omega) (by omega) (fun c => ?_) (fun c => ?_)
  · rw [if_neg (by omega)] at h
    exact h
  · rw [if_pos (by omega)] at h
    exact ⟨jin (by omega), alE (by rw [jcl i (by omega)]; exact hT.2 i (by omega)) h⟩
theorem r_skips {Q : Int32 → ST → Prop} (hB : TB B n) (hT : TM B n v) (hp : p ≤ 1000) (h : Q (jI (rsp B n p : Nat)) (stM v (p + rsp B n p))) : wp_X7_skips (stM v p) Q := by
  have hn := hB.1
  have hle := rsp_le (B := B) (n := n) (p := p)
  unfold wp_X7_skips
  have key : ∀ K' : ST → Int32 → Prop, K' (stM v (p + rsp B n p)) (jI (rsp B n p : Nat)) → ∃ nn, wl_X7_skips_2 K' nn (stM v (p + 0)) (jI (0 : Nat)) := fun K' hK => by
    refine lp_det (α := ST × Int32) (L := fun nn a => wl_X7_skips_2 K' nn a.1 a.2) (B := fun LL a => wb_X7_skips_2 K' (fun t y => LL (t, y)) a.1 a.2) (fun _ _ => rfl) (fun i => (stM v (p + i), jI (i : Nat))) (rsp B n p) (fun i hi LL hLL => ?_)
    dsimp only
    unfold wb_X7_skips_2
    refine r_look hB hT.st stM_9 (by omega) ?_
    have hbb := bya_b hB (p + i)
    refine qeq (by omega) (by omega) (by decide) (by decide) (fun d => ?_) (fun d => ?_)
    · have eb : p + i < n := by
        unfold bya at d
        by_cases h9 : p + i < n
        · exact h9
        · rw [if_neg h9] at d
          omega
      have ed : bya B n (p + i) = B (p + i) := if_pos eb
      have h9 : i < rsp B n p := by
        by_cases h9 : i < rsp B n p
        · exact h9
        · have := glen_e (fun x => decide (B x = 32)) (n - p) p (by unfold rsp at *; omega)
          rw [show p + glen (fun x => decide (B x = 32)) (n - p) p = p + i by unfold rsp at *; omega] at this
          have := of_decide_eq_false this
          omega
      rw [stM_9, jI_add, show ((p + i : Nat) : Int) + 1 = ((p + (i + 1) : Nat) : Int) by omega, stM_nx]
      exact al (alE ((jI_add _ _).trans (jeq (by omega))) (hLL h9))
    · have e : i = rsp B n p := by
        by_cases h9 : i < rsp B n p
        · have g := glen_t (fun x => decide (B x = 32)) (n - p) p i h9
          have := of_decide_eq_true g.2
          have ed : bya B n (p + i) = B (p + i) := if_pos (by omega)
          omega
        · omega
      rw [e]
      exact hK
  exact key _ h
theorem lt_b (i : Nat) (h : i < rlt B n p) : 97 ≤ B (p + i) ∧ B (p + i) ≤ 122 ∧ p + i < n := by
  have g := glen_t (fun x => decide (97 ≤ B x ∧ B x ≤ 122)) (n - p) p i h
  have := of_decide_eq_true g.2
  have := g.1
  omega
theorem lt_n (hp : p ≤ n) : ¬ (97 ≤ bya B n (p + rlt B n p) ∧ bya B n (p + rlt B n p) ≤ 122) := by
  have hle := rlt_le (B := B) (n := n) (p := p)
  unfold bya
  by_cases h9 : p + rlt B n p < n
  · rw [if_pos h9]
    have := glen_e (fun x => decide (97 ≤ B x ∧ B x ≤ 122)) (n - p) p (by unfold rlt at *; omega)
    exact of_decide_eq_false this
  · rw [if_neg h9]
    omega
theorem wco_b : ∀ i, i ≤ rlt B n p → 0 ≤ wco B p i ∧ (i ≤ 0 → wco B p i ≤ 0) ∧ (i ≤ 1 → wco B p i ≤ 26) ∧ (i ≤ 2 → wco B p i ≤ 728) ∧ (i ≤ 3 → wco B p i ≤ 19682) ∧ (i ≤ 4 → wco B p i ≤ 531440) ∧ (i ≤ 5 → wco B p i ≤ 14348906) := by
  intro i
  induction i with
  | zero =>
    intro _
    have e : wco B p 0 = 0 := rfl
    omega
  | succ i ih =>
    intro hi
    have e : wco B p (i + 1) = 27 * wco B p i + (B (p + i) - 96) := rfl
    have h1 := ih (by omega)
    have h2 := lt_b (B := B) (n := n) (p := p) i (by omega)
    omega
theorem r_word {Q : Int32 → ST → Prop} (hB : TB B n) (hT : TM B n v) (hp : p ≤ n) (h : Q (jI (wcd B n p)) (stM v (p + rlt B n p))) : wp_X7_readsWord (stM v p) Q := by
  have hn := hB.1
  have hle := rlt_le (B := B) (n := n) (p := p)
  unfold wp_X7_readsWord
  have key : ∀ K' : ST → Int32 → Int32 → Prop, K' (stM v (p + rlt B n p)) (jI (if rlt B n p ≤ 5 then wco B p (rlt B n p) else 0)) (jI (rlt B n p : Nat)) → ∃ nn, wl_X7_readsWord_4 K' nn (stM v (p + 0)) (jI (if 0 ≤ 5 then wco B p 0 else 0)) (jI (0 : Nat)) := fun K' hK => by
    refine lp_det (α := ST × Int32 × Int32) (L := fun nn a => wl_X7_readsWord_4 K' nn a.1 a.2.1 a.2.2) (B := fun LL a => wb_X7_readsWord_4 K' (fun t y z => LL (t, y, z)) a.1 a.2.1 a.2.2) (fun _ _ => rfl) (fun i => (stM v (p + i), jI (if i ≤ 5 then wco B p i else 0), jI (i : Nat))) (rlt B n p) (fun i hi LL hLL => ?_)
    dsimp only
    unfold wb_X7_readsWord_4
    refine r_look hB hT.st stM_9 (by omega) ?_
    have hbb := bya_b hB (p + i)
    refine m_in (by omega) (by omega) (by decide) (by decide) (by decide) (by decide) (qb (fun d => ?_) (fun d => ?_))
    · have d := of_decide_eq_false d
      have e : i = rlt B n p := by
        by_cases h9 : i < rlt B n p
        · have g := lt_b (B := B) (n := n) (p := p) i h9
          have ed : bya B n (p + i) = B (p + i) := if_pos (by omega)
          omega
        · omega
      rw [e]
      exact hK
    · have d := of_decide_eq_true d
      have h9 : i < rlt B n p := by
        by_cases h9 : i < rlt B n p
        · exact h9
        · have g := lt_n (B := B) (n := n) hp
          rw [show rlt B n p = i by omega] at g
          exact absurd d g
      have hLL := hLL h9
      have g := lt_b (B := B) (n := n) (p := p) i h9
      have ed : bya B n (p + i) = B (p + i) := if_pos (by omega)
      refine qle (by decide) (by decide) (by omega) (by omega) (fun c => ?_) (fun c => ?_)
      · rw [if_neg (by omega)] at hLL
        rw [stM_9, jI_add, jI_add, show ((p + i : Nat) : Int) + 1 = ((p + (i + 1) : Nat) : Int) by omega, stM_nx]
        exact alE (jeq (by omega)) (al hLL)
      · rw [if_pos (by omega)] at hLL
        rw [if_pos (by omega)]
        refine r_look hB hT.st stM_9 (by omega) ?_
        rw [stM_9, ed, jI_mul, jI_add, jI_sub, jI_add, jI_add, jI_add, show ((p + i : Nat) : Int) + 1 = ((p + (i + 1) : Nat) : Int) by omega, stM_nx]
        have e : wco B p (i + 1) = 27 * wco B p i + (B (p + i) - 96) := rfl
        exact alE (jeq (b := wco B p (i + 1)) (by omega)) (alE (jeq (by omega)) (al hLL))
  refine key _ ?_
  unfold wcd at h
  refine qle (by omega) (by omega) (by decide) (by decide) (fun c => h) (fun c => ?_)
  rw [if_neg (by omega)] at h
  exact h
theorem w3 {σ : ST} {Q : Int32 → ST → Prop} {a b c : Int32} {x : Int} (e : (((((jI 27) * (((((jI 27) * ((a - (jI 97)) + (jI 1))) + b) - (jI 97)) + (jI 1))) + c) - (jI 97)) + (jI 1)) = jI x) (h : Q (jI x) σ) : wp_X7_wordOf σ a b c (jI 32) (jI 32) Q := by
  unfold wp_X7_wordOf
  exact alE e (qt rfl (qt rfl h))
theorem w4 {σ : ST} {Q : Int32 → ST → Prop} {a b c d : Int32} {x y : Int} (e : (((((jI 27) * (((((jI 27) * ((a - (jI 97)) + (jI 1))) + b) - (jI 97)) + (jI 1))) + c) - (jI 97)) + (jI 1)) = jI x) (h3 : ¬ d = jI 32) (e2 : (((((jI 27) * jI x) + d) - (jI 97)) + (jI 1)) = jI y) (h : Q (jI y) σ) : wp_X7_wordOf σ a b c d (jI 32) Q := by
  unfold wp_X7_wordOf
  exact alE e (qf h3 (alE e2 (qt rfl h)))
theorem w5 {σ : ST} {Q : Int32 → ST → Prop} {a b c d f : Int32} {x y z : Int} (e : (((((jI 27) * (((((jI 27) * ((a - (jI 97)) + (jI 1))) + b) - (jI 97)) + (jI 1))) + c) - (jI 97)) + (jI 1)) = jI x) (h3 : ¬ d = jI 32) (e2 : (((((jI 27) * jI x) + d) - (jI 97)) + (jI 1)) = jI y) (h4 : ¬ f = jI 32) (e3 : (((((jI 27) * jI y) + f) - (jI 97)) + (jI 1)) = jI z) (h : Q (jI z) σ) : wp_X7_wordOf σ a b c d f Q := by
  unfold wp_X7_wordOf
  refine alE e (qf h3 (alE e2 (qf h4 ?_)))
  rw [e3]
  exact h
theorem wcd_b : 0 ≤ wcd B n p ∧ wcd B n p ≤ 14348906 := by
  have h := wco_b (B := B) (n := n) (p := p) (rlt B n p) (Nat.le_refl _)
  unfold wcd
  split
  · omega
  · omega
theorem wcd_3 (a b c : Int) (ha : 97 ≤ a ∧ a ≤ 122) (hb : 97 ≤ b ∧ b ≤ 122) (hc : 97 ≤ c ∧ c ≤ 122) : (rlt B n p = 3 ∧ B p = a ∧ B (p + 1) = b ∧ B (p + 2) = c) ↔ wcd B n p = 27 * (27 * (a - 96) + (b - 96)) + (c - 96) := by
  have hl := lt_b (B := B) (n := n) (p := p)
  have e0 : wco B p 0 = 0 := rfl
  have e1 : wco B p 1 = 27 * wco B p 0 + (B p - 96) := rfl
  have e2 : wco B p 2 = 27 * wco B p 1 + (B (p + 1) - 96) := rfl
  have e3 : wco B p 3 = 27 * wco B p 2 + (B (p + 2) - 96) := rfl
  have e4 : wco B p 4 = 27 * wco B p 3 + (B (p + 3) - 96) := rfl
  have e5 : wco B p 5 = 27 * wco B p 4 + (B (p + 4) - 96) := rfl
  unfold wcd
  have hc : rlt B n p = 0 ∨ rlt B n p = 1 ∨ rlt B n p = 2 ∨ rlt B n p = 3 ∨ rlt B n p = 4 ∨ rlt B n p = 5 ∨ 6 ≤ rlt B n p := by omega
  rcases hc with h | h | h | h | h | h | h
  · rw [h, if_pos (by decide)]; omega
  · have l0 : 97 ≤ B p ∧ B p ≤ 122 ∧ p + 0 < n := hl 0 (by omega)
    rw [h, if_pos (by decide)]; omega
  · have l0 : 97 ≤ B p ∧ B p ≤ 122 ∧ p + 0 < n := hl 0 (by omega)
    have l1 := hl 1 (by omega)
    rw [h, if_pos (by decide)]; omega
  · have l0 : 97 ≤ B p ∧ B p ≤ 122 ∧ p + 0 < n := hl 0 (by omega)
    have l1 := hl 1 (by omega)
    have l2 := hl 2 (by omega)
    rw [h, if_pos (by decide)]; omega
  · have l0 : 97 ≤ B p ∧ B p ≤ 122 ∧ p + 0 < n := hl 0 (by omega)
    have l1 := hl 1 (by omega)
    have l2 := hl 2 (by omega)
    have l3 := hl 3 (by omega)
    rw [h, if_pos (by decide)]; omega
  · have l0 : 97 ≤ B p ∧ B p ≤ 122 ∧ p + 0 < n := hl 0 (by omega)
    have l1 := hl 1 (by omega)
    have l2 := hl 2 (by omega)
    have l3 := hl 3 (by omega)
    have l4 := hl 4 (by omega)
    rw [h, if_pos (by decide)]; omega
  · rw [if_neg (by omega)]; omega
theorem wcd_4 (a b c d : Int) (ha : 97 ≤ a ∧ a ≤ 122) (hb : 97 ≤ b ∧ b ≤ 122) (hc : 97 ≤ c ∧ c ≤ 122) (hd : 97 ≤ d ∧ d ≤ 122) : (rlt B n p = 4 ∧ B p = a ∧ B (p + 1) = b ∧ B (p + 2) = c ∧ B (p + 3) = d) ↔ wcd B n p = 27 * (27 * (27 * (a - 96) + (b - 96)) + (c - 96)) + (d - 96) := by
  have hl := lt_b (B := B) (n := n) (p := p)
  have e0 : wco B p 0 = 0 := rfl
  have e1 : wco B p 1 = 27 * wco B p 0 + (B p - 96) := rfl
  have e2 : wco B p 2 = 27 * wco B p 1 + (B (p + 1) - 96) := rfl
  have e3 : wco B p 3 = 27 * wco B p 2 + (B (p + 2) - 96) := rfl
  have e4 : wco B p 4 = 27 * wco B p 3 + (B (p + 3) - 96) := rfl
  have e5 : wco B p 5 = 27 * wco B p 4 + (B (p + 4) - 96) := rfl
  unfold wcd
  have hc : rlt B n p = 0 ∨ rlt B n p = 1 ∨ rlt B n p = 2 ∨ rlt B n p = 3 ∨ rlt B n p = 4 ∨ rlt B n p = 5 ∨ 6 ≤ rlt B n p := by omega
  rcases hc with h | h | h | h | h | h | h
  · rw [h, if_pos (by decide)]; omega
  · have l0 : 97 ≤ B p ∧ B p ≤ 122 ∧ p + 0 < n := hl 0 (by omega)
    rw [h, if_pos (by decide)]; omega
  · have l0 : 97 ≤ B p ∧ B p ≤ 122 ∧ p + 0 < n := hl 0 (by omega)
    have l1 := hl 1 (by omega)
    rw [h, if_pos (by decide)]; omega
  · have l0 : 97 ≤ B p ∧ B p ≤ 122 ∧ p + 0 < n := hl 0 (by omega)
    have l1 := hl 1 (by omega)
    have l2 := hl 2 (by omega)
    rw [h, if_pos (by decide)]; omega
  · have l0 : 97 ≤ B p ∧ B p ≤ 122 ∧ p + 0 < n := hl 0 (by omega)
    have l1 := hl 1 (by omega)
    have l2 := hl 2 (by omega)
    have l3 := hl 3 (by omega)
    rw [h, if_pos (by decide)]; omega
  · have l0 : 97 ≤ B p ∧ B p ≤ 122 ∧ p + 0 < n := hl 0 (by omega)
    have l1 := hl 1 (by omega)
    have l2 := hl 2 (by omega)
    have l3 := hl 3 (by omega)
    have l4 := hl 4 (by omega)
    rw [h, if_pos (by decide)]; omega
  · rw [if_neg (by omega)]; omega
theorem wcd_5 (a b c d f : Int) (ha : 97 ≤ a ∧ a ≤ 122) (hb : 97 ≤ b ∧ b ≤ 122) (hc : 97 ≤ c ∧ c ≤ 122) (hd : 97 ≤ d ∧ d ≤ 122) (hf : 97 ≤ f ∧ f ≤ 122) : (rlt B n p = 5 ∧ B p = a ∧ B (p + 1) = b ∧ B (p + 2) = c ∧ B (p + 3) = d ∧ B (p + 4) = f) ↔ wcd B n p = 27 * (27 * (27 * (27 * (a - 96) + (b - 96)) + (c - 96)) + (d - 96)) + (f - 96) := by
  have hl := lt_b (B := B) (n := n) (p := p)
  have e0 : wco B p 0 = 0 := rfl
  have e1 : wco B p 1 = 27 * wco B p 0 + (B p - 96) := rfl
  have e2 : wco B p 2 = 27 * wco B p 1 + (B (p + 1) - 96) := rfl
  have e3 : wco B p 3 = 27 * wco B p 2 + (B (p + 2) - 96) := rfl
  have e4 : wco B p 4 = 27 * wco B p 3 + (B (p + 3) - 96) := rfl
  have e5 : wco B p 5 = 27 * wco B p 4 + (B (p + 4) - 96) := rfl
  unfold wcd
  have hc : rlt B n p = 0 ∨ rlt B n p = 1 ∨ rlt B n p = 2 ∨ rlt B n p = 3 ∨ rlt B n p = 4 ∨ rlt B n p = 5 ∨ 6 ≤ rlt B n p := by omega
  rcases hc with h | h | h | h | h | h | h
  · rw [h, if_pos (by decide)]; omega
  · have l0 : 97 ≤ B p ∧ B p ≤ 122 ∧ p + 0 < n := hl 0 (by omega)
    rw [h, if_pos (by decide)]; omega
  · have l0 : 97 ≤ B p ∧ B p ≤ 122 ∧ p + 0 < n := hl 0 (by omega)
    have l1 := hl 1 (by omega)
    rw [h, if_pos (by decide)]; omega
  · have l0 : 97 ≤ B p ∧ B p ≤ 122 ∧ p + 0 < n := hl 0 (by omega)
    have l1 := hl 1 (by omega)
    have l2 := hl 2 (by omega)
    rw [h, if_pos (by decide)]; omega
  · have l0 : 97 ≤ B p ∧ B p ≤ 122 ∧ p + 0 < n := hl 0 (by omega)
    have l1 := hl 1 (by omega)
    have l2 := hl 2 (by omega)
    have l3 := hl 3 (by omega)
    rw [h, if_pos (by decide)]; omega
  · have l0 : 97 ≤ B p ∧ B p ≤ 122 ∧ p + 0 < n := hl 0 (by omega)
    have l1 := hl 1 (by omega)
    have l2 := hl 2 (by omega)
    have l3 := hl 3 (by omega)
    have l4 := hl 4 (by omega)
    rw [h, if_pos (by decide)]; omega
  · rw [if_neg (by omega)]; omega
end TXM
theorem last_89f : True := trivial
