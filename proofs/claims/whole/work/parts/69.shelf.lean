/-! what is asked of a shelf; the greatest gap -/
theorem exW (F : Nat → Bool) : ∃ W, IsW F W := by
  have key : ∀ b, (∀ a n, FF F a n → n ≤ b) → ∃ W, IsW F W := by
    intro b
    induction b with
    | zero => intro h; exact ⟨0, ⟨0, by omega, fun j hj => absurd hj (Nat.not_lt_zero j)⟩, h⟩
    | succ b ih =>
      intro h
      by_cases he : ∃ a, FF F a (b + 1)
      · exact ⟨b + 1, he, h⟩
      · refine ih (fun a n hf => ?_)
        have h1 := h a n hf
        by_cases hn : n = b + 1
        · subst hn
          exact absurd ⟨a, hf⟩ he
        · omega
  exact key 24 (fun a n hf => by have := hf.1; omega)
noncomputable def wF (F : Nat → Bool) : Nat := Classical.choose (exW F)
theorem wF_is (F : Nat → Bool) : IsW F (wF F) := Classical.choose_spec (exW F)
theorem wF_b (F : Nat → Bool) : wF F ≤ 24 := (wF_is F).b
/-- the greatest latest use of some letters -/
def IsLat (w : Wd) (S : Nat → Prop) (v : Int) : Prop := (∀ k, S k → aL w k ≤ v) ∧ (v = -1 ∨ ∃ k, S k ∧ aL w k = v)
theorem IsLat.u {w : Wd} {S : Nat → Prop} (hS : ∀ k, S k → 0 ≤ aL w k) {v v' : Int} (h : IsLat w S v) (h' : IsLat w S v') : v = v' := by
  obtain ⟨h1, h2⟩ := h
  obtain ⟨g1, g2⟩ := h'
  rcases h2 with h2 | ⟨k, h2, h3⟩
  · rcases g2 with g2 | ⟨k', g2, g3⟩
    · omega
    · have := h1 k' g2
      have := hS k' g2
      omega
  · have q1 := g1 k h2
    rcases g2 with g2 | ⟨k', g2, g3⟩
    · have := hS k h2
      omega
    · have := h1 k' g2
      omega
theorem IsLat.b {w : Wd} {S : Nat → Prop} {v : Int} (h : IsLat w S v) : -2147483648 ≤ v ∧ v < 2147483648 := by
  rcases h.2 with h2 | ⟨k, _, h2⟩
  · omega
  · have := gw_lo w (119 + 6 * k + 3)
    have := gw_hi w (119 + 6 * k + 3)
    unfold aL at h2
    omega
theorem IsLat.congr {w : Wd} {S S' : Nat → Prop} {v : Int} (h : IsLat w S v) (hS : ∀ k, S' k ↔ S k) : IsLat w S' v := by
  refine ⟨fun k q => h.1 k ((hS k).mp q), ?_⟩
  rcases h.2 with h2 | ⟨k, h2, h3⟩
  · exact Or.inl h2
  · exact Or.inr ⟨k, (hS k).mpr h2, h3⟩
theorem IsLat.more {w : Wd} {S : Nat → Prop} {v : Int} {x : Nat} (h : IsLat w S v) (hx : v < aL w x) : IsLat w (fun k => S k ∨ k = x) (aL w x) := by
  refine ⟨fun k q => ?_, Or.inr ⟨x, Or.inr rfl, rfl⟩⟩
  rcases q with q | rfl
  · have := h.1 k q
    omega
  · exact Int.le_refl _
theorem IsLat.same {w : Wd} {S : Nat → Prop} {v : Int} {x : Nat} (h : IsLat w S v) (hx : aL w x ≤ v) : IsLat w (fun k => S k ∨ k = x) v := by
  refine ⟨fun k q => ?_, ?_⟩
  · rcases q with q | rfl
    · exact h.1 k q
    · exact hx
  · rcases h.2 with h2 | ⟨k, h2, h3⟩
    · exact Or.inl h2
    · exact Or.inr ⟨k, Or.inl h2, h3⟩
def onS (w : Wd) (t s : Nat) (k : Nat) : Prop := k < 144 ∧ isO w k t s = true
def nowO (w : Wd) (t s : Nat) : Bool := (List.range 144).any (fun k => isO w k t s && isNw w k)
theorem slo_onf {w : Wd} (hW : WF w) {k t s : Nat} (hk : k < 144) (ht : t < 3) (hs : s < 24) (h : slo w k ≠ ((24 * t + s : Nat) : Int)) : isO w k t s = false := by
  cases h9 : isO w k t s
  · rfl
  · exact absurd ((slo_on hW hk ht hs).mpr h9) h
section SHV
variable {σ : ST} {w : Wd} {l : List Nat} {t s : Nat} {Q : Int32 → ST → Prop}
theorem mem_at (l : List Nat) (k : Nat) : (∃ j, j < l.length ∧ l[j]? = some k) ↔ k ∈ l := by
  constructor
  · rintro ⟨j, _, hj⟩
    exact List.mem_of_getElem? hj
  · intro hk
    obtain ⟨j, hj⟩ := List.getElem?_of_mem hk
    exact ⟨j, (List.getElem?_eq_some_iff.mp hj).1, hj⟩
theorem n_latest (hR : RK σ w l) (hW : WF w) (ht : t < 3) (hs : s < 24) (h : ∀ v : Int, IsLat w (onS w t s) v → Q (jI v) σ) : wp_X4_latestUseOnShelf σ (jI ((24 * t + s : Nat) : Int)) Q := by
  unfold wp_X4_latestUseOnShelf
  refine lpV (wl := wl_X4_latestUseOnShelf_4 _ _) (wb := fun LL => wb_X4_latestUseOnShelf_4 _ LL _) (fun _ => rfl) σ l.length (fun i a => ∃ v : Int, a = jI v ∧ IsLat w (fun k => (∃ j, j < i ∧ l[j]? = some k) ∧ isO w k t s = true) v) (jI (-1)) ⟨-1, rfl, fun k q => by obtain ⟨⟨j, hj, _⟩, _⟩ := q; exact absurd hj (Nat.not_lt_zero j), Or.inl rfl⟩ (fun i a hi hJ LL hLL => ?_)
  obtain ⟨v, rfl, hv⟩ := hJ
  have hvb := hv.b
  by_cases hil : i < l.length
  · have hi1 := List.getElem?_eq_getElem hil
    obtain ⟨e1, e2, e3⟩ := hR.at hi1
    refine pres hR hi1 (alE e1 (alE (hR.slot e2) ?_))
    have h5 := slo_c hW e2
    refine qeq (by omega) (by omega) (by omega) (by omega) (fun c => ?_) (fun c => ?_)
    · have ho := (slo_on hW e2 ht hs).mp c
      have hcg : ∀ k, ((∃ j, j < i + 1 ∧ l[j]? = some k) ∧ isO w k t s = true) ↔ (((∃ j, j < i ∧ l[j]? = some k) ∧ isO w k t s = true) ∨ k = l[i]) := fun k => by
        rw [at_next l i k _ hi1]
        constructor
        · rintro ⟨q | q, q2⟩
          · exact Or.inl ⟨q, q2⟩
          · exact Or.inr q
        · rintro (q | q)
          · exact ⟨Or.inl q.1, q.2⟩
          · exact ⟨Or.inr q, by rw [q]; exact ho⟩
      refine alE ((cg σ 6 _ e2).trans (((hR.2.1 _ e2).2.2 e3).1.trans (gwj w _))) ?_
      have eL : gw w (119 + 6 * l[i] + 3) = aL w l[i] := rfl
      rw [eL]
      have hLb := gw_lo w (119 + 6 * l[i] + 3)
      have hLb2 := gw_hi w (119 + 6 * l[i] + 3)
      rw [eL] at hLb hLb2
      by_cases hlt : v < aL w l[i]
      · rw [if_pos (jlt hlt)]
        exact al (alE (jI_add _ _) (hLL _ hil ⟨_, rfl, (hv.more hlt).congr hcg⟩))
      · rw [if_neg (jnlt (by omega))]
        exact al (alE (jI_add _ _) (hLL _ hil ⟨_, rfl, (hv.same (by omega)).congr hcg⟩))
    · have ho := slo_onf hW e2 ht hs c
      refine alE (jI_add _ _) (hLL _ hil ⟨v, rfl, hv.congr (fun k => ?_)⟩)
      rw [at_next l i k _ hi1]
      constructor
      · rintro ⟨q | q, q2⟩
        · exact ⟨q, q2⟩
        · rw [q, ho] at q2
          cases q2
      · intro q
        exact ⟨Or.inl q.1, q.2⟩
  · have e : i = l.length := by omega
    subst e
    refine pend hR (h v (hv.congr (fun k => ?_)))
    rw [mem_at, hR.2.2.1.2.2.1 k]
    unfold onS
    constructor
    · intro q
      exact ⟨⟨q.1, (isO_c hW q.1 ht q.2).1⟩, q.2⟩
    · intro q
      exact ⟨q.1.1, q.2⟩
theorem m_latestOn {μ : ST} (ht : t < 3) (hs : s < 24) (h : ∀ v : Int, IsLat (μ.1 0) (onS (μ.1 0) t s) v → Q (jI v) μ) : wp_X7_latestOn μ (jI (t : Nat)) (jI (s : Nat)) Q := by
  unfold wp_X7_latestOn
  refine lpV (wl := wl_X7_latestOn_5 _ _ _) (wb := fun LL => wb_X7_latestOn_5 _ LL _ _) (fun _ => rfl) μ 144 (fun i a => ∃ v : Int, a = jI v ∧ IsLat (μ.1 0) (fun k => k < i ∧ isO (μ.1 0) k t s = true) v) (jI (-1)) ⟨-1, rfl, fun k q => absurd q.1 (Nat.not_lt_zero k), Or.inl rfl⟩ (fun i a hi hJ LL hLL => ?_)
  obtain ⟨v, rfl, hv⟩ := hJ
  have hvb := hv.b
  by_cases hil : i < 144
  · refine rnot hil (m_isOn hil (by omega) (by omega) (by omega) (by omega) (qb (fun c => ?_) (fun c => ?_)))
    · refine alE (jI_add _ _) (hLL _ hil ⟨v, rfl, hv.congr (fun k => ?_)⟩)
      constructor
      · rintro ⟨q, q2⟩
        refine ⟨?_, q2⟩
        have : k ≠ i := fun z => by subst z; rw [c] at q2; cases q2
        omega
      · intro q
        exact ⟨by omega, q.2⟩
    · have hcg : ∀ k, (k < i + 1 ∧ isO (μ.1 0) k t s = true) ↔ ((k < i ∧ isO (μ.1 0) k t s = true) ∨ k = i) := fun k => by
        constructor
        · rintro ⟨q, q2⟩
          by_cases hk : k = i
          · exact Or.inr hk
          · exact Or.inl ⟨by omega, q2⟩
        · rintro (q | q)
          · exact ⟨by omega, q.2⟩
          · exact ⟨by omega, by rw [q]; exact c⟩
      refine m_of (f := 3) hil (by decide) ?_
      rw [gwj (μ.1 0)]
      have eL : gw (μ.1 0) (119 + 6 * i + 3) = aL (μ.1 0) i := rfl
      have hLb := gw_lo (μ.1 0) (119 + 6 * i + 3)
      have hLb2 := gw_hi (μ.1 0) (119 + 6 * i + 3)
      rw [eL] at hLb hLb2 ⊢
      refine qle hLb hLb2 hvb.1 hvb.2 (fun d => ?_) (fun d => ?_)
      · exact alE (jI_add _ _) (hLL _ hil ⟨v, rfl, (hv.same d).congr hcg⟩)
      · refine m_of (f := 3) hil (by decide) ?_
        rw [gwj (μ.1 0), eL]
        exact alE (jI_add _ _) (hLL _ hil ⟨_, rfl, (hv.more d).congr hcg⟩)
  · have e : i = 144 := by omega
    subst e
    exact rend (h v hv)
theorem n_hasNow (hR : RK σ w l) (hW : WF w) (ht : t < 3) (hs : s < 24) (h : Q (jI (bI (nowO w t s))) σ) : wp_X4_hasLetterOfLine σ (jI ((24 * t + s : Nat) : Int)) Q := by
  unfold wp_X4_hasLetterOfLine
  refine lp_inv (α := ST × Int32) (L := fun n a => wl_X4_hasLetterOfLine_2 _ _ _ n a.1 a.2) (B := fun LL a => wb_X4_hasLetterOfLine_2 _ _ (fun t y => LL (t, y)) _ a.1 a.2) (fun n a => rfl) (fun i a => a = (σ, jI (i : Nat)) ∧ ∀ k, (∃ j, j < i ∧ l[j]? = some k) → (isO w k t s && isNw w k) = false) l.length (fun i a hi ha LL hLL => ?_) (σ, jI 0) ⟨rfl, fun k q => by obtain ⟨j, hj, _⟩ := q; exact absurd hj (Nat.not_lt_zero j)⟩
  obtain ⟨rfl, hn⟩ := ha
  dsimp only
  unfold wb_X4_hasLetterOfLine_2
  by_cases hil : i < l.length
  · have hi1 := List.getElem?_eq_getElem hil
    obtain ⟨e1, e2, e3⟩ := hR.at hi1
    have h5 := slo_c hW e2
    have hno : (isO w l[i] t s && isNw w l[i]) = false → ∀ x1 : Int32, x1 = jI (i : Nat) + jI 1 → LL (σ, x1) := fun q => alE (jI_add _ _) (hLL _ hil ⟨rfl, fun k hk => by
      rcases (at_next l i k _ hi1).mp hk with q2 | q2
      · exact hn k q2
      · rw [q2]; exact q⟩)
    refine pres hR hi1 (alE e1 (alE (hR.slot e2) ?_))
    refine qeq (by omega) (by omega) (by omega) (by omega) (fun c => ?_) (fun c => ?_)
    · have ho := (slo_on hW e2 ht hs).mp c
      refine n_isOfLine hR e2 e3 (qb (fun p => hno (by rw [p, Bool.and_false])) (fun p => ?_))
      have e : nowO w t s = true := by
        unfold nowO
        rw [List.any_eq_true]
        exact ⟨l[i], List.mem_range.mpr e2, by rw [ho, p]; rfl⟩
      rw [e] at h
      exact h
    · exact hno (by rw [slo_onf hW e2 ht hs c, Bool.false_and])
  · have e : i = l.length := by omega
    subst e
    refine pend hR ?_
    have e : nowO w t s = false := by
      unfold nowO
      rw [List.any_eq_false]
      intro k hk q
      have hk := List.mem_range.mp hk
      have q' := q
      rw [Bool.and_eq_true] at q'
      have hm := (mem_at l k).mpr ((hR.2.2.1.2.2.1 k).mpr ⟨hk, (isO_c hW hk ht q'.1).1⟩)
      rw [hn k hm] at q
      cases q
    rw [e] at h
    exact h
theorem m_isNowOn {μ : ST} (ht : t < 3) (hs : s < 24) (h : Q (jI (bI (nowO (μ.1 0) t s))) μ) : wp_X7_isNowOn μ (jI (t : Nat)) (jI (s : Nat)) Q := by
  unfold wp_X7_isNowOn
  refine lpV (wl := wl_X7_isNowOn_5 _ _ _) (wb := fun LL => wb_X7_isNowOn_5 _ LL _ _) (fun _ => rfl) μ 144 (fun i a => a = jI (bI ((List.range i).any (fun k => isO (μ.1 0) k t s && isNw (μ.1 0) k)))) (jI 0) rfl (fun i a hi hJ LL hLL => ?_)
  subst hJ
  by_cases hil : i < 144
  · have hst : ∀ b : Bool, ((List.range i).any (fun k => isO (μ.1 0) k t s && isNw (μ.1 0) k) || (isO (μ.1 0) i t s && isNw (μ.1 0) i)) = b → ∀ x1 : Int32, x1 = jI (i : Nat) + jI 1 → LL μ (jI (bI b)) x1 := fun b hb => alE (jI_add _ _) (hLL _ hil (by
      rw [List.range_succ, List.any_append, ← hb]
      simp))
    refine rnot hil (qb (fun p => ?_) (fun p => ?_))
    · rw [p] at hst
      refine m_isOn hil (by omega) (by omega) (by omega) (by omega) (qb (fun c => ?_) (fun c => ?_))
      · exact hst false (by rw [c]; rfl)
      · refine m_isNow hil (qb (fun c2 => ?_) (fun c2 => ?_))
        · exact hst false (by rw [c, c2]; rfl)
        · exact hst true (by rw [c, c2]; rfl)
    · rw [p] at hst
      exact hst true rfl
  · have e : i = 144 := by omega
    subst e
    exact rend ⟨nar_b _, h⟩
end SHV
/-- what is said of a shelf -/
def IsSh (w : Wd) (t s x : Nat) (v : Int32) : Prop := (x = 0 → v = jI (topH w t s)) ∧ (x = 1 → v = jI (tl w t s)) ∧ (x = 2 → v = jI (sA (fun k => bI (isO w k t s)))) ∧ (x = 3 → v = jI (gN (fr w t s) : Nat)) ∧ (x = 4 → v = jI (wF (fr w t s) : Nat)) ∧ (x = 5 → ∃ z : Int, v = jI z ∧ IsLat w (onS w t s) z) ∧ (x = 6 → v = jI (bI (nowO w t s)))
theorem IsSh.u {w : Wd} (hW : WF w) {t s x : Nat} (ht : t < 3) (hx : x < 7) {v v' : Int32} (h : IsSh w t s x v) (h' : IsSh w t s x v') : v = v' := by
  obtain ⟨a0, a1, a2, a3, a4, a5, a6⟩ := h
  obtain ⟨b0, b1, b2, b3, b4, b5, b6⟩ := h'
  have hc : x = 0 ∨ x = 1 ∨ x = 2 ∨ x = 3 ∨ x = 4 ∨ x = 5 ∨ x = 6 := by omega
  rcases hc with c | c | c | c | c | c | c
  · exact (a0 c).trans (b0 c).symm
  · exact (a1 c).trans (b1 c).symm
  · exact (a2 c).trans (b2 c).symm
  · exact (a3 c).trans (b3 c).symm
  · exact (a4 c).trans (b4 c).symm
  · obtain ⟨z, e1, e2⟩ := a5 c
    obtain ⟨z', e1', e2'⟩ := b5 c
    rw [e1, e1', IsLat.u (fun k hk => by have := hW.2.2.2.2.1.1 k hk.1 (isO_c hW hk.1 ht hk.2).1; omega) e2 e2']
  · exact (a6 c).trans (b6 c).symm
theorem cv_fr (w : Wd) (t s : Nat) {c : Int32} (h : ∀ x, x < 24 → bt c x = cv w t s x) : ∀ x, x < 24 → bt c x = !fr w t s x := fun x hx => by
  rw [h x hx]
  unfold fr
  rw [Bool.not_not]
section SHB
variable {σ : ST} {w : Wd} {l : List Nat} {t s x : Nat} {Q : Int32 → ST → Prop}
theorem n_shelfValue (hR : RK σ w l) (hW : WF w) (h0 : (t : Int) < nT w) (hs : (s : Int) < nS w t) (hx : x < 7) (h : ∀ v, IsSh w t s x v → Q v σ) : wp_X4_shelfValue σ (jI ((24 * t + s : Nat) : Int)) (jI (x : Nat)) Q := by
  have hb := hW.2.1 t h0
  have ht : t < 3 := by have := hW.1.2.1; omega
  have hs2 : s < 24 := by omega
  unfold wp_X4_shelfValue
  refine qeq (by omega) (by omega) (by decide) (by decide) (fun c0 => ?_) (fun c0 => ?_)
  · exact n_topOf hR hW h0 (by omega) hs2 (h _ ⟨fun _ => rfl, fun _ => by omega, fun _ => by omega, fun _ => by omega, fun _ => by omega, fun _ => by omega, fun _ => by omega⟩)
  refine qeq (by omega) (by omega) (by decide) (by decide) (fun c1 => ?_) (fun c1 => ?_)
  · refine alE (hR.sh ht hs2) ?_
    rw [(hsv_in hW h0 hs).1]
    exact h _ ⟨fun _ => by omega, fun _ => rfl, fun _ => by omega, fun _ => by omega, fun _ => by omega, fun _ => by omega, fun _ => by omega⟩
  refine qeq (by omega) (by omega) (by decide) (by decide) (fun c2 => ?_) (fun c2 => ?_)
  · exact n_countOnShelf hR hW ht hs2 (h _ ⟨fun _ => by omega, fun _ => by omega, fun _ => rfl, fun _ => by omega, fun _ => by omega, fun _ => by omega, fun _ => by omega⟩)
  refine qeq (by omega) (by omega) (by decide) (by decide) (fun c3 => ?_) (fun c3 => ?_)
  · exact n_coverOf hR hW ht hs2 (fun c hc => n_count (cv_fr w t s hc) (h _ ⟨fun _ => by omega, fun _ => by omega, fun _ => by omega, fun _ => rfl, fun _ => by omega, fun _ => by omega, fun _ => by omega⟩))
  refine qeq (by omega) (by omega) (by decide) (by decide) (fun c4 => ?_) (fun c4 => ?_)
  · exact n_coverOf hR hW ht hs2 (fun c hc => n_widest (cv_fr w t s hc) (fun W hWd => h _ ⟨fun _ => by omega, fun _ => by omega, fun _ => by omega, fun _ => by omega, fun _ => by rw [hWd.u (wF_is _)], fun _ => by omega, fun _ => by omega⟩))
  refine qeq (by omega) (by omega) (by decide) (by decide) (fun c5 => ?_) (fun c5 => ?_)
  · exact n_latest hR hW ht hs2 (fun v hv => h _ ⟨fun _ => by omega, fun _ => by omega, fun _ => by omega, fun _ => by omega, fun _ => by omega, fun _ => ⟨v, rfl, hv⟩, fun _ => by omega⟩)
  have h6 := h (jI (bI (nowO w t s))) ⟨fun _ => by omega, fun _ => by omega, fun _ => by omega, fun _ => by omega, fun _ => by omega, fun _ => by omega, fun _ => rfl⟩
  refine n_hasNow hR hW ht hs2 (qb (fun p => ?_) (fun p => ?_))
  · rw [p] at h6
    exact h6
  · rw [p] at h6
    exact h6
theorem m_shelfBy {μ : ST} (hW : WF (μ.1 0)) (h0 : (t : Int) < nT (μ.1 0)) (hs : (s : Int) < nS (μ.1 0) t) (hx : x < 7) (h : ∀ (v : Int32) (μ' : ST), (∀ q : Nat, q ≠ 2 → μ'.1 q = μ.1 q) → μ'.2 = μ.2 → IsSh (μ.1 0) t s x v → Q v μ') : wp_X7_shelfBy μ (jI (t : Nat)) (jI (s : Nat)) (jI (x : Nat)) Q := by
  have hb := hW.2.1 t h0
  have ht : t < 3 := by have := hW.1.2.1; omega
  have hs2 : s < 24 := by omega
  have h' := fun v => h v μ (fun _ _ => rfl) rfl
  unfold wp_X7_shelfBy
  refine qeq (by omega) (by omega) (by decide) (by decide) (fun c0 => ?_) (fun c0 => ?_)
  · exact m_top ht (by omega) (h' _ ⟨fun _ => rfl, fun _ => by omega, fun _ => by omega, fun _ => by omega, fun _ => by omega, fun _ => by omega, fun _ => by omega⟩)
  refine qeq (by omega) (by omega) (by decide) (by decide) (fun c1 => ?_) (fun c1 => ?_)
  · exact m_tall ht hs2 (h' _ ⟨fun _ => by omega, fun _ => rfl, fun _ => by omega, fun _ => by omega, fun _ => by omega, fun _ => by omega, fun _ => by omega⟩)
  refine qeq (by omega) (by omega) (by decide) (by decide) (fun c2 => ?_) (fun c2 => ?_)
  · exact m_lettersOn ht hs2 (h' _ ⟨fun _ => by omega, fun _ => by omega, fun _ => rfl, fun _ => by omega, fun _ => by omega, fun _ => by omega, fun _ => by omega⟩)
  refine qeq (by omega) (by omega) (by decide) (by decide) (fun c3 => ?_) (fun c3 => ?_)
  · refine qt (jeq (by omega)) (m_gapsOf (b := true) hW ht hs2 (fun v W hv hWd => h _ _ hv.1 hv.2.1 ⟨fun _ => by omega, fun _ => by omega, fun _ => by omega, fun _ => rfl, fun _ => by omega, fun _ => by omega, fun _ => by omega⟩))
  refine qeq (by omega) (by omega) (by decide) (by decide) (fun c4 => ?_) (fun c4 => ?_)
  · refine qf (jne (by omega)) (m_gapsOf (b := false) hW ht hs2 (fun v W hv hWd => h _ _ hv.1 hv.2.1 ⟨fun _ => by omega, fun _ => by omega, fun _ => by omega, fun _ => by omega, fun _ => by rw [hWd.u (wF_is _)]; rfl, fun _ => by omega, fun _ => by omega⟩))
  refine qeq (by omega) (by omega) (by decide) (by decide) (fun c5 => ?_) (fun c5 => ?_)
  · exact m_latestOn ht hs2 (fun v hv => h' _ ⟨fun _ => by omega, fun _ => by omega, fun _ => by omega, fun _ => by omega, fun _ => by omega, fun _ => ⟨v, rfl, hv⟩, fun _ => by omega⟩)
  have h6 := h' (jI (bI (nowO (μ.1 0) t s))) ⟨fun _ => by omega, fun _ => by omega, fun _ => by omega, fun _ => by omega, fun _ => by omega, fun _ => by omega, fun _ => rfl⟩
  refine m_isNowOn ht hs2 (qb (fun p => ?_) (fun p => ?_))
  · rw [p] at h6
    exact h6
  · rw [p] at h6
    exact h6
end SHB
theorem sameM_2 {μ μ' : ST} (h1 : ∀ q : Nat, q ≠ 2 → μ'.1 q = μ.1 q) (h2 : μ'.2 = μ.2) : sameM μ μ' := ⟨h1 0 (by decide), h1 1 (by decide), h1 3 (by decide), by rw [h2], by rw [h2]⟩
set_option maxHeartbeats 1000000 in
theorem s_shelf : st_shelf Inv := by
  intro n σ μ v p1 p2 p3 hn hI
  obtain ⟨a, rfl, a1, a2⟩ := jI_ex p1
  obtain ⟨b, rfl, b1, b2⟩ := jI_ex p2
  obtain ⟨x, rfl, x1, x2⟩ := jI_ex p3
  have hI' := hI
  obtain ⟨hW, hcl, ⟨l, hR⟩, -⟩ := hI'
  have hend : ∀ e : Int, (e = 1 ∨ e = 2) → wp_X7_thrown (zsp μ 1 (jI e)) (fun th μ2 => th = jI e ∧ (jI e = jI 0 → v = (jI 0).toInt64) ∧ Inv (n + 1) σ μ2) := fun e he => by
    unfold wp_X7_thrown
    exact ⟨zsp_at, fun q => absurd q (jne (by omega)), hI.next (same_rf σ) (sameM_th μ 1 _ (by decide) (by decide))⟩
  have hth1 : ¬ (0 ≤ a ∧ a < nT (μ.1 0)) → wp_X7_shelf μ (jI a) (jI b) (jI x) (fun r μ1 => wp_X7_thrown μ1 (fun th μ2 => th = jI 1 ∧ (jI 1 = jI 0 → v = r.toInt64) ∧ Inv (n + 1) σ μ2)) := fun hc => by
    unfold wp_X7_shelf
    refine m_isTray hW a1 a2 ?_
    rw [bo_f hc]
    refine qt rfl (al ?_)
    rw [zsp_at]
    exact qf (jnle (by decide) (by decide) (by decide)) (hend 1 (Or.inl rfl))
  unfold wL_shelf wx_X6_shelf
  refine n_isTray hR hW a1 a2 (qb (fun d => ?_) (fun d => ?_))
  · exact x_throw (e := 1) (by decide) (fun _ => hth1 (of_decide_eq_false d)) (fun q => absurd q (by decide)) (fun q => absurd q (by decide)) (fun q => absurd q (by decide))
  have d := of_decide_eq_true d
  obtain ⟨t, rfl⟩ : ∃ t : Nat, a = t := ⟨a.toNat, by omega⟩
  have hb := hW.2.1 t d.2
  have ht : t < 3 := by have := hW.1.2.1; omega
  unfold wp_X6_isShelf
  refine n_countShelves hR hW d.2 ?_
  rw [jI_sub]
  refine c_in b1 b2 (by decide) (by decide) (by omega) (by omega) ⟨nar_b _, qb (fun f => ?_) (fun f => ?_)⟩
  · refine x_throw (e := 1) (by decide) (fun _ => ?_) (fun q => absurd q (by decide)) (fun q => absurd q (by decide)) (fun q => absurd q (by decide))
    show wp_X7_shelf μ _ _ _ _
    unfold wp_X7_shelf
    refine m_isTray hW a1 a2 ?_
    rw [bo_t d]
    refine qf (jne (a := 1) (b := 0) (by decide)) (m_nS ht ?_)
    rw [jI_sub]
    refine m_in b1 b2 (by decide) (by decide) (by omega) (by omega) ?_
    rw [f]
    refine qt rfl (al ?_)
    rw [zsp_at]
    exact qf (jnle (by decide) (by decide) (by decide)) (hend 1 (Or.inl rfl))
  have f' := of_decide_eq_true f
  obtain ⟨s, rfl⟩ : ∃ s : Nat, b = s := ⟨b.toNat, by omega⟩
  refine x_throw (e := 0) (by decide) (fun q => absurd q (by decide)) (fun q => absurd q (by decide)) (fun q => absurd q (by decide)) (fun _ => ?_)
  refine n_what x1 x2 (by decide) (by decide) ?_
  have hgo : ∀ Q' : Int32 → ST → Prop, (wp_X7_in μ (jI x) (jI 0) (jI 6) (fun r4 s5 => ((r4 = (jI 0) → (∀ s8 : ST, s8 = zsp s5 1 (jI 2) → (((s8.2 1) ≤ (jI 0) → wp_X7_shelfBy s8 (jI (t : Nat)) (jI (s : Nat)) (jI x) (fun r6 s9 => Q' r6 s9)) ∧ (¬ (s8.2 1) ≤ (jI 0) → Q' (jI 0) s8)))) ∧ (¬ r4 = (jI 0) → (∀ s6 : ST, s6 = zsp s5 1 (jI 0) → (((s6.2 1) ≤ (jI 0) → wp_X7_shelfBy s6 (jI (t : Nat)) (jI (s : Nat)) (jI x) (fun r5 s7 => Q' r5 s7)) ∧ (¬ (s6.2 1) ≤ (jI 0) → Q' (jI 0) s6))))))) → wp_X7_shelf μ (jI (t : Nat)) (jI (s : Nat)) (jI x) Q' := fun Q' hq => by
    unfold wp_X7_shelf
    refine m_isTray hW a1 a2 ?_
    rw [bo_t d]
    refine qf (jne (a := 1) (b := 0) (by decide)) (m_nS ht ?_)
    rw [jI_sub]
    refine m_in b1 b2 (by decide) (by decide) (by omega) (by omega) ?_
    rw [f]
    exact qf (jne (a := 1) (b := 0) (by decide)) hq
  by_cases hx : 0 ≤ x ∧ x ≤ 6
  · rw [if_pos (by omega)]
    obtain ⟨y, rfl⟩ : ∃ y : Nat, x = y := ⟨x.toNat, by omega⟩
    refine x_throw (by decide) (fun q => absurd q (by decide)) (fun q => absurd q (by decide)) (fun q => absurd q (by decide)) (fun _ => ?_)
    rw [jI_mul, jI_add, show (t : Int) * 24 + (s : Int) = ((24 * t + s : Nat) : Int) by omega]
    refine n_shelfValue hR hW d.2 (by omega) (by omega) (fun z hz => ?_)
    show wp_X7_shelf μ _ _ _ _
    refine hgo _ (m_in x1 x2 (by decide) (by decide) (by decide) (by decide) ?_)
    rw [bo_t hx]
    refine qf (jne (a := 1) (b := 0) (by decide)) (al ?_)
    rw [zsp_at]
    refine qt (jle (by decide) (by decide) (by decide)) (m_shelfBy (μ := zsp μ 1 (jI 0)) (t := t) (s := s) (x := y) (by exact hW) (by exact d.2) (by exact (by omega : (s : Int) < nS (μ.1 0) t)) (by omega) (fun z' μ' g1 g2 hz' => ?_))
    unfold wp_X7_thrown
    refine ⟨by rw [g2]; exact zsp_at, fun _ => ?_, hI.next (same_rf σ) ((sameM_th μ 1 _ (by decide) (by decide)).trans (sameM_2 g1 g2))⟩
    rw [IsSh.u hW ht (by omega) hz hz']
  · rw [if_neg (by omega)]
    refine x_throw (e := 2) (by decide) (fun q => absurd q (by decide)) (fun _ => ?_) (fun q => absurd q (by decide)) (fun q => absurd q (by decide))
    show wp_X7_shelf μ _ _ _ _
    refine hgo _ (m_in x1 x2 (by decide) (by decide) (by decide) (by decide) ?_)
    rw [bo_f hx]
    refine qt rfl (al ?_)
    rw [zsp_at]
    exact qf (jnle (by decide) (by decide) (by decide)) (hend 2 (Or.inr rfl))
theorem last_69 : True := trivial
