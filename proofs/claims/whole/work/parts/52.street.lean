/-! street, oldest -/
theorem filter_take (l : List Nat) (p : Nat → Bool) (i k : Nat) (hi : l[i]? = some k) (hp : p k = true) : (l.filter p)[(l.take i).countP p]? = some k := by
  induction l generalizing i with
  | nil => simp at hi
  | cons x l ih =>
    cases i with
    | zero =>
      simp at hi
      subst hi
      rw [List.filter_cons_of_pos hp]
      rfl
    | succ i =>
      have h1 := ih i (by simpa using hi)
      rw [List.take_succ_cons, List.countP_cons]
      by_cases hx : p x = true
      · rw [List.filter_cons_of_pos hx, if_pos hx]
        exact h1
      · rw [List.filter_cons_of_neg hx, if_neg hx]
        exact h1
def cod (k : Nat) : Int := ((100 * (k / 9) + 10 * (k % 9 / 3 + 1) + k % 3 : Nat) : Int)
section STRE
variable {σ : ST} {w : Wd} {l : List Nat} {k : Nat} {Q : Int32 → ST → Prop}
theorem n_codeOf (hk : k < 144) (h : Q (jI (cod k)) σ) : wp_X6_codeOf σ (jI k) Q := by
  unfold wp_X6_codeOf wp_X6_signOf wp_X6_sizeOf wp_X6_blurOf
  refine qf (jne (by omega)) ?_
  have e1 : jI (k : Int) / jI 9 = jI ((k / 9 : Nat) : Int) := jd (d := 9) (by omega) (by decide) (by decide)
  have e2 : jI (k : Int) / jI 3 = jI ((k / 3 : Nat) : Int) := jd (d := 3) (by omega) (by decide) (by decide)
  have e3 : jI ((k / 3 : Nat) : Int) - jI ((k / 3 : Nat) : Int) / jI 3 * jI 3 = jI ((k / 3 % 3 : Nat) : Int) := jr (d := 3) (by omega) (by decide) (by decide)
  have e4 : jI (k : Int) - jI (k : Int) / jI 3 * jI 3 = jI ((k % 3 : Nat) : Int) := jr (d := 3) (by omega) (by decide) (by decide)
  rw [e4, e1, e2, e3, jI_add]
  dsimp only
  rw [jI_mul, jI_mul, jI_add, jI_add]
  rw [show 100 * ((k / 9 : Nat) : Int) + 10 * (((k / 3 % 3 : Nat) : Int) + 1) + ((k % 3 : Nat) : Int) = cod k by unfold cod; omega]
  exact h
theorem n_codeN (h : Q (jI (-1)) σ) : wp_X6_codeOf σ (jI (-1)) Q := qt rfl h
theorem strt_get (hW : WF w) {x : Nat} (hx : (x : Int) < gw w 7) : (strt w)[x]? = some (gw w (8 + x)).toNat := by
  have h := hW.2.2.2.2.2
  unfold strt
  rw [List.getElem?_map, List.getElem?_range (by omega)]
  rfl
theorem strt_len (hW : WF w) : ((strt w).length : Int) = gw w 7 := by
  have h := hW.2.2.2.2.2.1
  unfold strt
  rw [List.length_map, List.length_range]
  omega
theorem isS_eq (w : Wd) : (fun k => decide (aT w k = 3)) = isS w := rfl
theorem n_letterOfStreet (hR : RK σ w l) (hW : WF w) {x : Nat} (hx : x < 2147483648) (h1 : ∀ k : Nat, (strt w)[x]? = some k → k < 144 → Q (jI k) σ) (h2 : (strt w)[x]? = none → Q (jI (-1)) σ) : wp_X4_letterOfStreet σ (jI x) Q := by
  have hlen := hR.2.2.1.len
  have hst := hR.2.2.1.2.2.2
  rw [isS_eq] at hst
  unfold wp_X4_letterOfStreet
  refine lp_inv (α := ST × Int32 × Int32) (L := fun n a => wl_X4_letterOfStreet_4 _ _ _ n a.1 a.2.1 a.2.2) (B := fun LL a => wb_X4_letterOfStreet_4 _ _ (fun t y z => LL (t, y, z)) _ a.1 a.2.1 a.2.2) (fun n a => rfl) (fun i a => a = (σ, jI (((l.take i).countP (isS w) : Nat) : Int), jI (i : Nat)) ∧ (l.take i).countP (isS w) ≤ x) l.length (fun i a hi ha LL hLL => ?_) (σ, jI 0, jI 0) ⟨rfl, Nat.zero_le _⟩
  obtain ⟨rfl, ha⟩ := ha
  unfold wb_X4_letterOfStreet_4
  dsimp only
  by_cases h : i < l.length
  · have hi1 := List.getElem?_eq_getElem h
    obtain ⟨e1, e2, e3⟩ := hR.at hi1
    have hcp : (l.take (i + 1)).countP (isS w) = (l.take i).countP (isS w) + if isS w l[i] = true then 1 else 0 := by
      rw [List.take_add_one, hi1, List.countP_append]
      simp [List.countP_cons]
    have hcl : (l.take i).countP (isS w) ≤ 144 := Nat.le_trans List.countP_le_length (by rw [List.length_take]; omega)
    refine pres hR hi1 (alE e1 (n_isInStreet hR hW e2 (qb (fun c => ?_) (fun c => ?_))))
    · refine alE (jI_add _ _) (hLL _ h ⟨?_, ?_⟩)
      · rw [hcp, c, if_neg (by decide)]
        rfl
      · rw [hcp, c, if_neg (by decide)]
        exact ha
    · refine qeq (by omega) (by omega) (by omega) (by omega) (fun d => ?_) (fun d => ?_)
      · refine h1 l[i] ?_ e2
        rw [← hst, ← show (l.take i).countP (isS w) = x by omega]
        exact filter_take l (isS w) i l[i] hi1 c
      · refine alE (jI_add _ _) (alE (jI_add _ _) (hLL _ h ⟨?_, ?_⟩))
        · rw [hcp, c, if_pos rfl]
          rfl
        · rw [hcp, c, if_pos rfl]
          omega
  · have e : i = l.length := by omega
    subst e
    refine pend hR (h2 ?_)
    rw [← hst]
    refine List.getElem?_eq_none ?_
    rw [← List.countP_eq_length_filter]
    rw [List.take_length] at ha
    exact ha
theorem m_streetAt (hW : WF (σ.1 0)) {x : Nat} (hx : x < 2147483648) (h1 : ∀ k : Nat, (strt (σ.1 0))[x]? = some k → Q (jI (cod k)) σ) (h2 : (strt (σ.1 0))[x]? = none → Q (jI (-1)) σ) : wp_X7_streetAt σ (jI x) Q := by
  have hf := hW.2.2.2.2.2
  unfold wp_X7_streetAt
  refine m_rd 7 rfl (by decide) (by decide) ?_
  rw [gwj (σ.1 0) 7]
  refine qle (gw_lo _ _) (gw_hi _ _) (by omega) (by omega) (fun c => ?_) (fun c => ?_)
  · refine h2 (List.getElem?_eq_none ?_)
    have := strt_len hW
    omega
  · have h4 := hf.2.1
    have h3 := hf.2.2.1 x (by omega)
    refine m_rd (8 + x) (by rw [jI_add]; exact jeq (by omega)) (by omega) (by decide) ?_
    rw [gwj (σ.1 0) (8 + x), show gw (σ.1 0) (8 + x) = (((gw (σ.1 0) (8 + x)).toNat : Nat) : Int) by omega]
    exact m_codeOf (by omega) (h1 _ (strt_get hW (by omega)))
end STRE
theorem s_street : st_street Inv := by
  intro n σ μ v p1 hn hI
  obtain ⟨a, rfl, a1, a2⟩ := jI_ex p1
  have hI' := hI
  obtain ⟨hW, hcl, ⟨l, hR⟩, -⟩ := hI'
  unfold wL_street wx_X6_street
  refine qlt a1 a2 (by decide) (by decide) (fun c => ?_) (fun c => ?_)
  · refine x_throw (e := 2) (by decide) (fun q => absurd q (by decide)) (fun _ => ?_) (fun q => absurd q (by decide)) (fun q => absurd q (by decide))
    show wp_X7_street μ _ _
    unfold wp_X7_street
    refine qf (jnle (by omega)) (al ?_)
    rw [zsp_at]
    refine qf (jnle (by decide) (by decide) (by decide)) ?_
    unfold wp_X7_thrown
    exact ⟨zsp_at, fun q => absurd q (jne (by decide) (by decide) (by decide) (by decide) (by decide)), hI.next (same_rf σ) (sameM_th μ 1 _ (by decide) (by decide))⟩
  · refine x_throw (e := 0) (by decide) (fun q => absurd q (by decide)) (fun q => absurd q (by decide)) (fun q => absurd q (by decide)) (fun _ => ?_)
    obtain ⟨x, rfl⟩ : ∃ x : Nat, a = x := ⟨a.toNat, by omega⟩
    have hm : ∀ z : Int, ((∃ k, (strt (μ.1 0))[x]? = some k ∧ z = cod k) ∨ ((strt (μ.1 0))[x]? = none ∧ z = -1)) → wp_X7_street μ (jI x) (fun r μ1 => wp_X7_thrown μ1 (fun th μ2 => th = jI 0 ∧ (jI 0 = jI 0 → (jI z).toInt64 = r.toInt64) ∧ Inv (n + 1) σ μ2)) := by
      intro z hz
      unfold wp_X7_street
      refine qt (jle (by omega)) (al ?_)
      rw [zsp_at]
      refine qt (jle (by decide) (by decide) (by decide)) (m_streetAt (σ := zsp μ 1 (jI 0)) (x := x) (by exact hW) (by omega) (fun k hk => ?_) (fun hk => ?_))
      · unfold wp_X7_thrown
        refine ⟨zsp_at, fun _ => ?_, hI.next (same_rf σ) (sameM_th μ 1 _ (by decide) (by decide))⟩
        have hk : (strt (μ.1 0))[x]? = some k := hk
        rcases hz with ⟨k', e1, e2⟩ | ⟨e1, e2⟩
        · rw [hk] at e1
          cases e1
          rw [e2]
        · rw [hk] at e1
          cases e1
      · unfold wp_X7_thrown
        refine ⟨zsp_at, fun _ => ?_, hI.next (same_rf σ) (sameM_th μ 1 _ (by decide) (by decide))⟩
        have hk : (strt (μ.1 0))[x]? = none := hk
        rcases hz with ⟨k', e1, e2⟩ | ⟨e1, e2⟩
        · rw [hk] at e1
          cases e1
        · rw [e2]
    exact n_letterOfStreet hR hW (by omega) (fun k hk hk2 => n_codeOf hk2 (hm _ (Or.inl ⟨k, hk, rfl⟩))) (fun hk => n_codeN (hm _ (Or.inr ⟨hk, rfl⟩)))
theorem last_52 : True := trivial
