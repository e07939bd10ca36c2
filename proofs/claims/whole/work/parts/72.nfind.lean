/-! the class's search for a place -/
section NF
variable {σ : ST} {w : Wd} {l : List Nat} {k : Nat} {Q : ST → Prop}
theorem RK.cg9 {σ' : ST} (hR : RK σ w l) (h1 : σ'.1 = σ.1) (h2 : ∀ c, c < 45 → σ'.2 c = σ.2 c) : RK σ' w l := RC_congr hR (fun j _ => by rw [h1]) (fun j hj => h2 j (by omega))
theorem n_choose {σ : ST} {a b c : Int32} (h : ∀ σ' : ST, σ'.1 = σ.1 → (∀ c : Nat, c ≠ 45 → c ≠ 46 → c ≠ 47 → σ'.2 c = σ.2 c) → σ'.2 45 = a → σ'.2 46 = b → σ'.2 47 = c → Q σ') : wp_X2_choose σ a b c Q := by
  unfold wp_X2_choose
  refine al (al (al (h _ rfl (fun c h1 h2 h3 => ?_) ?_ ?_ ?_)))
  · exact (zsp_nq h3).trans ((zsp_nq h2).trans (zsp_nq h1))
  · exact (zsp_nq (by decide)).trans ((zsp_nq (by decide)).trans zsp_at)
  · exact (zsp_nq (by decide)).trans zsp_at
  · exact zsp_at
theorem n_findGap (hR : RK σ w l) (hW : WF w) (hk : k < 144) (h45 : σ.2 45 = jI (-1)) (h : ∀ σ' : ST, σ'.1 = σ.1 → (∀ c : Nat, c ≠ 45 → c ≠ 46 → c ≠ 47 → σ'.2 c = σ.2 c) → gpC σ' (gpS w k 72).2 → Q σ') : wp_X2_findGap σ (jI (k : Nat)) Q := by
  have hw := wdt_b hW hk
  have hh := hgt_b hW hk
  unfold wp_X2_findGap
  refine n_widthOf hR hk (n_heightOf hR hk ?_)
  have key : ∀ K : ST → Prop, (∀ σ' : ST, σ'.1 = σ.1 → (∀ c : Nat, c ≠ 45 → c ≠ 46 → c ≠ 47 → σ'.2 c = σ.2 c) → gpC σ' (gpS w k 72).2 → K σ') → ∃ nn, wl_X2_findGap_20 K (jI (wdt w k)) (jI (hgt w k)) nn σ (jI 24) (jI 0) := fun K hK => by
    refine lp_inv (α := ST × Int32 × Int32) (L := fun n a => wl_X2_findGap_20 K (jI (wdt w k)) (jI (hgt w k)) n a.1 a.2.1 a.2.2) (B := fun LL a => wb_X2_findGap_20 K (fun t y z => LL (t, y, z)) (jI (wdt w k)) (jI (hgt w k)) a.1 a.2.1 a.2.2) (fun n a => rfl) (fun i a => a.1.1 = σ.1 ∧ (∀ c : Nat, c ≠ 45 → c ≠ 46 → c ≠ 47 → a.1.2 c = σ.2 c) ∧ gpC a.1 (gpS w k i).2 ∧ a.2.1 = jI (gpS w k i).1 ∧ a.2.2 = jI (i : Nat)) 72 (fun i a hi ha LL hLL => ?_) (σ, jI 24, jI 0) ⟨rfl, fun _ _ _ _ => rfl, h45, rfl, rfl⟩
    obtain ⟨u, y, z⟩ := a
    obtain ⟨ha1, ha2, ha3, ha4, ha5⟩ := ha
    dsimp only at ha1 ha2 ha3 ha4 ha5 ⊢
    subst ha4 ha5
    unfold wb_X2_findGap_20
    by_cases hi2 : i < 72
    · refine qf (jnle (by omega)) ?_
      have hRu : RK u w l := hR.cg9 ha1 (fun c hc => ha2 c (by omega) (by omega) (by omega))
      have hgb := (gpS_spec hW k i).1
      obtain ⟨t, s, rfl, ht, hs⟩ : ∃ t s : Nat, i = 24 * t + s ∧ t < 3 ∧ s < 24 := ⟨i / 24, i % 24, by omega, by omega, by omega⟩
      have eS : gpS w k (24 * t + s + 1) = gpN w k (24 * t + s) (gpS w k (24 * t + s)) := rfl
      have hout : ¬ (((t : Int) < nT w ∧ (s : Int) < nS w t) ∧ hgt w k ≤ tl w t s ∧ tl w t s - hgt w k < (gpS w k (24 * t + s)).1) → ∀ x2 : Int32, x2 = jI ((24 * t + s : Nat) : Int) + jI 1 → LL (u, jI (gpS w k (24 * t + s)).1, x2) := fun hc => by
        refine alE (jI_add _ _) (hLL _ hi2 ⟨ha1, ha2, ?_, ?_, rfl⟩)
        · dsimp only
          rw [eS, gpN_out hs hc]
          exact ha3
        · dsimp only
          rw [eS, gpN_out hs hc]
      have hvb := hsv_b (t := t) (s := s) hW
      refine n_heightOfShelf hRu ht hs (al ?_)
      rw [jI_sub]
      refine qlt (by omega) (by omega) (by omega) (by omega) (fun c => hout (fun q => ?_)) (fun c => ?_)
      · rw [(hsv_in hW q.1.1 q.1.2).1] at c
        omega
      have hex : (t : Int) < nT w ∧ (s : Int) < nS w t := by
        by_cases q : (t : Int) < nT w ∧ (s : Int) < nS w t
        · exact q
        · rw [show hsv w t s = 0 from if_neg q] at c
          omega
      rw [(hsv_in hW hex.1 hex.2).1] at c hvb ⊢
      refine qle (by omega) (by omega) (by omega) (by omega) (fun d => hout (fun q => by omega)) (fun d => ?_)
      have hc3 : ((t : Int) < nT w ∧ (s : Int) < nS w t) ∧ hgt w k ≤ tl w t s ∧ tl w t s - hgt w k < (gpS w k (24 * t + s)).1 := ⟨hex, by omega, by omega⟩
      refine n_coverOf hRu hW ht hs (fun cc hcc => ?_)
      rw [show wdt w k = (((wdt w k).toNat : Nat) : Int) by omega]
      refine n_leftmost (by omega) (by omega) (cv_fr w t s hcc) (fun o ho => ?_)
      cases o with
      | none =>
        refine qt rfl (alE (jI_add _ _) (hLL _ hi2 ⟨ha1, ha2, ?_, ?_, rfl⟩))
        · dsimp only
          rw [eS, gpN_none hs ho]
          exact ha3
        · dsimp only
          rw [eS, gpN_none hs ho]
      | some x =>
        have hx := ho.1.1
        rw [show oI (some x) = (x : Int) from rfl]
        refine qf (jne (show (x : Int) ≠ -1 by omega)) (n_choose (fun u' g1 g2 g3 g4 g5 => ?_))
        refine alE (jI_add _ _) (hLL _ hi2 ⟨g1.trans ha1, fun c h1 h2 h3 => (g2 c h1 h2 h3).trans (ha2 c h1 h2 h3), ?_, ?_, rfl⟩)
        · dsimp only
          rw [eS, gpN_some hs hc3 ho]
          exact ⟨g3, g4, g5⟩
        · dsimp only
          rw [eS, gpN_some hs hc3 ho]
    · have e : i = 72 := by omega
      subst e
      exact qt (jle (by decide) (by decide) (by decide)) (hK u ha1 ha2 ha3)
  exact key _ h
theorem n_findRoom (hR : RK σ w l) (hW : WF w) (hk : k < 144) (h : ∀ (σ' : ST) (o : Option Nat), σ'.1 = σ.1 → (∀ c : Nat, c ≠ 45 → c ≠ 46 → c ≠ 47 → σ'.2 c = σ.2 c) → IsTr w k o → (match o with | none => σ'.2 45 = σ.2 45 | some t => σ'.2 45 = jI 2 ∧ σ'.2 46 = jI ((24 * t + (nS w t).toNat : Nat) : Int) ∧ σ'.2 47 = jI 0) → Q σ') : wp_X2_findRoomForShelf σ (jI (k : Nat)) Q := by
  have hh := hgt_b hW hk
  have hT1 := hW.1.1
  have hT2 := hW.1.2.1
  have e1 : σ.2 1 = jI (nT w) := hR.2.2.2.2.1.trans (gwj w 0)
  unfold wp_X2_findRoomForShelf
  refine n_heightOf hR hk ?_
  have key : ∀ (K1 : ST → Int32 → Prop) (K2 : ST → Prop), (∀ t : Nat, IsTr w k (some t) → K1 σ (jI (t : Nat))) → (IsTr w k none → K2 σ) → ∃ nn, wl_X2_findRoomForShelf_9 K1 K2 (jI (hgt w k)) nn σ (jI 0) := fun K1 K2 h1 h2 => by
    refine lp_inv (α := ST × Int32) (L := fun n a => wl_X2_findRoomForShelf_9 K1 K2 (jI (hgt w k)) n a.1 a.2) (B := fun LL a => wb_X2_findRoomForShelf_9 K1 K2 (fun t y => LL (t, y)) (jI (hgt w k)) a.1 a.2) (fun n a => rfl) (fun i a => a = (σ, jI (i : Nat)) ∧ ∀ t' : Nat, t' < i → 24 < topH w t' (nS w t').toNat + hgt w k) (nT w).toNat (fun i a hi ha LL hLL => ?_) (σ, jI 0) ⟨rfl, fun t' h9 => absurd h9 (Nat.not_lt_zero t')⟩
    obtain ⟨rfl, hn⟩ := ha
    dsimp only
    unfold wb_X2_findRoomForShelf_9
    rw [e1]
    refine qle (by omega) (by omega) (by omega) (by omega) (fun c => h2 (fun t ht => hn t (by omega))) (fun c => ?_)
    have hb := hW.2.1 i c
    have htb := topH_b hW c (nS w i).toNat (by omega)
    refine n_heightOfShelves hR hW c ?_
    rw [jI_add]
    refine qlt (by omega) (by omega) (by omega) (by omega) (fun d => ?_) (fun d => h1 i ⟨c, d, hn⟩)
    refine alE (jI_add _ _) (hLL _ (by omega) ⟨rfl, fun t' ht' => ?_⟩)
    by_cases q : t' = i
    · rw [q]; exact d
    · exact hn t' (by omega)
  refine key _ _ (fun t ht => ?_) (fun hno => h σ none rfl (fun _ _ _ _ => rfl) hno rfl)
  have hb := hW.2.1 t ht.1
  refine n_countShelves hR hW ht.1 ?_
  rw [jI_mul, jI_add, show (t : Int) * 24 + nS w t = ((24 * t + (nS w t).toNat : Nat) : Int) by omega]
  exact n_choose (fun u' g1 g2 g3 g4 g5 => h u' (some t) g1 g2 ht ⟨g3, g4, g5⟩)
theorem n_findEmpty (hR : RK σ w l) (hW : WF w) (hk : k < 144) (h45 : σ.2 45 = jI (-1)) (h : ∀ σ' : ST, σ'.1 = σ.1 → (∀ c : Nat, c ≠ 45 → c ≠ 46 → c ≠ 47 → c ≠ 48 → σ'.2 c = σ.2 c) → shC σ' (shP w k 72) → (match shP w k 72 with | none => σ'.2 48 = σ.2 48 | some (q, _) => σ'.2 48 = jI (sA (fun z => bI (isO w z ((q / 24 : Nat) : Int) ((q % 24 : Nat) : Int))))) → Q σ') : wp_X2_findShelfToEmpty σ (jI (k : Nat)) Q := by
  have hh := hgt_b hW hk
  unfold wp_X2_findShelfToEmpty
  refine n_heightOf hR hk ?_
  have key : ∀ K : ST → Prop, (∀ σ' : ST, σ'.1 = σ.1 → (∀ c : Nat, c ≠ 45 → c ≠ 46 → c ≠ 47 → σ'.2 c = σ.2 c) → shC σ' (shP w k 72) → K σ') → ∃ nn, wl_X2_findShelfToEmpty_12 K (jI (hgt w k)) nn σ (jI (-1)) (jI 0) := fun K hK => by
    refine lp_inv (α := ST × Int32 × Int32) (L := fun n a => wl_X2_findShelfToEmpty_12 K (jI (hgt w k)) n a.1 a.2.1 a.2.2) (B := fun LL a => wb_X2_findShelfToEmpty_12 K (fun t y z => LL (t, y, z)) (jI (hgt w k)) a.1 a.2.1 a.2.2) (fun n a => rfl) (fun i a => a.1.1 = σ.1 ∧ (∀ c : Nat, c ≠ 45 → c ≠ 46 → c ≠ 47 → a.1.2 c = σ.2 c) ∧ shC a.1 (shP w k i) ∧ (∀ q v, shP w k i = some (q, v) → a.2.1 = jI v ∧ -2147483648 ≤ v ∧ v < 2147483648) ∧ a.2.2 = jI (i : Nat)) 72 (fun i a hi ha LL hLL => ?_) (σ, jI (-1), jI 0) ⟨rfl, fun _ _ _ _ => rfl, h45, fun q v h9 => (by cases h9), rfl⟩
    obtain ⟨u, y, z⟩ := a
    obtain ⟨ha1, ha2, ha3, ha4, ha5⟩ := ha
    dsimp only at ha1 ha2 ha3 ha4 ha5 ⊢
    subst ha5
    unfold wb_X2_findShelfToEmpty_12
    by_cases hi2 : i < 72
    · refine qf (jnle (by omega)) ?_
      have hRu : RK u w l := hR.cg9 ha1 (fun c hc => ha2 c (by omega) (by omega) (by omega))
      obtain ⟨t, s, rfl, ht, hs⟩ : ∃ t s : Nat, i = 24 * t + s ∧ t < 3 ∧ s < 24 := ⟨i / 24, i % 24, by omega, by omega, by omega⟩
      have eS : shP w k (24 * t + s + 1) = shN w k (24 * t + s) (shP w k (24 * t + s)) := rfl
      have hout : ¬ (((t : Int) < nT w ∧ (s : Int) < nS w t) ∧ hgt w k ≤ tl w t s ∧ nowO w t s = false) → ∀ x2 : Int32, x2 = jI ((24 * t + s : Nat) : Int) + jI 1 → LL (u, y, x2) := fun hc => by
        refine alE (jI_add _ _) (hLL _ hi2 ⟨ha1, ha2, ?_, ?_, rfl⟩)
        · dsimp only
          rw [eS, shN_out hs hc]
          exact ha3
        · dsimp only
          rw [eS, shN_out hs hc]
          exact ha4
      have hvb := hsv_b (t := t) (s := s) hW
      refine n_heightOfShelf hRu ht hs ?_
      refine qlt (by omega) (by omega) (by omega) (by omega) (fun c => hout (fun q => ?_)) (fun c => ?_)
      · rw [(hsv_in hW q.1.1 q.1.2).1] at c
        omega
      have hex : (t : Int) < nT w ∧ (s : Int) < nS w t := by
        by_cases q : (t : Int) < nT w ∧ (s : Int) < nS w t
        · exact q
        · rw [show hsv w t s = 0 from if_neg q] at c
          omega
      rw [(hsv_in hW hex.1 hex.2).1] at c hvb
      refine n_hasNow hRu hW ht hs (qb (fun p => ?_) (fun p => hout (fun q => by rw [p] at q; cases q.2.2)))
      have hc3 : ((t : Int) < nT w ∧ (s : Int) < nS w t) ∧ hgt w k ≤ tl w t s ∧ nowO w t s = false := ⟨hex, by omega, p⟩
      refine n_latest hRu hW ht hs (fun v hv => ?_)
      have hvb9 := hv.b
      have elat : lat w t s = v := lat_eq hW ht hv
      have hput : shN w k (24 * t + s) (shP w k (24 * t + s)) = some (24 * t + s, v) → wp_X2_choose u (jI 3) (jI ((24 * t + s : Nat) : Int)) (jI 0) (fun s5 => (∀ x3 : Int32, x3 = jI ((24 * t + s : Nat) : Int) + jI 1 → LL (s5, jI v, x3))) := fun hq => by
        refine n_choose (fun u' g1 g2 g3 g4 g5 => ?_)
        refine alE (jI_add _ _) (hLL _ hi2 ⟨g1.trans ha1, fun c h1 h2 h3 => (g2 c h1 h2 h3).trans (ha2 c h1 h2 h3), ?_, fun q v' h9 => ?_, rfl⟩)
        · dsimp only
          rw [eS, hq]
          exact ⟨g3, g4, g5⟩
        · dsimp only
          rw [eS, hq] at h9
          cases h9
          exact ⟨rfl, hvb9⟩
      have hin := shN_in (shP w k (24 * t + s)) hs hc3
      rw [elat] at hin
      cases ho : shP w k (24 * t + s) with
      | none =>
        rw [ho] at ha3 hin hput
        rw [show u.2 45 = jI (-1) from ha3]
        exact qt rfl (hput hin)
      | some qv =>
        obtain ⟨q0, v0⟩ := qv
        obtain ⟨ey, v1, v2⟩ := ha4 q0 v0 ho
        subst ey
        rw [ho] at ha3 hin hput
        dsimp only at hin
        rw [show u.2 45 = jI 3 from ha3.1]
        refine qf (jne (by decide) (by decide) (by decide) (by decide) (by decide)) ?_
        refine qle v1 v2 (by omega) (by omega) (fun d => ?_) (fun d => ?_)
        · rw [if_neg (by omega)] at hin
          refine alE (jI_add _ _) (hLL _ hi2 ⟨ha1, ha2, ?_, fun q v' h9 => ?_, rfl⟩)
          · dsimp only
            rw [eS, ho, hin]
            exact ha3
          · dsimp only
            rw [eS, ho, hin] at h9
            cases h9
            exact ⟨rfl, v1, v2⟩
        · rw [if_pos (by omega)] at hin
          exact hput hin
    · have e : i = 72 := by omega
      subst e
      exact qt (jle (by decide) (by decide) (by decide)) (hK u ha1 ha2 ha3)
  refine key _ (fun u g1 g2 g3 => ?_)
  cases ho : shP w k 72 with
  | none =>
    rw [ho] at g3 h
    rw [show u.2 45 = jI (-1) from g3]
    exact qt rfl (h u g1 (fun c h1 h2 h3 _ => g2 c h1 h2 h3) g3 (g2 48 (by decide) (by decide) (by decide)))
  | some qv =>
    obtain ⟨q, v⟩ := qv
    rw [ho] at g3 h
    have hRu : RK u w l := hR.cg9 g1 (fun c hc => g2 c (by omega) (by omega) (by omega))
    obtain ⟨hq, t, s, e1, hs, ht, -⟩ := shP_spec k 72 q v ho
    have hT2 := hW.1.2.1
    rw [show u.2 45 = jI 3 from g3.1, show u.2 46 = jI (q : Nat) from g3.2.1]
    refine qf (jne (by decide) (by decide) (by decide) (by decide) (by decide)) ?_
    rw [show (q : Int) = ((24 * (q / 24) + q % 24 : Nat) : Int) by omega]
    refine n_countOnShelf hRu hW (by omega) (by omega) (al (h _ g1 (fun c h1 h2 h3 h4 => (zsp_nq h4).trans (g2 c h1 h2 h3)) ⟨(zsp_nq (by decide)).trans g3.1, (zsp_nq (by decide)).trans g3.2.1, (zsp_nq (by decide)).trans g3.2.2⟩ zsp_at))
end NF
theorem last_72 : True := trivial
