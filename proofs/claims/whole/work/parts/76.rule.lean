/-! rule, takenBy, costOf -/
def inkv (w : Wd) (k : Nat) : Int := if k % 3 ≠ 0 ∧ isP w (k - k % 3) = true then wdt w k * hgt w k / 2 else wdt w k * hgt w k
theorem area_b {w : Wd} (hW : WF w) {k : Nat} (hk : k < 144) : 1 ≤ wdt w k * hgt w k ∧ wdt w k * hgt w k ≤ 484 := by
  have h1 := wdt_b hW hk
  have h2 := hgt_b hW hk
  have h3 := Int.mul_le_mul (a := wdt w k) (b := hgt w k) (c := 22) (d := 22) h1.2 h2.2 (by omega) (by decide)
  have h4 := Int.mul_le_mul (a := 1) (b := 1) (c := wdt w k) (d := hgt w k) h1.1 h2.1 (by decide) (by omega)
  omega
theorem inkv_b {w : Wd} (hW : WF w) {k : Nat} (hk : k < 144) : 0 ≤ inkv w k ∧ inkv w k ≤ 484 := by
  have := area_b hW hk
  unfold inkv
  split <;> omega
theorem IsPl.b {w : Wd} {k : Nat} {ru : Int} {t s x : Nat} {tk lv : Int} (h : IsPl w k ru t s x tk lv) : -1 ≤ ru ∧ ru ≤ 4 := by
  rcases h with h | ⟨_, ⟨_, _, h, _⟩ | ⟨_, ⟨_, h, _⟩ | ⟨_, ⟨_, _, _, h, _⟩ | ⟨_, ⟨_, h, _⟩ | ⟨_, _, _, ⟨_, h, _⟩ | ⟨_, _, _, h, _⟩⟩⟩⟩⟩⟩ <;> omega
section INK
variable {σ : ST} {w : Wd} {l : List Nat} {k : Nat} {Q : Int32 → ST → Prop}
theorem n_inkFor (hR : RK σ w l) (hW : WF w) (hk : k < 144) (h : Q (jI (inkv w k)) σ) : wp_X4_inkFor σ (jI (k : Nat)) Q := by
  have ha := area_b hW hk
  unfold wp_X4_inkFor wp_X6_blurOf
  have e4 : jI (k : Int) - jI (k : Int) / jI 3 * jI 3 = jI ((k % 3 : Nat) : Int) := jr (d := 3) (by omega) (by decide) (by decide)
  rw [e4]
  dsimp only
  rw [jI_sub, show (k : Int) - ((k % 3 : Nat) : Int) = ((k - k % 3 : Nat) : Int) by omega]
  refine al (n_areaOf hR hk ?_)
  refine qeq (by omega) (by omega) (by omega) (by omega) (fun c => ?_) (fun c => ?_)
  · rw [show inkv w k = wdt w k * hgt w k from if_neg (fun q => q.1 (by omega))] at h
    exact h
  · refine n_isThere hR hW (by omega) (qb (fun p => ?_) (fun p => ?_))
    · rw [show inkv w k = wdt w k * hgt w k from if_neg (fun q => by rw [p] at q; cases q.2)] at h
      exact h
    · rw [show inkv w k = wdt w k * hgt w k / 2 from if_pos ⟨by omega, p⟩] at h
      rw [jI_div (by omega) (by omega) (by decide) (by decide)]
      exact h
theorem m_inks (hW : WF (σ.1 0)) (hk : k < 144) (h : Q (jI (inkv (σ.1 0) k)) σ) : wp_X7_inks σ (jI (k : Nat)) Q := by
  have ha := area_b hW hk
  unfold wp_X7_inks
  have e4 : jI (k : Int) - jI (k : Int) / jI 3 * jI 3 = jI ((k % 3 : Nat) : Int) := jr (d := 3) (by omega) (by decide) (by decide)
  rw [e4, jI_sub, show (k : Int) - ((k % 3 : Nat) : Int) = ((k - k % 3 : Nat) : Int) by omega]
  refine qle (by omega) (by omega) (by decide) (by decide) (fun c => ?_) (fun c => ?_)
  · rw [show inkv (σ.1 0) k = wdt (σ.1 0) k * hgt (σ.1 0) k from if_neg (fun q => q.1 (by omega))] at h
    exact m_areaOf hk h
  · refine m_is (by omega) (qb (fun p => ?_) (fun p => ?_))
    · rw [show inkv (σ.1 0) k = wdt (σ.1 0) k * hgt (σ.1 0) k from if_neg (fun q => by rw [p] at q; cases q.2)] at h
      exact m_areaOf hk h
    · rw [show inkv (σ.1 0) k = wdt (σ.1 0) k * hgt (σ.1 0) k / 2 from if_pos ⟨by omega, p⟩] at h
      refine m_areaOf hk ?_
      rw [jI_div (by omega) (by omega) (by decide) (by decide)]
      exact h
end INK
theorem same_45 {σ σ' : ST} (h1 : σ'.1 = σ.1) (h2 : ∀ c : Nat, c < 45 → σ'.2 c = σ.2 c) : same σ σ' := ⟨fun r _ => by rw [h1], fun c hc => h2 c (by omega)⟩
theorem sameM_lk {μ μ' : ST} (h1 : ∀ q : Nat, q ≠ 2 → μ'.1 q = μ.1 q) (h2 : ∀ c : Nat, c < 2 ∨ 7 < c → μ'.2 c = μ.2 c) : sameM μ μ' := ⟨h1 0 (by decide), h1 1 (by decide), h1 3 (by decide), h2 0 (by decide), h2 8 (by decide)⟩
set_option maxHeartbeats 1000000 in
theorem s_rule : st_rule Inv := by
  intro n σ μ v p1 p2 p3 hn hI
  obtain ⟨a, rfl, a1, a2⟩ := jI_ex p1
  obtain ⟨b, rfl, b1, b2⟩ := jI_ex p2
  obtain ⟨c, rfl, c1, c2⟩ := jI_ex p3
  have hI' := hI
  obtain ⟨hW, hcl, ⟨l, hR⟩, -⟩ := hI'
  have hf := flt_b a b c
  have hth : ∀ e : Int, (e = 1 ∨ e = 2) → flt a b c = e → wp_X7_rule μ (jI a) (jI b) (jI c) (fun r μ1 => wp_X7_thrown μ1 (fun th μ2 => th = jI e ∧ (jI e = jI 0 → v = r.toInt64) ∧ Inv (n + 1) σ μ2)) := by
    intro e he h9
    unfold wp_X7_rule
    refine m_bars a1 a2 b1 b2 c1 c2 (al ?_)
    rw [zsp_at, h9]
    refine qf (jnle (by omega)) ?_
    unfold wp_X7_thrown
    exact ⟨zsp_at, fun q => absurd q (jne (by omega)), hI.next (same_rf σ) (sameM_th μ 1 _ (by decide) (by decide))⟩
  unfold wL_rule wx_X6_rule
  refine n_faultOfLetter a1 a2 b1 b2 c1 c2 (x_throw hf (fun q => hth 1 (Or.inl rfl) q) (fun q => hth 2 (Or.inr rfl) q) (fun q => ?_) (fun e => ?_))
  · exfalso
    unfold flt at q
    split at q
    · split at q <;> omega
    · omega
  have hk := ltn_lt e
  refine n_letterNumber e (n_find hR hW hk (fun σ' ru t s x tk lv g1 g2 g3 g4 => ?_))
  have hb := g3.b
  obtain ⟨r1, -, -, r2, -⟩ := g4
  have hm : ∀ z : Int32, (∀ μ' : ST, (∀ q : Nat, q ≠ 2 → μ'.1 q = μ.1 q) → (∀ c : Nat, c < 2 ∨ 7 < c → μ'.2 c = (zsp μ 1 (jI 0)).2 c) → μ'.2 2 = jI ru → μ'.2 7 = jI tk → (wp_X7_thrown μ' (fun th μ2 => th = jI 0 ∧ (jI 0 = jI 0 → z.toInt64 = (μ'.2 2).toInt64) ∧ Inv (n + 1) σ' μ2))) → wp_X7_rule μ (jI a) (jI b) (jI c) (fun r μ1 => wp_X7_thrown μ1 (fun th μ2 => th = jI 0 ∧ (jI 0 = jI 0 → z.toInt64 = r.toInt64) ∧ Inv (n + 1) σ' μ2)) := by
    intro z hz
    unfold wp_X7_rule
    refine m_bars a1 a2 b1 b2 c1 c2 (al ?_)
    rw [zsp_at, e]
    refine qt (jle (by decide) (by decide) (by decide)) (m_number e (m_looks (μ := zsp μ 1 (jI 0)) (by exact hW) hk (fun μ' ru' t' s' x' tk' lv' q1 q2 q3 q4 => ?_)))
    obtain ⟨u1, u2, -, -⟩ := IsPl.u hW g3 q3
    exact hz μ' q1 q2 (by rw [u1]; exact q4.1) (by rw [u2]; exact q4.2.2.2)
  have hfin : ∀ μ' : ST, (∀ q : Nat, q ≠ 2 → μ'.1 q = μ.1 q) → (∀ c : Nat, c < 2 ∨ 7 < c → μ'.2 c = (zsp μ 1 (jI 0)).2 c) → ∀ z r : Int32, z = r → wp_X7_thrown μ' (fun th μ2 => th = jI 0 ∧ (jI 0 = jI 0 → z.toInt64 = r.toInt64) ∧ Inv (n + 1) σ' μ2) := by
    intro μ' q1 q2 z r hzr
    unfold wp_X7_thrown
    refine ⟨(q2 1 (by decide)).trans zsp_at, fun _ => by rw [hzr], hI.next (same_45 g1 g2) ((sameM_th μ 1 _ (by decide) (by decide)).trans (sameM_lk q1 q2))⟩
  exact hm _ (fun μ' q1 q2 q3 q4 => hfin μ' q1 q2 _ _ (r1.trans q3.symm))
set_option maxHeartbeats 1000000 in
theorem s_takenBy : st_takenBy Inv := by
  intro n σ μ v p1 p2 p3 hn hI
  obtain ⟨a, rfl, a1, a2⟩ := jI_ex p1
  obtain ⟨b, rfl, b1, b2⟩ := jI_ex p2
  obtain ⟨c, rfl, c1, c2⟩ := jI_ex p3
  have hI' := hI
  obtain ⟨hW, hcl, ⟨l, hR⟩, -⟩ := hI'
  have hf := flt_b a b c
  have hth : ∀ e : Int, (e = 1 ∨ e = 2) → flt a b c = e → wp_X7_takenBy μ (jI a) (jI b) (jI c) (fun r μ1 => wp_X7_thrown μ1 (fun th μ2 => th = jI e ∧ (jI e = jI 0 → v = r.toInt64) ∧ Inv (n + 1) σ μ2)) := by
    intro e he h9
    unfold wp_X7_takenBy
    refine m_bars a1 a2 b1 b2 c1 c2 (al ?_)
    rw [zsp_at, h9]
    refine qf (jnle (by omega)) ?_
    unfold wp_X7_thrown
    exact ⟨zsp_at, fun q => absurd q (jne (by omega)), hI.next (same_rf σ) (sameM_th μ 1 _ (by decide) (by decide))⟩
  unfold wL_takenBy wx_X6_takenBy
  refine n_faultOfLetter a1 a2 b1 b2 c1 c2 (x_throw hf (fun q => hth 1 (Or.inl rfl) q) (fun q => hth 2 (Or.inr rfl) q) (fun q => ?_) (fun e => ?_))
  · exfalso
    unfold flt at q
    split at q
    · split at q <;> omega
    · omega
  have hk := ltn_lt e
  refine n_letterNumber e (n_find hR hW hk (fun σ' ru t s x tk lv g1 g2 g3 g4 => ?_))
  have hb := g3.b
  obtain ⟨r1, -, -, r2, -⟩ := g4
  have hm : ∀ z : Int32, (∀ μ' : ST, (∀ q : Nat, q ≠ 2 → μ'.1 q = μ.1 q) → (∀ c : Nat, c < 2 ∨ 7 < c → μ'.2 c = (zsp μ 1 (jI 0)).2 c) → μ'.2 2 = jI ru → μ'.2 7 = jI tk → (((μ'.2 2) = (jI (-1)) → (fun r μ1 => wp_X7_thrown μ1 (fun th μ2 => th = jI 0 ∧ (jI 0 = jI 0 → z.toInt64 = r.toInt64) ∧ Inv (n + 1) σ' μ2)) (jI (-1)) μ') ∧ (¬ (μ'.2 2) = (jI (-1)) → (fun r μ1 => wp_X7_thrown μ1 (fun th μ2 => th = jI 0 ∧ (jI 0 = jI 0 → z.toInt64 = r.toInt64) ∧ Inv (n + 1) σ' μ2)) (μ'.2 7) μ'))) → wp_X7_takenBy μ (jI a) (jI b) (jI c) (fun r μ1 => wp_X7_thrown μ1 (fun th μ2 => th = jI 0 ∧ (jI 0 = jI 0 → z.toInt64 = r.toInt64) ∧ Inv (n + 1) σ' μ2)) := by
    intro z hz
    unfold wp_X7_takenBy
    refine m_bars a1 a2 b1 b2 c1 c2 (al ?_)
    rw [zsp_at, e]
    refine qt (jle (by decide) (by decide) (by decide)) (m_number e (m_looks (μ := zsp μ 1 (jI 0)) (by exact hW) hk (fun μ' ru' t' s' x' tk' lv' q1 q2 q3 q4 => ?_)))
    obtain ⟨u1, u2, -, -⟩ := IsPl.u hW g3 q3
    exact hz μ' q1 q2 (by rw [u1]; exact q4.1) (by rw [u2]; exact q4.2.2.2)
  have hfin : ∀ μ' : ST, (∀ q : Nat, q ≠ 2 → μ'.1 q = μ.1 q) → (∀ c : Nat, c < 2 ∨ 7 < c → μ'.2 c = (zsp μ 1 (jI 0)).2 c) → ∀ z r : Int32, z = r → wp_X7_thrown μ' (fun th μ2 => th = jI 0 ∧ (jI 0 = jI 0 → z.toInt64 = r.toInt64) ∧ Inv (n + 1) σ' μ2) := by
    intro μ' q1 q2 z r hzr
    unfold wp_X7_thrown
    refine ⟨(q2 1 (by decide)).trans zsp_at, fun _ => by rw [hzr], hI.next (same_45 g1 g2) ((sameM_th μ 1 _ (by decide) (by decide)).trans (sameM_lk q1 q2))⟩
  rw [r1]
  refine qeq (by omega) (by omega) (by decide) (by decide) (fun d => ?_) (fun d => ?_)
  · exact hm _ (fun μ' q1 q2 q3 q4 => qt (by rw [q3, d]) (hfin μ' q1 q2 _ _ rfl))
  · exact hm _ (fun μ' q1 q2 q3 q4 => qf (by rw [q3]; exact jne d) (hfin μ' q1 q2 _ _ (r2.trans q4.symm)))
set_option maxHeartbeats 1000000 in
theorem s_costOf : st_costOf Inv := by
  intro n σ μ v p1 p2 p3 hn hI
  obtain ⟨a, rfl, a1, a2⟩ := jI_ex p1
  obtain ⟨b, rfl, b1, b2⟩ := jI_ex p2
  obtain ⟨c, rfl, c1, c2⟩ := jI_ex p3
  have hI' := hI
  obtain ⟨hW, hcl, ⟨l, hR⟩, -⟩ := hI'
  have hf := flt_b a b c
  have hth : ∀ e : Int, (e = 1 ∨ e = 2) → flt a b c = e → wp_X7_costOf μ (jI a) (jI b) (jI c) (fun r μ1 => wp_X7_thrown μ1 (fun th μ2 => th = jI e ∧ (jI e = jI 0 → v = r.toInt64) ∧ Inv (n + 1) σ μ2)) := by
    intro e he h9
    unfold wp_X7_costOf
    refine m_bars a1 a2 b1 b2 c1 c2 (al ?_)
    rw [zsp_at, h9]
    refine qf (jnle (by omega)) ?_
    unfold wp_X7_thrown
    exact ⟨zsp_at, fun q => absurd q (jne (by omega)), hI.next (same_rf σ) (sameM_th μ 1 _ (by decide) (by decide))⟩
  unfold wL_costOf wx_X6_costOf
  refine n_faultOfLetter a1 a2 b1 b2 c1 c2 (x_throw hf (fun q => hth 1 (Or.inl rfl) q) (fun q => hth 2 (Or.inr rfl) q) (fun q => ?_) (fun e => ?_))
  · exfalso
    unfold flt at q
    split at q
    · split at q <;> omega
    · omega
  have hk := ltn_lt e
  refine n_letterNumber e (n_find hR hW hk (fun σ' ru t s x tk lv g1 g2 g3 g4 => ?_))
  have hb := g3.b
  obtain ⟨r1, -, -, r2, -⟩ := g4
  have hm : ∀ z : Int32, (∀ μ' : ST, (∀ q : Nat, q ≠ 2 → μ'.1 q = μ.1 q) → (∀ c : Nat, c < 2 ∨ 7 < c → μ'.2 c = (zsp μ 1 (jI 0)).2 c) → μ'.2 2 = jI ru → μ'.2 7 = jI tk → (((μ'.2 2) = (jI (-1)) → (fun r μ1 => wp_X7_thrown μ1 (fun th μ2 => th = jI 0 ∧ (jI 0 = jI 0 → z.toInt64 = r.toInt64) ∧ Inv (n + 1) σ' μ2)) (jI (-1)) μ') ∧ (¬ (μ'.2 2) = (jI (-1)) → (((μ'.2 2) = (jI 0) → (fun r μ1 => wp_X7_thrown μ1 (fun th μ2 => th = jI 0 ∧ (jI 0 = jI 0 → z.toInt64 = r.toInt64) ∧ Inv (n + 1) σ' μ2)) (jI 0) μ') ∧ (¬ (μ'.2 2) = (jI 0) → wp_X7_inks μ' (jI (ltn a b c : Nat)) (fun r μ1 => wp_X7_thrown μ1 (fun th μ2 => th = jI 0 ∧ (jI 0 = jI 0 → z.toInt64 = r.toInt64) ∧ Inv (n + 1) σ' μ2))))))) → wp_X7_costOf μ (jI a) (jI b) (jI c) (fun r μ1 => wp_X7_thrown μ1 (fun th μ2 => th = jI 0 ∧ (jI 0 = jI 0 → z.toInt64 = r.toInt64) ∧ Inv (n + 1) σ' μ2)) := by
    intro z hz
    unfold wp_X7_costOf
    refine m_bars a1 a2 b1 b2 c1 c2 (al ?_)
    rw [zsp_at, e]
    refine qt (jle (by decide) (by decide) (by decide)) (m_number e (m_looks (μ := zsp μ 1 (jI 0)) (by exact hW) hk (fun μ' ru' t' s' x' tk' lv' q1 q2 q3 q4 => ?_)))
    obtain ⟨u1, u2, -, -⟩ := IsPl.u hW g3 q3
    exact hz μ' q1 q2 (by rw [u1]; exact q4.1) (by rw [u2]; exact q4.2.2.2)
  have hfin : ∀ μ' : ST, (∀ q : Nat, q ≠ 2 → μ'.1 q = μ.1 q) → (∀ c : Nat, c < 2 ∨ 7 < c → μ'.2 c = (zsp μ 1 (jI 0)).2 c) → ∀ z r : Int32, z = r → wp_X7_thrown μ' (fun th μ2 => th = jI 0 ∧ (jI 0 = jI 0 → z.toInt64 = r.toInt64) ∧ Inv (n + 1) σ' μ2) := by
    intro μ' q1 q2 z r hzr
    unfold wp_X7_thrown
    refine ⟨(q2 1 (by decide)).trans zsp_at, fun _ => by rw [hzr], hI.next (same_45 g1 g2) ((sameM_th μ 1 _ (by decide) (by decide)).trans (sameM_lk q1 q2))⟩
  rw [r1]
  refine qeq (by omega) (by omega) (by decide) (by decide) (fun d => ?_) (fun d => ?_)
  · exact hm _ (fun μ' q1 q2 q3 q4 => qt (by rw [q3, d]) (hfin μ' q1 q2 _ _ rfl))
  · refine qeq (by omega) (by omega) (by decide) (by decide) (fun d2 => ?_) (fun d2 => ?_)
    · exact hm _ (fun μ' q1 q2 q3 q4 => qf (by rw [q3]; exact jne d) (qt (by rw [q3, d2]) (hfin μ' q1 q2 _ _ rfl)))
    · refine n_inkFor (hR.cg9 g1 g2) hW hk (hm _ (fun μ' q1 q2 q3 q4 => qf (by rw [q3]; exact jne d) (qf (by rw [q3]; exact jne d2) ?_)))
      have e0 : μ'.1 0 = μ.1 0 := q1 0 (by decide)
      refine m_inks (by rw [e0]; exact hW) hk ?_
      rw [e0]
      exact hfin μ' q1 q2 _ _ rfl
theorem last_76 : True := trivial
