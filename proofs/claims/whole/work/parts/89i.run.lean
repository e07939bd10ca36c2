/-! runCommands, as the law calls it -/
theorem Core.tr {d : Nat} {a b c e f g : ST} (h1 : Core d a b c e) (h2 : Core 1 c e f g) : Core (d + 1) a b f g := ⟨h1.1.trans h2.1, h1.2.1.trans h2.2.1, h2.2.2.1, h2.2.2.2.1, by have := h1.2.2.2.2.1; have := h2.2.2.2.2.1; omega, by have := h1.2.2.2.2.2; have := h2.2.2.2.2.2; push_cast; omega⟩
theorem KT.sm {u u' : ST} (h : KT u u') : same u u' := ⟨fun r hr => h.1 r (by omega) (by omega), fun c hc => h.2 c (by omega) (by omega)⟩
theorem KR.sm {v v' : ST} (h : KR v v') : sameM v v' := ⟨h.1 0 (by decide), h.1 1 (by decide), h.1 3 (by decide), h.2 0 (by decide) (by decide), h.2 8 (by decide) (by decide)⟩
theorem m_again {μ μ' : ST} {N i m : Nat} {K : ST → Int32 → Prop} {r : Int32} (h10 : μ.2 10 = jI (N : Nat)) (hi : i < N) (hN : N < 100) (h1 : r = jI 1) (hgo : ∀ Q' : Int32 → ST → Prop, Q' r μ' → wp_X7_does μ (jI ((4 * i : Nat) : Int)) Q') (h : wl_X7_runCommands_26 K m μ' (jI ((i + 1 : Nat) : Int))) : wl_X7_runCommands_26 K (m + 1) μ (jI (i : Nat)) := by
  show wb_X7_runCommands_26 _ _ _ _
  unfold wb_X7_runCommands_26
  rw [h10]
  refine qf (jnle (by omega) (by omega) (by omega)) ?_
  rw [jI_mul, show (4 : Int) * (i : Int) = ((4 * i : Nat) : Int) by omega]
  refine hgo _ ?_
  rw [h1]
  exact qf (jne (a := 1) (b := 0) (by decide)) (alE (jI_add _ _) h)
theorem m_stops {μ : ST} {N i : Nat} {K : ST → Int32 → Prop} (h10 : μ.2 10 = jI (N : Nat)) (hi : N ≤ i) (hN : i < 100) (h : K μ (jI (i : Nat))) : wl_X7_runCommands_26 K 1 μ (jI (i : Nat)) := by
  show wb_X7_runCommands_26 _ _ _ _
  unfold wb_X7_runCommands_26
  rw [h10]
  exact qt (jle (by omega) (by omega) (by omega)) h
theorem m_fails {μ : ST} {N i : Nat} {K : ST → Int32 → Prop} (h10 : μ.2 10 = jI (N : Nat)) (hi : i < N) (hN : N < 100) (h : wp_X7_does μ (jI ((4 * i : Nat) : Int)) (fun r2 s4 => ((r2 = (jI 0) → K s4 (jI (i : Nat))) ∧ (¬ r2 = (jI 0) → (∀ x1 : Int32, x1 = jI (i : Nat) + (jI 1) → wl_X7_runCommands_26 K 0 s4 x1))))) : wl_X7_runCommands_26 K 1 μ (jI (i : Nat)) := by
  show wb_X7_runCommands_26 _ _ _ _
  unfold wb_X7_runCommands_26
  rw [h10]
  refine qf (jnle (by omega) (by omega) (by omega)) ?_
  rw [jI_mul, show (4 : Int) * (i : Int) = ((4 * i : Nat) : Int) by omega]
  exact h
theorem s_runCommands : st_runCommands Inv := by
  intro n σ μ hn hI
  have hI' := hI
  obtain ⟨hW, hcl, ⟨l, hR⟩, hU, ⟨L, t1, t2, t3, t4⟩⟩ := hI'
  obtain ⟨B, hBe⟩ : ∃ B : Nat → Int, ∀ i, B i = (μ.1 3 i).toInt := ⟨_, fun _ => rfl⟩
  have hB : TB B L := ⟨t1, fun i hi => by rw [hBe]; exact (t4 i hi).2⟩
  have hTC : TC B L σ := ⟨t2, fun i hi => by rw [hBe]; exact (t4 i hi).1.trans (jI_of _)⟩
  have hTM : TM B L (zsp μ 1 (jI 0)) := ⟨(zsp_nq (by decide)).trans t3, fun i hi => by rw [hBe]; exact jI_of _⟩
  have hth := sameM_th μ 1 (jI 0) (by decide) (by decide)
  unfold wp_X6_runCommands
  refine n_readText hB hTC (fun N u a1 a2 a3 hk h43 => qt rfl ?_) (fun N u a1 a2 hk h44 hE => qf (jne (a := 1) (b := 0) (by decide)) ?_)
  · unfold wp_X7_runCommands
    refine al (r_reads hB hTM (fun N' v b1 b2 b3 hkv h9 => qt rfl ⟨?_, hI.next hk.sm (hth.trans hkv.sm)⟩) (fun N' v b1 b2 hkv h10 hE' => ?_))
    · have e : N' = N := by
        rcases Nat.lt_trichotomy N' N with h | h | h
        · exact absurd ((a1 N' h).2.symm.trans b3) (by decide)
        · exact h
        · exact absurd ((b1 N h).2.symm.trans a3) (by decide)
      subst e
      rw [h43, h9]
    · exfalso
      rcases Nat.lt_trichotomy N' N with h | h | h
      · exact b2 (a1 N' h).1
      · exact b2 (by rw [h]; exact a2)
      · exact absurd ((b1 N h).2.symm.trans a3) (by decide)
  · have hN : N ≤ 30 := by
      have h5 := ps_ge hB N (fun i hi => (a1 i hi).2)
      have h6 := ps_le hB N
      omega
    have hI1 : Inv n u μ := hI.keep hk.sm (sameM_rf μ)
    refine op_save hI1 (fun σ1 k1 k2 hs => ?_)
    have hr : wp_X7_reads (zsp μ 1 (jI 0)) (fun r v => r = jI 1 ∧ KR (zsp μ 1 (jI 0)) v ∧ v.2 10 = jI (N : Nat) ∧ ∀ i, i < N → EM B L v i) := by
      refine r_reads hB hTM (fun N' v b1 b2 b3 hkv h9 => ?_) (fun N' v b1 b2 hkv h10 hE' => ?_)
      · exfalso
        rcases Nat.lt_trichotomy N' N with h | h | h
        · exact absurd ((a1 N' h).2.symm.trans b3) (by decide)
        · exact a2 (by rw [← h]; exact b2)
        · exact a2 (b1 N h).1
      · have e : N' = N := by
          rcases Nat.lt_trichotomy N' N with h | h | h
          · exact absurd (a1 N' h).1 b2
          · exact h
          · exact absurd (b1 N h).1 a2
        subst e
        exact ⟨rfl, hkv, h10, hE'⟩
    obtain ⟨⟨r0, v⟩, ⟨f1, f2, f3, f4⟩, hgo⟩ := d_X7_reads _ _ hr
    dsimp only at f1 f2 f3 f4
    have hsv : wp_X7_saves v (fun μ1 => (∀ r : Nat, r ≠ 1 → μ1.1 r = v.1 r) ∧ (∀ c : Nat, c ≠ 0 → μ1.2 c = v.2 c) ∧ UN n σ1 μ1 ∧ TX σ1 μ1) := hs v (hth.trans f2.sm) _ (fun μ1 q1 q2 hu ht => ⟨q1, q2, hu, ht⟩)
    obtain ⟨μ1, ⟨q1, q2, hu, ht⟩, hgs⟩ := d_X7_saves v _ hsv
    have hopen : ∀ Q' : Int32 → ST → Prop, (∃ nn, wl_X7_runCommands_26 (fun u_50 z1_50 => Q' z1_50 u_50) nn μ1 (jI 0)) → wp_X7_runCommands μ Q' := fun Q' h => by
      unfold wp_X7_runCommands
      refine al (hgo _ ?_)
      show (r0 = jI 0 → _) ∧ (¬ r0 = jI 0 → _)
      rw [f1]
      exact qf (jne (a := 1) (b := 0) (by decide)) (hgs _ h)
    have e0 : μ1.1 0 = μ.1 0 := (q1 0 (by decide)).trans (f2.1 0 (by decide))
    have hcl1 : 0 ≤ gw (μ1.1 0) 2 ∧ gw (μ1.1 0) 2 ≤ 40 * n := by rw [e0]; exact hcl
    have hR1 : RK σ1 (μ1.1 0) l := by
      rw [e0]
      exact RC_congr hR (fun j hj => (k1 j (by omega)).trans (hk.1 j (by omega) (by omega))) (fun j hj => (k2 j (by omega)).trans (hk.2 j (by omega) (by omega)))
    have h10 : μ1.2 10 = jI (N : Nat) := (q2 10 (by decide)).trans f3
    have h441 : σ1.2 44 = jI (N : Nat) := (k2 44 (by decide)).trans h44
    have hE1 : ∀ i, i < N → EC B L σ1 i := fun i hi => by
      have h := hE i hi
      unfold EC at h ⊢
      rw [k1 51 (by decide), k1 52 (by decide)]
      exact h
    have hM1 : ∀ i, i < N → EM B L μ1 i := fun i hi => by
      have h := f4 i hi
      unfold EM at h ⊢
      rw [q1 4 (by decide)]
      exact h
    have key : ∀ K : ST → Int32 → Prop, (∀ (σ' : ST) (z : Int32), (∀ Q' : Int32 → ST → Prop, (∀ μ' : ST, Inv (n + 1) σ' μ' → Q' z μ') → wp_X7_runCommands μ Q') → K σ' z) → ∃ nn, wl_X6_runCommands_34 K nn σ1 (jI 0) := fun K hK => by
      refine lp_inv (α := ST × Int32) (L := fun nn a => wl_X6_runCommands_34 K nn a.1 a.2) (B := fun LL a => wb_X6_runCommands_34 K (fun t y => LL (t, y)) a.1 a.2) (fun _ _ => rfl) (fun i a => a.2 = jI (i : Nat) ∧ ∃ μi : ST, Core i σ1 μ1 a.1 μi ∧ ∀ (K' : ST → Int32 → Prop) (m : Nat), wl_X7_runCommands_26 K' m μi (jI (i : Nat)) → ∃ m' : Nat, wl_X7_runCommands_26 K' m' μ1 (jI 0)) N (fun i a hi ha LL hLL => ?_) (σ1, jI 0) ⟨rfl, μ1, ⟨Kp.rf _, KpM.rf _, by rw [e0]; exact hW, ⟨l, hR1⟩, by omega, by omega⟩, fun K' m h => ⟨m, h⟩⟩
      obtain ⟨σi, y⟩ := a
      obtain ⟨ha1, μi, hcore, hreach⟩ := ha
      dsimp only at ha1 hcore ⊢
      subst ha1
      have c44 : σi.2 44 = jI (N : Nat) := (hcore.1.2 44 (by decide) (by decide)).trans h441
      have c10 : μi.2 10 = jI (N : Nat) := (hcore.2.1.2 10 (by decide)).trans h10
      unfold wb_X6_runCommands_34
      rw [c44]
      refine qle (by omega) (by omega) (by omega) (by omega) (fun d => ?_) (fun d => ?_)
      · refine hK _ _ (fun Q' hQ => hopen Q' (hreach _ 1 (m_stops c10 (by omega) (by omega) ?_)))
        exact hQ μi (Inv.core hu ht hcl1 (by omega) hcore)
      · have hiN : i < N := by omega
        have hok := a1 i hiN
        have hk0 : kd B L (ps B L i) ≠ 0 := fun h0 => by
          have h := hok.2
          unfold cmd at h
          rw [if_pos h0] at h
          cases h
        have hk6 := kd_b (B := B) (n := L) (p := ps B L i)
        have hEi := hE1 i hiN
        have hMi := hM1 i hiN
        have hcore' := hcore
        obtain ⟨hKp, hKm, hWi, ⟨li, hRi⟩, hc1, hc2⟩ := hcore'
        have r51 : σi.1 51 = σ1.1 51 := hKp.1 51 (by decide)
        have r52 : σi.1 52 = σ1.1 52 := hKp.1 52 (by decide)
        have r4 : μi.1 4 = μ1.1 4 := hKm.1 4 (by decide) (by decide)
        refine both_cmd (k := kd B L (ps B L i)) (i := i) hWi ⟨by omega, by omega⟩ hRi (by omega) (by omega) (by rw [r51]; exact hEi.1) (by rw [r4]; exact hMi.1) (fun h3 j hj => ?_) (fun σ' hsm hdoes => qt rfl ?_) (fun σ' hdoes => qf (jne (a := 1) (b := 0) (by decide)) ?_)
        · rw [r52, r4, hMi.2 h3 j hj, hEi.2 h3 j hj]
        · refine hK _ _ (fun Q' hQ => hopen Q' (hreach _ 1 (m_fails c10 hiN (by omega) (hdoes _ (fun μ' hm => qt rfl ?_)))))
          exact hQ μ' ((Inv.core hu ht hcl1 (by omega) hcore).keep hsm hm)
        · obtain ⟨⟨r1, μ2⟩, ⟨g1, g2⟩, hgo2⟩ := d_X7_does μi _ _ (hdoes (fun r μ' => r = jI 1 ∧ Core 1 σi μi σ' μ') (fun μ' h => ⟨rfl, h⟩))
          dsimp only at g1 g2
          refine alE (jI_add _ _) (hLL _ hiN ⟨rfl, μ2, hcore.tr g2, fun K' m h => hreach K' (m + 1) (m_again c10 hiN (by omega) g1 (fun Q' hq => hgo2 Q' hq) h)⟩)
    exact key _ (fun σ' z h => h _ (fun μ' hI9 => ⟨rfl, hI9⟩))
theorem last_89i : True := trivial
