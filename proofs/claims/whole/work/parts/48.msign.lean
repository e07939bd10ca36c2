/-! the reference: signs, trays, sums over trays -/
section MSIG
variable {σ : ST} {k : Nat} {Q : Int32 → ST → Prop}
theorem m_signBy (hW : WF (σ.1 0)) {s x : Nat} (hs : s < 16) (hx : x < 4) (h : Q (sv (σ.1 0) s x) σ) : wp_X7_signBy σ (jI s) (jI x) Q := by
  unfold wp_X7_signBy
  unfold sv at h
  refine qle (by omega) (by omega) (by omega) (by omega) (fun c => ?_) (fun c => ?_)
  · rw [if_neg (by omega), if_neg (by omega)] at h
    refine alE (b := jI ((9 * s : Nat) : Int)) ((jI_mul _ _).trans (jeq (by omega))) ?_
    have hh : Q (jI (sm (List.range 9) (fun j => bI (isP (σ.1 0) (9 * s + j) && (isL (σ.1 0) (9 * s + j) == decide (x = 2)))))) σ := by
      by_cases hx2 : x = 2
      · rw [if_pos hx2, sm_nine s hs _ (fun k hk => by rw [bo_f hk]; rfl)] at h
        rw [sm_congr (List.range 9) _ (fun j => bI (decide ((9 * s + j) / 9 = s) && isL (σ.1 0) (9 * s + j))) (fun j hj => ?_)]
        · exact h
        · have hj9 := List.mem_range.mp hj
          rw [show decide ((9 * s + j) / 9 = s) = true from bo_t (by omega), show decide (x = 2) = true from bo_t hx2]
          cases hp : isP (σ.1 0) (9 * s + j)
          · rw [isL_P hp]; rfl
          · cases isL (σ.1 0) (9 * s + j) <;> rfl
      · rw [if_neg hx2, sm_nine s hs _ (fun k hk => by rw [bo_f hk]; rfl)] at h
        rw [sm_congr (List.range 9) _ (fun j => bI (decide ((9 * s + j) / 9 = s) && isS (σ.1 0) (9 * s + j))) (fun j hj => ?_)]
        · exact h
        · have hj9 := List.mem_range.mp hj
          rw [show decide ((9 * s + j) / 9 = s) = true from bo_t (by omega), show decide (x = 2) = false from bo_f hx2]
          have h3 := slo_c hW (k := 9 * s + j) (by omega)
          cases hp : isP (σ.1 0) (9 * s + j)
          · rw [isS_P hp]; rfl
          · have h4 := isP_t hp
            cases hl : isL (σ.1 0) (9 * s + j)
            · have h5 := isL_f hl
              rw [show isS (σ.1 0) (9 * s + j) = true from bo_t (by omega)]; rfl
            · have h5 := isL_t hl
              rw [show isS (σ.1 0) (9 * s + j) = false from bo_f (by omega)]; rfl
    generalize hVd : (fun j => bI (isP (σ.1 0) (9 * s + j) && (isL (σ.1 0) (9 * s + j) == decide (x = 2)))) = V at hh
    refine lpA (wl := wl_X7_signBy_32 _ _ _) (wb := fun LL => wb_X7_signBy_32 _ LL _ _) (fun _ => rfl) (fun _ => σ) (fun i => jI (sm (List.range i) V)) (9 * s) 9 (fun i hi LL hLL => ?_)
    unfold wb_X7_signBy_32
    rw [jI_mul, jI_add]
    refine qle (by omega) (by omega) (by omega) (by omega) (fun c => ?_) (fun c => ?_)
    · have e : i = 9 := by omega
      subst e
      exact hh
    · have h9 := hLL (by omega)
      have eV : V i = bI (isP (σ.1 0) (9 * s + i) && (isL (σ.1 0) (9 * s + i) == decide (x = 2))) := (congrFun hVd i).symm
      rw [sm_range, ← jI_add, eV] at h9
      refine m_is (by omega) (qb (fun cp => ?_) (fun cp => ?_))
      · rw [cp] at h9
        exact alE rfl (alE (jI_add _ _) h9)
      · rw [cp, Bool.true_and] at h9
        refine m_isLaid (by omega) ?_
        refine qeq (by omega) (by omega) (by omega) (by omega) (fun c2 => ?_) (fun c2 => ?_)
        · rw [show decide (x = 2) = true from bo_t (by omega)] at h9
          cases hl : isL (σ.1 0) (9 * s + i)
          · rw [hl] at h9
            exact qf (jne (a := 0) (b := 1) (by decide)) (alE rfl (alE (jI_add _ _) h9))
          · rw [hl] at h9
            exact qt rfl (alE rfl (alE (jI_add _ _) h9))
        · rw [show decide (x = 2) = false from bo_f (by omega)] at h9
          cases hl : isL (σ.1 0) (9 * s + i)
          · rw [hl] at h9
            exact qt rfl (alE rfl (alE (jI_add _ _) h9))
          · rw [hl] at h9
            exact qf (jne (a := 1) (b := 0) (by decide)) (alE rfl (alE (jI_add _ _) h9))
  · refine qeq (by omega) (by omega) (by omega) (by omega) (fun c => ?_) (fun c => ?_)
    · rw [if_pos (by omega)] at h
      refine m_rd (12 + s) ?_ (by omega) (by decide) h
      rw [jI_add]
      exact jeq (by omega)
    · rw [if_neg (by omega), if_pos (by omega)] at h
      refine m_rd (28 + s) ?_ (by omega) (by decide) h
      rw [jI_add]
      exact jeq (by omega)
theorem m_nS {A : Int32 → Prop} {t : Nat} (ht : t < 3) (h : A (jI (nS (σ.1 0) t))) : vp_in ((jI 44) + jI (t : Nat)) 983 ∧ ∀ v : Int32, v = (σ.1 0 ((jI 44) + jI (t : Nat)).toNatClampNeg) → A v := by
  refine m_rd (44 + t) ?_ (by omega) (by decide) ?_
  · rw [jI_add]
    exact jeq (by omega)
  · rw [gwj (σ.1 0)]
    exact h
theorem m_trayBy (hW : WF (σ.1 0)) {t x : Nat} (h0 : (t : Int) < nT (σ.1 0)) (hx : x < 4) (h : Q (tv (σ.1 0) t x) σ) : wp_X7_trayBy σ (jI t) (jI x) Q := by
  have ht : t < 3 := by have := hW.1.2.1; omega
  have hn := hW.2.1 t h0
  unfold wp_X7_trayBy
  unfold tv at h
  refine lpR (wl := wl_X7_trayBy_5 _ _ _) (wb := fun LL => wb_X7_trayBy_5 _ LL _ _) (fun _ => rfl) (fun k => if inT (σ.1 0) k t then (if x = 2 then 1 else wdt (σ.1 0) k * hgt (σ.1 0) k) else 0) (fun LL => ?_) (fun i a LL hi hL => ?_)
  · unfold wb_X7_trayBy_5
    refine rend ?_
    refine qeq (by omega) (by omega) (by omega) (by omega) (fun c => ?_) (fun c => ?_)
    · rw [if_pos (by omega)] at h
      exact m_nS ht h
    rw [if_neg (by omega)] at h
    refine qeq (by omega) (by omega) (by omega) (by omega) (fun c => ?_) (fun c => ?_)
    · rw [if_pos (by omega)] at h
      refine m_nS ht ?_
      rw [show nS (σ.1 0) t = (((nS (σ.1 0) t).toNat : Nat) : Int) by omega]
      exact m_top ht (by omega) h
    rw [if_neg (by omega)] at h
    by_cases hx2 : x = 2
    · rw [if_pos hx2] at h
      rw [show sA (fun k => if inT (σ.1 0) k t then (if x = 2 then 1 else wdt (σ.1 0) k * hgt (σ.1 0) k) else 0) = sA (fun k => bI (inT (σ.1 0) k t)) from sm_congr _ _ _ (fun k _ => by rw [if_pos hx2]; rfl)]
      exact h
    · rw [if_neg hx2] at h
      rw [show sA (fun k => if inT (σ.1 0) k t then (if x = 2 then 1 else wdt (σ.1 0) k * hgt (σ.1 0) k) else 0) = sA (fun k => if inT (σ.1 0) k t then wdt (σ.1 0) k * hgt (σ.1 0) k else 0) from sm_congr _ _ _ (fun k _ => by rw [if_neg hx2])]
      exact h
  · refine rnot hi (m_of (f := 0) hi (by decide) ?_)
    rw [gwj (σ.1 0)]
    refine qeq (gw_lo _ _) (gw_hi _ _) (by omega) (by omega) (fun c => ?_) (fun c => ?_)
    · rw [show inT (σ.1 0) i t = true from bo_t c, if_pos rfl] at hL
      refine qeq (by omega) (by omega) (by omega) (by omega) (fun c => ?_) (fun c => ?_)
      · rw [if_pos (by omega)] at hL
        exact alE rfl (alE (jI_add _ _) hL)
      · rw [if_neg (by omega)] at hL
        exact m_areaOf hi (alE rfl (alE (jI_add _ _) hL))
    · rw [show inT (σ.1 0) i t = false from bo_f c, if_neg (by decide)] at hL
      exact alE rfl (alE (jI_add _ _) hL)
end MSIG
theorem last_48 : True := trivial
