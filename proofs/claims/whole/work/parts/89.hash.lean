/-! digest -/
def hs (h : Int64) (f : Nat → Int32) : Nat → Int64
  | 0 => h
  | n + 1 => ((31 : Int64) * hs h f n) + (f n).toInt64
theorem lpJ {wl : Nat → ST → Int64 → Int32 → Prop} {wb : (ST → Int64 → Int32 → Prop) → ST → Int64 → Int32 → Prop} (hw : ∀ n, wl (n + 1) = wb (wl n)) (σ : ST) (acc : Nat → Int64) (N : Nat) (h : ∀ i, i ≤ N → ∀ LL : ST → Int64 → Int32 → Prop, (i < N → LL σ (acc (i + 1)) (jI ((i + 1 : Nat) : Int))) → wb LL σ (acc i) (jI (i : Nat))) : ∃ n, wl n σ (acc 0) (jI 0) :=
  lp_det (α := ST × Int64 × Int32) (L := fun n a => wl n a.1 a.2.1 a.2.2) (B := fun LL a => wb (fun t x y => LL (t, x, y)) a.1 a.2.1 a.2.2) (fun n a => by rw [hw]) (fun i => (σ, acc i, jI (i : Nat))) N (fun i hi LL hLL => h i hi (fun t x y => LL (t, x, y)) hLL)
noncomputable def shv (w : Wd) (t s x : Nat) : Int32 := Classical.epsilon (fun v => IsSh w t s x v)
theorem shv_eq {w : Wd} (hW : WF w) {t s x : Nat} (ht : t < 3) (hx : x < 7) {v : Int32} (h : IsSh w t s x v) : v = shv w t s x := IsSh.u hW ht hx h (Classical.epsilon_spec (p := fun v => IsSh w t s x v) ⟨v, h⟩)
def f13 (w : Wd) (tl : Int32) (x : Nat) : Int32 := if x = 12 then tl else wv w x
def f64 (w : Wd) (i : Nat) : Int32 := sv w (i / 4) (i % 4)
def f12 (w : Wd) (i : Nat) : Int32 := lv w (i / 9) (i % 9)
noncomputable def f7 (w : Wd) (t i : Nat) : Int32 := shv w t (i / 7) (i % 7)
noncomputable def trH (w : Wd) (h : Int64) : Nat → Int64
  | 0 => h
  | t + 1 => hs (hs (trH w h t) (tv w t) 4) (f7 w t) (7 * (nS w t).toNat)
def fst9 (w : Wd) (i : Nat) : Int32 := jI (oC (strt w)[i]?)
noncomputable def allH (w : Wd) (m tl : Int32) : Int64 := hs (trH w (hs (hs (hs ((1349492 : Int64) + m.toInt64) (f13 w tl) 13) (f64 w) 64) (f12 w) 1296) (nT w).toNat) (fst9 w) (gw w 7).toNat
section NDG
variable {σ : ST} {w : Wd} {l : List Nat} {Q : Int64 → ST → Prop}
theorem n_whole9 {Q : Int32 → ST → Prop} (hR : RK σ w l) (hW : WF w) {x : Nat} (hx : x < 13) (h : Q (f13 w (σ.2 42) x) σ) : wp_X6_whole σ (jI (x : Nat)) Q := by
  unfold wp_X6_whole
  refine n_what (by omega) (by omega) (by decide) (by decide) ?_
  rw [if_pos (by omega)]
  unfold wp_X6_throwFor
  refine ⟨jne (by decide) (by decide) (by decide) (by decide) (by decide), jne (by decide) (by decide) (by decide) (by decide) (by decide), jne (by decide) (by decide) (by decide) (by decide) (by decide), ?_⟩
  unfold f13 at h
  refine qeq (by omega) (by omega) (by decide) (by decide) (fun c => ?_) (fun c => ?_)
  · rw [if_pos (by omega)] at h
    exact h
  · rw [if_neg (by omega)] at h
    exact n_wholeValue hR hW (by omega) h
theorem n_street9 {Q : Int32 → ST → Prop} (hR : RK σ w l) (hW : WF w) {x : Nat} (hx : x < 2147483648) (h : Q (fst9 w x) σ) : wp_X6_street σ (jI (x : Nat)) Q := by
  unfold wp_X6_street
  refine qf (jnlt (by omega)) ?_
  unfold wp_X6_throwFor
  refine ⟨jne (by decide) (by decide) (by decide) (by decide) (by decide), jne (by decide) (by decide) (by decide) (by decide) (by decide), jne (by decide) (by decide) (by decide) (by decide) (by decide), ?_⟩
  unfold fst9 at h
  refine n_letterOfStreet hR hW hx (fun k hk hk2 => n_codeOf hk2 ?_) (fun hk => n_codeN ?_)
  · rw [hk] at h
    exact h
  · rw [hk] at h
    exact h
theorem n_signs {K : ST → Int64 → Prop} {h0 : Int64} (hR : RK σ w l) (hW : WF w) (h : K σ (hs h0 (f64 w) 64)) : ∃ nn, wl_X6_digest_42 K nn σ h0 (jI 0) := by
  refine lpJ (wl := wl_X6_digest_42 K) (wb := fun LL => wb_X6_digest_42 K LL) (fun _ => rfl) σ (fun s => hs h0 (f64 w) (4 * s)) 16 (fun s hs9 LL hLL => ?_)
  unfold wb_X6_digest_42
  by_cases hs2 : s < 16
  · refine qf (jnle (by omega)) ?_
    have h9 := hLL hs2
    refine lpJ (wl := wl_X6_digest_51 _ (jI (s : Nat))) (wb := fun LL => wb_X6_digest_51 _ LL (jI (s : Nat))) (fun _ => rfl) σ (fun x => hs h0 (f64 w) (4 * s + x)) 4 (fun x hx LL2 hLL2 => ?_)
    unfold wb_X6_digest_51
    by_cases hx2 : x < 4
    · refine qf (jnle (by omega)) (n_signValue hR hW hs2 hx2 (alE (jI_add _ _) ?_))
      have h8 := hLL2 hx2
      have e : f64 w (4 * s + x) = sv w s x := by
        unfold f64
        rw [show (4 * s + x) / 4 = s by omega, show (4 * s + x) % 4 = x by omega]
      rw [← e]
      exact h8
    · have e : x = 4 := by omega
      subst e
      exact qt (jle (by decide) (by decide) (by decide)) (alE (jI_add _ _) h9)
  · have e : s = 16 := by omega
    subst e
    exact qt (jle (by decide) (by decide) (by decide)) h
theorem n_letters9 {h0 : Int64} (hR : RK σ w l) (hW : WF w) (h : Q (hs h0 (f12 w) 1296) σ) : wp_X6_mixLetters σ h0 Q := by
  unfold wp_X6_mixLetters
  refine lpJ (wl := wl_X6_mixLetters_5 _) (wb := fun LL => wb_X6_mixLetters_5 _ LL) (fun _ => rfl) σ (fun s => hs h0 (f12 w) (9 * s)) 144 (fun s hs9 LL hLL => ?_)
  unfold wb_X6_mixLetters_5
  by_cases hs2 : s < 144
  · refine qf (jnle (by omega)) ?_
    have h9 := hLL hs2
    refine lpJ (wl := wl_X6_mixLetters_16 _ (jI (s : Nat))) (wb := fun LL => wb_X6_mixLetters_16 _ LL (jI (s : Nat))) (fun _ => rfl) σ (fun x => hs h0 (f12 w) (9 * s + x)) 9 (fun x hx LL2 hLL2 => ?_)
    unfold wb_X6_mixLetters_16
    by_cases hx2 : x < 9
    · refine qf (jnle (by omega)) (n_letterValue hR hW hs2 hx2 (alE (jI_add _ _) ?_))
      have h8 := hLL2 hx2
      have e : f12 w (9 * s + x) = lv w s x := by
        unfold f12
        rw [show (9 * s + x) / 9 = s by omega, show (9 * s + x) % 9 = x by omega]
      rw [← e]
      exact h8
    · have e : x = 9 := by omega
      subst e
      exact qt (jle (by decide) (by decide) (by decide)) (alE (jI_add _ _) h9)
  · have e : s = 144 := by omega
    subst e
    exact qt (jle (by decide) (by decide) (by decide)) h
theorem n_tray9 {h0 : Int64} {t : Nat} (hR : RK σ w l) (hW : WF w) (ht : (t : Int) < nT w) (h : Q (hs (hs h0 (tv w t) 4) (f7 w t) (7 * (nS w t).toNat)) σ) : wp_X6_mixTray σ h0 (jI (t : Nat)) Q := by
  have hb := hW.2.1 t ht
  have ht3 : t < 3 := by have := hW.1.2.1; omega
  unfold wp_X6_mixTray
  refine lpJ (wl := wl_X6_mixTray_6 _ (jI (t : Nat))) (wb := fun LL => wb_X6_mixTray_6 _ LL (jI (t : Nat))) (fun _ => rfl) σ (fun x => hs h0 (tv w t) x) 4 (fun x hx LL hLL => ?_)
  unfold wb_X6_mixTray_6
  by_cases hx2 : x < 4
  · exact qf (jnle (by omega)) (n_trayValue hR hW ht hx2 (alE (jI_add _ _) (hLL hx2)))
  · have e : x = 4 := by omega
    subst e
    refine qt (jle (by decide) (by decide) (by decide)) (n_countShelves hR hW ht ?_)
    rw [show nS w t = (((nS w t).toNat : Nat) : Int) by omega]
    refine lpJ (wl := wl_X6_mixTray_49 _ (jI (t : Nat)) (jI (((nS w t).toNat : Nat) : Int))) (wb := fun LL => wb_X6_mixTray_49 _ LL (jI (t : Nat)) (jI (((nS w t).toNat : Nat) : Int))) (fun _ => rfl) σ (fun s => hs (hs h0 (tv w t) 4) (f7 w t) (7 * s)) (nS w t).toNat (fun s hs9 LL2 hLL2 => ?_)
    unfold wb_X6_mixTray_49
    refine qle (by omega) (by omega) (by omega) (by omega) (fun c => ?_) (fun c => ?_)
    · rw [show s = (nS w t).toNat by omega]
      exact h
    · have h9 := hLL2 (by omega)
      refine lpJ (wl := wl_X6_mixTray_59 _ (jI (t : Nat)) (jI (((nS w t).toNat : Nat) : Int)) (jI (s : Nat))) (wb := fun LL => wb_X6_mixTray_59 _ LL (jI (t : Nat)) (jI (((nS w t).toNat : Nat) : Int)) (jI (s : Nat))) (fun _ => rfl) σ (fun x => hs (hs h0 (tv w t) 4) (f7 w t) (7 * s + x)) 7 (fun x hx9 LL3 hLL3 => ?_)
      unfold wb_X6_mixTray_59
      by_cases hx7 : x < 7
      · refine qf (jnle (by omega)) ?_
        rw [jI_mul, jI_add, show (t : Int) * 24 + (s : Int) = ((24 * t + s : Nat) : Int) by omega]
        refine n_shelfValue hR hW ht (by omega) hx7 (fun v hv => alE (jI_add _ _) ?_)
        have h8 := hLL3 hx7
        have e : f7 w t (7 * s + x) = v := by
          unfold f7
          rw [show (7 * s + x) / 7 = s by omega, show (7 * s + x) % 7 = x by omega]
          exact (shv_eq hW ht3 hx7 hv).symm
        rw [← e]
        exact h8
      · have e : x = 7 := by omega
        subst e
        exact qt (jle (by decide) (by decide) (by decide)) (alE (jI_add _ _) h9)
theorem n_digest (hR : RK σ w l) (hW : WF w) (h : ∀ a z : Int32, MinJ w (fun k => k < 144 ∧ isP w k = true) a → (a = jI (-1) → z = jI (-1)) → (∀ k : Nat, a = jI k → k < 144 → z = jI (cod k)) → Q (((31 : Int64) * (((31 : Int64) * allH w (σ.2 41) (σ.2 42)) + z.toInt64)) + (jI (mxA w 72)).toInt64) σ) : wp_X6_digest σ Q := by
  have hT1 := hW.1.1
  have hT2 := hW.1.2.1
  have f1 := hW.2.2.2.2.2.1
  have f2 := hW.2.2.2.2.2.2.1
  have e1 : σ.2 1 = jI (nT w) := hR.2.2.2.2.1.trans (gwj w 0)
  unfold wp_X6_digest wp_X6_mix
  dsimp only
  rw [show (31 : Int64) * 43532 = 1349492 by decide]
  refine lpJ (wl := wl_X6_digest_17 _) (wb := fun LL => wb_X6_digest_17 _ LL) (fun _ => rfl) σ (fun x => hs ((1349492 : Int64) + (σ.2 41).toInt64) (f13 w (σ.2 42)) x) 13 (fun x hx LL hLL => ?_)
  unfold wb_X6_digest_17
  by_cases hx2 : x < 13
  · exact qf (jnle (by omega)) (n_whole9 hR hW hx2 (alE (jI_add _ _) (hLL hx2)))
  · have e : x = 13 := by omega
    subst e
    refine qt (jle (by decide) (by decide) (by decide)) (n_signs hR hW (n_letters9 hR hW ?_))
    refine lpJ (wl := wl_X6_digest_93 _) (wb := fun LL => wb_X6_digest_93 _ LL) (fun _ => rfl) σ (fun t => trH w (hs (hs (hs ((1349492 : Int64) + (σ.2 41).toInt64) (f13 w (σ.2 42)) 13) (f64 w) 64) (f12 w) 1296) t) (nT w).toNat (fun t ht9 LL2 hLL2 => ?_)
    unfold wb_X6_digest_93
    rw [e1]
    refine qle (by omega) (by omega) (by omega) (by omega) (fun c => ?_) (fun c => n_tray9 hR hW c (alE (jI_add _ _) (hLL2 (by omega))))
    rw [show t = (nT w).toNat by omega]
    refine n_countInStreet hR hW ?_
    rw [sS_many hR hW, show gw w 7 = (((gw w 7).toNat : Nat) : Int) by omega]
    refine lpJ (wl := wl_X6_digest_128 _ (jI (((gw w 7).toNat : Nat) : Int))) (wb := fun LL => wb_X6_digest_128 _ LL (jI (((gw w 7).toNat : Nat) : Int))) (fun _ => rfl) σ (fun x => hs (trH w (hs (hs (hs ((1349492 : Int64) + (σ.2 41).toInt64) (f13 w (σ.2 42)) 13) (f64 w) 64) (f12 w) 1296) (nT w).toNat) (fst9 w) x) (gw w 7).toNat (fun x hx9 LL3 hLL3 => ?_)
    unfold wb_X6_digest_128
    refine qle (by omega) (by omega) (by omega) (by omega) (fun d => ?_) (fun d => n_street9 hR hW (by omega) (alE (jI_add _ _) (hLL3 (by omega))))
    rw [show x = (gw w 7).toNat by omega]
    unfold wp_X6_oldest
    refine n_oldestLetter hR (fun a ha => ?_)
    have hfin : ∀ z : Int32, (a = jI (-1) → z = jI (-1)) → (∀ k : Nat, a = jI k → k < 144 → z = jI (cod k)) → wp_X6_greatestGap σ (fun r13 s13 => Q (((31 : Int64) * (((31 : Int64) * allH w (σ.2 41) (σ.2 42)) + z.toInt64)) + (r13.toInt64)) s13) := fun z z1 z2 => by
      unfold wp_X6_greatestGap
      exact n_greatest hR hW (h a z ha z1 z2)
    rcases ha.ok (fun k q => q) with h1 | ⟨o, h1, ho, hpo⟩
    · rw [h1]
      exact n_codeN (hfin _ (fun _ => rfl) (fun k c hk => absurd (h1.symm.trans c) (jne (by omega))))
    · rw [h1]
      refine n_codeOf ho (hfin _ (fun c => absurd (h1.symm.trans c) (jne (by omega))) (fun k c hk => ?_))
      have e := (jI_eq (a := o) (b := k) (by omega) (by omega) (by omega) (by omega)).mp (h1.symm.trans c)
      rw [show o = k by omega]
end NDG
theorem last_89 : True := trivial
