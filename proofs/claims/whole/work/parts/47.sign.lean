/-! signs and trays -/
theorem sm_zero (l : List Nat) (v : Nat → Int) (h : ∀ k ∈ l, v k = 0) : sm l v = 0 := by
  induction l with
  | nil => rfl
  | cons x l ih =>
    show v x + sm l v = 0
    rw [h x List.mem_cons_self, ih (fun k hk => h k (List.mem_cons_of_mem _ hk))]
    rfl
theorem sm_add (l : List Nat) (v v' : Nat → Int) : sm l (fun k => v k + v' k) = sm l v + sm l v' := by
  induction l with
  | nil => rfl
  | cons x l ih =>
    show (v x + v' x) + sm l _ = (v x + sm l v) + (v' x + sm l v')
    rw [ih]
    omega
theorem sm_split (a b : Nat) (v : Nat → Int) : sm (List.range (a + b)) v = sm (List.range a) v + sm (List.range b) (fun j => v (a + j)) := by
  induction b with
  | zero => show sm (List.range a) v = sm (List.range a) v + 0; omega
  | succ b ih =>
    rw [show a + (b + 1) = (a + b) + 1 by omega, sm_range, ih, sm_range]
    omega
theorem sm_nine (s : Nat) (hs : s < 16) (v : Nat → Int) (h : ∀ k, k / 9 ≠ s → v k = 0) : sA v = sm (List.range 9) (fun j => v (9 * s + j)) := by
  unfold sA
  rw [show (144 : Nat) = (9 * s + 9) + (135 - 9 * s) by omega, sm_split, sm_split]
  rw [sm_zero (List.range (9 * s)) v (fun k hk => h k (by have := List.mem_range.mp hk; omega))]
  rw [sm_zero (List.range (135 - 9 * s)) _ (fun k hk => h _ (by omega))]
  omega
def sv (w : Wd) (s x : Nat) : Int32 := if x = 0 then w (12 + s) else if x = 1 then w (28 + s) else if x = 2 then jI (sA (fun k => bI (decide (k / 9 = s) && isL w k))) else jI (sA (fun k => bI (decide (k / 9 = s) && isS w k)))
def inT (w : Wd) (k t : Nat) : Bool := decide (aT w k = (t : Int))
def tv (w : Wd) (t x : Nat) : Int32 := if x = 0 then jI (nS w t) else if x = 1 then jI (topH w t (nS w t).toNat) else if x = 2 then jI (sA (fun k => bI (inT w k t))) else jI (sA (fun k => if inT w k t then wdt w k * hgt w k else 0))
section SIG
variable {σ : ST} {w : Wd} {l : List Nat} {k : Nat} {Q : Int32 → ST → Prop}
theorem isL_P (h : isP w k = false) : isL w k = false := by
  have := isP_f h
  exact bo_f (by omega)
theorem isS_P (h : isP w k = false) : isS w k = false := by
  have := isP_f h
  exact bo_f (by omega)
theorem n_countLaidOfSign (hR : RK σ w l) (hW : WF w) {s : Nat} (hs : s < 16) (h : Q (jI (sA (fun k => bI (decide (k / 9 = s) && isL w k)))) σ) : wp_X4_countLaidOfSign σ (jI s) Q := by
  unfold wp_X4_countLaidOfSign
  refine lpS (wl := wl_X4_countLaidOfSign_4 _ _) (wb := fun LL => wb_X4_countLaidOfSign_4 _ LL _) (fun _ => rfl) hR (fun k => bI (decide (k / 9 = s) && isL w k)) (fun k _ hp => by rw [isL_P hp, Bool.and_false]; rfl) (fun LL => ?_) (fun i k a LL hi hL => ?_)
  · exact pend hR h
  · obtain ⟨h1, h2, h3⟩ := hR.at hi
    refine pres hR hi (alE h1 ?_)
    unfold wp_X6_signOf
    rw [show jI (k : Int) / jI 9 = jI ((k / 9 : Nat) : Int) from jd (d := 9) (by omega) (by decide) (by decide)]
    refine qeq (by omega) (by omega) (by omega) (by omega) (fun c => ?_) (fun c => ?_)
    · rw [show decide (k / 9 = s) = true from bo_t (by omega), Bool.true_and] at hL
      refine n_isLaid hR hW h2 (qb (fun c => ?_) (fun c => ?_))
      · rw [c, show bI false = 0 from rfl, add0] at hL
        exact alE (jI_add _ _) hL
      · rw [c] at hL
        exact alE rfl (alE (jI_add _ _) hL)
    · rw [show decide (k / 9 = s) = false from bo_f (by omega), Bool.false_and, show bI false = 0 from rfl, add0] at hL
      exact alE (jI_add _ _) hL
theorem n_countInStreetOfSign (hR : RK σ w l) (hW : WF w) {s : Nat} (hs : s < 16) (h : Q (jI (sA (fun k => bI (decide (k / 9 = s) && isS w k)))) σ) : wp_X4_countInStreetOfSign σ (jI s) Q := by
  unfold wp_X4_countInStreetOfSign
  refine lpS (wl := wl_X4_countInStreetOfSign_4 _ _) (wb := fun LL => wb_X4_countInStreetOfSign_4 _ LL _) (fun _ => rfl) hR (fun k => bI (decide (k / 9 = s) && isS w k)) (fun k _ hp => by rw [isS_P hp, Bool.and_false]; rfl) (fun LL => ?_) (fun i k a LL hi hL => ?_)
  · exact pend hR h
  · obtain ⟨h1, h2, h3⟩ := hR.at hi
    refine pres hR hi (alE h1 ?_)
    unfold wp_X6_signOf
    rw [show jI (k : Int) / jI 9 = jI ((k / 9 : Nat) : Int) from jd (d := 9) (by omega) (by decide) (by decide)]
    refine qeq (by omega) (by omega) (by omega) (by omega) (fun c => ?_) (fun c => ?_)
    · rw [show decide (k / 9 = s) = true from bo_t (by omega), Bool.true_and] at hL
      refine n_isInStreet hR hW h2 (qb (fun c => ?_) (fun c => ?_))
      · rw [c, show bI false = 0 from rfl, add0] at hL
        exact alE (jI_add _ _) hL
      · rw [c] at hL
        exact alE rfl (alE (jI_add _ _) hL)
    · rw [show decide (k / 9 = s) = false from bo_f (by omega), Bool.false_and, show bI false = 0 from rfl, add0] at hL
      exact alE (jI_add _ _) hL
theorem n_signValue (hR : RK σ w l) (hW : WF w) {s x : Nat} (hs : s < 16) (hx : x < 4) (h : Q (sv w s x) σ) : wp_X4_signValue σ (jI s) (jI x) Q := by
  unfold wp_X4_signValue
  unfold sv at h
  refine qeq (by omega) (by omega) (by omega) (by omega) (fun c => ?_) (fun c => ?_)
  · rw [if_pos (by omega)] at h
    exact alE ((cg σ 0 s hs).trans (hR.1.1 s hs)) h
  rw [if_neg (by omega)] at h
  refine qeq (by omega) (by omega) (by omega) (by omega) (fun c => ?_) (fun c => ?_)
  · rw [if_pos (by omega)] at h
    exact alE ((cg σ 1 s hs).trans (hR.1.2.1 s hs)) h
  rw [if_neg (by omega)] at h
  refine qeq (by omega) (by omega) (by omega) (by omega) (fun c => ?_) (fun c => ?_)
  · rw [if_pos (by omega)] at h
    exact n_countLaidOfSign hR hW hs h
  rw [if_neg (by omega)] at h
  exact n_countInStreetOfSign hR hW hs h
theorem n_isInTray (hR : RK σ w l) (hW : WF w) (hk : k < 144) {t : Nat} (ht : t < 3) (h : Q (jI (bI (inT w k t))) σ) : wp_X4_isInTray σ (jI k) (jI t) Q := by
  unfold wp_X4_isInTray
  refine n_isLaid hR hW hk (qb (fun c => ?_) (fun c => ?_))
  · have := isL_f c
    rw [show inT w k t = false from bo_f (by omega)] at h
    exact h
  · obtain ⟨h1, h2, h3, h4, h5, h6, h7, h8, h9⟩ := laid_c hW hk c
    have hs : slo w k = ((24 * (aT w k).toNat + (aS w k).toNat : Nat) : Int) := by
      rw [slo_on hW hk (by omega) (by omega)]
      exact bo_t (by omega)
    refine alE ((hR.slot hk).trans (jeq hs)) ?_
    rw [show jI ((24 * (aT w k).toNat + (aS w k).toNat : Nat) : Int) / jI 24 = jI (((24 * (aT w k).toNat + (aS w k).toNat) / 24 : Nat) : Int) from jd (d := 24) (by omega) (by decide) (by decide)]
    refine qeq (by omega) (by omega) (by omega) (by omega) (fun c => ?_) (fun c => ?_)
    · rw [show inT w k t = true from bo_t (by omega)] at h
      exact h
    · rw [show inT w k t = false from bo_f (by omega)] at h
      exact h
theorem inT_P {t : Nat} (h : isP w k = false) : inT w k t = false := by
  have := isP_f h
  exact bo_f (by omega)
theorem n_countInTray (hR : RK σ w l) (hW : WF w) {t : Nat} (ht : t < 3) (h : Q (jI (sA (fun k => bI (inT w k t)))) σ) : wp_X4_countInTray σ (jI t) Q := by
  unfold wp_X4_countInTray
  refine lpS (wl := wl_X4_countInTray_4 _ _) (wb := fun LL => wb_X4_countInTray_4 _ LL _) (fun _ => rfl) hR (fun k => bI (inT w k t)) (fun k _ hp => by rw [inT_P hp]; rfl) (fun LL => ?_) (fun i k a LL hi hL => ?_)
  · exact pend hR h
  · obtain ⟨h1, h2, h3⟩ := hR.at hi
    refine pres hR hi (alE h1 (n_isInTray hR hW h2 ht (qb (fun c => ?_) (fun c => ?_))))
    · rw [c, show bI false = 0 from rfl, add0] at hL
      exact alE (jI_add _ _) hL
    · rw [c] at hL
      exact alE rfl (alE (jI_add _ _) hL)
theorem n_areaInTray (hR : RK σ w l) (hW : WF w) {t : Nat} (ht : t < 3) (h : Q (jI (sA (fun k => if inT w k t then wdt w k * hgt w k else 0))) σ) : wp_X4_areaInTray σ (jI t) Q := by
  unfold wp_X4_areaInTray
  refine lpS (wl := wl_X4_areaInTray_4 _ _) (wb := fun LL => wb_X4_areaInTray_4 _ LL _) (fun _ => rfl) hR (fun k => if inT w k t then wdt w k * hgt w k else 0) (fun k _ hp => by rw [inT_P hp]; rfl) (fun LL => ?_) (fun i k a LL hi hL => ?_)
  · exact pend hR h
  · obtain ⟨h1, h2, h3⟩ := hR.at hi
    refine pres hR hi (alE h1 (n_isInTray hR hW h2 ht (qb (fun c => ?_) (fun c => ?_))))
    · rw [c, if_neg (by decide), add0] at hL
      exact alE (jI_add _ _) hL
    · rw [c, if_pos rfl] at hL
      exact n_areaOf hR h2 (alE rfl (alE (jI_add _ _) hL))
theorem n_areaLaid (hR : RK σ w l) (hW : WF w) (h : Q (jI (sA (fun k => if isL w k then wdt w k * hgt w k else 0))) σ) : wp_X4_areaLaid σ Q := by
  unfold wp_X4_areaLaid
  refine lpS (wl := wl_X4_areaLaid_4 _) (wb := fun LL => wb_X4_areaLaid_4 _ LL) (fun _ => rfl) hR (fun k => if isL w k then wdt w k * hgt w k else 0) (fun k _ hp => by rw [isL_P hp]; rfl) (fun LL => ?_) (fun i k a LL hi hL => ?_)
  · exact pend hR h
  · obtain ⟨h1, h2, h3⟩ := hR.at hi
    refine pres hR hi (alE h1 (n_isLaid hR hW h2 (qb (fun c => ?_) (fun c => ?_))))
    · rw [c, if_neg (by decide), add0] at hL
      exact alE (jI_add _ _) hL
    · rw [c, if_pos rfl] at hL
      exact n_areaOf hR h2 (alE rfl (alE (jI_add _ _) hL))
theorem n_trayValue (hR : RK σ w l) (hW : WF w) {t x : Nat} (h0 : (t : Int) < nT w) (hx : x < 4) (h : Q (tv w t x) σ) : wp_X4_trayValue σ (jI t) (jI x) Q := by
  have ht : t < 3 := by have := hW.1.2.1; omega
  unfold wp_X4_trayValue
  unfold tv at h
  refine qeq (by omega) (by omega) (by omega) (by omega) (fun c => ?_) (fun c => ?_)
  · rw [if_pos (by omega)] at h
    exact n_countShelves hR hW h0 h
  rw [if_neg (by omega)] at h
  refine qeq (by omega) (by omega) (by omega) (by omega) (fun c => ?_) (fun c => ?_)
  · rw [if_pos (by omega)] at h
    exact n_heightOfShelves hR hW h0 h
  rw [if_neg (by omega)] at h
  refine qeq (by omega) (by omega) (by omega) (by omega) (fun c => ?_) (fun c => ?_)
  · rw [if_pos (by omega)] at h
    exact n_countInTray hR hW ht h
  rw [if_neg (by omega)] at h
  exact n_areaInTray hR hW ht h
end SIG
theorem last_47 : True := trivial
