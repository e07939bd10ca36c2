/-! the class uses a letter -/
def tlB (k : Int32) (s1 : ST) (Q : ST → Prop) : Prop := (∀ s2 : ST, s2 = zsp s1 3 ((s1.2 3) + (jI 1)) → (∀ s3 : ST, s3 = zrs s2 6 k (s2.2 3) → (∀ s4 : ST, s4 = zrs s3 7 k (s3.2 2) → (∀ v1 : Int32, v1 = zrg s4 8 k → (∀ s5 : ST, s5 = zrs s4 8 k (v1 + (jI 1)) → Q s5)))))
def tlA (k : Int32) (s3 : ST) (Q : ST → Prop) : Prop := (∀ s4 : ST, s4 = zrs s3 3 k (s3.2 46) → (∀ s5 : ST, s5 = zrs s4 4 k (s4.2 47) → wp_X4_widthOf s5 k (fun r2 s6 => (∀ s7 : ST, s7 = zrs s6 5 k ((s5.2 47) + r2) → (∀ s8 : ST, s8 = zrs s7 8 k (jI 0) → (∀ s9 : ST, s9 = zrs s8 9 (s8.2 0) k → (∀ s10 : ST, s10 = zsp s9 0 ((s9.2 0) + (jI 1)) → Q s10)))))))
theorem zsp_1 {σ : ST} {k : Nat} {v : Int32} : (zsp σ k v).1 = σ.1 := rfl
theorem zrp_2 {σ : ST} {r i : Nat} {v : Int32} : (zrp σ r i v).2 = σ.2 := rfl
theorem n_widthOfA {σ : ST} {w : Wd} {k : Nat} {Q : Int32 → ST → Prop} (h0 : ∀ s : Nat, s < 16 → σ.1 0 s = w (12 + s)) (hk : k < 144) (h : Q (jI (wdt w k)) σ) : wp_X4_widthOf σ (jI k) Q := by
  unfold wp_X4_widthOf wp_X6_signOf wp_X6_sizeOf wp_X6_blurOf
  have e1 : jI (k : Int) / jI 9 = jI ((k / 9 : Nat) : Int) := jd (d := 9) (by omega) (by decide) (by decide)
  have e2 : jI (k : Int) / jI 3 = jI ((k / 3 : Nat) : Int) := jd (d := 3) (by omega) (by decide) (by decide)
  have e3 : jI ((k / 3 : Nat) : Int) - jI ((k / 3 : Nat) : Int) / jI 3 * jI 3 = jI ((k / 3 % 3 : Nat) : Int) := jr (d := 3) (by omega) (by decide) (by decide)
  have e4 : jI (k : Int) - jI (k : Int) / jI 3 * jI 3 = jI ((k % 3 : Nat) : Int) := jr (d := 3) (by omega) (by decide) (by decide)
  have hs : k / 9 < 16 := by omega
  rw [e1]
  refine alE ((cg σ 0 (k / 9) (by show k / 9 < 16; exact hs)).trans ((h0 (k / 9) hs).trans (gwj w _))) ?_
  rw [e4, e2, e3, jI_add]
  dsimp only
  rw [jI_mul, jI_mul, jI_add]
  refine (jeq ?_ : jI _ = jI (wdt w k)) ▸ h
  unfold wdt
  rw [show k % 9 / 3 + 1 = k / 3 % 3 + 1 by omega]
  push_cast
  rfl
section NUS
variable {σ : ST} {w : Wd} {l : List Nat} {k : Nat} {Q : ST → Prop}
theorem RCl.lt {r : Nat → Nat → Int32} (h : RCl r w l) (hk : k < 144) (hp : isP w k = false) : l.length < 144 := by
  have hkl : k ∉ l := fun q => by
    have := (h.2.2.1 k).mp q
    rw [hp] at this
    cases this.2
  have h3 := List.Nodup.length_le_of_subset (l₂ := List.range 144) (app_nodup h.2.1 hkl) (fun z hz => List.mem_range.mpr (by
    rcases List.mem_append.mp hz with q | q
    · exact ((h.2.2.1 z).mp q).1
    · rw [List.mem_singleton.mp q]; exact hk))
  rw [List.length_append, List.length_range] at h3
  have : [k].length = 1 := rfl
  omega
theorem n_tlAB {m : ST} (hw0 : ∀ s : Nat, s < 16 → m.1 0 s = w (12 + s)) (hn : m.2 0 = jI (l.length : Nat)) (hlen : l.length < 144) (hk : k < 144) {sl lf : Int} (h46 : m.2 46 = jI sl) (h47 : m.2 47 = jI lf) (h : ∀ σ' : ST, PutC m.1 σ'.1 m.2 σ'.2 k l.length (jI sl) (jI lf) (jI (lf + wdt w k)) → Kp m σ' → Q σ') : tlA (jI (k : Nat)) m (fun s1 => tlB (jI (k : Nat)) s1 Q) := by
  have hz : ∀ r : Nat, zlen r = 144 → ∀ (s : ST) (v : Int32), zrs s r (jI (k : Nat)) v = zrp s r k v := fun r hr s v => cs s r k v (by rw [hr]; exact hk)
  unfold tlA tlB
  refine alE (hz 3 rfl _ _) (alE (hz 4 rfl _ _) (n_widthOfA (w := w) (fun s hs => ?_) hk ?_))
  · rw [zrp_o (by decide), zrp_o (by decide)]
    exact hw0 s hs
  have e47 : (zrp (zrp m 3 k (m.2 46)) 4 k ((zrp m 3 k (m.2 46)).2 47)).2 47 = jI lf := h47
  rw [e47, jI_add]
  refine alE (hz 5 rfl _ _) (alE (hz 8 rfl _ _) ?_)
  have e0 : (zrp (zrp (zrp (zrp m 3 k (m.2 46)) 4 k ((zrp m 3 k (m.2 46)).2 47)) 5 k (jI (lf + wdt w k))) 8 k (jI 0)).2 0 = jI (l.length : Nat) := hn
  rw [e0, cs _ 9 l.length _ (by show l.length < 144; exact hlen)]
  refine al (al (al (alE (hz 6 rfl _ _) (alE (hz 7 rfl _ _) (alE (b := jI 0) ?_ (alE (hz 8 rfl _ _) (h _ ⟨fun q hq => ?_, ?_, ?_, ?_, ?_, ?_, ⟨?_, fun p hp' => ?_⟩, ?_, ?_, ?_, fun j j0 j3 => ?_⟩ ⟨fun r hr => ?_, fun c c1 c2 => ?_⟩)))))))
  · rw [cg _ 8 k (by show k < 144; exact hk), zrp_o (by decide), zrp_o (by decide)]
    rw [zsp_1, zsp_1, zrp_o (by decide), zrp_at, upd_at]
  · rw [zrp_o (by omega), zrp_o (by omega), zrp_o (by omega)]
    rw [zsp_1, zsp_1]
    rw [zrp_o (by omega), zrp_o (by omega), zrp_o (by omega), zrp_o (by omega), zrp_o (by omega)]
  · rw [zrp_o (by decide), zrp_o (by decide), zrp_o (by decide)]
    rw [zsp_1, zsp_1]
    rw [zrp_o (by decide), zrp_o (by decide), zrp_o (by decide), zrp_o (by decide), zrp_at, h46]
  · rw [zrp_o (by decide), zrp_o (by decide), zrp_o (by decide)]
    rw [zsp_1, zsp_1]
    rw [zrp_o (by decide), zrp_o (by decide), zrp_o (by decide), zrp_at, zrp_o (by decide)]
    rw [zrp_2, h47]
  · rw [zrp_o (by decide), zrp_o (by decide), zrp_o (by decide)]
    rw [zsp_1, zsp_1]
    rw [zrp_o (by decide), zrp_o (by decide), zrp_at, zrp_o (by decide), zrp_o (by decide)]
  · rw [zrp_o (by decide), zrp_o (by decide), zrp_at, zsp_at]
    rw [zsp_1, zsp_1]
    rw [zrp_o (by decide), zrp_o (by decide), zrp_o (by decide), zrp_o (by decide), zrp_o (by decide), zsp_nq (by decide)]
    rfl
  · rw [zrp_o (by decide), zrp_at, zrp_o (by decide)]
    rw [zsp_1, zsp_1]
    rw [zrp_o (by decide), zrp_o (by decide), zrp_o (by decide), zrp_o (by decide), zrp_o (by decide)]
    congr 1
  · rw [zrp_at, upd_at, jI_add]
    rfl
  · rw [zrp_at, upd_o hp', zrp_o (by decide), zrp_o (by decide)]
    rw [zsp_1, zsp_1]
    rw [zrp_o (by decide), zrp_at, upd_o hp', zrp_o (by decide), zrp_o (by decide), zrp_o (by decide)]
  · rw [zrp_o (by decide), zrp_o (by decide), zrp_o (by decide)]
    rw [zsp_1, zsp_1]
    rw [zrp_at, zrp_o (by decide), zrp_o (by decide), zrp_o (by decide), zrp_o (by decide)]
  · rw [zrp_2, zrp_2, zrp_2, zsp_nq (by decide), zsp_at, zrp_2, zrp_2, zrp_2, zrp_2, zrp_2, hn, jI_add]
    exact jeq (by omega)
  · rw [zrp_2, zrp_2, zrp_2, zsp_at, zsp_nq (by decide)]
    rfl
  · rw [zrp_2, zrp_2, zrp_2, zsp_nq j3, zsp_nq j0]
    rfl
  · rw [zrp_o (by omega), zrp_o (by omega), zrp_o (by omega)]
    rw [zsp_1, zsp_1]
    rw [zrp_o (by omega), zrp_o (by omega), zrp_o (by omega), zrp_o (by omega), zrp_o (by omega)]
  · rw [zrp_2, zrp_2, zrp_2, zsp_nq (by omega), zsp_nq (by omega)]
    rfl
end NUS
/-- the counters of ink and of letters made -/
def inkW (w : Wd) (i : Int) : Wd := upd (upd w 6 (w 6 + jI i)) 4 (w 4 + jI 1)
theorem inkW_V (w : Wd) (i : Int) : eqV w (inkW w i) := fun j h1 h2 => (upd_o (by omega)).trans (upd_o (by omega))
theorem inkW_RC {r : Nat → Nat → Int32} {c c' : Nat → Int32} {w : Wd} {l : List Nat} {i : Int} (hW : WF w) (hR : RC r c w l) (h5 : c' 5 = c 5 + jI 1) (h7 : c' 7 = c 7 + jI i) (ho : ∀ j : Nat, j ≠ 5 → j ≠ 7 → c' j = c j) : RC r c' (inkW w i) l := by
  obtain ⟨c0, c1, c2, c3, c4, c5, c6, c7⟩ := hR.2.2.2
  have g : ∀ j : Nat, j ≠ 4 → j ≠ 6 → inkW w i j = w j := fun j h1 h2 => (upd_o h1).trans (upd_o h2)
  refine RC.congrV (inkW_V w i) hW ⟨(ho 0 (by decide) (by decide)).trans c0, ?_, ?_, ?_, ?_, ?_, ?_, ?_⟩ hR
  · rw [ho 1 (by decide) (by decide), c1, g 0 (by decide) (by decide)]
  · rw [ho 2 (by decide) (by decide), c2, g 1 (by decide) (by decide)]
  · rw [ho 3 (by decide) (by decide), c3, g 2 (by decide) (by decide)]
  · rw [ho 4 (by decide) (by decide), c4, g 3 (by decide) (by decide)]
  · rw [h5, c5]
    exact upd_at.symm
  · rw [ho 6 (by decide) (by decide), c6, g 5 (by decide) (by decide)]
  · rw [h7, c7]
    exact ((upd_o (by decide)).trans upd_at).symm
/-- what the class leaves of a letter that is made; all behind the counters -/
def ClsU (σ σ' : ST) (w : Wd) (l : List Nat) (k : Nat) (ru : Int) (t s x : Nat) (lv : Int) : Prop := ∃ (m : ST) (lM : List Nat) (sl lf : Int), PutC m.1 σ'.1 m.2 σ'.2 k lM.length (jI sl) (jI lf) (jI (lf + wdt w k)) ∧ (1 ≤ ru → ru ≤ 3 → sl = ((24 * t + s : Nat) : Int) ∧ lf = x) ∧ (ru = 4 → sl = -1) ∧ ((ru = 1 ∧ m = σ ∧ lM = l) ∨ (ru = 2 ∧ m.1 2 = upd (σ.1 2) (24 * t + s) (jI (hgt w k)) ∧ (∀ q : Nat, q ≠ 2 → m.1 q = σ.1 q) ∧ m.2 = σ.2 ∧ lM = l) ∨ (ru = 3 ∧ AwayS σ.1 m.1 σ.2 m.2 l (onB w t s) ∧ lM = l.filter (fun z => !onB w t s z)) ∨ (ru = 4 ∧ lv = -1 ∧ m = σ ∧ lM = l) ∨ (ru = 4 ∧ ∃ o : Nat, lv = o ∧ AwayS σ.1 m.1 σ.2 m.2 l (fun z => z == o) ∧ lM = l.filter (fun z => !(z == o))))
theorem last_80 : True := trivial
