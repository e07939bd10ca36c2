/-! sums over the letters, on both sides -/
def sm : List Nat → (Nat → Int) → Int
  | [], _ => 0
  | k :: l, v => v k + sm l v
theorem sm_perm {l l' : List Nat} (v : Nat → Int) (h : l.Perm l') : sm l v = sm l' v := by
  induction h with
  | nil => rfl
  | cons x _ ih => show v x + _ = v x + _; rw [ih]
  | swap x y l => show v y + (v x + _) = v x + (v y + _); omega
  | trans _ _ ih1 ih2 => rw [ih1, ih2]
theorem sm_app (l l' : List Nat) (v : Nat → Int) : sm (l ++ l') v = sm l v + sm l' v := by
  induction l with
  | nil => show sm l' v = 0 + sm l' v; omega
  | cons x l ih => show v x + sm (l ++ l') v = (v x + sm l v) + _; rw [ih]; omega
theorem sm_filter (l : List Nat) (p : Nat → Bool) (v : Nat → Int) (h : ∀ k ∈ l, p k = false → v k = 0) : sm (l.filter p) v = sm l v := by
  induction l with
  | nil => rfl
  | cons x l ih =>
    have ih2 := ih (fun k hk => h k (List.mem_cons_of_mem _ hk))
    by_cases hp : p x = true
    · rw [List.filter_cons_of_pos hp]
      show v x + _ = v x + _
      rw [ih2]
    · rw [List.filter_cons_of_neg hp, ih2]
      have := h x List.mem_cons_self (by simpa using hp)
      show _ = v x + _
      omega
theorem sm_congr (l : List Nat) (v v' : Nat → Int) (h : ∀ k ∈ l, v k = v' k) : sm l v = sm l v' := by
  induction l with
  | nil => rfl
  | cons x l ih =>
    show v x + _ = v' x + _
    rw [h x List.mem_cons_self, ih (fun k hk => h k (List.mem_cons_of_mem _ hk))]
theorem sm_range (n : Nat) (v : Nat → Int) : sm (List.range (n + 1)) v = sm (List.range n) v + v n := by
  rw [List.range_succ, sm_app]
  show _ + (v n + 0) = _
  omega
abbrev sA (v : Nat → Int) : Int := sm (List.range 144) v
theorem sm_present {r : Nat → Nat → Int32} {w : Wd} {l : List Nat} (h : RCl r w l) (v : Nat → Int) (h0 : ∀ k, k < 144 → isP w k = false → v k = 0) : sm l v = sA v := by
  rw [sm_perm v h.perm]
  exact sm_filter _ _ _ (fun k hk hp => h0 k (List.mem_range.mp hk) hp)
theorem add0 (a : Int32) : a + jI 0 = a := by
  rw [jI_of a, jI_add]
  exact jeq (by omega)
theorem smF (l : List Nat) (v : Nat → Int) (c : Int) : l.foldl (fun a k => a + jI (v k)) (jI c) = jI (c + sm l v) := by
  induction l generalizing c with
  | nil => rw [List.foldl_nil]; exact jeq (by show c = c + 0; omega)
  | cons x l ih =>
    rw [List.foldl_cons, jI_add, ih]
    exact jeq (by show _ = c + (v x + sm l v); omega)
section PRES
variable {σ : ST} {w : Wd} {l : List Nat}
theorem pres {A B : Prop} (hR : RK σ w l) {i k : Nat} (hi : l[i]? = some k) (h : B) : (σ.2 0 ≤ jI (i : Nat) → A) ∧ (¬ σ.2 0 ≤ jI (i : Nat) → B) := by
  have h1 := (List.getElem?_eq_some_iff.mp hi).1
  have h2 := hR.2.2.1.len
  rw [hR.n]
  exact qf (jnle (by omega)) h
theorem pend {A B : Prop} (hR : RK σ w l) (h : A) : (σ.2 0 ≤ jI (l.length : Nat) → A) ∧ (¬ σ.2 0 ≤ jI (l.length : Nat) → B) := by
  have h2 := hR.2.2.1.len
  rw [hR.n]
  exact qt (jle (by omega)) h
theorem lpS {wl : Nat → ST → Int32 → Int32 → Prop} {wb : (ST → Int32 → Int32 → Prop) → ST → Int32 → Int32 → Prop} (hw : ∀ n, wl (n + 1) = wb (wl n)) (hR : RK σ w l) (v : Nat → Int) (h0 : ∀ k, k < 144 → isP w k = false → v k = 0) (hend : ∀ LL : ST → Int32 → Int32 → Prop, wb LL σ (jI (sA v)) (jI (l.length : Nat))) (hstep : ∀ (i k : Nat) (a : Int32) (LL : ST → Int32 → Int32 → Prop), l[i]? = some k → LL σ (a + jI (v k)) (jI ((i + 1 : Nat) : Int)) → wb LL σ a (jI (i : Nat))) : ∃ n, wl n σ (jI 0) (jI 0) := by
  refine lpL hw σ l (fun a k => a + jI (v k)) (jI 0) (fun LL => ?_) hstep
  rw [smF, Int.zero_add, sm_present hR.2.2.1 v h0]
  exact hend LL
/-- the reference's loops over all letters -/
theorem lpR {wl : Nat → ST → Int32 → Int32 → Prop} {wb : (ST → Int32 → Int32 → Prop) → ST → Int32 → Int32 → Prop} (hw : ∀ n, wl (n + 1) = wb (wl n)) (v : Nat → Int) (hend : ∀ LL : ST → Int32 → Int32 → Prop, wb LL σ (jI (sA v)) (jI (144 : Nat))) (hstep : ∀ (i : Nat) (a : Int32) (LL : ST → Int32 → Int32 → Prop), i < 144 → LL σ (a + jI (v i)) (jI ((i + 1 : Nat) : Int)) → wb LL σ a (jI (i : Nat))) : ∃ n, wl n σ (jI 0) (jI 0) := by
  refine lpA (wl := wl) (wb := wb) hw (fun _ => σ) (fun i => jI (sm (List.range i) v)) 0 144 (fun i hi LL hLL => ?_)
  rw [Nat.zero_add]
  by_cases h : i < 144
  · refine hstep i _ LL h ?_
    have h2 := hLL h
    rw [Nat.zero_add, sm_range, ← jI_add] at h2
    exact h2
  · have e : i = 144 := by omega
    subst e
    exact hend LL
theorem rnot {A B : Prop} {i : Nat} (hi : i < 144) (h : B) : (jI 144 ≤ jI (i : Nat) → A) ∧ (¬ jI 144 ≤ jI (i : Nat) → B) := qf (jnle (by omega)) h
theorem rend {A B : Prop} (h : A) : (jI 144 ≤ jI (144 : Nat) → A) ∧ (¬ jI 144 ≤ jI (144 : Nat) → B) := qt (jle (by decide) (by decide) (by decide)) h
theorem slo_on (hW : WF w) {k t s : Nat} (hk : k < 144) (ht : t < 3) (hs : s < 24) : slo w k = ((24 * t + s : Nat) : Int) ↔ isO w k t s = true := by
  unfold isO
  rw [decide_eq_true_iff]
  rcases slo_c hW hk with ⟨h1, h2⟩ | ⟨h1, h2⟩ | ⟨h1, h2, h3, h4, h5⟩
  · omega
  · omega
  · omega
theorem isO_P {k : Nat} {t s : Int} (ht : 0 ≤ t) (h : isP w k = false) : isO w k t s = false := by
  have := isP_f h
  exact bo_f (fun q => by omega)
end PRES
section SUMS
variable {σ : ST} {w : Wd} {l : List Nat} {k : Nat} {Q : Int32 → ST → Prop}
theorem n_countOnShelf (hR : RK σ w l) (hW : WF w) {t s : Nat} (ht : t < 3) (hs : s < 24) (h : Q (jI (sA (fun k => bI (isO w k t s)))) σ) : wp_X4_countOnShelf σ (jI ((24 * t + s : Nat) : Int)) Q := by
  unfold wp_X4_countOnShelf
  refine lpS (wl := wl_X4_countOnShelf_4 _ _) (wb := fun LL => wb_X4_countOnShelf_4 _ LL _) (fun _ => rfl) hR (fun k => bI (isO w k t s)) (fun k _ hp => by rw [isO_P (by omega) hp]; rfl) (fun LL => ?_) (fun i k a LL hi hL => ?_)
  · exact pend hR h
  · obtain ⟨h1, h2, h3⟩ := hR.at hi
    refine pres hR hi (alE h1 (alE (hR.slot h2) ?_))
    have h4 := slo_on hW h2 ht hs
    have h5 := slo_c hW h2
    refine qeq (by omega) (by omega) (by omega) (by omega) (fun c => ?_) (fun c => ?_)
    · rw [h4.mp c] at hL
      exact alE rfl (alE (jI_add _ _) hL)
    · rw [show isO w k t s = false by simpa using fun q => c (h4.mpr q)] at hL
      refine alE (jI_add _ _) ?_
      rw [show bI false = 0 from rfl, add0] at hL
      exact hL
theorem n_countInStreet (hR : RK σ w l) (hW : WF w) (h : Q (jI (sA (fun k => bI (isS w k)))) σ) : wp_X4_countInStreet σ Q := by
  unfold wp_X4_countInStreet
  refine lpS (wl := wl_X4_countInStreet_4 _) (wb := fun LL => wb_X4_countInStreet_4 _ LL) (fun _ => rfl) hR (fun k => bI (isS w k)) (fun k _ hp => by rw [show isS w k = false from bo_f (by have := isP_f hp; omega)]; rfl) (fun LL => ?_) (fun i k a LL hi hL => ?_)
  · exact pend hR h
  · obtain ⟨h1, h2, h3⟩ := hR.at hi
    refine pres hR hi (alE h1 (n_isInStreet hR hW h2 (qb (fun c => ?_) (fun c => ?_))))
    · rw [c, show bI false = 0 from rfl, add0] at hL
      exact alE (jI_add _ _) hL
    · rw [c] at hL
      exact alE rfl (alE (jI_add _ _) hL)
theorem n_countOfLine (hR : RK σ w l) (h : Q (jI (sA (fun k => bI (isNw w k)))) σ) : wp_X4_countOfLine σ Q := by
  unfold wp_X4_countOfLine
  refine lpS (wl := wl_X4_countOfLine_4 _) (wb := fun LL => wb_X4_countOfLine_4 _ LL) (fun _ => rfl) hR (fun k => bI (isNw w k)) (fun k _ hp => by rw [show isNw w k = false from bo_f (fun q => q.1 (isP_f hp))]; rfl) (fun LL => ?_) (fun i k a LL hi hL => ?_)
  · exact pend hR h
  · obtain ⟨h1, h2, h3⟩ := hR.at hi
    refine pres hR hi (alE h1 (n_isOfLine hR h2 h3 (qb (fun c => ?_) (fun c => ?_))))
    · rw [c, show bI false = 0 from rfl, add0] at hL
      exact alE (jI_add _ _) hL
    · rw [c] at hL
      exact alE rfl (alE (jI_add _ _) hL)
theorem m_lettersOn {t s : Nat} (ht : t < 3) (hs : s < 24) (h : Q (jI (sA (fun k => bI (isO (σ.1 0) k t s)))) σ) : wp_X7_lettersOn σ (jI (t : Nat)) (jI (s : Nat)) Q := by
  unfold wp_X7_lettersOn
  refine lpR (wl := wl_X7_lettersOn_5 _ _ _) (wb := fun LL => wb_X7_lettersOn_5 _ LL _ _) (fun _ => rfl) (fun k => bI (isO (σ.1 0) k t s)) (fun LL => ?_) (fun i a LL hi hL => ?_)
  · exact rend h
  · refine rnot hi (m_isOn hi (by omega) (by omega) (by omega) (by omega) (qb (fun c => ?_) (fun c => ?_)))
    · rw [c] at hL
      exact alE rfl (alE (jI_add _ _) hL)
    · rw [c] at hL
      exact alE rfl (alE (jI_add _ _) hL)
theorem m_manyNow (h : Q (jI (sA (fun k => bI (isNw (σ.1 0) k)))) σ) : wp_X7_manyNow σ Q := by
  unfold wp_X7_manyNow
  refine lpR (wl := wl_X7_manyNow_4 _) (wb := fun LL => wb_X7_manyNow_4 _ LL) (fun _ => rfl) (fun k => bI (isNw (σ.1 0) k)) (fun LL => ?_) (fun i a LL hi hL => ?_)
  · exact rend h
  · refine rnot hi (m_isNow hi (qb (fun c => ?_) (fun c => ?_)))
    · rw [c] at hL
      exact alE rfl (alE (jI_add _ _) hL)
    · rw [c] at hL
      exact alE rfl (alE (jI_add _ _) hL)
end SUMS
theorem last_44 : True := trivial
