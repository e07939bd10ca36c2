/-! where a letter goes: what is sought, and the class's search -/
theorem exF (F : Nat → Bool) (n : Nat) : ∃ o, IsF F n o := by
  have key : ∀ b, (∀ a, a < b → ¬ FF F a n) ∨ ∃ a, FF F a n ∧ ∀ a', a' < a → ¬ FF F a' n := by
    intro b
    induction b with
    | zero => exact Or.inl (fun a ha => absurd ha (Nat.not_lt_zero a))
    | succ b ih =>
      rcases ih with h | h
      · by_cases hb : FF F b n
        · exact Or.inr ⟨b, hb, h⟩
        · refine Or.inl (fun a ha => ?_)
          by_cases hab : a = b
          · rw [hab]; exact hb
          · exact h a (by omega)
      · exact Or.inr h
  rcases key 25 with h | ⟨a, h⟩
  · exact ⟨none, fun a hf => h a (by have := hf.1; omega) hf⟩
  · exact ⟨some a, h⟩
noncomputable def fF (F : Nat → Bool) (n : Nat) : Option Nat := Classical.choose (exF F n)
theorem fF_is (F : Nat → Bool) (n : Nat) : IsF F n (fF F n) := Classical.choose_spec (exF F n)
abbrev exS (w : Wd) (n : Nat) : Prop := ((n / 24 : Nat) : Int) < nT w ∧ ((n % 24 : Nat) : Int) < nS w (n / 24)
theorem exS_i {w : Wd} {t s : Nat} (hs : s < 24) : exS w (24 * t + s) ↔ ((t : Int) < nT w ∧ (s : Int) < nS w t) := by
  unfold exS
  rw [show (24 * t + s) / 24 = t by omega, show (24 * t + s) % 24 = s by omega]
noncomputable def gpT (w : Wd) (k n t s : Nat) (p : Int × Option (Nat × Nat)) : Int × Option (Nat × Nat) := if ((t : Int) < nT w ∧ (s : Int) < nS w t) ∧ hgt w k ≤ tl w t s ∧ tl w t s - hgt w k < p.1 then (match fF (fr w t s) (wdt w k).toNat with | none => p | some x => (tl w t s - hgt w k, some (n, x))) else p
noncomputable def gpN (w : Wd) (k n : Nat) (p : Int × Option (Nat × Nat)) : Int × Option (Nat × Nat) := gpT w k n (n / 24) (n % 24) p
theorem gpN_i {w : Wd} {k t s : Nat} {p : Int × Option (Nat × Nat)} (hs : s < 24) : gpN w k (24 * t + s) p = gpT w k (24 * t + s) t s p := by
  show gpT w k (24 * t + s) ((24 * t + s) / 24) ((24 * t + s) % 24) p = _
  rw [show (24 * t + s) / 24 = t by omega, show (24 * t + s) % 24 = s by omega]
noncomputable def gpS (w : Wd) (k : Nat) : Nat → Int × Option (Nat × Nat)
  | 0 => (24, none)
  | n + 1 => gpN w k n (gpS w k n)
theorem gpN_out {w : Wd} {k t s : Nat} {p : Int × Option (Nat × Nat)} (hs : s < 24) (h : ¬ (((t : Int) < nT w ∧ (s : Int) < nS w t) ∧ hgt w k ≤ tl w t s ∧ tl w t s - hgt w k < p.1)) : gpN w k (24 * t + s) p = p := by
  rw [gpN_i hs]
  exact if_neg h
theorem gpN_none {w : Wd} {k t s : Nat} {p : Int × Option (Nat × Nat)} (hs : s < 24) (hf : IsF (fr w t s) (wdt w k).toNat none) : gpN w k (24 * t + s) p = p := by
  rw [gpN_i hs]
  unfold gpT
  rw [IsF.u (fF_is (fr w t s) (wdt w k).toNat) hf]
  split <;> rfl
theorem gpN_some {w : Wd} {k t s x : Nat} {p : Int × Option (Nat × Nat)} (hs : s < 24) (h : ((t : Int) < nT w ∧ (s : Int) < nS w t) ∧ hgt w k ≤ tl w t s ∧ tl w t s - hgt w k < p.1) (hf : IsF (fr w t s) (wdt w k).toNat (some x)) : gpN w k (24 * t + s) p = (tl w t s - hgt w k, some (24 * t + s, x)) := by
  rw [gpN_i hs]
  unfold gpT
  rw [IsF.u (fF_is (fr w t s) (wdt w k).toNat) hf]
  exact if_pos h
/-- what the search for a gap found -/
theorem gpS_spec {w : Wd} (hW : WF w) (k n : Nat) : (-30 ≤ (gpS w k n).1 ∧ (gpS w k n).1 ≤ 24) ∧ ∀ q x, (gpS w k n).2 = some (q, x) → q < n ∧ ∃ t s : Nat, q = 24 * t + s ∧ s < 24 ∧ (t : Int) < nT w ∧ (s : Int) < nS w t ∧ hgt w k ≤ tl w t s ∧ FF (fr w t s) x (wdt w k).toNat := by
  induction n with
  | zero => exact ⟨⟨by show (-30 : Int) ≤ 24; decide, Int.le_refl _⟩, fun q x h => by cases h⟩
  | succ n ih =>
    have hd : n = 24 * (n / 24) + n % 24 := by omega
    have hs : n % 24 < 24 := by omega
    have e : gpS w k (n + 1) = gpN w k (24 * (n / 24) + n % 24) (gpS w k n) := by rw [← hd]; rfl
    by_cases h : (((n / 24 : Nat) : Int) < nT w ∧ ((n % 24 : Nat) : Int) < nS w (n / 24)) ∧ hgt w k ≤ tl w (n / 24) (n % 24) ∧ tl w (n / 24) (n % 24) - hgt w k < (gpS w k n).1
    · cases hf : fF (fr w (n / 24) (n % 24)) (wdt w k).toNat with
      | none =>
        have hi : IsF (fr w (n / 24) (n % 24)) (wdt w k).toNat none := by rw [← hf]; exact fF_is _ _
        rw [e, gpN_none hs hi]
        exact ⟨ih.1, fun q x hq => ⟨by have := (ih.2 q x hq).1; omega, (ih.2 q x hq).2⟩⟩
      | some x =>
        have hi : IsF (fr w (n / 24) (n % 24)) (wdt w k).toNat (some x) := by rw [← hf]; exact fF_is _ _
        rw [e, gpN_some hs h hi]
        refine ⟨⟨by have := h.2.1; show (-30 : Int) ≤ tl w (n / 24) (n % 24) - hgt w k; omega, by have := h.2.2; have := ih.1.2; show tl w (n / 24) (n % 24) - hgt w k ≤ 24; omega⟩, fun q x' hq => ?_⟩
        cases hq
        exact ⟨by omega, n / 24, n % 24, rfl, hs, h.1.1, h.1.2, h.2.1, hi.1⟩
    · rw [e, gpN_out hs h]
      exact ⟨ih.1, fun q x hq => ⟨by have := (ih.2 q x hq).1; omega, (ih.2 q x hq).2⟩⟩
theorem gpS_zs {w : Wd} {k : Nat} (a n : Nat) (h : ∀ i, a ≤ i → i < a + n → ¬ exS w i) : gpS w k (a + n) = gpS w k a := by
  induction n with
  | zero => rfl
  | succ n ih =>
    have e : gpS w k (a + (n + 1)) = gpN w k (a + n) (gpS w k (a + n)) := rfl
    rw [e, show gpN w k (a + n) (gpS w k (a + n)) = gpS w k (a + n) from if_neg (fun q => h (a + n) (by omega) (by omega) q.1)]
    exact ih (fun i h1 h2 => h i h1 (by omega))
def gpC (u : ST) : Option (Nat × Nat) → Prop
  | none => u.2 45 = jI (-1)
  | some (q, x) => u.2 45 = jI 1 ∧ u.2 46 = jI (q : Nat) ∧ u.2 47 = jI (x : Nat)
def IsTr (w : Wd) (k : Nat) : Option Nat → Prop
  | none => ∀ t : Nat, (t : Int) < nT w → 24 < topH w t (nS w t).toNat + hgt w k
  | some t => (t : Int) < nT w ∧ topH w t (nS w t).toNat + hgt w k ≤ 24 ∧ ∀ t' : Nat, t' < t → 24 < topH w t' (nS w t').toNat + hgt w k
theorem IsTr.u {w : Wd} {k : Nat} {o o' : Option Nat} (h : IsTr w k o) (h' : IsTr w k o') : o = o' := by
  cases o with
  | none =>
    cases o' with
    | none => rfl
    | some t' => exact absurd (h t' h'.1) (by have := h'.2.1; omega)
  | some t =>
    cases o' with
    | none => exact absurd (h' t h.1) (by have := h.2.1; omega)
    | some t' =>
      have h1 : ¬ t' < t := fun q => by have := h.2.2 t' q; have := h'.2.1; omega
      have h2 : ¬ t < t' := fun q => by have := h'.2.2 t q; have := h.2.1; omega
      rw [show t = t' by omega]
noncomputable def lat (w : Wd) (t s : Nat) : Int := Classical.epsilon (fun v => IsLat w (onS w t s) v)
theorem lat_eq {w : Wd} (hW : WF w) {t s : Nat} (ht : t < 3) {v : Int} (h : IsLat w (onS w t s) v) : lat w t s = v := IsLat.u (fun k hk => by have := hW.2.2.2.2.1.1 k hk.1 (isO_c hW hk.1 ht hk.2).1; omega) (Classical.epsilon_spec (p := fun v => IsLat w (onS w t s) v) ⟨v, h⟩) h
noncomputable def shT (w : Wd) (k n t s : Nat) (o : Option (Nat × Int)) : Option (Nat × Int) := if ((t : Int) < nT w ∧ (s : Int) < nS w t) ∧ hgt w k ≤ tl w t s ∧ nowO w t s = false then (match o with | none => some (n, lat w t s) | some (q, v) => if lat w t s < v then some (n, lat w t s) else some (q, v)) else o
noncomputable def shN (w : Wd) (k n : Nat) (o : Option (Nat × Int)) : Option (Nat × Int) := shT w k n (n / 24) (n % 24) o
theorem shN_i {w : Wd} {k t s : Nat} {o : Option (Nat × Int)} (hs : s < 24) : shN w k (24 * t + s) o = shT w k (24 * t + s) t s o := by
  show shT w k (24 * t + s) ((24 * t + s) / 24) ((24 * t + s) % 24) o = _
  rw [show (24 * t + s) / 24 = t by omega, show (24 * t + s) % 24 = s by omega]
noncomputable def shP (w : Wd) (k : Nat) : Nat → Option (Nat × Int)
  | 0 => none
  | n + 1 => shN w k n (shP w k n)
theorem shN_out {w : Wd} {k t s : Nat} {o : Option (Nat × Int)} (hs : s < 24) (h : ¬ (((t : Int) < nT w ∧ (s : Int) < nS w t) ∧ hgt w k ≤ tl w t s ∧ nowO w t s = false)) : shN w k (24 * t + s) o = o := by
  rw [shN_i hs]
  exact if_neg h
theorem shN_in {w : Wd} {k t s : Nat} (o : Option (Nat × Int)) (hs : s < 24) (h : ((t : Int) < nT w ∧ (s : Int) < nS w t) ∧ hgt w k ≤ tl w t s ∧ nowO w t s = false) : shN w k (24 * t + s) o = (match o with | none => some (24 * t + s, lat w t s) | some (q, v) => if lat w t s < v then some (24 * t + s, lat w t s) else some (q, v)) := by
  rw [shN_i hs]
  unfold shT
  rw [if_pos h]
theorem shP_spec {w : Wd} (k n : Nat) : ∀ q v, shP w k n = some (q, v) → q < n ∧ ∃ t s : Nat, q = 24 * t + s ∧ s < 24 ∧ (t : Int) < nT w ∧ (s : Int) < nS w t ∧ hgt w k ≤ tl w t s ∧ v = lat w t s := by
  induction n with
  | zero => intro q v h; cases h
  | succ n ih =>
    have hd : n = 24 * (n / 24) + n % 24 := by omega
    have hs : n % 24 < 24 := by omega
    have e : shP w k (n + 1) = shN w k (24 * (n / 24) + n % 24) (shP w k n) := by rw [← hd]; rfl
    intro q v hq
    rw [e] at hq
    by_cases h : (((n / 24 : Nat) : Int) < nT w ∧ ((n % 24 : Nat) : Int) < nS w (n / 24)) ∧ hgt w k ≤ tl w (n / 24) (n % 24) ∧ nowO w (n / 24) (n % 24) = false
    · rw [shN_in _ hs h] at hq
      have hnew : q = 24 * (n / 24) + n % 24 → v = lat w (n / 24) (n % 24) → q < n + 1 ∧ ∃ t s : Nat, q = 24 * t + s ∧ s < 24 ∧ (t : Int) < nT w ∧ (s : Int) < nS w t ∧ hgt w k ≤ tl w t s ∧ v = lat w t s := fun h1 h2 => ⟨by omega, n / 24, n % 24, h1, hs, h.1.1, h.1.2, h.2.1, h2⟩
      cases ho : shP w k n with
      | none =>
        rw [ho] at hq
        cases hq
        exact hnew rfl rfl
      | some p =>
        obtain ⟨q', v'⟩ := p
        rw [ho] at hq
        dsimp only at hq
        by_cases hlt : lat w (n / 24) (n % 24) < v'
        · rw [if_pos hlt] at hq
          cases hq
          exact hnew rfl rfl
        · rw [if_neg hlt] at hq
          cases hq
          have := ih _ _ ho
          exact ⟨by omega, this.2⟩
    · rw [shN_out hs h] at hq
      have := ih _ _ hq
      exact ⟨by omega, this.2⟩
theorem shP_zs {w : Wd} {k : Nat} (a n : Nat) (h : ∀ i, a ≤ i → i < a + n → ¬ exS w i) : shP w k (a + n) = shP w k a := by
  induction n with
  | zero => rfl
  | succ n ih =>
    have e : shP w k (a + (n + 1)) = shN w k (a + n) (shP w k (a + n)) := rfl
    rw [e, show shN w k (a + n) (shP w k (a + n)) = shP w k (a + n) from if_neg (fun q => h (a + n) (by omega) (by omega) q.1)]
    exact ih (fun i h1 h2 => h i h1 (by omega))
def shC (u : ST) : Option (Nat × Int) → Prop
  | none => u.2 45 = jI (-1)
  | some (q, _) => u.2 45 = jI 3 ∧ u.2 46 = jI (q : Nat) ∧ u.2 47 = jI 0
/-- the letters of the street that may go -/
def mayS (w : Wd) (k : Nat) : Prop := k < 144 ∧ isS w k = true ∧ isNw w k = false
theorem mayS_P {w : Wd} {k : Nat} (h : mayS w k) : k < 144 ∧ isP w k = true := ⟨h.1, bo_t (by have : aT w k = 3 := of_decide_eq_true h.2.1; omega)⟩
/-- a letter's place: by which rule, tray, shelf, left end, how many go, who leaves the street -/
def IsPl (w : Wd) (k : Nat) (ru : Int) (t s x : Nat) (tk lv : Int) : Prop :=
  (isP w k = true ∧ ru = 0 ∧ tk = 0 ∧ lv = -1) ∨ (isP w k = false ∧
    ((∃ q, (gpS w k 72).2 = some (q, x) ∧ ru = 1 ∧ q = 24 * t + s ∧ s < 24 ∧ tk = 0 ∧ lv = -1) ∨ ((gpS w k 72).2 = none ∧
      ((IsTr w k (some t) ∧ ru = 2 ∧ (s : Int) = nS w t ∧ x = 0 ∧ tk = 0 ∧ lv = -1) ∨ (IsTr w k none ∧
        ((∃ q v, shP w k 72 = some (q, v) ∧ ru = 3 ∧ q = 24 * t + s ∧ s < 24 ∧ x = 0 ∧ tk = sA (fun k => bI (isO w k t s)) ∧ lv = -1) ∨ (shP w k 72 = none ∧
          ((gw w 7 < 4 ∧ ru = 4 ∧ tk = 0 ∧ lv = -1) ∨ (4 ≤ gw w 7 ∧ ∃ a : Int32, MinJ w (mayS w) a ∧ ((a = jI (-1) ∧ ru = -1 ∧ tk = 0 ∧ lv = -1) ∨ ∃ o : Nat, a = jI (o : Nat) ∧ o < 144 ∧ ru = 4 ∧ tk = 1 ∧ lv = o))))))))))
def PC (u : ST) (ru : Int) (t s x : Nat) (tk lv : Int) : Prop := u.2 45 = jI ru ∧ (1 ≤ ru → ru ≤ 3 → u.2 46 = jI ((24 * t + s : Nat) : Int) ∧ u.2 47 = jI (x : Nat)) ∧ (ru = 4 → u.2 46 = jI (-1)) ∧ u.2 48 = jI tk ∧ u.2 49 = jI lv
def PM (u : ST) (ru : Int) (t s x : Nat) (tk lv : Int) : Prop := u.2 2 = jI ru ∧ (1 ≤ ru → ru ≤ 3 → u.2 3 = jI (t : Nat) ∧ u.2 4 = jI (s : Nat) ∧ u.2 5 = jI (x : Nat)) ∧ u.2 6 = jI lv ∧ u.2 7 = jI tk
theorem IsPl.u {w : Wd} (hW : WF w) {k : Nat} {ru ru' : Int} {t s x t' s' x' : Nat} {tk lv tk' lv' : Int} (h : IsPl w k ru t s x tk lv) (h' : IsPl w k ru' t' s' x' tk' lv') : ru = ru' ∧ tk = tk' ∧ lv = lv' ∧ (1 ≤ ru → ru ≤ 3 → t = t' ∧ s = s' ∧ x = x') := by
  rcases h with ⟨h1, h2, h3, h4⟩ | ⟨h1, h2⟩
  · rcases h' with ⟨g1, g2, g3, g4⟩ | ⟨g1, g2⟩
    · exact ⟨by omega, by omega, by omega, fun _ _ => by omega⟩
    · rw [h1] at g1
      cases g1
  rcases h' with ⟨g1, g2, g3, g4⟩ | ⟨g1, g2⟩
  · rw [h1] at g1
    cases g1
  rcases h2 with ⟨q, h2, h3, h4, h5, h6, h7⟩ | ⟨h2, h3⟩
  · rcases g2 with ⟨q', g2, g3, g4, g5, g6, g7⟩ | ⟨g2, g3⟩
    · rw [h2] at g2
      cases g2
      exact ⟨by omega, by omega, by omega, fun _ _ => ⟨by omega, by omega, rfl⟩⟩
    · rw [h2] at g2
      cases g2
  rcases g2 with ⟨q', g2, g3, g4, g5, g6, g7⟩ | ⟨g2, g3⟩
  · rw [h2] at g2
    cases g2
  rcases h3 with ⟨h3, h4, h5, h6, h7, h8⟩ | ⟨h3, h4⟩
  · rcases g3 with ⟨g3, g4, g5, g6, g7, g8⟩ | ⟨g3, g4⟩
    · have e : t = t' := by
        have := IsTr.u h3 g3
        cases this
        rfl
      subst e
      exact ⟨by omega, by omega, by omega, fun _ _ => ⟨rfl, by omega, by omega⟩⟩
    · have := IsTr.u h3 g3
      cases this
  rcases g3 with ⟨g3, g4, g5, g6, g7, g8⟩ | ⟨g3, g4⟩
  · have := IsTr.u h3 g3
    cases this
  rcases h4 with ⟨q, v, h4, h5, h6, h7, h8, h9, h10⟩ | ⟨h4, h5⟩
  · rcases g4 with ⟨q', v', g4, g5, g6, g7, g8, g9, g10⟩ | ⟨g4, g5⟩
    · rw [h4] at g4
      cases g4
      have e1 : t = t' := by omega
      have e2 : s = s' := by omega
      subst e1 e2
      exact ⟨by omega, by omega, by omega, fun _ _ => ⟨rfl, rfl, by omega⟩⟩
    · rw [h4] at g4
      cases g4
  rcases g4 with ⟨q', v', g4, g5, g6, g7, g8, g9, g10⟩ | ⟨g4, g5⟩
  · rw [h4] at g4
    cases g4
  rcases h5 with ⟨h5, h6, h7, h8⟩ | ⟨h5, a, h6, h7⟩
  · rcases g5 with ⟨g5, g6, g7, g8⟩ | ⟨g5, a', g6, g7⟩
    · exact ⟨by omega, by omega, by omega, fun _ _ => by omega⟩
    · omega
  rcases g5 with ⟨g5, g6, g7, g8⟩ | ⟨g5, a', g6, g7⟩
  · omega
  have e : a = a' := MinJ.uniq hW (fun k hk => mayS_P hk) h6 g6
  subst e
  rcases h7 with ⟨h7, h8, h9, h10⟩ | ⟨o, h7, h8, h9, h10, h11⟩
  · rcases g7 with ⟨g7, g8, g9, g10⟩ | ⟨o', g7, g8, g9, g10, g11⟩
    · exact ⟨by omega, by omega, by omega, fun _ _ => by omega⟩
    · exact absurd (h7.symm.trans g7) (jne (by omega))
  rcases g7 with ⟨g7, g8, g9, g10⟩ | ⟨o', g7, g8, g9, g10, g11⟩
  · exact absurd (h7.symm.trans g7) (jne (by omega))
  · have := (jI_eq (a := o) (b := o') (by omega) (by omega) (by omega) (by omega)).mp (h7.symm.trans g7)
    exact ⟨by omega, by omega, by omega, fun _ _ => by omega⟩
theorem last_71 : True := trivial
