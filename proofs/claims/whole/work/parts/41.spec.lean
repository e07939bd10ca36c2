/-! what a state says, read off the reference's row w; what the class keeps of it -/
abbrev Wd : Type := Nat → Int32
def gw (w : Wd) (i : Nat) : Int := (w i).toInt
theorem gwj (w : Wd) (i : Nat) : w i = jI (gw w i) := jI_of (w i)
theorem gw_lo (w : Wd) (i : Nat) : -2147483648 ≤ gw w i := Int32.le_toInt (w i)
theorem gw_hi (w : Wd) (i : Nat) : gw w i < 2147483648 := Int32.toInt_lt (w i)
def wdt (w : Wd) (k : Nat) : Int := gw w (12 + k / 9) * ((k % 9 / 3 + 1 : Nat) : Int) + 2 * ((k % 3 : Nat) : Int)
def hgt (w : Wd) (k : Nat) : Int := gw w (28 + k / 9) * ((k % 9 / 3 + 1 : Nat) : Int) + 2 * ((k % 3 : Nat) : Int)
def aT (w : Wd) (k : Nat) : Int := gw w (119 + 6 * k)
def aS (w : Wd) (k : Nat) : Int := gw w (119 + 6 * k + 1)
def aX (w : Wd) (k : Nat) : Int := gw w (119 + 6 * k + 2)
def aL (w : Wd) (k : Nat) : Int := gw w (119 + 6 * k + 3)
def nT (w : Wd) : Int := gw w 0
def nS (w : Wd) (t : Nat) : Int := gw w (44 + t)
def tl (w : Wd) (t s : Nat) : Int := gw w (47 + 24 * t + s)
def isP (w : Wd) (k : Nat) : Bool := decide (aT w k ≠ -1)
def isL (w : Wd) (k : Nat) : Bool := decide (0 ≤ aT w k ∧ aT w k ≤ 2)
def isO (w : Wd) (k : Nat) (t s : Int) : Bool := decide (aT w k = t ∧ aS w k = s)
def isNw (w : Wd) (k : Nat) : Bool := decide (aT w k ≠ -1 ∧ w (119 + 6 * k + 4) = w 1)
/-- the height of the shelves above the s-th -/
def topH (w : Wd) (t : Nat) : Nat → Int
  | 0 => 0
  | s + 1 => topH w t s + tl w t s
/-- the slot of a letter as the class has it -/
def slo (w : Wd) (k : Nat) : Int := if aT w k = -1 then -2 else if aT w k = 3 then -1 else 24 * aT w k + aS w k
/-- what stays true of a state -/
def WFa (w : Wd) : Prop := 1 ≤ nT w ∧ nT w ≤ 3 ∧ (∀ s : Nat, s < 16 → 1 ≤ gw w (12 + s) ∧ gw w (12 + s) ≤ 6) ∧ ∀ s : Nat, s < 16 → 1 ≤ gw w (28 + s) ∧ gw w (28 + s) ≤ 6
def WFb (w : Wd) : Prop := ∀ t : Nat, (t : Int) < nT w → 0 ≤ nS w t ∧ nS w t ≤ 24 ∧ (∀ s : Nat, (s : Int) < nS w t → 1 ≤ tl w t s ∧ tl w t s ≤ 24) ∧ topH w t (nS w t).toNat ≤ 24
def WFc (w : Wd) : Prop := ∀ k : Nat, k < 144 → aT w k = -1 ∨ aT w k = 3 ∨ (0 ≤ aT w k ∧ aT w k < nT w ∧ 0 ≤ aS w k ∧ aS w k < nS w (aT w k).toNat ∧ 0 ≤ aX w k ∧ aX w k + wdt w k ≤ 24 ∧ hgt w k ≤ tl w (aT w k).toNat (aS w k).toNat)
def WFd (w : Wd) : Prop := ∀ k k' : Nat, k < 144 → k' < 144 → k ≠ k' → isL w k = true → aT w k' = aT w k → aS w k' = aS w k → aX w k + wdt w k ≤ aX w k' ∨ aX w k' + wdt w k' ≤ aX w k
def WFe (w : Wd) : Prop := (∀ k : Nat, k < 144 → isP w k = true → 1 ≤ aL w k ∧ aL w k ≤ gw w 2) ∧ ∀ k k' : Nat, k < 144 → k' < 144 → isP w k = true → isP w k' = true → aL w k = aL w k' → k = k'
/-- the letters in the street, in their order -/
def strt (w : Wd) : List Nat := (List.range (gw w 7).toNat).map (fun i => (gw w (8 + i)).toNat)
def WFf (w : Wd) : Prop := 0 ≤ gw w 7 ∧ gw w 7 ≤ 4 ∧ (∀ i : Nat, (i : Int) < gw w 7 → 0 ≤ gw w (8 + i) ∧ gw w (8 + i) < 144) ∧ (strt w).Nodup ∧ ∀ k : Nat, k ∈ strt w ↔ k < 144 ∧ aT w k = 3
def WF (w : Wd) : Prop := WFa w ∧ WFb w ∧ WFc w ∧ WFd w ∧ WFe w ∧ WFf w
/-- a state of the class (rows r, numbers c) and the reference's -/
def RCa (r : Nat → Nat → Int32) (w : Wd) : Prop := (∀ s : Nat, s < 16 → r 0 s = w (12 + s)) ∧ (∀ s : Nat, s < 16 → r 1 s = w (28 + s)) ∧ ∀ t s : Nat, t < 3 → s < 24 → r 2 (24 * t + s) = if (t : Int) < nT w ∧ (s : Int) < nS w t then w (47 + 24 * t + s) else jI 0
def RCb (r : Nat → Nat → Int32) (w : Wd) : Prop := ∀ k : Nat, k < 144 → r 3 k = jI (slo w k) ∧ (isL w k = true → r 4 k = jI (aX w k) ∧ r 5 k = jI (aX w k + wdt w k)) ∧ (isP w k = true → r 6 k = w (119 + 6 * k + 3) ∧ r 7 k = w (119 + 6 * k + 4) ∧ r 8 k = w (119 + 6 * k + 5))
def RCl (r : Nat → Nat → Int32) (w : Wd) (l : List Nat) : Prop := (∀ i : Nat, ∀ k : Nat, l[i]? = some k → r 9 i = jI k) ∧ l.Nodup ∧ (∀ k : Nat, k ∈ l ↔ k < 144 ∧ isP w k = true) ∧ l.filter (fun k => decide (aT w k = 3)) = strt w
def RCs (c : Nat → Int32) (w : Wd) (l : List Nat) : Prop := c 0 = jI (l.length : Nat) ∧ c 1 = w 0 ∧ c 2 = w 1 ∧ c 3 = w 2 ∧ c 4 = w 3 ∧ c 5 = w 4 ∧ c 6 = w 5 ∧ c 7 = w 6
def RC (r : Nat → Nat → Int32) (c : Nat → Int32) (w : Wd) (l : List Nat) : Prop := RCa r w ∧ RCb r w ∧ RCl r w l ∧ RCs c w l
/-- the class's own state -/
abbrev RK (σ : ST) (w : Wd) (l : List Nat) : Prop := RC σ.1 σ.2 w l
theorem RCl.len {r : Nat → Nat → Int32} {w : Wd} {l : List Nat} (h : RCl r w l) : l.length ≤ 144 := by
  have h1 : l.Nodup := h.2.1
  have h2 : ∀ k ∈ l, k < 144 := fun k hk => ((h.2.2.1 k).mp hk).1
  have h3 := List.Nodup.length_le_of_subset (l₂ := List.range 144) h1 (fun k hk => List.mem_range.mpr (h2 k hk))
  simpa using h3
/-- the letters that are there: the class's row is a rearrangement of them -/
def ltrs (w : Wd) : List Nat := (List.range 144).filter (fun k => isP w k)
theorem ltrs_nodup (w : Wd) : (ltrs w).Nodup := List.nodup_range.filter _
theorem ltrs_mem (w : Wd) (k : Nat) : k ∈ ltrs w ↔ k < 144 ∧ isP w k = true := by simp [ltrs]
theorem RCl.perm {r : Nat → Nat → Int32} {w : Wd} {l : List Nat} (h : RCl r w l) : l.Perm (ltrs w) :=
  (List.perm_ext_iff_of_nodup h.2.1 (ltrs_nodup w)).mpr (fun k => by rw [h.2.2.1 k, ltrs_mem])
theorem last_41 : True := trivial
