/-! the class closes shelves -/
section NCL
variable {l : List Nat} {u : ST} {sl : Nat → Int}
theorem n_countSlot {Q : Int32 → ST → Prop} {q : Int} (h9 : ∀ i k : Nat, l[i]? = some k → u.1 9 i = jI k) (hlt : ∀ k ∈ l, k < 144) (hlen : l.length ≤ 144) (h0 : u.2 0 = jI (l.length : Nat)) (h3 : ∀ k : Nat, k < 144 → u.1 3 k = jI (sl k)) (hs : ∀ k : Nat, k < 144 → -100 ≤ sl k ∧ sl k ≤ 100) (q1 : -100 ≤ q) (q2 : q ≤ 100) (h : Q (jI ((l.countP (fun k => decide (sl k = q)) : Nat) : Int)) u) : wp_X4_countOnShelf u (jI q) Q := by
  unfold wp_X4_countOnShelf
  refine lpA (wl := wl_X4_countOnShelf_4 _ _) (wb := fun LL => wb_X4_countOnShelf_4 _ LL _) (fun _ => rfl) (fun _ => u) (fun i => jI (((l.take i).countP (fun k => decide (sl k = q)) : Nat) : Int)) 0 l.length (fun i hi LL hLL => ?_)
  unfold wb_X4_countOnShelf_4
  rw [h0, Nat.zero_add]
  refine qle (by omega) (by omega) (by omega) (by omega) (fun c => ?_) (fun c => ?_)
  · rw [show i = l.length by omega, List.take_length]
    exact h
  · have hil : i < l.length := by omega
    have hi1 := List.getElem?_eq_getElem hil
    have hk := hlt _ (List.mem_of_getElem? hi1)
    have h99 := hLL hil
    rw [Nat.zero_add, List.take_add_one, hi1, List.countP_append] at h99
    have hsb := hs _ hk
    refine alE ((cg u 9 i (by show i < 144; omega)).trans (h9 i _ hi1)) (alE ((cg u 3 _ (by show l[i] < 144; exact hk)).trans (h3 _ hk)) ?_)
    refine qeq (by omega) (by omega) (by omega) (by omega) (fun d => ?_) (fun d => ?_)
    · refine alE (jI_add _ _) (alE (jI_add _ _) ?_)
      rw [show (some l[i]).toList.countP (fun k => decide (sl k = q)) = 1 by simp [d]] at h99
      exact h99
    · refine alE (jI_add _ _) ?_
      rw [show (some l[i]).toList.countP (fun k => decide (sl k = q)) = 0 by simp [d], Nat.add_zero] at h99
      exact h99
theorem n_closeShelf {Q : ST → Prop} {t p : Nat} (ht : t < 3) (hp : p < 24) (h9 : ∀ i k : Nat, l[i]? = some k → u.1 9 i = jI k) (hlt : ∀ k ∈ l, k < 144) (hnd : l.Nodup) (hlen : l.length ≤ 144) (h0 : u.2 0 = jI (l.length : Nat)) (h3 : ∀ k : Nat, k < 144 → u.1 3 k = jI (sl k)) (hs : ∀ k : Nat, k < 144 → -100 ≤ sl k ∧ sl k ≤ 100) (hout : ∀ k : Nat, k < 144 → k ∉ l → sl k < 0) (h : ∀ u' : ST, (∀ q : Nat, q ≠ 2 → q ≠ 3 → u'.1 q = u.1 q) → u'.2 = u.2 → (∀ q : Nat, q < 72 → u'.1 2 q = if 24 * t + p ≤ q ∧ q < 24 * t + 23 then u.1 2 (q + 1) else if q = 24 * t + 23 then jI 0 else u.1 2 q) → (∀ k : Nat, k < 144 → u'.1 3 k = jI (if ((24 * t + p : Nat) : Int) < sl k ∧ sl k ≤ ((24 * t + 23 : Nat) : Int) then sl k - 1 else sl k)) → Q u') : wp_X4_closeShelf u (jI ((24 * t + p : Nat) : Int)) Q := by
  unfold wp_X4_closeShelf
  rw [show jI ((24 * t + p : Nat) : Int) / jI 24 = jI (((24 * t + p) / 24 : Nat) : Int) from jd (d := 24) (by omega) (by decide) (by decide), jI_mul, jI_add, jI_sub, show (((24 * t + p) / 24 : Nat) : Int) * 24 + 24 - 1 = ((24 * t + 23 : Nat) : Int) by omega]
  refine al ?_
  have key2 : ∀ (K : ST → Prop) (v : ST), (∀ q : Nat, q ≠ 2 → v.1 q = u.1 q) → v.2 = u.2 → (∀ v' : ST, (∀ q : Nat, q ≠ 3 → v'.1 q = v.1 q) → v'.2 = v.2 → (∀ k : Nat, k < 144 → v'.1 3 k = jI (if ((24 * t + p : Nat) : Int) < sl k ∧ sl k ≤ ((24 * t + 23 : Nat) : Int) then sl k - 1 else sl k)) → K v') → ∃ nn, wl_X4_closeShelf_55 K (jI ((24 * t + p : Nat) : Int)) (jI ((24 * t + 23 : Nat) : Int)) nn v (jI 0) := fun K v hv1 hv2 hK => by
    refine lp_inv (α := ST × Int32) (L := fun n a => wl_X4_closeShelf_55 K (jI ((24 * t + p : Nat) : Int)) (jI ((24 * t + 23 : Nat) : Int)) n a.1 a.2) (B := fun LL a => wb_X4_closeShelf_55 K (fun t y => LL (t, y)) (jI ((24 * t + p : Nat) : Int)) (jI ((24 * t + 23 : Nat) : Int)) a.1 a.2) (fun n a => rfl) (fun i a => a.2 = jI (i : Nat) ∧ (∀ q : Nat, q ≠ 3 → a.1.1 q = v.1 q) ∧ a.1.2 = v.2 ∧ ∀ k : Nat, k < 144 → a.1.1 3 k = jI (if k ∈ l.take i ∧ ((24 * t + p : Nat) : Int) < sl k ∧ sl k ≤ ((24 * t + 23 : Nat) : Int) then sl k - 1 else sl k)) l.length (fun i a hi ha LL hLL => ?_) (v, jI 0) ⟨rfl, fun _ _ => rfl, rfl, fun k hk => ?_⟩
    · obtain ⟨x, y⟩ := a
      obtain ⟨ha1, ha2, ha3, ha4⟩ := ha
      dsimp only at ha1 ha2 ha3 ha4 ⊢
      subst ha1
      unfold wb_X4_closeShelf_55
      rw [ha3, hv2, h0]
      refine qle (by omega) (by omega) (by omega) (by omega) (fun c => ?_) (fun c => ?_)
      · refine hK x ha2 ha3 (fun k hk => ?_)
        rw [ha4 k hk, show i = l.length by omega, List.take_length]
        congr 1
        by_cases hc : ((24 * t + p : Nat) : Int) < sl k ∧ sl k ≤ ((24 * t + 23 : Nat) : Int)
        · have hm : k ∈ l := by
            by_cases hm : k ∈ l
            · exact hm
            · have := hout k hk hm
              omega
          rw [if_pos ⟨hm, hc⟩, if_pos hc]
        · rw [if_neg (fun q => hc q.2), if_neg hc]
      · have hil : i < l.length := by omega
        have hi1 := List.getElem?_eq_getElem hil
        have hk := hlt _ (List.mem_of_getElem? hi1)
        have hni : l[i] ∉ l.take i := fun q => by
          obtain ⟨j, hj⟩ := List.getElem?_of_mem q
          have hj2 := (List.getElem?_eq_some_iff.mp hj).1
          rw [List.length_take] at hj2
          rw [List.getElem?_take_of_lt (by omega), ← hi1] at hj
          have := (List.getElem?_inj (by omega) hnd).mp hj
          omega
        have hmem : ∀ k : Nat, k ∈ l.take (i + 1) ↔ (k ∈ l.take i ∨ k = l[i]) := fun k => by
          rw [List.take_add_one, hi1, List.mem_append]
          simp
        have e9 : zrg x 9 (jI (i : Nat)) = jI (l[i] : Nat) := (cg x 9 i (by show i < 144; omega)).trans (by rw [ha2 9 (by decide), hv1 9 (by decide)]; exact h9 i _ hi1)
        have e3 : zrg x 3 (jI (l[i] : Nat)) = jI (sl l[i]) := (cg x 3 _ (by show l[i] < 144; exact hk)).trans (by rw [ha4 _ hk, if_neg (fun q => hni q.1)])
        have hsb := hs _ hk
        have hskip : ¬ (((24 * t + p : Nat) : Int) < sl l[i] ∧ sl l[i] ≤ ((24 * t + 23 : Nat) : Int)) → ∀ x3 : Int32, x3 = jI (i : Nat) + jI 1 → LL (x, x3) := fun hc => by
          refine alE (jI_add _ _) (hLL _ hil ⟨rfl, ha2, ha3, fun k hk => ?_⟩)
          dsimp only
          rw [ha4 k hk]
          congr 1
          by_cases hki : k = l[i]
          · subst hki
            rw [if_neg (fun q => hc q.2), if_neg (fun q => hc q.2)]
          · by_cases hd : k ∈ l.take i ∧ ((24 * t + p : Nat) : Int) < sl k ∧ sl k ≤ ((24 * t + 23 : Nat) : Int)
            · rw [if_pos hd, if_pos ⟨(hmem k).mpr (Or.inl hd.1), hd.2⟩]
            · rw [if_neg hd, if_neg (fun q => hd ⟨((hmem k).mp q.1).resolve_right hki, q.2⟩)]
        refine alE e9 (alE e3 ?_)
        refine qle (by omega) (by omega) (by omega) (by omega) (fun d => hskip (fun q => by omega)) (fun d => ?_)
        refine qlt (by omega) (by omega) (by omega) (by omega) (fun e => hskip (fun q => by omega)) (fun e => ?_)
        rw [jI_sub, cs x 3 _ _ (by show l[i] < 144; exact hk)]
        refine al (alE (jI_add _ _) (hLL _ hil ⟨rfl, fun q hq => (zrp_o hq).trans (ha2 q hq), ha3, fun k hk => ?_⟩))
        dsimp only
        rw [zrp_at]
        by_cases hki : k = l[i]
        · subst hki
          rw [upd_at, if_pos ⟨(hmem _).mpr (Or.inr rfl), d, e⟩]
        · rw [upd_o hki, ha4 k hk]
          congr 1
          by_cases hd : k ∈ l.take i ∧ ((24 * t + p : Nat) : Int) < sl k ∧ sl k ≤ ((24 * t + 23 : Nat) : Int)
          · rw [if_pos hd, if_pos ⟨(hmem k).mpr (Or.inl hd.1), hd.2⟩]
          · rw [if_neg hd, if_neg (fun q => hd ⟨((hmem k).mp q.1).resolve_right hki, q.2⟩)]
    · rw [if_neg (fun q => by have := q.1; rw [List.take_zero] at this; exact absurd this List.not_mem_nil), hv1 3 (by decide)]
      exact h3 k hk
  have key1 : ∀ K : ST → Prop, (∀ v : ST, (∀ q : Nat, q ≠ 2 → v.1 q = u.1 q) → v.2 = u.2 → (∀ q : Nat, v.1 2 q = if 24 * t + p ≤ q ∧ q < 24 * t + 23 then u.1 2 (q + 1) else u.1 2 q) → K v) → ∃ nn, wl_X4_closeShelf_15 K (jI ((24 * t + p : Nat) : Int)) (jI ((24 * t + 23 : Nat) : Int)) nn u (jI ((24 * t + p : Nat) : Int)) := fun K hK => by
    refine lp_inv (α := ST × Int32) (L := fun n a => wl_X4_closeShelf_15 K (jI ((24 * t + p : Nat) : Int)) (jI ((24 * t + 23 : Nat) : Int)) n a.1 a.2) (B := fun LL a => wb_X4_closeShelf_15 K (fun t y => LL (t, y)) (jI ((24 * t + p : Nat) : Int)) (jI ((24 * t + 23 : Nat) : Int)) a.1 a.2) (fun n a => rfl) (fun i a => a.2 = jI ((24 * t + p + i : Nat) : Int) ∧ (∀ q : Nat, q ≠ 2 → a.1.1 q = u.1 q) ∧ a.1.2 = u.2 ∧ ∀ q : Nat, a.1.1 2 q = if 24 * t + p ≤ q ∧ q < 24 * t + p + i then u.1 2 (q + 1) else u.1 2 q) (23 - p) (fun i a hi ha LL hLL => ?_) (u, jI ((24 * t + p : Nat) : Int)) ⟨by rw [Nat.add_zero], fun _ _ => rfl, rfl, fun q => by rw [if_neg (by omega)]⟩
    obtain ⟨x, y⟩ := a
    obtain ⟨ha1, ha2, ha3, ha4⟩ := ha
    dsimp only at ha1 ha2 ha3 ha4 ⊢
    subst ha1
    unfold wb_X4_closeShelf_15
    refine qle (by omega) (by omega) (by omega) (by omega) (fun c => ?_) (fun c => ?_)
    · refine hK x ha2 ha3 (fun q => ?_)
      rw [ha4 q, show 24 * t + p + i = 24 * t + 23 by omega]
    · have e1 : zrg x 2 (jI ((24 * t + p + i : Nat) : Int) + jI 1) = u.1 2 (24 * t + p + i + 1) := by
        rw [jI_add, show ((24 * t + p + i : Nat) : Int) + 1 = ((24 * t + p + i + 1 : Nat) : Int) by omega, cg x 2 _ (by show 24 * t + p + i + 1 < 72; omega), ha4, if_neg (by omega)]
      refine alE e1 ?_
      rw [cs x 2 (24 * t + p + i) _ (by show 24 * t + p + i < 72; omega)]
      refine al (alE (jI_add _ _) (hLL _ (by omega) ⟨jeq (by omega), fun q hq => (zrp_o hq).trans (ha2 q hq), ha3, fun q => ?_⟩))
      dsimp only
      rw [zrp_at]
      by_cases hq : q = 24 * t + p + i
      · subst hq
        rw [upd_at, if_pos (by omega)]
      · rw [upd_o hq, ha4 q]
        by_cases hd : 24 * t + p ≤ q ∧ q < 24 * t + p + i
        · rw [if_pos hd, if_pos (by omega)]
        · rw [if_neg hd, if_neg (by omega)]
  refine key1 _ (fun v g1 g2 g3 => ?_)
  rw [cs v 2 (24 * t + 23) _ (by show 24 * t + 23 < 72; omega)]
  refine al (key2 _ (zrp v 2 (24 * t + 23) (jI 0)) (fun q hq => (zrp_o hq).trans (g1 q hq)) g2 (fun v' r1 r2 r3 => h v' (fun q q2 q3 => (r1 q q3).trans ((zrp_o q2).trans (g1 q q2))) (r2.trans g2) (fun q hq => ?_) r3))
  rw [r1 2 (by decide), zrp_at]
  by_cases hq9 : q = 24 * t + 23
  · subst hq9
    rw [upd_at, if_neg (by omega), if_pos rfl]
  · rw [upd_o hq9, g3 q]
    by_cases hd : 24 * t + p ≤ q ∧ q < 24 * t + 23
    · rw [if_pos hd, if_pos hd]
    · rw [if_neg hd, if_neg hd, if_neg hq9]
end NCL
/-- where the shelf s is when those from P on are closed -/
def pst (w : Wd) (t P s : Nat) : Nat := if s < P then s else P + (rk w t s - rk w t P)
def slP (w : Wd) (b k : Nat) : Int := if isL w k = true then 24 * aT w k + ((pst w (aT w k).toNat (min 24 (b - 24 * (aT w k).toNat)) (aS w k).toNat : Nat) : Int) else slo w k
def clJ (w : Wd) (b : Nat) (σ u : ST) : Prop := (∀ q : Nat, q ≠ 2 → q ≠ 3 → u.1 q = σ.1 q) ∧ u.2 = σ.2 ∧ (∀ t s : Nat, t < 3 → s < 24 → (t : Int) < nT w → (s : Int) < nS w t → (s < min 24 (b - 24 * t) ∨ kp w t s = true) → u.1 2 (24 * t + pst w t (min 24 (b - 24 * t)) s) = jI (tl w t s)) ∧ (∀ t q : Nat, t < 3 → q < 24 → (¬ (t : Int) < nT w ∨ pst w t (min 24 (b - 24 * t)) (nS w t).toNat ≤ q) → u.1 2 (24 * t + q) = jI 0) ∧ ∀ k : Nat, k < 144 → u.1 3 k = jI (slP w b k)
section PST
variable {w : Wd} {t p s : Nat}
theorem pst_low (h : s ≤ p) : pst w t p s = s := by
  unfold pst
  by_cases h1 : s < p
  · rw [if_pos h1]
  · rw [if_neg h1, show s = p by omega]
    omega
theorem pst_skip (h : kp w t p = true) (s : Nat) : pst w t p s = pst w t (p + 1) s := by
  by_cases h1 : s ≤ p
  · rw [pst_low h1, pst_low (by omega)]
  · unfold pst
    have h2 := (rk_mono (w := w) (t := t) (show p + 1 ≤ s by omega)).1
    rw [if_neg (by omega), if_neg (by omega)]
    rw [rk_t h] at h2 ⊢
    omega
theorem pst_close (h : kp w t p = false) (hs : p + 1 ≤ s) : pst w t (p + 1) s = pst w t p s + 1 ∧ p ≤ pst w t p s := by
  unfold pst
  rw [if_neg (by omega), if_neg (by omega), rk_f h]
  omega
theorem pst_le (s : Nat) : pst w t p s ≤ s := by
  unfold pst
  split
  · omega
  · have := (rk_mono (w := w) (t := t) (show p ≤ s by omega)).2
    omega
theorem pst_z (s : Nat) : pst w t 0 s = rk w t s := by
  unfold pst
  rw [if_neg (by omega)]
  have e : rk w t 0 = 0 := rfl
  omega
theorem pst_ge (h : p ≤ s) : p ≤ pst w t p s := by
  unfold pst
  rw [if_neg (by omega)]
  omega
end PST
theorem last_87 : True := trivial
