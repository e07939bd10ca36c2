/-! printed by wip/whole/gen5.py: the worlds behind the constructors -/
def permT : List Nat := [0, 22, 23, 108, 115, 1, 24, 45, 66, 87, 2, 3, 4, 5, 6, 7, 8, 9, 10, 11, 12, 13, 14, 15, 16, 17, 18, 19, 20, 21, 25, 26, 27, 28, 29, 30, 31, 32, 33, 34, 35, 36, 37, 38, 39, 40, 41, 42, 43, 44, 46, 47, 48, 49, 50, 51, 52, 53, 54, 55, 56, 57, 58, 59, 60, 61, 62, 63, 64, 65, 67, 68, 69, 70, 71, 72, 73, 74, 75, 76, 77, 78, 79, 80, 81, 82, 83, 84, 85, 86, 88, 89, 90, 91, 92, 93, 94, 95, 96, 97, 98, 99, 100, 101, 102, 103, 104, 105, 106, 107, 109, 110, 111, 112, 113, 114]
def scC : List Int := [0, 1, 0, 0, 0, 0, 0, 0, 0, 1, 0, 0, 0, 0, 0, 0, 0, 1, 0, 0, 0, 0, 0, 0, 0, 1, 0, 0, 0, 0, 0, 0, 0, 1, 0, 0, 0, 0, 0, 0, 0, 0, 0, 0, 0, -1, -2, -1, 0, -1]
def gC : Nat → Nat → Int32
  | 0 => gfill 16 (jI 2) (fun _ => 0)
  | 1 => gfill 16 (jI 2) (fun _ => 0)
  | 3 => gfill 144 (jI (-2)) (fun _ => 0)
  | _ => fun _ => 0
/-- the class's state behind its constructor -/
def sC0 : ST := (fun r => if r < 50 then gC (r % 10) else fun _ => 0, fun k => jI (scC.getD k 0))
/-- the reference's -/
def sM0 : ST := (fun r => if r = 0 then g2 144 else fun _ => 0, fun _ => 0)
def adT (ad : Nat → Nat) (i : Nat) : Nat := ad (permT.getD i 0)
theorem permT_inj : ∀ i, i < 116 → ∀ j, j < 116 → permT.getD i 0 = permT.getD j 0 → i = j := by decide +kernel
theorem permT_lt : ∀ i, i < 116 → permT.getD i 0 < 116 := by decide +kernel
theorem zI.perm {ad : Nat → Nat} (h : zI 116 ad) : zI 116 (adT ad) := fun i j hi hj e => permT_inj i hi j hj (h _ _ (permT_lt i hi) (permT_lt j hj) e)
theorem lt_step {P : Nat → Prop} {n : Nat} (h : ∀ i, i < n → P i) (hn : P n) : ∀ i, i < n + 1 → P i := fun i hi => by
  rcases Nat.lt_succ_iff_lt_or_eq.mp hi with h1 | h1
  · exact h i h1
  · rw [h1]; exact hn
theorem lt_zero {P : Nat → Prop} : ∀ i, i < 0 → P i := fun i hi => absurd hi (Nat.not_lt_zero i)
theorem arrV_congr (cI : ClassId) (N : Nat) {f g : Nat → Value} (h : ∀ j, j < N → f j = g j) : arrV cI N f = arrV cI N g := by
  unfold arrV
  congr 2
  funext j
  exact h j.1 j.2
def tP (D : va_G) (cy : cyT) (ad : Nat → Nat) (H : Heap) (i : Nat) : Prop := va_at D vwCl (adT ad i, zce cy (adT ad) sC0 i) H
set_option maxRecDepth 100000 in
set_option maxHeartbeats 4000000 in
theorem zW_T {D : va_G} {cy : cyT} {ad : Nat → Nat} {H : Heap} (h : zV D (lT cy ad) ad H) : zW D 116 (zce cy (adT ad) sC0) (adT ad) H := by
  show ∀ i, i < 116 → tP D cy ad H i
  refine lt_step (n := 115) ?_ (h 114 _ rfl)
  refine lt_step (n := 114) ?_ (h 113 _ rfl)
  refine lt_step (n := 113) ?_ (h 112 _ rfl)
  refine lt_step (n := 112) ?_ (h 111 _ rfl)
  refine lt_step (n := 111) ?_ (h 110 _ rfl)
  refine lt_step (n := 110) ?_ (h 109 _ rfl)
  refine lt_step (n := 109) ?_ (h 107 _ rfl)
  refine lt_step (n := 108) ?_ (h 106 _ rfl)
  refine lt_step (n := 107) ?_ (h 105 _ rfl)
  refine lt_step (n := 106) ?_ (h 104 _ rfl)
  refine lt_step (n := 105) ?_ (h 103 _ rfl)
  refine lt_step (n := 104) ?_ (h 102 _ rfl)
  refine lt_step (n := 103) ?_ (h 101 _ rfl)
  refine lt_step (n := 102) ?_ (h 100 _ rfl)
  refine lt_step (n := 101) ?_ (h 99 _ rfl)
  refine lt_step (n := 100) ?_ (h 98 _ rfl)
  refine lt_step (n := 99) ?_ (h 97 _ rfl)
  refine lt_step (n := 98) ?_ (h 96 _ rfl)
  refine lt_step (n := 97) ?_ (h 95 _ rfl)
  refine lt_step (n := 96) ?_ (h 94 _ rfl)
  refine lt_step (n := 95) ?_ (h 93 _ rfl)
  refine lt_step (n := 94) ?_ (h 92 _ rfl)
  refine lt_step (n := 93) ?_ (h 91 _ rfl)
  refine lt_step (n := 92) ?_ (h 90 _ rfl)
  refine lt_step (n := 91) ?_ (h 89 _ rfl)
  refine lt_step (n := 90) ?_ (h 88 _ rfl)
  refine lt_step (n := 89) ?_ (h 86 _ rfl)
  refine lt_step (n := 88) ?_ (h 85 _ rfl)
  refine lt_step (n := 87) ?_ (h 84 _ rfl)
  refine lt_step (n := 86) ?_ (h 83 _ rfl)
  refine lt_step (n := 85) ?_ (h 82 _ rfl)
  refine lt_step (n := 84) ?_ (h 81 _ rfl)
  refine lt_step (n := 83) ?_ (h 80 _ rfl)
  refine lt_step (n := 82) ?_ (h 79 _ rfl)
  refine lt_step (n := 81) ?_ (h 78 _ rfl)
  refine lt_step (n := 80) ?_ (h 77 _ rfl)
  refine lt_step (n := 79) ?_ (h 76 _ rfl)
  refine lt_step (n := 78) ?_ (h 75 _ rfl)
  refine lt_step (n := 77) ?_ (h 74 _ rfl)
  refine lt_step (n := 76) ?_ (h 73 _ rfl)
  refine lt_step (n := 75) ?_ (h 72 _ rfl)
  refine lt_step (n := 74) ?_ (h 71 _ rfl)
  refine lt_step (n := 73) ?_ (h 70 _ rfl)
  refine lt_step (n := 72) ?_ (h 69 _ rfl)
  refine lt_step (n := 71) ?_ (h 68 _ rfl)
  refine lt_step (n := 70) ?_ (h 67 _ rfl)
  refine lt_step (n := 69) ?_ (h 65 _ rfl)
  refine lt_step (n := 68) ?_ (h 64 _ rfl)
  refine lt_step (n := 67) ?_ (h 63 _ rfl)
  refine lt_step (n := 66) ?_ (h 62 _ rfl)
  refine lt_step (n := 65) ?_ (h 61 _ rfl)
  refine lt_step (n := 64) ?_ (h 60 _ rfl)
  refine lt_step (n := 63) ?_ (h 59 _ rfl)
  refine lt_step (n := 62) ?_ (h 58 _ rfl)
  refine lt_step (n := 61) ?_ (h 57 _ rfl)
  refine lt_step (n := 60) ?_ (h 56 _ rfl)
  refine lt_step (n := 59) ?_ (h 55 _ rfl)
  refine lt_step (n := 58) ?_ (h 54 _ rfl)
  refine lt_step (n := 57) ?_ (h 53 _ rfl)
  refine lt_step (n := 56) ?_ (h 52 _ rfl)
  refine lt_step (n := 55) ?_ (h 51 _ rfl)
  refine lt_step (n := 54) ?_ (h 50 _ rfl)
  refine lt_step (n := 53) ?_ (h 49 _ rfl)
  refine lt_step (n := 52) ?_ (h 48 _ rfl)
  refine lt_step (n := 51) ?_ (h 47 _ rfl)
  refine lt_step (n := 50) ?_ (h 46 _ rfl)
  refine lt_step (n := 49) ?_ (h 44 _ rfl)
  refine lt_step (n := 48) ?_ (h 43 _ rfl)
  refine lt_step (n := 47) ?_ (h 42 _ rfl)
  refine lt_step (n := 46) ?_ (h 41 _ rfl)
  refine lt_step (n := 45) ?_ (h 40 _ rfl)
  refine lt_step (n := 44) ?_ (h 39 _ rfl)
  refine lt_step (n := 43) ?_ (h 38 _ rfl)
  refine lt_step (n := 42) ?_ (h 37 _ rfl)
  refine lt_step (n := 41) ?_ (h 36 _ rfl)
  refine lt_step (n := 40) ?_ (h 35 _ rfl)
  refine lt_step (n := 39) ?_ (h 34 _ rfl)
  refine lt_step (n := 38) ?_ (h 33 _ rfl)
  refine lt_step (n := 37) ?_ (h 32 _ rfl)
  refine lt_step (n := 36) ?_ (h 31 _ rfl)
  refine lt_step (n := 35) ?_ (h 30 _ rfl)
  refine lt_step (n := 34) ?_ (h 29 _ rfl)
  refine lt_step (n := 33) ?_ (h 28 _ rfl)
  refine lt_step (n := 32) ?_ (h 27 _ rfl)
  refine lt_step (n := 31) ?_ (h 26 _ rfl)
  refine lt_step (n := 30) ?_ (h 25 _ rfl)
  refine lt_step (n := 29) ?_ (h 21 _ rfl)
  refine lt_step (n := 28) ?_ (h 20 _ rfl)
  refine lt_step (n := 27) ?_ (h 19 _ rfl)
  refine lt_step (n := 26) ?_ (h 18 _ rfl)
  refine lt_step (n := 25) ?_ (h 17 _ rfl)
  refine lt_step (n := 24) ?_ (h 16 _ rfl)
  refine lt_step (n := 23) ?_ (h 15 _ rfl)
  refine lt_step (n := 22) ?_ (h 14 _ rfl)
  refine lt_step (n := 21) ?_ (h 13 _ rfl)
  refine lt_step (n := 20) ?_ (h 12 _ rfl)
  refine lt_step (n := 19) ?_ (h 11 _ rfl)
  refine lt_step (n := 18) ?_ (h 10 _ rfl)
  refine lt_step (n := 17) ?_ (h 9 _ rfl)
  refine lt_step (n := 16) ?_ (h 8 _ rfl)
  refine lt_step (n := 15) ?_ (h 7 _ rfl)
  refine lt_step (n := 14) ?_ (h 6 _ rfl)
  refine lt_step (n := 13) ?_ (h 5 _ rfl)
  refine lt_step (n := 12) ?_ (h 4 _ rfl)
  refine lt_step (n := 11) ?_ (h 3 _ rfl)
  refine lt_step (n := 10) ?_ (h 2 _ rfl)
  refine lt_step (n := 9) ?_ (h 87 _ rfl)
  refine lt_step (n := 8) ?_ (h 66 _ rfl)
  refine lt_step (n := 7) ?_ (h 45 _ rfl)
  refine lt_step (n := 6) ?_ (h 24 _ rfl)
  refine lt_step (n := 5) ?_ (h 1 _ rfl)
  refine lt_step (n := 4) ?_ (h 115 _ rfl)
  refine lt_step (n := 3) ?_ (h 108 _ rfl)
  refine lt_step (n := 2) ?_ (by
    have h9 : va_at D vwCl (ad 23, .inl (cy.2.2, 4, .inr (.inr (.inr (.inr (va_up (va_up (va_up (va_up (fun _ => none) 0 (some (ad 24))) 1 (some (ad 45))) 2 (some (ad 66))) 3 (some (ad 87)))))))) H := h 23 _ rfl
    have e9 : vp_cell cy.2.2 (4, .inr (.inr (.inr (.inr (va_up (va_up (va_up (va_up (fun _ => none) 0 (some (ad 24))) 1 (some (ad 45))) 2 (some (ad 66))) 3 (some (ad 87))))))) = vp_cell cy.2.2 (4, .inr (.inr (.inr (.inr (fun i => some (adT ad (6 + i))))))) := by
      rw [vp_cell_q, vp_cell_q]
      refine arrV_congr _ _ (fun j hj => ?_)
      rcases j with _ | _ | _ | _ | j
      · rfl
      · rfl
      · rfl
      · rfl
      · omega
    have h8 : H[ad 23]? = some (vp_cell cy.2.2 (4, .inr (.inr (.inr (.inr (va_up (va_up (va_up (va_up (fun _ => none) 0 (some (ad 24))) 1 (some (ad 45))) 2 (some (ad 66))) 3 (some (ad 87)))))))) := h9
    rw [e9] at h8
    exact h8)
  refine lt_step (n := 1) ?_ (h 22 _ rfl)
  refine lt_step (n := 0) ?_ (h 0 _ rfl)
  exact lt_zero
set_option maxRecDepth 100000 in
theorem zW_M {D : va_G} {cy : cyT} {ad : Nat → Nat} {H : Heap} (h : zV D (lM cy (g2 144) ad) ad H) : zW D 6 (zme cy ad sM0) ad H := by
  refine lt_step (n := 5) ?_ (h 5 _ rfl)
  refine lt_step (n := 4) ?_ (h 4 _ rfl)
  refine lt_step (n := 3) ?_ (h 3 _ rfl)
  refine lt_step (n := 2) ?_ (h 2 _ rfl)
  refine lt_step (n := 1) ?_ (h 1 _ rfl)
  refine lt_step (n := 0) ?_ (h 0 _ rfl)
  exact lt_zero
theorem last_20 : True := trivial
