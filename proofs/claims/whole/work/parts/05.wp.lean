/-! printed by wip/whole/gen.py: what each method does, read off its bytecode -/
def wp_X0_append (σ : ST) (p0 : Int32) (Q : Int32 → ST → Prop) : Prop :=
  (∀ s1 : ST, s1 = zrs σ 50 (σ.2 42) p0 → (∀ s2 : ST, s2 = zsp s1 42 ((s1.2 42) + (jI 1)) → Q (s2.2 42) s2))
def wp_X0_empty (σ : ST)  (Q : Int32 → ST → Prop) : Prop :=
  (∀ s1 : ST, s1 = zsp σ 42 (jI 0) → Q (σ.2 42) s1)
def wp_X0_wordOf (σ : ST) (p0 : Int32) (Q : Int32 → ST → Prop) : Prop :=
  (∀ v1 : Int32, v1 = zrg σ 51 p0 → Q v1 σ)
def wp_X0_numberOf (σ : ST) (p0 : Int32) (p1 : Int32) (Q : Int32 → ST → Prop) : Prop :=
  (∀ v1 : Int32, v1 = zrg σ 52 ((p0 * (jI 3)) + p1) → Q v1 σ)
def wp_X0_byteAt (σ : ST) (p0 : Int32) (Q : Int32 → ST → Prop) : Prop :=
  (((σ.2 42) ≤ p0 → Q (jI (-1)) σ) ∧ (¬ (σ.2 42) ≤ p0 → (∀ v1 : Int32, v1 = zrg σ 50 p0 → Q v1 σ)))
def wb_X0_skipSpaces_0 (K37 : ST → Prop) (LL : ST → Prop)  (t_0 : ST)  : Prop :=
  (((t_0.2 42) ≤ (t_0.2 43) → K37 t_0) ∧ (¬ (t_0.2 42) ≤ (t_0.2 43) → wp_X0_byteAt t_0 (t_0.2 43) (fun r1 s1 => ((r1 = (jI 32) → (∀ s2 : ST, s2 = zsp s1 43 ((s1.2 43) + (jI 1)) → LL s2)) ∧ (¬ r1 = (jI 32) → K37 s1)))))
def wl_X0_skipSpaces_0 (K37 : ST → Prop)  : Nat → ST → Prop
  | 0 => fun _ => False
  | nn + 1 => wb_X0_skipSpaces_0 K37 (wl_X0_skipSpaces_0 K37  nn) 
def wp_X0_skipSpaces (σ : ST)  (Q : ST → Prop) : Prop :=
  (∃ nn : Nat, wl_X0_skipSpaces_0 (fun u_37 => Q u_37)  nn σ )
def wp_X0_isLetter (σ : ST) (p0 : Int32) (Q : Int32 → ST → Prop) : Prop :=
  ((p0 < (jI 97) → Q (jI 0) σ) ∧ (¬ p0 < (jI 97) → (((jI 122) < p0 → Q (jI 0) σ) ∧ (¬ (jI 122) < p0 → Q (jI 1) σ))))
def wb_X0_skipLetters_0 (K38 : ST → Prop) (LL : ST → Prop)  (t_0 : ST)  : Prop :=
  (((t_0.2 42) ≤ (t_0.2 43) → K38 t_0) ∧ (¬ (t_0.2 42) ≤ (t_0.2 43) → wp_X0_byteAt t_0 (t_0.2 43) (fun r1 s1 => wp_X0_isLetter s1 r1 (fun r2 s2 => ((r2 = (jI 0) → K38 s2) ∧ (¬ r2 = (jI 0) → (∀ s3 : ST, s3 = zsp s2 43 ((s2.2 43) + (jI 1)) → LL s3)))))))
def wl_X0_skipLetters_0 (K38 : ST → Prop)  : Nat → ST → Prop
  | 0 => fun _ => False
  | nn + 1 => wb_X0_skipLetters_0 K38 (wl_X0_skipLetters_0 K38  nn) 
def wp_X0_skipLetters (σ : ST)  (Q : ST → Prop) : Prop :=
  (∃ nn : Nat, wl_X0_skipLetters_0 (fun u_38 => Q u_38)  nn σ )
def wp_X0_numbersAfter (σ : ST) (p0 : Int32) (Q : Int32 → ST → Prop) : Prop :=
  ((p0 = (jI 0) → Q (jI 3) σ) ∧ (¬ p0 = (jI 0) → ((p0 = (jI 1) → Q (jI 3) σ) ∧ (¬ p0 = (jI 1) → ((p0 = (jI 2) → Q (jI 3) σ) ∧ (¬ p0 = (jI 2) → Q (jI 0) σ))))))
def wp_X0_isDigit (σ : ST) (p0 : Int32) (Q : Int32 → ST → Prop) : Prop :=
  ((p0 < (jI 48) → Q (jI 0) σ) ∧ (¬ p0 < (jI 48) → (((jI 57) < p0 → Q (jI 0) σ) ∧ (¬ (jI 57) < p0 → Q (jI 1) σ))))
def wp_X0_readNumber (σ : ST) (p0 : Int32) (Q : Int32 → ST → Prop) : Prop :=
  wp_X0_byteAt σ (σ.2 43) (fun r1 s1 => ((r1 = (jI 32) → wp_X0_skipSpaces s1 (fun s2 => wp_X0_byteAt s2 (s2.2 43) (fun r2 s3 => wp_X0_isDigit s3 r2 (fun r3 s4 => ((r3 = (jI 0) → Q (jI 0) s4) ∧ (¬ r3 = (jI 0) → wp_X0_byteAt s4 (s4.2 43) (fun r4 s5 => (∀ x1 : Int32, x1 = (r4 - (jI 48)) → (∀ s6 : ST, s6 = zsp s5 43 ((s5.2 43) + (jI 1)) → wp_X0_byteAt s6 (s6.2 43) (fun r5 s7 => wp_X0_isDigit s7 r5 (fun r6 s8 => ((r6 = (jI 0) → (∀ s9 : ST, s9 = zrs s8 52 (((s8.2 44) * (jI 3)) + p0) x1 → Q (jI 1) s9)) ∧ (¬ r6 = (jI 0) → wp_X0_byteAt s8 (s8.2 43) (fun r7 s10 => (∀ x2 : Int32, x2 = ((((jI 10) * x1) + r7) - (jI 48)) → (∀ s11 : ST, s11 = zsp s10 43 ((s10.2 43) + (jI 1)) → (∀ s12 : ST, s12 = zrs s11 52 (((s11.2 44) * (jI 3)) + p0) x2 → Q (jI 1) s12))))))))))))))))) ∧ (¬ r1 = (jI 32) → Q (jI 0) s1)))
def wp_X1_isFree (σ : ST) (p0 : Int32) (p1 : Int32) (Q : Int32 → ST → Prop) : Prop :=
  ((((p0 >>> (p1 &&& 31)) &&& (jI 1)) = (jI 0) → Q (jI 1) σ) ∧ (¬ ((p0 >>> (p1 &&& 31)) &&& (jI 1)) = (jI 0) → Q (jI 0) σ))
def wb_X1_count_4 (K41 : ST → Int32 → Prop) (LL : ST → Int32 → Int32 → Prop) (f0_4 : Int32) (t_4 : ST) (y1_4 : Int32) (y2_4 : Int32) : Prop :=
  (((jI 24) ≤ y2_4 → K41 t_4 y1_4) ∧ (¬ (jI 24) ≤ y2_4 → wp_X1_isFree t_4 f0_4 y2_4 (fun r1 s1 => ((r1 = (jI 0) → (∀ x1 : Int32, x1 = y2_4 + (jI 1) → LL s1 y1_4 x1)) ∧ (¬ r1 = (jI 0) → ((y2_4 = (jI 0) → (∀ x2 : Int32, x2 = y1_4 + (jI 1) → (∀ x3 : Int32, x3 = y2_4 + (jI 1) → LL s1 x2 x3))) ∧ (¬ y2_4 = (jI 0) → wp_X1_isFree s1 f0_4 (y2_4 - (jI 1)) (fun r2 s2 => ((r2 = (jI 0) → (∀ x5 : Int32, x5 = y1_4 + (jI 1) → (∀ x6 : Int32, x6 = y2_4 + (jI 1) → LL s2 x5 x6))) ∧ (¬ r2 = (jI 0) → (∀ x4 : Int32, x4 = y2_4 + (jI 1) → LL s2 y1_4 x4)))))))))))
def wl_X1_count_4 (K41 : ST → Int32 → Prop) (f0_4 : Int32) : Nat → ST → Int32 → Int32 → Prop
  | 0 => fun _ _ _ => False
  | nn + 1 => wb_X1_count_4 K41 (wl_X1_count_4 K41 f0_4 nn) f0_4
def wp_X1_count (σ : ST) (p0 : Int32) (Q : Int32 → ST → Prop) : Prop :=
  (∃ nn : Nat, wl_X1_count_4 (fun u_41 z1_41 => Q z1_41 u_41) p0 nn σ (jI 0) (jI 0))
def wb_X1_widest_6 (K40 : ST → Int32 → Prop) (LL : ST → Int32 → Int32 → Int32 → Prop) (f0_6 : Int32) (t_6 : ST) (y1_6 : Int32) (y2_6 : Int32) (y3_6 : Int32) : Prop :=
  (((jI 24) ≤ y3_6 → K40 t_6 y1_6) ∧ (¬ (jI 24) ≤ y3_6 → wp_X1_isFree t_6 f0_6 y3_6 (fun r1 s1 => ((r1 = (jI 0) → (∀ x1 : Int32, x1 = (if y1_6 < (jI 0) then (jI 0) else y1_6) → (∀ x2 : Int32, x2 = y3_6 + (jI 1) → LL s1 x1 (jI 0) x2))) ∧ (¬ r1 = (jI 0) → (∀ x3 : Int32, x3 = (y2_6 + (jI 1)) → (∀ x4 : Int32, x4 = (if y1_6 < x3 then x3 else y1_6) → (∀ x5 : Int32, x5 = y3_6 + (jI 1) → LL s1 x4 x3 x5))))))))
def wl_X1_widest_6 (K40 : ST → Int32 → Prop) (f0_6 : Int32) : Nat → ST → Int32 → Int32 → Int32 → Prop
  | 0 => fun _ _ _ _ => False
  | nn + 1 => wb_X1_widest_6 K40 (wl_X1_widest_6 K40 f0_6 nn) f0_6
def wp_X1_widest (σ : ST) (p0 : Int32) (Q : Int32 → ST → Prop) : Prop :=
  (∃ nn : Nat, wl_X1_widest_6 (fun u_40 z1_40 => Q z1_40 u_40) p0 nn σ (jI 0) (jI 0) (jI 0))
def wb_X1_leftmost_4 (K31 : ST → Int32 → Int32 → Prop) (K43 : ST → Prop) (LL : ST → Int32 → Int32 → Prop) (f0_4 : Int32) (f1_4 : Int32) (t_4 : ST) (y2_4 : Int32) (y3_4 : Int32) : Prop :=
  (((jI 24) ≤ y3_4 → K43 t_4) ∧ (¬ (jI 24) ≤ y3_4 → wp_X1_isFree t_4 f0_4 y3_4 (fun r1 s1 => ((r1 = (jI 0) → (((jI 0) < f1_4 → (∀ x1 : Int32, x1 = y3_4 + (jI 1) → LL s1 (jI 0) x1)) ∧ (¬ (jI 0) < f1_4 → K31 s1 (jI 0) y3_4))) ∧ (¬ r1 = (jI 0) → (∀ x2 : Int32, x2 = (y2_4 + (jI 1)) → ((x2 < f1_4 → (∀ x3 : Int32, x3 = y3_4 + (jI 1) → LL s1 x2 x3)) ∧ (¬ x2 < f1_4 → K31 s1 x2 y3_4))))))))
def wl_X1_leftmost_4 (K31 : ST → Int32 → Int32 → Prop) (K43 : ST → Prop) (f0_4 : Int32) (f1_4 : Int32) : Nat → ST → Int32 → Int32 → Prop
  | 0 => fun _ _ _ => False
  | nn + 1 => wb_X1_leftmost_4 K31 K43 (wl_X1_leftmost_4 K31 K43 f0_4 f1_4 nn) f0_4 f1_4
def wp_X1_leftmost (σ : ST) (p0 : Int32) (p1 : Int32) (Q : Int32 → ST → Prop) : Prop :=
  (∃ nn : Nat, wl_X1_leftmost_4 (fun u_31 z2_31 z3_31 => Q ((z3_31 - z2_31) + (jI 1)) u_31) (fun u_43 => Q (jI (-1)) u_43) p0 p1 nn σ (jI 0) (jI 0))
def wp_X2_choose (σ : ST) (p0 : Int32) (p1 : Int32) (p2 : Int32) (Q : ST → Prop) : Prop :=
  (∀ s1 : ST, s1 = zsp σ 45 p0 → (∀ s2 : ST, s2 = zsp s1 46 p1 → (∀ s3 : ST, s3 = zsp s2 47 p2 → Q s3)))
def wp_X4_isThere (σ : ST) (p0 : Int32) (Q : Int32 → ST → Prop) : Prop :=
  (∀ v1 : Int32, v1 = zrg σ 3 p0 → ((v1 = (jI (-2)) → Q (jI 0) σ) ∧ (¬ v1 = (jI (-2)) → Q (jI 1) σ)))
def wp_X6_signOf (σ : ST) (p0 : Int32) (Q : Int32 → ST → Prop) : Prop :=
  Q (p0 / (jI 9)) σ
def wp_X6_sizeOf (σ : ST) (p0 : Int32) (Q : Int32 → ST → Prop) : Prop :=
  Q (((p0 / (jI 3)) - (p0 / (jI 3)) / (jI 3) * (jI 3)) + (jI 1)) σ
def wp_X6_blurOf (σ : ST) (p0 : Int32) (Q : Int32 → ST → Prop) : Prop :=
  Q (p0 - p0 / (jI 3) * (jI 3)) σ
def wp_X4_widthOf (σ : ST) (p0 : Int32) (Q : Int32 → ST → Prop) : Prop :=
  wp_X6_signOf σ p0 (fun r1 s1 => (∀ v1 : Int32, v1 = zrg s1 0 r1 → wp_X6_sizeOf s1 p0 (fun r2 s2 => wp_X6_blurOf s2 p0 (fun r3 s3 => Q ((v1 * r2) + ((jI 2) * r3)) s3))))
def wp_X4_heightOf (σ : ST) (p0 : Int32) (Q : Int32 → ST → Prop) : Prop :=
  wp_X6_signOf σ p0 (fun r1 s1 => (∀ v1 : Int32, v1 = zrg s1 1 r1 → wp_X6_sizeOf s1 p0 (fun r2 s2 => wp_X6_blurOf s2 p0 (fun r3 s3 => Q ((v1 * r2) + ((jI 2) * r3)) s3))))
def wp_X4_heightOfShelf (σ : ST) (p0 : Int32) (Q : Int32 → ST → Prop) : Prop :=
  (∀ v1 : Int32, v1 = zrg σ 2 p0 → Q v1 σ)
def wb_X4_coverOf_4 (K67 : ST → Int32 → Prop) (LL : ST → Int32 → Int32 → Prop) (f1_4 : Int32) (t_4 : ST) (y2_4 : Int32) (y3_4 : Int32) : Prop :=
  (((t_4.2 0) ≤ y3_4 → K67 t_4 y2_4) ∧ (¬ (t_4.2 0) ≤ y3_4 → (∀ v1 : Int32, v1 = zrg t_4 9 y3_4 → (∀ v2 : Int32, v2 = zrg t_4 3 v1 → ((v2 = f1_4 → (∀ v3 : Int32, v3 = zrg t_4 5 v1 → (∀ v4 : Int32, v4 = zrg t_4 4 v1 → (∀ x2 : Int32, x2 = (y2_4 ||| (((jI 1) <<< (v3 &&& 31)) - ((jI 1) <<< (v4 &&& 31)))) → (∀ x3 : Int32, x3 = y3_4 + (jI 1) → LL t_4 x2 x3))))) ∧ (¬ v2 = f1_4 → (∀ x1 : Int32, x1 = y3_4 + (jI 1) → LL t_4 y2_4 x1)))))))
def wl_X4_coverOf_4 (K67 : ST → Int32 → Prop) (f1_4 : Int32) : Nat → ST → Int32 → Int32 → Prop
  | 0 => fun _ _ _ => False
  | nn + 1 => wb_X4_coverOf_4 K67 (wl_X4_coverOf_4 K67 f1_4 nn) f1_4
def wp_X4_coverOf (σ : ST) (p0 : Int32) (Q : Int32 → ST → Prop) : Prop :=
  (∃ nn : Nat, wl_X4_coverOf_4 (fun u_67 z2_67 => Q z2_67 u_67) p0 nn σ (jI 0) (jI 0))
def wb_X2_findGap_20 (K87 : ST → Prop) (LL : ST → Int32 → Int32 → Prop) (f3_20 : Int32) (f4_20 : Int32) (t_20 : ST) (y5_20 : Int32) (y6_20 : Int32) : Prop :=
  (((jI 72) ≤ y6_20 → K87 t_20) ∧ (¬ (jI 72) ≤ y6_20 → wp_X4_heightOfShelf t_20 y6_20 (fun r3 s3 => (∀ x1 : Int32, x1 = (r3 - f4_20) → ((x1 < (jI 0) → (∀ x2 : Int32, x2 = y6_20 + (jI 1) → LL s3 y5_20 x2)) ∧ (¬ x1 < (jI 0) → ((y5_20 ≤ x1 → (∀ x3 : Int32, x3 = y6_20 + (jI 1) → LL s3 y5_20 x3)) ∧ (¬ y5_20 ≤ x1 → wp_X4_coverOf s3 y6_20 (fun r4 s4 => wp_X1_leftmost s4 r4 f3_20 (fun r5 s5 => ((r5 = (jI (-1)) → (∀ x4 : Int32, x4 = y6_20 + (jI 1) → LL s5 y5_20 x4)) ∧ (¬ r5 = (jI (-1)) → wp_X2_choose s5 (jI 1) y6_20 r5 (fun s6 => (∀ x5 : Int32, x5 = y6_20 + (jI 1) → LL s6 x1 x5))))))))))))))
def wl_X2_findGap_20 (K87 : ST → Prop) (f3_20 : Int32) (f4_20 : Int32) : Nat → ST → Int32 → Int32 → Prop
  | 0 => fun _ _ _ => False
  | nn + 1 => wb_X2_findGap_20 K87 (wl_X2_findGap_20 K87 f3_20 f4_20 nn) f3_20 f4_20
def wp_X2_findGap (σ : ST) (p1 : Int32) (Q : ST → Prop) : Prop :=
  wp_X4_widthOf σ p1 (fun r1 s1 => wp_X4_heightOf s1 p1 (fun r2 s2 => (∃ nn : Nat, wl_X2_findGap_20 (fun u_87 => Q u_87) r1 r2 nn s2 (jI 24) (jI 0))))
def wb_X4_heightOfShelves_7 (K35 : ST → Int32 → Prop) (LL : ST → Int32 → Int32 → Prop) (f1_7 : Int32) (t_7 : ST) (y2_7 : Int32) (y3_7 : Int32) : Prop :=
  ((((f1_7 * (jI 24)) + (jI 24)) ≤ y3_7 → K35 t_7 y2_7) ∧ (¬ ((f1_7 * (jI 24)) + (jI 24)) ≤ y3_7 → (∀ v1 : Int32, v1 = zrg t_7 2 y3_7 → (∀ x2 : Int32, x2 = (y2_7 + v1) → (∀ x3 : Int32, x3 = y3_7 + (jI 1) → LL t_7 x2 x3)))))
def wl_X4_heightOfShelves_7 (K35 : ST → Int32 → Prop) (f1_7 : Int32) : Nat → ST → Int32 → Int32 → Prop
  | 0 => fun _ _ _ => False
  | nn + 1 => wb_X4_heightOfShelves_7 K35 (wl_X4_heightOfShelves_7 K35 f1_7 nn) f1_7
def wp_X4_heightOfShelves (σ : ST) (p0 : Int32) (Q : Int32 → ST → Prop) : Prop :=
  (∀ x1 : Int32, x1 = (p0 * (jI 24)) → (∃ nn : Nat, wl_X4_heightOfShelves_7 (fun u_35 z2_35 => Q z2_35 u_35) p0 nn σ (jI 0) x1))
def wb_X4_countShelves_7 (K38 : ST → Int32 → Prop) (LL : ST → Int32 → Int32 → Prop) (f1_7 : Int32) (t_7 : ST) (y2_7 : Int32) (y3_7 : Int32) : Prop :=
  ((((f1_7 * (jI 24)) + (jI 24)) ≤ y3_7 → K38 t_7 y2_7) ∧ (¬ ((f1_7 * (jI 24)) + (jI 24)) ≤ y3_7 → (∀ v1 : Int32, v1 = zrg t_7 2 y3_7 → ((v1 ≤ (jI 0) → (∀ x2 : Int32, x2 = y3_7 + (jI 1) → LL t_7 y2_7 x2)) ∧ (¬ v1 ≤ (jI 0) → (∀ x3 : Int32, x3 = y2_7 + (jI 1) → (∀ x4 : Int32, x4 = y3_7 + (jI 1) → LL t_7 x3 x4)))))))
def wl_X4_countShelves_7 (K38 : ST → Int32 → Prop) (f1_7 : Int32) : Nat → ST → Int32 → Int32 → Prop
  | 0 => fun _ _ _ => False
  | nn + 1 => wb_X4_countShelves_7 K38 (wl_X4_countShelves_7 K38 f1_7 nn) f1_7
def wp_X4_countShelves (σ : ST) (p0 : Int32) (Q : Int32 → ST → Prop) : Prop :=
  (∀ x1 : Int32, x1 = (p0 * (jI 24)) → (∃ nn : Nat, wl_X4_countShelves_7 (fun u_38 z2_38 => Q z2_38 u_38) p0 nn σ (jI 0) x1))
def wb_X2_findRoomForShelf_9 (K31 : ST → Int32 → Prop) (K56 : ST → Prop) (LL : ST → Int32 → Prop) (f3_9 : Int32) (t_9 : ST) (y4_9 : Int32) : Prop :=
  (((t_9.2 1) ≤ y4_9 → K56 t_9) ∧ (¬ (t_9.2 1) ≤ y4_9 → wp_X4_heightOfShelves t_9 y4_9 (fun r2 s2 => (((jI 24) < (r2 + f3_9) → (∀ x1 : Int32, x1 = y4_9 + (jI 1) → LL s2 x1)) ∧ (¬ (jI 24) < (r2 + f3_9) → K31 s2 y4_9)))))
def wl_X2_findRoomForShelf_9 (K31 : ST → Int32 → Prop) (K56 : ST → Prop) (f3_9 : Int32) : Nat → ST → Int32 → Prop
  | 0 => fun _ _ => False
  | nn + 1 => wb_X2_findRoomForShelf_9 K31 K56 (wl_X2_findRoomForShelf_9 K31 K56 f3_9 nn) f3_9
def wp_X2_findRoomForShelf (σ : ST) (p1 : Int32) (Q : ST → Prop) : Prop :=
  wp_X4_heightOf σ p1 (fun r1 s1 => (∃ nn : Nat, wl_X2_findRoomForShelf_9 (fun u_31 z4_31 => wp_X4_countShelves u_31 z4_31 (fun r3 s3 => wp_X2_choose s3 (jI 2) ((z4_31 * (jI 24)) + r3) (jI 0) (fun s4 => Q s4))) (fun u_56 => Q u_56) r1 nn s1 (jI 0)))
def wp_X4_isOfLine (σ : ST) (p0 : Int32) (Q : Int32 → ST → Prop) : Prop :=
  (∀ v1 : Int32, v1 = zrg σ 7 p0 → ((v1 = (σ.2 2) → Q (jI 1) σ) ∧ (¬ v1 = (σ.2 2) → Q (jI 0) σ)))
def wb_X4_hasLetterOfLine_2 (K39 : ST → Prop) (K47 : ST → Prop) (LL : ST → Int32 → Prop) (f1_2 : Int32) (t_2 : ST) (y2_2 : Int32) : Prop :=
  (((t_2.2 0) ≤ y2_2 → K47 t_2) ∧ (¬ (t_2.2 0) ≤ y2_2 → (∀ v1 : Int32, v1 = zrg t_2 9 y2_2 → (∀ v2 : Int32, v2 = zrg t_2 3 v1 → ((v2 = f1_2 → wp_X4_isOfLine t_2 v1 (fun r1 s1 => ((r1 = (jI 0) → (∀ x2 : Int32, x2 = y2_2 + (jI 1) → LL s1 x2)) ∧ (¬ r1 = (jI 0) → K39 s1)))) ∧ (¬ v2 = f1_2 → (∀ x1 : Int32, x1 = y2_2 + (jI 1) → LL t_2 x1)))))))
def wl_X4_hasLetterOfLine_2 (K39 : ST → Prop) (K47 : ST → Prop) (f1_2 : Int32) : Nat → ST → Int32 → Prop
  | 0 => fun _ _ => False
  | nn + 1 => wb_X4_hasLetterOfLine_2 K39 K47 (wl_X4_hasLetterOfLine_2 K39 K47 f1_2 nn) f1_2
def wp_X4_hasLetterOfLine (σ : ST) (p0 : Int32) (Q : Int32 → ST → Prop) : Prop :=
  (∃ nn : Nat, wl_X4_hasLetterOfLine_2 (fun u_39 => Q (jI 1) u_39) (fun u_47 => Q (jI 0) u_47) p0 nn σ (jI 0))
def wb_X4_latestUseOnShelf_4 (K55 : ST → Int32 → Prop) (LL : ST → Int32 → Int32 → Prop) (f1_4 : Int32) (t_4 : ST) (y2_4 : Int32) (y3_4 : Int32) : Prop :=
  (((t_4.2 0) ≤ y3_4 → K55 t_4 y2_4) ∧ (¬ (t_4.2 0) ≤ y3_4 → (∀ v1 : Int32, v1 = zrg t_4 9 y3_4 → (∀ v2 : Int32, v2 = zrg t_4 3 v1 → ((v2 = f1_4 → (∀ v3 : Int32, v3 = zrg t_4 6 v1 → (∀ x2 : Int32, x2 = (if y2_4 < v3 then v3 else y2_4) → (∀ x3 : Int32, x3 = y3_4 + (jI 1) → LL t_4 x2 x3)))) ∧ (¬ v2 = f1_4 → (∀ x1 : Int32, x1 = y3_4 + (jI 1) → LL t_4 y2_4 x1)))))))
def wl_X4_latestUseOnShelf_4 (K55 : ST → Int32 → Prop) (f1_4 : Int32) : Nat → ST → Int32 → Int32 → Prop
  | 0 => fun _ _ _ => False
  | nn + 1 => wb_X4_latestUseOnShelf_4 K55 (wl_X4_latestUseOnShelf_4 K55 f1_4 nn) f1_4
def wp_X4_latestUseOnShelf (σ : ST) (p0 : Int32) (Q : Int32 → ST → Prop) : Prop :=
  (∃ nn : Nat, wl_X4_latestUseOnShelf_4 (fun u_55 z2_55 => Q z2_55 u_55) p0 nn σ (jI (-1)) (jI 0))
def wb_X4_countOnShelf_4 (K40 : ST → Int32 → Prop) (LL : ST → Int32 → Int32 → Prop) (f1_4 : Int32) (t_4 : ST) (y2_4 : Int32) (y3_4 : Int32) : Prop :=
  (((t_4.2 0) ≤ y3_4 → K40 t_4 y2_4) ∧ (¬ (t_4.2 0) ≤ y3_4 → (∀ v1 : Int32, v1 = zrg t_4 9 y3_4 → (∀ v2 : Int32, v2 = zrg t_4 3 v1 → ((v2 = f1_4 → (∀ x2 : Int32, x2 = y2_4 + (jI 1) → (∀ x3 : Int32, x3 = y3_4 + (jI 1) → LL t_4 x2 x3))) ∧ (¬ v2 = f1_4 → (∀ x1 : Int32, x1 = y3_4 + (jI 1) → LL t_4 y2_4 x1)))))))
def wl_X4_countOnShelf_4 (K40 : ST → Int32 → Prop) (f1_4 : Int32) : Nat → ST → Int32 → Int32 → Prop
  | 0 => fun _ _ _ => False
  | nn + 1 => wb_X4_countOnShelf_4 K40 (wl_X4_countOnShelf_4 K40 f1_4 nn) f1_4
def wp_X4_countOnShelf (σ : ST) (p0 : Int32) (Q : Int32 → ST → Prop) : Prop :=
  (∃ nn : Nat, wl_X4_countOnShelf_4 (fun u_40 z2_40 => Q z2_40 u_40) p0 nn σ (jI 0) (jI 0))
def wb_X2_findShelfToEmpty_12 (K79 : ST → Prop) (LL : ST → Int32 → Int32 → Prop) (f3_12 : Int32) (t_12 : ST) (y4_12 : Int32) (y5_12 : Int32) : Prop :=
  (((jI 72) ≤ y5_12 → K79 t_12) ∧ (¬ (jI 72) ≤ y5_12 → wp_X4_heightOfShelf t_12 y5_12 (fun r2 s2 => ((r2 < f3_12 → (∀ x1 : Int32, x1 = y5_12 + (jI 1) → LL s2 y4_12 x1)) ∧ (¬ r2 < f3_12 → wp_X4_hasLetterOfLine s2 y5_12 (fun r3 s3 => ((r3 = (jI 0) → wp_X4_latestUseOnShelf s3 y5_12 (fun r4 s4 => (((s4.2 45) = (jI (-1)) → wp_X2_choose s4 (jI 3) y5_12 (jI 0) (fun s5 => (∀ x3 : Int32, x3 = y5_12 + (jI 1) → LL s5 r4 x3))) ∧ (¬ (s4.2 45) = (jI (-1)) → ((y4_12 ≤ r4 → (∀ x4 : Int32, x4 = y5_12 + (jI 1) → LL s4 y4_12 x4)) ∧ (¬ y4_12 ≤ r4 → wp_X2_choose s4 (jI 3) y5_12 (jI 0) (fun s6 => (∀ x5 : Int32, x5 = y5_12 + (jI 1) → LL s6 r4 x5)))))))) ∧ (¬ r3 = (jI 0) → (∀ x2 : Int32, x2 = y5_12 + (jI 1) → LL s3 y4_12 x2)))))))))
def wl_X2_findShelfToEmpty_12 (K79 : ST → Prop) (f3_12 : Int32) : Nat → ST → Int32 → Int32 → Prop
  | 0 => fun _ _ _ => False
  | nn + 1 => wb_X2_findShelfToEmpty_12 K79 (wl_X2_findShelfToEmpty_12 K79 f3_12 nn) f3_12
def wp_X2_findShelfToEmpty (σ : ST) (p1 : Int32) (Q : ST → Prop) : Prop :=
  wp_X4_heightOf σ p1 (fun r1 s1 => (∃ nn : Nat, wl_X2_findShelfToEmpty_12 (fun u_79 => (((u_79.2 45) = (jI (-1)) → Q u_79) ∧ (¬ (u_79.2 45) = (jI (-1)) → wp_X4_countOnShelf u_79 (u_79.2 46) (fun r5 s7 => (∀ s8 : ST, s8 = zsp s7 48 r5 → Q s8))))) r1 nn s1 (jI (-1)) (jI 0)))
def wp_X4_isInStreet (σ : ST) (p0 : Int32) (Q : Int32 → ST → Prop) : Prop :=
  (∀ v1 : Int32, v1 = zrg σ 3 p0 → ((v1 = (jI (-1)) → Q (jI 1) σ) ∧ (¬ v1 = (jI (-1)) → Q (jI 0) σ)))
def wb_X4_countInStreet_4 (K36 : ST → Int32 → Prop) (LL : ST → Int32 → Int32 → Prop)  (t_4 : ST) (y1_4 : Int32) (y2_4 : Int32) : Prop :=
  (((t_4.2 0) ≤ y2_4 → K36 t_4 y1_4) ∧ (¬ (t_4.2 0) ≤ y2_4 → (∀ v1 : Int32, v1 = zrg t_4 9 y2_4 → wp_X4_isInStreet t_4 v1 (fun r1 s1 => ((r1 = (jI 0) → (∀ x1 : Int32, x1 = y2_4 + (jI 1) → LL s1 y1_4 x1)) ∧ (¬ r1 = (jI 0) → (∀ x2 : Int32, x2 = y1_4 + (jI 1) → (∀ x3 : Int32, x3 = y2_4 + (jI 1) → LL s1 x2 x3))))))))
def wl_X4_countInStreet_4 (K36 : ST → Int32 → Prop)  : Nat → ST → Int32 → Int32 → Prop
  | 0 => fun _ _ _ => False
  | nn + 1 => wb_X4_countInStreet_4 K36 (wl_X4_countInStreet_4 K36  nn) 
def wp_X4_countInStreet (σ : ST)  (Q : Int32 → ST → Prop) : Prop :=
  (∃ nn : Nat, wl_X4_countInStreet_4 (fun u_36 z1_36 => Q z1_36 u_36)  nn σ (jI 0) (jI 0))
def wp_X4_isOlder (σ : ST) (p0 : Int32) (p1 : Int32) (Q : Int32 → ST → Prop) : Prop :=
  ((p1 = (jI (-1)) → Q (jI 1) σ) ∧ (¬ p1 = (jI (-1)) → (∀ v1 : Int32, v1 = zrg σ 6 p0 → (∀ v2 : Int32, v2 = zrg σ 6 p1 → ((v2 ≤ v1 → Q (jI 0) σ) ∧ (¬ v2 ≤ v1 → Q (jI 1) σ))))))
def wb_X4_oldestOfStreetThatMayGo_4 (K54 : ST → Int32 → Prop) (LL : ST → Int32 → Int32 → Prop)  (t_4 : ST) (y1_4 : Int32) (y2_4 : Int32) : Prop :=
  (((t_4.2 0) ≤ y2_4 → K54 t_4 y1_4) ∧ (¬ (t_4.2 0) ≤ y2_4 → (∀ v1 : Int32, v1 = zrg t_4 9 y2_4 → wp_X4_isInStreet t_4 v1 (fun r1 s1 => ((r1 = (jI 0) → (∀ x1 : Int32, x1 = y2_4 + (jI 1) → LL s1 y1_4 x1)) ∧ (¬ r1 = (jI 0) → wp_X4_isOfLine s1 v1 (fun r2 s2 => ((r2 = (jI 0) → wp_X4_isOlder s2 v1 y1_4 (fun r3 s3 => ((r3 = (jI 0) → (∀ x3 : Int32, x3 = y2_4 + (jI 1) → LL s3 y1_4 x3)) ∧ (¬ r3 = (jI 0) → (∀ x4 : Int32, x4 = y2_4 + (jI 1) → LL s3 v1 x4))))) ∧ (¬ r2 = (jI 0) → (∀ x2 : Int32, x2 = y2_4 + (jI 1) → LL s2 y1_4 x2))))))))))
def wl_X4_oldestOfStreetThatMayGo_4 (K54 : ST → Int32 → Prop)  : Nat → ST → Int32 → Int32 → Prop
  | 0 => fun _ _ _ => False
  | nn + 1 => wb_X4_oldestOfStreetThatMayGo_4 K54 (wl_X4_oldestOfStreetThatMayGo_4 K54  nn) 
def wp_X4_oldestOfStreetThatMayGo (σ : ST)  (Q : Int32 → ST → Prop) : Prop :=
  (∃ nn : Nat, wl_X4_oldestOfStreetThatMayGo_4 (fun u_54 z1_54 => Q z1_54 u_54)  nn σ (jI (-1)) (jI 0))
def wp_X2_findRoomInStreet (σ : ST)  (Q : ST → Prop) : Prop :=
  wp_X4_countInStreet σ (fun r1 s1 => (((jI 4) ≤ r1 → wp_X4_oldestOfStreetThatMayGo s1 (fun r2 s2 => (∀ s3 : ST, s3 = zsp s2 49 r2 → (((s3.2 49) = (jI (-1)) → Q s3) ∧ (¬ (s3.2 49) = (jI (-1)) → wp_X2_choose s3 (jI 4) (jI (-1)) (jI (-1)) (fun s4 => (∀ s5 : ST, s5 = zsp s4 48 (jI 1) → Q s5))))))) ∧ (¬ (jI 4) ≤ r1 → wp_X2_choose s1 (jI 4) (jI (-1)) (jI (-1)) (fun s6 => Q s6))))
def wp_X2_find (σ : ST) (p1 : Int32) (Q : ST → Prop) : Prop :=
  wp_X2_choose σ (jI (-1)) (jI (-2)) (jI (-1)) (fun s1 => (∀ s2 : ST, s2 = zsp s1 48 (jI 0) → (∀ s3 : ST, s3 = zsp s2 49 (jI (-1)) → wp_X4_isThere s3 p1 (fun r1 s4 => ((r1 = (jI 0) → wp_X2_findGap s4 p1 (fun s5 => (((s5.2 45) = (jI (-1)) → wp_X2_findRoomForShelf s5 p1 (fun s9 => (((s9.2 45) = (jI (-1)) → wp_X2_findShelfToEmpty s9 p1 (fun s11 => (((s11.2 45) = (jI (-1)) → wp_X2_findRoomInStreet s11 (fun s12 => Q s12)) ∧ (¬ (s11.2 45) = (jI (-1)) → Q s11)))) ∧ (¬ (s9.2 45) = (jI (-1)) → (((s9.2 45) = (jI (-1)) → wp_X2_findRoomInStreet s9 (fun s10 => Q s10)) ∧ (¬ (s9.2 45) = (jI (-1)) → Q s9)))))) ∧ (¬ (s5.2 45) = (jI (-1)) → (((s5.2 45) = (jI (-1)) → wp_X2_findShelfToEmpty s5 p1 (fun s7 => (((s7.2 45) = (jI (-1)) → wp_X2_findRoomInStreet s7 (fun s8 => Q s8)) ∧ (¬ (s7.2 45) = (jI (-1)) → Q s7)))) ∧ (¬ (s5.2 45) = (jI (-1)) → (((s5.2 45) = (jI (-1)) → wp_X2_findRoomInStreet s5 (fun s6 => Q s6)) ∧ (¬ (s5.2 45) = (jI (-1)) → Q s5)))))))) ∧ (¬ r1 = (jI 0) → (∀ s13 : ST, s13 = zsp s4 45 (jI 0) → Q s13)))))))
def wb_X4_takeAway_4 (K47 : ST → Int32 → Prop) (LL : ST → Int32 → Int32 → Prop) (f1_4 : Int32) (t_4 : ST) (y2_4 : Int32) (y3_4 : Int32) : Prop :=
  (((t_4.2 0) ≤ y3_4 → K47 t_4 y2_4) ∧ (¬ (t_4.2 0) ≤ y3_4 → (∀ v1 : Int32, v1 = zrg t_4 9 y3_4 → ((v1 = f1_4 → (∀ x1 : Int32, x1 = y3_4 + (jI 1) → LL t_4 y2_4 x1)) ∧ (¬ v1 = f1_4 → (∀ s1 : ST, s1 = zrs t_4 9 y2_4 v1 → (∀ x2 : Int32, x2 = y2_4 + (jI 1) → (∀ x3 : Int32, x3 = y3_4 + (jI 1) → LL s1 x2 x3))))))))
def wl_X4_takeAway_4 (K47 : ST → Int32 → Prop) (f1_4 : Int32) : Nat → ST → Int32 → Int32 → Prop
  | 0 => fun _ _ _ => False
  | nn + 1 => wb_X4_takeAway_4 K47 (wl_X4_takeAway_4 K47 f1_4 nn) f1_4
def wp_X4_takeAway (σ : ST) (p0 : Int32) (Q : ST → Prop) : Prop :=
  (∃ nn : Nat, wl_X4_takeAway_4 (fun u_47 z2_47 => (∀ s2 : ST, s2 = zsp u_47 0 z2_47 → (∀ s3 : ST, s3 = zrs s2 3 p0 (jI (-2)) → (∀ s4 : ST, s4 = zsp s3 6 ((s3.2 6) + (jI 1)) → Q s4)))) p0 nn σ (jI 0) (jI 0))
def wb_X4_cutSign_57 (K91 : ST → Int32 → Prop) (LL : ST → Int32 → Int32 → Prop) (f4_57 : Int32) (t_57 : ST) (y5_57 : Int32) (y6_57 : Int32) : Prop :=
  (((f4_57 + (jI 9)) ≤ y6_57 → K91 t_57 y5_57) ∧ (¬ (f4_57 + (jI 9)) ≤ y6_57 → wp_X4_isThere t_57 y6_57 (fun r1 s3 => ((r1 = (jI 0) → (∀ x2 : Int32, x2 = y6_57 + (jI 1) → LL s3 y5_57 x2)) ∧ (¬ r1 = (jI 0) → wp_X4_takeAway s3 y6_57 (fun s4 => (∀ x3 : Int32, x3 = y5_57 + (jI 1) → (∀ x4 : Int32, x4 = y6_57 + (jI 1) → LL s4 x3 x4))))))))
def wl_X4_cutSign_57 (K91 : ST → Int32 → Prop) (f4_57 : Int32) : Nat → ST → Int32 → Int32 → Prop
  | 0 => fun _ _ _ => False
  | nn + 1 => wb_X4_cutSign_57 K91 (wl_X4_cutSign_57 K91 f4_57 nn) f4_57
def wp_X4_cutSign (σ : ST) (p0 : Int32) (p1 : Int32) (p2 : Int32) (Q : Int32 → ST → Prop) : Prop :=
  (∀ v1 : Int32, v1 = zrg σ 0 p0 → ((v1 = p1 → (∀ v2 : Int32, v2 = zrg σ 1 p0 → ((v2 = p2 → Q (jI 0) σ) ∧ (¬ v2 = p2 → (∀ s5 : ST, s5 = zrs σ 0 p0 p1 → (∀ s6 : ST, s6 = zrs s5 1 p0 p2 → (∀ x5 : Int32, x5 = (p0 * (jI 9)) → (∃ nn : Nat, wl_X4_cutSign_57 (fun u_91 z5_91 => Q z5_91 u_91) x5 nn s6 (jI 0) x5)))))))) ∧ (¬ v1 = p1 → (∀ s1 : ST, s1 = zrs σ 0 p0 p1 → (∀ s2 : ST, s2 = zrs s1 1 p0 p2 → (∀ x1 : Int32, x1 = (p0 * (jI 9)) → (∃ nn : Nat, wl_X4_cutSign_57 (fun u_91 z5_91 => Q z5_91 u_91) x1 nn s2 (jI 0) x1)))))))
def wp_X4_areaOf (σ : ST) (p0 : Int32) (Q : Int32 → ST → Prop) : Prop :=
  wp_X4_widthOf σ p0 (fun r1 s1 => wp_X4_heightOf s1 p0 (fun r2 s2 => Q (r1 * r2) s2))
def wp_X4_inkFor (σ : ST) (p0 : Int32) (Q : Int32 → ST → Prop) : Prop :=
  wp_X6_blurOf σ p0 (fun r1 s1 => (∀ x1 : Int32, x1 = (p0 - r1) → wp_X4_areaOf s1 p0 (fun r2 s2 => ((p0 = x1 → Q r2 s2) ∧ (¬ p0 = x1 → wp_X4_isThere s2 x1 (fun r3 s3 => ((r3 = (jI 0) → Q r2 s3) ∧ (¬ r3 = (jI 0) → Q (r2 / (jI 2)) s3))))))))
def wb_X4_emptyShelf_7 (K43 : ST → Prop) (LL : ST → Int32 → Prop) (f1_7 : Int32) (t_7 : ST) (y2_7 : Int32) : Prop :=
  ((y2_7 < (jI 0) → K43 t_7) ∧ (¬ y2_7 < (jI 0) → (∀ v1 : Int32, v1 = zrg t_7 9 y2_7 → (∀ v2 : Int32, v2 = zrg t_7 3 v1 → ((v2 = f1_7 → wp_X4_takeAway t_7 v1 (fun s1 => (∀ x3 : Int32, x3 = y2_7 + (jI (-1)) → LL s1 x3))) ∧ (¬ v2 = f1_7 → (∀ x2 : Int32, x2 = y2_7 + (jI (-1)) → LL t_7 x2)))))))
def wl_X4_emptyShelf_7 (K43 : ST → Prop) (f1_7 : Int32) : Nat → ST → Int32 → Prop
  | 0 => fun _ _ => False
  | nn + 1 => wb_X4_emptyShelf_7 K43 (wl_X4_emptyShelf_7 K43 f1_7 nn) f1_7
def wp_X4_emptyShelf (σ : ST) (p0 : Int32) (Q : ST → Prop) : Prop :=
  (∀ x1 : Int32, x1 = ((σ.2 0) - (jI 1)) → (∃ nn : Nat, wl_X4_emptyShelf_7 (fun u_43 => Q u_43) p0 nn σ x1))
def wp_X4_makeLetter (σ : ST) (p0 : Int32) (Q : ST → Prop) : Prop :=
  wp_X4_inkFor σ p0 (fun r1 s1 => (∀ s2 : ST, s2 = zsp s1 7 ((σ.2 7) + r1) → (∀ s3 : ST, s3 = zsp s2 5 ((s2.2 5) + (jI 1)) → (((s3.2 45) = (jI 2) → wp_X4_heightOf s3 p0 (fun r6 s35 => (∀ s36 : ST, s36 = zrs s35 2 (s3.2 46) r6 → (((s36.2 45) = (jI 3) → wp_X4_emptyShelf s36 (s36.2 46) (fun s52 => (((s52.2 49) = (jI (-1)) → (∀ s53 : ST, s53 = zrs s52 3 p0 (s52.2 46) → (∀ s54 : ST, s54 = zrs s53 4 p0 (s53.2 47) → wp_X4_widthOf s54 p0 (fun r9 s55 => (∀ s56 : ST, s56 = zrs s55 5 p0 ((s54.2 47) + r9) → (∀ s57 : ST, s57 = zrs s56 8 p0 (jI 0) → (∀ s58 : ST, s58 = zrs s57 9 (s57.2 0) p0 → (∀ s59 : ST, s59 = zsp s58 0 ((s58.2 0) + (jI 1)) → Q s59)))))))) ∧ (¬ (s52.2 49) = (jI (-1)) → wp_X4_takeAway s52 (s52.2 49) (fun s60 => (∀ s61 : ST, s61 = zrs s60 3 p0 (s60.2 46) → (∀ s62 : ST, s62 = zrs s61 4 p0 (s61.2 47) → wp_X4_widthOf s62 p0 (fun r10 s63 => (∀ s64 : ST, s64 = zrs s63 5 p0 ((s62.2 47) + r10) → (∀ s65 : ST, s65 = zrs s64 8 p0 (jI 0) → (∀ s66 : ST, s66 = zrs s65 9 (s65.2 0) p0 → (∀ s67 : ST, s67 = zsp s66 0 ((s66.2 0) + (jI 1)) → Q s67)))))))))))) ∧ (¬ (s36.2 45) = (jI 3) → (((s36.2 49) = (jI (-1)) → (∀ s37 : ST, s37 = zrs s36 3 p0 (s36.2 46) → (∀ s38 : ST, s38 = zrs s37 4 p0 (s37.2 47) → wp_X4_widthOf s38 p0 (fun r7 s39 => (∀ s40 : ST, s40 = zrs s39 5 p0 ((s38.2 47) + r7) → (∀ s41 : ST, s41 = zrs s40 8 p0 (jI 0) → (∀ s42 : ST, s42 = zrs s41 9 (s41.2 0) p0 → (∀ s43 : ST, s43 = zsp s42 0 ((s42.2 0) + (jI 1)) → Q s43)))))))) ∧ (¬ (s36.2 49) = (jI (-1)) → wp_X4_takeAway s36 (s36.2 49) (fun s44 => (∀ s45 : ST, s45 = zrs s44 3 p0 (s44.2 46) → (∀ s46 : ST, s46 = zrs s45 4 p0 (s45.2 47) → wp_X4_widthOf s46 p0 (fun r8 s47 => (∀ s48 : ST, s48 = zrs s47 5 p0 ((s46.2 47) + r8) → (∀ s49 : ST, s49 = zrs s48 8 p0 (jI 0) → (∀ s50 : ST, s50 = zrs s49 9 (s49.2 0) p0 → (∀ s51 : ST, s51 = zsp s50 0 ((s50.2 0) + (jI 1)) → Q s51))))))))))))))) ∧ (¬ (s3.2 45) = (jI 2) → (((s3.2 45) = (jI 3) → wp_X4_emptyShelf s3 (s3.2 46) (fun s19 => (((s19.2 49) = (jI (-1)) → (∀ s20 : ST, s20 = zrs s19 3 p0 (s19.2 46) → (∀ s21 : ST, s21 = zrs s20 4 p0 (s20.2 47) → wp_X4_widthOf s21 p0 (fun r4 s22 => (∀ s23 : ST, s23 = zrs s22 5 p0 ((s21.2 47) + r4) → (∀ s24 : ST, s24 = zrs s23 8 p0 (jI 0) → (∀ s25 : ST, s25 = zrs s24 9 (s24.2 0) p0 → (∀ s26 : ST, s26 = zsp s25 0 ((s25.2 0) + (jI 1)) → Q s26)))))))) ∧ (¬ (s19.2 49) = (jI (-1)) → wp_X4_takeAway s19 (s19.2 49) (fun s27 => (∀ s28 : ST, s28 = zrs s27 3 p0 (s27.2 46) → (∀ s29 : ST, s29 = zrs s28 4 p0 (s28.2 47) → wp_X4_widthOf s29 p0 (fun r5 s30 => (∀ s31 : ST, s31 = zrs s30 5 p0 ((s29.2 47) + r5) → (∀ s32 : ST, s32 = zrs s31 8 p0 (jI 0) → (∀ s33 : ST, s33 = zrs s32 9 (s32.2 0) p0 → (∀ s34 : ST, s34 = zsp s33 0 ((s33.2 0) + (jI 1)) → Q s34)))))))))))) ∧ (¬ (s3.2 45) = (jI 3) → (((s3.2 49) = (jI (-1)) → (∀ s4 : ST, s4 = zrs s3 3 p0 (s3.2 46) → (∀ s5 : ST, s5 = zrs s4 4 p0 (s4.2 47) → wp_X4_widthOf s5 p0 (fun r2 s6 => (∀ s7 : ST, s7 = zrs s6 5 p0 ((s5.2 47) + r2) → (∀ s8 : ST, s8 = zrs s7 8 p0 (jI 0) → (∀ s9 : ST, s9 = zrs s8 9 (s8.2 0) p0 → (∀ s10 : ST, s10 = zsp s9 0 ((s9.2 0) + (jI 1)) → Q s10)))))))) ∧ (¬ (s3.2 49) = (jI (-1)) → wp_X4_takeAway s3 (s3.2 49) (fun s11 => (∀ s12 : ST, s12 = zrs s11 3 p0 (s11.2 46) → (∀ s13 : ST, s13 = zrs s12 4 p0 (s12.2 47) → wp_X4_widthOf s13 p0 (fun r3 s14 => (∀ s15 : ST, s15 = zrs s14 5 p0 ((s13.2 47) + r3) → (∀ s16 : ST, s16 = zrs s15 8 p0 (jI 0) → (∀ s17 : ST, s17 = zrs s16 9 (s16.2 0) p0 → (∀ s18 : ST, s18 = zsp s17 0 ((s17.2 0) + (jI 1)) → Q s18)))))))))))))))))
def wp_X4_useLetter (σ : ST) (p0 : Int32) (Q : ST → Prop) : Prop :=
  (((σ.2 45) = (jI 0) → (∀ s6 : ST, s6 = zsp σ 4 ((σ.2 4) + (jI 1)) → (∀ s7 : ST, s7 = zsp s6 3 ((s6.2 3) + (jI 1)) → (∀ s8 : ST, s8 = zrs s7 6 p0 (s7.2 3) → (∀ s9 : ST, s9 = zrs s8 7 p0 (s8.2 2) → (∀ v2 : Int32, v2 = zrg s9 8 p0 → (∀ s10 : ST, s10 = zrs s9 8 p0 (v2 + (jI 1)) → Q s10))))))) ∧ (¬ (σ.2 45) = (jI 0) → wp_X4_makeLetter σ p0 (fun s1 => (∀ s2 : ST, s2 = zsp s1 3 ((s1.2 3) + (jI 1)) → (∀ s3 : ST, s3 = zrs s2 6 p0 (s2.2 3) → (∀ s4 : ST, s4 = zrs s3 7 p0 (s3.2 2) → (∀ v1 : Int32, v1 = zrg s4 8 p0 → (∀ s5 : ST, s5 = zrs s4 8 p0 (v1 + (jI 1)) → Q s5))))))))
def wp_X4_dropLetter (σ : ST) (p0 : Int32) (Q : Int32 → ST → Prop) : Prop :=
  (∀ v1 : Int32, v1 = zrg σ 8 p0 → wp_X4_takeAway σ p0 (fun s1 => Q v1 s1))
def wb_X4_countOfLine_4 (K36 : ST → Int32 → Prop) (LL : ST → Int32 → Int32 → Prop)  (t_4 : ST) (y1_4 : Int32) (y2_4 : Int32) : Prop :=
  (((t_4.2 0) ≤ y2_4 → K36 t_4 y1_4) ∧ (¬ (t_4.2 0) ≤ y2_4 → (∀ v1 : Int32, v1 = zrg t_4 9 y2_4 → wp_X4_isOfLine t_4 v1 (fun r1 s1 => ((r1 = (jI 0) → (∀ x1 : Int32, x1 = y2_4 + (jI 1) → LL s1 y1_4 x1)) ∧ (¬ r1 = (jI 0) → (∀ x2 : Int32, x2 = y1_4 + (jI 1) → (∀ x3 : Int32, x3 = y2_4 + (jI 1) → LL s1 x2 x3))))))))
def wl_X4_countOfLine_4 (K36 : ST → Int32 → Prop)  : Nat → ST → Int32 → Int32 → Prop
  | 0 => fun _ _ _ => False
  | nn + 1 => wb_X4_countOfLine_4 K36 (wl_X4_countOfLine_4 K36  nn) 
def wp_X4_countOfLine (σ : ST)  (Q : Int32 → ST → Prop) : Prop :=
  (∃ nn : Nat, wl_X4_countOfLine_4 (fun u_36 z1_36 => Q z1_36 u_36)  nn σ (jI 0) (jI 0))
def wp_X4_beginLine (σ : ST)  (Q : Int32 → ST → Prop) : Prop :=
  wp_X4_countOfLine σ (fun r1 s1 => (∀ s2 : ST, s2 = zsp s1 2 ((s1.2 2) + (jI 1)) → Q r1 s2))
def wp_X4_openTray (σ : ST)  (Q : Int32 → ST → Prop) : Prop :=
  (∀ s1 : ST, s1 = zsp σ 1 ((σ.2 1) + (jI 1)) → Q ((s1.2 1) - (jI 1)) s1)
def wb_X4_closeShelf_15 (K44 : ST → Prop) (LL : ST → Int32 → Prop) (f1_15 : Int32) (f2_15 : Int32) (t_15 : ST) (y3_15 : Int32) : Prop :=
  ((f2_15 ≤ y3_15 → K44 t_15) ∧ (¬ f2_15 ≤ y3_15 → (∀ v1 : Int32, v1 = zrg t_15 2 (y3_15 + (jI 1)) → (∀ s1 : ST, s1 = zrs t_15 2 y3_15 v1 → (∀ x2 : Int32, x2 = y3_15 + (jI 1) → LL s1 x2)))))
def wl_X4_closeShelf_15 (K44 : ST → Prop) (f1_15 : Int32) (f2_15 : Int32) : Nat → ST → Int32 → Prop
  | 0 => fun _ _ => False
  | nn + 1 => wb_X4_closeShelf_15 K44 (wl_X4_closeShelf_15 K44 f1_15 f2_15 nn) f1_15 f2_15
def wb_X4_closeShelf_55 (K115 : ST → Prop) (LL : ST → Int32 → Prop) (f1_55 : Int32) (f2_55 : Int32) (t_55 : ST) (y3_55 : Int32) : Prop :=
  (((t_55.2 0) ≤ y3_55 → K115 t_55) ∧ (¬ (t_55.2 0) ≤ y3_55 → (∀ v2 : Int32, v2 = zrg t_55 9 y3_55 → (∀ v3 : Int32, v3 = zrg t_55 3 v2 → ((v3 ≤ f1_55 → (∀ x3 : Int32, x3 = y3_55 + (jI 1) → LL t_55 x3)) ∧ (¬ v3 ≤ f1_55 → ((f2_55 < v3 → (∀ x4 : Int32, x4 = y3_55 + (jI 1) → LL t_55 x4)) ∧ (¬ f2_55 < v3 → (∀ s3 : ST, s3 = zrs t_55 3 v2 (v3 - (jI 1)) → (∀ x5 : Int32, x5 = y3_55 + (jI 1) → LL s3 x5))))))))))
def wl_X4_closeShelf_55 (K115 : ST → Prop) (f1_55 : Int32) (f2_55 : Int32) : Nat → ST → Int32 → Prop
  | 0 => fun _ _ => False
  | nn + 1 => wb_X4_closeShelf_55 K115 (wl_X4_closeShelf_55 K115 f1_55 f2_55 nn) f1_55 f2_55
def wp_X4_closeShelf (σ : ST) (p0 : Int32) (Q : ST → Prop) : Prop :=
  (∀ x1 : Int32, x1 = ((((p0 / (jI 24)) * (jI 24)) + (jI 24)) - (jI 1)) → (∃ nn : Nat, wl_X4_closeShelf_15 (fun u_44 => (∀ s2 : ST, s2 = zrs u_44 2 x1 (jI 0) → (∃ nn : Nat, wl_X4_closeShelf_55 (fun u_115 => Q u_115) p0 x1 nn s2 (jI 0)))) p0 x1 nn σ p0))
def wb_X4_closeEmptyShelves_5 (K42 : ST → Int32 → Prop) (LL : ST → Int32 → Int32 → Prop)  (t_5 : ST) (y1_5 : Int32) (y2_5 : Int32) : Prop :=
  ((y2_5 < (jI 0) → K42 t_5 y1_5) ∧ (¬ y2_5 < (jI 0) → (∀ v1 : Int32, v1 = zrg t_5 2 y2_5 → ((v1 ≤ (jI 0) → (∀ x1 : Int32, x1 = y2_5 + (jI (-1)) → LL t_5 y1_5 x1)) ∧ (¬ v1 ≤ (jI 0) → wp_X4_countOnShelf t_5 y2_5 (fun r1 s1 => ((r1 = (jI 0) → wp_X4_closeShelf s1 y2_5 (fun s2 => (∀ x3 : Int32, x3 = y1_5 + (jI 1) → (∀ x4 : Int32, x4 = y2_5 + (jI (-1)) → LL s2 x3 x4)))) ∧ (¬ r1 = (jI 0) → (∀ x2 : Int32, x2 = y2_5 + (jI (-1)) → LL s1 y1_5 x2)))))))))
def wl_X4_closeEmptyShelves_5 (K42 : ST → Int32 → Prop)  : Nat → ST → Int32 → Int32 → Prop
  | 0 => fun _ _ _ => False
  | nn + 1 => wb_X4_closeEmptyShelves_5 K42 (wl_X4_closeEmptyShelves_5 K42  nn) 
def wp_X4_closeEmptyShelves (σ : ST)  (Q : Int32 → ST → Prop) : Prop :=
  (∃ nn : Nat, wl_X4_closeEmptyShelves_5 (fun u_42 z1_42 => Q z1_42 u_42)  nn σ (jI 0) (jI 71))
def wp_X4_isLaid (σ : ST) (p0 : Int32) (Q : Int32 → ST → Prop) : Prop :=
  (∀ v1 : Int32, v1 = zrg σ 3 p0 → ((v1 < (jI 0) → Q (jI 0) σ) ∧ (¬ v1 < (jI 0) → Q (jI 1) σ)))
def wb_X4_topOf_10 (K32 : ST → Int32 → Prop) (LL : ST → Int32 → Int32 → Prop) (f1_10 : Int32) (t_10 : ST) (y2_10 : Int32) (y3_10 : Int32) : Prop :=
  ((f1_10 ≤ y3_10 → K32 t_10 y2_10) ∧ (¬ f1_10 ≤ y3_10 → (∀ v1 : Int32, v1 = zrg t_10 2 y3_10 → (∀ x2 : Int32, x2 = (y2_10 + v1) → (∀ x3 : Int32, x3 = y3_10 + (jI 1) → LL t_10 x2 x3)))))
def wl_X4_topOf_10 (K32 : ST → Int32 → Prop) (f1_10 : Int32) : Nat → ST → Int32 → Int32 → Prop
  | 0 => fun _ _ _ => False
  | nn + 1 => wb_X4_topOf_10 K32 (wl_X4_topOf_10 K32 f1_10 nn) f1_10
def wp_X4_topOf (σ : ST) (p0 : Int32) (Q : Int32 → ST → Prop) : Prop :=
  (∀ x1 : Int32, x1 = ((p0 / (jI 24)) * (jI 24)) → (∃ nn : Nat, wl_X4_topOf_10 (fun u_32 z2_32 => Q z2_32 u_32) p0 nn σ (jI 0) x1))
def wp_X4_covers (σ : ST) (p0 : Int32) (p1 : Int32) (p2 : Int32) (Q : Int32 → ST → Prop) : Prop :=
  (∀ v1 : Int32, v1 = zrg σ 3 p0 → wp_X4_topOf σ v1 (fun r1 s1 => (∀ v2 : Int32, v2 = zrg s1 4 p0 → ((p1 < v2 → Q (jI 0) s1) ∧ (¬ p1 < v2 → (∀ v3 : Int32, v3 = zrg s1 5 p0 → ((v3 ≤ p1 → Q (jI 0) s1) ∧ (¬ v3 ≤ p1 → ((p2 < r1 → Q (jI 0) s1) ∧ (¬ p2 < r1 → wp_X4_heightOf s1 p0 (fun r2 s2 => (((r1 + r2) ≤ p2 → Q (jI 0) s2) ∧ (¬ (r1 + r2) ≤ p2 → Q (jI 1) s2)))))))))))))
def wp_X4_placeValue (σ : ST) (p0 : Int32) (p1 : Int32) (Q : Int32 → ST → Prop) : Prop :=
  (∀ v1 : Int32, v1 = zrg σ 3 p0 → ((p1 = (jI 0) → Q (v1 / (jI 24)) σ) ∧ (¬ p1 = (jI 0) → ((p1 = (jI 1) → (∀ v2 : Int32, v2 = zrg σ 4 p0 → Q v2 σ)) ∧ (¬ p1 = (jI 1) → ((p1 = (jI 2) → wp_X4_topOf σ v1 (fun r1 s1 => Q r1 s1)) ∧ (¬ p1 = (jI 2) → Q (v1 - v1 / (jI 24) * (jI 24)) σ)))))))
def wp_X4_letterValue (σ : ST) (p0 : Int32) (p1 : Int32) (Q : Int32 → ST → Prop) : Prop :=
  ((p1 = (jI 3) → wp_X4_widthOf σ p0 (fun r5 s5 => Q r5 s5)) ∧ (¬ p1 = (jI 3) → ((p1 = (jI 4) → wp_X4_heightOf σ p0 (fun r4 s4 => Q r4 s4)) ∧ (¬ p1 = (jI 4) → wp_X4_isThere σ p0 (fun r1 s1 => ((r1 = (jI 0) → Q (jI (-1)) s1) ∧ (¬ r1 = (jI 0) → ((p1 = (jI 5) → (∀ v1 : Int32, v1 = zrg s1 6 p0 → Q v1 s1)) ∧ (¬ p1 = (jI 5) → ((p1 = (jI 6) → (∀ v2 : Int32, v2 = zrg s1 7 p0 → Q v2 s1)) ∧ (¬ p1 = (jI 6) → ((p1 = (jI 7) → (∀ v3 : Int32, v3 = zrg s1 8 p0 → Q v3 s1)) ∧ (¬ p1 = (jI 7) → wp_X4_isLaid s1 p0 (fun r2 s2 => ((r2 = (jI 0) → Q (jI (-1)) s2) ∧ (¬ r2 = (jI 0) → wp_X4_placeValue s2 p0 p1 (fun r3 s3 => Q r3 s3)))))))))))))))))
def wb_X4_countLaidOfSign_4 (K49 : ST → Int32 → Prop) (LL : ST → Int32 → Int32 → Prop) (f1_4 : Int32) (t_4 : ST) (y2_4 : Int32) (y3_4 : Int32) : Prop :=
  (((t_4.2 0) ≤ y3_4 → K49 t_4 y2_4) ∧ (¬ (t_4.2 0) ≤ y3_4 → (∀ v1 : Int32, v1 = zrg t_4 9 y3_4 → wp_X6_signOf t_4 v1 (fun r1 s1 => ((r1 = f1_4 → wp_X4_isLaid s1 v1 (fun r2 s2 => ((r2 = (jI 0) → (∀ x2 : Int32, x2 = y3_4 + (jI 1) → LL s2 y2_4 x2)) ∧ (¬ r2 = (jI 0) → (∀ x3 : Int32, x3 = y2_4 + (jI 1) → (∀ x4 : Int32, x4 = y3_4 + (jI 1) → LL s2 x3 x4)))))) ∧ (¬ r1 = f1_4 → (∀ x1 : Int32, x1 = y3_4 + (jI 1) → LL s1 y2_4 x1)))))))
def wl_X4_countLaidOfSign_4 (K49 : ST → Int32 → Prop) (f1_4 : Int32) : Nat → ST → Int32 → Int32 → Prop
  | 0 => fun _ _ _ => False
  | nn + 1 => wb_X4_countLaidOfSign_4 K49 (wl_X4_countLaidOfSign_4 K49 f1_4 nn) f1_4
def wp_X4_countLaidOfSign (σ : ST) (p0 : Int32) (Q : Int32 → ST → Prop) : Prop :=
  (∃ nn : Nat, wl_X4_countLaidOfSign_4 (fun u_49 z2_49 => Q z2_49 u_49) p0 nn σ (jI 0) (jI 0))
def wb_X4_countInStreetOfSign_4 (K49 : ST → Int32 → Prop) (LL : ST → Int32 → Int32 → Prop) (f1_4 : Int32) (t_4 : ST) (y2_4 : Int32) (y3_4 : Int32) : Prop :=
  (((t_4.2 0) ≤ y3_4 → K49 t_4 y2_4) ∧ (¬ (t_4.2 0) ≤ y3_4 → (∀ v1 : Int32, v1 = zrg t_4 9 y3_4 → wp_X6_signOf t_4 v1 (fun r1 s1 => ((r1 = f1_4 → wp_X4_isInStreet s1 v1 (fun r2 s2 => ((r2 = (jI 0) → (∀ x2 : Int32, x2 = y3_4 + (jI 1) → LL s2 y2_4 x2)) ∧ (¬ r2 = (jI 0) → (∀ x3 : Int32, x3 = y2_4 + (jI 1) → (∀ x4 : Int32, x4 = y3_4 + (jI 1) → LL s2 x3 x4)))))) ∧ (¬ r1 = f1_4 → (∀ x1 : Int32, x1 = y3_4 + (jI 1) → LL s1 y2_4 x1)))))))
def wl_X4_countInStreetOfSign_4 (K49 : ST → Int32 → Prop) (f1_4 : Int32) : Nat → ST → Int32 → Int32 → Prop
  | 0 => fun _ _ _ => False
  | nn + 1 => wb_X4_countInStreetOfSign_4 K49 (wl_X4_countInStreetOfSign_4 K49 f1_4 nn) f1_4
def wp_X4_countInStreetOfSign (σ : ST) (p0 : Int32) (Q : Int32 → ST → Prop) : Prop :=
  (∃ nn : Nat, wl_X4_countInStreetOfSign_4 (fun u_49 z2_49 => Q z2_49 u_49) p0 nn σ (jI 0) (jI 0))
def wp_X4_signValue (σ : ST) (p0 : Int32) (p1 : Int32) (Q : Int32 → ST → Prop) : Prop :=
  ((p1 = (jI 0) → (∀ v1 : Int32, v1 = zrg σ 0 p0 → Q v1 σ)) ∧ (¬ p1 = (jI 0) → ((p1 = (jI 1) → (∀ v2 : Int32, v2 = zrg σ 1 p0 → Q v2 σ)) ∧ (¬ p1 = (jI 1) → ((p1 = (jI 2) → wp_X4_countLaidOfSign σ p0 (fun r1 s1 => Q r1 s1)) ∧ (¬ p1 = (jI 2) → wp_X4_countInStreetOfSign σ p0 (fun r2 s2 => Q r2 s2)))))))
def wp_X4_isInTray (σ : ST) (p0 : Int32) (p1 : Int32) (Q : Int32 → ST → Prop) : Prop :=
  wp_X4_isLaid σ p0 (fun r1 s1 => ((r1 = (jI 0) → Q (jI 0) s1) ∧ (¬ r1 = (jI 0) → (∀ v1 : Int32, v1 = zrg s1 3 p0 → (((v1 / (jI 24)) = p1 → Q (jI 1) s1) ∧ (¬ (v1 / (jI 24)) = p1 → Q (jI 0) s1))))))
def wb_X4_countInTray_4 (K37 : ST → Int32 → Prop) (LL : ST → Int32 → Int32 → Prop) (f1_4 : Int32) (t_4 : ST) (y2_4 : Int32) (y3_4 : Int32) : Prop :=
  (((t_4.2 0) ≤ y3_4 → K37 t_4 y2_4) ∧ (¬ (t_4.2 0) ≤ y3_4 → (∀ v1 : Int32, v1 = zrg t_4 9 y3_4 → wp_X4_isInTray t_4 v1 f1_4 (fun r1 s1 => ((r1 = (jI 0) → (∀ x1 : Int32, x1 = y3_4 + (jI 1) → LL s1 y2_4 x1)) ∧ (¬ r1 = (jI 0) → (∀ x2 : Int32, x2 = y2_4 + (jI 1) → (∀ x3 : Int32, x3 = y3_4 + (jI 1) → LL s1 x2 x3))))))))
def wl_X4_countInTray_4 (K37 : ST → Int32 → Prop) (f1_4 : Int32) : Nat → ST → Int32 → Int32 → Prop
  | 0 => fun _ _ _ => False
  | nn + 1 => wb_X4_countInTray_4 K37 (wl_X4_countInTray_4 K37 f1_4 nn) f1_4
def wp_X4_countInTray (σ : ST) (p0 : Int32) (Q : Int32 → ST → Prop) : Prop :=
  (∃ nn : Nat, wl_X4_countInTray_4 (fun u_37 z2_37 => Q z2_37 u_37) p0 nn σ (jI 0) (jI 0))
def wb_X4_areaInTray_4 (K47 : ST → Int32 → Prop) (LL : ST → Int32 → Int32 → Prop) (f1_4 : Int32) (t_4 : ST) (y2_4 : Int32) (y3_4 : Int32) : Prop :=
  (((t_4.2 0) ≤ y3_4 → K47 t_4 y2_4) ∧ (¬ (t_4.2 0) ≤ y3_4 → (∀ v1 : Int32, v1 = zrg t_4 9 y3_4 → wp_X4_isInTray t_4 v1 f1_4 (fun r1 s1 => ((r1 = (jI 0) → (∀ x1 : Int32, x1 = y3_4 + (jI 1) → LL s1 y2_4 x1)) ∧ (¬ r1 = (jI 0) → wp_X4_areaOf s1 v1 (fun r2 s2 => (∀ x2 : Int32, x2 = (y2_4 + r2) → (∀ x3 : Int32, x3 = y3_4 + (jI 1) → LL s2 x2 x3)))))))))
def wl_X4_areaInTray_4 (K47 : ST → Int32 → Prop) (f1_4 : Int32) : Nat → ST → Int32 → Int32 → Prop
  | 0 => fun _ _ _ => False
  | nn + 1 => wb_X4_areaInTray_4 K47 (wl_X4_areaInTray_4 K47 f1_4 nn) f1_4
def wp_X4_areaInTray (σ : ST) (p0 : Int32) (Q : Int32 → ST → Prop) : Prop :=
  (∃ nn : Nat, wl_X4_areaInTray_4 (fun u_47 z2_47 => Q z2_47 u_47) p0 nn σ (jI 0) (jI 0))
def wp_X4_trayValue (σ : ST) (p0 : Int32) (p1 : Int32) (Q : Int32 → ST → Prop) : Prop :=
  ((p1 = (jI 0) → wp_X4_countShelves σ p0 (fun r1 s1 => Q r1 s1)) ∧ (¬ p1 = (jI 0) → ((p1 = (jI 1) → wp_X4_heightOfShelves σ p0 (fun r2 s2 => Q r2 s2)) ∧ (¬ p1 = (jI 1) → ((p1 = (jI 2) → wp_X4_countInTray σ p0 (fun r3 s3 => Q r3 s3)) ∧ (¬ p1 = (jI 2) → wp_X4_areaInTray σ p0 (fun r4 s4 => Q r4 s4)))))))
def wb_X4_letterAt_3 (K44 : ST → Int32 → Prop) (K53 : ST → Prop) (LL : ST → Int32 → Prop) (f1_3 : Int32) (f2_3 : Int32) (f3_3 : Int32) (t_3 : ST) (y4_3 : Int32) : Prop :=
  (((t_3.2 0) ≤ y4_3 → K53 t_3) ∧ (¬ (t_3.2 0) ≤ y4_3 → (∀ v1 : Int32, v1 = zrg t_3 9 y4_3 → wp_X4_isInTray t_3 v1 f1_3 (fun r1 s1 => ((r1 = (jI 0) → (∀ x1 : Int32, x1 = y4_3 + (jI 1) → LL s1 x1)) ∧ (¬ r1 = (jI 0) → wp_X4_covers s1 v1 f2_3 f3_3 (fun r2 s2 => ((r2 = (jI 0) → (∀ x2 : Int32, x2 = y4_3 + (jI 1) → LL s2 x2)) ∧ (¬ r2 = (jI 0) → K44 s2 v1)))))))))
def wl_X4_letterAt_3 (K44 : ST → Int32 → Prop) (K53 : ST → Prop) (f1_3 : Int32) (f2_3 : Int32) (f3_3 : Int32) : Nat → ST → Int32 → Prop
  | 0 => fun _ _ => False
  | nn + 1 => wb_X4_letterAt_3 K44 K53 (wl_X4_letterAt_3 K44 K53 f1_3 f2_3 f3_3 nn) f1_3 f2_3 f3_3
def wp_X4_letterAt (σ : ST) (p0 : Int32) (p1 : Int32) (p2 : Int32) (Q : Int32 → ST → Prop) : Prop :=
  (∃ nn : Nat, wl_X4_letterAt_3 (fun u_44 z5_44 => Q z5_44 u_44) (fun u_53 => Q (jI (-1)) u_53) p0 p1 p2 nn σ (jI 0))
def wp_X4_shelfValue (σ : ST) (p0 : Int32) (p1 : Int32) (Q : Int32 → ST → Prop) : Prop :=
  ((p1 = (jI 0) → wp_X4_topOf σ p0 (fun r1 s1 => Q r1 s1)) ∧ (¬ p1 = (jI 0) → ((p1 = (jI 1) → (∀ v1 : Int32, v1 = zrg σ 2 p0 → Q v1 σ)) ∧ (¬ p1 = (jI 1) → ((p1 = (jI 2) → wp_X4_countOnShelf σ p0 (fun r2 s2 => Q r2 s2)) ∧ (¬ p1 = (jI 2) → ((p1 = (jI 3) → wp_X4_coverOf σ p0 (fun r3 s3 => wp_X1_count s3 r3 (fun r4 s4 => Q r4 s4))) ∧ (¬ p1 = (jI 3) → ((p1 = (jI 4) → wp_X4_coverOf σ p0 (fun r5 s5 => wp_X1_widest s5 r5 (fun r6 s6 => Q r6 s6))) ∧ (¬ p1 = (jI 4) → ((p1 = (jI 5) → wp_X4_latestUseOnShelf σ p0 (fun r7 s7 => Q r7 s7)) ∧ (¬ p1 = (jI 5) → wp_X4_hasLetterOfLine σ p0 (fun r8 s8 => ((r8 = (jI 0) → Q (jI 0) s8) ∧ (¬ r8 = (jI 0) → Q (jI 1) s8)))))))))))))))
def wb_X4_letterOfStreet_4 (K36 : ST → Int32 → Prop) (K48 : ST → Prop) (LL : ST → Int32 → Int32 → Prop) (f1_4 : Int32) (t_4 : ST) (y2_4 : Int32) (y3_4 : Int32) : Prop :=
  (((t_4.2 0) ≤ y3_4 → K48 t_4) ∧ (¬ (t_4.2 0) ≤ y3_4 → (∀ v1 : Int32, v1 = zrg t_4 9 y3_4 → wp_X4_isInStreet t_4 v1 (fun r1 s1 => ((r1 = (jI 0) → (∀ x1 : Int32, x1 = y3_4 + (jI 1) → LL s1 y2_4 x1)) ∧ (¬ r1 = (jI 0) → ((y2_4 = f1_4 → K36 s1 v1) ∧ (¬ y2_4 = f1_4 → (∀ x2 : Int32, x2 = y2_4 + (jI 1) → (∀ x3 : Int32, x3 = y3_4 + (jI 1) → LL s1 x2 x3))))))))))
def wl_X4_letterOfStreet_4 (K36 : ST → Int32 → Prop) (K48 : ST → Prop) (f1_4 : Int32) : Nat → ST → Int32 → Int32 → Prop
  | 0 => fun _ _ _ => False
  | nn + 1 => wb_X4_letterOfStreet_4 K36 K48 (wl_X4_letterOfStreet_4 K36 K48 f1_4 nn) f1_4
def wp_X4_letterOfStreet (σ : ST) (p0 : Int32) (Q : Int32 → ST → Prop) : Prop :=
  (∃ nn : Nat, wl_X4_letterOfStreet_4 (fun u_36 z4_36 => Q z4_36 u_36) (fun u_48 => Q (jI (-1)) u_48) p0 nn σ (jI 0) (jI 0))
def wb_X4_countAllShelves_4 (K26 : ST → Int32 → Prop) (LL : ST → Int32 → Int32 → Prop)  (t_4 : ST) (y1_4 : Int32) (y2_4 : Int32) : Prop :=
  (((t_4.2 1) ≤ y2_4 → K26 t_4 y1_4) ∧ (¬ (t_4.2 1) ≤ y2_4 → wp_X4_countShelves t_4 y2_4 (fun r1 s1 => (∀ x1 : Int32, x1 = (y1_4 + r1) → (∀ x2 : Int32, x2 = y2_4 + (jI 1) → LL s1 x1 x2)))))
def wl_X4_countAllShelves_4 (K26 : ST → Int32 → Prop)  : Nat → ST → Int32 → Int32 → Prop
  | 0 => fun _ _ _ => False
  | nn + 1 => wb_X4_countAllShelves_4 K26 (wl_X4_countAllShelves_4 K26  nn) 
def wp_X4_countAllShelves (σ : ST)  (Q : Int32 → ST → Prop) : Prop :=
  (∃ nn : Nat, wl_X4_countAllShelves_4 (fun u_26 z1_26 => Q z1_26 u_26)  nn σ (jI 0) (jI 0))
def wb_X4_areaLaid_4 (K43 : ST → Int32 → Prop) (LL : ST → Int32 → Int32 → Prop)  (t_4 : ST) (y1_4 : Int32) (y2_4 : Int32) : Prop :=
  (((t_4.2 0) ≤ y2_4 → K43 t_4 y1_4) ∧ (¬ (t_4.2 0) ≤ y2_4 → (∀ v1 : Int32, v1 = zrg t_4 9 y2_4 → wp_X4_isLaid t_4 v1 (fun r1 s1 => ((r1 = (jI 0) → (∀ x1 : Int32, x1 = y2_4 + (jI 1) → LL s1 y1_4 x1)) ∧ (¬ r1 = (jI 0) → wp_X4_areaOf s1 v1 (fun r2 s2 => (∀ x2 : Int32, x2 = (y1_4 + r2) → (∀ x3 : Int32, x3 = y2_4 + (jI 1) → LL s2 x2 x3)))))))))
def wl_X4_areaLaid_4 (K43 : ST → Int32 → Prop)  : Nat → ST → Int32 → Int32 → Prop
  | 0 => fun _ _ _ => False
  | nn + 1 => wb_X4_areaLaid_4 K43 (wl_X4_areaLaid_4 K43  nn) 
def wp_X4_areaLaid (σ : ST)  (Q : Int32 → ST → Prop) : Prop :=
  (∃ nn : Nat, wl_X4_areaLaid_4 (fun u_43 z1_43 => Q z1_43 u_43)  nn σ (jI 0) (jI 0))
def wp_X4_wholeValue (σ : ST) (p0 : Int32) (Q : Int32 → ST → Prop) : Prop :=
  ((p0 = (jI 0) → Q (σ.2 1) σ) ∧ (¬ p0 = (jI 0) → ((p0 = (jI 1) → wp_X4_countAllShelves σ (fun r1 s1 => Q r1 s1)) ∧ (¬ p0 = (jI 1) → ((p0 = (jI 2) → wp_X4_countInStreet σ (fun r2 s2 => Q ((σ.2 0) - r2) s2)) ∧ (¬ p0 = (jI 2) → ((p0 = (jI 3) → wp_X4_countInStreet σ (fun r3 s3 => Q r3 s3)) ∧ (¬ p0 = (jI 3) → ((p0 = (jI 4) → Q (σ.2 2) σ) ∧ (¬ p0 = (jI 4) → ((p0 = (jI 5) → Q (σ.2 3) σ) ∧ (¬ p0 = (jI 5) → ((p0 = (jI 6) → Q (σ.2 4) σ) ∧ (¬ p0 = (jI 6) → ((p0 = (jI 7) → Q (σ.2 5) σ) ∧ (¬ p0 = (jI 7) → ((p0 = (jI 8) → Q (σ.2 6) σ) ∧ (¬ p0 = (jI 8) → ((p0 = (jI 9) → Q (σ.2 7) σ) ∧ (¬ p0 = (jI 9) → ((p0 = (jI 10) → wp_X4_countOfLine σ (fun r4 s4 => Q r4 s4)) ∧ (¬ p0 = (jI 10) → wp_X4_areaLaid σ (fun r5 s5 => Q r5 s5)))))))))))))))))))))))
def wb_X4_oldestLetter_4 (K38 : ST → Int32 → Prop) (LL : ST → Int32 → Int32 → Prop)  (t_4 : ST) (y1_4 : Int32) (y2_4 : Int32) : Prop :=
  (((t_4.2 0) ≤ y2_4 → K38 t_4 y1_4) ∧ (¬ (t_4.2 0) ≤ y2_4 → (∀ v1 : Int32, v1 = zrg t_4 9 y2_4 → wp_X4_isOlder t_4 v1 y1_4 (fun r1 s1 => ((r1 = (jI 0) → (∀ x1 : Int32, x1 = y2_4 + (jI 1) → LL s1 y1_4 x1)) ∧ (¬ r1 = (jI 0) → (∀ x2 : Int32, x2 = y2_4 + (jI 1) → LL s1 v1 x2)))))))
def wl_X4_oldestLetter_4 (K38 : ST → Int32 → Prop)  : Nat → ST → Int32 → Int32 → Prop
  | 0 => fun _ _ _ => False
  | nn + 1 => wb_X4_oldestLetter_4 K38 (wl_X4_oldestLetter_4 K38  nn) 
def wp_X4_oldestLetter (σ : ST)  (Q : Int32 → ST → Prop) : Prop :=
  (∃ nn : Nat, wl_X4_oldestLetter_4 (fun u_38 z1_38 => Q z1_38 u_38)  nn σ (jI (-1)) (jI 0))
def wb_X4_greatestGapArea_4 (K44 : ST → Int32 → Prop) (LL : ST → Int32 → Int32 → Prop)  (t_4 : ST) (y1_4 : Int32) (y2_4 : Int32) : Prop :=
  (((jI 72) ≤ y2_4 → K44 t_4 y1_4) ∧ (¬ (jI 72) ≤ y2_4 → (∀ v1 : Int32, v1 = zrg t_4 2 y2_4 → ((v1 ≤ (jI 0) → (∀ x1 : Int32, x1 = y2_4 + (jI 1) → LL t_4 y1_4 x1)) ∧ (¬ v1 ≤ (jI 0) → wp_X4_coverOf t_4 y2_4 (fun r1 s1 => wp_X1_widest s1 r1 (fun r2 s2 => (∀ x2 : Int32, x2 = (if y1_4 < (r2 * v1) then (r2 * v1) else y1_4) → (∀ x3 : Int32, x3 = y2_4 + (jI 1) → LL s2 x2 x3)))))))))
def wl_X4_greatestGapArea_4 (K44 : ST → Int32 → Prop)  : Nat → ST → Int32 → Int32 → Prop
  | 0 => fun _ _ _ => False
  | nn + 1 => wb_X4_greatestGapArea_4 K44 (wl_X4_greatestGapArea_4 K44  nn) 
def wp_X4_greatestGapArea (σ : ST)  (Q : Int32 → ST → Prop) : Prop :=
  (∃ nn : Nat, wl_X4_greatestGapArea_4 (fun u_44 z1_44 => Q z1_44 u_44)  nn σ (jI 0) (jI 0))
def wp_X6_isBetween (σ : ST) (p0 : Int32) (p1 : Int32) (p2 : Int32) (Q : Int32 → ST → Prop) : Prop :=
  ((p0 < p1 → Q (jI 0) σ) ∧ (¬ p0 < p1 → ((p2 < p0 → Q (jI 0) σ) ∧ (¬ p2 < p0 → Q (jI 1) σ))))
def wp_X6_isSign (σ : ST) (p0 : Int32) (Q : Int32 → ST → Prop) : Prop :=
  wp_X6_isBetween σ p0 (jI 0) (jI 15) (fun r1 s1 => (narrow .boolean (.int r1) = .int r1 ∧ Q r1 s1))
def wp_X6_faultOfCut (σ : ST) (p0 : Int32) (p1 : Int32) (p2 : Int32) (Q : Int32 → ST → Prop) : Prop :=
  wp_X6_isSign σ p0 (fun r1 s1 => ((r1 = (jI 0) → Q (jI 1) s1) ∧ (¬ r1 = (jI 0) → wp_X6_isBetween s1 p1 (jI 1) (jI 6) (fun r2 s2 => ((r2 = (jI 0) → Q (jI 2) s2) ∧ (¬ r2 = (jI 0) → wp_X6_isBetween s2 p2 (jI 1) (jI 6) (fun r3 s3 => ((r3 = (jI 0) → Q (jI 2) s3) ∧ (¬ r3 = (jI 0) → Q (jI 0) s3)))))))))
def wp_X6_faultOfLetter (σ : ST) (p0 : Int32) (p1 : Int32) (p2 : Int32) (Q : Int32 → ST → Prop) : Prop :=
  wp_X6_isSign σ p0 (fun r1 s1 => ((r1 = (jI 0) → Q (jI 1) s1) ∧ (¬ r1 = (jI 0) → wp_X6_isBetween s1 p1 (jI 1) (jI 3) (fun r2 s2 => ((r2 = (jI 0) → Q (jI 2) s2) ∧ (¬ r2 = (jI 0) → wp_X6_isBetween s2 p2 (jI 0) (jI 2) (fun r3 s3 => ((r3 = (jI 0) → Q (jI 2) s3) ∧ (¬ r3 = (jI 0) → Q (jI 0) s3)))))))))
def wp_X6_letterNumber (σ : ST) (p0 : Int32) (p1 : Int32) (p2 : Int32) (Q : Int32 → ST → Prop) : Prop :=
  Q (((((p0 * (jI 3)) + p1) - (jI 1)) * (jI 3)) + p2) σ
def wp_X6_faultOfUse (σ : ST) (p0 : Int32) (p1 : Int32) (p2 : Int32) (Q : Int32 → ST → Prop) : Prop :=
  wp_X6_faultOfLetter σ p0 p1 p2 (fun r1 s1 => ((r1 = (jI 0) → wp_X6_letterNumber s1 p0 p1 p2 (fun r2 s2 => wp_X2_find s2 r2 (fun s3 => (((s3.2 45) = (jI (-1)) → Q (jI 3) s3) ∧ (¬ (s3.2 45) = (jI (-1)) → Q (jI 0) s3))))) ∧ (¬ r1 = (jI 0) → Q r1 s1)))
def wp_X6_faultOfDrop (σ : ST) (p0 : Int32) (p1 : Int32) (p2 : Int32) (Q : Int32 → ST → Prop) : Prop :=
  wp_X6_faultOfLetter σ p0 p1 p2 (fun r1 s1 => ((r1 = (jI 0) → wp_X6_letterNumber s1 p0 p1 p2 (fun r2 s2 => wp_X4_isThere s2 r2 (fun r3 s3 => ((r3 = (jI 0) → Q (jI 3) s3) ∧ (¬ r3 = (jI 0) → Q (jI 0) s3))))) ∧ (¬ r1 = (jI 0) → Q r1 s1)))
def wp_X6_faultOfAddTray (σ : ST)  (Q : Int32 → ST → Prop) : Prop :=
  (((jI 3) ≤ (σ.2 1) → Q (jI 3) σ) ∧ (¬ (jI 3) ≤ (σ.2 1) → Q (jI 0) σ))
def wp_X6_faultOfWhat (σ : ST) (p0 : Int32) (p1 : Int32) (Q : Int32 → ST → Prop) : Prop :=
  wp_X6_isBetween σ p0 (jI 0) (p1 - (jI 1)) (fun r1 s1 => ((r1 = (jI 0) → Q (jI 2) s1) ∧ (¬ r1 = (jI 0) → Q (jI 0) s1)))
def wp_X6_isTray (σ : ST) (p0 : Int32) (Q : Int32 → ST → Prop) : Prop :=
  wp_X6_isBetween σ p0 (jI 0) ((σ.2 1) - (jI 1)) (fun r1 s1 => (narrow .boolean (.int r1) = .int r1 ∧ Q r1 s1))
def wp_X6_isShelf (σ : ST) (p0 : Int32) (p1 : Int32) (Q : Int32 → ST → Prop) : Prop :=
  wp_X4_countShelves σ p0 (fun r1 s1 => wp_X6_isBetween s1 p1 (jI 0) (r1 - (jI 1)) (fun r2 s2 => (narrow .boolean (.int r2) = .int r2 ∧ Q r2 s2)))
def wp_X6_codeOf (σ : ST) (p0 : Int32) (Q : Int32 → ST → Prop) : Prop :=
  ((p0 = (jI (-1)) → Q (jI (-1)) σ) ∧ (¬ p0 = (jI (-1)) → wp_X6_signOf σ p0 (fun r1 s1 => wp_X6_sizeOf s1 p0 (fun r2 s2 => wp_X6_blurOf s2 p0 (fun r3 s3 => Q ((((jI 100) * r1) + ((jI 10) * r2)) + r3) s3)))))
def wp_X6_oldest (σ : ST)  (Q : Int32 → ST → Prop) : Prop :=
  wp_X4_oldestLetter σ (fun r1 s1 => wp_X6_codeOf s1 r1 (fun r2 s2 => Q r2 s2))
def wp_X6_greatestGap (σ : ST)  (Q : Int32 → ST → Prop) : Prop :=
  wp_X4_greatestGapArea σ (fun r1 s1 => Q r1 s1)
def wp_X6_clearCommands (σ : ST)  (Q : Int32 → ST → Prop) : Prop :=
  wp_X0_empty σ (fun r1 s1 => Q r1 s1)
def wp_X6_carryOut (σ : ST) (p0 : Int32) (Q : Int32 → ST → Prop) : Prop :=
  wp_X0_numberOf σ p0 (jI 0) (fun r1 s1 => wp_X0_numberOf s1 p0 (jI 1) (fun r2 s2 => wp_X0_numberOf s2 p0 (jI 2) (fun r3 s3 => wp_X0_wordOf s3 p0 (fun r4 s4 => ((r4 = (jI 0) → wp_X6_faultOfCut s4 r1 r2 r3 (fun r5 s5 => ((r5 = (jI 0) → wp_X4_cutSign s5 r1 r2 r3 (fun r6 s6 => Q (jI 1) s6)) ∧ (¬ r5 = (jI 0) → Q (jI 0) s5)))) ∧ (¬ r4 = (jI 0) → ((r4 = (jI 1) → wp_X6_faultOfUse s4 r1 r2 r3 (fun r7 s7 => ((r7 = (jI 0) → wp_X6_letterNumber s7 r1 r2 r3 (fun r8 s8 => wp_X4_useLetter s8 r8 (fun s9 => Q (jI 1) s9))) ∧ (¬ r7 = (jI 0) → Q (jI 0) s7)))) ∧ (¬ r4 = (jI 1) → ((r4 = (jI 2) → wp_X6_faultOfDrop s4 r1 r2 r3 (fun r9 s10 => ((r9 = (jI 0) → wp_X6_letterNumber s10 r1 r2 r3 (fun r10 s11 => wp_X4_dropLetter s11 r10 (fun r11 s12 => Q (jI 1) s12))) ∧ (¬ r9 = (jI 0) → Q (jI 0) s10)))) ∧ (¬ r4 = (jI 2) → ((r4 = (jI 3) → wp_X4_beginLine s4 (fun r12 s13 => Q (jI 1) s13)) ∧ (¬ r4 = (jI 3) → ((r4 = (jI 4) → wp_X6_faultOfAddTray s4 (fun r13 s14 => ((r13 = (jI 0) → wp_X4_openTray s14 (fun r14 s15 => Q (jI 1) s15)) ∧ (¬ r13 = (jI 0) → Q (jI 0) s14)))) ∧ (¬ r4 = (jI 4) → ((r4 = (jI 5) → wp_X4_closeEmptyShelves s4 (fun r15 s16 => Q (jI 1) s16)) ∧ (¬ r4 = (jI 5) → wp_X4_closeEmptyShelves s4 (fun r16 s17 => Q (jI 1) s17)))))))))))))))))
def wp_X6_mix (σ : ST) (p0 : Int64) (p1 : Int64) (Q : Int64 → ST → Prop) : Prop :=
  Q ((((31) : Int64) * p0) + p1) σ
def wb_X6_mixLetters_16 (K46 : ST → Int64 → Prop) (LL : ST → Int64 → Int32 → Prop) (f5_16 : Int32) (t_16 : ST) (y3_16 : Int64) (y6_16 : Int32) : Prop :=
  (((jI 9) ≤ y6_16 → K46 t_16 y3_16) ∧ (¬ (jI 9) ≤ y6_16 → wp_X4_letterValue t_16 f5_16 y6_16 (fun r1 s1 => wp_X6_mix s1 y3_16 (r1.toInt64) (fun r2 s2 => (∀ x1 : Int32, x1 = y6_16 + (jI 1) → LL s2 r2 x1)))))
def wl_X6_mixLetters_16 (K46 : ST → Int64 → Prop) (f5_16 : Int32) : Nat → ST → Int64 → Int32 → Prop
  | 0 => fun _ _ _ => False
  | nn + 1 => wb_X6_mixLetters_16 K46 (wl_X6_mixLetters_16 K46 f5_16 nn) f5_16
def wb_X6_mixLetters_5 (K52 : ST → Int64 → Prop) (LL : ST → Int64 → Int32 → Prop)  (t_5 : ST) (y3_5 : Int64) (y5_5 : Int32) : Prop :=
  (((jI 144) ≤ y5_5 → K52 t_5 y3_5) ∧ (¬ (jI 144) ≤ y5_5 → (∃ nn : Nat, wl_X6_mixLetters_16 (fun u_46 z3_46 => (∀ x2 : Int32, x2 = y5_5 + (jI 1) → LL u_46 z3_46 x2)) y5_5 nn t_5 y3_5 (jI 0))))
def wl_X6_mixLetters_5 (K52 : ST → Int64 → Prop)  : Nat → ST → Int64 → Int32 → Prop
  | 0 => fun _ _ _ => False
  | nn + 1 => wb_X6_mixLetters_5 K52 (wl_X6_mixLetters_5 K52  nn) 
def wp_X6_mixLetters (σ : ST) (p0 : Int64) (Q : Int64 → ST → Prop) : Prop :=
  (∃ nn : Nat, wl_X6_mixLetters_5 (fun u_52 z3_52 => Q z3_52 u_52)  nn σ p0 (jI 0))
def wb_X6_mixTray_6 (K36 : ST → Int64 → Prop) (LL : ST → Int64 → Int32 → Prop) (f3_6 : Int32) (t_6 : ST) (y4_6 : Int64) (y6_6 : Int32) : Prop :=
  (((jI 4) ≤ y6_6 → K36 t_6 y4_6) ∧ (¬ (jI 4) ≤ y6_6 → wp_X4_trayValue t_6 f3_6 y6_6 (fun r1 s1 => wp_X6_mix s1 y4_6 (r1.toInt64) (fun r2 s2 => (∀ x1 : Int32, x1 = y6_6 + (jI 1) → LL s2 r2 x1)))))
def wl_X6_mixTray_6 (K36 : ST → Int64 → Prop) (f3_6 : Int32) : Nat → ST → Int64 → Int32 → Prop
  | 0 => fun _ _ _ => False
  | nn + 1 => wb_X6_mixTray_6 K36 (wl_X6_mixTray_6 K36 f3_6 nn) f3_6
def wb_X6_mixTray_59 (K96 : ST → Int64 → Prop) (LL : ST → Int64 → Int32 → Prop) (f3_59 : Int32) (f6_59 : Int32) (f7_59 : Int32) (t_59 : ST) (y4_59 : Int64) (y8_59 : Int32) : Prop :=
  (((jI 7) ≤ y8_59 → K96 t_59 y4_59) ∧ (¬ (jI 7) ≤ y8_59 → wp_X4_shelfValue t_59 ((f3_59 * (jI 24)) + f7_59) y8_59 (fun r4 s4 => wp_X6_mix s4 y4_59 (r4.toInt64) (fun r5 s5 => (∀ x2 : Int32, x2 = y8_59 + (jI 1) → LL s5 r5 x2)))))
def wl_X6_mixTray_59 (K96 : ST → Int64 → Prop) (f3_59 : Int32) (f6_59 : Int32) (f7_59 : Int32) : Nat → ST → Int64 → Int32 → Prop
  | 0 => fun _ _ _ => False
  | nn + 1 => wb_X6_mixTray_59 K96 (wl_X6_mixTray_59 K96 f3_59 f6_59 f7_59 nn) f3_59 f6_59 f7_59
def wb_X6_mixTray_49 (K102 : ST → Int64 → Prop) (LL : ST → Int64 → Int32 → Prop) (f3_49 : Int32) (f6_49 : Int32) (t_49 : ST) (y4_49 : Int64) (y7_49 : Int32) : Prop :=
  ((f6_49 ≤ y7_49 → K102 t_49 y4_49) ∧ (¬ f6_49 ≤ y7_49 → (∃ nn : Nat, wl_X6_mixTray_59 (fun u_96 z4_96 => (∀ x3 : Int32, x3 = y7_49 + (jI 1) → LL u_96 z4_96 x3)) f3_49 f6_49 y7_49 nn t_49 y4_49 (jI 0))))
def wl_X6_mixTray_49 (K102 : ST → Int64 → Prop) (f3_49 : Int32) (f6_49 : Int32) : Nat → ST → Int64 → Int32 → Prop
  | 0 => fun _ _ _ => False
  | nn + 1 => wb_X6_mixTray_49 K102 (wl_X6_mixTray_49 K102 f3_49 f6_49 nn) f3_49 f6_49
def wp_X6_mixTray (σ : ST) (p0 : Int64) (p1 : Int32) (Q : Int64 → ST → Prop) : Prop :=
  (∃ nn : Nat, wl_X6_mixTray_6 (fun u_36 z4_36 => wp_X4_countShelves u_36 p1 (fun r3 s3 => (∃ nn : Nat, wl_X6_mixTray_49 (fun u_102 z4_102 => Q z4_102 u_102) p1 r3 nn s3 z4_36 (jI 0)))) p1 nn σ p0 (jI 0))
def wp_X7_thrown (σ : ST)  (Q : Int32 → ST → Prop) : Prop :=
  Q (σ.2 1) σ
def wp_X7_in (σ : ST) (p0 : Int32) (p1 : Int32) (p2 : Int32) (Q : Int32 → ST → Prop) : Prop :=
  ((p0 < p1 → Q (jI 0) σ) ∧ (¬ p0 < p1 → ((p2 < p0 → Q (jI 0) σ) ∧ (¬ p2 < p0 → Q (jI 1) σ))))
def wb_X7_saves_51 (K85 : ST → Prop) (LL : ST → Int32 → Prop)  (t_51 : ST) (y1_51 : Int32) : Prop :=
  (((jI 983) ≤ y1_51 → K85 t_51) ∧ (¬ (jI 983) ≤ y1_51 → (vp_in y1_51 983 ∧ ∀ v1 : Int32, v1 = (t_51.1 0 y1_51.toNatClampNeg) → (vp_in (((jI 983) * (t_51.2 0)) + y1_51) 3932 ∧ ∀ s1 : ST, s1 = zrp t_51 1 (((jI 983) * (t_51.2 0)) + y1_51).toNatClampNeg v1 → (∀ x1 : Int32, x1 = y1_51 + (jI 1) → LL s1 x1)))))
def wl_X7_saves_51 (K85 : ST → Prop)  : Nat → ST → Int32 → Prop
  | 0 => fun _ _ => False
  | nn + 1 => wb_X7_saves_51 K85 (wl_X7_saves_51 K85  nn) 
def wb_X7_saves_10 (K39 : ST → Prop) (LL : ST → Int32 → Prop)  (t_10 : ST) (y1_10 : Int32) : Prop :=
  (((jI 2949) ≤ y1_10 → K39 t_10) ∧ (¬ (jI 2949) ≤ y1_10 → (vp_in (y1_10 + (jI 983)) 3932 ∧ ∀ v2 : Int32, v2 = (t_10.1 1 (y1_10 + (jI 983)).toNatClampNeg) → (vp_in y1_10 3932 ∧ ∀ s3 : ST, s3 = zrp t_10 1 y1_10.toNatClampNeg v2 → (∀ x2 : Int32, x2 = y1_10 + (jI 1) → LL s3 x2)))))
def wl_X7_saves_10 (K39 : ST → Prop)  : Nat → ST → Int32 → Prop
  | 0 => fun _ _ => False
  | nn + 1 => wb_X7_saves_10 K39 (wl_X7_saves_10 K39  nn) 
def wp_X7_saves (σ : ST)  (Q : ST → Prop) : Prop :=
  (((σ.2 0) = (jI 4) → (∃ nn : Nat, wl_X7_saves_10 (fun u_39 => (∀ s4 : ST, s4 = zsp u_39 0 ((u_39.2 0) - (jI 1)) → (∃ nn : Nat, wl_X7_saves_51 (fun u_85 => (∀ s6 : ST, s6 = zsp u_85 0 ((u_85.2 0) + (jI 1)) → Q s6))  nn s4 (jI 0))))  nn σ (jI 0))) ∧ (¬ (σ.2 0) = (jI 4) → (∃ nn : Nat, wl_X7_saves_51 (fun u_85 => (∀ s2 : ST, s2 = zsp u_85 0 ((u_85.2 0) + (jI 1)) → Q s2))  nn σ (jI 0))))
def wb_X7_undo_37 (K71 : ST → Prop) (LL : ST → Int32 → Prop)  (t_37 : ST) (y1_37 : Int32) : Prop :=
  (((jI 983) ≤ y1_37 → K71 t_37) ∧ (¬ (jI 983) ≤ y1_37 → (vp_in (((jI 983) * (t_37.2 0)) + y1_37) 3932 ∧ ∀ v1 : Int32, v1 = (t_37.1 1 (((jI 983) * (t_37.2 0)) + y1_37).toNatClampNeg) → (vp_in y1_37 983 ∧ ∀ s3 : ST, s3 = zrp t_37 0 y1_37.toNatClampNeg v1 → (∀ x1 : Int32, x1 = y1_37 + (jI 1) → LL s3 x1)))))
def wl_X7_undo_37 (K71 : ST → Prop)  : Nat → ST → Int32 → Prop
  | 0 => fun _ _ => False
  | nn + 1 => wb_X7_undo_37 K71 (wl_X7_undo_37 K71  nn) 
def wp_X7_undo (σ : ST)  (Q : Int32 → ST → Prop) : Prop :=
  (((σ.2 0) = (jI 0) → (∀ s4 : ST, s4 = zsp σ 1 (jI 1) → (((s4.2 1) ≤ (jI 0) → (∀ s5 : ST, s5 = zsp s4 0 ((s4.2 0) - (jI 1)) → (∃ nn : Nat, wl_X7_undo_37 (fun u_71 => Q (u_71.2 0) u_71)  nn s5 (jI 0)))) ∧ (¬ (s4.2 1) ≤ (jI 0) → Q (jI 0) s4)))) ∧ (¬ (σ.2 0) = (jI 0) → (∀ s1 : ST, s1 = zsp σ 1 (jI 0) → (((s1.2 1) ≤ (jI 0) → (∀ s2 : ST, s2 = zsp s1 0 ((s1.2 0) - (jI 1)) → (∃ nn : Nat, wl_X7_undo_37 (fun u_71 => Q (u_71.2 0) u_71)  nn s2 (jI 0)))) ∧ (¬ (s1.2 1) ≤ (jI 0) → Q (jI 0) s1)))))
def wp_X7_number (σ : ST) (p0 : Int32) (p1 : Int32) (p2 : Int32) (Q : Int32 → ST → Prop) : Prop :=
  Q ((((jI 9) * p0) + ((jI 3) * (p1 - (jI 1)))) + p2) σ
def wp_X7_codeOf (σ : ST) (p0 : Int32) (Q : Int32 → ST → Prop) : Prop :=
  Q ((((jI 100) * (p0 / (jI 9))) + ((jI 10) * (((p0 - p0 / (jI 9) * (jI 9)) / (jI 3)) + (jI 1)))) + (p0 - p0 / (jI 3) * (jI 3))) σ
def wp_X7_of (σ : ST) (p0 : Int32) (p1 : Int32) (Q : Int32 → ST → Prop) : Prop :=
  (vp_in (((jI 119) + ((jI 6) * p0)) + p1) 983 ∧ ∀ v1 : Int32, v1 = (σ.1 0 (((jI 119) + ((jI 6) * p0)) + p1).toNatClampNeg) → Q v1 σ)
def wp_X7_widthOf (σ : ST) (p0 : Int32) (Q : Int32 → ST → Prop) : Prop :=
  (vp_in ((jI 12) + (p0 / (jI 9))) 983 ∧ ∀ v1 : Int32, v1 = (σ.1 0 ((jI 12) + (p0 / (jI 9))).toNatClampNeg) → Q ((v1 * (((p0 - p0 / (jI 9) * (jI 9)) / (jI 3)) + (jI 1))) + ((jI 2) * (p0 - p0 / (jI 3) * (jI 3)))) σ)
def wp_X7_heightOf (σ : ST) (p0 : Int32) (Q : Int32 → ST → Prop) : Prop :=
  (vp_in ((jI 28) + (p0 / (jI 9))) 983 ∧ ∀ v1 : Int32, v1 = (σ.1 0 ((jI 28) + (p0 / (jI 9))).toNatClampNeg) → Q ((v1 * (((p0 - p0 / (jI 9) * (jI 9)) / (jI 3)) + (jI 1))) + ((jI 2) * (p0 - p0 / (jI 3) * (jI 3)))) σ)
def wp_X7_areaOf (σ : ST) (p0 : Int32) (Q : Int32 → ST → Prop) : Prop :=
  wp_X7_widthOf σ p0 (fun r1 s1 => wp_X7_heightOf s1 p0 (fun r2 s2 => Q (r1 * r2) s2))
def wp_X7_is (σ : ST) (p0 : Int32) (Q : Int32 → ST → Prop) : Prop :=
  wp_X7_of σ p0 (jI 0) (fun r1 s1 => ((r1 = (jI (-1)) → Q (jI 0) s1) ∧ (¬ r1 = (jI (-1)) → Q (jI 1) s1)))
def wp_X7_isLaid (σ : ST) (p0 : Int32) (Q : Int32 → ST → Prop) : Prop :=
  wp_X7_of σ p0 (jI 0) (fun r1 s1 => wp_X7_in s1 r1 (jI 0) (jI 2) (fun r2 s2 => (narrow .boolean (.int r2) = .int r2 ∧ Q r2 s2)))
def wp_X7_isNow (σ : ST) (p0 : Int32) (Q : Int32 → ST → Prop) : Prop :=
  wp_X7_is σ p0 (fun r1 s1 => ((r1 = (jI 0) → Q (jI 0) s1) ∧ (¬ r1 = (jI 0) → wp_X7_of s1 p0 (jI 4) (fun r2 s2 => (vp_in (jI 1) 983 ∧ ∀ v1 : Int32, v1 = (s2.1 0 (jI 1).toNatClampNeg) → ((r2 = v1 → Q (jI 1) s2) ∧ (¬ r2 = v1 → Q (jI 0) s2)))))))
def wp_X7_isOn (σ : ST) (p0 : Int32) (p1 : Int32) (p2 : Int32) (Q : Int32 → ST → Prop) : Prop :=
  wp_X7_of σ p0 (jI 0) (fun r1 s1 => ((r1 = p1 → wp_X7_of s1 p0 (jI 1) (fun r2 s2 => ((r2 = p2 → Q (jI 1) s2) ∧ (¬ r2 = p2 → Q (jI 0) s2)))) ∧ (¬ r1 = p1 → Q (jI 0) s1)))
def wb_X7_goes_14 (K70 : ST → Int32 → Prop) (LL : ST → Int32 → Int32 → Prop) (f1_14 : Int32) (t_14 : ST) (y2_14 : Int32) (y3_14 : Int32) : Prop :=
  (vp_in (jI 7) 983 ∧ ∀ v2 : Int32, v2 = (t_14.1 0 (jI 7).toNatClampNeg) → ((v2 ≤ y3_14 → K70 t_14 y2_14) ∧ (¬ v2 ≤ y3_14 → (vp_in ((jI 8) + y3_14) 983 ∧ ∀ v3 : Int32, v3 = (t_14.1 0 ((jI 8) + y3_14).toNatClampNeg) → (vp_in ((jI 8) + y2_14) 983 ∧ ∀ s4 : ST, s4 = zrp t_14 0 ((jI 8) + y2_14).toNatClampNeg v3 → (vp_in ((jI 8) + y3_14) 983 ∧ ∀ v4 : Int32, v4 = (s4.1 0 ((jI 8) + y3_14).toNatClampNeg) → ((v4 = f1_14 → (∀ x3 : Int32, x3 = (y2_14 + (jI 0)) → (∀ x4 : Int32, x4 = y3_14 + (jI 1) → LL s4 x3 x4))) ∧ (¬ v4 = f1_14 → (∀ x1 : Int32, x1 = (y2_14 + (jI 1)) → (∀ x2 : Int32, x2 = y3_14 + (jI 1) → LL s4 x1 x2))))))))))
def wl_X7_goes_14 (K70 : ST → Int32 → Prop) (f1_14 : Int32) : Nat → ST → Int32 → Int32 → Prop
  | 0 => fun _ _ _ => False
  | nn + 1 => wb_X7_goes_14 K70 (wl_X7_goes_14 K70 f1_14 nn) f1_14
def wp_X7_goes (σ : ST) (p0 : Int32) (Q : ST → Prop) : Prop :=
  wp_X7_of σ p0 (jI 0) (fun r1 s1 => ((r1 = (jI 3) → (∃ nn : Nat, wl_X7_goes_14 (fun u_70 z2_70 => (vp_in (jI 7) 983 ∧ ∀ s5 : ST, s5 = zrp u_70 0 (jI 7).toNatClampNeg z2_70 → (vp_in ((jI 119) + ((jI 6) * p0)) 983 ∧ ∀ s6 : ST, s6 = zrp s5 0 ((jI 119) + ((jI 6) * p0)).toNatClampNeg (jI (-1)) → (vp_in (jI 5) 983 ∧ ∀ v5 : Int32, v5 = (s6.1 0 (jI 5).toNatClampNeg) → (vp_in (jI 5) 983 ∧ ∀ s7 : ST, s7 = zrp s6 0 (jI 5).toNatClampNeg (v5 + (jI 1)) → Q s7))))) p0 nn s1 (jI 0) (jI 0))) ∧ (¬ r1 = (jI 3) → (vp_in ((jI 119) + ((jI 6) * p0)) 983 ∧ ∀ s2 : ST, s2 = zrp s1 0 ((jI 119) + ((jI 6) * p0)).toNatClampNeg (jI (-1)) → (vp_in (jI 5) 983 ∧ ∀ v1 : Int32, v1 = (s2.1 0 (jI 5).toNatClampNeg) → (vp_in (jI 5) 983 ∧ ∀ s3 : ST, s3 = zrp s2 0 (jI 5).toNatClampNeg (v1 + (jI 1)) → Q s3))))))
def wp_X7_bars (σ : ST) (p0 : Int32) (p1 : Int32) (p2 : Int32) (Q : Int32 → ST → Prop) : Prop :=
  wp_X7_in σ p0 (jI 0) (jI 15) (fun r1 s1 => ((r1 = (jI 0) → Q (jI 1) s1) ∧ (¬ r1 = (jI 0) → wp_X7_in s1 p1 (jI 1) (jI 3) (fun r2 s2 => ((r2 = (jI 0) → Q (jI 2) s2) ∧ (¬ r2 = (jI 0) → wp_X7_in s2 p2 (jI 0) (jI 2) (fun r3 s3 => ((r3 = (jI 0) → Q (jI 2) s3) ∧ (¬ r3 = (jI 0) → Q (jI 0) s3)))))))))
def wp_X7_tall (σ : ST) (p0 : Int32) (p1 : Int32) (Q : Int32 → ST → Prop) : Prop :=
  (vp_in (((jI 47) + ((jI 24) * p0)) + p1) 983 ∧ ∀ v1 : Int32, v1 = (σ.1 0 (((jI 47) + ((jI 24) * p0)) + p1).toNatClampNeg) → Q v1 σ)
def wb_X7_top_5 (K27 : ST → Int32 → Prop) (LL : ST → Int32 → Int32 → Prop) (f1_5 : Int32) (f2_5 : Int32) (t_5 : ST) (y3_5 : Int32) (y4_5 : Int32) : Prop :=
  ((f2_5 ≤ y4_5 → K27 t_5 y3_5) ∧ (¬ f2_5 ≤ y4_5 → wp_X7_tall t_5 f1_5 y4_5 (fun r1 s1 => (∀ x1 : Int32, x1 = (y3_5 + r1) → (∀ x2 : Int32, x2 = y4_5 + (jI 1) → LL s1 x1 x2)))))
def wl_X7_top_5 (K27 : ST → Int32 → Prop) (f1_5 : Int32) (f2_5 : Int32) : Nat → ST → Int32 → Int32 → Prop
  | 0 => fun _ _ _ => False
  | nn + 1 => wb_X7_top_5 K27 (wl_X7_top_5 K27 f1_5 f2_5 nn) f1_5 f2_5
def wp_X7_top (σ : ST) (p0 : Int32) (p1 : Int32) (Q : Int32 → ST → Prop) : Prop :=
  (∃ nn : Nat, wl_X7_top_5 (fun u_27 z3_27 => Q z3_27 u_27) p0 p1 nn σ (jI 0) (jI 0))
def wb_X7_covers_2 (K21 : ST → Prop) (LL : ST → Int32 → Prop) (f1_2 : Int32) (f2_2 : Int32) (t_2 : ST) (y3_2 : Int32) : Prop :=
  (((jI 24) ≤ y3_2 → K21 t_2) ∧ (¬ (jI 24) ≤ y3_2 → (vp_in y3_2 25 ∧ ∀ s1 : ST, s1 = zrp t_2 2 y3_2.toNatClampNeg (jI 0) → (∀ x1 : Int32, x1 = y3_2 + (jI 1) → LL s1 x1))))
def wl_X7_covers_2 (K21 : ST → Prop) (f1_2 : Int32) (f2_2 : Int32) : Nat → ST → Int32 → Prop
  | 0 => fun _ _ => False
  | nn + 1 => wb_X7_covers_2 K21 (wl_X7_covers_2 K21 f1_2 f2_2 nn) f1_2 f2_2
def wb_X7_covers_41 (K82 : ST → Prop) (LL : ST → Int32 → Prop) (f1_41 : Int32) (f2_41 : Int32) (f3_41 : Int32) (t_41 : ST) (y4_41 : Int32) : Prop :=
  wp_X7_widthOf t_41 f3_41 (fun r1 s3 => ((r1 ≤ y4_41 → K82 s3) ∧ (¬ r1 ≤ y4_41 → wp_X7_isOn s3 f3_41 f1_41 f2_41 (fun r2 s4 => ((r2 = (jI 0) → K82 s4) ∧ (¬ r2 = (jI 0) → wp_X7_of s4 f3_41 (jI 2) (fun r3 s5 => (vp_in (r3 + y4_41) 25 ∧ ∀ s6 : ST, s6 = zrp s5 2 (r3 + y4_41).toNatClampNeg (jI 1) → (∀ x2 : Int32, x2 = y4_41 + (jI 1) → LL s6 x2)))))))))
def wl_X7_covers_41 (K82 : ST → Prop) (f1_41 : Int32) (f2_41 : Int32) (f3_41 : Int32) : Nat → ST → Int32 → Prop
  | 0 => fun _ _ => False
  | nn + 1 => wb_X7_covers_41 K82 (wl_X7_covers_41 K82 f1_41 f2_41 f3_41 nn) f1_41 f2_41 f3_41
def wb_X7_covers_31 (K88 : ST → Prop) (LL : ST → Int32 → Prop) (f1_31 : Int32) (f2_31 : Int32) (t_31 : ST) (y3_31 : Int32) : Prop :=
  (((jI 144) ≤ y3_31 → K88 t_31) ∧ (¬ (jI 144) ≤ y3_31 → (∃ nn : Nat, wl_X7_covers_41 (fun u_82 => (∀ x3 : Int32, x3 = y3_31 + (jI 1) → LL u_82 x3)) f1_31 f2_31 y3_31 nn t_31 (jI 0))))
def wl_X7_covers_31 (K88 : ST → Prop) (f1_31 : Int32) (f2_31 : Int32) : Nat → ST → Int32 → Prop
  | 0 => fun _ _ => False
  | nn + 1 => wb_X7_covers_31 K88 (wl_X7_covers_31 K88 f1_31 f2_31 nn) f1_31 f2_31
def wp_X7_covers (σ : ST) (p0 : Int32) (p1 : Int32) (Q : ST → Prop) : Prop :=
  (∃ nn : Nat, wl_X7_covers_2 (fun u_21 => (vp_in (jI 24) 25 ∧ ∀ s2 : ST, s2 = zrp u_21 2 (jI 24).toNatClampNeg (jI 1) → (∃ nn : Nat, wl_X7_covers_31 (fun u_88 => Q u_88) p0 p1 nn s2 (jI 0)))) p0 p1 nn σ (jI 0))
def wb_X7_endOf_2 (K32 : ST → Int32 → Prop) (LL : ST → Int32 → Prop) (f1_2 : Int32) (t_2 : ST) (y2_2 : Int32) : Prop :=
  ((f1_2 = (jI 0) → (vp_in y2_2 25 ∧ ∀ v1 : Int32, v1 = (t_2.1 2 y2_2.toNatClampNeg) → ((v1 = (jI 0) → (∀ x1 : Int32, x1 = y2_2 + (jI 1) → LL t_2 x1)) ∧ (¬ v1 = (jI 0) → K32 t_2 y2_2)))) ∧ (¬ f1_2 = (jI 0) → (vp_in (f1_2 - (jI 1)) 25 ∧ ∀ v2 : Int32, v2 = (t_2.1 2 (f1_2 - (jI 1)).toNatClampNeg) → ((v2 = (jI 0) → K32 t_2 y2_2) ∧ (¬ v2 = (jI 0) → (vp_in y2_2 25 ∧ ∀ v3 : Int32, v3 = (t_2.1 2 y2_2.toNatClampNeg) → ((v3 = (jI 0) → (∀ x2 : Int32, x2 = y2_2 + (jI 1) → LL t_2 x2)) ∧ (¬ v3 = (jI 0) → K32 t_2 y2_2))))))))
def wl_X7_endOf_2 (K32 : ST → Int32 → Prop) (f1_2 : Int32) : Nat → ST → Int32 → Prop
  | 0 => fun _ _ => False
  | nn + 1 => wb_X7_endOf_2 K32 (wl_X7_endOf_2 K32 f1_2 nn) f1_2
def wp_X7_endOf (σ : ST) (p0 : Int32) (Q : Int32 → ST → Prop) : Prop :=
  (∃ nn : Nat, wl_X7_endOf_2 (fun u_32 z2_32 => Q z2_32 u_32) p0 nn σ p0)
def wb_X7_lettersOn_5 (K38 : ST → Int32 → Prop) (LL : ST → Int32 → Int32 → Prop) (f1_5 : Int32) (f2_5 : Int32) (t_5 : ST) (y3_5 : Int32) (y4_5 : Int32) : Prop :=
  (((jI 144) ≤ y4_5 → K38 t_5 y3_5) ∧ (¬ (jI 144) ≤ y4_5 → wp_X7_isOn t_5 y4_5 f1_5 f2_5 (fun r1 s1 => ((r1 = (jI 0) → (∀ x1 : Int32, x1 = (y3_5 + (jI 0)) → (∀ x2 : Int32, x2 = y4_5 + (jI 1) → LL s1 x1 x2))) ∧ (¬ r1 = (jI 0) → (∀ x3 : Int32, x3 = (y3_5 + (jI 1)) → (∀ x4 : Int32, x4 = y4_5 + (jI 1) → LL s1 x3 x4)))))))
def wl_X7_lettersOn_5 (K38 : ST → Int32 → Prop) (f1_5 : Int32) (f2_5 : Int32) : Nat → ST → Int32 → Int32 → Prop
  | 0 => fun _ _ _ => False
  | nn + 1 => wb_X7_lettersOn_5 K38 (wl_X7_lettersOn_5 K38 f1_5 f2_5 nn) f1_5 f2_5
def wp_X7_lettersOn (σ : ST) (p0 : Int32) (p1 : Int32) (Q : Int32 → ST → Prop) : Prop :=
  (∃ nn : Nat, wl_X7_lettersOn_5 (fun u_38 z3_38 => Q z3_38 u_38) p0 p1 nn σ (jI 0) (jI 0))
def wb_X7_latestOn_5 (K53 : ST → Int32 → Prop) (LL : ST → Int32 → Int32 → Prop) (f1_5 : Int32) (f2_5 : Int32) (t_5 : ST) (y3_5 : Int32) (y4_5 : Int32) : Prop :=
  (((jI 144) ≤ y4_5 → K53 t_5 y3_5) ∧ (¬ (jI 144) ≤ y4_5 → wp_X7_isOn t_5 y4_5 f1_5 f2_5 (fun r1 s1 => ((r1 = (jI 0) → (∀ x1 : Int32, x1 = y4_5 + (jI 1) → LL s1 y3_5 x1)) ∧ (¬ r1 = (jI 0) → wp_X7_of s1 y4_5 (jI 3) (fun r2 s2 => ((r2 ≤ y3_5 → (∀ x2 : Int32, x2 = y4_5 + (jI 1) → LL s2 y3_5 x2)) ∧ (¬ r2 ≤ y3_5 → wp_X7_of s2 y4_5 (jI 3) (fun r3 s3 => (∀ x3 : Int32, x3 = y4_5 + (jI 1) → LL s3 r3 x3))))))))))
def wl_X7_latestOn_5 (K53 : ST → Int32 → Prop) (f1_5 : Int32) (f2_5 : Int32) : Nat → ST → Int32 → Int32 → Prop
  | 0 => fun _ _ _ => False
  | nn + 1 => wb_X7_latestOn_5 K53 (wl_X7_latestOn_5 K53 f1_5 f2_5 nn) f1_5 f2_5
def wp_X7_latestOn (σ : ST) (p0 : Int32) (p1 : Int32) (Q : Int32 → ST → Prop) : Prop :=
  (∃ nn : Nat, wl_X7_latestOn_5 (fun u_53 z3_53 => Q z3_53 u_53) p0 p1 nn σ (jI (-1)) (jI 0))
def wb_X7_isNowOn_5 (K49 : ST → Int32 → Prop) (LL : ST → Int32 → Int32 → Prop) (f1_5 : Int32) (f2_5 : Int32) (t_5 : ST) (y3_5 : Int32) (y4_5 : Int32) : Prop :=
  (((jI 144) ≤ y4_5 → K49 t_5 y3_5) ∧ (¬ (jI 144) ≤ y4_5 → ((y3_5 = (jI 0) → wp_X7_isOn t_5 y4_5 f1_5 f2_5 (fun r1 s1 => ((r1 = (jI 0) → (∀ x2 : Int32, x2 = y4_5 + (jI 1) → LL s1 (jI 0) x2)) ∧ (¬ r1 = (jI 0) → wp_X7_isNow s1 y4_5 (fun r2 s2 => ((r2 = (jI 0) → (∀ x3 : Int32, x3 = y4_5 + (jI 1) → LL s2 (jI 0) x3)) ∧ (¬ r2 = (jI 0) → (∀ x4 : Int32, x4 = y4_5 + (jI 1) → LL s2 (jI 1) x4)))))))) ∧ (¬ y3_5 = (jI 0) → (∀ x1 : Int32, x1 = y4_5 + (jI 1) → LL t_5 (jI 1) x1)))))
def wl_X7_isNowOn_5 (K49 : ST → Int32 → Prop) (f1_5 : Int32) (f2_5 : Int32) : Nat → ST → Int32 → Int32 → Prop
  | 0 => fun _ _ _ => False
  | nn + 1 => wb_X7_isNowOn_5 K49 (wl_X7_isNowOn_5 K49 f1_5 f2_5 nn) f1_5 f2_5
def wp_X7_isNowOn (σ : ST) (p0 : Int32) (p1 : Int32) (Q : Int32 → ST → Prop) : Prop :=
  (∃ nn : Nat, wl_X7_isNowOn_5 (fun u_49 z3_49 => (narrow .boolean (.int z3_49) = .int z3_49 ∧ Q z3_49 u_49)) p0 p1 nn σ (jI 0) (jI 0))
def wb_X7_looksAtGaps_57 (K123 : ST → Int32 → Prop) (LL : ST → Int32 → Int32 → Prop) (f1_57 : Int32) (f3_57 : Int32) (f4_57 : Int32) (f5_57 : Int32) (t_57 : ST) (y2_57 : Int32) (y6_57 : Int32) : Prop :=
  (((jI 24) ≤ y6_57 → K123 t_57 y2_57) ∧ (¬ (jI 24) ≤ y6_57 → ((f5_57 < (jI 0) → K123 t_57 y2_57) ∧ (¬ f5_57 < (jI 0) → ((y2_57 ≤ f5_57 → K123 t_57 y2_57) ∧ (¬ y2_57 ≤ f5_57 → wp_X7_endOf t_57 y6_57 (fun r3 s4 => wp_X7_widthOf s4 f1_57 (fun r4 s5 => (((r3 - y6_57) < r4 → (∀ x2 : Int32, x2 = y6_57 + (jI 1) → LL s5 y2_57 x2)) ∧ (¬ (r3 - y6_57) < r4 → (∀ s6 : ST, s6 = zsp s5 2 (jI 1) → (∀ s7 : ST, s7 = zsp s6 3 f3_57 → (∀ s8 : ST, s8 = zsp s7 4 f4_57 → (∀ s9 : ST, s9 = zsp s8 5 y6_57 → (∀ x3 : Int32, x3 = y6_57 + (jI 1) → LL s9 f5_57 x3)))))))))))))))
def wl_X7_looksAtGaps_57 (K123 : ST → Int32 → Prop) (f1_57 : Int32) (f3_57 : Int32) (f4_57 : Int32) (f5_57 : Int32) : Nat → ST → Int32 → Int32 → Prop
  | 0 => fun _ _ _ => False
  | nn + 1 => wb_X7_looksAtGaps_57 K123 (wl_X7_looksAtGaps_57 K123 f1_57 f3_57 f4_57 f5_57 nn) f1_57 f3_57 f4_57 f5_57
def wb_X7_looksAtGaps_18 (K129 : ST → Int32 → Prop) (LL : ST → Int32 → Int32 → Prop) (f1_18 : Int32) (f3_18 : Int32) (t_18 : ST) (y2_18 : Int32) (y4_18 : Int32) : Prop :=
  (vp_in ((jI 44) + f3_18) 983 ∧ ∀ v2 : Int32, v2 = (t_18.1 0 ((jI 44) + f3_18).toNatClampNeg) → ((v2 ≤ y4_18 → K129 t_18 y2_18) ∧ (¬ v2 ≤ y4_18 → wp_X7_tall t_18 f3_18 y4_18 (fun r1 s1 => wp_X7_heightOf s1 f1_18 (fun r2 s2 => (∀ x1 : Int32, x1 = (r1 - r2) → wp_X7_covers s2 f3_18 y4_18 (fun s3 => (∃ nn : Nat, wl_X7_looksAtGaps_57 (fun u_123 z2_123 => (∀ x4 : Int32, x4 = y4_18 + (jI 1) → LL u_123 z2_123 x4)) f1_18 f3_18 y4_18 x1 nn s3 y2_18 (jI 0)))))))))
def wl_X7_looksAtGaps_18 (K129 : ST → Int32 → Prop) (f1_18 : Int32) (f3_18 : Int32) : Nat → ST → Int32 → Int32 → Prop
  | 0 => fun _ _ _ => False
  | nn + 1 => wb_X7_looksAtGaps_18 K129 (wl_X7_looksAtGaps_18 K129 f1_18 f3_18 nn) f1_18 f3_18
def wb_X7_looksAtGaps_5 (K135 : ST → Prop) (LL : ST → Int32 → Int32 → Prop) (f1_5 : Int32) (t_5 : ST) (y2_5 : Int32) (y3_5 : Int32) : Prop :=
  (vp_in (jI 0) 983 ∧ ∀ v1 : Int32, v1 = (t_5.1 0 (jI 0).toNatClampNeg) → ((v1 ≤ y3_5 → K135 t_5) ∧ (¬ v1 ≤ y3_5 → (∃ nn : Nat, wl_X7_looksAtGaps_18 (fun u_129 z2_129 => (∀ x5 : Int32, x5 = y3_5 + (jI 1) → LL u_129 z2_129 x5)) f1_5 y3_5 nn t_5 y2_5 (jI 0)))))
def wl_X7_looksAtGaps_5 (K135 : ST → Prop) (f1_5 : Int32) : Nat → ST → Int32 → Int32 → Prop
  | 0 => fun _ _ _ => False
  | nn + 1 => wb_X7_looksAtGaps_5 K135 (wl_X7_looksAtGaps_5 K135 f1_5 nn) f1_5
def wp_X7_looksAtGaps (σ : ST) (p0 : Int32) (Q : ST → Prop) : Prop :=
  (∃ nn : Nat, wl_X7_looksAtGaps_5 (fun u_135 => Q u_135) p0 nn σ (jI 24) (jI 0))
def wb_X7_looksAtTrays_9 (K72 : ST → Prop) (LL : ST → Int32 → Prop) (f1_9 : Int32) (t_9 : ST) (y2_9 : Int32) : Prop :=
  ((y2_9 < (jI 0) → K72 t_9) ∧ (¬ y2_9 < (jI 0) → (vp_in ((jI 44) + y2_9) 983 ∧ ∀ v2 : Int32, v2 = (t_9.1 0 ((jI 44) + y2_9).toNatClampNeg) → wp_X7_top t_9 y2_9 v2 (fun r1 s1 => wp_X7_heightOf s1 f1_9 (fun r2 s2 => (((jI 24) < (r1 + r2) → (∀ x2 : Int32, x2 = y2_9 + (jI (-1)) → LL s2 x2)) ∧ (¬ (jI 24) < (r1 + r2) → (∀ s3 : ST, s3 = zsp s2 2 (jI 2) → (∀ s4 : ST, s4 = zsp s3 3 y2_9 → (vp_in ((jI 44) + y2_9) 983 ∧ ∀ v3 : Int32, v3 = (s4.1 0 ((jI 44) + y2_9).toNatClampNeg) → (∀ s5 : ST, s5 = zsp s4 4 v3 → (∀ s6 : ST, s6 = zsp s5 5 (jI 0) → (∀ x3 : Int32, x3 = y2_9 + (jI (-1)) → LL s6 x3)))))))))))))
def wl_X7_looksAtTrays_9 (K72 : ST → Prop) (f1_9 : Int32) : Nat → ST → Int32 → Prop
  | 0 => fun _ _ => False
  | nn + 1 => wb_X7_looksAtTrays_9 K72 (wl_X7_looksAtTrays_9 K72 f1_9 nn) f1_9
def wp_X7_looksAtTrays (σ : ST) (p0 : Int32) (Q : ST → Prop) : Prop :=
  (vp_in (jI 0) 983 ∧ ∀ v1 : Int32, v1 = (σ.1 0 (jI 0).toNatClampNeg) → (∀ x1 : Int32, x1 = (v1 - (jI 1)) → (∃ nn : Nat, wl_X7_looksAtTrays_9 (fun u_72 => Q u_72) p0 nn σ x1)))
def wb_X7_looksAtShelves_17 (K132 : ST → Int32 → Prop) (LL : ST → Int32 → Int32 → Prop) (f1_17 : Int32) (f3_17 : Int32) (t_17 : ST) (y2_17 : Int32) (y4_17 : Int32) : Prop :=
  (vp_in ((jI 44) + f3_17) 983 ∧ ∀ v2 : Int32, v2 = (t_17.1 0 ((jI 44) + f3_17).toNatClampNeg) → ((v2 ≤ y4_17 → K132 t_17 y2_17) ∧ (¬ v2 ≤ y4_17 → wp_X7_latestOn t_17 f3_17 y4_17 (fun r1 s1 => wp_X7_tall s1 f3_17 y4_17 (fun r2 s2 => wp_X7_heightOf s2 f1_17 (fun r3 s3 => ((r2 < r3 → (∀ x1 : Int32, x1 = y4_17 + (jI 1) → LL s3 y2_17 x1)) ∧ (¬ r2 < r3 → wp_X7_isNowOn s3 f3_17 y4_17 (fun r4 s4 => ((r4 = (jI 0) → (((s4.2 2) = (jI (-1)) → (∀ s5 : ST, s5 = zsp s4 2 (jI 3) → (∀ s6 : ST, s6 = zsp s5 3 f3_17 → (∀ s7 : ST, s7 = zsp s6 4 y4_17 → (∀ s8 : ST, s8 = zsp s7 5 (jI 0) → wp_X7_lettersOn s8 f3_17 y4_17 (fun r5 s9 => (∀ s10 : ST, s10 = zsp s9 7 r5 → (∀ x3 : Int32, x3 = y4_17 + (jI 1) → LL s10 r1 x3)))))))) ∧ (¬ (s4.2 2) = (jI (-1)) → ((y2_17 ≤ r1 → (∀ x4 : Int32, x4 = y4_17 + (jI 1) → LL s4 y2_17 x4)) ∧ (¬ y2_17 ≤ r1 → (∀ s11 : ST, s11 = zsp s4 2 (jI 3) → (∀ s12 : ST, s12 = zsp s11 3 f3_17 → (∀ s13 : ST, s13 = zsp s12 4 y4_17 → (∀ s14 : ST, s14 = zsp s13 5 (jI 0) → wp_X7_lettersOn s14 f3_17 y4_17 (fun r6 s15 => (∀ s16 : ST, s16 = zsp s15 7 r6 → (∀ x5 : Int32, x5 = y4_17 + (jI 1) → LL s16 r1 x5)))))))))))) ∧ (¬ r4 = (jI 0) → (∀ x2 : Int32, x2 = y4_17 + (jI 1) → LL s4 y2_17 x2))))))))))))
def wl_X7_looksAtShelves_17 (K132 : ST → Int32 → Prop) (f1_17 : Int32) (f3_17 : Int32) : Nat → ST → Int32 → Int32 → Prop
  | 0 => fun _ _ _ => False
  | nn + 1 => wb_X7_looksAtShelves_17 K132 (wl_X7_looksAtShelves_17 K132 f1_17 f3_17 nn) f1_17 f3_17
def wb_X7_looksAtShelves_4 (K138 : ST → Prop) (LL : ST → Int32 → Int32 → Prop) (f1_4 : Int32) (t_4 : ST) (y2_4 : Int32) (y3_4 : Int32) : Prop :=
  (vp_in (jI 0) 983 ∧ ∀ v1 : Int32, v1 = (t_4.1 0 (jI 0).toNatClampNeg) → ((v1 ≤ y3_4 → K138 t_4) ∧ (¬ v1 ≤ y3_4 → (∃ nn : Nat, wl_X7_looksAtShelves_17 (fun u_132 z2_132 => (∀ x6 : Int32, x6 = y3_4 + (jI 1) → LL u_132 z2_132 x6)) f1_4 y3_4 nn t_4 y2_4 (jI 0)))))
def wl_X7_looksAtShelves_4 (K138 : ST → Prop) (f1_4 : Int32) : Nat → ST → Int32 → Int32 → Prop
  | 0 => fun _ _ _ => False
  | nn + 1 => wb_X7_looksAtShelves_4 K138 (wl_X7_looksAtShelves_4 K138 f1_4 nn) f1_4
def wp_X7_looksAtShelves (σ : ST) (p0 : Int32) (Q : ST → Prop) : Prop :=
  (∃ nn : Nat, wl_X7_looksAtShelves_4 (fun u_138 => Q u_138) p0 nn σ (jI 0) (jI 0))
def wb_X7_looksAtStreet_19 (K89 : ST → Prop) (LL : ST → Int32 → Prop)  (t_19 : ST) (y1_19 : Int32) : Prop :=
  (((jI 4) ≤ y1_19 → K89 t_19) ∧ (¬ (jI 4) ≤ y1_19 → (vp_in ((jI 8) + y1_19) 983 ∧ ∀ v2 : Int32, v2 = (t_19.1 0 ((jI 8) + y1_19).toNatClampNeg) → wp_X7_isNow t_19 v2 (fun r1 s1 => ((r1 = (jI 0) → (((s1.2 6) = (jI (-1)) → (∀ s2 : ST, s2 = zsp s1 6 v2 → (∀ s3 : ST, s3 = zsp s2 2 (jI 4) → (∀ s4 : ST, s4 = zsp s3 7 (jI 1) → (∀ x2 : Int32, x2 = y1_19 + (jI 1) → LL s4 x2))))) ∧ (¬ (s1.2 6) = (jI (-1)) → wp_X7_of s1 v2 (jI 3) (fun r2 s5 => wp_X7_of s5 (s5.2 6) (jI 3) (fun r3 s6 => ((r3 ≤ r2 → (∀ x3 : Int32, x3 = y1_19 + (jI 1) → LL s6 x3)) ∧ (¬ r3 ≤ r2 → (∀ s7 : ST, s7 = zsp s6 6 v2 → (∀ s8 : ST, s8 = zsp s7 2 (jI 4) → (∀ s9 : ST, s9 = zsp s8 7 (jI 1) → (∀ x4 : Int32, x4 = y1_19 + (jI 1) → LL s9 x4))))))))))) ∧ (¬ r1 = (jI 0) → (∀ x1 : Int32, x1 = y1_19 + (jI 1) → LL s1 x1)))))))
def wl_X7_looksAtStreet_19 (K89 : ST → Prop)  : Nat → ST → Int32 → Prop
  | 0 => fun _ _ => False
  | nn + 1 => wb_X7_looksAtStreet_19 K89 (wl_X7_looksAtStreet_19 K89  nn) 
def wp_X7_looksAtStreet (σ : ST)  (Q : ST → Prop) : Prop :=
  (vp_in (jI 7) 983 ∧ ∀ v1 : Int32, v1 = (σ.1 0 (jI 7).toNatClampNeg) → (((jI 4) ≤ v1 → (∃ nn : Nat, wl_X7_looksAtStreet_19 (fun u_89 => Q u_89)  nn σ (jI 0))) ∧ (¬ (jI 4) ≤ v1 → (∀ s10 : ST, s10 = zsp σ 2 (jI 4) → Q s10))))
def wp_X7_looks (σ : ST) (p0 : Int32) (Q : ST → Prop) : Prop :=
  wp_X7_is σ p0 (fun r1 s1 => ((r1 = (jI 0) → (∀ s2 : ST, s2 = zsp s1 2 (jI (-1)) → (∀ s3 : ST, s3 = zsp s2 6 (jI (-1)) → (∀ s4 : ST, s4 = zsp s3 7 (jI 0) → (((s4.2 2) = (jI (-1)) → wp_X7_looksAtGaps s4 p0 (fun s12 => (((s12.2 2) = (jI (-1)) → wp_X7_looksAtTrays s12 p0 (fun s16 => (((s16.2 2) = (jI (-1)) → wp_X7_looksAtShelves s16 p0 (fun s18 => (((s18.2 2) = (jI (-1)) → wp_X7_looksAtStreet s18 (fun s19 => Q s19)) ∧ (¬ (s18.2 2) = (jI (-1)) → Q s18)))) ∧ (¬ (s16.2 2) = (jI (-1)) → (((s16.2 2) = (jI (-1)) → wp_X7_looksAtStreet s16 (fun s17 => Q s17)) ∧ (¬ (s16.2 2) = (jI (-1)) → Q s16)))))) ∧ (¬ (s12.2 2) = (jI (-1)) → (((s12.2 2) = (jI (-1)) → wp_X7_looksAtShelves s12 p0 (fun s14 => (((s14.2 2) = (jI (-1)) → wp_X7_looksAtStreet s14 (fun s15 => Q s15)) ∧ (¬ (s14.2 2) = (jI (-1)) → Q s14)))) ∧ (¬ (s12.2 2) = (jI (-1)) → (((s12.2 2) = (jI (-1)) → wp_X7_looksAtStreet s12 (fun s13 => Q s13)) ∧ (¬ (s12.2 2) = (jI (-1)) → Q s12)))))))) ∧ (¬ (s4.2 2) = (jI (-1)) → (((s4.2 2) = (jI (-1)) → wp_X7_looksAtTrays s4 p0 (fun s8 => (((s8.2 2) = (jI (-1)) → wp_X7_looksAtShelves s8 p0 (fun s10 => (((s10.2 2) = (jI (-1)) → wp_X7_looksAtStreet s10 (fun s11 => Q s11)) ∧ (¬ (s10.2 2) = (jI (-1)) → Q s10)))) ∧ (¬ (s8.2 2) = (jI (-1)) → (((s8.2 2) = (jI (-1)) → wp_X7_looksAtStreet s8 (fun s9 => Q s9)) ∧ (¬ (s8.2 2) = (jI (-1)) → Q s8)))))) ∧ (¬ (s4.2 2) = (jI (-1)) → (((s4.2 2) = (jI (-1)) → wp_X7_looksAtShelves s4 p0 (fun s6 => (((s6.2 2) = (jI (-1)) → wp_X7_looksAtStreet s6 (fun s7 => Q s7)) ∧ (¬ (s6.2 2) = (jI (-1)) → Q s6)))) ∧ (¬ (s4.2 2) = (jI (-1)) → (((s4.2 2) = (jI (-1)) → wp_X7_looksAtStreet s4 (fun s5 => Q s5)) ∧ (¬ (s4.2 2) = (jI (-1)) → Q s4)))))))))))) ∧ (¬ r1 = (jI 0) → (∀ s20 : ST, s20 = zsp s1 2 (jI 0) → (∀ s21 : ST, s21 = zsp s20 6 (jI (-1)) → (∀ s22 : ST, s22 = zsp s21 7 (jI 0) → (((s22.2 2) = (jI (-1)) → wp_X7_looksAtGaps s22 p0 (fun s30 => (((s30.2 2) = (jI (-1)) → wp_X7_looksAtTrays s30 p0 (fun s34 => (((s34.2 2) = (jI (-1)) → wp_X7_looksAtShelves s34 p0 (fun s36 => (((s36.2 2) = (jI (-1)) → wp_X7_looksAtStreet s36 (fun s37 => Q s37)) ∧ (¬ (s36.2 2) = (jI (-1)) → Q s36)))) ∧ (¬ (s34.2 2) = (jI (-1)) → (((s34.2 2) = (jI (-1)) → wp_X7_looksAtStreet s34 (fun s35 => Q s35)) ∧ (¬ (s34.2 2) = (jI (-1)) → Q s34)))))) ∧ (¬ (s30.2 2) = (jI (-1)) → (((s30.2 2) = (jI (-1)) → wp_X7_looksAtShelves s30 p0 (fun s32 => (((s32.2 2) = (jI (-1)) → wp_X7_looksAtStreet s32 (fun s33 => Q s33)) ∧ (¬ (s32.2 2) = (jI (-1)) → Q s32)))) ∧ (¬ (s30.2 2) = (jI (-1)) → (((s30.2 2) = (jI (-1)) → wp_X7_looksAtStreet s30 (fun s31 => Q s31)) ∧ (¬ (s30.2 2) = (jI (-1)) → Q s30)))))))) ∧ (¬ (s22.2 2) = (jI (-1)) → (((s22.2 2) = (jI (-1)) → wp_X7_looksAtTrays s22 p0 (fun s26 => (((s26.2 2) = (jI (-1)) → wp_X7_looksAtShelves s26 p0 (fun s28 => (((s28.2 2) = (jI (-1)) → wp_X7_looksAtStreet s28 (fun s29 => Q s29)) ∧ (¬ (s28.2 2) = (jI (-1)) → Q s28)))) ∧ (¬ (s26.2 2) = (jI (-1)) → (((s26.2 2) = (jI (-1)) → wp_X7_looksAtStreet s26 (fun s27 => Q s27)) ∧ (¬ (s26.2 2) = (jI (-1)) → Q s26)))))) ∧ (¬ (s22.2 2) = (jI (-1)) → (((s22.2 2) = (jI (-1)) → wp_X7_looksAtShelves s22 p0 (fun s24 => (((s24.2 2) = (jI (-1)) → wp_X7_looksAtStreet s24 (fun s25 => Q s25)) ∧ (¬ (s24.2 2) = (jI (-1)) → Q s24)))) ∧ (¬ (s22.2 2) = (jI (-1)) → (((s22.2 2) = (jI (-1)) → wp_X7_looksAtStreet s22 (fun s23 => Q s23)) ∧ (¬ (s22.2 2) = (jI (-1)) → Q s22))))))))))))))
def wp_X7_inks (σ : ST) (p0 : Int32) (Q : Int32 → ST → Prop) : Prop :=
  (((p0 - p0 / (jI 3) * (jI 3)) ≤ (jI 0) → wp_X7_areaOf σ p0 (fun r1 s1 => Q r1 s1)) ∧ (¬ (p0 - p0 / (jI 3) * (jI 3)) ≤ (jI 0) → wp_X7_is σ (p0 - (p0 - p0 / (jI 3) * (jI 3))) (fun r2 s2 => ((r2 = (jI 0) → wp_X7_areaOf s2 p0 (fun r3 s3 => Q r3 s3)) ∧ (¬ r2 = (jI 0) → wp_X7_areaOf s2 p0 (fun r4 s4 => Q (r4 / (jI 2)) s4))))))
def wb_X7_lays_116 (K158 : ST → Prop) (LL : ST → Int32 → Prop) (f1_116 : Int32) (t_116 : ST) (y2_116 : Int32) : Prop :=
  (((jI 144) ≤ y2_116 → K158 t_116) ∧ (¬ (jI 144) ≤ y2_116 → (((t_116.2 2) = (jI 3) → wp_X7_isOn t_116 y2_116 (t_116.2 3) (t_116.2 4) (fun r1 s1 => ((r1 = (jI 0) → (∀ x1 : Int32, x1 = y2_116 + (jI 1) → LL s1 x1)) ∧ (¬ r1 = (jI 0) → wp_X7_goes s1 y2_116 (fun s2 => (∀ x2 : Int32, x2 = y2_116 + (jI 1) → LL s2 x2)))))) ∧ (¬ (t_116.2 2) = (jI 3) → K158 t_116))))
def wl_X7_lays_116 (K158 : ST → Prop) (f1_116 : Int32) : Nat → ST → Int32 → Prop
  | 0 => fun _ _ => False
  | nn + 1 => wb_X7_lays_116 K158 (wl_X7_lays_116 K158 f1_116 nn) f1_116
def wp_X7_lays (σ : ST) (p0 : Int32) (Q : ST → Prop) : Prop :=
  (((σ.2 2) = (jI 4) → (((σ.2 6) = (jI (-1)) → (vp_in (jI 7) 983 ∧ ∀ v2 : Int32, v2 = (σ.1 0 (jI 7).toNatClampNeg) → (vp_in ((jI 8) + v2) 983 ∧ ∀ s14 : ST, s14 = zrp σ 0 ((jI 8) + v2).toNatClampNeg p0 → (vp_in (jI 7) 983 ∧ ∀ v3 : Int32, v3 = (s14.1 0 (jI 7).toNatClampNeg) → (vp_in (jI 7) 983 ∧ ∀ s15 : ST, s15 = zrp s14 0 (jI 7).toNatClampNeg (v3 + (jI 1)) → (vp_in ((jI 119) + ((jI 6) * p0)) 983 ∧ ∀ s16 : ST, s16 = zrp s15 0 ((jI 119) + ((jI 6) * p0)).toNatClampNeg (jI 3) → Q s16)))))) ∧ (¬ (σ.2 6) = (jI (-1)) → wp_X7_goes σ (σ.2 6) (fun s17 => (vp_in (jI 7) 983 ∧ ∀ v4 : Int32, v4 = (s17.1 0 (jI 7).toNatClampNeg) → (vp_in ((jI 8) + v4) 983 ∧ ∀ s18 : ST, s18 = zrp s17 0 ((jI 8) + v4).toNatClampNeg p0 → (vp_in (jI 7) 983 ∧ ∀ v5 : Int32, v5 = (s18.1 0 (jI 7).toNatClampNeg) → (vp_in (jI 7) 983 ∧ ∀ s19 : ST, s19 = zrp s18 0 (jI 7).toNatClampNeg (v5 + (jI 1)) → (vp_in ((jI 119) + ((jI 6) * p0)) 983 ∧ ∀ s20 : ST, s20 = zrp s19 0 ((jI 119) + ((jI 6) * p0)).toNatClampNeg (jI 3) → Q s20))))))))) ∧ (¬ (σ.2 2) = (jI 4) → (((σ.2 2) = (jI 2) → wp_X7_heightOf σ p0 (fun r2 s6 => (vp_in (((jI 47) + ((jI 24) * (σ.2 3))) + (σ.2 4)) 983 ∧ ∀ s7 : ST, s7 = zrp s6 0 (((jI 47) + ((jI 24) * (σ.2 3))) + (σ.2 4)).toNatClampNeg r2 → (∀ x3 : Int32, x3 = ((jI 44) + (s7.2 3)) → (vp_in x3 983 ∧ ∀ v1 : Int32, v1 = (s7.1 0 x3.toNatClampNeg) → (vp_in x3 983 ∧ ∀ s8 : ST, s8 = zrp s7 0 x3.toNatClampNeg (v1 + (jI 1)) → (∃ nn : Nat, wl_X7_lays_116 (fun u_158 => (vp_in ((jI 119) + ((jI 6) * p0)) 983 ∧ ∀ s11 : ST, s11 = zrp u_158 0 ((jI 119) + ((jI 6) * p0)).toNatClampNeg (u_158.2 3) → (vp_in (((jI 119) + ((jI 6) * p0)) + (jI 1)) 983 ∧ ∀ s12 : ST, s12 = zrp s11 0 (((jI 119) + ((jI 6) * p0)) + (jI 1)).toNatClampNeg (s11.2 4) → (vp_in (((jI 119) + ((jI 6) * p0)) + (jI 2)) 983 ∧ ∀ s13 : ST, s13 = zrp s12 0 (((jI 119) + ((jI 6) * p0)) + (jI 2)).toNatClampNeg (s12.2 5) → Q s13)))) p0 nn s8 (jI 0)))))))) ∧ (¬ (σ.2 2) = (jI 2) → (∃ nn : Nat, wl_X7_lays_116 (fun u_158 => (vp_in ((jI 119) + ((jI 6) * p0)) 983 ∧ ∀ s3 : ST, s3 = zrp u_158 0 ((jI 119) + ((jI 6) * p0)).toNatClampNeg (u_158.2 3) → (vp_in (((jI 119) + ((jI 6) * p0)) + (jI 1)) 983 ∧ ∀ s4 : ST, s4 = zrp s3 0 (((jI 119) + ((jI 6) * p0)) + (jI 1)).toNatClampNeg (s3.2 4) → (vp_in (((jI 119) + ((jI 6) * p0)) + (jI 2)) 983 ∧ ∀ s5 : ST, s5 = zrp s4 0 (((jI 119) + ((jI 6) * p0)) + (jI 2)).toNatClampNeg (s4.2 5) → Q s5)))) p0 nn σ (jI 0))))))
def wp_X7_uses (σ : ST) (p0 : Int32) (Q : Int32 → ST → Prop) : Prop :=
  wp_X7_looks σ p0 (fun s1 => (((s1.2 2) = (jI (-1)) → Q (jI (-1)) s1) ∧ (¬ (s1.2 2) = (jI (-1)) → (∀ x1 : Int32, x1 = ((jI 119) + ((jI 6) * p0)) → (((s1.2 2) ≤ (jI 0) → (vp_in (jI 3) 983 ∧ ∀ v1 : Int32, v1 = (s1.1 0 (jI 3).toNatClampNeg) → (vp_in (jI 3) 983 ∧ ∀ s2 : ST, s2 = zrp s1 0 (jI 3).toNatClampNeg (v1 + (jI 1)) → (vp_in (jI 2) 983 ∧ ∀ v2 : Int32, v2 = (s2.1 0 (jI 2).toNatClampNeg) → (vp_in (jI 2) 983 ∧ ∀ s3 : ST, s3 = zrp s2 0 (jI 2).toNatClampNeg (v2 + (jI 1)) → (vp_in (jI 2) 983 ∧ ∀ v3 : Int32, v3 = (s3.1 0 (jI 2).toNatClampNeg) → (vp_in (x1 + (jI 3)) 983 ∧ ∀ s4 : ST, s4 = zrp s3 0 (x1 + (jI 3)).toNatClampNeg v3 → (vp_in (jI 1) 983 ∧ ∀ v4 : Int32, v4 = (s4.1 0 (jI 1).toNatClampNeg) → (vp_in (x1 + (jI 4)) 983 ∧ ∀ s5 : ST, s5 = zrp s4 0 (x1 + (jI 4)).toNatClampNeg v4 → (∀ x2 : Int32, x2 = (x1 + (jI 5)) → (vp_in x2 983 ∧ ∀ v5 : Int32, v5 = (s5.1 0 x2.toNatClampNeg) → (vp_in x2 983 ∧ ∀ s6 : ST, s6 = zrp s5 0 x2.toNatClampNeg (v5 + (jI 1)) → Q (s6.2 2) s6)))))))))))) ∧ (¬ (s1.2 2) ≤ (jI 0) → (vp_in (jI 6) 983 ∧ ∀ v6 : Int32, v6 = (s1.1 0 (jI 6).toNatClampNeg) → wp_X7_inks s1 p0 (fun r1 s7 => (vp_in (jI 6) 983 ∧ ∀ s8 : ST, s8 = zrp s7 0 (jI 6).toNatClampNeg (v6 + r1) → (vp_in (jI 4) 983 ∧ ∀ v7 : Int32, v7 = (s8.1 0 (jI 4).toNatClampNeg) → (vp_in (jI 4) 983 ∧ ∀ s9 : ST, s9 = zrp s8 0 (jI 4).toNatClampNeg (v7 + (jI 1)) → wp_X7_lays s9 p0 (fun s10 => (vp_in (x1 + (jI 5)) 983 ∧ ∀ s11 : ST, s11 = zrp s10 0 (x1 + (jI 5)).toNatClampNeg (jI 0) → (vp_in (jI 2) 983 ∧ ∀ v8 : Int32, v8 = (s11.1 0 (jI 2).toNatClampNeg) → (vp_in (jI 2) 983 ∧ ∀ s12 : ST, s12 = zrp s11 0 (jI 2).toNatClampNeg (v8 + (jI 1)) → (vp_in (jI 2) 983 ∧ ∀ v9 : Int32, v9 = (s12.1 0 (jI 2).toNatClampNeg) → (vp_in (x1 + (jI 3)) 983 ∧ ∀ s13 : ST, s13 = zrp s12 0 (x1 + (jI 3)).toNatClampNeg v9 → (vp_in (jI 1) 983 ∧ ∀ v10 : Int32, v10 = (s13.1 0 (jI 1).toNatClampNeg) → (vp_in (x1 + (jI 4)) 983 ∧ ∀ s14 : ST, s14 = zrp s13 0 (x1 + (jI 4)).toNatClampNeg v10 → (∀ x3 : Int32, x3 = (x1 + (jI 5)) → (vp_in x3 983 ∧ ∀ v11 : Int32, v11 = (s14.1 0 x3.toNatClampNeg) → (vp_in x3 983 ∧ ∀ s15 : ST, s15 = zrp s14 0 x3.toNatClampNeg (v11 + (jI 1)) → Q (s15.2 2) s15))))))))))))))))))))))
def wb_X7_cuts_37 (K73 : ST → Int32 → Prop) (LL : ST → Int32 → Int32 → Prop) (f1_37 : Int32) (f2_37 : Int32) (f3_37 : Int32) (t_37 : ST) (y4_37 : Int32) (y5_37 : Int32) : Prop :=
  (((((jI 9) * f1_37) + (jI 9)) ≤ y5_37 → K73 t_37 y4_37) ∧ (¬ (((jI 9) * f1_37) + (jI 9)) ≤ y5_37 → wp_X7_is t_37 y5_37 (fun r1 s1 => ((r1 = (jI 0) → (∀ x2 : Int32, x2 = y5_37 + (jI 1) → LL s1 y4_37 x2)) ∧ (¬ r1 = (jI 0) → wp_X7_goes s1 y5_37 (fun s2 => (∀ x3 : Int32, x3 = y4_37 + (jI 1) → (∀ x4 : Int32, x4 = y5_37 + (jI 1) → LL s2 x3 x4))))))))
def wl_X7_cuts_37 (K73 : ST → Int32 → Prop) (f1_37 : Int32) (f2_37 : Int32) (f3_37 : Int32) : Nat → ST → Int32 → Int32 → Prop
  | 0 => fun _ _ _ => False
  | nn + 1 => wb_X7_cuts_37 K73 (wl_X7_cuts_37 K73 f1_37 f2_37 f3_37 nn) f1_37 f2_37 f3_37
def wp_X7_cuts (σ : ST) (p0 : Int32) (p1 : Int32) (p2 : Int32) (Q : Int32 → ST → Prop) : Prop :=
  (vp_in ((jI 12) + p0) 983 ∧ ∀ v1 : Int32, v1 = (σ.1 0 ((jI 12) + p0).toNatClampNeg) → ((v1 = p1 → (vp_in ((jI 28) + p0) 983 ∧ ∀ v2 : Int32, v2 = (σ.1 0 ((jI 28) + p0).toNatClampNeg) → ((v2 = p2 → Q (jI 0) σ) ∧ (¬ v2 = p2 → (∀ x5 : Int32, x5 = ((jI 9) * p0) → (∃ nn : Nat, wl_X7_cuts_37 (fun u_73 z4_73 => (vp_in ((jI 12) + p0) 983 ∧ ∀ s7 : ST, s7 = zrp u_73 0 ((jI 12) + p0).toNatClampNeg p1 → (vp_in ((jI 28) + p0) 983 ∧ ∀ s8 : ST, s8 = zrp s7 0 ((jI 28) + p0).toNatClampNeg p2 → Q z4_73 s8))) p0 p1 p2 nn σ (jI 0) x5)))))) ∧ (¬ v1 = p1 → (∀ x1 : Int32, x1 = ((jI 9) * p0) → (∃ nn : Nat, wl_X7_cuts_37 (fun u_73 z4_73 => (vp_in ((jI 12) + p0) 983 ∧ ∀ s3 : ST, s3 = zrp u_73 0 ((jI 12) + p0).toNatClampNeg p1 → (vp_in ((jI 28) + p0) 983 ∧ ∀ s4 : ST, s4 = zrp s3 0 ((jI 28) + p0).toNatClampNeg p2 → Q z4_73 s4))) p0 p1 p2 nn σ (jI 0) x1)))))
def wp_X7_cutBars (σ : ST) (p0 : Int32) (p1 : Int32) (p2 : Int32) (Q : Int32 → ST → Prop) : Prop :=
  wp_X7_in σ p0 (jI 0) (jI 15) (fun r1 s1 => ((r1 = (jI 0) → Q (jI 1) s1) ∧ (¬ r1 = (jI 0) → wp_X7_in s1 p1 (jI 1) (jI 6) (fun r2 s2 => ((r2 = (jI 0) → Q (jI 2) s2) ∧ (¬ r2 = (jI 0) → wp_X7_in s2 p2 (jI 1) (jI 6) (fun r3 s3 => ((r3 = (jI 0) → Q (jI 2) s3) ∧ (¬ r3 = (jI 0) → Q (jI 0) s3)))))))))
def wp_X7_cut (σ : ST) (p0 : Int32) (p1 : Int32) (p2 : Int32) (Q : Int32 → ST → Prop) : Prop :=
  wp_X7_cutBars σ p0 p1 p2 (fun r1 s1 => (∀ s2 : ST, s2 = zsp s1 1 r1 → (((s2.2 1) ≤ (jI 0) → wp_X7_saves s2 (fun s3 => wp_X7_cuts s3 p0 p1 p2 (fun r2 s4 => Q r2 s4))) ∧ (¬ (s2.2 1) ≤ (jI 0) → Q (jI 0) s2))))
def wp_X7_use (σ : ST) (p0 : Int32) (p1 : Int32) (p2 : Int32) (Q : Int32 → ST → Prop) : Prop :=
  wp_X7_bars σ p0 p1 p2 (fun r1 s1 => (∀ s2 : ST, s2 = zsp s1 1 r1 → (((s2.2 1) ≤ (jI 0) → wp_X7_number s2 p0 p1 p2 (fun r2 s3 => wp_X7_looks s3 r2 (fun s4 => (((s4.2 2) = (jI (-1)) → (∀ s8 : ST, s8 = zsp s4 1 (jI 3) → (((s8.2 1) ≤ (jI 0) → wp_X7_saves s8 (fun s9 => wp_X7_uses s9 r2 (fun r4 s10 => Q r4 s10))) ∧ (¬ (s8.2 1) ≤ (jI 0) → Q (jI 0) s8)))) ∧ (¬ (s4.2 2) = (jI (-1)) → (∀ s5 : ST, s5 = zsp s4 1 (jI 0) → (((s5.2 1) ≤ (jI 0) → wp_X7_saves s5 (fun s6 => wp_X7_uses s6 r2 (fun r3 s7 => Q r3 s7))) ∧ (¬ (s5.2 1) ≤ (jI 0) → Q (jI 0) s5)))))))) ∧ (¬ (s2.2 1) ≤ (jI 0) → Q (jI 0) s2))))
def wp_X7_drop (σ : ST) (p0 : Int32) (p1 : Int32) (p2 : Int32) (Q : Int32 → ST → Prop) : Prop :=
  wp_X7_bars σ p0 p1 p2 (fun r1 s1 => (∀ s2 : ST, s2 = zsp s1 1 r1 → (((s2.2 1) ≤ (jI 0) → wp_X7_number s2 p0 p1 p2 (fun r2 s3 => wp_X7_is s3 r2 (fun r3 s4 => ((r3 = (jI 0) → (∀ s5 : ST, s5 = zsp s4 1 (jI 3) → (((s5.2 1) ≤ (jI 0) → wp_X7_saves s5 (fun s6 => wp_X7_goes s6 r2 (fun s7 => wp_X7_of s7 r2 (jI 5) (fun r4 s8 => Q r4 s8)))) ∧ (¬ (s5.2 1) ≤ (jI 0) → Q (jI 0) s5)))) ∧ (¬ r3 = (jI 0) → (∀ s9 : ST, s9 = zsp s4 1 (jI 0) → (((s9.2 1) ≤ (jI 0) → wp_X7_saves s9 (fun s10 => wp_X7_goes s10 r2 (fun s11 => wp_X7_of s11 r2 (jI 5) (fun r5 s12 => Q r5 s12)))) ∧ (¬ (s9.2 1) ≤ (jI 0) → Q (jI 0) s9)))))))) ∧ (¬ (s2.2 1) ≤ (jI 0) → Q (jI 0) s2))))
def wb_X7_manyNow_4 (K33 : ST → Int32 → Prop) (LL : ST → Int32 → Int32 → Prop)  (t_4 : ST) (y1_4 : Int32) (y2_4 : Int32) : Prop :=
  (((jI 144) ≤ y2_4 → K33 t_4 y1_4) ∧ (¬ (jI 144) ≤ y2_4 → wp_X7_isNow t_4 y2_4 (fun r1 s1 => ((r1 = (jI 0) → (∀ x1 : Int32, x1 = (y1_4 + (jI 0)) → (∀ x2 : Int32, x2 = y2_4 + (jI 1) → LL s1 x1 x2))) ∧ (¬ r1 = (jI 0) → (∀ x3 : Int32, x3 = (y1_4 + (jI 1)) → (∀ x4 : Int32, x4 = y2_4 + (jI 1) → LL s1 x3 x4)))))))
def wl_X7_manyNow_4 (K33 : ST → Int32 → Prop)  : Nat → ST → Int32 → Int32 → Prop
  | 0 => fun _ _ _ => False
  | nn + 1 => wb_X7_manyNow_4 K33 (wl_X7_manyNow_4 K33  nn) 
def wp_X7_manyNow (σ : ST)  (Q : Int32 → ST → Prop) : Prop :=
  (∃ nn : Nat, wl_X7_manyNow_4 (fun u_33 z1_33 => Q z1_33 u_33)  nn σ (jI 0) (jI 0))
def wp_X7_newLine (σ : ST)  (Q : Int32 → ST → Prop) : Prop :=
  (∀ s1 : ST, s1 = zsp σ 1 (jI 0) → wp_X7_saves s1 (fun s2 => wp_X7_manyNow s2 (fun r1 s3 => (vp_in (jI 1) 983 ∧ ∀ v1 : Int32, v1 = (s3.1 0 (jI 1).toNatClampNeg) → (vp_in (jI 1) 983 ∧ ∀ s4 : ST, s4 = zrp s3 0 (jI 1).toNatClampNeg (v1 + (jI 1)) → Q r1 s4)))))
def wp_X7_addsTray (σ : ST)  (Q : Int32 → ST → Prop) : Prop :=
  (vp_in (jI 0) 983 ∧ ∀ v1 : Int32, v1 = (σ.1 0 (jI 0).toNatClampNeg) → (vp_in ((jI 44) + v1) 983 ∧ ∀ s1 : ST, s1 = zrp σ 0 ((jI 44) + v1).toNatClampNeg (jI 0) → (vp_in (jI 0) 983 ∧ ∀ v2 : Int32, v2 = (s1.1 0 (jI 0).toNatClampNeg) → (vp_in (jI 0) 983 ∧ ∀ s2 : ST, s2 = zrp s1 0 (jI 0).toNatClampNeg (v2 + (jI 1)) → (vp_in (jI 0) 983 ∧ ∀ v3 : Int32, v3 = (s2.1 0 (jI 0).toNatClampNeg) → Q (v3 - (jI 1)) s2)))))
def wp_X7_addTray (σ : ST)  (Q : Int32 → ST → Prop) : Prop :=
  (vp_in (jI 0) 983 ∧ ∀ v1 : Int32, v1 = (σ.1 0 (jI 0).toNatClampNeg) → ((v1 = (jI 3) → (∀ s4 : ST, s4 = zsp σ 1 (jI 1) → (((s4.2 1) ≤ (jI 0) → wp_X7_saves s4 (fun s5 => wp_X7_addsTray s5 (fun r2 s6 => Q r2 s6))) ∧ (¬ (s4.2 1) ≤ (jI 0) → Q (jI 0) s4)))) ∧ (¬ v1 = (jI 3) → (∀ s1 : ST, s1 = zsp σ 1 (jI 0) → (((s1.2 1) ≤ (jI 0) → wp_X7_saves s1 (fun s2 => wp_X7_addsTray s2 (fun r1 s3 => Q r1 s3))) ∧ (¬ (s1.2 1) ≤ (jI 0) → Q (jI 0) s1))))))
def wb_X7_closes_53 (K105 : ST → Prop) (LL : ST → Int32 → Prop) (f1_53 : Int32) (f2_53 : Int32) (f3_53 : Int32) (f4_53 : Int32) (f5_53 : Int32) (t_53 : ST) (y6_53 : Int32) : Prop :=
  (((jI 144) ≤ y6_53 → K105 t_53) ∧ (¬ (jI 144) ≤ y6_53 → wp_X7_isOn t_53 y6_53 f2_53 f4_53 (fun r2 s2 => ((r2 = (jI 0) → wp_X7_of s2 y6_53 (jI 1) (fun r3 s3 => (vp_in (((jI 119) + ((jI 6) * y6_53)) + (jI 1)) 983 ∧ ∀ s4 : ST, s4 = zrp s3 0 (((jI 119) + ((jI 6) * y6_53)) + (jI 1)).toNatClampNeg r3 → (∀ x1 : Int32, x1 = y6_53 + (jI 1) → LL s4 x1)))) ∧ (¬ r2 = (jI 0) → (vp_in (((jI 119) + ((jI 6) * y6_53)) + (jI 1)) 983 ∧ ∀ s5 : ST, s5 = zrp s2 0 (((jI 119) + ((jI 6) * y6_53)) + (jI 1)).toNatClampNeg f3_53 → (∀ x2 : Int32, x2 = y6_53 + (jI 1) → LL s5 x2)))))))
def wl_X7_closes_53 (K105 : ST → Prop) (f1_53 : Int32) (f2_53 : Int32) (f3_53 : Int32) (f4_53 : Int32) (f5_53 : Int32) : Nat → ST → Int32 → Prop
  | 0 => fun _ _ => False
  | nn + 1 => wb_X7_closes_53 K105 (wl_X7_closes_53 K105 f1_53 f2_53 f3_53 f4_53 f5_53 nn) f1_53 f2_53 f3_53 f4_53 f5_53
def wb_X7_closes_19 (K158 : ST → Int32 → Int32 → Prop) (LL : ST → Int32 → Int32 → Int32 → Prop) (f2_19 : Int32) (t_19 : ST) (y1_19 : Int32) (y3_19 : Int32) (y4_19 : Int32) : Prop :=
  (vp_in ((jI 44) + f2_19) 983 ∧ ∀ v2 : Int32, v2 = (t_19.1 0 ((jI 44) + f2_19).toNatClampNeg) → ((v2 ≤ y4_19 → K158 t_19 y1_19 y3_19) ∧ (¬ v2 ≤ y4_19 → wp_X7_lettersOn t_19 f2_19 y4_19 (fun r1 s1 => ((r1 ≤ (jI 0) → (∃ nn : Nat, wl_X7_closes_53 (fun u_105 => wp_X7_tall u_105 f2_19 y4_19 (fun r4 s6 => (vp_in (((jI 47) + ((jI 24) * f2_19)) + y3_19) 983 ∧ ∀ s7 : ST, s7 = zrp s6 0 (((jI 47) + ((jI 24) * f2_19)) + y3_19).toNatClampNeg r4 → (∀ x3 : Int32, x3 = (y3_19 + (jI 0)) → (∀ x4 : Int32, x4 = (y1_19 + (jI 1)) → (∀ x5 : Int32, x5 = y4_19 + (jI 1) → LL s7 x4 x3 x5)))))) y1_19 f2_19 y3_19 y4_19 (jI 0) nn s1 (jI 0))) ∧ (¬ r1 ≤ (jI 0) → (∃ nn : Nat, wl_X7_closes_53 (fun u_105 => wp_X7_tall u_105 f2_19 y4_19 (fun r7 s12 => (vp_in (((jI 47) + ((jI 24) * f2_19)) + y3_19) 983 ∧ ∀ s13 : ST, s13 = zrp s12 0 (((jI 47) + ((jI 24) * f2_19)) + y3_19).toNatClampNeg r7 → (∀ x8 : Int32, x8 = (y3_19 + (jI 1)) → (∀ x9 : Int32, x9 = (y1_19 + (jI 0)) → (∀ x10 : Int32, x10 = y4_19 + (jI 1) → LL s13 x9 x8 x10)))))) y1_19 f2_19 y3_19 y4_19 (jI 1) nn s1 (jI 0))))))))
def wl_X7_closes_19 (K158 : ST → Int32 → Int32 → Prop) (f2_19 : Int32) : Nat → ST → Int32 → Int32 → Int32 → Prop
  | 0 => fun _ _ _ _ => False
  | nn + 1 => wb_X7_closes_19 K158 (wl_X7_closes_19 K158 f2_19 nn) f2_19
def wb_X7_closes_4 (K174 : ST → Int32 → Prop) (LL : ST → Int32 → Int32 → Prop)  (t_4 : ST) (y1_4 : Int32) (y2_4 : Int32) : Prop :=
  (vp_in (jI 0) 983 ∧ ∀ v1 : Int32, v1 = (t_4.1 0 (jI 0).toNatClampNeg) → ((v1 ≤ y2_4 → K174 t_4 y1_4) ∧ (¬ v1 ≤ y2_4 → (∃ nn : Nat, wl_X7_closes_19 (fun u_158 z1_158 z3_158 => (vp_in ((jI 44) + y2_4) 983 ∧ ∀ s14 : ST, s14 = zrp u_158 0 ((jI 44) + y2_4).toNatClampNeg z3_158 → (∀ x11 : Int32, x11 = y2_4 + (jI 1) → LL s14 z1_158 x11))) y2_4 nn t_4 y1_4 (jI 0) (jI 0)))))
def wl_X7_closes_4 (K174 : ST → Int32 → Prop)  : Nat → ST → Int32 → Int32 → Prop
  | 0 => fun _ _ _ => False
  | nn + 1 => wb_X7_closes_4 K174 (wl_X7_closes_4 K174  nn) 
def wp_X7_closes (σ : ST)  (Q : Int32 → ST → Prop) : Prop :=
  (∃ nn : Nat, wl_X7_closes_4 (fun u_174 z1_174 => Q z1_174 u_174)  nn σ (jI 0) (jI 0))
def wp_X7_closeShelves (σ : ST)  (Q : Int32 → ST → Prop) : Prop :=
  (∀ s1 : ST, s1 = zsp σ 1 (jI 0) → wp_X7_saves s1 (fun s2 => wp_X7_closes s2 (fun r1 s3 => Q r1 s3)))
def wp_X7_letterBy (σ : ST) (p0 : Int32) (p1 : Int32) (Q : Int32 → ST → Prop) : Prop :=
  ((p1 = (jI 3) → ((p1 = (jI 3) → wp_X7_widthOf σ p0 (fun r2 s2 => Q r2 s2)) ∧ (¬ p1 = (jI 3) → wp_X7_heightOf σ p0 (fun r1 s1 => Q r1 s1)))) ∧ (¬ p1 = (jI 3) → ((p1 = (jI 4) → ((p1 = (jI 3) → wp_X7_widthOf σ p0 (fun r30 s30 => Q r30 s30)) ∧ (¬ p1 = (jI 3) → wp_X7_heightOf σ p0 (fun r29 s29 => Q r29 s29)))) ∧ (¬ p1 = (jI 4) → wp_X7_is σ p0 (fun r3 s3 => ((r3 = (jI 0) → Q (jI (-1)) s3) ∧ (¬ r3 = (jI 0) → wp_X7_isLaid s3 p0 (fun r4 s4 => ((r4 = (jI 0) → ((p1 < (jI 3) → Q (jI (-1)) s4) ∧ (¬ p1 < (jI 3) → ((p1 = (jI 8) → Q (jI (-1)) s4) ∧ (¬ p1 = (jI 8) → ((p1 = (jI 0) → wp_X7_of s4 p0 (jI 0) (fun r17 s17 => Q r17 s17)) ∧ (¬ p1 = (jI 0) → ((p1 = (jI 1) → wp_X7_of s4 p0 (jI 2) (fun r18 s18 => Q r18 s18)) ∧ (¬ p1 = (jI 1) → ((p1 = (jI 2) → wp_X7_of s4 p0 (jI 0) (fun r19 s19 => wp_X7_of s19 p0 (jI 1) (fun r20 s20 => wp_X7_top s20 r19 r20 (fun r21 s21 => Q r21 s21)))) ∧ (¬ p1 = (jI 2) → ((p1 = (jI 3) → wp_X7_of s4 p0 (p1 - (jI 2)) (fun r22 s22 => Q r22 s22)) ∧ (¬ p1 = (jI 3) → ((p1 = (jI 4) → wp_X7_of s4 p0 (p1 - (jI 2)) (fun r23 s23 => Q r23 s23)) ∧ (¬ p1 = (jI 4) → ((p1 = (jI 5) → wp_X7_of s4 p0 (p1 - (jI 2)) (fun r24 s24 => Q r24 s24)) ∧ (¬ p1 = (jI 5) → ((p1 = (jI 6) → wp_X7_of s4 p0 (p1 - (jI 2)) (fun r25 s25 => Q r25 s25)) ∧ (¬ p1 = (jI 6) → ((p1 = (jI 7) → wp_X7_of s4 p0 (p1 - (jI 2)) (fun r26 s26 => Q r26 s26)) ∧ (¬ p1 = (jI 7) → ((p1 = (jI 8) → wp_X7_of s4 p0 (jI 1) (fun r27 s27 => Q r27 s27)) ∧ (¬ p1 = (jI 8) → wp_X7_of s4 p0 (p1 - (jI 2)) (fun r28 s28 => Q r28 s28)))))))))))))))))))))))) ∧ (¬ r4 = (jI 0) → ((p1 = (jI 0) → wp_X7_of s4 p0 (jI 0) (fun r5 s5 => Q r5 s5)) ∧ (¬ p1 = (jI 0) → ((p1 = (jI 1) → wp_X7_of s4 p0 (jI 2) (fun r6 s6 => Q r6 s6)) ∧ (¬ p1 = (jI 1) → ((p1 = (jI 2) → wp_X7_of s4 p0 (jI 0) (fun r7 s7 => wp_X7_of s7 p0 (jI 1) (fun r8 s8 => wp_X7_top s8 r7 r8 (fun r9 s9 => Q r9 s9)))) ∧ (¬ p1 = (jI 2) → ((p1 = (jI 3) → wp_X7_of s4 p0 (p1 - (jI 2)) (fun r10 s10 => Q r10 s10)) ∧ (¬ p1 = (jI 3) → ((p1 = (jI 4) → wp_X7_of s4 p0 (p1 - (jI 2)) (fun r11 s11 => Q r11 s11)) ∧ (¬ p1 = (jI 4) → ((p1 = (jI 5) → wp_X7_of s4 p0 (p1 - (jI 2)) (fun r12 s12 => Q r12 s12)) ∧ (¬ p1 = (jI 5) → ((p1 = (jI 6) → wp_X7_of s4 p0 (p1 - (jI 2)) (fun r13 s13 => Q r13 s13)) ∧ (¬ p1 = (jI 6) → ((p1 = (jI 7) → wp_X7_of s4 p0 (p1 - (jI 2)) (fun r14 s14 => Q r14 s14)) ∧ (¬ p1 = (jI 7) → ((p1 = (jI 8) → wp_X7_of s4 p0 (jI 1) (fun r15 s15 => Q r15 s15)) ∧ (¬ p1 = (jI 8) → wp_X7_of s4 p0 (p1 - (jI 2)) (fun r16 s16 => Q r16 s16)))))))))))))))))))))))))))))
def wp_X7_letter (σ : ST) (p0 : Int32) (p1 : Int32) (p2 : Int32) (p3 : Int32) (Q : Int32 → ST → Prop) : Prop :=
  wp_X7_bars σ p0 p1 p2 (fun r1 s1 => (∀ s2 : ST, s2 = zsp s1 1 r1 → (((s2.2 1) = (jI 0) → wp_X7_in s2 p3 (jI 0) (jI 8) (fun r4 s6 => ((r4 = (jI 0) → (∀ s10 : ST, s10 = zsp s6 1 (jI 2) → (((s10.2 1) ≤ (jI 0) → wp_X7_number s10 p0 p1 p2 (fun r7 s11 => wp_X7_letterBy s11 r7 p3 (fun r8 s12 => Q r8 s12))) ∧ (¬ (s10.2 1) ≤ (jI 0) → Q (jI 0) s10)))) ∧ (¬ r4 = (jI 0) → (∀ s7 : ST, s7 = zsp s6 1 (s6.2 1) → (((s7.2 1) ≤ (jI 0) → wp_X7_number s7 p0 p1 p2 (fun r5 s8 => wp_X7_letterBy s8 r5 p3 (fun r6 s9 => Q r6 s9))) ∧ (¬ (s7.2 1) ≤ (jI 0) → Q (jI 0) s7))))))) ∧ (¬ (s2.2 1) = (jI 0) → (∀ s3 : ST, s3 = zsp s2 1 (s2.2 1) → (((s3.2 1) ≤ (jI 0) → wp_X7_number s3 p0 p1 p2 (fun r2 s4 => wp_X7_letterBy s4 r2 p3 (fun r3 s5 => Q r3 s5))) ∧ (¬ (s3.2 1) ≤ (jI 0) → Q (jI 0) s3)))))))
def wb_X7_signBy_32 (K86 : ST → Int32 → Prop) (LL : ST → Int32 → Int32 → Prop) (f1_32 : Int32) (f2_32 : Int32) (t_32 : ST) (y3_32 : Int32) (y4_32 : Int32) : Prop :=
  (((((jI 9) * f1_32) + (jI 9)) ≤ y4_32 → K86 t_32 y3_32) ∧ (¬ (((jI 9) * f1_32) + (jI 9)) ≤ y4_32 → wp_X7_is t_32 y4_32 (fun r1 s1 => ((r1 = (jI 0) → (∀ x2 : Int32, x2 = (y3_32 + (jI 0)) → (∀ x3 : Int32, x3 = y4_32 + (jI 1) → LL s1 x2 x3))) ∧ (¬ r1 = (jI 0) → wp_X7_isLaid s1 y4_32 (fun r2 s2 => ((f2_32 = (jI 2) → ((r2 = (jI 1) → (∀ x10 : Int32, x10 = (y3_32 + (jI 1)) → (∀ x11 : Int32, x11 = y4_32 + (jI 1) → LL s2 x10 x11))) ∧ (¬ r2 = (jI 1) → (∀ x8 : Int32, x8 = (y3_32 + (jI 0)) → (∀ x9 : Int32, x9 = y4_32 + (jI 1) → LL s2 x8 x9))))) ∧ (¬ f2_32 = (jI 2) → ((r2 = (jI 0) → (∀ x6 : Int32, x6 = (y3_32 + (jI 1)) → (∀ x7 : Int32, x7 = y4_32 + (jI 1) → LL s2 x6 x7))) ∧ (¬ r2 = (jI 0) → (∀ x4 : Int32, x4 = (y3_32 + (jI 0)) → (∀ x5 : Int32, x5 = y4_32 + (jI 1) → LL s2 x4 x5))))))))))))
def wl_X7_signBy_32 (K86 : ST → Int32 → Prop) (f1_32 : Int32) (f2_32 : Int32) : Nat → ST → Int32 → Int32 → Prop
  | 0 => fun _ _ _ => False
  | nn + 1 => wb_X7_signBy_32 K86 (wl_X7_signBy_32 K86 f1_32 f2_32 nn) f1_32 f2_32
def wp_X7_signBy (σ : ST) (p0 : Int32) (p1 : Int32) (Q : Int32 → ST → Prop) : Prop :=
  (((jI 2) ≤ p1 → (∀ x1 : Int32, x1 = ((jI 9) * p0) → (∃ nn : Nat, wl_X7_signBy_32 (fun u_86 z3_86 => Q z3_86 u_86) p0 p1 nn σ (jI 0) x1))) ∧ (¬ (jI 2) ≤ p1 → ((p1 = (jI 0) → (vp_in ((jI 12) + p0) 983 ∧ ∀ v2 : Int32, v2 = (σ.1 0 ((jI 12) + p0).toNatClampNeg) → Q v2 σ)) ∧ (¬ p1 = (jI 0) → (vp_in ((jI 28) + p0) 983 ∧ ∀ v1 : Int32, v1 = (σ.1 0 ((jI 28) + p0).toNatClampNeg) → Q v1 σ)))))
def wp_X7_sign (σ : ST) (p0 : Int32) (p1 : Int32) (Q : Int32 → ST → Prop) : Prop :=
  wp_X7_in σ p0 (jI 0) (jI 15) (fun r1 s1 => ((r1 = (jI 0) → (∀ s7 : ST, s7 = zsp s1 1 (jI 1) → (((s7.2 1) ≤ (jI 0) → wp_X7_signBy s7 p0 p1 (fun r5 s8 => Q r5 s8)) ∧ (¬ (s7.2 1) ≤ (jI 0) → Q (jI 0) s7)))) ∧ (¬ r1 = (jI 0) → wp_X7_in s1 p1 (jI 0) (jI 3) (fun r2 s2 => ((r2 = (jI 0) → (∀ s5 : ST, s5 = zsp s2 1 (jI 2) → (((s5.2 1) ≤ (jI 0) → wp_X7_signBy s5 p0 p1 (fun r4 s6 => Q r4 s6)) ∧ (¬ (s5.2 1) ≤ (jI 0) → Q (jI 0) s5)))) ∧ (¬ r2 = (jI 0) → (∀ s3 : ST, s3 = zsp s2 1 (jI 0) → (((s3.2 1) ≤ (jI 0) → wp_X7_signBy s3 p0 p1 (fun r3 s4 => Q r3 s4)) ∧ (¬ (s3.2 1) ≤ (jI 0) → Q (jI 0) s3)))))))))
def wb_X7_trayBy_5 (K52 : ST → Int32 → Prop) (LL : ST → Int32 → Int32 → Prop) (f1_5 : Int32) (f2_5 : Int32) (t_5 : ST) (y3_5 : Int32) (y4_5 : Int32) : Prop :=
  (((jI 144) ≤ y4_5 → K52 t_5 y3_5) ∧ (¬ (jI 144) ≤ y4_5 → wp_X7_of t_5 y4_5 (jI 0) (fun r1 s1 => ((r1 = f1_5 → ((f2_5 = (jI 2) → (∀ x3 : Int32, x3 = (y3_5 + (jI 1)) → (∀ x4 : Int32, x4 = y4_5 + (jI 1) → LL s1 x3 x4))) ∧ (¬ f2_5 = (jI 2) → wp_X7_areaOf s1 y4_5 (fun r2 s2 => (∀ x1 : Int32, x1 = (y3_5 + r2) → (∀ x2 : Int32, x2 = y4_5 + (jI 1) → LL s2 x1 x2)))))) ∧ (¬ r1 = f1_5 → (∀ x5 : Int32, x5 = (y3_5 + (jI 0)) → (∀ x6 : Int32, x6 = y4_5 + (jI 1) → LL s1 x5 x6)))))))
def wl_X7_trayBy_5 (K52 : ST → Int32 → Prop) (f1_5 : Int32) (f2_5 : Int32) : Nat → ST → Int32 → Int32 → Prop
  | 0 => fun _ _ _ => False
  | nn + 1 => wb_X7_trayBy_5 K52 (wl_X7_trayBy_5 K52 f1_5 f2_5 nn) f1_5 f2_5
def wp_X7_trayBy (σ : ST) (p0 : Int32) (p1 : Int32) (Q : Int32 → ST → Prop) : Prop :=
  (∃ nn : Nat, wl_X7_trayBy_5 (fun u_52 z3_52 => ((p1 = (jI 0) → (vp_in ((jI 44) + p0) 983 ∧ ∀ v2 : Int32, v2 = (u_52.1 0 ((jI 44) + p0).toNatClampNeg) → Q v2 u_52)) ∧ (¬ p1 = (jI 0) → ((p1 = (jI 1) → (vp_in ((jI 44) + p0) 983 ∧ ∀ v1 : Int32, v1 = (u_52.1 0 ((jI 44) + p0).toNatClampNeg) → wp_X7_top u_52 p0 v1 (fun r3 s3 => Q r3 s3))) ∧ (¬ p1 = (jI 1) → Q z3_52 u_52))))) p0 p1 nn σ (jI 0) (jI 0))
def wp_X7_isTray (σ : ST) (p0 : Int32) (Q : Int32 → ST → Prop) : Prop :=
  (vp_in (jI 0) 983 ∧ ∀ v1 : Int32, v1 = (σ.1 0 (jI 0).toNatClampNeg) → wp_X7_in σ p0 (jI 0) (v1 - (jI 1)) (fun r1 s1 => (narrow .boolean (.int r1) = .int r1 ∧ Q r1 s1)))
def wp_X7_tray (σ : ST) (p0 : Int32) (p1 : Int32) (Q : Int32 → ST → Prop) : Prop :=
  wp_X7_isTray σ p0 (fun r1 s1 => ((r1 = (jI 0) → (∀ s7 : ST, s7 = zsp s1 1 (jI 1) → (((s7.2 1) ≤ (jI 0) → wp_X7_trayBy s7 p0 p1 (fun r5 s8 => Q r5 s8)) ∧ (¬ (s7.2 1) ≤ (jI 0) → Q (jI 0) s7)))) ∧ (¬ r1 = (jI 0) → wp_X7_in s1 p1 (jI 0) (jI 3) (fun r2 s2 => ((r2 = (jI 0) → (∀ s5 : ST, s5 = zsp s2 1 (jI 2) → (((s5.2 1) ≤ (jI 0) → wp_X7_trayBy s5 p0 p1 (fun r4 s6 => Q r4 s6)) ∧ (¬ (s5.2 1) ≤ (jI 0) → Q (jI 0) s5)))) ∧ (¬ r2 = (jI 0) → (∀ s3 : ST, s3 = zsp s2 1 (jI 0) → (((s3.2 1) ≤ (jI 0) → wp_X7_trayBy s3 p0 p1 (fun r3 s4 => Q r3 s4)) ∧ (¬ (s3.2 1) ≤ (jI 0) → Q (jI 0) s3)))))))))
def wb_X7_gapsOf_15 (K70 : ST → Int32 → Int32 → Prop) (LL : ST → Int32 → Int32 → Int32 → Prop) (f3_15 : Int32) (t_15 : ST) (y4_15 : Int32) (y5_15 : Int32) (y6_15 : Int32) : Prop :=
  (((jI 24) ≤ y6_15 → K70 t_15 y4_15 y5_15) ∧ (¬ (jI 24) ≤ y6_15 → wp_X7_endOf t_15 y6_15 (fun r1 s2 => (∀ x1 : Int32, x1 = (r1 - y6_15) → ((x1 ≤ (jI 0) → (∀ x2 : Int32, x2 = (y4_15 + (jI 0)) → ((x1 ≤ y5_15 → (∀ x3 : Int32, x3 = y6_15 + (jI 1) → LL s2 x2 y5_15 x3)) ∧ (¬ x1 ≤ y5_15 → (∀ x4 : Int32, x4 = y6_15 + (jI 1) → LL s2 x2 x1 x4))))) ∧ (¬ x1 ≤ (jI 0) → (∀ x5 : Int32, x5 = (y4_15 + (jI 1)) → ((x1 ≤ y5_15 → (∀ x6 : Int32, x6 = y6_15 + (jI 1) → LL s2 x5 y5_15 x6)) ∧ (¬ x1 ≤ y5_15 → (∀ x7 : Int32, x7 = y6_15 + (jI 1) → LL s2 x5 x1 x7))))))))))
def wl_X7_gapsOf_15 (K70 : ST → Int32 → Int32 → Prop) (f3_15 : Int32) : Nat → ST → Int32 → Int32 → Int32 → Prop
  | 0 => fun _ _ _ _ => False
  | nn + 1 => wb_X7_gapsOf_15 K70 (wl_X7_gapsOf_15 K70 f3_15 nn) f3_15
def wp_X7_gapsOf (σ : ST) (p0 : Int32) (p1 : Int32) (p2 : Int32) (Q : Int32 → ST → Prop) : Prop :=
  wp_X7_covers σ p0 p1 (fun s1 => (∃ nn : Nat, wl_X7_gapsOf_15 (fun u_70 z4_70 z5_70 => ((p2 = (jI 0) → Q z5_70 u_70) ∧ (¬ p2 = (jI 0) → Q z4_70 u_70))) p2 nn s1 (jI 0) (jI 0) (jI 0)))
def wp_X7_shelfBy (σ : ST) (p0 : Int32) (p1 : Int32) (p2 : Int32) (Q : Int32 → ST → Prop) : Prop :=
  ((p2 = (jI 0) → wp_X7_top σ p0 p1 (fun r1 s1 => Q r1 s1)) ∧ (¬ p2 = (jI 0) → ((p2 = (jI 1) → wp_X7_tall σ p0 p1 (fun r2 s2 => Q r2 s2)) ∧ (¬ p2 = (jI 1) → ((p2 = (jI 2) → wp_X7_lettersOn σ p0 p1 (fun r3 s3 => Q r3 s3)) ∧ (¬ p2 = (jI 2) → ((p2 = (jI 3) → ((p2 = (jI 3) → wp_X7_gapsOf σ p0 p1 (jI 1) (fun r5 s5 => Q r5 s5)) ∧ (¬ p2 = (jI 3) → wp_X7_gapsOf σ p0 p1 (jI 0) (fun r4 s4 => Q r4 s4)))) ∧ (¬ p2 = (jI 3) → ((p2 = (jI 4) → ((p2 = (jI 3) → wp_X7_gapsOf σ p0 p1 (jI 1) (fun r7 s7 => Q r7 s7)) ∧ (¬ p2 = (jI 3) → wp_X7_gapsOf σ p0 p1 (jI 0) (fun r6 s6 => Q r6 s6)))) ∧ (¬ p2 = (jI 4) → ((p2 = (jI 5) → wp_X7_latestOn σ p0 p1 (fun r8 s8 => Q r8 s8)) ∧ (¬ p2 = (jI 5) → wp_X7_isNowOn σ p0 p1 (fun r9 s9 => ((r9 = (jI 0) → Q (jI 0) s9) ∧ (¬ r9 = (jI 0) → Q (jI 1) s9)))))))))))))))
def wp_X7_shelf (σ : ST) (p0 : Int32) (p1 : Int32) (p2 : Int32) (Q : Int32 → ST → Prop) : Prop :=
  wp_X7_isTray σ p0 (fun r1 s1 => ((r1 = (jI 0) → (∀ s2 : ST, s2 = zsp s1 1 (jI 1) → (((s2.2 1) ≤ (jI 0) → wp_X7_shelfBy s2 p0 p1 p2 (fun r2 s3 => Q r2 s3)) ∧ (¬ (s2.2 1) ≤ (jI 0) → Q (jI 0) s2)))) ∧ (¬ r1 = (jI 0) → (vp_in ((jI 44) + p0) 983 ∧ ∀ v1 : Int32, v1 = (s1.1 0 ((jI 44) + p0).toNatClampNeg) → wp_X7_in s1 p1 (jI 0) (v1 - (jI 1)) (fun r3 s4 => ((r3 = (jI 0) → (∀ s10 : ST, s10 = zsp s4 1 (jI 1) → (((s10.2 1) ≤ (jI 0) → wp_X7_shelfBy s10 p0 p1 p2 (fun r7 s11 => Q r7 s11)) ∧ (¬ (s10.2 1) ≤ (jI 0) → Q (jI 0) s10)))) ∧ (¬ r3 = (jI 0) → wp_X7_in s4 p2 (jI 0) (jI 6) (fun r4 s5 => ((r4 = (jI 0) → (∀ s8 : ST, s8 = zsp s5 1 (jI 2) → (((s8.2 1) ≤ (jI 0) → wp_X7_shelfBy s8 p0 p1 p2 (fun r6 s9 => Q r6 s9)) ∧ (¬ (s8.2 1) ≤ (jI 0) → Q (jI 0) s8)))) ∧ (¬ r4 = (jI 0) → (∀ s6 : ST, s6 = zsp s5 1 (jI 0) → (((s6.2 1) ≤ (jI 0) → wp_X7_shelfBy s6 p0 p1 p2 (fun r5 s7 => Q r5 s7)) ∧ (¬ (s6.2 1) ≤ (jI 0) → Q (jI 0) s6)))))))))))))
def wb_X7_at_44 (K133 : ST → Int32 → Prop) (K145 : ST → Prop) (LL : ST → Int32 → Prop) (f1_44 : Int32) (f2_44 : Int32) (f3_44 : Int32) (t_44 : ST) (y4_44 : Int32) : Prop :=
  (((jI 144) ≤ y4_44 → K145 t_44) ∧ (¬ (jI 144) ≤ y4_44 → (((t_44.2 1) = (jI 0) → wp_X7_of t_44 y4_44 (jI 0) (fun r3 s4 => ((r3 = f1_44 → wp_X7_of s4 y4_44 (jI 2) (fun r4 s5 => wp_X7_of s5 y4_44 (jI 1) (fun r5 s6 => wp_X7_top s6 f1_44 r5 (fun r6 s7 => wp_X7_widthOf s7 y4_44 (fun r7 s8 => wp_X7_in s8 f2_44 r4 ((r4 + r7) - (jI 1)) (fun r8 s9 => ((r8 = (jI 0) → (∀ x2 : Int32, x2 = y4_44 + (jI 1) → LL s9 x2)) ∧ (¬ r8 = (jI 0) → wp_X7_heightOf s9 y4_44 (fun r9 s10 => wp_X7_in s10 f3_44 r6 ((r6 + r9) - (jI 1)) (fun r10 s11 => ((r10 = (jI 0) → (∀ x3 : Int32, x3 = y4_44 + (jI 1) → LL s11 x3)) ∧ (¬ r10 = (jI 0) → K133 s11 y4_44)))))))))))) ∧ (¬ r3 = f1_44 → (∀ x1 : Int32, x1 = y4_44 + (jI 1) → LL s4 x1))))) ∧ (¬ (t_44.2 1) = (jI 0) → K145 t_44))))
def wl_X7_at_44 (K133 : ST → Int32 → Prop) (K145 : ST → Prop) (f1_44 : Int32) (f2_44 : Int32) (f3_44 : Int32) : Nat → ST → Int32 → Prop
  | 0 => fun _ _ => False
  | nn + 1 => wb_X7_at_44 K133 K145 (wl_X7_at_44 K133 K145 f1_44 f2_44 f3_44 nn) f1_44 f2_44 f3_44
def wp_X7_at (σ : ST) (p0 : Int32) (p1 : Int32) (p2 : Int32) (Q : Int32 → ST → Prop) : Prop :=
  wp_X7_isTray σ p0 (fun r1 s1 => ((r1 = (jI 0) → (∀ s34 : ST, s34 = zsp s1 1 (jI 1) → (∃ nn : Nat, wl_X7_at_44 (fun u_133 z4_133 => wp_X7_codeOf u_133 z4_133 (fun r39 s43 => Q r39 s43)) (fun u_145 => (((u_145.2 1) ≤ (jI 0) → Q (jI (-1)) u_145) ∧ (¬ (u_145.2 1) ≤ (jI 0) → Q (jI 0) u_145))) p0 p1 p2 nn s34 (jI 0)))) ∧ (¬ r1 = (jI 0) → wp_X7_in s1 p1 (jI 0) (jI 23) (fun r2 s2 => ((r2 = (jI 0) → (∀ s3 : ST, s3 = zsp s2 1 (jI 2) → (∃ nn : Nat, wl_X7_at_44 (fun u_133 z4_133 => wp_X7_codeOf u_133 z4_133 (fun r11 s12 => Q r11 s12)) (fun u_145 => (((u_145.2 1) ≤ (jI 0) → Q (jI (-1)) u_145) ∧ (¬ (u_145.2 1) ≤ (jI 0) → Q (jI 0) u_145))) p0 p1 p2 nn s3 (jI 0)))) ∧ (¬ r2 = (jI 0) → wp_X7_in s2 p2 (jI 0) (jI 23) (fun r12 s13 => ((r12 = (jI 0) → (∀ s24 : ST, s24 = zsp s13 1 (jI 2) → (∃ nn : Nat, wl_X7_at_44 (fun u_133 z4_133 => wp_X7_codeOf u_133 z4_133 (fun r30 s33 => Q r30 s33)) (fun u_145 => (((u_145.2 1) ≤ (jI 0) → Q (jI (-1)) u_145) ∧ (¬ (u_145.2 1) ≤ (jI 0) → Q (jI 0) u_145))) p0 p1 p2 nn s24 (jI 0)))) ∧ (¬ r12 = (jI 0) → (∀ s14 : ST, s14 = zsp s13 1 (jI 0) → (∃ nn : Nat, wl_X7_at_44 (fun u_133 z4_133 => wp_X7_codeOf u_133 z4_133 (fun r21 s23 => Q r21 s23)) (fun u_145 => (((u_145.2 1) ≤ (jI 0) → Q (jI (-1)) u_145) ∧ (¬ (u_145.2 1) ≤ (jI 0) → Q (jI 0) u_145))) p0 p1 p2 nn s14 (jI 0))))))))))))
def wp_X7_streetAt (σ : ST) (p0 : Int32) (Q : Int32 → ST → Prop) : Prop :=
  (vp_in (jI 7) 983 ∧ ∀ v1 : Int32, v1 = (σ.1 0 (jI 7).toNatClampNeg) → ((v1 ≤ p0 → Q (jI (-1)) σ) ∧ (¬ v1 ≤ p0 → (vp_in ((jI 8) + p0) 983 ∧ ∀ v2 : Int32, v2 = (σ.1 0 ((jI 8) + p0).toNatClampNeg) → wp_X7_codeOf σ v2 (fun r1 s1 => Q r1 s1)))))
def wp_X7_street (σ : ST) (p0 : Int32) (Q : Int32 → ST → Prop) : Prop :=
  (((jI 0) ≤ p0 → (∀ s1 : ST, s1 = zsp σ 1 (jI 0) → (((s1.2 1) ≤ (jI 0) → wp_X7_streetAt s1 p0 (fun r1 s2 => Q r1 s2)) ∧ (¬ (s1.2 1) ≤ (jI 0) → Q (jI 0) s1)))) ∧ (¬ (jI 0) ≤ p0 → (∀ s3 : ST, s3 = zsp σ 1 (jI 1) → (((s3.2 1) ≤ (jI 0) → wp_X7_streetAt s3 p0 (fun r2 s4 => Q r2 s4)) ∧ (¬ (s3.2 1) ≤ (jI 0) → Q (jI 0) s3)))))
def wb_X7_sumOf_4 (K29 : ST → Int32 → Prop) (LL : ST → Int32 → Int32 → Prop) (f1_4 : Int32) (t_4 : ST) (y2_4 : Int32) (y3_4 : Int32) : Prop :=
  (vp_in (jI 0) 983 ∧ ∀ v1 : Int32, v1 = (t_4.1 0 (jI 0).toNatClampNeg) → ((v1 ≤ y3_4 → K29 t_4 y2_4) ∧ (¬ v1 ≤ y3_4 → wp_X7_trayBy t_4 y3_4 f1_4 (fun r1 s1 => (∀ x1 : Int32, x1 = (y2_4 + r1) → (∀ x2 : Int32, x2 = y3_4 + (jI 1) → LL s1 x1 x2))))))
def wl_X7_sumOf_4 (K29 : ST → Int32 → Prop) (f1_4 : Int32) : Nat → ST → Int32 → Int32 → Prop
  | 0 => fun _ _ _ => False
  | nn + 1 => wb_X7_sumOf_4 K29 (wl_X7_sumOf_4 K29 f1_4 nn) f1_4
def wp_X7_sumOf (σ : ST) (p0 : Int32) (Q : Int32 → ST → Prop) : Prop :=
  (∃ nn : Nat, wl_X7_sumOf_4 (fun u_29 z2_29 => Q z2_29 u_29) p0 nn σ (jI 0) (jI 0))
def wp_X7_wholeBy (σ : ST) (p0 : Int32) (Q : Int32 → ST → Prop) : Prop :=
  ((p0 = (jI 0) → (vp_in (jI 0) 983 ∧ ∀ v1 : Int32, v1 = (σ.1 0 (jI 0).toNatClampNeg) → Q v1 σ)) ∧ (¬ p0 = (jI 0) → ((p0 = (jI 1) → wp_X7_sumOf σ (jI 0) (fun r1 s1 => Q r1 s1)) ∧ (¬ p0 = (jI 1) → ((p0 = (jI 2) → wp_X7_sumOf σ (jI 2) (fun r2 s2 => Q r2 s2)) ∧ (¬ p0 = (jI 2) → ((p0 = (jI 3) → (vp_in (jI 7) 983 ∧ ∀ v2 : Int32, v2 = (σ.1 0 (jI 7).toNatClampNeg) → Q v2 σ)) ∧ (¬ p0 = (jI 3) → ((p0 = (jI 4) → (vp_in (((jI 1) + p0) - (jI 4)) 983 ∧ ∀ v3 : Int32, v3 = (σ.1 0 (((jI 1) + p0) - (jI 4)).toNatClampNeg) → Q v3 σ)) ∧ (¬ p0 = (jI 4) → ((p0 = (jI 5) → (vp_in (((jI 1) + p0) - (jI 4)) 983 ∧ ∀ v4 : Int32, v4 = (σ.1 0 (((jI 1) + p0) - (jI 4)).toNatClampNeg) → Q v4 σ)) ∧ (¬ p0 = (jI 5) → ((p0 = (jI 6) → (vp_in (((jI 1) + p0) - (jI 4)) 983 ∧ ∀ v5 : Int32, v5 = (σ.1 0 (((jI 1) + p0) - (jI 4)).toNatClampNeg) → Q v5 σ)) ∧ (¬ p0 = (jI 6) → ((p0 = (jI 7) → (vp_in (((jI 1) + p0) - (jI 4)) 983 ∧ ∀ v6 : Int32, v6 = (σ.1 0 (((jI 1) + p0) - (jI 4)).toNatClampNeg) → Q v6 σ)) ∧ (¬ p0 = (jI 7) → ((p0 = (jI 8) → (vp_in (((jI 1) + p0) - (jI 4)) 983 ∧ ∀ v7 : Int32, v7 = (σ.1 0 (((jI 1) + p0) - (jI 4)).toNatClampNeg) → Q v7 σ)) ∧ (¬ p0 = (jI 8) → ((p0 = (jI 9) → (vp_in (((jI 1) + p0) - (jI 4)) 983 ∧ ∀ v8 : Int32, v8 = (σ.1 0 (((jI 1) + p0) - (jI 4)).toNatClampNeg) → Q v8 σ)) ∧ (¬ p0 = (jI 9) → ((p0 = (jI 10) → wp_X7_manyNow σ (fun r3 s3 => Q r3 s3)) ∧ (¬ p0 = (jI 10) → ((p0 = (jI 11) → wp_X7_sumOf σ (jI 3) (fun r4 s4 => Q r4 s4)) ∧ (¬ p0 = (jI 11) → Q (σ.2 8) σ))))))))))))))))))))))))
def wp_X7_whole (σ : ST) (p0 : Int32) (Q : Int32 → ST → Prop) : Prop :=
  wp_X7_in σ p0 (jI 0) (jI 12) (fun r1 s1 => ((r1 = (jI 0) → (∀ s2 : ST, s2 = zsp s1 1 (jI 1) → (((s2.2 1) ≤ (jI 0) → wp_X7_wholeBy s2 p0 (fun r2 s3 => Q r2 s3)) ∧ (¬ (s2.2 1) ≤ (jI 0) → Q (jI 0) s2)))) ∧ (¬ r1 = (jI 0) → (∀ s4 : ST, s4 = zsp s1 1 (jI 0) → (((s4.2 1) ≤ (jI 0) → wp_X7_wholeBy s4 p0 (fun r3 s5 => Q r3 s5)) ∧ (¬ (s4.2 1) ≤ (jI 0) → Q (jI 0) s4))))))
def wp_X7_rule (σ : ST) (p0 : Int32) (p1 : Int32) (p2 : Int32) (Q : Int32 → ST → Prop) : Prop :=
  wp_X7_bars σ p0 p1 p2 (fun r1 s1 => (∀ s2 : ST, s2 = zsp s1 1 r1 → (((s2.2 1) ≤ (jI 0) → wp_X7_number s2 p0 p1 p2 (fun r2 s3 => wp_X7_looks s3 r2 (fun s4 => Q (s4.2 2) s4))) ∧ (¬ (s2.2 1) ≤ (jI 0) → Q (jI 0) s2))))
def wp_X7_takenBy (σ : ST) (p0 : Int32) (p1 : Int32) (p2 : Int32) (Q : Int32 → ST → Prop) : Prop :=
  wp_X7_bars σ p0 p1 p2 (fun r1 s1 => (∀ s2 : ST, s2 = zsp s1 1 r1 → (((s2.2 1) ≤ (jI 0) → wp_X7_number s2 p0 p1 p2 (fun r2 s3 => wp_X7_looks s3 r2 (fun s4 => (((s4.2 2) = (jI (-1)) → Q (jI (-1)) s4) ∧ (¬ (s4.2 2) = (jI (-1)) → Q (s4.2 7) s4))))) ∧ (¬ (s2.2 1) ≤ (jI 0) → Q (jI 0) s2))))
def wp_X7_costOf (σ : ST) (p0 : Int32) (p1 : Int32) (p2 : Int32) (Q : Int32 → ST → Prop) : Prop :=
  wp_X7_bars σ p0 p1 p2 (fun r1 s1 => (∀ s2 : ST, s2 = zsp s1 1 r1 → (((s2.2 1) ≤ (jI 0) → wp_X7_number s2 p0 p1 p2 (fun r2 s3 => wp_X7_looks s3 r2 (fun s4 => (((s4.2 2) = (jI (-1)) → Q (jI (-1)) s4) ∧ (¬ (s4.2 2) = (jI (-1)) → (((s4.2 2) = (jI 0) → Q (jI 0) s4) ∧ (¬ (s4.2 2) = (jI 0) → wp_X7_inks s4 r2 (fun r3 s5 => Q r3 s5)))))))) ∧ (¬ (s2.2 1) ≤ (jI 0) → Q (jI 0) s2))))
def wb_X7_oldestOne_4 (K51 : ST → Int32 → Prop) (LL : ST → Int32 → Int32 → Prop)  (t_4 : ST) (y1_4 : Int32) (y2_4 : Int32) : Prop :=
  (((jI 144) ≤ y2_4 → K51 t_4 y1_4) ∧ (¬ (jI 144) ≤ y2_4 → wp_X7_is t_4 y2_4 (fun r1 s1 => ((r1 = (jI 0) → (∀ x1 : Int32, x1 = y2_4 + (jI 1) → LL s1 y1_4 x1)) ∧ (¬ r1 = (jI 0) → ((y1_4 = (jI (-1)) → (∀ x2 : Int32, x2 = y2_4 + (jI 1) → LL s1 y2_4 x2)) ∧ (¬ y1_4 = (jI (-1)) → wp_X7_of s1 y2_4 (jI 3) (fun r2 s2 => wp_X7_of s2 y1_4 (jI 3) (fun r3 s3 => ((r3 ≤ r2 → (∀ x3 : Int32, x3 = y2_4 + (jI 1) → LL s3 y1_4 x3)) ∧ (¬ r3 ≤ r2 → (∀ x4 : Int32, x4 = y2_4 + (jI 1) → LL s3 y2_4 x4))))))))))))
def wl_X7_oldestOne_4 (K51 : ST → Int32 → Prop)  : Nat → ST → Int32 → Int32 → Prop
  | 0 => fun _ _ _ => False
  | nn + 1 => wb_X7_oldestOne_4 K51 (wl_X7_oldestOne_4 K51  nn) 
def wp_X7_oldestOne (σ : ST)  (Q : Int32 → ST → Prop) : Prop :=
  (∃ nn : Nat, wl_X7_oldestOne_4 (fun u_51 z1_51 => ((z1_51 = (jI (-1)) → Q (jI (-1)) u_51) ∧ (¬ z1_51 = (jI (-1)) → wp_X7_codeOf u_51 z1_51 (fun r4 s4 => Q r4 s4))))  nn σ (jI (-1)) (jI 0))
def wp_X7_oldest (σ : ST)  (Q : Int32 → ST → Prop) : Prop :=
  (∀ s1 : ST, s1 = zsp σ 1 (jI 0) → wp_X7_oldestOne s1 (fun r1 s2 => Q r1 s2))
def wb_X7_widestArea_16 (K64 : ST → Int32 → Prop) (LL : ST → Int32 → Int32 → Prop) (f2_16 : Int32) (t_16 : ST) (y1_16 : Int32) (y3_16 : Int32) : Prop :=
  (vp_in ((jI 44) + f2_16) 983 ∧ ∀ v2 : Int32, v2 = (t_16.1 0 ((jI 44) + f2_16).toNatClampNeg) → ((v2 ≤ y3_16 → K64 t_16 y1_16) ∧ (¬ v2 ≤ y3_16 → wp_X7_gapsOf t_16 f2_16 y3_16 (jI 0) (fun r1 s1 => wp_X7_tall s1 f2_16 y3_16 (fun r2 s2 => (∀ x1 : Int32, x1 = (r1 * r2) → ((x1 ≤ y1_16 → (∀ x2 : Int32, x2 = y3_16 + (jI 1) → LL s2 y1_16 x2)) ∧ (¬ x1 ≤ y1_16 → (∀ x3 : Int32, x3 = y3_16 + (jI 1) → LL s2 x1 x3)))))))))
def wl_X7_widestArea_16 (K64 : ST → Int32 → Prop) (f2_16 : Int32) : Nat → ST → Int32 → Int32 → Prop
  | 0 => fun _ _ _ => False
  | nn + 1 => wb_X7_widestArea_16 K64 (wl_X7_widestArea_16 K64 f2_16 nn) f2_16
def wb_X7_widestArea_4 (K70 : ST → Int32 → Prop) (LL : ST → Int32 → Int32 → Prop)  (t_4 : ST) (y1_4 : Int32) (y2_4 : Int32) : Prop :=
  (vp_in (jI 0) 983 ∧ ∀ v1 : Int32, v1 = (t_4.1 0 (jI 0).toNatClampNeg) → ((v1 ≤ y2_4 → K70 t_4 y1_4) ∧ (¬ v1 ≤ y2_4 → (∃ nn : Nat, wl_X7_widestArea_16 (fun u_64 z1_64 => (∀ x4 : Int32, x4 = y2_4 + (jI 1) → LL u_64 z1_64 x4)) y2_4 nn t_4 y1_4 (jI 0)))))
def wl_X7_widestArea_4 (K70 : ST → Int32 → Prop)  : Nat → ST → Int32 → Int32 → Prop
  | 0 => fun _ _ _ => False
  | nn + 1 => wb_X7_widestArea_4 K70 (wl_X7_widestArea_4 K70  nn) 
def wp_X7_widestArea (σ : ST)  (Q : Int32 → ST → Prop) : Prop :=
  (∃ nn : Nat, wl_X7_widestArea_4 (fun u_70 z1_70 => Q z1_70 u_70)  nn σ (jI 0) (jI 0))
def wp_X7_greatestGap (σ : ST)  (Q : Int32 → ST → Prop) : Prop :=
  (∀ s1 : ST, s1 = zsp σ 1 (jI 0) → wp_X7_widestArea s1 (fun r1 s2 => Q r1 s2))
def wp_X7_type (σ : ST) (p0 : Int32) (Q : Int32 → ST → Prop) : Prop :=
  wp_X7_in σ p0 (jI 0) (jI 127) (fun r1 s1 => ((r1 = (jI 0) → (∀ s8 : ST, s8 = zsp s1 1 (jI 1) → (((s8.2 1) ≤ (jI 0) → (vp_in (s8.2 8) 150 ∧ ∀ s9 : ST, s9 = zrp s8 3 (s8.2 8).toNatClampNeg p0 → (∀ s10 : ST, s10 = zsp s9 8 ((s9.2 8) + (jI 1)) → Q (s10.2 8) s10))) ∧ (¬ (s8.2 1) ≤ (jI 0) → Q (jI 0) s8)))) ∧ (¬ r1 = (jI 0) → (((s1.2 8) = (jI 150) → (∀ s5 : ST, s5 = zsp s1 1 (jI 2) → (((s5.2 1) ≤ (jI 0) → (vp_in (s5.2 8) 150 ∧ ∀ s6 : ST, s6 = zrp s5 3 (s5.2 8).toNatClampNeg p0 → (∀ s7 : ST, s7 = zsp s6 8 ((s6.2 8) + (jI 1)) → Q (s7.2 8) s7))) ∧ (¬ (s5.2 1) ≤ (jI 0) → Q (jI 0) s5)))) ∧ (¬ (s1.2 8) = (jI 150) → (∀ s2 : ST, s2 = zsp s1 1 (jI 0) → (((s2.2 1) ≤ (jI 0) → (vp_in (s2.2 8) 150 ∧ ∀ s3 : ST, s3 = zrp s2 3 (s2.2 8).toNatClampNeg p0 → (∀ s4 : ST, s4 = zsp s3 8 ((s3.2 8) + (jI 1)) → Q (s4.2 8) s4))) ∧ (¬ (s2.2 1) ≤ (jI 0) → Q (jI 0) s2))))))))
def wp_X7_clearCommands (σ : ST)  (Q : Int32 → ST → Prop) : Prop :=
  (∀ s1 : ST, s1 = zsp σ 1 (jI 0) → (∀ s2 : ST, s2 = zsp s1 8 (jI 0) → Q (s1.2 8) s2))
def wp_X7_look (σ : ST)  (Q : Int32 → ST → Prop) : Prop :=
  (((σ.2 8) ≤ (σ.2 9) → Q (jI (-1)) σ) ∧ (¬ (σ.2 8) ≤ (σ.2 9) → (vp_in (σ.2 9) 150 ∧ ∀ v1 : Int32, v1 = (σ.1 3 (σ.2 9).toNatClampNeg) → Q v1 σ)))
def wb_X7_skips_2 (K27 : ST → Int32 → Prop) (LL : ST → Int32 → Prop)  (t_2 : ST) (y1_2 : Int32) : Prop :=
  wp_X7_look t_2 (fun r1 s1 => ((r1 = (jI 32) → (∀ s2 : ST, s2 = zsp s1 9 ((s1.2 9) + (jI 1)) → (∀ x1 : Int32, x1 = y1_2 + (jI 1) → LL s2 x1))) ∧ (¬ r1 = (jI 32) → K27 s1 y1_2)))
def wl_X7_skips_2 (K27 : ST → Int32 → Prop)  : Nat → ST → Int32 → Prop
  | 0 => fun _ _ => False
  | nn + 1 => wb_X7_skips_2 K27 (wl_X7_skips_2 K27  nn) 
def wp_X7_skips (σ : ST)  (Q : Int32 → ST → Prop) : Prop :=
  (∃ nn : Nat, wl_X7_skips_2 (fun u_27 z1_27 => Q z1_27 u_27)  nn σ (jI 0))
def wb_X7_readsWord_4 (K58 : ST → Int32 → Int32 → Prop) (LL : ST → Int32 → Int32 → Prop)  (t_4 : ST) (y1_4 : Int32) (y2_4 : Int32) : Prop :=
  wp_X7_look t_4 (fun r1 s1 => wp_X7_in s1 r1 (jI 97) (jI 122) (fun r2 s2 => ((r2 = (jI 0) → K58 s2 y1_4 y2_4) ∧ (¬ r2 = (jI 0) → (((jI 5) ≤ y2_4 → (∀ x1 : Int32, x1 = y2_4 + (jI 1) → (∀ s3 : ST, s3 = zsp s2 9 ((s2.2 9) + (jI 1)) → LL s3 (jI 0) x1))) ∧ (¬ (jI 5) ≤ y2_4 → wp_X7_look s2 (fun r3 s4 => (∀ x2 : Int32, x2 = (((((jI 27) * y1_4) + r3) - (jI 97)) + (jI 1)) → (∀ x3 : Int32, x3 = y2_4 + (jI 1) → (∀ s5 : ST, s5 = zsp s4 9 ((s4.2 9) + (jI 1)) → LL s5 x2 x3))))))))))
def wl_X7_readsWord_4 (K58 : ST → Int32 → Int32 → Prop)  : Nat → ST → Int32 → Int32 → Prop
  | 0 => fun _ _ _ => False
  | nn + 1 => wb_X7_readsWord_4 K58 (wl_X7_readsWord_4 K58  nn) 
def wp_X7_readsWord (σ : ST)  (Q : Int32 → ST → Prop) : Prop :=
  (∃ nn : Nat, wl_X7_readsWord_4 (fun u_58 z1_58 z2_58 => ((z2_58 ≤ (jI 5) → Q z1_58 u_58) ∧ (¬ z2_58 ≤ (jI 5) → Q (jI 0) u_58)))  nn σ (jI 0) (jI 0))
def wp_X7_wordOf (σ : ST) (p0 : Int32) (p1 : Int32) (p2 : Int32) (p3 : Int32) (p4 : Int32) (Q : Int32 → ST → Prop) : Prop :=
  (∀ x1 : Int32, x1 = (((((jI 27) * (((((jI 27) * ((p0 - (jI 97)) + (jI 1))) + p1) - (jI 97)) + (jI 1))) + p2) - (jI 97)) + (jI 1)) → ((p3 = (jI 32) → ((p4 = (jI 32) → Q x1 σ) ∧ (¬ p4 = (jI 32) → Q (((((jI 27) * x1) + p4) - (jI 97)) + (jI 1)) σ))) ∧ (¬ p3 = (jI 32) → (∀ x2 : Int32, x2 = (((((jI 27) * x1) + p3) - (jI 97)) + (jI 1)) → ((p4 = (jI 32) → Q x2 σ) ∧ (¬ p4 = (jI 32) → Q (((((jI 27) * x2) + p4) - (jI 97)) + (jI 1)) σ))))))
def wp_X7_kindOf (σ : ST) (p0 : Int32) (Q : Int32 → ST → Prop) : Prop :=
  wp_X7_wordOf σ (jI 99) (jI 117) (jI 116) (jI 32) (jI 32) (fun r1 s1 => ((p0 = r1 → Q (jI 1) s1) ∧ (¬ p0 = r1 → wp_X7_wordOf s1 (jI 117) (jI 115) (jI 101) (jI 32) (jI 32) (fun r2 s2 => ((p0 = r2 → Q (jI 2) s2) ∧ (¬ p0 = r2 → wp_X7_wordOf s2 (jI 100) (jI 114) (jI 111) (jI 112) (jI 32) (fun r3 s3 => ((p0 = r3 → Q (jI 3) s3) ∧ (¬ p0 = r3 → wp_X7_wordOf s3 (jI 108) (jI 105) (jI 110) (jI 101) (jI 32) (fun r4 s4 => ((p0 = r4 → Q (jI 4) s4) ∧ (¬ p0 = r4 → wp_X7_wordOf s4 (jI 116) (jI 114) (jI 97) (jI 121) (jI 32) (fun r5 s5 => ((p0 = r5 → Q (jI 5) s5) ∧ (¬ p0 = r5 → wp_X7_wordOf s5 (jI 99) (jI 108) (jI 111) (jI 115) (jI 101) (fun r6 s6 => ((p0 = r6 → Q (jI 6) s6) ∧ (¬ p0 = r6 → Q (jI 0) s6))))))))))))))))))
def wb_X7_readsNumber_27 (K75 : ST → Int32 → Prop) (LL : ST → Int32 → Int32 → Prop) (f1_27 : Int32) (t_27 : ST) (y2_27 : Int32) (y3_27 : Int32) : Prop :=
  (((jI 2) ≤ y3_27 → K75 t_27 y2_27) ∧ (¬ (jI 2) ≤ y3_27 → wp_X7_look t_27 (fun r4 s4 => wp_X7_in s4 r4 (jI 48) (jI 57) (fun r5 s5 => ((r5 = (jI 0) → K75 s5 y2_27) ∧ (¬ r5 = (jI 0) → wp_X7_look s5 (fun r6 s6 => (∀ x1 : Int32, x1 = ((((jI 10) * y2_27) + r6) - (jI 48)) → (∀ s7 : ST, s7 = zsp s6 9 ((s6.2 9) + (jI 1)) → (∀ x2 : Int32, x2 = y3_27 + (jI 1) → LL s7 x1 x2))))))))))
def wl_X7_readsNumber_27 (K75 : ST → Int32 → Prop) (f1_27 : Int32) : Nat → ST → Int32 → Int32 → Prop
  | 0 => fun _ _ _ => False
  | nn + 1 => wb_X7_readsNumber_27 K75 (wl_X7_readsNumber_27 K75 f1_27 nn) f1_27
def wp_X7_readsNumber (σ : ST) (p0 : Int32) (Q : Int32 → ST → Prop) : Prop :=
  wp_X7_skips σ (fun r1 s1 => ((r1 = (jI 0) → Q (jI 0) s1) ∧ (¬ r1 = (jI 0) → wp_X7_look s1 (fun r2 s2 => wp_X7_in s2 r2 (jI 48) (jI 57) (fun r3 s3 => ((r3 = (jI 0) → Q (jI 0) s3) ∧ (¬ r3 = (jI 0) → (∃ nn : Nat, wl_X7_readsNumber_27 (fun u_75 z2_75 => (vp_in (((jI 4) * (u_75.2 10)) + p0) 200 ∧ ∀ s8 : ST, s8 = zrp u_75 4 (((jI 4) * (u_75.2 10)) + p0).toNatClampNeg z2_75 → Q (jI 1) s8)) p0 nn s3 (jI 0) (jI 0)))))))))
def wb_X7_readsCommand_38 (K56 : ST → Prop) (K64 : ST → Prop) (LL : ST → Int32 → Prop) (f2_38 : Int32) (t_38 : ST) (y3_38 : Int32) : Prop :=
  (((jI 4) ≤ y3_38 → K64 t_38) ∧ (¬ (jI 4) ≤ y3_38 → (((jI 4) ≤ f2_38 → K64 t_38) ∧ (¬ (jI 4) ≤ f2_38 → wp_X7_readsNumber t_38 y3_38 (fun r3 s4 => ((r3 = (jI 0) → K56 s4) ∧ (¬ r3 = (jI 0) → (∀ x1 : Int32, x1 = y3_38 + (jI 1) → LL s4 x1))))))))
def wl_X7_readsCommand_38 (K56 : ST → Prop) (K64 : ST → Prop) (f2_38 : Int32) : Nat → ST → Int32 → Prop
  | 0 => fun _ _ => False
  | nn + 1 => wb_X7_readsCommand_38 K56 K64 (wl_X7_readsCommand_38 K56 K64 f2_38 nn) f2_38
def wp_X7_readsCommand (σ : ST)  (Q : Int32 → ST → Prop) : Prop :=
  wp_X7_readsWord σ (fun r1 s1 => wp_X7_kindOf s1 r1 (fun r2 s2 => ((r2 = (jI 0) → (∀ s9 : ST, s9 = zsp s2 9 (σ.2 9) → Q (jI 0) s9)) ∧ (¬ r2 = (jI 0) → (vp_in ((jI 4) * (s2.2 10)) 200 ∧ ∀ s3 : ST, s3 = zrp s2 4 ((jI 4) * (s2.2 10)).toNatClampNeg r2 → (∃ nn : Nat, wl_X7_readsCommand_38 (fun u_56 => Q (jI 0) u_56) (fun u_64 => wp_X7_skips u_64 (fun r4 s5 => wp_X7_look s5 (fun r5 s6 => ((r5 = (jI 59) → (∀ s7 : ST, s7 = zsp s6 9 ((s6.2 9) + (jI 1)) → (∀ s8 : ST, s8 = zsp s7 10 ((s7.2 10) + (jI 1)) → Q (jI 1) s8))) ∧ (¬ r5 = (jI 59) → Q (jI 0) s6))))) r2 nn s3 (jI 1)))))))
def wb_X7_reads_17 (K49 : ST → Int32 → Prop) (LL : ST → Int32 → Prop)  (t_17 : ST) (y1_17 : Int32) : Prop :=
  ((y1_17 = (jI 0) → K49 t_17 y1_17) ∧ (¬ y1_17 = (jI 0) → (((t_17.2 8) ≤ (t_17.2 9) → K49 t_17 y1_17) ∧ (¬ (t_17.2 8) ≤ (t_17.2 9) → wp_X7_readsCommand t_17 (fun r2 s4 => ((r2 = (jI 0) → LL s4 r2) ∧ (¬ r2 = (jI 0) → wp_X7_skips s4 (fun r3 s5 => LL s5 r2))))))))
def wl_X7_reads_17 (K49 : ST → Int32 → Prop)  : Nat → ST → Int32 → Prop
  | 0 => fun _ _ => False
  | nn + 1 => wb_X7_reads_17 K49 (wl_X7_reads_17 K49  nn) 
def wp_X7_reads (σ : ST)  (Q : Int32 → ST → Prop) : Prop :=
  (∀ s1 : ST, s1 = zsp σ 9 (jI 0) → (∀ s2 : ST, s2 = zsp s1 10 (jI 0) → wp_X7_skips s2 (fun r1 s3 => (∃ nn : Nat, wl_X7_reads_17 (fun u_49 z1_49 => (narrow .boolean (.int z1_49) = .int z1_49 ∧ Q z1_49 u_49))  nn s3 (jI 1)))))
def wp_X7_does (σ : ST) (p0 : Int32) (Q : Int32 → ST → Prop) : Prop :=
  (vp_in (p0 + (jI 1)) 200 ∧ ∀ v1 : Int32, v1 = (σ.1 4 (p0 + (jI 1)).toNatClampNeg) → (vp_in (p0 + (jI 2)) 200 ∧ ∀ v2 : Int32, v2 = (σ.1 4 (p0 + (jI 2)).toNatClampNeg) → (vp_in (p0 + (jI 3)) 200 ∧ ∀ v3 : Int32, v3 = (σ.1 4 (p0 + (jI 3)).toNatClampNeg) → (vp_in p0 200 ∧ ∀ v4 : Int32, v4 = (σ.1 4 p0.toNatClampNeg) → ((v4 = (jI 1) → wp_X7_cutBars σ v1 v2 v3 (fun r1 s1 => ((r1 = (jI 0) → wp_X7_cuts s1 v1 v2 v3 (fun r2 s2 => ((r2 < (jI 0) → Q (jI 0) s2) ∧ (¬ r2 < (jI 0) → Q (jI 1) s2)))) ∧ (¬ r1 = (jI 0) → Q (jI 0) s1)))) ∧ (¬ v4 = (jI 1) → ((v4 = (jI 2) → wp_X7_bars σ v1 v2 v3 (fun r3 s3 => ((r3 = (jI 0) → wp_X7_number s3 v1 v2 v3 (fun r4 s4 => wp_X7_uses s4 r4 (fun r5 s5 => ((r5 = (jI (-1)) → Q (jI 0) s5) ∧ (¬ r5 = (jI (-1)) → Q (jI 1) s5))))) ∧ (¬ r3 = (jI 0) → Q (jI 0) s3)))) ∧ (¬ v4 = (jI 2) → ((v4 = (jI 3) → wp_X7_bars σ v1 v2 v3 (fun r6 s6 => (((jI 0) < r6 → Q (jI 0) s6) ∧ (¬ (jI 0) < r6 → wp_X7_number s6 v1 v2 v3 (fun r7 s7 => wp_X7_is s7 r7 (fun r8 s8 => ((r8 = (jI 0) → Q (jI 0) s8) ∧ (¬ r8 = (jI 0) → wp_X7_number s8 v1 v2 v3 (fun r9 s9 => wp_X7_goes s9 r9 (fun s10 => Q (jI 1) s10)))))))))) ∧ (¬ v4 = (jI 3) → ((v4 = (jI 4) → (vp_in (jI 1) 983 ∧ ∀ v5 : Int32, v5 = (σ.1 0 (jI 1).toNatClampNeg) → (vp_in (jI 1) 983 ∧ ∀ s11 : ST, s11 = zrp σ 0 (jI 1).toNatClampNeg (v5 + (jI 1)) → Q (jI 1) s11))) ∧ (¬ v4 = (jI 4) → ((v4 = (jI 5) → (vp_in (jI 0) 983 ∧ ∀ v6 : Int32, v6 = (σ.1 0 (jI 0).toNatClampNeg) → (((jI 3) ≤ v6 → Q (jI 0) σ) ∧ (¬ (jI 3) ≤ v6 → wp_X7_addsTray σ (fun r10 s12 => ((r10 ≤ (jI 0) → Q (jI 0) s12) ∧ (¬ r10 ≤ (jI 0) → Q (jI 1) s12))))))) ∧ (¬ v4 = (jI 5) → wp_X7_closes σ (fun r11 s13 => ((r11 < (jI 0) → Q (jI 0) s13) ∧ (¬ r11 < (jI 0) → Q (jI 1) s13)))))))))))))))))
def wb_X7_runCommands_26 (K50 : ST → Int32 → Prop) (LL : ST → Int32 → Prop)  (t_26 : ST) (y1_26 : Int32) : Prop :=
  (((t_26.2 10) ≤ y1_26 → K50 t_26 y1_26) ∧ (¬ (t_26.2 10) ≤ y1_26 → wp_X7_does t_26 ((jI 4) * y1_26) (fun r2 s4 => ((r2 = (jI 0) → K50 s4 y1_26) ∧ (¬ r2 = (jI 0) → (∀ x1 : Int32, x1 = y1_26 + (jI 1) → LL s4 x1))))))
def wl_X7_runCommands_26 (K50 : ST → Int32 → Prop)  : Nat → ST → Int32 → Prop
  | 0 => fun _ _ => False
  | nn + 1 => wb_X7_runCommands_26 K50 (wl_X7_runCommands_26 K50  nn) 
def wp_X7_runCommands (σ : ST)  (Q : Int32 → ST → Prop) : Prop :=
  (∀ s1 : ST, s1 = zsp σ 1 (jI 0) → wp_X7_reads s1 (fun r1 s2 => ((r1 = (jI 0) → Q ((jI (-10)) - (s2.2 9)) s2) ∧ (¬ r1 = (jI 0) → wp_X7_saves s2 (fun s3 => (∃ nn : Nat, wl_X7_runCommands_26 (fun u_50 z1_50 => Q z1_50 u_50)  nn s3 (jI 0)))))))
def wb_X7_digest_17 (K42 : ST → Int64 → Prop) (LL : ST → Int64 → Int32 → Prop)  (t_17 : ST) (y1_17 : Int64) (y3_17 : Int32) : Prop :=
  (((jI 13) ≤ y3_17 → K42 t_17 y1_17) ∧ (¬ (jI 13) ≤ y3_17 → wp_X7_wholeBy t_17 y3_17 (fun r1 s2 => (∀ x2 : Int64, x2 = ((((31) : Int64) * y1_17) + (r1.toInt64)) → (∀ x3 : Int32, x3 = y3_17 + (jI 1) → LL s2 x2 x3)))))
def wl_X7_digest_17 (K42 : ST → Int64 → Prop)  : Nat → ST → Int64 → Int32 → Prop
  | 0 => fun _ _ _ => False
  | nn + 1 => wb_X7_digest_17 K42 (wl_X7_digest_17 K42  nn) 
def wb_X7_digest_44 (K74 : ST → Int64 → Prop) (LL : ST → Int64 → Int32 → Prop)  (t_44 : ST) (y1_44 : Int64) (y3_44 : Int32) : Prop :=
  (((jI 64) ≤ y3_44 → K74 t_44 y1_44) ∧ (¬ (jI 64) ≤ y3_44 → wp_X7_signBy t_44 (y3_44 / (jI 4)) (y3_44 - y3_44 / (jI 4) * (jI 4)) (fun r2 s3 => (∀ x4 : Int64, x4 = ((((31) : Int64) * y1_44) + (r2.toInt64)) → (∀ x5 : Int32, x5 = y3_44 + (jI 1) → LL s3 x4 x5)))))
def wl_X7_digest_44 (K74 : ST → Int64 → Prop)  : Nat → ST → Int64 → Int32 → Prop
  | 0 => fun _ _ _ => False
  | nn + 1 => wb_X7_digest_44 K74 (wl_X7_digest_44 K74  nn) 
def wb_X7_digest_76 (K109 : ST → Int64 → Prop) (LL : ST → Int64 → Int32 → Prop)  (t_76 : ST) (y1_76 : Int64) (y3_76 : Int32) : Prop :=
  (((jI 1296) ≤ y3_76 → K109 t_76 y1_76) ∧ (¬ (jI 1296) ≤ y3_76 → wp_X7_letterBy t_76 (y3_76 / (jI 9)) (y3_76 - y3_76 / (jI 9) * (jI 9)) (fun r3 s4 => (∀ x6 : Int64, x6 = ((((31) : Int64) * y1_76) + (r3.toInt64)) → (∀ x7 : Int32, x7 = y3_76 + (jI 1) → LL s4 x6 x7)))))
def wl_X7_digest_76 (K109 : ST → Int64 → Prop)  : Nat → ST → Int64 → Int32 → Prop
  | 0 => fun _ _ _ => False
  | nn + 1 => wb_X7_digest_76 K109 (wl_X7_digest_76 K109  nn) 
def wb_X7_digest_124 (K151 : ST → Int64 → Prop) (LL : ST → Int64 → Int32 → Prop) (f3_124 : Int32) (t_124 : ST) (y1_124 : Int64) (y4_124 : Int32) : Prop :=
  (((jI 4) ≤ y4_124 → K151 t_124 y1_124) ∧ (¬ (jI 4) ≤ y4_124 → wp_X7_trayBy t_124 f3_124 y4_124 (fun r4 s5 => (∀ x8 : Int64, x8 = ((((31) : Int64) * y1_124) + (r4.toInt64)) → (∀ x9 : Int32, x9 = y4_124 + (jI 1) → LL s5 x8 x9)))))
def wl_X7_digest_124 (K151 : ST → Int64 → Prop) (f3_124 : Int32) : Nat → ST → Int64 → Int32 → Prop
  | 0 => fun _ _ _ => False
  | nn + 1 => wb_X7_digest_124 K151 (wl_X7_digest_124 K151 f3_124 nn) f3_124
def wb_X7_digest_154 (K200 : ST → Int64 → Prop) (LL : ST → Int64 → Int32 → Prop) (f3_154 : Int32) (t_154 : ST) (y1_154 : Int64) (y4_154 : Int32) : Prop :=
  (vp_in ((jI 44) + f3_154) 983 ∧ ∀ v2 : Int32, v2 = (t_154.1 0 ((jI 44) + f3_154).toNatClampNeg) → ((((jI 7) * v2) ≤ y4_154 → K200 t_154 y1_154) ∧ (¬ ((jI 7) * v2) ≤ y4_154 → wp_X7_shelfBy t_154 f3_154 (y4_154 / (jI 7)) (y4_154 - y4_154 / (jI 7) * (jI 7)) (fun r5 s6 => (∀ x10 : Int64, x10 = ((((31) : Int64) * y1_154) + (r5.toInt64)) → (∀ x11 : Int32, x11 = y4_154 + (jI 1) → LL s6 x10 x11))))))
def wl_X7_digest_154 (K200 : ST → Int64 → Prop) (f3_154 : Int32) : Nat → ST → Int64 → Int32 → Prop
  | 0 => fun _ _ _ => False
  | nn + 1 => wb_X7_digest_154 K200 (wl_X7_digest_154 K200 f3_154 nn) f3_154
def wb_X7_digest_111 (K206 : ST → Int64 → Prop) (LL : ST → Int64 → Int32 → Prop)  (t_111 : ST) (y1_111 : Int64) (y3_111 : Int32) : Prop :=
  (vp_in (jI 0) 983 ∧ ∀ v1 : Int32, v1 = (t_111.1 0 (jI 0).toNatClampNeg) → ((v1 ≤ y3_111 → K206 t_111 y1_111) ∧ (¬ v1 ≤ y3_111 → (∃ nn : Nat, wl_X7_digest_124 (fun u_151 z1_151 => (∃ nn : Nat, wl_X7_digest_154 (fun u_200 z1_200 => (∀ x12 : Int32, x12 = y3_111 + (jI 1) → LL u_200 z1_200 x12)) y3_111 nn u_151 z1_151 (jI 0))) y3_111 nn t_111 y1_111 (jI 0)))))
def wl_X7_digest_111 (K206 : ST → Int64 → Prop)  : Nat → ST → Int64 → Int32 → Prop
  | 0 => fun _ _ _ => False
  | nn + 1 => wb_X7_digest_111 K206 (wl_X7_digest_111 K206  nn) 
def wb_X7_digest_208 (K238 : ST → Int64 → Prop) (LL : ST → Int64 → Int32 → Prop)  (t_208 : ST) (y1_208 : Int64) (y3_208 : Int32) : Prop :=
  (vp_in (jI 7) 983 ∧ ∀ v3 : Int32, v3 = (t_208.1 0 (jI 7).toNatClampNeg) → ((v3 ≤ y3_208 → K238 t_208 y1_208) ∧ (¬ v3 ≤ y3_208 → wp_X7_streetAt t_208 y3_208 (fun r6 s7 => (∀ x13 : Int64, x13 = ((((31) : Int64) * y1_208) + (r6.toInt64)) → (∀ x14 : Int32, x14 = y3_208 + (jI 1) → LL s7 x13 x14))))))
def wl_X7_digest_208 (K238 : ST → Int64 → Prop)  : Nat → ST → Int64 → Int32 → Prop
  | 0 => fun _ _ _ => False
  | nn + 1 => wb_X7_digest_208 K238 (wl_X7_digest_208 K238  nn) 
def wp_X7_digest (σ : ST)  (Q : Int64 → ST → Prop) : Prop :=
  (∀ s1 : ST, s1 = zsp σ 1 (jI 0) → (∀ x1 : Int64, x1 = (((1349492) : Int64) + ((s1.2 0).toInt64)) → (∃ nn : Nat, wl_X7_digest_17 (fun u_42 z1_42 => (∃ nn : Nat, wl_X7_digest_44 (fun u_74 z1_74 => (∃ nn : Nat, wl_X7_digest_76 (fun u_109 z1_109 => (∃ nn : Nat, wl_X7_digest_111 (fun u_206 z1_206 => (∃ nn : Nat, wl_X7_digest_208 (fun u_238 z1_238 => wp_X7_oldestOne u_238 (fun r7 s8 => (∀ x15 : Int64, x15 = ((((31) : Int64) * z1_238) + (r7.toInt64)) → wp_X7_widestArea s8 (fun r8 s9 => Q ((((31) : Int64) * x15) + (r8.toInt64)) s9))))  nn u_206 z1_206 (jI 0)))  nn u_109 z1_109 (jI 0)))  nn u_74 z1_74 (jI 0)))  nn u_42 z1_42 (jI 0)))  nn s1 x1 (jI 0))))
theorem last_05 : True := trivial
