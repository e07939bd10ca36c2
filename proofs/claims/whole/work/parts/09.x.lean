/-! printed by wip/whole/gen.py: the calls that may throw -/
def wx_X6_cut (σ : ST) (p0 : Int32) (p1 : Int32) (p2 : Int32) (Q : Int32 → ST → Prop) (X : Nat → ST → Prop) : Prop :=
  wp_X6_faultOfCut σ p0 p1 p2 (fun r1 s1 => wx_X6_throwFor s1 r1 (fun s2 => wp_X5_push s2 (fun s3 => wp_X4_cutSign s3 p0 p1 p2 (fun r2 s4 => Q r2 s4))) X)
def wx_X6_use (σ : ST) (p0 : Int32) (p1 : Int32) (p2 : Int32) (Q : Int32 → ST → Prop) (X : Nat → ST → Prop) : Prop :=
  wp_X6_faultOfUse σ p0 p1 p2 (fun r1 s1 => wx_X6_throwFor s1 r1 (fun s2 => wp_X5_push s2 (fun s3 => wp_X6_letterNumber s3 p0 p1 p2 (fun r2 s4 => wp_X4_useLetter s4 r2 (fun s5 => Q (s5.2 45) s5)))) X)
def wx_X6_drop (σ : ST) (p0 : Int32) (p1 : Int32) (p2 : Int32) (Q : Int32 → ST → Prop) (X : Nat → ST → Prop) : Prop :=
  wp_X6_faultOfDrop σ p0 p1 p2 (fun r1 s1 => wx_X6_throwFor s1 r1 (fun s2 => wp_X5_push s2 (fun s3 => wp_X6_letterNumber s3 p0 p1 p2 (fun r2 s4 => wp_X4_dropLetter s4 r2 (fun r3 s5 => Q r3 s5)))) X)
def wx_X6_addTray (σ : ST)  (Q : Int32 → ST → Prop) (X : Nat → ST → Prop) : Prop :=
  wp_X6_faultOfAddTray σ (fun r1 s1 => wx_X6_throwFor s1 r1 (fun s2 => wp_X5_push s2 (fun s3 => wp_X4_openTray s3 (fun r2 s4 => Q r2 s4))) X)
def wx_X6_letter (σ : ST) (p0 : Int32) (p1 : Int32) (p2 : Int32) (p3 : Int32) (Q : Int32 → ST → Prop) (X : Nat → ST → Prop) : Prop :=
  wp_X6_faultOfLetter σ p0 p1 p2 (fun r1 s1 => wx_X6_throwFor s1 r1 (fun s2 => wp_X6_faultOfWhat s2 p3 (jI 9) (fun r2 s3 => wx_X6_throwFor s3 r2 (fun s4 => wp_X6_letterNumber s4 p0 p1 p2 (fun r3 s5 => wp_X4_letterValue s5 r3 p3 (fun r4 s6 => Q r4 s6))) X)) X)
def wx_X6_sign (σ : ST) (p0 : Int32) (p1 : Int32) (Q : Int32 → ST → Prop) (X : Nat → ST → Prop) : Prop :=
  wp_X6_isSign σ p0 (fun r1 s1 => ((r1 = (jI 0) → wx_X6_throwFor s1 (jI 1) (fun s2 => wp_X6_faultOfWhat s2 p1 (jI 4) (fun r2 s3 => wx_X6_throwFor s3 r2 (fun s4 => wp_X4_signValue s4 p0 p1 (fun r3 s5 => Q r3 s5)) X)) X) ∧ (¬ r1 = (jI 0) → wx_X6_throwFor s1 (jI 0) (fun s6 => wp_X6_faultOfWhat s6 p1 (jI 4) (fun r4 s7 => wx_X6_throwFor s7 r4 (fun s8 => wp_X4_signValue s8 p0 p1 (fun r5 s9 => Q r5 s9)) X)) X)))
def wx_X6_tray (σ : ST) (p0 : Int32) (p1 : Int32) (Q : Int32 → ST → Prop) (X : Nat → ST → Prop) : Prop :=
  wp_X6_isTray σ p0 (fun r1 s1 => ((r1 = (jI 0) → wx_X6_throwFor s1 (jI 1) (fun s2 => wp_X6_faultOfWhat s2 p1 (jI 4) (fun r2 s3 => wx_X6_throwFor s3 r2 (fun s4 => wp_X4_trayValue s4 p0 p1 (fun r3 s5 => Q r3 s5)) X)) X) ∧ (¬ r1 = (jI 0) → wx_X6_throwFor s1 (jI 0) (fun s6 => wp_X6_faultOfWhat s6 p1 (jI 4) (fun r4 s7 => wx_X6_throwFor s7 r4 (fun s8 => wp_X4_trayValue s8 p0 p1 (fun r5 s9 => Q r5 s9)) X)) X)))
def wx_X6_shelf (σ : ST) (p0 : Int32) (p1 : Int32) (p2 : Int32) (Q : Int32 → ST → Prop) (X : Nat → ST → Prop) : Prop :=
  wp_X6_isTray σ p0 (fun r1 s1 => ((r1 = (jI 0) → wx_X6_throwFor s1 (jI 1) (fun s2 => wp_X6_faultOfWhat s2 p2 (jI 7) (fun r2 s3 => wx_X6_throwFor s3 r2 (fun s4 => wp_X4_shelfValue s4 ((p0 * (jI 24)) + p1) p2 (fun r3 s5 => Q r3 s5)) X)) X) ∧ (¬ r1 = (jI 0) → wp_X6_isShelf s1 p0 p1 (fun r4 s6 => ((r4 = (jI 0) → wx_X6_throwFor s6 (jI 1) (fun s7 => wp_X6_faultOfWhat s7 p2 (jI 7) (fun r5 s8 => wx_X6_throwFor s8 r5 (fun s9 => wp_X4_shelfValue s9 ((p0 * (jI 24)) + p1) p2 (fun r6 s10 => Q r6 s10)) X)) X) ∧ (¬ r4 = (jI 0) → wx_X6_throwFor s6 (jI 0) (fun s11 => wp_X6_faultOfWhat s11 p2 (jI 7) (fun r7 s12 => wx_X6_throwFor s12 r7 (fun s13 => wp_X4_shelfValue s13 ((p0 * (jI 24)) + p1) p2 (fun r8 s14 => Q r8 s14)) X)) X))))))
def wx_X6_at (σ : ST) (p0 : Int32) (p1 : Int32) (p2 : Int32) (Q : Int32 → ST → Prop) (X : Nat → ST → Prop) : Prop :=
  wp_X6_isTray σ p0 (fun r1 s1 => ((r1 = (jI 0) → wx_X6_throwFor s1 (jI 1) (fun s2 => wp_X6_isBetween s2 p1 (jI 0) (jI 23) (fun r2 s3 => ((r2 = (jI 0) → wx_X6_throwFor s3 (jI 2) (fun s4 => wp_X4_letterAt s4 p0 p1 p2 (fun r3 s5 => wp_X6_codeOf s5 r3 (fun r4 s6 => Q r4 s6))) X) ∧ (¬ r2 = (jI 0) → wp_X6_isBetween s3 p2 (jI 0) (jI 23) (fun r5 s7 => ((r5 = (jI 0) → wx_X6_throwFor s7 (jI 2) (fun s8 => wp_X4_letterAt s8 p0 p1 p2 (fun r6 s9 => wp_X6_codeOf s9 r6 (fun r7 s10 => Q r7 s10))) X) ∧ (¬ r5 = (jI 0) → wx_X6_throwFor s7 (jI 0) (fun s11 => wp_X4_letterAt s11 p0 p1 p2 (fun r8 s12 => wp_X6_codeOf s12 r8 (fun r9 s13 => Q r9 s13))) X))))))) X) ∧ (¬ r1 = (jI 0) → wx_X6_throwFor s1 (jI 0) (fun s14 => wp_X6_isBetween s14 p1 (jI 0) (jI 23) (fun r10 s15 => ((r10 = (jI 0) → wx_X6_throwFor s15 (jI 2) (fun s16 => wp_X4_letterAt s16 p0 p1 p2 (fun r11 s17 => wp_X6_codeOf s17 r11 (fun r12 s18 => Q r12 s18))) X) ∧ (¬ r10 = (jI 0) → wp_X6_isBetween s15 p2 (jI 0) (jI 23) (fun r13 s19 => ((r13 = (jI 0) → wx_X6_throwFor s19 (jI 2) (fun s20 => wp_X4_letterAt s20 p0 p1 p2 (fun r14 s21 => wp_X6_codeOf s21 r14 (fun r15 s22 => Q r15 s22))) X) ∧ (¬ r13 = (jI 0) → wx_X6_throwFor s19 (jI 0) (fun s23 => wp_X4_letterAt s23 p0 p1 p2 (fun r16 s24 => wp_X6_codeOf s24 r16 (fun r17 s25 => Q r17 s25))) X))))))) X)))
def wx_X6_street (σ : ST) (p0 : Int32) (Q : Int32 → ST → Prop) (X : Nat → ST → Prop) : Prop :=
  ((p0 < (jI 0) → wx_X6_throwFor σ (jI 2) (fun s1 => wp_X4_letterOfStreet s1 p0 (fun r1 s2 => wp_X6_codeOf s2 r1 (fun r2 s3 => Q r2 s3))) X) ∧ (¬ p0 < (jI 0) → wx_X6_throwFor σ (jI 0) (fun s4 => wp_X4_letterOfStreet s4 p0 (fun r3 s5 => wp_X6_codeOf s5 r3 (fun r4 s6 => Q r4 s6))) X))
def wx_X6_whole (σ : ST) (p0 : Int32) (Q : Int32 → ST → Prop) (X : Nat → ST → Prop) : Prop :=
  wp_X6_faultOfWhat σ p0 (jI 13) (fun r1 s1 => wx_X6_throwFor s1 r1 (fun s2 => ((p0 = (jI 12) → Q (s2.2 42) s2) ∧ (¬ p0 = (jI 12) → wp_X4_wholeValue s2 p0 (fun r2 s3 => Q r2 s3)))) X)
def wx_X6_rule (σ : ST) (p0 : Int32) (p1 : Int32) (p2 : Int32) (Q : Int32 → ST → Prop) (X : Nat → ST → Prop) : Prop :=
  wp_X6_faultOfLetter σ p0 p1 p2 (fun r1 s1 => wx_X6_throwFor s1 r1 (fun s2 => wp_X6_letterNumber s2 p0 p1 p2 (fun r2 s3 => wp_X2_find s3 r2 (fun s4 => Q (s4.2 45) s4))) X)
def wx_X6_takenBy (σ : ST) (p0 : Int32) (p1 : Int32) (p2 : Int32) (Q : Int32 → ST → Prop) (X : Nat → ST → Prop) : Prop :=
  wp_X6_faultOfLetter σ p0 p1 p2 (fun r1 s1 => wx_X6_throwFor s1 r1 (fun s2 => wp_X6_letterNumber s2 p0 p1 p2 (fun r2 s3 => wp_X2_find s3 r2 (fun s4 => (((s4.2 45) = (jI (-1)) → Q (jI (-1)) s4) ∧ (¬ (s4.2 45) = (jI (-1)) → Q (s4.2 48) s4))))) X)
def wx_X6_costOf (σ : ST) (p0 : Int32) (p1 : Int32) (p2 : Int32) (Q : Int32 → ST → Prop) (X : Nat → ST → Prop) : Prop :=
  wp_X6_faultOfLetter σ p0 p1 p2 (fun r1 s1 => wx_X6_throwFor s1 r1 (fun s2 => wp_X6_letterNumber s2 p0 p1 p2 (fun r2 s3 => wp_X2_find s3 r2 (fun s4 => (((s4.2 45) = (jI (-1)) → Q (jI (-1)) s4) ∧ (¬ (s4.2 45) = (jI (-1)) → (((s4.2 45) = (jI 0) → Q (jI 0) s4) ∧ (¬ (s4.2 45) = (jI 0) → wp_X4_inkFor s4 r2 (fun r3 s5 => Q r3 s5)))))))) X)
def wx_X6_type (σ : ST) (p0 : Int32) (Q : Int32 → ST → Prop) (X : Nat → ST → Prop) : Prop :=
  wp_X6_isBetween σ p0 (jI 0) (jI 127) (fun r1 s1 => ((r1 = (jI 0) → wx_X6_throwFor s1 (jI 2) (fun s2 => (((jI 150) ≤ (s2.2 42) → wx_X6_throwFor s2 (jI 3) (fun s3 => wp_X0_append s3 p0 (fun r2 s4 => Q r2 s4)) X) ∧ (¬ (jI 150) ≤ (s2.2 42) → wx_X6_throwFor s2 (jI 0) (fun s5 => wp_X0_append s5 p0 (fun r3 s6 => Q r3 s6)) X))) X) ∧ (¬ r1 = (jI 0) → wx_X6_throwFor s1 (jI 0) (fun s7 => (((jI 150) ≤ (s7.2 42) → wx_X6_throwFor s7 (jI 3) (fun s8 => wp_X0_append s8 p0 (fun r4 s9 => Q r4 s9)) X) ∧ (¬ (jI 150) ≤ (s7.2 42) → wx_X6_throwFor s7 (jI 0) (fun s10 => wp_X0_append s10 p0 (fun r5 s11 => Q r5 s11)) X))) X)))
def wx_X6_undo (σ : ST)  (Q : Int32 → ST → Prop) (X : Nat → ST → Prop) : Prop :=
  (((σ.2 41) ≤ (jI 0) → wx_X6_throwFor σ (jI 3) (fun s1 => wp_X5_popInto s1 (fun s2 => Q (s2.2 41) s2)) X) ∧ (¬ (σ.2 41) ≤ (jI 0) → wx_X6_throwFor σ (jI 0) (fun s3 => wp_X5_popInto s3 (fun s4 => Q (s4.2 41) s4)) X))
set_option maxHeartbeats 4000000 in
set_option maxRecDepth 100000 in
theorem t_X6_cut (l : Launch) (hlt : l.stackTraces = false) (D : va_G) (cy : cyT) (ad : Nat → Nat) (AL : Nat → Prop) (sa : Nat → Nat) (sz : Nat) (σ : ST) (p0 : Int32) (p1 : Int32) (p2 : Int32) {Q : Int32 → ST → Prop} {X : Nat → ST → Prop} (h : wx_X6_cut σ p0 p1 p2 Q X) : vx_Met l yX6_cut wsX6_cut ({ frames := 7, cells := 1, slots := 6, locals := 110 } : Room) (xPre D cy 116 (zce cy ad σ) ad AL sa sz [.ref (ad 0), .int p0, .int p1, .int p2]) (va_Qi Q (zB D 116 (zce cy ad) ad) (zAn 116 ad sz)) (zXC D 116 (zce cy ad) ad X (zAn 116 ad sz)) 1 6 (zAn 116 ad sz) := by
  refine vx_ofW (cc := cX6_cut) (maxL := 4) (ret := (some .int)) (by decide) rfl ?_
  intro p e s m args below meth c s₁ B hml htab hv
  obtain ⟨rfl, hsz, hj, hK, hw, hX, hAL⟩ := hv
  subst hsz
  have hx := B.exec
  have hb := B.bytes
  have hr := B.returns
  have hts := atoms_spec (ws := wsX6_cut) B.pre
  have hown : s.vm.findClass RX6 = some m.cls := findClass_of_methodNamed B.named
  have hlocks := B.notSynchronized
  have lk0 : Cond.fieldLink RX6 19 "TypeTrays" "undoStack" "LTypeTrays$UndoStack;" ∈ wsX6_cut := List.mem_of_getElem? (i := 1) rfl
  have lk1 : Cond.fieldLink RX6 12 "TypeTrays" "state" "LTypeTrays$State;" ∈ wsX6_cut := List.mem_of_getElem? (i := 2) rfl
  have inX6 : ∀ w ∈ u_ws RX6 TX6 4, w ∈ wsX6_cut := zin_at 91 rfl
  have hS : va_S (zAn 116 ad s.heap.size) s.heap s.heap [] := va_S.rf
  have hA : ∀ i, i < 116 → zAn 116 ad s.heap.size (ad i) := fun i hi => Or.inl ⟨i, hi, rfl⟩
  have hl := lv_entry ([.ref (ad 0), .int p0, .int p1, .int p2]) (n := 4) (Nat.le_of_ble_eq_true rfl)
  rw [lg_entry_eq]
  generalize (lg_sl ([.ref (ad 0), .int p0, .int p1, .int p2]) ++ List.replicate (4 - (lg_sl ([.ref (ad 0), .int p0, .int p1, .int p2])).length) Slot.unset).toArray = ls at hl ⊢
  have hl : lv_has ls 4 [(0, .ref (ad 0)), (1, .int p0), (2, .int p1), (3, .int p2)] := hl
  show W p l e ({ frames := 7, cells := 1, slots := 6, locals := 110 } : Room) s m ([.ref (ad 0), .int p0, .int p1, .int p2] : List Value).toArray below meth c s.heap [] 0 0 (vx_MQ below (va_Qi Q (zB D 116 (zce cy ad) ad) (zAn 116 ad s.heap.size)) (zXC D 116 (zce cy ad) ad X (zAn 116 ad s.heap.size)) ([.ref (ad 0), .int p0, .int p1, .int p2] : List Value).toArray s 1 6 (zAn 116 ad s.heap.size)) (F0 m 0 ls [])
  unfold wx_X6_cut at h
  refine lv_iload_n hx hb dX6_cut_0 rfl (lv_at hl 1 rfl) ?_
  refine lv_iload_n hx hb dX6_cut_1 rfl (lv_at hl 2 rfl) ?_
  refine lv_iload_n hx hb dX6_cut_2 rfl (lv_at hl 3 rfl) ?_
  refine k_X6_faultOfCut (rest := []) hx hb hml hown hts gX6_cut_X6_faultOfCut ⟨Nat.le_of_ble_eq_true rfl, Nat.le_of_ble_eq_true rfl⟩ ⟨Nat.le_of_ble_eq_true rfl, Nat.le_of_ble_eq_true rfl⟩ hK hj hw hA hS hl.1 (Nat.le_of_ble_eq_true rfl) dX6_cut_3 h (fun r1 s1 H locs h hw hS => ?_)
  refine zthrow (rest := []) hx hb hml hown hts hlt gX6_cut_X6_throwFor ⟨Nat.le_of_ble_eq_true rfl, Nat.le_of_ble_eq_true rfl⟩ ⟨Nat.le_of_ble_eq_true rfl, Nat.le_of_ble_eq_true rfl⟩ hK hj hw hX hAL hS hl.1 (Nat.le_of_ble_eq_true rfl) dX6_cut_6 htab hlocks (Nat.le_of_ble_eq_true rfl) (Nat.le_of_ble_eq_true rfl) h (fun s2 H locs h hw hS => ?_)
  refine lv_aload_n hx hb dX6_cut_9 rfl (lv_at hl 0 rfl) ?_
  refine zget hx hb hts inX6 hown hK hw 0 (by decide) rfl rfl 1 (by decide) lk0 (fun _ h9 => h9) rfl dX6_cut_10 ?_
  refine lv_aload_n hx hb dX6_cut_13 rfl (lv_at hl 0 rfl) ?_
  refine zget hx hb hts inX6 hown hK hw 0 (by decide) rfl rfl 0 (by decide) lk1 (fun _ h9 => h9) rfl dX6_cut_14 ?_
  refine k_X5_push (rest := []) hx hb hml hown hts gX6_cut_X5_push ⟨Nat.le_of_ble_eq_true rfl, Nat.le_of_ble_eq_true rfl⟩ ⟨Nat.le_of_ble_eq_true rfl, Nat.le_of_ble_eq_true rfl⟩ hK hj hw hA hS hl.1 (Nat.le_of_ble_eq_true rfl) dX6_cut_17 h (fun s3 H locs h hw hS => ?_)
  refine lv_aload_n hx hb dX6_cut_20 rfl (lv_at hl 0 rfl) ?_
  refine zget hx hb hts inX6 hown hK hw 0 (by decide) rfl rfl 0 (by decide) lk1 (fun _ h9 => h9) rfl dX6_cut_21 ?_
  refine lv_iload_n hx hb dX6_cut_24 rfl (lv_at hl 1 rfl) ?_
  refine lv_iload_n hx hb dX6_cut_25 rfl (lv_at hl 2 rfl) ?_
  refine lv_iload_n hx hb dX6_cut_26 rfl (lv_at hl 3 rfl) ?_
  refine k_X4_cutSign (rest := []) hx hb hml hown hts gX6_cut_X4_cutSign ⟨Nat.le_of_ble_eq_true rfl, Nat.le_of_ble_eq_true rfl⟩ ⟨Nat.le_of_ble_eq_true rfl, Nat.le_of_ble_eq_true rfl⟩ hK hj hw hA hS hl.1 (Nat.le_of_ble_eq_true rfl) dX6_cut_27 h (fun r2 s4 H locs h hw hS => ?_)
  refine vx_ret (W.widen (k := 1) (n := 6) (Nat.le_of_ble_eq_true rfl) (Nat.le_of_ble_eq_true rfl) ?_)
  exact W.iret (v := r2) hx hb hr (fun t ht hW => ⟨⟨_, _, rfl, h, zend hw ht⟩, hS.F ht⟩) hS.2.2 dX6_cut_30
set_option maxHeartbeats 4000000 in
set_option maxRecDepth 100000 in
theorem t_X6_use (l : Launch) (hlt : l.stackTraces = false) (D : va_G) (cy : cyT) (ad : Nat → Nat) (AL : Nat → Prop) (sa : Nat → Nat) (sz : Nat) (σ : ST) (p0 : Int32) (p1 : Int32) (p2 : Int32) {Q : Int32 → ST → Prop} {X : Nat → ST → Prop} (h : wx_X6_use σ p0 p1 p2 Q X) : vx_Met l yX6_use wsX6_use ({ frames := 7, cells := 1, slots := 6, locals := 137 } : Room) (xPre D cy 116 (zce cy ad σ) ad AL sa sz [.ref (ad 0), .int p0, .int p1, .int p2]) (va_Qi Q (zB D 116 (zce cy ad) ad) (zAn 116 ad sz)) (zXC D 116 (zce cy ad) ad X (zAn 116 ad sz)) 1 6 (zAn 116 ad sz) := by
  refine vx_ofW (cc := cX6_use) (maxL := 4) (ret := (some .int)) (by decide) rfl ?_
  intro p e s m args below meth c s₁ B hml htab hv
  obtain ⟨rfl, hsz, hj, hK, hw, hX, hAL⟩ := hv
  subst hsz
  have hx := B.exec
  have hb := B.bytes
  have hr := B.returns
  have hts := atoms_spec (ws := wsX6_use) B.pre
  have hown : s.vm.findClass RX6 = some m.cls := findClass_of_methodNamed B.named
  have hlocks := B.notSynchronized
  have lk0 : Cond.fieldLink RX6 19 "TypeTrays" "undoStack" "LTypeTrays$UndoStack;" ∈ wsX6_use := List.mem_of_getElem? (i := 1) rfl
  have lk1 : Cond.fieldLink RX6 12 "TypeTrays" "state" "LTypeTrays$State;" ∈ wsX6_use := List.mem_of_getElem? (i := 2) rfl
  have lk2 : Cond.fieldLink RX6 33 "TypeTrays" "place" "LTypeTrays$Place;" ∈ wsX6_use := List.mem_of_getElem? (i := 3) rfl
  have inX6 : ∀ w ∈ u_ws RX6 TX6 4, w ∈ wsX6_use := zin_at 220 rfl
  have inX2 : ∀ w ∈ u_ws RX2 TX2 5, w ∈ wsX6_use := zin_at 224 rfl
  have hS : va_S (zAn 116 ad s.heap.size) s.heap s.heap [] := va_S.rf
  have hA : ∀ i, i < 116 → zAn 116 ad s.heap.size (ad i) := fun i hi => Or.inl ⟨i, hi, rfl⟩
  have hl := lv_entry ([.ref (ad 0), .int p0, .int p1, .int p2]) (n := 4) (Nat.le_of_ble_eq_true rfl)
  rw [lg_entry_eq]
  generalize (lg_sl ([.ref (ad 0), .int p0, .int p1, .int p2]) ++ List.replicate (4 - (lg_sl ([.ref (ad 0), .int p0, .int p1, .int p2])).length) Slot.unset).toArray = ls at hl ⊢
  have hl : lv_has ls 4 [(0, .ref (ad 0)), (1, .int p0), (2, .int p1), (3, .int p2)] := hl
  show W p l e ({ frames := 7, cells := 1, slots := 6, locals := 137 } : Room) s m ([.ref (ad 0), .int p0, .int p1, .int p2] : List Value).toArray below meth c s.heap [] 0 0 (vx_MQ below (va_Qi Q (zB D 116 (zce cy ad) ad) (zAn 116 ad s.heap.size)) (zXC D 116 (zce cy ad) ad X (zAn 116 ad s.heap.size)) ([.ref (ad 0), .int p0, .int p1, .int p2] : List Value).toArray s 1 6 (zAn 116 ad s.heap.size)) (F0 m 0 ls [])
  unfold wx_X6_use at h
  refine lv_aload_n hx hb dX6_use_0 rfl (lv_at hl 0 rfl) ?_
  refine lv_iload_n hx hb dX6_use_1 rfl (lv_at hl 1 rfl) ?_
  refine lv_iload_n hx hb dX6_use_2 rfl (lv_at hl 2 rfl) ?_
  refine lv_iload_n hx hb dX6_use_3 rfl (lv_at hl 3 rfl) ?_
  refine k_X6_faultOfUse (rest := []) hx hb hml hown hts gX6_use_X6_faultOfUse ⟨Nat.le_of_ble_eq_true rfl, Nat.le_of_ble_eq_true rfl⟩ ⟨Nat.le_of_ble_eq_true rfl, Nat.le_of_ble_eq_true rfl⟩ hK hj hw hA hS hl.1 (Nat.le_of_ble_eq_true rfl) dX6_use_4 h (fun r1 s1 H locs h hw hS => ?_)
  refine zthrow (rest := []) hx hb hml hown hts hlt gX6_use_X6_throwFor ⟨Nat.le_of_ble_eq_true rfl, Nat.le_of_ble_eq_true rfl⟩ ⟨Nat.le_of_ble_eq_true rfl, Nat.le_of_ble_eq_true rfl⟩ hK hj hw hX hAL hS hl.1 (Nat.le_of_ble_eq_true rfl) dX6_use_7 htab hlocks (Nat.le_of_ble_eq_true rfl) (Nat.le_of_ble_eq_true rfl) h (fun s2 H locs h hw hS => ?_)
  refine lv_aload_n hx hb dX6_use_10 rfl (lv_at hl 0 rfl) ?_
  refine zget hx hb hts inX6 hown hK hw 0 (by decide) rfl rfl 1 (by decide) lk0 (fun _ h9 => h9) rfl dX6_use_11 ?_
  refine lv_aload_n hx hb dX6_use_14 rfl (lv_at hl 0 rfl) ?_
  refine zget hx hb hts inX6 hown hK hw 0 (by decide) rfl rfl 0 (by decide) lk1 (fun _ h9 => h9) rfl dX6_use_15 ?_
  refine k_X5_push (rest := []) hx hb hml hown hts gX6_use_X5_push ⟨Nat.le_of_ble_eq_true rfl, Nat.le_of_ble_eq_true rfl⟩ ⟨Nat.le_of_ble_eq_true rfl, Nat.le_of_ble_eq_true rfl⟩ hK hj hw hA hS hl.1 (Nat.le_of_ble_eq_true rfl) dX6_use_18 h (fun s3 H locs h hw hS => ?_)
  refine lv_aload_n hx hb dX6_use_21 rfl (lv_at hl 0 rfl) ?_
  refine zget hx hb hts inX6 hown hK hw 0 (by decide) rfl rfl 0 (by decide) lk1 (fun _ h9 => h9) rfl dX6_use_22 ?_
  refine lv_iload_n hx hb dX6_use_25 rfl (lv_at hl 1 rfl) ?_
  refine lv_iload_n hx hb dX6_use_26 rfl (lv_at hl 2 rfl) ?_
  refine lv_iload_n hx hb dX6_use_27 rfl (lv_at hl 3 rfl) ?_
  refine k_X6_letterNumber (rest := [.ref (ad 5)]) hx hb hml hown hts gX6_use_X6_letterNumber ⟨Nat.le_of_ble_eq_true rfl, Nat.le_of_ble_eq_true rfl⟩ ⟨Nat.le_of_ble_eq_true rfl, Nat.le_of_ble_eq_true rfl⟩ hK hj hw hA hS hl.1 (Nat.le_of_ble_eq_true rfl) dX6_use_28 h (fun r2 s4 H locs h hw hS => ?_)
  refine lv_aload_n hx hb dX6_use_31 rfl (lv_at hl 0 rfl) ?_
  refine zget hx hb hts inX6 hown hK hw 0 (by decide) rfl rfl 3 (by decide) lk2 (fun _ h9 => h9) rfl dX6_use_32 ?_
  refine k_X4_useLetter (rest := []) hx hb hml hown hts gX6_use_X4_useLetter ⟨Nat.le_of_ble_eq_true rfl, Nat.le_of_ble_eq_true rfl⟩ ⟨Nat.le_of_ble_eq_true rfl, Nat.le_of_ble_eq_true rfl⟩ hK hj hw hA hS hl.1 (Nat.le_of_ble_eq_true rfl) dX6_use_35 h (fun s5 H locs h hw hS => ?_)
  refine lv_aload_n hx hb dX6_use_38 rfl (lv_at hl 0 rfl) ?_
  refine zget hx hb hts inX6 hown hK hw 0 (by decide) rfl rfl 3 (by decide) lk2 (fun _ h9 => h9) rfl dX6_use_39 ?_
  refine zgetN (own := RX6) (index := 62) (host := "TypeTrays") hx hb hts inX2 hown hK hw 4 (by decide) rfl rfl 0 (by decide) (by decide +kernel) (fun _ h9 => h9) rfl dX6_use_42 ?_
  refine vx_ret (W.widen (k := 1) (n := 6) (Nat.le_of_ble_eq_true rfl) (Nat.le_of_ble_eq_true rfl) ?_)
  exact W.iret (v := (s5.2 45)) hx hb hr (fun t ht hW => ⟨⟨_, _, rfl, h, zend hw ht⟩, hS.F ht⟩) hS.2.2 dX6_use_45
set_option maxHeartbeats 4000000 in
set_option maxRecDepth 100000 in
theorem t_X6_drop (l : Launch) (hlt : l.stackTraces = false) (D : va_G) (cy : cyT) (ad : Nat → Nat) (AL : Nat → Prop) (sa : Nat → Nat) (sz : Nat) (σ : ST) (p0 : Int32) (p1 : Int32) (p2 : Int32) {Q : Int32 → ST → Prop} {X : Nat → ST → Prop} (h : wx_X6_drop σ p0 p1 p2 Q X) : vx_Met l yX6_drop wsX6_drop ({ frames := 7, cells := 1, slots := 6, locals := 110 } : Room) (xPre D cy 116 (zce cy ad σ) ad AL sa sz [.ref (ad 0), .int p0, .int p1, .int p2]) (va_Qi Q (zB D 116 (zce cy ad) ad) (zAn 116 ad sz)) (zXC D 116 (zce cy ad) ad X (zAn 116 ad sz)) 1 6 (zAn 116 ad sz) := by
  refine vx_ofW (cc := cX6_drop) (maxL := 4) (ret := (some .int)) (by decide) rfl ?_
  intro p e s m args below meth c s₁ B hml htab hv
  obtain ⟨rfl, hsz, hj, hK, hw, hX, hAL⟩ := hv
  subst hsz
  have hx := B.exec
  have hb := B.bytes
  have hr := B.returns
  have hts := atoms_spec (ws := wsX6_drop) B.pre
  have hown : s.vm.findClass RX6 = some m.cls := findClass_of_methodNamed B.named
  have hlocks := B.notSynchronized
  have lk0 : Cond.fieldLink RX6 19 "TypeTrays" "undoStack" "LTypeTrays$UndoStack;" ∈ wsX6_drop := List.mem_of_getElem? (i := 1) rfl
  have lk1 : Cond.fieldLink RX6 12 "TypeTrays" "state" "LTypeTrays$State;" ∈ wsX6_drop := List.mem_of_getElem? (i := 2) rfl
  have inX6 : ∀ w ∈ u_ws RX6 TX6 4, w ∈ wsX6_drop := zin_at 98 rfl
  have hS : va_S (zAn 116 ad s.heap.size) s.heap s.heap [] := va_S.rf
  have hA : ∀ i, i < 116 → zAn 116 ad s.heap.size (ad i) := fun i hi => Or.inl ⟨i, hi, rfl⟩
  have hl := lv_entry ([.ref (ad 0), .int p0, .int p1, .int p2]) (n := 4) (Nat.le_of_ble_eq_true rfl)
  rw [lg_entry_eq]
  generalize (lg_sl ([.ref (ad 0), .int p0, .int p1, .int p2]) ++ List.replicate (4 - (lg_sl ([.ref (ad 0), .int p0, .int p1, .int p2])).length) Slot.unset).toArray = ls at hl ⊢
  have hl : lv_has ls 4 [(0, .ref (ad 0)), (1, .int p0), (2, .int p1), (3, .int p2)] := hl
  show W p l e ({ frames := 7, cells := 1, slots := 6, locals := 110 } : Room) s m ([.ref (ad 0), .int p0, .int p1, .int p2] : List Value).toArray below meth c s.heap [] 0 0 (vx_MQ below (va_Qi Q (zB D 116 (zce cy ad) ad) (zAn 116 ad s.heap.size)) (zXC D 116 (zce cy ad) ad X (zAn 116 ad s.heap.size)) ([.ref (ad 0), .int p0, .int p1, .int p2] : List Value).toArray s 1 6 (zAn 116 ad s.heap.size)) (F0 m 0 ls [])
  unfold wx_X6_drop at h
  refine lv_aload_n hx hb dX6_drop_0 rfl (lv_at hl 0 rfl) ?_
  refine lv_iload_n hx hb dX6_drop_1 rfl (lv_at hl 1 rfl) ?_
  refine lv_iload_n hx hb dX6_drop_2 rfl (lv_at hl 2 rfl) ?_
  refine lv_iload_n hx hb dX6_drop_3 rfl (lv_at hl 3 rfl) ?_
  refine k_X6_faultOfDrop (rest := []) hx hb hml hown hts gX6_drop_X6_faultOfDrop ⟨Nat.le_of_ble_eq_true rfl, Nat.le_of_ble_eq_true rfl⟩ ⟨Nat.le_of_ble_eq_true rfl, Nat.le_of_ble_eq_true rfl⟩ hK hj hw hA hS hl.1 (Nat.le_of_ble_eq_true rfl) dX6_drop_4 h (fun r1 s1 H locs h hw hS => ?_)
  refine zthrow (rest := []) hx hb hml hown hts hlt gX6_drop_X6_throwFor ⟨Nat.le_of_ble_eq_true rfl, Nat.le_of_ble_eq_true rfl⟩ ⟨Nat.le_of_ble_eq_true rfl, Nat.le_of_ble_eq_true rfl⟩ hK hj hw hX hAL hS hl.1 (Nat.le_of_ble_eq_true rfl) dX6_drop_7 htab hlocks (Nat.le_of_ble_eq_true rfl) (Nat.le_of_ble_eq_true rfl) h (fun s2 H locs h hw hS => ?_)
  refine lv_aload_n hx hb dX6_drop_10 rfl (lv_at hl 0 rfl) ?_
  refine zget hx hb hts inX6 hown hK hw 0 (by decide) rfl rfl 1 (by decide) lk0 (fun _ h9 => h9) rfl dX6_drop_11 ?_
  refine lv_aload_n hx hb dX6_drop_14 rfl (lv_at hl 0 rfl) ?_
  refine zget hx hb hts inX6 hown hK hw 0 (by decide) rfl rfl 0 (by decide) lk1 (fun _ h9 => h9) rfl dX6_drop_15 ?_
  refine k_X5_push (rest := []) hx hb hml hown hts gX6_drop_X5_push ⟨Nat.le_of_ble_eq_true rfl, Nat.le_of_ble_eq_true rfl⟩ ⟨Nat.le_of_ble_eq_true rfl, Nat.le_of_ble_eq_true rfl⟩ hK hj hw hA hS hl.1 (Nat.le_of_ble_eq_true rfl) dX6_drop_18 h (fun s3 H locs h hw hS => ?_)
  refine lv_aload_n hx hb dX6_drop_21 rfl (lv_at hl 0 rfl) ?_
  refine zget hx hb hts inX6 hown hK hw 0 (by decide) rfl rfl 0 (by decide) lk1 (fun _ h9 => h9) rfl dX6_drop_22 ?_
  refine lv_iload_n hx hb dX6_drop_25 rfl (lv_at hl 1 rfl) ?_
  refine lv_iload_n hx hb dX6_drop_26 rfl (lv_at hl 2 rfl) ?_
  refine lv_iload_n hx hb dX6_drop_27 rfl (lv_at hl 3 rfl) ?_
  refine k_X6_letterNumber (rest := [.ref (ad 5)]) hx hb hml hown hts gX6_drop_X6_letterNumber ⟨Nat.le_of_ble_eq_true rfl, Nat.le_of_ble_eq_true rfl⟩ ⟨Nat.le_of_ble_eq_true rfl, Nat.le_of_ble_eq_true rfl⟩ hK hj hw hA hS hl.1 (Nat.le_of_ble_eq_true rfl) dX6_drop_28 h (fun r2 s4 H locs h hw hS => ?_)
  refine k_X4_dropLetter (rest := []) hx hb hml hown hts gX6_drop_X4_dropLetter ⟨Nat.le_of_ble_eq_true rfl, Nat.le_of_ble_eq_true rfl⟩ ⟨Nat.le_of_ble_eq_true rfl, Nat.le_of_ble_eq_true rfl⟩ hK hj hw hA hS hl.1 (Nat.le_of_ble_eq_true rfl) dX6_drop_31 h (fun r3 s5 H locs h hw hS => ?_)
  refine vx_ret (W.widen (k := 1) (n := 6) (Nat.le_of_ble_eq_true rfl) (Nat.le_of_ble_eq_true rfl) ?_)
  exact W.iret (v := r3) hx hb hr (fun t ht hW => ⟨⟨_, _, rfl, h, zend hw ht⟩, hS.F ht⟩) hS.2.2 dX6_drop_34
set_option maxHeartbeats 4000000 in
set_option maxRecDepth 100000 in
theorem t_X6_addTray (l : Launch) (hlt : l.stackTraces = false) (D : va_G) (cy : cyT) (ad : Nat → Nat) (AL : Nat → Prop) (sa : Nat → Nat) (sz : Nat) (σ : ST) {Q : Int32 → ST → Prop} {X : Nat → ST → Prop} (h : wx_X6_addTray σ Q X) : vx_Met l yX6_addTray wsX6_addTray ({ frames := 7, cells := 1, slots := 6, locals := 110 } : Room) (xPre D cy 116 (zce cy ad σ) ad AL sa sz [.ref (ad 0)]) (va_Qi Q (zB D 116 (zce cy ad) ad) (zAn 116 ad sz)) (zXC D 116 (zce cy ad) ad X (zAn 116 ad sz)) 1 6 (zAn 116 ad sz) := by
  refine vx_ofW (cc := cX6_addTray) (maxL := 1) (ret := (some .int)) (by decide) rfl ?_
  intro p e s m args below meth c s₁ B hml htab hv
  obtain ⟨rfl, hsz, hj, hK, hw, hX, hAL⟩ := hv
  subst hsz
  have hx := B.exec
  have hb := B.bytes
  have hr := B.returns
  have hts := atoms_spec (ws := wsX6_addTray) B.pre
  have hown : s.vm.findClass RX6 = some m.cls := findClass_of_methodNamed B.named
  have hlocks := B.notSynchronized
  have lk0 : Cond.fieldLink RX6 19 "TypeTrays" "undoStack" "LTypeTrays$UndoStack;" ∈ wsX6_addTray := List.mem_of_getElem? (i := 1) rfl
  have lk1 : Cond.fieldLink RX6 12 "TypeTrays" "state" "LTypeTrays$State;" ∈ wsX6_addTray := List.mem_of_getElem? (i := 2) rfl
  have inX6 : ∀ w ∈ u_ws RX6 TX6 4, w ∈ wsX6_addTray := zin_at 70 rfl
  have hS : va_S (zAn 116 ad s.heap.size) s.heap s.heap [] := va_S.rf
  have hA : ∀ i, i < 116 → zAn 116 ad s.heap.size (ad i) := fun i hi => Or.inl ⟨i, hi, rfl⟩
  have hl := lv_entry ([.ref (ad 0)]) (n := 1) (Nat.le_of_ble_eq_true rfl)
  rw [lg_entry_eq]
  generalize (lg_sl ([.ref (ad 0)]) ++ List.replicate (1 - (lg_sl ([.ref (ad 0)])).length) Slot.unset).toArray = ls at hl ⊢
  have hl : lv_has ls 1 [(0, .ref (ad 0))] := hl
  show W p l e ({ frames := 7, cells := 1, slots := 6, locals := 110 } : Room) s m ([.ref (ad 0)] : List Value).toArray below meth c s.heap [] 0 0 (vx_MQ below (va_Qi Q (zB D 116 (zce cy ad) ad) (zAn 116 ad s.heap.size)) (zXC D 116 (zce cy ad) ad X (zAn 116 ad s.heap.size)) ([.ref (ad 0)] : List Value).toArray s 1 6 (zAn 116 ad s.heap.size)) (F0 m 0 ls [])
  unfold wx_X6_addTray at h
  refine lv_aload_n hx hb dX6_addTray_0 rfl (lv_at hl 0 rfl) ?_
  refine k_X6_faultOfAddTray (rest := []) hx hb hml hown hts gX6_addTray_X6_faultOfAddTray ⟨Nat.le_of_ble_eq_true rfl, Nat.le_of_ble_eq_true rfl⟩ ⟨Nat.le_of_ble_eq_true rfl, Nat.le_of_ble_eq_true rfl⟩ hK hj hw hA hS hl.1 (Nat.le_of_ble_eq_true rfl) dX6_addTray_1 h (fun r1 s1 H locs h hw hS => ?_)
  refine zthrow (rest := []) hx hb hml hown hts hlt gX6_addTray_X6_throwFor ⟨Nat.le_of_ble_eq_true rfl, Nat.le_of_ble_eq_true rfl⟩ ⟨Nat.le_of_ble_eq_true rfl, Nat.le_of_ble_eq_true rfl⟩ hK hj hw hX hAL hS hl.1 (Nat.le_of_ble_eq_true rfl) dX6_addTray_4 htab hlocks (Nat.le_of_ble_eq_true rfl) (Nat.le_of_ble_eq_true rfl) h (fun s2 H locs h hw hS => ?_)
  refine lv_aload_n hx hb dX6_addTray_7 rfl (lv_at hl 0 rfl) ?_
  refine zget hx hb hts inX6 hown hK hw 0 (by decide) rfl rfl 1 (by decide) lk0 (fun _ h9 => h9) rfl dX6_addTray_8 ?_
  refine lv_aload_n hx hb dX6_addTray_11 rfl (lv_at hl 0 rfl) ?_
  refine zget hx hb hts inX6 hown hK hw 0 (by decide) rfl rfl 0 (by decide) lk1 (fun _ h9 => h9) rfl dX6_addTray_12 ?_
  refine k_X5_push (rest := []) hx hb hml hown hts gX6_addTray_X5_push ⟨Nat.le_of_ble_eq_true rfl, Nat.le_of_ble_eq_true rfl⟩ ⟨Nat.le_of_ble_eq_true rfl, Nat.le_of_ble_eq_true rfl⟩ hK hj hw hA hS hl.1 (Nat.le_of_ble_eq_true rfl) dX6_addTray_15 h (fun s3 H locs h hw hS => ?_)
  refine lv_aload_n hx hb dX6_addTray_18 rfl (lv_at hl 0 rfl) ?_
  refine zget hx hb hts inX6 hown hK hw 0 (by decide) rfl rfl 0 (by decide) lk1 (fun _ h9 => h9) rfl dX6_addTray_19 ?_
  refine k_X4_openTray (rest := []) hx hb hml hown hts gX6_addTray_X4_openTray ⟨Nat.le_of_ble_eq_true rfl, Nat.le_of_ble_eq_true rfl⟩ ⟨Nat.le_of_ble_eq_true rfl, Nat.le_of_ble_eq_true rfl⟩ hK hj hw hA hS hl.1 (Nat.le_of_ble_eq_true rfl) dX6_addTray_22 h (fun r2 s4 H locs h hw hS => ?_)
  refine vx_ret (W.widen (k := 1) (n := 6) (Nat.le_of_ble_eq_true rfl) (Nat.le_of_ble_eq_true rfl) ?_)
  exact W.iret (v := r2) hx hb hr (fun t ht hW => ⟨⟨_, _, rfl, h, zend hw ht⟩, hS.F ht⟩) hS.2.2 dX6_addTray_25
set_option maxHeartbeats 4000000 in
set_option maxRecDepth 100000 in
theorem t_X6_letter (l : Launch) (hlt : l.stackTraces = false) (D : va_G) (cy : cyT) (ad : Nat → Nat) (AL : Nat → Prop) (sa : Nat → Nat) (sz : Nat) (σ : ST) (p0 : Int32) (p1 : Int32) (p2 : Int32) (p3 : Int32) {Q : Int32 → ST → Prop} {X : Nat → ST → Prop} (h : wx_X6_letter σ p0 p1 p2 p3 Q X) : vx_Met l yX6_letter wsX6_letter ({ frames := 7, cells := 2, slots := 12, locals := 110 } : Room) (xPre D cy 116 (zce cy ad σ) ad AL sa sz [.ref (ad 0), .int p0, .int p1, .int p2, .int p3]) (va_Qi Q (zB D 116 (zce cy ad) ad) (zAn 116 ad sz)) (zXC D 116 (zce cy ad) ad X (zAn 116 ad sz)) 2 12 (zAn 116 ad sz) := by
  refine vx_ofW (cc := cX6_letter) (maxL := 5) (ret := (some .int)) (by decide) rfl ?_
  intro p e s m args below meth c s₁ B hml htab hv
  obtain ⟨rfl, hsz, hj, hK, hw, hX, hAL⟩ := hv
  subst hsz
  have hx := B.exec
  have hb := B.bytes
  have hr := B.returns
  have hts := atoms_spec (ws := wsX6_letter) B.pre
  have hown : s.vm.findClass RX6 = some m.cls := findClass_of_methodNamed B.named
  have hlocks := B.notSynchronized
  have lk0 : Cond.fieldLink RX6 12 "TypeTrays" "state" "LTypeTrays$State;" ∈ wsX6_letter := List.mem_of_getElem? (i := 1) rfl
  have inX6 : ∀ w ∈ u_ws RX6 TX6 4, w ∈ wsX6_letter := zin_at 76 rfl
  have hS : va_S (zAn 116 ad s.heap.size) s.heap s.heap [] := va_S.rf
  have hA : ∀ i, i < 116 → zAn 116 ad s.heap.size (ad i) := fun i hi => Or.inl ⟨i, hi, rfl⟩
  have hl := lv_entry ([.ref (ad 0), .int p0, .int p1, .int p2, .int p3]) (n := 5) (Nat.le_of_ble_eq_true rfl)
  rw [lg_entry_eq]
  generalize (lg_sl ([.ref (ad 0), .int p0, .int p1, .int p2, .int p3]) ++ List.replicate (5 - (lg_sl ([.ref (ad 0), .int p0, .int p1, .int p2, .int p3])).length) Slot.unset).toArray = ls at hl ⊢
  have hl : lv_has ls 5 [(0, .ref (ad 0)), (1, .int p0), (2, .int p1), (3, .int p2), (4, .int p3)] := hl
  show W p l e ({ frames := 7, cells := 2, slots := 12, locals := 110 } : Room) s m ([.ref (ad 0), .int p0, .int p1, .int p2, .int p3] : List Value).toArray below meth c s.heap [] 0 0 (vx_MQ below (va_Qi Q (zB D 116 (zce cy ad) ad) (zAn 116 ad s.heap.size)) (zXC D 116 (zce cy ad) ad X (zAn 116 ad s.heap.size)) ([.ref (ad 0), .int p0, .int p1, .int p2, .int p3] : List Value).toArray s 2 12 (zAn 116 ad s.heap.size)) (F0 m 0 ls [])
  unfold wx_X6_letter at h
  refine lv_iload_n hx hb dX6_letter_0 rfl (lv_at hl 1 rfl) ?_
  refine lv_iload_n hx hb dX6_letter_1 rfl (lv_at hl 2 rfl) ?_
  refine lv_iload_n hx hb dX6_letter_2 rfl (lv_at hl 3 rfl) ?_
  refine k_X6_faultOfLetter (rest := []) hx hb hml hown hts gX6_letter_X6_faultOfLetter ⟨Nat.le_of_ble_eq_true rfl, Nat.le_of_ble_eq_true rfl⟩ ⟨Nat.le_of_ble_eq_true rfl, Nat.le_of_ble_eq_true rfl⟩ hK hj hw hA hS hl.1 (Nat.le_of_ble_eq_true rfl) dX6_letter_3 h (fun r1 s1 H locs h hw hS => ?_)
  refine zthrow (rest := []) hx hb hml hown hts hlt gX6_letter_X6_throwFor ⟨Nat.le_of_ble_eq_true rfl, Nat.le_of_ble_eq_true rfl⟩ ⟨Nat.le_of_ble_eq_true rfl, Nat.le_of_ble_eq_true rfl⟩ hK hj hw hX hAL hS hl.1 (Nat.le_of_ble_eq_true rfl) dX6_letter_6 htab hlocks (Nat.le_of_ble_eq_true rfl) (Nat.le_of_ble_eq_true rfl) h (fun s2 H locs h hw hS => ?_)
  refine lv_iload hx hb dX6_letter_9 (lv_at hl 4 rfl) ?_
  refine lv_bipush (v := (jI 9)) hx hb dX6_letter_11 (by decide +kernel) ?_
  refine k_X6_faultOfWhat (rest := []) hx hb hml hown hts gX6_letter_X6_faultOfWhat ⟨Nat.le_of_ble_eq_true rfl, Nat.le_of_ble_eq_true rfl⟩ ⟨Nat.le_of_ble_eq_true rfl, Nat.le_of_ble_eq_true rfl⟩ hK hj hw hA hS hl.1 (Nat.le_of_ble_eq_true rfl) dX6_letter_13 h (fun r2 s3 H locs h hw hS => ?_)
  refine zthrow (rest := []) hx hb hml hown hts hlt gX6_letter_X6_throwFor ⟨Nat.le_of_ble_eq_true rfl, Nat.le_of_ble_eq_true rfl⟩ ⟨Nat.le_of_ble_eq_true rfl, Nat.le_of_ble_eq_true rfl⟩ hK hj hw hX hAL hS hl.1 (Nat.le_of_ble_eq_true rfl) dX6_letter_16 htab hlocks (Nat.le_of_ble_eq_true rfl) (Nat.le_of_ble_eq_true rfl) h (fun s4 H locs h hw hS => ?_)
  refine lv_aload_n hx hb dX6_letter_19 rfl (lv_at hl 0 rfl) ?_
  refine zget hx hb hts inX6 hown hK hw 0 (by decide) rfl rfl 0 (by decide) lk0 (fun _ h9 => h9) rfl dX6_letter_20 ?_
  refine lv_iload_n hx hb dX6_letter_23 rfl (lv_at hl 1 rfl) ?_
  refine lv_iload_n hx hb dX6_letter_24 rfl (lv_at hl 2 rfl) ?_
  refine lv_iload_n hx hb dX6_letter_25 rfl (lv_at hl 3 rfl) ?_
  refine k_X6_letterNumber (rest := [.ref (ad 5)]) hx hb hml hown hts gX6_letter_X6_letterNumber ⟨Nat.le_of_ble_eq_true rfl, Nat.le_of_ble_eq_true rfl⟩ ⟨Nat.le_of_ble_eq_true rfl, Nat.le_of_ble_eq_true rfl⟩ hK hj hw hA hS hl.1 (Nat.le_of_ble_eq_true rfl) dX6_letter_26 h (fun r3 s5 H locs h hw hS => ?_)
  refine lv_iload hx hb dX6_letter_29 (lv_at hl 4 rfl) ?_
  refine k_X4_letterValue (rest := []) hx hb hml hown hts gX6_letter_X4_letterValue ⟨Nat.le_of_ble_eq_true rfl, Nat.le_of_ble_eq_true rfl⟩ ⟨Nat.le_of_ble_eq_true rfl, Nat.le_of_ble_eq_true rfl⟩ hK hj hw hA hS hl.1 (Nat.le_of_ble_eq_true rfl) dX6_letter_31 h (fun r4 s6 H locs h hw hS => ?_)
  refine vx_ret (W.widen (k := 2) (n := 12) (Nat.le_of_ble_eq_true rfl) (Nat.le_of_ble_eq_true rfl) ?_)
  exact W.iret (v := r4) hx hb hr (fun t ht hW => ⟨⟨_, _, rfl, h, zend hw ht⟩, hS.F ht⟩) hS.2.2 dX6_letter_34
set_option maxHeartbeats 4000000 in
set_option maxRecDepth 100000 in
theorem t_X6_sign (l : Launch) (hlt : l.stackTraces = false) (D : va_G) (cy : cyT) (ad : Nat → Nat) (AL : Nat → Prop) (sa : Nat → Nat) (sz : Nat) (σ : ST) (p0 : Int32) (p1 : Int32) {Q : Int32 → ST → Prop} {X : Nat → ST → Prop} (h : wx_X6_sign σ p0 p1 Q X) : vx_Met l yX6_sign wsX6_sign ({ frames := 7, cells := 2, slots := 12, locals := 110 } : Room) (xPre D cy 116 (zce cy ad σ) ad AL sa sz [.ref (ad 0), .int p0, .int p1]) (va_Qi Q (zB D 116 (zce cy ad) ad) (zAn 116 ad sz)) (zXC D 116 (zce cy ad) ad X (zAn 116 ad sz)) 2 12 (zAn 116 ad sz) := by
  refine vx_ofW (cc := cX6_sign) (maxL := 3) (ret := (some .int)) (by decide) rfl ?_
  intro p e s m args below meth c s₁ B hml htab hv
  obtain ⟨rfl, hsz, hj, hK, hw, hX, hAL⟩ := hv
  subst hsz
  have hx := B.exec
  have hb := B.bytes
  have hr := B.returns
  have hts := atoms_spec (ws := wsX6_sign) B.pre
  have hown : s.vm.findClass RX6 = some m.cls := findClass_of_methodNamed B.named
  have hlocks := B.notSynchronized
  have lk0 : Cond.fieldLink RX6 12 "TypeTrays" "state" "LTypeTrays$State;" ∈ wsX6_sign := List.mem_of_getElem? (i := 1) rfl
  have inX6 : ∀ w ∈ u_ws RX6 TX6 4, w ∈ wsX6_sign := zin_at 55 rfl
  have hS : va_S (zAn 116 ad s.heap.size) s.heap s.heap [] := va_S.rf
  have hA : ∀ i, i < 116 → zAn 116 ad s.heap.size (ad i) := fun i hi => Or.inl ⟨i, hi, rfl⟩
  have hl := lv_entry ([.ref (ad 0), .int p0, .int p1]) (n := 3) (Nat.le_of_ble_eq_true rfl)
  rw [lg_entry_eq]
  generalize (lg_sl ([.ref (ad 0), .int p0, .int p1]) ++ List.replicate (3 - (lg_sl ([.ref (ad 0), .int p0, .int p1])).length) Slot.unset).toArray = ls at hl ⊢
  have hl : lv_has ls 3 [(0, .ref (ad 0)), (1, .int p0), (2, .int p1)] := hl
  show W p l e ({ frames := 7, cells := 2, slots := 12, locals := 110 } : Room) s m ([.ref (ad 0), .int p0, .int p1] : List Value).toArray below meth c s.heap [] 0 0 (vx_MQ below (va_Qi Q (zB D 116 (zce cy ad) ad) (zAn 116 ad s.heap.size)) (zXC D 116 (zce cy ad) ad X (zAn 116 ad s.heap.size)) ([.ref (ad 0), .int p0, .int p1] : List Value).toArray s 2 12 (zAn 116 ad s.heap.size)) (F0 m 0 ls [])
  unfold wx_X6_sign at h
  refine lv_iload_n hx hb dX6_sign_0 rfl (lv_at hl 1 rfl) ?_
  refine k_X6_isSign (rest := []) hx hb hml hown hts gX6_sign_X6_isSign ⟨Nat.le_of_ble_eq_true rfl, Nat.le_of_ble_eq_true rfl⟩ ⟨Nat.le_of_ble_eq_true rfl, Nat.le_of_ble_eq_true rfl⟩ hK hj hw hA hS hl.1 (Nat.le_of_ble_eq_true rfl) dX6_sign_1 h (fun r1 s1 H locs h hw hS => ?_)
  refine zif_eq (tgt := 11) hx hb dX6_sign_4 (by decide) (fun c1 => ?_) (fun c1 => ?_)
  · have h := h.1 c1
    refine lv_iconst (v := (jI 1)) hx hb dX6_sign_11 rfl ?_
    refine zthrow (rest := []) hx hb hml hown hts hlt gX6_sign_X6_throwFor ⟨Nat.le_of_ble_eq_true rfl, Nat.le_of_ble_eq_true rfl⟩ ⟨Nat.le_of_ble_eq_true rfl, Nat.le_of_ble_eq_true rfl⟩ hK hj hw hX hAL hS hl.1 (Nat.le_of_ble_eq_true rfl) dX6_sign_12 htab hlocks (Nat.le_of_ble_eq_true rfl) (Nat.le_of_ble_eq_true rfl) h (fun s2 H locs h hw hS => ?_)
    refine lv_iload_n hx hb dX6_sign_15 rfl (lv_at hl 2 rfl) ?_
    refine lv_iconst (v := (jI 4)) hx hb dX6_sign_16 rfl ?_
    refine k_X6_faultOfWhat (rest := []) hx hb hml hown hts gX6_sign_X6_faultOfWhat ⟨Nat.le_of_ble_eq_true rfl, Nat.le_of_ble_eq_true rfl⟩ ⟨Nat.le_of_ble_eq_true rfl, Nat.le_of_ble_eq_true rfl⟩ hK hj hw hA hS hl.1 (Nat.le_of_ble_eq_true rfl) dX6_sign_17 h (fun r2 s3 H locs h hw hS => ?_)
    refine zthrow (rest := []) hx hb hml hown hts hlt gX6_sign_X6_throwFor ⟨Nat.le_of_ble_eq_true rfl, Nat.le_of_ble_eq_true rfl⟩ ⟨Nat.le_of_ble_eq_true rfl, Nat.le_of_ble_eq_true rfl⟩ hK hj hw hX hAL hS hl.1 (Nat.le_of_ble_eq_true rfl) dX6_sign_20 htab hlocks (Nat.le_of_ble_eq_true rfl) (Nat.le_of_ble_eq_true rfl) h (fun s4 H locs h hw hS => ?_)
    refine lv_aload_n hx hb dX6_sign_23 rfl (lv_at hl 0 rfl) ?_
    refine zget hx hb hts inX6 hown hK hw 0 (by decide) rfl rfl 0 (by decide) lk0 (fun _ h9 => h9) rfl dX6_sign_24 ?_
    refine lv_iload_n hx hb dX6_sign_27 rfl (lv_at hl 1 rfl) ?_
    refine lv_iload_n hx hb dX6_sign_28 rfl (lv_at hl 2 rfl) ?_
    refine k_X4_signValue (rest := []) hx hb hml hown hts gX6_sign_X4_signValue ⟨Nat.le_of_ble_eq_true rfl, Nat.le_of_ble_eq_true rfl⟩ ⟨Nat.le_of_ble_eq_true rfl, Nat.le_of_ble_eq_true rfl⟩ hK hj hw hA hS hl.1 (Nat.le_of_ble_eq_true rfl) dX6_sign_29 h (fun r3 s5 H locs h hw hS => ?_)
    refine vx_ret (W.widen (k := 2) (n := 12) (Nat.le_of_ble_eq_true rfl) (Nat.le_of_ble_eq_true rfl) ?_)
    exact W.iret (v := r3) hx hb hr (fun t ht hW => ⟨⟨_, _, rfl, h, zend hw ht⟩, hS.F ht⟩) hS.2.2 dX6_sign_32
  · have h := h.2 c1
    refine lv_iconst (v := (jI 0)) hx hb dX6_sign_7 rfl ?_
    refine lv_goto (tgt := 12) hx hb dX6_sign_8 (by decide) ?_
    refine zthrow (rest := []) hx hb hml hown hts hlt gX6_sign_X6_throwFor ⟨Nat.le_of_ble_eq_true rfl, Nat.le_of_ble_eq_true rfl⟩ ⟨Nat.le_of_ble_eq_true rfl, Nat.le_of_ble_eq_true rfl⟩ hK hj hw hX hAL hS hl.1 (Nat.le_of_ble_eq_true rfl) dX6_sign_12 htab hlocks (Nat.le_of_ble_eq_true rfl) (Nat.le_of_ble_eq_true rfl) h (fun s6 H locs h hw hS => ?_)
    refine lv_iload_n hx hb dX6_sign_15 rfl (lv_at hl 2 rfl) ?_
    refine lv_iconst (v := (jI 4)) hx hb dX6_sign_16 rfl ?_
    refine k_X6_faultOfWhat (rest := []) hx hb hml hown hts gX6_sign_X6_faultOfWhat ⟨Nat.le_of_ble_eq_true rfl, Nat.le_of_ble_eq_true rfl⟩ ⟨Nat.le_of_ble_eq_true rfl, Nat.le_of_ble_eq_true rfl⟩ hK hj hw hA hS hl.1 (Nat.le_of_ble_eq_true rfl) dX6_sign_17 h (fun r4 s7 H locs h hw hS => ?_)
    refine zthrow (rest := []) hx hb hml hown hts hlt gX6_sign_X6_throwFor ⟨Nat.le_of_ble_eq_true rfl, Nat.le_of_ble_eq_true rfl⟩ ⟨Nat.le_of_ble_eq_true rfl, Nat.le_of_ble_eq_true rfl⟩ hK hj hw hX hAL hS hl.1 (Nat.le_of_ble_eq_true rfl) dX6_sign_20 htab hlocks (Nat.le_of_ble_eq_true rfl) (Nat.le_of_ble_eq_true rfl) h (fun s8 H locs h hw hS => ?_)
    refine lv_aload_n hx hb dX6_sign_23 rfl (lv_at hl 0 rfl) ?_
    refine zget hx hb hts inX6 hown hK hw 0 (by decide) rfl rfl 0 (by decide) lk0 (fun _ h9 => h9) rfl dX6_sign_24 ?_
    refine lv_iload_n hx hb dX6_sign_27 rfl (lv_at hl 1 rfl) ?_
    refine lv_iload_n hx hb dX6_sign_28 rfl (lv_at hl 2 rfl) ?_
    refine k_X4_signValue (rest := []) hx hb hml hown hts gX6_sign_X4_signValue ⟨Nat.le_of_ble_eq_true rfl, Nat.le_of_ble_eq_true rfl⟩ ⟨Nat.le_of_ble_eq_true rfl, Nat.le_of_ble_eq_true rfl⟩ hK hj hw hA hS hl.1 (Nat.le_of_ble_eq_true rfl) dX6_sign_29 h (fun r5 s9 H locs h hw hS => ?_)
    refine vx_ret (W.widen (k := 2) (n := 12) (Nat.le_of_ble_eq_true rfl) (Nat.le_of_ble_eq_true rfl) ?_)
    exact W.iret (v := r5) hx hb hr (fun t ht hW => ⟨⟨_, _, rfl, h, zend hw ht⟩, hS.F ht⟩) hS.2.2 dX6_sign_32
set_option maxHeartbeats 4000000 in
set_option maxRecDepth 100000 in
theorem t_X6_tray (l : Launch) (hlt : l.stackTraces = false) (D : va_G) (cy : cyT) (ad : Nat → Nat) (AL : Nat → Prop) (sa : Nat → Nat) (sz : Nat) (σ : ST) (p0 : Int32) (p1 : Int32) {Q : Int32 → ST → Prop} {X : Nat → ST → Prop} (h : wx_X6_tray σ p0 p1 Q X) : vx_Met l yX6_tray wsX6_tray ({ frames := 7, cells := 2, slots := 12, locals := 110 } : Room) (xPre D cy 116 (zce cy ad σ) ad AL sa sz [.ref (ad 0), .int p0, .int p1]) (va_Qi Q (zB D 116 (zce cy ad) ad) (zAn 116 ad sz)) (zXC D 116 (zce cy ad) ad X (zAn 116 ad sz)) 2 12 (zAn 116 ad sz) := by
  refine vx_ofW (cc := cX6_tray) (maxL := 3) (ret := (some .int)) (by decide) rfl ?_
  intro p e s m args below meth c s₁ B hml htab hv
  obtain ⟨rfl, hsz, hj, hK, hw, hX, hAL⟩ := hv
  subst hsz
  have hx := B.exec
  have hb := B.bytes
  have hr := B.returns
  have hts := atoms_spec (ws := wsX6_tray) B.pre
  have hown : s.vm.findClass RX6 = some m.cls := findClass_of_methodNamed B.named
  have hlocks := B.notSynchronized
  have lk0 : Cond.fieldLink RX6 12 "TypeTrays" "state" "LTypeTrays$State;" ∈ wsX6_tray := List.mem_of_getElem? (i := 1) rfl
  have inX6 : ∀ w ∈ u_ws RX6 TX6 4, w ∈ wsX6_tray := zin_at 81 rfl
  have hS : va_S (zAn 116 ad s.heap.size) s.heap s.heap [] := va_S.rf
  have hA : ∀ i, i < 116 → zAn 116 ad s.heap.size (ad i) := fun i hi => Or.inl ⟨i, hi, rfl⟩
  have hl := lv_entry ([.ref (ad 0), .int p0, .int p1]) (n := 3) (Nat.le_of_ble_eq_true rfl)
  rw [lg_entry_eq]
  generalize (lg_sl ([.ref (ad 0), .int p0, .int p1]) ++ List.replicate (3 - (lg_sl ([.ref (ad 0), .int p0, .int p1])).length) Slot.unset).toArray = ls at hl ⊢
  have hl : lv_has ls 3 [(0, .ref (ad 0)), (1, .int p0), (2, .int p1)] := hl
  show W p l e ({ frames := 7, cells := 2, slots := 12, locals := 110 } : Room) s m ([.ref (ad 0), .int p0, .int p1] : List Value).toArray below meth c s.heap [] 0 0 (vx_MQ below (va_Qi Q (zB D 116 (zce cy ad) ad) (zAn 116 ad s.heap.size)) (zXC D 116 (zce cy ad) ad X (zAn 116 ad s.heap.size)) ([.ref (ad 0), .int p0, .int p1] : List Value).toArray s 2 12 (zAn 116 ad s.heap.size)) (F0 m 0 ls [])
  unfold wx_X6_tray at h
  refine lv_aload_n hx hb dX6_tray_0 rfl (lv_at hl 0 rfl) ?_
  refine lv_iload_n hx hb dX6_tray_1 rfl (lv_at hl 1 rfl) ?_
  refine k_X6_isTray (rest := []) hx hb hml hown hts gX6_tray_X6_isTray ⟨Nat.le_of_ble_eq_true rfl, Nat.le_of_ble_eq_true rfl⟩ ⟨Nat.le_of_ble_eq_true rfl, Nat.le_of_ble_eq_true rfl⟩ hK hj hw hA hS hl.1 (Nat.le_of_ble_eq_true rfl) dX6_tray_2 h (fun r1 s1 H locs h hw hS => ?_)
  refine zif_eq (tgt := 12) hx hb dX6_tray_5 (by decide) (fun c1 => ?_) (fun c1 => ?_)
  · have h := h.1 c1
    refine lv_iconst (v := (jI 1)) hx hb dX6_tray_12 rfl ?_
    refine zthrow (rest := []) hx hb hml hown hts hlt gX6_tray_X6_throwFor ⟨Nat.le_of_ble_eq_true rfl, Nat.le_of_ble_eq_true rfl⟩ ⟨Nat.le_of_ble_eq_true rfl, Nat.le_of_ble_eq_true rfl⟩ hK hj hw hX hAL hS hl.1 (Nat.le_of_ble_eq_true rfl) dX6_tray_13 htab hlocks (Nat.le_of_ble_eq_true rfl) (Nat.le_of_ble_eq_true rfl) h (fun s2 H locs h hw hS => ?_)
    refine lv_iload_n hx hb dX6_tray_16 rfl (lv_at hl 2 rfl) ?_
    refine lv_iconst (v := (jI 4)) hx hb dX6_tray_17 rfl ?_
    refine k_X6_faultOfWhat (rest := []) hx hb hml hown hts gX6_tray_X6_faultOfWhat ⟨Nat.le_of_ble_eq_true rfl, Nat.le_of_ble_eq_true rfl⟩ ⟨Nat.le_of_ble_eq_true rfl, Nat.le_of_ble_eq_true rfl⟩ hK hj hw hA hS hl.1 (Nat.le_of_ble_eq_true rfl) dX6_tray_18 h (fun r2 s3 H locs h hw hS => ?_)
    refine zthrow (rest := []) hx hb hml hown hts hlt gX6_tray_X6_throwFor ⟨Nat.le_of_ble_eq_true rfl, Nat.le_of_ble_eq_true rfl⟩ ⟨Nat.le_of_ble_eq_true rfl, Nat.le_of_ble_eq_true rfl⟩ hK hj hw hX hAL hS hl.1 (Nat.le_of_ble_eq_true rfl) dX6_tray_21 htab hlocks (Nat.le_of_ble_eq_true rfl) (Nat.le_of_ble_eq_true rfl) h (fun s4 H locs h hw hS => ?_)
    refine lv_aload_n hx hb dX6_tray_24 rfl (lv_at hl 0 rfl) ?_
    refine zget hx hb hts inX6 hown hK hw 0 (by decide) rfl rfl 0 (by decide) lk0 (fun _ h9 => h9) rfl dX6_tray_25 ?_
    refine lv_iload_n hx hb dX6_tray_28 rfl (lv_at hl 1 rfl) ?_
    refine lv_iload_n hx hb dX6_tray_29 rfl (lv_at hl 2 rfl) ?_
    refine k_X4_trayValue (rest := []) hx hb hml hown hts gX6_tray_X4_trayValue ⟨Nat.le_of_ble_eq_true rfl, Nat.le_of_ble_eq_true rfl⟩ ⟨Nat.le_of_ble_eq_true rfl, Nat.le_of_ble_eq_true rfl⟩ hK hj hw hA hS hl.1 (Nat.le_of_ble_eq_true rfl) dX6_tray_30 h (fun r3 s5 H locs h hw hS => ?_)
    refine vx_ret (W.widen (k := 2) (n := 12) (Nat.le_of_ble_eq_true rfl) (Nat.le_of_ble_eq_true rfl) ?_)
    exact W.iret (v := r3) hx hb hr (fun t ht hW => ⟨⟨_, _, rfl, h, zend hw ht⟩, hS.F ht⟩) hS.2.2 dX6_tray_33
  · have h := h.2 c1
    refine lv_iconst (v := (jI 0)) hx hb dX6_tray_8 rfl ?_
    refine lv_goto (tgt := 13) hx hb dX6_tray_9 (by decide) ?_
    refine zthrow (rest := []) hx hb hml hown hts hlt gX6_tray_X6_throwFor ⟨Nat.le_of_ble_eq_true rfl, Nat.le_of_ble_eq_true rfl⟩ ⟨Nat.le_of_ble_eq_true rfl, Nat.le_of_ble_eq_true rfl⟩ hK hj hw hX hAL hS hl.1 (Nat.le_of_ble_eq_true rfl) dX6_tray_13 htab hlocks (Nat.le_of_ble_eq_true rfl) (Nat.le_of_ble_eq_true rfl) h (fun s6 H locs h hw hS => ?_)
    refine lv_iload_n hx hb dX6_tray_16 rfl (lv_at hl 2 rfl) ?_
    refine lv_iconst (v := (jI 4)) hx hb dX6_tray_17 rfl ?_
    refine k_X6_faultOfWhat (rest := []) hx hb hml hown hts gX6_tray_X6_faultOfWhat ⟨Nat.le_of_ble_eq_true rfl, Nat.le_of_ble_eq_true rfl⟩ ⟨Nat.le_of_ble_eq_true rfl, Nat.le_of_ble_eq_true rfl⟩ hK hj hw hA hS hl.1 (Nat.le_of_ble_eq_true rfl) dX6_tray_18 h (fun r4 s7 H locs h hw hS => ?_)
    refine zthrow (rest := []) hx hb hml hown hts hlt gX6_tray_X6_throwFor ⟨Nat.le_of_ble_eq_true rfl, Nat.le_of_ble_eq_true rfl⟩ ⟨Nat.le_of_ble_eq_true rfl, Nat.le_of_ble_eq_true rfl⟩ hK hj hw hX hAL hS hl.1 (Nat.le_of_ble_eq_true rfl) dX6_tray_21 htab hlocks (Nat.le_of_ble_eq_true rfl) (Nat.le_of_ble_eq_true rfl) h (fun s8 H locs h hw hS => ?_)
    refine lv_aload_n hx hb dX6_tray_24 rfl (lv_at hl 0 rfl) ?_
    refine zget hx hb hts inX6 hown hK hw 0 (by decide) rfl rfl 0 (by decide) lk0 (fun _ h9 => h9) rfl dX6_tray_25 ?_
    refine lv_iload_n hx hb dX6_tray_28 rfl (lv_at hl 1 rfl) ?_
    refine lv_iload_n hx hb dX6_tray_29 rfl (lv_at hl 2 rfl) ?_
    refine k_X4_trayValue (rest := []) hx hb hml hown hts gX6_tray_X4_trayValue ⟨Nat.le_of_ble_eq_true rfl, Nat.le_of_ble_eq_true rfl⟩ ⟨Nat.le_of_ble_eq_true rfl, Nat.le_of_ble_eq_true rfl⟩ hK hj hw hA hS hl.1 (Nat.le_of_ble_eq_true rfl) dX6_tray_30 h (fun r5 s9 H locs h hw hS => ?_)
    refine vx_ret (W.widen (k := 2) (n := 12) (Nat.le_of_ble_eq_true rfl) (Nat.le_of_ble_eq_true rfl) ?_)
    exact W.iret (v := r5) hx hb hr (fun t ht hW => ⟨⟨_, _, rfl, h, zend hw ht⟩, hS.F ht⟩) hS.2.2 dX6_tray_33
set_option maxHeartbeats 4000000 in
set_option maxRecDepth 100000 in
theorem t_X6_shelf (l : Launch) (hlt : l.stackTraces = false) (D : va_G) (cy : cyT) (ad : Nat → Nat) (AL : Nat → Prop) (sa : Nat → Nat) (sz : Nat) (σ : ST) (p0 : Int32) (p1 : Int32) (p2 : Int32) {Q : Int32 → ST → Prop} {X : Nat → ST → Prop} (h : wx_X6_shelf σ p0 p1 p2 Q X) : vx_Met l yX6_shelf wsX6_shelf ({ frames := 7, cells := 2, slots := 12, locals := 110 } : Room) (xPre D cy 116 (zce cy ad σ) ad AL sa sz [.ref (ad 0), .int p0, .int p1, .int p2]) (va_Qi Q (zB D 116 (zce cy ad) ad) (zAn 116 ad sz)) (zXC D 116 (zce cy ad) ad X (zAn 116 ad sz)) 2 12 (zAn 116 ad sz) := by
  refine vx_ofW (cc := cX6_shelf) (maxL := 4) (ret := (some .int)) (by decide) rfl ?_
  intro p e s m args below meth c s₁ B hml htab hv
  obtain ⟨rfl, hsz, hj, hK, hw, hX, hAL⟩ := hv
  subst hsz
  have hx := B.exec
  have hb := B.bytes
  have hr := B.returns
  have hts := atoms_spec (ws := wsX6_shelf) B.pre
  have hown : s.vm.findClass RX6 = some m.cls := findClass_of_methodNamed B.named
  have hlocks := B.notSynchronized
  have lk0 : Cond.fieldLink RX6 12 "TypeTrays" "state" "LTypeTrays$State;" ∈ wsX6_shelf := List.mem_of_getElem? (i := 1) rfl
  have inX6 : ∀ w ∈ u_ws RX6 TX6 4, w ∈ wsX6_shelf := zin_at 89 rfl
  have hS : va_S (zAn 116 ad s.heap.size) s.heap s.heap [] := va_S.rf
  have hA : ∀ i, i < 116 → zAn 116 ad s.heap.size (ad i) := fun i hi => Or.inl ⟨i, hi, rfl⟩
  have hl := lv_entry ([.ref (ad 0), .int p0, .int p1, .int p2]) (n := 4) (Nat.le_of_ble_eq_true rfl)
  rw [lg_entry_eq]
  generalize (lg_sl ([.ref (ad 0), .int p0, .int p1, .int p2]) ++ List.replicate (4 - (lg_sl ([.ref (ad 0), .int p0, .int p1, .int p2])).length) Slot.unset).toArray = ls at hl ⊢
  have hl : lv_has ls 4 [(0, .ref (ad 0)), (1, .int p0), (2, .int p1), (3, .int p2)] := hl
  show W p l e ({ frames := 7, cells := 2, slots := 12, locals := 110 } : Room) s m ([.ref (ad 0), .int p0, .int p1, .int p2] : List Value).toArray below meth c s.heap [] 0 0 (vx_MQ below (va_Qi Q (zB D 116 (zce cy ad) ad) (zAn 116 ad s.heap.size)) (zXC D 116 (zce cy ad) ad X (zAn 116 ad s.heap.size)) ([.ref (ad 0), .int p0, .int p1, .int p2] : List Value).toArray s 2 12 (zAn 116 ad s.heap.size)) (F0 m 0 ls [])
  unfold wx_X6_shelf at h
  refine lv_aload_n hx hb dX6_shelf_0 rfl (lv_at hl 0 rfl) ?_
  refine lv_iload_n hx hb dX6_shelf_1 rfl (lv_at hl 1 rfl) ?_
  refine k_X6_isTray (rest := []) hx hb hml hown hts gX6_shelf_X6_isTray ⟨Nat.le_of_ble_eq_true rfl, Nat.le_of_ble_eq_true rfl⟩ ⟨Nat.le_of_ble_eq_true rfl, Nat.le_of_ble_eq_true rfl⟩ hK hj hw hA hS hl.1 (Nat.le_of_ble_eq_true rfl) dX6_shelf_2 h (fun r1 s1 H locs h hw hS => ?_)
  refine zif_eq (tgt := 21) hx hb dX6_shelf_5 (by decide) (fun c1 => ?_) (fun c1 => ?_)
  · have h := h.1 c1
    refine lv_iconst (v := (jI 1)) hx hb dX6_shelf_21 rfl ?_
    refine zthrow (rest := []) hx hb hml hown hts hlt gX6_shelf_X6_throwFor ⟨Nat.le_of_ble_eq_true rfl, Nat.le_of_ble_eq_true rfl⟩ ⟨Nat.le_of_ble_eq_true rfl, Nat.le_of_ble_eq_true rfl⟩ hK hj hw hX hAL hS hl.1 (Nat.le_of_ble_eq_true rfl) dX6_shelf_22 htab hlocks (Nat.le_of_ble_eq_true rfl) (Nat.le_of_ble_eq_true rfl) h (fun s2 H locs h hw hS => ?_)
    refine lv_iload_n hx hb dX6_shelf_25 rfl (lv_at hl 3 rfl) ?_
    refine lv_bipush (v := (jI 7)) hx hb dX6_shelf_26 (by decide +kernel) ?_
    refine k_X6_faultOfWhat (rest := []) hx hb hml hown hts gX6_shelf_X6_faultOfWhat ⟨Nat.le_of_ble_eq_true rfl, Nat.le_of_ble_eq_true rfl⟩ ⟨Nat.le_of_ble_eq_true rfl, Nat.le_of_ble_eq_true rfl⟩ hK hj hw hA hS hl.1 (Nat.le_of_ble_eq_true rfl) dX6_shelf_28 h (fun r2 s3 H locs h hw hS => ?_)
    refine zthrow (rest := []) hx hb hml hown hts hlt gX6_shelf_X6_throwFor ⟨Nat.le_of_ble_eq_true rfl, Nat.le_of_ble_eq_true rfl⟩ ⟨Nat.le_of_ble_eq_true rfl, Nat.le_of_ble_eq_true rfl⟩ hK hj hw hX hAL hS hl.1 (Nat.le_of_ble_eq_true rfl) dX6_shelf_31 htab hlocks (Nat.le_of_ble_eq_true rfl) (Nat.le_of_ble_eq_true rfl) h (fun s4 H locs h hw hS => ?_)
    refine lv_aload_n hx hb dX6_shelf_34 rfl (lv_at hl 0 rfl) ?_
    refine zget hx hb hts inX6 hown hK hw 0 (by decide) rfl rfl 0 (by decide) lk0 (fun _ h9 => h9) rfl dX6_shelf_35 ?_
    refine lv_iload_n hx hb dX6_shelf_38 rfl (lv_at hl 1 rfl) ?_
    refine lv_bipush (v := (jI 24)) hx hb dX6_shelf_39 (by decide +kernel) ?_
    refine lv_imul hx hb dX6_shelf_41 ?_
    refine lv_iload_n hx hb dX6_shelf_42 rfl (lv_at hl 2 rfl) ?_
    refine lv_iadd hx hb dX6_shelf_43 ?_
    refine lv_iload_n hx hb dX6_shelf_44 rfl (lv_at hl 3 rfl) ?_
    refine k_X4_shelfValue (rest := []) hx hb hml hown hts gX6_shelf_X4_shelfValue ⟨Nat.le_of_ble_eq_true rfl, Nat.le_of_ble_eq_true rfl⟩ ⟨Nat.le_of_ble_eq_true rfl, Nat.le_of_ble_eq_true rfl⟩ hK hj hw hA hS hl.1 (Nat.le_of_ble_eq_true rfl) dX6_shelf_45 h (fun r3 s5 H locs h hw hS => ?_)
    refine vx_ret (W.widen (k := 2) (n := 12) (Nat.le_of_ble_eq_true rfl) (Nat.le_of_ble_eq_true rfl) ?_)
    exact W.iret (v := r3) hx hb hr (fun t ht hW => ⟨⟨_, _, rfl, h, zend hw ht⟩, hS.F ht⟩) hS.2.2 dX6_shelf_48
  · have h := h.2 c1
    refine lv_aload_n hx hb dX6_shelf_8 rfl (lv_at hl 0 rfl) ?_
    refine lv_iload_n hx hb dX6_shelf_9 rfl (lv_at hl 1 rfl) ?_
    refine lv_iload_n hx hb dX6_shelf_10 rfl (lv_at hl 2 rfl) ?_
    refine k_X6_isShelf (rest := []) hx hb hml hown hts gX6_shelf_X6_isShelf ⟨Nat.le_of_ble_eq_true rfl, Nat.le_of_ble_eq_true rfl⟩ ⟨Nat.le_of_ble_eq_true rfl, Nat.le_of_ble_eq_true rfl⟩ hK hj hw hA hS hl.1 (Nat.le_of_ble_eq_true rfl) dX6_shelf_11 h (fun r4 s6 H locs h hw hS => ?_)
    refine zif_eq (tgt := 21) hx hb dX6_shelf_14 (by decide) (fun c2 => ?_) (fun c2 => ?_)
    · have h := h.1 c2
      refine lv_iconst (v := (jI 1)) hx hb dX6_shelf_21 rfl ?_
      refine zthrow (rest := []) hx hb hml hown hts hlt gX6_shelf_X6_throwFor ⟨Nat.le_of_ble_eq_true rfl, Nat.le_of_ble_eq_true rfl⟩ ⟨Nat.le_of_ble_eq_true rfl, Nat.le_of_ble_eq_true rfl⟩ hK hj hw hX hAL hS hl.1 (Nat.le_of_ble_eq_true rfl) dX6_shelf_22 htab hlocks (Nat.le_of_ble_eq_true rfl) (Nat.le_of_ble_eq_true rfl) h (fun s7 H locs h hw hS => ?_)
      refine lv_iload_n hx hb dX6_shelf_25 rfl (lv_at hl 3 rfl) ?_
      refine lv_bipush (v := (jI 7)) hx hb dX6_shelf_26 (by decide +kernel) ?_
      refine k_X6_faultOfWhat (rest := []) hx hb hml hown hts gX6_shelf_X6_faultOfWhat ⟨Nat.le_of_ble_eq_true rfl, Nat.le_of_ble_eq_true rfl⟩ ⟨Nat.le_of_ble_eq_true rfl, Nat.le_of_ble_eq_true rfl⟩ hK hj hw hA hS hl.1 (Nat.le_of_ble_eq_true rfl) dX6_shelf_28 h (fun r5 s8 H locs h hw hS => ?_)
      refine zthrow (rest := []) hx hb hml hown hts hlt gX6_shelf_X6_throwFor ⟨Nat.le_of_ble_eq_true rfl, Nat.le_of_ble_eq_true rfl⟩ ⟨Nat.le_of_ble_eq_true rfl, Nat.le_of_ble_eq_true rfl⟩ hK hj hw hX hAL hS hl.1 (Nat.le_of_ble_eq_true rfl) dX6_shelf_31 htab hlocks (Nat.le_of_ble_eq_true rfl) (Nat.le_of_ble_eq_true rfl) h (fun s9 H locs h hw hS => ?_)
      refine lv_aload_n hx hb dX6_shelf_34 rfl (lv_at hl 0 rfl) ?_
      refine zget hx hb hts inX6 hown hK hw 0 (by decide) rfl rfl 0 (by decide) lk0 (fun _ h9 => h9) rfl dX6_shelf_35 ?_
      refine lv_iload_n hx hb dX6_shelf_38 rfl (lv_at hl 1 rfl) ?_
      refine lv_bipush (v := (jI 24)) hx hb dX6_shelf_39 (by decide +kernel) ?_
      refine lv_imul hx hb dX6_shelf_41 ?_
      refine lv_iload_n hx hb dX6_shelf_42 rfl (lv_at hl 2 rfl) ?_
      refine lv_iadd hx hb dX6_shelf_43 ?_
      refine lv_iload_n hx hb dX6_shelf_44 rfl (lv_at hl 3 rfl) ?_
      refine k_X4_shelfValue (rest := []) hx hb hml hown hts gX6_shelf_X4_shelfValue ⟨Nat.le_of_ble_eq_true rfl, Nat.le_of_ble_eq_true rfl⟩ ⟨Nat.le_of_ble_eq_true rfl, Nat.le_of_ble_eq_true rfl⟩ hK hj hw hA hS hl.1 (Nat.le_of_ble_eq_true rfl) dX6_shelf_45 h (fun r6 s10 H locs h hw hS => ?_)
      refine vx_ret (W.widen (k := 2) (n := 12) (Nat.le_of_ble_eq_true rfl) (Nat.le_of_ble_eq_true rfl) ?_)
      exact W.iret (v := r6) hx hb hr (fun t ht hW => ⟨⟨_, _, rfl, h, zend hw ht⟩, hS.F ht⟩) hS.2.2 dX6_shelf_48
    · have h := h.2 c2
      refine lv_iconst (v := (jI 0)) hx hb dX6_shelf_17 rfl ?_
      refine lv_goto (tgt := 22) hx hb dX6_shelf_18 (by decide) ?_
      refine zthrow (rest := []) hx hb hml hown hts hlt gX6_shelf_X6_throwFor ⟨Nat.le_of_ble_eq_true rfl, Nat.le_of_ble_eq_true rfl⟩ ⟨Nat.le_of_ble_eq_true rfl, Nat.le_of_ble_eq_true rfl⟩ hK hj hw hX hAL hS hl.1 (Nat.le_of_ble_eq_true rfl) dX6_shelf_22 htab hlocks (Nat.le_of_ble_eq_true rfl) (Nat.le_of_ble_eq_true rfl) h (fun s11 H locs h hw hS => ?_)
      refine lv_iload_n hx hb dX6_shelf_25 rfl (lv_at hl 3 rfl) ?_
      refine lv_bipush (v := (jI 7)) hx hb dX6_shelf_26 (by decide +kernel) ?_
      refine k_X6_faultOfWhat (rest := []) hx hb hml hown hts gX6_shelf_X6_faultOfWhat ⟨Nat.le_of_ble_eq_true rfl, Nat.le_of_ble_eq_true rfl⟩ ⟨Nat.le_of_ble_eq_true rfl, Nat.le_of_ble_eq_true rfl⟩ hK hj hw hA hS hl.1 (Nat.le_of_ble_eq_true rfl) dX6_shelf_28 h (fun r7 s12 H locs h hw hS => ?_)
      refine zthrow (rest := []) hx hb hml hown hts hlt gX6_shelf_X6_throwFor ⟨Nat.le_of_ble_eq_true rfl, Nat.le_of_ble_eq_true rfl⟩ ⟨Nat.le_of_ble_eq_true rfl, Nat.le_of_ble_eq_true rfl⟩ hK hj hw hX hAL hS hl.1 (Nat.le_of_ble_eq_true rfl) dX6_shelf_31 htab hlocks (Nat.le_of_ble_eq_true rfl) (Nat.le_of_ble_eq_true rfl) h (fun s13 H locs h hw hS => ?_)
      refine lv_aload_n hx hb dX6_shelf_34 rfl (lv_at hl 0 rfl) ?_
      refine zget hx hb hts inX6 hown hK hw 0 (by decide) rfl rfl 0 (by decide) lk0 (fun _ h9 => h9) rfl dX6_shelf_35 ?_
      refine lv_iload_n hx hb dX6_shelf_38 rfl (lv_at hl 1 rfl) ?_
      refine lv_bipush (v := (jI 24)) hx hb dX6_shelf_39 (by decide +kernel) ?_
      refine lv_imul hx hb dX6_shelf_41 ?_
      refine lv_iload_n hx hb dX6_shelf_42 rfl (lv_at hl 2 rfl) ?_
      refine lv_iadd hx hb dX6_shelf_43 ?_
      refine lv_iload_n hx hb dX6_shelf_44 rfl (lv_at hl 3 rfl) ?_
      refine k_X4_shelfValue (rest := []) hx hb hml hown hts gX6_shelf_X4_shelfValue ⟨Nat.le_of_ble_eq_true rfl, Nat.le_of_ble_eq_true rfl⟩ ⟨Nat.le_of_ble_eq_true rfl, Nat.le_of_ble_eq_true rfl⟩ hK hj hw hA hS hl.1 (Nat.le_of_ble_eq_true rfl) dX6_shelf_45 h (fun r8 s14 H locs h hw hS => ?_)
      refine vx_ret (W.widen (k := 2) (n := 12) (Nat.le_of_ble_eq_true rfl) (Nat.le_of_ble_eq_true rfl) ?_)
      exact W.iret (v := r8) hx hb hr (fun t ht hW => ⟨⟨_, _, rfl, h, zend hw ht⟩, hS.F ht⟩) hS.2.2 dX6_shelf_48
set_option maxHeartbeats 4000000 in
set_option maxRecDepth 100000 in
theorem t_X6_at (l : Launch) (hlt : l.stackTraces = false) (D : va_G) (cy : cyT) (ad : Nat → Nat) (AL : Nat → Prop) (sa : Nat → Nat) (sz : Nat) (σ : ST) (p0 : Int32) (p1 : Int32) (p2 : Int32) {Q : Int32 → ST → Prop} {X : Nat → ST → Prop} (h : wx_X6_at σ p0 p1 p2 Q X) : vx_Met l yX6_at wsX6_at ({ frames := 7, cells := 2, slots := 12, locals := 110 } : Room) (xPre D cy 116 (zce cy ad σ) ad AL sa sz [.ref (ad 0), .int p0, .int p1, .int p2]) (va_Qi Q (zB D 116 (zce cy ad) ad) (zAn 116 ad sz)) (zXC D 116 (zce cy ad) ad X (zAn 116 ad sz)) 2 12 (zAn 116 ad sz) := by
  refine vx_ofW (cc := cX6_at) (maxL := 4) (ret := (some .int)) (by decide) rfl ?_
  intro p e s m args below meth c s₁ B hml htab hv
  obtain ⟨rfl, hsz, hj, hK, hw, hX, hAL⟩ := hv
  subst hsz
  have hx := B.exec
  have hb := B.bytes
  have hr := B.returns
  have hts := atoms_spec (ws := wsX6_at) B.pre
  have hown : s.vm.findClass RX6 = some m.cls := findClass_of_methodNamed B.named
  have hlocks := B.notSynchronized
  have lk0 : Cond.fieldLink RX6 12 "TypeTrays" "state" "LTypeTrays$State;" ∈ wsX6_at := List.mem_of_getElem? (i := 1) rfl
  have inX6 : ∀ w ∈ u_ws RX6 TX6 4, w ∈ wsX6_at := zin_at 69 rfl
  have hS : va_S (zAn 116 ad s.heap.size) s.heap s.heap [] := va_S.rf
  have hA : ∀ i, i < 116 → zAn 116 ad s.heap.size (ad i) := fun i hi => Or.inl ⟨i, hi, rfl⟩
  have hl := lv_entry ([.ref (ad 0), .int p0, .int p1, .int p2]) (n := 4) (Nat.le_of_ble_eq_true rfl)
  rw [lg_entry_eq]
  generalize (lg_sl ([.ref (ad 0), .int p0, .int p1, .int p2]) ++ List.replicate (4 - (lg_sl ([.ref (ad 0), .int p0, .int p1, .int p2])).length) Slot.unset).toArray = ls at hl ⊢
  have hl : lv_has ls 4 [(0, .ref (ad 0)), (1, .int p0), (2, .int p1), (3, .int p2)] := hl
  show W p l e ({ frames := 7, cells := 2, slots := 12, locals := 110 } : Room) s m ([.ref (ad 0), .int p0, .int p1, .int p2] : List Value).toArray below meth c s.heap [] 0 0 (vx_MQ below (va_Qi Q (zB D 116 (zce cy ad) ad) (zAn 116 ad s.heap.size)) (zXC D 116 (zce cy ad) ad X (zAn 116 ad s.heap.size)) ([.ref (ad 0), .int p0, .int p1, .int p2] : List Value).toArray s 2 12 (zAn 116 ad s.heap.size)) (F0 m 0 ls [])
  unfold wx_X6_at at h
  refine lv_aload_n hx hb dX6_at_0 rfl (lv_at hl 0 rfl) ?_
  refine lv_iload_n hx hb dX6_at_1 rfl (lv_at hl 1 rfl) ?_
  refine k_X6_isTray (rest := []) hx hb hml hown hts gX6_at_X6_isTray ⟨Nat.le_of_ble_eq_true rfl, Nat.le_of_ble_eq_true rfl⟩ ⟨Nat.le_of_ble_eq_true rfl, Nat.le_of_ble_eq_true rfl⟩ hK hj hw hA hS hl.1 (Nat.le_of_ble_eq_true rfl) dX6_at_2 h (fun r1 s1 H locs h hw hS => ?_)
  refine zif_eq (tgt := 12) hx hb dX6_at_5 (by decide) (fun c1 => ?_) (fun c1 => ?_)
  · have h := h.1 c1
    refine lv_iconst (v := (jI 1)) hx hb dX6_at_12 rfl ?_
    refine zthrow (rest := []) hx hb hml hown hts hlt gX6_at_X6_throwFor ⟨Nat.le_of_ble_eq_true rfl, Nat.le_of_ble_eq_true rfl⟩ ⟨Nat.le_of_ble_eq_true rfl, Nat.le_of_ble_eq_true rfl⟩ hK hj hw hX hAL hS hl.1 (Nat.le_of_ble_eq_true rfl) dX6_at_13 htab hlocks (Nat.le_of_ble_eq_true rfl) (Nat.le_of_ble_eq_true rfl) h (fun s2 H locs h hw hS => ?_)
    refine lv_iload_n hx hb dX6_at_16 rfl (lv_at hl 2 rfl) ?_
    refine lv_iconst (v := (jI 0)) hx hb dX6_at_17 rfl ?_
    refine lv_bipush (v := (jI 23)) hx hb dX6_at_18 (by decide +kernel) ?_
    refine k_X6_isBetween (rest := []) hx hb hml hown hts gX6_at_X6_isBetween ⟨Nat.le_of_ble_eq_true rfl, Nat.le_of_ble_eq_true rfl⟩ ⟨Nat.le_of_ble_eq_true rfl, Nat.le_of_ble_eq_true rfl⟩ hK hj hw hA hS hl.1 (Nat.le_of_ble_eq_true rfl) dX6_at_20 h (fun r2 s3 H locs h hw hS => ?_)
    refine zif_eq (tgt := 40) hx hb dX6_at_23 (by decide) (fun c2 => ?_) (fun c2 => ?_)
    · have h := h.1 c2
      refine lv_iconst (v := (jI 2)) hx hb dX6_at_40 rfl ?_
      refine zthrow (rest := []) hx hb hml hown hts hlt gX6_at_X6_throwFor ⟨Nat.le_of_ble_eq_true rfl, Nat.le_of_ble_eq_true rfl⟩ ⟨Nat.le_of_ble_eq_true rfl, Nat.le_of_ble_eq_true rfl⟩ hK hj hw hX hAL hS hl.1 (Nat.le_of_ble_eq_true rfl) dX6_at_41 htab hlocks (Nat.le_of_ble_eq_true rfl) (Nat.le_of_ble_eq_true rfl) h (fun s4 H locs h hw hS => ?_)
      refine lv_aload_n hx hb dX6_at_44 rfl (lv_at hl 0 rfl) ?_
      refine zget hx hb hts inX6 hown hK hw 0 (by decide) rfl rfl 0 (by decide) lk0 (fun _ h9 => h9) rfl dX6_at_45 ?_
      refine lv_iload_n hx hb dX6_at_48 rfl (lv_at hl 1 rfl) ?_
      refine lv_iload_n hx hb dX6_at_49 rfl (lv_at hl 2 rfl) ?_
      refine lv_iload_n hx hb dX6_at_50 rfl (lv_at hl 3 rfl) ?_
      refine k_X4_letterAt (rest := []) hx hb hml hown hts gX6_at_X4_letterAt ⟨Nat.le_of_ble_eq_true rfl, Nat.le_of_ble_eq_true rfl⟩ ⟨Nat.le_of_ble_eq_true rfl, Nat.le_of_ble_eq_true rfl⟩ hK hj hw hA hS hl.1 (Nat.le_of_ble_eq_true rfl) dX6_at_51 h (fun r3 s5 H locs h hw hS => ?_)
      refine k_X6_codeOf (rest := []) hx hb hml hown hts gX6_at_X6_codeOf ⟨Nat.le_of_ble_eq_true rfl, Nat.le_of_ble_eq_true rfl⟩ ⟨Nat.le_of_ble_eq_true rfl, Nat.le_of_ble_eq_true rfl⟩ hK hj hw hA hS hl.1 (Nat.le_of_ble_eq_true rfl) dX6_at_54 h (fun r4 s6 H locs h hw hS => ?_)
      refine vx_ret (W.widen (k := 2) (n := 12) (Nat.le_of_ble_eq_true rfl) (Nat.le_of_ble_eq_true rfl) ?_)
      exact W.iret (v := r4) hx hb hr (fun t ht hW => ⟨⟨_, _, rfl, h, zend hw ht⟩, hS.F ht⟩) hS.2.2 dX6_at_57
    · have h := h.2 c2
      refine lv_iload_n hx hb dX6_at_26 rfl (lv_at hl 3 rfl) ?_
      refine lv_iconst (v := (jI 0)) hx hb dX6_at_27 rfl ?_
      refine lv_bipush (v := (jI 23)) hx hb dX6_at_28 (by decide +kernel) ?_
      refine k_X6_isBetween (rest := []) hx hb hml hown hts gX6_at_X6_isBetween ⟨Nat.le_of_ble_eq_true rfl, Nat.le_of_ble_eq_true rfl⟩ ⟨Nat.le_of_ble_eq_true rfl, Nat.le_of_ble_eq_true rfl⟩ hK hj hw hA hS hl.1 (Nat.le_of_ble_eq_true rfl) dX6_at_30 h (fun r5 s7 H locs h hw hS => ?_)
      refine zif_eq (tgt := 40) hx hb dX6_at_33 (by decide) (fun c3 => ?_) (fun c3 => ?_)
      · have h := h.1 c3
        refine lv_iconst (v := (jI 2)) hx hb dX6_at_40 rfl ?_
        refine zthrow (rest := []) hx hb hml hown hts hlt gX6_at_X6_throwFor ⟨Nat.le_of_ble_eq_true rfl, Nat.le_of_ble_eq_true rfl⟩ ⟨Nat.le_of_ble_eq_true rfl, Nat.le_of_ble_eq_true rfl⟩ hK hj hw hX hAL hS hl.1 (Nat.le_of_ble_eq_true rfl) dX6_at_41 htab hlocks (Nat.le_of_ble_eq_true rfl) (Nat.le_of_ble_eq_true rfl) h (fun s8 H locs h hw hS => ?_)
        refine lv_aload_n hx hb dX6_at_44 rfl (lv_at hl 0 rfl) ?_
        refine zget hx hb hts inX6 hown hK hw 0 (by decide) rfl rfl 0 (by decide) lk0 (fun _ h9 => h9) rfl dX6_at_45 ?_
        refine lv_iload_n hx hb dX6_at_48 rfl (lv_at hl 1 rfl) ?_
        refine lv_iload_n hx hb dX6_at_49 rfl (lv_at hl 2 rfl) ?_
        refine lv_iload_n hx hb dX6_at_50 rfl (lv_at hl 3 rfl) ?_
        refine k_X4_letterAt (rest := []) hx hb hml hown hts gX6_at_X4_letterAt ⟨Nat.le_of_ble_eq_true rfl, Nat.le_of_ble_eq_true rfl⟩ ⟨Nat.le_of_ble_eq_true rfl, Nat.le_of_ble_eq_true rfl⟩ hK hj hw hA hS hl.1 (Nat.le_of_ble_eq_true rfl) dX6_at_51 h (fun r6 s9 H locs h hw hS => ?_)
        refine k_X6_codeOf (rest := []) hx hb hml hown hts gX6_at_X6_codeOf ⟨Nat.le_of_ble_eq_true rfl, Nat.le_of_ble_eq_true rfl⟩ ⟨Nat.le_of_ble_eq_true rfl, Nat.le_of_ble_eq_true rfl⟩ hK hj hw hA hS hl.1 (Nat.le_of_ble_eq_true rfl) dX6_at_54 h (fun r7 s10 H locs h hw hS => ?_)
        refine vx_ret (W.widen (k := 2) (n := 12) (Nat.le_of_ble_eq_true rfl) (Nat.le_of_ble_eq_true rfl) ?_)
        exact W.iret (v := r7) hx hb hr (fun t ht hW => ⟨⟨_, _, rfl, h, zend hw ht⟩, hS.F ht⟩) hS.2.2 dX6_at_57
      · have h := h.2 c3
        refine lv_iconst (v := (jI 0)) hx hb dX6_at_36 rfl ?_
        refine lv_goto (tgt := 41) hx hb dX6_at_37 (by decide) ?_
        refine zthrow (rest := []) hx hb hml hown hts hlt gX6_at_X6_throwFor ⟨Nat.le_of_ble_eq_true rfl, Nat.le_of_ble_eq_true rfl⟩ ⟨Nat.le_of_ble_eq_true rfl, Nat.le_of_ble_eq_true rfl⟩ hK hj hw hX hAL hS hl.1 (Nat.le_of_ble_eq_true rfl) dX6_at_41 htab hlocks (Nat.le_of_ble_eq_true rfl) (Nat.le_of_ble_eq_true rfl) h (fun s11 H locs h hw hS => ?_)
        refine lv_aload_n hx hb dX6_at_44 rfl (lv_at hl 0 rfl) ?_
        refine zget hx hb hts inX6 hown hK hw 0 (by decide) rfl rfl 0 (by decide) lk0 (fun _ h9 => h9) rfl dX6_at_45 ?_
        refine lv_iload_n hx hb dX6_at_48 rfl (lv_at hl 1 rfl) ?_
        refine lv_iload_n hx hb dX6_at_49 rfl (lv_at hl 2 rfl) ?_
        refine lv_iload_n hx hb dX6_at_50 rfl (lv_at hl 3 rfl) ?_
        refine k_X4_letterAt (rest := []) hx hb hml hown hts gX6_at_X4_letterAt ⟨Nat.le_of_ble_eq_true rfl, Nat.le_of_ble_eq_true rfl⟩ ⟨Nat.le_of_ble_eq_true rfl, Nat.le_of_ble_eq_true rfl⟩ hK hj hw hA hS hl.1 (Nat.le_of_ble_eq_true rfl) dX6_at_51 h (fun r8 s12 H locs h hw hS => ?_)
        refine k_X6_codeOf (rest := []) hx hb hml hown hts gX6_at_X6_codeOf ⟨Nat.le_of_ble_eq_true rfl, Nat.le_of_ble_eq_true rfl⟩ ⟨Nat.le_of_ble_eq_true rfl, Nat.le_of_ble_eq_true rfl⟩ hK hj hw hA hS hl.1 (Nat.le_of_ble_eq_true rfl) dX6_at_54 h (fun r9 s13 H locs h hw hS => ?_)
        refine vx_ret (W.widen (k := 2) (n := 12) (Nat.le_of_ble_eq_true rfl) (Nat.le_of_ble_eq_true rfl) ?_)
        exact W.iret (v := r9) hx hb hr (fun t ht hW => ⟨⟨_, _, rfl, h, zend hw ht⟩, hS.F ht⟩) hS.2.2 dX6_at_57
  · have h := h.2 c1
    refine lv_iconst (v := (jI 0)) hx hb dX6_at_8 rfl ?_
    refine lv_goto (tgt := 13) hx hb dX6_at_9 (by decide) ?_
    refine zthrow (rest := []) hx hb hml hown hts hlt gX6_at_X6_throwFor ⟨Nat.le_of_ble_eq_true rfl, Nat.le_of_ble_eq_true rfl⟩ ⟨Nat.le_of_ble_eq_true rfl, Nat.le_of_ble_eq_true rfl⟩ hK hj hw hX hAL hS hl.1 (Nat.le_of_ble_eq_true rfl) dX6_at_13 htab hlocks (Nat.le_of_ble_eq_true rfl) (Nat.le_of_ble_eq_true rfl) h (fun s14 H locs h hw hS => ?_)
    refine lv_iload_n hx hb dX6_at_16 rfl (lv_at hl 2 rfl) ?_
    refine lv_iconst (v := (jI 0)) hx hb dX6_at_17 rfl ?_
    refine lv_bipush (v := (jI 23)) hx hb dX6_at_18 (by decide +kernel) ?_
    refine k_X6_isBetween (rest := []) hx hb hml hown hts gX6_at_X6_isBetween ⟨Nat.le_of_ble_eq_true rfl, Nat.le_of_ble_eq_true rfl⟩ ⟨Nat.le_of_ble_eq_true rfl, Nat.le_of_ble_eq_true rfl⟩ hK hj hw hA hS hl.1 (Nat.le_of_ble_eq_true rfl) dX6_at_20 h (fun r10 s15 H locs h hw hS => ?_)
    refine zif_eq (tgt := 40) hx hb dX6_at_23 (by decide) (fun c4 => ?_) (fun c4 => ?_)
    · have h := h.1 c4
      refine lv_iconst (v := (jI 2)) hx hb dX6_at_40 rfl ?_
      refine zthrow (rest := []) hx hb hml hown hts hlt gX6_at_X6_throwFor ⟨Nat.le_of_ble_eq_true rfl, Nat.le_of_ble_eq_true rfl⟩ ⟨Nat.le_of_ble_eq_true rfl, Nat.le_of_ble_eq_true rfl⟩ hK hj hw hX hAL hS hl.1 (Nat.le_of_ble_eq_true rfl) dX6_at_41 htab hlocks (Nat.le_of_ble_eq_true rfl) (Nat.le_of_ble_eq_true rfl) h (fun s16 H locs h hw hS => ?_)
      refine lv_aload_n hx hb dX6_at_44 rfl (lv_at hl 0 rfl) ?_
      refine zget hx hb hts inX6 hown hK hw 0 (by decide) rfl rfl 0 (by decide) lk0 (fun _ h9 => h9) rfl dX6_at_45 ?_
      refine lv_iload_n hx hb dX6_at_48 rfl (lv_at hl 1 rfl) ?_
      refine lv_iload_n hx hb dX6_at_49 rfl (lv_at hl 2 rfl) ?_
      refine lv_iload_n hx hb dX6_at_50 rfl (lv_at hl 3 rfl) ?_
      refine k_X4_letterAt (rest := []) hx hb hml hown hts gX6_at_X4_letterAt ⟨Nat.le_of_ble_eq_true rfl, Nat.le_of_ble_eq_true rfl⟩ ⟨Nat.le_of_ble_eq_true rfl, Nat.le_of_ble_eq_true rfl⟩ hK hj hw hA hS hl.1 (Nat.le_of_ble_eq_true rfl) dX6_at_51 h (fun r11 s17 H locs h hw hS => ?_)
      refine k_X6_codeOf (rest := []) hx hb hml hown hts gX6_at_X6_codeOf ⟨Nat.le_of_ble_eq_true rfl, Nat.le_of_ble_eq_true rfl⟩ ⟨Nat.le_of_ble_eq_true rfl, Nat.le_of_ble_eq_true rfl⟩ hK hj hw hA hS hl.1 (Nat.le_of_ble_eq_true rfl) dX6_at_54 h (fun r12 s18 H locs h hw hS => ?_)
      refine vx_ret (W.widen (k := 2) (n := 12) (Nat.le_of_ble_eq_true rfl) (Nat.le_of_ble_eq_true rfl) ?_)
      exact W.iret (v := r12) hx hb hr (fun t ht hW => ⟨⟨_, _, rfl, h, zend hw ht⟩, hS.F ht⟩) hS.2.2 dX6_at_57
    · have h := h.2 c4
      refine lv_iload_n hx hb dX6_at_26 rfl (lv_at hl 3 rfl) ?_
      refine lv_iconst (v := (jI 0)) hx hb dX6_at_27 rfl ?_
      refine lv_bipush (v := (jI 23)) hx hb dX6_at_28 (by decide +kernel) ?_
      refine k_X6_isBetween (rest := []) hx hb hml hown hts gX6_at_X6_isBetween ⟨Nat.le_of_ble_eq_true rfl, Nat.le_of_ble_eq_true rfl⟩ ⟨Nat.le_of_ble_eq_true rfl, Nat.le_of_ble_eq_true rfl⟩ hK hj hw hA hS hl.1 (Nat.le_of_ble_eq_true rfl) dX6_at_30 h (fun r13 s19 H locs h hw hS => ?_)
      refine zif_eq (tgt := 40) hx hb dX6_at_33 (by decide) (fun c5 => ?_) (fun c5 => ?_)
      · have h := h.1 c5
        refine lv_iconst (v := (jI 2)) hx hb dX6_at_40 rfl ?_
        refine zthrow (rest := []) hx hb hml hown hts hlt gX6_at_X6_throwFor ⟨Nat.le_of_ble_eq_true rfl, Nat.le_of_ble_eq_true rfl⟩ ⟨Nat.le_of_ble_eq_true rfl, Nat.le_of_ble_eq_true rfl⟩ hK hj hw hX hAL hS hl.1 (Nat.le_of_ble_eq_true rfl) dX6_at_41 htab hlocks (Nat.le_of_ble_eq_true rfl) (Nat.le_of_ble_eq_true rfl) h (fun s20 H locs h hw hS => ?_)
        refine lv_aload_n hx hb dX6_at_44 rfl (lv_at hl 0 rfl) ?_
        refine zget hx hb hts inX6 hown hK hw 0 (by decide) rfl rfl 0 (by decide) lk0 (fun _ h9 => h9) rfl dX6_at_45 ?_
        refine lv_iload_n hx hb dX6_at_48 rfl (lv_at hl 1 rfl) ?_
        refine lv_iload_n hx hb dX6_at_49 rfl (lv_at hl 2 rfl) ?_
        refine lv_iload_n hx hb dX6_at_50 rfl (lv_at hl 3 rfl) ?_
        refine k_X4_letterAt (rest := []) hx hb hml hown hts gX6_at_X4_letterAt ⟨Nat.le_of_ble_eq_true rfl, Nat.le_of_ble_eq_true rfl⟩ ⟨Nat.le_of_ble_eq_true rfl, Nat.le_of_ble_eq_true rfl⟩ hK hj hw hA hS hl.1 (Nat.le_of_ble_eq_true rfl) dX6_at_51 h (fun r14 s21 H locs h hw hS => ?_)
        refine k_X6_codeOf (rest := []) hx hb hml hown hts gX6_at_X6_codeOf ⟨Nat.le_of_ble_eq_true rfl, Nat.le_of_ble_eq_true rfl⟩ ⟨Nat.le_of_ble_eq_true rfl, Nat.le_of_ble_eq_true rfl⟩ hK hj hw hA hS hl.1 (Nat.le_of_ble_eq_true rfl) dX6_at_54 h (fun r15 s22 H locs h hw hS => ?_)
        refine vx_ret (W.widen (k := 2) (n := 12) (Nat.le_of_ble_eq_true rfl) (Nat.le_of_ble_eq_true rfl) ?_)
        exact W.iret (v := r15) hx hb hr (fun t ht hW => ⟨⟨_, _, rfl, h, zend hw ht⟩, hS.F ht⟩) hS.2.2 dX6_at_57
      · have h := h.2 c5
        refine lv_iconst (v := (jI 0)) hx hb dX6_at_36 rfl ?_
        refine lv_goto (tgt := 41) hx hb dX6_at_37 (by decide) ?_
        refine zthrow (rest := []) hx hb hml hown hts hlt gX6_at_X6_throwFor ⟨Nat.le_of_ble_eq_true rfl, Nat.le_of_ble_eq_true rfl⟩ ⟨Nat.le_of_ble_eq_true rfl, Nat.le_of_ble_eq_true rfl⟩ hK hj hw hX hAL hS hl.1 (Nat.le_of_ble_eq_true rfl) dX6_at_41 htab hlocks (Nat.le_of_ble_eq_true rfl) (Nat.le_of_ble_eq_true rfl) h (fun s23 H locs h hw hS => ?_)
        refine lv_aload_n hx hb dX6_at_44 rfl (lv_at hl 0 rfl) ?_
        refine zget hx hb hts inX6 hown hK hw 0 (by decide) rfl rfl 0 (by decide) lk0 (fun _ h9 => h9) rfl dX6_at_45 ?_
        refine lv_iload_n hx hb dX6_at_48 rfl (lv_at hl 1 rfl) ?_
        refine lv_iload_n hx hb dX6_at_49 rfl (lv_at hl 2 rfl) ?_
        refine lv_iload_n hx hb dX6_at_50 rfl (lv_at hl 3 rfl) ?_
        refine k_X4_letterAt (rest := []) hx hb hml hown hts gX6_at_X4_letterAt ⟨Nat.le_of_ble_eq_true rfl, Nat.le_of_ble_eq_true rfl⟩ ⟨Nat.le_of_ble_eq_true rfl, Nat.le_of_ble_eq_true rfl⟩ hK hj hw hA hS hl.1 (Nat.le_of_ble_eq_true rfl) dX6_at_51 h (fun r16 s24 H locs h hw hS => ?_)
        refine k_X6_codeOf (rest := []) hx hb hml hown hts gX6_at_X6_codeOf ⟨Nat.le_of_ble_eq_true rfl, Nat.le_of_ble_eq_true rfl⟩ ⟨Nat.le_of_ble_eq_true rfl, Nat.le_of_ble_eq_true rfl⟩ hK hj hw hA hS hl.1 (Nat.le_of_ble_eq_true rfl) dX6_at_54 h (fun r17 s25 H locs h hw hS => ?_)
        refine vx_ret (W.widen (k := 2) (n := 12) (Nat.le_of_ble_eq_true rfl) (Nat.le_of_ble_eq_true rfl) ?_)
        exact W.iret (v := r17) hx hb hr (fun t ht hW => ⟨⟨_, _, rfl, h, zend hw ht⟩, hS.F ht⟩) hS.2.2 dX6_at_57
set_option maxHeartbeats 4000000 in
set_option maxRecDepth 100000 in
theorem t_X6_street (l : Launch) (hlt : l.stackTraces = false) (D : va_G) (cy : cyT) (ad : Nat → Nat) (AL : Nat → Prop) (sa : Nat → Nat) (sz : Nat) (σ : ST) (p0 : Int32) {Q : Int32 → ST → Prop} {X : Nat → ST → Prop} (h : wx_X6_street σ p0 Q X) : vx_Met l yX6_street wsX6_street ({ frames := 7, cells := 1, slots := 6, locals := 110 } : Room) (xPre D cy 116 (zce cy ad σ) ad AL sa sz [.ref (ad 0), .int p0]) (va_Qi Q (zB D 116 (zce cy ad) ad) (zAn 116 ad sz)) (zXC D 116 (zce cy ad) ad X (zAn 116 ad sz)) 1 6 (zAn 116 ad sz) := by
  refine vx_ofW (cc := cX6_street) (maxL := 2) (ret := (some .int)) (by decide) rfl ?_
  intro p e s m args below meth c s₁ B hml htab hv
  obtain ⟨rfl, hsz, hj, hK, hw, hX, hAL⟩ := hv
  subst hsz
  have hx := B.exec
  have hb := B.bytes
  have hr := B.returns
  have hts := atoms_spec (ws := wsX6_street) B.pre
  have hown : s.vm.findClass RX6 = some m.cls := findClass_of_methodNamed B.named
  have hlocks := B.notSynchronized
  have lk0 : Cond.fieldLink RX6 12 "TypeTrays" "state" "LTypeTrays$State;" ∈ wsX6_street := List.mem_of_getElem? (i := 1) rfl
  have inX6 : ∀ w ∈ u_ws RX6 TX6 4, w ∈ wsX6_street := zin_at 42 rfl
  have hS : va_S (zAn 116 ad s.heap.size) s.heap s.heap [] := va_S.rf
  have hA : ∀ i, i < 116 → zAn 116 ad s.heap.size (ad i) := fun i hi => Or.inl ⟨i, hi, rfl⟩
  have hl := lv_entry ([.ref (ad 0), .int p0]) (n := 2) (Nat.le_of_ble_eq_true rfl)
  rw [lg_entry_eq]
  generalize (lg_sl ([.ref (ad 0), .int p0]) ++ List.replicate (2 - (lg_sl ([.ref (ad 0), .int p0])).length) Slot.unset).toArray = ls at hl ⊢
  have hl : lv_has ls 2 [(0, .ref (ad 0)), (1, .int p0)] := hl
  show W p l e ({ frames := 7, cells := 1, slots := 6, locals := 110 } : Room) s m ([.ref (ad 0), .int p0] : List Value).toArray below meth c s.heap [] 0 0 (vx_MQ below (va_Qi Q (zB D 116 (zce cy ad) ad) (zAn 116 ad s.heap.size)) (zXC D 116 (zce cy ad) ad X (zAn 116 ad s.heap.size)) ([.ref (ad 0), .int p0] : List Value).toArray s 1 6 (zAn 116 ad s.heap.size)) (F0 m 0 ls [])
  unfold wx_X6_street at h
  refine lv_iload_n hx hb dX6_street_0 rfl (lv_at hl 1 rfl) ?_
  refine zif_lt (tgt := 8) hx hb dX6_street_1 (by decide) (fun c1 => ?_) (fun c1 => ?_)
  · have h := h.1 c1
    refine lv_iconst (v := (jI 2)) hx hb dX6_street_8 rfl ?_
    refine zthrow (rest := []) hx hb hml hown hts hlt gX6_street_X6_throwFor ⟨Nat.le_of_ble_eq_true rfl, Nat.le_of_ble_eq_true rfl⟩ ⟨Nat.le_of_ble_eq_true rfl, Nat.le_of_ble_eq_true rfl⟩ hK hj hw hX hAL hS hl.1 (Nat.le_of_ble_eq_true rfl) dX6_street_9 htab hlocks (Nat.le_of_ble_eq_true rfl) (Nat.le_of_ble_eq_true rfl) h (fun s1 H locs h hw hS => ?_)
    refine lv_aload_n hx hb dX6_street_12 rfl (lv_at hl 0 rfl) ?_
    refine zget hx hb hts inX6 hown hK hw 0 (by decide) rfl rfl 0 (by decide) lk0 (fun _ h9 => h9) rfl dX6_street_13 ?_
    refine lv_iload_n hx hb dX6_street_16 rfl (lv_at hl 1 rfl) ?_
    refine k_X4_letterOfStreet (rest := []) hx hb hml hown hts gX6_street_X4_letterOfStreet ⟨Nat.le_of_ble_eq_true rfl, Nat.le_of_ble_eq_true rfl⟩ ⟨Nat.le_of_ble_eq_true rfl, Nat.le_of_ble_eq_true rfl⟩ hK hj hw hA hS hl.1 (Nat.le_of_ble_eq_true rfl) dX6_street_17 h (fun r1 s2 H locs h hw hS => ?_)
    refine k_X6_codeOf (rest := []) hx hb hml hown hts gX6_street_X6_codeOf ⟨Nat.le_of_ble_eq_true rfl, Nat.le_of_ble_eq_true rfl⟩ ⟨Nat.le_of_ble_eq_true rfl, Nat.le_of_ble_eq_true rfl⟩ hK hj hw hA hS hl.1 (Nat.le_of_ble_eq_true rfl) dX6_street_20 h (fun r2 s3 H locs h hw hS => ?_)
    refine vx_ret (W.widen (k := 1) (n := 6) (Nat.le_of_ble_eq_true rfl) (Nat.le_of_ble_eq_true rfl) ?_)
    exact W.iret (v := r2) hx hb hr (fun t ht hW => ⟨⟨_, _, rfl, h, zend hw ht⟩, hS.F ht⟩) hS.2.2 dX6_street_23
  · have h := h.2 c1
    refine lv_iconst (v := (jI 0)) hx hb dX6_street_4 rfl ?_
    refine lv_goto (tgt := 9) hx hb dX6_street_5 (by decide) ?_
    refine zthrow (rest := []) hx hb hml hown hts hlt gX6_street_X6_throwFor ⟨Nat.le_of_ble_eq_true rfl, Nat.le_of_ble_eq_true rfl⟩ ⟨Nat.le_of_ble_eq_true rfl, Nat.le_of_ble_eq_true rfl⟩ hK hj hw hX hAL hS hl.1 (Nat.le_of_ble_eq_true rfl) dX6_street_9 htab hlocks (Nat.le_of_ble_eq_true rfl) (Nat.le_of_ble_eq_true rfl) h (fun s4 H locs h hw hS => ?_)
    refine lv_aload_n hx hb dX6_street_12 rfl (lv_at hl 0 rfl) ?_
    refine zget hx hb hts inX6 hown hK hw 0 (by decide) rfl rfl 0 (by decide) lk0 (fun _ h9 => h9) rfl dX6_street_13 ?_
    refine lv_iload_n hx hb dX6_street_16 rfl (lv_at hl 1 rfl) ?_
    refine k_X4_letterOfStreet (rest := []) hx hb hml hown hts gX6_street_X4_letterOfStreet ⟨Nat.le_of_ble_eq_true rfl, Nat.le_of_ble_eq_true rfl⟩ ⟨Nat.le_of_ble_eq_true rfl, Nat.le_of_ble_eq_true rfl⟩ hK hj hw hA hS hl.1 (Nat.le_of_ble_eq_true rfl) dX6_street_17 h (fun r3 s5 H locs h hw hS => ?_)
    refine k_X6_codeOf (rest := []) hx hb hml hown hts gX6_street_X6_codeOf ⟨Nat.le_of_ble_eq_true rfl, Nat.le_of_ble_eq_true rfl⟩ ⟨Nat.le_of_ble_eq_true rfl, Nat.le_of_ble_eq_true rfl⟩ hK hj hw hA hS hl.1 (Nat.le_of_ble_eq_true rfl) dX6_street_20 h (fun r4 s6 H locs h hw hS => ?_)
    refine vx_ret (W.widen (k := 1) (n := 6) (Nat.le_of_ble_eq_true rfl) (Nat.le_of_ble_eq_true rfl) ?_)
    exact W.iret (v := r4) hx hb hr (fun t ht hW => ⟨⟨_, _, rfl, h, zend hw ht⟩, hS.F ht⟩) hS.2.2 dX6_street_23
set_option maxHeartbeats 4000000 in
set_option maxRecDepth 100000 in
theorem t_X6_whole (l : Launch) (hlt : l.stackTraces = false) (D : va_G) (cy : cyT) (ad : Nat → Nat) (AL : Nat → Prop) (sa : Nat → Nat) (sz : Nat) (σ : ST) (p0 : Int32) {Q : Int32 → ST → Prop} {X : Nat → ST → Prop} (h : wx_X6_whole σ p0 Q X) : vx_Met l yX6_whole wsX6_whole ({ frames := 7, cells := 1, slots := 6, locals := 110 } : Room) (xPre D cy 116 (zce cy ad σ) ad AL sa sz [.ref (ad 0), .int p0]) (va_Qi Q (zB D 116 (zce cy ad) ad) (zAn 116 ad sz)) (zXC D 116 (zce cy ad) ad X (zAn 116 ad sz)) 1 6 (zAn 116 ad sz) := by
  refine vx_ofW (cc := cX6_whole) (maxL := 2) (ret := (some .int)) (by decide) rfl ?_
  intro p e s m args below meth c s₁ B hml htab hv
  obtain ⟨rfl, hsz, hj, hK, hw, hX, hAL⟩ := hv
  subst hsz
  have hx := B.exec
  have hb := B.bytes
  have hr := B.returns
  have hts := atoms_spec (ws := wsX6_whole) B.pre
  have hown : s.vm.findClass RX6 = some m.cls := findClass_of_methodNamed B.named
  have hlocks := B.notSynchronized
  have lk0 : Cond.fieldLink RX6 12 "TypeTrays" "state" "LTypeTrays$State;" ∈ wsX6_whole := List.mem_of_getElem? (i := 2) rfl
  have lk1 : Cond.fieldLink RX6 26 "TypeTrays" "commands" "LTypeTrays$Commands;" ∈ wsX6_whole := List.mem_of_getElem? (i := 1) rfl
  have inX6 : ∀ w ∈ u_ws RX6 TX6 4, w ∈ wsX6_whole := zin_at 94 rfl
  have inX0 : ∀ w ∈ u_ws RX0 TX0 6, w ∈ wsX6_whole := zin_at 98 rfl
  have hS : va_S (zAn 116 ad s.heap.size) s.heap s.heap [] := va_S.rf
  have hA : ∀ i, i < 116 → zAn 116 ad s.heap.size (ad i) := fun i hi => Or.inl ⟨i, hi, rfl⟩
  have hl := lv_entry ([.ref (ad 0), .int p0]) (n := 2) (Nat.le_of_ble_eq_true rfl)
  rw [lg_entry_eq]
  generalize (lg_sl ([.ref (ad 0), .int p0]) ++ List.replicate (2 - (lg_sl ([.ref (ad 0), .int p0])).length) Slot.unset).toArray = ls at hl ⊢
  have hl : lv_has ls 2 [(0, .ref (ad 0)), (1, .int p0)] := hl
  show W p l e ({ frames := 7, cells := 1, slots := 6, locals := 110 } : Room) s m ([.ref (ad 0), .int p0] : List Value).toArray below meth c s.heap [] 0 0 (vx_MQ below (va_Qi Q (zB D 116 (zce cy ad) ad) (zAn 116 ad s.heap.size)) (zXC D 116 (zce cy ad) ad X (zAn 116 ad s.heap.size)) ([.ref (ad 0), .int p0] : List Value).toArray s 1 6 (zAn 116 ad s.heap.size)) (F0 m 0 ls [])
  unfold wx_X6_whole at h
  refine lv_iload_n hx hb dX6_whole_0 rfl (lv_at hl 1 rfl) ?_
  refine lv_bipush (v := (jI 13)) hx hb dX6_whole_1 (by decide +kernel) ?_
  refine k_X6_faultOfWhat (rest := []) hx hb hml hown hts gX6_whole_X6_faultOfWhat ⟨Nat.le_of_ble_eq_true rfl, Nat.le_of_ble_eq_true rfl⟩ ⟨Nat.le_of_ble_eq_true rfl, Nat.le_of_ble_eq_true rfl⟩ hK hj hw hA hS hl.1 (Nat.le_of_ble_eq_true rfl) dX6_whole_3 h (fun r1 s1 H locs h hw hS => ?_)
  refine zthrow (rest := []) hx hb hml hown hts hlt gX6_whole_X6_throwFor ⟨Nat.le_of_ble_eq_true rfl, Nat.le_of_ble_eq_true rfl⟩ ⟨Nat.le_of_ble_eq_true rfl, Nat.le_of_ble_eq_true rfl⟩ hK hj hw hX hAL hS hl.1 (Nat.le_of_ble_eq_true rfl) dX6_whole_6 htab hlocks (Nat.le_of_ble_eq_true rfl) (Nat.le_of_ble_eq_true rfl) h (fun s2 H locs h hw hS => ?_)
  refine lv_iload_n hx hb dX6_whole_9 rfl (lv_at hl 1 rfl) ?_
  refine lv_bipush (v := (jI 12)) hx hb dX6_whole_10 (by decide +kernel) ?_
  refine lv_icmp_ne (tgt := 25) hx hb dX6_whole_12 (by decide) (fun c1 => ?_) (fun c1 => ?_)
  · have h := h.2 c1
    refine lv_aload_n hx hb dX6_whole_25 rfl (lv_at hl 0 rfl) ?_
    refine zget hx hb hts inX6 hown hK hw 0 (by decide) rfl rfl 0 (by decide) lk0 (fun _ h9 => h9) rfl dX6_whole_26 ?_
    refine lv_iload_n hx hb dX6_whole_29 rfl (lv_at hl 1 rfl) ?_
    refine k_X4_wholeValue (rest := []) hx hb hml hown hts gX6_whole_X4_wholeValue ⟨Nat.le_of_ble_eq_true rfl, Nat.le_of_ble_eq_true rfl⟩ ⟨Nat.le_of_ble_eq_true rfl, Nat.le_of_ble_eq_true rfl⟩ hK hj hw hA hS hl.1 (Nat.le_of_ble_eq_true rfl) dX6_whole_30 h (fun r2 s3 H locs h hw hS => ?_)
    refine vx_ret (W.widen (k := 1) (n := 6) (Nat.le_of_ble_eq_true rfl) (Nat.le_of_ble_eq_true rfl) ?_)
    exact W.iret (v := r2) hx hb hr (fun t ht hW => ⟨⟨_, _, rfl, h, zend hw ht⟩, hS.F ht⟩) hS.2.2 dX6_whole_33
  · have h := h.1 c1
    refine lv_aload_n hx hb dX6_whole_15 rfl (lv_at hl 0 rfl) ?_
    refine zget hx hb hts inX6 hown hK hw 0 (by decide) rfl rfl 2 (by decide) lk1 (fun _ h9 => h9) rfl dX6_whole_16 ?_
    refine zgetN (own := RX6) (index := 129) (host := "TypeTrays") hx hb hts inX0 hown hK hw 3 (by decide) rfl rfl 1 (by decide) (by decide +kernel) (fun _ h9 => h9) rfl dX6_whole_19 ?_
    refine lv_goto (tgt := 33) hx hb dX6_whole_22 (by decide) ?_
    refine vx_ret (W.widen (k := 1) (n := 6) (Nat.le_of_ble_eq_true rfl) (Nat.le_of_ble_eq_true rfl) ?_)
    exact W.iret (v := (s2.2 42)) hx hb hr (fun t ht hW => ⟨⟨_, _, rfl, h, zend hw ht⟩, hS.F ht⟩) hS.2.2 dX6_whole_33
set_option maxHeartbeats 4000000 in
set_option maxRecDepth 100000 in
theorem t_X6_rule (l : Launch) (hlt : l.stackTraces = false) (D : va_G) (cy : cyT) (ad : Nat → Nat) (AL : Nat → Prop) (sa : Nat → Nat) (sz : Nat) (σ : ST) (p0 : Int32) (p1 : Int32) (p2 : Int32) {Q : Int32 → ST → Prop} {X : Nat → ST → Prop} (h : wx_X6_rule σ p0 p1 p2 Q X) : vx_Met l yX6_rule wsX6_rule ({ frames := 7, cells := 1, slots := 6, locals := 113 } : Room) (xPre D cy 116 (zce cy ad σ) ad AL sa sz [.ref (ad 0), .int p0, .int p1, .int p2]) (va_Qi Q (zB D 116 (zce cy ad) ad) (zAn 116 ad sz)) (zXC D 116 (zce cy ad) ad X (zAn 116 ad sz)) 1 6 (zAn 116 ad sz) := by
  refine vx_ofW (cc := cX6_rule) (maxL := 4) (ret := (some .int)) (by decide) rfl ?_
  intro p e s m args below meth c s₁ B hml htab hv
  obtain ⟨rfl, hsz, hj, hK, hw, hX, hAL⟩ := hv
  subst hsz
  have hx := B.exec
  have hb := B.bytes
  have hr := B.returns
  have hts := atoms_spec (ws := wsX6_rule) B.pre
  have hown : s.vm.findClass RX6 = some m.cls := findClass_of_methodNamed B.named
  have hlocks := B.notSynchronized
  have lk0 : Cond.fieldLink RX6 33 "TypeTrays" "place" "LTypeTrays$Place;" ∈ wsX6_rule := List.mem_of_getElem? (i := 1) rfl
  have lk1 : Cond.fieldLink RX6 12 "TypeTrays" "state" "LTypeTrays$State;" ∈ wsX6_rule := List.mem_of_getElem? (i := 2) rfl
  have inX6 : ∀ w ∈ u_ws RX6 TX6 4, w ∈ wsX6_rule := zin_at 150 rfl
  have inX2 : ∀ w ∈ u_ws RX2 TX2 5, w ∈ wsX6_rule := zin_at 154 rfl
  have hS : va_S (zAn 116 ad s.heap.size) s.heap s.heap [] := va_S.rf
  have hA : ∀ i, i < 116 → zAn 116 ad s.heap.size (ad i) := fun i hi => Or.inl ⟨i, hi, rfl⟩
  have hl := lv_entry ([.ref (ad 0), .int p0, .int p1, .int p2]) (n := 4) (Nat.le_of_ble_eq_true rfl)
  rw [lg_entry_eq]
  generalize (lg_sl ([.ref (ad 0), .int p0, .int p1, .int p2]) ++ List.replicate (4 - (lg_sl ([.ref (ad 0), .int p0, .int p1, .int p2])).length) Slot.unset).toArray = ls at hl ⊢
  have hl : lv_has ls 4 [(0, .ref (ad 0)), (1, .int p0), (2, .int p1), (3, .int p2)] := hl
  show W p l e ({ frames := 7, cells := 1, slots := 6, locals := 113 } : Room) s m ([.ref (ad 0), .int p0, .int p1, .int p2] : List Value).toArray below meth c s.heap [] 0 0 (vx_MQ below (va_Qi Q (zB D 116 (zce cy ad) ad) (zAn 116 ad s.heap.size)) (zXC D 116 (zce cy ad) ad X (zAn 116 ad s.heap.size)) ([.ref (ad 0), .int p0, .int p1, .int p2] : List Value).toArray s 1 6 (zAn 116 ad s.heap.size)) (F0 m 0 ls [])
  unfold wx_X6_rule at h
  refine lv_iload_n hx hb dX6_rule_0 rfl (lv_at hl 1 rfl) ?_
  refine lv_iload_n hx hb dX6_rule_1 rfl (lv_at hl 2 rfl) ?_
  refine lv_iload_n hx hb dX6_rule_2 rfl (lv_at hl 3 rfl) ?_
  refine k_X6_faultOfLetter (rest := []) hx hb hml hown hts gX6_rule_X6_faultOfLetter ⟨Nat.le_of_ble_eq_true rfl, Nat.le_of_ble_eq_true rfl⟩ ⟨Nat.le_of_ble_eq_true rfl, Nat.le_of_ble_eq_true rfl⟩ hK hj hw hA hS hl.1 (Nat.le_of_ble_eq_true rfl) dX6_rule_3 h (fun r1 s1 H locs h hw hS => ?_)
  refine zthrow (rest := []) hx hb hml hown hts hlt gX6_rule_X6_throwFor ⟨Nat.le_of_ble_eq_true rfl, Nat.le_of_ble_eq_true rfl⟩ ⟨Nat.le_of_ble_eq_true rfl, Nat.le_of_ble_eq_true rfl⟩ hK hj hw hX hAL hS hl.1 (Nat.le_of_ble_eq_true rfl) dX6_rule_6 htab hlocks (Nat.le_of_ble_eq_true rfl) (Nat.le_of_ble_eq_true rfl) h (fun s2 H locs h hw hS => ?_)
  refine lv_aload_n hx hb dX6_rule_9 rfl (lv_at hl 0 rfl) ?_
  refine zget hx hb hts inX6 hown hK hw 0 (by decide) rfl rfl 3 (by decide) lk0 (fun _ h9 => h9) rfl dX6_rule_10 ?_
  refine lv_aload_n hx hb dX6_rule_13 rfl (lv_at hl 0 rfl) ?_
  refine zget hx hb hts inX6 hown hK hw 0 (by decide) rfl rfl 0 (by decide) lk1 (fun _ h9 => h9) rfl dX6_rule_14 ?_
  refine lv_iload_n hx hb dX6_rule_17 rfl (lv_at hl 1 rfl) ?_
  refine lv_iload_n hx hb dX6_rule_18 rfl (lv_at hl 2 rfl) ?_
  refine lv_iload_n hx hb dX6_rule_19 rfl (lv_at hl 3 rfl) ?_
  refine k_X6_letterNumber (rest := [.ref (ad 5), .ref (ad 4)]) hx hb hml hown hts gX6_rule_X6_letterNumber ⟨Nat.le_of_ble_eq_true rfl, Nat.le_of_ble_eq_true rfl⟩ ⟨Nat.le_of_ble_eq_true rfl, Nat.le_of_ble_eq_true rfl⟩ hK hj hw hA hS hl.1 (Nat.le_of_ble_eq_true rfl) dX6_rule_20 h (fun r2 s3 H locs h hw hS => ?_)
  refine k_X2_find (rest := []) hx hb hml hown hts gX6_rule_X2_find ⟨Nat.le_of_ble_eq_true rfl, Nat.le_of_ble_eq_true rfl⟩ ⟨Nat.le_of_ble_eq_true rfl, Nat.le_of_ble_eq_true rfl⟩ hK hj hw hA hS hl.1 (Nat.le_of_ble_eq_true rfl) dX6_rule_23 h (fun s4 H locs h hw hS => ?_)
  refine lv_aload_n hx hb dX6_rule_26 rfl (lv_at hl 0 rfl) ?_
  refine zget hx hb hts inX6 hown hK hw 0 (by decide) rfl rfl 3 (by decide) lk0 (fun _ h9 => h9) rfl dX6_rule_27 ?_
  refine zgetN (own := RX6) (index := 62) (host := "TypeTrays") hx hb hts inX2 hown hK hw 4 (by decide) rfl rfl 0 (by decide) (by decide +kernel) (fun _ h9 => h9) rfl dX6_rule_30 ?_
  refine vx_ret (W.widen (k := 1) (n := 6) (Nat.le_of_ble_eq_true rfl) (Nat.le_of_ble_eq_true rfl) ?_)
  exact W.iret (v := (s4.2 45)) hx hb hr (fun t ht hW => ⟨⟨_, _, rfl, h, zend hw ht⟩, hS.F ht⟩) hS.2.2 dX6_rule_33
set_option maxHeartbeats 4000000 in
set_option maxRecDepth 100000 in
theorem t_X6_takenBy (l : Launch) (hlt : l.stackTraces = false) (D : va_G) (cy : cyT) (ad : Nat → Nat) (AL : Nat → Prop) (sa : Nat → Nat) (sz : Nat) (σ : ST) (p0 : Int32) (p1 : Int32) (p2 : Int32) {Q : Int32 → ST → Prop} {X : Nat → ST → Prop} (h : wx_X6_takenBy σ p0 p1 p2 Q X) : vx_Met l yX6_takenBy wsX6_takenBy ({ frames := 7, cells := 1, slots := 6, locals := 113 } : Room) (xPre D cy 116 (zce cy ad σ) ad AL sa sz [.ref (ad 0), .int p0, .int p1, .int p2]) (va_Qi Q (zB D 116 (zce cy ad) ad) (zAn 116 ad sz)) (zXC D 116 (zce cy ad) ad X (zAn 116 ad sz)) 1 6 (zAn 116 ad sz) := by
  refine vx_ofW (cc := cX6_takenBy) (maxL := 4) (ret := (some .int)) (by decide) rfl ?_
  intro p e s m args below meth c s₁ B hml htab hv
  obtain ⟨rfl, hsz, hj, hK, hw, hX, hAL⟩ := hv
  subst hsz
  have hx := B.exec
  have hb := B.bytes
  have hr := B.returns
  have hts := atoms_spec (ws := wsX6_takenBy) B.pre
  have hown : s.vm.findClass RX6 = some m.cls := findClass_of_methodNamed B.named
  have hlocks := B.notSynchronized
  have lk0 : Cond.fieldLink RX6 33 "TypeTrays" "place" "LTypeTrays$Place;" ∈ wsX6_takenBy := List.mem_of_getElem? (i := 1) rfl
  have lk1 : Cond.fieldLink RX6 12 "TypeTrays" "state" "LTypeTrays$State;" ∈ wsX6_takenBy := List.mem_of_getElem? (i := 2) rfl
  have inX6 : ∀ w ∈ u_ws RX6 TX6 4, w ∈ wsX6_takenBy := zin_at 150 rfl
  have inX2 : ∀ w ∈ u_ws RX2 TX2 5, w ∈ wsX6_takenBy := zin_at 154 rfl
  have hS : va_S (zAn 116 ad s.heap.size) s.heap s.heap [] := va_S.rf
  have hA : ∀ i, i < 116 → zAn 116 ad s.heap.size (ad i) := fun i hi => Or.inl ⟨i, hi, rfl⟩
  have hl := lv_entry ([.ref (ad 0), .int p0, .int p1, .int p2]) (n := 4) (Nat.le_of_ble_eq_true rfl)
  rw [lg_entry_eq]
  generalize (lg_sl ([.ref (ad 0), .int p0, .int p1, .int p2]) ++ List.replicate (4 - (lg_sl ([.ref (ad 0), .int p0, .int p1, .int p2])).length) Slot.unset).toArray = ls at hl ⊢
  have hl : lv_has ls 4 [(0, .ref (ad 0)), (1, .int p0), (2, .int p1), (3, .int p2)] := hl
  show W p l e ({ frames := 7, cells := 1, slots := 6, locals := 113 } : Room) s m ([.ref (ad 0), .int p0, .int p1, .int p2] : List Value).toArray below meth c s.heap [] 0 0 (vx_MQ below (va_Qi Q (zB D 116 (zce cy ad) ad) (zAn 116 ad s.heap.size)) (zXC D 116 (zce cy ad) ad X (zAn 116 ad s.heap.size)) ([.ref (ad 0), .int p0, .int p1, .int p2] : List Value).toArray s 1 6 (zAn 116 ad s.heap.size)) (F0 m 0 ls [])
  unfold wx_X6_takenBy at h
  refine lv_iload_n hx hb dX6_takenBy_0 rfl (lv_at hl 1 rfl) ?_
  refine lv_iload_n hx hb dX6_takenBy_1 rfl (lv_at hl 2 rfl) ?_
  refine lv_iload_n hx hb dX6_takenBy_2 rfl (lv_at hl 3 rfl) ?_
  refine k_X6_faultOfLetter (rest := []) hx hb hml hown hts gX6_takenBy_X6_faultOfLetter ⟨Nat.le_of_ble_eq_true rfl, Nat.le_of_ble_eq_true rfl⟩ ⟨Nat.le_of_ble_eq_true rfl, Nat.le_of_ble_eq_true rfl⟩ hK hj hw hA hS hl.1 (Nat.le_of_ble_eq_true rfl) dX6_takenBy_3 h (fun r1 s1 H locs h hw hS => ?_)
  refine zthrow (rest := []) hx hb hml hown hts hlt gX6_takenBy_X6_throwFor ⟨Nat.le_of_ble_eq_true rfl, Nat.le_of_ble_eq_true rfl⟩ ⟨Nat.le_of_ble_eq_true rfl, Nat.le_of_ble_eq_true rfl⟩ hK hj hw hX hAL hS hl.1 (Nat.le_of_ble_eq_true rfl) dX6_takenBy_6 htab hlocks (Nat.le_of_ble_eq_true rfl) (Nat.le_of_ble_eq_true rfl) h (fun s2 H locs h hw hS => ?_)
  refine lv_aload_n hx hb dX6_takenBy_9 rfl (lv_at hl 0 rfl) ?_
  refine zget hx hb hts inX6 hown hK hw 0 (by decide) rfl rfl 3 (by decide) lk0 (fun _ h9 => h9) rfl dX6_takenBy_10 ?_
  refine lv_aload_n hx hb dX6_takenBy_13 rfl (lv_at hl 0 rfl) ?_
  refine zget hx hb hts inX6 hown hK hw 0 (by decide) rfl rfl 0 (by decide) lk1 (fun _ h9 => h9) rfl dX6_takenBy_14 ?_
  refine lv_iload_n hx hb dX6_takenBy_17 rfl (lv_at hl 1 rfl) ?_
  refine lv_iload_n hx hb dX6_takenBy_18 rfl (lv_at hl 2 rfl) ?_
  refine lv_iload_n hx hb dX6_takenBy_19 rfl (lv_at hl 3 rfl) ?_
  refine k_X6_letterNumber (rest := [.ref (ad 5), .ref (ad 4)]) hx hb hml hown hts gX6_takenBy_X6_letterNumber ⟨Nat.le_of_ble_eq_true rfl, Nat.le_of_ble_eq_true rfl⟩ ⟨Nat.le_of_ble_eq_true rfl, Nat.le_of_ble_eq_true rfl⟩ hK hj hw hA hS hl.1 (Nat.le_of_ble_eq_true rfl) dX6_takenBy_20 h (fun r2 s3 H locs h hw hS => ?_)
  refine k_X2_find (rest := []) hx hb hml hown hts gX6_takenBy_X2_find ⟨Nat.le_of_ble_eq_true rfl, Nat.le_of_ble_eq_true rfl⟩ ⟨Nat.le_of_ble_eq_true rfl, Nat.le_of_ble_eq_true rfl⟩ hK hj hw hA hS hl.1 (Nat.le_of_ble_eq_true rfl) dX6_takenBy_23 h (fun s4 H locs h hw hS => ?_)
  refine lv_aload_n hx hb dX6_takenBy_26 rfl (lv_at hl 0 rfl) ?_
  refine zget hx hb hts inX6 hown hK hw 0 (by decide) rfl rfl 3 (by decide) lk0 (fun _ h9 => h9) rfl dX6_takenBy_27 ?_
  refine zgetN (own := RX6) (index := 62) (host := "TypeTrays") hx hb hts inX2 hown hK hw 4 (by decide) rfl rfl 0 (by decide) (by decide +kernel) (fun _ h9 => h9) rfl dX6_takenBy_30 ?_
  refine lv_iconst (v := (jI (-1))) hx hb dX6_takenBy_33 rfl ?_
  refine lv_icmp_ne (tgt := 41) hx hb dX6_takenBy_34 (by decide) (fun c1 => ?_) (fun c1 => ?_)
  · have h := h.2 c1
    refine lv_aload_n hx hb dX6_takenBy_41 rfl (lv_at hl 0 rfl) ?_
    refine zget hx hb hts inX6 hown hK hw 0 (by decide) rfl rfl 3 (by decide) lk0 (fun _ h9 => h9) rfl dX6_takenBy_42 ?_
    refine zgetN (own := RX6) (index := 139) (host := "TypeTrays") hx hb hts inX2 hown hK hw 4 (by decide) rfl rfl 3 (by decide) (by decide +kernel) (fun _ h9 => h9) rfl dX6_takenBy_45 ?_
    refine vx_ret (W.widen (k := 1) (n := 6) (Nat.le_of_ble_eq_true rfl) (Nat.le_of_ble_eq_true rfl) ?_)
    exact W.iret (v := (s4.2 48)) hx hb hr (fun t ht hW => ⟨⟨_, _, rfl, h, zend hw ht⟩, hS.F ht⟩) hS.2.2 dX6_takenBy_48
  · have h := h.1 c1
    refine lv_iconst (v := (jI (-1))) hx hb dX6_takenBy_37 rfl ?_
    refine lv_goto (tgt := 48) hx hb dX6_takenBy_38 (by decide) ?_
    refine vx_ret (W.widen (k := 1) (n := 6) (Nat.le_of_ble_eq_true rfl) (Nat.le_of_ble_eq_true rfl) ?_)
    exact W.iret (v := (jI (-1))) hx hb hr (fun t ht hW => ⟨⟨_, _, rfl, h, zend hw ht⟩, hS.F ht⟩) hS.2.2 dX6_takenBy_48
set_option maxHeartbeats 4000000 in
set_option maxRecDepth 100000 in
theorem t_X6_costOf (l : Launch) (hlt : l.stackTraces = false) (D : va_G) (cy : cyT) (ad : Nat → Nat) (AL : Nat → Prop) (sa : Nat → Nat) (sz : Nat) (σ : ST) (p0 : Int32) (p1 : Int32) (p2 : Int32) {Q : Int32 → ST → Prop} {X : Nat → ST → Prop} (h : wx_X6_costOf σ p0 p1 p2 Q X) : vx_Met l yX6_costOf wsX6_costOf ({ frames := 7, cells := 1, slots := 6, locals := 113 } : Room) (xPre D cy 116 (zce cy ad σ) ad AL sa sz [.ref (ad 0), .int p0, .int p1, .int p2]) (va_Qi Q (zB D 116 (zce cy ad) ad) (zAn 116 ad sz)) (zXC D 116 (zce cy ad) ad X (zAn 116 ad sz)) 1 6 (zAn 116 ad sz) := by
  refine vx_ofW (cc := cX6_costOf) (maxL := 5) (ret := (some .int)) (by decide) rfl ?_
  intro p e s m args below meth c s₁ B hml htab hv
  obtain ⟨rfl, hsz, hj, hK, hw, hX, hAL⟩ := hv
  subst hsz
  have hx := B.exec
  have hb := B.bytes
  have hr := B.returns
  have hts := atoms_spec (ws := wsX6_costOf) B.pre
  have hown : s.vm.findClass RX6 = some m.cls := findClass_of_methodNamed B.named
  have hlocks := B.notSynchronized
  have lk0 : Cond.fieldLink RX6 33 "TypeTrays" "place" "LTypeTrays$Place;" ∈ wsX6_costOf := List.mem_of_getElem? (i := 1) rfl
  have lk1 : Cond.fieldLink RX6 12 "TypeTrays" "state" "LTypeTrays$State;" ∈ wsX6_costOf := List.mem_of_getElem? (i := 2) rfl
  have inX6 : ∀ w ∈ u_ws RX6 TX6 4, w ∈ wsX6_costOf := zin_at 161 rfl
  have inX2 : ∀ w ∈ u_ws RX2 TX2 5, w ∈ wsX6_costOf := zin_at 165 rfl
  have hS : va_S (zAn 116 ad s.heap.size) s.heap s.heap [] := va_S.rf
  have hA : ∀ i, i < 116 → zAn 116 ad s.heap.size (ad i) := fun i hi => Or.inl ⟨i, hi, rfl⟩
  have hl := lv_entry ([.ref (ad 0), .int p0, .int p1, .int p2]) (n := 5) (Nat.le_of_ble_eq_true rfl)
  rw [lg_entry_eq]
  generalize (lg_sl ([.ref (ad 0), .int p0, .int p1, .int p2]) ++ List.replicate (5 - (lg_sl ([.ref (ad 0), .int p0, .int p1, .int p2])).length) Slot.unset).toArray = ls at hl ⊢
  have hl : lv_has ls 5 [(0, .ref (ad 0)), (1, .int p0), (2, .int p1), (3, .int p2)] := hl
  show W p l e ({ frames := 7, cells := 1, slots := 6, locals := 113 } : Room) s m ([.ref (ad 0), .int p0, .int p1, .int p2] : List Value).toArray below meth c s.heap [] 0 0 (vx_MQ below (va_Qi Q (zB D 116 (zce cy ad) ad) (zAn 116 ad s.heap.size)) (zXC D 116 (zce cy ad) ad X (zAn 116 ad s.heap.size)) ([.ref (ad 0), .int p0, .int p1, .int p2] : List Value).toArray s 1 6 (zAn 116 ad s.heap.size)) (F0 m 0 ls [])
  unfold wx_X6_costOf at h
  refine lv_iload_n hx hb dX6_costOf_0 rfl (lv_at hl 1 rfl) ?_
  refine lv_iload_n hx hb dX6_costOf_1 rfl (lv_at hl 2 rfl) ?_
  refine lv_iload_n hx hb dX6_costOf_2 rfl (lv_at hl 3 rfl) ?_
  refine k_X6_faultOfLetter (rest := []) hx hb hml hown hts gX6_costOf_X6_faultOfLetter ⟨Nat.le_of_ble_eq_true rfl, Nat.le_of_ble_eq_true rfl⟩ ⟨Nat.le_of_ble_eq_true rfl, Nat.le_of_ble_eq_true rfl⟩ hK hj hw hA hS hl.1 (Nat.le_of_ble_eq_true rfl) dX6_costOf_3 h (fun r1 s1 H locs h hw hS => ?_)
  refine zthrow (rest := []) hx hb hml hown hts hlt gX6_costOf_X6_throwFor ⟨Nat.le_of_ble_eq_true rfl, Nat.le_of_ble_eq_true rfl⟩ ⟨Nat.le_of_ble_eq_true rfl, Nat.le_of_ble_eq_true rfl⟩ hK hj hw hX hAL hS hl.1 (Nat.le_of_ble_eq_true rfl) dX6_costOf_6 htab hlocks (Nat.le_of_ble_eq_true rfl) (Nat.le_of_ble_eq_true rfl) h (fun s2 H locs h hw hS => ?_)
  refine lv_iload_n hx hb dX6_costOf_9 rfl (lv_at hl 1 rfl) ?_
  refine lv_iload_n hx hb dX6_costOf_10 rfl (lv_at hl 2 rfl) ?_
  refine lv_iload_n hx hb dX6_costOf_11 rfl (lv_at hl 3 rfl) ?_
  refine k_X6_letterNumber (rest := []) hx hb hml hown hts gX6_costOf_X6_letterNumber ⟨Nat.le_of_ble_eq_true rfl, Nat.le_of_ble_eq_true rfl⟩ ⟨Nat.le_of_ble_eq_true rfl, Nat.le_of_ble_eq_true rfl⟩ hK hj hw hA hS hl.1 (Nat.le_of_ble_eq_true rfl) dX6_costOf_12 h (fun r2 s3 H locs h hw hS => ?_)
  refine lv_istore (lv' := [(4, .int r2), (0, .ref (ad 0)), (1, .int p0), (2, .int p1), (3, .int p2)]) hx hb dX6_costOf_15 hl (by decide) rfl (fun ls hl => ?_)
  refine lv_aload_n hx hb dX6_costOf_17 rfl (lv_at hl 1 rfl) ?_
  refine zget hx hb hts inX6 hown hK hw 0 (by decide) rfl rfl 3 (by decide) lk0 (fun _ h9 => h9) rfl dX6_costOf_18 ?_
  refine lv_aload_n hx hb dX6_costOf_21 rfl (lv_at hl 1 rfl) ?_
  refine zget hx hb hts inX6 hown hK hw 0 (by decide) rfl rfl 0 (by decide) lk1 (fun _ h9 => h9) rfl dX6_costOf_22 ?_
  refine lv_iload hx hb dX6_costOf_25 (lv_at hl 0 rfl) ?_
  refine k_X2_find (rest := []) hx hb hml hown hts gX6_costOf_X2_find ⟨Nat.le_of_ble_eq_true rfl, Nat.le_of_ble_eq_true rfl⟩ ⟨Nat.le_of_ble_eq_true rfl, Nat.le_of_ble_eq_true rfl⟩ hK hj hw hA hS hl.1 (Nat.le_of_ble_eq_true rfl) dX6_costOf_27 h (fun s4 H locs h hw hS => ?_)
  refine lv_aload_n hx hb dX6_costOf_30 rfl (lv_at hl 1 rfl) ?_
  refine zget hx hb hts inX6 hown hK hw 0 (by decide) rfl rfl 3 (by decide) lk0 (fun _ h9 => h9) rfl dX6_costOf_31 ?_
  refine zgetN (own := RX6) (index := 62) (host := "TypeTrays") hx hb hts inX2 hown hK hw 4 (by decide) rfl rfl 0 (by decide) (by decide +kernel) (fun _ h9 => h9) rfl dX6_costOf_34 ?_
  refine lv_iconst (v := (jI (-1))) hx hb dX6_costOf_37 rfl ?_
  refine lv_icmp_ne (tgt := 43) hx hb dX6_costOf_38 (by decide) (fun c1 => ?_) (fun c1 => ?_)
  · have h := h.2 c1
    refine lv_aload_n hx hb dX6_costOf_43 rfl (lv_at hl 1 rfl) ?_
    refine zget hx hb hts inX6 hown hK hw 0 (by decide) rfl rfl 3 (by decide) lk0 (fun _ h9 => h9) rfl dX6_costOf_44 ?_
    refine zgetN (own := RX6) (index := 62) (host := "TypeTrays") hx hb hts inX2 hown hK hw 4 (by decide) rfl rfl 0 (by decide) (by decide +kernel) (fun _ h9 => h9) rfl dX6_costOf_47 ?_
    refine zif_ne (tgt := 57) hx hb dX6_costOf_50 (by decide) (fun c2 => ?_) (fun c2 => ?_)
    · have h := h.2 c2
      refine lv_aload_n hx hb dX6_costOf_57 rfl (lv_at hl 1 rfl) ?_
      refine zget hx hb hts inX6 hown hK hw 0 (by decide) rfl rfl 0 (by decide) lk1 (fun _ h9 => h9) rfl dX6_costOf_58 ?_
      refine lv_iload hx hb dX6_costOf_61 (lv_at hl 0 rfl) ?_
      refine k_X4_inkFor (rest := []) hx hb hml hown hts gX6_costOf_X4_inkFor ⟨Nat.le_of_ble_eq_true rfl, Nat.le_of_ble_eq_true rfl⟩ ⟨Nat.le_of_ble_eq_true rfl, Nat.le_of_ble_eq_true rfl⟩ hK hj hw hA hS hl.1 (Nat.le_of_ble_eq_true rfl) dX6_costOf_63 h (fun r3 s5 H locs h hw hS => ?_)
      refine vx_ret (W.widen (k := 1) (n := 6) (Nat.le_of_ble_eq_true rfl) (Nat.le_of_ble_eq_true rfl) ?_)
      exact W.iret (v := r3) hx hb hr (fun t ht hW => ⟨⟨_, _, rfl, h, zend hw ht⟩, hS.F ht⟩) hS.2.2 dX6_costOf_66
    · have h := h.1 c2
      refine lv_iconst (v := (jI 0)) hx hb dX6_costOf_53 rfl ?_
      refine lv_goto (tgt := 66) hx hb dX6_costOf_54 (by decide) ?_
      refine vx_ret (W.widen (k := 1) (n := 6) (Nat.le_of_ble_eq_true rfl) (Nat.le_of_ble_eq_true rfl) ?_)
      exact W.iret (v := (jI 0)) hx hb hr (fun t ht hW => ⟨⟨_, _, rfl, h, zend hw ht⟩, hS.F ht⟩) hS.2.2 dX6_costOf_66
  · have h := h.1 c1
    refine lv_iconst (v := (jI (-1))) hx hb dX6_costOf_41 rfl ?_
    refine vx_ret (W.widen (k := 1) (n := 6) (Nat.le_of_ble_eq_true rfl) (Nat.le_of_ble_eq_true rfl) ?_)
    exact W.iret (v := (jI (-1))) hx hb hr (fun t ht hW => ⟨⟨_, _, rfl, h, zend hw ht⟩, hS.F ht⟩) hS.2.2 dX6_costOf_42
set_option maxHeartbeats 4000000 in
set_option maxRecDepth 100000 in
theorem t_X6_type (l : Launch) (hlt : l.stackTraces = false) (D : va_G) (cy : cyT) (ad : Nat → Nat) (AL : Nat → Prop) (sa : Nat → Nat) (sz : Nat) (σ : ST) (p0 : Int32) {Q : Int32 → ST → Prop} {X : Nat → ST → Prop} (h : wx_X6_type σ p0 Q X) : vx_Met l yX6_type wsX6_type ({ frames := 7, cells := 2, slots := 12, locals := 110 } : Room) (xPre D cy 116 (zce cy ad σ) ad AL sa sz [.ref (ad 0), .int p0]) (va_Qi Q (zB D 116 (zce cy ad) ad) (zAn 116 ad sz)) (zXC D 116 (zce cy ad) ad X (zAn 116 ad sz)) 2 12 (zAn 116 ad sz) := by
  refine vx_ofW (cc := cX6_type) (maxL := 2) (ret := (some .int)) (by decide) rfl ?_
  intro p e s m args below meth c s₁ B hml htab hv
  obtain ⟨rfl, hsz, hj, hK, hw, hX, hAL⟩ := hv
  subst hsz
  have hx := B.exec
  have hb := B.bytes
  have hr := B.returns
  have hts := atoms_spec (ws := wsX6_type) B.pre
  have hown : s.vm.findClass RX6 = some m.cls := findClass_of_methodNamed B.named
  have hlocks := B.notSynchronized
  have lk0 : Cond.fieldLink RX6 26 "TypeTrays" "commands" "LTypeTrays$Commands;" ∈ wsX6_type := List.mem_of_getElem? (i := 1) rfl
  have inX6 : ∀ w ∈ u_ws RX6 TX6 4, w ∈ wsX6_type := zin_at 28 rfl
  have inX0 : ∀ w ∈ u_ws RX0 TX0 6, w ∈ wsX6_type := zin_at 32 rfl
  have hS : va_S (zAn 116 ad s.heap.size) s.heap s.heap [] := va_S.rf
  have hA : ∀ i, i < 116 → zAn 116 ad s.heap.size (ad i) := fun i hi => Or.inl ⟨i, hi, rfl⟩
  have hl := lv_entry ([.ref (ad 0), .int p0]) (n := 2) (Nat.le_of_ble_eq_true rfl)
  rw [lg_entry_eq]
  generalize (lg_sl ([.ref (ad 0), .int p0]) ++ List.replicate (2 - (lg_sl ([.ref (ad 0), .int p0])).length) Slot.unset).toArray = ls at hl ⊢
  have hl : lv_has ls 2 [(0, .ref (ad 0)), (1, .int p0)] := hl
  show W p l e ({ frames := 7, cells := 2, slots := 12, locals := 110 } : Room) s m ([.ref (ad 0), .int p0] : List Value).toArray below meth c s.heap [] 0 0 (vx_MQ below (va_Qi Q (zB D 116 (zce cy ad) ad) (zAn 116 ad s.heap.size)) (zXC D 116 (zce cy ad) ad X (zAn 116 ad s.heap.size)) ([.ref (ad 0), .int p0] : List Value).toArray s 2 12 (zAn 116 ad s.heap.size)) (F0 m 0 ls [])
  unfold wx_X6_type at h
  refine lv_iload_n hx hb dX6_type_0 rfl (lv_at hl 1 rfl) ?_
  refine lv_iconst (v := (jI 0)) hx hb dX6_type_1 rfl ?_
  refine lv_bipush (v := (jI 127)) hx hb dX6_type_2 (by decide +kernel) ?_
  refine k_X6_isBetween (rest := []) hx hb hml hown hts gX6_type_X6_isBetween ⟨Nat.le_of_ble_eq_true rfl, Nat.le_of_ble_eq_true rfl⟩ ⟨Nat.le_of_ble_eq_true rfl, Nat.le_of_ble_eq_true rfl⟩ hK hj hw hA hS hl.1 (Nat.le_of_ble_eq_true rfl) dX6_type_4 h (fun r1 s1 H locs h hw hS => ?_)
  refine zif_eq (tgt := 14) hx hb dX6_type_7 (by decide) (fun c1 => ?_) (fun c1 => ?_)
  · have h := h.1 c1
    refine lv_iconst (v := (jI 2)) hx hb dX6_type_14 rfl ?_
    refine zthrow (rest := []) hx hb hml hown hts hlt gX6_type_X6_throwFor ⟨Nat.le_of_ble_eq_true rfl, Nat.le_of_ble_eq_true rfl⟩ ⟨Nat.le_of_ble_eq_true rfl, Nat.le_of_ble_eq_true rfl⟩ hK hj hw hX hAL hS hl.1 (Nat.le_of_ble_eq_true rfl) dX6_type_15 htab hlocks (Nat.le_of_ble_eq_true rfl) (Nat.le_of_ble_eq_true rfl) h (fun s2 H locs h hw hS => ?_)
    refine lv_aload_n hx hb dX6_type_18 rfl (lv_at hl 0 rfl) ?_
    refine zget hx hb hts inX6 hown hK hw 0 (by decide) rfl rfl 2 (by decide) lk0 (fun _ h9 => h9) rfl dX6_type_19 ?_
    refine zgetN (own := RX6) (index := 129) (host := "TypeTrays") hx hb hts inX0 hown hK hw 3 (by decide) rfl rfl 1 (by decide) (by decide +kernel) (fun _ h9 => h9) rfl dX6_type_22 ?_
    refine lv_sipush (v := (jI 150)) hx hb dX6_type_25 (by decide +kernel) ?_
    refine lv_icmp_ge (tgt := 35) hx hb dX6_type_28 (by decide) (fun c2 => ?_) (fun c2 => ?_)
    · have h := h.1 c2
      refine lv_iconst (v := (jI 3)) hx hb dX6_type_35 rfl ?_
      refine zthrow (rest := []) hx hb hml hown hts hlt gX6_type_X6_throwFor ⟨Nat.le_of_ble_eq_true rfl, Nat.le_of_ble_eq_true rfl⟩ ⟨Nat.le_of_ble_eq_true rfl, Nat.le_of_ble_eq_true rfl⟩ hK hj hw hX hAL hS hl.1 (Nat.le_of_ble_eq_true rfl) dX6_type_36 htab hlocks (Nat.le_of_ble_eq_true rfl) (Nat.le_of_ble_eq_true rfl) h (fun s3 H locs h hw hS => ?_)
      refine lv_aload_n hx hb dX6_type_39 rfl (lv_at hl 0 rfl) ?_
      refine zget hx hb hts inX6 hown hK hw 0 (by decide) rfl rfl 2 (by decide) lk0 (fun _ h9 => h9) rfl dX6_type_40 ?_
      refine lv_iload_n hx hb dX6_type_43 rfl (lv_at hl 1 rfl) ?_
      refine k_X0_append (rest := []) hx hb hml hown hts gX6_type_X0_append ⟨Nat.le_of_ble_eq_true rfl, Nat.le_of_ble_eq_true rfl⟩ ⟨Nat.le_of_ble_eq_true rfl, Nat.le_of_ble_eq_true rfl⟩ hK hj hw hA hS hl.1 (Nat.le_of_ble_eq_true rfl) dX6_type_44 h (fun r2 s4 H locs h hw hS => ?_)
      refine vx_ret (W.widen (k := 2) (n := 12) (Nat.le_of_ble_eq_true rfl) (Nat.le_of_ble_eq_true rfl) ?_)
      exact W.iret (v := r2) hx hb hr (fun t ht hW => ⟨⟨_, _, rfl, h, zend hw ht⟩, hS.F ht⟩) hS.2.2 dX6_type_47
    · have h := h.2 c2
      refine lv_iconst (v := (jI 0)) hx hb dX6_type_31 rfl ?_
      refine lv_goto (tgt := 36) hx hb dX6_type_32 (by decide) ?_
      refine zthrow (rest := []) hx hb hml hown hts hlt gX6_type_X6_throwFor ⟨Nat.le_of_ble_eq_true rfl, Nat.le_of_ble_eq_true rfl⟩ ⟨Nat.le_of_ble_eq_true rfl, Nat.le_of_ble_eq_true rfl⟩ hK hj hw hX hAL hS hl.1 (Nat.le_of_ble_eq_true rfl) dX6_type_36 htab hlocks (Nat.le_of_ble_eq_true rfl) (Nat.le_of_ble_eq_true rfl) h (fun s5 H locs h hw hS => ?_)
      refine lv_aload_n hx hb dX6_type_39 rfl (lv_at hl 0 rfl) ?_
      refine zget hx hb hts inX6 hown hK hw 0 (by decide) rfl rfl 2 (by decide) lk0 (fun _ h9 => h9) rfl dX6_type_40 ?_
      refine lv_iload_n hx hb dX6_type_43 rfl (lv_at hl 1 rfl) ?_
      refine k_X0_append (rest := []) hx hb hml hown hts gX6_type_X0_append ⟨Nat.le_of_ble_eq_true rfl, Nat.le_of_ble_eq_true rfl⟩ ⟨Nat.le_of_ble_eq_true rfl, Nat.le_of_ble_eq_true rfl⟩ hK hj hw hA hS hl.1 (Nat.le_of_ble_eq_true rfl) dX6_type_44 h (fun r3 s6 H locs h hw hS => ?_)
      refine vx_ret (W.widen (k := 2) (n := 12) (Nat.le_of_ble_eq_true rfl) (Nat.le_of_ble_eq_true rfl) ?_)
      exact W.iret (v := r3) hx hb hr (fun t ht hW => ⟨⟨_, _, rfl, h, zend hw ht⟩, hS.F ht⟩) hS.2.2 dX6_type_47
  · have h := h.2 c1
    refine lv_iconst (v := (jI 0)) hx hb dX6_type_10 rfl ?_
    refine lv_goto (tgt := 15) hx hb dX6_type_11 (by decide) ?_
    refine zthrow (rest := []) hx hb hml hown hts hlt gX6_type_X6_throwFor ⟨Nat.le_of_ble_eq_true rfl, Nat.le_of_ble_eq_true rfl⟩ ⟨Nat.le_of_ble_eq_true rfl, Nat.le_of_ble_eq_true rfl⟩ hK hj hw hX hAL hS hl.1 (Nat.le_of_ble_eq_true rfl) dX6_type_15 htab hlocks (Nat.le_of_ble_eq_true rfl) (Nat.le_of_ble_eq_true rfl) h (fun s7 H locs h hw hS => ?_)
    refine lv_aload_n hx hb dX6_type_18 rfl (lv_at hl 0 rfl) ?_
    refine zget hx hb hts inX6 hown hK hw 0 (by decide) rfl rfl 2 (by decide) lk0 (fun _ h9 => h9) rfl dX6_type_19 ?_
    refine zgetN (own := RX6) (index := 129) (host := "TypeTrays") hx hb hts inX0 hown hK hw 3 (by decide) rfl rfl 1 (by decide) (by decide +kernel) (fun _ h9 => h9) rfl dX6_type_22 ?_
    refine lv_sipush (v := (jI 150)) hx hb dX6_type_25 (by decide +kernel) ?_
    refine lv_icmp_ge (tgt := 35) hx hb dX6_type_28 (by decide) (fun c3 => ?_) (fun c3 => ?_)
    · have h := h.1 c3
      refine lv_iconst (v := (jI 3)) hx hb dX6_type_35 rfl ?_
      refine zthrow (rest := []) hx hb hml hown hts hlt gX6_type_X6_throwFor ⟨Nat.le_of_ble_eq_true rfl, Nat.le_of_ble_eq_true rfl⟩ ⟨Nat.le_of_ble_eq_true rfl, Nat.le_of_ble_eq_true rfl⟩ hK hj hw hX hAL hS hl.1 (Nat.le_of_ble_eq_true rfl) dX6_type_36 htab hlocks (Nat.le_of_ble_eq_true rfl) (Nat.le_of_ble_eq_true rfl) h (fun s8 H locs h hw hS => ?_)
      refine lv_aload_n hx hb dX6_type_39 rfl (lv_at hl 0 rfl) ?_
      refine zget hx hb hts inX6 hown hK hw 0 (by decide) rfl rfl 2 (by decide) lk0 (fun _ h9 => h9) rfl dX6_type_40 ?_
      refine lv_iload_n hx hb dX6_type_43 rfl (lv_at hl 1 rfl) ?_
      refine k_X0_append (rest := []) hx hb hml hown hts gX6_type_X0_append ⟨Nat.le_of_ble_eq_true rfl, Nat.le_of_ble_eq_true rfl⟩ ⟨Nat.le_of_ble_eq_true rfl, Nat.le_of_ble_eq_true rfl⟩ hK hj hw hA hS hl.1 (Nat.le_of_ble_eq_true rfl) dX6_type_44 h (fun r4 s9 H locs h hw hS => ?_)
      refine vx_ret (W.widen (k := 2) (n := 12) (Nat.le_of_ble_eq_true rfl) (Nat.le_of_ble_eq_true rfl) ?_)
      exact W.iret (v := r4) hx hb hr (fun t ht hW => ⟨⟨_, _, rfl, h, zend hw ht⟩, hS.F ht⟩) hS.2.2 dX6_type_47
    · have h := h.2 c3
      refine lv_iconst (v := (jI 0)) hx hb dX6_type_31 rfl ?_
      refine lv_goto (tgt := 36) hx hb dX6_type_32 (by decide) ?_
      refine zthrow (rest := []) hx hb hml hown hts hlt gX6_type_X6_throwFor ⟨Nat.le_of_ble_eq_true rfl, Nat.le_of_ble_eq_true rfl⟩ ⟨Nat.le_of_ble_eq_true rfl, Nat.le_of_ble_eq_true rfl⟩ hK hj hw hX hAL hS hl.1 (Nat.le_of_ble_eq_true rfl) dX6_type_36 htab hlocks (Nat.le_of_ble_eq_true rfl) (Nat.le_of_ble_eq_true rfl) h (fun s10 H locs h hw hS => ?_)
      refine lv_aload_n hx hb dX6_type_39 rfl (lv_at hl 0 rfl) ?_
      refine zget hx hb hts inX6 hown hK hw 0 (by decide) rfl rfl 2 (by decide) lk0 (fun _ h9 => h9) rfl dX6_type_40 ?_
      refine lv_iload_n hx hb dX6_type_43 rfl (lv_at hl 1 rfl) ?_
      refine k_X0_append (rest := []) hx hb hml hown hts gX6_type_X0_append ⟨Nat.le_of_ble_eq_true rfl, Nat.le_of_ble_eq_true rfl⟩ ⟨Nat.le_of_ble_eq_true rfl, Nat.le_of_ble_eq_true rfl⟩ hK hj hw hA hS hl.1 (Nat.le_of_ble_eq_true rfl) dX6_type_44 h (fun r5 s11 H locs h hw hS => ?_)
      refine vx_ret (W.widen (k := 2) (n := 12) (Nat.le_of_ble_eq_true rfl) (Nat.le_of_ble_eq_true rfl) ?_)
      exact W.iret (v := r5) hx hb hr (fun t ht hW => ⟨⟨_, _, rfl, h, zend hw ht⟩, hS.F ht⟩) hS.2.2 dX6_type_47
set_option maxHeartbeats 4000000 in
set_option maxRecDepth 100000 in
theorem t_X6_undo (l : Launch) (hlt : l.stackTraces = false) (D : va_G) (cy : cyT) (ad : Nat → Nat) (AL : Nat → Prop) (sa : Nat → Nat) (sz : Nat) (σ : ST) {Q : Int32 → ST → Prop} {X : Nat → ST → Prop} (h : wx_X6_undo σ Q X) : vx_Met l yX6_undo wsX6_undo ({ frames := 7, cells := 1, slots := 6, locals := 110 } : Room) (xPre D cy 116 (zce cy ad σ) ad AL sa sz [.ref (ad 0)]) (va_Qi Q (zB D 116 (zce cy ad) ad) (zAn 116 ad sz)) (zXC D 116 (zce cy ad) ad X (zAn 116 ad sz)) 1 6 (zAn 116 ad sz) := by
  refine vx_ofW (cc := cX6_undo) (maxL := 1) (ret := (some .int)) (by decide) rfl ?_
  intro p e s m args below meth c s₁ B hml htab hv
  obtain ⟨rfl, hsz, hj, hK, hw, hX, hAL⟩ := hv
  subst hsz
  have hx := B.exec
  have hb := B.bytes
  have hr := B.returns
  have hts := atoms_spec (ws := wsX6_undo) B.pre
  have hown : s.vm.findClass RX6 = some m.cls := findClass_of_methodNamed B.named
  have hlocks := B.notSynchronized
  have lk0 : Cond.fieldLink RX6 19 "TypeTrays" "undoStack" "LTypeTrays$UndoStack;" ∈ wsX6_undo := List.mem_of_getElem? (i := 1) rfl
  have lk1 : Cond.fieldLink RX6 12 "TypeTrays" "state" "LTypeTrays$State;" ∈ wsX6_undo := List.mem_of_getElem? (i := 2) rfl
  have inX6 : ∀ w ∈ u_ws RX6 TX6 4, w ∈ wsX6_undo := zin_at 62 rfl
  have inX5 : ∀ w ∈ u_ws RX5 TX5 3, w ∈ wsX6_undo := zin_at 66 rfl
  have hS : va_S (zAn 116 ad s.heap.size) s.heap s.heap [] := va_S.rf
  have hA : ∀ i, i < 116 → zAn 116 ad s.heap.size (ad i) := fun i hi => Or.inl ⟨i, hi, rfl⟩
  have hl := lv_entry ([.ref (ad 0)]) (n := 1) (Nat.le_of_ble_eq_true rfl)
  rw [lg_entry_eq]
  generalize (lg_sl ([.ref (ad 0)]) ++ List.replicate (1 - (lg_sl ([.ref (ad 0)])).length) Slot.unset).toArray = ls at hl ⊢
  have hl : lv_has ls 1 [(0, .ref (ad 0))] := hl
  show W p l e ({ frames := 7, cells := 1, slots := 6, locals := 110 } : Room) s m ([.ref (ad 0)] : List Value).toArray below meth c s.heap [] 0 0 (vx_MQ below (va_Qi Q (zB D 116 (zce cy ad) ad) (zAn 116 ad s.heap.size)) (zXC D 116 (zce cy ad) ad X (zAn 116 ad s.heap.size)) ([.ref (ad 0)] : List Value).toArray s 1 6 (zAn 116 ad s.heap.size)) (F0 m 0 ls [])
  unfold wx_X6_undo at h
  refine lv_aload_n hx hb dX6_undo_0 rfl (lv_at hl 0 rfl) ?_
  refine zget hx hb hts inX6 hown hK hw 0 (by decide) rfl rfl 1 (by decide) lk0 (fun _ h9 => h9) rfl dX6_undo_1 ?_
  refine zgetN (own := RX6) (index := 170) (host := "TypeTrays") hx hb hts inX5 hown hK hw 1 (by decide) rfl rfl 2 (by decide) (by decide +kernel) (fun _ h9 => h9) rfl dX6_undo_4 ?_
  refine zif_le (tgt := 14) hx hb dX6_undo_7 (by decide) (fun c1 => ?_) (fun c1 => ?_)
  · have h := h.1 c1
    refine lv_iconst (v := (jI 3)) hx hb dX6_undo_14 rfl ?_
    refine zthrow (rest := []) hx hb hml hown hts hlt gX6_undo_X6_throwFor ⟨Nat.le_of_ble_eq_true rfl, Nat.le_of_ble_eq_true rfl⟩ ⟨Nat.le_of_ble_eq_true rfl, Nat.le_of_ble_eq_true rfl⟩ hK hj hw hX hAL hS hl.1 (Nat.le_of_ble_eq_true rfl) dX6_undo_15 htab hlocks (Nat.le_of_ble_eq_true rfl) (Nat.le_of_ble_eq_true rfl) h (fun s1 H locs h hw hS => ?_)
    refine lv_aload_n hx hb dX6_undo_18 rfl (lv_at hl 0 rfl) ?_
    refine zget hx hb hts inX6 hown hK hw 0 (by decide) rfl rfl 1 (by decide) lk0 (fun _ h9 => h9) rfl dX6_undo_19 ?_
    refine lv_aload_n hx hb dX6_undo_22 rfl (lv_at hl 0 rfl) ?_
    refine zget hx hb hts inX6 hown hK hw 0 (by decide) rfl rfl 0 (by decide) lk1 (fun _ h9 => h9) rfl dX6_undo_23 ?_
    refine k_X5_popInto (rest := []) hx hb hml hown hts gX6_undo_X5_popInto ⟨Nat.le_of_ble_eq_true rfl, Nat.le_of_ble_eq_true rfl⟩ ⟨Nat.le_of_ble_eq_true rfl, Nat.le_of_ble_eq_true rfl⟩ hK hj hw hA hS hl.1 (Nat.le_of_ble_eq_true rfl) dX6_undo_26 h (fun s2 H locs h hw hS => ?_)
    refine lv_aload_n hx hb dX6_undo_29 rfl (lv_at hl 0 rfl) ?_
    refine zget hx hb hts inX6 hown hK hw 0 (by decide) rfl rfl 1 (by decide) lk0 (fun _ h9 => h9) rfl dX6_undo_30 ?_
    refine zgetN (own := RX6) (index := 170) (host := "TypeTrays") hx hb hts inX5 hown hK hw 1 (by decide) rfl rfl 2 (by decide) (by decide +kernel) (fun _ h9 => h9) rfl dX6_undo_33 ?_
    refine vx_ret (W.widen (k := 1) (n := 6) (Nat.le_of_ble_eq_true rfl) (Nat.le_of_ble_eq_true rfl) ?_)
    exact W.iret (v := (s2.2 41)) hx hb hr (fun t ht hW => ⟨⟨_, _, rfl, h, zend hw ht⟩, hS.F ht⟩) hS.2.2 dX6_undo_36
  · have h := h.2 c1
    refine lv_iconst (v := (jI 0)) hx hb dX6_undo_10 rfl ?_
    refine lv_goto (tgt := 15) hx hb dX6_undo_11 (by decide) ?_
    refine zthrow (rest := []) hx hb hml hown hts hlt gX6_undo_X6_throwFor ⟨Nat.le_of_ble_eq_true rfl, Nat.le_of_ble_eq_true rfl⟩ ⟨Nat.le_of_ble_eq_true rfl, Nat.le_of_ble_eq_true rfl⟩ hK hj hw hX hAL hS hl.1 (Nat.le_of_ble_eq_true rfl) dX6_undo_15 htab hlocks (Nat.le_of_ble_eq_true rfl) (Nat.le_of_ble_eq_true rfl) h (fun s3 H locs h hw hS => ?_)
    refine lv_aload_n hx hb dX6_undo_18 rfl (lv_at hl 0 rfl) ?_
    refine zget hx hb hts inX6 hown hK hw 0 (by decide) rfl rfl 1 (by decide) lk0 (fun _ h9 => h9) rfl dX6_undo_19 ?_
    refine lv_aload_n hx hb dX6_undo_22 rfl (lv_at hl 0 rfl) ?_
    refine zget hx hb hts inX6 hown hK hw 0 (by decide) rfl rfl 0 (by decide) lk1 (fun _ h9 => h9) rfl dX6_undo_23 ?_
    refine k_X5_popInto (rest := []) hx hb hml hown hts gX6_undo_X5_popInto ⟨Nat.le_of_ble_eq_true rfl, Nat.le_of_ble_eq_true rfl⟩ ⟨Nat.le_of_ble_eq_true rfl, Nat.le_of_ble_eq_true rfl⟩ hK hj hw hA hS hl.1 (Nat.le_of_ble_eq_true rfl) dX6_undo_26 h (fun s4 H locs h hw hS => ?_)
    refine lv_aload_n hx hb dX6_undo_29 rfl (lv_at hl 0 rfl) ?_
    refine zget hx hb hts inX6 hown hK hw 0 (by decide) rfl rfl 1 (by decide) lk0 (fun _ h9 => h9) rfl dX6_undo_30 ?_
    refine zgetN (own := RX6) (index := 170) (host := "TypeTrays") hx hb hts inX5 hown hK hw 1 (by decide) rfl rfl 2 (by decide) (by decide +kernel) (fun _ h9 => h9) rfl dX6_undo_33 ?_
    refine vx_ret (W.widen (k := 1) (n := 6) (Nat.le_of_ble_eq_true rfl) (Nat.le_of_ble_eq_true rfl) ?_)
    exact W.iret (v := (s4.2 41)) hx hb hr (fun t ht hW => ⟨⟨_, _, rfl, h, zend hw ht⟩, hS.F ht⟩) hS.2.2 dX6_undo_36
theorem last_09 : True := trivial
