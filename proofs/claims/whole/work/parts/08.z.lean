/-! printed by wip/whole/gen.py -/
def wp_X6_newLine (σ : ST)  (Q : Int32 → ST → Prop) : Prop :=
  wp_X5_push σ (fun s1 => wp_X4_beginLine s1 (fun r1 s2 => Q r1 s2))
set_option maxHeartbeats 4000000 in
set_option maxRecDepth 100000 in
theorem c_X6_newLine (l : Launch) (D : va_G) (cy : cyT) (ad : Nat → Nat) (σ : ST) {Q : Int32 → ST → Prop} (h : wp_X6_newLine σ Q) : Met l yX6_newLine wsX6_newLine ({ frames := 4, cells := 0, slots := 0, locals := 104 } : Room) (zPre D cy 116 (zce cy ad σ) ad [.ref (ad 0)]) (va_Qi Q (zB D 116 (zce cy ad) ad) (zA 116 ad)) 0 0 (zA 116 ad) := by
  refine Met.ofW (cc := cX6_newLine) (maxL := 1) (ret := (some .int)) (by decide) rfl ?_
  intro p e s m args below meth c s₁ B hml hv
  obtain ⟨rfl, hj, hK, hw⟩ := hv
  have hx := B.exec
  have hb := B.bytes
  have hr := B.returns
  have hts := atoms_spec (ws := wsX6_newLine) B.pre
  have hown : s.vm.findClass RX6 = some m.cls := findClass_of_methodNamed B.named
  have hlocks := B.notSynchronized
  have lk0 : Cond.fieldLink RX6 19 "TypeTrays" "undoStack" "LTypeTrays$UndoStack;" ∈ wsX6_newLine := List.mem_of_getElem? (i := 1) rfl
  have lk1 : Cond.fieldLink RX6 12 "TypeTrays" "state" "LTypeTrays$State;" ∈ wsX6_newLine := List.mem_of_getElem? (i := 2) rfl
  have inX6 : ∀ w ∈ u_ws RX6 TX6 4, w ∈ wsX6_newLine := zin_at 68 rfl
  have hS : va_S (zA 116 ad) s.heap s.heap [] := va_S.rf
  have hA : ∀ i, i < 116 → zA 116 ad (ad i) := fun i hi => ⟨i, hi, rfl⟩
  have hl := lv_entry ([.ref (ad 0)]) (n := 1) (Nat.le_of_ble_eq_true rfl)
  rw [lg_entry_eq]
  generalize (lg_sl ([.ref (ad 0)]) ++ List.replicate (1 - (lg_sl ([.ref (ad 0)])).length) Slot.unset).toArray = ls at hl ⊢
  have hl : lv_has ls 1 [(0, .ref (ad 0))] := hl
  show W p l e ({ frames := 4, cells := 0, slots := 0, locals := 104 } : Room) s m ([.ref (ad 0)] : List Value).toArray below meth c s.heap [] 0 0 (MQ below (va_Qi Q (zB D 116 (zce cy ad) ad) (zA 116 ad)) ([.ref (ad 0)] : List Value).toArray s 0 0 (zA 116 ad)) (F0 m 0 ls [])
  unfold wp_X6_newLine at h
  refine lv_aload_n hx hb dX6_newLine_0 rfl (lv_at hl 0 rfl) ?_
  refine zget hx hb hts inX6 hown hK hw 0 (by decide) rfl rfl 1 (by decide) lk0 (fun _ h9 => h9) rfl dX6_newLine_1 ?_
  refine lv_aload_n hx hb dX6_newLine_4 rfl (lv_at hl 0 rfl) ?_
  refine zget hx hb hts inX6 hown hK hw 0 (by decide) rfl rfl 0 (by decide) lk1 (fun _ h9 => h9) rfl dX6_newLine_5 ?_
  refine k_X5_push (rest := []) hx hb hml hown hts gX6_newLine_X5_push ⟨Nat.le_of_ble_eq_true rfl, Nat.le_of_ble_eq_true rfl⟩ ⟨Nat.zero_le _, Nat.zero_le _⟩ hK hj hw hA hS hl.1 (Nat.le_of_ble_eq_true rfl) dX6_newLine_8 h (fun s1 H locs h hw hS => ?_)
  refine lv_aload_n hx hb dX6_newLine_11 rfl (lv_at hl 0 rfl) ?_
  refine zget hx hb hts inX6 hown hK hw 0 (by decide) rfl rfl 0 (by decide) lk1 (fun _ h9 => h9) rfl dX6_newLine_12 ?_
  refine k_X4_beginLine (rest := []) hx hb hml hown hts gX6_newLine_X4_beginLine ⟨Nat.le_of_ble_eq_true rfl, Nat.le_of_ble_eq_true rfl⟩ ⟨Nat.zero_le _, Nat.zero_le _⟩ hK hj hw hA hS hl.1 (Nat.le_of_ble_eq_true rfl) dX6_newLine_15 h (fun r1 s2 H locs h hw hS => ?_)
  exact W.iret (v := r1) hx hb hr (fun t ht hW => ⟨⟨_, _, rfl, h, zend hw ht⟩, hS.F ht⟩) hS.2.2 dX6_newLine_18
theorem k_X6_newLine {p : Program} {l : Launch} {e : Env} {R : Room} {s : State} {m : MethodId} {args : Array Value} {below : List Frame} {meth : Method} {c : Code} {H : Heap} {locs : List Loc} {cells slots : Nat} {QQ : State → Prop} {cc : ByteArray} {pc nL index : Nat} {ls : Array Slot} {rest : List Value} {D : va_G} {cy : cyT} {ad : Nat → Nat} {own : String} {Ts : List Cond} {H0 : Heap} {σ : ST}  {Q : Int32 → ST → Prop} (hx : p.tables.exec = Jvm.exec) (hb : c.code = cc) (hml : c.maxLocals = nL) (hown : s.vm.findClass own = some m.cls) (hts : ∀ w ∈ Ts, w.before args s = true) (hG : GoodIn Ts (wsV own index RX6 yX6_newLine wsX6_newLine)) (hR : 4 + 1 ≤ R.frames ∧ 8 + (1 + 11) + 104 ≤ R.locals) (hcs : cells ≤ R.cells ∧ slots ≤ R.slots) (hK : zK D cy s) (hj : zI 116 ad) (hw : zW D 116 (zce cy ad σ) ad H) {A0 : Nat → Prop} (hA : ∀ i, i < 116 → A0 (ad i)) (hS : va_S A0 H0 H locs) (hsz : ls.size = nL) (hrest : (rest.map fun v => v.category).sum ≤ 8) (hdg : decode cc pc = .ok (.invokevirtual index, 3)) (h : wp_X6_newLine σ  Q) (kk : ∀ (r : Int32) (σ : ST) (H : Heap) (locs : List Loc), Q r σ → zW D 116 (zce cy ad σ) ad H → va_S A0 H0 H locs → W p l e R s m args below meth c H locs cells slots QQ (F0 m (pc + 3) ls (.int r :: rest))) : W p l e R s m args below meth c H locs cells slots QQ (F0 m pc ls (.ref (ad 0) :: rest)) :=
  zcalli (va_runV (As := []) (rest := rest) ⟨hx, hb, hml, hown, hts⟩ (c_X6_newLine l D cy ad σ  h) (cwV 0 hts hG rfl rfl rfl (by decide +kernel) hR) (zpreV hj hK hw _ (i := 0) (ci := 5) (by decide) rfl rfl) rfl rfl hsz rfl (lv_room hrest) hdg hcs) hA hS kk
def wp_X6_closeShelves (σ : ST)  (Q : Int32 → ST → Prop) : Prop :=
  wp_X5_push σ (fun s1 => wp_X4_closeEmptyShelves s1 (fun r1 s2 => Q r1 s2))
set_option maxHeartbeats 4000000 in
set_option maxRecDepth 100000 in
theorem c_X6_closeShelves (l : Launch) (D : va_G) (cy : cyT) (ad : Nat → Nat) (σ : ST) {Q : Int32 → ST → Prop} (h : wp_X6_closeShelves σ Q) : Met l yX6_closeShelves wsX6_closeShelves ({ frames := 4, cells := 0, slots := 0, locals := 104 } : Room) (zPre D cy 116 (zce cy ad σ) ad [.ref (ad 0)]) (va_Qi Q (zB D 116 (zce cy ad) ad) (zA 116 ad)) 0 0 (zA 116 ad) := by
  refine Met.ofW (cc := cX6_closeShelves) (maxL := 1) (ret := (some .int)) (by decide) rfl ?_
  intro p e s m args below meth c s₁ B hml hv
  obtain ⟨rfl, hj, hK, hw⟩ := hv
  have hx := B.exec
  have hb := B.bytes
  have hr := B.returns
  have hts := atoms_spec (ws := wsX6_closeShelves) B.pre
  have hown : s.vm.findClass RX6 = some m.cls := findClass_of_methodNamed B.named
  have hlocks := B.notSynchronized
  have lk0 : Cond.fieldLink RX6 19 "TypeTrays" "undoStack" "LTypeTrays$UndoStack;" ∈ wsX6_closeShelves := List.mem_of_getElem? (i := 1) rfl
  have lk1 : Cond.fieldLink RX6 12 "TypeTrays" "state" "LTypeTrays$State;" ∈ wsX6_closeShelves := List.mem_of_getElem? (i := 2) rfl
  have inX6 : ∀ w ∈ u_ws RX6 TX6 4, w ∈ wsX6_closeShelves := zin_at 72 rfl
  have hS : va_S (zA 116 ad) s.heap s.heap [] := va_S.rf
  have hA : ∀ i, i < 116 → zA 116 ad (ad i) := fun i hi => ⟨i, hi, rfl⟩
  have hl := lv_entry ([.ref (ad 0)]) (n := 1) (Nat.le_of_ble_eq_true rfl)
  rw [lg_entry_eq]
  generalize (lg_sl ([.ref (ad 0)]) ++ List.replicate (1 - (lg_sl ([.ref (ad 0)])).length) Slot.unset).toArray = ls at hl ⊢
  have hl : lv_has ls 1 [(0, .ref (ad 0))] := hl
  show W p l e ({ frames := 4, cells := 0, slots := 0, locals := 104 } : Room) s m ([.ref (ad 0)] : List Value).toArray below meth c s.heap [] 0 0 (MQ below (va_Qi Q (zB D 116 (zce cy ad) ad) (zA 116 ad)) ([.ref (ad 0)] : List Value).toArray s 0 0 (zA 116 ad)) (F0 m 0 ls [])
  unfold wp_X6_closeShelves at h
  refine lv_aload_n hx hb dX6_closeShelves_0 rfl (lv_at hl 0 rfl) ?_
  refine zget hx hb hts inX6 hown hK hw 0 (by decide) rfl rfl 1 (by decide) lk0 (fun _ h9 => h9) rfl dX6_closeShelves_1 ?_
  refine lv_aload_n hx hb dX6_closeShelves_4 rfl (lv_at hl 0 rfl) ?_
  refine zget hx hb hts inX6 hown hK hw 0 (by decide) rfl rfl 0 (by decide) lk1 (fun _ h9 => h9) rfl dX6_closeShelves_5 ?_
  refine k_X5_push (rest := []) hx hb hml hown hts gX6_closeShelves_X5_push ⟨Nat.le_of_ble_eq_true rfl, Nat.le_of_ble_eq_true rfl⟩ ⟨Nat.zero_le _, Nat.zero_le _⟩ hK hj hw hA hS hl.1 (Nat.le_of_ble_eq_true rfl) dX6_closeShelves_8 h (fun s1 H locs h hw hS => ?_)
  refine lv_aload_n hx hb dX6_closeShelves_11 rfl (lv_at hl 0 rfl) ?_
  refine zget hx hb hts inX6 hown hK hw 0 (by decide) rfl rfl 0 (by decide) lk1 (fun _ h9 => h9) rfl dX6_closeShelves_12 ?_
  refine k_X4_closeEmptyShelves (rest := []) hx hb hml hown hts gX6_closeShelves_X4_closeEmptyShelves ⟨Nat.le_of_ble_eq_true rfl, Nat.le_of_ble_eq_true rfl⟩ ⟨Nat.zero_le _, Nat.zero_le _⟩ hK hj hw hA hS hl.1 (Nat.le_of_ble_eq_true rfl) dX6_closeShelves_15 h (fun r1 s2 H locs h hw hS => ?_)
  exact W.iret (v := r1) hx hb hr (fun t ht hW => ⟨⟨_, _, rfl, h, zend hw ht⟩, hS.F ht⟩) hS.2.2 dX6_closeShelves_18
theorem k_X6_closeShelves {p : Program} {l : Launch} {e : Env} {R : Room} {s : State} {m : MethodId} {args : Array Value} {below : List Frame} {meth : Method} {c : Code} {H : Heap} {locs : List Loc} {cells slots : Nat} {QQ : State → Prop} {cc : ByteArray} {pc nL index : Nat} {ls : Array Slot} {rest : List Value} {D : va_G} {cy : cyT} {ad : Nat → Nat} {own : String} {Ts : List Cond} {H0 : Heap} {σ : ST}  {Q : Int32 → ST → Prop} (hx : p.tables.exec = Jvm.exec) (hb : c.code = cc) (hml : c.maxLocals = nL) (hown : s.vm.findClass own = some m.cls) (hts : ∀ w ∈ Ts, w.before args s = true) (hG : GoodIn Ts (wsV own index RX6 yX6_closeShelves wsX6_closeShelves)) (hR : 4 + 1 ≤ R.frames ∧ 8 + (1 + 11) + 104 ≤ R.locals) (hcs : cells ≤ R.cells ∧ slots ≤ R.slots) (hK : zK D cy s) (hj : zI 116 ad) (hw : zW D 116 (zce cy ad σ) ad H) {A0 : Nat → Prop} (hA : ∀ i, i < 116 → A0 (ad i)) (hS : va_S A0 H0 H locs) (hsz : ls.size = nL) (hrest : (rest.map fun v => v.category).sum ≤ 8) (hdg : decode cc pc = .ok (.invokevirtual index, 3)) (h : wp_X6_closeShelves σ  Q) (kk : ∀ (r : Int32) (σ : ST) (H : Heap) (locs : List Loc), Q r σ → zW D 116 (zce cy ad σ) ad H → va_S A0 H0 H locs → W p l e R s m args below meth c H locs cells slots QQ (F0 m (pc + 3) ls (.int r :: rest))) : W p l e R s m args below meth c H locs cells slots QQ (F0 m pc ls (.ref (ad 0) :: rest)) :=
  zcalli (va_runV (As := []) (rest := rest) ⟨hx, hb, hml, hown, hts⟩ (c_X6_closeShelves l D cy ad σ  h) (cwV 0 hts hG rfl rfl rfl (by decide +kernel) hR) (zpreV hj hK hw _ (i := 0) (ci := 5) (by decide) rfl rfl) rfl rfl hsz rfl (lv_room hrest) hdg hcs) hA hS kk
def wp_X6_street (σ : ST) (p0 : Int32) (Q : Int32 → ST → Prop) : Prop :=
  ((p0 < (jI 0) → wp_X6_throwFor σ (jI 2) (fun s1 => wp_X4_letterOfStreet s1 p0 (fun r1 s2 => wp_X6_codeOf s2 r1 (fun r2 s3 => Q r2 s3)))) ∧ (¬ p0 < (jI 0) → wp_X6_throwFor σ (jI 0) (fun s4 => wp_X4_letterOfStreet s4 p0 (fun r3 s5 => wp_X6_codeOf s5 r3 (fun r4 s6 => Q r4 s6)))))
set_option maxHeartbeats 4000000 in
set_option maxRecDepth 100000 in
theorem c_X6_street (l : Launch) (D : va_G) (cy : cyT) (ad : Nat → Nat) (σ : ST) (p0 : Int32) {Q : Int32 → ST → Prop} (h : wp_X6_street σ p0 Q) : Met l yX6_street wsX6_street ({ frames := 3, cells := 0, slots := 0, locals := 66 } : Room) (zPre D cy 116 (zce cy ad σ) ad [.ref (ad 0), .int p0]) (va_Qi Q (zB D 116 (zce cy ad) ad) (zA 116 ad)) 0 0 (zA 116 ad) := by
  refine Met.ofW (cc := cX6_street) (maxL := 2) (ret := (some .int)) (by decide) rfl ?_
  intro p e s m args below meth c s₁ B hml hv
  obtain ⟨rfl, hj, hK, hw⟩ := hv
  have hx := B.exec
  have hb := B.bytes
  have hr := B.returns
  have hts := atoms_spec (ws := wsX6_street) B.pre
  have hown : s.vm.findClass RX6 = some m.cls := findClass_of_methodNamed B.named
  have hlocks := B.notSynchronized
  have lk0 : Cond.fieldLink RX6 12 "TypeTrays" "state" "LTypeTrays$State;" ∈ wsX6_street := List.mem_of_getElem? (i := 1) rfl
  have inX6 : ∀ w ∈ u_ws RX6 TX6 4, w ∈ wsX6_street := zin_at 42 rfl
  have hS : va_S (zA 116 ad) s.heap s.heap [] := va_S.rf
  have hA : ∀ i, i < 116 → zA 116 ad (ad i) := fun i hi => ⟨i, hi, rfl⟩
  have hl := lv_entry ([.ref (ad 0), .int p0]) (n := 2) (Nat.le_of_ble_eq_true rfl)
  rw [lg_entry_eq]
  generalize (lg_sl ([.ref (ad 0), .int p0]) ++ List.replicate (2 - (lg_sl ([.ref (ad 0), .int p0])).length) Slot.unset).toArray = ls at hl ⊢
  have hl : lv_has ls 2 [(0, .ref (ad 0)), (1, .int p0)] := hl
  show W p l e ({ frames := 3, cells := 0, slots := 0, locals := 66 } : Room) s m ([.ref (ad 0), .int p0] : List Value).toArray below meth c s.heap [] 0 0 (MQ below (va_Qi Q (zB D 116 (zce cy ad) ad) (zA 116 ad)) ([.ref (ad 0), .int p0] : List Value).toArray s 0 0 (zA 116 ad)) (F0 m 0 ls [])
  unfold wp_X6_street at h
  refine lv_iload_n hx hb dX6_street_0 rfl (lv_at hl 1 rfl) ?_
  refine zif_lt (tgt := 8) hx hb dX6_street_1 (by decide) (fun c1 => ?_) (fun c1 => ?_)
  · have h := h.1 c1
    refine lv_iconst (v := (jI 2)) hx hb dX6_street_8 rfl ?_
    refine k_X6_throwFor (rest := []) hx hb hml hown hts gX6_street_X6_throwFor ⟨Nat.le_of_ble_eq_true rfl, Nat.le_of_ble_eq_true rfl⟩ ⟨Nat.zero_le _, Nat.zero_le _⟩ hK hj hw hA hS hl.1 (Nat.le_of_ble_eq_true rfl) dX6_street_9 h (fun s1 H locs h hw hS => ?_)
    refine lv_aload_n hx hb dX6_street_12 rfl (lv_at hl 0 rfl) ?_
    refine zget hx hb hts inX6 hown hK hw 0 (by decide) rfl rfl 0 (by decide) lk0 (fun _ h9 => h9) rfl dX6_street_13 ?_
    refine lv_iload_n hx hb dX6_street_16 rfl (lv_at hl 1 rfl) ?_
    refine k_X4_letterOfStreet (rest := []) hx hb hml hown hts gX6_street_X4_letterOfStreet ⟨Nat.le_of_ble_eq_true rfl, Nat.le_of_ble_eq_true rfl⟩ ⟨Nat.zero_le _, Nat.zero_le _⟩ hK hj hw hA hS hl.1 (Nat.le_of_ble_eq_true rfl) dX6_street_17 h (fun r1 s2 H locs h hw hS => ?_)
    refine k_X6_codeOf (rest := []) hx hb hml hown hts gX6_street_X6_codeOf ⟨Nat.le_of_ble_eq_true rfl, Nat.le_of_ble_eq_true rfl⟩ ⟨Nat.zero_le _, Nat.zero_le _⟩ hK hj hw hA hS hl.1 (Nat.le_of_ble_eq_true rfl) dX6_street_20 h (fun r2 s3 H locs h hw hS => ?_)
    exact W.iret (v := r2) hx hb hr (fun t ht hW => ⟨⟨_, _, rfl, h, zend hw ht⟩, hS.F ht⟩) hS.2.2 dX6_street_23
  · have h := h.2 c1
    refine lv_iconst (v := (jI 0)) hx hb dX6_street_4 rfl ?_
    refine lv_goto (tgt := 9) hx hb dX6_street_5 (by decide) ?_
    refine k_X6_throwFor (rest := []) hx hb hml hown hts gX6_street_X6_throwFor ⟨Nat.le_of_ble_eq_true rfl, Nat.le_of_ble_eq_true rfl⟩ ⟨Nat.zero_le _, Nat.zero_le _⟩ hK hj hw hA hS hl.1 (Nat.le_of_ble_eq_true rfl) dX6_street_9 h (fun s4 H locs h hw hS => ?_)
    refine lv_aload_n hx hb dX6_street_12 rfl (lv_at hl 0 rfl) ?_
    refine zget hx hb hts inX6 hown hK hw 0 (by decide) rfl rfl 0 (by decide) lk0 (fun _ h9 => h9) rfl dX6_street_13 ?_
    refine lv_iload_n hx hb dX6_street_16 rfl (lv_at hl 1 rfl) ?_
    refine k_X4_letterOfStreet (rest := []) hx hb hml hown hts gX6_street_X4_letterOfStreet ⟨Nat.le_of_ble_eq_true rfl, Nat.le_of_ble_eq_true rfl⟩ ⟨Nat.zero_le _, Nat.zero_le _⟩ hK hj hw hA hS hl.1 (Nat.le_of_ble_eq_true rfl) dX6_street_17 h (fun r3 s5 H locs h hw hS => ?_)
    refine k_X6_codeOf (rest := []) hx hb hml hown hts gX6_street_X6_codeOf ⟨Nat.le_of_ble_eq_true rfl, Nat.le_of_ble_eq_true rfl⟩ ⟨Nat.zero_le _, Nat.zero_le _⟩ hK hj hw hA hS hl.1 (Nat.le_of_ble_eq_true rfl) dX6_street_20 h (fun r4 s6 H locs h hw hS => ?_)
    exact W.iret (v := r4) hx hb hr (fun t ht hW => ⟨⟨_, _, rfl, h, zend hw ht⟩, hS.F ht⟩) hS.2.2 dX6_street_23
theorem k_X6_street {p : Program} {l : Launch} {e : Env} {R : Room} {s : State} {m : MethodId} {args : Array Value} {below : List Frame} {meth : Method} {c : Code} {H : Heap} {locs : List Loc} {cells slots : Nat} {QQ : State → Prop} {cc : ByteArray} {pc nL index : Nat} {ls : Array Slot} {rest : List Value} {D : va_G} {cy : cyT} {ad : Nat → Nat} {own : String} {Ts : List Cond} {H0 : Heap} {σ : ST} {p0 : Int32} {Q : Int32 → ST → Prop} (hx : p.tables.exec = Jvm.exec) (hb : c.code = cc) (hml : c.maxLocals = nL) (hown : s.vm.findClass own = some m.cls) (hts : ∀ w ∈ Ts, w.before args s = true) (hG : GoodIn Ts (wsV own index RX6 yX6_street wsX6_street)) (hR : 3 + 1 ≤ R.frames ∧ 8 + (2 + 11) + 66 ≤ R.locals) (hcs : cells ≤ R.cells ∧ slots ≤ R.slots) (hK : zK D cy s) (hj : zI 116 ad) (hw : zW D 116 (zce cy ad σ) ad H) {A0 : Nat → Prop} (hA : ∀ i, i < 116 → A0 (ad i)) (hS : va_S A0 H0 H locs) (hsz : ls.size = nL) (hrest : (rest.map fun v => v.category).sum ≤ 8) (hdg : decode cc pc = .ok (.invokevirtual index, 3)) (h : wp_X6_street σ p0 Q) (kk : ∀ (r : Int32) (σ : ST) (H : Heap) (locs : List Loc), Q r σ → zW D 116 (zce cy ad σ) ad H → va_S A0 H0 H locs → W p l e R s m args below meth c H locs cells slots QQ (F0 m (pc + 3) ls (.int r :: rest))) : W p l e R s m args below meth c H locs cells slots QQ (F0 m pc ls (.int p0 :: .ref (ad 0) :: rest)) :=
  zcalli (va_runV (As := [.int p0]) (rest := rest) ⟨hx, hb, hml, hown, hts⟩ (c_X6_street l D cy ad σ p0 h) (cwV 1 hts hG rfl rfl rfl (by decide +kernel) hR) (zpreV hj hK hw _ (i := 0) (ci := 5) (by decide) rfl rfl) rfl rfl hsz rfl (lv_room hrest) hdg hcs) hA hS kk
def wp_X6_whole (σ : ST) (p0 : Int32) (Q : Int32 → ST → Prop) : Prop :=
  wp_X6_faultOfWhat σ p0 (jI 13) (fun r1 s1 => wp_X6_throwFor s1 r1 (fun s2 => ((p0 = (jI 12) → Q (s2.2 42) s2) ∧ (¬ p0 = (jI 12) → wp_X4_wholeValue s2 p0 (fun r2 s3 => Q r2 s3)))))
set_option maxHeartbeats 4000000 in
set_option maxRecDepth 100000 in
theorem c_X6_whole (l : Launch) (D : va_G) (cy : cyT) (ad : Nat → Nat) (σ : ST) (p0 : Int32) {Q : Int32 → ST → Prop} (h : wp_X6_whole σ p0 Q) : Met l yX6_whole wsX6_whole ({ frames := 5, cells := 0, slots := 0, locals := 107 } : Room) (zPre D cy 116 (zce cy ad σ) ad [.ref (ad 0), .int p0]) (va_Qi Q (zB D 116 (zce cy ad) ad) (zA 116 ad)) 0 0 (zA 116 ad) := by
  refine Met.ofW (cc := cX6_whole) (maxL := 2) (ret := (some .int)) (by decide) rfl ?_
  intro p e s m args below meth c s₁ B hml hv
  obtain ⟨rfl, hj, hK, hw⟩ := hv
  have hx := B.exec
  have hb := B.bytes
  have hr := B.returns
  have hts := atoms_spec (ws := wsX6_whole) B.pre
  have hown : s.vm.findClass RX6 = some m.cls := findClass_of_methodNamed B.named
  have hlocks := B.notSynchronized
  have lk0 : Cond.fieldLink RX6 12 "TypeTrays" "state" "LTypeTrays$State;" ∈ wsX6_whole := List.mem_of_getElem? (i := 2) rfl
  have lk1 : Cond.fieldLink RX6 26 "TypeTrays" "commands" "LTypeTrays$Commands;" ∈ wsX6_whole := List.mem_of_getElem? (i := 1) rfl
  have inX6 : ∀ w ∈ u_ws RX6 TX6 4, w ∈ wsX6_whole := zin_at 94 rfl
  have inX0 : ∀ w ∈ u_ws RX0 TX0 6, w ∈ wsX6_whole := zin_at 98 rfl
  have hS : va_S (zA 116 ad) s.heap s.heap [] := va_S.rf
  have hA : ∀ i, i < 116 → zA 116 ad (ad i) := fun i hi => ⟨i, hi, rfl⟩
  have hl := lv_entry ([.ref (ad 0), .int p0]) (n := 2) (Nat.le_of_ble_eq_true rfl)
  rw [lg_entry_eq]
  generalize (lg_sl ([.ref (ad 0), .int p0]) ++ List.replicate (2 - (lg_sl ([.ref (ad 0), .int p0])).length) Slot.unset).toArray = ls at hl ⊢
  have hl : lv_has ls 2 [(0, .ref (ad 0)), (1, .int p0)] := hl
  show W p l e ({ frames := 5, cells := 0, slots := 0, locals := 107 } : Room) s m ([.ref (ad 0), .int p0] : List Value).toArray below meth c s.heap [] 0 0 (MQ below (va_Qi Q (zB D 116 (zce cy ad) ad) (zA 116 ad)) ([.ref (ad 0), .int p0] : List Value).toArray s 0 0 (zA 116 ad)) (F0 m 0 ls [])
  unfold wp_X6_whole at h
  refine lv_iload_n hx hb dX6_whole_0 rfl (lv_at hl 1 rfl) ?_
  refine lv_bipush (v := (jI 13)) hx hb dX6_whole_1 (by decide +kernel) ?_
  refine k_X6_faultOfWhat (rest := []) hx hb hml hown hts gX6_whole_X6_faultOfWhat ⟨Nat.le_of_ble_eq_true rfl, Nat.le_of_ble_eq_true rfl⟩ ⟨Nat.zero_le _, Nat.zero_le _⟩ hK hj hw hA hS hl.1 (Nat.le_of_ble_eq_true rfl) dX6_whole_3 h (fun r1 s1 H locs h hw hS => ?_)
  refine k_X6_throwFor (rest := []) hx hb hml hown hts gX6_whole_X6_throwFor ⟨Nat.le_of_ble_eq_true rfl, Nat.le_of_ble_eq_true rfl⟩ ⟨Nat.zero_le _, Nat.zero_le _⟩ hK hj hw hA hS hl.1 (Nat.le_of_ble_eq_true rfl) dX6_whole_6 h (fun s2 H locs h hw hS => ?_)
  refine lv_iload_n hx hb dX6_whole_9 rfl (lv_at hl 1 rfl) ?_
  refine lv_bipush (v := (jI 12)) hx hb dX6_whole_10 (by decide +kernel) ?_
  refine lv_icmp_ne (tgt := 25) hx hb dX6_whole_12 (by decide) (fun c1 => ?_) (fun c1 => ?_)
  · have h := h.2 c1
    refine lv_aload_n hx hb dX6_whole_25 rfl (lv_at hl 0 rfl) ?_
    refine zget hx hb hts inX6 hown hK hw 0 (by decide) rfl rfl 0 (by decide) lk0 (fun _ h9 => h9) rfl dX6_whole_26 ?_
    refine lv_iload_n hx hb dX6_whole_29 rfl (lv_at hl 1 rfl) ?_
    refine k_X4_wholeValue (rest := []) hx hb hml hown hts gX6_whole_X4_wholeValue ⟨Nat.le_of_ble_eq_true rfl, Nat.le_of_ble_eq_true rfl⟩ ⟨Nat.zero_le _, Nat.zero_le _⟩ hK hj hw hA hS hl.1 (Nat.le_of_ble_eq_true rfl) dX6_whole_30 h (fun r2 s3 H locs h hw hS => ?_)
    exact W.iret (v := r2) hx hb hr (fun t ht hW => ⟨⟨_, _, rfl, h, zend hw ht⟩, hS.F ht⟩) hS.2.2 dX6_whole_33
  · have h := h.1 c1
    refine lv_aload_n hx hb dX6_whole_15 rfl (lv_at hl 0 rfl) ?_
    refine zget hx hb hts inX6 hown hK hw 0 (by decide) rfl rfl 2 (by decide) lk1 (fun _ h9 => h9) rfl dX6_whole_16 ?_
    refine zgetN (own := RX6) (index := 129) (host := "TypeTrays") hx hb hts inX0 hown hK hw 3 (by decide) rfl rfl 1 (by decide) (by decide +kernel) (fun _ h9 => h9) rfl dX6_whole_19 ?_
    refine lv_goto (tgt := 33) hx hb dX6_whole_22 (by decide) ?_
    exact W.iret (v := (s2.2 42)) hx hb hr (fun t ht hW => ⟨⟨_, _, rfl, h, zend hw ht⟩, hS.F ht⟩) hS.2.2 dX6_whole_33
theorem k_X6_whole {p : Program} {l : Launch} {e : Env} {R : Room} {s : State} {m : MethodId} {args : Array Value} {below : List Frame} {meth : Method} {c : Code} {H : Heap} {locs : List Loc} {cells slots : Nat} {QQ : State → Prop} {cc : ByteArray} {pc nL index : Nat} {ls : Array Slot} {rest : List Value} {D : va_G} {cy : cyT} {ad : Nat → Nat} {own : String} {Ts : List Cond} {H0 : Heap} {σ : ST} {p0 : Int32} {Q : Int32 → ST → Prop} (hx : p.tables.exec = Jvm.exec) (hb : c.code = cc) (hml : c.maxLocals = nL) (hown : s.vm.findClass own = some m.cls) (hts : ∀ w ∈ Ts, w.before args s = true) (hG : GoodIn Ts (wsV own index RX6 yX6_whole wsX6_whole)) (hR : 5 + 1 ≤ R.frames ∧ 8 + (2 + 11) + 107 ≤ R.locals) (hcs : cells ≤ R.cells ∧ slots ≤ R.slots) (hK : zK D cy s) (hj : zI 116 ad) (hw : zW D 116 (zce cy ad σ) ad H) {A0 : Nat → Prop} (hA : ∀ i, i < 116 → A0 (ad i)) (hS : va_S A0 H0 H locs) (hsz : ls.size = nL) (hrest : (rest.map fun v => v.category).sum ≤ 8) (hdg : decode cc pc = .ok (.invokevirtual index, 3)) (h : wp_X6_whole σ p0 Q) (kk : ∀ (r : Int32) (σ : ST) (H : Heap) (locs : List Loc), Q r σ → zW D 116 (zce cy ad σ) ad H → va_S A0 H0 H locs → W p l e R s m args below meth c H locs cells slots QQ (F0 m (pc + 3) ls (.int r :: rest))) : W p l e R s m args below meth c H locs cells slots QQ (F0 m pc ls (.int p0 :: .ref (ad 0) :: rest)) :=
  zcalli (va_runV (As := [.int p0]) (rest := rest) ⟨hx, hb, hml, hown, hts⟩ (c_X6_whole l D cy ad σ p0 h) (cwV 1 hts hG rfl rfl rfl (by decide +kernel) hR) (zpreV hj hK hw _ (i := 0) (ci := 5) (by decide) rfl rfl) rfl rfl hsz rfl (lv_room hrest) hdg hcs) hA hS kk
def wb_X6_digest_17 (K40 : ST → Int64 → Prop) (LL : ST → Int64 → Int32 → Prop)  (t_17 : ST) (y1_17 : Int64) (y3_17 : Int32) : Prop :=
  (((jI 13) ≤ y3_17 → K40 t_17 y1_17) ∧ (¬ (jI 13) ≤ y3_17 → wp_X6_whole t_17 y3_17 (fun r2 s2 => wp_X6_mix s2 y1_17 (r2.toInt64) (fun r3 s3 => (∀ x1 : Int32, x1 = y3_17 + (jI 1) → LL s3 r3 x1)))))
def wl_X6_digest_17 (K40 : ST → Int64 → Prop)  : Nat → ST → Int64 → Int32 → Prop
  | 0 => fun _ _ _ => False
  | nn + 1 => wb_X6_digest_17 K40 (wl_X6_digest_17 K40  nn) 
def wb_X6_digest_51 (K79 : ST → Int64 → Prop) (LL : ST → Int64 → Int32 → Prop) (f3_51 : Int32) (t_51 : ST) (y1_51 : Int64) (y4_51 : Int32) : Prop :=
  (((jI 4) ≤ y4_51 → K79 t_51 y1_51) ∧ (¬ (jI 4) ≤ y4_51 → wp_X4_signValue t_51 f3_51 y4_51 (fun r4 s4 => wp_X6_mix s4 y1_51 (r4.toInt64) (fun r5 s5 => (∀ x2 : Int32, x2 = y4_51 + (jI 1) → LL s5 r5 x2)))))
def wl_X6_digest_51 (K79 : ST → Int64 → Prop) (f3_51 : Int32) : Nat → ST → Int64 → Int32 → Prop
  | 0 => fun _ _ _ => False
  | nn + 1 => wb_X6_digest_51 K79 (wl_X6_digest_51 K79 f3_51 nn) f3_51
def wb_X6_digest_42 (K85 : ST → Int64 → Prop) (LL : ST → Int64 → Int32 → Prop)  (t_42 : ST) (y1_42 : Int64) (y3_42 : Int32) : Prop :=
  (((jI 16) ≤ y3_42 → K85 t_42 y1_42) ∧ (¬ (jI 16) ≤ y3_42 → (∃ nn : Nat, wl_X6_digest_51 (fun u_79 z1_79 => (∀ x3 : Int32, x3 = y3_42 + (jI 1) → LL u_79 z1_79 x3)) y3_42 nn t_42 y1_42 (jI 0))))
def wl_X6_digest_42 (K85 : ST → Int64 → Prop)  : Nat → ST → Int64 → Int32 → Prop
  | 0 => fun _ _ _ => False
  | nn + 1 => wb_X6_digest_42 K85 (wl_X6_digest_42 K85  nn) 
def wb_X6_digest_93 (K117 : ST → Int64 → Prop) (LL : ST → Int64 → Int32 → Prop)  (t_93 : ST) (y1_93 : Int64) (y3_93 : Int32) : Prop :=
  (((t_93.2 1) ≤ y3_93 → K117 t_93 y1_93) ∧ (¬ (t_93.2 1) ≤ y3_93 → wp_X6_mixTray t_93 y1_93 y3_93 (fun r7 s7 => (∀ x4 : Int32, x4 = y3_93 + (jI 1) → LL s7 r7 x4))))
def wl_X6_digest_93 (K117 : ST → Int64 → Prop)  : Nat → ST → Int64 → Int32 → Prop
  | 0 => fun _ _ _ => False
  | nn + 1 => wb_X6_digest_93 K117 (wl_X6_digest_93 K117  nn) 
def wb_X6_digest_128 (K152 : ST → Int64 → Prop) (LL : ST → Int64 → Int32 → Prop) (f3_128 : Int32) (t_128 : ST) (y1_128 : Int64) (y4_128 : Int32) : Prop :=
  ((f3_128 ≤ y4_128 → K152 t_128 y1_128) ∧ (¬ f3_128 ≤ y4_128 → wp_X6_street t_128 y4_128 (fun r9 s9 => wp_X6_mix s9 y1_128 (r9.toInt64) (fun r10 s10 => (∀ x5 : Int32, x5 = y4_128 + (jI 1) → LL s10 r10 x5)))))
def wl_X6_digest_128 (K152 : ST → Int64 → Prop) (f3_128 : Int32) : Nat → ST → Int64 → Int32 → Prop
  | 0 => fun _ _ _ => False
  | nn + 1 => wb_X6_digest_128 K152 (wl_X6_digest_128 K152 f3_128 nn) f3_128
def wp_X6_digest (σ : ST)  (Q : Int64 → ST → Prop) : Prop :=
  wp_X6_mix σ ((43532) : Int64) ((σ.2 41).toInt64) (fun r1 s1 => (∃ nn : Nat, wl_X6_digest_17 (fun u_40 z1_40 => (∃ nn : Nat, wl_X6_digest_42 (fun u_85 z1_85 => wp_X6_mixLetters u_85 z1_85 (fun r6 s6 => (∃ nn : Nat, wl_X6_digest_93 (fun u_117 z1_117 => wp_X4_countInStreet u_117 (fun r8 s8 => (∃ nn : Nat, wl_X6_digest_128 (fun u_152 z1_152 => wp_X6_oldest u_152 (fun r11 s11 => wp_X6_mix s11 z1_152 (r11.toInt64) (fun r12 s12 => wp_X6_greatestGap s12 (fun r13 s13 => wp_X6_mix s13 r12 (r13.toInt64) (fun r14 s14 => Q r14 s14))))) r8 nn s8 z1_117 (jI 0))))  nn s6 r6 (jI 0))))  nn u_40 z1_40 (jI 0)))  nn s1 r1 (jI 0)))
set_option maxHeartbeats 4000000 in
set_option maxRecDepth 100000 in
theorem c_X6_digest (l : Launch) (D : va_G) (cy : cyT) (ad : Nat → Nat) (σ : ST) {Q : Int64 → ST → Prop} (h : wp_X6_digest σ Q) : Met l yX6_digest wsX6_digest ({ frames := 6, cells := 0, slots := 0, locals := 138 } : Room) (zPre D cy 116 (zce cy ad σ) ad [.ref (ad 0)]) (va_Ql Q (zB D 116 (zce cy ad) ad) (zA 116 ad)) 0 0 (zA 116 ad) := by
  refine Met.ofW (cc := cX6_digest) (maxL := 5) (ret := (some .long)) (by decide) rfl ?_
  intro p e s m args below meth c s₁ B hml hv
  obtain ⟨rfl, hj, hK, hw⟩ := hv
  have hx := B.exec
  have hb := B.bytes
  have hr := B.returns
  have hts := atoms_spec (ws := wsX6_digest) B.pre
  have hown : s.vm.findClass RX6 = some m.cls := findClass_of_methodNamed B.named
  have hlocks := B.notSynchronized
  have lk0 : Cond.constantLong RX6 174 (43532) ∈ wsX6_digest := List.mem_of_getElem? (i := 1) rfl
  have lk1 : Cond.fieldLink RX6 19 "TypeTrays" "undoStack" "LTypeTrays$UndoStack;" ∈ wsX6_digest := List.mem_of_getElem? (i := 2) rfl
  have lk2 : Cond.fieldLink RX6 12 "TypeTrays" "state" "LTypeTrays$State;" ∈ wsX6_digest := List.mem_of_getElem? (i := 3) rfl
  have inX6 : ∀ w ∈ u_ws RX6 TX6 4, w ∈ wsX6_digest := zin_at 235 rfl
  have inX5 : ∀ w ∈ u_ws RX5 TX5 3, w ∈ wsX6_digest := zin_at 239 rfl
  have inX4 : ∀ w ∈ u_ws RX4 TX4 18, w ∈ wsX6_digest := zin_at 242 rfl
  have hS : va_S (zA 116 ad) s.heap s.heap [] := va_S.rf
  have hA : ∀ i, i < 116 → zA 116 ad (ad i) := fun i hi => ⟨i, hi, rfl⟩
  have hl := lv_entry ([.ref (ad 0)]) (n := 5) (Nat.le_of_ble_eq_true rfl)
  rw [lg_entry_eq]
  generalize (lg_sl ([.ref (ad 0)]) ++ List.replicate (5 - (lg_sl ([.ref (ad 0)])).length) Slot.unset).toArray = ls at hl ⊢
  have hl : lv_has ls 5 [(0, .ref (ad 0))] := hl
  show W p l e ({ frames := 6, cells := 0, slots := 0, locals := 138 } : Room) s m ([.ref (ad 0)] : List Value).toArray below meth c s.heap [] 0 0 (MQ below (va_Ql Q (zB D 116 (zce cy ad) ad) (zA 116 ad)) ([.ref (ad 0)] : List Value).toArray s 0 0 (zA 116 ad)) (F0 m 0 ls [])
  unfold wp_X6_digest at h
  refine lv_ldc2 hx hb hown (hts _ lk0) dX6_digest_0 ?_
  refine lv_aload_n hx hb dX6_digest_3 rfl (lv_at hl 0 rfl) ?_
  refine zget hx hb hts inX6 hown hK hw 0 (by decide) rfl rfl 1 (by decide) lk1 (fun _ h9 => h9) rfl dX6_digest_4 ?_
  refine zgetN (own := RX6) (index := 170) (host := "TypeTrays") hx hb hts inX5 hown hK hw 1 (by decide) rfl rfl 2 (by decide) (by decide +kernel) (fun _ h9 => h9) rfl dX6_digest_7 ?_
  refine lv_i2l hx hb dX6_digest_10 rfl ?_
  refine k_X6_mix (rest := []) hx hb hml hown hts gX6_digest_X6_mix ⟨Nat.le_of_ble_eq_true rfl, Nat.le_of_ble_eq_true rfl⟩ ⟨Nat.zero_le _, Nat.zero_le _⟩ hK hj hw hA hS hl.1 (Nat.le_of_ble_eq_true rfl) dX6_digest_11 h (fun r1 s1 H locs h hw hS => ?_)
  refine lv_lstore_n (lv' := [(1, .long r1), (0, .ref (ad 0))]) hx hb dX6_digest_14 rfl hl (by decide) rfl (fun ls hl => ?_)
  refine lv_iconst (v := (jI 0)) hx hb dX6_digest_15 rfl ?_
  refine lv_istore_n (lv' := [(3, .int (jI 0)), (1, .long r1), (0, .ref (ad 0))]) hx hb dX6_digest_16 rfl hl (by decide) rfl (fun ls hl => ?_)
  have k40_17 : ∀ (u_40 : ST) (z1_40 : Int64) (H : Heap) (locs : List Loc), (∃ nn : Nat, wl_X6_digest_42 (fun u_85 z1_85 => wp_X6_mixLetters u_85 z1_85 (fun r6 s6 => (∃ nn : Nat, wl_X6_digest_93 (fun u_117 z1_117 => wp_X4_countInStreet u_117 (fun r8 s8 => (∃ nn : Nat, wl_X6_digest_128 (fun u_152 z1_152 => wp_X6_oldest u_152 (fun r11 s11 => wp_X6_mix s11 z1_152 (r11.toInt64) (fun r12 s12 => wp_X6_greatestGap s12 (fun r13 s13 => wp_X6_mix s13 r12 (r13.toInt64) (fun r14 s14 => Q r14 s14))))) r8 nn s8 z1_117 (jI 0))))  nn s6 r6 (jI 0))))  nn u_40 z1_40 (jI 0)) → zW D 116 (zce cy ad u_40) ad H → va_S (zA 116 ad) s.heap H locs → ∀ ls : Array Slot, lv_has ls 5 [(0, .ref (ad 0)), (1, .long z1_40)] → W p l e ({ frames := 6, cells := 0, slots := 0, locals := 138 } : Room) s m ([.ref (ad 0)] : List Value).toArray below meth c H locs 0 0 (MQ below (va_Ql Q (zB D 116 (zce cy ad) ad) (zA 116 ad)) ([.ref (ad 0)] : List Value).toArray s 0 0 (zA 116 ad)) (F0 m 40 ls []) := by
    intro u_40 z1_40 H locs h hw hS ls hl
    refine lv_iconst (v := (jI 0)) hx hb dX6_digest_40 rfl ?_
    refine lv_istore_n (lv' := [(3, .int (jI 0)), (0, .ref (ad 0)), (1, .long z1_40)]) hx hb dX6_digest_41 rfl hl (by decide) rfl (fun ls hl => ?_)
    have k85_42 : ∀ (u_85 : ST) (z1_85 : Int64) (H : Heap) (locs : List Loc), wp_X6_mixLetters u_85 z1_85 (fun r6 s6 => (∃ nn : Nat, wl_X6_digest_93 (fun u_117 z1_117 => wp_X4_countInStreet u_117 (fun r8 s8 => (∃ nn : Nat, wl_X6_digest_128 (fun u_152 z1_152 => wp_X6_oldest u_152 (fun r11 s11 => wp_X6_mix s11 z1_152 (r11.toInt64) (fun r12 s12 => wp_X6_greatestGap s12 (fun r13 s13 => wp_X6_mix s13 r12 (r13.toInt64) (fun r14 s14 => Q r14 s14))))) r8 nn s8 z1_117 (jI 0))))  nn s6 r6 (jI 0))) → zW D 116 (zce cy ad u_85) ad H → va_S (zA 116 ad) s.heap H locs → ∀ ls : Array Slot, lv_has ls 5 [(0, .ref (ad 0)), (1, .long z1_85)] → W p l e ({ frames := 6, cells := 0, slots := 0, locals := 138 } : Room) s m ([.ref (ad 0)] : List Value).toArray below meth c H locs 0 0 (MQ below (va_Ql Q (zB D 116 (zce cy ad) ad) (zA 116 ad)) ([.ref (ad 0)] : List Value).toArray s 0 0 (zA 116 ad)) (F0 m 85 ls []) := by
      intro u_85 z1_85 H locs h hw hS ls hl
      refine lv_aload_n hx hb dX6_digest_85 rfl (lv_at hl 0 rfl) ?_
      refine lv_lload_n hx hb dX6_digest_86 rfl (lv_at hl 1 rfl) ?_
      refine k_X6_mixLetters (rest := []) hx hb hml hown hts gX6_digest_X6_mixLetters ⟨Nat.le_of_ble_eq_true rfl, Nat.le_of_ble_eq_true rfl⟩ ⟨Nat.zero_le _, Nat.zero_le _⟩ hK hj hw hA hS hl.1 (Nat.le_of_ble_eq_true rfl) dX6_digest_87 h (fun r6 s6 H locs h hw hS => ?_)
      refine lv_lstore_n (lv' := [(1, .long r6), (0, .ref (ad 0))]) hx hb dX6_digest_90 rfl hl (by decide) rfl (fun ls hl => ?_)
      refine lv_iconst (v := (jI 0)) hx hb dX6_digest_91 rfl ?_
      refine lv_istore_n (lv' := [(3, .int (jI 0)), (1, .long r6), (0, .ref (ad 0))]) hx hb dX6_digest_92 rfl hl (by decide) rfl (fun ls hl => ?_)
      have k117_93 : ∀ (u_117 : ST) (z1_117 : Int64) (H : Heap) (locs : List Loc), wp_X4_countInStreet u_117 (fun r8 s8 => (∃ nn : Nat, wl_X6_digest_128 (fun u_152 z1_152 => wp_X6_oldest u_152 (fun r11 s11 => wp_X6_mix s11 z1_152 (r11.toInt64) (fun r12 s12 => wp_X6_greatestGap s12 (fun r13 s13 => wp_X6_mix s13 r12 (r13.toInt64) (fun r14 s14 => Q r14 s14))))) r8 nn s8 z1_117 (jI 0))) → zW D 116 (zce cy ad u_117) ad H → va_S (zA 116 ad) s.heap H locs → ∀ ls : Array Slot, lv_has ls 5 [(0, .ref (ad 0)), (1, .long z1_117)] → W p l e ({ frames := 6, cells := 0, slots := 0, locals := 138 } : Room) s m ([.ref (ad 0)] : List Value).toArray below meth c H locs 0 0 (MQ below (va_Ql Q (zB D 116 (zce cy ad) ad) (zA 116 ad)) ([.ref (ad 0)] : List Value).toArray s 0 0 (zA 116 ad)) (F0 m 117 ls []) := by
        intro u_117 z1_117 H locs h hw hS ls hl
        refine lv_aload_n hx hb dX6_digest_117 rfl (lv_at hl 0 rfl) ?_
        refine zget hx hb hts inX6 hown hK hw 0 (by decide) rfl rfl 0 (by decide) lk2 (fun _ h9 => h9) rfl dX6_digest_118 ?_
        refine k_X4_countInStreet (rest := []) hx hb hml hown hts gX6_digest_X4_countInStreet ⟨Nat.le_of_ble_eq_true rfl, Nat.le_of_ble_eq_true rfl⟩ ⟨Nat.zero_le _, Nat.zero_le _⟩ hK hj hw hA hS hl.1 (Nat.le_of_ble_eq_true rfl) dX6_digest_121 h (fun r8 s8 H locs h hw hS => ?_)
        refine lv_istore_n (lv' := [(3, .int r8), (0, .ref (ad 0)), (1, .long z1_117)]) hx hb dX6_digest_124 rfl hl (by decide) rfl (fun ls hl => ?_)
        refine lv_iconst (v := (jI 0)) hx hb dX6_digest_125 rfl ?_
        refine lv_istore (lv' := [(4, .int (jI 0)), (3, .int r8), (0, .ref (ad 0)), (1, .long z1_117)]) hx hb dX6_digest_126 hl (by decide) rfl (fun ls hl => ?_)
        have k152_128 : ∀ (u_152 : ST) (z1_152 : Int64) (H : Heap) (locs : List Loc), wp_X6_oldest u_152 (fun r11 s11 => wp_X6_mix s11 z1_152 (r11.toInt64) (fun r12 s12 => wp_X6_greatestGap s12 (fun r13 s13 => wp_X6_mix s13 r12 (r13.toInt64) (fun r14 s14 => Q r14 s14)))) → zW D 116 (zce cy ad u_152) ad H → va_S (zA 116 ad) s.heap H locs → ∀ ls : Array Slot, lv_has ls 5 [(0, .ref (ad 0)), (1, .long z1_152)] → W p l e ({ frames := 6, cells := 0, slots := 0, locals := 138 } : Room) s m ([.ref (ad 0)] : List Value).toArray below meth c H locs 0 0 (MQ below (va_Ql Q (zB D 116 (zce cy ad) ad) (zA 116 ad)) ([.ref (ad 0)] : List Value).toArray s 0 0 (zA 116 ad)) (F0 m 152 ls []) := by
          intro u_152 z1_152 H locs h hw hS ls hl
          refine lv_lload_n hx hb dX6_digest_152 rfl (lv_at hl 1 rfl) ?_
          refine lv_aload_n hx hb dX6_digest_153 rfl (lv_at hl 0 rfl) ?_
          refine k_X6_oldest (rest := [.long z1_152]) hx hb hml hown hts gX6_digest_X6_oldest ⟨Nat.le_of_ble_eq_true rfl, Nat.le_of_ble_eq_true rfl⟩ ⟨Nat.zero_le _, Nat.zero_le _⟩ hK hj hw hA hS hl.1 (Nat.le_of_ble_eq_true rfl) dX6_digest_154 h (fun r11 s11 H locs h hw hS => ?_)
          refine lv_i2l hx hb dX6_digest_157 rfl ?_
          refine k_X6_mix (rest := []) hx hb hml hown hts gX6_digest_X6_mix ⟨Nat.le_of_ble_eq_true rfl, Nat.le_of_ble_eq_true rfl⟩ ⟨Nat.zero_le _, Nat.zero_le _⟩ hK hj hw hA hS hl.1 (Nat.le_of_ble_eq_true rfl) dX6_digest_158 h (fun r12 s12 H locs h hw hS => ?_)
          refine lv_aload_n hx hb dX6_digest_161 rfl (lv_at hl 0 rfl) ?_
          refine k_X6_greatestGap (rest := [.long r12]) hx hb hml hown hts gX6_digest_X6_greatestGap ⟨Nat.le_of_ble_eq_true rfl, Nat.le_of_ble_eq_true rfl⟩ ⟨Nat.zero_le _, Nat.zero_le _⟩ hK hj hw hA hS hl.1 (Nat.le_of_ble_eq_true rfl) dX6_digest_162 h (fun r13 s13 H locs h hw hS => ?_)
          refine lv_i2l hx hb dX6_digest_165 rfl ?_
          refine k_X6_mix (rest := []) hx hb hml hown hts gX6_digest_X6_mix ⟨Nat.le_of_ble_eq_true rfl, Nat.le_of_ble_eq_true rfl⟩ ⟨Nat.zero_le _, Nat.zero_le _⟩ hK hj hw hA hS hl.1 (Nat.le_of_ble_eq_true rfl) dX6_digest_166 h (fun r14 s14 H locs h hw hS => ?_)
          exact W.lret (v := r14) hx hb hr (fun t ht hW => ⟨⟨_, _, rfl, h, zend hw ht⟩, hS.F ht⟩) hS.2.2 dX6_digest_169
        have lp128 : ∀ (nn128 : Nat) (t_128 : ST) (y1_128 : Int64) (y4_128 : Int32) (H : Heap) (locs : List Loc), wl_X6_digest_128 (fun u_152 z1_152 => wp_X6_oldest u_152 (fun r11 s11 => wp_X6_mix s11 z1_152 (r11.toInt64) (fun r12 s12 => wp_X6_greatestGap s12 (fun r13 s13 => wp_X6_mix s13 r12 (r13.toInt64) (fun r14 s14 => Q r14 s14))))) r8 nn128 t_128 y1_128 y4_128 → zW D 116 (zce cy ad t_128) ad H → va_S (zA 116 ad) s.heap H locs → ∀ ls : Array Slot, lv_has ls 5 [(0, .ref (ad 0)), (1, .long y1_128), (3, .int r8), (4, .int y4_128)] → W p l e ({ frames := 6, cells := 0, slots := 0, locals := 138 } : Room) s m ([.ref (ad 0)] : List Value).toArray below meth c H locs 0 0 (MQ below (va_Ql Q (zB D 116 (zce cy ad) ad) (zA 116 ad)) ([.ref (ad 0)] : List Value).toArray s 0 0 (zA 116 ad)) (F0 m 128 ls []) := by
          intro nn128
          induction nn128 with
          | zero => intro _ _ _ _ _ h; exact h.elim
          | succ nn128 ih128 =>
            intro t_128 y1_128 y4_128 H locs h hw hS ls hl
            simp only [wl_X6_digest_128, wb_X6_digest_128] at h
            refine lv_iload hx hb dX6_digest_128 (lv_at hl 3 rfl) ?_
            refine lv_iload_n hx hb dX6_digest_130 rfl (lv_at hl 2 rfl) ?_
            refine lv_icmp_ge (tgt := 152) hx hb dX6_digest_131 (by decide) (fun c5 => ?_) (fun c5 => ?_)
            · have h := h.1 c5
              exact k152_128 _ _ _ _ h hw hS _ (lv_sub hl [0, 1] rfl)
            · have h := h.2 c5
              refine lv_lload_n hx hb dX6_digest_134 rfl (lv_at hl 1 rfl) ?_
              refine lv_aload_n hx hb dX6_digest_135 rfl (lv_at hl 0 rfl) ?_
              refine lv_iload hx hb dX6_digest_136 (lv_at hl 3 rfl) ?_
              refine k_X6_street (rest := [.long y1_128]) hx hb hml hown hts gX6_digest_X6_street ⟨Nat.le_of_ble_eq_true rfl, Nat.le_of_ble_eq_true rfl⟩ ⟨Nat.zero_le _, Nat.zero_le _⟩ hK hj hw hA hS hl.1 (Nat.le_of_ble_eq_true rfl) dX6_digest_138 h (fun r9 s9 H locs h hw hS => ?_)
              refine lv_i2l hx hb dX6_digest_141 rfl ?_
              refine k_X6_mix (rest := []) hx hb hml hown hts gX6_digest_X6_mix ⟨Nat.le_of_ble_eq_true rfl, Nat.le_of_ble_eq_true rfl⟩ ⟨Nat.zero_le _, Nat.zero_le _⟩ hK hj hw hA hS hl.1 (Nat.le_of_ble_eq_true rfl) dX6_digest_142 h (fun r10 s10 H locs h hw hS => ?_)
              refine lv_lstore_n (lv' := [(1, .long r10), (0, .ref (ad 0)), (3, .int r8), (4, .int y4_128)]) hx hb dX6_digest_145 rfl hl (by decide) rfl (fun ls hl => ?_)
              obtain ⟨x5, ex5⟩ : ∃ y : Int32, y = y4_128 + (jI 1) := ⟨_, rfl⟩
              have h := h x5 ex5
              refine lv_iinc (v := x5) (lv' := [(4, .int x5), (1, .long r10), (0, .ref (ad 0)), (3, .int r8)]) hx hb dX6_digest_146 hl (k := 3) rfl (by rw [ex5]; rfl) (by decide) rfl (fun ls hl => ?_)
              refine lv_goto (tgt := 128) hx hb dX6_digest_149 (by decide) ?_
              exact ih128 _ _ _ _ _ h hw hS _ (lv_sub hl [2, 1, 3, 0] rfl)
        obtain ⟨nn128, h⟩ := h
        exact lp128 nn128 _ _ _ _ _ h hw hS _ (lv_sub hl [2, 3, 1, 0] rfl)
      have lp93 : ∀ (nn93 : Nat) (t_93 : ST) (y1_93 : Int64) (y3_93 : Int32) (H : Heap) (locs : List Loc), wl_X6_digest_93 (fun u_117 z1_117 => wp_X4_countInStreet u_117 (fun r8 s8 => (∃ nn : Nat, wl_X6_digest_128 (fun u_152 z1_152 => wp_X6_oldest u_152 (fun r11 s11 => wp_X6_mix s11 z1_152 (r11.toInt64) (fun r12 s12 => wp_X6_greatestGap s12 (fun r13 s13 => wp_X6_mix s13 r12 (r13.toInt64) (fun r14 s14 => Q r14 s14))))) r8 nn s8 z1_117 (jI 0))))  nn93 t_93 y1_93 y3_93 → zW D 116 (zce cy ad t_93) ad H → va_S (zA 116 ad) s.heap H locs → ∀ ls : Array Slot, lv_has ls 5 [(0, .ref (ad 0)), (1, .long y1_93), (3, .int y3_93)] → W p l e ({ frames := 6, cells := 0, slots := 0, locals := 138 } : Room) s m ([.ref (ad 0)] : List Value).toArray below meth c H locs 0 0 (MQ below (va_Ql Q (zB D 116 (zce cy ad) ad) (zA 116 ad)) ([.ref (ad 0)] : List Value).toArray s 0 0 (zA 116 ad)) (F0 m 93 ls []) := by
        intro nn93
        induction nn93 with
        | zero => intro _ _ _ _ _ h; exact h.elim
        | succ nn93 ih93 =>
          intro t_93 y1_93 y3_93 H locs h hw hS ls hl
          simp only [wl_X6_digest_93, wb_X6_digest_93] at h
          refine lv_iload_n hx hb dX6_digest_93 rfl (lv_at hl 2 rfl) ?_
          refine lv_aload_n hx hb dX6_digest_94 rfl (lv_at hl 0 rfl) ?_
          refine zget hx hb hts inX6 hown hK hw 0 (by decide) rfl rfl 0 (by decide) lk2 (fun _ h9 => h9) rfl dX6_digest_95 ?_
          refine zgetN (own := RX6) (index := 187) (host := "TypeTrays") hx hb hts inX4 hown hK hw 5 (by decide) rfl rfl 11 (by decide) (by decide +kernel) (fun _ h9 => h9) rfl dX6_digest_98 ?_
          refine lv_icmp_ge (tgt := 117) hx hb dX6_digest_101 (by decide) (fun c4 => ?_) (fun c4 => ?_)
          · have h := h.1 c4
            exact k117_93 _ _ _ _ h hw hS _ (lv_sub hl [0, 1] rfl)
          · have h := h.2 c4
            refine lv_aload_n hx hb dX6_digest_104 rfl (lv_at hl 0 rfl) ?_
            refine lv_lload_n hx hb dX6_digest_105 rfl (lv_at hl 1 rfl) ?_
            refine lv_iload_n hx hb dX6_digest_106 rfl (lv_at hl 2 rfl) ?_
            refine k_X6_mixTray (rest := []) hx hb hml hown hts gX6_digest_X6_mixTray ⟨Nat.le_of_ble_eq_true rfl, Nat.le_of_ble_eq_true rfl⟩ ⟨Nat.zero_le _, Nat.zero_le _⟩ hK hj hw hA hS hl.1 (Nat.le_of_ble_eq_true rfl) dX6_digest_107 h (fun r7 s7 H locs h hw hS => ?_)
            refine lv_lstore_n (lv' := [(1, .long r7), (0, .ref (ad 0)), (3, .int y3_93)]) hx hb dX6_digest_110 rfl hl (by decide) rfl (fun ls hl => ?_)
            obtain ⟨x4, ex4⟩ : ∃ y : Int32, y = y3_93 + (jI 1) := ⟨_, rfl⟩
            have h := h x4 ex4
            refine lv_iinc (v := x4) (lv' := [(3, .int x4), (1, .long r7), (0, .ref (ad 0))]) hx hb dX6_digest_111 hl (k := 2) rfl (by rw [ex4]; rfl) (by decide) rfl (fun ls hl => ?_)
            refine lv_goto (tgt := 93) hx hb dX6_digest_114 (by decide) ?_
            exact ih93 _ _ _ _ _ h hw hS _ (lv_sub hl [2, 1, 0] rfl)
      obtain ⟨nn93, h⟩ := h
      exact lp93 nn93 _ _ _ _ _ h hw hS _ (lv_sub hl [2, 1, 0] rfl)
    have lp42 : ∀ (nn42 : Nat) (t_42 : ST) (y1_42 : Int64) (y3_42 : Int32) (H : Heap) (locs : List Loc), wl_X6_digest_42 (fun u_85 z1_85 => wp_X6_mixLetters u_85 z1_85 (fun r6 s6 => (∃ nn : Nat, wl_X6_digest_93 (fun u_117 z1_117 => wp_X4_countInStreet u_117 (fun r8 s8 => (∃ nn : Nat, wl_X6_digest_128 (fun u_152 z1_152 => wp_X6_oldest u_152 (fun r11 s11 => wp_X6_mix s11 z1_152 (r11.toInt64) (fun r12 s12 => wp_X6_greatestGap s12 (fun r13 s13 => wp_X6_mix s13 r12 (r13.toInt64) (fun r14 s14 => Q r14 s14))))) r8 nn s8 z1_117 (jI 0))))  nn s6 r6 (jI 0))))  nn42 t_42 y1_42 y3_42 → zW D 116 (zce cy ad t_42) ad H → va_S (zA 116 ad) s.heap H locs → ∀ ls : Array Slot, lv_has ls 5 [(0, .ref (ad 0)), (1, .long y1_42), (3, .int y3_42)] → W p l e ({ frames := 6, cells := 0, slots := 0, locals := 138 } : Room) s m ([.ref (ad 0)] : List Value).toArray below meth c H locs 0 0 (MQ below (va_Ql Q (zB D 116 (zce cy ad) ad) (zA 116 ad)) ([.ref (ad 0)] : List Value).toArray s 0 0 (zA 116 ad)) (F0 m 42 ls []) := by
      intro nn42
      induction nn42 with
      | zero => intro _ _ _ _ _ h; exact h.elim
      | succ nn42 ih42 =>
        intro t_42 y1_42 y3_42 H locs h hw hS ls hl
        simp only [wl_X6_digest_42, wb_X6_digest_42] at h
        refine lv_iload_n hx hb dX6_digest_42 rfl (lv_at hl 2 rfl) ?_
        refine lv_bipush (v := (jI 16)) hx hb dX6_digest_43 (by decide +kernel) ?_
        refine lv_icmp_ge (tgt := 85) hx hb dX6_digest_45 (by decide) (fun c2 => ?_) (fun c2 => ?_)
        · have h := h.1 c2
          exact k85_42 _ _ _ _ h hw hS _ (lv_sub hl [0, 1] rfl)
        · have h := h.2 c2
          refine lv_iconst (v := (jI 0)) hx hb dX6_digest_48 rfl ?_
          refine lv_istore (lv' := [(4, .int (jI 0)), (0, .ref (ad 0)), (1, .long y1_42), (3, .int y3_42)]) hx hb dX6_digest_49 hl (by decide) rfl (fun ls hl => ?_)
          have k79_51 : ∀ (u_79 : ST) (z1_79 : Int64) (H : Heap) (locs : List Loc), (∀ x3 : Int32, x3 = y3_42 + (jI 1) → (wl_X6_digest_42 (fun u_85 z1_85 => wp_X6_mixLetters u_85 z1_85 (fun r6 s6 => (∃ nn : Nat, wl_X6_digest_93 (fun u_117 z1_117 => wp_X4_countInStreet u_117 (fun r8 s8 => (∃ nn : Nat, wl_X6_digest_128 (fun u_152 z1_152 => wp_X6_oldest u_152 (fun r11 s11 => wp_X6_mix s11 z1_152 (r11.toInt64) (fun r12 s12 => wp_X6_greatestGap s12 (fun r13 s13 => wp_X6_mix s13 r12 (r13.toInt64) (fun r14 s14 => Q r14 s14))))) r8 nn s8 z1_117 (jI 0))))  nn s6 r6 (jI 0))))  nn42) u_79 z1_79 x3) → zW D 116 (zce cy ad u_79) ad H → va_S (zA 116 ad) s.heap H locs → ∀ ls : Array Slot, lv_has ls 5 [(0, .ref (ad 0)), (1, .long z1_79), (3, .int y3_42)] → W p l e ({ frames := 6, cells := 0, slots := 0, locals := 138 } : Room) s m ([.ref (ad 0)] : List Value).toArray below meth c H locs 0 0 (MQ below (va_Ql Q (zB D 116 (zce cy ad) ad) (zA 116 ad)) ([.ref (ad 0)] : List Value).toArray s 0 0 (zA 116 ad)) (F0 m 79 ls []) := by
            intro u_79 z1_79 H locs h hw hS ls hl
            obtain ⟨x3, ex3⟩ : ∃ y : Int32, y = y3_42 + (jI 1) := ⟨_, rfl⟩
            have h := h x3 ex3
            refine lv_iinc (v := x3) (lv' := [(3, .int x3), (0, .ref (ad 0)), (1, .long z1_79)]) hx hb dX6_digest_79 hl (k := 2) rfl (by rw [ex3]; rfl) (by decide) rfl (fun ls hl => ?_)
            refine lv_goto (tgt := 42) hx hb dX6_digest_82 (by decide) ?_
            exact ih42 _ _ _ _ _ h hw hS _ (lv_sub hl [1, 2, 0] rfl)
          have lp51 : ∀ (nn51 : Nat) (t_51 : ST) (y1_51 : Int64) (y4_51 : Int32) (H : Heap) (locs : List Loc), wl_X6_digest_51 (fun u_79 z1_79 => (∀ x3 : Int32, x3 = y3_42 + (jI 1) → (wl_X6_digest_42 (fun u_85 z1_85 => wp_X6_mixLetters u_85 z1_85 (fun r6 s6 => (∃ nn : Nat, wl_X6_digest_93 (fun u_117 z1_117 => wp_X4_countInStreet u_117 (fun r8 s8 => (∃ nn : Nat, wl_X6_digest_128 (fun u_152 z1_152 => wp_X6_oldest u_152 (fun r11 s11 => wp_X6_mix s11 z1_152 (r11.toInt64) (fun r12 s12 => wp_X6_greatestGap s12 (fun r13 s13 => wp_X6_mix s13 r12 (r13.toInt64) (fun r14 s14 => Q r14 s14))))) r8 nn s8 z1_117 (jI 0))))  nn s6 r6 (jI 0))))  nn42) u_79 z1_79 x3)) y3_42 nn51 t_51 y1_51 y4_51 → zW D 116 (zce cy ad t_51) ad H → va_S (zA 116 ad) s.heap H locs → ∀ ls : Array Slot, lv_has ls 5 [(0, .ref (ad 0)), (1, .long y1_51), (3, .int y3_42), (4, .int y4_51)] → W p l e ({ frames := 6, cells := 0, slots := 0, locals := 138 } : Room) s m ([.ref (ad 0)] : List Value).toArray below meth c H locs 0 0 (MQ below (va_Ql Q (zB D 116 (zce cy ad) ad) (zA 116 ad)) ([.ref (ad 0)] : List Value).toArray s 0 0 (zA 116 ad)) (F0 m 51 ls []) := by
            intro nn51
            induction nn51 with
            | zero => intro _ _ _ _ _ h; exact h.elim
            | succ nn51 ih51 =>
              intro t_51 y1_51 y4_51 H locs h hw hS ls hl
              simp only [wl_X6_digest_51, wb_X6_digest_51] at h
              refine lv_iload hx hb dX6_digest_51 (lv_at hl 3 rfl) ?_
              refine lv_iconst (v := (jI 4)) hx hb dX6_digest_53 rfl ?_
              refine lv_icmp_ge (tgt := 79) hx hb dX6_digest_54 (by decide) (fun c3 => ?_) (fun c3 => ?_)
              · have h := h.1 c3
                exact k79_51 _ _ _ _ h hw hS _ (lv_sub hl [0, 1, 2] rfl)
              · have h := h.2 c3
                refine lv_lload_n hx hb dX6_digest_57 rfl (lv_at hl 1 rfl) ?_
                refine lv_aload_n hx hb dX6_digest_58 rfl (lv_at hl 0 rfl) ?_
                refine zget hx hb hts inX6 hown hK hw 0 (by decide) rfl rfl 0 (by decide) lk2 (fun _ h9 => h9) rfl dX6_digest_59 ?_
                refine lv_iload_n hx hb dX6_digest_62 rfl (lv_at hl 2 rfl) ?_
                refine lv_iload hx hb dX6_digest_63 (lv_at hl 3 rfl) ?_
                refine k_X4_signValue (rest := [.long y1_51]) hx hb hml hown hts gX6_digest_X4_signValue ⟨Nat.le_of_ble_eq_true rfl, Nat.le_of_ble_eq_true rfl⟩ ⟨Nat.zero_le _, Nat.zero_le _⟩ hK hj hw hA hS hl.1 (Nat.le_of_ble_eq_true rfl) dX6_digest_65 h (fun r4 s4 H locs h hw hS => ?_)
                refine lv_i2l hx hb dX6_digest_68 rfl ?_
                refine k_X6_mix (rest := []) hx hb hml hown hts gX6_digest_X6_mix ⟨Nat.le_of_ble_eq_true rfl, Nat.le_of_ble_eq_true rfl⟩ ⟨Nat.zero_le _, Nat.zero_le _⟩ hK hj hw hA hS hl.1 (Nat.le_of_ble_eq_true rfl) dX6_digest_69 h (fun r5 s5 H locs h hw hS => ?_)
                refine lv_lstore_n (lv' := [(1, .long r5), (0, .ref (ad 0)), (3, .int y3_42), (4, .int y4_51)]) hx hb dX6_digest_72 rfl hl (by decide) rfl (fun ls hl => ?_)
                obtain ⟨x2, ex2⟩ : ∃ y : Int32, y = y4_51 + (jI 1) := ⟨_, rfl⟩
                have h := h x2 ex2
                refine lv_iinc (v := x2) (lv' := [(4, .int x2), (1, .long r5), (0, .ref (ad 0)), (3, .int y3_42)]) hx hb dX6_digest_73 hl (k := 3) rfl (by rw [ex2]; rfl) (by decide) rfl (fun ls hl => ?_)
                refine lv_goto (tgt := 51) hx hb dX6_digest_76 (by decide) ?_
                exact ih51 _ _ _ _ _ h hw hS _ (lv_sub hl [2, 1, 3, 0] rfl)
          obtain ⟨nn51, h⟩ := h
          exact lp51 nn51 _ _ _ _ _ h hw hS _ (lv_sub hl [1, 2, 3, 0] rfl)
    obtain ⟨nn42, h⟩ := h
    exact lp42 nn42 _ _ _ _ _ h hw hS _ (lv_sub hl [1, 2, 0] rfl)
  have lp17 : ∀ (nn17 : Nat) (t_17 : ST) (y1_17 : Int64) (y3_17 : Int32) (H : Heap) (locs : List Loc), wl_X6_digest_17 (fun u_40 z1_40 => (∃ nn : Nat, wl_X6_digest_42 (fun u_85 z1_85 => wp_X6_mixLetters u_85 z1_85 (fun r6 s6 => (∃ nn : Nat, wl_X6_digest_93 (fun u_117 z1_117 => wp_X4_countInStreet u_117 (fun r8 s8 => (∃ nn : Nat, wl_X6_digest_128 (fun u_152 z1_152 => wp_X6_oldest u_152 (fun r11 s11 => wp_X6_mix s11 z1_152 (r11.toInt64) (fun r12 s12 => wp_X6_greatestGap s12 (fun r13 s13 => wp_X6_mix s13 r12 (r13.toInt64) (fun r14 s14 => Q r14 s14))))) r8 nn s8 z1_117 (jI 0))))  nn s6 r6 (jI 0))))  nn u_40 z1_40 (jI 0)))  nn17 t_17 y1_17 y3_17 → zW D 116 (zce cy ad t_17) ad H → va_S (zA 116 ad) s.heap H locs → ∀ ls : Array Slot, lv_has ls 5 [(0, .ref (ad 0)), (1, .long y1_17), (3, .int y3_17)] → W p l e ({ frames := 6, cells := 0, slots := 0, locals := 138 } : Room) s m ([.ref (ad 0)] : List Value).toArray below meth c H locs 0 0 (MQ below (va_Ql Q (zB D 116 (zce cy ad) ad) (zA 116 ad)) ([.ref (ad 0)] : List Value).toArray s 0 0 (zA 116 ad)) (F0 m 17 ls []) := by
    intro nn17
    induction nn17 with
    | zero => intro _ _ _ _ _ h; exact h.elim
    | succ nn17 ih17 =>
      intro t_17 y1_17 y3_17 H locs h hw hS ls hl
      simp only [wl_X6_digest_17, wb_X6_digest_17] at h
      refine lv_iload_n hx hb dX6_digest_17 rfl (lv_at hl 2 rfl) ?_
      refine lv_bipush (v := (jI 13)) hx hb dX6_digest_18 (by decide +kernel) ?_
      refine lv_icmp_ge (tgt := 40) hx hb dX6_digest_20 (by decide) (fun c1 => ?_) (fun c1 => ?_)
      · have h := h.1 c1
        exact k40_17 _ _ _ _ h hw hS _ (lv_sub hl [0, 1] rfl)
      · have h := h.2 c1
        refine lv_lload_n hx hb dX6_digest_23 rfl (lv_at hl 1 rfl) ?_
        refine lv_aload_n hx hb dX6_digest_24 rfl (lv_at hl 0 rfl) ?_
        refine lv_iload_n hx hb dX6_digest_25 rfl (lv_at hl 2 rfl) ?_
        refine k_X6_whole (rest := [.long y1_17]) hx hb hml hown hts gX6_digest_X6_whole ⟨Nat.le_of_ble_eq_true rfl, Nat.le_of_ble_eq_true rfl⟩ ⟨Nat.zero_le _, Nat.zero_le _⟩ hK hj hw hA hS hl.1 (Nat.le_of_ble_eq_true rfl) dX6_digest_26 h (fun r2 s2 H locs h hw hS => ?_)
        refine lv_i2l hx hb dX6_digest_29 rfl ?_
        refine k_X6_mix (rest := []) hx hb hml hown hts gX6_digest_X6_mix ⟨Nat.le_of_ble_eq_true rfl, Nat.le_of_ble_eq_true rfl⟩ ⟨Nat.zero_le _, Nat.zero_le _⟩ hK hj hw hA hS hl.1 (Nat.le_of_ble_eq_true rfl) dX6_digest_30 h (fun r3 s3 H locs h hw hS => ?_)
        refine lv_lstore_n (lv' := [(1, .long r3), (0, .ref (ad 0)), (3, .int y3_17)]) hx hb dX6_digest_33 rfl hl (by decide) rfl (fun ls hl => ?_)
        obtain ⟨x1, ex1⟩ : ∃ y : Int32, y = y3_17 + (jI 1) := ⟨_, rfl⟩
        have h := h x1 ex1
        refine lv_iinc (v := x1) (lv' := [(3, .int x1), (1, .long r3), (0, .ref (ad 0))]) hx hb dX6_digest_34 hl (k := 2) rfl (by rw [ex1]; rfl) (by decide) rfl (fun ls hl => ?_)
        refine lv_goto (tgt := 17) hx hb dX6_digest_37 (by decide) ?_
        exact ih17 _ _ _ _ _ h hw hS _ (lv_sub hl [2, 1, 0] rfl)
  obtain ⟨nn17, h⟩ := h
  exact lp17 nn17 _ _ _ _ _ h hw hS _ (lv_sub hl [2, 1, 0] rfl)
theorem k_X6_digest {p : Program} {l : Launch} {e : Env} {R : Room} {s : State} {m : MethodId} {args : Array Value} {below : List Frame} {meth : Method} {c : Code} {H : Heap} {locs : List Loc} {cells slots : Nat} {QQ : State → Prop} {cc : ByteArray} {pc nL index : Nat} {ls : Array Slot} {rest : List Value} {D : va_G} {cy : cyT} {ad : Nat → Nat} {own : String} {Ts : List Cond} {H0 : Heap} {σ : ST}  {Q : Int64 → ST → Prop} (hx : p.tables.exec = Jvm.exec) (hb : c.code = cc) (hml : c.maxLocals = nL) (hown : s.vm.findClass own = some m.cls) (hts : ∀ w ∈ Ts, w.before args s = true) (hG : GoodIn Ts (wsV own index RX6 yX6_digest wsX6_digest)) (hR : 6 + 1 ≤ R.frames ∧ 8 + (5 + 11) + 138 ≤ R.locals) (hcs : cells ≤ R.cells ∧ slots ≤ R.slots) (hK : zK D cy s) (hj : zI 116 ad) (hw : zW D 116 (zce cy ad σ) ad H) {A0 : Nat → Prop} (hA : ∀ i, i < 116 → A0 (ad i)) (hS : va_S A0 H0 H locs) (hsz : ls.size = nL) (hrest : (rest.map fun v => v.category).sum ≤ 8) (hdg : decode cc pc = .ok (.invokevirtual index, 3)) (h : wp_X6_digest σ  Q) (kk : ∀ (r : Int64) (σ : ST) (H : Heap) (locs : List Loc), Q r σ → zW D 116 (zce cy ad σ) ad H → va_S A0 H0 H locs → W p l e R s m args below meth c H locs cells slots QQ (F0 m (pc + 3) ls (.long r :: rest))) : W p l e R s m args below meth c H locs cells slots QQ (F0 m pc ls (.ref (ad 0) :: rest)) :=
  zcalll (va_runV (As := []) (rest := rest) ⟨hx, hb, hml, hown, hts⟩ (c_X6_digest l D cy ad σ  h) (cwV 0 hts hG rfl rfl rfl (by decide +kernel) hR) (zpreV hj hK hw _ (i := 0) (ci := 5) (by decide) rfl rfl) rfl rfl hsz rfl (lv_room hrest) hdg hcs) hA hS kk
theorem last_08z : True := trivial
