/-! printed by wip/whole/gen.py: contracts -/
set_option maxHeartbeats 4000000 in
set_option maxRecDepth 100000 in
theorem c_X0_append (l : Launch) (D : va_G) (cy : cyT) (ad : Nat → Nat) (σ : ST) (p0 : Int32) {Q : Int32 → ST → Prop} (h : wp_X0_append σ p0 Q) : Met l yX0_append wsX0_append ({ frames := 1, cells := 0, slots := 0, locals := 22 } : Room) (zPre D cy 116 (zce cy ad σ) ad [.ref (ad 3), .int p0]) (va_Qi Q (zB D 116 (zce cy ad) ad) (zA 116 ad)) 0 0 (zA 116 ad) := by
  refine Met.ofW (cc := cX0_append) (maxL := 2) (ret := (some .int)) (by decide) rfl ?_
  intro p e s m args below meth c s₁ B hml hv
  obtain ⟨rfl, hj, hK, hw⟩ := hv
  have hx := B.exec
  have hb := B.bytes
  have hr := B.returns
  have hts := atoms_spec (ws := wsX0_append) B.pre
  have hown : s.vm.findClass RX0 = some m.cls := findClass_of_methodNamed B.named
  have hlocks := B.notSynchronized
  have lk0 : Cond.fieldLink RX0 14 "TypeTrays$Commands" "text" "LTypeTrays$Row;" ∈ wsX0_append := List.mem_of_getElem? (i := 1) rfl
  have lk1 : Cond.fieldLink RX0 20 "TypeTrays$Commands" "length" "I" ∈ wsX0_append := List.mem_of_getElem? (i := 2) rfl
  have inX0 : ∀ w ∈ u_ws RX0 TX0 6, w ∈ wsX0_append := zin_at 9 rfl
  have hS : va_S (zA 116 ad) s.heap s.heap [] := va_S.rf
  have hA : ∀ i, i < 116 → zA 116 ad (ad i) := fun i hi => ⟨i, hi, rfl⟩
  have hl := lv_entry ([.ref (ad 3), .int p0]) (n := 2) (Nat.le_of_ble_eq_true rfl)
  rw [lg_entry_eq]
  generalize (lg_sl ([.ref (ad 3), .int p0]) ++ List.replicate (2 - (lg_sl ([.ref (ad 3), .int p0])).length) Slot.unset).toArray = ls at hl ⊢
  have hl : lv_has ls 2 [(0, .ref (ad 3)), (1, .int p0)] := hl
  show W p l e ({ frames := 1, cells := 0, slots := 0, locals := 22 } : Room) s m ([.ref (ad 3), .int p0] : List Value).toArray below meth c s.heap [] 0 0 (MQ below (va_Qi Q (zB D 116 (zce cy ad) ad) (zA 116 ad)) ([.ref (ad 3), .int p0] : List Value).toArray s 0 0 (zA 116 ad)) (F0 m 0 ls [])
  unfold wp_X0_append at h
  refine lv_aload_n hx hb dX0_append_0 rfl (lv_at hl 0 rfl) ?_
  refine zget hx hb hts inX0 hown hK hw 3 (by decide) rfl rfl 0 (by decide) lk0 (fun _ h9 => h9) rfl dX0_append_1 ?_
  refine lv_aload_n hx hb dX0_append_4 rfl (lv_at hl 0 rfl) ?_
  refine zget hx hb hts inX0 hown hK hw 3 (by decide) rfl rfl 1 (by decide) lk1 (fun _ h9 => h9) rfl dX0_append_5 ?_
  refine lv_iload_n hx hb dX0_append_8 rfl (lv_at hl 1 rfl) ?_
  obtain ⟨s1, es1⟩ : ∃ y : ST, y = zrs σ 50 (σ.2 42) p0 := ⟨_, rfl⟩
  have h := h s1 es1
  refine zcall_put (rest := []) hx hb hml hown hts gX0_append_X3_put ⟨Nat.le_of_ble_eq_true rfl, Nat.le_of_ble_eq_true rfl⟩ ⟨Nat.zero_le _, Nat.zero_le _⟩ hK hj hw hA hS 50 (by decide) hl.1 (Nat.le_of_ble_eq_true rfl) dX0_append_9 (fun H locs hw hS => ?_)
  rw [← es1] at hw
  refine lv_aload_n hx hb dX0_append_12 rfl (lv_at hl 0 rfl) ?_
  refine lv_dup hx hb dX0_append_13 rfl ?_
  refine zget hx hb hts inX0 hown hK hw 3 (by decide) rfl rfl 1 (by decide) lk1 (fun _ h9 => h9) rfl dX0_append_14 ?_
  refine lv_iconst (v := (jI 1)) hx hb dX0_append_17 rfl ?_
  refine lv_iadd hx hb dX0_append_18 ?_
  obtain ⟨s2, es2⟩ : ∃ y : ST, y = zsp s1 42 ((s1.2 42) + (jI 1)) := ⟨_, rfl⟩
  have h := h s2 es2
  refine zput (ty := .int) hx hb hts inX0 tyX0 tyX0_ok nmX0 hown hK hj hw hA hS 3 (by decide) rfl rfl 1 (by decide) lk1 (fun _ h9 => h9) rfl (by decide +kernel) rfl rfl (Nat.le_of_ble_eq_true rfl) dX0_append_19 (zce cy ad s2) (by rw [es2]; rfl) (fun j hj9 => by rw [es2]; exact zsp_off_C_42 j hj9) (fun H locs hw hS => ?_)
  refine lv_aload_n hx hb dX0_append_22 rfl (lv_at hl 0 rfl) ?_
  refine zget hx hb hts inX0 hown hK hw 3 (by decide) rfl rfl 1 (by decide) lk1 (fun _ h9 => h9) rfl dX0_append_23 ?_
  exact W.iret (v := (s2.2 42)) hx hb hr (fun t ht hW => ⟨⟨_, _, rfl, h, zend hw ht⟩, hS.F ht⟩) hS.2.2 dX0_append_26
theorem k_X0_append {p : Program} {l : Launch} {e : Env} {R : Room} {s : State} {m : MethodId} {args : Array Value} {below : List Frame} {meth : Method} {c : Code} {H : Heap} {locs : List Loc} {cells slots : Nat} {QQ : State → Prop} {cc : ByteArray} {pc nL index : Nat} {ls : Array Slot} {rest : List Value} {D : va_G} {cy : cyT} {ad : Nat → Nat} {own : String} {Ts : List Cond} {H0 : Heap} {σ : ST} {p0 : Int32} {Q : Int32 → ST → Prop} (hx : p.tables.exec = Jvm.exec) (hb : c.code = cc) (hml : c.maxLocals = nL) (hown : s.vm.findClass own = some m.cls) (hts : ∀ w ∈ Ts, w.before args s = true) (hG : GoodIn Ts (wsV own index RX0 yX0_append wsX0_append)) (hR : 1 + 1 ≤ R.frames ∧ 8 + (2 + 11) + 22 ≤ R.locals) (hcs : cells ≤ R.cells ∧ slots ≤ R.slots) (hK : zK D cy s) (hj : zI 116 ad) (hw : zW D 116 (zce cy ad σ) ad H) {A0 : Nat → Prop} (hA : ∀ i, i < 116 → A0 (ad i)) (hS : va_S A0 H0 H locs) (hsz : ls.size = nL) (hrest : (rest.map fun v => v.category).sum ≤ 8) (hdg : decode cc pc = .ok (.invokevirtual index, 3)) (h : wp_X0_append σ p0 Q) (kk : ∀ (r : Int32) (σ : ST) (H : Heap) (locs : List Loc), Q r σ → zW D 116 (zce cy ad σ) ad H → va_S A0 H0 H locs → W p l e R s m args below meth c H locs cells slots QQ (F0 m (pc + 3) ls (.int r :: rest))) : W p l e R s m args below meth c H locs cells slots QQ (F0 m pc ls (.int p0 :: .ref (ad 3) :: rest)) :=
  zcalli (va_runV (As := [.int p0]) (rest := rest) ⟨hx, hb, hml, hown, hts⟩ (c_X0_append l D cy ad σ p0 h) (cwV 1 hts hG rfl rfl rfl (by decide +kernel) hR) (zpreV hj hK hw _ (i := 3) (ci := 0) (by decide) rfl rfl) rfl rfl hsz rfl (lv_room hrest) hdg hcs) hA hS kk
set_option maxHeartbeats 4000000 in
set_option maxRecDepth 100000 in
theorem c_X0_empty (l : Launch) (D : va_G) (cy : cyT) (ad : Nat → Nat) (σ : ST) {Q : Int32 → ST → Prop} (h : wp_X0_empty σ Q) : Met l yX0_empty wsX0_empty ({ frames := 0, cells := 0, slots := 0, locals := 0 } : Room) (zPre D cy 116 (zce cy ad σ) ad [.ref (ad 3)]) (va_Qi Q (zB D 116 (zce cy ad) ad) (zA 116 ad)) 0 0 (zA 116 ad) := by
  refine Met.ofW (cc := cX0_empty) (maxL := 2) (ret := (some .int)) (by decide) rfl ?_
  intro p e s m args below meth c s₁ B hml hv
  obtain ⟨rfl, hj, hK, hw⟩ := hv
  have hx := B.exec
  have hb := B.bytes
  have hr := B.returns
  have hts := atoms_spec (ws := wsX0_empty) B.pre
  have hown : s.vm.findClass RX0 = some m.cls := findClass_of_methodNamed B.named
  have hlocks := B.notSynchronized
  have lk0 : Cond.fieldLink RX0 20 "TypeTrays$Commands" "length" "I" ∈ wsX0_empty := List.mem_of_getElem? (i := 1) rfl
  have inX0 : ∀ w ∈ u_ws RX0 TX0 6, w ∈ wsX0_empty := zin_at 2 rfl
  have hS : va_S (zA 116 ad) s.heap s.heap [] := va_S.rf
  have hA : ∀ i, i < 116 → zA 116 ad (ad i) := fun i hi => ⟨i, hi, rfl⟩
  have hl := lv_entry ([.ref (ad 3)]) (n := 2) (Nat.le_of_ble_eq_true rfl)
  rw [lg_entry_eq]
  generalize (lg_sl ([.ref (ad 3)]) ++ List.replicate (2 - (lg_sl ([.ref (ad 3)])).length) Slot.unset).toArray = ls at hl ⊢
  have hl : lv_has ls 2 [(0, .ref (ad 3))] := hl
  show W p l e ({ frames := 0, cells := 0, slots := 0, locals := 0 } : Room) s m ([.ref (ad 3)] : List Value).toArray below meth c s.heap [] 0 0 (MQ below (va_Qi Q (zB D 116 (zce cy ad) ad) (zA 116 ad)) ([.ref (ad 3)] : List Value).toArray s 0 0 (zA 116 ad)) (F0 m 0 ls [])
  unfold wp_X0_empty at h
  refine lv_aload_n hx hb dX0_empty_0 rfl (lv_at hl 0 rfl) ?_
  refine zget hx hb hts inX0 hown hK hw 3 (by decide) rfl rfl 1 (by decide) lk0 (fun _ h9 => h9) rfl dX0_empty_1 ?_
  refine lv_istore_n (lv' := [(1, .int (σ.2 42)), (0, .ref (ad 3))]) hx hb dX0_empty_4 rfl hl (by decide) rfl (fun ls hl => ?_)
  refine lv_aload_n hx hb dX0_empty_5 rfl (lv_at hl 1 rfl) ?_
  refine lv_iconst (v := (jI 0)) hx hb dX0_empty_6 rfl ?_
  obtain ⟨s1, es1⟩ : ∃ y : ST, y = zsp σ 42 (jI 0) := ⟨_, rfl⟩
  have h := h s1 es1
  refine zput (ty := .int) hx hb hts inX0 tyX0 tyX0_ok nmX0 hown hK hj hw hA hS 3 (by decide) rfl rfl 1 (by decide) lk0 (fun _ h9 => h9) rfl (by decide +kernel) rfl rfl (Nat.le_of_ble_eq_true rfl) dX0_empty_7 (zce cy ad s1) (by rw [es1]; rfl) (fun j hj9 => by rw [es1]; exact zsp_off_C_42 j hj9) (fun H locs hw hS => ?_)
  refine lv_iload_n hx hb dX0_empty_10 rfl (lv_at hl 0 rfl) ?_
  exact W.iret (v := (σ.2 42)) hx hb hr (fun t ht hW => ⟨⟨_, _, rfl, h, zend hw ht⟩, hS.F ht⟩) hS.2.2 dX0_empty_11
theorem k_X0_empty {p : Program} {l : Launch} {e : Env} {R : Room} {s : State} {m : MethodId} {args : Array Value} {below : List Frame} {meth : Method} {c : Code} {H : Heap} {locs : List Loc} {cells slots : Nat} {QQ : State → Prop} {cc : ByteArray} {pc nL index : Nat} {ls : Array Slot} {rest : List Value} {D : va_G} {cy : cyT} {ad : Nat → Nat} {own : String} {Ts : List Cond} {H0 : Heap} {σ : ST}  {Q : Int32 → ST → Prop} (hx : p.tables.exec = Jvm.exec) (hb : c.code = cc) (hml : c.maxLocals = nL) (hown : s.vm.findClass own = some m.cls) (hts : ∀ w ∈ Ts, w.before args s = true) (hG : GoodIn Ts (wsV own index RX0 yX0_empty wsX0_empty)) (hR : 0 + 1 ≤ R.frames ∧ 8 + (2 + 11) + 0 ≤ R.locals) (hcs : cells ≤ R.cells ∧ slots ≤ R.slots) (hK : zK D cy s) (hj : zI 116 ad) (hw : zW D 116 (zce cy ad σ) ad H) {A0 : Nat → Prop} (hA : ∀ i, i < 116 → A0 (ad i)) (hS : va_S A0 H0 H locs) (hsz : ls.size = nL) (hrest : (rest.map fun v => v.category).sum ≤ 8) (hdg : decode cc pc = .ok (.invokevirtual index, 3)) (h : wp_X0_empty σ  Q) (kk : ∀ (r : Int32) (σ : ST) (H : Heap) (locs : List Loc), Q r σ → zW D 116 (zce cy ad σ) ad H → va_S A0 H0 H locs → W p l e R s m args below meth c H locs cells slots QQ (F0 m (pc + 3) ls (.int r :: rest))) : W p l e R s m args below meth c H locs cells slots QQ (F0 m pc ls (.ref (ad 3) :: rest)) :=
  zcalli (va_runV (As := []) (rest := rest) ⟨hx, hb, hml, hown, hts⟩ (c_X0_empty l D cy ad σ  h) (cwV 0 hts hG rfl rfl rfl (by decide +kernel) hR) (zpreV hj hK hw _ (i := 3) (ci := 0) (by decide) rfl rfl) rfl rfl hsz rfl (lv_room hrest) hdg hcs) hA hS kk
set_option maxHeartbeats 4000000 in
set_option maxRecDepth 100000 in
theorem c_X0_wordOf (l : Launch) (D : va_G) (cy : cyT) (ad : Nat → Nat) (σ : ST) (p0 : Int32) {Q : Int32 → ST → Prop} (h : wp_X0_wordOf σ p0 Q) : Met l yX0_wordOf wsX0_wordOf ({ frames := 1, cells := 0, slots := 0, locals := 21 } : Room) (zPre D cy 116 (zce cy ad σ) ad [.ref (ad 3), .int p0]) (va_Qi Q (zB D 116 (zce cy ad) ad) (zA 116 ad)) 0 0 (zA 116 ad) := by
  refine Met.ofW (cc := cX0_wordOf) (maxL := 2) (ret := (some .int)) (by decide) rfl ?_
  intro p e s m args below meth c s₁ B hml hv
  obtain ⟨rfl, hj, hK, hw⟩ := hv
  have hx := B.exec
  have hb := B.bytes
  have hr := B.returns
  have hts := atoms_spec (ws := wsX0_wordOf) B.pre
  have hown : s.vm.findClass RX0 = some m.cls := findClass_of_methodNamed B.named
  have hlocks := B.notSynchronized
  have lk0 : Cond.fieldLink RX0 27 "TypeTrays$Commands" "words" "LTypeTrays$Row;" ∈ wsX0_wordOf := List.mem_of_getElem? (i := 1) rfl
  have inX0 : ∀ w ∈ u_ws RX0 TX0 6, w ∈ wsX0_wordOf := zin_at 8 rfl
  have hS : va_S (zA 116 ad) s.heap s.heap [] := va_S.rf
  have hA : ∀ i, i < 116 → zA 116 ad (ad i) := fun i hi => ⟨i, hi, rfl⟩
  have hl := lv_entry ([.ref (ad 3), .int p0]) (n := 2) (Nat.le_of_ble_eq_true rfl)
  rw [lg_entry_eq]
  generalize (lg_sl ([.ref (ad 3), .int p0]) ++ List.replicate (2 - (lg_sl ([.ref (ad 3), .int p0])).length) Slot.unset).toArray = ls at hl ⊢
  have hl : lv_has ls 2 [(0, .ref (ad 3)), (1, .int p0)] := hl
  show W p l e ({ frames := 1, cells := 0, slots := 0, locals := 21 } : Room) s m ([.ref (ad 3), .int p0] : List Value).toArray below meth c s.heap [] 0 0 (MQ below (va_Qi Q (zB D 116 (zce cy ad) ad) (zA 116 ad)) ([.ref (ad 3), .int p0] : List Value).toArray s 0 0 (zA 116 ad)) (F0 m 0 ls [])
  unfold wp_X0_wordOf at h
  refine lv_aload_n hx hb dX0_wordOf_0 rfl (lv_at hl 0 rfl) ?_
  refine zget hx hb hts inX0 hown hK hw 3 (by decide) rfl rfl 3 (by decide) lk0 (fun _ h9 => h9) rfl dX0_wordOf_1 ?_
  refine lv_iload_n hx hb dX0_wordOf_4 rfl (lv_at hl 1 rfl) ?_
  refine zcall_get (rest := []) hx hb hml hown hts gX0_wordOf_X3_get ⟨Nat.le_of_ble_eq_true rfl, Nat.le_of_ble_eq_true rfl⟩ ⟨Nat.zero_le _, Nat.zero_le _⟩ hK hj hw hA hS 51 (by decide) hl.1 (Nat.le_of_ble_eq_true rfl) dX0_wordOf_5 (fun H locs hw hS => ?_)
  refine lv_topi (fun v1 ev1 => ?_)
  have h := h v1 ev1
  exact W.iret (v := v1) hx hb hr (fun t ht hW => ⟨⟨_, _, rfl, h, zend hw ht⟩, hS.F ht⟩) hS.2.2 dX0_wordOf_8
theorem k_X0_wordOf {p : Program} {l : Launch} {e : Env} {R : Room} {s : State} {m : MethodId} {args : Array Value} {below : List Frame} {meth : Method} {c : Code} {H : Heap} {locs : List Loc} {cells slots : Nat} {QQ : State → Prop} {cc : ByteArray} {pc nL index : Nat} {ls : Array Slot} {rest : List Value} {D : va_G} {cy : cyT} {ad : Nat → Nat} {own : String} {Ts : List Cond} {H0 : Heap} {σ : ST} {p0 : Int32} {Q : Int32 → ST → Prop} (hx : p.tables.exec = Jvm.exec) (hb : c.code = cc) (hml : c.maxLocals = nL) (hown : s.vm.findClass own = some m.cls) (hts : ∀ w ∈ Ts, w.before args s = true) (hG : GoodIn Ts (wsV own index RX0 yX0_wordOf wsX0_wordOf)) (hR : 1 + 1 ≤ R.frames ∧ 8 + (2 + 11) + 21 ≤ R.locals) (hcs : cells ≤ R.cells ∧ slots ≤ R.slots) (hK : zK D cy s) (hj : zI 116 ad) (hw : zW D 116 (zce cy ad σ) ad H) {A0 : Nat → Prop} (hA : ∀ i, i < 116 → A0 (ad i)) (hS : va_S A0 H0 H locs) (hsz : ls.size = nL) (hrest : (rest.map fun v => v.category).sum ≤ 8) (hdg : decode cc pc = .ok (.invokevirtual index, 3)) (h : wp_X0_wordOf σ p0 Q) (kk : ∀ (r : Int32) (σ : ST) (H : Heap) (locs : List Loc), Q r σ → zW D 116 (zce cy ad σ) ad H → va_S A0 H0 H locs → W p l e R s m args below meth c H locs cells slots QQ (F0 m (pc + 3) ls (.int r :: rest))) : W p l e R s m args below meth c H locs cells slots QQ (F0 m pc ls (.int p0 :: .ref (ad 3) :: rest)) :=
  zcalli (va_runV (As := [.int p0]) (rest := rest) ⟨hx, hb, hml, hown, hts⟩ (c_X0_wordOf l D cy ad σ p0 h) (cwV 1 hts hG rfl rfl rfl (by decide +kernel) hR) (zpreV hj hK hw _ (i := 3) (ci := 0) (by decide) rfl rfl) rfl rfl hsz rfl (lv_room hrest) hdg hcs) hA hS kk
set_option maxHeartbeats 4000000 in
set_option maxRecDepth 100000 in
theorem c_X0_numberOf (l : Launch) (D : va_G) (cy : cyT) (ad : Nat → Nat) (σ : ST) (p0 : Int32) (p1 : Int32) {Q : Int32 → ST → Prop} (h : wp_X0_numberOf σ p0 p1 Q) : Met l yX0_numberOf wsX0_numberOf ({ frames := 1, cells := 0, slots := 0, locals := 21 } : Room) (zPre D cy 116 (zce cy ad σ) ad [.ref (ad 3), .int p0, .int p1]) (va_Qi Q (zB D 116 (zce cy ad) ad) (zA 116 ad)) 0 0 (zA 116 ad) := by
  refine Met.ofW (cc := cX0_numberOf) (maxL := 3) (ret := (some .int)) (by decide) rfl ?_
  intro p e s m args below meth c s₁ B hml hv
  obtain ⟨rfl, hj, hK, hw⟩ := hv
  have hx := B.exec
  have hb := B.bytes
  have hr := B.returns
  have hts := atoms_spec (ws := wsX0_numberOf) B.pre
  have hown : s.vm.findClass RX0 = some m.cls := findClass_of_methodNamed B.named
  have hlocks := B.notSynchronized
  have lk0 : Cond.fieldLink RX0 30 "TypeTrays$Commands" "numbers" "LTypeTrays$Row;" ∈ wsX0_numberOf := List.mem_of_getElem? (i := 1) rfl
  have inX0 : ∀ w ∈ u_ws RX0 TX0 6, w ∈ wsX0_numberOf := zin_at 8 rfl
  have hS : va_S (zA 116 ad) s.heap s.heap [] := va_S.rf
  have hA : ∀ i, i < 116 → zA 116 ad (ad i) := fun i hi => ⟨i, hi, rfl⟩
  have hl := lv_entry ([.ref (ad 3), .int p0, .int p1]) (n := 3) (Nat.le_of_ble_eq_true rfl)
  rw [lg_entry_eq]
  generalize (lg_sl ([.ref (ad 3), .int p0, .int p1]) ++ List.replicate (3 - (lg_sl ([.ref (ad 3), .int p0, .int p1])).length) Slot.unset).toArray = ls at hl ⊢
  have hl : lv_has ls 3 [(0, .ref (ad 3)), (1, .int p0), (2, .int p1)] := hl
  show W p l e ({ frames := 1, cells := 0, slots := 0, locals := 21 } : Room) s m ([.ref (ad 3), .int p0, .int p1] : List Value).toArray below meth c s.heap [] 0 0 (MQ below (va_Qi Q (zB D 116 (zce cy ad) ad) (zA 116 ad)) ([.ref (ad 3), .int p0, .int p1] : List Value).toArray s 0 0 (zA 116 ad)) (F0 m 0 ls [])
  unfold wp_X0_numberOf at h
  refine lv_aload_n hx hb dX0_numberOf_0 rfl (lv_at hl 0 rfl) ?_
  refine zget hx hb hts inX0 hown hK hw 3 (by decide) rfl rfl 4 (by decide) lk0 (fun _ h9 => h9) rfl dX0_numberOf_1 ?_
  refine lv_iload_n hx hb dX0_numberOf_4 rfl (lv_at hl 1 rfl) ?_
  refine lv_iconst (v := (jI 3)) hx hb dX0_numberOf_5 rfl ?_
  refine lv_imul hx hb dX0_numberOf_6 ?_
  refine lv_iload_n hx hb dX0_numberOf_7 rfl (lv_at hl 2 rfl) ?_
  refine lv_iadd hx hb dX0_numberOf_8 ?_
  refine zcall_get (rest := []) hx hb hml hown hts gX0_numberOf_X3_get ⟨Nat.le_of_ble_eq_true rfl, Nat.le_of_ble_eq_true rfl⟩ ⟨Nat.zero_le _, Nat.zero_le _⟩ hK hj hw hA hS 52 (by decide) hl.1 (Nat.le_of_ble_eq_true rfl) dX0_numberOf_9 (fun H locs hw hS => ?_)
  refine lv_topi (fun v1 ev1 => ?_)
  have h := h v1 ev1
  exact W.iret (v := v1) hx hb hr (fun t ht hW => ⟨⟨_, _, rfl, h, zend hw ht⟩, hS.F ht⟩) hS.2.2 dX0_numberOf_12
theorem k_X0_numberOf {p : Program} {l : Launch} {e : Env} {R : Room} {s : State} {m : MethodId} {args : Array Value} {below : List Frame} {meth : Method} {c : Code} {H : Heap} {locs : List Loc} {cells slots : Nat} {QQ : State → Prop} {cc : ByteArray} {pc nL index : Nat} {ls : Array Slot} {rest : List Value} {D : va_G} {cy : cyT} {ad : Nat → Nat} {own : String} {Ts : List Cond} {H0 : Heap} {σ : ST} {p0 : Int32} {p1 : Int32} {Q : Int32 → ST → Prop} (hx : p.tables.exec = Jvm.exec) (hb : c.code = cc) (hml : c.maxLocals = nL) (hown : s.vm.findClass own = some m.cls) (hts : ∀ w ∈ Ts, w.before args s = true) (hG : GoodIn Ts (wsV own index RX0 yX0_numberOf wsX0_numberOf)) (hR : 1 + 1 ≤ R.frames ∧ 8 + (3 + 11) + 21 ≤ R.locals) (hcs : cells ≤ R.cells ∧ slots ≤ R.slots) (hK : zK D cy s) (hj : zI 116 ad) (hw : zW D 116 (zce cy ad σ) ad H) {A0 : Nat → Prop} (hA : ∀ i, i < 116 → A0 (ad i)) (hS : va_S A0 H0 H locs) (hsz : ls.size = nL) (hrest : (rest.map fun v => v.category).sum ≤ 8) (hdg : decode cc pc = .ok (.invokevirtual index, 3)) (h : wp_X0_numberOf σ p0 p1 Q) (kk : ∀ (r : Int32) (σ : ST) (H : Heap) (locs : List Loc), Q r σ → zW D 116 (zce cy ad σ) ad H → va_S A0 H0 H locs → W p l e R s m args below meth c H locs cells slots QQ (F0 m (pc + 3) ls (.int r :: rest))) : W p l e R s m args below meth c H locs cells slots QQ (F0 m pc ls (.int p1 :: .int p0 :: .ref (ad 3) :: rest)) :=
  zcalli (va_runV (As := [.int p0, .int p1]) (rest := rest) ⟨hx, hb, hml, hown, hts⟩ (c_X0_numberOf l D cy ad σ p0 p1 h) (cwV 2 hts hG rfl rfl rfl (by decide +kernel) hR) (zpreV hj hK hw _ (i := 3) (ci := 0) (by decide) rfl rfl) rfl rfl hsz rfl (lv_room hrest) hdg hcs) hA hS kk
set_option maxHeartbeats 4000000 in
set_option maxRecDepth 100000 in
theorem c_X0_byteAt (l : Launch) (D : va_G) (cy : cyT) (ad : Nat → Nat) (σ : ST) (p0 : Int32) {Q : Int32 → ST → Prop} (h : wp_X0_byteAt σ p0 Q) : Met l yX0_byteAt wsX0_byteAt ({ frames := 1, cells := 0, slots := 0, locals := 21 } : Room) (zPre D cy 116 (zce cy ad σ) ad [.ref (ad 3), .int p0]) (va_Qi Q (zB D 116 (zce cy ad) ad) (zA 116 ad)) 0 0 (zA 116 ad) := by
  refine Met.ofW (cc := cX0_byteAt) (maxL := 2) (ret := (some .int)) (by decide) rfl ?_
  intro p e s m args below meth c s₁ B hml hv
  obtain ⟨rfl, hj, hK, hw⟩ := hv
  have hx := B.exec
  have hb := B.bytes
  have hr := B.returns
  have hts := atoms_spec (ws := wsX0_byteAt) B.pre
  have hown : s.vm.findClass RX0 = some m.cls := findClass_of_methodNamed B.named
  have hlocks := B.notSynchronized
  have lk0 : Cond.fieldLink RX0 20 "TypeTrays$Commands" "length" "I" ∈ wsX0_byteAt := List.mem_of_getElem? (i := 1) rfl
  have lk1 : Cond.fieldLink RX0 14 "TypeTrays$Commands" "text" "LTypeTrays$Row;" ∈ wsX0_byteAt := List.mem_of_getElem? (i := 2) rfl
  have inX0 : ∀ w ∈ u_ws RX0 TX0 6, w ∈ wsX0_byteAt := zin_at 9 rfl
  have hS : va_S (zA 116 ad) s.heap s.heap [] := va_S.rf
  have hA : ∀ i, i < 116 → zA 116 ad (ad i) := fun i hi => ⟨i, hi, rfl⟩
  have hl := lv_entry ([.ref (ad 3), .int p0]) (n := 2) (Nat.le_of_ble_eq_true rfl)
  rw [lg_entry_eq]
  generalize (lg_sl ([.ref (ad 3), .int p0]) ++ List.replicate (2 - (lg_sl ([.ref (ad 3), .int p0])).length) Slot.unset).toArray = ls at hl ⊢
  have hl : lv_has ls 2 [(0, .ref (ad 3)), (1, .int p0)] := hl
  show W p l e ({ frames := 1, cells := 0, slots := 0, locals := 21 } : Room) s m ([.ref (ad 3), .int p0] : List Value).toArray below meth c s.heap [] 0 0 (MQ below (va_Qi Q (zB D 116 (zce cy ad) ad) (zA 116 ad)) ([.ref (ad 3), .int p0] : List Value).toArray s 0 0 (zA 116 ad)) (F0 m 0 ls [])
  unfold wp_X0_byteAt at h
  refine lv_iload_n hx hb dX0_byteAt_0 rfl (lv_at hl 1 rfl) ?_
  refine lv_aload_n hx hb dX0_byteAt_1 rfl (lv_at hl 0 rfl) ?_
  refine zget hx hb hts inX0 hown hK hw 3 (by decide) rfl rfl 1 (by decide) lk0 (fun _ h9 => h9) rfl dX0_byteAt_2 ?_
  refine lv_icmp_ge (tgt := 19) hx hb dX0_byteAt_5 (by decide) (fun c1 => ?_) (fun c1 => ?_)
  · have h := h.1 c1
    refine lv_iconst (v := (jI (-1))) hx hb dX0_byteAt_19 rfl ?_
    exact W.iret (v := (jI (-1))) hx hb hr (fun t ht hW => ⟨⟨_, _, rfl, h, zend hw ht⟩, hS.F ht⟩) hS.2.2 dX0_byteAt_20
  · have h := h.2 c1
    refine lv_aload_n hx hb dX0_byteAt_8 rfl (lv_at hl 0 rfl) ?_
    refine zget hx hb hts inX0 hown hK hw 3 (by decide) rfl rfl 0 (by decide) lk1 (fun _ h9 => h9) rfl dX0_byteAt_9 ?_
    refine lv_iload_n hx hb dX0_byteAt_12 rfl (lv_at hl 1 rfl) ?_
    refine zcall_get (rest := []) hx hb hml hown hts gX0_byteAt_X3_get ⟨Nat.le_of_ble_eq_true rfl, Nat.le_of_ble_eq_true rfl⟩ ⟨Nat.zero_le _, Nat.zero_le _⟩ hK hj hw hA hS 50 (by decide) hl.1 (Nat.le_of_ble_eq_true rfl) dX0_byteAt_13 (fun H locs hw hS => ?_)
    refine lv_topi (fun v1 ev1 => ?_)
    have h := h v1 ev1
    refine lv_goto (tgt := 20) hx hb dX0_byteAt_16 (by decide) ?_
    exact W.iret (v := v1) hx hb hr (fun t ht hW => ⟨⟨_, _, rfl, h, zend hw ht⟩, hS.F ht⟩) hS.2.2 dX0_byteAt_20
theorem k_X0_byteAt {p : Program} {l : Launch} {e : Env} {R : Room} {s : State} {m : MethodId} {args : Array Value} {below : List Frame} {meth : Method} {c : Code} {H : Heap} {locs : List Loc} {cells slots : Nat} {QQ : State → Prop} {cc : ByteArray} {pc nL index : Nat} {ls : Array Slot} {rest : List Value} {D : va_G} {cy : cyT} {ad : Nat → Nat} {own : String} {Ts : List Cond} {H0 : Heap} {σ : ST} {p0 : Int32} {Q : Int32 → ST → Prop} (hx : p.tables.exec = Jvm.exec) (hb : c.code = cc) (hml : c.maxLocals = nL) (hown : s.vm.findClass own = some m.cls) (hts : ∀ w ∈ Ts, w.before args s = true) (hG : GoodIn Ts (wsV own index RX0 yX0_byteAt wsX0_byteAt)) (hR : 1 + 1 ≤ R.frames ∧ 8 + (2 + 11) + 21 ≤ R.locals) (hcs : cells ≤ R.cells ∧ slots ≤ R.slots) (hK : zK D cy s) (hj : zI 116 ad) (hw : zW D 116 (zce cy ad σ) ad H) {A0 : Nat → Prop} (hA : ∀ i, i < 116 → A0 (ad i)) (hS : va_S A0 H0 H locs) (hsz : ls.size = nL) (hrest : (rest.map fun v => v.category).sum ≤ 8) (hdg : decode cc pc = .ok (.invokevirtual index, 3)) (h : wp_X0_byteAt σ p0 Q) (kk : ∀ (r : Int32) (σ : ST) (H : Heap) (locs : List Loc), Q r σ → zW D 116 (zce cy ad σ) ad H → va_S A0 H0 H locs → W p l e R s m args below meth c H locs cells slots QQ (F0 m (pc + 3) ls (.int r :: rest))) : W p l e R s m args below meth c H locs cells slots QQ (F0 m pc ls (.int p0 :: .ref (ad 3) :: rest)) :=
  zcalli (va_runV (As := [.int p0]) (rest := rest) ⟨hx, hb, hml, hown, hts⟩ (c_X0_byteAt l D cy ad σ p0 h) (cwV 1 hts hG rfl rfl rfl (by decide +kernel) hR) (zpreV hj hK hw _ (i := 3) (ci := 0) (by decide) rfl rfl) rfl rfl hsz rfl (lv_room hrest) hdg hcs) hA hS kk
set_option maxHeartbeats 4000000 in
set_option maxRecDepth 100000 in
theorem c_X0_skipSpaces (l : Launch) (D : va_G) (cy : cyT) (ad : Nat → Nat) (σ : ST) {Q : ST → Prop} (h : wp_X0_skipSpaces σ Q) : Met l yX0_skipSpaces wsX0_skipSpaces ({ frames := 2, cells := 0, slots := 0, locals := 42 } : Room) (zPre D cy 116 (zce cy ad σ) ad [.ref (ad 3)]) (va_Qv Q (zB D 116 (zce cy ad) ad) (zA 116 ad)) 0 0 (zA 116 ad) := by
  refine Met.ofW (cc := cX0_skipSpaces) (maxL := 1) (ret := none) (by decide) rfl ?_
  intro p e s m args below meth c s₁ B hml hv
  obtain ⟨rfl, hj, hK, hw⟩ := hv
  have hx := B.exec
  have hb := B.bytes
  have hr := B.returns
  have hts := atoms_spec (ws := wsX0_skipSpaces) B.pre
  have hown : s.vm.findClass RX0 = some m.cls := findClass_of_methodNamed B.named
  have hlocks := B.notSynchronized
  have lk0 : Cond.fieldLink RX0 24 "TypeTrays$Commands" "position" "I" ∈ wsX0_skipSpaces := List.mem_of_getElem? (i := 1) rfl
  have lk1 : Cond.fieldLink RX0 20 "TypeTrays$Commands" "length" "I" ∈ wsX0_skipSpaces := List.mem_of_getElem? (i := 2) rfl
  have inX0 : ∀ w ∈ u_ws RX0 TX0 6, w ∈ wsX0_skipSpaces := zin_at 15 rfl
  have hS : va_S (zA 116 ad) s.heap s.heap [] := va_S.rf
  have hA : ∀ i, i < 116 → zA 116 ad (ad i) := fun i hi => ⟨i, hi, rfl⟩
  have hl := lv_entry ([.ref (ad 3)]) (n := 1) (Nat.le_of_ble_eq_true rfl)
  rw [lg_entry_eq]
  generalize (lg_sl ([.ref (ad 3)]) ++ List.replicate (1 - (lg_sl ([.ref (ad 3)])).length) Slot.unset).toArray = ls at hl ⊢
  have hl : lv_has ls 1 [(0, .ref (ad 3))] := hl
  show W p l e ({ frames := 2, cells := 0, slots := 0, locals := 42 } : Room) s m ([.ref (ad 3)] : List Value).toArray below meth c s.heap [] 0 0 (MQ below (va_Qv Q (zB D 116 (zce cy ad) ad) (zA 116 ad)) ([.ref (ad 3)] : List Value).toArray s 0 0 (zA 116 ad)) (F0 m 0 ls [])
  unfold wp_X0_skipSpaces at h
  have k37_0 : ∀ (u_37 : ST) (H : Heap) (locs : List Loc), Q u_37 → zW D 116 (zce cy ad u_37) ad H → va_S (zA 116 ad) s.heap H locs → ∀ ls : Array Slot, lv_has ls 1 [] → W p l e ({ frames := 2, cells := 0, slots := 0, locals := 42 } : Room) s m ([.ref (ad 3)] : List Value).toArray below meth c H locs 0 0 (MQ below (va_Qv Q (zB D 116 (zce cy ad) ad) (zA 116 ad)) ([.ref (ad 3)] : List Value).toArray s 0 0 (zA 116 ad)) (F0 m 37 ls []) := by
    intro u_37 H locs h hw hS ls hl
    exact W.vret hx hb hr (fun t ht hW => ⟨⟨_, rfl, h, zend hw ht⟩, hS.F ht⟩) hS.2.2 dX0_skipSpaces_37
  have lp0 : ∀ (nn0 : Nat) (t_0 : ST)  (H : Heap) (locs : List Loc), wl_X0_skipSpaces_0 (fun u_37 => Q u_37)  nn0 t_0  → zW D 116 (zce cy ad t_0) ad H → va_S (zA 116 ad) s.heap H locs → ∀ ls : Array Slot, lv_has ls 1 [(0, .ref (ad 3))] → W p l e ({ frames := 2, cells := 0, slots := 0, locals := 42 } : Room) s m ([.ref (ad 3)] : List Value).toArray below meth c H locs 0 0 (MQ below (va_Qv Q (zB D 116 (zce cy ad) ad) (zA 116 ad)) ([.ref (ad 3)] : List Value).toArray s 0 0 (zA 116 ad)) (F0 m 0 ls []) := by
    intro nn0
    induction nn0 with
    | zero => intro _ _ _ h; exact h.elim
    | succ nn0 ih0 =>
      intro t_0 H locs h hw hS ls hl
      simp only [wl_X0_skipSpaces_0, wb_X0_skipSpaces_0] at h
      refine lv_aload_n hx hb dX0_skipSpaces_0 rfl (lv_at hl 0 rfl) ?_
      refine zget hx hb hts inX0 hown hK hw 3 (by decide) rfl rfl 2 (by decide) lk0 (fun _ h9 => h9) rfl dX0_skipSpaces_1 ?_
      refine lv_aload_n hx hb dX0_skipSpaces_4 rfl (lv_at hl 0 rfl) ?_
      refine zget hx hb hts inX0 hown hK hw 3 (by decide) rfl rfl 1 (by decide) lk1 (fun _ h9 => h9) rfl dX0_skipSpaces_5 ?_
      refine lv_icmp_ge (tgt := 37) hx hb dX0_skipSpaces_8 (by decide) (fun c1 => ?_) (fun c1 => ?_)
      · have h := h.1 c1
        exact k37_0 _ _ _ h hw hS _ (lv_sub hl [] rfl)
      · have h := h.2 c1
        refine lv_aload_n hx hb dX0_skipSpaces_11 rfl (lv_at hl 0 rfl) ?_
        refine lv_aload_n hx hb dX0_skipSpaces_12 rfl (lv_at hl 0 rfl) ?_
        refine zget hx hb hts inX0 hown hK hw 3 (by decide) rfl rfl 2 (by decide) lk0 (fun _ h9 => h9) rfl dX0_skipSpaces_13 ?_
        refine k_X0_byteAt (rest := []) hx hb hml hown hts gX0_skipSpaces_X0_byteAt ⟨Nat.le_of_ble_eq_true rfl, Nat.le_of_ble_eq_true rfl⟩ ⟨Nat.zero_le _, Nat.zero_le _⟩ hK hj hw hA hS hl.1 (Nat.le_of_ble_eq_true rfl) dX0_skipSpaces_16 h (fun r1 s1 H locs h hw hS => ?_)
        refine lv_bipush (v := (jI 32)) hx hb dX0_skipSpaces_19 (by decide +kernel) ?_
        refine lv_icmp_ne (tgt := 37) hx hb dX0_skipSpaces_21 (by decide) (fun c2 => ?_) (fun c2 => ?_)
        · have h := h.2 c2
          exact k37_0 _ _ _ h hw hS _ (lv_sub hl [] rfl)
        · have h := h.1 c2
          refine lv_aload_n hx hb dX0_skipSpaces_24 rfl (lv_at hl 0 rfl) ?_
          refine lv_dup hx hb dX0_skipSpaces_25 rfl ?_
          refine zget hx hb hts inX0 hown hK hw 3 (by decide) rfl rfl 2 (by decide) lk0 (fun _ h9 => h9) rfl dX0_skipSpaces_26 ?_
          refine lv_iconst (v := (jI 1)) hx hb dX0_skipSpaces_29 rfl ?_
          refine lv_iadd hx hb dX0_skipSpaces_30 ?_
          obtain ⟨s2, es2⟩ : ∃ y : ST, y = zsp s1 43 ((s1.2 43) + (jI 1)) := ⟨_, rfl⟩
          have h := h s2 es2
          refine zput (ty := .int) hx hb hts inX0 tyX0 tyX0_ok nmX0 hown hK hj hw hA hS 3 (by decide) rfl rfl 2 (by decide) lk0 (fun _ h9 => h9) rfl (by decide +kernel) rfl rfl (Nat.le_of_ble_eq_true rfl) dX0_skipSpaces_31 (zce cy ad s2) (by rw [es2]; rfl) (fun j hj9 => by rw [es2]; exact zsp_off_C_43 j hj9) (fun H locs hw hS => ?_)
          refine lv_goto (tgt := 0) hx hb dX0_skipSpaces_34 (by decide) ?_
          exact ih0 _ _ _ h hw hS _ (lv_sub hl [0] rfl)
  obtain ⟨nn0, h⟩ := h
  exact lp0 nn0 _ _ _ h hw hS _ (lv_sub hl [0] rfl)
theorem k_X0_skipSpaces {p : Program} {l : Launch} {e : Env} {R : Room} {s : State} {m : MethodId} {args : Array Value} {below : List Frame} {meth : Method} {c : Code} {H : Heap} {locs : List Loc} {cells slots : Nat} {QQ : State → Prop} {cc : ByteArray} {pc nL index : Nat} {ls : Array Slot} {rest : List Value} {D : va_G} {cy : cyT} {ad : Nat → Nat} {own : String} {Ts : List Cond} {H0 : Heap} {σ : ST}  {Q : ST → Prop} (hx : p.tables.exec = Jvm.exec) (hb : c.code = cc) (hml : c.maxLocals = nL) (hown : s.vm.findClass own = some m.cls) (hts : ∀ w ∈ Ts, w.before args s = true) (hG : GoodIn Ts (wsV own index RX0 yX0_skipSpaces wsX0_skipSpaces)) (hR : 2 + 1 ≤ R.frames ∧ 8 + (1 + 11) + 42 ≤ R.locals) (hcs : cells ≤ R.cells ∧ slots ≤ R.slots) (hK : zK D cy s) (hj : zI 116 ad) (hw : zW D 116 (zce cy ad σ) ad H) {A0 : Nat → Prop} (hA : ∀ i, i < 116 → A0 (ad i)) (hS : va_S A0 H0 H locs) (hsz : ls.size = nL) (hrest : (rest.map fun v => v.category).sum ≤ 8) (hdg : decode cc pc = .ok (.invokevirtual index, 3)) (h : wp_X0_skipSpaces σ  Q) (kk : ∀ (σ : ST) (H : Heap) (locs : List Loc), Q σ → zW D 116 (zce cy ad σ) ad H → va_S A0 H0 H locs → W p l e R s m args below meth c H locs cells slots QQ (F0 m (pc + 3) ls rest)) : W p l e R s m args below meth c H locs cells slots QQ (F0 m pc ls (.ref (ad 3) :: rest)) :=
  zcallv (va_runV (As := []) (rest := rest) ⟨hx, hb, hml, hown, hts⟩ (c_X0_skipSpaces l D cy ad σ  h) (cwV 0 hts hG rfl rfl rfl (by decide +kernel) hR) (zpreV hj hK hw _ (i := 3) (ci := 0) (by decide) rfl rfl) rfl rfl hsz rfl (lv_room hrest) hdg hcs) hA hS kk
set_option maxHeartbeats 4000000 in
set_option maxRecDepth 100000 in
theorem c_X0_isLetter (l : Launch) (D : va_G) (cy : cyT) (ad : Nat → Nat) (σ : ST) (p0 : Int32) {Q : Int32 → ST → Prop} (h : wp_X0_isLetter σ p0 Q) : Met l yX0_isLetter wsX0_isLetter ({ frames := 0, cells := 0, slots := 0, locals := 0 } : Room) (zPre D cy 116 (zce cy ad σ) ad [.int p0]) (va_Qi Q (zB D 116 (zce cy ad) ad) (zA 116 ad)) 0 0 (zA 116 ad) := by
  refine Met.ofW (cc := cX0_isLetter) (maxL := 1) (ret := (some .boolean)) (by decide) rfl ?_
  intro p e s m args below meth c s₁ B hml hv
  obtain ⟨rfl, hj, hK, hw⟩ := hv
  have hx := B.exec
  have hb := B.bytes
  have hr := B.returns
  have hts := atoms_spec (ws := wsX0_isLetter) B.pre
  have hown : s.vm.findClass RX0 = some m.cls := findClass_of_methodNamed B.named
  have hlocks := B.notSynchronized
  have hS : va_S (zA 116 ad) s.heap s.heap [] := va_S.rf
  have hA : ∀ i, i < 116 → zA 116 ad (ad i) := fun i hi => ⟨i, hi, rfl⟩
  have hl := lv_entry ([.int p0]) (n := 1) (Nat.le_of_ble_eq_true rfl)
  rw [lg_entry_eq]
  generalize (lg_sl ([.int p0]) ++ List.replicate (1 - (lg_sl ([.int p0])).length) Slot.unset).toArray = ls at hl ⊢
  have hl : lv_has ls 1 [(0, .int p0)] := hl
  show W p l e ({ frames := 0, cells := 0, slots := 0, locals := 0 } : Room) s m ([.int p0] : List Value).toArray below meth c s.heap [] 0 0 (MQ below (va_Qi Q (zB D 116 (zce cy ad) ad) (zA 116 ad)) ([.int p0] : List Value).toArray s 0 0 (zA 116 ad)) (F0 m 0 ls [])
  unfold wp_X0_isLetter at h
  refine lv_iload_n hx hb dX0_isLetter_0 rfl (lv_at hl 0 rfl) ?_
  refine lv_bipush (v := (jI 97)) hx hb dX0_isLetter_1 (by decide +kernel) ?_
  refine lv_icmp_lt (tgt := 16) hx hb dX0_isLetter_3 (by decide) (fun c1 => ?_) (fun c1 => ?_)
  · have h := h.1 c1
    refine lv_iconst (v := (jI 0)) hx hb dX0_isLetter_16 rfl ?_
    exact W.zret (v := (jI 0)) (ty := .boolean) hx hb hr (by decide +kernel) (fun t ht hW => ⟨⟨_, _, rfl, h, zend hw ht⟩, hS.F ht⟩) hS.2.2 dX0_isLetter_17
  · have h := h.2 c1
    refine lv_iload_n hx hb dX0_isLetter_6 rfl (lv_at hl 0 rfl) ?_
    refine lv_bipush (v := (jI 122)) hx hb dX0_isLetter_7 (by decide +kernel) ?_
    refine lv_icmp_gt (tgt := 16) hx hb dX0_isLetter_9 (by decide) (fun c2 => ?_) (fun c2 => ?_)
    · have h := h.1 c2
      refine lv_iconst (v := (jI 0)) hx hb dX0_isLetter_16 rfl ?_
      exact W.zret (v := (jI 0)) (ty := .boolean) hx hb hr (by decide +kernel) (fun t ht hW => ⟨⟨_, _, rfl, h, zend hw ht⟩, hS.F ht⟩) hS.2.2 dX0_isLetter_17
    · have h := h.2 c2
      refine lv_iconst (v := (jI 1)) hx hb dX0_isLetter_12 rfl ?_
      refine lv_goto (tgt := 17) hx hb dX0_isLetter_13 (by decide) ?_
      exact W.zret (v := (jI 1)) (ty := .boolean) hx hb hr (by decide +kernel) (fun t ht hW => ⟨⟨_, _, rfl, h, zend hw ht⟩, hS.F ht⟩) hS.2.2 dX0_isLetter_17
theorem k_X0_isLetter {p : Program} {l : Launch} {e : Env} {R : Room} {s : State} {m : MethodId} {args : Array Value} {below : List Frame} {meth : Method} {c : Code} {H : Heap} {locs : List Loc} {cells slots : Nat} {QQ : State → Prop} {cc : ByteArray} {pc nL index : Nat} {ls : Array Slot} {rest : List Value} {D : va_G} {cy : cyT} {ad : Nat → Nat} {own : String} {Ts : List Cond} {H0 : Heap} {σ : ST} {p0 : Int32} {Q : Int32 → ST → Prop} (hx : p.tables.exec = Jvm.exec) (hb : c.code = cc) (hml : c.maxLocals = nL) (hown : s.vm.findClass own = some m.cls) (hts : ∀ w ∈ Ts, w.before args s = true) (hG : GoodIn Ts (va_wsS own index yX0_isLetter wsX0_isLetter)) (hR : 0 + 1 ≤ R.frames ∧ 8 + (1 + 11) + 0 ≤ R.locals) (hcs : cells ≤ R.cells ∧ slots ≤ R.slots) (hK : zK D cy s) (hj : zI 116 ad) (hw : zW D 116 (zce cy ad σ) ad H) {A0 : Nat → Prop} (hA : ∀ i, i < 116 → A0 (ad i)) (hS : va_S A0 H0 H locs) (hsz : ls.size = nL) (hrest : (rest.map fun v => v.category).sum ≤ 8) (hdg : decode cc pc = .ok (.invokestatic index, 3)) (h : wp_X0_isLetter σ p0 Q) (kk : ∀ (r : Int32) (σ : ST) (H : Heap) (locs : List Loc), Q r σ → zW D 116 (zce cy ad σ) ad H → va_S A0 H0 H locs → W p l e R s m args below meth c H locs cells slots QQ (F0 m (pc + 3) ls (.int r :: rest))) : W p l e R s m args below meth c H locs cells slots QQ (F0 m pc ls (.int p0 :: rest)) :=
  zcalli (va_runS (As := [.int p0]) (rest := rest) ⟨hx, hb, hml, hown, hts⟩ (c_X0_isLetter l D cy ad σ p0 h) (va_cwS 1 hts hG rfl rfl rfl (by decide +kernel) hR) (zpreS hj hK hw _) rfl rfl hsz rfl (lv_room hrest) hdg hcs) hA hS kk
set_option maxHeartbeats 4000000 in
set_option maxRecDepth 100000 in
theorem c_X0_skipLetters (l : Launch) (D : va_G) (cy : cyT) (ad : Nat → Nat) (σ : ST) {Q : ST → Prop} (h : wp_X0_skipLetters σ Q) : Met l yX0_skipLetters wsX0_skipLetters ({ frames := 2, cells := 0, slots := 0, locals := 42 } : Room) (zPre D cy 116 (zce cy ad σ) ad [.ref (ad 3)]) (va_Qv Q (zB D 116 (zce cy ad) ad) (zA 116 ad)) 0 0 (zA 116 ad) := by
  refine Met.ofW (cc := cX0_skipLetters) (maxL := 1) (ret := none) (by decide) rfl ?_
  intro p e s m args below meth c s₁ B hml hv
  obtain ⟨rfl, hj, hK, hw⟩ := hv
  have hx := B.exec
  have hb := B.bytes
  have hr := B.returns
  have hts := atoms_spec (ws := wsX0_skipLetters) B.pre
  have hown : s.vm.findClass RX0 = some m.cls := findClass_of_methodNamed B.named
  have hlocks := B.notSynchronized
  have lk0 : Cond.fieldLink RX0 24 "TypeTrays$Commands" "position" "I" ∈ wsX0_skipLetters := List.mem_of_getElem? (i := 1) rfl
  have lk1 : Cond.fieldLink RX0 20 "TypeTrays$Commands" "length" "I" ∈ wsX0_skipLetters := List.mem_of_getElem? (i := 2) rfl
  have inX0 : ∀ w ∈ u_ws RX0 TX0 6, w ∈ wsX0_skipLetters := zin_at 18 rfl
  have hS : va_S (zA 116 ad) s.heap s.heap [] := va_S.rf
  have hA : ∀ i, i < 116 → zA 116 ad (ad i) := fun i hi => ⟨i, hi, rfl⟩
  have hl := lv_entry ([.ref (ad 3)]) (n := 1) (Nat.le_of_ble_eq_true rfl)
  rw [lg_entry_eq]
  generalize (lg_sl ([.ref (ad 3)]) ++ List.replicate (1 - (lg_sl ([.ref (ad 3)])).length) Slot.unset).toArray = ls at hl ⊢
  have hl : lv_has ls 1 [(0, .ref (ad 3))] := hl
  show W p l e ({ frames := 2, cells := 0, slots := 0, locals := 42 } : Room) s m ([.ref (ad 3)] : List Value).toArray below meth c s.heap [] 0 0 (MQ below (va_Qv Q (zB D 116 (zce cy ad) ad) (zA 116 ad)) ([.ref (ad 3)] : List Value).toArray s 0 0 (zA 116 ad)) (F0 m 0 ls [])
  unfold wp_X0_skipLetters at h
  have k38_0 : ∀ (u_38 : ST) (H : Heap) (locs : List Loc), Q u_38 → zW D 116 (zce cy ad u_38) ad H → va_S (zA 116 ad) s.heap H locs → ∀ ls : Array Slot, lv_has ls 1 [] → W p l e ({ frames := 2, cells := 0, slots := 0, locals := 42 } : Room) s m ([.ref (ad 3)] : List Value).toArray below meth c H locs 0 0 (MQ below (va_Qv Q (zB D 116 (zce cy ad) ad) (zA 116 ad)) ([.ref (ad 3)] : List Value).toArray s 0 0 (zA 116 ad)) (F0 m 38 ls []) := by
    intro u_38 H locs h hw hS ls hl
    exact W.vret hx hb hr (fun t ht hW => ⟨⟨_, rfl, h, zend hw ht⟩, hS.F ht⟩) hS.2.2 dX0_skipLetters_38
  have lp0 : ∀ (nn0 : Nat) (t_0 : ST)  (H : Heap) (locs : List Loc), wl_X0_skipLetters_0 (fun u_38 => Q u_38)  nn0 t_0  → zW D 116 (zce cy ad t_0) ad H → va_S (zA 116 ad) s.heap H locs → ∀ ls : Array Slot, lv_has ls 1 [(0, .ref (ad 3))] → W p l e ({ frames := 2, cells := 0, slots := 0, locals := 42 } : Room) s m ([.ref (ad 3)] : List Value).toArray below meth c H locs 0 0 (MQ below (va_Qv Q (zB D 116 (zce cy ad) ad) (zA 116 ad)) ([.ref (ad 3)] : List Value).toArray s 0 0 (zA 116 ad)) (F0 m 0 ls []) := by
    intro nn0
    induction nn0 with
    | zero => intro _ _ _ h; exact h.elim
    | succ nn0 ih0 =>
      intro t_0 H locs h hw hS ls hl
      simp only [wl_X0_skipLetters_0, wb_X0_skipLetters_0] at h
      refine lv_aload_n hx hb dX0_skipLetters_0 rfl (lv_at hl 0 rfl) ?_
      refine zget hx hb hts inX0 hown hK hw 3 (by decide) rfl rfl 2 (by decide) lk0 (fun _ h9 => h9) rfl dX0_skipLetters_1 ?_
      refine lv_aload_n hx hb dX0_skipLetters_4 rfl (lv_at hl 0 rfl) ?_
      refine zget hx hb hts inX0 hown hK hw 3 (by decide) rfl rfl 1 (by decide) lk1 (fun _ h9 => h9) rfl dX0_skipLetters_5 ?_
      refine lv_icmp_ge (tgt := 38) hx hb dX0_skipLetters_8 (by decide) (fun c1 => ?_) (fun c1 => ?_)
      · have h := h.1 c1
        exact k38_0 _ _ _ h hw hS _ (lv_sub hl [] rfl)
      · have h := h.2 c1
        refine lv_aload_n hx hb dX0_skipLetters_11 rfl (lv_at hl 0 rfl) ?_
        refine lv_aload_n hx hb dX0_skipLetters_12 rfl (lv_at hl 0 rfl) ?_
        refine zget hx hb hts inX0 hown hK hw 3 (by decide) rfl rfl 2 (by decide) lk0 (fun _ h9 => h9) rfl dX0_skipLetters_13 ?_
        refine k_X0_byteAt (rest := []) hx hb hml hown hts gX0_skipLetters_X0_byteAt ⟨Nat.le_of_ble_eq_true rfl, Nat.le_of_ble_eq_true rfl⟩ ⟨Nat.zero_le _, Nat.zero_le _⟩ hK hj hw hA hS hl.1 (Nat.le_of_ble_eq_true rfl) dX0_skipLetters_16 h (fun r1 s1 H locs h hw hS => ?_)
        refine k_X0_isLetter (rest := []) hx hb hml hown hts gX0_skipLetters_X0_isLetter ⟨Nat.le_of_ble_eq_true rfl, Nat.le_of_ble_eq_true rfl⟩ ⟨Nat.zero_le _, Nat.zero_le _⟩ hK hj hw hA hS hl.1 (Nat.le_of_ble_eq_true rfl) dX0_skipLetters_19 h (fun r2 s2 H locs h hw hS => ?_)
        refine zif_eq (tgt := 38) hx hb dX0_skipLetters_22 (by decide) (fun c2 => ?_) (fun c2 => ?_)
        · have h := h.1 c2
          exact k38_0 _ _ _ h hw hS _ (lv_sub hl [] rfl)
        · have h := h.2 c2
          refine lv_aload_n hx hb dX0_skipLetters_25 rfl (lv_at hl 0 rfl) ?_
          refine lv_dup hx hb dX0_skipLetters_26 rfl ?_
          refine zget hx hb hts inX0 hown hK hw 3 (by decide) rfl rfl 2 (by decide) lk0 (fun _ h9 => h9) rfl dX0_skipLetters_27 ?_
          refine lv_iconst (v := (jI 1)) hx hb dX0_skipLetters_30 rfl ?_
          refine lv_iadd hx hb dX0_skipLetters_31 ?_
          obtain ⟨s3, es3⟩ : ∃ y : ST, y = zsp s2 43 ((s2.2 43) + (jI 1)) := ⟨_, rfl⟩
          have h := h s3 es3
          refine zput (ty := .int) hx hb hts inX0 tyX0 tyX0_ok nmX0 hown hK hj hw hA hS 3 (by decide) rfl rfl 2 (by decide) lk0 (fun _ h9 => h9) rfl (by decide +kernel) rfl rfl (Nat.le_of_ble_eq_true rfl) dX0_skipLetters_32 (zce cy ad s3) (by rw [es3]; rfl) (fun j hj9 => by rw [es3]; exact zsp_off_C_43 j hj9) (fun H locs hw hS => ?_)
          refine lv_goto (tgt := 0) hx hb dX0_skipLetters_35 (by decide) ?_
          exact ih0 _ _ _ h hw hS _ (lv_sub hl [0] rfl)
  obtain ⟨nn0, h⟩ := h
  exact lp0 nn0 _ _ _ h hw hS _ (lv_sub hl [0] rfl)
theorem k_X0_skipLetters {p : Program} {l : Launch} {e : Env} {R : Room} {s : State} {m : MethodId} {args : Array Value} {below : List Frame} {meth : Method} {c : Code} {H : Heap} {locs : List Loc} {cells slots : Nat} {QQ : State → Prop} {cc : ByteArray} {pc nL index : Nat} {ls : Array Slot} {rest : List Value} {D : va_G} {cy : cyT} {ad : Nat → Nat} {own : String} {Ts : List Cond} {H0 : Heap} {σ : ST}  {Q : ST → Prop} (hx : p.tables.exec = Jvm.exec) (hb : c.code = cc) (hml : c.maxLocals = nL) (hown : s.vm.findClass own = some m.cls) (hts : ∀ w ∈ Ts, w.before args s = true) (hG : GoodIn Ts (wsV own index RX0 yX0_skipLetters wsX0_skipLetters)) (hR : 2 + 1 ≤ R.frames ∧ 8 + (1 + 11) + 42 ≤ R.locals) (hcs : cells ≤ R.cells ∧ slots ≤ R.slots) (hK : zK D cy s) (hj : zI 116 ad) (hw : zW D 116 (zce cy ad σ) ad H) {A0 : Nat → Prop} (hA : ∀ i, i < 116 → A0 (ad i)) (hS : va_S A0 H0 H locs) (hsz : ls.size = nL) (hrest : (rest.map fun v => v.category).sum ≤ 8) (hdg : decode cc pc = .ok (.invokevirtual index, 3)) (h : wp_X0_skipLetters σ  Q) (kk : ∀ (σ : ST) (H : Heap) (locs : List Loc), Q σ → zW D 116 (zce cy ad σ) ad H → va_S A0 H0 H locs → W p l e R s m args below meth c H locs cells slots QQ (F0 m (pc + 3) ls rest)) : W p l e R s m args below meth c H locs cells slots QQ (F0 m pc ls (.ref (ad 3) :: rest)) :=
  zcallv (va_runV (As := []) (rest := rest) ⟨hx, hb, hml, hown, hts⟩ (c_X0_skipLetters l D cy ad σ  h) (cwV 0 hts hG rfl rfl rfl (by decide +kernel) hR) (zpreV hj hK hw _ (i := 3) (ci := 0) (by decide) rfl rfl) rfl rfl hsz rfl (lv_room hrest) hdg hcs) hA hS kk
set_option maxHeartbeats 4000000 in
set_option maxRecDepth 100000 in
theorem c_X0_numbersAfter (l : Launch) (D : va_G) (cy : cyT) (ad : Nat → Nat) (σ : ST) (p0 : Int32) {Q : Int32 → ST → Prop} (h : wp_X0_numbersAfter σ p0 Q) : Met l yX0_numbersAfter wsX0_numbersAfter ({ frames := 0, cells := 0, slots := 0, locals := 0 } : Room) (zPre D cy 116 (zce cy ad σ) ad [.int p0]) (va_Qi Q (zB D 116 (zce cy ad) ad) (zA 116 ad)) 0 0 (zA 116 ad) := by
  refine Met.ofW (cc := cX0_numbersAfter) (maxL := 1) (ret := (some .int)) (by decide) rfl ?_
  intro p e s m args below meth c s₁ B hml hv
  obtain ⟨rfl, hj, hK, hw⟩ := hv
  have hx := B.exec
  have hb := B.bytes
  have hr := B.returns
  have hts := atoms_spec (ws := wsX0_numbersAfter) B.pre
  have hown : s.vm.findClass RX0 = some m.cls := findClass_of_methodNamed B.named
  have hlocks := B.notSynchronized
  have hS : va_S (zA 116 ad) s.heap s.heap [] := va_S.rf
  have hA : ∀ i, i < 116 → zA 116 ad (ad i) := fun i hi => ⟨i, hi, rfl⟩
  have hl := lv_entry ([.int p0]) (n := 1) (Nat.le_of_ble_eq_true rfl)
  rw [lg_entry_eq]
  generalize (lg_sl ([.int p0]) ++ List.replicate (1 - (lg_sl ([.int p0])).length) Slot.unset).toArray = ls at hl ⊢
  have hl : lv_has ls 1 [(0, .int p0)] := hl
  show W p l e ({ frames := 0, cells := 0, slots := 0, locals := 0 } : Room) s m ([.int p0] : List Value).toArray below meth c s.heap [] 0 0 (MQ below (va_Qi Q (zB D 116 (zce cy ad) ad) (zA 116 ad)) ([.int p0] : List Value).toArray s 0 0 (zA 116 ad)) (F0 m 0 ls [])
  unfold wp_X0_numbersAfter at h
  refine lv_iload_n hx hb dX0_numbersAfter_0 rfl (lv_at hl 0 rfl) ?_
  refine zif_eq (tgt := 14) hx hb dX0_numbersAfter_1 (by decide) (fun c1 => ?_) (fun c1 => ?_)
  · have h := h.1 c1
    refine lv_iconst (v := (jI 3)) hx hb dX0_numbersAfter_14 rfl ?_
    refine lv_goto (tgt := 19) hx hb dX0_numbersAfter_15 (by decide) ?_
    exact W.iret (v := (jI 3)) hx hb hr (fun t ht hW => ⟨⟨_, _, rfl, h, zend hw ht⟩, hS.F ht⟩) hS.2.2 dX0_numbersAfter_19
  · have h := h.2 c1
    refine lv_iload_n hx hb dX0_numbersAfter_4 rfl (lv_at hl 0 rfl) ?_
    refine lv_iconst (v := (jI 1)) hx hb dX0_numbersAfter_5 rfl ?_
    refine lv_icmp_eq (tgt := 14) hx hb dX0_numbersAfter_6 (by decide) (fun c2 => ?_) (fun c2 => ?_)
    · have h := h.1 c2
      refine lv_iconst (v := (jI 3)) hx hb dX0_numbersAfter_14 rfl ?_
      refine lv_goto (tgt := 19) hx hb dX0_numbersAfter_15 (by decide) ?_
      exact W.iret (v := (jI 3)) hx hb hr (fun t ht hW => ⟨⟨_, _, rfl, h, zend hw ht⟩, hS.F ht⟩) hS.2.2 dX0_numbersAfter_19
    · have h := h.2 c2
      refine lv_iload_n hx hb dX0_numbersAfter_9 rfl (lv_at hl 0 rfl) ?_
      refine lv_iconst (v := (jI 2)) hx hb dX0_numbersAfter_10 rfl ?_
      refine lv_icmp_ne (tgt := 18) hx hb dX0_numbersAfter_11 (by decide) (fun c3 => ?_) (fun c3 => ?_)
      · have h := h.2 c3
        refine lv_iconst (v := (jI 0)) hx hb dX0_numbersAfter_18 rfl ?_
        exact W.iret (v := (jI 0)) hx hb hr (fun t ht hW => ⟨⟨_, _, rfl, h, zend hw ht⟩, hS.F ht⟩) hS.2.2 dX0_numbersAfter_19
      · have h := h.1 c3
        refine lv_iconst (v := (jI 3)) hx hb dX0_numbersAfter_14 rfl ?_
        refine lv_goto (tgt := 19) hx hb dX0_numbersAfter_15 (by decide) ?_
        exact W.iret (v := (jI 3)) hx hb hr (fun t ht hW => ⟨⟨_, _, rfl, h, zend hw ht⟩, hS.F ht⟩) hS.2.2 dX0_numbersAfter_19
theorem k_X0_numbersAfter {p : Program} {l : Launch} {e : Env} {R : Room} {s : State} {m : MethodId} {args : Array Value} {below : List Frame} {meth : Method} {c : Code} {H : Heap} {locs : List Loc} {cells slots : Nat} {QQ : State → Prop} {cc : ByteArray} {pc nL index : Nat} {ls : Array Slot} {rest : List Value} {D : va_G} {cy : cyT} {ad : Nat → Nat} {own : String} {Ts : List Cond} {H0 : Heap} {σ : ST} {p0 : Int32} {Q : Int32 → ST → Prop} (hx : p.tables.exec = Jvm.exec) (hb : c.code = cc) (hml : c.maxLocals = nL) (hown : s.vm.findClass own = some m.cls) (hts : ∀ w ∈ Ts, w.before args s = true) (hG : GoodIn Ts (va_wsS own index yX0_numbersAfter wsX0_numbersAfter)) (hR : 0 + 1 ≤ R.frames ∧ 8 + (1 + 11) + 0 ≤ R.locals) (hcs : cells ≤ R.cells ∧ slots ≤ R.slots) (hK : zK D cy s) (hj : zI 116 ad) (hw : zW D 116 (zce cy ad σ) ad H) {A0 : Nat → Prop} (hA : ∀ i, i < 116 → A0 (ad i)) (hS : va_S A0 H0 H locs) (hsz : ls.size = nL) (hrest : (rest.map fun v => v.category).sum ≤ 8) (hdg : decode cc pc = .ok (.invokestatic index, 3)) (h : wp_X0_numbersAfter σ p0 Q) (kk : ∀ (r : Int32) (σ : ST) (H : Heap) (locs : List Loc), Q r σ → zW D 116 (zce cy ad σ) ad H → va_S A0 H0 H locs → W p l e R s m args below meth c H locs cells slots QQ (F0 m (pc + 3) ls (.int r :: rest))) : W p l e R s m args below meth c H locs cells slots QQ (F0 m pc ls (.int p0 :: rest)) :=
  zcalli (va_runS (As := [.int p0]) (rest := rest) ⟨hx, hb, hml, hown, hts⟩ (c_X0_numbersAfter l D cy ad σ p0 h) (va_cwS 1 hts hG rfl rfl rfl (by decide +kernel) hR) (zpreS hj hK hw _) rfl rfl hsz rfl (lv_room hrest) hdg hcs) hA hS kk
set_option maxHeartbeats 4000000 in
set_option maxRecDepth 100000 in
theorem c_X0_isDigit (l : Launch) (D : va_G) (cy : cyT) (ad : Nat → Nat) (σ : ST) (p0 : Int32) {Q : Int32 → ST → Prop} (h : wp_X0_isDigit σ p0 Q) : Met l yX0_isDigit wsX0_isDigit ({ frames := 0, cells := 0, slots := 0, locals := 0 } : Room) (zPre D cy 116 (zce cy ad σ) ad [.int p0]) (va_Qi Q (zB D 116 (zce cy ad) ad) (zA 116 ad)) 0 0 (zA 116 ad) := by
  refine Met.ofW (cc := cX0_isDigit) (maxL := 1) (ret := (some .boolean)) (by decide) rfl ?_
  intro p e s m args below meth c s₁ B hml hv
  obtain ⟨rfl, hj, hK, hw⟩ := hv
  have hx := B.exec
  have hb := B.bytes
  have hr := B.returns
  have hts := atoms_spec (ws := wsX0_isDigit) B.pre
  have hown : s.vm.findClass RX0 = some m.cls := findClass_of_methodNamed B.named
  have hlocks := B.notSynchronized
  have hS : va_S (zA 116 ad) s.heap s.heap [] := va_S.rf
  have hA : ∀ i, i < 116 → zA 116 ad (ad i) := fun i hi => ⟨i, hi, rfl⟩
  have hl := lv_entry ([.int p0]) (n := 1) (Nat.le_of_ble_eq_true rfl)
  rw [lg_entry_eq]
  generalize (lg_sl ([.int p0]) ++ List.replicate (1 - (lg_sl ([.int p0])).length) Slot.unset).toArray = ls at hl ⊢
  have hl : lv_has ls 1 [(0, .int p0)] := hl
  show W p l e ({ frames := 0, cells := 0, slots := 0, locals := 0 } : Room) s m ([.int p0] : List Value).toArray below meth c s.heap [] 0 0 (MQ below (va_Qi Q (zB D 116 (zce cy ad) ad) (zA 116 ad)) ([.int p0] : List Value).toArray s 0 0 (zA 116 ad)) (F0 m 0 ls [])
  unfold wp_X0_isDigit at h
  refine lv_iload_n hx hb dX0_isDigit_0 rfl (lv_at hl 0 rfl) ?_
  refine lv_bipush (v := (jI 48)) hx hb dX0_isDigit_1 (by decide +kernel) ?_
  refine lv_icmp_lt (tgt := 16) hx hb dX0_isDigit_3 (by decide) (fun c1 => ?_) (fun c1 => ?_)
  · have h := h.1 c1
    refine lv_iconst (v := (jI 0)) hx hb dX0_isDigit_16 rfl ?_
    exact W.zret (v := (jI 0)) (ty := .boolean) hx hb hr (by decide +kernel) (fun t ht hW => ⟨⟨_, _, rfl, h, zend hw ht⟩, hS.F ht⟩) hS.2.2 dX0_isDigit_17
  · have h := h.2 c1
    refine lv_iload_n hx hb dX0_isDigit_6 rfl (lv_at hl 0 rfl) ?_
    refine lv_bipush (v := (jI 57)) hx hb dX0_isDigit_7 (by decide +kernel) ?_
    refine lv_icmp_gt (tgt := 16) hx hb dX0_isDigit_9 (by decide) (fun c2 => ?_) (fun c2 => ?_)
    · have h := h.1 c2
      refine lv_iconst (v := (jI 0)) hx hb dX0_isDigit_16 rfl ?_
      exact W.zret (v := (jI 0)) (ty := .boolean) hx hb hr (by decide +kernel) (fun t ht hW => ⟨⟨_, _, rfl, h, zend hw ht⟩, hS.F ht⟩) hS.2.2 dX0_isDigit_17
    · have h := h.2 c2
      refine lv_iconst (v := (jI 1)) hx hb dX0_isDigit_12 rfl ?_
      refine lv_goto (tgt := 17) hx hb dX0_isDigit_13 (by decide) ?_
      exact W.zret (v := (jI 1)) (ty := .boolean) hx hb hr (by decide +kernel) (fun t ht hW => ⟨⟨_, _, rfl, h, zend hw ht⟩, hS.F ht⟩) hS.2.2 dX0_isDigit_17
theorem k_X0_isDigit {p : Program} {l : Launch} {e : Env} {R : Room} {s : State} {m : MethodId} {args : Array Value} {below : List Frame} {meth : Method} {c : Code} {H : Heap} {locs : List Loc} {cells slots : Nat} {QQ : State → Prop} {cc : ByteArray} {pc nL index : Nat} {ls : Array Slot} {rest : List Value} {D : va_G} {cy : cyT} {ad : Nat → Nat} {own : String} {Ts : List Cond} {H0 : Heap} {σ : ST} {p0 : Int32} {Q : Int32 → ST → Prop} (hx : p.tables.exec = Jvm.exec) (hb : c.code = cc) (hml : c.maxLocals = nL) (hown : s.vm.findClass own = some m.cls) (hts : ∀ w ∈ Ts, w.before args s = true) (hG : GoodIn Ts (va_wsS own index yX0_isDigit wsX0_isDigit)) (hR : 0 + 1 ≤ R.frames ∧ 8 + (1 + 11) + 0 ≤ R.locals) (hcs : cells ≤ R.cells ∧ slots ≤ R.slots) (hK : zK D cy s) (hj : zI 116 ad) (hw : zW D 116 (zce cy ad σ) ad H) {A0 : Nat → Prop} (hA : ∀ i, i < 116 → A0 (ad i)) (hS : va_S A0 H0 H locs) (hsz : ls.size = nL) (hrest : (rest.map fun v => v.category).sum ≤ 8) (hdg : decode cc pc = .ok (.invokestatic index, 3)) (h : wp_X0_isDigit σ p0 Q) (kk : ∀ (r : Int32) (σ : ST) (H : Heap) (locs : List Loc), Q r σ → zW D 116 (zce cy ad σ) ad H → va_S A0 H0 H locs → W p l e R s m args below meth c H locs cells slots QQ (F0 m (pc + 3) ls (.int r :: rest))) : W p l e R s m args below meth c H locs cells slots QQ (F0 m pc ls (.int p0 :: rest)) :=
  zcalli (va_runS (As := [.int p0]) (rest := rest) ⟨hx, hb, hml, hown, hts⟩ (c_X0_isDigit l D cy ad σ p0 h) (va_cwS 1 hts hG rfl rfl rfl (by decide +kernel) hR) (zpreS hj hK hw _) rfl rfl hsz rfl (lv_room hrest) hdg hcs) hA hS kk
set_option maxHeartbeats 4000000 in
set_option maxRecDepth 100000 in
theorem c_X0_readNumber (l : Launch) (D : va_G) (cy : cyT) (ad : Nat → Nat) (σ : ST) (p0 : Int32) {Q : Int32 → ST → Prop} (h : wp_X0_readNumber σ p0 Q) : Met l yX0_readNumber wsX0_readNumber ({ frames := 3, cells := 0, slots := 0, locals := 62 } : Room) (zPre D cy 116 (zce cy ad σ) ad [.ref (ad 3), .int p0]) (va_Qi Q (zB D 116 (zce cy ad) ad) (zA 116 ad)) 0 0 (zA 116 ad) := by
  refine Met.ofW (cc := cX0_readNumber) (maxL := 3) (ret := (some .boolean)) (by decide) rfl ?_
  intro p e s m args below meth c s₁ B hml hv
  obtain ⟨rfl, hj, hK, hw⟩ := hv
  have hx := B.exec
  have hb := B.bytes
  have hr := B.returns
  have hts := atoms_spec (ws := wsX0_readNumber) B.pre
  have hown : s.vm.findClass RX0 = some m.cls := findClass_of_methodNamed B.named
  have hlocks := B.notSynchronized
  have lk0 : Cond.fieldLink RX0 24 "TypeTrays$Commands" "position" "I" ∈ wsX0_readNumber := List.mem_of_getElem? (i := 1) rfl
  have lk1 : Cond.fieldLink RX0 30 "TypeTrays$Commands" "numbers" "LTypeTrays$Row;" ∈ wsX0_readNumber := List.mem_of_getElem? (i := 2) rfl
  have lk2 : Cond.fieldLink RX0 33 "TypeTrays$Commands" "count" "I" ∈ wsX0_readNumber := List.mem_of_getElem? (i := 3) rfl
  have inX0 : ∀ w ∈ u_ws RX0 TX0 6, w ∈ wsX0_readNumber := zin_at 28 rfl
  have hS : va_S (zA 116 ad) s.heap s.heap [] := va_S.rf
  have hA : ∀ i, i < 116 → zA 116 ad (ad i) := fun i hi => ⟨i, hi, rfl⟩
  have hl := lv_entry ([.ref (ad 3), .int p0]) (n := 3) (Nat.le_of_ble_eq_true rfl)
  rw [lg_entry_eq]
  generalize (lg_sl ([.ref (ad 3), .int p0]) ++ List.replicate (3 - (lg_sl ([.ref (ad 3), .int p0])).length) Slot.unset).toArray = ls at hl ⊢
  have hl : lv_has ls 3 [(0, .ref (ad 3)), (1, .int p0)] := hl
  show W p l e ({ frames := 3, cells := 0, slots := 0, locals := 62 } : Room) s m ([.ref (ad 3), .int p0] : List Value).toArray below meth c s.heap [] 0 0 (MQ below (va_Qi Q (zB D 116 (zce cy ad) ad) (zA 116 ad)) ([.ref (ad 3), .int p0] : List Value).toArray s 0 0 (zA 116 ad)) (F0 m 0 ls [])
  unfold wp_X0_readNumber at h
  refine lv_aload_n hx hb dX0_readNumber_0 rfl (lv_at hl 0 rfl) ?_
  refine lv_aload_n hx hb dX0_readNumber_1 rfl (lv_at hl 0 rfl) ?_
  refine zget hx hb hts inX0 hown hK hw 3 (by decide) rfl rfl 2 (by decide) lk0 (fun _ h9 => h9) rfl dX0_readNumber_2 ?_
  refine k_X0_byteAt (rest := []) hx hb hml hown hts gX0_readNumber_X0_byteAt ⟨Nat.le_of_ble_eq_true rfl, Nat.le_of_ble_eq_true rfl⟩ ⟨Nat.zero_le _, Nat.zero_le _⟩ hK hj hw hA hS hl.1 (Nat.le_of_ble_eq_true rfl) dX0_readNumber_5 h (fun r1 s1 H locs h hw hS => ?_)
  refine lv_bipush (v := (jI 32)) hx hb dX0_readNumber_8 (by decide +kernel) ?_
  refine lv_icmp_eq (tgt := 15) hx hb dX0_readNumber_10 (by decide) (fun c1 => ?_) (fun c1 => ?_)
  · have h := h.1 c1
    refine lv_aload_n hx hb dX0_readNumber_15 rfl (lv_at hl 0 rfl) ?_
    refine k_X0_skipSpaces (rest := []) hx hb hml hown hts gX0_readNumber_X0_skipSpaces ⟨Nat.le_of_ble_eq_true rfl, Nat.le_of_ble_eq_true rfl⟩ ⟨Nat.zero_le _, Nat.zero_le _⟩ hK hj hw hA hS hl.1 (Nat.le_of_ble_eq_true rfl) dX0_readNumber_16 h (fun s2 H locs h hw hS => ?_)
    refine lv_aload_n hx hb dX0_readNumber_19 rfl (lv_at hl 0 rfl) ?_
    refine lv_aload_n hx hb dX0_readNumber_20 rfl (lv_at hl 0 rfl) ?_
    refine zget hx hb hts inX0 hown hK hw 3 (by decide) rfl rfl 2 (by decide) lk0 (fun _ h9 => h9) rfl dX0_readNumber_21 ?_
    refine k_X0_byteAt (rest := []) hx hb hml hown hts gX0_readNumber_X0_byteAt ⟨Nat.le_of_ble_eq_true rfl, Nat.le_of_ble_eq_true rfl⟩ ⟨Nat.zero_le _, Nat.zero_le _⟩ hK hj hw hA hS hl.1 (Nat.le_of_ble_eq_true rfl) dX0_readNumber_24 h (fun r2 s3 H locs h hw hS => ?_)
    refine k_X0_isDigit (rest := []) hx hb hml hown hts gX0_readNumber_X0_isDigit ⟨Nat.le_of_ble_eq_true rfl, Nat.le_of_ble_eq_true rfl⟩ ⟨Nat.zero_le _, Nat.zero_le _⟩ hK hj hw hA hS hl.1 (Nat.le_of_ble_eq_true rfl) dX0_readNumber_27 h (fun r3 s4 H locs h hw hS => ?_)
    refine zif_ne (tgt := 35) hx hb dX0_readNumber_30 (by decide) (fun c2 => ?_) (fun c2 => ?_)
    · have h := h.2 c2
      refine lv_aload_n hx hb dX0_readNumber_35 rfl (lv_at hl 0 rfl) ?_
      refine lv_aload_n hx hb dX0_readNumber_36 rfl (lv_at hl 0 rfl) ?_
      refine zget hx hb hts inX0 hown hK hw 3 (by decide) rfl rfl 2 (by decide) lk0 (fun _ h9 => h9) rfl dX0_readNumber_37 ?_
      refine k_X0_byteAt (rest := []) hx hb hml hown hts gX0_readNumber_X0_byteAt ⟨Nat.le_of_ble_eq_true rfl, Nat.le_of_ble_eq_true rfl⟩ ⟨Nat.zero_le _, Nat.zero_le _⟩ hK hj hw hA hS hl.1 (Nat.le_of_ble_eq_true rfl) dX0_readNumber_40 h (fun r4 s5 H locs h hw hS => ?_)
      refine lv_bipush (v := (jI 48)) hx hb dX0_readNumber_43 (by decide +kernel) ?_
      refine lv_isub hx hb dX0_readNumber_45 ?_
      refine lv_topi (fun x1 ex1 => ?_)
      have h := h x1 ex1
      refine lv_istore_n (lv' := [(2, .int x1), (0, .ref (ad 3)), (1, .int p0)]) hx hb dX0_readNumber_46 rfl hl (by decide) rfl (fun ls hl => ?_)
      refine lv_aload_n hx hb dX0_readNumber_47 rfl (lv_at hl 1 rfl) ?_
      refine lv_dup hx hb dX0_readNumber_48 rfl ?_
      refine zget hx hb hts inX0 hown hK hw 3 (by decide) rfl rfl 2 (by decide) lk0 (fun _ h9 => h9) rfl dX0_readNumber_49 ?_
      refine lv_iconst (v := (jI 1)) hx hb dX0_readNumber_52 rfl ?_
      refine lv_iadd hx hb dX0_readNumber_53 ?_
      obtain ⟨s6, es6⟩ : ∃ y : ST, y = zsp s5 43 ((s5.2 43) + (jI 1)) := ⟨_, rfl⟩
      have h := h s6 es6
      refine zput (ty := .int) hx hb hts inX0 tyX0 tyX0_ok nmX0 hown hK hj hw hA hS 3 (by decide) rfl rfl 2 (by decide) lk0 (fun _ h9 => h9) rfl (by decide +kernel) rfl rfl (Nat.le_of_ble_eq_true rfl) dX0_readNumber_54 (zce cy ad s6) (by rw [es6]; rfl) (fun j hj9 => by rw [es6]; exact zsp_off_C_43 j hj9) (fun H locs hw hS => ?_)
      refine lv_aload_n hx hb dX0_readNumber_57 rfl (lv_at hl 1 rfl) ?_
      refine lv_aload_n hx hb dX0_readNumber_58 rfl (lv_at hl 1 rfl) ?_
      refine zget hx hb hts inX0 hown hK hw 3 (by decide) rfl rfl 2 (by decide) lk0 (fun _ h9 => h9) rfl dX0_readNumber_59 ?_
      refine k_X0_byteAt (rest := []) hx hb hml hown hts gX0_readNumber_X0_byteAt ⟨Nat.le_of_ble_eq_true rfl, Nat.le_of_ble_eq_true rfl⟩ ⟨Nat.zero_le _, Nat.zero_le _⟩ hK hj hw hA hS hl.1 (Nat.le_of_ble_eq_true rfl) dX0_readNumber_62 h (fun r5 s7 H locs h hw hS => ?_)
      refine k_X0_isDigit (rest := []) hx hb hml hown hts gX0_readNumber_X0_isDigit ⟨Nat.le_of_ble_eq_true rfl, Nat.le_of_ble_eq_true rfl⟩ ⟨Nat.zero_le _, Nat.zero_le _⟩ hK hj hw hA hS hl.1 (Nat.le_of_ble_eq_true rfl) dX0_readNumber_65 h (fun r6 s8 H locs h hw hS => ?_)
      refine zif_eq (tgt := 98) hx hb dX0_readNumber_68 (by decide) (fun c3 => ?_) (fun c3 => ?_)
      · have h := h.1 c3
        refine lv_aload_n hx hb dX0_readNumber_98 rfl (lv_at hl 1 rfl) ?_
        refine zget hx hb hts inX0 hown hK hw 3 (by decide) rfl rfl 4 (by decide) lk1 (fun _ h9 => h9) rfl dX0_readNumber_99 ?_
        refine lv_aload_n hx hb dX0_readNumber_102 rfl (lv_at hl 1 rfl) ?_
        refine zget hx hb hts inX0 hown hK hw 3 (by decide) rfl rfl 5 (by decide) lk2 (fun _ h9 => h9) rfl dX0_readNumber_103 ?_
        refine lv_iconst (v := (jI 3)) hx hb dX0_readNumber_106 rfl ?_
        refine lv_imul hx hb dX0_readNumber_107 ?_
        refine lv_iload_n hx hb dX0_readNumber_108 rfl (lv_at hl 2 rfl) ?_
        refine lv_iadd hx hb dX0_readNumber_109 ?_
        refine lv_iload_n hx hb dX0_readNumber_110 rfl (lv_at hl 0 rfl) ?_
        obtain ⟨s9, es9⟩ : ∃ y : ST, y = zrs s8 52 (((s8.2 44) * (jI 3)) + p0) x1 := ⟨_, rfl⟩
        have h := h s9 es9
        refine zcall_put (rest := []) hx hb hml hown hts gX0_readNumber_X3_put ⟨Nat.le_of_ble_eq_true rfl, Nat.le_of_ble_eq_true rfl⟩ ⟨Nat.zero_le _, Nat.zero_le _⟩ hK hj hw hA hS 52 (by decide) hl.1 (Nat.le_of_ble_eq_true rfl) dX0_readNumber_111 (fun H locs hw hS => ?_)
        rw [← es9] at hw
        refine lv_iconst (v := (jI 1)) hx hb dX0_readNumber_114 rfl ?_
        exact W.zret (v := (jI 1)) (ty := .boolean) hx hb hr (by decide +kernel) (fun t ht hW => ⟨⟨_, _, rfl, h, zend hw ht⟩, hS.F ht⟩) hS.2.2 dX0_readNumber_115
      · have h := h.2 c3
        refine lv_bipush (v := (jI 10)) hx hb dX0_readNumber_71 (by decide +kernel) ?_
        refine lv_iload_n hx hb dX0_readNumber_73 rfl (lv_at hl 0 rfl) ?_
        refine lv_imul hx hb dX0_readNumber_74 ?_
        refine lv_aload_n hx hb dX0_readNumber_75 rfl (lv_at hl 1 rfl) ?_
        refine lv_aload_n hx hb dX0_readNumber_76 rfl (lv_at hl 1 rfl) ?_
        refine zget hx hb hts inX0 hown hK hw 3 (by decide) rfl rfl 2 (by decide) lk0 (fun _ h9 => h9) rfl dX0_readNumber_77 ?_
        refine k_X0_byteAt (rest := [.int ((jI 10) * x1)]) hx hb hml hown hts gX0_readNumber_X0_byteAt ⟨Nat.le_of_ble_eq_true rfl, Nat.le_of_ble_eq_true rfl⟩ ⟨Nat.zero_le _, Nat.zero_le _⟩ hK hj hw hA hS hl.1 (Nat.le_of_ble_eq_true rfl) dX0_readNumber_80 h (fun r7 s10 H locs h hw hS => ?_)
        refine lv_iadd hx hb dX0_readNumber_83 ?_
        refine lv_bipush (v := (jI 48)) hx hb dX0_readNumber_84 (by decide +kernel) ?_
        refine lv_isub hx hb dX0_readNumber_86 ?_
        refine lv_topi (fun x2 ex2 => ?_)
        have h := h x2 ex2
        refine lv_istore_n (lv' := [(2, .int x2), (0, .ref (ad 3)), (1, .int p0)]) hx hb dX0_readNumber_87 rfl hl (by decide) rfl (fun ls hl => ?_)
        refine lv_aload_n hx hb dX0_readNumber_88 rfl (lv_at hl 1 rfl) ?_
        refine lv_dup hx hb dX0_readNumber_89 rfl ?_
        refine zget hx hb hts inX0 hown hK hw 3 (by decide) rfl rfl 2 (by decide) lk0 (fun _ h9 => h9) rfl dX0_readNumber_90 ?_
        refine lv_iconst (v := (jI 1)) hx hb dX0_readNumber_93 rfl ?_
        refine lv_iadd hx hb dX0_readNumber_94 ?_
        obtain ⟨s11, es11⟩ : ∃ y : ST, y = zsp s10 43 ((s10.2 43) + (jI 1)) := ⟨_, rfl⟩
        have h := h s11 es11
        refine zput (ty := .int) hx hb hts inX0 tyX0 tyX0_ok nmX0 hown hK hj hw hA hS 3 (by decide) rfl rfl 2 (by decide) lk0 (fun _ h9 => h9) rfl (by decide +kernel) rfl rfl (Nat.le_of_ble_eq_true rfl) dX0_readNumber_95 (zce cy ad s11) (by rw [es11]; rfl) (fun j hj9 => by rw [es11]; exact zsp_off_C_43 j hj9) (fun H locs hw hS => ?_)
        refine lv_aload_n hx hb dX0_readNumber_98 rfl (lv_at hl 1 rfl) ?_
        refine zget hx hb hts inX0 hown hK hw 3 (by decide) rfl rfl 4 (by decide) lk1 (fun _ h9 => h9) rfl dX0_readNumber_99 ?_
        refine lv_aload_n hx hb dX0_readNumber_102 rfl (lv_at hl 1 rfl) ?_
        refine zget hx hb hts inX0 hown hK hw 3 (by decide) rfl rfl 5 (by decide) lk2 (fun _ h9 => h9) rfl dX0_readNumber_103 ?_
        refine lv_iconst (v := (jI 3)) hx hb dX0_readNumber_106 rfl ?_
        refine lv_imul hx hb dX0_readNumber_107 ?_
        refine lv_iload_n hx hb dX0_readNumber_108 rfl (lv_at hl 2 rfl) ?_
        refine lv_iadd hx hb dX0_readNumber_109 ?_
        refine lv_iload_n hx hb dX0_readNumber_110 rfl (lv_at hl 0 rfl) ?_
        obtain ⟨s12, es12⟩ : ∃ y : ST, y = zrs s11 52 (((s11.2 44) * (jI 3)) + p0) x2 := ⟨_, rfl⟩
        have h := h s12 es12
        refine zcall_put (rest := []) hx hb hml hown hts gX0_readNumber_X3_put ⟨Nat.le_of_ble_eq_true rfl, Nat.le_of_ble_eq_true rfl⟩ ⟨Nat.zero_le _, Nat.zero_le _⟩ hK hj hw hA hS 52 (by decide) hl.1 (Nat.le_of_ble_eq_true rfl) dX0_readNumber_111 (fun H locs hw hS => ?_)
        rw [← es12] at hw
        refine lv_iconst (v := (jI 1)) hx hb dX0_readNumber_114 rfl ?_
        exact W.zret (v := (jI 1)) (ty := .boolean) hx hb hr (by decide +kernel) (fun t ht hW => ⟨⟨_, _, rfl, h, zend hw ht⟩, hS.F ht⟩) hS.2.2 dX0_readNumber_115
    · have h := h.1 c2
      refine lv_iconst (v := (jI 0)) hx hb dX0_readNumber_33 rfl ?_
      exact W.zret (v := (jI 0)) (ty := .boolean) hx hb hr (by decide +kernel) (fun t ht hW => ⟨⟨_, _, rfl, h, zend hw ht⟩, hS.F ht⟩) hS.2.2 dX0_readNumber_34
  · have h := h.2 c1
    refine lv_iconst (v := (jI 0)) hx hb dX0_readNumber_13 rfl ?_
    exact W.zret (v := (jI 0)) (ty := .boolean) hx hb hr (by decide +kernel) (fun t ht hW => ⟨⟨_, _, rfl, h, zend hw ht⟩, hS.F ht⟩) hS.2.2 dX0_readNumber_14
theorem k_X0_readNumber {p : Program} {l : Launch} {e : Env} {R : Room} {s : State} {m : MethodId} {args : Array Value} {below : List Frame} {meth : Method} {c : Code} {H : Heap} {locs : List Loc} {cells slots : Nat} {QQ : State → Prop} {cc : ByteArray} {pc nL index : Nat} {ls : Array Slot} {rest : List Value} {D : va_G} {cy : cyT} {ad : Nat → Nat} {own : String} {Ts : List Cond} {H0 : Heap} {σ : ST} {p0 : Int32} {Q : Int32 → ST → Prop} (hx : p.tables.exec = Jvm.exec) (hb : c.code = cc) (hml : c.maxLocals = nL) (hown : s.vm.findClass own = some m.cls) (hts : ∀ w ∈ Ts, w.before args s = true) (hG : GoodIn Ts (wsV own index RX0 yX0_readNumber wsX0_readNumber)) (hR : 3 + 1 ≤ R.frames ∧ 8 + (3 + 11) + 62 ≤ R.locals) (hcs : cells ≤ R.cells ∧ slots ≤ R.slots) (hK : zK D cy s) (hj : zI 116 ad) (hw : zW D 116 (zce cy ad σ) ad H) {A0 : Nat → Prop} (hA : ∀ i, i < 116 → A0 (ad i)) (hS : va_S A0 H0 H locs) (hsz : ls.size = nL) (hrest : (rest.map fun v => v.category).sum ≤ 8) (hdg : decode cc pc = .ok (.invokevirtual index, 3)) (h : wp_X0_readNumber σ p0 Q) (kk : ∀ (r : Int32) (σ : ST) (H : Heap) (locs : List Loc), Q r σ → zW D 116 (zce cy ad σ) ad H → va_S A0 H0 H locs → W p l e R s m args below meth c H locs cells slots QQ (F0 m (pc + 3) ls (.int r :: rest))) : W p l e R s m args below meth c H locs cells slots QQ (F0 m pc ls (.int p0 :: .ref (ad 3) :: rest)) :=
  zcalli (va_runV (As := [.int p0]) (rest := rest) ⟨hx, hb, hml, hown, hts⟩ (c_X0_readNumber l D cy ad σ p0 h) (cwV 1 hts hG rfl rfl rfl (by decide +kernel) hR) (zpreV hj hK hw _ (i := 3) (ci := 0) (by decide) rfl rfl) rfl rfl hsz rfl (lv_room hrest) hdg hcs) hA hS kk
set_option maxHeartbeats 4000000 in
set_option maxRecDepth 100000 in
theorem c_X1_isFree (l : Launch) (D : va_G) (cy : cyT) (ad : Nat → Nat) (σ : ST) (p0 : Int32) (p1 : Int32) {Q : Int32 → ST → Prop} (h : wp_X1_isFree σ p0 p1 Q) : Met l yX1_isFree wsX1_isFree ({ frames := 0, cells := 0, slots := 0, locals := 0 } : Room) (zPre D cy 116 (zce cy ad σ) ad [.int p0, .int p1]) (va_Qi Q (zB D 116 (zce cy ad) ad) (zA 116 ad)) 0 0 (zA 116 ad) := by
  refine Met.ofW (cc := cX1_isFree) (maxL := 2) (ret := (some .boolean)) (by decide) rfl ?_
  intro p e s m args below meth c s₁ B hml hv
  obtain ⟨rfl, hj, hK, hw⟩ := hv
  have hx := B.exec
  have hb := B.bytes
  have hr := B.returns
  have hts := atoms_spec (ws := wsX1_isFree) B.pre
  have hown : s.vm.findClass RX1 = some m.cls := findClass_of_methodNamed B.named
  have hlocks := B.notSynchronized
  have hS : va_S (zA 116 ad) s.heap s.heap [] := va_S.rf
  have hA : ∀ i, i < 116 → zA 116 ad (ad i) := fun i hi => ⟨i, hi, rfl⟩
  have hl := lv_entry ([.int p0, .int p1]) (n := 2) (Nat.le_of_ble_eq_true rfl)
  rw [lg_entry_eq]
  generalize (lg_sl ([.int p0, .int p1]) ++ List.replicate (2 - (lg_sl ([.int p0, .int p1])).length) Slot.unset).toArray = ls at hl ⊢
  have hl : lv_has ls 2 [(0, .int p0), (1, .int p1)] := hl
  show W p l e ({ frames := 0, cells := 0, slots := 0, locals := 0 } : Room) s m ([.int p0, .int p1] : List Value).toArray below meth c s.heap [] 0 0 (MQ below (va_Qi Q (zB D 116 (zce cy ad) ad) (zA 116 ad)) ([.int p0, .int p1] : List Value).toArray s 0 0 (zA 116 ad)) (F0 m 0 ls [])
  unfold wp_X1_isFree at h
  refine lv_iload_n hx hb dX1_isFree_0 rfl (lv_at hl 0 rfl) ?_
  refine lv_iload_n hx hb dX1_isFree_1 rfl (lv_at hl 1 rfl) ?_
  refine lv_ishr hx hb dX1_isFree_2 ?_
  refine lv_iconst (v := (jI 1)) hx hb dX1_isFree_3 rfl ?_
  refine lv_iand hx hb dX1_isFree_4 ?_
  refine zif_ne (tgt := 12) hx hb dX1_isFree_5 (by decide) (fun c1 => ?_) (fun c1 => ?_)
  · have h := h.2 c1
    refine lv_iconst (v := (jI 0)) hx hb dX1_isFree_12 rfl ?_
    exact W.zret (v := (jI 0)) (ty := .boolean) hx hb hr (by decide +kernel) (fun t ht hW => ⟨⟨_, _, rfl, h, zend hw ht⟩, hS.F ht⟩) hS.2.2 dX1_isFree_13
  · have h := h.1 c1
    refine lv_iconst (v := (jI 1)) hx hb dX1_isFree_8 rfl ?_
    refine lv_goto (tgt := 13) hx hb dX1_isFree_9 (by decide) ?_
    exact W.zret (v := (jI 1)) (ty := .boolean) hx hb hr (by decide +kernel) (fun t ht hW => ⟨⟨_, _, rfl, h, zend hw ht⟩, hS.F ht⟩) hS.2.2 dX1_isFree_13
theorem k_X1_isFree {p : Program} {l : Launch} {e : Env} {R : Room} {s : State} {m : MethodId} {args : Array Value} {below : List Frame} {meth : Method} {c : Code} {H : Heap} {locs : List Loc} {cells slots : Nat} {QQ : State → Prop} {cc : ByteArray} {pc nL index : Nat} {ls : Array Slot} {rest : List Value} {D : va_G} {cy : cyT} {ad : Nat → Nat} {own : String} {Ts : List Cond} {H0 : Heap} {σ : ST} {p0 : Int32} {p1 : Int32} {Q : Int32 → ST → Prop} (hx : p.tables.exec = Jvm.exec) (hb : c.code = cc) (hml : c.maxLocals = nL) (hown : s.vm.findClass own = some m.cls) (hts : ∀ w ∈ Ts, w.before args s = true) (hG : GoodIn Ts (va_wsS own index yX1_isFree wsX1_isFree)) (hR : 0 + 1 ≤ R.frames ∧ 8 + (2 + 11) + 0 ≤ R.locals) (hcs : cells ≤ R.cells ∧ slots ≤ R.slots) (hK : zK D cy s) (hj : zI 116 ad) (hw : zW D 116 (zce cy ad σ) ad H) {A0 : Nat → Prop} (hA : ∀ i, i < 116 → A0 (ad i)) (hS : va_S A0 H0 H locs) (hsz : ls.size = nL) (hrest : (rest.map fun v => v.category).sum ≤ 8) (hdg : decode cc pc = .ok (.invokestatic index, 3)) (h : wp_X1_isFree σ p0 p1 Q) (kk : ∀ (r : Int32) (σ : ST) (H : Heap) (locs : List Loc), Q r σ → zW D 116 (zce cy ad σ) ad H → va_S A0 H0 H locs → W p l e R s m args below meth c H locs cells slots QQ (F0 m (pc + 3) ls (.int r :: rest))) : W p l e R s m args below meth c H locs cells slots QQ (F0 m pc ls (.int p1 :: .int p0 :: rest)) :=
  zcalli (va_runS (As := [.int p0, .int p1]) (rest := rest) ⟨hx, hb, hml, hown, hts⟩ (c_X1_isFree l D cy ad σ p0 p1 h) (va_cwS 2 hts hG rfl rfl rfl (by decide +kernel) hR) (zpreS hj hK hw _) rfl rfl hsz rfl (lv_room hrest) hdg hcs) hA hS kk
set_option maxHeartbeats 4000000 in
set_option maxRecDepth 100000 in
theorem c_X1_count (l : Launch) (D : va_G) (cy : cyT) (ad : Nat → Nat) (σ : ST) (p0 : Int32) {Q : Int32 → ST → Prop} (h : wp_X1_count σ p0 Q) : Met l yX1_count wsX1_count ({ frames := 1, cells := 0, slots := 0, locals := 21 } : Room) (zPre D cy 116 (zce cy ad σ) ad [.int p0]) (va_Qi Q (zB D 116 (zce cy ad) ad) (zA 116 ad)) 0 0 (zA 116 ad) := by
  refine Met.ofW (cc := cX1_count) (maxL := 3) (ret := (some .int)) (by decide) rfl ?_
  intro p e s m args below meth c s₁ B hml hv
  obtain ⟨rfl, hj, hK, hw⟩ := hv
  have hx := B.exec
  have hb := B.bytes
  have hr := B.returns
  have hts := atoms_spec (ws := wsX1_count) B.pre
  have hown : s.vm.findClass RX1 = some m.cls := findClass_of_methodNamed B.named
  have hlocks := B.notSynchronized
  have hS : va_S (zA 116 ad) s.heap s.heap [] := va_S.rf
  have hA : ∀ i, i < 116 → zA 116 ad (ad i) := fun i hi => ⟨i, hi, rfl⟩
  have hl := lv_entry ([.int p0]) (n := 3) (Nat.le_of_ble_eq_true rfl)
  rw [lg_entry_eq]
  generalize (lg_sl ([.int p0]) ++ List.replicate (3 - (lg_sl ([.int p0])).length) Slot.unset).toArray = ls at hl ⊢
  have hl : lv_has ls 3 [(0, .int p0)] := hl
  show W p l e ({ frames := 1, cells := 0, slots := 0, locals := 21 } : Room) s m ([.int p0] : List Value).toArray below meth c s.heap [] 0 0 (MQ below (va_Qi Q (zB D 116 (zce cy ad) ad) (zA 116 ad)) ([.int p0] : List Value).toArray s 0 0 (zA 116 ad)) (F0 m 0 ls [])
  unfold wp_X1_count at h
  refine lv_iconst (v := (jI 0)) hx hb dX1_count_0 rfl ?_
  refine lv_istore_n (lv' := [(1, .int (jI 0)), (0, .int p0)]) hx hb dX1_count_1 rfl hl (by decide) rfl (fun ls hl => ?_)
  refine lv_iconst (v := (jI 0)) hx hb dX1_count_2 rfl ?_
  refine lv_istore_n (lv' := [(2, .int (jI 0)), (1, .int (jI 0)), (0, .int p0)]) hx hb dX1_count_3 rfl hl (by decide) rfl (fun ls hl => ?_)
  have k41_4 : ∀ (u_41 : ST) (z1_41 : Int32) (H : Heap) (locs : List Loc), Q z1_41 u_41 → zW D 116 (zce cy ad u_41) ad H → va_S (zA 116 ad) s.heap H locs → ∀ ls : Array Slot, lv_has ls 3 [(1, .int z1_41)] → W p l e ({ frames := 1, cells := 0, slots := 0, locals := 21 } : Room) s m ([.int p0] : List Value).toArray below meth c H locs 0 0 (MQ below (va_Qi Q (zB D 116 (zce cy ad) ad) (zA 116 ad)) ([.int p0] : List Value).toArray s 0 0 (zA 116 ad)) (F0 m 41 ls []) := by
    intro u_41 z1_41 H locs h hw hS ls hl
    refine lv_iload_n hx hb dX1_count_41 rfl (lv_at hl 0 rfl) ?_
    exact W.iret (v := z1_41) hx hb hr (fun t ht hW => ⟨⟨_, _, rfl, h, zend hw ht⟩, hS.F ht⟩) hS.2.2 dX1_count_42
  have lp4 : ∀ (nn4 : Nat) (t_4 : ST) (y1_4 : Int32) (y2_4 : Int32) (H : Heap) (locs : List Loc), wl_X1_count_4 (fun u_41 z1_41 => Q z1_41 u_41) p0 nn4 t_4 y1_4 y2_4 → zW D 116 (zce cy ad t_4) ad H → va_S (zA 116 ad) s.heap H locs → ∀ ls : Array Slot, lv_has ls 3 [(0, .int p0), (1, .int y1_4), (2, .int y2_4)] → W p l e ({ frames := 1, cells := 0, slots := 0, locals := 21 } : Room) s m ([.int p0] : List Value).toArray below meth c H locs 0 0 (MQ below (va_Qi Q (zB D 116 (zce cy ad) ad) (zA 116 ad)) ([.int p0] : List Value).toArray s 0 0 (zA 116 ad)) (F0 m 4 ls []) := by
    intro nn4
    induction nn4 with
    | zero => intro _ _ _ _ _ h; exact h.elim
    | succ nn4 ih4 =>
      intro t_4 y1_4 y2_4 H locs h hw hS ls hl
      simp only [wl_X1_count_4, wb_X1_count_4] at h
      refine lv_iload_n hx hb dX1_count_4 rfl (lv_at hl 2 rfl) ?_
      refine lv_bipush (v := (jI 24)) hx hb dX1_count_5 (by decide +kernel) ?_
      refine lv_icmp_ge (tgt := 41) hx hb dX1_count_7 (by decide) (fun c1 => ?_) (fun c1 => ?_)
      · have h := h.1 c1
        exact k41_4 _ _ _ _ h hw hS _ (lv_sub hl [1] rfl)
      · have h := h.2 c1
        refine lv_iload_n hx hb dX1_count_10 rfl (lv_at hl 0 rfl) ?_
        refine lv_iload_n hx hb dX1_count_11 rfl (lv_at hl 2 rfl) ?_
        refine k_X1_isFree (rest := []) hx hb hml hown hts gX1_count_X1_isFree ⟨Nat.le_of_ble_eq_true rfl, Nat.le_of_ble_eq_true rfl⟩ ⟨Nat.zero_le _, Nat.zero_le _⟩ hK hj hw hA hS hl.1 (Nat.le_of_ble_eq_true rfl) dX1_count_12 h (fun r1 s1 H locs h hw hS => ?_)
        refine zif_eq (tgt := 35) hx hb dX1_count_15 (by decide) (fun c2 => ?_) (fun c2 => ?_)
        · have h := h.1 c2
          obtain ⟨x1, ex1⟩ : ∃ y : Int32, y = y2_4 + (jI 1) := ⟨_, rfl⟩
          have h := h x1 ex1
          refine lv_iinc (v := x1) (lv' := [(2, .int x1), (0, .int p0), (1, .int y1_4)]) hx hb dX1_count_35 hl (k := 2) rfl (by rw [ex1]; rfl) (by decide) rfl (fun ls hl => ?_)
          refine lv_goto (tgt := 4) hx hb dX1_count_38 (by decide) ?_
          exact ih4 _ _ _ _ _ h hw hS _ (lv_sub hl [1, 2, 0] rfl)
        · have h := h.2 c2
          refine lv_iload_n hx hb dX1_count_18 rfl (lv_at hl 2 rfl) ?_
          refine zif_eq (tgt := 32) hx hb dX1_count_19 (by decide) (fun c3 => ?_) (fun c3 => ?_)
          · have h := h.1 c3
            obtain ⟨x2, ex2⟩ : ∃ y : Int32, y = y1_4 + (jI 1) := ⟨_, rfl⟩
            have h := h x2 ex2
            refine lv_iinc (v := x2) (lv' := [(1, .int x2), (0, .int p0), (2, .int y2_4)]) hx hb dX1_count_32 hl (k := 1) rfl (by rw [ex2]; rfl) (by decide) rfl (fun ls hl => ?_)
            obtain ⟨x3, ex3⟩ : ∃ y : Int32, y = y2_4 + (jI 1) := ⟨_, rfl⟩
            have h := h x3 ex3
            refine lv_iinc (v := x3) (lv' := [(2, .int x3), (1, .int x2), (0, .int p0)]) hx hb dX1_count_35 hl (k := 2) rfl (by rw [ex3]; rfl) (by decide) rfl (fun ls hl => ?_)
            refine lv_goto (tgt := 4) hx hb dX1_count_38 (by decide) ?_
            exact ih4 _ _ _ _ _ h hw hS _ (lv_sub hl [2, 1, 0] rfl)
          · have h := h.2 c3
            refine lv_iload_n hx hb dX1_count_22 rfl (lv_at hl 0 rfl) ?_
            refine lv_iload_n hx hb dX1_count_23 rfl (lv_at hl 2 rfl) ?_
            refine lv_iconst (v := (jI 1)) hx hb dX1_count_24 rfl ?_
            refine lv_isub hx hb dX1_count_25 ?_
            refine k_X1_isFree (rest := []) hx hb hml hown hts gX1_count_X1_isFree ⟨Nat.le_of_ble_eq_true rfl, Nat.le_of_ble_eq_true rfl⟩ ⟨Nat.zero_le _, Nat.zero_le _⟩ hK hj hw hA hS hl.1 (Nat.le_of_ble_eq_true rfl) dX1_count_26 h (fun r2 s2 H locs h hw hS => ?_)
            refine zif_ne (tgt := 35) hx hb dX1_count_29 (by decide) (fun c4 => ?_) (fun c4 => ?_)
            · have h := h.2 c4
              obtain ⟨x4, ex4⟩ : ∃ y : Int32, y = y2_4 + (jI 1) := ⟨_, rfl⟩
              have h := h x4 ex4
              refine lv_iinc (v := x4) (lv' := [(2, .int x4), (0, .int p0), (1, .int y1_4)]) hx hb dX1_count_35 hl (k := 2) rfl (by rw [ex4]; rfl) (by decide) rfl (fun ls hl => ?_)
              refine lv_goto (tgt := 4) hx hb dX1_count_38 (by decide) ?_
              exact ih4 _ _ _ _ _ h hw hS _ (lv_sub hl [1, 2, 0] rfl)
            · have h := h.1 c4
              obtain ⟨x5, ex5⟩ : ∃ y : Int32, y = y1_4 + (jI 1) := ⟨_, rfl⟩
              have h := h x5 ex5
              refine lv_iinc (v := x5) (lv' := [(1, .int x5), (0, .int p0), (2, .int y2_4)]) hx hb dX1_count_32 hl (k := 1) rfl (by rw [ex5]; rfl) (by decide) rfl (fun ls hl => ?_)
              obtain ⟨x6, ex6⟩ : ∃ y : Int32, y = y2_4 + (jI 1) := ⟨_, rfl⟩
              have h := h x6 ex6
              refine lv_iinc (v := x6) (lv' := [(2, .int x6), (1, .int x5), (0, .int p0)]) hx hb dX1_count_35 hl (k := 2) rfl (by rw [ex6]; rfl) (by decide) rfl (fun ls hl => ?_)
              refine lv_goto (tgt := 4) hx hb dX1_count_38 (by decide) ?_
              exact ih4 _ _ _ _ _ h hw hS _ (lv_sub hl [2, 1, 0] rfl)
  obtain ⟨nn4, h⟩ := h
  exact lp4 nn4 _ _ _ _ _ h hw hS _ (lv_sub hl [2, 1, 0] rfl)
theorem k_X1_count {p : Program} {l : Launch} {e : Env} {R : Room} {s : State} {m : MethodId} {args : Array Value} {below : List Frame} {meth : Method} {c : Code} {H : Heap} {locs : List Loc} {cells slots : Nat} {QQ : State → Prop} {cc : ByteArray} {pc nL index : Nat} {ls : Array Slot} {rest : List Value} {D : va_G} {cy : cyT} {ad : Nat → Nat} {own : String} {Ts : List Cond} {H0 : Heap} {σ : ST} {p0 : Int32} {Q : Int32 → ST → Prop} (hx : p.tables.exec = Jvm.exec) (hb : c.code = cc) (hml : c.maxLocals = nL) (hown : s.vm.findClass own = some m.cls) (hts : ∀ w ∈ Ts, w.before args s = true) (hG : GoodIn Ts (va_wsS own index yX1_count wsX1_count)) (hR : 1 + 1 ≤ R.frames ∧ 8 + (3 + 11) + 21 ≤ R.locals) (hcs : cells ≤ R.cells ∧ slots ≤ R.slots) (hK : zK D cy s) (hj : zI 116 ad) (hw : zW D 116 (zce cy ad σ) ad H) {A0 : Nat → Prop} (hA : ∀ i, i < 116 → A0 (ad i)) (hS : va_S A0 H0 H locs) (hsz : ls.size = nL) (hrest : (rest.map fun v => v.category).sum ≤ 8) (hdg : decode cc pc = .ok (.invokestatic index, 3)) (h : wp_X1_count σ p0 Q) (kk : ∀ (r : Int32) (σ : ST) (H : Heap) (locs : List Loc), Q r σ → zW D 116 (zce cy ad σ) ad H → va_S A0 H0 H locs → W p l e R s m args below meth c H locs cells slots QQ (F0 m (pc + 3) ls (.int r :: rest))) : W p l e R s m args below meth c H locs cells slots QQ (F0 m pc ls (.int p0 :: rest)) :=
  zcalli (va_runS (As := [.int p0]) (rest := rest) ⟨hx, hb, hml, hown, hts⟩ (c_X1_count l D cy ad σ p0 h) (va_cwS 1 hts hG rfl rfl rfl (by decide +kernel) hR) (zpreS hj hK hw _) rfl rfl hsz rfl (lv_room hrest) hdg hcs) hA hS kk
set_option maxHeartbeats 4000000 in
set_option maxRecDepth 100000 in
theorem c_X1_widest (l : Launch) (D : va_G) (cy : cyT) (ad : Nat → Nat) (σ : ST) (p0 : Int32) {Q : Int32 → ST → Prop} (h : wp_X1_widest σ p0 Q) : Met l yX1_widest wsX1_widest ({ frames := 1, cells := 0, slots := 0, locals := 21 } : Room) (zPre D cy 116 (zce cy ad σ) ad [.int p0]) (va_Qi Q (zB D 116 (zce cy ad) ad) (zA 116 ad)) 0 0 (zA 116 ad) := by
  refine Met.ofW (cc := cX1_widest) (maxL := 4) (ret := (some .int)) (by decide) rfl ?_
  intro p e s m args below meth c s₁ B hml hv
  obtain ⟨rfl, hj, hK, hw⟩ := hv
  have hx := B.exec
  have hb := B.bytes
  have hr := B.returns
  have hts := atoms_spec (ws := wsX1_widest) B.pre
  have hown : s.vm.findClass RX1 = some m.cls := findClass_of_methodNamed B.named
  have hlocks := B.notSynchronized
  have lk0 : Cond.methodLink RX1 15 Lib.Math.max.name ∈ wsX1_widest := List.mem_of_getElem? (i := 1) rfl
  have lk1 : Cond.static Lib.Math.max.name ∈ wsX1_widest := List.mem_of_getElem? (i := 2) rfl
  have lk2 : Cond.initialized "java/lang/Math" ∈ wsX1_widest := List.mem_of_getElem? (i := 3) rfl
  have lk3 : Cond.code Lib.Math.max.name Lib.Math.max.code 2 (some .int) ∈ wsX1_widest := List.mem_of_getElem? (i := 4) rfl
  have hS : va_S (zA 116 ad) s.heap s.heap [] := va_S.rf
  have hA : ∀ i, i < 116 → zA 116 ad (ad i) := fun i hi => ⟨i, hi, rfl⟩
  have hl := lv_entry ([.int p0]) (n := 4) (Nat.le_of_ble_eq_true rfl)
  rw [lg_entry_eq]
  generalize (lg_sl ([.int p0]) ++ List.replicate (4 - (lg_sl ([.int p0])).length) Slot.unset).toArray = ls at hl ⊢
  have hl : lv_has ls 4 [(0, .int p0)] := hl
  show W p l e ({ frames := 1, cells := 0, slots := 0, locals := 21 } : Room) s m ([.int p0] : List Value).toArray below meth c s.heap [] 0 0 (MQ below (va_Qi Q (zB D 116 (zce cy ad) ad) (zA 116 ad)) ([.int p0] : List Value).toArray s 0 0 (zA 116 ad)) (F0 m 0 ls [])
  unfold wp_X1_widest at h
  refine lv_iconst (v := (jI 0)) hx hb dX1_widest_0 rfl ?_
  refine lv_istore_n (lv' := [(1, .int (jI 0)), (0, .int p0)]) hx hb dX1_widest_1 rfl hl (by decide) rfl (fun ls hl => ?_)
  refine lv_iconst (v := (jI 0)) hx hb dX1_widest_2 rfl ?_
  refine lv_istore_n (lv' := [(2, .int (jI 0)), (1, .int (jI 0)), (0, .int p0)]) hx hb dX1_widest_3 rfl hl (by decide) rfl (fun ls hl => ?_)
  refine lv_iconst (v := (jI 0)) hx hb dX1_widest_4 rfl ?_
  refine lv_istore_n (lv' := [(3, .int (jI 0)), (2, .int (jI 0)), (1, .int (jI 0)), (0, .int p0)]) hx hb dX1_widest_5 rfl hl (by decide) rfl (fun ls hl => ?_)
  have k40_6 : ∀ (u_40 : ST) (z1_40 : Int32) (H : Heap) (locs : List Loc), Q z1_40 u_40 → zW D 116 (zce cy ad u_40) ad H → va_S (zA 116 ad) s.heap H locs → ∀ ls : Array Slot, lv_has ls 4 [(1, .int z1_40)] → W p l e ({ frames := 1, cells := 0, slots := 0, locals := 21 } : Room) s m ([.int p0] : List Value).toArray below meth c H locs 0 0 (MQ below (va_Qi Q (zB D 116 (zce cy ad) ad) (zA 116 ad)) ([.int p0] : List Value).toArray s 0 0 (zA 116 ad)) (F0 m 40 ls []) := by
    intro u_40 z1_40 H locs h hw hS ls hl
    refine lv_iload_n hx hb dX1_widest_40 rfl (lv_at hl 0 rfl) ?_
    exact W.iret (v := z1_40) hx hb hr (fun t ht hW => ⟨⟨_, _, rfl, h, zend hw ht⟩, hS.F ht⟩) hS.2.2 dX1_widest_41
  have lp6 : ∀ (nn6 : Nat) (t_6 : ST) (y1_6 : Int32) (y2_6 : Int32) (y3_6 : Int32) (H : Heap) (locs : List Loc), wl_X1_widest_6 (fun u_40 z1_40 => Q z1_40 u_40) p0 nn6 t_6 y1_6 y2_6 y3_6 → zW D 116 (zce cy ad t_6) ad H → va_S (zA 116 ad) s.heap H locs → ∀ ls : Array Slot, lv_has ls 4 [(0, .int p0), (1, .int y1_6), (2, .int y2_6), (3, .int y3_6)] → W p l e ({ frames := 1, cells := 0, slots := 0, locals := 21 } : Room) s m ([.int p0] : List Value).toArray below meth c H locs 0 0 (MQ below (va_Qi Q (zB D 116 (zce cy ad) ad) (zA 116 ad)) ([.int p0] : List Value).toArray s 0 0 (zA 116 ad)) (F0 m 6 ls []) := by
    intro nn6
    induction nn6 with
    | zero => intro _ _ _ _ _ _ h; exact h.elim
    | succ nn6 ih6 =>
      intro t_6 y1_6 y2_6 y3_6 H locs h hw hS ls hl
      simp only [wl_X1_widest_6, wb_X1_widest_6] at h
      refine lv_iload_n hx hb dX1_widest_6 rfl (lv_at hl 3 rfl) ?_
      refine lv_bipush (v := (jI 24)) hx hb dX1_widest_7 (by decide +kernel) ?_
      refine lv_icmp_ge (tgt := 40) hx hb dX1_widest_9 (by decide) (fun c1 => ?_) (fun c1 => ?_)
      · have h := h.1 c1
        exact k40_6 _ _ _ _ h hw hS _ (lv_sub hl [1] rfl)
      · have h := h.2 c1
        refine lv_iload_n hx hb dX1_widest_12 rfl (lv_at hl 0 rfl) ?_
        refine lv_iload_n hx hb dX1_widest_13 rfl (lv_at hl 3 rfl) ?_
        refine k_X1_isFree (rest := []) hx hb hml hown hts gX1_widest_X1_isFree ⟨Nat.le_of_ble_eq_true rfl, Nat.le_of_ble_eq_true rfl⟩ ⟨Nat.zero_le _, Nat.zero_le _⟩ hK hj hw hA hS hl.1 (Nat.le_of_ble_eq_true rfl) dX1_widest_14 h (fun r1 s1 H locs h hw hS => ?_)
        refine zif_eq (tgt := 26) hx hb dX1_widest_17 (by decide) (fun c2 => ?_) (fun c2 => ?_)
        · have h := h.1 c2
          refine lv_iconst (v := (jI 0)) hx hb dX1_widest_26 rfl ?_
          refine lv_istore_n (lv' := [(2, .int (jI 0)), (0, .int p0), (1, .int y1_6), (3, .int y3_6)]) hx hb dX1_widest_27 rfl hl (by decide) rfl (fun ls hl => ?_)
          refine lv_iload_n hx hb dX1_widest_28 rfl (lv_at hl 2 rfl) ?_
          refine lv_iload_n hx hb dX1_widest_29 rfl (lv_at hl 0 rfl) ?_
          refine va_mmax hx hb (by rw [hml]; exact hl.1.symm) hown (hts _ lk0) (hts _ lk1) (hts _ lk2) (hts _ lk3) (Nat.le_of_ble_eq_true rfl) (Nat.le_of_ble_eq_true rfl) (Nat.zero_le _) (Nat.zero_le _) dX1_widest_30 ?_
          refine lv_topi (fun x1 ex1 => ?_)
          have h := h x1 ex1
          refine lv_istore_n (lv' := [(1, .int x1), (2, .int (jI 0)), (0, .int p0), (3, .int y3_6)]) hx hb dX1_widest_33 rfl hl (by decide) rfl (fun ls hl => ?_)
          obtain ⟨x2, ex2⟩ : ∃ y : Int32, y = y3_6 + (jI 1) := ⟨_, rfl⟩
          have h := h x2 ex2
          refine lv_iinc (v := x2) (lv' := [(3, .int x2), (1, .int x1), (2, .int (jI 0)), (0, .int p0)]) hx hb dX1_widest_34 hl (k := 3) rfl (by rw [ex2]; rfl) (by decide) rfl (fun ls hl => ?_)
          refine lv_goto (tgt := 6) hx hb dX1_widest_37 (by decide) ?_
          exact ih6 _ _ _ _ _ _ h hw hS _ (lv_sub hl [3, 1, 2, 0] rfl)
        · have h := h.2 c2
          refine lv_iload_n hx hb dX1_widest_20 rfl (lv_at hl 2 rfl) ?_
          refine lv_iconst (v := (jI 1)) hx hb dX1_widest_21 rfl ?_
          refine lv_iadd hx hb dX1_widest_22 ?_
          refine lv_goto (tgt := 27) hx hb dX1_widest_23 (by decide) ?_
          refine lv_topi (fun x3 ex3 => ?_)
          have h := h x3 ex3
          refine lv_istore_n (lv' := [(2, .int x3), (0, .int p0), (1, .int y1_6), (3, .int y3_6)]) hx hb dX1_widest_27 rfl hl (by decide) rfl (fun ls hl => ?_)
          refine lv_iload_n hx hb dX1_widest_28 rfl (lv_at hl 2 rfl) ?_
          refine lv_iload_n hx hb dX1_widest_29 rfl (lv_at hl 0 rfl) ?_
          refine va_mmax hx hb (by rw [hml]; exact hl.1.symm) hown (hts _ lk0) (hts _ lk1) (hts _ lk2) (hts _ lk3) (Nat.le_of_ble_eq_true rfl) (Nat.le_of_ble_eq_true rfl) (Nat.zero_le _) (Nat.zero_le _) dX1_widest_30 ?_
          refine lv_topi (fun x4 ex4 => ?_)
          have h := h x4 ex4
          refine lv_istore_n (lv' := [(1, .int x4), (2, .int x3), (0, .int p0), (3, .int y3_6)]) hx hb dX1_widest_33 rfl hl (by decide) rfl (fun ls hl => ?_)
          obtain ⟨x5, ex5⟩ : ∃ y : Int32, y = y3_6 + (jI 1) := ⟨_, rfl⟩
          have h := h x5 ex5
          refine lv_iinc (v := x5) (lv' := [(3, .int x5), (1, .int x4), (2, .int x3), (0, .int p0)]) hx hb dX1_widest_34 hl (k := 3) rfl (by rw [ex5]; rfl) (by decide) rfl (fun ls hl => ?_)
          refine lv_goto (tgt := 6) hx hb dX1_widest_37 (by decide) ?_
          exact ih6 _ _ _ _ _ _ h hw hS _ (lv_sub hl [3, 1, 2, 0] rfl)
  obtain ⟨nn6, h⟩ := h
  exact lp6 nn6 _ _ _ _ _ _ h hw hS _ (lv_sub hl [3, 2, 1, 0] rfl)
theorem k_X1_widest {p : Program} {l : Launch} {e : Env} {R : Room} {s : State} {m : MethodId} {args : Array Value} {below : List Frame} {meth : Method} {c : Code} {H : Heap} {locs : List Loc} {cells slots : Nat} {QQ : State → Prop} {cc : ByteArray} {pc nL index : Nat} {ls : Array Slot} {rest : List Value} {D : va_G} {cy : cyT} {ad : Nat → Nat} {own : String} {Ts : List Cond} {H0 : Heap} {σ : ST} {p0 : Int32} {Q : Int32 → ST → Prop} (hx : p.tables.exec = Jvm.exec) (hb : c.code = cc) (hml : c.maxLocals = nL) (hown : s.vm.findClass own = some m.cls) (hts : ∀ w ∈ Ts, w.before args s = true) (hG : GoodIn Ts (va_wsS own index yX1_widest wsX1_widest)) (hR : 1 + 1 ≤ R.frames ∧ 8 + (4 + 11) + 21 ≤ R.locals) (hcs : cells ≤ R.cells ∧ slots ≤ R.slots) (hK : zK D cy s) (hj : zI 116 ad) (hw : zW D 116 (zce cy ad σ) ad H) {A0 : Nat → Prop} (hA : ∀ i, i < 116 → A0 (ad i)) (hS : va_S A0 H0 H locs) (hsz : ls.size = nL) (hrest : (rest.map fun v => v.category).sum ≤ 8) (hdg : decode cc pc = .ok (.invokestatic index, 3)) (h : wp_X1_widest σ p0 Q) (kk : ∀ (r : Int32) (σ : ST) (H : Heap) (locs : List Loc), Q r σ → zW D 116 (zce cy ad σ) ad H → va_S A0 H0 H locs → W p l e R s m args below meth c H locs cells slots QQ (F0 m (pc + 3) ls (.int r :: rest))) : W p l e R s m args below meth c H locs cells slots QQ (F0 m pc ls (.int p0 :: rest)) :=
  zcalli (va_runS (As := [.int p0]) (rest := rest) ⟨hx, hb, hml, hown, hts⟩ (c_X1_widest l D cy ad σ p0 h) (va_cwS 1 hts hG rfl rfl rfl (by decide +kernel) hR) (zpreS hj hK hw _) rfl rfl hsz rfl (lv_room hrest) hdg hcs) hA hS kk
set_option maxHeartbeats 4000000 in
set_option maxRecDepth 100000 in
theorem c_X1_leftmost (l : Launch) (D : va_G) (cy : cyT) (ad : Nat → Nat) (σ : ST) (p0 : Int32) (p1 : Int32) {Q : Int32 → ST → Prop} (h : wp_X1_leftmost σ p0 p1 Q) : Met l yX1_leftmost wsX1_leftmost ({ frames := 1, cells := 0, slots := 0, locals := 21 } : Room) (zPre D cy 116 (zce cy ad σ) ad [.int p0, .int p1]) (va_Qi Q (zB D 116 (zce cy ad) ad) (zA 116 ad)) 0 0 (zA 116 ad) := by
  refine Met.ofW (cc := cX1_leftmost) (maxL := 4) (ret := (some .int)) (by decide) rfl ?_
  intro p e s m args below meth c s₁ B hml hv
  obtain ⟨rfl, hj, hK, hw⟩ := hv
  have hx := B.exec
  have hb := B.bytes
  have hr := B.returns
  have hts := atoms_spec (ws := wsX1_leftmost) B.pre
  have hown : s.vm.findClass RX1 = some m.cls := findClass_of_methodNamed B.named
  have hlocks := B.notSynchronized
  have hS : va_S (zA 116 ad) s.heap s.heap [] := va_S.rf
  have hA : ∀ i, i < 116 → zA 116 ad (ad i) := fun i hi => ⟨i, hi, rfl⟩
  have hl := lv_entry ([.int p0, .int p1]) (n := 4) (Nat.le_of_ble_eq_true rfl)
  rw [lg_entry_eq]
  generalize (lg_sl ([.int p0, .int p1]) ++ List.replicate (4 - (lg_sl ([.int p0, .int p1])).length) Slot.unset).toArray = ls at hl ⊢
  have hl : lv_has ls 4 [(0, .int p0), (1, .int p1)] := hl
  show W p l e ({ frames := 1, cells := 0, slots := 0, locals := 21 } : Room) s m ([.int p0, .int p1] : List Value).toArray below meth c s.heap [] 0 0 (MQ below (va_Qi Q (zB D 116 (zce cy ad) ad) (zA 116 ad)) ([.int p0, .int p1] : List Value).toArray s 0 0 (zA 116 ad)) (F0 m 0 ls [])
  unfold wp_X1_leftmost at h
  refine lv_iconst (v := (jI 0)) hx hb dX1_leftmost_0 rfl ?_
  refine lv_istore_n (lv' := [(2, .int (jI 0)), (0, .int p0), (1, .int p1)]) hx hb dX1_leftmost_1 rfl hl (by decide) rfl (fun ls hl => ?_)
  refine lv_iconst (v := (jI 0)) hx hb dX1_leftmost_2 rfl ?_
  refine lv_istore_n (lv' := [(3, .int (jI 0)), (2, .int (jI 0)), (0, .int p0), (1, .int p1)]) hx hb dX1_leftmost_3 rfl hl (by decide) rfl (fun ls hl => ?_)
  have k31_4 : ∀ (u_31 : ST) (z2_31 : Int32) (z3_31 : Int32) (H : Heap) (locs : List Loc), Q ((z3_31 - z2_31) + (jI 1)) u_31 → zW D 116 (zce cy ad u_31) ad H → va_S (zA 116 ad) s.heap H locs → ∀ ls : Array Slot, lv_has ls 4 [(2, .int z2_31), (3, .int z3_31)] → W p l e ({ frames := 1, cells := 0, slots := 0, locals := 21 } : Room) s m ([.int p0, .int p1] : List Value).toArray below meth c H locs 0 0 (MQ below (va_Qi Q (zB D 116 (zce cy ad) ad) (zA 116 ad)) ([.int p0, .int p1] : List Value).toArray s 0 0 (zA 116 ad)) (F0 m 31 ls []) := by
    intro u_31 z2_31 z3_31 H locs h hw hS ls hl
    refine lv_iload_n hx hb dX1_leftmost_31 rfl (lv_at hl 1 rfl) ?_
    refine lv_iload_n hx hb dX1_leftmost_32 rfl (lv_at hl 0 rfl) ?_
    refine lv_isub hx hb dX1_leftmost_33 ?_
    refine lv_iconst (v := (jI 1)) hx hb dX1_leftmost_34 rfl ?_
    refine lv_iadd hx hb dX1_leftmost_35 ?_
    exact W.iret (v := ((z3_31 - z2_31) + (jI 1))) hx hb hr (fun t ht hW => ⟨⟨_, _, rfl, h, zend hw ht⟩, hS.F ht⟩) hS.2.2 dX1_leftmost_36
  have k43_4 : ∀ (u_43 : ST) (H : Heap) (locs : List Loc), Q (jI (-1)) u_43 → zW D 116 (zce cy ad u_43) ad H → va_S (zA 116 ad) s.heap H locs → ∀ ls : Array Slot, lv_has ls 4 [] → W p l e ({ frames := 1, cells := 0, slots := 0, locals := 21 } : Room) s m ([.int p0, .int p1] : List Value).toArray below meth c H locs 0 0 (MQ below (va_Qi Q (zB D 116 (zce cy ad) ad) (zA 116 ad)) ([.int p0, .int p1] : List Value).toArray s 0 0 (zA 116 ad)) (F0 m 43 ls []) := by
    intro u_43 H locs h hw hS ls hl
    refine lv_iconst (v := (jI (-1))) hx hb dX1_leftmost_43 rfl ?_
    exact W.iret (v := (jI (-1))) hx hb hr (fun t ht hW => ⟨⟨_, _, rfl, h, zend hw ht⟩, hS.F ht⟩) hS.2.2 dX1_leftmost_44
  have lp4 : ∀ (nn4 : Nat) (t_4 : ST) (y2_4 : Int32) (y3_4 : Int32) (H : Heap) (locs : List Loc), wl_X1_leftmost_4 (fun u_31 z2_31 z3_31 => Q ((z3_31 - z2_31) + (jI 1)) u_31) (fun u_43 => Q (jI (-1)) u_43) p0 p1 nn4 t_4 y2_4 y3_4 → zW D 116 (zce cy ad t_4) ad H → va_S (zA 116 ad) s.heap H locs → ∀ ls : Array Slot, lv_has ls 4 [(0, .int p0), (1, .int p1), (2, .int y2_4), (3, .int y3_4)] → W p l e ({ frames := 1, cells := 0, slots := 0, locals := 21 } : Room) s m ([.int p0, .int p1] : List Value).toArray below meth c H locs 0 0 (MQ below (va_Qi Q (zB D 116 (zce cy ad) ad) (zA 116 ad)) ([.int p0, .int p1] : List Value).toArray s 0 0 (zA 116 ad)) (F0 m 4 ls []) := by
    intro nn4
    induction nn4 with
    | zero => intro _ _ _ _ _ h; exact h.elim
    | succ nn4 ih4 =>
      intro t_4 y2_4 y3_4 H locs h hw hS ls hl
      simp only [wl_X1_leftmost_4, wb_X1_leftmost_4] at h
      refine lv_iload_n hx hb dX1_leftmost_4 rfl (lv_at hl 3 rfl) ?_
      refine lv_bipush (v := (jI 24)) hx hb dX1_leftmost_5 (by decide +kernel) ?_
      refine lv_icmp_ge (tgt := 43) hx hb dX1_leftmost_7 (by decide) (fun c1 => ?_) (fun c1 => ?_)
      · have h := h.1 c1
        exact k43_4 _ _ _ h hw hS _ (lv_sub hl [] rfl)
      · have h := h.2 c1
        refine lv_iload_n hx hb dX1_leftmost_10 rfl (lv_at hl 0 rfl) ?_
        refine lv_iload_n hx hb dX1_leftmost_11 rfl (lv_at hl 3 rfl) ?_
        refine k_X1_isFree (rest := []) hx hb hml hown hts gX1_leftmost_X1_isFree ⟨Nat.le_of_ble_eq_true rfl, Nat.le_of_ble_eq_true rfl⟩ ⟨Nat.zero_le _, Nat.zero_le _⟩ hK hj hw hA hS hl.1 (Nat.le_of_ble_eq_true rfl) dX1_leftmost_12 h (fun r1 s1 H locs h hw hS => ?_)
        refine zif_eq (tgt := 24) hx hb dX1_leftmost_15 (by decide) (fun c2 => ?_) (fun c2 => ?_)
        · have h := h.1 c2
          refine lv_iconst (v := (jI 0)) hx hb dX1_leftmost_24 rfl ?_
          refine lv_istore_n (lv' := [(2, .int (jI 0)), (0, .int p0), (1, .int p1), (3, .int y3_4)]) hx hb dX1_leftmost_25 rfl hl (by decide) rfl (fun ls hl => ?_)
          refine lv_iload_n hx hb dX1_leftmost_26 rfl (lv_at hl 0 rfl) ?_
          refine lv_iload_n hx hb dX1_leftmost_27 rfl (lv_at hl 2 rfl) ?_
          refine lv_icmp_lt (tgt := 37) hx hb dX1_leftmost_28 (by decide) (fun c3 => ?_) (fun c3 => ?_)
          · have h := h.1 c3
            obtain ⟨x1, ex1⟩ : ∃ y : Int32, y = y3_4 + (jI 1) := ⟨_, rfl⟩
            have h := h x1 ex1
            refine lv_iinc (v := x1) (lv' := [(3, .int x1), (2, .int (jI 0)), (0, .int p0), (1, .int p1)]) hx hb dX1_leftmost_37 hl (k := 3) rfl (by rw [ex1]; rfl) (by decide) rfl (fun ls hl => ?_)
            refine lv_goto (tgt := 4) hx hb dX1_leftmost_40 (by decide) ?_
            exact ih4 _ _ _ _ _ h hw hS _ (lv_sub hl [2, 3, 1, 0] rfl)
          · have h := h.2 c3
            exact k31_4 _ _ _ _ _ h hw hS _ (lv_sub hl [0, 3] rfl)
        · have h := h.2 c2
          refine lv_iload_n hx hb dX1_leftmost_18 rfl (lv_at hl 2 rfl) ?_
          refine lv_iconst (v := (jI 1)) hx hb dX1_leftmost_19 rfl ?_
          refine lv_iadd hx hb dX1_leftmost_20 ?_
          refine lv_goto (tgt := 25) hx hb dX1_leftmost_21 (by decide) ?_
          refine lv_topi (fun x2 ex2 => ?_)
          have h := h x2 ex2
          refine lv_istore_n (lv' := [(2, .int x2), (0, .int p0), (1, .int p1), (3, .int y3_4)]) hx hb dX1_leftmost_25 rfl hl (by decide) rfl (fun ls hl => ?_)
          refine lv_iload_n hx hb dX1_leftmost_26 rfl (lv_at hl 0 rfl) ?_
          refine lv_iload_n hx hb dX1_leftmost_27 rfl (lv_at hl 2 rfl) ?_
          refine lv_icmp_lt (tgt := 37) hx hb dX1_leftmost_28 (by decide) (fun c4 => ?_) (fun c4 => ?_)
          · have h := h.1 c4
            obtain ⟨x3, ex3⟩ : ∃ y : Int32, y = y3_4 + (jI 1) := ⟨_, rfl⟩
            have h := h x3 ex3
            refine lv_iinc (v := x3) (lv' := [(3, .int x3), (2, .int x2), (0, .int p0), (1, .int p1)]) hx hb dX1_leftmost_37 hl (k := 3) rfl (by rw [ex3]; rfl) (by decide) rfl (fun ls hl => ?_)
            refine lv_goto (tgt := 4) hx hb dX1_leftmost_40 (by decide) ?_
            exact ih4 _ _ _ _ _ h hw hS _ (lv_sub hl [2, 3, 1, 0] rfl)
          · have h := h.2 c4
            exact k31_4 _ _ _ _ _ h hw hS _ (lv_sub hl [0, 3] rfl)
  obtain ⟨nn4, h⟩ := h
  exact lp4 nn4 _ _ _ _ _ h hw hS _ (lv_sub hl [2, 3, 1, 0] rfl)
theorem k_X1_leftmost {p : Program} {l : Launch} {e : Env} {R : Room} {s : State} {m : MethodId} {args : Array Value} {below : List Frame} {meth : Method} {c : Code} {H : Heap} {locs : List Loc} {cells slots : Nat} {QQ : State → Prop} {cc : ByteArray} {pc nL index : Nat} {ls : Array Slot} {rest : List Value} {D : va_G} {cy : cyT} {ad : Nat → Nat} {own : String} {Ts : List Cond} {H0 : Heap} {σ : ST} {p0 : Int32} {p1 : Int32} {Q : Int32 → ST → Prop} (hx : p.tables.exec = Jvm.exec) (hb : c.code = cc) (hml : c.maxLocals = nL) (hown : s.vm.findClass own = some m.cls) (hts : ∀ w ∈ Ts, w.before args s = true) (hG : GoodIn Ts (va_wsS own index yX1_leftmost wsX1_leftmost)) (hR : 1 + 1 ≤ R.frames ∧ 8 + (4 + 11) + 21 ≤ R.locals) (hcs : cells ≤ R.cells ∧ slots ≤ R.slots) (hK : zK D cy s) (hj : zI 116 ad) (hw : zW D 116 (zce cy ad σ) ad H) {A0 : Nat → Prop} (hA : ∀ i, i < 116 → A0 (ad i)) (hS : va_S A0 H0 H locs) (hsz : ls.size = nL) (hrest : (rest.map fun v => v.category).sum ≤ 8) (hdg : decode cc pc = .ok (.invokestatic index, 3)) (h : wp_X1_leftmost σ p0 p1 Q) (kk : ∀ (r : Int32) (σ : ST) (H : Heap) (locs : List Loc), Q r σ → zW D 116 (zce cy ad σ) ad H → va_S A0 H0 H locs → W p l e R s m args below meth c H locs cells slots QQ (F0 m (pc + 3) ls (.int r :: rest))) : W p l e R s m args below meth c H locs cells slots QQ (F0 m pc ls (.int p1 :: .int p0 :: rest)) :=
  zcalli (va_runS (As := [.int p0, .int p1]) (rest := rest) ⟨hx, hb, hml, hown, hts⟩ (c_X1_leftmost l D cy ad σ p0 p1 h) (va_cwS 2 hts hG rfl rfl rfl (by decide +kernel) hR) (zpreS hj hK hw _) rfl rfl hsz rfl (lv_room hrest) hdg hcs) hA hS kk
set_option maxHeartbeats 4000000 in
set_option maxRecDepth 100000 in
theorem c_X2_choose (l : Launch) (D : va_G) (cy : cyT) (ad : Nat → Nat) (σ : ST) (p0 : Int32) (p1 : Int32) (p2 : Int32) {Q : ST → Prop} (h : wp_X2_choose σ p0 p1 p2 Q) : Met l yX2_choose wsX2_choose ({ frames := 0, cells := 0, slots := 0, locals := 0 } : Room) (zPre D cy 116 (zce cy ad σ) ad [.ref (ad 4), .int p0, .int p1, .int p2]) (va_Qv Q (zB D 116 (zce cy ad) ad) (zA 116 ad)) 0 0 (zA 116 ad) := by
  refine Met.ofW (cc := cX2_choose) (maxL := 4) (ret := none) (by decide) rfl ?_
  intro p e s m args below meth c s₁ B hml hv
  obtain ⟨rfl, hj, hK, hw⟩ := hv
  have hx := B.exec
  have hb := B.bytes
  have hr := B.returns
  have hts := atoms_spec (ws := wsX2_choose) B.pre
  have hown : s.vm.findClass RX2 = some m.cls := findClass_of_methodNamed B.named
  have hlocks := B.notSynchronized
  have lk0 : Cond.fieldLink RX2 9 "TypeTrays$Place" "rule" "I" ∈ wsX2_choose := List.mem_of_getElem? (i := 1) rfl
  have lk1 : Cond.fieldLink RX2 15 "TypeTrays$Place" "slot" "I" ∈ wsX2_choose := List.mem_of_getElem? (i := 2) rfl
  have lk2 : Cond.fieldLink RX2 18 "TypeTrays$Place" "left" "I" ∈ wsX2_choose := List.mem_of_getElem? (i := 3) rfl
  have inX2 : ∀ w ∈ u_ws RX2 TX2 5, w ∈ wsX2_choose := zin_at 4 rfl
  have hS : va_S (zA 116 ad) s.heap s.heap [] := va_S.rf
  have hA : ∀ i, i < 116 → zA 116 ad (ad i) := fun i hi => ⟨i, hi, rfl⟩
  have hl := lv_entry ([.ref (ad 4), .int p0, .int p1, .int p2]) (n := 4) (Nat.le_of_ble_eq_true rfl)
  rw [lg_entry_eq]
  generalize (lg_sl ([.ref (ad 4), .int p0, .int p1, .int p2]) ++ List.replicate (4 - (lg_sl ([.ref (ad 4), .int p0, .int p1, .int p2])).length) Slot.unset).toArray = ls at hl ⊢
  have hl : lv_has ls 4 [(0, .ref (ad 4)), (1, .int p0), (2, .int p1), (3, .int p2)] := hl
  show W p l e ({ frames := 0, cells := 0, slots := 0, locals := 0 } : Room) s m ([.ref (ad 4), .int p0, .int p1, .int p2] : List Value).toArray below meth c s.heap [] 0 0 (MQ below (va_Qv Q (zB D 116 (zce cy ad) ad) (zA 116 ad)) ([.ref (ad 4), .int p0, .int p1, .int p2] : List Value).toArray s 0 0 (zA 116 ad)) (F0 m 0 ls [])
  unfold wp_X2_choose at h
  refine lv_aload_n hx hb dX2_choose_0 rfl (lv_at hl 0 rfl) ?_
  refine lv_iload_n hx hb dX2_choose_1 rfl (lv_at hl 1 rfl) ?_
  obtain ⟨s1, es1⟩ : ∃ y : ST, y = zsp σ 45 p0 := ⟨_, rfl⟩
  have h := h s1 es1
  refine zput (ty := .int) hx hb hts inX2 tyX2 tyX2_ok nmX2 hown hK hj hw hA hS 4 (by decide) rfl rfl 0 (by decide) lk0 (fun _ h9 => h9) rfl (by decide +kernel) rfl rfl (Nat.le_of_ble_eq_true rfl) dX2_choose_2 (zce cy ad s1) (by rw [es1]; rfl) (fun j hj9 => by rw [es1]; exact zsp_off_C_45 j hj9) (fun H locs hw hS => ?_)
  refine lv_aload_n hx hb dX2_choose_5 rfl (lv_at hl 0 rfl) ?_
  refine lv_iload_n hx hb dX2_choose_6 rfl (lv_at hl 2 rfl) ?_
  obtain ⟨s2, es2⟩ : ∃ y : ST, y = zsp s1 46 p1 := ⟨_, rfl⟩
  have h := h s2 es2
  refine zput (ty := .int) hx hb hts inX2 tyX2 tyX2_ok nmX2 hown hK hj hw hA hS 4 (by decide) rfl rfl 1 (by decide) lk1 (fun _ h9 => h9) rfl (by decide +kernel) rfl rfl (Nat.le_of_ble_eq_true rfl) dX2_choose_7 (zce cy ad s2) (by rw [es2]; rfl) (fun j hj9 => by rw [es2]; exact zsp_off_C_46 j hj9) (fun H locs hw hS => ?_)
  refine lv_aload_n hx hb dX2_choose_10 rfl (lv_at hl 0 rfl) ?_
  refine lv_iload_n hx hb dX2_choose_11 rfl (lv_at hl 3 rfl) ?_
  obtain ⟨s3, es3⟩ : ∃ y : ST, y = zsp s2 47 p2 := ⟨_, rfl⟩
  have h := h s3 es3
  refine zput (ty := .int) hx hb hts inX2 tyX2 tyX2_ok nmX2 hown hK hj hw hA hS 4 (by decide) rfl rfl 2 (by decide) lk2 (fun _ h9 => h9) rfl (by decide +kernel) rfl rfl (Nat.le_of_ble_eq_true rfl) dX2_choose_12 (zce cy ad s3) (by rw [es3]; rfl) (fun j hj9 => by rw [es3]; exact zsp_off_C_47 j hj9) (fun H locs hw hS => ?_)
  exact W.vret hx hb hr (fun t ht hW => ⟨⟨_, rfl, h, zend hw ht⟩, hS.F ht⟩) hS.2.2 dX2_choose_15
theorem k_X2_choose {p : Program} {l : Launch} {e : Env} {R : Room} {s : State} {m : MethodId} {args : Array Value} {below : List Frame} {meth : Method} {c : Code} {H : Heap} {locs : List Loc} {cells slots : Nat} {QQ : State → Prop} {cc : ByteArray} {pc nL index : Nat} {ls : Array Slot} {rest : List Value} {D : va_G} {cy : cyT} {ad : Nat → Nat} {own : String} {Ts : List Cond} {H0 : Heap} {σ : ST} {p0 : Int32} {p1 : Int32} {p2 : Int32} {Q : ST → Prop} (hx : p.tables.exec = Jvm.exec) (hb : c.code = cc) (hml : c.maxLocals = nL) (hown : s.vm.findClass own = some m.cls) (hts : ∀ w ∈ Ts, w.before args s = true) (hG : GoodIn Ts (wsV own index RX2 yX2_choose wsX2_choose)) (hR : 0 + 1 ≤ R.frames ∧ 8 + (4 + 11) + 0 ≤ R.locals) (hcs : cells ≤ R.cells ∧ slots ≤ R.slots) (hK : zK D cy s) (hj : zI 116 ad) (hw : zW D 116 (zce cy ad σ) ad H) {A0 : Nat → Prop} (hA : ∀ i, i < 116 → A0 (ad i)) (hS : va_S A0 H0 H locs) (hsz : ls.size = nL) (hrest : (rest.map fun v => v.category).sum ≤ 8) (hdg : decode cc pc = .ok (.invokevirtual index, 3)) (h : wp_X2_choose σ p0 p1 p2 Q) (kk : ∀ (σ : ST) (H : Heap) (locs : List Loc), Q σ → zW D 116 (zce cy ad σ) ad H → va_S A0 H0 H locs → W p l e R s m args below meth c H locs cells slots QQ (F0 m (pc + 3) ls rest)) : W p l e R s m args below meth c H locs cells slots QQ (F0 m pc ls (.int p2 :: .int p1 :: .int p0 :: .ref (ad 4) :: rest)) :=
  zcallv (va_runV (As := [.int p0, .int p1, .int p2]) (rest := rest) ⟨hx, hb, hml, hown, hts⟩ (c_X2_choose l D cy ad σ p0 p1 p2 h) (cwV 3 hts hG rfl rfl rfl (by decide +kernel) hR) (zpreV hj hK hw _ (i := 4) (ci := 1) (by decide) rfl rfl) rfl rfl hsz rfl (lv_room hrest) hdg hcs) hA hS kk
set_option maxHeartbeats 4000000 in
set_option maxRecDepth 100000 in
theorem c_X4_isThere (l : Launch) (D : va_G) (cy : cyT) (ad : Nat → Nat) (σ : ST) (p0 : Int32) {Q : Int32 → ST → Prop} (h : wp_X4_isThere σ p0 Q) : Met l yX4_isThere wsX4_isThere ({ frames := 1, cells := 0, slots := 0, locals := 21 } : Room) (zPre D cy 116 (zce cy ad σ) ad [.ref (ad 5), .int p0]) (va_Qi Q (zB D 116 (zce cy ad) ad) (zA 116 ad)) 0 0 (zA 116 ad) := by
  refine Met.ofW (cc := cX4_isThere) (maxL := 2) (ret := (some .boolean)) (by decide) rfl ?_
  intro p e s m args below meth c s₁ B hml hv
  obtain ⟨rfl, hj, hK, hw⟩ := hv
  have hx := B.exec
  have hb := B.bytes
  have hr := B.returns
  have hts := atoms_spec (ws := wsX4_isThere) B.pre
  have hown : s.vm.findClass RX4 = some m.cls := findClass_of_methodNamed B.named
  have hlocks := B.notSynchronized
  have lk0 : Cond.fieldLink RX4 26 "TypeTrays$State" "slots" "LTypeTrays$Row;" ∈ wsX4_isThere := List.mem_of_getElem? (i := 1) rfl
  have inX4 : ∀ w ∈ u_ws RX4 TX4 18, w ∈ wsX4_isThere := zin_at 8 rfl
  have hS : va_S (zA 116 ad) s.heap s.heap [] := va_S.rf
  have hA : ∀ i, i < 116 → zA 116 ad (ad i) := fun i hi => ⟨i, hi, rfl⟩
  have hl := lv_entry ([.ref (ad 5), .int p0]) (n := 2) (Nat.le_of_ble_eq_true rfl)
  rw [lg_entry_eq]
  generalize (lg_sl ([.ref (ad 5), .int p0]) ++ List.replicate (2 - (lg_sl ([.ref (ad 5), .int p0])).length) Slot.unset).toArray = ls at hl ⊢
  have hl : lv_has ls 2 [(0, .ref (ad 5)), (1, .int p0)] := hl
  show W p l e ({ frames := 1, cells := 0, slots := 0, locals := 21 } : Room) s m ([.ref (ad 5), .int p0] : List Value).toArray below meth c s.heap [] 0 0 (MQ below (va_Qi Q (zB D 116 (zce cy ad) ad) (zA 116 ad)) ([.ref (ad 5), .int p0] : List Value).toArray s 0 0 (zA 116 ad)) (F0 m 0 ls [])
  unfold wp_X4_isThere at h
  refine lv_aload_n hx hb dX4_isThere_0 rfl (lv_at hl 0 rfl) ?_
  refine zget hx hb hts inX4 hown hK hw 5 (by decide) rfl rfl 3 (by decide) lk0 (fun _ h9 => h9) rfl dX4_isThere_1 ?_
  refine lv_iload_n hx hb dX4_isThere_4 rfl (lv_at hl 1 rfl) ?_
  refine zcall_get (rest := []) hx hb hml hown hts gX4_isThere_X3_get ⟨Nat.le_of_ble_eq_true rfl, Nat.le_of_ble_eq_true rfl⟩ ⟨Nat.zero_le _, Nat.zero_le _⟩ hK hj hw hA hS 3 (by decide) hl.1 (Nat.le_of_ble_eq_true rfl) dX4_isThere_5 (fun H locs hw hS => ?_)
  refine lv_topi (fun v1 ev1 => ?_)
  have h := h v1 ev1
  refine lv_bipush (v := (jI (-2))) hx hb dX4_isThere_8 (by decide +kernel) ?_
  refine lv_icmp_eq (tgt := 17) hx hb dX4_isThere_10 (by decide) (fun c1 => ?_) (fun c1 => ?_)
  · have h := h.1 c1
    refine lv_iconst (v := (jI 0)) hx hb dX4_isThere_17 rfl ?_
    exact W.zret (v := (jI 0)) (ty := .boolean) hx hb hr (by decide +kernel) (fun t ht hW => ⟨⟨_, _, rfl, h, zend hw ht⟩, hS.F ht⟩) hS.2.2 dX4_isThere_18
  · have h := h.2 c1
    refine lv_iconst (v := (jI 1)) hx hb dX4_isThere_13 rfl ?_
    refine lv_goto (tgt := 18) hx hb dX4_isThere_14 (by decide) ?_
    exact W.zret (v := (jI 1)) (ty := .boolean) hx hb hr (by decide +kernel) (fun t ht hW => ⟨⟨_, _, rfl, h, zend hw ht⟩, hS.F ht⟩) hS.2.2 dX4_isThere_18
theorem k_X4_isThere {p : Program} {l : Launch} {e : Env} {R : Room} {s : State} {m : MethodId} {args : Array Value} {below : List Frame} {meth : Method} {c : Code} {H : Heap} {locs : List Loc} {cells slots : Nat} {QQ : State → Prop} {cc : ByteArray} {pc nL index : Nat} {ls : Array Slot} {rest : List Value} {D : va_G} {cy : cyT} {ad : Nat → Nat} {own : String} {Ts : List Cond} {H0 : Heap} {σ : ST} {p0 : Int32} {Q : Int32 → ST → Prop} (hx : p.tables.exec = Jvm.exec) (hb : c.code = cc) (hml : c.maxLocals = nL) (hown : s.vm.findClass own = some m.cls) (hts : ∀ w ∈ Ts, w.before args s = true) (hG : GoodIn Ts (wsV own index RX4 yX4_isThere wsX4_isThere)) (hR : 1 + 1 ≤ R.frames ∧ 8 + (2 + 11) + 21 ≤ R.locals) (hcs : cells ≤ R.cells ∧ slots ≤ R.slots) (hK : zK D cy s) (hj : zI 116 ad) (hw : zW D 116 (zce cy ad σ) ad H) {A0 : Nat → Prop} (hA : ∀ i, i < 116 → A0 (ad i)) (hS : va_S A0 H0 H locs) (hsz : ls.size = nL) (hrest : (rest.map fun v => v.category).sum ≤ 8) (hdg : decode cc pc = .ok (.invokevirtual index, 3)) (h : wp_X4_isThere σ p0 Q) (kk : ∀ (r : Int32) (σ : ST) (H : Heap) (locs : List Loc), Q r σ → zW D 116 (zce cy ad σ) ad H → va_S A0 H0 H locs → W p l e R s m args below meth c H locs cells slots QQ (F0 m (pc + 3) ls (.int r :: rest))) : W p l e R s m args below meth c H locs cells slots QQ (F0 m pc ls (.int p0 :: .ref (ad 5) :: rest)) :=
  zcalli (va_runV (As := [.int p0]) (rest := rest) ⟨hx, hb, hml, hown, hts⟩ (c_X4_isThere l D cy ad σ p0 h) (cwV 1 hts hG rfl rfl rfl (by decide +kernel) hR) (zpreV hj hK hw _ (i := 5) (ci := 3) (by decide) rfl rfl) rfl rfl hsz rfl (lv_room hrest) hdg hcs) hA hS kk
set_option maxHeartbeats 4000000 in
set_option maxRecDepth 100000 in
theorem c_X6_signOf (l : Launch) (D : va_G) (cy : cyT) (ad : Nat → Nat) (σ : ST) (p0 : Int32) {Q : Int32 → ST → Prop} (h : wp_X6_signOf σ p0 Q) : Met l yX6_signOf wsX6_signOf ({ frames := 0, cells := 0, slots := 0, locals := 0 } : Room) (zPre D cy 116 (zce cy ad σ) ad [.int p0]) (va_Qi Q (zB D 116 (zce cy ad) ad) (zA 116 ad)) 0 0 (zA 116 ad) := by
  refine Met.ofW (cc := cX6_signOf) (maxL := 1) (ret := (some .int)) (by decide) rfl ?_
  intro p e s m args below meth c s₁ B hml hv
  obtain ⟨rfl, hj, hK, hw⟩ := hv
  have hx := B.exec
  have hb := B.bytes
  have hr := B.returns
  have hts := atoms_spec (ws := wsX6_signOf) B.pre
  have hown : s.vm.findClass RX6 = some m.cls := findClass_of_methodNamed B.named
  have hlocks := B.notSynchronized
  have hS : va_S (zA 116 ad) s.heap s.heap [] := va_S.rf
  have hA : ∀ i, i < 116 → zA 116 ad (ad i) := fun i hi => ⟨i, hi, rfl⟩
  have hl := lv_entry ([.int p0]) (n := 1) (Nat.le_of_ble_eq_true rfl)
  rw [lg_entry_eq]
  generalize (lg_sl ([.int p0]) ++ List.replicate (1 - (lg_sl ([.int p0])).length) Slot.unset).toArray = ls at hl ⊢
  have hl : lv_has ls 1 [(0, .int p0)] := hl
  show W p l e ({ frames := 0, cells := 0, slots := 0, locals := 0 } : Room) s m ([.int p0] : List Value).toArray below meth c s.heap [] 0 0 (MQ below (va_Qi Q (zB D 116 (zce cy ad) ad) (zA 116 ad)) ([.int p0] : List Value).toArray s 0 0 (zA 116 ad)) (F0 m 0 ls [])
  unfold wp_X6_signOf at h
  refine lv_iload_n hx hb dX6_signOf_0 rfl (lv_at hl 0 rfl) ?_
  refine lv_bipush (v := (jI 9)) hx hb dX6_signOf_1 (by decide +kernel) ?_
  refine lv_idiv hx hb dX6_signOf_3 (by decide +kernel) ?_
  exact W.iret (v := (p0 / (jI 9))) hx hb hr (fun t ht hW => ⟨⟨_, _, rfl, h, zend hw ht⟩, hS.F ht⟩) hS.2.2 dX6_signOf_4
theorem k_X6_signOf {p : Program} {l : Launch} {e : Env} {R : Room} {s : State} {m : MethodId} {args : Array Value} {below : List Frame} {meth : Method} {c : Code} {H : Heap} {locs : List Loc} {cells slots : Nat} {QQ : State → Prop} {cc : ByteArray} {pc nL index : Nat} {ls : Array Slot} {rest : List Value} {D : va_G} {cy : cyT} {ad : Nat → Nat} {own : String} {Ts : List Cond} {H0 : Heap} {σ : ST} {p0 : Int32} {Q : Int32 → ST → Prop} (hx : p.tables.exec = Jvm.exec) (hb : c.code = cc) (hml : c.maxLocals = nL) (hown : s.vm.findClass own = some m.cls) (hts : ∀ w ∈ Ts, w.before args s = true) (hG : GoodIn Ts (va_wsS own index yX6_signOf wsX6_signOf)) (hR : 0 + 1 ≤ R.frames ∧ 8 + (1 + 11) + 0 ≤ R.locals) (hcs : cells ≤ R.cells ∧ slots ≤ R.slots) (hK : zK D cy s) (hj : zI 116 ad) (hw : zW D 116 (zce cy ad σ) ad H) {A0 : Nat → Prop} (hA : ∀ i, i < 116 → A0 (ad i)) (hS : va_S A0 H0 H locs) (hsz : ls.size = nL) (hrest : (rest.map fun v => v.category).sum ≤ 8) (hdg : decode cc pc = .ok (.invokestatic index, 3)) (h : wp_X6_signOf σ p0 Q) (kk : ∀ (r : Int32) (σ : ST) (H : Heap) (locs : List Loc), Q r σ → zW D 116 (zce cy ad σ) ad H → va_S A0 H0 H locs → W p l e R s m args below meth c H locs cells slots QQ (F0 m (pc + 3) ls (.int r :: rest))) : W p l e R s m args below meth c H locs cells slots QQ (F0 m pc ls (.int p0 :: rest)) :=
  zcalli (va_runS (As := [.int p0]) (rest := rest) ⟨hx, hb, hml, hown, hts⟩ (c_X6_signOf l D cy ad σ p0 h) (va_cwS 1 hts hG rfl rfl rfl (by decide +kernel) hR) (zpreS hj hK hw _) rfl rfl hsz rfl (lv_room hrest) hdg hcs) hA hS kk
theorem k_X6_signOf_n {p : Program} {l : Launch} {e : Env} {R : Room} {s : State} {m : MethodId} {args : Array Value} {below : List Frame} {meth : Method} {c : Code} {H : Heap} {locs : List Loc} {cells slots : Nat} {QQ : State → Prop} {cc : ByteArray} {pc nL index : Nat} {ls : Array Slot} {rest : List Value} {D : va_G} {cy : cyT} {ad : Nat → Nat} {own : String} {Ts : List Cond} {H0 : Heap} {σ : ST} {p0 : Int32} {Q : Int32 → ST → Prop} (hx : p.tables.exec = Jvm.exec) (hb : c.code = cc) (hml : c.maxLocals = nL) (hown : s.vm.findClass own = some m.cls) (hts : ∀ w ∈ Ts, w.before args s = true) (hG : GoodIn Ts wsX6_signOf) (h1 : Cond.static yX6_signOf ∈ Ts) (h2 : Cond.initialized RX6 ∈ Ts) (h3 : Cond.methodLinkNest own index yX6_signOf "TypeTrays" ∈ zNest) (hR : 0 + 1 ≤ R.frames ∧ 8 + (1 + 11) + 0 ≤ R.locals) (hcs : cells ≤ R.cells ∧ slots ≤ R.slots) (hK : zK D cy s) (hj : zI 116 ad) (hw : zW D 116 (zce cy ad σ) ad H) {A0 : Nat → Prop} (hA : ∀ i, i < 116 → A0 (ad i)) (hS : va_S A0 H0 H locs) (hsz : ls.size = nL) (hrest : (rest.map fun v => v.category).sum ≤ 8) (hdg : decode cc pc = .ok (.invokestatic index, 3)) (h : wp_X6_signOf σ p0 Q) (kk : ∀ (r : Int32) (σ : ST) (H : Heap) (locs : List Loc), Q r σ → zW D 116 (zce cy ad σ) ad H → va_S A0 H0 H locs → W p l e R s m args below meth c H locs cells slots QQ (F0 m (pc + 3) ls (.int r :: rest))) : W p l e R s m args below meth c H locs cells slots QQ (F0 m pc ls (.int p0 :: rest)) :=
  zcalli (va_runSN (As := [.int p0]) (rest := rest) ⟨hx, hb, hml, hown, hts⟩ (c_X6_signOf l D cy ad σ p0 h) ⟨va_cnB 1 hts hG rfl rfl rfl (hK.2 _ h3) (hts _ h2) (by decide +kernel) hR, hts _ h1, trivial⟩ (zpreS hj hK hw _) rfl rfl hsz rfl (lv_room hrest) hdg hcs) hA hS kk
set_option maxHeartbeats 4000000 in
set_option maxRecDepth 100000 in
theorem c_X6_sizeOf (l : Launch) (D : va_G) (cy : cyT) (ad : Nat → Nat) (σ : ST) (p0 : Int32) {Q : Int32 → ST → Prop} (h : wp_X6_sizeOf σ p0 Q) : Met l yX6_sizeOf wsX6_sizeOf ({ frames := 0, cells := 0, slots := 0, locals := 0 } : Room) (zPre D cy 116 (zce cy ad σ) ad [.int p0]) (va_Qi Q (zB D 116 (zce cy ad) ad) (zA 116 ad)) 0 0 (zA 116 ad) := by
  refine Met.ofW (cc := cX6_sizeOf) (maxL := 1) (ret := (some .int)) (by decide) rfl ?_
  intro p e s m args below meth c s₁ B hml hv
  obtain ⟨rfl, hj, hK, hw⟩ := hv
  have hx := B.exec
  have hb := B.bytes
  have hr := B.returns
  have hts := atoms_spec (ws := wsX6_sizeOf) B.pre
  have hown : s.vm.findClass RX6 = some m.cls := findClass_of_methodNamed B.named
  have hlocks := B.notSynchronized
  have hS : va_S (zA 116 ad) s.heap s.heap [] := va_S.rf
  have hA : ∀ i, i < 116 → zA 116 ad (ad i) := fun i hi => ⟨i, hi, rfl⟩
  have hl := lv_entry ([.int p0]) (n := 1) (Nat.le_of_ble_eq_true rfl)
  rw [lg_entry_eq]
  generalize (lg_sl ([.int p0]) ++ List.replicate (1 - (lg_sl ([.int p0])).length) Slot.unset).toArray = ls at hl ⊢
  have hl : lv_has ls 1 [(0, .int p0)] := hl
  show W p l e ({ frames := 0, cells := 0, slots := 0, locals := 0 } : Room) s m ([.int p0] : List Value).toArray below meth c s.heap [] 0 0 (MQ below (va_Qi Q (zB D 116 (zce cy ad) ad) (zA 116 ad)) ([.int p0] : List Value).toArray s 0 0 (zA 116 ad)) (F0 m 0 ls [])
  unfold wp_X6_sizeOf at h
  refine lv_iload_n hx hb dX6_sizeOf_0 rfl (lv_at hl 0 rfl) ?_
  refine lv_iconst (v := (jI 3)) hx hb dX6_sizeOf_1 rfl ?_
  refine lv_idiv hx hb dX6_sizeOf_2 (by decide +kernel) ?_
  refine lv_iconst (v := (jI 3)) hx hb dX6_sizeOf_3 rfl ?_
  refine lv_irem hx hb dX6_sizeOf_4 (by decide +kernel) ?_
  refine lv_iconst (v := (jI 1)) hx hb dX6_sizeOf_5 rfl ?_
  refine lv_iadd hx hb dX6_sizeOf_6 ?_
  exact W.iret (v := (((p0 / (jI 3)) - (p0 / (jI 3)) / (jI 3) * (jI 3)) + (jI 1))) hx hb hr (fun t ht hW => ⟨⟨_, _, rfl, h, zend hw ht⟩, hS.F ht⟩) hS.2.2 dX6_sizeOf_7
theorem k_X6_sizeOf {p : Program} {l : Launch} {e : Env} {R : Room} {s : State} {m : MethodId} {args : Array Value} {below : List Frame} {meth : Method} {c : Code} {H : Heap} {locs : List Loc} {cells slots : Nat} {QQ : State → Prop} {cc : ByteArray} {pc nL index : Nat} {ls : Array Slot} {rest : List Value} {D : va_G} {cy : cyT} {ad : Nat → Nat} {own : String} {Ts : List Cond} {H0 : Heap} {σ : ST} {p0 : Int32} {Q : Int32 → ST → Prop} (hx : p.tables.exec = Jvm.exec) (hb : c.code = cc) (hml : c.maxLocals = nL) (hown : s.vm.findClass own = some m.cls) (hts : ∀ w ∈ Ts, w.before args s = true) (hG : GoodIn Ts (va_wsS own index yX6_sizeOf wsX6_sizeOf)) (hR : 0 + 1 ≤ R.frames ∧ 8 + (1 + 11) + 0 ≤ R.locals) (hcs : cells ≤ R.cells ∧ slots ≤ R.slots) (hK : zK D cy s) (hj : zI 116 ad) (hw : zW D 116 (zce cy ad σ) ad H) {A0 : Nat → Prop} (hA : ∀ i, i < 116 → A0 (ad i)) (hS : va_S A0 H0 H locs) (hsz : ls.size = nL) (hrest : (rest.map fun v => v.category).sum ≤ 8) (hdg : decode cc pc = .ok (.invokestatic index, 3)) (h : wp_X6_sizeOf σ p0 Q) (kk : ∀ (r : Int32) (σ : ST) (H : Heap) (locs : List Loc), Q r σ → zW D 116 (zce cy ad σ) ad H → va_S A0 H0 H locs → W p l e R s m args below meth c H locs cells slots QQ (F0 m (pc + 3) ls (.int r :: rest))) : W p l e R s m args below meth c H locs cells slots QQ (F0 m pc ls (.int p0 :: rest)) :=
  zcalli (va_runS (As := [.int p0]) (rest := rest) ⟨hx, hb, hml, hown, hts⟩ (c_X6_sizeOf l D cy ad σ p0 h) (va_cwS 1 hts hG rfl rfl rfl (by decide +kernel) hR) (zpreS hj hK hw _) rfl rfl hsz rfl (lv_room hrest) hdg hcs) hA hS kk
theorem k_X6_sizeOf_n {p : Program} {l : Launch} {e : Env} {R : Room} {s : State} {m : MethodId} {args : Array Value} {below : List Frame} {meth : Method} {c : Code} {H : Heap} {locs : List Loc} {cells slots : Nat} {QQ : State → Prop} {cc : ByteArray} {pc nL index : Nat} {ls : Array Slot} {rest : List Value} {D : va_G} {cy : cyT} {ad : Nat → Nat} {own : String} {Ts : List Cond} {H0 : Heap} {σ : ST} {p0 : Int32} {Q : Int32 → ST → Prop} (hx : p.tables.exec = Jvm.exec) (hb : c.code = cc) (hml : c.maxLocals = nL) (hown : s.vm.findClass own = some m.cls) (hts : ∀ w ∈ Ts, w.before args s = true) (hG : GoodIn Ts wsX6_sizeOf) (h1 : Cond.static yX6_sizeOf ∈ Ts) (h2 : Cond.initialized RX6 ∈ Ts) (h3 : Cond.methodLinkNest own index yX6_sizeOf "TypeTrays" ∈ zNest) (hR : 0 + 1 ≤ R.frames ∧ 8 + (1 + 11) + 0 ≤ R.locals) (hcs : cells ≤ R.cells ∧ slots ≤ R.slots) (hK : zK D cy s) (hj : zI 116 ad) (hw : zW D 116 (zce cy ad σ) ad H) {A0 : Nat → Prop} (hA : ∀ i, i < 116 → A0 (ad i)) (hS : va_S A0 H0 H locs) (hsz : ls.size = nL) (hrest : (rest.map fun v => v.category).sum ≤ 8) (hdg : decode cc pc = .ok (.invokestatic index, 3)) (h : wp_X6_sizeOf σ p0 Q) (kk : ∀ (r : Int32) (σ : ST) (H : Heap) (locs : List Loc), Q r σ → zW D 116 (zce cy ad σ) ad H → va_S A0 H0 H locs → W p l e R s m args below meth c H locs cells slots QQ (F0 m (pc + 3) ls (.int r :: rest))) : W p l e R s m args below meth c H locs cells slots QQ (F0 m pc ls (.int p0 :: rest)) :=
  zcalli (va_runSN (As := [.int p0]) (rest := rest) ⟨hx, hb, hml, hown, hts⟩ (c_X6_sizeOf l D cy ad σ p0 h) ⟨va_cnB 1 hts hG rfl rfl rfl (hK.2 _ h3) (hts _ h2) (by decide +kernel) hR, hts _ h1, trivial⟩ (zpreS hj hK hw _) rfl rfl hsz rfl (lv_room hrest) hdg hcs) hA hS kk
set_option maxHeartbeats 4000000 in
set_option maxRecDepth 100000 in
theorem c_X6_blurOf (l : Launch) (D : va_G) (cy : cyT) (ad : Nat → Nat) (σ : ST) (p0 : Int32) {Q : Int32 → ST → Prop} (h : wp_X6_blurOf σ p0 Q) : Met l yX6_blurOf wsX6_blurOf ({ frames := 0, cells := 0, slots := 0, locals := 0 } : Room) (zPre D cy 116 (zce cy ad σ) ad [.int p0]) (va_Qi Q (zB D 116 (zce cy ad) ad) (zA 116 ad)) 0 0 (zA 116 ad) := by
  refine Met.ofW (cc := cX6_blurOf) (maxL := 1) (ret := (some .int)) (by decide) rfl ?_
  intro p e s m args below meth c s₁ B hml hv
  obtain ⟨rfl, hj, hK, hw⟩ := hv
  have hx := B.exec
  have hb := B.bytes
  have hr := B.returns
  have hts := atoms_spec (ws := wsX6_blurOf) B.pre
  have hown : s.vm.findClass RX6 = some m.cls := findClass_of_methodNamed B.named
  have hlocks := B.notSynchronized
  have hS : va_S (zA 116 ad) s.heap s.heap [] := va_S.rf
  have hA : ∀ i, i < 116 → zA 116 ad (ad i) := fun i hi => ⟨i, hi, rfl⟩
  have hl := lv_entry ([.int p0]) (n := 1) (Nat.le_of_ble_eq_true rfl)
  rw [lg_entry_eq]
  generalize (lg_sl ([.int p0]) ++ List.replicate (1 - (lg_sl ([.int p0])).length) Slot.unset).toArray = ls at hl ⊢
  have hl : lv_has ls 1 [(0, .int p0)] := hl
  show W p l e ({ frames := 0, cells := 0, slots := 0, locals := 0 } : Room) s m ([.int p0] : List Value).toArray below meth c s.heap [] 0 0 (MQ below (va_Qi Q (zB D 116 (zce cy ad) ad) (zA 116 ad)) ([.int p0] : List Value).toArray s 0 0 (zA 116 ad)) (F0 m 0 ls [])
  unfold wp_X6_blurOf at h
  refine lv_iload_n hx hb dX6_blurOf_0 rfl (lv_at hl 0 rfl) ?_
  refine lv_iconst (v := (jI 3)) hx hb dX6_blurOf_1 rfl ?_
  refine lv_irem hx hb dX6_blurOf_2 (by decide +kernel) ?_
  exact W.iret (v := (p0 - p0 / (jI 3) * (jI 3))) hx hb hr (fun t ht hW => ⟨⟨_, _, rfl, h, zend hw ht⟩, hS.F ht⟩) hS.2.2 dX6_blurOf_3
theorem k_X6_blurOf {p : Program} {l : Launch} {e : Env} {R : Room} {s : State} {m : MethodId} {args : Array Value} {below : List Frame} {meth : Method} {c : Code} {H : Heap} {locs : List Loc} {cells slots : Nat} {QQ : State → Prop} {cc : ByteArray} {pc nL index : Nat} {ls : Array Slot} {rest : List Value} {D : va_G} {cy : cyT} {ad : Nat → Nat} {own : String} {Ts : List Cond} {H0 : Heap} {σ : ST} {p0 : Int32} {Q : Int32 → ST → Prop} (hx : p.tables.exec = Jvm.exec) (hb : c.code = cc) (hml : c.maxLocals = nL) (hown : s.vm.findClass own = some m.cls) (hts : ∀ w ∈ Ts, w.before args s = true) (hG : GoodIn Ts (va_wsS own index yX6_blurOf wsX6_blurOf)) (hR : 0 + 1 ≤ R.frames ∧ 8 + (1 + 11) + 0 ≤ R.locals) (hcs : cells ≤ R.cells ∧ slots ≤ R.slots) (hK : zK D cy s) (hj : zI 116 ad) (hw : zW D 116 (zce cy ad σ) ad H) {A0 : Nat → Prop} (hA : ∀ i, i < 116 → A0 (ad i)) (hS : va_S A0 H0 H locs) (hsz : ls.size = nL) (hrest : (rest.map fun v => v.category).sum ≤ 8) (hdg : decode cc pc = .ok (.invokestatic index, 3)) (h : wp_X6_blurOf σ p0 Q) (kk : ∀ (r : Int32) (σ : ST) (H : Heap) (locs : List Loc), Q r σ → zW D 116 (zce cy ad σ) ad H → va_S A0 H0 H locs → W p l e R s m args below meth c H locs cells slots QQ (F0 m (pc + 3) ls (.int r :: rest))) : W p l e R s m args below meth c H locs cells slots QQ (F0 m pc ls (.int p0 :: rest)) :=
  zcalli (va_runS (As := [.int p0]) (rest := rest) ⟨hx, hb, hml, hown, hts⟩ (c_X6_blurOf l D cy ad σ p0 h) (va_cwS 1 hts hG rfl rfl rfl (by decide +kernel) hR) (zpreS hj hK hw _) rfl rfl hsz rfl (lv_room hrest) hdg hcs) hA hS kk
theorem k_X6_blurOf_n {p : Program} {l : Launch} {e : Env} {R : Room} {s : State} {m : MethodId} {args : Array Value} {below : List Frame} {meth : Method} {c : Code} {H : Heap} {locs : List Loc} {cells slots : Nat} {QQ : State → Prop} {cc : ByteArray} {pc nL index : Nat} {ls : Array Slot} {rest : List Value} {D : va_G} {cy : cyT} {ad : Nat → Nat} {own : String} {Ts : List Cond} {H0 : Heap} {σ : ST} {p0 : Int32} {Q : Int32 → ST → Prop} (hx : p.tables.exec = Jvm.exec) (hb : c.code = cc) (hml : c.maxLocals = nL) (hown : s.vm.findClass own = some m.cls) (hts : ∀ w ∈ Ts, w.before args s = true) (hG : GoodIn Ts wsX6_blurOf) (h1 : Cond.static yX6_blurOf ∈ Ts) (h2 : Cond.initialized RX6 ∈ Ts) (h3 : Cond.methodLinkNest own index yX6_blurOf "TypeTrays" ∈ zNest) (hR : 0 + 1 ≤ R.frames ∧ 8 + (1 + 11) + 0 ≤ R.locals) (hcs : cells ≤ R.cells ∧ slots ≤ R.slots) (hK : zK D cy s) (hj : zI 116 ad) (hw : zW D 116 (zce cy ad σ) ad H) {A0 : Nat → Prop} (hA : ∀ i, i < 116 → A0 (ad i)) (hS : va_S A0 H0 H locs) (hsz : ls.size = nL) (hrest : (rest.map fun v => v.category).sum ≤ 8) (hdg : decode cc pc = .ok (.invokestatic index, 3)) (h : wp_X6_blurOf σ p0 Q) (kk : ∀ (r : Int32) (σ : ST) (H : Heap) (locs : List Loc), Q r σ → zW D 116 (zce cy ad σ) ad H → va_S A0 H0 H locs → W p l e R s m args below meth c H locs cells slots QQ (F0 m (pc + 3) ls (.int r :: rest))) : W p l e R s m args below meth c H locs cells slots QQ (F0 m pc ls (.int p0 :: rest)) :=
  zcalli (va_runSN (As := [.int p0]) (rest := rest) ⟨hx, hb, hml, hown, hts⟩ (c_X6_blurOf l D cy ad σ p0 h) ⟨va_cnB 1 hts hG rfl rfl rfl (hK.2 _ h3) (hts _ h2) (by decide +kernel) hR, hts _ h1, trivial⟩ (zpreS hj hK hw _) rfl rfl hsz rfl (lv_room hrest) hdg hcs) hA hS kk
set_option maxHeartbeats 4000000 in
set_option maxRecDepth 100000 in
theorem c_X4_widthOf (l : Launch) (D : va_G) (cy : cyT) (ad : Nat → Nat) (σ : ST) (p0 : Int32) {Q : Int32 → ST → Prop} (h : wp_X4_widthOf σ p0 Q) : Met l yX4_widthOf wsX4_widthOf ({ frames := 1, cells := 0, slots := 0, locals := 21 } : Room) (zPre D cy 116 (zce cy ad σ) ad [.ref (ad 5), .int p0]) (va_Qi Q (zB D 116 (zce cy ad) ad) (zA 116 ad)) 0 0 (zA 116 ad) := by
  refine Met.ofW (cc := cX4_widthOf) (maxL := 2) (ret := (some .int)) (by decide) rfl ?_
  intro p e s m args below meth c s₁ B hml hv
  obtain ⟨rfl, hj, hK, hw⟩ := hv
  have hx := B.exec
  have hb := B.bytes
  have hr := B.returns
  have hts := atoms_spec (ws := wsX4_widthOf) B.pre
  have hown : s.vm.findClass RX4 = some m.cls := findClass_of_methodNamed B.named
  have hlocks := B.notSynchronized
  have lk0 : Cond.fieldLink RX4 14 "TypeTrays$State" "signWidths" "LTypeTrays$Row;" ∈ wsX4_widthOf := List.mem_of_getElem? (i := 1) rfl
  have lk1 : Cond.static yX6_signOf ∈ wsX4_widthOf := List.mem_of_getElem? (i := 2) rfl
  have lk2 : Cond.initialized RX6 ∈ wsX4_widthOf := List.mem_of_getElem? (i := 3) rfl
  have lk3 : Cond.static yX6_sizeOf ∈ wsX4_widthOf := List.mem_of_getElem? (i := 11) rfl
  have lk4 : Cond.static yX6_blurOf ∈ wsX4_widthOf := List.mem_of_getElem? (i := 13) rfl
  have inX4 : ∀ w ∈ u_ws RX4 TX4 18, w ∈ wsX4_widthOf := zin_at 15 rfl
  have hS : va_S (zA 116 ad) s.heap s.heap [] := va_S.rf
  have hA : ∀ i, i < 116 → zA 116 ad (ad i) := fun i hi => ⟨i, hi, rfl⟩
  have hl := lv_entry ([.ref (ad 5), .int p0]) (n := 2) (Nat.le_of_ble_eq_true rfl)
  rw [lg_entry_eq]
  generalize (lg_sl ([.ref (ad 5), .int p0]) ++ List.replicate (2 - (lg_sl ([.ref (ad 5), .int p0])).length) Slot.unset).toArray = ls at hl ⊢
  have hl : lv_has ls 2 [(0, .ref (ad 5)), (1, .int p0)] := hl
  show W p l e ({ frames := 1, cells := 0, slots := 0, locals := 21 } : Room) s m ([.ref (ad 5), .int p0] : List Value).toArray below meth c s.heap [] 0 0 (MQ below (va_Qi Q (zB D 116 (zce cy ad) ad) (zA 116 ad)) ([.ref (ad 5), .int p0] : List Value).toArray s 0 0 (zA 116 ad)) (F0 m 0 ls [])
  unfold wp_X4_widthOf at h
  refine lv_aload_n hx hb dX4_widthOf_0 rfl (lv_at hl 0 rfl) ?_
  refine zget hx hb hts inX4 hown hK hw 5 (by decide) rfl rfl 0 (by decide) lk0 (fun _ h9 => h9) rfl dX4_widthOf_1 ?_
  refine lv_iload_n hx hb dX4_widthOf_4 rfl (lv_at hl 1 rfl) ?_
  refine k_X6_signOf_n (rest := [.ref (ad 10)]) (own := RX4) (index := 134) hx hb hml hown hts gX4_widthOf_X6_signOf_n134 lk1 lk2 (by decide +kernel) ⟨Nat.le_of_ble_eq_true rfl, Nat.le_of_ble_eq_true rfl⟩ ⟨Nat.zero_le _, Nat.zero_le _⟩ hK hj hw hA hS hl.1 (Nat.le_of_ble_eq_true rfl) dX4_widthOf_5 h (fun r1 s1 H locs h hw hS => ?_)
  refine zcall_get (rest := []) hx hb hml hown hts gX4_widthOf_X3_get ⟨Nat.le_of_ble_eq_true rfl, Nat.le_of_ble_eq_true rfl⟩ ⟨Nat.zero_le _, Nat.zero_le _⟩ hK hj hw hA hS 0 (by decide) hl.1 (Nat.le_of_ble_eq_true rfl) dX4_widthOf_8 (fun H locs hw hS => ?_)
  refine lv_topi (fun v1 ev1 => ?_)
  have h := h v1 ev1
  refine lv_iload_n hx hb dX4_widthOf_11 rfl (lv_at hl 1 rfl) ?_
  refine k_X6_sizeOf_n (rest := [.int v1]) (own := RX4) (index := 137) hx hb hml hown hts gX4_widthOf_X6_sizeOf_n137 lk3 lk2 (by decide +kernel) ⟨Nat.le_of_ble_eq_true rfl, Nat.le_of_ble_eq_true rfl⟩ ⟨Nat.zero_le _, Nat.zero_le _⟩ hK hj hw hA hS hl.1 (Nat.le_of_ble_eq_true rfl) dX4_widthOf_12 h (fun r2 s2 H locs h hw hS => ?_)
  refine lv_imul hx hb dX4_widthOf_15 ?_
  refine lv_iconst (v := (jI 2)) hx hb dX4_widthOf_16 rfl ?_
  refine lv_iload_n hx hb dX4_widthOf_17 rfl (lv_at hl 1 rfl) ?_
  refine k_X6_blurOf_n (rest := [.int (jI 2), .int (v1 * r2)]) (own := RX4) (index := 140) hx hb hml hown hts gX4_widthOf_X6_blurOf_n140 lk4 lk2 (by decide +kernel) ⟨Nat.le_of_ble_eq_true rfl, Nat.le_of_ble_eq_true rfl⟩ ⟨Nat.zero_le _, Nat.zero_le _⟩ hK hj hw hA hS hl.1 (Nat.le_of_ble_eq_true rfl) dX4_widthOf_18 h (fun r3 s3 H locs h hw hS => ?_)
  refine lv_imul hx hb dX4_widthOf_21 ?_
  refine lv_iadd hx hb dX4_widthOf_22 ?_
  exact W.iret (v := ((v1 * r2) + ((jI 2) * r3))) hx hb hr (fun t ht hW => ⟨⟨_, _, rfl, h, zend hw ht⟩, hS.F ht⟩) hS.2.2 dX4_widthOf_23
theorem k_X4_widthOf {p : Program} {l : Launch} {e : Env} {R : Room} {s : State} {m : MethodId} {args : Array Value} {below : List Frame} {meth : Method} {c : Code} {H : Heap} {locs : List Loc} {cells slots : Nat} {QQ : State → Prop} {cc : ByteArray} {pc nL index : Nat} {ls : Array Slot} {rest : List Value} {D : va_G} {cy : cyT} {ad : Nat → Nat} {own : String} {Ts : List Cond} {H0 : Heap} {σ : ST} {p0 : Int32} {Q : Int32 → ST → Prop} (hx : p.tables.exec = Jvm.exec) (hb : c.code = cc) (hml : c.maxLocals = nL) (hown : s.vm.findClass own = some m.cls) (hts : ∀ w ∈ Ts, w.before args s = true) (hG : GoodIn Ts (wsV own index RX4 yX4_widthOf wsX4_widthOf)) (hR : 1 + 1 ≤ R.frames ∧ 8 + (2 + 11) + 21 ≤ R.locals) (hcs : cells ≤ R.cells ∧ slots ≤ R.slots) (hK : zK D cy s) (hj : zI 116 ad) (hw : zW D 116 (zce cy ad σ) ad H) {A0 : Nat → Prop} (hA : ∀ i, i < 116 → A0 (ad i)) (hS : va_S A0 H0 H locs) (hsz : ls.size = nL) (hrest : (rest.map fun v => v.category).sum ≤ 8) (hdg : decode cc pc = .ok (.invokevirtual index, 3)) (h : wp_X4_widthOf σ p0 Q) (kk : ∀ (r : Int32) (σ : ST) (H : Heap) (locs : List Loc), Q r σ → zW D 116 (zce cy ad σ) ad H → va_S A0 H0 H locs → W p l e R s m args below meth c H locs cells slots QQ (F0 m (pc + 3) ls (.int r :: rest))) : W p l e R s m args below meth c H locs cells slots QQ (F0 m pc ls (.int p0 :: .ref (ad 5) :: rest)) :=
  zcalli (va_runV (As := [.int p0]) (rest := rest) ⟨hx, hb, hml, hown, hts⟩ (c_X4_widthOf l D cy ad σ p0 h) (cwV 1 hts hG rfl rfl rfl (by decide +kernel) hR) (zpreV hj hK hw _ (i := 5) (ci := 3) (by decide) rfl rfl) rfl rfl hsz rfl (lv_room hrest) hdg hcs) hA hS kk
set_option maxHeartbeats 4000000 in
set_option maxRecDepth 100000 in
theorem c_X4_heightOf (l : Launch) (D : va_G) (cy : cyT) (ad : Nat → Nat) (σ : ST) (p0 : Int32) {Q : Int32 → ST → Prop} (h : wp_X4_heightOf σ p0 Q) : Met l yX4_heightOf wsX4_heightOf ({ frames := 1, cells := 0, slots := 0, locals := 21 } : Room) (zPre D cy 116 (zce cy ad σ) ad [.ref (ad 5), .int p0]) (va_Qi Q (zB D 116 (zce cy ad) ad) (zA 116 ad)) 0 0 (zA 116 ad) := by
  refine Met.ofW (cc := cX4_heightOf) (maxL := 2) (ret := (some .int)) (by decide) rfl ?_
  intro p e s m args below meth c s₁ B hml hv
  obtain ⟨rfl, hj, hK, hw⟩ := hv
  have hx := B.exec
  have hb := B.bytes
  have hr := B.returns
  have hts := atoms_spec (ws := wsX4_heightOf) B.pre
  have hown : s.vm.findClass RX4 = some m.cls := findClass_of_methodNamed B.named
  have hlocks := B.notSynchronized
  have lk0 : Cond.fieldLink RX4 20 "TypeTrays$State" "signHeights" "LTypeTrays$Row;" ∈ wsX4_heightOf := List.mem_of_getElem? (i := 1) rfl
  have lk1 : Cond.static yX6_signOf ∈ wsX4_heightOf := List.mem_of_getElem? (i := 2) rfl
  have lk2 : Cond.initialized RX6 ∈ wsX4_heightOf := List.mem_of_getElem? (i := 3) rfl
  have lk3 : Cond.static yX6_sizeOf ∈ wsX4_heightOf := List.mem_of_getElem? (i := 11) rfl
  have lk4 : Cond.static yX6_blurOf ∈ wsX4_heightOf := List.mem_of_getElem? (i := 13) rfl
  have inX4 : ∀ w ∈ u_ws RX4 TX4 18, w ∈ wsX4_heightOf := zin_at 15 rfl
  have hS : va_S (zA 116 ad) s.heap s.heap [] := va_S.rf
  have hA : ∀ i, i < 116 → zA 116 ad (ad i) := fun i hi => ⟨i, hi, rfl⟩
  have hl := lv_entry ([.ref (ad 5), .int p0]) (n := 2) (Nat.le_of_ble_eq_true rfl)
  rw [lg_entry_eq]
  generalize (lg_sl ([.ref (ad 5), .int p0]) ++ List.replicate (2 - (lg_sl ([.ref (ad 5), .int p0])).length) Slot.unset).toArray = ls at hl ⊢
  have hl : lv_has ls 2 [(0, .ref (ad 5)), (1, .int p0)] := hl
  show W p l e ({ frames := 1, cells := 0, slots := 0, locals := 21 } : Room) s m ([.ref (ad 5), .int p0] : List Value).toArray below meth c s.heap [] 0 0 (MQ below (va_Qi Q (zB D 116 (zce cy ad) ad) (zA 116 ad)) ([.ref (ad 5), .int p0] : List Value).toArray s 0 0 (zA 116 ad)) (F0 m 0 ls [])
  unfold wp_X4_heightOf at h
  refine lv_aload_n hx hb dX4_heightOf_0 rfl (lv_at hl 0 rfl) ?_
  refine zget hx hb hts inX4 hown hK hw 5 (by decide) rfl rfl 1 (by decide) lk0 (fun _ h9 => h9) rfl dX4_heightOf_1 ?_
  refine lv_iload_n hx hb dX4_heightOf_4 rfl (lv_at hl 1 rfl) ?_
  refine k_X6_signOf_n (rest := [.ref (ad 12)]) (own := RX4) (index := 134) hx hb hml hown hts gX4_heightOf_X6_signOf_n134 lk1 lk2 (by decide +kernel) ⟨Nat.le_of_ble_eq_true rfl, Nat.le_of_ble_eq_true rfl⟩ ⟨Nat.zero_le _, Nat.zero_le _⟩ hK hj hw hA hS hl.1 (Nat.le_of_ble_eq_true rfl) dX4_heightOf_5 h (fun r1 s1 H locs h hw hS => ?_)
  refine zcall_get (rest := []) hx hb hml hown hts gX4_heightOf_X3_get ⟨Nat.le_of_ble_eq_true rfl, Nat.le_of_ble_eq_true rfl⟩ ⟨Nat.zero_le _, Nat.zero_le _⟩ hK hj hw hA hS 1 (by decide) hl.1 (Nat.le_of_ble_eq_true rfl) dX4_heightOf_8 (fun H locs hw hS => ?_)
  refine lv_topi (fun v1 ev1 => ?_)
  have h := h v1 ev1
  refine lv_iload_n hx hb dX4_heightOf_11 rfl (lv_at hl 1 rfl) ?_
  refine k_X6_sizeOf_n (rest := [.int v1]) (own := RX4) (index := 137) hx hb hml hown hts gX4_heightOf_X6_sizeOf_n137 lk3 lk2 (by decide +kernel) ⟨Nat.le_of_ble_eq_true rfl, Nat.le_of_ble_eq_true rfl⟩ ⟨Nat.zero_le _, Nat.zero_le _⟩ hK hj hw hA hS hl.1 (Nat.le_of_ble_eq_true rfl) dX4_heightOf_12 h (fun r2 s2 H locs h hw hS => ?_)
  refine lv_imul hx hb dX4_heightOf_15 ?_
  refine lv_iconst (v := (jI 2)) hx hb dX4_heightOf_16 rfl ?_
  refine lv_iload_n hx hb dX4_heightOf_17 rfl (lv_at hl 1 rfl) ?_
  refine k_X6_blurOf_n (rest := [.int (jI 2), .int (v1 * r2)]) (own := RX4) (index := 140) hx hb hml hown hts gX4_heightOf_X6_blurOf_n140 lk4 lk2 (by decide +kernel) ⟨Nat.le_of_ble_eq_true rfl, Nat.le_of_ble_eq_true rfl⟩ ⟨Nat.zero_le _, Nat.zero_le _⟩ hK hj hw hA hS hl.1 (Nat.le_of_ble_eq_true rfl) dX4_heightOf_18 h (fun r3 s3 H locs h hw hS => ?_)
  refine lv_imul hx hb dX4_heightOf_21 ?_
  refine lv_iadd hx hb dX4_heightOf_22 ?_
  exact W.iret (v := ((v1 * r2) + ((jI 2) * r3))) hx hb hr (fun t ht hW => ⟨⟨_, _, rfl, h, zend hw ht⟩, hS.F ht⟩) hS.2.2 dX4_heightOf_23
theorem k_X4_heightOf {p : Program} {l : Launch} {e : Env} {R : Room} {s : State} {m : MethodId} {args : Array Value} {below : List Frame} {meth : Method} {c : Code} {H : Heap} {locs : List Loc} {cells slots : Nat} {QQ : State → Prop} {cc : ByteArray} {pc nL index : Nat} {ls : Array Slot} {rest : List Value} {D : va_G} {cy : cyT} {ad : Nat → Nat} {own : String} {Ts : List Cond} {H0 : Heap} {σ : ST} {p0 : Int32} {Q : Int32 → ST → Prop} (hx : p.tables.exec = Jvm.exec) (hb : c.code = cc) (hml : c.maxLocals = nL) (hown : s.vm.findClass own = some m.cls) (hts : ∀ w ∈ Ts, w.before args s = true) (hG : GoodIn Ts (wsV own index RX4 yX4_heightOf wsX4_heightOf)) (hR : 1 + 1 ≤ R.frames ∧ 8 + (2 + 11) + 21 ≤ R.locals) (hcs : cells ≤ R.cells ∧ slots ≤ R.slots) (hK : zK D cy s) (hj : zI 116 ad) (hw : zW D 116 (zce cy ad σ) ad H) {A0 : Nat → Prop} (hA : ∀ i, i < 116 → A0 (ad i)) (hS : va_S A0 H0 H locs) (hsz : ls.size = nL) (hrest : (rest.map fun v => v.category).sum ≤ 8) (hdg : decode cc pc = .ok (.invokevirtual index, 3)) (h : wp_X4_heightOf σ p0 Q) (kk : ∀ (r : Int32) (σ : ST) (H : Heap) (locs : List Loc), Q r σ → zW D 116 (zce cy ad σ) ad H → va_S A0 H0 H locs → W p l e R s m args below meth c H locs cells slots QQ (F0 m (pc + 3) ls (.int r :: rest))) : W p l e R s m args below meth c H locs cells slots QQ (F0 m pc ls (.int p0 :: .ref (ad 5) :: rest)) :=
  zcalli (va_runV (As := [.int p0]) (rest := rest) ⟨hx, hb, hml, hown, hts⟩ (c_X4_heightOf l D cy ad σ p0 h) (cwV 1 hts hG rfl rfl rfl (by decide +kernel) hR) (zpreV hj hK hw _ (i := 5) (ci := 3) (by decide) rfl rfl) rfl rfl hsz rfl (lv_room hrest) hdg hcs) hA hS kk
set_option maxHeartbeats 4000000 in
set_option maxRecDepth 100000 in
theorem c_X4_heightOfShelf (l : Launch) (D : va_G) (cy : cyT) (ad : Nat → Nat) (σ : ST) (p0 : Int32) {Q : Int32 → ST → Prop} (h : wp_X4_heightOfShelf σ p0 Q) : Met l yX4_heightOfShelf wsX4_heightOfShelf ({ frames := 1, cells := 0, slots := 0, locals := 21 } : Room) (zPre D cy 116 (zce cy ad σ) ad [.ref (ad 5), .int p0]) (va_Qi Q (zB D 116 (zce cy ad) ad) (zA 116 ad)) 0 0 (zA 116 ad) := by
  refine Met.ofW (cc := cX4_heightOfShelf) (maxL := 2) (ret := (some .int)) (by decide) rfl ?_
  intro p e s m args below meth c s₁ B hml hv
  obtain ⟨rfl, hj, hK, hw⟩ := hv
  have hx := B.exec
  have hb := B.bytes
  have hr := B.returns
  have hts := atoms_spec (ws := wsX4_heightOfShelf) B.pre
  have hown : s.vm.findClass RX4 = some m.cls := findClass_of_methodNamed B.named
  have hlocks := B.notSynchronized
  have lk0 : Cond.fieldLink RX4 23 "TypeTrays$State" "shelfHeights" "LTypeTrays$Row;" ∈ wsX4_heightOfShelf := List.mem_of_getElem? (i := 1) rfl
  have inX4 : ∀ w ∈ u_ws RX4 TX4 18, w ∈ wsX4_heightOfShelf := zin_at 8 rfl
  have hS : va_S (zA 116 ad) s.heap s.heap [] := va_S.rf
  have hA : ∀ i, i < 116 → zA 116 ad (ad i) := fun i hi => ⟨i, hi, rfl⟩
  have hl := lv_entry ([.ref (ad 5), .int p0]) (n := 2) (Nat.le_of_ble_eq_true rfl)
  rw [lg_entry_eq]
  generalize (lg_sl ([.ref (ad 5), .int p0]) ++ List.replicate (2 - (lg_sl ([.ref (ad 5), .int p0])).length) Slot.unset).toArray = ls at hl ⊢
  have hl : lv_has ls 2 [(0, .ref (ad 5)), (1, .int p0)] := hl
  show W p l e ({ frames := 1, cells := 0, slots := 0, locals := 21 } : Room) s m ([.ref (ad 5), .int p0] : List Value).toArray below meth c s.heap [] 0 0 (MQ below (va_Qi Q (zB D 116 (zce cy ad) ad) (zA 116 ad)) ([.ref (ad 5), .int p0] : List Value).toArray s 0 0 (zA 116 ad)) (F0 m 0 ls [])
  unfold wp_X4_heightOfShelf at h
  refine lv_aload_n hx hb dX4_heightOfShelf_0 rfl (lv_at hl 0 rfl) ?_
  refine zget hx hb hts inX4 hown hK hw 5 (by decide) rfl rfl 2 (by decide) lk0 (fun _ h9 => h9) rfl dX4_heightOfShelf_1 ?_
  refine lv_iload_n hx hb dX4_heightOfShelf_4 rfl (lv_at hl 1 rfl) ?_
  refine zcall_get (rest := []) hx hb hml hown hts gX4_heightOfShelf_X3_get ⟨Nat.le_of_ble_eq_true rfl, Nat.le_of_ble_eq_true rfl⟩ ⟨Nat.zero_le _, Nat.zero_le _⟩ hK hj hw hA hS 2 (by decide) hl.1 (Nat.le_of_ble_eq_true rfl) dX4_heightOfShelf_5 (fun H locs hw hS => ?_)
  refine lv_topi (fun v1 ev1 => ?_)
  have h := h v1 ev1
  exact W.iret (v := v1) hx hb hr (fun t ht hW => ⟨⟨_, _, rfl, h, zend hw ht⟩, hS.F ht⟩) hS.2.2 dX4_heightOfShelf_8
theorem k_X4_heightOfShelf {p : Program} {l : Launch} {e : Env} {R : Room} {s : State} {m : MethodId} {args : Array Value} {below : List Frame} {meth : Method} {c : Code} {H : Heap} {locs : List Loc} {cells slots : Nat} {QQ : State → Prop} {cc : ByteArray} {pc nL index : Nat} {ls : Array Slot} {rest : List Value} {D : va_G} {cy : cyT} {ad : Nat → Nat} {own : String} {Ts : List Cond} {H0 : Heap} {σ : ST} {p0 : Int32} {Q : Int32 → ST → Prop} (hx : p.tables.exec = Jvm.exec) (hb : c.code = cc) (hml : c.maxLocals = nL) (hown : s.vm.findClass own = some m.cls) (hts : ∀ w ∈ Ts, w.before args s = true) (hG : GoodIn Ts (wsV own index RX4 yX4_heightOfShelf wsX4_heightOfShelf)) (hR : 1 + 1 ≤ R.frames ∧ 8 + (2 + 11) + 21 ≤ R.locals) (hcs : cells ≤ R.cells ∧ slots ≤ R.slots) (hK : zK D cy s) (hj : zI 116 ad) (hw : zW D 116 (zce cy ad σ) ad H) {A0 : Nat → Prop} (hA : ∀ i, i < 116 → A0 (ad i)) (hS : va_S A0 H0 H locs) (hsz : ls.size = nL) (hrest : (rest.map fun v => v.category).sum ≤ 8) (hdg : decode cc pc = .ok (.invokevirtual index, 3)) (h : wp_X4_heightOfShelf σ p0 Q) (kk : ∀ (r : Int32) (σ : ST) (H : Heap) (locs : List Loc), Q r σ → zW D 116 (zce cy ad σ) ad H → va_S A0 H0 H locs → W p l e R s m args below meth c H locs cells slots QQ (F0 m (pc + 3) ls (.int r :: rest))) : W p l e R s m args below meth c H locs cells slots QQ (F0 m pc ls (.int p0 :: .ref (ad 5) :: rest)) :=
  zcalli (va_runV (As := [.int p0]) (rest := rest) ⟨hx, hb, hml, hown, hts⟩ (c_X4_heightOfShelf l D cy ad σ p0 h) (cwV 1 hts hG rfl rfl rfl (by decide +kernel) hR) (zpreV hj hK hw _ (i := 5) (ci := 3) (by decide) rfl rfl) rfl rfl hsz rfl (lv_room hrest) hdg hcs) hA hS kk
set_option maxHeartbeats 4000000 in
set_option maxRecDepth 100000 in
theorem c_X4_coverOf (l : Launch) (D : va_G) (cy : cyT) (ad : Nat → Nat) (σ : ST) (p0 : Int32) {Q : Int32 → ST → Prop} (h : wp_X4_coverOf σ p0 Q) : Met l yX4_coverOf wsX4_coverOf ({ frames := 1, cells := 0, slots := 0, locals := 21 } : Room) (zPre D cy 116 (zce cy ad σ) ad [.ref (ad 5), .int p0]) (va_Qi Q (zB D 116 (zce cy ad) ad) (zA 116 ad)) 0 0 (zA 116 ad) := by
  refine Met.ofW (cc := cX4_coverOf) (maxL := 5) (ret := (some .int)) (by decide) rfl ?_
  intro p e s m args below meth c s₁ B hml hv
  obtain ⟨rfl, hj, hK, hw⟩ := hv
  have hx := B.exec
  have hb := B.bytes
  have hr := B.returns
  have hts := atoms_spec (ws := wsX4_coverOf) B.pre
  have hown : s.vm.findClass RX4 = some m.cls := findClass_of_methodNamed B.named
  have hlocks := B.notSynchronized
  have lk0 : Cond.fieldLink RX4 47 "TypeTrays$State" "presentCount" "I" ∈ wsX4_coverOf := List.mem_of_getElem? (i := 1) rfl
  have lk1 : Cond.fieldLink RX4 44 "TypeTrays$State" "present" "LTypeTrays$Row;" ∈ wsX4_coverOf := List.mem_of_getElem? (i := 2) rfl
  have lk2 : Cond.fieldLink RX4 26 "TypeTrays$State" "slots" "LTypeTrays$Row;" ∈ wsX4_coverOf := List.mem_of_getElem? (i := 3) rfl
  have lk3 : Cond.fieldLink RX4 32 "TypeTrays$State" "rights" "LTypeTrays$Row;" ∈ wsX4_coverOf := List.mem_of_getElem? (i := 4) rfl
  have lk4 : Cond.fieldLink RX4 29 "TypeTrays$State" "lefts" "LTypeTrays$Row;" ∈ wsX4_coverOf := List.mem_of_getElem? (i := 5) rfl
  have inX4 : ∀ w ∈ u_ws RX4 TX4 18, w ∈ wsX4_coverOf := zin_at 12 rfl
  have hS : va_S (zA 116 ad) s.heap s.heap [] := va_S.rf
  have hA : ∀ i, i < 116 → zA 116 ad (ad i) := fun i hi => ⟨i, hi, rfl⟩
  have hl := lv_entry ([.ref (ad 5), .int p0]) (n := 5) (Nat.le_of_ble_eq_true rfl)
  rw [lg_entry_eq]
  generalize (lg_sl ([.ref (ad 5), .int p0]) ++ List.replicate (5 - (lg_sl ([.ref (ad 5), .int p0])).length) Slot.unset).toArray = ls at hl ⊢
  have hl : lv_has ls 5 [(0, .ref (ad 5)), (1, .int p0)] := hl
  show W p l e ({ frames := 1, cells := 0, slots := 0, locals := 21 } : Room) s m ([.ref (ad 5), .int p0] : List Value).toArray below meth c s.heap [] 0 0 (MQ below (va_Qi Q (zB D 116 (zce cy ad) ad) (zA 116 ad)) ([.ref (ad 5), .int p0] : List Value).toArray s 0 0 (zA 116 ad)) (F0 m 0 ls [])
  unfold wp_X4_coverOf at h
  refine lv_iconst (v := (jI 0)) hx hb dX4_coverOf_0 rfl ?_
  refine lv_istore_n (lv' := [(2, .int (jI 0)), (0, .ref (ad 5)), (1, .int p0)]) hx hb dX4_coverOf_1 rfl hl (by decide) rfl (fun ls hl => ?_)
  refine lv_iconst (v := (jI 0)) hx hb dX4_coverOf_2 rfl ?_
  refine lv_istore_n (lv' := [(3, .int (jI 0)), (2, .int (jI 0)), (0, .ref (ad 5)), (1, .int p0)]) hx hb dX4_coverOf_3 rfl hl (by decide) rfl (fun ls hl => ?_)
  have k67_4 : ∀ (u_67 : ST) (z2_67 : Int32) (H : Heap) (locs : List Loc), Q z2_67 u_67 → zW D 116 (zce cy ad u_67) ad H → va_S (zA 116 ad) s.heap H locs → ∀ ls : Array Slot, lv_has ls 5 [(2, .int z2_67)] → W p l e ({ frames := 1, cells := 0, slots := 0, locals := 21 } : Room) s m ([.ref (ad 5), .int p0] : List Value).toArray below meth c H locs 0 0 (MQ below (va_Qi Q (zB D 116 (zce cy ad) ad) (zA 116 ad)) ([.ref (ad 5), .int p0] : List Value).toArray s 0 0 (zA 116 ad)) (F0 m 67 ls []) := by
    intro u_67 z2_67 H locs h hw hS ls hl
    refine lv_iload_n hx hb dX4_coverOf_67 rfl (lv_at hl 0 rfl) ?_
    exact W.iret (v := z2_67) hx hb hr (fun t ht hW => ⟨⟨_, _, rfl, h, zend hw ht⟩, hS.F ht⟩) hS.2.2 dX4_coverOf_68
  have lp4 : ∀ (nn4 : Nat) (t_4 : ST) (y2_4 : Int32) (y3_4 : Int32) (H : Heap) (locs : List Loc), wl_X4_coverOf_4 (fun u_67 z2_67 => Q z2_67 u_67) p0 nn4 t_4 y2_4 y3_4 → zW D 116 (zce cy ad t_4) ad H → va_S (zA 116 ad) s.heap H locs → ∀ ls : Array Slot, lv_has ls 5 [(0, .ref (ad 5)), (1, .int p0), (2, .int y2_4), (3, .int y3_4)] → W p l e ({ frames := 1, cells := 0, slots := 0, locals := 21 } : Room) s m ([.ref (ad 5), .int p0] : List Value).toArray below meth c H locs 0 0 (MQ below (va_Qi Q (zB D 116 (zce cy ad) ad) (zA 116 ad)) ([.ref (ad 5), .int p0] : List Value).toArray s 0 0 (zA 116 ad)) (F0 m 4 ls []) := by
    intro nn4
    induction nn4 with
    | zero => intro _ _ _ _ _ h; exact h.elim
    | succ nn4 ih4 =>
      intro t_4 y2_4 y3_4 H locs h hw hS ls hl
      simp only [wl_X4_coverOf_4, wb_X4_coverOf_4] at h
      refine lv_iload_n hx hb dX4_coverOf_4 rfl (lv_at hl 3 rfl) ?_
      refine lv_aload_n hx hb dX4_coverOf_5 rfl (lv_at hl 0 rfl) ?_
      refine zget hx hb hts inX4 hown hK hw 5 (by decide) rfl rfl 10 (by decide) lk0 (fun _ h9 => h9) rfl dX4_coverOf_6 ?_
      refine lv_icmp_ge (tgt := 67) hx hb dX4_coverOf_9 (by decide) (fun c1 => ?_) (fun c1 => ?_)
      · have h := h.1 c1
        exact k67_4 _ _ _ _ h hw hS _ (lv_sub hl [2] rfl)
      · have h := h.2 c1
        refine lv_aload_n hx hb dX4_coverOf_12 rfl (lv_at hl 0 rfl) ?_
        refine zget hx hb hts inX4 hown hK hw 5 (by decide) rfl rfl 9 (by decide) lk1 (fun _ h9 => h9) rfl dX4_coverOf_13 ?_
        refine lv_iload_n hx hb dX4_coverOf_16 rfl (lv_at hl 3 rfl) ?_
        refine zcall_get (rest := []) hx hb hml hown hts gX4_coverOf_X3_get ⟨Nat.le_of_ble_eq_true rfl, Nat.le_of_ble_eq_true rfl⟩ ⟨Nat.zero_le _, Nat.zero_le _⟩ hK hj hw hA hS 9 (by decide) hl.1 (Nat.le_of_ble_eq_true rfl) dX4_coverOf_17 (fun H locs hw hS => ?_)
        refine lv_topi (fun v1 ev1 => ?_)
        have h := h v1 ev1
        refine lv_istore (lv' := [(4, .int v1), (0, .ref (ad 5)), (1, .int p0), (2, .int y2_4), (3, .int y3_4)]) hx hb dX4_coverOf_20 hl (by decide) rfl (fun ls hl => ?_)
        refine lv_aload_n hx hb dX4_coverOf_22 rfl (lv_at hl 1 rfl) ?_
        refine zget hx hb hts inX4 hown hK hw 5 (by decide) rfl rfl 3 (by decide) lk2 (fun _ h9 => h9) rfl dX4_coverOf_23 ?_
        refine lv_iload hx hb dX4_coverOf_26 (lv_at hl 0 rfl) ?_
        refine zcall_get (rest := []) hx hb hml hown hts gX4_coverOf_X3_get ⟨Nat.le_of_ble_eq_true rfl, Nat.le_of_ble_eq_true rfl⟩ ⟨Nat.zero_le _, Nat.zero_le _⟩ hK hj hw hA hS 3 (by decide) hl.1 (Nat.le_of_ble_eq_true rfl) dX4_coverOf_28 (fun H locs hw hS => ?_)
        refine lv_topi (fun v2 ev2 => ?_)
        have h := h v2 ev2
        refine lv_iload_n hx hb dX4_coverOf_31 rfl (lv_at hl 2 rfl) ?_
        refine lv_icmp_ne (tgt := 61) hx hb dX4_coverOf_32 (by decide) (fun c2 => ?_) (fun c2 => ?_)
        · have h := h.2 c2
          obtain ⟨x1, ex1⟩ : ∃ y : Int32, y = y3_4 + (jI 1) := ⟨_, rfl⟩
          have h := h x1 ex1
          refine lv_iinc (v := x1) (lv' := [(3, .int x1), (4, .int v1), (0, .ref (ad 5)), (1, .int p0), (2, .int y2_4)]) hx hb dX4_coverOf_61 hl (k := 4) rfl (by rw [ex1]; rfl) (by decide) rfl (fun ls hl => ?_)
          refine lv_goto (tgt := 4) hx hb dX4_coverOf_64 (by decide) ?_
          exact ih4 _ _ _ _ _ h hw hS _ (lv_sub hl [2, 3, 4, 0] rfl)
        · have h := h.1 c2
          refine lv_iload_n hx hb dX4_coverOf_35 rfl (lv_at hl 3 rfl) ?_
          refine lv_iconst (v := (jI 1)) hx hb dX4_coverOf_36 rfl ?_
          refine lv_aload_n hx hb dX4_coverOf_37 rfl (lv_at hl 1 rfl) ?_
          refine zget hx hb hts inX4 hown hK hw 5 (by decide) rfl rfl 5 (by decide) lk3 (fun _ h9 => h9) rfl dX4_coverOf_38 ?_
          refine lv_iload hx hb dX4_coverOf_41 (lv_at hl 0 rfl) ?_
          refine zcall_get (rest := [.int (jI 1), .int y2_4]) hx hb hml hown hts gX4_coverOf_X3_get ⟨Nat.le_of_ble_eq_true rfl, Nat.le_of_ble_eq_true rfl⟩ ⟨Nat.zero_le _, Nat.zero_le _⟩ hK hj hw hA hS 5 (by decide) hl.1 (Nat.le_of_ble_eq_true rfl) dX4_coverOf_43 (fun H locs hw hS => ?_)
          refine lv_topi (fun v3 ev3 => ?_)
          have h := h v3 ev3
          refine lv_ishl hx hb dX4_coverOf_46 ?_
          refine lv_iconst (v := (jI 1)) hx hb dX4_coverOf_47 rfl ?_
          refine lv_aload_n hx hb dX4_coverOf_48 rfl (lv_at hl 1 rfl) ?_
          refine zget hx hb hts inX4 hown hK hw 5 (by decide) rfl rfl 4 (by decide) lk4 (fun _ h9 => h9) rfl dX4_coverOf_49 ?_
          refine lv_iload hx hb dX4_coverOf_52 (lv_at hl 0 rfl) ?_
          refine zcall_get (rest := [.int (jI 1), .int ((jI 1) <<< (v3 &&& 31)), .int y2_4]) hx hb hml hown hts gX4_coverOf_X3_get ⟨Nat.le_of_ble_eq_true rfl, Nat.le_of_ble_eq_true rfl⟩ ⟨Nat.zero_le _, Nat.zero_le _⟩ hK hj hw hA hS 4 (by decide) hl.1 (Nat.le_of_ble_eq_true rfl) dX4_coverOf_54 (fun H locs hw hS => ?_)
          refine lv_topi (fun v4 ev4 => ?_)
          have h := h v4 ev4
          refine lv_ishl hx hb dX4_coverOf_57 ?_
          refine lv_isub hx hb dX4_coverOf_58 ?_
          refine lv_ior hx hb dX4_coverOf_59 ?_
          refine lv_topi (fun x2 ex2 => ?_)
          have h := h x2 ex2
          refine lv_istore_n (lv' := [(2, .int x2), (4, .int v1), (0, .ref (ad 5)), (1, .int p0), (3, .int y3_4)]) hx hb dX4_coverOf_60 rfl hl (by decide) rfl (fun ls hl => ?_)
          obtain ⟨x3, ex3⟩ : ∃ y : Int32, y = y3_4 + (jI 1) := ⟨_, rfl⟩
          have h := h x3 ex3
          refine lv_iinc (v := x3) (lv' := [(3, .int x3), (2, .int x2), (4, .int v1), (0, .ref (ad 5)), (1, .int p0)]) hx hb dX4_coverOf_61 hl (k := 4) rfl (by rw [ex3]; rfl) (by decide) rfl (fun ls hl => ?_)
          refine lv_goto (tgt := 4) hx hb dX4_coverOf_64 (by decide) ?_
          exact ih4 _ _ _ _ _ h hw hS _ (lv_sub hl [3, 4, 1, 0] rfl)
  obtain ⟨nn4, h⟩ := h
  exact lp4 nn4 _ _ _ _ _ h hw hS _ (lv_sub hl [2, 3, 1, 0] rfl)
theorem k_X4_coverOf {p : Program} {l : Launch} {e : Env} {R : Room} {s : State} {m : MethodId} {args : Array Value} {below : List Frame} {meth : Method} {c : Code} {H : Heap} {locs : List Loc} {cells slots : Nat} {QQ : State → Prop} {cc : ByteArray} {pc nL index : Nat} {ls : Array Slot} {rest : List Value} {D : va_G} {cy : cyT} {ad : Nat → Nat} {own : String} {Ts : List Cond} {H0 : Heap} {σ : ST} {p0 : Int32} {Q : Int32 → ST → Prop} (hx : p.tables.exec = Jvm.exec) (hb : c.code = cc) (hml : c.maxLocals = nL) (hown : s.vm.findClass own = some m.cls) (hts : ∀ w ∈ Ts, w.before args s = true) (hG : GoodIn Ts (wsV own index RX4 yX4_coverOf wsX4_coverOf)) (hR : 1 + 1 ≤ R.frames ∧ 8 + (5 + 11) + 21 ≤ R.locals) (hcs : cells ≤ R.cells ∧ slots ≤ R.slots) (hK : zK D cy s) (hj : zI 116 ad) (hw : zW D 116 (zce cy ad σ) ad H) {A0 : Nat → Prop} (hA : ∀ i, i < 116 → A0 (ad i)) (hS : va_S A0 H0 H locs) (hsz : ls.size = nL) (hrest : (rest.map fun v => v.category).sum ≤ 8) (hdg : decode cc pc = .ok (.invokevirtual index, 3)) (h : wp_X4_coverOf σ p0 Q) (kk : ∀ (r : Int32) (σ : ST) (H : Heap) (locs : List Loc), Q r σ → zW D 116 (zce cy ad σ) ad H → va_S A0 H0 H locs → W p l e R s m args below meth c H locs cells slots QQ (F0 m (pc + 3) ls (.int r :: rest))) : W p l e R s m args below meth c H locs cells slots QQ (F0 m pc ls (.int p0 :: .ref (ad 5) :: rest)) :=
  zcalli (va_runV (As := [.int p0]) (rest := rest) ⟨hx, hb, hml, hown, hts⟩ (c_X4_coverOf l D cy ad σ p0 h) (cwV 1 hts hG rfl rfl rfl (by decide +kernel) hR) (zpreV hj hK hw _ (i := 5) (ci := 3) (by decide) rfl rfl) rfl rfl hsz rfl (lv_room hrest) hdg hcs) hA hS kk
set_option maxHeartbeats 4000000 in
set_option maxRecDepth 100000 in
theorem c_X2_findGap (l : Launch) (D : va_G) (cy : cyT) (ad : Nat → Nat) (σ : ST) (p1 : Int32) {Q : ST → Prop} (h : wp_X2_findGap σ p1 Q) : Met l yX2_findGap wsX2_findGap ({ frames := 2, cells := 0, slots := 0, locals := 45 } : Room) (zPre D cy 116 (zce cy ad σ) ad [.ref (ad 4), .ref (ad 5), .int p1]) (va_Qv Q (zB D 116 (zce cy ad) ad) (zA 116 ad)) 0 0 (zA 116 ad) := by
  refine Met.ofW (cc := cX2_findGap) (maxL := 9) (ret := none) (by decide) rfl ?_
  intro p e s m args below meth c s₁ B hml hv
  obtain ⟨rfl, hj, hK, hw⟩ := hv
  have hx := B.exec
  have hb := B.bytes
  have hr := B.returns
  have hts := atoms_spec (ws := wsX2_findGap) B.pre
  have hown : s.vm.findClass RX2 = some m.cls := findClass_of_methodNamed B.named
  have hlocks := B.notSynchronized
  have hS : va_S (zA 116 ad) s.heap s.heap [] := va_S.rf
  have hA : ∀ i, i < 116 → zA 116 ad (ad i) := fun i hi => ⟨i, hi, rfl⟩
  have hl := lv_entry ([.ref (ad 4), .ref (ad 5), .int p1]) (n := 9) (Nat.le_of_ble_eq_true rfl)
  rw [lg_entry_eq]
  generalize (lg_sl ([.ref (ad 4), .ref (ad 5), .int p1]) ++ List.replicate (9 - (lg_sl ([.ref (ad 4), .ref (ad 5), .int p1])).length) Slot.unset).toArray = ls at hl ⊢
  have hl : lv_has ls 9 [(0, .ref (ad 4)), (1, .ref (ad 5)), (2, .int p1)] := hl
  show W p l e ({ frames := 2, cells := 0, slots := 0, locals := 45 } : Room) s m ([.ref (ad 4), .ref (ad 5), .int p1] : List Value).toArray below meth c s.heap [] 0 0 (MQ below (va_Qv Q (zB D 116 (zce cy ad) ad) (zA 116 ad)) ([.ref (ad 4), .ref (ad 5), .int p1] : List Value).toArray s 0 0 (zA 116 ad)) (F0 m 0 ls [])
  unfold wp_X2_findGap at h
  refine lv_aload_n hx hb dX2_findGap_0 rfl (lv_at hl 1 rfl) ?_
  refine lv_iload_n hx hb dX2_findGap_1 rfl (lv_at hl 2 rfl) ?_
  refine k_X4_widthOf (rest := []) hx hb hml hown hts gX2_findGap_X4_widthOf ⟨Nat.le_of_ble_eq_true rfl, Nat.le_of_ble_eq_true rfl⟩ ⟨Nat.zero_le _, Nat.zero_le _⟩ hK hj hw hA hS hl.1 (Nat.le_of_ble_eq_true rfl) dX2_findGap_2 h (fun r1 s1 H locs h hw hS => ?_)
  refine lv_istore_n (lv' := [(3, .int r1), (0, .ref (ad 4)), (1, .ref (ad 5)), (2, .int p1)]) hx hb dX2_findGap_5 rfl hl (by decide) rfl (fun ls hl => ?_)
  refine lv_aload_n hx hb dX2_findGap_6 rfl (lv_at hl 2 rfl) ?_
  refine lv_iload_n hx hb dX2_findGap_7 rfl (lv_at hl 3 rfl) ?_
  refine k_X4_heightOf (rest := []) hx hb hml hown hts gX2_findGap_X4_heightOf ⟨Nat.le_of_ble_eq_true rfl, Nat.le_of_ble_eq_true rfl⟩ ⟨Nat.zero_le _, Nat.zero_le _⟩ hK hj hw hA hS hl.1 (Nat.le_of_ble_eq_true rfl) dX2_findGap_8 h (fun r2 s2 H locs h hw hS => ?_)
  refine lv_istore (lv' := [(4, .int r2), (3, .int r1), (0, .ref (ad 4)), (1, .ref (ad 5)), (2, .int p1)]) hx hb dX2_findGap_11 hl (by decide) rfl (fun ls hl => ?_)
  refine lv_bipush (v := (jI 24)) hx hb dX2_findGap_13 (by decide +kernel) ?_
  refine lv_istore (lv' := [(5, .int (jI 24)), (4, .int r2), (3, .int r1), (0, .ref (ad 4)), (1, .ref (ad 5)), (2, .int p1)]) hx hb dX2_findGap_15 hl (by decide) rfl (fun ls hl => ?_)
  refine lv_iconst (v := (jI 0)) hx hb dX2_findGap_17 rfl ?_
  refine lv_istore (lv' := [(6, .int (jI 0)), (5, .int (jI 24)), (4, .int r2), (3, .int r1), (0, .ref (ad 4)), (1, .ref (ad 5)), (2, .int p1)]) hx hb dX2_findGap_18 hl (by decide) rfl (fun ls hl => ?_)
  have k87_20 : ∀ (u_87 : ST) (H : Heap) (locs : List Loc), Q u_87 → zW D 116 (zce cy ad u_87) ad H → va_S (zA 116 ad) s.heap H locs → ∀ ls : Array Slot, lv_has ls 9 [] → W p l e ({ frames := 2, cells := 0, slots := 0, locals := 45 } : Room) s m ([.ref (ad 4), .ref (ad 5), .int p1] : List Value).toArray below meth c H locs 0 0 (MQ below (va_Qv Q (zB D 116 (zce cy ad) ad) (zA 116 ad)) ([.ref (ad 4), .ref (ad 5), .int p1] : List Value).toArray s 0 0 (zA 116 ad)) (F0 m 87 ls []) := by
    intro u_87 H locs h hw hS ls hl
    exact W.vret hx hb hr (fun t ht hW => ⟨⟨_, rfl, h, zend hw ht⟩, hS.F ht⟩) hS.2.2 dX2_findGap_87
  have lp20 : ∀ (nn20 : Nat) (t_20 : ST) (y5_20 : Int32) (y6_20 : Int32) (H : Heap) (locs : List Loc), wl_X2_findGap_20 (fun u_87 => Q u_87) r1 r2 nn20 t_20 y5_20 y6_20 → zW D 116 (zce cy ad t_20) ad H → va_S (zA 116 ad) s.heap H locs → ∀ ls : Array Slot, lv_has ls 9 [(0, .ref (ad 4)), (1, .ref (ad 5)), (3, .int r1), (4, .int r2), (5, .int y5_20), (6, .int y6_20)] → W p l e ({ frames := 2, cells := 0, slots := 0, locals := 45 } : Room) s m ([.ref (ad 4), .ref (ad 5), .int p1] : List Value).toArray below meth c H locs 0 0 (MQ below (va_Qv Q (zB D 116 (zce cy ad) ad) (zA 116 ad)) ([.ref (ad 4), .ref (ad 5), .int p1] : List Value).toArray s 0 0 (zA 116 ad)) (F0 m 20 ls []) := by
    intro nn20
    induction nn20 with
    | zero => intro _ _ _ _ _ h; exact h.elim
    | succ nn20 ih20 =>
      intro t_20 y5_20 y6_20 H locs h hw hS ls hl
      simp only [wl_X2_findGap_20, wb_X2_findGap_20] at h
      refine lv_iload hx hb dX2_findGap_20 (lv_at hl 5 rfl) ?_
      refine lv_bipush (v := (jI 72)) hx hb dX2_findGap_22 (by decide +kernel) ?_
      refine lv_icmp_ge (tgt := 87) hx hb dX2_findGap_24 (by decide) (fun c1 => ?_) (fun c1 => ?_)
      · have h := h.1 c1
        exact k87_20 _ _ _ h hw hS _ (lv_sub hl [] rfl)
      · have h := h.2 c1
        refine lv_aload_n hx hb dX2_findGap_27 rfl (lv_at hl 1 rfl) ?_
        refine lv_iload hx hb dX2_findGap_28 (lv_at hl 5 rfl) ?_
        refine k_X4_heightOfShelf (rest := []) hx hb hml hown hts gX2_findGap_X4_heightOfShelf ⟨Nat.le_of_ble_eq_true rfl, Nat.le_of_ble_eq_true rfl⟩ ⟨Nat.zero_le _, Nat.zero_le _⟩ hK hj hw hA hS hl.1 (Nat.le_of_ble_eq_true rfl) dX2_findGap_30 h (fun r3 s3 H locs h hw hS => ?_)
        refine lv_iload hx hb dX2_findGap_33 (lv_at hl 3 rfl) ?_
        refine lv_isub hx hb dX2_findGap_35 ?_
        refine lv_topi (fun x1 ex1 => ?_)
        have h := h x1 ex1
        refine lv_istore (lv' := [(7, .int x1), (0, .ref (ad 4)), (1, .ref (ad 5)), (3, .int r1), (4, .int r2), (5, .int y5_20), (6, .int y6_20)]) hx hb dX2_findGap_36 hl (by decide) rfl (fun ls hl => ?_)
        refine lv_iload hx hb dX2_findGap_38 (lv_at hl 0 rfl) ?_
        refine zif_lt (tgt := 81) hx hb dX2_findGap_40 (by decide) (fun c2 => ?_) (fun c2 => ?_)
        · have h := h.1 c2
          obtain ⟨x2, ex2⟩ : ∃ y : Int32, y = y6_20 + (jI 1) := ⟨_, rfl⟩
          have h := h x2 ex2
          refine lv_iinc (v := x2) (lv' := [(6, .int x2), (7, .int x1), (0, .ref (ad 4)), (1, .ref (ad 5)), (3, .int r1), (4, .int r2), (5, .int y5_20)]) hx hb dX2_findGap_81 hl (k := 6) rfl (by rw [ex2]; rfl) (by decide) rfl (fun ls hl => ?_)
          refine lv_goto (tgt := 20) hx hb dX2_findGap_84 (by decide) ?_
          exact ih20 _ _ _ _ _ h hw hS _ (lv_sub hl [2, 3, 4, 5, 6, 0] rfl)
        · have h := h.2 c2
          refine lv_iload hx hb dX2_findGap_43 (lv_at hl 0 rfl) ?_
          refine lv_iload hx hb dX2_findGap_45 (lv_at hl 5 rfl) ?_
          refine lv_icmp_ge (tgt := 81) hx hb dX2_findGap_47 (by decide) (fun c3 => ?_) (fun c3 => ?_)
          · have h := h.1 c3
            obtain ⟨x3, ex3⟩ : ∃ y : Int32, y = y6_20 + (jI 1) := ⟨_, rfl⟩
            have h := h x3 ex3
            refine lv_iinc (v := x3) (lv' := [(6, .int x3), (7, .int x1), (0, .ref (ad 4)), (1, .ref (ad 5)), (3, .int r1), (4, .int r2), (5, .int y5_20)]) hx hb dX2_findGap_81 hl (k := 6) rfl (by rw [ex3]; rfl) (by decide) rfl (fun ls hl => ?_)
            refine lv_goto (tgt := 20) hx hb dX2_findGap_84 (by decide) ?_
            exact ih20 _ _ _ _ _ h hw hS _ (lv_sub hl [2, 3, 4, 5, 6, 0] rfl)
          · have h := h.2 c3
            refine lv_aload_n hx hb dX2_findGap_50 rfl (lv_at hl 2 rfl) ?_
            refine lv_iload hx hb dX2_findGap_51 (lv_at hl 6 rfl) ?_
            refine k_X4_coverOf (rest := []) hx hb hml hown hts gX2_findGap_X4_coverOf ⟨Nat.le_of_ble_eq_true rfl, Nat.le_of_ble_eq_true rfl⟩ ⟨Nat.zero_le _, Nat.zero_le _⟩ hK hj hw hA hS hl.1 (Nat.le_of_ble_eq_true rfl) dX2_findGap_53 h (fun r4 s4 H locs h hw hS => ?_)
            refine lv_iload_n hx hb dX2_findGap_56 rfl (lv_at hl 3 rfl) ?_
            refine k_X1_leftmost (rest := []) hx hb hml hown hts gX2_findGap_X1_leftmost ⟨Nat.le_of_ble_eq_true rfl, Nat.le_of_ble_eq_true rfl⟩ ⟨Nat.zero_le _, Nat.zero_le _⟩ hK hj hw hA hS hl.1 (Nat.le_of_ble_eq_true rfl) dX2_findGap_57 h (fun r5 s5 H locs h hw hS => ?_)
            refine lv_istore (lv' := [(8, .int r5), (7, .int x1), (0, .ref (ad 4)), (1, .ref (ad 5)), (3, .int r1), (4, .int r2), (5, .int y5_20), (6, .int y6_20)]) hx hb dX2_findGap_60 hl (by decide) rfl (fun ls hl => ?_)
            refine lv_iload hx hb dX2_findGap_62 (lv_at hl 0 rfl) ?_
            refine lv_iconst (v := (jI (-1))) hx hb dX2_findGap_64 rfl ?_
            refine lv_icmp_eq (tgt := 81) hx hb dX2_findGap_65 (by decide) (fun c4 => ?_) (fun c4 => ?_)
            · have h := h.1 c4
              obtain ⟨x4, ex4⟩ : ∃ y : Int32, y = y6_20 + (jI 1) := ⟨_, rfl⟩
              have h := h x4 ex4
              refine lv_iinc (v := x4) (lv' := [(6, .int x4), (8, .int r5), (7, .int x1), (0, .ref (ad 4)), (1, .ref (ad 5)), (3, .int r1), (4, .int r2), (5, .int y5_20)]) hx hb dX2_findGap_81 hl (k := 7) rfl (by rw [ex4]; rfl) (by decide) rfl (fun ls hl => ?_)
              refine lv_goto (tgt := 20) hx hb dX2_findGap_84 (by decide) ?_
              exact ih20 _ _ _ _ _ h hw hS _ (lv_sub hl [3, 4, 5, 6, 7, 0] rfl)
            · have h := h.2 c4
              refine lv_aload_n hx hb dX2_findGap_68 rfl (lv_at hl 2 rfl) ?_
              refine lv_iconst (v := (jI 1)) hx hb dX2_findGap_69 rfl ?_
              refine lv_iload hx hb dX2_findGap_70 (lv_at hl 7 rfl) ?_
              refine lv_iload hx hb dX2_findGap_72 (lv_at hl 0 rfl) ?_
              refine k_X2_choose (rest := []) hx hb hml hown hts gX2_findGap_X2_choose ⟨Nat.le_of_ble_eq_true rfl, Nat.le_of_ble_eq_true rfl⟩ ⟨Nat.zero_le _, Nat.zero_le _⟩ hK hj hw hA hS hl.1 (Nat.le_of_ble_eq_true rfl) dX2_findGap_74 h (fun s6 H locs h hw hS => ?_)
              refine lv_iload hx hb dX2_findGap_77 (lv_at hl 1 rfl) ?_
              refine lv_istore (lv' := [(5, .int x1), (8, .int r5), (7, .int x1), (0, .ref (ad 4)), (1, .ref (ad 5)), (3, .int r1), (4, .int r2), (6, .int y6_20)]) hx hb dX2_findGap_79 hl (by decide) rfl (fun ls hl => ?_)
              obtain ⟨x5, ex5⟩ : ∃ y : Int32, y = y6_20 + (jI 1) := ⟨_, rfl⟩
              have h := h x5 ex5
              refine lv_iinc (v := x5) (lv' := [(6, .int x5), (5, .int x1), (8, .int r5), (7, .int x1), (0, .ref (ad 4)), (1, .ref (ad 5)), (3, .int r1), (4, .int r2)]) hx hb dX2_findGap_81 hl (k := 7) rfl (by rw [ex5]; rfl) (by decide) rfl (fun ls hl => ?_)
              refine lv_goto (tgt := 20) hx hb dX2_findGap_84 (by decide) ?_
              exact ih20 _ _ _ _ _ h hw hS _ (lv_sub hl [4, 5, 6, 7, 1, 0] rfl)
  obtain ⟨nn20, h⟩ := h
  exact lp20 nn20 _ _ _ _ _ h hw hS _ (lv_sub hl [4, 5, 3, 2, 1, 0] rfl)
theorem k_X2_findGap {p : Program} {l : Launch} {e : Env} {R : Room} {s : State} {m : MethodId} {args : Array Value} {below : List Frame} {meth : Method} {c : Code} {H : Heap} {locs : List Loc} {cells slots : Nat} {QQ : State → Prop} {cc : ByteArray} {pc nL index : Nat} {ls : Array Slot} {rest : List Value} {D : va_G} {cy : cyT} {ad : Nat → Nat} {own : String} {Ts : List Cond} {H0 : Heap} {σ : ST} {p1 : Int32} {Q : ST → Prop} (hx : p.tables.exec = Jvm.exec) (hb : c.code = cc) (hml : c.maxLocals = nL) (hown : s.vm.findClass own = some m.cls) (hts : ∀ w ∈ Ts, w.before args s = true) (hG : GoodIn Ts (wsV own index RX2 yX2_findGap wsX2_findGap)) (hR : 2 + 1 ≤ R.frames ∧ 8 + (9 + 11) + 45 ≤ R.locals) (hcs : cells ≤ R.cells ∧ slots ≤ R.slots) (hK : zK D cy s) (hj : zI 116 ad) (hw : zW D 116 (zce cy ad σ) ad H) {A0 : Nat → Prop} (hA : ∀ i, i < 116 → A0 (ad i)) (hS : va_S A0 H0 H locs) (hsz : ls.size = nL) (hrest : (rest.map fun v => v.category).sum ≤ 8) (hdg : decode cc pc = .ok (.invokevirtual index, 3)) (h : wp_X2_findGap σ p1 Q) (kk : ∀ (σ : ST) (H : Heap) (locs : List Loc), Q σ → zW D 116 (zce cy ad σ) ad H → va_S A0 H0 H locs → W p l e R s m args below meth c H locs cells slots QQ (F0 m (pc + 3) ls rest)) : W p l e R s m args below meth c H locs cells slots QQ (F0 m pc ls (.int p1 :: .ref (ad 5) :: .ref (ad 4) :: rest)) :=
  zcallv (va_runV (As := [.ref (ad 5), .int p1]) (rest := rest) ⟨hx, hb, hml, hown, hts⟩ (c_X2_findGap l D cy ad σ p1 h) (cwV 2 hts hG rfl rfl rfl (by decide +kernel) hR) (zpreV hj hK hw _ (i := 4) (ci := 1) (by decide) rfl rfl) rfl rfl hsz rfl (lv_room hrest) hdg hcs) hA hS kk
set_option maxHeartbeats 4000000 in
set_option maxRecDepth 100000 in
theorem c_X4_heightOfShelves (l : Launch) (D : va_G) (cy : cyT) (ad : Nat → Nat) (σ : ST) (p0 : Int32) {Q : Int32 → ST → Prop} (h : wp_X4_heightOfShelves σ p0 Q) : Met l yX4_heightOfShelves wsX4_heightOfShelves ({ frames := 1, cells := 0, slots := 0, locals := 21 } : Room) (zPre D cy 116 (zce cy ad σ) ad [.ref (ad 5), .int p0]) (va_Qi Q (zB D 116 (zce cy ad) ad) (zA 116 ad)) 0 0 (zA 116 ad) := by
  refine Met.ofW (cc := cX4_heightOfShelves) (maxL := 4) (ret := (some .int)) (by decide) rfl ?_
  intro p e s m args below meth c s₁ B hml hv
  obtain ⟨rfl, hj, hK, hw⟩ := hv
  have hx := B.exec
  have hb := B.bytes
  have hr := B.returns
  have hts := atoms_spec (ws := wsX4_heightOfShelves) B.pre
  have hown : s.vm.findClass RX4 = some m.cls := findClass_of_methodNamed B.named
  have hlocks := B.notSynchronized
  have lk0 : Cond.fieldLink RX4 23 "TypeTrays$State" "shelfHeights" "LTypeTrays$Row;" ∈ wsX4_heightOfShelves := List.mem_of_getElem? (i := 1) rfl
  have inX4 : ∀ w ∈ u_ws RX4 TX4 18, w ∈ wsX4_heightOfShelves := zin_at 8 rfl
  have hS : va_S (zA 116 ad) s.heap s.heap [] := va_S.rf
  have hA : ∀ i, i < 116 → zA 116 ad (ad i) := fun i hi => ⟨i, hi, rfl⟩
  have hl := lv_entry ([.ref (ad 5), .int p0]) (n := 4) (Nat.le_of_ble_eq_true rfl)
  rw [lg_entry_eq]
  generalize (lg_sl ([.ref (ad 5), .int p0]) ++ List.replicate (4 - (lg_sl ([.ref (ad 5), .int p0])).length) Slot.unset).toArray = ls at hl ⊢
  have hl : lv_has ls 4 [(0, .ref (ad 5)), (1, .int p0)] := hl
  show W p l e ({ frames := 1, cells := 0, slots := 0, locals := 21 } : Room) s m ([.ref (ad 5), .int p0] : List Value).toArray below meth c s.heap [] 0 0 (MQ below (va_Qi Q (zB D 116 (zce cy ad) ad) (zA 116 ad)) ([.ref (ad 5), .int p0] : List Value).toArray s 0 0 (zA 116 ad)) (F0 m 0 ls [])
  unfold wp_X4_heightOfShelves at h
  refine lv_iconst (v := (jI 0)) hx hb dX4_heightOfShelves_0 rfl ?_
  refine lv_istore_n (lv' := [(2, .int (jI 0)), (0, .ref (ad 5)), (1, .int p0)]) hx hb dX4_heightOfShelves_1 rfl hl (by decide) rfl (fun ls hl => ?_)
  refine lv_iload_n hx hb dX4_heightOfShelves_2 rfl (lv_at hl 2 rfl) ?_
  refine lv_bipush (v := (jI 24)) hx hb dX4_heightOfShelves_3 (by decide +kernel) ?_
  refine lv_imul hx hb dX4_heightOfShelves_5 ?_
  refine lv_topi (fun x1 ex1 => ?_)
  have h := h x1 ex1
  refine lv_istore_n (lv' := [(3, .int x1), (2, .int (jI 0)), (0, .ref (ad 5)), (1, .int p0)]) hx hb dX4_heightOfShelves_6 rfl hl (by decide) rfl (fun ls hl => ?_)
  have k35_7 : ∀ (u_35 : ST) (z2_35 : Int32) (H : Heap) (locs : List Loc), Q z2_35 u_35 → zW D 116 (zce cy ad u_35) ad H → va_S (zA 116 ad) s.heap H locs → ∀ ls : Array Slot, lv_has ls 4 [(2, .int z2_35)] → W p l e ({ frames := 1, cells := 0, slots := 0, locals := 21 } : Room) s m ([.ref (ad 5), .int p0] : List Value).toArray below meth c H locs 0 0 (MQ below (va_Qi Q (zB D 116 (zce cy ad) ad) (zA 116 ad)) ([.ref (ad 5), .int p0] : List Value).toArray s 0 0 (zA 116 ad)) (F0 m 35 ls []) := by
    intro u_35 z2_35 H locs h hw hS ls hl
    refine lv_iload_n hx hb dX4_heightOfShelves_35 rfl (lv_at hl 0 rfl) ?_
    exact W.iret (v := z2_35) hx hb hr (fun t ht hW => ⟨⟨_, _, rfl, h, zend hw ht⟩, hS.F ht⟩) hS.2.2 dX4_heightOfShelves_36
  have lp7 : ∀ (nn7 : Nat) (t_7 : ST) (y2_7 : Int32) (y3_7 : Int32) (H : Heap) (locs : List Loc), wl_X4_heightOfShelves_7 (fun u_35 z2_35 => Q z2_35 u_35) p0 nn7 t_7 y2_7 y3_7 → zW D 116 (zce cy ad t_7) ad H → va_S (zA 116 ad) s.heap H locs → ∀ ls : Array Slot, lv_has ls 4 [(0, .ref (ad 5)), (1, .int p0), (2, .int y2_7), (3, .int y3_7)] → W p l e ({ frames := 1, cells := 0, slots := 0, locals := 21 } : Room) s m ([.ref (ad 5), .int p0] : List Value).toArray below meth c H locs 0 0 (MQ below (va_Qi Q (zB D 116 (zce cy ad) ad) (zA 116 ad)) ([.ref (ad 5), .int p0] : List Value).toArray s 0 0 (zA 116 ad)) (F0 m 7 ls []) := by
    intro nn7
    induction nn7 with
    | zero => intro _ _ _ _ _ h; exact h.elim
    | succ nn7 ih7 =>
      intro t_7 y2_7 y3_7 H locs h hw hS ls hl
      simp only [wl_X4_heightOfShelves_7, wb_X4_heightOfShelves_7] at h
      refine lv_iload_n hx hb dX4_heightOfShelves_7 rfl (lv_at hl 3 rfl) ?_
      refine lv_iload_n hx hb dX4_heightOfShelves_8 rfl (lv_at hl 1 rfl) ?_
      refine lv_bipush (v := (jI 24)) hx hb dX4_heightOfShelves_9 (by decide +kernel) ?_
      refine lv_imul hx hb dX4_heightOfShelves_11 ?_
      refine lv_bipush (v := (jI 24)) hx hb dX4_heightOfShelves_12 (by decide +kernel) ?_
      refine lv_iadd hx hb dX4_heightOfShelves_14 ?_
      refine lv_icmp_ge (tgt := 35) hx hb dX4_heightOfShelves_15 (by decide) (fun c1 => ?_) (fun c1 => ?_)
      · have h := h.1 c1
        exact k35_7 _ _ _ _ h hw hS _ (lv_sub hl [2] rfl)
      · have h := h.2 c1
        refine lv_iload_n hx hb dX4_heightOfShelves_18 rfl (lv_at hl 2 rfl) ?_
        refine lv_aload_n hx hb dX4_heightOfShelves_19 rfl (lv_at hl 0 rfl) ?_
        refine zget hx hb hts inX4 hown hK hw 5 (by decide) rfl rfl 2 (by decide) lk0 (fun _ h9 => h9) rfl dX4_heightOfShelves_20 ?_
        refine lv_iload_n hx hb dX4_heightOfShelves_23 rfl (lv_at hl 3 rfl) ?_
        refine zcall_get (rest := [.int y2_7]) hx hb hml hown hts gX4_heightOfShelves_X3_get ⟨Nat.le_of_ble_eq_true rfl, Nat.le_of_ble_eq_true rfl⟩ ⟨Nat.zero_le _, Nat.zero_le _⟩ hK hj hw hA hS 2 (by decide) hl.1 (Nat.le_of_ble_eq_true rfl) dX4_heightOfShelves_24 (fun H locs hw hS => ?_)
        refine lv_topi (fun v1 ev1 => ?_)
        have h := h v1 ev1
        refine lv_iadd hx hb dX4_heightOfShelves_27 ?_
        refine lv_topi (fun x2 ex2 => ?_)
        have h := h x2 ex2
        refine lv_istore_n (lv' := [(2, .int x2), (0, .ref (ad 5)), (1, .int p0), (3, .int y3_7)]) hx hb dX4_heightOfShelves_28 rfl hl (by decide) rfl (fun ls hl => ?_)
        obtain ⟨x3, ex3⟩ : ∃ y : Int32, y = y3_7 + (jI 1) := ⟨_, rfl⟩
        have h := h x3 ex3
        refine lv_iinc (v := x3) (lv' := [(3, .int x3), (2, .int x2), (0, .ref (ad 5)), (1, .int p0)]) hx hb dX4_heightOfShelves_29 hl (k := 3) rfl (by rw [ex3]; rfl) (by decide) rfl (fun ls hl => ?_)
        refine lv_goto (tgt := 7) hx hb dX4_heightOfShelves_32 (by decide) ?_
        exact ih7 _ _ _ _ _ h hw hS _ (lv_sub hl [2, 3, 1, 0] rfl)
  obtain ⟨nn7, h⟩ := h
  exact lp7 nn7 _ _ _ _ _ h hw hS _ (lv_sub hl [2, 3, 1, 0] rfl)
theorem k_X4_heightOfShelves {p : Program} {l : Launch} {e : Env} {R : Room} {s : State} {m : MethodId} {args : Array Value} {below : List Frame} {meth : Method} {c : Code} {H : Heap} {locs : List Loc} {cells slots : Nat} {QQ : State → Prop} {cc : ByteArray} {pc nL index : Nat} {ls : Array Slot} {rest : List Value} {D : va_G} {cy : cyT} {ad : Nat → Nat} {own : String} {Ts : List Cond} {H0 : Heap} {σ : ST} {p0 : Int32} {Q : Int32 → ST → Prop} (hx : p.tables.exec = Jvm.exec) (hb : c.code = cc) (hml : c.maxLocals = nL) (hown : s.vm.findClass own = some m.cls) (hts : ∀ w ∈ Ts, w.before args s = true) (hG : GoodIn Ts (wsV own index RX4 yX4_heightOfShelves wsX4_heightOfShelves)) (hR : 1 + 1 ≤ R.frames ∧ 8 + (4 + 11) + 21 ≤ R.locals) (hcs : cells ≤ R.cells ∧ slots ≤ R.slots) (hK : zK D cy s) (hj : zI 116 ad) (hw : zW D 116 (zce cy ad σ) ad H) {A0 : Nat → Prop} (hA : ∀ i, i < 116 → A0 (ad i)) (hS : va_S A0 H0 H locs) (hsz : ls.size = nL) (hrest : (rest.map fun v => v.category).sum ≤ 8) (hdg : decode cc pc = .ok (.invokevirtual index, 3)) (h : wp_X4_heightOfShelves σ p0 Q) (kk : ∀ (r : Int32) (σ : ST) (H : Heap) (locs : List Loc), Q r σ → zW D 116 (zce cy ad σ) ad H → va_S A0 H0 H locs → W p l e R s m args below meth c H locs cells slots QQ (F0 m (pc + 3) ls (.int r :: rest))) : W p l e R s m args below meth c H locs cells slots QQ (F0 m pc ls (.int p0 :: .ref (ad 5) :: rest)) :=
  zcalli (va_runV (As := [.int p0]) (rest := rest) ⟨hx, hb, hml, hown, hts⟩ (c_X4_heightOfShelves l D cy ad σ p0 h) (cwV 1 hts hG rfl rfl rfl (by decide +kernel) hR) (zpreV hj hK hw _ (i := 5) (ci := 3) (by decide) rfl rfl) rfl rfl hsz rfl (lv_room hrest) hdg hcs) hA hS kk
set_option maxHeartbeats 4000000 in
set_option maxRecDepth 100000 in
theorem c_X4_countShelves (l : Launch) (D : va_G) (cy : cyT) (ad : Nat → Nat) (σ : ST) (p0 : Int32) {Q : Int32 → ST → Prop} (h : wp_X4_countShelves σ p0 Q) : Met l yX4_countShelves wsX4_countShelves ({ frames := 1, cells := 0, slots := 0, locals := 21 } : Room) (zPre D cy 116 (zce cy ad σ) ad [.ref (ad 5), .int p0]) (va_Qi Q (zB D 116 (zce cy ad) ad) (zA 116 ad)) 0 0 (zA 116 ad) := by
  refine Met.ofW (cc := cX4_countShelves) (maxL := 4) (ret := (some .int)) (by decide) rfl ?_
  intro p e s m args below meth c s₁ B hml hv
  obtain ⟨rfl, hj, hK, hw⟩ := hv
  have hx := B.exec
  have hb := B.bytes
  have hr := B.returns
  have hts := atoms_spec (ws := wsX4_countShelves) B.pre
  have hown : s.vm.findClass RX4 = some m.cls := findClass_of_methodNamed B.named
  have hlocks := B.notSynchronized
  have lk0 : Cond.fieldLink RX4 23 "TypeTrays$State" "shelfHeights" "LTypeTrays$Row;" ∈ wsX4_countShelves := List.mem_of_getElem? (i := 1) rfl
  have inX4 : ∀ w ∈ u_ws RX4 TX4 18, w ∈ wsX4_countShelves := zin_at 8 rfl
  have hS : va_S (zA 116 ad) s.heap s.heap [] := va_S.rf
  have hA : ∀ i, i < 116 → zA 116 ad (ad i) := fun i hi => ⟨i, hi, rfl⟩
  have hl := lv_entry ([.ref (ad 5), .int p0]) (n := 4) (Nat.le_of_ble_eq_true rfl)
  rw [lg_entry_eq]
  generalize (lg_sl ([.ref (ad 5), .int p0]) ++ List.replicate (4 - (lg_sl ([.ref (ad 5), .int p0])).length) Slot.unset).toArray = ls at hl ⊢
  have hl : lv_has ls 4 [(0, .ref (ad 5)), (1, .int p0)] := hl
  show W p l e ({ frames := 1, cells := 0, slots := 0, locals := 21 } : Room) s m ([.ref (ad 5), .int p0] : List Value).toArray below meth c s.heap [] 0 0 (MQ below (va_Qi Q (zB D 116 (zce cy ad) ad) (zA 116 ad)) ([.ref (ad 5), .int p0] : List Value).toArray s 0 0 (zA 116 ad)) (F0 m 0 ls [])
  unfold wp_X4_countShelves at h
  refine lv_iconst (v := (jI 0)) hx hb dX4_countShelves_0 rfl ?_
  refine lv_istore_n (lv' := [(2, .int (jI 0)), (0, .ref (ad 5)), (1, .int p0)]) hx hb dX4_countShelves_1 rfl hl (by decide) rfl (fun ls hl => ?_)
  refine lv_iload_n hx hb dX4_countShelves_2 rfl (lv_at hl 2 rfl) ?_
  refine lv_bipush (v := (jI 24)) hx hb dX4_countShelves_3 (by decide +kernel) ?_
  refine lv_imul hx hb dX4_countShelves_5 ?_
  refine lv_topi (fun x1 ex1 => ?_)
  have h := h x1 ex1
  refine lv_istore_n (lv' := [(3, .int x1), (2, .int (jI 0)), (0, .ref (ad 5)), (1, .int p0)]) hx hb dX4_countShelves_6 rfl hl (by decide) rfl (fun ls hl => ?_)
  have k38_7 : ∀ (u_38 : ST) (z2_38 : Int32) (H : Heap) (locs : List Loc), Q z2_38 u_38 → zW D 116 (zce cy ad u_38) ad H → va_S (zA 116 ad) s.heap H locs → ∀ ls : Array Slot, lv_has ls 4 [(2, .int z2_38)] → W p l e ({ frames := 1, cells := 0, slots := 0, locals := 21 } : Room) s m ([.ref (ad 5), .int p0] : List Value).toArray below meth c H locs 0 0 (MQ below (va_Qi Q (zB D 116 (zce cy ad) ad) (zA 116 ad)) ([.ref (ad 5), .int p0] : List Value).toArray s 0 0 (zA 116 ad)) (F0 m 38 ls []) := by
    intro u_38 z2_38 H locs h hw hS ls hl
    refine lv_iload_n hx hb dX4_countShelves_38 rfl (lv_at hl 0 rfl) ?_
    exact W.iret (v := z2_38) hx hb hr (fun t ht hW => ⟨⟨_, _, rfl, h, zend hw ht⟩, hS.F ht⟩) hS.2.2 dX4_countShelves_39
  have lp7 : ∀ (nn7 : Nat) (t_7 : ST) (y2_7 : Int32) (y3_7 : Int32) (H : Heap) (locs : List Loc), wl_X4_countShelves_7 (fun u_38 z2_38 => Q z2_38 u_38) p0 nn7 t_7 y2_7 y3_7 → zW D 116 (zce cy ad t_7) ad H → va_S (zA 116 ad) s.heap H locs → ∀ ls : Array Slot, lv_has ls 4 [(0, .ref (ad 5)), (1, .int p0), (2, .int y2_7), (3, .int y3_7)] → W p l e ({ frames := 1, cells := 0, slots := 0, locals := 21 } : Room) s m ([.ref (ad 5), .int p0] : List Value).toArray below meth c H locs 0 0 (MQ below (va_Qi Q (zB D 116 (zce cy ad) ad) (zA 116 ad)) ([.ref (ad 5), .int p0] : List Value).toArray s 0 0 (zA 116 ad)) (F0 m 7 ls []) := by
    intro nn7
    induction nn7 with
    | zero => intro _ _ _ _ _ h; exact h.elim
    | succ nn7 ih7 =>
      intro t_7 y2_7 y3_7 H locs h hw hS ls hl
      simp only [wl_X4_countShelves_7, wb_X4_countShelves_7] at h
      refine lv_iload_n hx hb dX4_countShelves_7 rfl (lv_at hl 3 rfl) ?_
      refine lv_iload_n hx hb dX4_countShelves_8 rfl (lv_at hl 1 rfl) ?_
      refine lv_bipush (v := (jI 24)) hx hb dX4_countShelves_9 (by decide +kernel) ?_
      refine lv_imul hx hb dX4_countShelves_11 ?_
      refine lv_bipush (v := (jI 24)) hx hb dX4_countShelves_12 (by decide +kernel) ?_
      refine lv_iadd hx hb dX4_countShelves_14 ?_
      refine lv_icmp_ge (tgt := 38) hx hb dX4_countShelves_15 (by decide) (fun c1 => ?_) (fun c1 => ?_)
      · have h := h.1 c1
        exact k38_7 _ _ _ _ h hw hS _ (lv_sub hl [2] rfl)
      · have h := h.2 c1
        refine lv_aload_n hx hb dX4_countShelves_18 rfl (lv_at hl 0 rfl) ?_
        refine zget hx hb hts inX4 hown hK hw 5 (by decide) rfl rfl 2 (by decide) lk0 (fun _ h9 => h9) rfl dX4_countShelves_19 ?_
        refine lv_iload_n hx hb dX4_countShelves_22 rfl (lv_at hl 3 rfl) ?_
        refine zcall_get (rest := []) hx hb hml hown hts gX4_countShelves_X3_get ⟨Nat.le_of_ble_eq_true rfl, Nat.le_of_ble_eq_true rfl⟩ ⟨Nat.zero_le _, Nat.zero_le _⟩ hK hj hw hA hS 2 (by decide) hl.1 (Nat.le_of_ble_eq_true rfl) dX4_countShelves_23 (fun H locs hw hS => ?_)
        refine lv_topi (fun v1 ev1 => ?_)
        have h := h v1 ev1
        refine zif_le (tgt := 32) hx hb dX4_countShelves_26 (by decide) (fun c2 => ?_) (fun c2 => ?_)
        · have h := h.1 c2
          obtain ⟨x2, ex2⟩ : ∃ y : Int32, y = y3_7 + (jI 1) := ⟨_, rfl⟩
          have h := h x2 ex2
          refine lv_iinc (v := x2) (lv' := [(3, .int x2), (0, .ref (ad 5)), (1, .int p0), (2, .int y2_7)]) hx hb dX4_countShelves_32 hl (k := 3) rfl (by rw [ex2]; rfl) (by decide) rfl (fun ls hl => ?_)
          refine lv_goto (tgt := 7) hx hb dX4_countShelves_35 (by decide) ?_
          exact ih7 _ _ _ _ _ h hw hS _ (lv_sub hl [1, 2, 3, 0] rfl)
        · have h := h.2 c2
          obtain ⟨x3, ex3⟩ : ∃ y : Int32, y = y2_7 + (jI 1) := ⟨_, rfl⟩
          have h := h x3 ex3
          refine lv_iinc (v := x3) (lv' := [(2, .int x3), (0, .ref (ad 5)), (1, .int p0), (3, .int y3_7)]) hx hb dX4_countShelves_29 hl (k := 2) rfl (by rw [ex3]; rfl) (by decide) rfl (fun ls hl => ?_)
          obtain ⟨x4, ex4⟩ : ∃ y : Int32, y = y3_7 + (jI 1) := ⟨_, rfl⟩
          have h := h x4 ex4
          refine lv_iinc (v := x4) (lv' := [(3, .int x4), (2, .int x3), (0, .ref (ad 5)), (1, .int p0)]) hx hb dX4_countShelves_32 hl (k := 3) rfl (by rw [ex4]; rfl) (by decide) rfl (fun ls hl => ?_)
          refine lv_goto (tgt := 7) hx hb dX4_countShelves_35 (by decide) ?_
          exact ih7 _ _ _ _ _ h hw hS _ (lv_sub hl [2, 3, 1, 0] rfl)
  obtain ⟨nn7, h⟩ := h
  exact lp7 nn7 _ _ _ _ _ h hw hS _ (lv_sub hl [2, 3, 1, 0] rfl)
theorem k_X4_countShelves {p : Program} {l : Launch} {e : Env} {R : Room} {s : State} {m : MethodId} {args : Array Value} {below : List Frame} {meth : Method} {c : Code} {H : Heap} {locs : List Loc} {cells slots : Nat} {QQ : State → Prop} {cc : ByteArray} {pc nL index : Nat} {ls : Array Slot} {rest : List Value} {D : va_G} {cy : cyT} {ad : Nat → Nat} {own : String} {Ts : List Cond} {H0 : Heap} {σ : ST} {p0 : Int32} {Q : Int32 → ST → Prop} (hx : p.tables.exec = Jvm.exec) (hb : c.code = cc) (hml : c.maxLocals = nL) (hown : s.vm.findClass own = some m.cls) (hts : ∀ w ∈ Ts, w.before args s = true) (hG : GoodIn Ts (wsV own index RX4 yX4_countShelves wsX4_countShelves)) (hR : 1 + 1 ≤ R.frames ∧ 8 + (4 + 11) + 21 ≤ R.locals) (hcs : cells ≤ R.cells ∧ slots ≤ R.slots) (hK : zK D cy s) (hj : zI 116 ad) (hw : zW D 116 (zce cy ad σ) ad H) {A0 : Nat → Prop} (hA : ∀ i, i < 116 → A0 (ad i)) (hS : va_S A0 H0 H locs) (hsz : ls.size = nL) (hrest : (rest.map fun v => v.category).sum ≤ 8) (hdg : decode cc pc = .ok (.invokevirtual index, 3)) (h : wp_X4_countShelves σ p0 Q) (kk : ∀ (r : Int32) (σ : ST) (H : Heap) (locs : List Loc), Q r σ → zW D 116 (zce cy ad σ) ad H → va_S A0 H0 H locs → W p l e R s m args below meth c H locs cells slots QQ (F0 m (pc + 3) ls (.int r :: rest))) : W p l e R s m args below meth c H locs cells slots QQ (F0 m pc ls (.int p0 :: .ref (ad 5) :: rest)) :=
  zcalli (va_runV (As := [.int p0]) (rest := rest) ⟨hx, hb, hml, hown, hts⟩ (c_X4_countShelves l D cy ad σ p0 h) (cwV 1 hts hG rfl rfl rfl (by decide +kernel) hR) (zpreV hj hK hw _ (i := 5) (ci := 3) (by decide) rfl rfl) rfl rfl hsz rfl (lv_room hrest) hdg hcs) hA hS kk
set_option maxHeartbeats 4000000 in
set_option maxRecDepth 100000 in
theorem c_X2_findRoomForShelf (l : Launch) (D : va_G) (cy : cyT) (ad : Nat → Nat) (σ : ST) (p1 : Int32) {Q : ST → Prop} (h : wp_X2_findRoomForShelf σ p1 Q) : Met l yX2_findRoomForShelf wsX2_findRoomForShelf ({ frames := 2, cells := 0, slots := 0, locals := 44 } : Room) (zPre D cy 116 (zce cy ad σ) ad [.ref (ad 4), .ref (ad 5), .int p1]) (va_Qv Q (zB D 116 (zce cy ad) ad) (zA 116 ad)) 0 0 (zA 116 ad) := by
  refine Met.ofW (cc := cX2_findRoomForShelf) (maxL := 5) (ret := none) (by decide) rfl ?_
  intro p e s m args below meth c s₁ B hml hv
  obtain ⟨rfl, hj, hK, hw⟩ := hv
  have hx := B.exec
  have hb := B.bytes
  have hr := B.returns
  have hts := atoms_spec (ws := wsX2_findRoomForShelf) B.pre
  have hown : s.vm.findClass RX2 = some m.cls := findClass_of_methodNamed B.named
  have hlocks := B.notSynchronized
  have inX4 : ∀ w ∈ u_ws RX4 TX4 18, w ∈ wsX2_findRoomForShelf := zin_at 37 rfl
  have hS : va_S (zA 116 ad) s.heap s.heap [] := va_S.rf
  have hA : ∀ i, i < 116 → zA 116 ad (ad i) := fun i hi => ⟨i, hi, rfl⟩
  have hl := lv_entry ([.ref (ad 4), .ref (ad 5), .int p1]) (n := 5) (Nat.le_of_ble_eq_true rfl)
  rw [lg_entry_eq]
  generalize (lg_sl ([.ref (ad 4), .ref (ad 5), .int p1]) ++ List.replicate (5 - (lg_sl ([.ref (ad 4), .ref (ad 5), .int p1])).length) Slot.unset).toArray = ls at hl ⊢
  have hl : lv_has ls 5 [(0, .ref (ad 4)), (1, .ref (ad 5)), (2, .int p1)] := hl
  show W p l e ({ frames := 2, cells := 0, slots := 0, locals := 44 } : Room) s m ([.ref (ad 4), .ref (ad 5), .int p1] : List Value).toArray below meth c s.heap [] 0 0 (MQ below (va_Qv Q (zB D 116 (zce cy ad) ad) (zA 116 ad)) ([.ref (ad 4), .ref (ad 5), .int p1] : List Value).toArray s 0 0 (zA 116 ad)) (F0 m 0 ls [])
  unfold wp_X2_findRoomForShelf at h
  refine lv_aload_n hx hb dX2_findRoomForShelf_0 rfl (lv_at hl 1 rfl) ?_
  refine lv_iload_n hx hb dX2_findRoomForShelf_1 rfl (lv_at hl 2 rfl) ?_
  refine k_X4_heightOf (rest := []) hx hb hml hown hts gX2_findRoomForShelf_X4_heightOf ⟨Nat.le_of_ble_eq_true rfl, Nat.le_of_ble_eq_true rfl⟩ ⟨Nat.zero_le _, Nat.zero_le _⟩ hK hj hw hA hS hl.1 (Nat.le_of_ble_eq_true rfl) dX2_findRoomForShelf_2 h (fun r1 s1 H locs h hw hS => ?_)
  refine lv_istore_n (lv' := [(3, .int r1), (0, .ref (ad 4)), (1, .ref (ad 5)), (2, .int p1)]) hx hb dX2_findRoomForShelf_5 rfl hl (by decide) rfl (fun ls hl => ?_)
  refine lv_iconst (v := (jI 0)) hx hb dX2_findRoomForShelf_6 rfl ?_
  refine lv_istore (lv' := [(4, .int (jI 0)), (3, .int r1), (0, .ref (ad 4)), (1, .ref (ad 5)), (2, .int p1)]) hx hb dX2_findRoomForShelf_7 hl (by decide) rfl (fun ls hl => ?_)
  have k31_9 : ∀ (u_31 : ST) (z4_31 : Int32) (H : Heap) (locs : List Loc), wp_X4_countShelves u_31 z4_31 (fun r3 s3 => wp_X2_choose s3 (jI 2) ((z4_31 * (jI 24)) + r3) (jI 0) (fun s4 => Q s4)) → zW D 116 (zce cy ad u_31) ad H → va_S (zA 116 ad) s.heap H locs → ∀ ls : Array Slot, lv_has ls 5 [(0, .ref (ad 4)), (1, .ref (ad 5)), (4, .int z4_31)] → W p l e ({ frames := 2, cells := 0, slots := 0, locals := 44 } : Room) s m ([.ref (ad 4), .ref (ad 5), .int p1] : List Value).toArray below meth c H locs 0 0 (MQ below (va_Qv Q (zB D 116 (zce cy ad) ad) (zA 116 ad)) ([.ref (ad 4), .ref (ad 5), .int p1] : List Value).toArray s 0 0 (zA 116 ad)) (F0 m 31 ls []) := by
    intro u_31 z4_31 H locs h hw hS ls hl
    refine lv_aload_n hx hb dX2_findRoomForShelf_31 rfl (lv_at hl 0 rfl) ?_
    refine lv_iconst (v := (jI 2)) hx hb dX2_findRoomForShelf_32 rfl ?_
    refine lv_iload hx hb dX2_findRoomForShelf_33 (lv_at hl 2 rfl) ?_
    refine lv_bipush (v := (jI 24)) hx hb dX2_findRoomForShelf_35 (by decide +kernel) ?_
    refine lv_imul hx hb dX2_findRoomForShelf_37 ?_
    refine lv_aload_n hx hb dX2_findRoomForShelf_38 rfl (lv_at hl 1 rfl) ?_
    refine lv_iload hx hb dX2_findRoomForShelf_39 (lv_at hl 2 rfl) ?_
    refine k_X4_countShelves (rest := [.int (z4_31 * (jI 24)), .int (jI 2), .ref (ad 4)]) hx hb hml hown hts gX2_findRoomForShelf_X4_countShelves ⟨Nat.le_of_ble_eq_true rfl, Nat.le_of_ble_eq_true rfl⟩ ⟨Nat.zero_le _, Nat.zero_le _⟩ hK hj hw hA hS hl.1 (Nat.le_of_ble_eq_true rfl) dX2_findRoomForShelf_41 h (fun r3 s3 H locs h hw hS => ?_)
    refine lv_iadd hx hb dX2_findRoomForShelf_44 ?_
    refine lv_iconst (v := (jI 0)) hx hb dX2_findRoomForShelf_45 rfl ?_
    refine k_X2_choose (rest := []) hx hb hml hown hts gX2_findRoomForShelf_X2_choose ⟨Nat.le_of_ble_eq_true rfl, Nat.le_of_ble_eq_true rfl⟩ ⟨Nat.zero_le _, Nat.zero_le _⟩ hK hj hw hA hS hl.1 (Nat.le_of_ble_eq_true rfl) dX2_findRoomForShelf_46 h (fun s4 H locs h hw hS => ?_)
    exact W.vret hx hb hr (fun t ht hW => ⟨⟨_, rfl, h, zend hw ht⟩, hS.F ht⟩) hS.2.2 dX2_findRoomForShelf_49
  have k56_9 : ∀ (u_56 : ST) (H : Heap) (locs : List Loc), Q u_56 → zW D 116 (zce cy ad u_56) ad H → va_S (zA 116 ad) s.heap H locs → ∀ ls : Array Slot, lv_has ls 5 [] → W p l e ({ frames := 2, cells := 0, slots := 0, locals := 44 } : Room) s m ([.ref (ad 4), .ref (ad 5), .int p1] : List Value).toArray below meth c H locs 0 0 (MQ below (va_Qv Q (zB D 116 (zce cy ad) ad) (zA 116 ad)) ([.ref (ad 4), .ref (ad 5), .int p1] : List Value).toArray s 0 0 (zA 116 ad)) (F0 m 56 ls []) := by
    intro u_56 H locs h hw hS ls hl
    exact W.vret hx hb hr (fun t ht hW => ⟨⟨_, rfl, h, zend hw ht⟩, hS.F ht⟩) hS.2.2 dX2_findRoomForShelf_56
  have lp9 : ∀ (nn9 : Nat) (t_9 : ST) (y4_9 : Int32) (H : Heap) (locs : List Loc), wl_X2_findRoomForShelf_9 (fun u_31 z4_31 => wp_X4_countShelves u_31 z4_31 (fun r3 s3 => wp_X2_choose s3 (jI 2) ((z4_31 * (jI 24)) + r3) (jI 0) (fun s4 => Q s4))) (fun u_56 => Q u_56) r1 nn9 t_9 y4_9 → zW D 116 (zce cy ad t_9) ad H → va_S (zA 116 ad) s.heap H locs → ∀ ls : Array Slot, lv_has ls 5 [(0, .ref (ad 4)), (1, .ref (ad 5)), (3, .int r1), (4, .int y4_9)] → W p l e ({ frames := 2, cells := 0, slots := 0, locals := 44 } : Room) s m ([.ref (ad 4), .ref (ad 5), .int p1] : List Value).toArray below meth c H locs 0 0 (MQ below (va_Qv Q (zB D 116 (zce cy ad) ad) (zA 116 ad)) ([.ref (ad 4), .ref (ad 5), .int p1] : List Value).toArray s 0 0 (zA 116 ad)) (F0 m 9 ls []) := by
    intro nn9
    induction nn9 with
    | zero => intro _ _ _ _ h; exact h.elim
    | succ nn9 ih9 =>
      intro t_9 y4_9 H locs h hw hS ls hl
      simp only [wl_X2_findRoomForShelf_9, wb_X2_findRoomForShelf_9] at h
      refine lv_iload hx hb dX2_findRoomForShelf_9 (lv_at hl 3 rfl) ?_
      refine lv_aload_n hx hb dX2_findRoomForShelf_11 rfl (lv_at hl 1 rfl) ?_
      refine zgetN (own := RX2) (index := 70) (host := "TypeTrays") hx hb hts inX4 hown hK hw 5 (by decide) rfl rfl 11 (by decide) (by decide +kernel) (fun _ h9 => h9) rfl dX2_findRoomForShelf_12 ?_
      refine lv_icmp_ge (tgt := 56) hx hb dX2_findRoomForShelf_15 (by decide) (fun c1 => ?_) (fun c1 => ?_)
      · have h := h.1 c1
        exact k56_9 _ _ _ h hw hS _ (lv_sub hl [] rfl)
      · have h := h.2 c1
        refine lv_aload_n hx hb dX2_findRoomForShelf_18 rfl (lv_at hl 1 rfl) ?_
        refine lv_iload hx hb dX2_findRoomForShelf_19 (lv_at hl 3 rfl) ?_
        refine k_X4_heightOfShelves (rest := []) hx hb hml hown hts gX2_findRoomForShelf_X4_heightOfShelves ⟨Nat.le_of_ble_eq_true rfl, Nat.le_of_ble_eq_true rfl⟩ ⟨Nat.zero_le _, Nat.zero_le _⟩ hK hj hw hA hS hl.1 (Nat.le_of_ble_eq_true rfl) dX2_findRoomForShelf_21 h (fun r2 s2 H locs h hw hS => ?_)
        refine lv_iload_n hx hb dX2_findRoomForShelf_24 rfl (lv_at hl 2 rfl) ?_
        refine lv_iadd hx hb dX2_findRoomForShelf_25 ?_
        refine lv_bipush (v := (jI 24)) hx hb dX2_findRoomForShelf_26 (by decide +kernel) ?_
        refine lv_icmp_gt (tgt := 50) hx hb dX2_findRoomForShelf_28 (by decide) (fun c2 => ?_) (fun c2 => ?_)
        · have h := h.1 c2
          obtain ⟨x1, ex1⟩ : ∃ y : Int32, y = y4_9 + (jI 1) := ⟨_, rfl⟩
          have h := h x1 ex1
          refine lv_iinc (v := x1) (lv' := [(4, .int x1), (0, .ref (ad 4)), (1, .ref (ad 5)), (3, .int r1)]) hx hb dX2_findRoomForShelf_50 hl (k := 3) rfl (by rw [ex1]; rfl) (by decide) rfl (fun ls hl => ?_)
          refine lv_goto (tgt := 9) hx hb dX2_findRoomForShelf_53 (by decide) ?_
          exact ih9 _ _ _ _ h hw hS _ (lv_sub hl [1, 2, 3, 0] rfl)
        · have h := h.2 c2
          exact k31_9 _ _ _ _ h hw hS _ (lv_sub hl [0, 1, 3] rfl)
  obtain ⟨nn9, h⟩ := h
  exact lp9 nn9 _ _ _ _ h hw hS _ (lv_sub hl [2, 3, 1, 0] rfl)
theorem k_X2_findRoomForShelf {p : Program} {l : Launch} {e : Env} {R : Room} {s : State} {m : MethodId} {args : Array Value} {below : List Frame} {meth : Method} {c : Code} {H : Heap} {locs : List Loc} {cells slots : Nat} {QQ : State → Prop} {cc : ByteArray} {pc nL index : Nat} {ls : Array Slot} {rest : List Value} {D : va_G} {cy : cyT} {ad : Nat → Nat} {own : String} {Ts : List Cond} {H0 : Heap} {σ : ST} {p1 : Int32} {Q : ST → Prop} (hx : p.tables.exec = Jvm.exec) (hb : c.code = cc) (hml : c.maxLocals = nL) (hown : s.vm.findClass own = some m.cls) (hts : ∀ w ∈ Ts, w.before args s = true) (hG : GoodIn Ts (wsV own index RX2 yX2_findRoomForShelf wsX2_findRoomForShelf)) (hR : 2 + 1 ≤ R.frames ∧ 8 + (5 + 11) + 44 ≤ R.locals) (hcs : cells ≤ R.cells ∧ slots ≤ R.slots) (hK : zK D cy s) (hj : zI 116 ad) (hw : zW D 116 (zce cy ad σ) ad H) {A0 : Nat → Prop} (hA : ∀ i, i < 116 → A0 (ad i)) (hS : va_S A0 H0 H locs) (hsz : ls.size = nL) (hrest : (rest.map fun v => v.category).sum ≤ 8) (hdg : decode cc pc = .ok (.invokevirtual index, 3)) (h : wp_X2_findRoomForShelf σ p1 Q) (kk : ∀ (σ : ST) (H : Heap) (locs : List Loc), Q σ → zW D 116 (zce cy ad σ) ad H → va_S A0 H0 H locs → W p l e R s m args below meth c H locs cells slots QQ (F0 m (pc + 3) ls rest)) : W p l e R s m args below meth c H locs cells slots QQ (F0 m pc ls (.int p1 :: .ref (ad 5) :: .ref (ad 4) :: rest)) :=
  zcallv (va_runV (As := [.ref (ad 5), .int p1]) (rest := rest) ⟨hx, hb, hml, hown, hts⟩ (c_X2_findRoomForShelf l D cy ad σ p1 h) (cwV 2 hts hG rfl rfl rfl (by decide +kernel) hR) (zpreV hj hK hw _ (i := 4) (ci := 1) (by decide) rfl rfl) rfl rfl hsz rfl (lv_room hrest) hdg hcs) hA hS kk
set_option maxHeartbeats 4000000 in
set_option maxRecDepth 100000 in
theorem c_X4_isOfLine (l : Launch) (D : va_G) (cy : cyT) (ad : Nat → Nat) (σ : ST) (p0 : Int32) {Q : Int32 → ST → Prop} (h : wp_X4_isOfLine σ p0 Q) : Met l yX4_isOfLine wsX4_isOfLine ({ frames := 1, cells := 0, slots := 0, locals := 21 } : Room) (zPre D cy 116 (zce cy ad σ) ad [.ref (ad 5), .int p0]) (va_Qi Q (zB D 116 (zce cy ad) ad) (zA 116 ad)) 0 0 (zA 116 ad) := by
  refine Met.ofW (cc := cX4_isOfLine) (maxL := 2) (ret := (some .boolean)) (by decide) rfl ?_
  intro p e s m args below meth c s₁ B hml hv
  obtain ⟨rfl, hj, hK, hw⟩ := hv
  have hx := B.exec
  have hb := B.bytes
  have hr := B.returns
  have hts := atoms_spec (ws := wsX4_isOfLine) B.pre
  have hown : s.vm.findClass RX4 = some m.cls := findClass_of_methodNamed B.named
  have hlocks := B.notSynchronized
  have lk0 : Cond.fieldLink RX4 38 "TypeTrays$State" "lines" "LTypeTrays$Row;" ∈ wsX4_isOfLine := List.mem_of_getElem? (i := 1) rfl
  have lk1 : Cond.fieldLink RX4 54 "TypeTrays$State" "line" "I" ∈ wsX4_isOfLine := List.mem_of_getElem? (i := 2) rfl
  have inX4 : ∀ w ∈ u_ws RX4 TX4 18, w ∈ wsX4_isOfLine := zin_at 9 rfl
  have hS : va_S (zA 116 ad) s.heap s.heap [] := va_S.rf
  have hA : ∀ i, i < 116 → zA 116 ad (ad i) := fun i hi => ⟨i, hi, rfl⟩
  have hl := lv_entry ([.ref (ad 5), .int p0]) (n := 2) (Nat.le_of_ble_eq_true rfl)
  rw [lg_entry_eq]
  generalize (lg_sl ([.ref (ad 5), .int p0]) ++ List.replicate (2 - (lg_sl ([.ref (ad 5), .int p0])).length) Slot.unset).toArray = ls at hl ⊢
  have hl : lv_has ls 2 [(0, .ref (ad 5)), (1, .int p0)] := hl
  show W p l e ({ frames := 1, cells := 0, slots := 0, locals := 21 } : Room) s m ([.ref (ad 5), .int p0] : List Value).toArray below meth c s.heap [] 0 0 (MQ below (va_Qi Q (zB D 116 (zce cy ad) ad) (zA 116 ad)) ([.ref (ad 5), .int p0] : List Value).toArray s 0 0 (zA 116 ad)) (F0 m 0 ls [])
  unfold wp_X4_isOfLine at h
  refine lv_aload_n hx hb dX4_isOfLine_0 rfl (lv_at hl 0 rfl) ?_
  refine zget hx hb hts inX4 hown hK hw 5 (by decide) rfl rfl 7 (by decide) lk0 (fun _ h9 => h9) rfl dX4_isOfLine_1 ?_
  refine lv_iload_n hx hb dX4_isOfLine_4 rfl (lv_at hl 1 rfl) ?_
  refine zcall_get (rest := []) hx hb hml hown hts gX4_isOfLine_X3_get ⟨Nat.le_of_ble_eq_true rfl, Nat.le_of_ble_eq_true rfl⟩ ⟨Nat.zero_le _, Nat.zero_le _⟩ hK hj hw hA hS 7 (by decide) hl.1 (Nat.le_of_ble_eq_true rfl) dX4_isOfLine_5 (fun H locs hw hS => ?_)
  refine lv_topi (fun v1 ev1 => ?_)
  have h := h v1 ev1
  refine lv_aload_n hx hb dX4_isOfLine_8 rfl (lv_at hl 0 rfl) ?_
  refine zget hx hb hts inX4 hown hK hw 5 (by decide) rfl rfl 12 (by decide) lk1 (fun _ h9 => h9) rfl dX4_isOfLine_9 ?_
  refine lv_icmp_ne (tgt := 19) hx hb dX4_isOfLine_12 (by decide) (fun c1 => ?_) (fun c1 => ?_)
  · have h := h.2 c1
    refine lv_iconst (v := (jI 0)) hx hb dX4_isOfLine_19 rfl ?_
    exact W.zret (v := (jI 0)) (ty := .boolean) hx hb hr (by decide +kernel) (fun t ht hW => ⟨⟨_, _, rfl, h, zend hw ht⟩, hS.F ht⟩) hS.2.2 dX4_isOfLine_20
  · have h := h.1 c1
    refine lv_iconst (v := (jI 1)) hx hb dX4_isOfLine_15 rfl ?_
    refine lv_goto (tgt := 20) hx hb dX4_isOfLine_16 (by decide) ?_
    exact W.zret (v := (jI 1)) (ty := .boolean) hx hb hr (by decide +kernel) (fun t ht hW => ⟨⟨_, _, rfl, h, zend hw ht⟩, hS.F ht⟩) hS.2.2 dX4_isOfLine_20
theorem k_X4_isOfLine {p : Program} {l : Launch} {e : Env} {R : Room} {s : State} {m : MethodId} {args : Array Value} {below : List Frame} {meth : Method} {c : Code} {H : Heap} {locs : List Loc} {cells slots : Nat} {QQ : State → Prop} {cc : ByteArray} {pc nL index : Nat} {ls : Array Slot} {rest : List Value} {D : va_G} {cy : cyT} {ad : Nat → Nat} {own : String} {Ts : List Cond} {H0 : Heap} {σ : ST} {p0 : Int32} {Q : Int32 → ST → Prop} (hx : p.tables.exec = Jvm.exec) (hb : c.code = cc) (hml : c.maxLocals = nL) (hown : s.vm.findClass own = some m.cls) (hts : ∀ w ∈ Ts, w.before args s = true) (hG : GoodIn Ts (wsV own index RX4 yX4_isOfLine wsX4_isOfLine)) (hR : 1 + 1 ≤ R.frames ∧ 8 + (2 + 11) + 21 ≤ R.locals) (hcs : cells ≤ R.cells ∧ slots ≤ R.slots) (hK : zK D cy s) (hj : zI 116 ad) (hw : zW D 116 (zce cy ad σ) ad H) {A0 : Nat → Prop} (hA : ∀ i, i < 116 → A0 (ad i)) (hS : va_S A0 H0 H locs) (hsz : ls.size = nL) (hrest : (rest.map fun v => v.category).sum ≤ 8) (hdg : decode cc pc = .ok (.invokevirtual index, 3)) (h : wp_X4_isOfLine σ p0 Q) (kk : ∀ (r : Int32) (σ : ST) (H : Heap) (locs : List Loc), Q r σ → zW D 116 (zce cy ad σ) ad H → va_S A0 H0 H locs → W p l e R s m args below meth c H locs cells slots QQ (F0 m (pc + 3) ls (.int r :: rest))) : W p l e R s m args below meth c H locs cells slots QQ (F0 m pc ls (.int p0 :: .ref (ad 5) :: rest)) :=
  zcalli (va_runV (As := [.int p0]) (rest := rest) ⟨hx, hb, hml, hown, hts⟩ (c_X4_isOfLine l D cy ad σ p0 h) (cwV 1 hts hG rfl rfl rfl (by decide +kernel) hR) (zpreV hj hK hw _ (i := 5) (ci := 3) (by decide) rfl rfl) rfl rfl hsz rfl (lv_room hrest) hdg hcs) hA hS kk
set_option maxHeartbeats 4000000 in
set_option maxRecDepth 100000 in
theorem c_X4_hasLetterOfLine (l : Launch) (D : va_G) (cy : cyT) (ad : Nat → Nat) (σ : ST) (p0 : Int32) {Q : Int32 → ST → Prop} (h : wp_X4_hasLetterOfLine σ p0 Q) : Met l yX4_hasLetterOfLine wsX4_hasLetterOfLine ({ frames := 2, cells := 0, slots := 0, locals := 42 } : Room) (zPre D cy 116 (zce cy ad σ) ad [.ref (ad 5), .int p0]) (va_Qi Q (zB D 116 (zce cy ad) ad) (zA 116 ad)) 0 0 (zA 116 ad) := by
  refine Met.ofW (cc := cX4_hasLetterOfLine) (maxL := 4) (ret := (some .boolean)) (by decide) rfl ?_
  intro p e s m args below meth c s₁ B hml hv
  obtain ⟨rfl, hj, hK, hw⟩ := hv
  have hx := B.exec
  have hb := B.bytes
  have hr := B.returns
  have hts := atoms_spec (ws := wsX4_hasLetterOfLine) B.pre
  have hown : s.vm.findClass RX4 = some m.cls := findClass_of_methodNamed B.named
  have hlocks := B.notSynchronized
  have lk0 : Cond.fieldLink RX4 47 "TypeTrays$State" "presentCount" "I" ∈ wsX4_hasLetterOfLine := List.mem_of_getElem? (i := 1) rfl
  have lk1 : Cond.fieldLink RX4 44 "TypeTrays$State" "present" "LTypeTrays$Row;" ∈ wsX4_hasLetterOfLine := List.mem_of_getElem? (i := 2) rfl
  have lk2 : Cond.fieldLink RX4 26 "TypeTrays$State" "slots" "LTypeTrays$Row;" ∈ wsX4_hasLetterOfLine := List.mem_of_getElem? (i := 3) rfl
  have inX4 : ∀ w ∈ u_ws RX4 TX4 18, w ∈ wsX4_hasLetterOfLine := zin_at 17 rfl
  have hS : va_S (zA 116 ad) s.heap s.heap [] := va_S.rf
  have hA : ∀ i, i < 116 → zA 116 ad (ad i) := fun i hi => ⟨i, hi, rfl⟩
  have hl := lv_entry ([.ref (ad 5), .int p0]) (n := 4) (Nat.le_of_ble_eq_true rfl)
  rw [lg_entry_eq]
  generalize (lg_sl ([.ref (ad 5), .int p0]) ++ List.replicate (4 - (lg_sl ([.ref (ad 5), .int p0])).length) Slot.unset).toArray = ls at hl ⊢
  have hl : lv_has ls 4 [(0, .ref (ad 5)), (1, .int p0)] := hl
  show W p l e ({ frames := 2, cells := 0, slots := 0, locals := 42 } : Room) s m ([.ref (ad 5), .int p0] : List Value).toArray below meth c s.heap [] 0 0 (MQ below (va_Qi Q (zB D 116 (zce cy ad) ad) (zA 116 ad)) ([.ref (ad 5), .int p0] : List Value).toArray s 0 0 (zA 116 ad)) (F0 m 0 ls [])
  unfold wp_X4_hasLetterOfLine at h
  refine lv_iconst (v := (jI 0)) hx hb dX4_hasLetterOfLine_0 rfl ?_
  refine lv_istore_n (lv' := [(2, .int (jI 0)), (0, .ref (ad 5)), (1, .int p0)]) hx hb dX4_hasLetterOfLine_1 rfl hl (by decide) rfl (fun ls hl => ?_)
  have k39_2 : ∀ (u_39 : ST) (H : Heap) (locs : List Loc), Q (jI 1) u_39 → zW D 116 (zce cy ad u_39) ad H → va_S (zA 116 ad) s.heap H locs → ∀ ls : Array Slot, lv_has ls 4 [] → W p l e ({ frames := 2, cells := 0, slots := 0, locals := 42 } : Room) s m ([.ref (ad 5), .int p0] : List Value).toArray below meth c H locs 0 0 (MQ below (va_Qi Q (zB D 116 (zce cy ad) ad) (zA 116 ad)) ([.ref (ad 5), .int p0] : List Value).toArray s 0 0 (zA 116 ad)) (F0 m 39 ls []) := by
    intro u_39 H locs h hw hS ls hl
    refine lv_iconst (v := (jI 1)) hx hb dX4_hasLetterOfLine_39 rfl ?_
    exact W.zret (v := (jI 1)) (ty := .boolean) hx hb hr (by decide +kernel) (fun t ht hW => ⟨⟨_, _, rfl, h, zend hw ht⟩, hS.F ht⟩) hS.2.2 dX4_hasLetterOfLine_40
  have k47_2 : ∀ (u_47 : ST) (H : Heap) (locs : List Loc), Q (jI 0) u_47 → zW D 116 (zce cy ad u_47) ad H → va_S (zA 116 ad) s.heap H locs → ∀ ls : Array Slot, lv_has ls 4 [] → W p l e ({ frames := 2, cells := 0, slots := 0, locals := 42 } : Room) s m ([.ref (ad 5), .int p0] : List Value).toArray below meth c H locs 0 0 (MQ below (va_Qi Q (zB D 116 (zce cy ad) ad) (zA 116 ad)) ([.ref (ad 5), .int p0] : List Value).toArray s 0 0 (zA 116 ad)) (F0 m 47 ls []) := by
    intro u_47 H locs h hw hS ls hl
    refine lv_iconst (v := (jI 0)) hx hb dX4_hasLetterOfLine_47 rfl ?_
    exact W.zret (v := (jI 0)) (ty := .boolean) hx hb hr (by decide +kernel) (fun t ht hW => ⟨⟨_, _, rfl, h, zend hw ht⟩, hS.F ht⟩) hS.2.2 dX4_hasLetterOfLine_48
  have lp2 : ∀ (nn2 : Nat) (t_2 : ST) (y2_2 : Int32) (H : Heap) (locs : List Loc), wl_X4_hasLetterOfLine_2 (fun u_39 => Q (jI 1) u_39) (fun u_47 => Q (jI 0) u_47) p0 nn2 t_2 y2_2 → zW D 116 (zce cy ad t_2) ad H → va_S (zA 116 ad) s.heap H locs → ∀ ls : Array Slot, lv_has ls 4 [(0, .ref (ad 5)), (1, .int p0), (2, .int y2_2)] → W p l e ({ frames := 2, cells := 0, slots := 0, locals := 42 } : Room) s m ([.ref (ad 5), .int p0] : List Value).toArray below meth c H locs 0 0 (MQ below (va_Qi Q (zB D 116 (zce cy ad) ad) (zA 116 ad)) ([.ref (ad 5), .int p0] : List Value).toArray s 0 0 (zA 116 ad)) (F0 m 2 ls []) := by
    intro nn2
    induction nn2 with
    | zero => intro _ _ _ _ h; exact h.elim
    | succ nn2 ih2 =>
      intro t_2 y2_2 H locs h hw hS ls hl
      simp only [wl_X4_hasLetterOfLine_2, wb_X4_hasLetterOfLine_2] at h
      refine lv_iload_n hx hb dX4_hasLetterOfLine_2 rfl (lv_at hl 2 rfl) ?_
      refine lv_aload_n hx hb dX4_hasLetterOfLine_3 rfl (lv_at hl 0 rfl) ?_
      refine zget hx hb hts inX4 hown hK hw 5 (by decide) rfl rfl 10 (by decide) lk0 (fun _ h9 => h9) rfl dX4_hasLetterOfLine_4 ?_
      refine lv_icmp_ge (tgt := 47) hx hb dX4_hasLetterOfLine_7 (by decide) (fun c1 => ?_) (fun c1 => ?_)
      · have h := h.1 c1
        exact k47_2 _ _ _ h hw hS _ (lv_sub hl [] rfl)
      · have h := h.2 c1
        refine lv_aload_n hx hb dX4_hasLetterOfLine_10 rfl (lv_at hl 0 rfl) ?_
        refine zget hx hb hts inX4 hown hK hw 5 (by decide) rfl rfl 9 (by decide) lk1 (fun _ h9 => h9) rfl dX4_hasLetterOfLine_11 ?_
        refine lv_iload_n hx hb dX4_hasLetterOfLine_14 rfl (lv_at hl 2 rfl) ?_
        refine zcall_get (rest := []) hx hb hml hown hts gX4_hasLetterOfLine_X3_get ⟨Nat.le_of_ble_eq_true rfl, Nat.le_of_ble_eq_true rfl⟩ ⟨Nat.zero_le _, Nat.zero_le _⟩ hK hj hw hA hS 9 (by decide) hl.1 (Nat.le_of_ble_eq_true rfl) dX4_hasLetterOfLine_15 (fun H locs hw hS => ?_)
        refine lv_topi (fun v1 ev1 => ?_)
        have h := h v1 ev1
        refine lv_istore_n (lv' := [(3, .int v1), (0, .ref (ad 5)), (1, .int p0), (2, .int y2_2)]) hx hb dX4_hasLetterOfLine_18 rfl hl (by decide) rfl (fun ls hl => ?_)
        refine lv_aload_n hx hb dX4_hasLetterOfLine_19 rfl (lv_at hl 1 rfl) ?_
        refine zget hx hb hts inX4 hown hK hw 5 (by decide) rfl rfl 3 (by decide) lk2 (fun _ h9 => h9) rfl dX4_hasLetterOfLine_20 ?_
        refine lv_iload_n hx hb dX4_hasLetterOfLine_23 rfl (lv_at hl 0 rfl) ?_
        refine zcall_get (rest := []) hx hb hml hown hts gX4_hasLetterOfLine_X3_get ⟨Nat.le_of_ble_eq_true rfl, Nat.le_of_ble_eq_true rfl⟩ ⟨Nat.zero_le _, Nat.zero_le _⟩ hK hj hw hA hS 3 (by decide) hl.1 (Nat.le_of_ble_eq_true rfl) dX4_hasLetterOfLine_24 (fun H locs hw hS => ?_)
        refine lv_topi (fun v2 ev2 => ?_)
        have h := h v2 ev2
        refine lv_iload_n hx hb dX4_hasLetterOfLine_27 rfl (lv_at hl 2 rfl) ?_
        refine lv_icmp_ne (tgt := 41) hx hb dX4_hasLetterOfLine_28 (by decide) (fun c2 => ?_) (fun c2 => ?_)
        · have h := h.2 c2
          obtain ⟨x1, ex1⟩ : ∃ y : Int32, y = y2_2 + (jI 1) := ⟨_, rfl⟩
          have h := h x1 ex1
          refine lv_iinc (v := x1) (lv' := [(2, .int x1), (3, .int v1), (0, .ref (ad 5)), (1, .int p0)]) hx hb dX4_hasLetterOfLine_41 hl (k := 3) rfl (by rw [ex1]; rfl) (by decide) rfl (fun ls hl => ?_)
          refine lv_goto (tgt := 2) hx hb dX4_hasLetterOfLine_44 (by decide) ?_
          exact ih2 _ _ _ _ h hw hS _ (lv_sub hl [2, 3, 0] rfl)
        · have h := h.1 c2
          refine lv_aload_n hx hb dX4_hasLetterOfLine_31 rfl (lv_at hl 1 rfl) ?_
          refine lv_iload_n hx hb dX4_hasLetterOfLine_32 rfl (lv_at hl 0 rfl) ?_
          refine k_X4_isOfLine (rest := []) hx hb hml hown hts gX4_hasLetterOfLine_X4_isOfLine ⟨Nat.le_of_ble_eq_true rfl, Nat.le_of_ble_eq_true rfl⟩ ⟨Nat.zero_le _, Nat.zero_le _⟩ hK hj hw hA hS hl.1 (Nat.le_of_ble_eq_true rfl) dX4_hasLetterOfLine_33 h (fun r1 s1 H locs h hw hS => ?_)
          refine zif_eq (tgt := 41) hx hb dX4_hasLetterOfLine_36 (by decide) (fun c3 => ?_) (fun c3 => ?_)
          · have h := h.1 c3
            obtain ⟨x2, ex2⟩ : ∃ y : Int32, y = y2_2 + (jI 1) := ⟨_, rfl⟩
            have h := h x2 ex2
            refine lv_iinc (v := x2) (lv' := [(2, .int x2), (3, .int v1), (0, .ref (ad 5)), (1, .int p0)]) hx hb dX4_hasLetterOfLine_41 hl (k := 3) rfl (by rw [ex2]; rfl) (by decide) rfl (fun ls hl => ?_)
            refine lv_goto (tgt := 2) hx hb dX4_hasLetterOfLine_44 (by decide) ?_
            exact ih2 _ _ _ _ h hw hS _ (lv_sub hl [2, 3, 0] rfl)
          · have h := h.2 c3
            exact k39_2 _ _ _ h hw hS _ (lv_sub hl [] rfl)
  obtain ⟨nn2, h⟩ := h
  exact lp2 nn2 _ _ _ _ h hw hS _ (lv_sub hl [1, 2, 0] rfl)
theorem k_X4_hasLetterOfLine {p : Program} {l : Launch} {e : Env} {R : Room} {s : State} {m : MethodId} {args : Array Value} {below : List Frame} {meth : Method} {c : Code} {H : Heap} {locs : List Loc} {cells slots : Nat} {QQ : State → Prop} {cc : ByteArray} {pc nL index : Nat} {ls : Array Slot} {rest : List Value} {D : va_G} {cy : cyT} {ad : Nat → Nat} {own : String} {Ts : List Cond} {H0 : Heap} {σ : ST} {p0 : Int32} {Q : Int32 → ST → Prop} (hx : p.tables.exec = Jvm.exec) (hb : c.code = cc) (hml : c.maxLocals = nL) (hown : s.vm.findClass own = some m.cls) (hts : ∀ w ∈ Ts, w.before args s = true) (hG : GoodIn Ts (wsV own index RX4 yX4_hasLetterOfLine wsX4_hasLetterOfLine)) (hR : 2 + 1 ≤ R.frames ∧ 8 + (4 + 11) + 42 ≤ R.locals) (hcs : cells ≤ R.cells ∧ slots ≤ R.slots) (hK : zK D cy s) (hj : zI 116 ad) (hw : zW D 116 (zce cy ad σ) ad H) {A0 : Nat → Prop} (hA : ∀ i, i < 116 → A0 (ad i)) (hS : va_S A0 H0 H locs) (hsz : ls.size = nL) (hrest : (rest.map fun v => v.category).sum ≤ 8) (hdg : decode cc pc = .ok (.invokevirtual index, 3)) (h : wp_X4_hasLetterOfLine σ p0 Q) (kk : ∀ (r : Int32) (σ : ST) (H : Heap) (locs : List Loc), Q r σ → zW D 116 (zce cy ad σ) ad H → va_S A0 H0 H locs → W p l e R s m args below meth c H locs cells slots QQ (F0 m (pc + 3) ls (.int r :: rest))) : W p l e R s m args below meth c H locs cells slots QQ (F0 m pc ls (.int p0 :: .ref (ad 5) :: rest)) :=
  zcalli (va_runV (As := [.int p0]) (rest := rest) ⟨hx, hb, hml, hown, hts⟩ (c_X4_hasLetterOfLine l D cy ad σ p0 h) (cwV 1 hts hG rfl rfl rfl (by decide +kernel) hR) (zpreV hj hK hw _ (i := 5) (ci := 3) (by decide) rfl rfl) rfl rfl hsz rfl (lv_room hrest) hdg hcs) hA hS kk
set_option maxHeartbeats 4000000 in
set_option maxRecDepth 100000 in
theorem c_X4_latestUseOnShelf (l : Launch) (D : va_G) (cy : cyT) (ad : Nat → Nat) (σ : ST) (p0 : Int32) {Q : Int32 → ST → Prop} (h : wp_X4_latestUseOnShelf σ p0 Q) : Met l yX4_latestUseOnShelf wsX4_latestUseOnShelf ({ frames := 1, cells := 0, slots := 0, locals := 21 } : Room) (zPre D cy 116 (zce cy ad σ) ad [.ref (ad 5), .int p0]) (va_Qi Q (zB D 116 (zce cy ad) ad) (zA 116 ad)) 0 0 (zA 116 ad) := by
  refine Met.ofW (cc := cX4_latestUseOnShelf) (maxL := 5) (ret := (some .int)) (by decide) rfl ?_
  intro p e s m args below meth c s₁ B hml hv
  obtain ⟨rfl, hj, hK, hw⟩ := hv
  have hx := B.exec
  have hb := B.bytes
  have hr := B.returns
  have hts := atoms_spec (ws := wsX4_latestUseOnShelf) B.pre
  have hown : s.vm.findClass RX4 = some m.cls := findClass_of_methodNamed B.named
  have hlocks := B.notSynchronized
  have lk0 : Cond.fieldLink RX4 47 "TypeTrays$State" "presentCount" "I" ∈ wsX4_latestUseOnShelf := List.mem_of_getElem? (i := 1) rfl
  have lk1 : Cond.fieldLink RX4 44 "TypeTrays$State" "present" "LTypeTrays$Row;" ∈ wsX4_latestUseOnShelf := List.mem_of_getElem? (i := 2) rfl
  have lk2 : Cond.fieldLink RX4 26 "TypeTrays$State" "slots" "LTypeTrays$Row;" ∈ wsX4_latestUseOnShelf := List.mem_of_getElem? (i := 3) rfl
  have lk3 : Cond.fieldLink RX4 35 "TypeTrays$State" "latestUses" "LTypeTrays$Row;" ∈ wsX4_latestUseOnShelf := List.mem_of_getElem? (i := 4) rfl
  have lk4 : Cond.methodLink RX4 202 Lib.Math.max.name ∈ wsX4_latestUseOnShelf := List.mem_of_getElem? (i := 5) rfl
  have lk5 : Cond.static Lib.Math.max.name ∈ wsX4_latestUseOnShelf := List.mem_of_getElem? (i := 6) rfl
  have lk6 : Cond.initialized "java/lang/Math" ∈ wsX4_latestUseOnShelf := List.mem_of_getElem? (i := 7) rfl
  have lk7 : Cond.code Lib.Math.max.name Lib.Math.max.code 2 (some .int) ∈ wsX4_latestUseOnShelf := List.mem_of_getElem? (i := 8) rfl
  have inX4 : ∀ w ∈ u_ws RX4 TX4 18, w ∈ wsX4_latestUseOnShelf := zin_at 15 rfl
  have hS : va_S (zA 116 ad) s.heap s.heap [] := va_S.rf
  have hA : ∀ i, i < 116 → zA 116 ad (ad i) := fun i hi => ⟨i, hi, rfl⟩
  have hl := lv_entry ([.ref (ad 5), .int p0]) (n := 5) (Nat.le_of_ble_eq_true rfl)
  rw [lg_entry_eq]
  generalize (lg_sl ([.ref (ad 5), .int p0]) ++ List.replicate (5 - (lg_sl ([.ref (ad 5), .int p0])).length) Slot.unset).toArray = ls at hl ⊢
  have hl : lv_has ls 5 [(0, .ref (ad 5)), (1, .int p0)] := hl
  show W p l e ({ frames := 1, cells := 0, slots := 0, locals := 21 } : Room) s m ([.ref (ad 5), .int p0] : List Value).toArray below meth c s.heap [] 0 0 (MQ below (va_Qi Q (zB D 116 (zce cy ad) ad) (zA 116 ad)) ([.ref (ad 5), .int p0] : List Value).toArray s 0 0 (zA 116 ad)) (F0 m 0 ls [])
  unfold wp_X4_latestUseOnShelf at h
  refine lv_iconst (v := (jI (-1))) hx hb dX4_latestUseOnShelf_0 rfl ?_
  refine lv_istore_n (lv' := [(2, .int (jI (-1))), (0, .ref (ad 5)), (1, .int p0)]) hx hb dX4_latestUseOnShelf_1 rfl hl (by decide) rfl (fun ls hl => ?_)
  refine lv_iconst (v := (jI 0)) hx hb dX4_latestUseOnShelf_2 rfl ?_
  refine lv_istore_n (lv' := [(3, .int (jI 0)), (2, .int (jI (-1))), (0, .ref (ad 5)), (1, .int p0)]) hx hb dX4_latestUseOnShelf_3 rfl hl (by decide) rfl (fun ls hl => ?_)
  have k55_4 : ∀ (u_55 : ST) (z2_55 : Int32) (H : Heap) (locs : List Loc), Q z2_55 u_55 → zW D 116 (zce cy ad u_55) ad H → va_S (zA 116 ad) s.heap H locs → ∀ ls : Array Slot, lv_has ls 5 [(2, .int z2_55)] → W p l e ({ frames := 1, cells := 0, slots := 0, locals := 21 } : Room) s m ([.ref (ad 5), .int p0] : List Value).toArray below meth c H locs 0 0 (MQ below (va_Qi Q (zB D 116 (zce cy ad) ad) (zA 116 ad)) ([.ref (ad 5), .int p0] : List Value).toArray s 0 0 (zA 116 ad)) (F0 m 55 ls []) := by
    intro u_55 z2_55 H locs h hw hS ls hl
    refine lv_iload_n hx hb dX4_latestUseOnShelf_55 rfl (lv_at hl 0 rfl) ?_
    exact W.iret (v := z2_55) hx hb hr (fun t ht hW => ⟨⟨_, _, rfl, h, zend hw ht⟩, hS.F ht⟩) hS.2.2 dX4_latestUseOnShelf_56
  have lp4 : ∀ (nn4 : Nat) (t_4 : ST) (y2_4 : Int32) (y3_4 : Int32) (H : Heap) (locs : List Loc), wl_X4_latestUseOnShelf_4 (fun u_55 z2_55 => Q z2_55 u_55) p0 nn4 t_4 y2_4 y3_4 → zW D 116 (zce cy ad t_4) ad H → va_S (zA 116 ad) s.heap H locs → ∀ ls : Array Slot, lv_has ls 5 [(0, .ref (ad 5)), (1, .int p0), (2, .int y2_4), (3, .int y3_4)] → W p l e ({ frames := 1, cells := 0, slots := 0, locals := 21 } : Room) s m ([.ref (ad 5), .int p0] : List Value).toArray below meth c H locs 0 0 (MQ below (va_Qi Q (zB D 116 (zce cy ad) ad) (zA 116 ad)) ([.ref (ad 5), .int p0] : List Value).toArray s 0 0 (zA 116 ad)) (F0 m 4 ls []) := by
    intro nn4
    induction nn4 with
    | zero => intro _ _ _ _ _ h; exact h.elim
    | succ nn4 ih4 =>
      intro t_4 y2_4 y3_4 H locs h hw hS ls hl
      simp only [wl_X4_latestUseOnShelf_4, wb_X4_latestUseOnShelf_4] at h
      refine lv_iload_n hx hb dX4_latestUseOnShelf_4 rfl (lv_at hl 3 rfl) ?_
      refine lv_aload_n hx hb dX4_latestUseOnShelf_5 rfl (lv_at hl 0 rfl) ?_
      refine zget hx hb hts inX4 hown hK hw 5 (by decide) rfl rfl 10 (by decide) lk0 (fun _ h9 => h9) rfl dX4_latestUseOnShelf_6 ?_
      refine lv_icmp_ge (tgt := 55) hx hb dX4_latestUseOnShelf_9 (by decide) (fun c1 => ?_) (fun c1 => ?_)
      · have h := h.1 c1
        exact k55_4 _ _ _ _ h hw hS _ (lv_sub hl [2] rfl)
      · have h := h.2 c1
        refine lv_aload_n hx hb dX4_latestUseOnShelf_12 rfl (lv_at hl 0 rfl) ?_
        refine zget hx hb hts inX4 hown hK hw 5 (by decide) rfl rfl 9 (by decide) lk1 (fun _ h9 => h9) rfl dX4_latestUseOnShelf_13 ?_
        refine lv_iload_n hx hb dX4_latestUseOnShelf_16 rfl (lv_at hl 3 rfl) ?_
        refine zcall_get (rest := []) hx hb hml hown hts gX4_latestUseOnShelf_X3_get ⟨Nat.le_of_ble_eq_true rfl, Nat.le_of_ble_eq_true rfl⟩ ⟨Nat.zero_le _, Nat.zero_le _⟩ hK hj hw hA hS 9 (by decide) hl.1 (Nat.le_of_ble_eq_true rfl) dX4_latestUseOnShelf_17 (fun H locs hw hS => ?_)
        refine lv_topi (fun v1 ev1 => ?_)
        have h := h v1 ev1
        refine lv_istore (lv' := [(4, .int v1), (0, .ref (ad 5)), (1, .int p0), (2, .int y2_4), (3, .int y3_4)]) hx hb dX4_latestUseOnShelf_20 hl (by decide) rfl (fun ls hl => ?_)
        refine lv_aload_n hx hb dX4_latestUseOnShelf_22 rfl (lv_at hl 1 rfl) ?_
        refine zget hx hb hts inX4 hown hK hw 5 (by decide) rfl rfl 3 (by decide) lk2 (fun _ h9 => h9) rfl dX4_latestUseOnShelf_23 ?_
        refine lv_iload hx hb dX4_latestUseOnShelf_26 (lv_at hl 0 rfl) ?_
        refine zcall_get (rest := []) hx hb hml hown hts gX4_latestUseOnShelf_X3_get ⟨Nat.le_of_ble_eq_true rfl, Nat.le_of_ble_eq_true rfl⟩ ⟨Nat.zero_le _, Nat.zero_le _⟩ hK hj hw hA hS 3 (by decide) hl.1 (Nat.le_of_ble_eq_true rfl) dX4_latestUseOnShelf_28 (fun H locs hw hS => ?_)
        refine lv_topi (fun v2 ev2 => ?_)
        have h := h v2 ev2
        refine lv_iload_n hx hb dX4_latestUseOnShelf_31 rfl (lv_at hl 2 rfl) ?_
        refine lv_icmp_ne (tgt := 49) hx hb dX4_latestUseOnShelf_32 (by decide) (fun c2 => ?_) (fun c2 => ?_)
        · have h := h.2 c2
          obtain ⟨x1, ex1⟩ : ∃ y : Int32, y = y3_4 + (jI 1) := ⟨_, rfl⟩
          have h := h x1 ex1
          refine lv_iinc (v := x1) (lv' := [(3, .int x1), (4, .int v1), (0, .ref (ad 5)), (1, .int p0), (2, .int y2_4)]) hx hb dX4_latestUseOnShelf_49 hl (k := 4) rfl (by rw [ex1]; rfl) (by decide) rfl (fun ls hl => ?_)
          refine lv_goto (tgt := 4) hx hb dX4_latestUseOnShelf_52 (by decide) ?_
          exact ih4 _ _ _ _ _ h hw hS _ (lv_sub hl [2, 3, 4, 0] rfl)
        · have h := h.1 c2
          refine lv_iload_n hx hb dX4_latestUseOnShelf_35 rfl (lv_at hl 3 rfl) ?_
          refine lv_aload_n hx hb dX4_latestUseOnShelf_36 rfl (lv_at hl 1 rfl) ?_
          refine zget hx hb hts inX4 hown hK hw 5 (by decide) rfl rfl 6 (by decide) lk3 (fun _ h9 => h9) rfl dX4_latestUseOnShelf_37 ?_
          refine lv_iload hx hb dX4_latestUseOnShelf_40 (lv_at hl 0 rfl) ?_
          refine zcall_get (rest := [.int y2_4]) hx hb hml hown hts gX4_latestUseOnShelf_X3_get ⟨Nat.le_of_ble_eq_true rfl, Nat.le_of_ble_eq_true rfl⟩ ⟨Nat.zero_le _, Nat.zero_le _⟩ hK hj hw hA hS 6 (by decide) hl.1 (Nat.le_of_ble_eq_true rfl) dX4_latestUseOnShelf_42 (fun H locs hw hS => ?_)
          refine lv_topi (fun v3 ev3 => ?_)
          have h := h v3 ev3
          refine va_mmax hx hb (by rw [hml]; exact hl.1.symm) hown (hts _ lk4) (hts _ lk5) (hts _ lk6) (hts _ lk7) (Nat.le_of_ble_eq_true rfl) (Nat.le_of_ble_eq_true rfl) (Nat.zero_le _) (Nat.zero_le _) dX4_latestUseOnShelf_45 ?_
          refine lv_topi (fun x2 ex2 => ?_)
          have h := h x2 ex2
          refine lv_istore_n (lv' := [(2, .int x2), (4, .int v1), (0, .ref (ad 5)), (1, .int p0), (3, .int y3_4)]) hx hb dX4_latestUseOnShelf_48 rfl hl (by decide) rfl (fun ls hl => ?_)
          obtain ⟨x3, ex3⟩ : ∃ y : Int32, y = y3_4 + (jI 1) := ⟨_, rfl⟩
          have h := h x3 ex3
          refine lv_iinc (v := x3) (lv' := [(3, .int x3), (2, .int x2), (4, .int v1), (0, .ref (ad 5)), (1, .int p0)]) hx hb dX4_latestUseOnShelf_49 hl (k := 4) rfl (by rw [ex3]; rfl) (by decide) rfl (fun ls hl => ?_)
          refine lv_goto (tgt := 4) hx hb dX4_latestUseOnShelf_52 (by decide) ?_
          exact ih4 _ _ _ _ _ h hw hS _ (lv_sub hl [3, 4, 1, 0] rfl)
  obtain ⟨nn4, h⟩ := h
  exact lp4 nn4 _ _ _ _ _ h hw hS _ (lv_sub hl [2, 3, 1, 0] rfl)
theorem k_X4_latestUseOnShelf {p : Program} {l : Launch} {e : Env} {R : Room} {s : State} {m : MethodId} {args : Array Value} {below : List Frame} {meth : Method} {c : Code} {H : Heap} {locs : List Loc} {cells slots : Nat} {QQ : State → Prop} {cc : ByteArray} {pc nL index : Nat} {ls : Array Slot} {rest : List Value} {D : va_G} {cy : cyT} {ad : Nat → Nat} {own : String} {Ts : List Cond} {H0 : Heap} {σ : ST} {p0 : Int32} {Q : Int32 → ST → Prop} (hx : p.tables.exec = Jvm.exec) (hb : c.code = cc) (hml : c.maxLocals = nL) (hown : s.vm.findClass own = some m.cls) (hts : ∀ w ∈ Ts, w.before args s = true) (hG : GoodIn Ts (wsV own index RX4 yX4_latestUseOnShelf wsX4_latestUseOnShelf)) (hR : 1 + 1 ≤ R.frames ∧ 8 + (5 + 11) + 21 ≤ R.locals) (hcs : cells ≤ R.cells ∧ slots ≤ R.slots) (hK : zK D cy s) (hj : zI 116 ad) (hw : zW D 116 (zce cy ad σ) ad H) {A0 : Nat → Prop} (hA : ∀ i, i < 116 → A0 (ad i)) (hS : va_S A0 H0 H locs) (hsz : ls.size = nL) (hrest : (rest.map fun v => v.category).sum ≤ 8) (hdg : decode cc pc = .ok (.invokevirtual index, 3)) (h : wp_X4_latestUseOnShelf σ p0 Q) (kk : ∀ (r : Int32) (σ : ST) (H : Heap) (locs : List Loc), Q r σ → zW D 116 (zce cy ad σ) ad H → va_S A0 H0 H locs → W p l e R s m args below meth c H locs cells slots QQ (F0 m (pc + 3) ls (.int r :: rest))) : W p l e R s m args below meth c H locs cells slots QQ (F0 m pc ls (.int p0 :: .ref (ad 5) :: rest)) :=
  zcalli (va_runV (As := [.int p0]) (rest := rest) ⟨hx, hb, hml, hown, hts⟩ (c_X4_latestUseOnShelf l D cy ad σ p0 h) (cwV 1 hts hG rfl rfl rfl (by decide +kernel) hR) (zpreV hj hK hw _ (i := 5) (ci := 3) (by decide) rfl rfl) rfl rfl hsz rfl (lv_room hrest) hdg hcs) hA hS kk
set_option maxHeartbeats 4000000 in
set_option maxRecDepth 100000 in
theorem c_X4_countOnShelf (l : Launch) (D : va_G) (cy : cyT) (ad : Nat → Nat) (σ : ST) (p0 : Int32) {Q : Int32 → ST → Prop} (h : wp_X4_countOnShelf σ p0 Q) : Met l yX4_countOnShelf wsX4_countOnShelf ({ frames := 1, cells := 0, slots := 0, locals := 21 } : Room) (zPre D cy 116 (zce cy ad σ) ad [.ref (ad 5), .int p0]) (va_Qi Q (zB D 116 (zce cy ad) ad) (zA 116 ad)) 0 0 (zA 116 ad) := by
  refine Met.ofW (cc := cX4_countOnShelf) (maxL := 4) (ret := (some .int)) (by decide) rfl ?_
  intro p e s m args below meth c s₁ B hml hv
  obtain ⟨rfl, hj, hK, hw⟩ := hv
  have hx := B.exec
  have hb := B.bytes
  have hr := B.returns
  have hts := atoms_spec (ws := wsX4_countOnShelf) B.pre
  have hown : s.vm.findClass RX4 = some m.cls := findClass_of_methodNamed B.named
  have hlocks := B.notSynchronized
  have lk0 : Cond.fieldLink RX4 47 "TypeTrays$State" "presentCount" "I" ∈ wsX4_countOnShelf := List.mem_of_getElem? (i := 1) rfl
  have lk1 : Cond.fieldLink RX4 26 "TypeTrays$State" "slots" "LTypeTrays$Row;" ∈ wsX4_countOnShelf := List.mem_of_getElem? (i := 2) rfl
  have lk2 : Cond.fieldLink RX4 44 "TypeTrays$State" "present" "LTypeTrays$Row;" ∈ wsX4_countOnShelf := List.mem_of_getElem? (i := 3) rfl
  have inX4 : ∀ w ∈ u_ws RX4 TX4 18, w ∈ wsX4_countOnShelf := zin_at 10 rfl
  have hS : va_S (zA 116 ad) s.heap s.heap [] := va_S.rf
  have hA : ∀ i, i < 116 → zA 116 ad (ad i) := fun i hi => ⟨i, hi, rfl⟩
  have hl := lv_entry ([.ref (ad 5), .int p0]) (n := 4) (Nat.le_of_ble_eq_true rfl)
  rw [lg_entry_eq]
  generalize (lg_sl ([.ref (ad 5), .int p0]) ++ List.replicate (4 - (lg_sl ([.ref (ad 5), .int p0])).length) Slot.unset).toArray = ls at hl ⊢
  have hl : lv_has ls 4 [(0, .ref (ad 5)), (1, .int p0)] := hl
  show W p l e ({ frames := 1, cells := 0, slots := 0, locals := 21 } : Room) s m ([.ref (ad 5), .int p0] : List Value).toArray below meth c s.heap [] 0 0 (MQ below (va_Qi Q (zB D 116 (zce cy ad) ad) (zA 116 ad)) ([.ref (ad 5), .int p0] : List Value).toArray s 0 0 (zA 116 ad)) (F0 m 0 ls [])
  unfold wp_X4_countOnShelf at h
  refine lv_iconst (v := (jI 0)) hx hb dX4_countOnShelf_0 rfl ?_
  refine lv_istore_n (lv' := [(2, .int (jI 0)), (0, .ref (ad 5)), (1, .int p0)]) hx hb dX4_countOnShelf_1 rfl hl (by decide) rfl (fun ls hl => ?_)
  refine lv_iconst (v := (jI 0)) hx hb dX4_countOnShelf_2 rfl ?_
  refine lv_istore_n (lv' := [(3, .int (jI 0)), (2, .int (jI 0)), (0, .ref (ad 5)), (1, .int p0)]) hx hb dX4_countOnShelf_3 rfl hl (by decide) rfl (fun ls hl => ?_)
  have k40_4 : ∀ (u_40 : ST) (z2_40 : Int32) (H : Heap) (locs : List Loc), Q z2_40 u_40 → zW D 116 (zce cy ad u_40) ad H → va_S (zA 116 ad) s.heap H locs → ∀ ls : Array Slot, lv_has ls 4 [(2, .int z2_40)] → W p l e ({ frames := 1, cells := 0, slots := 0, locals := 21 } : Room) s m ([.ref (ad 5), .int p0] : List Value).toArray below meth c H locs 0 0 (MQ below (va_Qi Q (zB D 116 (zce cy ad) ad) (zA 116 ad)) ([.ref (ad 5), .int p0] : List Value).toArray s 0 0 (zA 116 ad)) (F0 m 40 ls []) := by
    intro u_40 z2_40 H locs h hw hS ls hl
    refine lv_iload_n hx hb dX4_countOnShelf_40 rfl (lv_at hl 0 rfl) ?_
    exact W.iret (v := z2_40) hx hb hr (fun t ht hW => ⟨⟨_, _, rfl, h, zend hw ht⟩, hS.F ht⟩) hS.2.2 dX4_countOnShelf_41
  have lp4 : ∀ (nn4 : Nat) (t_4 : ST) (y2_4 : Int32) (y3_4 : Int32) (H : Heap) (locs : List Loc), wl_X4_countOnShelf_4 (fun u_40 z2_40 => Q z2_40 u_40) p0 nn4 t_4 y2_4 y3_4 → zW D 116 (zce cy ad t_4) ad H → va_S (zA 116 ad) s.heap H locs → ∀ ls : Array Slot, lv_has ls 4 [(0, .ref (ad 5)), (1, .int p0), (2, .int y2_4), (3, .int y3_4)] → W p l e ({ frames := 1, cells := 0, slots := 0, locals := 21 } : Room) s m ([.ref (ad 5), .int p0] : List Value).toArray below meth c H locs 0 0 (MQ below (va_Qi Q (zB D 116 (zce cy ad) ad) (zA 116 ad)) ([.ref (ad 5), .int p0] : List Value).toArray s 0 0 (zA 116 ad)) (F0 m 4 ls []) := by
    intro nn4
    induction nn4 with
    | zero => intro _ _ _ _ _ h; exact h.elim
    | succ nn4 ih4 =>
      intro t_4 y2_4 y3_4 H locs h hw hS ls hl
      simp only [wl_X4_countOnShelf_4, wb_X4_countOnShelf_4] at h
      refine lv_iload_n hx hb dX4_countOnShelf_4 rfl (lv_at hl 3 rfl) ?_
      refine lv_aload_n hx hb dX4_countOnShelf_5 rfl (lv_at hl 0 rfl) ?_
      refine zget hx hb hts inX4 hown hK hw 5 (by decide) rfl rfl 10 (by decide) lk0 (fun _ h9 => h9) rfl dX4_countOnShelf_6 ?_
      refine lv_icmp_ge (tgt := 40) hx hb dX4_countOnShelf_9 (by decide) (fun c1 => ?_) (fun c1 => ?_)
      · have h := h.1 c1
        exact k40_4 _ _ _ _ h hw hS _ (lv_sub hl [2] rfl)
      · have h := h.2 c1
        refine lv_aload_n hx hb dX4_countOnShelf_12 rfl (lv_at hl 0 rfl) ?_
        refine zget hx hb hts inX4 hown hK hw 5 (by decide) rfl rfl 3 (by decide) lk1 (fun _ h9 => h9) rfl dX4_countOnShelf_13 ?_
        refine lv_aload_n hx hb dX4_countOnShelf_16 rfl (lv_at hl 0 rfl) ?_
        refine zget hx hb hts inX4 hown hK hw 5 (by decide) rfl rfl 9 (by decide) lk2 (fun _ h9 => h9) rfl dX4_countOnShelf_17 ?_
        refine lv_iload_n hx hb dX4_countOnShelf_20 rfl (lv_at hl 3 rfl) ?_
        refine zcall_get (rest := [.ref (ad 16)]) hx hb hml hown hts gX4_countOnShelf_X3_get ⟨Nat.le_of_ble_eq_true rfl, Nat.le_of_ble_eq_true rfl⟩ ⟨Nat.zero_le _, Nat.zero_le _⟩ hK hj hw hA hS 9 (by decide) hl.1 (Nat.le_of_ble_eq_true rfl) dX4_countOnShelf_21 (fun H locs hw hS => ?_)
        refine lv_topi (fun v1 ev1 => ?_)
        have h := h v1 ev1
        refine zcall_get (rest := []) hx hb hml hown hts gX4_countOnShelf_X3_get ⟨Nat.le_of_ble_eq_true rfl, Nat.le_of_ble_eq_true rfl⟩ ⟨Nat.zero_le _, Nat.zero_le _⟩ hK hj hw hA hS 3 (by decide) hl.1 (Nat.le_of_ble_eq_true rfl) dX4_countOnShelf_24 (fun H locs hw hS => ?_)
        refine lv_topi (fun v2 ev2 => ?_)
        have h := h v2 ev2
        refine lv_iload_n hx hb dX4_countOnShelf_27 rfl (lv_at hl 1 rfl) ?_
        refine lv_icmp_ne (tgt := 34) hx hb dX4_countOnShelf_28 (by decide) (fun c2 => ?_) (fun c2 => ?_)
        · have h := h.2 c2
          obtain ⟨x1, ex1⟩ : ∃ y : Int32, y = y3_4 + (jI 1) := ⟨_, rfl⟩
          have h := h x1 ex1
          refine lv_iinc (v := x1) (lv' := [(3, .int x1), (0, .ref (ad 5)), (1, .int p0), (2, .int y2_4)]) hx hb dX4_countOnShelf_34 hl (k := 3) rfl (by rw [ex1]; rfl) (by decide) rfl (fun ls hl => ?_)
          refine lv_goto (tgt := 4) hx hb dX4_countOnShelf_37 (by decide) ?_
          exact ih4 _ _ _ _ _ h hw hS _ (lv_sub hl [1, 2, 3, 0] rfl)
        · have h := h.1 c2
          obtain ⟨x2, ex2⟩ : ∃ y : Int32, y = y2_4 + (jI 1) := ⟨_, rfl⟩
          have h := h x2 ex2
          refine lv_iinc (v := x2) (lv' := [(2, .int x2), (0, .ref (ad 5)), (1, .int p0), (3, .int y3_4)]) hx hb dX4_countOnShelf_31 hl (k := 2) rfl (by rw [ex2]; rfl) (by decide) rfl (fun ls hl => ?_)
          obtain ⟨x3, ex3⟩ : ∃ y : Int32, y = y3_4 + (jI 1) := ⟨_, rfl⟩
          have h := h x3 ex3
          refine lv_iinc (v := x3) (lv' := [(3, .int x3), (2, .int x2), (0, .ref (ad 5)), (1, .int p0)]) hx hb dX4_countOnShelf_34 hl (k := 3) rfl (by rw [ex3]; rfl) (by decide) rfl (fun ls hl => ?_)
          refine lv_goto (tgt := 4) hx hb dX4_countOnShelf_37 (by decide) ?_
          exact ih4 _ _ _ _ _ h hw hS _ (lv_sub hl [2, 3, 1, 0] rfl)
  obtain ⟨nn4, h⟩ := h
  exact lp4 nn4 _ _ _ _ _ h hw hS _ (lv_sub hl [2, 3, 1, 0] rfl)
theorem k_X4_countOnShelf {p : Program} {l : Launch} {e : Env} {R : Room} {s : State} {m : MethodId} {args : Array Value} {below : List Frame} {meth : Method} {c : Code} {H : Heap} {locs : List Loc} {cells slots : Nat} {QQ : State → Prop} {cc : ByteArray} {pc nL index : Nat} {ls : Array Slot} {rest : List Value} {D : va_G} {cy : cyT} {ad : Nat → Nat} {own : String} {Ts : List Cond} {H0 : Heap} {σ : ST} {p0 : Int32} {Q : Int32 → ST → Prop} (hx : p.tables.exec = Jvm.exec) (hb : c.code = cc) (hml : c.maxLocals = nL) (hown : s.vm.findClass own = some m.cls) (hts : ∀ w ∈ Ts, w.before args s = true) (hG : GoodIn Ts (wsV own index RX4 yX4_countOnShelf wsX4_countOnShelf)) (hR : 1 + 1 ≤ R.frames ∧ 8 + (4 + 11) + 21 ≤ R.locals) (hcs : cells ≤ R.cells ∧ slots ≤ R.slots) (hK : zK D cy s) (hj : zI 116 ad) (hw : zW D 116 (zce cy ad σ) ad H) {A0 : Nat → Prop} (hA : ∀ i, i < 116 → A0 (ad i)) (hS : va_S A0 H0 H locs) (hsz : ls.size = nL) (hrest : (rest.map fun v => v.category).sum ≤ 8) (hdg : decode cc pc = .ok (.invokevirtual index, 3)) (h : wp_X4_countOnShelf σ p0 Q) (kk : ∀ (r : Int32) (σ : ST) (H : Heap) (locs : List Loc), Q r σ → zW D 116 (zce cy ad σ) ad H → va_S A0 H0 H locs → W p l e R s m args below meth c H locs cells slots QQ (F0 m (pc + 3) ls (.int r :: rest))) : W p l e R s m args below meth c H locs cells slots QQ (F0 m pc ls (.int p0 :: .ref (ad 5) :: rest)) :=
  zcalli (va_runV (As := [.int p0]) (rest := rest) ⟨hx, hb, hml, hown, hts⟩ (c_X4_countOnShelf l D cy ad σ p0 h) (cwV 1 hts hG rfl rfl rfl (by decide +kernel) hR) (zpreV hj hK hw _ (i := 5) (ci := 3) (by decide) rfl rfl) rfl rfl hsz rfl (lv_room hrest) hdg hcs) hA hS kk
set_option maxHeartbeats 4000000 in
set_option maxRecDepth 100000 in
theorem c_X2_findShelfToEmpty (l : Launch) (D : va_G) (cy : cyT) (ad : Nat → Nat) (σ : ST) (p1 : Int32) {Q : ST → Prop} (h : wp_X2_findShelfToEmpty σ p1 Q) : Met l yX2_findShelfToEmpty wsX2_findShelfToEmpty ({ frames := 3, cells := 0, slots := 0, locals := 65 } : Room) (zPre D cy 116 (zce cy ad σ) ad [.ref (ad 4), .ref (ad 5), .int p1]) (va_Qv Q (zB D 116 (zce cy ad) ad) (zA 116 ad)) 0 0 (zA 116 ad) := by
  refine Met.ofW (cc := cX2_findShelfToEmpty) (maxL := 7) (ret := none) (by decide) rfl ?_
  intro p e s m args below meth c s₁ B hml hv
  obtain ⟨rfl, hj, hK, hw⟩ := hv
  have hx := B.exec
  have hb := B.bytes
  have hr := B.returns
  have hts := atoms_spec (ws := wsX2_findShelfToEmpty) B.pre
  have hown : s.vm.findClass RX2 = some m.cls := findClass_of_methodNamed B.named
  have hlocks := B.notSynchronized
  have lk0 : Cond.fieldLink RX2 9 "TypeTrays$Place" "rule" "I" ∈ wsX2_findShelfToEmpty := List.mem_of_getElem? (i := 1) rfl
  have lk1 : Cond.fieldLink RX2 15 "TypeTrays$Place" "slot" "I" ∈ wsX2_findShelfToEmpty := List.mem_of_getElem? (i := 2) rfl
  have lk2 : Cond.fieldLink RX2 21 "TypeTrays$Place" "taken" "I" ∈ wsX2_findShelfToEmpty := List.mem_of_getElem? (i := 3) rfl
  have inX2 : ∀ w ∈ u_ws RX2 TX2 5, w ∈ wsX2_findShelfToEmpty := zin_at 60 rfl
  have hS : va_S (zA 116 ad) s.heap s.heap [] := va_S.rf
  have hA : ∀ i, i < 116 → zA 116 ad (ad i) := fun i hi => ⟨i, hi, rfl⟩
  have hl := lv_entry ([.ref (ad 4), .ref (ad 5), .int p1]) (n := 7) (Nat.le_of_ble_eq_true rfl)
  rw [lg_entry_eq]
  generalize (lg_sl ([.ref (ad 4), .ref (ad 5), .int p1]) ++ List.replicate (7 - (lg_sl ([.ref (ad 4), .ref (ad 5), .int p1])).length) Slot.unset).toArray = ls at hl ⊢
  have hl : lv_has ls 7 [(0, .ref (ad 4)), (1, .ref (ad 5)), (2, .int p1)] := hl
  show W p l e ({ frames := 3, cells := 0, slots := 0, locals := 65 } : Room) s m ([.ref (ad 4), .ref (ad 5), .int p1] : List Value).toArray below meth c s.heap [] 0 0 (MQ below (va_Qv Q (zB D 116 (zce cy ad) ad) (zA 116 ad)) ([.ref (ad 4), .ref (ad 5), .int p1] : List Value).toArray s 0 0 (zA 116 ad)) (F0 m 0 ls [])
  unfold wp_X2_findShelfToEmpty at h
  refine lv_aload_n hx hb dX2_findShelfToEmpty_0 rfl (lv_at hl 1 rfl) ?_
  refine lv_iload_n hx hb dX2_findShelfToEmpty_1 rfl (lv_at hl 2 rfl) ?_
  refine k_X4_heightOf (rest := []) hx hb hml hown hts gX2_findShelfToEmpty_X4_heightOf ⟨Nat.le_of_ble_eq_true rfl, Nat.le_of_ble_eq_true rfl⟩ ⟨Nat.zero_le _, Nat.zero_le _⟩ hK hj hw hA hS hl.1 (Nat.le_of_ble_eq_true rfl) dX2_findShelfToEmpty_2 h (fun r1 s1 H locs h hw hS => ?_)
  refine lv_istore_n (lv' := [(3, .int r1), (0, .ref (ad 4)), (1, .ref (ad 5)), (2, .int p1)]) hx hb dX2_findShelfToEmpty_5 rfl hl (by decide) rfl (fun ls hl => ?_)
  refine lv_iconst (v := (jI (-1))) hx hb dX2_findShelfToEmpty_6 rfl ?_
  refine lv_istore (lv' := [(4, .int (jI (-1))), (3, .int r1), (0, .ref (ad 4)), (1, .ref (ad 5)), (2, .int p1)]) hx hb dX2_findShelfToEmpty_7 hl (by decide) rfl (fun ls hl => ?_)
  refine lv_iconst (v := (jI 0)) hx hb dX2_findShelfToEmpty_9 rfl ?_
  refine lv_istore (lv' := [(5, .int (jI 0)), (4, .int (jI (-1))), (3, .int r1), (0, .ref (ad 4)), (1, .ref (ad 5)), (2, .int p1)]) hx hb dX2_findShelfToEmpty_10 hl (by decide) rfl (fun ls hl => ?_)
  have k79_12 : ∀ (u_79 : ST) (H : Heap) (locs : List Loc), (((u_79.2 45) = (jI (-1)) → Q u_79) ∧ (¬ (u_79.2 45) = (jI (-1)) → wp_X4_countOnShelf u_79 (u_79.2 46) (fun r5 s7 => (∀ s8 : ST, s8 = zsp s7 48 r5 → Q s8)))) → zW D 116 (zce cy ad u_79) ad H → va_S (zA 116 ad) s.heap H locs → ∀ ls : Array Slot, lv_has ls 7 [(0, .ref (ad 4)), (1, .ref (ad 5))] → W p l e ({ frames := 3, cells := 0, slots := 0, locals := 65 } : Room) s m ([.ref (ad 4), .ref (ad 5), .int p1] : List Value).toArray below meth c H locs 0 0 (MQ below (va_Qv Q (zB D 116 (zce cy ad) ad) (zA 116 ad)) ([.ref (ad 4), .ref (ad 5), .int p1] : List Value).toArray s 0 0 (zA 116 ad)) (F0 m 79 ls []) := by
    intro u_79 H locs h hw hS ls hl
    refine lv_aload_n hx hb dX2_findShelfToEmpty_79 rfl (lv_at hl 0 rfl) ?_
    refine zget hx hb hts inX2 hown hK hw 4 (by decide) rfl rfl 0 (by decide) lk0 (fun _ h9 => h9) rfl dX2_findShelfToEmpty_80 ?_
    refine lv_iconst (v := (jI (-1))) hx hb dX2_findShelfToEmpty_83 rfl ?_
    refine lv_icmp_eq (tgt := 99) hx hb dX2_findShelfToEmpty_84 (by decide) (fun c6 => ?_) (fun c6 => ?_)
    · have h := h.1 c6
      exact W.vret hx hb hr (fun t ht hW => ⟨⟨_, rfl, h, zend hw ht⟩, hS.F ht⟩) hS.2.2 dX2_findShelfToEmpty_99
    · have h := h.2 c6
      refine lv_aload_n hx hb dX2_findShelfToEmpty_87 rfl (lv_at hl 0 rfl) ?_
      refine lv_aload_n hx hb dX2_findShelfToEmpty_88 rfl (lv_at hl 1 rfl) ?_
      refine lv_aload_n hx hb dX2_findShelfToEmpty_89 rfl (lv_at hl 0 rfl) ?_
      refine zget hx hb hts inX2 hown hK hw 4 (by decide) rfl rfl 1 (by decide) lk1 (fun _ h9 => h9) rfl dX2_findShelfToEmpty_90 ?_
      refine k_X4_countOnShelf (rest := [.ref (ad 4)]) hx hb hml hown hts gX2_findShelfToEmpty_X4_countOnShelf ⟨Nat.le_of_ble_eq_true rfl, Nat.le_of_ble_eq_true rfl⟩ ⟨Nat.zero_le _, Nat.zero_le _⟩ hK hj hw hA hS hl.1 (Nat.le_of_ble_eq_true rfl) dX2_findShelfToEmpty_93 h (fun r5 s7 H locs h hw hS => ?_)
      obtain ⟨s8, es8⟩ : ∃ y : ST, y = zsp s7 48 r5 := ⟨_, rfl⟩
      have h := h s8 es8
      refine zput (ty := .int) hx hb hts inX2 tyX2 tyX2_ok nmX2 hown hK hj hw hA hS 4 (by decide) rfl rfl 3 (by decide) lk2 (fun _ h9 => h9) rfl (by decide +kernel) rfl rfl (Nat.le_of_ble_eq_true rfl) dX2_findShelfToEmpty_96 (zce cy ad s8) (by rw [es8]; rfl) (fun j hj9 => by rw [es8]; exact zsp_off_C_48 j hj9) (fun H locs hw hS => ?_)
      exact W.vret hx hb hr (fun t ht hW => ⟨⟨_, rfl, h, zend hw ht⟩, hS.F ht⟩) hS.2.2 dX2_findShelfToEmpty_99
  have lp12 : ∀ (nn12 : Nat) (t_12 : ST) (y4_12 : Int32) (y5_12 : Int32) (H : Heap) (locs : List Loc), wl_X2_findShelfToEmpty_12 (fun u_79 => (((u_79.2 45) = (jI (-1)) → Q u_79) ∧ (¬ (u_79.2 45) = (jI (-1)) → wp_X4_countOnShelf u_79 (u_79.2 46) (fun r5 s7 => (∀ s8 : ST, s8 = zsp s7 48 r5 → Q s8))))) r1 nn12 t_12 y4_12 y5_12 → zW D 116 (zce cy ad t_12) ad H → va_S (zA 116 ad) s.heap H locs → ∀ ls : Array Slot, lv_has ls 7 [(0, .ref (ad 4)), (1, .ref (ad 5)), (3, .int r1), (4, .int y4_12), (5, .int y5_12)] → W p l e ({ frames := 3, cells := 0, slots := 0, locals := 65 } : Room) s m ([.ref (ad 4), .ref (ad 5), .int p1] : List Value).toArray below meth c H locs 0 0 (MQ below (va_Qv Q (zB D 116 (zce cy ad) ad) (zA 116 ad)) ([.ref (ad 4), .ref (ad 5), .int p1] : List Value).toArray s 0 0 (zA 116 ad)) (F0 m 12 ls []) := by
    intro nn12
    induction nn12 with
    | zero => intro _ _ _ _ _ h; exact h.elim
    | succ nn12 ih12 =>
      intro t_12 y4_12 y5_12 H locs h hw hS ls hl
      simp only [wl_X2_findShelfToEmpty_12, wb_X2_findShelfToEmpty_12] at h
      refine lv_iload hx hb dX2_findShelfToEmpty_12 (lv_at hl 4 rfl) ?_
      refine lv_bipush (v := (jI 72)) hx hb dX2_findShelfToEmpty_14 (by decide +kernel) ?_
      refine lv_icmp_ge (tgt := 79) hx hb dX2_findShelfToEmpty_16 (by decide) (fun c1 => ?_) (fun c1 => ?_)
      · have h := h.1 c1
        exact k79_12 _ _ _ h hw hS _ (lv_sub hl [0, 1] rfl)
      · have h := h.2 c1
        refine lv_aload_n hx hb dX2_findShelfToEmpty_19 rfl (lv_at hl 1 rfl) ?_
        refine lv_iload hx hb dX2_findShelfToEmpty_20 (lv_at hl 4 rfl) ?_
        refine k_X4_heightOfShelf (rest := []) hx hb hml hown hts gX2_findShelfToEmpty_X4_heightOfShelf ⟨Nat.le_of_ble_eq_true rfl, Nat.le_of_ble_eq_true rfl⟩ ⟨Nat.zero_le _, Nat.zero_le _⟩ hK hj hw hA hS hl.1 (Nat.le_of_ble_eq_true rfl) dX2_findShelfToEmpty_22 h (fun r2 s2 H locs h hw hS => ?_)
        refine lv_iload_n hx hb dX2_findShelfToEmpty_25 rfl (lv_at hl 2 rfl) ?_
        refine lv_icmp_lt (tgt := 73) hx hb dX2_findShelfToEmpty_26 (by decide) (fun c2 => ?_) (fun c2 => ?_)
        · have h := h.1 c2
          obtain ⟨x1, ex1⟩ : ∃ y : Int32, y = y5_12 + (jI 1) := ⟨_, rfl⟩
          have h := h x1 ex1
          refine lv_iinc (v := x1) (lv' := [(5, .int x1), (0, .ref (ad 4)), (1, .ref (ad 5)), (3, .int r1), (4, .int y4_12)]) hx hb dX2_findShelfToEmpty_73 hl (k := 4) rfl (by rw [ex1]; rfl) (by decide) rfl (fun ls hl => ?_)
          refine lv_goto (tgt := 12) hx hb dX2_findShelfToEmpty_76 (by decide) ?_
          exact ih12 _ _ _ _ _ h hw hS _ (lv_sub hl [1, 2, 3, 4, 0] rfl)
        · have h := h.2 c2
          refine lv_aload_n hx hb dX2_findShelfToEmpty_29 rfl (lv_at hl 1 rfl) ?_
          refine lv_iload hx hb dX2_findShelfToEmpty_30 (lv_at hl 4 rfl) ?_
          refine k_X4_hasLetterOfLine (rest := []) hx hb hml hown hts gX2_findShelfToEmpty_X4_hasLetterOfLine ⟨Nat.le_of_ble_eq_true rfl, Nat.le_of_ble_eq_true rfl⟩ ⟨Nat.zero_le _, Nat.zero_le _⟩ hK hj hw hA hS hl.1 (Nat.le_of_ble_eq_true rfl) dX2_findShelfToEmpty_32 h (fun r3 s3 H locs h hw hS => ?_)
          refine zif_ne (tgt := 73) hx hb dX2_findShelfToEmpty_35 (by decide) (fun c3 => ?_) (fun c3 => ?_)
          · have h := h.2 c3
            obtain ⟨x2, ex2⟩ : ∃ y : Int32, y = y5_12 + (jI 1) := ⟨_, rfl⟩
            have h := h x2 ex2
            refine lv_iinc (v := x2) (lv' := [(5, .int x2), (0, .ref (ad 4)), (1, .ref (ad 5)), (3, .int r1), (4, .int y4_12)]) hx hb dX2_findShelfToEmpty_73 hl (k := 4) rfl (by rw [ex2]; rfl) (by decide) rfl (fun ls hl => ?_)
            refine lv_goto (tgt := 12) hx hb dX2_findShelfToEmpty_76 (by decide) ?_
            exact ih12 _ _ _ _ _ h hw hS _ (lv_sub hl [1, 2, 3, 4, 0] rfl)
          · have h := h.1 c3
            refine lv_aload_n hx hb dX2_findShelfToEmpty_38 rfl (lv_at hl 1 rfl) ?_
            refine lv_iload hx hb dX2_findShelfToEmpty_39 (lv_at hl 4 rfl) ?_
            refine k_X4_latestUseOnShelf (rest := []) hx hb hml hown hts gX2_findShelfToEmpty_X4_latestUseOnShelf ⟨Nat.le_of_ble_eq_true rfl, Nat.le_of_ble_eq_true rfl⟩ ⟨Nat.zero_le _, Nat.zero_le _⟩ hK hj hw hA hS hl.1 (Nat.le_of_ble_eq_true rfl) dX2_findShelfToEmpty_41 h (fun r4 s4 H locs h hw hS => ?_)
            refine lv_istore (lv' := [(6, .int r4), (0, .ref (ad 4)), (1, .ref (ad 5)), (3, .int r1), (4, .int y4_12), (5, .int y5_12)]) hx hb dX2_findShelfToEmpty_44 hl (by decide) rfl (fun ls hl => ?_)
            refine lv_aload_n hx hb dX2_findShelfToEmpty_46 rfl (lv_at hl 1 rfl) ?_
            refine zget hx hb hts inX2 hown hK hw 4 (by decide) rfl rfl 0 (by decide) lk0 (fun _ h9 => h9) rfl dX2_findShelfToEmpty_47 ?_
            refine lv_iconst (v := (jI (-1))) hx hb dX2_findShelfToEmpty_50 rfl ?_
            refine lv_icmp_eq (tgt := 61) hx hb dX2_findShelfToEmpty_51 (by decide) (fun c4 => ?_) (fun c4 => ?_)
            · have h := h.1 c4
              refine lv_aload_n hx hb dX2_findShelfToEmpty_61 rfl (lv_at hl 1 rfl) ?_
              refine lv_iconst (v := (jI 3)) hx hb dX2_findShelfToEmpty_62 rfl ?_
              refine lv_iload hx hb dX2_findShelfToEmpty_63 (lv_at hl 5 rfl) ?_
              refine lv_iconst (v := (jI 0)) hx hb dX2_findShelfToEmpty_65 rfl ?_
              refine k_X2_choose (rest := []) hx hb hml hown hts gX2_findShelfToEmpty_X2_choose ⟨Nat.le_of_ble_eq_true rfl, Nat.le_of_ble_eq_true rfl⟩ ⟨Nat.zero_le _, Nat.zero_le _⟩ hK hj hw hA hS hl.1 (Nat.le_of_ble_eq_true rfl) dX2_findShelfToEmpty_66 h (fun s5 H locs h hw hS => ?_)
              refine lv_iload hx hb dX2_findShelfToEmpty_69 (lv_at hl 0 rfl) ?_
              refine lv_istore (lv' := [(4, .int r4), (6, .int r4), (0, .ref (ad 4)), (1, .ref (ad 5)), (3, .int r1), (5, .int y5_12)]) hx hb dX2_findShelfToEmpty_71 hl (by decide) rfl (fun ls hl => ?_)
              obtain ⟨x3, ex3⟩ : ∃ y : Int32, y = y5_12 + (jI 1) := ⟨_, rfl⟩
              have h := h x3 ex3
              refine lv_iinc (v := x3) (lv' := [(5, .int x3), (4, .int r4), (6, .int r4), (0, .ref (ad 4)), (1, .ref (ad 5)), (3, .int r1)]) hx hb dX2_findShelfToEmpty_73 hl (k := 5) rfl (by rw [ex3]; rfl) (by decide) rfl (fun ls hl => ?_)
              refine lv_goto (tgt := 12) hx hb dX2_findShelfToEmpty_76 (by decide) ?_
              exact ih12 _ _ _ _ _ h hw hS _ (lv_sub hl [3, 4, 5, 1, 0] rfl)
            · have h := h.2 c4
              refine lv_iload hx hb dX2_findShelfToEmpty_54 (lv_at hl 0 rfl) ?_
              refine lv_iload hx hb dX2_findShelfToEmpty_56 (lv_at hl 4 rfl) ?_
              refine lv_icmp_ge (tgt := 73) hx hb dX2_findShelfToEmpty_58 (by decide) (fun c5 => ?_) (fun c5 => ?_)
              · have h := h.1 c5
                obtain ⟨x4, ex4⟩ : ∃ y : Int32, y = y5_12 + (jI 1) := ⟨_, rfl⟩
                have h := h x4 ex4
                refine lv_iinc (v := x4) (lv' := [(5, .int x4), (6, .int r4), (0, .ref (ad 4)), (1, .ref (ad 5)), (3, .int r1), (4, .int y4_12)]) hx hb dX2_findShelfToEmpty_73 hl (k := 5) rfl (by rw [ex4]; rfl) (by decide) rfl (fun ls hl => ?_)
                refine lv_goto (tgt := 12) hx hb dX2_findShelfToEmpty_76 (by decide) ?_
                exact ih12 _ _ _ _ _ h hw hS _ (lv_sub hl [2, 3, 4, 5, 0] rfl)
              · have h := h.2 c5
                refine lv_aload_n hx hb dX2_findShelfToEmpty_61 rfl (lv_at hl 1 rfl) ?_
                refine lv_iconst (v := (jI 3)) hx hb dX2_findShelfToEmpty_62 rfl ?_
                refine lv_iload hx hb dX2_findShelfToEmpty_63 (lv_at hl 5 rfl) ?_
                refine lv_iconst (v := (jI 0)) hx hb dX2_findShelfToEmpty_65 rfl ?_
                refine k_X2_choose (rest := []) hx hb hml hown hts gX2_findShelfToEmpty_X2_choose ⟨Nat.le_of_ble_eq_true rfl, Nat.le_of_ble_eq_true rfl⟩ ⟨Nat.zero_le _, Nat.zero_le _⟩ hK hj hw hA hS hl.1 (Nat.le_of_ble_eq_true rfl) dX2_findShelfToEmpty_66 h (fun s6 H locs h hw hS => ?_)
                refine lv_iload hx hb dX2_findShelfToEmpty_69 (lv_at hl 0 rfl) ?_
                refine lv_istore (lv' := [(4, .int r4), (6, .int r4), (0, .ref (ad 4)), (1, .ref (ad 5)), (3, .int r1), (5, .int y5_12)]) hx hb dX2_findShelfToEmpty_71 hl (by decide) rfl (fun ls hl => ?_)
                obtain ⟨x5, ex5⟩ : ∃ y : Int32, y = y5_12 + (jI 1) := ⟨_, rfl⟩
                have h := h x5 ex5
                refine lv_iinc (v := x5) (lv' := [(5, .int x5), (4, .int r4), (6, .int r4), (0, .ref (ad 4)), (1, .ref (ad 5)), (3, .int r1)]) hx hb dX2_findShelfToEmpty_73 hl (k := 5) rfl (by rw [ex5]; rfl) (by decide) rfl (fun ls hl => ?_)
                refine lv_goto (tgt := 12) hx hb dX2_findShelfToEmpty_76 (by decide) ?_
                exact ih12 _ _ _ _ _ h hw hS _ (lv_sub hl [3, 4, 5, 1, 0] rfl)
  obtain ⟨nn12, h⟩ := h
  exact lp12 nn12 _ _ _ _ _ h hw hS _ (lv_sub hl [3, 4, 2, 1, 0] rfl)
theorem k_X2_findShelfToEmpty {p : Program} {l : Launch} {e : Env} {R : Room} {s : State} {m : MethodId} {args : Array Value} {below : List Frame} {meth : Method} {c : Code} {H : Heap} {locs : List Loc} {cells slots : Nat} {QQ : State → Prop} {cc : ByteArray} {pc nL index : Nat} {ls : Array Slot} {rest : List Value} {D : va_G} {cy : cyT} {ad : Nat → Nat} {own : String} {Ts : List Cond} {H0 : Heap} {σ : ST} {p1 : Int32} {Q : ST → Prop} (hx : p.tables.exec = Jvm.exec) (hb : c.code = cc) (hml : c.maxLocals = nL) (hown : s.vm.findClass own = some m.cls) (hts : ∀ w ∈ Ts, w.before args s = true) (hG : GoodIn Ts (wsV own index RX2 yX2_findShelfToEmpty wsX2_findShelfToEmpty)) (hR : 3 + 1 ≤ R.frames ∧ 8 + (7 + 11) + 65 ≤ R.locals) (hcs : cells ≤ R.cells ∧ slots ≤ R.slots) (hK : zK D cy s) (hj : zI 116 ad) (hw : zW D 116 (zce cy ad σ) ad H) {A0 : Nat → Prop} (hA : ∀ i, i < 116 → A0 (ad i)) (hS : va_S A0 H0 H locs) (hsz : ls.size = nL) (hrest : (rest.map fun v => v.category).sum ≤ 8) (hdg : decode cc pc = .ok (.invokevirtual index, 3)) (h : wp_X2_findShelfToEmpty σ p1 Q) (kk : ∀ (σ : ST) (H : Heap) (locs : List Loc), Q σ → zW D 116 (zce cy ad σ) ad H → va_S A0 H0 H locs → W p l e R s m args below meth c H locs cells slots QQ (F0 m (pc + 3) ls rest)) : W p l e R s m args below meth c H locs cells slots QQ (F0 m pc ls (.int p1 :: .ref (ad 5) :: .ref (ad 4) :: rest)) :=
  zcallv (va_runV (As := [.ref (ad 5), .int p1]) (rest := rest) ⟨hx, hb, hml, hown, hts⟩ (c_X2_findShelfToEmpty l D cy ad σ p1 h) (cwV 2 hts hG rfl rfl rfl (by decide +kernel) hR) (zpreV hj hK hw _ (i := 4) (ci := 1) (by decide) rfl rfl) rfl rfl hsz rfl (lv_room hrest) hdg hcs) hA hS kk
set_option maxHeartbeats 4000000 in
set_option maxRecDepth 100000 in
theorem c_X4_isInStreet (l : Launch) (D : va_G) (cy : cyT) (ad : Nat → Nat) (σ : ST) (p0 : Int32) {Q : Int32 → ST → Prop} (h : wp_X4_isInStreet σ p0 Q) : Met l yX4_isInStreet wsX4_isInStreet ({ frames := 1, cells := 0, slots := 0, locals := 21 } : Room) (zPre D cy 116 (zce cy ad σ) ad [.ref (ad 5), .int p0]) (va_Qi Q (zB D 116 (zce cy ad) ad) (zA 116 ad)) 0 0 (zA 116 ad) := by
  refine Met.ofW (cc := cX4_isInStreet) (maxL := 2) (ret := (some .boolean)) (by decide) rfl ?_
  intro p e s m args below meth c s₁ B hml hv
  obtain ⟨rfl, hj, hK, hw⟩ := hv
  have hx := B.exec
  have hb := B.bytes
  have hr := B.returns
  have hts := atoms_spec (ws := wsX4_isInStreet) B.pre
  have hown : s.vm.findClass RX4 = some m.cls := findClass_of_methodNamed B.named
  have hlocks := B.notSynchronized
  have lk0 : Cond.fieldLink RX4 26 "TypeTrays$State" "slots" "LTypeTrays$Row;" ∈ wsX4_isInStreet := List.mem_of_getElem? (i := 1) rfl
  have inX4 : ∀ w ∈ u_ws RX4 TX4 18, w ∈ wsX4_isInStreet := zin_at 8 rfl
  have hS : va_S (zA 116 ad) s.heap s.heap [] := va_S.rf
  have hA : ∀ i, i < 116 → zA 116 ad (ad i) := fun i hi => ⟨i, hi, rfl⟩
  have hl := lv_entry ([.ref (ad 5), .int p0]) (n := 2) (Nat.le_of_ble_eq_true rfl)
  rw [lg_entry_eq]
  generalize (lg_sl ([.ref (ad 5), .int p0]) ++ List.replicate (2 - (lg_sl ([.ref (ad 5), .int p0])).length) Slot.unset).toArray = ls at hl ⊢
  have hl : lv_has ls 2 [(0, .ref (ad 5)), (1, .int p0)] := hl
  show W p l e ({ frames := 1, cells := 0, slots := 0, locals := 21 } : Room) s m ([.ref (ad 5), .int p0] : List Value).toArray below meth c s.heap [] 0 0 (MQ below (va_Qi Q (zB D 116 (zce cy ad) ad) (zA 116 ad)) ([.ref (ad 5), .int p0] : List Value).toArray s 0 0 (zA 116 ad)) (F0 m 0 ls [])
  unfold wp_X4_isInStreet at h
  refine lv_aload_n hx hb dX4_isInStreet_0 rfl (lv_at hl 0 rfl) ?_
  refine zget hx hb hts inX4 hown hK hw 5 (by decide) rfl rfl 3 (by decide) lk0 (fun _ h9 => h9) rfl dX4_isInStreet_1 ?_
  refine lv_iload_n hx hb dX4_isInStreet_4 rfl (lv_at hl 1 rfl) ?_
  refine zcall_get (rest := []) hx hb hml hown hts gX4_isInStreet_X3_get ⟨Nat.le_of_ble_eq_true rfl, Nat.le_of_ble_eq_true rfl⟩ ⟨Nat.zero_le _, Nat.zero_le _⟩ hK hj hw hA hS 3 (by decide) hl.1 (Nat.le_of_ble_eq_true rfl) dX4_isInStreet_5 (fun H locs hw hS => ?_)
  refine lv_topi (fun v1 ev1 => ?_)
  have h := h v1 ev1
  refine lv_iconst (v := (jI (-1))) hx hb dX4_isInStreet_8 rfl ?_
  refine lv_icmp_ne (tgt := 16) hx hb dX4_isInStreet_9 (by decide) (fun c1 => ?_) (fun c1 => ?_)
  · have h := h.2 c1
    refine lv_iconst (v := (jI 0)) hx hb dX4_isInStreet_16 rfl ?_
    exact W.zret (v := (jI 0)) (ty := .boolean) hx hb hr (by decide +kernel) (fun t ht hW => ⟨⟨_, _, rfl, h, zend hw ht⟩, hS.F ht⟩) hS.2.2 dX4_isInStreet_17
  · have h := h.1 c1
    refine lv_iconst (v := (jI 1)) hx hb dX4_isInStreet_12 rfl ?_
    refine lv_goto (tgt := 17) hx hb dX4_isInStreet_13 (by decide) ?_
    exact W.zret (v := (jI 1)) (ty := .boolean) hx hb hr (by decide +kernel) (fun t ht hW => ⟨⟨_, _, rfl, h, zend hw ht⟩, hS.F ht⟩) hS.2.2 dX4_isInStreet_17
theorem k_X4_isInStreet {p : Program} {l : Launch} {e : Env} {R : Room} {s : State} {m : MethodId} {args : Array Value} {below : List Frame} {meth : Method} {c : Code} {H : Heap} {locs : List Loc} {cells slots : Nat} {QQ : State → Prop} {cc : ByteArray} {pc nL index : Nat} {ls : Array Slot} {rest : List Value} {D : va_G} {cy : cyT} {ad : Nat → Nat} {own : String} {Ts : List Cond} {H0 : Heap} {σ : ST} {p0 : Int32} {Q : Int32 → ST → Prop} (hx : p.tables.exec = Jvm.exec) (hb : c.code = cc) (hml : c.maxLocals = nL) (hown : s.vm.findClass own = some m.cls) (hts : ∀ w ∈ Ts, w.before args s = true) (hG : GoodIn Ts (wsV own index RX4 yX4_isInStreet wsX4_isInStreet)) (hR : 1 + 1 ≤ R.frames ∧ 8 + (2 + 11) + 21 ≤ R.locals) (hcs : cells ≤ R.cells ∧ slots ≤ R.slots) (hK : zK D cy s) (hj : zI 116 ad) (hw : zW D 116 (zce cy ad σ) ad H) {A0 : Nat → Prop} (hA : ∀ i, i < 116 → A0 (ad i)) (hS : va_S A0 H0 H locs) (hsz : ls.size = nL) (hrest : (rest.map fun v => v.category).sum ≤ 8) (hdg : decode cc pc = .ok (.invokevirtual index, 3)) (h : wp_X4_isInStreet σ p0 Q) (kk : ∀ (r : Int32) (σ : ST) (H : Heap) (locs : List Loc), Q r σ → zW D 116 (zce cy ad σ) ad H → va_S A0 H0 H locs → W p l e R s m args below meth c H locs cells slots QQ (F0 m (pc + 3) ls (.int r :: rest))) : W p l e R s m args below meth c H locs cells slots QQ (F0 m pc ls (.int p0 :: .ref (ad 5) :: rest)) :=
  zcalli (va_runV (As := [.int p0]) (rest := rest) ⟨hx, hb, hml, hown, hts⟩ (c_X4_isInStreet l D cy ad σ p0 h) (cwV 1 hts hG rfl rfl rfl (by decide +kernel) hR) (zpreV hj hK hw _ (i := 5) (ci := 3) (by decide) rfl rfl) rfl rfl hsz rfl (lv_room hrest) hdg hcs) hA hS kk
set_option maxHeartbeats 4000000 in
set_option maxRecDepth 100000 in
theorem c_X4_countInStreet (l : Launch) (D : va_G) (cy : cyT) (ad : Nat → Nat) (σ : ST) {Q : Int32 → ST → Prop} (h : wp_X4_countInStreet σ Q) : Met l yX4_countInStreet wsX4_countInStreet ({ frames := 2, cells := 0, slots := 0, locals := 42 } : Room) (zPre D cy 116 (zce cy ad σ) ad [.ref (ad 5)]) (va_Qi Q (zB D 116 (zce cy ad) ad) (zA 116 ad)) 0 0 (zA 116 ad) := by
  refine Met.ofW (cc := cX4_countInStreet) (maxL := 3) (ret := (some .int)) (by decide) rfl ?_
  intro p e s m args below meth c s₁ B hml hv
  obtain ⟨rfl, hj, hK, hw⟩ := hv
  have hx := B.exec
  have hb := B.bytes
  have hr := B.returns
  have hts := atoms_spec (ws := wsX4_countInStreet) B.pre
  have hown : s.vm.findClass RX4 = some m.cls := findClass_of_methodNamed B.named
  have hlocks := B.notSynchronized
  have lk0 : Cond.fieldLink RX4 47 "TypeTrays$State" "presentCount" "I" ∈ wsX4_countInStreet := List.mem_of_getElem? (i := 1) rfl
  have lk1 : Cond.fieldLink RX4 44 "TypeTrays$State" "present" "LTypeTrays$Row;" ∈ wsX4_countInStreet := List.mem_of_getElem? (i := 2) rfl
  have inX4 : ∀ w ∈ u_ws RX4 TX4 18, w ∈ wsX4_countInStreet := zin_at 15 rfl
  have hS : va_S (zA 116 ad) s.heap s.heap [] := va_S.rf
  have hA : ∀ i, i < 116 → zA 116 ad (ad i) := fun i hi => ⟨i, hi, rfl⟩
  have hl := lv_entry ([.ref (ad 5)]) (n := 3) (Nat.le_of_ble_eq_true rfl)
  rw [lg_entry_eq]
  generalize (lg_sl ([.ref (ad 5)]) ++ List.replicate (3 - (lg_sl ([.ref (ad 5)])).length) Slot.unset).toArray = ls at hl ⊢
  have hl : lv_has ls 3 [(0, .ref (ad 5))] := hl
  show W p l e ({ frames := 2, cells := 0, slots := 0, locals := 42 } : Room) s m ([.ref (ad 5)] : List Value).toArray below meth c s.heap [] 0 0 (MQ below (va_Qi Q (zB D 116 (zce cy ad) ad) (zA 116 ad)) ([.ref (ad 5)] : List Value).toArray s 0 0 (zA 116 ad)) (F0 m 0 ls [])
  unfold wp_X4_countInStreet at h
  refine lv_iconst (v := (jI 0)) hx hb dX4_countInStreet_0 rfl ?_
  refine lv_istore_n (lv' := [(1, .int (jI 0)), (0, .ref (ad 5))]) hx hb dX4_countInStreet_1 rfl hl (by decide) rfl (fun ls hl => ?_)
  refine lv_iconst (v := (jI 0)) hx hb dX4_countInStreet_2 rfl ?_
  refine lv_istore_n (lv' := [(2, .int (jI 0)), (1, .int (jI 0)), (0, .ref (ad 5))]) hx hb dX4_countInStreet_3 rfl hl (by decide) rfl (fun ls hl => ?_)
  have k36_4 : ∀ (u_36 : ST) (z1_36 : Int32) (H : Heap) (locs : List Loc), Q z1_36 u_36 → zW D 116 (zce cy ad u_36) ad H → va_S (zA 116 ad) s.heap H locs → ∀ ls : Array Slot, lv_has ls 3 [(1, .int z1_36)] → W p l e ({ frames := 2, cells := 0, slots := 0, locals := 42 } : Room) s m ([.ref (ad 5)] : List Value).toArray below meth c H locs 0 0 (MQ below (va_Qi Q (zB D 116 (zce cy ad) ad) (zA 116 ad)) ([.ref (ad 5)] : List Value).toArray s 0 0 (zA 116 ad)) (F0 m 36 ls []) := by
    intro u_36 z1_36 H locs h hw hS ls hl
    refine lv_iload_n hx hb dX4_countInStreet_36 rfl (lv_at hl 0 rfl) ?_
    exact W.iret (v := z1_36) hx hb hr (fun t ht hW => ⟨⟨_, _, rfl, h, zend hw ht⟩, hS.F ht⟩) hS.2.2 dX4_countInStreet_37
  have lp4 : ∀ (nn4 : Nat) (t_4 : ST) (y1_4 : Int32) (y2_4 : Int32) (H : Heap) (locs : List Loc), wl_X4_countInStreet_4 (fun u_36 z1_36 => Q z1_36 u_36)  nn4 t_4 y1_4 y2_4 → zW D 116 (zce cy ad t_4) ad H → va_S (zA 116 ad) s.heap H locs → ∀ ls : Array Slot, lv_has ls 3 [(0, .ref (ad 5)), (1, .int y1_4), (2, .int y2_4)] → W p l e ({ frames := 2, cells := 0, slots := 0, locals := 42 } : Room) s m ([.ref (ad 5)] : List Value).toArray below meth c H locs 0 0 (MQ below (va_Qi Q (zB D 116 (zce cy ad) ad) (zA 116 ad)) ([.ref (ad 5)] : List Value).toArray s 0 0 (zA 116 ad)) (F0 m 4 ls []) := by
    intro nn4
    induction nn4 with
    | zero => intro _ _ _ _ _ h; exact h.elim
    | succ nn4 ih4 =>
      intro t_4 y1_4 y2_4 H locs h hw hS ls hl
      simp only [wl_X4_countInStreet_4, wb_X4_countInStreet_4] at h
      refine lv_iload_n hx hb dX4_countInStreet_4 rfl (lv_at hl 2 rfl) ?_
      refine lv_aload_n hx hb dX4_countInStreet_5 rfl (lv_at hl 0 rfl) ?_
      refine zget hx hb hts inX4 hown hK hw 5 (by decide) rfl rfl 10 (by decide) lk0 (fun _ h9 => h9) rfl dX4_countInStreet_6 ?_
      refine lv_icmp_ge (tgt := 36) hx hb dX4_countInStreet_9 (by decide) (fun c1 => ?_) (fun c1 => ?_)
      · have h := h.1 c1
        exact k36_4 _ _ _ _ h hw hS _ (lv_sub hl [1] rfl)
      · have h := h.2 c1
        refine lv_aload_n hx hb dX4_countInStreet_12 rfl (lv_at hl 0 rfl) ?_
        refine lv_aload_n hx hb dX4_countInStreet_13 rfl (lv_at hl 0 rfl) ?_
        refine zget hx hb hts inX4 hown hK hw 5 (by decide) rfl rfl 9 (by decide) lk1 (fun _ h9 => h9) rfl dX4_countInStreet_14 ?_
        refine lv_iload_n hx hb dX4_countInStreet_17 rfl (lv_at hl 2 rfl) ?_
        refine zcall_get (rest := [.ref (ad 5)]) hx hb hml hown hts gX4_countInStreet_X3_get ⟨Nat.le_of_ble_eq_true rfl, Nat.le_of_ble_eq_true rfl⟩ ⟨Nat.zero_le _, Nat.zero_le _⟩ hK hj hw hA hS 9 (by decide) hl.1 (Nat.le_of_ble_eq_true rfl) dX4_countInStreet_18 (fun H locs hw hS => ?_)
        refine lv_topi (fun v1 ev1 => ?_)
        have h := h v1 ev1
        refine k_X4_isInStreet (rest := []) hx hb hml hown hts gX4_countInStreet_X4_isInStreet ⟨Nat.le_of_ble_eq_true rfl, Nat.le_of_ble_eq_true rfl⟩ ⟨Nat.zero_le _, Nat.zero_le _⟩ hK hj hw hA hS hl.1 (Nat.le_of_ble_eq_true rfl) dX4_countInStreet_21 h (fun r1 s1 H locs h hw hS => ?_)
        refine zif_eq (tgt := 30) hx hb dX4_countInStreet_24 (by decide) (fun c2 => ?_) (fun c2 => ?_)
        · have h := h.1 c2
          obtain ⟨x1, ex1⟩ : ∃ y : Int32, y = y2_4 + (jI 1) := ⟨_, rfl⟩
          have h := h x1 ex1
          refine lv_iinc (v := x1) (lv' := [(2, .int x1), (0, .ref (ad 5)), (1, .int y1_4)]) hx hb dX4_countInStreet_30 hl (k := 2) rfl (by rw [ex1]; rfl) (by decide) rfl (fun ls hl => ?_)
          refine lv_goto (tgt := 4) hx hb dX4_countInStreet_33 (by decide) ?_
          exact ih4 _ _ _ _ _ h hw hS _ (lv_sub hl [1, 2, 0] rfl)
        · have h := h.2 c2
          obtain ⟨x2, ex2⟩ : ∃ y : Int32, y = y1_4 + (jI 1) := ⟨_, rfl⟩
          have h := h x2 ex2
          refine lv_iinc (v := x2) (lv' := [(1, .int x2), (0, .ref (ad 5)), (2, .int y2_4)]) hx hb dX4_countInStreet_27 hl (k := 1) rfl (by rw [ex2]; rfl) (by decide) rfl (fun ls hl => ?_)
          obtain ⟨x3, ex3⟩ : ∃ y : Int32, y = y2_4 + (jI 1) := ⟨_, rfl⟩
          have h := h x3 ex3
          refine lv_iinc (v := x3) (lv' := [(2, .int x3), (1, .int x2), (0, .ref (ad 5))]) hx hb dX4_countInStreet_30 hl (k := 2) rfl (by rw [ex3]; rfl) (by decide) rfl (fun ls hl => ?_)
          refine lv_goto (tgt := 4) hx hb dX4_countInStreet_33 (by decide) ?_
          exact ih4 _ _ _ _ _ h hw hS _ (lv_sub hl [2, 1, 0] rfl)
  obtain ⟨nn4, h⟩ := h
  exact lp4 nn4 _ _ _ _ _ h hw hS _ (lv_sub hl [2, 1, 0] rfl)
theorem k_X4_countInStreet {p : Program} {l : Launch} {e : Env} {R : Room} {s : State} {m : MethodId} {args : Array Value} {below : List Frame} {meth : Method} {c : Code} {H : Heap} {locs : List Loc} {cells slots : Nat} {QQ : State → Prop} {cc : ByteArray} {pc nL index : Nat} {ls : Array Slot} {rest : List Value} {D : va_G} {cy : cyT} {ad : Nat → Nat} {own : String} {Ts : List Cond} {H0 : Heap} {σ : ST}  {Q : Int32 → ST → Prop} (hx : p.tables.exec = Jvm.exec) (hb : c.code = cc) (hml : c.maxLocals = nL) (hown : s.vm.findClass own = some m.cls) (hts : ∀ w ∈ Ts, w.before args s = true) (hG : GoodIn Ts (wsV own index RX4 yX4_countInStreet wsX4_countInStreet)) (hR : 2 + 1 ≤ R.frames ∧ 8 + (3 + 11) + 42 ≤ R.locals) (hcs : cells ≤ R.cells ∧ slots ≤ R.slots) (hK : zK D cy s) (hj : zI 116 ad) (hw : zW D 116 (zce cy ad σ) ad H) {A0 : Nat → Prop} (hA : ∀ i, i < 116 → A0 (ad i)) (hS : va_S A0 H0 H locs) (hsz : ls.size = nL) (hrest : (rest.map fun v => v.category).sum ≤ 8) (hdg : decode cc pc = .ok (.invokevirtual index, 3)) (h : wp_X4_countInStreet σ  Q) (kk : ∀ (r : Int32) (σ : ST) (H : Heap) (locs : List Loc), Q r σ → zW D 116 (zce cy ad σ) ad H → va_S A0 H0 H locs → W p l e R s m args below meth c H locs cells slots QQ (F0 m (pc + 3) ls (.int r :: rest))) : W p l e R s m args below meth c H locs cells slots QQ (F0 m pc ls (.ref (ad 5) :: rest)) :=
  zcalli (va_runV (As := []) (rest := rest) ⟨hx, hb, hml, hown, hts⟩ (c_X4_countInStreet l D cy ad σ  h) (cwV 0 hts hG rfl rfl rfl (by decide +kernel) hR) (zpreV hj hK hw _ (i := 5) (ci := 3) (by decide) rfl rfl) rfl rfl hsz rfl (lv_room hrest) hdg hcs) hA hS kk
set_option maxHeartbeats 4000000 in
set_option maxRecDepth 100000 in
theorem c_X4_isOlder (l : Launch) (D : va_G) (cy : cyT) (ad : Nat → Nat) (σ : ST) (p0 : Int32) (p1 : Int32) {Q : Int32 → ST → Prop} (h : wp_X4_isOlder σ p0 p1 Q) : Met l yX4_isOlder wsX4_isOlder ({ frames := 1, cells := 0, slots := 0, locals := 21 } : Room) (zPre D cy 116 (zce cy ad σ) ad [.ref (ad 5), .int p0, .int p1]) (va_Qi Q (zB D 116 (zce cy ad) ad) (zA 116 ad)) 0 0 (zA 116 ad) := by
  refine Met.ofW (cc := cX4_isOlder) (maxL := 3) (ret := (some .boolean)) (by decide) rfl ?_
  intro p e s m args below meth c s₁ B hml hv
  obtain ⟨rfl, hj, hK, hw⟩ := hv
  have hx := B.exec
  have hb := B.bytes
  have hr := B.returns
  have hts := atoms_spec (ws := wsX4_isOlder) B.pre
  have hown : s.vm.findClass RX4 = some m.cls := findClass_of_methodNamed B.named
  have hlocks := B.notSynchronized
  have lk0 : Cond.fieldLink RX4 35 "TypeTrays$State" "latestUses" "LTypeTrays$Row;" ∈ wsX4_isOlder := List.mem_of_getElem? (i := 1) rfl
  have inX4 : ∀ w ∈ u_ws RX4 TX4 18, w ∈ wsX4_isOlder := zin_at 8 rfl
  have hS : va_S (zA 116 ad) s.heap s.heap [] := va_S.rf
  have hA : ∀ i, i < 116 → zA 116 ad (ad i) := fun i hi => ⟨i, hi, rfl⟩
  have hl := lv_entry ([.ref (ad 5), .int p0, .int p1]) (n := 3) (Nat.le_of_ble_eq_true rfl)
  rw [lg_entry_eq]
  generalize (lg_sl ([.ref (ad 5), .int p0, .int p1]) ++ List.replicate (3 - (lg_sl ([.ref (ad 5), .int p0, .int p1])).length) Slot.unset).toArray = ls at hl ⊢
  have hl : lv_has ls 3 [(0, .ref (ad 5)), (1, .int p0), (2, .int p1)] := hl
  show W p l e ({ frames := 1, cells := 0, slots := 0, locals := 21 } : Room) s m ([.ref (ad 5), .int p0, .int p1] : List Value).toArray below meth c s.heap [] 0 0 (MQ below (va_Qi Q (zB D 116 (zce cy ad) ad) (zA 116 ad)) ([.ref (ad 5), .int p0, .int p1] : List Value).toArray s 0 0 (zA 116 ad)) (F0 m 0 ls [])
  unfold wp_X4_isOlder at h
  refine lv_iload_n hx hb dX4_isOlder_0 rfl (lv_at hl 2 rfl) ?_
  refine lv_iconst (v := (jI (-1))) hx hb dX4_isOlder_1 rfl ?_
  refine lv_icmp_eq (tgt := 24) hx hb dX4_isOlder_2 (by decide) (fun c1 => ?_) (fun c1 => ?_)
  · have h := h.1 c1
    refine lv_iconst (v := (jI 1)) hx hb dX4_isOlder_24 rfl ?_
    refine lv_goto (tgt := 29) hx hb dX4_isOlder_25 (by decide) ?_
    exact W.zret (v := (jI 1)) (ty := .boolean) hx hb hr (by decide +kernel) (fun t ht hW => ⟨⟨_, _, rfl, h, zend hw ht⟩, hS.F ht⟩) hS.2.2 dX4_isOlder_29
  · have h := h.2 c1
    refine lv_aload_n hx hb dX4_isOlder_5 rfl (lv_at hl 0 rfl) ?_
    refine zget hx hb hts inX4 hown hK hw 5 (by decide) rfl rfl 6 (by decide) lk0 (fun _ h9 => h9) rfl dX4_isOlder_6 ?_
    refine lv_iload_n hx hb dX4_isOlder_9 rfl (lv_at hl 1 rfl) ?_
    refine zcall_get (rest := []) hx hb hml hown hts gX4_isOlder_X3_get ⟨Nat.le_of_ble_eq_true rfl, Nat.le_of_ble_eq_true rfl⟩ ⟨Nat.zero_le _, Nat.zero_le _⟩ hK hj hw hA hS 6 (by decide) hl.1 (Nat.le_of_ble_eq_true rfl) dX4_isOlder_10 (fun H locs hw hS => ?_)
    refine lv_topi (fun v1 ev1 => ?_)
    have h := h v1 ev1
    refine lv_aload_n hx hb dX4_isOlder_13 rfl (lv_at hl 0 rfl) ?_
    refine zget hx hb hts inX4 hown hK hw 5 (by decide) rfl rfl 6 (by decide) lk0 (fun _ h9 => h9) rfl dX4_isOlder_14 ?_
    refine lv_iload_n hx hb dX4_isOlder_17 rfl (lv_at hl 2 rfl) ?_
    refine zcall_get (rest := [.int v1]) hx hb hml hown hts gX4_isOlder_X3_get ⟨Nat.le_of_ble_eq_true rfl, Nat.le_of_ble_eq_true rfl⟩ ⟨Nat.zero_le _, Nat.zero_le _⟩ hK hj hw hA hS 6 (by decide) hl.1 (Nat.le_of_ble_eq_true rfl) dX4_isOlder_18 (fun H locs hw hS => ?_)
    refine lv_topi (fun v2 ev2 => ?_)
    have h := h v2 ev2
    refine lv_icmp_ge (tgt := 28) hx hb dX4_isOlder_21 (by decide) (fun c2 => ?_) (fun c2 => ?_)
    · have h := h.1 c2
      refine lv_iconst (v := (jI 0)) hx hb dX4_isOlder_28 rfl ?_
      exact W.zret (v := (jI 0)) (ty := .boolean) hx hb hr (by decide +kernel) (fun t ht hW => ⟨⟨_, _, rfl, h, zend hw ht⟩, hS.F ht⟩) hS.2.2 dX4_isOlder_29
    · have h := h.2 c2
      refine lv_iconst (v := (jI 1)) hx hb dX4_isOlder_24 rfl ?_
      refine lv_goto (tgt := 29) hx hb dX4_isOlder_25 (by decide) ?_
      exact W.zret (v := (jI 1)) (ty := .boolean) hx hb hr (by decide +kernel) (fun t ht hW => ⟨⟨_, _, rfl, h, zend hw ht⟩, hS.F ht⟩) hS.2.2 dX4_isOlder_29
theorem k_X4_isOlder {p : Program} {l : Launch} {e : Env} {R : Room} {s : State} {m : MethodId} {args : Array Value} {below : List Frame} {meth : Method} {c : Code} {H : Heap} {locs : List Loc} {cells slots : Nat} {QQ : State → Prop} {cc : ByteArray} {pc nL index : Nat} {ls : Array Slot} {rest : List Value} {D : va_G} {cy : cyT} {ad : Nat → Nat} {own : String} {Ts : List Cond} {H0 : Heap} {σ : ST} {p0 : Int32} {p1 : Int32} {Q : Int32 → ST → Prop} (hx : p.tables.exec = Jvm.exec) (hb : c.code = cc) (hml : c.maxLocals = nL) (hown : s.vm.findClass own = some m.cls) (hts : ∀ w ∈ Ts, w.before args s = true) (hG : GoodIn Ts (wsV own index RX4 yX4_isOlder wsX4_isOlder)) (hR : 1 + 1 ≤ R.frames ∧ 8 + (3 + 11) + 21 ≤ R.locals) (hcs : cells ≤ R.cells ∧ slots ≤ R.slots) (hK : zK D cy s) (hj : zI 116 ad) (hw : zW D 116 (zce cy ad σ) ad H) {A0 : Nat → Prop} (hA : ∀ i, i < 116 → A0 (ad i)) (hS : va_S A0 H0 H locs) (hsz : ls.size = nL) (hrest : (rest.map fun v => v.category).sum ≤ 8) (hdg : decode cc pc = .ok (.invokevirtual index, 3)) (h : wp_X4_isOlder σ p0 p1 Q) (kk : ∀ (r : Int32) (σ : ST) (H : Heap) (locs : List Loc), Q r σ → zW D 116 (zce cy ad σ) ad H → va_S A0 H0 H locs → W p l e R s m args below meth c H locs cells slots QQ (F0 m (pc + 3) ls (.int r :: rest))) : W p l e R s m args below meth c H locs cells slots QQ (F0 m pc ls (.int p1 :: .int p0 :: .ref (ad 5) :: rest)) :=
  zcalli (va_runV (As := [.int p0, .int p1]) (rest := rest) ⟨hx, hb, hml, hown, hts⟩ (c_X4_isOlder l D cy ad σ p0 p1 h) (cwV 2 hts hG rfl rfl rfl (by decide +kernel) hR) (zpreV hj hK hw _ (i := 5) (ci := 3) (by decide) rfl rfl) rfl rfl hsz rfl (lv_room hrest) hdg hcs) hA hS kk
set_option maxHeartbeats 4000000 in
set_option maxRecDepth 100000 in
theorem c_X4_oldestOfStreetThatMayGo (l : Launch) (D : va_G) (cy : cyT) (ad : Nat → Nat) (σ : ST) {Q : Int32 → ST → Prop} (h : wp_X4_oldestOfStreetThatMayGo σ Q) : Met l yX4_oldestOfStreetThatMayGo wsX4_oldestOfStreetThatMayGo ({ frames := 2, cells := 0, slots := 0, locals := 43 } : Room) (zPre D cy 116 (zce cy ad σ) ad [.ref (ad 5)]) (va_Qi Q (zB D 116 (zce cy ad) ad) (zA 116 ad)) 0 0 (zA 116 ad) := by
  refine Met.ofW (cc := cX4_oldestOfStreetThatMayGo) (maxL := 4) (ret := (some .int)) (by decide) rfl ?_
  intro p e s m args below meth c s₁ B hml hv
  obtain ⟨rfl, hj, hK, hw⟩ := hv
  have hx := B.exec
  have hb := B.bytes
  have hr := B.returns
  have hts := atoms_spec (ws := wsX4_oldestOfStreetThatMayGo) B.pre
  have hown : s.vm.findClass RX4 = some m.cls := findClass_of_methodNamed B.named
  have hlocks := B.notSynchronized
  have lk0 : Cond.fieldLink RX4 47 "TypeTrays$State" "presentCount" "I" ∈ wsX4_oldestOfStreetThatMayGo := List.mem_of_getElem? (i := 1) rfl
  have lk1 : Cond.fieldLink RX4 44 "TypeTrays$State" "present" "LTypeTrays$Row;" ∈ wsX4_oldestOfStreetThatMayGo := List.mem_of_getElem? (i := 2) rfl
  have inX4 : ∀ w ∈ u_ws RX4 TX4 18, w ∈ wsX4_oldestOfStreetThatMayGo := zin_at 26 rfl
  have hS : va_S (zA 116 ad) s.heap s.heap [] := va_S.rf
  have hA : ∀ i, i < 116 → zA 116 ad (ad i) := fun i hi => ⟨i, hi, rfl⟩
  have hl := lv_entry ([.ref (ad 5)]) (n := 4) (Nat.le_of_ble_eq_true rfl)
  rw [lg_entry_eq]
  generalize (lg_sl ([.ref (ad 5)]) ++ List.replicate (4 - (lg_sl ([.ref (ad 5)])).length) Slot.unset).toArray = ls at hl ⊢
  have hl : lv_has ls 4 [(0, .ref (ad 5))] := hl
  show W p l e ({ frames := 2, cells := 0, slots := 0, locals := 43 } : Room) s m ([.ref (ad 5)] : List Value).toArray below meth c s.heap [] 0 0 (MQ below (va_Qi Q (zB D 116 (zce cy ad) ad) (zA 116 ad)) ([.ref (ad 5)] : List Value).toArray s 0 0 (zA 116 ad)) (F0 m 0 ls [])
  unfold wp_X4_oldestOfStreetThatMayGo at h
  refine lv_iconst (v := (jI (-1))) hx hb dX4_oldestOfStreetThatMayGo_0 rfl ?_
  refine lv_istore_n (lv' := [(1, .int (jI (-1))), (0, .ref (ad 5))]) hx hb dX4_oldestOfStreetThatMayGo_1 rfl hl (by decide) rfl (fun ls hl => ?_)
  refine lv_iconst (v := (jI 0)) hx hb dX4_oldestOfStreetThatMayGo_2 rfl ?_
  refine lv_istore_n (lv' := [(2, .int (jI 0)), (1, .int (jI (-1))), (0, .ref (ad 5))]) hx hb dX4_oldestOfStreetThatMayGo_3 rfl hl (by decide) rfl (fun ls hl => ?_)
  have k54_4 : ∀ (u_54 : ST) (z1_54 : Int32) (H : Heap) (locs : List Loc), Q z1_54 u_54 → zW D 116 (zce cy ad u_54) ad H → va_S (zA 116 ad) s.heap H locs → ∀ ls : Array Slot, lv_has ls 4 [(1, .int z1_54)] → W p l e ({ frames := 2, cells := 0, slots := 0, locals := 43 } : Room) s m ([.ref (ad 5)] : List Value).toArray below meth c H locs 0 0 (MQ below (va_Qi Q (zB D 116 (zce cy ad) ad) (zA 116 ad)) ([.ref (ad 5)] : List Value).toArray s 0 0 (zA 116 ad)) (F0 m 54 ls []) := by
    intro u_54 z1_54 H locs h hw hS ls hl
    refine lv_iload_n hx hb dX4_oldestOfStreetThatMayGo_54 rfl (lv_at hl 0 rfl) ?_
    exact W.iret (v := z1_54) hx hb hr (fun t ht hW => ⟨⟨_, _, rfl, h, zend hw ht⟩, hS.F ht⟩) hS.2.2 dX4_oldestOfStreetThatMayGo_55
  have lp4 : ∀ (nn4 : Nat) (t_4 : ST) (y1_4 : Int32) (y2_4 : Int32) (H : Heap) (locs : List Loc), wl_X4_oldestOfStreetThatMayGo_4 (fun u_54 z1_54 => Q z1_54 u_54)  nn4 t_4 y1_4 y2_4 → zW D 116 (zce cy ad t_4) ad H → va_S (zA 116 ad) s.heap H locs → ∀ ls : Array Slot, lv_has ls 4 [(0, .ref (ad 5)), (1, .int y1_4), (2, .int y2_4)] → W p l e ({ frames := 2, cells := 0, slots := 0, locals := 43 } : Room) s m ([.ref (ad 5)] : List Value).toArray below meth c H locs 0 0 (MQ below (va_Qi Q (zB D 116 (zce cy ad) ad) (zA 116 ad)) ([.ref (ad 5)] : List Value).toArray s 0 0 (zA 116 ad)) (F0 m 4 ls []) := by
    intro nn4
    induction nn4 with
    | zero => intro _ _ _ _ _ h; exact h.elim
    | succ nn4 ih4 =>
      intro t_4 y1_4 y2_4 H locs h hw hS ls hl
      simp only [wl_X4_oldestOfStreetThatMayGo_4, wb_X4_oldestOfStreetThatMayGo_4] at h
      refine lv_iload_n hx hb dX4_oldestOfStreetThatMayGo_4 rfl (lv_at hl 2 rfl) ?_
      refine lv_aload_n hx hb dX4_oldestOfStreetThatMayGo_5 rfl (lv_at hl 0 rfl) ?_
      refine zget hx hb hts inX4 hown hK hw 5 (by decide) rfl rfl 10 (by decide) lk0 (fun _ h9 => h9) rfl dX4_oldestOfStreetThatMayGo_6 ?_
      refine lv_icmp_ge (tgt := 54) hx hb dX4_oldestOfStreetThatMayGo_9 (by decide) (fun c1 => ?_) (fun c1 => ?_)
      · have h := h.1 c1
        exact k54_4 _ _ _ _ h hw hS _ (lv_sub hl [1] rfl)
      · have h := h.2 c1
        refine lv_aload_n hx hb dX4_oldestOfStreetThatMayGo_12 rfl (lv_at hl 0 rfl) ?_
        refine zget hx hb hts inX4 hown hK hw 5 (by decide) rfl rfl 9 (by decide) lk1 (fun _ h9 => h9) rfl dX4_oldestOfStreetThatMayGo_13 ?_
        refine lv_iload_n hx hb dX4_oldestOfStreetThatMayGo_16 rfl (lv_at hl 2 rfl) ?_
        refine zcall_get (rest := []) hx hb hml hown hts gX4_oldestOfStreetThatMayGo_X3_get ⟨Nat.le_of_ble_eq_true rfl, Nat.le_of_ble_eq_true rfl⟩ ⟨Nat.zero_le _, Nat.zero_le _⟩ hK hj hw hA hS 9 (by decide) hl.1 (Nat.le_of_ble_eq_true rfl) dX4_oldestOfStreetThatMayGo_17 (fun H locs hw hS => ?_)
        refine lv_topi (fun v1 ev1 => ?_)
        have h := h v1 ev1
        refine lv_istore_n (lv' := [(3, .int v1), (0, .ref (ad 5)), (1, .int y1_4), (2, .int y2_4)]) hx hb dX4_oldestOfStreetThatMayGo_20 rfl hl (by decide) rfl (fun ls hl => ?_)
        refine lv_aload_n hx hb dX4_oldestOfStreetThatMayGo_21 rfl (lv_at hl 1 rfl) ?_
        refine lv_iload_n hx hb dX4_oldestOfStreetThatMayGo_22 rfl (lv_at hl 0 rfl) ?_
        refine k_X4_isInStreet (rest := []) hx hb hml hown hts gX4_oldestOfStreetThatMayGo_X4_isInStreet ⟨Nat.le_of_ble_eq_true rfl, Nat.le_of_ble_eq_true rfl⟩ ⟨Nat.zero_le _, Nat.zero_le _⟩ hK hj hw hA hS hl.1 (Nat.le_of_ble_eq_true rfl) dX4_oldestOfStreetThatMayGo_23 h (fun r1 s1 H locs h hw hS => ?_)
        refine zif_eq (tgt := 48) hx hb dX4_oldestOfStreetThatMayGo_26 (by decide) (fun c2 => ?_) (fun c2 => ?_)
        · have h := h.1 c2
          obtain ⟨x1, ex1⟩ : ∃ y : Int32, y = y2_4 + (jI 1) := ⟨_, rfl⟩
          have h := h x1 ex1
          refine lv_iinc (v := x1) (lv' := [(2, .int x1), (3, .int v1), (0, .ref (ad 5)), (1, .int y1_4)]) hx hb dX4_oldestOfStreetThatMayGo_48 hl (k := 3) rfl (by rw [ex1]; rfl) (by decide) rfl (fun ls hl => ?_)
          refine lv_goto (tgt := 4) hx hb dX4_oldestOfStreetThatMayGo_51 (by decide) ?_
          exact ih4 _ _ _ _ _ h hw hS _ (lv_sub hl [2, 3, 0] rfl)
        · have h := h.2 c2
          refine lv_aload_n hx hb dX4_oldestOfStreetThatMayGo_29 rfl (lv_at hl 1 rfl) ?_
          refine lv_iload_n hx hb dX4_oldestOfStreetThatMayGo_30 rfl (lv_at hl 0 rfl) ?_
          refine k_X4_isOfLine (rest := []) hx hb hml hown hts gX4_oldestOfStreetThatMayGo_X4_isOfLine ⟨Nat.le_of_ble_eq_true rfl, Nat.le_of_ble_eq_true rfl⟩ ⟨Nat.zero_le _, Nat.zero_le _⟩ hK hj hw hA hS hl.1 (Nat.le_of_ble_eq_true rfl) dX4_oldestOfStreetThatMayGo_31 h (fun r2 s2 H locs h hw hS => ?_)
          refine zif_ne (tgt := 48) hx hb dX4_oldestOfStreetThatMayGo_34 (by decide) (fun c3 => ?_) (fun c3 => ?_)
          · have h := h.2 c3
            obtain ⟨x2, ex2⟩ : ∃ y : Int32, y = y2_4 + (jI 1) := ⟨_, rfl⟩
            have h := h x2 ex2
            refine lv_iinc (v := x2) (lv' := [(2, .int x2), (3, .int v1), (0, .ref (ad 5)), (1, .int y1_4)]) hx hb dX4_oldestOfStreetThatMayGo_48 hl (k := 3) rfl (by rw [ex2]; rfl) (by decide) rfl (fun ls hl => ?_)
            refine lv_goto (tgt := 4) hx hb dX4_oldestOfStreetThatMayGo_51 (by decide) ?_
            exact ih4 _ _ _ _ _ h hw hS _ (lv_sub hl [2, 3, 0] rfl)
          · have h := h.1 c3
            refine lv_aload_n hx hb dX4_oldestOfStreetThatMayGo_37 rfl (lv_at hl 1 rfl) ?_
            refine lv_iload_n hx hb dX4_oldestOfStreetThatMayGo_38 rfl (lv_at hl 0 rfl) ?_
            refine lv_iload_n hx hb dX4_oldestOfStreetThatMayGo_39 rfl (lv_at hl 2 rfl) ?_
            refine k_X4_isOlder (rest := []) hx hb hml hown hts gX4_oldestOfStreetThatMayGo_X4_isOlder ⟨Nat.le_of_ble_eq_true rfl, Nat.le_of_ble_eq_true rfl⟩ ⟨Nat.zero_le _, Nat.zero_le _⟩ hK hj hw hA hS hl.1 (Nat.le_of_ble_eq_true rfl) dX4_oldestOfStreetThatMayGo_40 h (fun r3 s3 H locs h hw hS => ?_)
            refine zif_eq (tgt := 48) hx hb dX4_oldestOfStreetThatMayGo_43 (by decide) (fun c4 => ?_) (fun c4 => ?_)
            · have h := h.1 c4
              obtain ⟨x3, ex3⟩ : ∃ y : Int32, y = y2_4 + (jI 1) := ⟨_, rfl⟩
              have h := h x3 ex3
              refine lv_iinc (v := x3) (lv' := [(2, .int x3), (3, .int v1), (0, .ref (ad 5)), (1, .int y1_4)]) hx hb dX4_oldestOfStreetThatMayGo_48 hl (k := 3) rfl (by rw [ex3]; rfl) (by decide) rfl (fun ls hl => ?_)
              refine lv_goto (tgt := 4) hx hb dX4_oldestOfStreetThatMayGo_51 (by decide) ?_
              exact ih4 _ _ _ _ _ h hw hS _ (lv_sub hl [2, 3, 0] rfl)
            · have h := h.2 c4
              refine lv_iload_n hx hb dX4_oldestOfStreetThatMayGo_46 rfl (lv_at hl 0 rfl) ?_
              refine lv_istore_n (lv' := [(1, .int v1), (3, .int v1), (0, .ref (ad 5)), (2, .int y2_4)]) hx hb dX4_oldestOfStreetThatMayGo_47 rfl hl (by decide) rfl (fun ls hl => ?_)
              obtain ⟨x4, ex4⟩ : ∃ y : Int32, y = y2_4 + (jI 1) := ⟨_, rfl⟩
              have h := h x4 ex4
              refine lv_iinc (v := x4) (lv' := [(2, .int x4), (1, .int v1), (3, .int v1), (0, .ref (ad 5))]) hx hb dX4_oldestOfStreetThatMayGo_48 hl (k := 3) rfl (by rw [ex4]; rfl) (by decide) rfl (fun ls hl => ?_)
              refine lv_goto (tgt := 4) hx hb dX4_oldestOfStreetThatMayGo_51 (by decide) ?_
              exact ih4 _ _ _ _ _ h hw hS _ (lv_sub hl [3, 1, 0] rfl)
  obtain ⟨nn4, h⟩ := h
  exact lp4 nn4 _ _ _ _ _ h hw hS _ (lv_sub hl [2, 1, 0] rfl)
theorem k_X4_oldestOfStreetThatMayGo {p : Program} {l : Launch} {e : Env} {R : Room} {s : State} {m : MethodId} {args : Array Value} {below : List Frame} {meth : Method} {c : Code} {H : Heap} {locs : List Loc} {cells slots : Nat} {QQ : State → Prop} {cc : ByteArray} {pc nL index : Nat} {ls : Array Slot} {rest : List Value} {D : va_G} {cy : cyT} {ad : Nat → Nat} {own : String} {Ts : List Cond} {H0 : Heap} {σ : ST}  {Q : Int32 → ST → Prop} (hx : p.tables.exec = Jvm.exec) (hb : c.code = cc) (hml : c.maxLocals = nL) (hown : s.vm.findClass own = some m.cls) (hts : ∀ w ∈ Ts, w.before args s = true) (hG : GoodIn Ts (wsV own index RX4 yX4_oldestOfStreetThatMayGo wsX4_oldestOfStreetThatMayGo)) (hR : 2 + 1 ≤ R.frames ∧ 8 + (4 + 11) + 43 ≤ R.locals) (hcs : cells ≤ R.cells ∧ slots ≤ R.slots) (hK : zK D cy s) (hj : zI 116 ad) (hw : zW D 116 (zce cy ad σ) ad H) {A0 : Nat → Prop} (hA : ∀ i, i < 116 → A0 (ad i)) (hS : va_S A0 H0 H locs) (hsz : ls.size = nL) (hrest : (rest.map fun v => v.category).sum ≤ 8) (hdg : decode cc pc = .ok (.invokevirtual index, 3)) (h : wp_X4_oldestOfStreetThatMayGo σ  Q) (kk : ∀ (r : Int32) (σ : ST) (H : Heap) (locs : List Loc), Q r σ → zW D 116 (zce cy ad σ) ad H → va_S A0 H0 H locs → W p l e R s m args below meth c H locs cells slots QQ (F0 m (pc + 3) ls (.int r :: rest))) : W p l e R s m args below meth c H locs cells slots QQ (F0 m pc ls (.ref (ad 5) :: rest)) :=
  zcalli (va_runV (As := []) (rest := rest) ⟨hx, hb, hml, hown, hts⟩ (c_X4_oldestOfStreetThatMayGo l D cy ad σ  h) (cwV 0 hts hG rfl rfl rfl (by decide +kernel) hR) (zpreV hj hK hw _ (i := 5) (ci := 3) (by decide) rfl rfl) rfl rfl hsz rfl (lv_room hrest) hdg hcs) hA hS kk
set_option maxHeartbeats 4000000 in
set_option maxRecDepth 100000 in
theorem c_X2_findRoomInStreet (l : Launch) (D : va_G) (cy : cyT) (ad : Nat → Nat) (σ : ST) {Q : ST → Prop} (h : wp_X2_findRoomInStreet σ Q) : Met l yX2_findRoomInStreet wsX2_findRoomInStreet ({ frames := 3, cells := 0, slots := 0, locals := 66 } : Room) (zPre D cy 116 (zce cy ad σ) ad [.ref (ad 4), .ref (ad 5)]) (va_Qv Q (zB D 116 (zce cy ad) ad) (zA 116 ad)) 0 0 (zA 116 ad) := by
  refine Met.ofW (cc := cX2_findRoomInStreet) (maxL := 2) (ret := none) (by decide) rfl ?_
  intro p e s m args below meth c s₁ B hml hv
  obtain ⟨rfl, hj, hK, hw⟩ := hv
  have hx := B.exec
  have hb := B.bytes
  have hr := B.returns
  have hts := atoms_spec (ws := wsX2_findRoomInStreet) B.pre
  have hown : s.vm.findClass RX2 = some m.cls := findClass_of_methodNamed B.named
  have hlocks := B.notSynchronized
  have lk0 : Cond.fieldLink RX2 24 "TypeTrays$Place" "leaver" "I" ∈ wsX2_findRoomInStreet := List.mem_of_getElem? (i := 1) rfl
  have lk1 : Cond.fieldLink RX2 21 "TypeTrays$Place" "taken" "I" ∈ wsX2_findRoomInStreet := List.mem_of_getElem? (i := 2) rfl
  have inX2 : ∀ w ∈ u_ws RX2 TX2 5, w ∈ wsX2_findRoomInStreet := zin_at 44 rfl
  have hS : va_S (zA 116 ad) s.heap s.heap [] := va_S.rf
  have hA : ∀ i, i < 116 → zA 116 ad (ad i) := fun i hi => ⟨i, hi, rfl⟩
  have hl := lv_entry ([.ref (ad 4), .ref (ad 5)]) (n := 2) (Nat.le_of_ble_eq_true rfl)
  rw [lg_entry_eq]
  generalize (lg_sl ([.ref (ad 4), .ref (ad 5)]) ++ List.replicate (2 - (lg_sl ([.ref (ad 4), .ref (ad 5)])).length) Slot.unset).toArray = ls at hl ⊢
  have hl : lv_has ls 2 [(0, .ref (ad 4)), (1, .ref (ad 5))] := hl
  show W p l e ({ frames := 3, cells := 0, slots := 0, locals := 66 } : Room) s m ([.ref (ad 4), .ref (ad 5)] : List Value).toArray below meth c s.heap [] 0 0 (MQ below (va_Qv Q (zB D 116 (zce cy ad) ad) (zA 116 ad)) ([.ref (ad 4), .ref (ad 5)] : List Value).toArray s 0 0 (zA 116 ad)) (F0 m 0 ls [])
  unfold wp_X2_findRoomInStreet at h
  refine lv_aload_n hx hb dX2_findRoomInStreet_0 rfl (lv_at hl 1 rfl) ?_
  refine k_X4_countInStreet (rest := []) hx hb hml hown hts gX2_findRoomInStreet_X4_countInStreet ⟨Nat.le_of_ble_eq_true rfl, Nat.le_of_ble_eq_true rfl⟩ ⟨Nat.zero_le _, Nat.zero_le _⟩ hK hj hw hA hS hl.1 (Nat.le_of_ble_eq_true rfl) dX2_findRoomInStreet_1 h (fun r1 s1 H locs h hw hS => ?_)
  refine lv_iconst (v := (jI 4)) hx hb dX2_findRoomInStreet_4 rfl ?_
  refine lv_icmp_ge (tgt := 16) hx hb dX2_findRoomInStreet_5 (by decide) (fun c1 => ?_) (fun c1 => ?_)
  · have h := h.1 c1
    refine lv_aload_n hx hb dX2_findRoomInStreet_16 rfl (lv_at hl 0 rfl) ?_
    refine lv_aload_n hx hb dX2_findRoomInStreet_17 rfl (lv_at hl 1 rfl) ?_
    refine k_X4_oldestOfStreetThatMayGo (rest := [.ref (ad 4)]) hx hb hml hown hts gX2_findRoomInStreet_X4_oldestOfStreetThatMayGo ⟨Nat.le_of_ble_eq_true rfl, Nat.le_of_ble_eq_true rfl⟩ ⟨Nat.zero_le _, Nat.zero_le _⟩ hK hj hw hA hS hl.1 (Nat.le_of_ble_eq_true rfl) dX2_findRoomInStreet_18 h (fun r2 s2 H locs h hw hS => ?_)
    obtain ⟨s3, es3⟩ : ∃ y : ST, y = zsp s2 49 r2 := ⟨_, rfl⟩
    have h := h s3 es3
    refine zput (ty := .int) hx hb hts inX2 tyX2 tyX2_ok nmX2 hown hK hj hw hA hS 4 (by decide) rfl rfl 4 (by decide) lk0 (fun _ h9 => h9) rfl (by decide +kernel) rfl rfl (Nat.le_of_ble_eq_true rfl) dX2_findRoomInStreet_21 (zce cy ad s3) (by rw [es3]; rfl) (fun j hj9 => by rw [es3]; exact zsp_off_C_49 j hj9) (fun H locs hw hS => ?_)
    refine lv_aload_n hx hb dX2_findRoomInStreet_24 rfl (lv_at hl 0 rfl) ?_
    refine zget hx hb hts inX2 hown hK hw 4 (by decide) rfl rfl 4 (by decide) lk0 (fun _ h9 => h9) rfl dX2_findRoomInStreet_25 ?_
    refine lv_iconst (v := (jI (-1))) hx hb dX2_findRoomInStreet_28 rfl ?_
    refine lv_icmp_eq (tgt := 44) hx hb dX2_findRoomInStreet_29 (by decide) (fun c2 => ?_) (fun c2 => ?_)
    · have h := h.1 c2
      exact W.vret hx hb hr (fun t ht hW => ⟨⟨_, rfl, h, zend hw ht⟩, hS.F ht⟩) hS.2.2 dX2_findRoomInStreet_44
    · have h := h.2 c2
      refine lv_aload_n hx hb dX2_findRoomInStreet_32 rfl (lv_at hl 0 rfl) ?_
      refine lv_iconst (v := (jI 4)) hx hb dX2_findRoomInStreet_33 rfl ?_
      refine lv_iconst (v := (jI (-1))) hx hb dX2_findRoomInStreet_34 rfl ?_
      refine lv_iconst (v := (jI (-1))) hx hb dX2_findRoomInStreet_35 rfl ?_
      refine k_X2_choose (rest := []) hx hb hml hown hts gX2_findRoomInStreet_X2_choose ⟨Nat.le_of_ble_eq_true rfl, Nat.le_of_ble_eq_true rfl⟩ ⟨Nat.zero_le _, Nat.zero_le _⟩ hK hj hw hA hS hl.1 (Nat.le_of_ble_eq_true rfl) dX2_findRoomInStreet_36 h (fun s4 H locs h hw hS => ?_)
      refine lv_aload_n hx hb dX2_findRoomInStreet_39 rfl (lv_at hl 0 rfl) ?_
      refine lv_iconst (v := (jI 1)) hx hb dX2_findRoomInStreet_40 rfl ?_
      obtain ⟨s5, es5⟩ : ∃ y : ST, y = zsp s4 48 (jI 1) := ⟨_, rfl⟩
      have h := h s5 es5
      refine zput (ty := .int) hx hb hts inX2 tyX2 tyX2_ok nmX2 hown hK hj hw hA hS 4 (by decide) rfl rfl 3 (by decide) lk1 (fun _ h9 => h9) rfl (by decide +kernel) rfl rfl (Nat.le_of_ble_eq_true rfl) dX2_findRoomInStreet_41 (zce cy ad s5) (by rw [es5]; rfl) (fun j hj9 => by rw [es5]; exact zsp_off_C_48 j hj9) (fun H locs hw hS => ?_)
      exact W.vret hx hb hr (fun t ht hW => ⟨⟨_, rfl, h, zend hw ht⟩, hS.F ht⟩) hS.2.2 dX2_findRoomInStreet_44
  · have h := h.2 c1
    refine lv_aload_n hx hb dX2_findRoomInStreet_8 rfl (lv_at hl 0 rfl) ?_
    refine lv_iconst (v := (jI 4)) hx hb dX2_findRoomInStreet_9 rfl ?_
    refine lv_iconst (v := (jI (-1))) hx hb dX2_findRoomInStreet_10 rfl ?_
    refine lv_iconst (v := (jI (-1))) hx hb dX2_findRoomInStreet_11 rfl ?_
    refine k_X2_choose (rest := []) hx hb hml hown hts gX2_findRoomInStreet_X2_choose ⟨Nat.le_of_ble_eq_true rfl, Nat.le_of_ble_eq_true rfl⟩ ⟨Nat.zero_le _, Nat.zero_le _⟩ hK hj hw hA hS hl.1 (Nat.le_of_ble_eq_true rfl) dX2_findRoomInStreet_12 h (fun s6 H locs h hw hS => ?_)
    exact W.vret hx hb hr (fun t ht hW => ⟨⟨_, rfl, h, zend hw ht⟩, hS.F ht⟩) hS.2.2 dX2_findRoomInStreet_15
theorem k_X2_findRoomInStreet {p : Program} {l : Launch} {e : Env} {R : Room} {s : State} {m : MethodId} {args : Array Value} {below : List Frame} {meth : Method} {c : Code} {H : Heap} {locs : List Loc} {cells slots : Nat} {QQ : State → Prop} {cc : ByteArray} {pc nL index : Nat} {ls : Array Slot} {rest : List Value} {D : va_G} {cy : cyT} {ad : Nat → Nat} {own : String} {Ts : List Cond} {H0 : Heap} {σ : ST}  {Q : ST → Prop} (hx : p.tables.exec = Jvm.exec) (hb : c.code = cc) (hml : c.maxLocals = nL) (hown : s.vm.findClass own = some m.cls) (hts : ∀ w ∈ Ts, w.before args s = true) (hG : GoodIn Ts (wsV own index RX2 yX2_findRoomInStreet wsX2_findRoomInStreet)) (hR : 3 + 1 ≤ R.frames ∧ 8 + (2 + 11) + 66 ≤ R.locals) (hcs : cells ≤ R.cells ∧ slots ≤ R.slots) (hK : zK D cy s) (hj : zI 116 ad) (hw : zW D 116 (zce cy ad σ) ad H) {A0 : Nat → Prop} (hA : ∀ i, i < 116 → A0 (ad i)) (hS : va_S A0 H0 H locs) (hsz : ls.size = nL) (hrest : (rest.map fun v => v.category).sum ≤ 8) (hdg : decode cc pc = .ok (.invokevirtual index, 3)) (h : wp_X2_findRoomInStreet σ  Q) (kk : ∀ (σ : ST) (H : Heap) (locs : List Loc), Q σ → zW D 116 (zce cy ad σ) ad H → va_S A0 H0 H locs → W p l e R s m args below meth c H locs cells slots QQ (F0 m (pc + 3) ls rest)) : W p l e R s m args below meth c H locs cells slots QQ (F0 m pc ls (.ref (ad 5) :: .ref (ad 4) :: rest)) :=
  zcallv (va_runV (As := [.ref (ad 5)]) (rest := rest) ⟨hx, hb, hml, hown, hts⟩ (c_X2_findRoomInStreet l D cy ad σ  h) (cwV 1 hts hG rfl rfl rfl (by decide +kernel) hR) (zpreV hj hK hw _ (i := 4) (ci := 1) (by decide) rfl rfl) rfl rfl hsz rfl (lv_room hrest) hdg hcs) hA hS kk
set_option maxHeartbeats 4000000 in
set_option maxRecDepth 100000 in
theorem c_X2_find (l : Launch) (D : va_G) (cy : cyT) (ad : Nat → Nat) (σ : ST) (p1 : Int32) {Q : ST → Prop} (h : wp_X2_find σ p1 Q) : Met l yX2_find wsX2_find ({ frames := 4, cells := 0, slots := 0, locals := 91 } : Room) (zPre D cy 116 (zce cy ad σ) ad [.ref (ad 4), .ref (ad 5), .int p1]) (va_Qv Q (zB D 116 (zce cy ad) ad) (zA 116 ad)) 0 0 (zA 116 ad) := by
  refine Met.ofW (cc := cX2_find) (maxL := 3) (ret := none) (by decide) rfl ?_
  intro p e s m args below meth c s₁ B hml hv
  obtain ⟨rfl, hj, hK, hw⟩ := hv
  have hx := B.exec
  have hb := B.bytes
  have hr := B.returns
  have hts := atoms_spec (ws := wsX2_find) B.pre
  have hown : s.vm.findClass RX2 = some m.cls := findClass_of_methodNamed B.named
  have hlocks := B.notSynchronized
  have lk0 : Cond.fieldLink RX2 21 "TypeTrays$Place" "taken" "I" ∈ wsX2_find := List.mem_of_getElem? (i := 1) rfl
  have lk1 : Cond.fieldLink RX2 24 "TypeTrays$Place" "leaver" "I" ∈ wsX2_find := List.mem_of_getElem? (i := 2) rfl
  have lk2 : Cond.fieldLink RX2 9 "TypeTrays$Place" "rule" "I" ∈ wsX2_find := List.mem_of_getElem? (i := 3) rfl
  have inX2 : ∀ w ∈ u_ws RX2 TX2 5, w ∈ wsX2_find := zin_at 123 rfl
  have hS : va_S (zA 116 ad) s.heap s.heap [] := va_S.rf
  have hA : ∀ i, i < 116 → zA 116 ad (ad i) := fun i hi => ⟨i, hi, rfl⟩
  have hl := lv_entry ([.ref (ad 4), .ref (ad 5), .int p1]) (n := 3) (Nat.le_of_ble_eq_true rfl)
  rw [lg_entry_eq]
  generalize (lg_sl ([.ref (ad 4), .ref (ad 5), .int p1]) ++ List.replicate (3 - (lg_sl ([.ref (ad 4), .ref (ad 5), .int p1])).length) Slot.unset).toArray = ls at hl ⊢
  have hl : lv_has ls 3 [(0, .ref (ad 4)), (1, .ref (ad 5)), (2, .int p1)] := hl
  show W p l e ({ frames := 4, cells := 0, slots := 0, locals := 91 } : Room) s m ([.ref (ad 4), .ref (ad 5), .int p1] : List Value).toArray below meth c s.heap [] 0 0 (MQ below (va_Qv Q (zB D 116 (zce cy ad) ad) (zA 116 ad)) ([.ref (ad 4), .ref (ad 5), .int p1] : List Value).toArray s 0 0 (zA 116 ad)) (F0 m 0 ls [])
  unfold wp_X2_find at h
  refine lv_aload_n hx hb dX2_find_0 rfl (lv_at hl 0 rfl) ?_
  refine lv_iconst (v := (jI (-1))) hx hb dX2_find_1 rfl ?_
  refine lv_bipush (v := (jI (-2))) hx hb dX2_find_2 (by decide +kernel) ?_
  refine lv_iconst (v := (jI (-1))) hx hb dX2_find_4 rfl ?_
  refine k_X2_choose (rest := []) hx hb hml hown hts gX2_find_X2_choose ⟨Nat.le_of_ble_eq_true rfl, Nat.le_of_ble_eq_true rfl⟩ ⟨Nat.zero_le _, Nat.zero_le _⟩ hK hj hw hA hS hl.1 (Nat.le_of_ble_eq_true rfl) dX2_find_5 h (fun s1 H locs h hw hS => ?_)
  refine lv_aload_n hx hb dX2_find_8 rfl (lv_at hl 0 rfl) ?_
  refine lv_iconst (v := (jI 0)) hx hb dX2_find_9 rfl ?_
  obtain ⟨s2, es2⟩ : ∃ y : ST, y = zsp s1 48 (jI 0) := ⟨_, rfl⟩
  have h := h s2 es2
  refine zput (ty := .int) hx hb hts inX2 tyX2 tyX2_ok nmX2 hown hK hj hw hA hS 4 (by decide) rfl rfl 3 (by decide) lk0 (fun _ h9 => h9) rfl (by decide +kernel) rfl rfl (Nat.le_of_ble_eq_true rfl) dX2_find_10 (zce cy ad s2) (by rw [es2]; rfl) (fun j hj9 => by rw [es2]; exact zsp_off_C_48 j hj9) (fun H locs hw hS => ?_)
  refine lv_aload_n hx hb dX2_find_13 rfl (lv_at hl 0 rfl) ?_
  refine lv_iconst (v := (jI (-1))) hx hb dX2_find_14 rfl ?_
  obtain ⟨s3, es3⟩ : ∃ y : ST, y = zsp s2 49 (jI (-1)) := ⟨_, rfl⟩
  have h := h s3 es3
  refine zput (ty := .int) hx hb hts inX2 tyX2 tyX2_ok nmX2 hown hK hj hw hA hS 4 (by decide) rfl rfl 4 (by decide) lk1 (fun _ h9 => h9) rfl (by decide +kernel) rfl rfl (Nat.le_of_ble_eq_true rfl) dX2_find_15 (zce cy ad s3) (by rw [es3]; rfl) (fun j hj9 => by rw [es3]; exact zsp_off_C_49 j hj9) (fun H locs hw hS => ?_)
  refine lv_aload_n hx hb dX2_find_18 rfl (lv_at hl 1 rfl) ?_
  refine lv_iload_n hx hb dX2_find_19 rfl (lv_at hl 2 rfl) ?_
  refine k_X4_isThere (rest := []) hx hb hml hown hts gX2_find_X4_isThere ⟨Nat.le_of_ble_eq_true rfl, Nat.le_of_ble_eq_true rfl⟩ ⟨Nat.zero_le _, Nat.zero_le _⟩ hK hj hw hA hS hl.1 (Nat.le_of_ble_eq_true rfl) dX2_find_20 h (fun r1 s4 H locs h hw hS => ?_)
  refine zif_eq (tgt := 32) hx hb dX2_find_23 (by decide) (fun c1 => ?_) (fun c1 => ?_)
  · have h := h.1 c1
    refine lv_aload_n hx hb dX2_find_32 rfl (lv_at hl 0 rfl) ?_
    refine lv_aload_n hx hb dX2_find_33 rfl (lv_at hl 1 rfl) ?_
    refine lv_iload_n hx hb dX2_find_34 rfl (lv_at hl 2 rfl) ?_
    refine k_X2_findGap (rest := []) hx hb hml hown hts gX2_find_X2_findGap ⟨Nat.le_of_ble_eq_true rfl, Nat.le_of_ble_eq_true rfl⟩ ⟨Nat.zero_le _, Nat.zero_le _⟩ hK hj hw hA hS hl.1 (Nat.le_of_ble_eq_true rfl) dX2_find_35 h (fun s5 H locs h hw hS => ?_)
    refine lv_aload_n hx hb dX2_find_38 rfl (lv_at hl 0 rfl) ?_
    refine zget hx hb hts inX2 hown hK hw 4 (by decide) rfl rfl 0 (by decide) lk2 (fun _ h9 => h9) rfl dX2_find_39 ?_
    refine lv_iconst (v := (jI (-1))) hx hb dX2_find_42 rfl ?_
    refine lv_icmp_ne (tgt := 52) hx hb dX2_find_43 (by decide) (fun c2 => ?_) (fun c2 => ?_)
    · have h := h.2 c2
      refine lv_aload_n hx hb dX2_find_52 rfl (lv_at hl 0 rfl) ?_
      refine zget hx hb hts inX2 hown hK hw 4 (by decide) rfl rfl 0 (by decide) lk2 (fun _ h9 => h9) rfl dX2_find_53 ?_
      refine lv_iconst (v := (jI (-1))) hx hb dX2_find_56 rfl ?_
      refine lv_icmp_ne (tgt := 66) hx hb dX2_find_57 (by decide) (fun c3 => ?_) (fun c3 => ?_)
      · have h := h.2 c3
        refine lv_aload_n hx hb dX2_find_66 rfl (lv_at hl 0 rfl) ?_
        refine zget hx hb hts inX2 hown hK hw 4 (by decide) rfl rfl 0 (by decide) lk2 (fun _ h9 => h9) rfl dX2_find_67 ?_
        refine lv_iconst (v := (jI (-1))) hx hb dX2_find_70 rfl ?_
        refine lv_icmp_ne (tgt := 79) hx hb dX2_find_71 (by decide) (fun c4 => ?_) (fun c4 => ?_)
        · have h := h.2 c4
          exact W.vret hx hb hr (fun t ht hW => ⟨⟨_, rfl, h, zend hw ht⟩, hS.F ht⟩) hS.2.2 dX2_find_79
        · have h := h.1 c4
          refine lv_aload_n hx hb dX2_find_74 rfl (lv_at hl 0 rfl) ?_
          refine lv_aload_n hx hb dX2_find_75 rfl (lv_at hl 1 rfl) ?_
          refine k_X2_findRoomInStreet (rest := []) hx hb hml hown hts gX2_find_X2_findRoomInStreet ⟨Nat.le_of_ble_eq_true rfl, Nat.le_of_ble_eq_true rfl⟩ ⟨Nat.zero_le _, Nat.zero_le _⟩ hK hj hw hA hS hl.1 (Nat.le_of_ble_eq_true rfl) dX2_find_76 h (fun s6 H locs h hw hS => ?_)
          exact W.vret hx hb hr (fun t ht hW => ⟨⟨_, rfl, h, zend hw ht⟩, hS.F ht⟩) hS.2.2 dX2_find_79
      · have h := h.1 c3
        refine lv_aload_n hx hb dX2_find_60 rfl (lv_at hl 0 rfl) ?_
        refine lv_aload_n hx hb dX2_find_61 rfl (lv_at hl 1 rfl) ?_
        refine lv_iload_n hx hb dX2_find_62 rfl (lv_at hl 2 rfl) ?_
        refine k_X2_findShelfToEmpty (rest := []) hx hb hml hown hts gX2_find_X2_findShelfToEmpty ⟨Nat.le_of_ble_eq_true rfl, Nat.le_of_ble_eq_true rfl⟩ ⟨Nat.zero_le _, Nat.zero_le _⟩ hK hj hw hA hS hl.1 (Nat.le_of_ble_eq_true rfl) dX2_find_63 h (fun s7 H locs h hw hS => ?_)
        refine lv_aload_n hx hb dX2_find_66 rfl (lv_at hl 0 rfl) ?_
        refine zget hx hb hts inX2 hown hK hw 4 (by decide) rfl rfl 0 (by decide) lk2 (fun _ h9 => h9) rfl dX2_find_67 ?_
        refine lv_iconst (v := (jI (-1))) hx hb dX2_find_70 rfl ?_
        refine lv_icmp_ne (tgt := 79) hx hb dX2_find_71 (by decide) (fun c5 => ?_) (fun c5 => ?_)
        · have h := h.2 c5
          exact W.vret hx hb hr (fun t ht hW => ⟨⟨_, rfl, h, zend hw ht⟩, hS.F ht⟩) hS.2.2 dX2_find_79
        · have h := h.1 c5
          refine lv_aload_n hx hb dX2_find_74 rfl (lv_at hl 0 rfl) ?_
          refine lv_aload_n hx hb dX2_find_75 rfl (lv_at hl 1 rfl) ?_
          refine k_X2_findRoomInStreet (rest := []) hx hb hml hown hts gX2_find_X2_findRoomInStreet ⟨Nat.le_of_ble_eq_true rfl, Nat.le_of_ble_eq_true rfl⟩ ⟨Nat.zero_le _, Nat.zero_le _⟩ hK hj hw hA hS hl.1 (Nat.le_of_ble_eq_true rfl) dX2_find_76 h (fun s8 H locs h hw hS => ?_)
          exact W.vret hx hb hr (fun t ht hW => ⟨⟨_, rfl, h, zend hw ht⟩, hS.F ht⟩) hS.2.2 dX2_find_79
    · have h := h.1 c2
      refine lv_aload_n hx hb dX2_find_46 rfl (lv_at hl 0 rfl) ?_
      refine lv_aload_n hx hb dX2_find_47 rfl (lv_at hl 1 rfl) ?_
      refine lv_iload_n hx hb dX2_find_48 rfl (lv_at hl 2 rfl) ?_
      refine k_X2_findRoomForShelf (rest := []) hx hb hml hown hts gX2_find_X2_findRoomForShelf ⟨Nat.le_of_ble_eq_true rfl, Nat.le_of_ble_eq_true rfl⟩ ⟨Nat.zero_le _, Nat.zero_le _⟩ hK hj hw hA hS hl.1 (Nat.le_of_ble_eq_true rfl) dX2_find_49 h (fun s9 H locs h hw hS => ?_)
      refine lv_aload_n hx hb dX2_find_52 rfl (lv_at hl 0 rfl) ?_
      refine zget hx hb hts inX2 hown hK hw 4 (by decide) rfl rfl 0 (by decide) lk2 (fun _ h9 => h9) rfl dX2_find_53 ?_
      refine lv_iconst (v := (jI (-1))) hx hb dX2_find_56 rfl ?_
      refine lv_icmp_ne (tgt := 66) hx hb dX2_find_57 (by decide) (fun c6 => ?_) (fun c6 => ?_)
      · have h := h.2 c6
        refine lv_aload_n hx hb dX2_find_66 rfl (lv_at hl 0 rfl) ?_
        refine zget hx hb hts inX2 hown hK hw 4 (by decide) rfl rfl 0 (by decide) lk2 (fun _ h9 => h9) rfl dX2_find_67 ?_
        refine lv_iconst (v := (jI (-1))) hx hb dX2_find_70 rfl ?_
        refine lv_icmp_ne (tgt := 79) hx hb dX2_find_71 (by decide) (fun c7 => ?_) (fun c7 => ?_)
        · have h := h.2 c7
          exact W.vret hx hb hr (fun t ht hW => ⟨⟨_, rfl, h, zend hw ht⟩, hS.F ht⟩) hS.2.2 dX2_find_79
        · have h := h.1 c7
          refine lv_aload_n hx hb dX2_find_74 rfl (lv_at hl 0 rfl) ?_
          refine lv_aload_n hx hb dX2_find_75 rfl (lv_at hl 1 rfl) ?_
          refine k_X2_findRoomInStreet (rest := []) hx hb hml hown hts gX2_find_X2_findRoomInStreet ⟨Nat.le_of_ble_eq_true rfl, Nat.le_of_ble_eq_true rfl⟩ ⟨Nat.zero_le _, Nat.zero_le _⟩ hK hj hw hA hS hl.1 (Nat.le_of_ble_eq_true rfl) dX2_find_76 h (fun s10 H locs h hw hS => ?_)
          exact W.vret hx hb hr (fun t ht hW => ⟨⟨_, rfl, h, zend hw ht⟩, hS.F ht⟩) hS.2.2 dX2_find_79
      · have h := h.1 c6
        refine lv_aload_n hx hb dX2_find_60 rfl (lv_at hl 0 rfl) ?_
        refine lv_aload_n hx hb dX2_find_61 rfl (lv_at hl 1 rfl) ?_
        refine lv_iload_n hx hb dX2_find_62 rfl (lv_at hl 2 rfl) ?_
        refine k_X2_findShelfToEmpty (rest := []) hx hb hml hown hts gX2_find_X2_findShelfToEmpty ⟨Nat.le_of_ble_eq_true rfl, Nat.le_of_ble_eq_true rfl⟩ ⟨Nat.zero_le _, Nat.zero_le _⟩ hK hj hw hA hS hl.1 (Nat.le_of_ble_eq_true rfl) dX2_find_63 h (fun s11 H locs h hw hS => ?_)
        refine lv_aload_n hx hb dX2_find_66 rfl (lv_at hl 0 rfl) ?_
        refine zget hx hb hts inX2 hown hK hw 4 (by decide) rfl rfl 0 (by decide) lk2 (fun _ h9 => h9) rfl dX2_find_67 ?_
        refine lv_iconst (v := (jI (-1))) hx hb dX2_find_70 rfl ?_
        refine lv_icmp_ne (tgt := 79) hx hb dX2_find_71 (by decide) (fun c8 => ?_) (fun c8 => ?_)
        · have h := h.2 c8
          exact W.vret hx hb hr (fun t ht hW => ⟨⟨_, rfl, h, zend hw ht⟩, hS.F ht⟩) hS.2.2 dX2_find_79
        · have h := h.1 c8
          refine lv_aload_n hx hb dX2_find_74 rfl (lv_at hl 0 rfl) ?_
          refine lv_aload_n hx hb dX2_find_75 rfl (lv_at hl 1 rfl) ?_
          refine k_X2_findRoomInStreet (rest := []) hx hb hml hown hts gX2_find_X2_findRoomInStreet ⟨Nat.le_of_ble_eq_true rfl, Nat.le_of_ble_eq_true rfl⟩ ⟨Nat.zero_le _, Nat.zero_le _⟩ hK hj hw hA hS hl.1 (Nat.le_of_ble_eq_true rfl) dX2_find_76 h (fun s12 H locs h hw hS => ?_)
          exact W.vret hx hb hr (fun t ht hW => ⟨⟨_, rfl, h, zend hw ht⟩, hS.F ht⟩) hS.2.2 dX2_find_79
  · have h := h.2 c1
    refine lv_aload_n hx hb dX2_find_26 rfl (lv_at hl 0 rfl) ?_
    refine lv_iconst (v := (jI 0)) hx hb dX2_find_27 rfl ?_
    obtain ⟨s13, es13⟩ : ∃ y : ST, y = zsp s4 45 (jI 0) := ⟨_, rfl⟩
    have h := h s13 es13
    refine zput (ty := .int) hx hb hts inX2 tyX2 tyX2_ok nmX2 hown hK hj hw hA hS 4 (by decide) rfl rfl 0 (by decide) lk2 (fun _ h9 => h9) rfl (by decide +kernel) rfl rfl (Nat.le_of_ble_eq_true rfl) dX2_find_28 (zce cy ad s13) (by rw [es13]; rfl) (fun j hj9 => by rw [es13]; exact zsp_off_C_45 j hj9) (fun H locs hw hS => ?_)
    exact W.vret hx hb hr (fun t ht hW => ⟨⟨_, rfl, h, zend hw ht⟩, hS.F ht⟩) hS.2.2 dX2_find_31
theorem k_X2_find {p : Program} {l : Launch} {e : Env} {R : Room} {s : State} {m : MethodId} {args : Array Value} {below : List Frame} {meth : Method} {c : Code} {H : Heap} {locs : List Loc} {cells slots : Nat} {QQ : State → Prop} {cc : ByteArray} {pc nL index : Nat} {ls : Array Slot} {rest : List Value} {D : va_G} {cy : cyT} {ad : Nat → Nat} {own : String} {Ts : List Cond} {H0 : Heap} {σ : ST} {p1 : Int32} {Q : ST → Prop} (hx : p.tables.exec = Jvm.exec) (hb : c.code = cc) (hml : c.maxLocals = nL) (hown : s.vm.findClass own = some m.cls) (hts : ∀ w ∈ Ts, w.before args s = true) (hG : GoodIn Ts (wsV own index RX2 yX2_find wsX2_find)) (hR : 4 + 1 ≤ R.frames ∧ 8 + (3 + 11) + 91 ≤ R.locals) (hcs : cells ≤ R.cells ∧ slots ≤ R.slots) (hK : zK D cy s) (hj : zI 116 ad) (hw : zW D 116 (zce cy ad σ) ad H) {A0 : Nat → Prop} (hA : ∀ i, i < 116 → A0 (ad i)) (hS : va_S A0 H0 H locs) (hsz : ls.size = nL) (hrest : (rest.map fun v => v.category).sum ≤ 8) (hdg : decode cc pc = .ok (.invokevirtual index, 3)) (h : wp_X2_find σ p1 Q) (kk : ∀ (σ : ST) (H : Heap) (locs : List Loc), Q σ → zW D 116 (zce cy ad σ) ad H → va_S A0 H0 H locs → W p l e R s m args below meth c H locs cells slots QQ (F0 m (pc + 3) ls rest)) : W p l e R s m args below meth c H locs cells slots QQ (F0 m pc ls (.int p1 :: .ref (ad 5) :: .ref (ad 4) :: rest)) :=
  zcallv (va_runV (As := [.ref (ad 5), .int p1]) (rest := rest) ⟨hx, hb, hml, hown, hts⟩ (c_X2_find l D cy ad σ p1 h) (cwV 2 hts hG rfl rfl rfl (by decide +kernel) hR) (zpreV hj hK hw _ (i := 4) (ci := 1) (by decide) rfl rfl) rfl rfl hsz rfl (lv_room hrest) hdg hcs) hA hS kk
set_option maxHeartbeats 4000000 in
set_option maxRecDepth 100000 in
theorem c_X4_takeAway (l : Launch) (D : va_G) (cy : cyT) (ad : Nat → Nat) (σ : ST) (p0 : Int32) {Q : ST → Prop} (h : wp_X4_takeAway σ p0 Q) : Met l yX4_takeAway wsX4_takeAway ({ frames := 1, cells := 0, slots := 0, locals := 22 } : Room) (zPre D cy 116 (zce cy ad σ) ad [.ref (ad 5), .int p0]) (va_Qv Q (zB D 116 (zce cy ad) ad) (zA 116 ad)) 0 0 (zA 116 ad) := by
  refine Met.ofW (cc := cX4_takeAway) (maxL := 5) (ret := none) (by decide) rfl ?_
  intro p e s m args below meth c s₁ B hml hv
  obtain ⟨rfl, hj, hK, hw⟩ := hv
  have hx := B.exec
  have hb := B.bytes
  have hr := B.returns
  have hts := atoms_spec (ws := wsX4_takeAway) B.pre
  have hown : s.vm.findClass RX4 = some m.cls := findClass_of_methodNamed B.named
  have hlocks := B.notSynchronized
  have lk0 : Cond.fieldLink RX4 47 "TypeTrays$State" "presentCount" "I" ∈ wsX4_takeAway := List.mem_of_getElem? (i := 1) rfl
  have lk1 : Cond.fieldLink RX4 44 "TypeTrays$State" "present" "LTypeTrays$Row;" ∈ wsX4_takeAway := List.mem_of_getElem? (i := 2) rfl
  have lk2 : Cond.fieldLink RX4 26 "TypeTrays$State" "slots" "LTypeTrays$Row;" ∈ wsX4_takeAway := List.mem_of_getElem? (i := 3) rfl
  have lk3 : Cond.fieldLink RX4 66 "TypeTrays$State" "taken" "I" ∈ wsX4_takeAway := List.mem_of_getElem? (i := 4) rfl
  have inX4 : ∀ w ∈ u_ws RX4 TX4 18, w ∈ wsX4_takeAway := zin_at 15 rfl
  have hS : va_S (zA 116 ad) s.heap s.heap [] := va_S.rf
  have hA : ∀ i, i < 116 → zA 116 ad (ad i) := fun i hi => ⟨i, hi, rfl⟩
  have hl := lv_entry ([.ref (ad 5), .int p0]) (n := 5) (Nat.le_of_ble_eq_true rfl)
  rw [lg_entry_eq]
  generalize (lg_sl ([.ref (ad 5), .int p0]) ++ List.replicate (5 - (lg_sl ([.ref (ad 5), .int p0])).length) Slot.unset).toArray = ls at hl ⊢
  have hl : lv_has ls 5 [(0, .ref (ad 5)), (1, .int p0)] := hl
  show W p l e ({ frames := 1, cells := 0, slots := 0, locals := 22 } : Room) s m ([.ref (ad 5), .int p0] : List Value).toArray below meth c s.heap [] 0 0 (MQ below (va_Qv Q (zB D 116 (zce cy ad) ad) (zA 116 ad)) ([.ref (ad 5), .int p0] : List Value).toArray s 0 0 (zA 116 ad)) (F0 m 0 ls [])
  unfold wp_X4_takeAway at h
  refine lv_iconst (v := (jI 0)) hx hb dX4_takeAway_0 rfl ?_
  refine lv_istore_n (lv' := [(2, .int (jI 0)), (0, .ref (ad 5)), (1, .int p0)]) hx hb dX4_takeAway_1 rfl hl (by decide) rfl (fun ls hl => ?_)
  refine lv_iconst (v := (jI 0)) hx hb dX4_takeAway_2 rfl ?_
  refine lv_istore_n (lv' := [(3, .int (jI 0)), (2, .int (jI 0)), (0, .ref (ad 5)), (1, .int p0)]) hx hb dX4_takeAway_3 rfl hl (by decide) rfl (fun ls hl => ?_)
  have k47_4 : ∀ (u_47 : ST) (z2_47 : Int32) (H : Heap) (locs : List Loc), (∀ s2 : ST, s2 = zsp u_47 0 z2_47 → (∀ s3 : ST, s3 = zrs s2 3 p0 (jI (-2)) → (∀ s4 : ST, s4 = zsp s3 6 ((s3.2 6) + (jI 1)) → Q s4))) → zW D 116 (zce cy ad u_47) ad H → va_S (zA 116 ad) s.heap H locs → ∀ ls : Array Slot, lv_has ls 5 [(0, .ref (ad 5)), (1, .int p0), (2, .int z2_47)] → W p l e ({ frames := 1, cells := 0, slots := 0, locals := 22 } : Room) s m ([.ref (ad 5), .int p0] : List Value).toArray below meth c H locs 0 0 (MQ below (va_Qv Q (zB D 116 (zce cy ad) ad) (zA 116 ad)) ([.ref (ad 5), .int p0] : List Value).toArray s 0 0 (zA 116 ad)) (F0 m 47 ls []) := by
    intro u_47 z2_47 H locs h hw hS ls hl
    refine lv_aload_n hx hb dX4_takeAway_47 rfl (lv_at hl 0 rfl) ?_
    refine lv_iload_n hx hb dX4_takeAway_48 rfl (lv_at hl 2 rfl) ?_
    obtain ⟨s2, es2⟩ : ∃ y : ST, y = zsp u_47 0 z2_47 := ⟨_, rfl⟩
    have h := h s2 es2
    refine zput (ty := .int) hx hb hts inX4 tyX4 tyX4_ok nmX4 hown hK hj hw hA hS 5 (by decide) rfl rfl 10 (by decide) lk0 (fun _ h9 => h9) rfl (by decide +kernel) rfl rfl (Nat.le_of_ble_eq_true rfl) dX4_takeAway_49 (zce cy ad s2) (by rw [es2]; rfl) (fun j hj9 => by rw [es2]; exact zsp_off_C_0 j hj9) (fun H locs hw hS => ?_)
    refine lv_aload_n hx hb dX4_takeAway_52 rfl (lv_at hl 0 rfl) ?_
    refine zget hx hb hts inX4 hown hK hw 5 (by decide) rfl rfl 3 (by decide) lk2 (fun _ h9 => h9) rfl dX4_takeAway_53 ?_
    refine lv_iload_n hx hb dX4_takeAway_56 rfl (lv_at hl 1 rfl) ?_
    refine lv_bipush (v := (jI (-2))) hx hb dX4_takeAway_57 (by decide +kernel) ?_
    obtain ⟨s3, es3⟩ : ∃ y : ST, y = zrs s2 3 p0 (jI (-2)) := ⟨_, rfl⟩
    have h := h s3 es3
    refine zcall_put (rest := []) hx hb hml hown hts gX4_takeAway_X3_put ⟨Nat.le_of_ble_eq_true rfl, Nat.le_of_ble_eq_true rfl⟩ ⟨Nat.zero_le _, Nat.zero_le _⟩ hK hj hw hA hS 3 (by decide) hl.1 (Nat.le_of_ble_eq_true rfl) dX4_takeAway_59 (fun H locs hw hS => ?_)
    rw [← es3] at hw
    refine lv_aload_n hx hb dX4_takeAway_62 rfl (lv_at hl 0 rfl) ?_
    refine lv_dup hx hb dX4_takeAway_63 rfl ?_
    refine zget hx hb hts inX4 hown hK hw 5 (by decide) rfl rfl 16 (by decide) lk3 (fun _ h9 => h9) rfl dX4_takeAway_64 ?_
    refine lv_iconst (v := (jI 1)) hx hb dX4_takeAway_67 rfl ?_
    refine lv_iadd hx hb dX4_takeAway_68 ?_
    obtain ⟨s4, es4⟩ : ∃ y : ST, y = zsp s3 6 ((s3.2 6) + (jI 1)) := ⟨_, rfl⟩
    have h := h s4 es4
    refine zput (ty := .int) hx hb hts inX4 tyX4 tyX4_ok nmX4 hown hK hj hw hA hS 5 (by decide) rfl rfl 16 (by decide) lk3 (fun _ h9 => h9) rfl (by decide +kernel) rfl rfl (Nat.le_of_ble_eq_true rfl) dX4_takeAway_69 (zce cy ad s4) (by rw [es4]; rfl) (fun j hj9 => by rw [es4]; exact zsp_off_C_6 j hj9) (fun H locs hw hS => ?_)
    exact W.vret hx hb hr (fun t ht hW => ⟨⟨_, rfl, h, zend hw ht⟩, hS.F ht⟩) hS.2.2 dX4_takeAway_72
  have lp4 : ∀ (nn4 : Nat) (t_4 : ST) (y2_4 : Int32) (y3_4 : Int32) (H : Heap) (locs : List Loc), wl_X4_takeAway_4 (fun u_47 z2_47 => (∀ s2 : ST, s2 = zsp u_47 0 z2_47 → (∀ s3 : ST, s3 = zrs s2 3 p0 (jI (-2)) → (∀ s4 : ST, s4 = zsp s3 6 ((s3.2 6) + (jI 1)) → Q s4)))) p0 nn4 t_4 y2_4 y3_4 → zW D 116 (zce cy ad t_4) ad H → va_S (zA 116 ad) s.heap H locs → ∀ ls : Array Slot, lv_has ls 5 [(0, .ref (ad 5)), (1, .int p0), (2, .int y2_4), (3, .int y3_4)] → W p l e ({ frames := 1, cells := 0, slots := 0, locals := 22 } : Room) s m ([.ref (ad 5), .int p0] : List Value).toArray below meth c H locs 0 0 (MQ below (va_Qv Q (zB D 116 (zce cy ad) ad) (zA 116 ad)) ([.ref (ad 5), .int p0] : List Value).toArray s 0 0 (zA 116 ad)) (F0 m 4 ls []) := by
    intro nn4
    induction nn4 with
    | zero => intro _ _ _ _ _ h; exact h.elim
    | succ nn4 ih4 =>
      intro t_4 y2_4 y3_4 H locs h hw hS ls hl
      simp only [wl_X4_takeAway_4, wb_X4_takeAway_4] at h
      refine lv_iload_n hx hb dX4_takeAway_4 rfl (lv_at hl 3 rfl) ?_
      refine lv_aload_n hx hb dX4_takeAway_5 rfl (lv_at hl 0 rfl) ?_
      refine zget hx hb hts inX4 hown hK hw 5 (by decide) rfl rfl 10 (by decide) lk0 (fun _ h9 => h9) rfl dX4_takeAway_6 ?_
      refine lv_icmp_ge (tgt := 47) hx hb dX4_takeAway_9 (by decide) (fun c1 => ?_) (fun c1 => ?_)
      · have h := h.1 c1
        exact k47_4 _ _ _ _ h hw hS _ (lv_sub hl [0, 1, 2] rfl)
      · have h := h.2 c1
        refine lv_aload_n hx hb dX4_takeAway_12 rfl (lv_at hl 0 rfl) ?_
        refine zget hx hb hts inX4 hown hK hw 5 (by decide) rfl rfl 9 (by decide) lk1 (fun _ h9 => h9) rfl dX4_takeAway_13 ?_
        refine lv_iload_n hx hb dX4_takeAway_16 rfl (lv_at hl 3 rfl) ?_
        refine zcall_get (rest := []) hx hb hml hown hts gX4_takeAway_X3_get ⟨Nat.le_of_ble_eq_true rfl, Nat.le_of_ble_eq_true rfl⟩ ⟨Nat.zero_le _, Nat.zero_le _⟩ hK hj hw hA hS 9 (by decide) hl.1 (Nat.le_of_ble_eq_true rfl) dX4_takeAway_17 (fun H locs hw hS => ?_)
        refine lv_topi (fun v1 ev1 => ?_)
        have h := h v1 ev1
        refine lv_istore (lv' := [(4, .int v1), (0, .ref (ad 5)), (1, .int p0), (2, .int y2_4), (3, .int y3_4)]) hx hb dX4_takeAway_20 hl (by decide) rfl (fun ls hl => ?_)
        refine lv_iload hx hb dX4_takeAway_22 (lv_at hl 0 rfl) ?_
        refine lv_iload_n hx hb dX4_takeAway_24 rfl (lv_at hl 2 rfl) ?_
        refine lv_icmp_eq (tgt := 41) hx hb dX4_takeAway_25 (by decide) (fun c2 => ?_) (fun c2 => ?_)
        · have h := h.1 c2
          obtain ⟨x1, ex1⟩ : ∃ y : Int32, y = y3_4 + (jI 1) := ⟨_, rfl⟩
          have h := h x1 ex1
          refine lv_iinc (v := x1) (lv' := [(3, .int x1), (4, .int v1), (0, .ref (ad 5)), (1, .int p0), (2, .int y2_4)]) hx hb dX4_takeAway_41 hl (k := 4) rfl (by rw [ex1]; rfl) (by decide) rfl (fun ls hl => ?_)
          refine lv_goto (tgt := 4) hx hb dX4_takeAway_44 (by decide) ?_
          exact ih4 _ _ _ _ _ h hw hS _ (lv_sub hl [2, 3, 4, 0] rfl)
        · have h := h.2 c2
          refine lv_aload_n hx hb dX4_takeAway_28 rfl (lv_at hl 1 rfl) ?_
          refine zget hx hb hts inX4 hown hK hw 5 (by decide) rfl rfl 9 (by decide) lk1 (fun _ h9 => h9) rfl dX4_takeAway_29 ?_
          refine lv_iload_n hx hb dX4_takeAway_32 rfl (lv_at hl 3 rfl) ?_
          refine lv_iload hx hb dX4_takeAway_33 (lv_at hl 0 rfl) ?_
          obtain ⟨s1, es1⟩ : ∃ y : ST, y = zrs t_4 9 y2_4 v1 := ⟨_, rfl⟩
          have h := h s1 es1
          refine zcall_put (rest := []) hx hb hml hown hts gX4_takeAway_X3_put ⟨Nat.le_of_ble_eq_true rfl, Nat.le_of_ble_eq_true rfl⟩ ⟨Nat.zero_le _, Nat.zero_le _⟩ hK hj hw hA hS 9 (by decide) hl.1 (Nat.le_of_ble_eq_true rfl) dX4_takeAway_35 (fun H locs hw hS => ?_)
          rw [← es1] at hw
          obtain ⟨x2, ex2⟩ : ∃ y : Int32, y = y2_4 + (jI 1) := ⟨_, rfl⟩
          have h := h x2 ex2
          refine lv_iinc (v := x2) (lv' := [(2, .int x2), (4, .int v1), (0, .ref (ad 5)), (1, .int p0), (3, .int y3_4)]) hx hb dX4_takeAway_38 hl (k := 3) rfl (by rw [ex2]; rfl) (by decide) rfl (fun ls hl => ?_)
          obtain ⟨x3, ex3⟩ : ∃ y : Int32, y = y3_4 + (jI 1) := ⟨_, rfl⟩
          have h := h x3 ex3
          refine lv_iinc (v := x3) (lv' := [(3, .int x3), (2, .int x2), (4, .int v1), (0, .ref (ad 5)), (1, .int p0)]) hx hb dX4_takeAway_41 hl (k := 4) rfl (by rw [ex3]; rfl) (by decide) rfl (fun ls hl => ?_)
          refine lv_goto (tgt := 4) hx hb dX4_takeAway_44 (by decide) ?_
          exact ih4 _ _ _ _ _ h hw hS _ (lv_sub hl [3, 4, 1, 0] rfl)
  obtain ⟨nn4, h⟩ := h
  exact lp4 nn4 _ _ _ _ _ h hw hS _ (lv_sub hl [2, 3, 1, 0] rfl)
theorem k_X4_takeAway {p : Program} {l : Launch} {e : Env} {R : Room} {s : State} {m : MethodId} {args : Array Value} {below : List Frame} {meth : Method} {c : Code} {H : Heap} {locs : List Loc} {cells slots : Nat} {QQ : State → Prop} {cc : ByteArray} {pc nL index : Nat} {ls : Array Slot} {rest : List Value} {D : va_G} {cy : cyT} {ad : Nat → Nat} {own : String} {Ts : List Cond} {H0 : Heap} {σ : ST} {p0 : Int32} {Q : ST → Prop} (hx : p.tables.exec = Jvm.exec) (hb : c.code = cc) (hml : c.maxLocals = nL) (hown : s.vm.findClass own = some m.cls) (hts : ∀ w ∈ Ts, w.before args s = true) (hG : GoodIn Ts (wsV own index RX4 yX4_takeAway wsX4_takeAway)) (hR : 1 + 1 ≤ R.frames ∧ 8 + (5 + 11) + 22 ≤ R.locals) (hcs : cells ≤ R.cells ∧ slots ≤ R.slots) (hK : zK D cy s) (hj : zI 116 ad) (hw : zW D 116 (zce cy ad σ) ad H) {A0 : Nat → Prop} (hA : ∀ i, i < 116 → A0 (ad i)) (hS : va_S A0 H0 H locs) (hsz : ls.size = nL) (hrest : (rest.map fun v => v.category).sum ≤ 8) (hdg : decode cc pc = .ok (.invokevirtual index, 3)) (h : wp_X4_takeAway σ p0 Q) (kk : ∀ (σ : ST) (H : Heap) (locs : List Loc), Q σ → zW D 116 (zce cy ad σ) ad H → va_S A0 H0 H locs → W p l e R s m args below meth c H locs cells slots QQ (F0 m (pc + 3) ls rest)) : W p l e R s m args below meth c H locs cells slots QQ (F0 m pc ls (.int p0 :: .ref (ad 5) :: rest)) :=
  zcallv (va_runV (As := [.int p0]) (rest := rest) ⟨hx, hb, hml, hown, hts⟩ (c_X4_takeAway l D cy ad σ p0 h) (cwV 1 hts hG rfl rfl rfl (by decide +kernel) hR) (zpreV hj hK hw _ (i := 5) (ci := 3) (by decide) rfl rfl) rfl rfl hsz rfl (lv_room hrest) hdg hcs) hA hS kk
theorem last_06a : True := trivial
