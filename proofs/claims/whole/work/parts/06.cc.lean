/-! printed by wip/whole/gen.py: contracts -/
set_option maxHeartbeats 4000000 in
set_option maxRecDepth 100000 in
theorem c_X4_wholeValue (l : Launch) (D : va_G) (cy : cyT) (ad : Nat → Nat) (σ : ST) (p0 : Int32) {Q : Int32 → ST → Prop} (h : wp_X4_wholeValue σ p0 Q) : Met l yX4_wholeValue wsX4_wholeValue ({ frames := 4, cells := 0, slots := 0, locals := 86 } : Room) (zPre D cy 116 (zce cy ad σ) ad [.ref (ad 5), .int p0]) (va_Qi Q (zB D 116 (zce cy ad) ad) (zA 116 ad)) 0 0 (zA 116 ad) := by
  refine Met.ofW (cc := cX4_wholeValue) (maxL := 2) (ret := (some .int)) (by decide) rfl ?_
  intro p e s m args below meth c s₁ B hml hv
  obtain ⟨rfl, hj, hK, hw⟩ := hv
  have hx := B.exec
  have hb := B.bytes
  have hr := B.returns
  have hts := atoms_spec (ws := wsX4_wholeValue) B.pre
  have hown : s.vm.findClass RX4 = some m.cls := findClass_of_methodNamed B.named
  have hlocks := B.notSynchronized
  have lk0 : Cond.fieldLink RX4 51 "TypeTrays$State" "trays" "I" ∈ wsX4_wholeValue := List.mem_of_getElem? (i := 1) rfl
  have lk1 : Cond.fieldLink RX4 47 "TypeTrays$State" "presentCount" "I" ∈ wsX4_wholeValue := List.mem_of_getElem? (i := 2) rfl
  have lk2 : Cond.fieldLink RX4 54 "TypeTrays$State" "line" "I" ∈ wsX4_wholeValue := List.mem_of_getElem? (i := 3) rfl
  have lk3 : Cond.fieldLink RX4 57 "TypeTrays$State" "clock" "I" ∈ wsX4_wholeValue := List.mem_of_getElem? (i := 4) rfl
  have lk4 : Cond.fieldLink RX4 60 "TypeTrays$State" "hits" "I" ∈ wsX4_wholeValue := List.mem_of_getElem? (i := 5) rfl
  have lk5 : Cond.fieldLink RX4 63 "TypeTrays$State" "made" "I" ∈ wsX4_wholeValue := List.mem_of_getElem? (i := 6) rfl
  have lk6 : Cond.fieldLink RX4 66 "TypeTrays$State" "taken" "I" ∈ wsX4_wholeValue := List.mem_of_getElem? (i := 7) rfl
  have lk7 : Cond.fieldLink RX4 69 "TypeTrays$State" "inked" "I" ∈ wsX4_wholeValue := List.mem_of_getElem? (i := 8) rfl
  have inX4 : ∀ w ∈ u_ws RX4 TX4 18, w ∈ wsX4_wholeValue := zin_at 73 rfl
  have hS : va_S (zA 116 ad) s.heap s.heap [] := va_S.rf
  have hA : ∀ i, i < 116 → zA 116 ad (ad i) := fun i hi => ⟨i, hi, rfl⟩
  have hl := lv_entry ([.ref (ad 5), .int p0]) (n := 2) (Nat.le_of_ble_eq_true rfl)
  rw [lg_entry_eq]
  generalize (lg_sl ([.ref (ad 5), .int p0]) ++ List.replicate (2 - (lg_sl ([.ref (ad 5), .int p0])).length) Slot.unset).toArray = ls at hl ⊢
  have hl : lv_has ls 2 [(0, .ref (ad 5)), (1, .int p0)] := hl
  show W p l e ({ frames := 4, cells := 0, slots := 0, locals := 86 } : Room) s m ([.ref (ad 5), .int p0] : List Value).toArray below meth c s.heap [] 0 0 (MQ below (va_Qi Q (zB D 116 (zce cy ad) ad) (zA 116 ad)) ([.ref (ad 5), .int p0] : List Value).toArray s 0 0 (zA 116 ad)) (F0 m 0 ls [])
  unfold wp_X4_wholeValue at h
  refine lv_iload_n hx hb dX4_wholeValue_0 rfl (lv_at hl 1 rfl) ?_
  rcases Classical.em (p0 = (jI 0)) with c1 | c1
  · have h := h.1 c1
    refine lv_tableIn (tgt := 60) (off := 59) hx hb dX4_wholeValue_1 (by rw [c1]; decide +kernel) (by rw [c1]; decide +kernel) (by rw [c1]; decide +kernel) (by decide) ?_
    refine lv_aload_n hx hb dX4_wholeValue_60 rfl (lv_at hl 0 rfl) ?_
    refine zget hx hb hts inX4 hown hK hw 5 (by decide) rfl rfl 11 (by decide) lk0 (fun _ h9 => h9) rfl dX4_wholeValue_61 ?_
    exact W.iret (v := (σ.2 1)) hx hb hr (fun t ht hW => ⟨⟨_, _, rfl, h, zend hw ht⟩, hS.F ht⟩) hS.2.2 dX4_wholeValue_64
  have h := h.2 c1
  rcases Classical.em (p0 = (jI 1)) with c2 | c2
  · have h := h.1 c2
    refine lv_tableIn (tgt := 65) (off := 64) hx hb dX4_wholeValue_1 (by rw [c2]; decide +kernel) (by rw [c2]; decide +kernel) (by rw [c2]; decide +kernel) (by decide) ?_
    refine lv_aload_n hx hb dX4_wholeValue_65 rfl (lv_at hl 0 rfl) ?_
    refine k_X4_countAllShelves (rest := []) hx hb hml hown hts gX4_wholeValue_X4_countAllShelves ⟨Nat.le_of_ble_eq_true rfl, Nat.le_of_ble_eq_true rfl⟩ ⟨Nat.zero_le _, Nat.zero_le _⟩ hK hj hw hA hS hl.1 (Nat.le_of_ble_eq_true rfl) dX4_wholeValue_66 h (fun r1 s1 H locs h hw hS => ?_)
    exact W.iret (v := r1) hx hb hr (fun t ht hW => ⟨⟨_, _, rfl, h, zend hw ht⟩, hS.F ht⟩) hS.2.2 dX4_wholeValue_69
  have h := h.2 c2
  rcases Classical.em (p0 = (jI 2)) with c3 | c3
  · have h := h.1 c3
    refine lv_tableIn (tgt := 70) (off := 69) hx hb dX4_wholeValue_1 (by rw [c3]; decide +kernel) (by rw [c3]; decide +kernel) (by rw [c3]; decide +kernel) (by decide) ?_
    refine lv_aload_n hx hb dX4_wholeValue_70 rfl (lv_at hl 0 rfl) ?_
    refine zget hx hb hts inX4 hown hK hw 5 (by decide) rfl rfl 10 (by decide) lk1 (fun _ h9 => h9) rfl dX4_wholeValue_71 ?_
    refine lv_aload_n hx hb dX4_wholeValue_74 rfl (lv_at hl 0 rfl) ?_
    refine k_X4_countInStreet (rest := [.int (σ.2 0)]) hx hb hml hown hts gX4_wholeValue_X4_countInStreet ⟨Nat.le_of_ble_eq_true rfl, Nat.le_of_ble_eq_true rfl⟩ ⟨Nat.zero_le _, Nat.zero_le _⟩ hK hj hw hA hS hl.1 (Nat.le_of_ble_eq_true rfl) dX4_wholeValue_75 h (fun r2 s2 H locs h hw hS => ?_)
    refine lv_isub hx hb dX4_wholeValue_78 ?_
    exact W.iret (v := ((σ.2 0) - r2)) hx hb hr (fun t ht hW => ⟨⟨_, _, rfl, h, zend hw ht⟩, hS.F ht⟩) hS.2.2 dX4_wholeValue_79
  have h := h.2 c3
  rcases Classical.em (p0 = (jI 3)) with c4 | c4
  · have h := h.1 c4
    refine lv_tableIn (tgt := 80) (off := 79) hx hb dX4_wholeValue_1 (by rw [c4]; decide +kernel) (by rw [c4]; decide +kernel) (by rw [c4]; decide +kernel) (by decide) ?_
    refine lv_aload_n hx hb dX4_wholeValue_80 rfl (lv_at hl 0 rfl) ?_
    refine k_X4_countInStreet (rest := []) hx hb hml hown hts gX4_wholeValue_X4_countInStreet ⟨Nat.le_of_ble_eq_true rfl, Nat.le_of_ble_eq_true rfl⟩ ⟨Nat.zero_le _, Nat.zero_le _⟩ hK hj hw hA hS hl.1 (Nat.le_of_ble_eq_true rfl) dX4_wholeValue_81 h (fun r3 s3 H locs h hw hS => ?_)
    exact W.iret (v := r3) hx hb hr (fun t ht hW => ⟨⟨_, _, rfl, h, zend hw ht⟩, hS.F ht⟩) hS.2.2 dX4_wholeValue_84
  have h := h.2 c4
  rcases Classical.em (p0 = (jI 4)) with c5 | c5
  · have h := h.1 c5
    refine lv_tableIn (tgt := 85) (off := 84) hx hb dX4_wholeValue_1 (by rw [c5]; decide +kernel) (by rw [c5]; decide +kernel) (by rw [c5]; decide +kernel) (by decide) ?_
    refine lv_aload_n hx hb dX4_wholeValue_85 rfl (lv_at hl 0 rfl) ?_
    refine zget hx hb hts inX4 hown hK hw 5 (by decide) rfl rfl 12 (by decide) lk2 (fun _ h9 => h9) rfl dX4_wholeValue_86 ?_
    exact W.iret (v := (σ.2 2)) hx hb hr (fun t ht hW => ⟨⟨_, _, rfl, h, zend hw ht⟩, hS.F ht⟩) hS.2.2 dX4_wholeValue_89
  have h := h.2 c5
  rcases Classical.em (p0 = (jI 5)) with c6 | c6
  · have h := h.1 c6
    refine lv_tableIn (tgt := 90) (off := 89) hx hb dX4_wholeValue_1 (by rw [c6]; decide +kernel) (by rw [c6]; decide +kernel) (by rw [c6]; decide +kernel) (by decide) ?_
    refine lv_aload_n hx hb dX4_wholeValue_90 rfl (lv_at hl 0 rfl) ?_
    refine zget hx hb hts inX4 hown hK hw 5 (by decide) rfl rfl 13 (by decide) lk3 (fun _ h9 => h9) rfl dX4_wholeValue_91 ?_
    exact W.iret (v := (σ.2 3)) hx hb hr (fun t ht hW => ⟨⟨_, _, rfl, h, zend hw ht⟩, hS.F ht⟩) hS.2.2 dX4_wholeValue_94
  have h := h.2 c6
  rcases Classical.em (p0 = (jI 6)) with c7 | c7
  · have h := h.1 c7
    refine lv_tableIn (tgt := 95) (off := 94) hx hb dX4_wholeValue_1 (by rw [c7]; decide +kernel) (by rw [c7]; decide +kernel) (by rw [c7]; decide +kernel) (by decide) ?_
    refine lv_aload_n hx hb dX4_wholeValue_95 rfl (lv_at hl 0 rfl) ?_
    refine zget hx hb hts inX4 hown hK hw 5 (by decide) rfl rfl 14 (by decide) lk4 (fun _ h9 => h9) rfl dX4_wholeValue_96 ?_
    exact W.iret (v := (σ.2 4)) hx hb hr (fun t ht hW => ⟨⟨_, _, rfl, h, zend hw ht⟩, hS.F ht⟩) hS.2.2 dX4_wholeValue_99
  have h := h.2 c7
  rcases Classical.em (p0 = (jI 7)) with c8 | c8
  · have h := h.1 c8
    refine lv_tableIn (tgt := 100) (off := 99) hx hb dX4_wholeValue_1 (by rw [c8]; decide +kernel) (by rw [c8]; decide +kernel) (by rw [c8]; decide +kernel) (by decide) ?_
    refine lv_aload_n hx hb dX4_wholeValue_100 rfl (lv_at hl 0 rfl) ?_
    refine zget hx hb hts inX4 hown hK hw 5 (by decide) rfl rfl 15 (by decide) lk5 (fun _ h9 => h9) rfl dX4_wholeValue_101 ?_
    exact W.iret (v := (σ.2 5)) hx hb hr (fun t ht hW => ⟨⟨_, _, rfl, h, zend hw ht⟩, hS.F ht⟩) hS.2.2 dX4_wholeValue_104
  have h := h.2 c8
  rcases Classical.em (p0 = (jI 8)) with c9 | c9
  · have h := h.1 c9
    refine lv_tableIn (tgt := 105) (off := 104) hx hb dX4_wholeValue_1 (by rw [c9]; decide +kernel) (by rw [c9]; decide +kernel) (by rw [c9]; decide +kernel) (by decide) ?_
    refine lv_aload_n hx hb dX4_wholeValue_105 rfl (lv_at hl 0 rfl) ?_
    refine zget hx hb hts inX4 hown hK hw 5 (by decide) rfl rfl 16 (by decide) lk6 (fun _ h9 => h9) rfl dX4_wholeValue_106 ?_
    exact W.iret (v := (σ.2 6)) hx hb hr (fun t ht hW => ⟨⟨_, _, rfl, h, zend hw ht⟩, hS.F ht⟩) hS.2.2 dX4_wholeValue_109
  have h := h.2 c9
  rcases Classical.em (p0 = (jI 9)) with c10 | c10
  · have h := h.1 c10
    refine lv_tableIn (tgt := 110) (off := 109) hx hb dX4_wholeValue_1 (by rw [c10]; decide +kernel) (by rw [c10]; decide +kernel) (by rw [c10]; decide +kernel) (by decide) ?_
    refine lv_aload_n hx hb dX4_wholeValue_110 rfl (lv_at hl 0 rfl) ?_
    refine zget hx hb hts inX4 hown hK hw 5 (by decide) rfl rfl 17 (by decide) lk7 (fun _ h9 => h9) rfl dX4_wholeValue_111 ?_
    exact W.iret (v := (σ.2 7)) hx hb hr (fun t ht hW => ⟨⟨_, _, rfl, h, zend hw ht⟩, hS.F ht⟩) hS.2.2 dX4_wholeValue_114
  have h := h.2 c10
  rcases Classical.em (p0 = (jI 10)) with c11 | c11
  · have h := h.1 c11
    refine lv_tableIn (tgt := 115) (off := 114) hx hb dX4_wholeValue_1 (by rw [c11]; decide +kernel) (by rw [c11]; decide +kernel) (by rw [c11]; decide +kernel) (by decide) ?_
    refine lv_aload_n hx hb dX4_wholeValue_115 rfl (lv_at hl 0 rfl) ?_
    refine k_X4_countOfLine (rest := []) hx hb hml hown hts gX4_wholeValue_X4_countOfLine ⟨Nat.le_of_ble_eq_true rfl, Nat.le_of_ble_eq_true rfl⟩ ⟨Nat.zero_le _, Nat.zero_le _⟩ hK hj hw hA hS hl.1 (Nat.le_of_ble_eq_true rfl) dX4_wholeValue_116 h (fun r4 s4 H locs h hw hS => ?_)
    exact W.iret (v := r4) hx hb hr (fun t ht hW => ⟨⟨_, _, rfl, h, zend hw ht⟩, hS.F ht⟩) hS.2.2 dX4_wholeValue_119
  have h := h.2 c11
  have hsw1 := zsw_out (x := p0) (0) 11 (fun k hk => by
    match k, hk with
    | 0, _ => exact c1
    | 1, _ => exact c2
    | 2, _ => exact c3
    | 3, _ => exact c4
    | 4, _ => exact c5
    | 5, _ => exact c6
    | 6, _ => exact c7
    | 7, _ => exact c8
    | 8, _ => exact c9
    | 9, _ => exact c10
    | 10, _ => exact c11
    | k + 11, hk => exact absurd hk (by omega))
  refine lv_tableOut (tgt := 120) hx hb dX4_wholeValue_1 hsw1 (by decide) ?_
  refine lv_aload_n hx hb dX4_wholeValue_120 rfl (lv_at hl 0 rfl) ?_
  refine k_X4_areaLaid (rest := []) hx hb hml hown hts gX4_wholeValue_X4_areaLaid ⟨Nat.le_of_ble_eq_true rfl, Nat.le_of_ble_eq_true rfl⟩ ⟨Nat.zero_le _, Nat.zero_le _⟩ hK hj hw hA hS hl.1 (Nat.le_of_ble_eq_true rfl) dX4_wholeValue_121 h (fun r5 s5 H locs h hw hS => ?_)
  exact W.iret (v := r5) hx hb hr (fun t ht hW => ⟨⟨_, _, rfl, h, zend hw ht⟩, hS.F ht⟩) hS.2.2 dX4_wholeValue_124
theorem k_X4_wholeValue {p : Program} {l : Launch} {e : Env} {R : Room} {s : State} {m : MethodId} {args : Array Value} {below : List Frame} {meth : Method} {c : Code} {H : Heap} {locs : List Loc} {cells slots : Nat} {QQ : State → Prop} {cc : ByteArray} {pc nL index : Nat} {ls : Array Slot} {rest : List Value} {D : va_G} {cy : cyT} {ad : Nat → Nat} {own : String} {Ts : List Cond} {H0 : Heap} {σ : ST} {p0 : Int32} {Q : Int32 → ST → Prop} (hx : p.tables.exec = Jvm.exec) (hb : c.code = cc) (hml : c.maxLocals = nL) (hown : s.vm.findClass own = some m.cls) (hts : ∀ w ∈ Ts, w.before args s = true) (hG : GoodIn Ts (wsV own index RX4 yX4_wholeValue wsX4_wholeValue)) (hR : 4 + 1 ≤ R.frames ∧ 8 + (2 + 11) + 86 ≤ R.locals) (hcs : cells ≤ R.cells ∧ slots ≤ R.slots) (hK : zK D cy s) (hj : zI 116 ad) (hw : zW D 116 (zce cy ad σ) ad H) {A0 : Nat → Prop} (hA : ∀ i, i < 116 → A0 (ad i)) (hS : va_S A0 H0 H locs) (hsz : ls.size = nL) (hrest : (rest.map fun v => v.category).sum ≤ 8) (hdg : decode cc pc = .ok (.invokevirtual index, 3)) (h : wp_X4_wholeValue σ p0 Q) (kk : ∀ (r : Int32) (σ : ST) (H : Heap) (locs : List Loc), Q r σ → zW D 116 (zce cy ad σ) ad H → va_S A0 H0 H locs → W p l e R s m args below meth c H locs cells slots QQ (F0 m (pc + 3) ls (.int r :: rest))) : W p l e R s m args below meth c H locs cells slots QQ (F0 m pc ls (.int p0 :: .ref (ad 5) :: rest)) :=
  zcalli (va_runV (As := [.int p0]) (rest := rest) ⟨hx, hb, hml, hown, hts⟩ (c_X4_wholeValue l D cy ad σ p0 h) (cwV 1 hts hG rfl rfl rfl (by decide +kernel) hR) (zpreV hj hK hw _ (i := 5) (ci := 3) (by decide) rfl rfl) rfl rfl hsz rfl (lv_room hrest) hdg hcs) hA hS kk
set_option maxHeartbeats 4000000 in
set_option maxRecDepth 100000 in
theorem c_X4_oldestLetter (l : Launch) (D : va_G) (cy : cyT) (ad : Nat → Nat) (σ : ST) {Q : Int32 → ST → Prop} (h : wp_X4_oldestLetter σ Q) : Met l yX4_oldestLetter wsX4_oldestLetter ({ frames := 2, cells := 0, slots := 0, locals := 43 } : Room) (zPre D cy 116 (zce cy ad σ) ad [.ref (ad 5)]) (va_Qi Q (zB D 116 (zce cy ad) ad) (zA 116 ad)) 0 0 (zA 116 ad) := by
  refine Met.ofW (cc := cX4_oldestLetter) (maxL := 4) (ret := (some .int)) (by decide) rfl ?_
  intro p e s m args below meth c s₁ B hml hv
  obtain ⟨rfl, hj, hK, hw⟩ := hv
  have hx := B.exec
  have hb := B.bytes
  have hr := B.returns
  have hts := atoms_spec (ws := wsX4_oldestLetter) B.pre
  have hown : s.vm.findClass RX4 = some m.cls := findClass_of_methodNamed B.named
  have hlocks := B.notSynchronized
  have lk0 : Cond.fieldLink RX4 47 "TypeTrays$State" "presentCount" "I" ∈ wsX4_oldestLetter := List.mem_of_getElem? (i := 1) rfl
  have lk1 : Cond.fieldLink RX4 44 "TypeTrays$State" "present" "LTypeTrays$Row;" ∈ wsX4_oldestLetter := List.mem_of_getElem? (i := 2) rfl
  have inX4 : ∀ w ∈ u_ws RX4 TX4 18, w ∈ wsX4_oldestLetter := zin_at 15 rfl
  have hS : va_S (zA 116 ad) s.heap s.heap [] := va_S.rf
  have hA : ∀ i, i < 116 → zA 116 ad (ad i) := fun i hi => ⟨i, hi, rfl⟩
  have hl := lv_entry ([.ref (ad 5)]) (n := 4) (Nat.le_of_ble_eq_true rfl)
  rw [lg_entry_eq]
  generalize (lg_sl ([.ref (ad 5)]) ++ List.replicate (4 - (lg_sl ([.ref (ad 5)])).length) Slot.unset).toArray = ls at hl ⊢
  have hl : lv_has ls 4 [(0, .ref (ad 5))] := hl
  show W p l e ({ frames := 2, cells := 0, slots := 0, locals := 43 } : Room) s m ([.ref (ad 5)] : List Value).toArray below meth c s.heap [] 0 0 (MQ below (va_Qi Q (zB D 116 (zce cy ad) ad) (zA 116 ad)) ([.ref (ad 5)] : List Value).toArray s 0 0 (zA 116 ad)) (F0 m 0 ls [])
  unfold wp_X4_oldestLetter at h
  refine lv_iconst (v := (jI (-1))) hx hb dX4_oldestLetter_0 rfl ?_
  refine lv_istore_n (lv' := [(1, .int (jI (-1))), (0, .ref (ad 5))]) hx hb dX4_oldestLetter_1 rfl hl (by decide) rfl (fun ls hl => ?_)
  refine lv_iconst (v := (jI 0)) hx hb dX4_oldestLetter_2 rfl ?_
  refine lv_istore_n (lv' := [(2, .int (jI 0)), (1, .int (jI (-1))), (0, .ref (ad 5))]) hx hb dX4_oldestLetter_3 rfl hl (by decide) rfl (fun ls hl => ?_)
  have k38_4 : ∀ (u_38 : ST) (z1_38 : Int32) (H : Heap) (locs : List Loc), Q z1_38 u_38 → zW D 116 (zce cy ad u_38) ad H → va_S (zA 116 ad) s.heap H locs → ∀ ls : Array Slot, lv_has ls 4 [(1, .int z1_38)] → W p l e ({ frames := 2, cells := 0, slots := 0, locals := 43 } : Room) s m ([.ref (ad 5)] : List Value).toArray below meth c H locs 0 0 (MQ below (va_Qi Q (zB D 116 (zce cy ad) ad) (zA 116 ad)) ([.ref (ad 5)] : List Value).toArray s 0 0 (zA 116 ad)) (F0 m 38 ls []) := by
    intro u_38 z1_38 H locs h hw hS ls hl
    refine lv_iload_n hx hb dX4_oldestLetter_38 rfl (lv_at hl 0 rfl) ?_
    exact W.iret (v := z1_38) hx hb hr (fun t ht hW => ⟨⟨_, _, rfl, h, zend hw ht⟩, hS.F ht⟩) hS.2.2 dX4_oldestLetter_39
  have lp4 : ∀ (nn4 : Nat) (t_4 : ST) (y1_4 : Int32) (y2_4 : Int32) (H : Heap) (locs : List Loc), wl_X4_oldestLetter_4 (fun u_38 z1_38 => Q z1_38 u_38)  nn4 t_4 y1_4 y2_4 → zW D 116 (zce cy ad t_4) ad H → va_S (zA 116 ad) s.heap H locs → ∀ ls : Array Slot, lv_has ls 4 [(0, .ref (ad 5)), (1, .int y1_4), (2, .int y2_4)] → W p l e ({ frames := 2, cells := 0, slots := 0, locals := 43 } : Room) s m ([.ref (ad 5)] : List Value).toArray below meth c H locs 0 0 (MQ below (va_Qi Q (zB D 116 (zce cy ad) ad) (zA 116 ad)) ([.ref (ad 5)] : List Value).toArray s 0 0 (zA 116 ad)) (F0 m 4 ls []) := by
    intro nn4
    induction nn4 with
    | zero => intro _ _ _ _ _ h; exact h.elim
    | succ nn4 ih4 =>
      intro t_4 y1_4 y2_4 H locs h hw hS ls hl
      simp only [wl_X4_oldestLetter_4, wb_X4_oldestLetter_4] at h
      refine lv_iload_n hx hb dX4_oldestLetter_4 rfl (lv_at hl 2 rfl) ?_
      refine lv_aload_n hx hb dX4_oldestLetter_5 rfl (lv_at hl 0 rfl) ?_
      refine zget hx hb hts inX4 hown hK hw 5 (by decide) rfl rfl 10 (by decide) lk0 (fun _ h9 => h9) rfl dX4_oldestLetter_6 ?_
      refine lv_icmp_ge (tgt := 38) hx hb dX4_oldestLetter_9 (by decide) (fun c1 => ?_) (fun c1 => ?_)
      · have h := h.1 c1
        exact k38_4 _ _ _ _ h hw hS _ (lv_sub hl [1] rfl)
      · have h := h.2 c1
        refine lv_aload_n hx hb dX4_oldestLetter_12 rfl (lv_at hl 0 rfl) ?_
        refine zget hx hb hts inX4 hown hK hw 5 (by decide) rfl rfl 9 (by decide) lk1 (fun _ h9 => h9) rfl dX4_oldestLetter_13 ?_
        refine lv_iload_n hx hb dX4_oldestLetter_16 rfl (lv_at hl 2 rfl) ?_
        refine zcall_get (rest := []) hx hb hml hown hts gX4_oldestLetter_X3_get ⟨Nat.le_of_ble_eq_true rfl, Nat.le_of_ble_eq_true rfl⟩ ⟨Nat.zero_le _, Nat.zero_le _⟩ hK hj hw hA hS 9 (by decide) hl.1 (Nat.le_of_ble_eq_true rfl) dX4_oldestLetter_17 (fun H locs hw hS => ?_)
        refine lv_topi (fun v1 ev1 => ?_)
        have h := h v1 ev1
        refine lv_istore_n (lv' := [(3, .int v1), (0, .ref (ad 5)), (1, .int y1_4), (2, .int y2_4)]) hx hb dX4_oldestLetter_20 rfl hl (by decide) rfl (fun ls hl => ?_)
        refine lv_aload_n hx hb dX4_oldestLetter_21 rfl (lv_at hl 1 rfl) ?_
        refine lv_iload_n hx hb dX4_oldestLetter_22 rfl (lv_at hl 0 rfl) ?_
        refine lv_iload_n hx hb dX4_oldestLetter_23 rfl (lv_at hl 2 rfl) ?_
        refine k_X4_isOlder (rest := []) hx hb hml hown hts gX4_oldestLetter_X4_isOlder ⟨Nat.le_of_ble_eq_true rfl, Nat.le_of_ble_eq_true rfl⟩ ⟨Nat.zero_le _, Nat.zero_le _⟩ hK hj hw hA hS hl.1 (Nat.le_of_ble_eq_true rfl) dX4_oldestLetter_24 h (fun r1 s1 H locs h hw hS => ?_)
        refine zif_eq (tgt := 32) hx hb dX4_oldestLetter_27 (by decide) (fun c2 => ?_) (fun c2 => ?_)
        · have h := h.1 c2
          obtain ⟨x1, ex1⟩ : ∃ y : Int32, y = y2_4 + (jI 1) := ⟨_, rfl⟩
          have h := h x1 ex1
          refine lv_iinc (v := x1) (lv' := [(2, .int x1), (3, .int v1), (0, .ref (ad 5)), (1, .int y1_4)]) hx hb dX4_oldestLetter_32 hl (k := 3) rfl (by rw [ex1]; rfl) (by decide) rfl (fun ls hl => ?_)
          refine lv_goto (tgt := 4) hx hb dX4_oldestLetter_35 (by decide) ?_
          exact ih4 _ _ _ _ _ h hw hS _ (lv_sub hl [2, 3, 0] rfl)
        · have h := h.2 c2
          refine lv_iload_n hx hb dX4_oldestLetter_30 rfl (lv_at hl 0 rfl) ?_
          refine lv_istore_n (lv' := [(1, .int v1), (3, .int v1), (0, .ref (ad 5)), (2, .int y2_4)]) hx hb dX4_oldestLetter_31 rfl hl (by decide) rfl (fun ls hl => ?_)
          obtain ⟨x2, ex2⟩ : ∃ y : Int32, y = y2_4 + (jI 1) := ⟨_, rfl⟩
          have h := h x2 ex2
          refine lv_iinc (v := x2) (lv' := [(2, .int x2), (1, .int v1), (3, .int v1), (0, .ref (ad 5))]) hx hb dX4_oldestLetter_32 hl (k := 3) rfl (by rw [ex2]; rfl) (by decide) rfl (fun ls hl => ?_)
          refine lv_goto (tgt := 4) hx hb dX4_oldestLetter_35 (by decide) ?_
          exact ih4 _ _ _ _ _ h hw hS _ (lv_sub hl [3, 1, 0] rfl)
  obtain ⟨nn4, h⟩ := h
  exact lp4 nn4 _ _ _ _ _ h hw hS _ (lv_sub hl [2, 1, 0] rfl)
theorem k_X4_oldestLetter {p : Program} {l : Launch} {e : Env} {R : Room} {s : State} {m : MethodId} {args : Array Value} {below : List Frame} {meth : Method} {c : Code} {H : Heap} {locs : List Loc} {cells slots : Nat} {QQ : State → Prop} {cc : ByteArray} {pc nL index : Nat} {ls : Array Slot} {rest : List Value} {D : va_G} {cy : cyT} {ad : Nat → Nat} {own : String} {Ts : List Cond} {H0 : Heap} {σ : ST}  {Q : Int32 → ST → Prop} (hx : p.tables.exec = Jvm.exec) (hb : c.code = cc) (hml : c.maxLocals = nL) (hown : s.vm.findClass own = some m.cls) (hts : ∀ w ∈ Ts, w.before args s = true) (hG : GoodIn Ts (wsV own index RX4 yX4_oldestLetter wsX4_oldestLetter)) (hR : 2 + 1 ≤ R.frames ∧ 8 + (4 + 11) + 43 ≤ R.locals) (hcs : cells ≤ R.cells ∧ slots ≤ R.slots) (hK : zK D cy s) (hj : zI 116 ad) (hw : zW D 116 (zce cy ad σ) ad H) {A0 : Nat → Prop} (hA : ∀ i, i < 116 → A0 (ad i)) (hS : va_S A0 H0 H locs) (hsz : ls.size = nL) (hrest : (rest.map fun v => v.category).sum ≤ 8) (hdg : decode cc pc = .ok (.invokevirtual index, 3)) (h : wp_X4_oldestLetter σ  Q) (kk : ∀ (r : Int32) (σ : ST) (H : Heap) (locs : List Loc), Q r σ → zW D 116 (zce cy ad σ) ad H → va_S A0 H0 H locs → W p l e R s m args below meth c H locs cells slots QQ (F0 m (pc + 3) ls (.int r :: rest))) : W p l e R s m args below meth c H locs cells slots QQ (F0 m pc ls (.ref (ad 5) :: rest)) :=
  zcalli (va_runV (As := []) (rest := rest) ⟨hx, hb, hml, hown, hts⟩ (c_X4_oldestLetter l D cy ad σ  h) (cwV 0 hts hG rfl rfl rfl (by decide +kernel) hR) (zpreV hj hK hw _ (i := 5) (ci := 3) (by decide) rfl rfl) rfl rfl hsz rfl (lv_room hrest) hdg hcs) hA hS kk
set_option maxHeartbeats 4000000 in
set_option maxRecDepth 100000 in
theorem c_X4_greatestGapArea (l : Launch) (D : va_G) (cy : cyT) (ad : Nat → Nat) (σ : ST) {Q : Int32 → ST → Prop} (h : wp_X4_greatestGapArea σ Q) : Met l yX4_greatestGapArea wsX4_greatestGapArea ({ frames := 2, cells := 0, slots := 0, locals := 45 } : Room) (zPre D cy 116 (zce cy ad σ) ad [.ref (ad 5)]) (va_Qi Q (zB D 116 (zce cy ad) ad) (zA 116 ad)) 0 0 (zA 116 ad) := by
  refine Met.ofW (cc := cX4_greatestGapArea) (maxL := 4) (ret := (some .int)) (by decide) rfl ?_
  intro p e s m args below meth c s₁ B hml hv
  obtain ⟨rfl, hj, hK, hw⟩ := hv
  have hx := B.exec
  have hb := B.bytes
  have hr := B.returns
  have hts := atoms_spec (ws := wsX4_greatestGapArea) B.pre
  have hown : s.vm.findClass RX4 = some m.cls := findClass_of_methodNamed B.named
  have hlocks := B.notSynchronized
  have lk0 : Cond.fieldLink RX4 23 "TypeTrays$State" "shelfHeights" "LTypeTrays$Row;" ∈ wsX4_greatestGapArea := List.mem_of_getElem? (i := 1) rfl
  have lk1 : Cond.methodLink RX4 202 Lib.Math.max.name ∈ wsX4_greatestGapArea := List.mem_of_getElem? (i := 2) rfl
  have lk2 : Cond.static Lib.Math.max.name ∈ wsX4_greatestGapArea := List.mem_of_getElem? (i := 3) rfl
  have lk3 : Cond.initialized "java/lang/Math" ∈ wsX4_greatestGapArea := List.mem_of_getElem? (i := 4) rfl
  have lk4 : Cond.code Lib.Math.max.name Lib.Math.max.code 2 (some .int) ∈ wsX4_greatestGapArea := List.mem_of_getElem? (i := 5) rfl
  have inX4 : ∀ w ∈ u_ws RX4 TX4 18, w ∈ wsX4_greatestGapArea := zin_at 30 rfl
  have hS : va_S (zA 116 ad) s.heap s.heap [] := va_S.rf
  have hA : ∀ i, i < 116 → zA 116 ad (ad i) := fun i hi => ⟨i, hi, rfl⟩
  have hl := lv_entry ([.ref (ad 5)]) (n := 4) (Nat.le_of_ble_eq_true rfl)
  rw [lg_entry_eq]
  generalize (lg_sl ([.ref (ad 5)]) ++ List.replicate (4 - (lg_sl ([.ref (ad 5)])).length) Slot.unset).toArray = ls at hl ⊢
  have hl : lv_has ls 4 [(0, .ref (ad 5))] := hl
  show W p l e ({ frames := 2, cells := 0, slots := 0, locals := 45 } : Room) s m ([.ref (ad 5)] : List Value).toArray below meth c s.heap [] 0 0 (MQ below (va_Qi Q (zB D 116 (zce cy ad) ad) (zA 116 ad)) ([.ref (ad 5)] : List Value).toArray s 0 0 (zA 116 ad)) (F0 m 0 ls [])
  unfold wp_X4_greatestGapArea at h
  refine lv_iconst (v := (jI 0)) hx hb dX4_greatestGapArea_0 rfl ?_
  refine lv_istore_n (lv' := [(1, .int (jI 0)), (0, .ref (ad 5))]) hx hb dX4_greatestGapArea_1 rfl hl (by decide) rfl (fun ls hl => ?_)
  refine lv_iconst (v := (jI 0)) hx hb dX4_greatestGapArea_2 rfl ?_
  refine lv_istore_n (lv' := [(2, .int (jI 0)), (1, .int (jI 0)), (0, .ref (ad 5))]) hx hb dX4_greatestGapArea_3 rfl hl (by decide) rfl (fun ls hl => ?_)
  have k44_4 : ∀ (u_44 : ST) (z1_44 : Int32) (H : Heap) (locs : List Loc), Q z1_44 u_44 → zW D 116 (zce cy ad u_44) ad H → va_S (zA 116 ad) s.heap H locs → ∀ ls : Array Slot, lv_has ls 4 [(1, .int z1_44)] → W p l e ({ frames := 2, cells := 0, slots := 0, locals := 45 } : Room) s m ([.ref (ad 5)] : List Value).toArray below meth c H locs 0 0 (MQ below (va_Qi Q (zB D 116 (zce cy ad) ad) (zA 116 ad)) ([.ref (ad 5)] : List Value).toArray s 0 0 (zA 116 ad)) (F0 m 44 ls []) := by
    intro u_44 z1_44 H locs h hw hS ls hl
    refine lv_iload_n hx hb dX4_greatestGapArea_44 rfl (lv_at hl 0 rfl) ?_
    exact W.iret (v := z1_44) hx hb hr (fun t ht hW => ⟨⟨_, _, rfl, h, zend hw ht⟩, hS.F ht⟩) hS.2.2 dX4_greatestGapArea_45
  have lp4 : ∀ (nn4 : Nat) (t_4 : ST) (y1_4 : Int32) (y2_4 : Int32) (H : Heap) (locs : List Loc), wl_X4_greatestGapArea_4 (fun u_44 z1_44 => Q z1_44 u_44)  nn4 t_4 y1_4 y2_4 → zW D 116 (zce cy ad t_4) ad H → va_S (zA 116 ad) s.heap H locs → ∀ ls : Array Slot, lv_has ls 4 [(0, .ref (ad 5)), (1, .int y1_4), (2, .int y2_4)] → W p l e ({ frames := 2, cells := 0, slots := 0, locals := 45 } : Room) s m ([.ref (ad 5)] : List Value).toArray below meth c H locs 0 0 (MQ below (va_Qi Q (zB D 116 (zce cy ad) ad) (zA 116 ad)) ([.ref (ad 5)] : List Value).toArray s 0 0 (zA 116 ad)) (F0 m 4 ls []) := by
    intro nn4
    induction nn4 with
    | zero => intro _ _ _ _ _ h; exact h.elim
    | succ nn4 ih4 =>
      intro t_4 y1_4 y2_4 H locs h hw hS ls hl
      simp only [wl_X4_greatestGapArea_4, wb_X4_greatestGapArea_4] at h
      refine lv_iload_n hx hb dX4_greatestGapArea_4 rfl (lv_at hl 2 rfl) ?_
      refine lv_bipush (v := (jI 72)) hx hb dX4_greatestGapArea_5 (by decide +kernel) ?_
      refine lv_icmp_ge (tgt := 44) hx hb dX4_greatestGapArea_7 (by decide) (fun c1 => ?_) (fun c1 => ?_)
      · have h := h.1 c1
        exact k44_4 _ _ _ _ h hw hS _ (lv_sub hl [1] rfl)
      · have h := h.2 c1
        refine lv_aload_n hx hb dX4_greatestGapArea_10 rfl (lv_at hl 0 rfl) ?_
        refine zget hx hb hts inX4 hown hK hw 5 (by decide) rfl rfl 2 (by decide) lk0 (fun _ h9 => h9) rfl dX4_greatestGapArea_11 ?_
        refine lv_iload_n hx hb dX4_greatestGapArea_14 rfl (lv_at hl 2 rfl) ?_
        refine zcall_get (rest := []) hx hb hml hown hts gX4_greatestGapArea_X3_get ⟨Nat.le_of_ble_eq_true rfl, Nat.le_of_ble_eq_true rfl⟩ ⟨Nat.zero_le _, Nat.zero_le _⟩ hK hj hw hA hS 2 (by decide) hl.1 (Nat.le_of_ble_eq_true rfl) dX4_greatestGapArea_15 (fun H locs hw hS => ?_)
        refine lv_topi (fun v1 ev1 => ?_)
        have h := h v1 ev1
        refine lv_istore_n (lv' := [(3, .int v1), (0, .ref (ad 5)), (1, .int y1_4), (2, .int y2_4)]) hx hb dX4_greatestGapArea_18 rfl hl (by decide) rfl (fun ls hl => ?_)
        refine lv_iload_n hx hb dX4_greatestGapArea_19 rfl (lv_at hl 0 rfl) ?_
        refine zif_le (tgt := 38) hx hb dX4_greatestGapArea_20 (by decide) (fun c2 => ?_) (fun c2 => ?_)
        · have h := h.1 c2
          obtain ⟨x1, ex1⟩ : ∃ y : Int32, y = y2_4 + (jI 1) := ⟨_, rfl⟩
          have h := h x1 ex1
          refine lv_iinc (v := x1) (lv' := [(2, .int x1), (3, .int v1), (0, .ref (ad 5)), (1, .int y1_4)]) hx hb dX4_greatestGapArea_38 hl (k := 3) rfl (by rw [ex1]; rfl) (by decide) rfl (fun ls hl => ?_)
          refine lv_goto (tgt := 4) hx hb dX4_greatestGapArea_41 (by decide) ?_
          exact ih4 _ _ _ _ _ h hw hS _ (lv_sub hl [2, 3, 0] rfl)
        · have h := h.2 c2
          refine lv_iload_n hx hb dX4_greatestGapArea_23 rfl (lv_at hl 2 rfl) ?_
          refine lv_aload_n hx hb dX4_greatestGapArea_24 rfl (lv_at hl 1 rfl) ?_
          refine lv_iload_n hx hb dX4_greatestGapArea_25 rfl (lv_at hl 3 rfl) ?_
          refine k_X4_coverOf (rest := [.int y1_4]) hx hb hml hown hts gX4_greatestGapArea_X4_coverOf ⟨Nat.le_of_ble_eq_true rfl, Nat.le_of_ble_eq_true rfl⟩ ⟨Nat.zero_le _, Nat.zero_le _⟩ hK hj hw hA hS hl.1 (Nat.le_of_ble_eq_true rfl) dX4_greatestGapArea_26 h (fun r1 s1 H locs h hw hS => ?_)
          refine k_X1_widest (rest := [.int y1_4]) hx hb hml hown hts gX4_greatestGapArea_X1_widest ⟨Nat.le_of_ble_eq_true rfl, Nat.le_of_ble_eq_true rfl⟩ ⟨Nat.zero_le _, Nat.zero_le _⟩ hK hj hw hA hS hl.1 (Nat.le_of_ble_eq_true rfl) dX4_greatestGapArea_29 h (fun r2 s2 H locs h hw hS => ?_)
          refine lv_iload_n hx hb dX4_greatestGapArea_32 rfl (lv_at hl 0 rfl) ?_
          refine lv_imul hx hb dX4_greatestGapArea_33 ?_
          refine va_mmax hx hb (by rw [hml]; exact hl.1.symm) hown (hts _ lk1) (hts _ lk2) (hts _ lk3) (hts _ lk4) (Nat.le_of_ble_eq_true rfl) (Nat.le_of_ble_eq_true rfl) (Nat.zero_le _) (Nat.zero_le _) dX4_greatestGapArea_34 ?_
          refine lv_topi (fun x2 ex2 => ?_)
          have h := h x2 ex2
          refine lv_istore_n (lv' := [(1, .int x2), (3, .int v1), (0, .ref (ad 5)), (2, .int y2_4)]) hx hb dX4_greatestGapArea_37 rfl hl (by decide) rfl (fun ls hl => ?_)
          obtain ⟨x3, ex3⟩ : ∃ y : Int32, y = y2_4 + (jI 1) := ⟨_, rfl⟩
          have h := h x3 ex3
          refine lv_iinc (v := x3) (lv' := [(2, .int x3), (1, .int x2), (3, .int v1), (0, .ref (ad 5))]) hx hb dX4_greatestGapArea_38 hl (k := 3) rfl (by rw [ex3]; rfl) (by decide) rfl (fun ls hl => ?_)
          refine lv_goto (tgt := 4) hx hb dX4_greatestGapArea_41 (by decide) ?_
          exact ih4 _ _ _ _ _ h hw hS _ (lv_sub hl [3, 1, 0] rfl)
  obtain ⟨nn4, h⟩ := h
  exact lp4 nn4 _ _ _ _ _ h hw hS _ (lv_sub hl [2, 1, 0] rfl)
theorem k_X4_greatestGapArea {p : Program} {l : Launch} {e : Env} {R : Room} {s : State} {m : MethodId} {args : Array Value} {below : List Frame} {meth : Method} {c : Code} {H : Heap} {locs : List Loc} {cells slots : Nat} {QQ : State → Prop} {cc : ByteArray} {pc nL index : Nat} {ls : Array Slot} {rest : List Value} {D : va_G} {cy : cyT} {ad : Nat → Nat} {own : String} {Ts : List Cond} {H0 : Heap} {σ : ST}  {Q : Int32 → ST → Prop} (hx : p.tables.exec = Jvm.exec) (hb : c.code = cc) (hml : c.maxLocals = nL) (hown : s.vm.findClass own = some m.cls) (hts : ∀ w ∈ Ts, w.before args s = true) (hG : GoodIn Ts (wsV own index RX4 yX4_greatestGapArea wsX4_greatestGapArea)) (hR : 2 + 1 ≤ R.frames ∧ 8 + (4 + 11) + 45 ≤ R.locals) (hcs : cells ≤ R.cells ∧ slots ≤ R.slots) (hK : zK D cy s) (hj : zI 116 ad) (hw : zW D 116 (zce cy ad σ) ad H) {A0 : Nat → Prop} (hA : ∀ i, i < 116 → A0 (ad i)) (hS : va_S A0 H0 H locs) (hsz : ls.size = nL) (hrest : (rest.map fun v => v.category).sum ≤ 8) (hdg : decode cc pc = .ok (.invokevirtual index, 3)) (h : wp_X4_greatestGapArea σ  Q) (kk : ∀ (r : Int32) (σ : ST) (H : Heap) (locs : List Loc), Q r σ → zW D 116 (zce cy ad σ) ad H → va_S A0 H0 H locs → W p l e R s m args below meth c H locs cells slots QQ (F0 m (pc + 3) ls (.int r :: rest))) : W p l e R s m args below meth c H locs cells slots QQ (F0 m pc ls (.ref (ad 5) :: rest)) :=
  zcalli (va_runV (As := []) (rest := rest) ⟨hx, hb, hml, hown, hts⟩ (c_X4_greatestGapArea l D cy ad σ  h) (cwV 0 hts hG rfl rfl rfl (by decide +kernel) hR) (zpreV hj hK hw _ (i := 5) (ci := 3) (by decide) rfl rfl) rfl rfl hsz rfl (lv_room hrest) hdg hcs) hA hS kk
set_option maxHeartbeats 4000000 in
set_option maxRecDepth 100000 in
theorem c_X6_isBetween (l : Launch) (D : va_G) (cy : cyT) (ad : Nat → Nat) (σ : ST) (p0 : Int32) (p1 : Int32) (p2 : Int32) {Q : Int32 → ST → Prop} (h : wp_X6_isBetween σ p0 p1 p2 Q) : Met l yX6_isBetween wsX6_isBetween ({ frames := 0, cells := 0, slots := 0, locals := 0 } : Room) (zPre D cy 116 (zce cy ad σ) ad [.int p0, .int p1, .int p2]) (va_Qi Q (zB D 116 (zce cy ad) ad) (zA 116 ad)) 0 0 (zA 116 ad) := by
  refine Met.ofW (cc := cX6_isBetween) (maxL := 3) (ret := (some .boolean)) (by decide) rfl ?_
  intro p e s m args below meth c s₁ B hml hv
  obtain ⟨rfl, hj, hK, hw⟩ := hv
  have hx := B.exec
  have hb := B.bytes
  have hr := B.returns
  have hts := atoms_spec (ws := wsX6_isBetween) B.pre
  have hown : s.vm.findClass RX6 = some m.cls := findClass_of_methodNamed B.named
  have hlocks := B.notSynchronized
  have hS : va_S (zA 116 ad) s.heap s.heap [] := va_S.rf
  have hA : ∀ i, i < 116 → zA 116 ad (ad i) := fun i hi => ⟨i, hi, rfl⟩
  have hl := lv_entry ([.int p0, .int p1, .int p2]) (n := 3) (Nat.le_of_ble_eq_true rfl)
  rw [lg_entry_eq]
  generalize (lg_sl ([.int p0, .int p1, .int p2]) ++ List.replicate (3 - (lg_sl ([.int p0, .int p1, .int p2])).length) Slot.unset).toArray = ls at hl ⊢
  have hl : lv_has ls 3 [(0, .int p0), (1, .int p1), (2, .int p2)] := hl
  show W p l e ({ frames := 0, cells := 0, slots := 0, locals := 0 } : Room) s m ([.int p0, .int p1, .int p2] : List Value).toArray below meth c s.heap [] 0 0 (MQ below (va_Qi Q (zB D 116 (zce cy ad) ad) (zA 116 ad)) ([.int p0, .int p1, .int p2] : List Value).toArray s 0 0 (zA 116 ad)) (F0 m 0 ls [])
  unfold wp_X6_isBetween at h
  refine lv_iload_n hx hb dX6_isBetween_0 rfl (lv_at hl 0 rfl) ?_
  refine lv_iload_n hx hb dX6_isBetween_1 rfl (lv_at hl 1 rfl) ?_
  refine lv_icmp_lt (tgt := 14) hx hb dX6_isBetween_2 (by decide) (fun c1 => ?_) (fun c1 => ?_)
  · have h := h.1 c1
    refine lv_iconst (v := (jI 0)) hx hb dX6_isBetween_14 rfl ?_
    exact W.zret (v := (jI 0)) (ty := .boolean) hx hb hr (by decide +kernel) (fun t ht hW => ⟨⟨_, _, rfl, h, zend hw ht⟩, hS.F ht⟩) hS.2.2 dX6_isBetween_15
  · have h := h.2 c1
    refine lv_iload_n hx hb dX6_isBetween_5 rfl (lv_at hl 0 rfl) ?_
    refine lv_iload_n hx hb dX6_isBetween_6 rfl (lv_at hl 2 rfl) ?_
    refine lv_icmp_gt (tgt := 14) hx hb dX6_isBetween_7 (by decide) (fun c2 => ?_) (fun c2 => ?_)
    · have h := h.1 c2
      refine lv_iconst (v := (jI 0)) hx hb dX6_isBetween_14 rfl ?_
      exact W.zret (v := (jI 0)) (ty := .boolean) hx hb hr (by decide +kernel) (fun t ht hW => ⟨⟨_, _, rfl, h, zend hw ht⟩, hS.F ht⟩) hS.2.2 dX6_isBetween_15
    · have h := h.2 c2
      refine lv_iconst (v := (jI 1)) hx hb dX6_isBetween_10 rfl ?_
      refine lv_goto (tgt := 15) hx hb dX6_isBetween_11 (by decide) ?_
      exact W.zret (v := (jI 1)) (ty := .boolean) hx hb hr (by decide +kernel) (fun t ht hW => ⟨⟨_, _, rfl, h, zend hw ht⟩, hS.F ht⟩) hS.2.2 dX6_isBetween_15
theorem k_X6_isBetween {p : Program} {l : Launch} {e : Env} {R : Room} {s : State} {m : MethodId} {args : Array Value} {below : List Frame} {meth : Method} {c : Code} {H : Heap} {locs : List Loc} {cells slots : Nat} {QQ : State → Prop} {cc : ByteArray} {pc nL index : Nat} {ls : Array Slot} {rest : List Value} {D : va_G} {cy : cyT} {ad : Nat → Nat} {own : String} {Ts : List Cond} {H0 : Heap} {σ : ST} {p0 : Int32} {p1 : Int32} {p2 : Int32} {Q : Int32 → ST → Prop} (hx : p.tables.exec = Jvm.exec) (hb : c.code = cc) (hml : c.maxLocals = nL) (hown : s.vm.findClass own = some m.cls) (hts : ∀ w ∈ Ts, w.before args s = true) (hG : GoodIn Ts (va_wsS own index yX6_isBetween wsX6_isBetween)) (hR : 0 + 1 ≤ R.frames ∧ 8 + (3 + 11) + 0 ≤ R.locals) (hcs : cells ≤ R.cells ∧ slots ≤ R.slots) (hK : zK D cy s) (hj : zI 116 ad) (hw : zW D 116 (zce cy ad σ) ad H) {A0 : Nat → Prop} (hA : ∀ i, i < 116 → A0 (ad i)) (hS : va_S A0 H0 H locs) (hsz : ls.size = nL) (hrest : (rest.map fun v => v.category).sum ≤ 8) (hdg : decode cc pc = .ok (.invokestatic index, 3)) (h : wp_X6_isBetween σ p0 p1 p2 Q) (kk : ∀ (r : Int32) (σ : ST) (H : Heap) (locs : List Loc), Q r σ → zW D 116 (zce cy ad σ) ad H → va_S A0 H0 H locs → W p l e R s m args below meth c H locs cells slots QQ (F0 m (pc + 3) ls (.int r :: rest))) : W p l e R s m args below meth c H locs cells slots QQ (F0 m pc ls (.int p2 :: .int p1 :: .int p0 :: rest)) :=
  zcalli (va_runS (As := [.int p0, .int p1, .int p2]) (rest := rest) ⟨hx, hb, hml, hown, hts⟩ (c_X6_isBetween l D cy ad σ p0 p1 p2 h) (va_cwS 3 hts hG rfl rfl rfl (by decide +kernel) hR) (zpreS hj hK hw _) rfl rfl hsz rfl (lv_room hrest) hdg hcs) hA hS kk
set_option maxHeartbeats 4000000 in
set_option maxRecDepth 100000 in
theorem c_X6_isSign (l : Launch) (D : va_G) (cy : cyT) (ad : Nat → Nat) (σ : ST) (p0 : Int32) {Q : Int32 → ST → Prop} (h : wp_X6_isSign σ p0 Q) : Met l yX6_isSign wsX6_isSign ({ frames := 1, cells := 0, slots := 0, locals := 22 } : Room) (zPre D cy 116 (zce cy ad σ) ad [.int p0]) (va_Qi Q (zB D 116 (zce cy ad) ad) (zA 116 ad)) 0 0 (zA 116 ad) := by
  refine Met.ofW (cc := cX6_isSign) (maxL := 1) (ret := (some .boolean)) (by decide) rfl ?_
  intro p e s m args below meth c s₁ B hml hv
  obtain ⟨rfl, hj, hK, hw⟩ := hv
  have hx := B.exec
  have hb := B.bytes
  have hr := B.returns
  have hts := atoms_spec (ws := wsX6_isSign) B.pre
  have hown : s.vm.findClass RX6 = some m.cls := findClass_of_methodNamed B.named
  have hlocks := B.notSynchronized
  have hS : va_S (zA 116 ad) s.heap s.heap [] := va_S.rf
  have hA : ∀ i, i < 116 → zA 116 ad (ad i) := fun i hi => ⟨i, hi, rfl⟩
  have hl := lv_entry ([.int p0]) (n := 1) (Nat.le_of_ble_eq_true rfl)
  rw [lg_entry_eq]
  generalize (lg_sl ([.int p0]) ++ List.replicate (1 - (lg_sl ([.int p0])).length) Slot.unset).toArray = ls at hl ⊢
  have hl : lv_has ls 1 [(0, .int p0)] := hl
  show W p l e ({ frames := 1, cells := 0, slots := 0, locals := 22 } : Room) s m ([.int p0] : List Value).toArray below meth c s.heap [] 0 0 (MQ below (va_Qi Q (zB D 116 (zce cy ad) ad) (zA 116 ad)) ([.int p0] : List Value).toArray s 0 0 (zA 116 ad)) (F0 m 0 ls [])
  unfold wp_X6_isSign at h
  refine lv_iload_n hx hb dX6_isSign_0 rfl (lv_at hl 0 rfl) ?_
  refine lv_iconst (v := (jI 0)) hx hb dX6_isSign_1 rfl ?_
  refine lv_bipush (v := (jI 15)) hx hb dX6_isSign_2 (by decide +kernel) ?_
  refine k_X6_isBetween (rest := []) hx hb hml hown hts gX6_isSign_X6_isBetween ⟨Nat.le_of_ble_eq_true rfl, Nat.le_of_ble_eq_true rfl⟩ ⟨Nat.zero_le _, Nat.zero_le _⟩ hK hj hw hA hS hl.1 (Nat.le_of_ble_eq_true rfl) dX6_isSign_4 h (fun r1 s1 H locs h hw hS => ?_)
  exact W.zret (v := r1) (ty := .boolean) hx hb hr h.1 (fun t ht hW => ⟨⟨_, _, rfl, h.2, zend hw ht⟩, hS.F ht⟩) hS.2.2 dX6_isSign_7
theorem k_X6_isSign {p : Program} {l : Launch} {e : Env} {R : Room} {s : State} {m : MethodId} {args : Array Value} {below : List Frame} {meth : Method} {c : Code} {H : Heap} {locs : List Loc} {cells slots : Nat} {QQ : State → Prop} {cc : ByteArray} {pc nL index : Nat} {ls : Array Slot} {rest : List Value} {D : va_G} {cy : cyT} {ad : Nat → Nat} {own : String} {Ts : List Cond} {H0 : Heap} {σ : ST} {p0 : Int32} {Q : Int32 → ST → Prop} (hx : p.tables.exec = Jvm.exec) (hb : c.code = cc) (hml : c.maxLocals = nL) (hown : s.vm.findClass own = some m.cls) (hts : ∀ w ∈ Ts, w.before args s = true) (hG : GoodIn Ts (va_wsS own index yX6_isSign wsX6_isSign)) (hR : 1 + 1 ≤ R.frames ∧ 8 + (1 + 11) + 22 ≤ R.locals) (hcs : cells ≤ R.cells ∧ slots ≤ R.slots) (hK : zK D cy s) (hj : zI 116 ad) (hw : zW D 116 (zce cy ad σ) ad H) {A0 : Nat → Prop} (hA : ∀ i, i < 116 → A0 (ad i)) (hS : va_S A0 H0 H locs) (hsz : ls.size = nL) (hrest : (rest.map fun v => v.category).sum ≤ 8) (hdg : decode cc pc = .ok (.invokestatic index, 3)) (h : wp_X6_isSign σ p0 Q) (kk : ∀ (r : Int32) (σ : ST) (H : Heap) (locs : List Loc), Q r σ → zW D 116 (zce cy ad σ) ad H → va_S A0 H0 H locs → W p l e R s m args below meth c H locs cells slots QQ (F0 m (pc + 3) ls (.int r :: rest))) : W p l e R s m args below meth c H locs cells slots QQ (F0 m pc ls (.int p0 :: rest)) :=
  zcalli (va_runS (As := [.int p0]) (rest := rest) ⟨hx, hb, hml, hown, hts⟩ (c_X6_isSign l D cy ad σ p0 h) (va_cwS 1 hts hG rfl rfl rfl (by decide +kernel) hR) (zpreS hj hK hw _) rfl rfl hsz rfl (lv_room hrest) hdg hcs) hA hS kk
set_option maxHeartbeats 4000000 in
set_option maxRecDepth 100000 in
theorem c_X6_faultOfCut (l : Launch) (D : va_G) (cy : cyT) (ad : Nat → Nat) (σ : ST) (p0 : Int32) (p1 : Int32) (p2 : Int32) {Q : Int32 → ST → Prop} (h : wp_X6_faultOfCut σ p0 p1 p2 Q) : Met l yX6_faultOfCut wsX6_faultOfCut ({ frames := 2, cells := 0, slots := 0, locals := 42 } : Room) (zPre D cy 116 (zce cy ad σ) ad [.int p0, .int p1, .int p2]) (va_Qi Q (zB D 116 (zce cy ad) ad) (zA 116 ad)) 0 0 (zA 116 ad) := by
  refine Met.ofW (cc := cX6_faultOfCut) (maxL := 4) (ret := (some .int)) (by decide) rfl ?_
  intro p e s m args below meth c s₁ B hml hv
  obtain ⟨rfl, hj, hK, hw⟩ := hv
  have hx := B.exec
  have hb := B.bytes
  have hr := B.returns
  have hts := atoms_spec (ws := wsX6_faultOfCut) B.pre
  have hown : s.vm.findClass RX6 = some m.cls := findClass_of_methodNamed B.named
  have hlocks := B.notSynchronized
  have hS : va_S (zA 116 ad) s.heap s.heap [] := va_S.rf
  have hA : ∀ i, i < 116 → zA 116 ad (ad i) := fun i hi => ⟨i, hi, rfl⟩
  have hl := lv_entry ([.int p0, .int p1, .int p2]) (n := 4) (Nat.le_of_ble_eq_true rfl)
  rw [lg_entry_eq]
  generalize (lg_sl ([.int p0, .int p1, .int p2]) ++ List.replicate (4 - (lg_sl ([.int p0, .int p1, .int p2])).length) Slot.unset).toArray = ls at hl ⊢
  have hl : lv_has ls 4 [(0, .int p0), (1, .int p1), (2, .int p2)] := hl
  show W p l e ({ frames := 2, cells := 0, slots := 0, locals := 42 } : Room) s m ([.int p0, .int p1, .int p2] : List Value).toArray below meth c s.heap [] 0 0 (MQ below (va_Qi Q (zB D 116 (zce cy ad) ad) (zA 116 ad)) ([.int p0, .int p1, .int p2] : List Value).toArray s 0 0 (zA 116 ad)) (F0 m 0 ls [])
  unfold wp_X6_faultOfCut at h
  refine lv_iload_n hx hb dX6_faultOfCut_0 rfl (lv_at hl 0 rfl) ?_
  refine k_X6_isSign (rest := []) hx hb hml hown hts gX6_faultOfCut_X6_isSign ⟨Nat.le_of_ble_eq_true rfl, Nat.le_of_ble_eq_true rfl⟩ ⟨Nat.zero_le _, Nat.zero_le _⟩ hK hj hw hA hS hl.1 (Nat.le_of_ble_eq_true rfl) dX6_faultOfCut_1 h (fun r1 s1 H locs h hw hS => ?_)
  refine zif_ne (tgt := 9) hx hb dX6_faultOfCut_4 (by decide) (fun c1 => ?_) (fun c1 => ?_)
  · have h := h.2 c1
    refine lv_iload_n hx hb dX6_faultOfCut_9 rfl (lv_at hl 1 rfl) ?_
    refine lv_iconst (v := (jI 1)) hx hb dX6_faultOfCut_10 rfl ?_
    refine lv_bipush (v := (jI 6)) hx hb dX6_faultOfCut_11 (by decide +kernel) ?_
    refine k_X6_isBetween (rest := []) hx hb hml hown hts gX6_faultOfCut_X6_isBetween ⟨Nat.le_of_ble_eq_true rfl, Nat.le_of_ble_eq_true rfl⟩ ⟨Nat.zero_le _, Nat.zero_le _⟩ hK hj hw hA hS hl.1 (Nat.le_of_ble_eq_true rfl) dX6_faultOfCut_13 h (fun r2 s2 H locs h hw hS => ?_)
    refine zif_eq (tgt := 33) hx hb dX6_faultOfCut_16 (by decide) (fun c2 => ?_) (fun c2 => ?_)
    · have h := h.1 c2
      refine lv_iconst (v := (jI 0)) hx hb dX6_faultOfCut_33 rfl ?_
      refine lv_istore_n (lv' := [(3, .int (jI 0)), (0, .int p0), (1, .int p1), (2, .int p2)]) hx hb dX6_faultOfCut_34 rfl hl (by decide) rfl (fun ls hl => ?_)
      refine lv_iload_n hx hb dX6_faultOfCut_35 rfl (lv_at hl 0 rfl) ?_
      refine zif_eq (tgt := 43) hx hb dX6_faultOfCut_36 (by decide) (fun c3 => ?_) (fun c3 => absurd c3 (by decide +kernel))
      refine lv_iconst (v := (jI 2)) hx hb dX6_faultOfCut_43 rfl ?_
      exact W.iret (v := (jI 2)) hx hb hr (fun t ht hW => ⟨⟨_, _, rfl, h, zend hw ht⟩, hS.F ht⟩) hS.2.2 dX6_faultOfCut_44
    · have h := h.2 c2
      refine lv_iload_n hx hb dX6_faultOfCut_19 rfl (lv_at hl 2 rfl) ?_
      refine lv_iconst (v := (jI 1)) hx hb dX6_faultOfCut_20 rfl ?_
      refine lv_bipush (v := (jI 6)) hx hb dX6_faultOfCut_21 (by decide +kernel) ?_
      refine k_X6_isBetween (rest := []) hx hb hml hown hts gX6_faultOfCut_X6_isBetween ⟨Nat.le_of_ble_eq_true rfl, Nat.le_of_ble_eq_true rfl⟩ ⟨Nat.zero_le _, Nat.zero_le _⟩ hK hj hw hA hS hl.1 (Nat.le_of_ble_eq_true rfl) dX6_faultOfCut_23 h (fun r3 s3 H locs h hw hS => ?_)
      refine zif_eq (tgt := 33) hx hb dX6_faultOfCut_26 (by decide) (fun c4 => ?_) (fun c4 => ?_)
      · have h := h.1 c4
        refine lv_iconst (v := (jI 0)) hx hb dX6_faultOfCut_33 rfl ?_
        refine lv_istore_n (lv' := [(3, .int (jI 0)), (0, .int p0), (1, .int p1), (2, .int p2)]) hx hb dX6_faultOfCut_34 rfl hl (by decide) rfl (fun ls hl => ?_)
        refine lv_iload_n hx hb dX6_faultOfCut_35 rfl (lv_at hl 0 rfl) ?_
        refine zif_eq (tgt := 43) hx hb dX6_faultOfCut_36 (by decide) (fun c5 => ?_) (fun c5 => absurd c5 (by decide +kernel))
        refine lv_iconst (v := (jI 2)) hx hb dX6_faultOfCut_43 rfl ?_
        exact W.iret (v := (jI 2)) hx hb hr (fun t ht hW => ⟨⟨_, _, rfl, h, zend hw ht⟩, hS.F ht⟩) hS.2.2 dX6_faultOfCut_44
      · have h := h.2 c4
        refine lv_iconst (v := (jI 1)) hx hb dX6_faultOfCut_29 rfl ?_
        refine lv_goto (tgt := 34) hx hb dX6_faultOfCut_30 (by decide) ?_
        refine lv_istore_n (lv' := [(3, .int (jI 1)), (0, .int p0), (1, .int p1), (2, .int p2)]) hx hb dX6_faultOfCut_34 rfl hl (by decide) rfl (fun ls hl => ?_)
        refine lv_iload_n hx hb dX6_faultOfCut_35 rfl (lv_at hl 0 rfl) ?_
        refine zif_eq (tgt := 43) hx hb dX6_faultOfCut_36 (by decide) (fun c6 => absurd c6 (by decide +kernel)) (fun c6 => ?_)
        refine lv_iconst (v := (jI 0)) hx hb dX6_faultOfCut_39 rfl ?_
        refine lv_goto (tgt := 44) hx hb dX6_faultOfCut_40 (by decide) ?_
        exact W.iret (v := (jI 0)) hx hb hr (fun t ht hW => ⟨⟨_, _, rfl, h, zend hw ht⟩, hS.F ht⟩) hS.2.2 dX6_faultOfCut_44
  · have h := h.1 c1
    refine lv_iconst (v := (jI 1)) hx hb dX6_faultOfCut_7 rfl ?_
    exact W.iret (v := (jI 1)) hx hb hr (fun t ht hW => ⟨⟨_, _, rfl, h, zend hw ht⟩, hS.F ht⟩) hS.2.2 dX6_faultOfCut_8
theorem k_X6_faultOfCut {p : Program} {l : Launch} {e : Env} {R : Room} {s : State} {m : MethodId} {args : Array Value} {below : List Frame} {meth : Method} {c : Code} {H : Heap} {locs : List Loc} {cells slots : Nat} {QQ : State → Prop} {cc : ByteArray} {pc nL index : Nat} {ls : Array Slot} {rest : List Value} {D : va_G} {cy : cyT} {ad : Nat → Nat} {own : String} {Ts : List Cond} {H0 : Heap} {σ : ST} {p0 : Int32} {p1 : Int32} {p2 : Int32} {Q : Int32 → ST → Prop} (hx : p.tables.exec = Jvm.exec) (hb : c.code = cc) (hml : c.maxLocals = nL) (hown : s.vm.findClass own = some m.cls) (hts : ∀ w ∈ Ts, w.before args s = true) (hG : GoodIn Ts (va_wsS own index yX6_faultOfCut wsX6_faultOfCut)) (hR : 2 + 1 ≤ R.frames ∧ 8 + (4 + 11) + 42 ≤ R.locals) (hcs : cells ≤ R.cells ∧ slots ≤ R.slots) (hK : zK D cy s) (hj : zI 116 ad) (hw : zW D 116 (zce cy ad σ) ad H) {A0 : Nat → Prop} (hA : ∀ i, i < 116 → A0 (ad i)) (hS : va_S A0 H0 H locs) (hsz : ls.size = nL) (hrest : (rest.map fun v => v.category).sum ≤ 8) (hdg : decode cc pc = .ok (.invokestatic index, 3)) (h : wp_X6_faultOfCut σ p0 p1 p2 Q) (kk : ∀ (r : Int32) (σ : ST) (H : Heap) (locs : List Loc), Q r σ → zW D 116 (zce cy ad σ) ad H → va_S A0 H0 H locs → W p l e R s m args below meth c H locs cells slots QQ (F0 m (pc + 3) ls (.int r :: rest))) : W p l e R s m args below meth c H locs cells slots QQ (F0 m pc ls (.int p2 :: .int p1 :: .int p0 :: rest)) :=
  zcalli (va_runS (As := [.int p0, .int p1, .int p2]) (rest := rest) ⟨hx, hb, hml, hown, hts⟩ (c_X6_faultOfCut l D cy ad σ p0 p1 p2 h) (va_cwS 3 hts hG rfl rfl rfl (by decide +kernel) hR) (zpreS hj hK hw _) rfl rfl hsz rfl (lv_room hrest) hdg hcs) hA hS kk
set_option maxHeartbeats 4000000 in
set_option maxRecDepth 100000 in
theorem c_X6_faultOfLetter (l : Launch) (D : va_G) (cy : cyT) (ad : Nat → Nat) (σ : ST) (p0 : Int32) (p1 : Int32) (p2 : Int32) {Q : Int32 → ST → Prop} (h : wp_X6_faultOfLetter σ p0 p1 p2 Q) : Met l yX6_faultOfLetter wsX6_faultOfLetter ({ frames := 2, cells := 0, slots := 0, locals := 42 } : Room) (zPre D cy 116 (zce cy ad σ) ad [.int p0, .int p1, .int p2]) (va_Qi Q (zB D 116 (zce cy ad) ad) (zA 116 ad)) 0 0 (zA 116 ad) := by
  refine Met.ofW (cc := cX6_faultOfLetter) (maxL := 3) (ret := (some .int)) (by decide) rfl ?_
  intro p e s m args below meth c s₁ B hml hv
  obtain ⟨rfl, hj, hK, hw⟩ := hv
  have hx := B.exec
  have hb := B.bytes
  have hr := B.returns
  have hts := atoms_spec (ws := wsX6_faultOfLetter) B.pre
  have hown : s.vm.findClass RX6 = some m.cls := findClass_of_methodNamed B.named
  have hlocks := B.notSynchronized
  have hS : va_S (zA 116 ad) s.heap s.heap [] := va_S.rf
  have hA : ∀ i, i < 116 → zA 116 ad (ad i) := fun i hi => ⟨i, hi, rfl⟩
  have hl := lv_entry ([.int p0, .int p1, .int p2]) (n := 3) (Nat.le_of_ble_eq_true rfl)
  rw [lg_entry_eq]
  generalize (lg_sl ([.int p0, .int p1, .int p2]) ++ List.replicate (3 - (lg_sl ([.int p0, .int p1, .int p2])).length) Slot.unset).toArray = ls at hl ⊢
  have hl : lv_has ls 3 [(0, .int p0), (1, .int p1), (2, .int p2)] := hl
  show W p l e ({ frames := 2, cells := 0, slots := 0, locals := 42 } : Room) s m ([.int p0, .int p1, .int p2] : List Value).toArray below meth c s.heap [] 0 0 (MQ below (va_Qi Q (zB D 116 (zce cy ad) ad) (zA 116 ad)) ([.int p0, .int p1, .int p2] : List Value).toArray s 0 0 (zA 116 ad)) (F0 m 0 ls [])
  unfold wp_X6_faultOfLetter at h
  refine lv_iload_n hx hb dX6_faultOfLetter_0 rfl (lv_at hl 0 rfl) ?_
  refine k_X6_isSign (rest := []) hx hb hml hown hts gX6_faultOfLetter_X6_isSign ⟨Nat.le_of_ble_eq_true rfl, Nat.le_of_ble_eq_true rfl⟩ ⟨Nat.zero_le _, Nat.zero_le _⟩ hK hj hw hA hS hl.1 (Nat.le_of_ble_eq_true rfl) dX6_faultOfLetter_1 h (fun r1 s1 H locs h hw hS => ?_)
  refine zif_ne (tgt := 9) hx hb dX6_faultOfLetter_4 (by decide) (fun c1 => ?_) (fun c1 => ?_)
  · have h := h.2 c1
    refine lv_iload_n hx hb dX6_faultOfLetter_9 rfl (lv_at hl 1 rfl) ?_
    refine lv_iconst (v := (jI 1)) hx hb dX6_faultOfLetter_10 rfl ?_
    refine lv_iconst (v := (jI 3)) hx hb dX6_faultOfLetter_11 rfl ?_
    refine k_X6_isBetween (rest := []) hx hb hml hown hts gX6_faultOfLetter_X6_isBetween ⟨Nat.le_of_ble_eq_true rfl, Nat.le_of_ble_eq_true rfl⟩ ⟨Nat.zero_le _, Nat.zero_le _⟩ hK hj hw hA hS hl.1 (Nat.le_of_ble_eq_true rfl) dX6_faultOfLetter_12 h (fun r2 s2 H locs h hw hS => ?_)
    refine zif_eq (tgt := 31) hx hb dX6_faultOfLetter_15 (by decide) (fun c2 => ?_) (fun c2 => ?_)
    · have h := h.1 c2
      refine lv_iconst (v := (jI 2)) hx hb dX6_faultOfLetter_31 rfl ?_
      exact W.iret (v := (jI 2)) hx hb hr (fun t ht hW => ⟨⟨_, _, rfl, h, zend hw ht⟩, hS.F ht⟩) hS.2.2 dX6_faultOfLetter_32
    · have h := h.2 c2
      refine lv_iload_n hx hb dX6_faultOfLetter_18 rfl (lv_at hl 2 rfl) ?_
      refine lv_iconst (v := (jI 0)) hx hb dX6_faultOfLetter_19 rfl ?_
      refine lv_iconst (v := (jI 2)) hx hb dX6_faultOfLetter_20 rfl ?_
      refine k_X6_isBetween (rest := []) hx hb hml hown hts gX6_faultOfLetter_X6_isBetween ⟨Nat.le_of_ble_eq_true rfl, Nat.le_of_ble_eq_true rfl⟩ ⟨Nat.zero_le _, Nat.zero_le _⟩ hK hj hw hA hS hl.1 (Nat.le_of_ble_eq_true rfl) dX6_faultOfLetter_21 h (fun r3 s3 H locs h hw hS => ?_)
      refine zif_eq (tgt := 31) hx hb dX6_faultOfLetter_24 (by decide) (fun c3 => ?_) (fun c3 => ?_)
      · have h := h.1 c3
        refine lv_iconst (v := (jI 2)) hx hb dX6_faultOfLetter_31 rfl ?_
        exact W.iret (v := (jI 2)) hx hb hr (fun t ht hW => ⟨⟨_, _, rfl, h, zend hw ht⟩, hS.F ht⟩) hS.2.2 dX6_faultOfLetter_32
      · have h := h.2 c3
        refine lv_iconst (v := (jI 0)) hx hb dX6_faultOfLetter_27 rfl ?_
        refine lv_goto (tgt := 32) hx hb dX6_faultOfLetter_28 (by decide) ?_
        exact W.iret (v := (jI 0)) hx hb hr (fun t ht hW => ⟨⟨_, _, rfl, h, zend hw ht⟩, hS.F ht⟩) hS.2.2 dX6_faultOfLetter_32
  · have h := h.1 c1
    refine lv_iconst (v := (jI 1)) hx hb dX6_faultOfLetter_7 rfl ?_
    exact W.iret (v := (jI 1)) hx hb hr (fun t ht hW => ⟨⟨_, _, rfl, h, zend hw ht⟩, hS.F ht⟩) hS.2.2 dX6_faultOfLetter_8
theorem k_X6_faultOfLetter {p : Program} {l : Launch} {e : Env} {R : Room} {s : State} {m : MethodId} {args : Array Value} {below : List Frame} {meth : Method} {c : Code} {H : Heap} {locs : List Loc} {cells slots : Nat} {QQ : State → Prop} {cc : ByteArray} {pc nL index : Nat} {ls : Array Slot} {rest : List Value} {D : va_G} {cy : cyT} {ad : Nat → Nat} {own : String} {Ts : List Cond} {H0 : Heap} {σ : ST} {p0 : Int32} {p1 : Int32} {p2 : Int32} {Q : Int32 → ST → Prop} (hx : p.tables.exec = Jvm.exec) (hb : c.code = cc) (hml : c.maxLocals = nL) (hown : s.vm.findClass own = some m.cls) (hts : ∀ w ∈ Ts, w.before args s = true) (hG : GoodIn Ts (va_wsS own index yX6_faultOfLetter wsX6_faultOfLetter)) (hR : 2 + 1 ≤ R.frames ∧ 8 + (3 + 11) + 42 ≤ R.locals) (hcs : cells ≤ R.cells ∧ slots ≤ R.slots) (hK : zK D cy s) (hj : zI 116 ad) (hw : zW D 116 (zce cy ad σ) ad H) {A0 : Nat → Prop} (hA : ∀ i, i < 116 → A0 (ad i)) (hS : va_S A0 H0 H locs) (hsz : ls.size = nL) (hrest : (rest.map fun v => v.category).sum ≤ 8) (hdg : decode cc pc = .ok (.invokestatic index, 3)) (h : wp_X6_faultOfLetter σ p0 p1 p2 Q) (kk : ∀ (r : Int32) (σ : ST) (H : Heap) (locs : List Loc), Q r σ → zW D 116 (zce cy ad σ) ad H → va_S A0 H0 H locs → W p l e R s m args below meth c H locs cells slots QQ (F0 m (pc + 3) ls (.int r :: rest))) : W p l e R s m args below meth c H locs cells slots QQ (F0 m pc ls (.int p2 :: .int p1 :: .int p0 :: rest)) :=
  zcalli (va_runS (As := [.int p0, .int p1, .int p2]) (rest := rest) ⟨hx, hb, hml, hown, hts⟩ (c_X6_faultOfLetter l D cy ad σ p0 p1 p2 h) (va_cwS 3 hts hG rfl rfl rfl (by decide +kernel) hR) (zpreS hj hK hw _) rfl rfl hsz rfl (lv_room hrest) hdg hcs) hA hS kk
set_option maxHeartbeats 4000000 in
set_option maxRecDepth 100000 in
theorem c_X6_letterNumber (l : Launch) (D : va_G) (cy : cyT) (ad : Nat → Nat) (σ : ST) (p0 : Int32) (p1 : Int32) (p2 : Int32) {Q : Int32 → ST → Prop} (h : wp_X6_letterNumber σ p0 p1 p2 Q) : Met l yX6_letterNumber wsX6_letterNumber ({ frames := 0, cells := 0, slots := 0, locals := 0 } : Room) (zPre D cy 116 (zce cy ad σ) ad [.int p0, .int p1, .int p2]) (va_Qi Q (zB D 116 (zce cy ad) ad) (zA 116 ad)) 0 0 (zA 116 ad) := by
  refine Met.ofW (cc := cX6_letterNumber) (maxL := 3) (ret := (some .int)) (by decide) rfl ?_
  intro p e s m args below meth c s₁ B hml hv
  obtain ⟨rfl, hj, hK, hw⟩ := hv
  have hx := B.exec
  have hb := B.bytes
  have hr := B.returns
  have hts := atoms_spec (ws := wsX6_letterNumber) B.pre
  have hown : s.vm.findClass RX6 = some m.cls := findClass_of_methodNamed B.named
  have hlocks := B.notSynchronized
  have hS : va_S (zA 116 ad) s.heap s.heap [] := va_S.rf
  have hA : ∀ i, i < 116 → zA 116 ad (ad i) := fun i hi => ⟨i, hi, rfl⟩
  have hl := lv_entry ([.int p0, .int p1, .int p2]) (n := 3) (Nat.le_of_ble_eq_true rfl)
  rw [lg_entry_eq]
  generalize (lg_sl ([.int p0, .int p1, .int p2]) ++ List.replicate (3 - (lg_sl ([.int p0, .int p1, .int p2])).length) Slot.unset).toArray = ls at hl ⊢
  have hl : lv_has ls 3 [(0, .int p0), (1, .int p1), (2, .int p2)] := hl
  show W p l e ({ frames := 0, cells := 0, slots := 0, locals := 0 } : Room) s m ([.int p0, .int p1, .int p2] : List Value).toArray below meth c s.heap [] 0 0 (MQ below (va_Qi Q (zB D 116 (zce cy ad) ad) (zA 116 ad)) ([.int p0, .int p1, .int p2] : List Value).toArray s 0 0 (zA 116 ad)) (F0 m 0 ls [])
  unfold wp_X6_letterNumber at h
  refine lv_iload_n hx hb dX6_letterNumber_0 rfl (lv_at hl 0 rfl) ?_
  refine lv_iconst (v := (jI 3)) hx hb dX6_letterNumber_1 rfl ?_
  refine lv_imul hx hb dX6_letterNumber_2 ?_
  refine lv_iload_n hx hb dX6_letterNumber_3 rfl (lv_at hl 1 rfl) ?_
  refine lv_iadd hx hb dX6_letterNumber_4 ?_
  refine lv_iconst (v := (jI 1)) hx hb dX6_letterNumber_5 rfl ?_
  refine lv_isub hx hb dX6_letterNumber_6 ?_
  refine lv_iconst (v := (jI 3)) hx hb dX6_letterNumber_7 rfl ?_
  refine lv_imul hx hb dX6_letterNumber_8 ?_
  refine lv_iload_n hx hb dX6_letterNumber_9 rfl (lv_at hl 2 rfl) ?_
  refine lv_iadd hx hb dX6_letterNumber_10 ?_
  exact W.iret (v := (((((p0 * (jI 3)) + p1) - (jI 1)) * (jI 3)) + p2)) hx hb hr (fun t ht hW => ⟨⟨_, _, rfl, h, zend hw ht⟩, hS.F ht⟩) hS.2.2 dX6_letterNumber_11
theorem k_X6_letterNumber {p : Program} {l : Launch} {e : Env} {R : Room} {s : State} {m : MethodId} {args : Array Value} {below : List Frame} {meth : Method} {c : Code} {H : Heap} {locs : List Loc} {cells slots : Nat} {QQ : State → Prop} {cc : ByteArray} {pc nL index : Nat} {ls : Array Slot} {rest : List Value} {D : va_G} {cy : cyT} {ad : Nat → Nat} {own : String} {Ts : List Cond} {H0 : Heap} {σ : ST} {p0 : Int32} {p1 : Int32} {p2 : Int32} {Q : Int32 → ST → Prop} (hx : p.tables.exec = Jvm.exec) (hb : c.code = cc) (hml : c.maxLocals = nL) (hown : s.vm.findClass own = some m.cls) (hts : ∀ w ∈ Ts, w.before args s = true) (hG : GoodIn Ts (va_wsS own index yX6_letterNumber wsX6_letterNumber)) (hR : 0 + 1 ≤ R.frames ∧ 8 + (3 + 11) + 0 ≤ R.locals) (hcs : cells ≤ R.cells ∧ slots ≤ R.slots) (hK : zK D cy s) (hj : zI 116 ad) (hw : zW D 116 (zce cy ad σ) ad H) {A0 : Nat → Prop} (hA : ∀ i, i < 116 → A0 (ad i)) (hS : va_S A0 H0 H locs) (hsz : ls.size = nL) (hrest : (rest.map fun v => v.category).sum ≤ 8) (hdg : decode cc pc = .ok (.invokestatic index, 3)) (h : wp_X6_letterNumber σ p0 p1 p2 Q) (kk : ∀ (r : Int32) (σ : ST) (H : Heap) (locs : List Loc), Q r σ → zW D 116 (zce cy ad σ) ad H → va_S A0 H0 H locs → W p l e R s m args below meth c H locs cells slots QQ (F0 m (pc + 3) ls (.int r :: rest))) : W p l e R s m args below meth c H locs cells slots QQ (F0 m pc ls (.int p2 :: .int p1 :: .int p0 :: rest)) :=
  zcalli (va_runS (As := [.int p0, .int p1, .int p2]) (rest := rest) ⟨hx, hb, hml, hown, hts⟩ (c_X6_letterNumber l D cy ad σ p0 p1 p2 h) (va_cwS 3 hts hG rfl rfl rfl (by decide +kernel) hR) (zpreS hj hK hw _) rfl rfl hsz rfl (lv_room hrest) hdg hcs) hA hS kk
set_option maxHeartbeats 4000000 in
set_option maxRecDepth 100000 in
theorem c_X6_faultOfUse (l : Launch) (D : va_G) (cy : cyT) (ad : Nat → Nat) (σ : ST) (p0 : Int32) (p1 : Int32) (p2 : Int32) {Q : Int32 → ST → Prop} (h : wp_X6_faultOfUse σ p0 p1 p2 Q) : Met l yX6_faultOfUse wsX6_faultOfUse ({ frames := 5, cells := 0, slots := 0, locals := 113 } : Room) (zPre D cy 116 (zce cy ad σ) ad [.ref (ad 0), .int p0, .int p1, .int p2]) (va_Qi Q (zB D 116 (zce cy ad) ad) (zA 116 ad)) 0 0 (zA 116 ad) := by
  refine Met.ofW (cc := cX6_faultOfUse) (maxL := 5) (ret := (some .int)) (by decide) rfl ?_
  intro p e s m args below meth c s₁ B hml hv
  obtain ⟨rfl, hj, hK, hw⟩ := hv
  have hx := B.exec
  have hb := B.bytes
  have hr := B.returns
  have hts := atoms_spec (ws := wsX6_faultOfUse) B.pre
  have hown : s.vm.findClass RX6 = some m.cls := findClass_of_methodNamed B.named
  have hlocks := B.notSynchronized
  have lk0 : Cond.fieldLink RX6 33 "TypeTrays" "place" "LTypeTrays$Place;" ∈ wsX6_faultOfUse := List.mem_of_getElem? (i := 1) rfl
  have lk1 : Cond.fieldLink RX6 12 "TypeTrays" "state" "LTypeTrays$State;" ∈ wsX6_faultOfUse := List.mem_of_getElem? (i := 2) rfl
  have inX6 : ∀ w ∈ u_ws RX6 TX6 4, w ∈ wsX6_faultOfUse := zin_at 141 rfl
  have inX2 : ∀ w ∈ u_ws RX2 TX2 5, w ∈ wsX6_faultOfUse := zin_at 145 rfl
  have hS : va_S (zA 116 ad) s.heap s.heap [] := va_S.rf
  have hA : ∀ i, i < 116 → zA 116 ad (ad i) := fun i hi => ⟨i, hi, rfl⟩
  have hl := lv_entry ([.ref (ad 0), .int p0, .int p1, .int p2]) (n := 5) (Nat.le_of_ble_eq_true rfl)
  rw [lg_entry_eq]
  generalize (lg_sl ([.ref (ad 0), .int p0, .int p1, .int p2]) ++ List.replicate (5 - (lg_sl ([.ref (ad 0), .int p0, .int p1, .int p2])).length) Slot.unset).toArray = ls at hl ⊢
  have hl : lv_has ls 5 [(0, .ref (ad 0)), (1, .int p0), (2, .int p1), (3, .int p2)] := hl
  show W p l e ({ frames := 5, cells := 0, slots := 0, locals := 113 } : Room) s m ([.ref (ad 0), .int p0, .int p1, .int p2] : List Value).toArray below meth c s.heap [] 0 0 (MQ below (va_Qi Q (zB D 116 (zce cy ad) ad) (zA 116 ad)) ([.ref (ad 0), .int p0, .int p1, .int p2] : List Value).toArray s 0 0 (zA 116 ad)) (F0 m 0 ls [])
  unfold wp_X6_faultOfUse at h
  refine lv_iload_n hx hb dX6_faultOfUse_0 rfl (lv_at hl 1 rfl) ?_
  refine lv_iload_n hx hb dX6_faultOfUse_1 rfl (lv_at hl 2 rfl) ?_
  refine lv_iload_n hx hb dX6_faultOfUse_2 rfl (lv_at hl 3 rfl) ?_
  refine k_X6_faultOfLetter (rest := []) hx hb hml hown hts gX6_faultOfUse_X6_faultOfLetter ⟨Nat.le_of_ble_eq_true rfl, Nat.le_of_ble_eq_true rfl⟩ ⟨Nat.zero_le _, Nat.zero_le _⟩ hK hj hw hA hS hl.1 (Nat.le_of_ble_eq_true rfl) dX6_faultOfUse_3 h (fun r1 s1 H locs h hw hS => ?_)
  refine lv_istore (lv' := [(4, .int r1), (0, .ref (ad 0)), (1, .int p0), (2, .int p1), (3, .int p2)]) hx hb dX6_faultOfUse_6 hl (by decide) rfl (fun ls hl => ?_)
  refine lv_iload hx hb dX6_faultOfUse_8 (lv_at hl 0 rfl) ?_
  refine zif_eq (tgt := 16) hx hb dX6_faultOfUse_10 (by decide) (fun c1 => ?_) (fun c1 => ?_)
  · have h := h.1 c1
    refine lv_aload_n hx hb dX6_faultOfUse_16 rfl (lv_at hl 1 rfl) ?_
    refine zget hx hb hts inX6 hown hK hw 0 (by decide) rfl rfl 3 (by decide) lk0 (fun _ h9 => h9) rfl dX6_faultOfUse_17 ?_
    refine lv_aload_n hx hb dX6_faultOfUse_20 rfl (lv_at hl 1 rfl) ?_
    refine zget hx hb hts inX6 hown hK hw 0 (by decide) rfl rfl 0 (by decide) lk1 (fun _ h9 => h9) rfl dX6_faultOfUse_21 ?_
    refine lv_iload_n hx hb dX6_faultOfUse_24 rfl (lv_at hl 2 rfl) ?_
    refine lv_iload_n hx hb dX6_faultOfUse_25 rfl (lv_at hl 3 rfl) ?_
    refine lv_iload_n hx hb dX6_faultOfUse_26 rfl (lv_at hl 4 rfl) ?_
    refine k_X6_letterNumber (rest := [.ref (ad 5), .ref (ad 4)]) hx hb hml hown hts gX6_faultOfUse_X6_letterNumber ⟨Nat.le_of_ble_eq_true rfl, Nat.le_of_ble_eq_true rfl⟩ ⟨Nat.zero_le _, Nat.zero_le _⟩ hK hj hw hA hS hl.1 (Nat.le_of_ble_eq_true rfl) dX6_faultOfUse_27 h (fun r2 s2 H locs h hw hS => ?_)
    refine k_X2_find (rest := []) hx hb hml hown hts gX6_faultOfUse_X2_find ⟨Nat.le_of_ble_eq_true rfl, Nat.le_of_ble_eq_true rfl⟩ ⟨Nat.zero_le _, Nat.zero_le _⟩ hK hj hw hA hS hl.1 (Nat.le_of_ble_eq_true rfl) dX6_faultOfUse_30 h (fun s3 H locs h hw hS => ?_)
    refine lv_aload_n hx hb dX6_faultOfUse_33 rfl (lv_at hl 1 rfl) ?_
    refine zget hx hb hts inX6 hown hK hw 0 (by decide) rfl rfl 3 (by decide) lk0 (fun _ h9 => h9) rfl dX6_faultOfUse_34 ?_
    refine zgetN (own := RX6) (index := 62) (host := "TypeTrays") hx hb hts inX2 hown hK hw 4 (by decide) rfl rfl 0 (by decide) (by decide +kernel) (fun _ h9 => h9) rfl dX6_faultOfUse_37 ?_
    refine lv_iconst (v := (jI (-1))) hx hb dX6_faultOfUse_40 rfl ?_
    refine lv_icmp_ne (tgt := 48) hx hb dX6_faultOfUse_41 (by decide) (fun c2 => ?_) (fun c2 => ?_)
    · have h := h.2 c2
      refine lv_iconst (v := (jI 0)) hx hb dX6_faultOfUse_48 rfl ?_
      exact W.iret (v := (jI 0)) hx hb hr (fun t ht hW => ⟨⟨_, _, rfl, h, zend hw ht⟩, hS.F ht⟩) hS.2.2 dX6_faultOfUse_49
    · have h := h.1 c2
      refine lv_iconst (v := (jI 3)) hx hb dX6_faultOfUse_44 rfl ?_
      refine lv_goto (tgt := 49) hx hb dX6_faultOfUse_45 (by decide) ?_
      exact W.iret (v := (jI 3)) hx hb hr (fun t ht hW => ⟨⟨_, _, rfl, h, zend hw ht⟩, hS.F ht⟩) hS.2.2 dX6_faultOfUse_49
  · have h := h.2 c1
    refine lv_iload hx hb dX6_faultOfUse_13 (lv_at hl 0 rfl) ?_
    exact W.iret (v := r1) hx hb hr (fun t ht hW => ⟨⟨_, _, rfl, h, zend hw ht⟩, hS.F ht⟩) hS.2.2 dX6_faultOfUse_15
theorem k_X6_faultOfUse {p : Program} {l : Launch} {e : Env} {R : Room} {s : State} {m : MethodId} {args : Array Value} {below : List Frame} {meth : Method} {c : Code} {H : Heap} {locs : List Loc} {cells slots : Nat} {QQ : State → Prop} {cc : ByteArray} {pc nL index : Nat} {ls : Array Slot} {rest : List Value} {D : va_G} {cy : cyT} {ad : Nat → Nat} {own : String} {Ts : List Cond} {H0 : Heap} {σ : ST} {p0 : Int32} {p1 : Int32} {p2 : Int32} {Q : Int32 → ST → Prop} (hx : p.tables.exec = Jvm.exec) (hb : c.code = cc) (hml : c.maxLocals = nL) (hown : s.vm.findClass own = some m.cls) (hts : ∀ w ∈ Ts, w.before args s = true) (hG : GoodIn Ts (wsV own index RX6 yX6_faultOfUse wsX6_faultOfUse)) (hR : 5 + 1 ≤ R.frames ∧ 8 + (5 + 11) + 113 ≤ R.locals) (hcs : cells ≤ R.cells ∧ slots ≤ R.slots) (hK : zK D cy s) (hj : zI 116 ad) (hw : zW D 116 (zce cy ad σ) ad H) {A0 : Nat → Prop} (hA : ∀ i, i < 116 → A0 (ad i)) (hS : va_S A0 H0 H locs) (hsz : ls.size = nL) (hrest : (rest.map fun v => v.category).sum ≤ 8) (hdg : decode cc pc = .ok (.invokevirtual index, 3)) (h : wp_X6_faultOfUse σ p0 p1 p2 Q) (kk : ∀ (r : Int32) (σ : ST) (H : Heap) (locs : List Loc), Q r σ → zW D 116 (zce cy ad σ) ad H → va_S A0 H0 H locs → W p l e R s m args below meth c H locs cells slots QQ (F0 m (pc + 3) ls (.int r :: rest))) : W p l e R s m args below meth c H locs cells slots QQ (F0 m pc ls (.int p2 :: .int p1 :: .int p0 :: .ref (ad 0) :: rest)) :=
  zcalli (va_runV (As := [.int p0, .int p1, .int p2]) (rest := rest) ⟨hx, hb, hml, hown, hts⟩ (c_X6_faultOfUse l D cy ad σ p0 p1 p2 h) (cwV 3 hts hG rfl rfl rfl (by decide +kernel) hR) (zpreV hj hK hw _ (i := 0) (ci := 5) (by decide) rfl rfl) rfl rfl hsz rfl (lv_room hrest) hdg hcs) hA hS kk
set_option maxHeartbeats 4000000 in
set_option maxRecDepth 100000 in
theorem c_X6_faultOfDrop (l : Launch) (D : va_G) (cy : cyT) (ad : Nat → Nat) (σ : ST) (p0 : Int32) (p1 : Int32) (p2 : Int32) {Q : Int32 → ST → Prop} (h : wp_X6_faultOfDrop σ p0 p1 p2 Q) : Met l yX6_faultOfDrop wsX6_faultOfDrop ({ frames := 3, cells := 0, slots := 0, locals := 64 } : Room) (zPre D cy 116 (zce cy ad σ) ad [.ref (ad 0), .int p0, .int p1, .int p2]) (va_Qi Q (zB D 116 (zce cy ad) ad) (zA 116 ad)) 0 0 (zA 116 ad) := by
  refine Met.ofW (cc := cX6_faultOfDrop) (maxL := 5) (ret := (some .int)) (by decide) rfl ?_
  intro p e s m args below meth c s₁ B hml hv
  obtain ⟨rfl, hj, hK, hw⟩ := hv
  have hx := B.exec
  have hb := B.bytes
  have hr := B.returns
  have hts := atoms_spec (ws := wsX6_faultOfDrop) B.pre
  have hown : s.vm.findClass RX6 = some m.cls := findClass_of_methodNamed B.named
  have hlocks := B.notSynchronized
  have lk0 : Cond.fieldLink RX6 12 "TypeTrays" "state" "LTypeTrays$State;" ∈ wsX6_faultOfDrop := List.mem_of_getElem? (i := 1) rfl
  have inX6 : ∀ w ∈ u_ws RX6 TX6 4, w ∈ wsX6_faultOfDrop := zin_at 27 rfl
  have hS : va_S (zA 116 ad) s.heap s.heap [] := va_S.rf
  have hA : ∀ i, i < 116 → zA 116 ad (ad i) := fun i hi => ⟨i, hi, rfl⟩
  have hl := lv_entry ([.ref (ad 0), .int p0, .int p1, .int p2]) (n := 5) (Nat.le_of_ble_eq_true rfl)
  rw [lg_entry_eq]
  generalize (lg_sl ([.ref (ad 0), .int p0, .int p1, .int p2]) ++ List.replicate (5 - (lg_sl ([.ref (ad 0), .int p0, .int p1, .int p2])).length) Slot.unset).toArray = ls at hl ⊢
  have hl : lv_has ls 5 [(0, .ref (ad 0)), (1, .int p0), (2, .int p1), (3, .int p2)] := hl
  show W p l e ({ frames := 3, cells := 0, slots := 0, locals := 64 } : Room) s m ([.ref (ad 0), .int p0, .int p1, .int p2] : List Value).toArray below meth c s.heap [] 0 0 (MQ below (va_Qi Q (zB D 116 (zce cy ad) ad) (zA 116 ad)) ([.ref (ad 0), .int p0, .int p1, .int p2] : List Value).toArray s 0 0 (zA 116 ad)) (F0 m 0 ls [])
  unfold wp_X6_faultOfDrop at h
  refine lv_iload_n hx hb dX6_faultOfDrop_0 rfl (lv_at hl 1 rfl) ?_
  refine lv_iload_n hx hb dX6_faultOfDrop_1 rfl (lv_at hl 2 rfl) ?_
  refine lv_iload_n hx hb dX6_faultOfDrop_2 rfl (lv_at hl 3 rfl) ?_
  refine k_X6_faultOfLetter (rest := []) hx hb hml hown hts gX6_faultOfDrop_X6_faultOfLetter ⟨Nat.le_of_ble_eq_true rfl, Nat.le_of_ble_eq_true rfl⟩ ⟨Nat.zero_le _, Nat.zero_le _⟩ hK hj hw hA hS hl.1 (Nat.le_of_ble_eq_true rfl) dX6_faultOfDrop_3 h (fun r1 s1 H locs h hw hS => ?_)
  refine lv_istore (lv' := [(4, .int r1), (0, .ref (ad 0)), (1, .int p0), (2, .int p1), (3, .int p2)]) hx hb dX6_faultOfDrop_6 hl (by decide) rfl (fun ls hl => ?_)
  refine lv_iload hx hb dX6_faultOfDrop_8 (lv_at hl 0 rfl) ?_
  refine zif_eq (tgt := 16) hx hb dX6_faultOfDrop_10 (by decide) (fun c1 => ?_) (fun c1 => ?_)
  · have h := h.1 c1
    refine lv_aload_n hx hb dX6_faultOfDrop_16 rfl (lv_at hl 1 rfl) ?_
    refine zget hx hb hts inX6 hown hK hw 0 (by decide) rfl rfl 0 (by decide) lk0 (fun _ h9 => h9) rfl dX6_faultOfDrop_17 ?_
    refine lv_iload_n hx hb dX6_faultOfDrop_20 rfl (lv_at hl 2 rfl) ?_
    refine lv_iload_n hx hb dX6_faultOfDrop_21 rfl (lv_at hl 3 rfl) ?_
    refine lv_iload_n hx hb dX6_faultOfDrop_22 rfl (lv_at hl 4 rfl) ?_
    refine k_X6_letterNumber (rest := [.ref (ad 5)]) hx hb hml hown hts gX6_faultOfDrop_X6_letterNumber ⟨Nat.le_of_ble_eq_true rfl, Nat.le_of_ble_eq_true rfl⟩ ⟨Nat.zero_le _, Nat.zero_le _⟩ hK hj hw hA hS hl.1 (Nat.le_of_ble_eq_true rfl) dX6_faultOfDrop_23 h (fun r2 s2 H locs h hw hS => ?_)
    refine k_X4_isThere (rest := []) hx hb hml hown hts gX6_faultOfDrop_X4_isThere ⟨Nat.le_of_ble_eq_true rfl, Nat.le_of_ble_eq_true rfl⟩ ⟨Nat.zero_le _, Nat.zero_le _⟩ hK hj hw hA hS hl.1 (Nat.le_of_ble_eq_true rfl) dX6_faultOfDrop_26 h (fun r3 s3 H locs h hw hS => ?_)
    refine zif_eq (tgt := 36) hx hb dX6_faultOfDrop_29 (by decide) (fun c2 => ?_) (fun c2 => ?_)
    · have h := h.1 c2
      refine lv_iconst (v := (jI 3)) hx hb dX6_faultOfDrop_36 rfl ?_
      exact W.iret (v := (jI 3)) hx hb hr (fun t ht hW => ⟨⟨_, _, rfl, h, zend hw ht⟩, hS.F ht⟩) hS.2.2 dX6_faultOfDrop_37
    · have h := h.2 c2
      refine lv_iconst (v := (jI 0)) hx hb dX6_faultOfDrop_32 rfl ?_
      refine lv_goto (tgt := 37) hx hb dX6_faultOfDrop_33 (by decide) ?_
      exact W.iret (v := (jI 0)) hx hb hr (fun t ht hW => ⟨⟨_, _, rfl, h, zend hw ht⟩, hS.F ht⟩) hS.2.2 dX6_faultOfDrop_37
  · have h := h.2 c1
    refine lv_iload hx hb dX6_faultOfDrop_13 (lv_at hl 0 rfl) ?_
    exact W.iret (v := r1) hx hb hr (fun t ht hW => ⟨⟨_, _, rfl, h, zend hw ht⟩, hS.F ht⟩) hS.2.2 dX6_faultOfDrop_15
theorem k_X6_faultOfDrop {p : Program} {l : Launch} {e : Env} {R : Room} {s : State} {m : MethodId} {args : Array Value} {below : List Frame} {meth : Method} {c : Code} {H : Heap} {locs : List Loc} {cells slots : Nat} {QQ : State → Prop} {cc : ByteArray} {pc nL index : Nat} {ls : Array Slot} {rest : List Value} {D : va_G} {cy : cyT} {ad : Nat → Nat} {own : String} {Ts : List Cond} {H0 : Heap} {σ : ST} {p0 : Int32} {p1 : Int32} {p2 : Int32} {Q : Int32 → ST → Prop} (hx : p.tables.exec = Jvm.exec) (hb : c.code = cc) (hml : c.maxLocals = nL) (hown : s.vm.findClass own = some m.cls) (hts : ∀ w ∈ Ts, w.before args s = true) (hG : GoodIn Ts (wsV own index RX6 yX6_faultOfDrop wsX6_faultOfDrop)) (hR : 3 + 1 ≤ R.frames ∧ 8 + (5 + 11) + 64 ≤ R.locals) (hcs : cells ≤ R.cells ∧ slots ≤ R.slots) (hK : zK D cy s) (hj : zI 116 ad) (hw : zW D 116 (zce cy ad σ) ad H) {A0 : Nat → Prop} (hA : ∀ i, i < 116 → A0 (ad i)) (hS : va_S A0 H0 H locs) (hsz : ls.size = nL) (hrest : (rest.map fun v => v.category).sum ≤ 8) (hdg : decode cc pc = .ok (.invokevirtual index, 3)) (h : wp_X6_faultOfDrop σ p0 p1 p2 Q) (kk : ∀ (r : Int32) (σ : ST) (H : Heap) (locs : List Loc), Q r σ → zW D 116 (zce cy ad σ) ad H → va_S A0 H0 H locs → W p l e R s m args below meth c H locs cells slots QQ (F0 m (pc + 3) ls (.int r :: rest))) : W p l e R s m args below meth c H locs cells slots QQ (F0 m pc ls (.int p2 :: .int p1 :: .int p0 :: .ref (ad 0) :: rest)) :=
  zcalli (va_runV (As := [.int p0, .int p1, .int p2]) (rest := rest) ⟨hx, hb, hml, hown, hts⟩ (c_X6_faultOfDrop l D cy ad σ p0 p1 p2 h) (cwV 3 hts hG rfl rfl rfl (by decide +kernel) hR) (zpreV hj hK hw _ (i := 0) (ci := 5) (by decide) rfl rfl) rfl rfl hsz rfl (lv_room hrest) hdg hcs) hA hS kk
set_option maxHeartbeats 4000000 in
set_option maxRecDepth 100000 in
theorem c_X6_faultOfAddTray (l : Launch) (D : va_G) (cy : cyT) (ad : Nat → Nat) (σ : ST) {Q : Int32 → ST → Prop} (h : wp_X6_faultOfAddTray σ Q) : Met l yX6_faultOfAddTray wsX6_faultOfAddTray ({ frames := 0, cells := 0, slots := 0, locals := 0 } : Room) (zPre D cy 116 (zce cy ad σ) ad [.ref (ad 0)]) (va_Qi Q (zB D 116 (zce cy ad) ad) (zA 116 ad)) 0 0 (zA 116 ad) := by
  refine Met.ofW (cc := cX6_faultOfAddTray) (maxL := 1) (ret := (some .int)) (by decide) rfl ?_
  intro p e s m args below meth c s₁ B hml hv
  obtain ⟨rfl, hj, hK, hw⟩ := hv
  have hx := B.exec
  have hb := B.bytes
  have hr := B.returns
  have hts := atoms_spec (ws := wsX6_faultOfAddTray) B.pre
  have hown : s.vm.findClass RX6 = some m.cls := findClass_of_methodNamed B.named
  have hlocks := B.notSynchronized
  have lk0 : Cond.fieldLink RX6 12 "TypeTrays" "state" "LTypeTrays$State;" ∈ wsX6_faultOfAddTray := List.mem_of_getElem? (i := 1) rfl
  have inX6 : ∀ w ∈ u_ws RX6 TX6 4, w ∈ wsX6_faultOfAddTray := zin_at 2 rfl
  have inX4 : ∀ w ∈ u_ws RX4 TX4 18, w ∈ wsX6_faultOfAddTray := zin_at 6 rfl
  have hS : va_S (zA 116 ad) s.heap s.heap [] := va_S.rf
  have hA : ∀ i, i < 116 → zA 116 ad (ad i) := fun i hi => ⟨i, hi, rfl⟩
  have hl := lv_entry ([.ref (ad 0)]) (n := 1) (Nat.le_of_ble_eq_true rfl)
  rw [lg_entry_eq]
  generalize (lg_sl ([.ref (ad 0)]) ++ List.replicate (1 - (lg_sl ([.ref (ad 0)])).length) Slot.unset).toArray = ls at hl ⊢
  have hl : lv_has ls 1 [(0, .ref (ad 0))] := hl
  show W p l e ({ frames := 0, cells := 0, slots := 0, locals := 0 } : Room) s m ([.ref (ad 0)] : List Value).toArray below meth c s.heap [] 0 0 (MQ below (va_Qi Q (zB D 116 (zce cy ad) ad) (zA 116 ad)) ([.ref (ad 0)] : List Value).toArray s 0 0 (zA 116 ad)) (F0 m 0 ls [])
  unfold wp_X6_faultOfAddTray at h
  refine lv_aload_n hx hb dX6_faultOfAddTray_0 rfl (lv_at hl 0 rfl) ?_
  refine zget hx hb hts inX6 hown hK hw 0 (by decide) rfl rfl 0 (by decide) lk0 (fun _ h9 => h9) rfl dX6_faultOfAddTray_1 ?_
  refine zgetN (own := RX6) (index := 187) (host := "TypeTrays") hx hb hts inX4 hown hK hw 5 (by decide) rfl rfl 11 (by decide) (by decide +kernel) (fun _ h9 => h9) rfl dX6_faultOfAddTray_4 ?_
  refine lv_iconst (v := (jI 3)) hx hb dX6_faultOfAddTray_7 rfl ?_
  refine lv_icmp_ge (tgt := 15) hx hb dX6_faultOfAddTray_8 (by decide) (fun c1 => ?_) (fun c1 => ?_)
  · have h := h.1 c1
    refine lv_iconst (v := (jI 3)) hx hb dX6_faultOfAddTray_15 rfl ?_
    exact W.iret (v := (jI 3)) hx hb hr (fun t ht hW => ⟨⟨_, _, rfl, h, zend hw ht⟩, hS.F ht⟩) hS.2.2 dX6_faultOfAddTray_16
  · have h := h.2 c1
    refine lv_iconst (v := (jI 0)) hx hb dX6_faultOfAddTray_11 rfl ?_
    refine lv_goto (tgt := 16) hx hb dX6_faultOfAddTray_12 (by decide) ?_
    exact W.iret (v := (jI 0)) hx hb hr (fun t ht hW => ⟨⟨_, _, rfl, h, zend hw ht⟩, hS.F ht⟩) hS.2.2 dX6_faultOfAddTray_16
theorem k_X6_faultOfAddTray {p : Program} {l : Launch} {e : Env} {R : Room} {s : State} {m : MethodId} {args : Array Value} {below : List Frame} {meth : Method} {c : Code} {H : Heap} {locs : List Loc} {cells slots : Nat} {QQ : State → Prop} {cc : ByteArray} {pc nL index : Nat} {ls : Array Slot} {rest : List Value} {D : va_G} {cy : cyT} {ad : Nat → Nat} {own : String} {Ts : List Cond} {H0 : Heap} {σ : ST}  {Q : Int32 → ST → Prop} (hx : p.tables.exec = Jvm.exec) (hb : c.code = cc) (hml : c.maxLocals = nL) (hown : s.vm.findClass own = some m.cls) (hts : ∀ w ∈ Ts, w.before args s = true) (hG : GoodIn Ts (wsV own index RX6 yX6_faultOfAddTray wsX6_faultOfAddTray)) (hR : 0 + 1 ≤ R.frames ∧ 8 + (1 + 11) + 0 ≤ R.locals) (hcs : cells ≤ R.cells ∧ slots ≤ R.slots) (hK : zK D cy s) (hj : zI 116 ad) (hw : zW D 116 (zce cy ad σ) ad H) {A0 : Nat → Prop} (hA : ∀ i, i < 116 → A0 (ad i)) (hS : va_S A0 H0 H locs) (hsz : ls.size = nL) (hrest : (rest.map fun v => v.category).sum ≤ 8) (hdg : decode cc pc = .ok (.invokevirtual index, 3)) (h : wp_X6_faultOfAddTray σ  Q) (kk : ∀ (r : Int32) (σ : ST) (H : Heap) (locs : List Loc), Q r σ → zW D 116 (zce cy ad σ) ad H → va_S A0 H0 H locs → W p l e R s m args below meth c H locs cells slots QQ (F0 m (pc + 3) ls (.int r :: rest))) : W p l e R s m args below meth c H locs cells slots QQ (F0 m pc ls (.ref (ad 0) :: rest)) :=
  zcalli (va_runV (As := []) (rest := rest) ⟨hx, hb, hml, hown, hts⟩ (c_X6_faultOfAddTray l D cy ad σ  h) (cwV 0 hts hG rfl rfl rfl (by decide +kernel) hR) (zpreV hj hK hw _ (i := 0) (ci := 5) (by decide) rfl rfl) rfl rfl hsz rfl (lv_room hrest) hdg hcs) hA hS kk
set_option maxHeartbeats 4000000 in
set_option maxRecDepth 100000 in
theorem c_X6_faultOfWhat (l : Launch) (D : va_G) (cy : cyT) (ad : Nat → Nat) (σ : ST) (p0 : Int32) (p1 : Int32) {Q : Int32 → ST → Prop} (h : wp_X6_faultOfWhat σ p0 p1 Q) : Met l yX6_faultOfWhat wsX6_faultOfWhat ({ frames := 1, cells := 0, slots := 0, locals := 22 } : Room) (zPre D cy 116 (zce cy ad σ) ad [.int p0, .int p1]) (va_Qi Q (zB D 116 (zce cy ad) ad) (zA 116 ad)) 0 0 (zA 116 ad) := by
  refine Met.ofW (cc := cX6_faultOfWhat) (maxL := 2) (ret := (some .int)) (by decide) rfl ?_
  intro p e s m args below meth c s₁ B hml hv
  obtain ⟨rfl, hj, hK, hw⟩ := hv
  have hx := B.exec
  have hb := B.bytes
  have hr := B.returns
  have hts := atoms_spec (ws := wsX6_faultOfWhat) B.pre
  have hown : s.vm.findClass RX6 = some m.cls := findClass_of_methodNamed B.named
  have hlocks := B.notSynchronized
  have hS : va_S (zA 116 ad) s.heap s.heap [] := va_S.rf
  have hA : ∀ i, i < 116 → zA 116 ad (ad i) := fun i hi => ⟨i, hi, rfl⟩
  have hl := lv_entry ([.int p0, .int p1]) (n := 2) (Nat.le_of_ble_eq_true rfl)
  rw [lg_entry_eq]
  generalize (lg_sl ([.int p0, .int p1]) ++ List.replicate (2 - (lg_sl ([.int p0, .int p1])).length) Slot.unset).toArray = ls at hl ⊢
  have hl : lv_has ls 2 [(0, .int p0), (1, .int p1)] := hl
  show W p l e ({ frames := 1, cells := 0, slots := 0, locals := 22 } : Room) s m ([.int p0, .int p1] : List Value).toArray below meth c s.heap [] 0 0 (MQ below (va_Qi Q (zB D 116 (zce cy ad) ad) (zA 116 ad)) ([.int p0, .int p1] : List Value).toArray s 0 0 (zA 116 ad)) (F0 m 0 ls [])
  unfold wp_X6_faultOfWhat at h
  refine lv_iload_n hx hb dX6_faultOfWhat_0 rfl (lv_at hl 0 rfl) ?_
  refine lv_iconst (v := (jI 0)) hx hb dX6_faultOfWhat_1 rfl ?_
  refine lv_iload_n hx hb dX6_faultOfWhat_2 rfl (lv_at hl 1 rfl) ?_
  refine lv_iconst (v := (jI 1)) hx hb dX6_faultOfWhat_3 rfl ?_
  refine lv_isub hx hb dX6_faultOfWhat_4 ?_
  refine k_X6_isBetween (rest := []) hx hb hml hown hts gX6_faultOfWhat_X6_isBetween ⟨Nat.le_of_ble_eq_true rfl, Nat.le_of_ble_eq_true rfl⟩ ⟨Nat.zero_le _, Nat.zero_le _⟩ hK hj hw hA hS hl.1 (Nat.le_of_ble_eq_true rfl) dX6_faultOfWhat_5 h (fun r1 s1 H locs h hw hS => ?_)
  refine zif_eq (tgt := 15) hx hb dX6_faultOfWhat_8 (by decide) (fun c1 => ?_) (fun c1 => ?_)
  · have h := h.1 c1
    refine lv_iconst (v := (jI 2)) hx hb dX6_faultOfWhat_15 rfl ?_
    exact W.iret (v := (jI 2)) hx hb hr (fun t ht hW => ⟨⟨_, _, rfl, h, zend hw ht⟩, hS.F ht⟩) hS.2.2 dX6_faultOfWhat_16
  · have h := h.2 c1
    refine lv_iconst (v := (jI 0)) hx hb dX6_faultOfWhat_11 rfl ?_
    refine lv_goto (tgt := 16) hx hb dX6_faultOfWhat_12 (by decide) ?_
    exact W.iret (v := (jI 0)) hx hb hr (fun t ht hW => ⟨⟨_, _, rfl, h, zend hw ht⟩, hS.F ht⟩) hS.2.2 dX6_faultOfWhat_16
theorem k_X6_faultOfWhat {p : Program} {l : Launch} {e : Env} {R : Room} {s : State} {m : MethodId} {args : Array Value} {below : List Frame} {meth : Method} {c : Code} {H : Heap} {locs : List Loc} {cells slots : Nat} {QQ : State → Prop} {cc : ByteArray} {pc nL index : Nat} {ls : Array Slot} {rest : List Value} {D : va_G} {cy : cyT} {ad : Nat → Nat} {own : String} {Ts : List Cond} {H0 : Heap} {σ : ST} {p0 : Int32} {p1 : Int32} {Q : Int32 → ST → Prop} (hx : p.tables.exec = Jvm.exec) (hb : c.code = cc) (hml : c.maxLocals = nL) (hown : s.vm.findClass own = some m.cls) (hts : ∀ w ∈ Ts, w.before args s = true) (hG : GoodIn Ts (va_wsS own index yX6_faultOfWhat wsX6_faultOfWhat)) (hR : 1 + 1 ≤ R.frames ∧ 8 + (2 + 11) + 22 ≤ R.locals) (hcs : cells ≤ R.cells ∧ slots ≤ R.slots) (hK : zK D cy s) (hj : zI 116 ad) (hw : zW D 116 (zce cy ad σ) ad H) {A0 : Nat → Prop} (hA : ∀ i, i < 116 → A0 (ad i)) (hS : va_S A0 H0 H locs) (hsz : ls.size = nL) (hrest : (rest.map fun v => v.category).sum ≤ 8) (hdg : decode cc pc = .ok (.invokestatic index, 3)) (h : wp_X6_faultOfWhat σ p0 p1 Q) (kk : ∀ (r : Int32) (σ : ST) (H : Heap) (locs : List Loc), Q r σ → zW D 116 (zce cy ad σ) ad H → va_S A0 H0 H locs → W p l e R s m args below meth c H locs cells slots QQ (F0 m (pc + 3) ls (.int r :: rest))) : W p l e R s m args below meth c H locs cells slots QQ (F0 m pc ls (.int p1 :: .int p0 :: rest)) :=
  zcalli (va_runS (As := [.int p0, .int p1]) (rest := rest) ⟨hx, hb, hml, hown, hts⟩ (c_X6_faultOfWhat l D cy ad σ p0 p1 h) (va_cwS 2 hts hG rfl rfl rfl (by decide +kernel) hR) (zpreS hj hK hw _) rfl rfl hsz rfl (lv_room hrest) hdg hcs) hA hS kk
set_option maxHeartbeats 4000000 in
set_option maxRecDepth 100000 in
theorem c_X6_isTray (l : Launch) (D : va_G) (cy : cyT) (ad : Nat → Nat) (σ : ST) (p0 : Int32) {Q : Int32 → ST → Prop} (h : wp_X6_isTray σ p0 Q) : Met l yX6_isTray wsX6_isTray ({ frames := 1, cells := 0, slots := 0, locals := 22 } : Room) (zPre D cy 116 (zce cy ad σ) ad [.ref (ad 0), .int p0]) (va_Qi Q (zB D 116 (zce cy ad) ad) (zA 116 ad)) 0 0 (zA 116 ad) := by
  refine Met.ofW (cc := cX6_isTray) (maxL := 2) (ret := (some .boolean)) (by decide) rfl ?_
  intro p e s m args below meth c s₁ B hml hv
  obtain ⟨rfl, hj, hK, hw⟩ := hv
  have hx := B.exec
  have hb := B.bytes
  have hr := B.returns
  have hts := atoms_spec (ws := wsX6_isTray) B.pre
  have hown : s.vm.findClass RX6 = some m.cls := findClass_of_methodNamed B.named
  have hlocks := B.notSynchronized
  have lk0 : Cond.fieldLink RX6 12 "TypeTrays" "state" "LTypeTrays$State;" ∈ wsX6_isTray := List.mem_of_getElem? (i := 1) rfl
  have inX6 : ∀ w ∈ u_ws RX6 TX6 4, w ∈ wsX6_isTray := zin_at 6 rfl
  have inX4 : ∀ w ∈ u_ws RX4 TX4 18, w ∈ wsX6_isTray := zin_at 10 rfl
  have hS : va_S (zA 116 ad) s.heap s.heap [] := va_S.rf
  have hA : ∀ i, i < 116 → zA 116 ad (ad i) := fun i hi => ⟨i, hi, rfl⟩
  have hl := lv_entry ([.ref (ad 0), .int p0]) (n := 2) (Nat.le_of_ble_eq_true rfl)
  rw [lg_entry_eq]
  generalize (lg_sl ([.ref (ad 0), .int p0]) ++ List.replicate (2 - (lg_sl ([.ref (ad 0), .int p0])).length) Slot.unset).toArray = ls at hl ⊢
  have hl : lv_has ls 2 [(0, .ref (ad 0)), (1, .int p0)] := hl
  show W p l e ({ frames := 1, cells := 0, slots := 0, locals := 22 } : Room) s m ([.ref (ad 0), .int p0] : List Value).toArray below meth c s.heap [] 0 0 (MQ below (va_Qi Q (zB D 116 (zce cy ad) ad) (zA 116 ad)) ([.ref (ad 0), .int p0] : List Value).toArray s 0 0 (zA 116 ad)) (F0 m 0 ls [])
  unfold wp_X6_isTray at h
  refine lv_iload_n hx hb dX6_isTray_0 rfl (lv_at hl 1 rfl) ?_
  refine lv_iconst (v := (jI 0)) hx hb dX6_isTray_1 rfl ?_
  refine lv_aload_n hx hb dX6_isTray_2 rfl (lv_at hl 0 rfl) ?_
  refine zget hx hb hts inX6 hown hK hw 0 (by decide) rfl rfl 0 (by decide) lk0 (fun _ h9 => h9) rfl dX6_isTray_3 ?_
  refine zgetN (own := RX6) (index := 187) (host := "TypeTrays") hx hb hts inX4 hown hK hw 5 (by decide) rfl rfl 11 (by decide) (by decide +kernel) (fun _ h9 => h9) rfl dX6_isTray_6 ?_
  refine lv_iconst (v := (jI 1)) hx hb dX6_isTray_9 rfl ?_
  refine lv_isub hx hb dX6_isTray_10 ?_
  refine k_X6_isBetween (rest := []) hx hb hml hown hts gX6_isTray_X6_isBetween ⟨Nat.le_of_ble_eq_true rfl, Nat.le_of_ble_eq_true rfl⟩ ⟨Nat.zero_le _, Nat.zero_le _⟩ hK hj hw hA hS hl.1 (Nat.le_of_ble_eq_true rfl) dX6_isTray_11 h (fun r1 s1 H locs h hw hS => ?_)
  exact W.zret (v := r1) (ty := .boolean) hx hb hr h.1 (fun t ht hW => ⟨⟨_, _, rfl, h.2, zend hw ht⟩, hS.F ht⟩) hS.2.2 dX6_isTray_14
theorem k_X6_isTray {p : Program} {l : Launch} {e : Env} {R : Room} {s : State} {m : MethodId} {args : Array Value} {below : List Frame} {meth : Method} {c : Code} {H : Heap} {locs : List Loc} {cells slots : Nat} {QQ : State → Prop} {cc : ByteArray} {pc nL index : Nat} {ls : Array Slot} {rest : List Value} {D : va_G} {cy : cyT} {ad : Nat → Nat} {own : String} {Ts : List Cond} {H0 : Heap} {σ : ST} {p0 : Int32} {Q : Int32 → ST → Prop} (hx : p.tables.exec = Jvm.exec) (hb : c.code = cc) (hml : c.maxLocals = nL) (hown : s.vm.findClass own = some m.cls) (hts : ∀ w ∈ Ts, w.before args s = true) (hG : GoodIn Ts (wsV own index RX6 yX6_isTray wsX6_isTray)) (hR : 1 + 1 ≤ R.frames ∧ 8 + (2 + 11) + 22 ≤ R.locals) (hcs : cells ≤ R.cells ∧ slots ≤ R.slots) (hK : zK D cy s) (hj : zI 116 ad) (hw : zW D 116 (zce cy ad σ) ad H) {A0 : Nat → Prop} (hA : ∀ i, i < 116 → A0 (ad i)) (hS : va_S A0 H0 H locs) (hsz : ls.size = nL) (hrest : (rest.map fun v => v.category).sum ≤ 8) (hdg : decode cc pc = .ok (.invokevirtual index, 3)) (h : wp_X6_isTray σ p0 Q) (kk : ∀ (r : Int32) (σ : ST) (H : Heap) (locs : List Loc), Q r σ → zW D 116 (zce cy ad σ) ad H → va_S A0 H0 H locs → W p l e R s m args below meth c H locs cells slots QQ (F0 m (pc + 3) ls (.int r :: rest))) : W p l e R s m args below meth c H locs cells slots QQ (F0 m pc ls (.int p0 :: .ref (ad 0) :: rest)) :=
  zcalli (va_runV (As := [.int p0]) (rest := rest) ⟨hx, hb, hml, hown, hts⟩ (c_X6_isTray l D cy ad σ p0 h) (cwV 1 hts hG rfl rfl rfl (by decide +kernel) hR) (zpreV hj hK hw _ (i := 0) (ci := 5) (by decide) rfl rfl) rfl rfl hsz rfl (lv_room hrest) hdg hcs) hA hS kk
set_option maxHeartbeats 4000000 in
set_option maxRecDepth 100000 in
theorem c_X6_isShelf (l : Launch) (D : va_G) (cy : cyT) (ad : Nat → Nat) (σ : ST) (p0 : Int32) (p1 : Int32) {Q : Int32 → ST → Prop} (h : wp_X6_isShelf σ p0 p1 Q) : Met l yX6_isShelf wsX6_isShelf ({ frames := 2, cells := 0, slots := 0, locals := 44 } : Room) (zPre D cy 116 (zce cy ad σ) ad [.ref (ad 0), .int p0, .int p1]) (va_Qi Q (zB D 116 (zce cy ad) ad) (zA 116 ad)) 0 0 (zA 116 ad) := by
  refine Met.ofW (cc := cX6_isShelf) (maxL := 3) (ret := (some .boolean)) (by decide) rfl ?_
  intro p e s m args below meth c s₁ B hml hv
  obtain ⟨rfl, hj, hK, hw⟩ := hv
  have hx := B.exec
  have hb := B.bytes
  have hr := B.returns
  have hts := atoms_spec (ws := wsX6_isShelf) B.pre
  have hown : s.vm.findClass RX6 = some m.cls := findClass_of_methodNamed B.named
  have hlocks := B.notSynchronized
  have lk0 : Cond.fieldLink RX6 12 "TypeTrays" "state" "LTypeTrays$State;" ∈ wsX6_isShelf := List.mem_of_getElem? (i := 1) rfl
  have inX6 : ∀ w ∈ u_ws RX6 TX6 4, w ∈ wsX6_isShelf := zin_at 18 rfl
  have hS : va_S (zA 116 ad) s.heap s.heap [] := va_S.rf
  have hA : ∀ i, i < 116 → zA 116 ad (ad i) := fun i hi => ⟨i, hi, rfl⟩
  have hl := lv_entry ([.ref (ad 0), .int p0, .int p1]) (n := 3) (Nat.le_of_ble_eq_true rfl)
  rw [lg_entry_eq]
  generalize (lg_sl ([.ref (ad 0), .int p0, .int p1]) ++ List.replicate (3 - (lg_sl ([.ref (ad 0), .int p0, .int p1])).length) Slot.unset).toArray = ls at hl ⊢
  have hl : lv_has ls 3 [(0, .ref (ad 0)), (1, .int p0), (2, .int p1)] := hl
  show W p l e ({ frames := 2, cells := 0, slots := 0, locals := 44 } : Room) s m ([.ref (ad 0), .int p0, .int p1] : List Value).toArray below meth c s.heap [] 0 0 (MQ below (va_Qi Q (zB D 116 (zce cy ad) ad) (zA 116 ad)) ([.ref (ad 0), .int p0, .int p1] : List Value).toArray s 0 0 (zA 116 ad)) (F0 m 0 ls [])
  unfold wp_X6_isShelf at h
  refine lv_iload_n hx hb dX6_isShelf_0 rfl (lv_at hl 2 rfl) ?_
  refine lv_iconst (v := (jI 0)) hx hb dX6_isShelf_1 rfl ?_
  refine lv_aload_n hx hb dX6_isShelf_2 rfl (lv_at hl 0 rfl) ?_
  refine zget hx hb hts inX6 hown hK hw 0 (by decide) rfl rfl 0 (by decide) lk0 (fun _ h9 => h9) rfl dX6_isShelf_3 ?_
  refine lv_iload_n hx hb dX6_isShelf_6 rfl (lv_at hl 1 rfl) ?_
  refine k_X4_countShelves (rest := [.int (jI 0), .int p1]) hx hb hml hown hts gX6_isShelf_X4_countShelves ⟨Nat.le_of_ble_eq_true rfl, Nat.le_of_ble_eq_true rfl⟩ ⟨Nat.zero_le _, Nat.zero_le _⟩ hK hj hw hA hS hl.1 (Nat.le_of_ble_eq_true rfl) dX6_isShelf_7 h (fun r1 s1 H locs h hw hS => ?_)
  refine lv_iconst (v := (jI 1)) hx hb dX6_isShelf_10 rfl ?_
  refine lv_isub hx hb dX6_isShelf_11 ?_
  refine k_X6_isBetween (rest := []) hx hb hml hown hts gX6_isShelf_X6_isBetween ⟨Nat.le_of_ble_eq_true rfl, Nat.le_of_ble_eq_true rfl⟩ ⟨Nat.zero_le _, Nat.zero_le _⟩ hK hj hw hA hS hl.1 (Nat.le_of_ble_eq_true rfl) dX6_isShelf_12 h (fun r2 s2 H locs h hw hS => ?_)
  exact W.zret (v := r2) (ty := .boolean) hx hb hr h.1 (fun t ht hW => ⟨⟨_, _, rfl, h.2, zend hw ht⟩, hS.F ht⟩) hS.2.2 dX6_isShelf_15
theorem k_X6_isShelf {p : Program} {l : Launch} {e : Env} {R : Room} {s : State} {m : MethodId} {args : Array Value} {below : List Frame} {meth : Method} {c : Code} {H : Heap} {locs : List Loc} {cells slots : Nat} {QQ : State → Prop} {cc : ByteArray} {pc nL index : Nat} {ls : Array Slot} {rest : List Value} {D : va_G} {cy : cyT} {ad : Nat → Nat} {own : String} {Ts : List Cond} {H0 : Heap} {σ : ST} {p0 : Int32} {p1 : Int32} {Q : Int32 → ST → Prop} (hx : p.tables.exec = Jvm.exec) (hb : c.code = cc) (hml : c.maxLocals = nL) (hown : s.vm.findClass own = some m.cls) (hts : ∀ w ∈ Ts, w.before args s = true) (hG : GoodIn Ts (wsV own index RX6 yX6_isShelf wsX6_isShelf)) (hR : 2 + 1 ≤ R.frames ∧ 8 + (3 + 11) + 44 ≤ R.locals) (hcs : cells ≤ R.cells ∧ slots ≤ R.slots) (hK : zK D cy s) (hj : zI 116 ad) (hw : zW D 116 (zce cy ad σ) ad H) {A0 : Nat → Prop} (hA : ∀ i, i < 116 → A0 (ad i)) (hS : va_S A0 H0 H locs) (hsz : ls.size = nL) (hrest : (rest.map fun v => v.category).sum ≤ 8) (hdg : decode cc pc = .ok (.invokevirtual index, 3)) (h : wp_X6_isShelf σ p0 p1 Q) (kk : ∀ (r : Int32) (σ : ST) (H : Heap) (locs : List Loc), Q r σ → zW D 116 (zce cy ad σ) ad H → va_S A0 H0 H locs → W p l e R s m args below meth c H locs cells slots QQ (F0 m (pc + 3) ls (.int r :: rest))) : W p l e R s m args below meth c H locs cells slots QQ (F0 m pc ls (.int p1 :: .int p0 :: .ref (ad 0) :: rest)) :=
  zcalli (va_runV (As := [.int p0, .int p1]) (rest := rest) ⟨hx, hb, hml, hown, hts⟩ (c_X6_isShelf l D cy ad σ p0 p1 h) (cwV 2 hts hG rfl rfl rfl (by decide +kernel) hR) (zpreV hj hK hw _ (i := 0) (ci := 5) (by decide) rfl rfl) rfl rfl hsz rfl (lv_room hrest) hdg hcs) hA hS kk
set_option maxHeartbeats 4000000 in
set_option maxRecDepth 100000 in
theorem c_X6_codeOf (l : Launch) (D : va_G) (cy : cyT) (ad : Nat → Nat) (σ : ST) (p0 : Int32) {Q : Int32 → ST → Prop} (h : wp_X6_codeOf σ p0 Q) : Met l yX6_codeOf wsX6_codeOf ({ frames := 1, cells := 0, slots := 0, locals := 20 } : Room) (zPre D cy 116 (zce cy ad σ) ad [.int p0]) (va_Qi Q (zB D 116 (zce cy ad) ad) (zA 116 ad)) 0 0 (zA 116 ad) := by
  refine Met.ofW (cc := cX6_codeOf) (maxL := 1) (ret := (some .int)) (by decide) rfl ?_
  intro p e s m args below meth c s₁ B hml hv
  obtain ⟨rfl, hj, hK, hw⟩ := hv
  have hx := B.exec
  have hb := B.bytes
  have hr := B.returns
  have hts := atoms_spec (ws := wsX6_codeOf) B.pre
  have hown : s.vm.findClass RX6 = some m.cls := findClass_of_methodNamed B.named
  have hlocks := B.notSynchronized
  have hS : va_S (zA 116 ad) s.heap s.heap [] := va_S.rf
  have hA : ∀ i, i < 116 → zA 116 ad (ad i) := fun i hi => ⟨i, hi, rfl⟩
  have hl := lv_entry ([.int p0]) (n := 1) (Nat.le_of_ble_eq_true rfl)
  rw [lg_entry_eq]
  generalize (lg_sl ([.int p0]) ++ List.replicate (1 - (lg_sl ([.int p0])).length) Slot.unset).toArray = ls at hl ⊢
  have hl : lv_has ls 1 [(0, .int p0)] := hl
  show W p l e ({ frames := 1, cells := 0, slots := 0, locals := 20 } : Room) s m ([.int p0] : List Value).toArray below meth c s.heap [] 0 0 (MQ below (va_Qi Q (zB D 116 (zce cy ad) ad) (zA 116 ad)) ([.int p0] : List Value).toArray s 0 0 (zA 116 ad)) (F0 m 0 ls [])
  unfold wp_X6_codeOf at h
  refine lv_iload_n hx hb dX6_codeOf_0 rfl (lv_at hl 0 rfl) ?_
  refine lv_iconst (v := (jI (-1))) hx hb dX6_codeOf_1 rfl ?_
  refine lv_icmp_ne (tgt := 9) hx hb dX6_codeOf_2 (by decide) (fun c1 => ?_) (fun c1 => ?_)
  · have h := h.2 c1
    refine lv_bipush (v := (jI 100)) hx hb dX6_codeOf_9 (by decide +kernel) ?_
    refine lv_iload_n hx hb dX6_codeOf_11 rfl (lv_at hl 0 rfl) ?_
    refine k_X6_signOf (rest := [.int (jI 100)]) hx hb hml hown hts gX6_codeOf_X6_signOf ⟨Nat.le_of_ble_eq_true rfl, Nat.le_of_ble_eq_true rfl⟩ ⟨Nat.zero_le _, Nat.zero_le _⟩ hK hj hw hA hS hl.1 (Nat.le_of_ble_eq_true rfl) dX6_codeOf_12 h (fun r1 s1 H locs h hw hS => ?_)
    refine lv_imul hx hb dX6_codeOf_15 ?_
    refine lv_bipush (v := (jI 10)) hx hb dX6_codeOf_16 (by decide +kernel) ?_
    refine lv_iload_n hx hb dX6_codeOf_18 rfl (lv_at hl 0 rfl) ?_
    refine k_X6_sizeOf (rest := [.int (jI 10), .int ((jI 100) * r1)]) hx hb hml hown hts gX6_codeOf_X6_sizeOf ⟨Nat.le_of_ble_eq_true rfl, Nat.le_of_ble_eq_true rfl⟩ ⟨Nat.zero_le _, Nat.zero_le _⟩ hK hj hw hA hS hl.1 (Nat.le_of_ble_eq_true rfl) dX6_codeOf_19 h (fun r2 s2 H locs h hw hS => ?_)
    refine lv_imul hx hb dX6_codeOf_22 ?_
    refine lv_iadd hx hb dX6_codeOf_23 ?_
    refine lv_iload_n hx hb dX6_codeOf_24 rfl (lv_at hl 0 rfl) ?_
    refine k_X6_blurOf (rest := [.int (((jI 100) * r1) + ((jI 10) * r2))]) hx hb hml hown hts gX6_codeOf_X6_blurOf ⟨Nat.le_of_ble_eq_true rfl, Nat.le_of_ble_eq_true rfl⟩ ⟨Nat.zero_le _, Nat.zero_le _⟩ hK hj hw hA hS hl.1 (Nat.le_of_ble_eq_true rfl) dX6_codeOf_25 h (fun r3 s3 H locs h hw hS => ?_)
    refine lv_iadd hx hb dX6_codeOf_28 ?_
    exact W.iret (v := ((((jI 100) * r1) + ((jI 10) * r2)) + r3)) hx hb hr (fun t ht hW => ⟨⟨_, _, rfl, h, zend hw ht⟩, hS.F ht⟩) hS.2.2 dX6_codeOf_29
  · have h := h.1 c1
    refine lv_iconst (v := (jI (-1))) hx hb dX6_codeOf_5 rfl ?_
    refine lv_goto (tgt := 29) hx hb dX6_codeOf_6 (by decide) ?_
    exact W.iret (v := (jI (-1))) hx hb hr (fun t ht hW => ⟨⟨_, _, rfl, h, zend hw ht⟩, hS.F ht⟩) hS.2.2 dX6_codeOf_29
theorem k_X6_codeOf {p : Program} {l : Launch} {e : Env} {R : Room} {s : State} {m : MethodId} {args : Array Value} {below : List Frame} {meth : Method} {c : Code} {H : Heap} {locs : List Loc} {cells slots : Nat} {QQ : State → Prop} {cc : ByteArray} {pc nL index : Nat} {ls : Array Slot} {rest : List Value} {D : va_G} {cy : cyT} {ad : Nat → Nat} {own : String} {Ts : List Cond} {H0 : Heap} {σ : ST} {p0 : Int32} {Q : Int32 → ST → Prop} (hx : p.tables.exec = Jvm.exec) (hb : c.code = cc) (hml : c.maxLocals = nL) (hown : s.vm.findClass own = some m.cls) (hts : ∀ w ∈ Ts, w.before args s = true) (hG : GoodIn Ts (va_wsS own index yX6_codeOf wsX6_codeOf)) (hR : 1 + 1 ≤ R.frames ∧ 8 + (1 + 11) + 20 ≤ R.locals) (hcs : cells ≤ R.cells ∧ slots ≤ R.slots) (hK : zK D cy s) (hj : zI 116 ad) (hw : zW D 116 (zce cy ad σ) ad H) {A0 : Nat → Prop} (hA : ∀ i, i < 116 → A0 (ad i)) (hS : va_S A0 H0 H locs) (hsz : ls.size = nL) (hrest : (rest.map fun v => v.category).sum ≤ 8) (hdg : decode cc pc = .ok (.invokestatic index, 3)) (h : wp_X6_codeOf σ p0 Q) (kk : ∀ (r : Int32) (σ : ST) (H : Heap) (locs : List Loc), Q r σ → zW D 116 (zce cy ad σ) ad H → va_S A0 H0 H locs → W p l e R s m args below meth c H locs cells slots QQ (F0 m (pc + 3) ls (.int r :: rest))) : W p l e R s m args below meth c H locs cells slots QQ (F0 m pc ls (.int p0 :: rest)) :=
  zcalli (va_runS (As := [.int p0]) (rest := rest) ⟨hx, hb, hml, hown, hts⟩ (c_X6_codeOf l D cy ad σ p0 h) (va_cwS 1 hts hG rfl rfl rfl (by decide +kernel) hR) (zpreS hj hK hw _) rfl rfl hsz rfl (lv_room hrest) hdg hcs) hA hS kk
set_option maxHeartbeats 4000000 in
set_option maxRecDepth 100000 in
theorem c_X6_oldest (l : Launch) (D : va_G) (cy : cyT) (ad : Nat → Nat) (σ : ST) {Q : Int32 → ST → Prop} (h : wp_X6_oldest σ Q) : Met l yX6_oldest wsX6_oldest ({ frames := 3, cells := 0, slots := 0, locals := 66 } : Room) (zPre D cy 116 (zce cy ad σ) ad [.ref (ad 0)]) (va_Qi Q (zB D 116 (zce cy ad) ad) (zA 116 ad)) 0 0 (zA 116 ad) := by
  refine Met.ofW (cc := cX6_oldest) (maxL := 1) (ret := (some .int)) (by decide) rfl ?_
  intro p e s m args below meth c s₁ B hml hv
  obtain ⟨rfl, hj, hK, hw⟩ := hv
  have hx := B.exec
  have hb := B.bytes
  have hr := B.returns
  have hts := atoms_spec (ws := wsX6_oldest) B.pre
  have hown : s.vm.findClass RX6 = some m.cls := findClass_of_methodNamed B.named
  have hlocks := B.notSynchronized
  have lk0 : Cond.fieldLink RX6 12 "TypeTrays" "state" "LTypeTrays$State;" ∈ wsX6_oldest := List.mem_of_getElem? (i := 1) rfl
  have inX6 : ∀ w ∈ u_ws RX6 TX6 4, w ∈ wsX6_oldest := zin_at 33 rfl
  have hS : va_S (zA 116 ad) s.heap s.heap [] := va_S.rf
  have hA : ∀ i, i < 116 → zA 116 ad (ad i) := fun i hi => ⟨i, hi, rfl⟩
  have hl := lv_entry ([.ref (ad 0)]) (n := 1) (Nat.le_of_ble_eq_true rfl)
  rw [lg_entry_eq]
  generalize (lg_sl ([.ref (ad 0)]) ++ List.replicate (1 - (lg_sl ([.ref (ad 0)])).length) Slot.unset).toArray = ls at hl ⊢
  have hl : lv_has ls 1 [(0, .ref (ad 0))] := hl
  show W p l e ({ frames := 3, cells := 0, slots := 0, locals := 66 } : Room) s m ([.ref (ad 0)] : List Value).toArray below meth c s.heap [] 0 0 (MQ below (va_Qi Q (zB D 116 (zce cy ad) ad) (zA 116 ad)) ([.ref (ad 0)] : List Value).toArray s 0 0 (zA 116 ad)) (F0 m 0 ls [])
  unfold wp_X6_oldest at h
  refine lv_aload_n hx hb dX6_oldest_0 rfl (lv_at hl 0 rfl) ?_
  refine zget hx hb hts inX6 hown hK hw 0 (by decide) rfl rfl 0 (by decide) lk0 (fun _ h9 => h9) rfl dX6_oldest_1 ?_
  refine k_X4_oldestLetter (rest := []) hx hb hml hown hts gX6_oldest_X4_oldestLetter ⟨Nat.le_of_ble_eq_true rfl, Nat.le_of_ble_eq_true rfl⟩ ⟨Nat.zero_le _, Nat.zero_le _⟩ hK hj hw hA hS hl.1 (Nat.le_of_ble_eq_true rfl) dX6_oldest_4 h (fun r1 s1 H locs h hw hS => ?_)
  refine k_X6_codeOf (rest := []) hx hb hml hown hts gX6_oldest_X6_codeOf ⟨Nat.le_of_ble_eq_true rfl, Nat.le_of_ble_eq_true rfl⟩ ⟨Nat.zero_le _, Nat.zero_le _⟩ hK hj hw hA hS hl.1 (Nat.le_of_ble_eq_true rfl) dX6_oldest_7 h (fun r2 s2 H locs h hw hS => ?_)
  exact W.iret (v := r2) hx hb hr (fun t ht hW => ⟨⟨_, _, rfl, h, zend hw ht⟩, hS.F ht⟩) hS.2.2 dX6_oldest_10
theorem k_X6_oldest {p : Program} {l : Launch} {e : Env} {R : Room} {s : State} {m : MethodId} {args : Array Value} {below : List Frame} {meth : Method} {c : Code} {H : Heap} {locs : List Loc} {cells slots : Nat} {QQ : State → Prop} {cc : ByteArray} {pc nL index : Nat} {ls : Array Slot} {rest : List Value} {D : va_G} {cy : cyT} {ad : Nat → Nat} {own : String} {Ts : List Cond} {H0 : Heap} {σ : ST}  {Q : Int32 → ST → Prop} (hx : p.tables.exec = Jvm.exec) (hb : c.code = cc) (hml : c.maxLocals = nL) (hown : s.vm.findClass own = some m.cls) (hts : ∀ w ∈ Ts, w.before args s = true) (hG : GoodIn Ts (wsV own index RX6 yX6_oldest wsX6_oldest)) (hR : 3 + 1 ≤ R.frames ∧ 8 + (1 + 11) + 66 ≤ R.locals) (hcs : cells ≤ R.cells ∧ slots ≤ R.slots) (hK : zK D cy s) (hj : zI 116 ad) (hw : zW D 116 (zce cy ad σ) ad H) {A0 : Nat → Prop} (hA : ∀ i, i < 116 → A0 (ad i)) (hS : va_S A0 H0 H locs) (hsz : ls.size = nL) (hrest : (rest.map fun v => v.category).sum ≤ 8) (hdg : decode cc pc = .ok (.invokevirtual index, 3)) (h : wp_X6_oldest σ  Q) (kk : ∀ (r : Int32) (σ : ST) (H : Heap) (locs : List Loc), Q r σ → zW D 116 (zce cy ad σ) ad H → va_S A0 H0 H locs → W p l e R s m args below meth c H locs cells slots QQ (F0 m (pc + 3) ls (.int r :: rest))) : W p l e R s m args below meth c H locs cells slots QQ (F0 m pc ls (.ref (ad 0) :: rest)) :=
  zcalli (va_runV (As := []) (rest := rest) ⟨hx, hb, hml, hown, hts⟩ (c_X6_oldest l D cy ad σ  h) (cwV 0 hts hG rfl rfl rfl (by decide +kernel) hR) (zpreV hj hK hw _ (i := 0) (ci := 5) (by decide) rfl rfl) rfl rfl hsz rfl (lv_room hrest) hdg hcs) hA hS kk
set_option maxHeartbeats 4000000 in
set_option maxRecDepth 100000 in
theorem c_X6_greatestGap (l : Launch) (D : va_G) (cy : cyT) (ad : Nat → Nat) (σ : ST) {Q : Int32 → ST → Prop} (h : wp_X6_greatestGap σ Q) : Met l yX6_greatestGap wsX6_greatestGap ({ frames := 3, cells := 0, slots := 0, locals := 68 } : Room) (zPre D cy 116 (zce cy ad σ) ad [.ref (ad 0)]) (va_Qi Q (zB D 116 (zce cy ad) ad) (zA 116 ad)) 0 0 (zA 116 ad) := by
  refine Met.ofW (cc := cX6_greatestGap) (maxL := 1) (ret := (some .int)) (by decide) rfl ?_
  intro p e s m args below meth c s₁ B hml hv
  obtain ⟨rfl, hj, hK, hw⟩ := hv
  have hx := B.exec
  have hb := B.bytes
  have hr := B.returns
  have hts := atoms_spec (ws := wsX6_greatestGap) B.pre
  have hown : s.vm.findClass RX6 = some m.cls := findClass_of_methodNamed B.named
  have hlocks := B.notSynchronized
  have lk0 : Cond.fieldLink RX6 12 "TypeTrays" "state" "LTypeTrays$State;" ∈ wsX6_greatestGap := List.mem_of_getElem? (i := 1) rfl
  have inX6 : ∀ w ∈ u_ws RX6 TX6 4, w ∈ wsX6_greatestGap := zin_at 35 rfl
  have hS : va_S (zA 116 ad) s.heap s.heap [] := va_S.rf
  have hA : ∀ i, i < 116 → zA 116 ad (ad i) := fun i hi => ⟨i, hi, rfl⟩
  have hl := lv_entry ([.ref (ad 0)]) (n := 1) (Nat.le_of_ble_eq_true rfl)
  rw [lg_entry_eq]
  generalize (lg_sl ([.ref (ad 0)]) ++ List.replicate (1 - (lg_sl ([.ref (ad 0)])).length) Slot.unset).toArray = ls at hl ⊢
  have hl : lv_has ls 1 [(0, .ref (ad 0))] := hl
  show W p l e ({ frames := 3, cells := 0, slots := 0, locals := 68 } : Room) s m ([.ref (ad 0)] : List Value).toArray below meth c s.heap [] 0 0 (MQ below (va_Qi Q (zB D 116 (zce cy ad) ad) (zA 116 ad)) ([.ref (ad 0)] : List Value).toArray s 0 0 (zA 116 ad)) (F0 m 0 ls [])
  unfold wp_X6_greatestGap at h
  refine lv_aload_n hx hb dX6_greatestGap_0 rfl (lv_at hl 0 rfl) ?_
  refine zget hx hb hts inX6 hown hK hw 0 (by decide) rfl rfl 0 (by decide) lk0 (fun _ h9 => h9) rfl dX6_greatestGap_1 ?_
  refine k_X4_greatestGapArea (rest := []) hx hb hml hown hts gX6_greatestGap_X4_greatestGapArea ⟨Nat.le_of_ble_eq_true rfl, Nat.le_of_ble_eq_true rfl⟩ ⟨Nat.zero_le _, Nat.zero_le _⟩ hK hj hw hA hS hl.1 (Nat.le_of_ble_eq_true rfl) dX6_greatestGap_4 h (fun r1 s1 H locs h hw hS => ?_)
  exact W.iret (v := r1) hx hb hr (fun t ht hW => ⟨⟨_, _, rfl, h, zend hw ht⟩, hS.F ht⟩) hS.2.2 dX6_greatestGap_7
theorem k_X6_greatestGap {p : Program} {l : Launch} {e : Env} {R : Room} {s : State} {m : MethodId} {args : Array Value} {below : List Frame} {meth : Method} {c : Code} {H : Heap} {locs : List Loc} {cells slots : Nat} {QQ : State → Prop} {cc : ByteArray} {pc nL index : Nat} {ls : Array Slot} {rest : List Value} {D : va_G} {cy : cyT} {ad : Nat → Nat} {own : String} {Ts : List Cond} {H0 : Heap} {σ : ST}  {Q : Int32 → ST → Prop} (hx : p.tables.exec = Jvm.exec) (hb : c.code = cc) (hml : c.maxLocals = nL) (hown : s.vm.findClass own = some m.cls) (hts : ∀ w ∈ Ts, w.before args s = true) (hG : GoodIn Ts (wsV own index RX6 yX6_greatestGap wsX6_greatestGap)) (hR : 3 + 1 ≤ R.frames ∧ 8 + (1 + 11) + 68 ≤ R.locals) (hcs : cells ≤ R.cells ∧ slots ≤ R.slots) (hK : zK D cy s) (hj : zI 116 ad) (hw : zW D 116 (zce cy ad σ) ad H) {A0 : Nat → Prop} (hA : ∀ i, i < 116 → A0 (ad i)) (hS : va_S A0 H0 H locs) (hsz : ls.size = nL) (hrest : (rest.map fun v => v.category).sum ≤ 8) (hdg : decode cc pc = .ok (.invokevirtual index, 3)) (h : wp_X6_greatestGap σ  Q) (kk : ∀ (r : Int32) (σ : ST) (H : Heap) (locs : List Loc), Q r σ → zW D 116 (zce cy ad σ) ad H → va_S A0 H0 H locs → W p l e R s m args below meth c H locs cells slots QQ (F0 m (pc + 3) ls (.int r :: rest))) : W p l e R s m args below meth c H locs cells slots QQ (F0 m pc ls (.ref (ad 0) :: rest)) :=
  zcalli (va_runV (As := []) (rest := rest) ⟨hx, hb, hml, hown, hts⟩ (c_X6_greatestGap l D cy ad σ  h) (cwV 0 hts hG rfl rfl rfl (by decide +kernel) hR) (zpreV hj hK hw _ (i := 0) (ci := 5) (by decide) rfl rfl) rfl rfl hsz rfl (lv_room hrest) hdg hcs) hA hS kk
set_option maxHeartbeats 4000000 in
set_option maxRecDepth 100000 in
theorem c_X6_clearCommands (l : Launch) (D : va_G) (cy : cyT) (ad : Nat → Nat) (σ : ST) {Q : Int32 → ST → Prop} (h : wp_X6_clearCommands σ Q) : Met l yX6_clearCommands wsX6_clearCommands ({ frames := 1, cells := 0, slots := 0, locals := 21 } : Room) (zPre D cy 116 (zce cy ad σ) ad [.ref (ad 0)]) (va_Qi Q (zB D 116 (zce cy ad) ad) (zA 116 ad)) 0 0 (zA 116 ad) := by
  refine Met.ofW (cc := cX6_clearCommands) (maxL := 1) (ret := (some .int)) (by decide) rfl ?_
  intro p e s m args below meth c s₁ B hml hv
  obtain ⟨rfl, hj, hK, hw⟩ := hv
  have hx := B.exec
  have hb := B.bytes
  have hr := B.returns
  have hts := atoms_spec (ws := wsX6_clearCommands) B.pre
  have hown : s.vm.findClass RX6 = some m.cls := findClass_of_methodNamed B.named
  have hlocks := B.notSynchronized
  have lk0 : Cond.fieldLink RX6 26 "TypeTrays" "commands" "LTypeTrays$Commands;" ∈ wsX6_clearCommands := List.mem_of_getElem? (i := 1) rfl
  have inX6 : ∀ w ∈ u_ws RX6 TX6 4, w ∈ wsX6_clearCommands := zin_at 8 rfl
  have hS : va_S (zA 116 ad) s.heap s.heap [] := va_S.rf
  have hA : ∀ i, i < 116 → zA 116 ad (ad i) := fun i hi => ⟨i, hi, rfl⟩
  have hl := lv_entry ([.ref (ad 0)]) (n := 1) (Nat.le_of_ble_eq_true rfl)
  rw [lg_entry_eq]
  generalize (lg_sl ([.ref (ad 0)]) ++ List.replicate (1 - (lg_sl ([.ref (ad 0)])).length) Slot.unset).toArray = ls at hl ⊢
  have hl : lv_has ls 1 [(0, .ref (ad 0))] := hl
  show W p l e ({ frames := 1, cells := 0, slots := 0, locals := 21 } : Room) s m ([.ref (ad 0)] : List Value).toArray below meth c s.heap [] 0 0 (MQ below (va_Qi Q (zB D 116 (zce cy ad) ad) (zA 116 ad)) ([.ref (ad 0)] : List Value).toArray s 0 0 (zA 116 ad)) (F0 m 0 ls [])
  unfold wp_X6_clearCommands at h
  refine lv_aload_n hx hb dX6_clearCommands_0 rfl (lv_at hl 0 rfl) ?_
  refine zget hx hb hts inX6 hown hK hw 0 (by decide) rfl rfl 2 (by decide) lk0 (fun _ h9 => h9) rfl dX6_clearCommands_1 ?_
  refine k_X0_empty (rest := []) hx hb hml hown hts gX6_clearCommands_X0_empty ⟨Nat.le_of_ble_eq_true rfl, Nat.le_of_ble_eq_true rfl⟩ ⟨Nat.zero_le _, Nat.zero_le _⟩ hK hj hw hA hS hl.1 (Nat.le_of_ble_eq_true rfl) dX6_clearCommands_4 h (fun r1 s1 H locs h hw hS => ?_)
  exact W.iret (v := r1) hx hb hr (fun t ht hW => ⟨⟨_, _, rfl, h, zend hw ht⟩, hS.F ht⟩) hS.2.2 dX6_clearCommands_7
theorem k_X6_clearCommands {p : Program} {l : Launch} {e : Env} {R : Room} {s : State} {m : MethodId} {args : Array Value} {below : List Frame} {meth : Method} {c : Code} {H : Heap} {locs : List Loc} {cells slots : Nat} {QQ : State → Prop} {cc : ByteArray} {pc nL index : Nat} {ls : Array Slot} {rest : List Value} {D : va_G} {cy : cyT} {ad : Nat → Nat} {own : String} {Ts : List Cond} {H0 : Heap} {σ : ST}  {Q : Int32 → ST → Prop} (hx : p.tables.exec = Jvm.exec) (hb : c.code = cc) (hml : c.maxLocals = nL) (hown : s.vm.findClass own = some m.cls) (hts : ∀ w ∈ Ts, w.before args s = true) (hG : GoodIn Ts (wsV own index RX6 yX6_clearCommands wsX6_clearCommands)) (hR : 1 + 1 ≤ R.frames ∧ 8 + (1 + 11) + 21 ≤ R.locals) (hcs : cells ≤ R.cells ∧ slots ≤ R.slots) (hK : zK D cy s) (hj : zI 116 ad) (hw : zW D 116 (zce cy ad σ) ad H) {A0 : Nat → Prop} (hA : ∀ i, i < 116 → A0 (ad i)) (hS : va_S A0 H0 H locs) (hsz : ls.size = nL) (hrest : (rest.map fun v => v.category).sum ≤ 8) (hdg : decode cc pc = .ok (.invokevirtual index, 3)) (h : wp_X6_clearCommands σ  Q) (kk : ∀ (r : Int32) (σ : ST) (H : Heap) (locs : List Loc), Q r σ → zW D 116 (zce cy ad σ) ad H → va_S A0 H0 H locs → W p l e R s m args below meth c H locs cells slots QQ (F0 m (pc + 3) ls (.int r :: rest))) : W p l e R s m args below meth c H locs cells slots QQ (F0 m pc ls (.ref (ad 0) :: rest)) :=
  zcalli (va_runV (As := []) (rest := rest) ⟨hx, hb, hml, hown, hts⟩ (c_X6_clearCommands l D cy ad σ  h) (cwV 0 hts hG rfl rfl rfl (by decide +kernel) hR) (zpreV hj hK hw _ (i := 0) (ci := 5) (by decide) rfl rfl) rfl rfl hsz rfl (lv_room hrest) hdg hcs) hA hS kk
set_option maxHeartbeats 4000000 in
set_option maxRecDepth 100000 in
theorem c_X6_carryOut (l : Launch) (D : va_G) (cy : cyT) (ad : Nat → Nat) (σ : ST) (p0 : Int32) {Q : Int32 → ST → Prop} (h : wp_X6_carryOut σ p0 Q) : Met l yX6_carryOut wsX6_carryOut ({ frames := 6, cells := 0, slots := 0, locals := 137 } : Room) (zPre D cy 116 (zce cy ad σ) ad [.ref (ad 0), .int p0]) (va_Qi Q (zB D 116 (zce cy ad) ad) (zA 116 ad)) 0 0 (zA 116 ad) := by
  refine Met.ofW (cc := cX6_carryOut) (maxL := 5) (ret := (some .boolean)) (by decide) rfl ?_
  intro p e s m args below meth c s₁ B hml hv
  obtain ⟨rfl, hj, hK, hw⟩ := hv
  have hx := B.exec
  have hb := B.bytes
  have hr := B.returns
  have hts := atoms_spec (ws := wsX6_carryOut) B.pre
  have hown : s.vm.findClass RX6 = some m.cls := findClass_of_methodNamed B.named
  have hlocks := B.notSynchronized
  have lk0 : Cond.fieldLink RX6 26 "TypeTrays" "commands" "LTypeTrays$Commands;" ∈ wsX6_carryOut := List.mem_of_getElem? (i := 1) rfl
  have lk1 : Cond.fieldLink RX6 12 "TypeTrays" "state" "LTypeTrays$State;" ∈ wsX6_carryOut := List.mem_of_getElem? (i := 2) rfl
  have lk2 : Cond.fieldLink RX6 33 "TypeTrays" "place" "LTypeTrays$Place;" ∈ wsX6_carryOut := List.mem_of_getElem? (i := 3) rfl
  have inX6 : ∀ w ∈ u_ws RX6 TX6 4, w ∈ wsX6_carryOut := zin_at 237 rfl
  have hS : va_S (zA 116 ad) s.heap s.heap [] := va_S.rf
  have hA : ∀ i, i < 116 → zA 116 ad (ad i) := fun i hi => ⟨i, hi, rfl⟩
  have hl := lv_entry ([.ref (ad 0), .int p0]) (n := 5) (Nat.le_of_ble_eq_true rfl)
  rw [lg_entry_eq]
  generalize (lg_sl ([.ref (ad 0), .int p0]) ++ List.replicate (5 - (lg_sl ([.ref (ad 0), .int p0])).length) Slot.unset).toArray = ls at hl ⊢
  have hl : lv_has ls 5 [(0, .ref (ad 0)), (1, .int p0)] := hl
  show W p l e ({ frames := 6, cells := 0, slots := 0, locals := 137 } : Room) s m ([.ref (ad 0), .int p0] : List Value).toArray below meth c s.heap [] 0 0 (MQ below (va_Qi Q (zB D 116 (zce cy ad) ad) (zA 116 ad)) ([.ref (ad 0), .int p0] : List Value).toArray s 0 0 (zA 116 ad)) (F0 m 0 ls [])
  unfold wp_X6_carryOut at h
  refine lv_aload_n hx hb dX6_carryOut_0 rfl (lv_at hl 0 rfl) ?_
  refine zget hx hb hts inX6 hown hK hw 0 (by decide) rfl rfl 2 (by decide) lk0 (fun _ h9 => h9) rfl dX6_carryOut_1 ?_
  refine lv_iload_n hx hb dX6_carryOut_4 rfl (lv_at hl 1 rfl) ?_
  refine lv_iconst (v := (jI 0)) hx hb dX6_carryOut_5 rfl ?_
  refine k_X0_numberOf (rest := []) hx hb hml hown hts gX6_carryOut_X0_numberOf ⟨Nat.le_of_ble_eq_true rfl, Nat.le_of_ble_eq_true rfl⟩ ⟨Nat.zero_le _, Nat.zero_le _⟩ hK hj hw hA hS hl.1 (Nat.le_of_ble_eq_true rfl) dX6_carryOut_6 h (fun r1 s1 H locs h hw hS => ?_)
  refine lv_istore_n (lv' := [(2, .int r1), (0, .ref (ad 0)), (1, .int p0)]) hx hb dX6_carryOut_9 rfl hl (by decide) rfl (fun ls hl => ?_)
  refine lv_aload_n hx hb dX6_carryOut_10 rfl (lv_at hl 1 rfl) ?_
  refine zget hx hb hts inX6 hown hK hw 0 (by decide) rfl rfl 2 (by decide) lk0 (fun _ h9 => h9) rfl dX6_carryOut_11 ?_
  refine lv_iload_n hx hb dX6_carryOut_14 rfl (lv_at hl 2 rfl) ?_
  refine lv_iconst (v := (jI 1)) hx hb dX6_carryOut_15 rfl ?_
  refine k_X0_numberOf (rest := []) hx hb hml hown hts gX6_carryOut_X0_numberOf ⟨Nat.le_of_ble_eq_true rfl, Nat.le_of_ble_eq_true rfl⟩ ⟨Nat.zero_le _, Nat.zero_le _⟩ hK hj hw hA hS hl.1 (Nat.le_of_ble_eq_true rfl) dX6_carryOut_16 h (fun r2 s2 H locs h hw hS => ?_)
  refine lv_istore_n (lv' := [(3, .int r2), (2, .int r1), (0, .ref (ad 0)), (1, .int p0)]) hx hb dX6_carryOut_19 rfl hl (by decide) rfl (fun ls hl => ?_)
  refine lv_aload_n hx hb dX6_carryOut_20 rfl (lv_at hl 2 rfl) ?_
  refine zget hx hb hts inX6 hown hK hw 0 (by decide) rfl rfl 2 (by decide) lk0 (fun _ h9 => h9) rfl dX6_carryOut_21 ?_
  refine lv_iload_n hx hb dX6_carryOut_24 rfl (lv_at hl 3 rfl) ?_
  refine lv_iconst (v := (jI 2)) hx hb dX6_carryOut_25 rfl ?_
  refine k_X0_numberOf (rest := []) hx hb hml hown hts gX6_carryOut_X0_numberOf ⟨Nat.le_of_ble_eq_true rfl, Nat.le_of_ble_eq_true rfl⟩ ⟨Nat.zero_le _, Nat.zero_le _⟩ hK hj hw hA hS hl.1 (Nat.le_of_ble_eq_true rfl) dX6_carryOut_26 h (fun r3 s3 H locs h hw hS => ?_)
  refine lv_istore (lv' := [(4, .int r3), (3, .int r2), (2, .int r1), (0, .ref (ad 0)), (1, .int p0)]) hx hb dX6_carryOut_29 hl (by decide) rfl (fun ls hl => ?_)
  refine lv_aload_n hx hb dX6_carryOut_31 rfl (lv_at hl 3 rfl) ?_
  refine zget hx hb hts inX6 hown hK hw 0 (by decide) rfl rfl 2 (by decide) lk0 (fun _ h9 => h9) rfl dX6_carryOut_32 ?_
  refine lv_iload_n hx hb dX6_carryOut_35 rfl (lv_at hl 4 rfl) ?_
  refine k_X0_wordOf (rest := []) hx hb hml hown hts gX6_carryOut_X0_wordOf ⟨Nat.le_of_ble_eq_true rfl, Nat.le_of_ble_eq_true rfl⟩ ⟨Nat.zero_le _, Nat.zero_le _⟩ hK hj hw hA hS hl.1 (Nat.le_of_ble_eq_true rfl) dX6_carryOut_36 h (fun r4 s4 H locs h hw hS => ?_)
  rcases Classical.em (r4 = (jI 0)) with c1 | c1
  · have h := h.1 c1
    refine lv_tableIn (tgt := 76) (off := 37) hx hb dX6_carryOut_39 (by rw [c1]; decide +kernel) (by rw [c1]; decide +kernel) (by rw [c1]; decide +kernel) (by decide) ?_
    refine lv_iload_n hx hb dX6_carryOut_76 rfl (lv_at hl 2 rfl) ?_
    refine lv_iload_n hx hb dX6_carryOut_77 rfl (lv_at hl 1 rfl) ?_
    refine lv_iload hx hb dX6_carryOut_78 (lv_at hl 0 rfl) ?_
    refine k_X6_faultOfCut (rest := []) hx hb hml hown hts gX6_carryOut_X6_faultOfCut ⟨Nat.le_of_ble_eq_true rfl, Nat.le_of_ble_eq_true rfl⟩ ⟨Nat.zero_le _, Nat.zero_le _⟩ hK hj hw hA hS hl.1 (Nat.le_of_ble_eq_true rfl) dX6_carryOut_80 h (fun r5 s5 H locs h hw hS => ?_)
    refine zif_eq (tgt := 88) hx hb dX6_carryOut_83 (by decide) (fun c2 => ?_) (fun c2 => ?_)
    · have h := h.1 c2
      refine lv_aload_n hx hb dX6_carryOut_88 rfl (lv_at hl 3 rfl) ?_
      refine zget hx hb hts inX6 hown hK hw 0 (by decide) rfl rfl 0 (by decide) lk1 (fun _ h9 => h9) rfl dX6_carryOut_89 ?_
      refine lv_iload_n hx hb dX6_carryOut_92 rfl (lv_at hl 2 rfl) ?_
      refine lv_iload_n hx hb dX6_carryOut_93 rfl (lv_at hl 1 rfl) ?_
      refine lv_iload hx hb dX6_carryOut_94 (lv_at hl 0 rfl) ?_
      refine k_X4_cutSign (rest := []) hx hb hml hown hts gX6_carryOut_X4_cutSign ⟨Nat.le_of_ble_eq_true rfl, Nat.le_of_ble_eq_true rfl⟩ ⟨Nat.zero_le _, Nat.zero_le _⟩ hK hj hw hA hS hl.1 (Nat.le_of_ble_eq_true rfl) dX6_carryOut_96 h (fun r6 s6 H locs h hw hS => ?_)
      refine lv_pop hx hb dX6_carryOut_99 rfl ?_
      refine lv_iconst (v := (jI 1)) hx hb dX6_carryOut_100 rfl ?_
      exact W.zret (v := (jI 1)) (ty := .boolean) hx hb hr (by decide +kernel) (fun t ht hW => ⟨⟨_, _, rfl, h, zend hw ht⟩, hS.F ht⟩) hS.2.2 dX6_carryOut_101
    · have h := h.2 c2
      refine lv_iconst (v := (jI 0)) hx hb dX6_carryOut_86 rfl ?_
      exact W.zret (v := (jI 0)) (ty := .boolean) hx hb hr (by decide +kernel) (fun t ht hW => ⟨⟨_, _, rfl, h, zend hw ht⟩, hS.F ht⟩) hS.2.2 dX6_carryOut_87
  have h := h.2 c1
  rcases Classical.em (r4 = (jI 1)) with c3 | c3
  · have h := h.1 c3
    refine lv_tableIn (tgt := 102) (off := 63) hx hb dX6_carryOut_39 (by rw [c3]; decide +kernel) (by rw [c3]; decide +kernel) (by rw [c3]; decide +kernel) (by decide) ?_
    refine lv_aload_n hx hb dX6_carryOut_102 rfl (lv_at hl 3 rfl) ?_
    refine lv_iload_n hx hb dX6_carryOut_103 rfl (lv_at hl 2 rfl) ?_
    refine lv_iload_n hx hb dX6_carryOut_104 rfl (lv_at hl 1 rfl) ?_
    refine lv_iload hx hb dX6_carryOut_105 (lv_at hl 0 rfl) ?_
    refine k_X6_faultOfUse (rest := []) hx hb hml hown hts gX6_carryOut_X6_faultOfUse ⟨Nat.le_of_ble_eq_true rfl, Nat.le_of_ble_eq_true rfl⟩ ⟨Nat.zero_le _, Nat.zero_le _⟩ hK hj hw hA hS hl.1 (Nat.le_of_ble_eq_true rfl) dX6_carryOut_107 h (fun r7 s7 H locs h hw hS => ?_)
    refine zif_eq (tgt := 115) hx hb dX6_carryOut_110 (by decide) (fun c4 => ?_) (fun c4 => ?_)
    · have h := h.1 c4
      refine lv_aload_n hx hb dX6_carryOut_115 rfl (lv_at hl 3 rfl) ?_
      refine zget hx hb hts inX6 hown hK hw 0 (by decide) rfl rfl 0 (by decide) lk1 (fun _ h9 => h9) rfl dX6_carryOut_116 ?_
      refine lv_iload_n hx hb dX6_carryOut_119 rfl (lv_at hl 2 rfl) ?_
      refine lv_iload_n hx hb dX6_carryOut_120 rfl (lv_at hl 1 rfl) ?_
      refine lv_iload hx hb dX6_carryOut_121 (lv_at hl 0 rfl) ?_
      refine k_X6_letterNumber (rest := [.ref (ad 5)]) hx hb hml hown hts gX6_carryOut_X6_letterNumber ⟨Nat.le_of_ble_eq_true rfl, Nat.le_of_ble_eq_true rfl⟩ ⟨Nat.zero_le _, Nat.zero_le _⟩ hK hj hw hA hS hl.1 (Nat.le_of_ble_eq_true rfl) dX6_carryOut_123 h (fun r8 s8 H locs h hw hS => ?_)
      refine lv_aload_n hx hb dX6_carryOut_126 rfl (lv_at hl 3 rfl) ?_
      refine zget hx hb hts inX6 hown hK hw 0 (by decide) rfl rfl 3 (by decide) lk2 (fun _ h9 => h9) rfl dX6_carryOut_127 ?_
      refine k_X4_useLetter (rest := []) hx hb hml hown hts gX6_carryOut_X4_useLetter ⟨Nat.le_of_ble_eq_true rfl, Nat.le_of_ble_eq_true rfl⟩ ⟨Nat.zero_le _, Nat.zero_le _⟩ hK hj hw hA hS hl.1 (Nat.le_of_ble_eq_true rfl) dX6_carryOut_130 h (fun s9 H locs h hw hS => ?_)
      refine lv_iconst (v := (jI 1)) hx hb dX6_carryOut_133 rfl ?_
      exact W.zret (v := (jI 1)) (ty := .boolean) hx hb hr (by decide +kernel) (fun t ht hW => ⟨⟨_, _, rfl, h, zend hw ht⟩, hS.F ht⟩) hS.2.2 dX6_carryOut_134
    · have h := h.2 c4
      refine lv_iconst (v := (jI 0)) hx hb dX6_carryOut_113 rfl ?_
      exact W.zret (v := (jI 0)) (ty := .boolean) hx hb hr (by decide +kernel) (fun t ht hW => ⟨⟨_, _, rfl, h, zend hw ht⟩, hS.F ht⟩) hS.2.2 dX6_carryOut_114
  have h := h.2 c3
  rcases Classical.em (r4 = (jI 2)) with c5 | c5
  · have h := h.1 c5
    refine lv_tableIn (tgt := 135) (off := 96) hx hb dX6_carryOut_39 (by rw [c5]; decide +kernel) (by rw [c5]; decide +kernel) (by rw [c5]; decide +kernel) (by decide) ?_
    refine lv_aload_n hx hb dX6_carryOut_135 rfl (lv_at hl 3 rfl) ?_
    refine lv_iload_n hx hb dX6_carryOut_136 rfl (lv_at hl 2 rfl) ?_
    refine lv_iload_n hx hb dX6_carryOut_137 rfl (lv_at hl 1 rfl) ?_
    refine lv_iload hx hb dX6_carryOut_138 (lv_at hl 0 rfl) ?_
    refine k_X6_faultOfDrop (rest := []) hx hb hml hown hts gX6_carryOut_X6_faultOfDrop ⟨Nat.le_of_ble_eq_true rfl, Nat.le_of_ble_eq_true rfl⟩ ⟨Nat.zero_le _, Nat.zero_le _⟩ hK hj hw hA hS hl.1 (Nat.le_of_ble_eq_true rfl) dX6_carryOut_140 h (fun r9 s10 H locs h hw hS => ?_)
    refine zif_eq (tgt := 148) hx hb dX6_carryOut_143 (by decide) (fun c6 => ?_) (fun c6 => ?_)
    · have h := h.1 c6
      refine lv_aload_n hx hb dX6_carryOut_148 rfl (lv_at hl 3 rfl) ?_
      refine zget hx hb hts inX6 hown hK hw 0 (by decide) rfl rfl 0 (by decide) lk1 (fun _ h9 => h9) rfl dX6_carryOut_149 ?_
      refine lv_iload_n hx hb dX6_carryOut_152 rfl (lv_at hl 2 rfl) ?_
      refine lv_iload_n hx hb dX6_carryOut_153 rfl (lv_at hl 1 rfl) ?_
      refine lv_iload hx hb dX6_carryOut_154 (lv_at hl 0 rfl) ?_
      refine k_X6_letterNumber (rest := [.ref (ad 5)]) hx hb hml hown hts gX6_carryOut_X6_letterNumber ⟨Nat.le_of_ble_eq_true rfl, Nat.le_of_ble_eq_true rfl⟩ ⟨Nat.zero_le _, Nat.zero_le _⟩ hK hj hw hA hS hl.1 (Nat.le_of_ble_eq_true rfl) dX6_carryOut_156 h (fun r10 s11 H locs h hw hS => ?_)
      refine k_X4_dropLetter (rest := []) hx hb hml hown hts gX6_carryOut_X4_dropLetter ⟨Nat.le_of_ble_eq_true rfl, Nat.le_of_ble_eq_true rfl⟩ ⟨Nat.zero_le _, Nat.zero_le _⟩ hK hj hw hA hS hl.1 (Nat.le_of_ble_eq_true rfl) dX6_carryOut_159 h (fun r11 s12 H locs h hw hS => ?_)
      refine lv_pop hx hb dX6_carryOut_162 rfl ?_
      refine lv_iconst (v := (jI 1)) hx hb dX6_carryOut_163 rfl ?_
      exact W.zret (v := (jI 1)) (ty := .boolean) hx hb hr (by decide +kernel) (fun t ht hW => ⟨⟨_, _, rfl, h, zend hw ht⟩, hS.F ht⟩) hS.2.2 dX6_carryOut_164
    · have h := h.2 c6
      refine lv_iconst (v := (jI 0)) hx hb dX6_carryOut_146 rfl ?_
      exact W.zret (v := (jI 0)) (ty := .boolean) hx hb hr (by decide +kernel) (fun t ht hW => ⟨⟨_, _, rfl, h, zend hw ht⟩, hS.F ht⟩) hS.2.2 dX6_carryOut_147
  have h := h.2 c5
  rcases Classical.em (r4 = (jI 3)) with c7 | c7
  · have h := h.1 c7
    refine lv_tableIn (tgt := 165) (off := 126) hx hb dX6_carryOut_39 (by rw [c7]; decide +kernel) (by rw [c7]; decide +kernel) (by rw [c7]; decide +kernel) (by decide) ?_
    refine lv_aload_n hx hb dX6_carryOut_165 rfl (lv_at hl 3 rfl) ?_
    refine zget hx hb hts inX6 hown hK hw 0 (by decide) rfl rfl 0 (by decide) lk1 (fun _ h9 => h9) rfl dX6_carryOut_166 ?_
    refine k_X4_beginLine (rest := []) hx hb hml hown hts gX6_carryOut_X4_beginLine ⟨Nat.le_of_ble_eq_true rfl, Nat.le_of_ble_eq_true rfl⟩ ⟨Nat.zero_le _, Nat.zero_le _⟩ hK hj hw hA hS hl.1 (Nat.le_of_ble_eq_true rfl) dX6_carryOut_169 h (fun r12 s13 H locs h hw hS => ?_)
    refine lv_pop hx hb dX6_carryOut_172 rfl ?_
    refine lv_iconst (v := (jI 1)) hx hb dX6_carryOut_173 rfl ?_
    exact W.zret (v := (jI 1)) (ty := .boolean) hx hb hr (by decide +kernel) (fun t ht hW => ⟨⟨_, _, rfl, h, zend hw ht⟩, hS.F ht⟩) hS.2.2 dX6_carryOut_174
  have h := h.2 c7
  rcases Classical.em (r4 = (jI 4)) with c8 | c8
  · have h := h.1 c8
    refine lv_tableIn (tgt := 175) (off := 136) hx hb dX6_carryOut_39 (by rw [c8]; decide +kernel) (by rw [c8]; decide +kernel) (by rw [c8]; decide +kernel) (by decide) ?_
    refine lv_aload_n hx hb dX6_carryOut_175 rfl (lv_at hl 3 rfl) ?_
    refine k_X6_faultOfAddTray (rest := []) hx hb hml hown hts gX6_carryOut_X6_faultOfAddTray ⟨Nat.le_of_ble_eq_true rfl, Nat.le_of_ble_eq_true rfl⟩ ⟨Nat.zero_le _, Nat.zero_le _⟩ hK hj hw hA hS hl.1 (Nat.le_of_ble_eq_true rfl) dX6_carryOut_176 h (fun r13 s14 H locs h hw hS => ?_)
    refine zif_eq (tgt := 184) hx hb dX6_carryOut_179 (by decide) (fun c9 => ?_) (fun c9 => ?_)
    · have h := h.1 c9
      refine lv_aload_n hx hb dX6_carryOut_184 rfl (lv_at hl 3 rfl) ?_
      refine zget hx hb hts inX6 hown hK hw 0 (by decide) rfl rfl 0 (by decide) lk1 (fun _ h9 => h9) rfl dX6_carryOut_185 ?_
      refine k_X4_openTray (rest := []) hx hb hml hown hts gX6_carryOut_X4_openTray ⟨Nat.le_of_ble_eq_true rfl, Nat.le_of_ble_eq_true rfl⟩ ⟨Nat.zero_le _, Nat.zero_le _⟩ hK hj hw hA hS hl.1 (Nat.le_of_ble_eq_true rfl) dX6_carryOut_188 h (fun r14 s15 H locs h hw hS => ?_)
      refine lv_pop hx hb dX6_carryOut_191 rfl ?_
      refine lv_iconst (v := (jI 1)) hx hb dX6_carryOut_192 rfl ?_
      exact W.zret (v := (jI 1)) (ty := .boolean) hx hb hr (by decide +kernel) (fun t ht hW => ⟨⟨_, _, rfl, h, zend hw ht⟩, hS.F ht⟩) hS.2.2 dX6_carryOut_193
    · have h := h.2 c9
      refine lv_iconst (v := (jI 0)) hx hb dX6_carryOut_182 rfl ?_
      exact W.zret (v := (jI 0)) (ty := .boolean) hx hb hr (by decide +kernel) (fun t ht hW => ⟨⟨_, _, rfl, h, zend hw ht⟩, hS.F ht⟩) hS.2.2 dX6_carryOut_183
  have h := h.2 c8
  rcases Classical.em (r4 = (jI 5)) with c10 | c10
  · have h := h.1 c10
    refine lv_tableIn (tgt := 194) (off := 155) hx hb dX6_carryOut_39 (by rw [c10]; decide +kernel) (by rw [c10]; decide +kernel) (by rw [c10]; decide +kernel) (by decide) ?_
    refine lv_aload_n hx hb dX6_carryOut_194 rfl (lv_at hl 3 rfl) ?_
    refine zget hx hb hts inX6 hown hK hw 0 (by decide) rfl rfl 0 (by decide) lk1 (fun _ h9 => h9) rfl dX6_carryOut_195 ?_
    refine k_X4_closeEmptyShelves (rest := []) hx hb hml hown hts gX6_carryOut_X4_closeEmptyShelves ⟨Nat.le_of_ble_eq_true rfl, Nat.le_of_ble_eq_true rfl⟩ ⟨Nat.zero_le _, Nat.zero_le _⟩ hK hj hw hA hS hl.1 (Nat.le_of_ble_eq_true rfl) dX6_carryOut_198 h (fun r15 s16 H locs h hw hS => ?_)
    refine lv_pop hx hb dX6_carryOut_201 rfl ?_
    refine lv_iconst (v := (jI 1)) hx hb dX6_carryOut_202 rfl ?_
    exact W.zret (v := (jI 1)) (ty := .boolean) hx hb hr (by decide +kernel) (fun t ht hW => ⟨⟨_, _, rfl, h, zend hw ht⟩, hS.F ht⟩) hS.2.2 dX6_carryOut_203
  have h := h.2 c10
  have hsw1 := zsw_out (x := r4) (0) 6 (fun k hk => by
    match k, hk with
    | 0, _ => exact c1
    | 1, _ => exact c3
    | 2, _ => exact c5
    | 3, _ => exact c7
    | 4, _ => exact c8
    | 5, _ => exact c10
    | k + 6, hk => exact absurd hk (by omega))
  refine lv_tableOut (tgt := 194) hx hb dX6_carryOut_39 hsw1 (by decide) ?_
  refine lv_aload_n hx hb dX6_carryOut_194 rfl (lv_at hl 3 rfl) ?_
  refine zget hx hb hts inX6 hown hK hw 0 (by decide) rfl rfl 0 (by decide) lk1 (fun _ h9 => h9) rfl dX6_carryOut_195 ?_
  refine k_X4_closeEmptyShelves (rest := []) hx hb hml hown hts gX6_carryOut_X4_closeEmptyShelves ⟨Nat.le_of_ble_eq_true rfl, Nat.le_of_ble_eq_true rfl⟩ ⟨Nat.zero_le _, Nat.zero_le _⟩ hK hj hw hA hS hl.1 (Nat.le_of_ble_eq_true rfl) dX6_carryOut_198 h (fun r16 s17 H locs h hw hS => ?_)
  refine lv_pop hx hb dX6_carryOut_201 rfl ?_
  refine lv_iconst (v := (jI 1)) hx hb dX6_carryOut_202 rfl ?_
  exact W.zret (v := (jI 1)) (ty := .boolean) hx hb hr (by decide +kernel) (fun t ht hW => ⟨⟨_, _, rfl, h, zend hw ht⟩, hS.F ht⟩) hS.2.2 dX6_carryOut_203
theorem k_X6_carryOut {p : Program} {l : Launch} {e : Env} {R : Room} {s : State} {m : MethodId} {args : Array Value} {below : List Frame} {meth : Method} {c : Code} {H : Heap} {locs : List Loc} {cells slots : Nat} {QQ : State → Prop} {cc : ByteArray} {pc nL index : Nat} {ls : Array Slot} {rest : List Value} {D : va_G} {cy : cyT} {ad : Nat → Nat} {own : String} {Ts : List Cond} {H0 : Heap} {σ : ST} {p0 : Int32} {Q : Int32 → ST → Prop} (hx : p.tables.exec = Jvm.exec) (hb : c.code = cc) (hml : c.maxLocals = nL) (hown : s.vm.findClass own = some m.cls) (hts : ∀ w ∈ Ts, w.before args s = true) (hG : GoodIn Ts (wsV own index RX6 yX6_carryOut wsX6_carryOut)) (hR : 6 + 1 ≤ R.frames ∧ 8 + (5 + 11) + 137 ≤ R.locals) (hcs : cells ≤ R.cells ∧ slots ≤ R.slots) (hK : zK D cy s) (hj : zI 116 ad) (hw : zW D 116 (zce cy ad σ) ad H) {A0 : Nat → Prop} (hA : ∀ i, i < 116 → A0 (ad i)) (hS : va_S A0 H0 H locs) (hsz : ls.size = nL) (hrest : (rest.map fun v => v.category).sum ≤ 8) (hdg : decode cc pc = .ok (.invokevirtual index, 3)) (h : wp_X6_carryOut σ p0 Q) (kk : ∀ (r : Int32) (σ : ST) (H : Heap) (locs : List Loc), Q r σ → zW D 116 (zce cy ad σ) ad H → va_S A0 H0 H locs → W p l e R s m args below meth c H locs cells slots QQ (F0 m (pc + 3) ls (.int r :: rest))) : W p l e R s m args below meth c H locs cells slots QQ (F0 m pc ls (.int p0 :: .ref (ad 0) :: rest)) :=
  zcalli (va_runV (As := [.int p0]) (rest := rest) ⟨hx, hb, hml, hown, hts⟩ (c_X6_carryOut l D cy ad σ p0 h) (cwV 1 hts hG rfl rfl rfl (by decide +kernel) hR) (zpreV hj hK hw _ (i := 0) (ci := 5) (by decide) rfl rfl) rfl rfl hsz rfl (lv_room hrest) hdg hcs) hA hS kk
set_option maxHeartbeats 4000000 in
set_option maxRecDepth 100000 in
theorem c_X6_mix (l : Launch) (D : va_G) (cy : cyT) (ad : Nat → Nat) (σ : ST) (p0 : Int64) (p1 : Int64) {Q : Int64 → ST → Prop} (h : wp_X6_mix σ p0 p1 Q) : Met l yX6_mix wsX6_mix ({ frames := 0, cells := 0, slots := 0, locals := 0 } : Room) (zPre D cy 116 (zce cy ad σ) ad [.long p0, .long p1]) (va_Ql Q (zB D 116 (zce cy ad) ad) (zA 116 ad)) 0 0 (zA 116 ad) := by
  refine Met.ofW (cc := cX6_mix) (maxL := 4) (ret := (some .long)) (by decide) rfl ?_
  intro p e s m args below meth c s₁ B hml hv
  obtain ⟨rfl, hj, hK, hw⟩ := hv
  have hx := B.exec
  have hb := B.bytes
  have hr := B.returns
  have hts := atoms_spec (ws := wsX6_mix) B.pre
  have hown : s.vm.findClass RX6 = some m.cls := findClass_of_methodNamed B.named
  have hlocks := B.notSynchronized
  have lk0 : Cond.constantLong RX6 206 (31) ∈ wsX6_mix := List.mem_of_getElem? (i := 1) rfl
  have hS : va_S (zA 116 ad) s.heap s.heap [] := va_S.rf
  have hA : ∀ i, i < 116 → zA 116 ad (ad i) := fun i hi => ⟨i, hi, rfl⟩
  have hl := lv_entry ([.long p0, .long p1]) (n := 4) (Nat.le_of_ble_eq_true rfl)
  rw [lg_entry_eq]
  generalize (lg_sl ([.long p0, .long p1]) ++ List.replicate (4 - (lg_sl ([.long p0, .long p1])).length) Slot.unset).toArray = ls at hl ⊢
  have hl : lv_has ls 4 [(0, .long p0), (2, .long p1)] := hl
  show W p l e ({ frames := 0, cells := 0, slots := 0, locals := 0 } : Room) s m ([.long p0, .long p1] : List Value).toArray below meth c s.heap [] 0 0 (MQ below (va_Ql Q (zB D 116 (zce cy ad) ad) (zA 116 ad)) ([.long p0, .long p1] : List Value).toArray s 0 0 (zA 116 ad)) (F0 m 0 ls [])
  unfold wp_X6_mix at h
  refine lv_ldc2 hx hb hown (hts _ lk0) dX6_mix_0 ?_
  refine lv_lload_n hx hb dX6_mix_3 rfl (lv_at hl 0 rfl) ?_
  refine lv_lmul hx hb dX6_mix_4 ?_
  refine lv_lload_n hx hb dX6_mix_5 rfl (lv_at hl 1 rfl) ?_
  refine lv_ladd hx hb dX6_mix_6 ?_
  exact W.lret (v := ((((31) : Int64) * p0) + p1)) hx hb hr (fun t ht hW => ⟨⟨_, _, rfl, h, zend hw ht⟩, hS.F ht⟩) hS.2.2 dX6_mix_7
theorem k_X6_mix {p : Program} {l : Launch} {e : Env} {R : Room} {s : State} {m : MethodId} {args : Array Value} {below : List Frame} {meth : Method} {c : Code} {H : Heap} {locs : List Loc} {cells slots : Nat} {QQ : State → Prop} {cc : ByteArray} {pc nL index : Nat} {ls : Array Slot} {rest : List Value} {D : va_G} {cy : cyT} {ad : Nat → Nat} {own : String} {Ts : List Cond} {H0 : Heap} {σ : ST} {p0 : Int64} {p1 : Int64} {Q : Int64 → ST → Prop} (hx : p.tables.exec = Jvm.exec) (hb : c.code = cc) (hml : c.maxLocals = nL) (hown : s.vm.findClass own = some m.cls) (hts : ∀ w ∈ Ts, w.before args s = true) (hG : GoodIn Ts (va_wsS own index yX6_mix wsX6_mix)) (hR : 0 + 1 ≤ R.frames ∧ 8 + (4 + 11) + 0 ≤ R.locals) (hcs : cells ≤ R.cells ∧ slots ≤ R.slots) (hK : zK D cy s) (hj : zI 116 ad) (hw : zW D 116 (zce cy ad σ) ad H) {A0 : Nat → Prop} (hA : ∀ i, i < 116 → A0 (ad i)) (hS : va_S A0 H0 H locs) (hsz : ls.size = nL) (hrest : (rest.map fun v => v.category).sum ≤ 8) (hdg : decode cc pc = .ok (.invokestatic index, 3)) (h : wp_X6_mix σ p0 p1 Q) (kk : ∀ (r : Int64) (σ : ST) (H : Heap) (locs : List Loc), Q r σ → zW D 116 (zce cy ad σ) ad H → va_S A0 H0 H locs → W p l e R s m args below meth c H locs cells slots QQ (F0 m (pc + 3) ls (.long r :: rest))) : W p l e R s m args below meth c H locs cells slots QQ (F0 m pc ls (.long p1 :: .long p0 :: rest)) :=
  zcalll (va_runS (As := [.long p0, .long p1]) (rest := rest) ⟨hx, hb, hml, hown, hts⟩ (c_X6_mix l D cy ad σ p0 p1 h) (va_cwS 2 hts hG rfl rfl rfl (by decide +kernel) hR) (zpreS hj hK hw _) rfl rfl hsz rfl (lv_room hrest) hdg hcs) hA hS kk
set_option maxHeartbeats 4000000 in
set_option maxRecDepth 100000 in
theorem c_X6_mixLetters (l : Launch) (D : va_G) (cy : cyT) (ad : Nat → Nat) (σ : ST) (p0 : Int64) {Q : Int64 → ST → Prop} (h : wp_X6_mixLetters σ p0 Q) : Met l yX6_mixLetters wsX6_mixLetters ({ frames := 4, cells := 0, slots := 0, locals := 89 } : Room) (zPre D cy 116 (zce cy ad σ) ad [.ref (ad 0), .long p0]) (va_Ql Q (zB D 116 (zce cy ad) ad) (zA 116 ad)) 0 0 (zA 116 ad) := by
  refine Met.ofW (cc := cX6_mixLetters) (maxL := 7) (ret := (some .long)) (by decide) rfl ?_
  intro p e s m args below meth c s₁ B hml hv
  obtain ⟨rfl, hj, hK, hw⟩ := hv
  have hx := B.exec
  have hb := B.bytes
  have hr := B.returns
  have hts := atoms_spec (ws := wsX6_mixLetters) B.pre
  have hown : s.vm.findClass RX6 = some m.cls := findClass_of_methodNamed B.named
  have hlocks := B.notSynchronized
  have lk0 : Cond.fieldLink RX6 12 "TypeTrays" "state" "LTypeTrays$State;" ∈ wsX6_mixLetters := List.mem_of_getElem? (i := 1) rfl
  have inX6 : ∀ w ∈ u_ws RX6 TX6 4, w ∈ wsX6_mixLetters := zin_at 56 rfl
  have hS : va_S (zA 116 ad) s.heap s.heap [] := va_S.rf
  have hA : ∀ i, i < 116 → zA 116 ad (ad i) := fun i hi => ⟨i, hi, rfl⟩
  have hl := lv_entry ([.ref (ad 0), .long p0]) (n := 7) (Nat.le_of_ble_eq_true rfl)
  rw [lg_entry_eq]
  generalize (lg_sl ([.ref (ad 0), .long p0]) ++ List.replicate (7 - (lg_sl ([.ref (ad 0), .long p0])).length) Slot.unset).toArray = ls at hl ⊢
  have hl : lv_has ls 7 [(0, .ref (ad 0)), (1, .long p0)] := hl
  show W p l e ({ frames := 4, cells := 0, slots := 0, locals := 89 } : Room) s m ([.ref (ad 0), .long p0] : List Value).toArray below meth c s.heap [] 0 0 (MQ below (va_Ql Q (zB D 116 (zce cy ad) ad) (zA 116 ad)) ([.ref (ad 0), .long p0] : List Value).toArray s 0 0 (zA 116 ad)) (F0 m 0 ls [])
  unfold wp_X6_mixLetters at h
  refine lv_lload_n hx hb dX6_mixLetters_0 rfl (lv_at hl 1 rfl) ?_
  refine lv_lstore_n (lv' := [(3, .long p0), (0, .ref (ad 0)), (1, .long p0)]) hx hb dX6_mixLetters_1 rfl hl (by decide) rfl (fun ls hl => ?_)
  refine lv_iconst (v := (jI 0)) hx hb dX6_mixLetters_2 rfl ?_
  refine lv_istore (lv' := [(5, .int (jI 0)), (3, .long p0), (0, .ref (ad 0)), (1, .long p0)]) hx hb dX6_mixLetters_3 hl (by decide) rfl (fun ls hl => ?_)
  have k52_5 : ∀ (u_52 : ST) (z3_52 : Int64) (H : Heap) (locs : List Loc), Q z3_52 u_52 → zW D 116 (zce cy ad u_52) ad H → va_S (zA 116 ad) s.heap H locs → ∀ ls : Array Slot, lv_has ls 7 [(3, .long z3_52)] → W p l e ({ frames := 4, cells := 0, slots := 0, locals := 89 } : Room) s m ([.ref (ad 0), .long p0] : List Value).toArray below meth c H locs 0 0 (MQ below (va_Ql Q (zB D 116 (zce cy ad) ad) (zA 116 ad)) ([.ref (ad 0), .long p0] : List Value).toArray s 0 0 (zA 116 ad)) (F0 m 52 ls []) := by
    intro u_52 z3_52 H locs h hw hS ls hl
    refine lv_lload_n hx hb dX6_mixLetters_52 rfl (lv_at hl 0 rfl) ?_
    exact W.lret (v := z3_52) hx hb hr (fun t ht hW => ⟨⟨_, _, rfl, h, zend hw ht⟩, hS.F ht⟩) hS.2.2 dX6_mixLetters_53
  have lp5 : ∀ (nn5 : Nat) (t_5 : ST) (y3_5 : Int64) (y5_5 : Int32) (H : Heap) (locs : List Loc), wl_X6_mixLetters_5 (fun u_52 z3_52 => Q z3_52 u_52)  nn5 t_5 y3_5 y5_5 → zW D 116 (zce cy ad t_5) ad H → va_S (zA 116 ad) s.heap H locs → ∀ ls : Array Slot, lv_has ls 7 [(0, .ref (ad 0)), (3, .long y3_5), (5, .int y5_5)] → W p l e ({ frames := 4, cells := 0, slots := 0, locals := 89 } : Room) s m ([.ref (ad 0), .long p0] : List Value).toArray below meth c H locs 0 0 (MQ below (va_Ql Q (zB D 116 (zce cy ad) ad) (zA 116 ad)) ([.ref (ad 0), .long p0] : List Value).toArray s 0 0 (zA 116 ad)) (F0 m 5 ls []) := by
    intro nn5
    induction nn5 with
    | zero => intro _ _ _ _ _ h; exact h.elim
    | succ nn5 ih5 =>
      intro t_5 y3_5 y5_5 H locs h hw hS ls hl
      simp only [wl_X6_mixLetters_5, wb_X6_mixLetters_5] at h
      refine lv_iload hx hb dX6_mixLetters_5 (lv_at hl 2 rfl) ?_
      refine lv_sipush (v := (jI 144)) hx hb dX6_mixLetters_7 (by decide +kernel) ?_
      refine lv_icmp_ge (tgt := 52) hx hb dX6_mixLetters_10 (by decide) (fun c1 => ?_) (fun c1 => ?_)
      · have h := h.1 c1
        exact k52_5 _ _ _ _ h hw hS _ (lv_sub hl [1] rfl)
      · have h := h.2 c1
        refine lv_iconst (v := (jI 0)) hx hb dX6_mixLetters_13 rfl ?_
        refine lv_istore (lv' := [(6, .int (jI 0)), (0, .ref (ad 0)), (3, .long y3_5), (5, .int y5_5)]) hx hb dX6_mixLetters_14 hl (by decide) rfl (fun ls hl => ?_)
        have k46_16 : ∀ (u_46 : ST) (z3_46 : Int64) (H : Heap) (locs : List Loc), (∀ x2 : Int32, x2 = y5_5 + (jI 1) → (wl_X6_mixLetters_5 (fun u_52 z3_52 => Q z3_52 u_52)  nn5) u_46 z3_46 x2) → zW D 116 (zce cy ad u_46) ad H → va_S (zA 116 ad) s.heap H locs → ∀ ls : Array Slot, lv_has ls 7 [(0, .ref (ad 0)), (3, .long z3_46), (5, .int y5_5)] → W p l e ({ frames := 4, cells := 0, slots := 0, locals := 89 } : Room) s m ([.ref (ad 0), .long p0] : List Value).toArray below meth c H locs 0 0 (MQ below (va_Ql Q (zB D 116 (zce cy ad) ad) (zA 116 ad)) ([.ref (ad 0), .long p0] : List Value).toArray s 0 0 (zA 116 ad)) (F0 m 46 ls []) := by
          intro u_46 z3_46 H locs h hw hS ls hl
          obtain ⟨x2, ex2⟩ : ∃ y : Int32, y = y5_5 + (jI 1) := ⟨_, rfl⟩
          have h := h x2 ex2
          refine lv_iinc (v := x2) (lv' := [(5, .int x2), (0, .ref (ad 0)), (3, .long z3_46)]) hx hb dX6_mixLetters_46 hl (k := 2) rfl (by rw [ex2]; rfl) (by decide) rfl (fun ls hl => ?_)
          refine lv_goto (tgt := 5) hx hb dX6_mixLetters_49 (by decide) ?_
          exact ih5 _ _ _ _ _ h hw hS _ (lv_sub hl [1, 2, 0] rfl)
        have lp16 : ∀ (nn16 : Nat) (t_16 : ST) (y3_16 : Int64) (y6_16 : Int32) (H : Heap) (locs : List Loc), wl_X6_mixLetters_16 (fun u_46 z3_46 => (∀ x2 : Int32, x2 = y5_5 + (jI 1) → (wl_X6_mixLetters_5 (fun u_52 z3_52 => Q z3_52 u_52)  nn5) u_46 z3_46 x2)) y5_5 nn16 t_16 y3_16 y6_16 → zW D 116 (zce cy ad t_16) ad H → va_S (zA 116 ad) s.heap H locs → ∀ ls : Array Slot, lv_has ls 7 [(0, .ref (ad 0)), (3, .long y3_16), (5, .int y5_5), (6, .int y6_16)] → W p l e ({ frames := 4, cells := 0, slots := 0, locals := 89 } : Room) s m ([.ref (ad 0), .long p0] : List Value).toArray below meth c H locs 0 0 (MQ below (va_Ql Q (zB D 116 (zce cy ad) ad) (zA 116 ad)) ([.ref (ad 0), .long p0] : List Value).toArray s 0 0 (zA 116 ad)) (F0 m 16 ls []) := by
          intro nn16
          induction nn16 with
          | zero => intro _ _ _ _ _ h; exact h.elim
          | succ nn16 ih16 =>
            intro t_16 y3_16 y6_16 H locs h hw hS ls hl
            simp only [wl_X6_mixLetters_16, wb_X6_mixLetters_16] at h
            refine lv_iload hx hb dX6_mixLetters_16 (lv_at hl 3 rfl) ?_
            refine lv_bipush (v := (jI 9)) hx hb dX6_mixLetters_18 (by decide +kernel) ?_
            refine lv_icmp_ge (tgt := 46) hx hb dX6_mixLetters_20 (by decide) (fun c2 => ?_) (fun c2 => ?_)
            · have h := h.1 c2
              exact k46_16 _ _ _ _ h hw hS _ (lv_sub hl [0, 1, 2] rfl)
            · have h := h.2 c2
              refine lv_lload_n hx hb dX6_mixLetters_23 rfl (lv_at hl 1 rfl) ?_
              refine lv_aload_n hx hb dX6_mixLetters_24 rfl (lv_at hl 0 rfl) ?_
              refine zget hx hb hts inX6 hown hK hw 0 (by decide) rfl rfl 0 (by decide) lk0 (fun _ h9 => h9) rfl dX6_mixLetters_25 ?_
              refine lv_iload hx hb dX6_mixLetters_28 (lv_at hl 2 rfl) ?_
              refine lv_iload hx hb dX6_mixLetters_30 (lv_at hl 3 rfl) ?_
              refine k_X4_letterValue (rest := [.long y3_16]) hx hb hml hown hts gX6_mixLetters_X4_letterValue ⟨Nat.le_of_ble_eq_true rfl, Nat.le_of_ble_eq_true rfl⟩ ⟨Nat.zero_le _, Nat.zero_le _⟩ hK hj hw hA hS hl.1 (Nat.le_of_ble_eq_true rfl) dX6_mixLetters_32 h (fun r1 s1 H locs h hw hS => ?_)
              refine lv_i2l hx hb dX6_mixLetters_35 rfl ?_
              refine k_X6_mix (rest := []) hx hb hml hown hts gX6_mixLetters_X6_mix ⟨Nat.le_of_ble_eq_true rfl, Nat.le_of_ble_eq_true rfl⟩ ⟨Nat.zero_le _, Nat.zero_le _⟩ hK hj hw hA hS hl.1 (Nat.le_of_ble_eq_true rfl) dX6_mixLetters_36 h (fun r2 s2 H locs h hw hS => ?_)
              refine lv_lstore_n (lv' := [(3, .long r2), (0, .ref (ad 0)), (5, .int y5_5), (6, .int y6_16)]) hx hb dX6_mixLetters_39 rfl hl (by decide) rfl (fun ls hl => ?_)
              obtain ⟨x1, ex1⟩ : ∃ y : Int32, y = y6_16 + (jI 1) := ⟨_, rfl⟩
              have h := h x1 ex1
              refine lv_iinc (v := x1) (lv' := [(6, .int x1), (3, .long r2), (0, .ref (ad 0)), (5, .int y5_5)]) hx hb dX6_mixLetters_40 hl (k := 3) rfl (by rw [ex1]; rfl) (by decide) rfl (fun ls hl => ?_)
              refine lv_goto (tgt := 16) hx hb dX6_mixLetters_43 (by decide) ?_
              exact ih16 _ _ _ _ _ h hw hS _ (lv_sub hl [2, 1, 3, 0] rfl)
        obtain ⟨nn16, h⟩ := h
        exact lp16 nn16 _ _ _ _ _ h hw hS _ (lv_sub hl [1, 2, 3, 0] rfl)
  obtain ⟨nn5, h⟩ := h
  exact lp5 nn5 _ _ _ _ _ h hw hS _ (lv_sub hl [2, 1, 0] rfl)
theorem k_X6_mixLetters {p : Program} {l : Launch} {e : Env} {R : Room} {s : State} {m : MethodId} {args : Array Value} {below : List Frame} {meth : Method} {c : Code} {H : Heap} {locs : List Loc} {cells slots : Nat} {QQ : State → Prop} {cc : ByteArray} {pc nL index : Nat} {ls : Array Slot} {rest : List Value} {D : va_G} {cy : cyT} {ad : Nat → Nat} {own : String} {Ts : List Cond} {H0 : Heap} {σ : ST} {p0 : Int64} {Q : Int64 → ST → Prop} (hx : p.tables.exec = Jvm.exec) (hb : c.code = cc) (hml : c.maxLocals = nL) (hown : s.vm.findClass own = some m.cls) (hts : ∀ w ∈ Ts, w.before args s = true) (hG : GoodIn Ts (wsV own index RX6 yX6_mixLetters wsX6_mixLetters)) (hR : 4 + 1 ≤ R.frames ∧ 8 + (7 + 11) + 89 ≤ R.locals) (hcs : cells ≤ R.cells ∧ slots ≤ R.slots) (hK : zK D cy s) (hj : zI 116 ad) (hw : zW D 116 (zce cy ad σ) ad H) {A0 : Nat → Prop} (hA : ∀ i, i < 116 → A0 (ad i)) (hS : va_S A0 H0 H locs) (hsz : ls.size = nL) (hrest : (rest.map fun v => v.category).sum ≤ 8) (hdg : decode cc pc = .ok (.invokevirtual index, 3)) (h : wp_X6_mixLetters σ p0 Q) (kk : ∀ (r : Int64) (σ : ST) (H : Heap) (locs : List Loc), Q r σ → zW D 116 (zce cy ad σ) ad H → va_S A0 H0 H locs → W p l e R s m args below meth c H locs cells slots QQ (F0 m (pc + 3) ls (.long r :: rest))) : W p l e R s m args below meth c H locs cells slots QQ (F0 m pc ls (.long p0 :: .ref (ad 0) :: rest)) :=
  zcalll (va_runV (As := [.long p0]) (rest := rest) ⟨hx, hb, hml, hown, hts⟩ (c_X6_mixLetters l D cy ad σ p0 h) (cwV 1 hts hG rfl rfl rfl (by decide +kernel) hR) (zpreV hj hK hw _ (i := 0) (ci := 5) (by decide) rfl rfl) rfl rfl hsz rfl (lv_room hrest) hdg hcs) hA hS kk
set_option maxHeartbeats 4000000 in
set_option maxRecDepth 100000 in
theorem c_X6_mixTray (l : Launch) (D : va_G) (cy : cyT) (ad : Nat → Nat) (σ : ST) (p0 : Int64) (p1 : Int32) {Q : Int64 → ST → Prop} (h : wp_X6_mixTray σ p0 p1 Q) : Met l yX6_mixTray wsX6_mixTray ({ frames := 5, cells := 0, slots := 0, locals := 110 } : Room) (zPre D cy 116 (zce cy ad σ) ad [.ref (ad 0), .long p0, .int p1]) (va_Ql Q (zB D 116 (zce cy ad) ad) (zA 116 ad)) 0 0 (zA 116 ad) := by
  refine Met.ofW (cc := cX6_mixTray) (maxL := 9) (ret := (some .long)) (by decide) rfl ?_
  intro p e s m args below meth c s₁ B hml hv
  obtain ⟨rfl, hj, hK, hw⟩ := hv
  have hx := B.exec
  have hb := B.bytes
  have hr := B.returns
  have hts := atoms_spec (ws := wsX6_mixTray) B.pre
  have hown : s.vm.findClass RX6 = some m.cls := findClass_of_methodNamed B.named
  have hlocks := B.notSynchronized
  have lk0 : Cond.fieldLink RX6 12 "TypeTrays" "state" "LTypeTrays$State;" ∈ wsX6_mixTray := List.mem_of_getElem? (i := 1) rfl
  have inX6 : ∀ w ∈ u_ws RX6 TX6 4, w ∈ wsX6_mixTray := zin_at 115 rfl
  have hS : va_S (zA 116 ad) s.heap s.heap [] := va_S.rf
  have hA : ∀ i, i < 116 → zA 116 ad (ad i) := fun i hi => ⟨i, hi, rfl⟩
  have hl := lv_entry ([.ref (ad 0), .long p0, .int p1]) (n := 9) (Nat.le_of_ble_eq_true rfl)
  rw [lg_entry_eq]
  generalize (lg_sl ([.ref (ad 0), .long p0, .int p1]) ++ List.replicate (9 - (lg_sl ([.ref (ad 0), .long p0, .int p1])).length) Slot.unset).toArray = ls at hl ⊢
  have hl : lv_has ls 9 [(0, .ref (ad 0)), (1, .long p0), (3, .int p1)] := hl
  show W p l e ({ frames := 5, cells := 0, slots := 0, locals := 110 } : Room) s m ([.ref (ad 0), .long p0, .int p1] : List Value).toArray below meth c s.heap [] 0 0 (MQ below (va_Ql Q (zB D 116 (zce cy ad) ad) (zA 116 ad)) ([.ref (ad 0), .long p0, .int p1] : List Value).toArray s 0 0 (zA 116 ad)) (F0 m 0 ls [])
  unfold wp_X6_mixTray at h
  refine lv_lload_n hx hb dX6_mixTray_0 rfl (lv_at hl 1 rfl) ?_
  refine lv_lstore (lv' := [(4, .long p0), (0, .ref (ad 0)), (1, .long p0), (3, .int p1)]) hx hb dX6_mixTray_1 hl (by decide) rfl (fun ls hl => ?_)
  refine lv_iconst (v := (jI 0)) hx hb dX6_mixTray_3 rfl ?_
  refine lv_istore (lv' := [(6, .int (jI 0)), (4, .long p0), (0, .ref (ad 0)), (1, .long p0), (3, .int p1)]) hx hb dX6_mixTray_4 hl (by decide) rfl (fun ls hl => ?_)
  have k36_6 : ∀ (u_36 : ST) (z4_36 : Int64) (H : Heap) (locs : List Loc), wp_X4_countShelves u_36 p1 (fun r3 s3 => (∃ nn : Nat, wl_X6_mixTray_49 (fun u_102 z4_102 => Q z4_102 u_102) p1 r3 nn s3 z4_36 (jI 0))) → zW D 116 (zce cy ad u_36) ad H → va_S (zA 116 ad) s.heap H locs → ∀ ls : Array Slot, lv_has ls 9 [(0, .ref (ad 0)), (3, .int p1), (4, .long z4_36)] → W p l e ({ frames := 5, cells := 0, slots := 0, locals := 110 } : Room) s m ([.ref (ad 0), .long p0, .int p1] : List Value).toArray below meth c H locs 0 0 (MQ below (va_Ql Q (zB D 116 (zce cy ad) ad) (zA 116 ad)) ([.ref (ad 0), .long p0, .int p1] : List Value).toArray s 0 0 (zA 116 ad)) (F0 m 36 ls []) := by
    intro u_36 z4_36 H locs h hw hS ls hl
    refine lv_aload_n hx hb dX6_mixTray_36 rfl (lv_at hl 0 rfl) ?_
    refine zget hx hb hts inX6 hown hK hw 0 (by decide) rfl rfl 0 (by decide) lk0 (fun _ h9 => h9) rfl dX6_mixTray_37 ?_
    refine lv_iload_n hx hb dX6_mixTray_40 rfl (lv_at hl 1 rfl) ?_
    refine k_X4_countShelves (rest := []) hx hb hml hown hts gX6_mixTray_X4_countShelves ⟨Nat.le_of_ble_eq_true rfl, Nat.le_of_ble_eq_true rfl⟩ ⟨Nat.zero_le _, Nat.zero_le _⟩ hK hj hw hA hS hl.1 (Nat.le_of_ble_eq_true rfl) dX6_mixTray_41 h (fun r3 s3 H locs h hw hS => ?_)
    refine lv_istore (lv' := [(6, .int r3), (0, .ref (ad 0)), (3, .int p1), (4, .long z4_36)]) hx hb dX6_mixTray_44 hl (by decide) rfl (fun ls hl => ?_)
    refine lv_iconst (v := (jI 0)) hx hb dX6_mixTray_46 rfl ?_
    refine lv_istore (lv' := [(7, .int (jI 0)), (6, .int r3), (0, .ref (ad 0)), (3, .int p1), (4, .long z4_36)]) hx hb dX6_mixTray_47 hl (by decide) rfl (fun ls hl => ?_)
    have k102_49 : ∀ (u_102 : ST) (z4_102 : Int64) (H : Heap) (locs : List Loc), Q z4_102 u_102 → zW D 116 (zce cy ad u_102) ad H → va_S (zA 116 ad) s.heap H locs → ∀ ls : Array Slot, lv_has ls 9 [(4, .long z4_102)] → W p l e ({ frames := 5, cells := 0, slots := 0, locals := 110 } : Room) s m ([.ref (ad 0), .long p0, .int p1] : List Value).toArray below meth c H locs 0 0 (MQ below (va_Ql Q (zB D 116 (zce cy ad) ad) (zA 116 ad)) ([.ref (ad 0), .long p0, .int p1] : List Value).toArray s 0 0 (zA 116 ad)) (F0 m 102 ls []) := by
      intro u_102 z4_102 H locs h hw hS ls hl
      refine lv_lload hx hb dX6_mixTray_102 (lv_at hl 0 rfl) ?_
      exact W.lret (v := z4_102) hx hb hr (fun t ht hW => ⟨⟨_, _, rfl, h, zend hw ht⟩, hS.F ht⟩) hS.2.2 dX6_mixTray_104
    have lp49 : ∀ (nn49 : Nat) (t_49 : ST) (y4_49 : Int64) (y7_49 : Int32) (H : Heap) (locs : List Loc), wl_X6_mixTray_49 (fun u_102 z4_102 => Q z4_102 u_102) p1 r3 nn49 t_49 y4_49 y7_49 → zW D 116 (zce cy ad t_49) ad H → va_S (zA 116 ad) s.heap H locs → ∀ ls : Array Slot, lv_has ls 9 [(0, .ref (ad 0)), (3, .int p1), (4, .long y4_49), (6, .int r3), (7, .int y7_49)] → W p l e ({ frames := 5, cells := 0, slots := 0, locals := 110 } : Room) s m ([.ref (ad 0), .long p0, .int p1] : List Value).toArray below meth c H locs 0 0 (MQ below (va_Ql Q (zB D 116 (zce cy ad) ad) (zA 116 ad)) ([.ref (ad 0), .long p0, .int p1] : List Value).toArray s 0 0 (zA 116 ad)) (F0 m 49 ls []) := by
      intro nn49
      induction nn49 with
      | zero => intro _ _ _ _ _ h; exact h.elim
      | succ nn49 ih49 =>
        intro t_49 y4_49 y7_49 H locs h hw hS ls hl
        simp only [wl_X6_mixTray_49, wb_X6_mixTray_49] at h
        refine lv_iload hx hb dX6_mixTray_49 (lv_at hl 4 rfl) ?_
        refine lv_iload hx hb dX6_mixTray_51 (lv_at hl 3 rfl) ?_
        refine lv_icmp_ge (tgt := 102) hx hb dX6_mixTray_53 (by decide) (fun c2 => ?_) (fun c2 => ?_)
        · have h := h.1 c2
          exact k102_49 _ _ _ _ h hw hS _ (lv_sub hl [2] rfl)
        · have h := h.2 c2
          refine lv_iconst (v := (jI 0)) hx hb dX6_mixTray_56 rfl ?_
          refine lv_istore (lv' := [(8, .int (jI 0)), (0, .ref (ad 0)), (3, .int p1), (4, .long y4_49), (6, .int r3), (7, .int y7_49)]) hx hb dX6_mixTray_57 hl (by decide) rfl (fun ls hl => ?_)
          have k96_59 : ∀ (u_96 : ST) (z4_96 : Int64) (H : Heap) (locs : List Loc), (∀ x3 : Int32, x3 = y7_49 + (jI 1) → (wl_X6_mixTray_49 (fun u_102 z4_102 => Q z4_102 u_102) p1 r3 nn49) u_96 z4_96 x3) → zW D 116 (zce cy ad u_96) ad H → va_S (zA 116 ad) s.heap H locs → ∀ ls : Array Slot, lv_has ls 9 [(0, .ref (ad 0)), (3, .int p1), (4, .long z4_96), (6, .int r3), (7, .int y7_49)] → W p l e ({ frames := 5, cells := 0, slots := 0, locals := 110 } : Room) s m ([.ref (ad 0), .long p0, .int p1] : List Value).toArray below meth c H locs 0 0 (MQ below (va_Ql Q (zB D 116 (zce cy ad) ad) (zA 116 ad)) ([.ref (ad 0), .long p0, .int p1] : List Value).toArray s 0 0 (zA 116 ad)) (F0 m 96 ls []) := by
            intro u_96 z4_96 H locs h hw hS ls hl
            obtain ⟨x3, ex3⟩ : ∃ y : Int32, y = y7_49 + (jI 1) := ⟨_, rfl⟩
            have h := h x3 ex3
            refine lv_iinc (v := x3) (lv' := [(7, .int x3), (0, .ref (ad 0)), (3, .int p1), (4, .long z4_96), (6, .int r3)]) hx hb dX6_mixTray_96 hl (k := 4) rfl (by rw [ex3]; rfl) (by decide) rfl (fun ls hl => ?_)
            refine lv_goto (tgt := 49) hx hb dX6_mixTray_99 (by decide) ?_
            exact ih49 _ _ _ _ _ h hw hS _ (lv_sub hl [1, 2, 3, 4, 0] rfl)
          have lp59 : ∀ (nn59 : Nat) (t_59 : ST) (y4_59 : Int64) (y8_59 : Int32) (H : Heap) (locs : List Loc), wl_X6_mixTray_59 (fun u_96 z4_96 => (∀ x3 : Int32, x3 = y7_49 + (jI 1) → (wl_X6_mixTray_49 (fun u_102 z4_102 => Q z4_102 u_102) p1 r3 nn49) u_96 z4_96 x3)) p1 r3 y7_49 nn59 t_59 y4_59 y8_59 → zW D 116 (zce cy ad t_59) ad H → va_S (zA 116 ad) s.heap H locs → ∀ ls : Array Slot, lv_has ls 9 [(0, .ref (ad 0)), (3, .int p1), (4, .long y4_59), (6, .int r3), (7, .int y7_49), (8, .int y8_59)] → W p l e ({ frames := 5, cells := 0, slots := 0, locals := 110 } : Room) s m ([.ref (ad 0), .long p0, .int p1] : List Value).toArray below meth c H locs 0 0 (MQ below (va_Ql Q (zB D 116 (zce cy ad) ad) (zA 116 ad)) ([.ref (ad 0), .long p0, .int p1] : List Value).toArray s 0 0 (zA 116 ad)) (F0 m 59 ls []) := by
            intro nn59
            induction nn59 with
            | zero => intro _ _ _ _ _ h; exact h.elim
            | succ nn59 ih59 =>
              intro t_59 y4_59 y8_59 H locs h hw hS ls hl
              simp only [wl_X6_mixTray_59, wb_X6_mixTray_59] at h
              refine lv_iload hx hb dX6_mixTray_59 (lv_at hl 5 rfl) ?_
              refine lv_bipush (v := (jI 7)) hx hb dX6_mixTray_61 (by decide +kernel) ?_
              refine lv_icmp_ge (tgt := 96) hx hb dX6_mixTray_63 (by decide) (fun c3 => ?_) (fun c3 => ?_)
              · have h := h.1 c3
                exact k96_59 _ _ _ _ h hw hS _ (lv_sub hl [0, 1, 2, 3, 4] rfl)
              · have h := h.2 c3
                refine lv_lload hx hb dX6_mixTray_66 (lv_at hl 2 rfl) ?_
                refine lv_aload_n hx hb dX6_mixTray_68 rfl (lv_at hl 0 rfl) ?_
                refine zget hx hb hts inX6 hown hK hw 0 (by decide) rfl rfl 0 (by decide) lk0 (fun _ h9 => h9) rfl dX6_mixTray_69 ?_
                refine lv_iload_n hx hb dX6_mixTray_72 rfl (lv_at hl 1 rfl) ?_
                refine lv_bipush (v := (jI 24)) hx hb dX6_mixTray_73 (by decide +kernel) ?_
                refine lv_imul hx hb dX6_mixTray_75 ?_
                refine lv_iload hx hb dX6_mixTray_76 (lv_at hl 4 rfl) ?_
                refine lv_iadd hx hb dX6_mixTray_78 ?_
                refine lv_iload hx hb dX6_mixTray_79 (lv_at hl 5 rfl) ?_
                refine k_X4_shelfValue (rest := [.long y4_59]) hx hb hml hown hts gX6_mixTray_X4_shelfValue ⟨Nat.le_of_ble_eq_true rfl, Nat.le_of_ble_eq_true rfl⟩ ⟨Nat.zero_le _, Nat.zero_le _⟩ hK hj hw hA hS hl.1 (Nat.le_of_ble_eq_true rfl) dX6_mixTray_81 h (fun r4 s4 H locs h hw hS => ?_)
                refine lv_i2l hx hb dX6_mixTray_84 rfl ?_
                refine k_X6_mix (rest := []) hx hb hml hown hts gX6_mixTray_X6_mix ⟨Nat.le_of_ble_eq_true rfl, Nat.le_of_ble_eq_true rfl⟩ ⟨Nat.zero_le _, Nat.zero_le _⟩ hK hj hw hA hS hl.1 (Nat.le_of_ble_eq_true rfl) dX6_mixTray_85 h (fun r5 s5 H locs h hw hS => ?_)
                refine lv_lstore (lv' := [(4, .long r5), (0, .ref (ad 0)), (3, .int p1), (6, .int r3), (7, .int y7_49), (8, .int y8_59)]) hx hb dX6_mixTray_88 hl (by decide) rfl (fun ls hl => ?_)
                obtain ⟨x2, ex2⟩ : ∃ y : Int32, y = y8_59 + (jI 1) := ⟨_, rfl⟩
                have h := h x2 ex2
                refine lv_iinc (v := x2) (lv' := [(8, .int x2), (4, .long r5), (0, .ref (ad 0)), (3, .int p1), (6, .int r3), (7, .int y7_49)]) hx hb dX6_mixTray_90 hl (k := 5) rfl (by rw [ex2]; rfl) (by decide) rfl (fun ls hl => ?_)
                refine lv_goto (tgt := 59) hx hb dX6_mixTray_93 (by decide) ?_
                exact ih59 _ _ _ _ _ h hw hS _ (lv_sub hl [2, 3, 1, 4, 5, 0] rfl)
          obtain ⟨nn59, h⟩ := h
          exact lp59 nn59 _ _ _ _ _ h hw hS _ (lv_sub hl [1, 2, 3, 4, 5, 0] rfl)
    obtain ⟨nn49, h⟩ := h
    exact lp49 nn49 _ _ _ _ _ h hw hS _ (lv_sub hl [2, 3, 4, 1, 0] rfl)
  have lp6 : ∀ (nn6 : Nat) (t_6 : ST) (y4_6 : Int64) (y6_6 : Int32) (H : Heap) (locs : List Loc), wl_X6_mixTray_6 (fun u_36 z4_36 => wp_X4_countShelves u_36 p1 (fun r3 s3 => (∃ nn : Nat, wl_X6_mixTray_49 (fun u_102 z4_102 => Q z4_102 u_102) p1 r3 nn s3 z4_36 (jI 0)))) p1 nn6 t_6 y4_6 y6_6 → zW D 116 (zce cy ad t_6) ad H → va_S (zA 116 ad) s.heap H locs → ∀ ls : Array Slot, lv_has ls 9 [(0, .ref (ad 0)), (3, .int p1), (4, .long y4_6), (6, .int y6_6)] → W p l e ({ frames := 5, cells := 0, slots := 0, locals := 110 } : Room) s m ([.ref (ad 0), .long p0, .int p1] : List Value).toArray below meth c H locs 0 0 (MQ below (va_Ql Q (zB D 116 (zce cy ad) ad) (zA 116 ad)) ([.ref (ad 0), .long p0, .int p1] : List Value).toArray s 0 0 (zA 116 ad)) (F0 m 6 ls []) := by
    intro nn6
    induction nn6 with
    | zero => intro _ _ _ _ _ h; exact h.elim
    | succ nn6 ih6 =>
      intro t_6 y4_6 y6_6 H locs h hw hS ls hl
      simp only [wl_X6_mixTray_6, wb_X6_mixTray_6] at h
      refine lv_iload hx hb dX6_mixTray_6 (lv_at hl 3 rfl) ?_
      refine lv_iconst (v := (jI 4)) hx hb dX6_mixTray_8 rfl ?_
      refine lv_icmp_ge (tgt := 36) hx hb dX6_mixTray_9 (by decide) (fun c1 => ?_) (fun c1 => ?_)
      · have h := h.1 c1
        exact k36_6 _ _ _ _ h hw hS _ (lv_sub hl [0, 1, 2] rfl)
      · have h := h.2 c1
        refine lv_lload hx hb dX6_mixTray_12 (lv_at hl 2 rfl) ?_
        refine lv_aload_n hx hb dX6_mixTray_14 rfl (lv_at hl 0 rfl) ?_
        refine zget hx hb hts inX6 hown hK hw 0 (by decide) rfl rfl 0 (by decide) lk0 (fun _ h9 => h9) rfl dX6_mixTray_15 ?_
        refine lv_iload_n hx hb dX6_mixTray_18 rfl (lv_at hl 1 rfl) ?_
        refine lv_iload hx hb dX6_mixTray_19 (lv_at hl 3 rfl) ?_
        refine k_X4_trayValue (rest := [.long y4_6]) hx hb hml hown hts gX6_mixTray_X4_trayValue ⟨Nat.le_of_ble_eq_true rfl, Nat.le_of_ble_eq_true rfl⟩ ⟨Nat.zero_le _, Nat.zero_le _⟩ hK hj hw hA hS hl.1 (Nat.le_of_ble_eq_true rfl) dX6_mixTray_21 h (fun r1 s1 H locs h hw hS => ?_)
        refine lv_i2l hx hb dX6_mixTray_24 rfl ?_
        refine k_X6_mix (rest := []) hx hb hml hown hts gX6_mixTray_X6_mix ⟨Nat.le_of_ble_eq_true rfl, Nat.le_of_ble_eq_true rfl⟩ ⟨Nat.zero_le _, Nat.zero_le _⟩ hK hj hw hA hS hl.1 (Nat.le_of_ble_eq_true rfl) dX6_mixTray_25 h (fun r2 s2 H locs h hw hS => ?_)
        refine lv_lstore (lv' := [(4, .long r2), (0, .ref (ad 0)), (3, .int p1), (6, .int y6_6)]) hx hb dX6_mixTray_28 hl (by decide) rfl (fun ls hl => ?_)
        obtain ⟨x1, ex1⟩ : ∃ y : Int32, y = y6_6 + (jI 1) := ⟨_, rfl⟩
        have h := h x1 ex1
        refine lv_iinc (v := x1) (lv' := [(6, .int x1), (4, .long r2), (0, .ref (ad 0)), (3, .int p1)]) hx hb dX6_mixTray_30 hl (k := 3) rfl (by rw [ex1]; rfl) (by decide) rfl (fun ls hl => ?_)
        refine lv_goto (tgt := 6) hx hb dX6_mixTray_33 (by decide) ?_
        exact ih6 _ _ _ _ _ h hw hS _ (lv_sub hl [2, 3, 1, 0] rfl)
  obtain ⟨nn6, h⟩ := h
  exact lp6 nn6 _ _ _ _ _ h hw hS _ (lv_sub hl [2, 4, 1, 0] rfl)
theorem k_X6_mixTray {p : Program} {l : Launch} {e : Env} {R : Room} {s : State} {m : MethodId} {args : Array Value} {below : List Frame} {meth : Method} {c : Code} {H : Heap} {locs : List Loc} {cells slots : Nat} {QQ : State → Prop} {cc : ByteArray} {pc nL index : Nat} {ls : Array Slot} {rest : List Value} {D : va_G} {cy : cyT} {ad : Nat → Nat} {own : String} {Ts : List Cond} {H0 : Heap} {σ : ST} {p0 : Int64} {p1 : Int32} {Q : Int64 → ST → Prop} (hx : p.tables.exec = Jvm.exec) (hb : c.code = cc) (hml : c.maxLocals = nL) (hown : s.vm.findClass own = some m.cls) (hts : ∀ w ∈ Ts, w.before args s = true) (hG : GoodIn Ts (wsV own index RX6 yX6_mixTray wsX6_mixTray)) (hR : 5 + 1 ≤ R.frames ∧ 8 + (9 + 11) + 110 ≤ R.locals) (hcs : cells ≤ R.cells ∧ slots ≤ R.slots) (hK : zK D cy s) (hj : zI 116 ad) (hw : zW D 116 (zce cy ad σ) ad H) {A0 : Nat → Prop} (hA : ∀ i, i < 116 → A0 (ad i)) (hS : va_S A0 H0 H locs) (hsz : ls.size = nL) (hrest : (rest.map fun v => v.category).sum ≤ 8) (hdg : decode cc pc = .ok (.invokevirtual index, 3)) (h : wp_X6_mixTray σ p0 p1 Q) (kk : ∀ (r : Int64) (σ : ST) (H : Heap) (locs : List Loc), Q r σ → zW D 116 (zce cy ad σ) ad H → va_S A0 H0 H locs → W p l e R s m args below meth c H locs cells slots QQ (F0 m (pc + 3) ls (.long r :: rest))) : W p l e R s m args below meth c H locs cells slots QQ (F0 m pc ls (.int p1 :: .long p0 :: .ref (ad 0) :: rest)) :=
  zcalll (va_runV (As := [.long p0, .int p1]) (rest := rest) ⟨hx, hb, hml, hown, hts⟩ (c_X6_mixTray l D cy ad σ p0 p1 h) (cwV 2 hts hG rfl rfl rfl (by decide +kernel) hR) (zpreV hj hK hw _ (i := 0) (ci := 5) (by decide) rfl rfl) rfl rfl hsz rfl (lv_room hrest) hdg hcs) hA hS kk
set_option maxHeartbeats 4000000 in
set_option maxRecDepth 100000 in
theorem c_X7_thrown (l : Launch) (D : va_G) (cy : cyT) (ad : Nat → Nat) (σ : ST) {Q : Int32 → ST → Prop} (h : wp_X7_thrown σ Q) : Met l yX7_thrown wsX7_thrown ({ frames := 0, cells := 0, slots := 0, locals := 0 } : Room) (zPre D cy 6 (zme cy ad σ) ad [.ref (ad 0)]) (va_Qi Q (zB D 6 (zme cy ad) ad) (zA 6 ad)) 0 0 (zA 6 ad) := by
  refine Met.ofW (cc := cX7_thrown) (maxL := 1) (ret := (some .int)) (by decide) rfl ?_
  intro p e s m args below meth c s₁ B hml hv
  obtain ⟨rfl, hj, hK, hw⟩ := hv
  have hx := B.exec
  have hb := B.bytes
  have hr := B.returns
  have hts := atoms_spec (ws := wsX7_thrown) B.pre
  have hown : s.vm.findClass RX7 = some m.cls := findClass_of_methodNamed B.named
  have hlocks := B.notSynchronized
  have lk0 : Cond.fieldLink RX7 26 "TypeTraysModel" "thrown" "I" ∈ wsX7_thrown := List.mem_of_getElem? (i := 1) rfl
  have inX7 : ∀ w ∈ u_ws RX7 TX7 16, w ∈ wsX7_thrown := zin_at 2 rfl
  have hS : va_S (zA 6 ad) s.heap s.heap [] := va_S.rf
  have hA : ∀ i, i < 6 → zA 6 ad (ad i) := fun i hi => ⟨i, hi, rfl⟩
  have hl := lv_entry ([.ref (ad 0)]) (n := 1) (Nat.le_of_ble_eq_true rfl)
  rw [lg_entry_eq]
  generalize (lg_sl ([.ref (ad 0)]) ++ List.replicate (1 - (lg_sl ([.ref (ad 0)])).length) Slot.unset).toArray = ls at hl ⊢
  have hl : lv_has ls 1 [(0, .ref (ad 0))] := hl
  show W p l e ({ frames := 0, cells := 0, slots := 0, locals := 0 } : Room) s m ([.ref (ad 0)] : List Value).toArray below meth c s.heap [] 0 0 (MQ below (va_Qi Q (zB D 6 (zme cy ad) ad) (zA 6 ad)) ([.ref (ad 0)] : List Value).toArray s 0 0 (zA 6 ad)) (F0 m 0 ls [])
  unfold wp_X7_thrown at h
  refine lv_aload_n hx hb dX7_thrown_0 rfl (lv_at hl 0 rfl) ?_
  refine zget hx hb hts inX7 hown hK hw 0 (by decide) rfl rfl 3 (by decide) lk0 (fun _ h9 => h9) rfl dX7_thrown_1 ?_
  exact W.iret (v := (σ.2 1)) hx hb hr (fun t ht hW => ⟨⟨_, _, rfl, h, zend hw ht⟩, hS.F ht⟩) hS.2.2 dX7_thrown_4
theorem k_X7_thrown {p : Program} {l : Launch} {e : Env} {R : Room} {s : State} {m : MethodId} {args : Array Value} {below : List Frame} {meth : Method} {c : Code} {H : Heap} {locs : List Loc} {cells slots : Nat} {QQ : State → Prop} {cc : ByteArray} {pc nL index : Nat} {ls : Array Slot} {rest : List Value} {D : va_G} {cy : cyT} {ad : Nat → Nat} {own : String} {Ts : List Cond} {H0 : Heap} {σ : ST}  {Q : Int32 → ST → Prop} (hx : p.tables.exec = Jvm.exec) (hb : c.code = cc) (hml : c.maxLocals = nL) (hown : s.vm.findClass own = some m.cls) (hts : ∀ w ∈ Ts, w.before args s = true) (hG : GoodIn Ts (wsV own index RX7 yX7_thrown wsX7_thrown)) (hR : 0 + 1 ≤ R.frames ∧ 8 + (1 + 11) + 0 ≤ R.locals) (hcs : cells ≤ R.cells ∧ slots ≤ R.slots) (hK : zK D cy s) (hj : zI 6 ad) (hw : zW D 6 (zme cy ad σ) ad H) {A0 : Nat → Prop} (hA : ∀ i, i < 6 → A0 (ad i)) (hS : va_S A0 H0 H locs) (hsz : ls.size = nL) (hrest : (rest.map fun v => v.category).sum ≤ 8) (hdg : decode cc pc = .ok (.invokevirtual index, 3)) (h : wp_X7_thrown σ  Q) (kk : ∀ (r : Int32) (σ : ST) (H : Heap) (locs : List Loc), Q r σ → zW D 6 (zme cy ad σ) ad H → va_S A0 H0 H locs → W p l e R s m args below meth c H locs cells slots QQ (F0 m (pc + 3) ls (.int r :: rest))) : W p l e R s m args below meth c H locs cells slots QQ (F0 m pc ls (.ref (ad 0) :: rest)) :=
  zcalli (va_runV (As := []) (rest := rest) ⟨hx, hb, hml, hown, hts⟩ (c_X7_thrown l D cy ad σ  h) (cwV 0 hts hG rfl rfl rfl (by decide +kernel) hR) (zpreV hj hK hw _ (i := 0) (ci := 6) (by decide) rfl rfl) rfl rfl hsz rfl (lv_room hrest) hdg hcs) hA hS kk
set_option maxHeartbeats 4000000 in
set_option maxRecDepth 100000 in
theorem c_X7_in (l : Launch) (D : va_G) (cy : cyT) (ad : Nat → Nat) (σ : ST) (p0 : Int32) (p1 : Int32) (p2 : Int32) {Q : Int32 → ST → Prop} (h : wp_X7_in σ p0 p1 p2 Q) : Met l yX7_in wsX7_in ({ frames := 0, cells := 0, slots := 0, locals := 0 } : Room) (zPre D cy 6 (zme cy ad σ) ad [.int p0, .int p1, .int p2]) (va_Qi Q (zB D 6 (zme cy ad) ad) (zA 6 ad)) 0 0 (zA 6 ad) := by
  refine Met.ofW (cc := cX7_in) (maxL := 3) (ret := (some .boolean)) (by decide) rfl ?_
  intro p e s m args below meth c s₁ B hml hv
  obtain ⟨rfl, hj, hK, hw⟩ := hv
  have hx := B.exec
  have hb := B.bytes
  have hr := B.returns
  have hts := atoms_spec (ws := wsX7_in) B.pre
  have hown : s.vm.findClass RX7 = some m.cls := findClass_of_methodNamed B.named
  have hlocks := B.notSynchronized
  have hS : va_S (zA 6 ad) s.heap s.heap [] := va_S.rf
  have hA : ∀ i, i < 6 → zA 6 ad (ad i) := fun i hi => ⟨i, hi, rfl⟩
  have hl := lv_entry ([.int p0, .int p1, .int p2]) (n := 3) (Nat.le_of_ble_eq_true rfl)
  rw [lg_entry_eq]
  generalize (lg_sl ([.int p0, .int p1, .int p2]) ++ List.replicate (3 - (lg_sl ([.int p0, .int p1, .int p2])).length) Slot.unset).toArray = ls at hl ⊢
  have hl : lv_has ls 3 [(0, .int p0), (1, .int p1), (2, .int p2)] := hl
  show W p l e ({ frames := 0, cells := 0, slots := 0, locals := 0 } : Room) s m ([.int p0, .int p1, .int p2] : List Value).toArray below meth c s.heap [] 0 0 (MQ below (va_Qi Q (zB D 6 (zme cy ad) ad) (zA 6 ad)) ([.int p0, .int p1, .int p2] : List Value).toArray s 0 0 (zA 6 ad)) (F0 m 0 ls [])
  unfold wp_X7_in at h
  refine lv_iload_n hx hb dX7_in_0 rfl (lv_at hl 0 rfl) ?_
  refine lv_iload_n hx hb dX7_in_1 rfl (lv_at hl 1 rfl) ?_
  refine lv_icmp_lt (tgt := 14) hx hb dX7_in_2 (by decide) (fun c1 => ?_) (fun c1 => ?_)
  · have h := h.1 c1
    refine lv_iconst (v := (jI 0)) hx hb dX7_in_14 rfl ?_
    exact W.zret (v := (jI 0)) (ty := .boolean) hx hb hr (by decide +kernel) (fun t ht hW => ⟨⟨_, _, rfl, h, zend hw ht⟩, hS.F ht⟩) hS.2.2 dX7_in_15
  · have h := h.2 c1
    refine lv_iload_n hx hb dX7_in_5 rfl (lv_at hl 0 rfl) ?_
    refine lv_iload_n hx hb dX7_in_6 rfl (lv_at hl 2 rfl) ?_
    refine lv_icmp_gt (tgt := 14) hx hb dX7_in_7 (by decide) (fun c2 => ?_) (fun c2 => ?_)
    · have h := h.1 c2
      refine lv_iconst (v := (jI 0)) hx hb dX7_in_14 rfl ?_
      exact W.zret (v := (jI 0)) (ty := .boolean) hx hb hr (by decide +kernel) (fun t ht hW => ⟨⟨_, _, rfl, h, zend hw ht⟩, hS.F ht⟩) hS.2.2 dX7_in_15
    · have h := h.2 c2
      refine lv_iconst (v := (jI 1)) hx hb dX7_in_10 rfl ?_
      refine lv_goto (tgt := 15) hx hb dX7_in_11 (by decide) ?_
      exact W.zret (v := (jI 1)) (ty := .boolean) hx hb hr (by decide +kernel) (fun t ht hW => ⟨⟨_, _, rfl, h, zend hw ht⟩, hS.F ht⟩) hS.2.2 dX7_in_15
theorem k_X7_in {p : Program} {l : Launch} {e : Env} {R : Room} {s : State} {m : MethodId} {args : Array Value} {below : List Frame} {meth : Method} {c : Code} {H : Heap} {locs : List Loc} {cells slots : Nat} {QQ : State → Prop} {cc : ByteArray} {pc nL index : Nat} {ls : Array Slot} {rest : List Value} {D : va_G} {cy : cyT} {ad : Nat → Nat} {own : String} {Ts : List Cond} {H0 : Heap} {σ : ST} {p0 : Int32} {p1 : Int32} {p2 : Int32} {Q : Int32 → ST → Prop} (hx : p.tables.exec = Jvm.exec) (hb : c.code = cc) (hml : c.maxLocals = nL) (hown : s.vm.findClass own = some m.cls) (hts : ∀ w ∈ Ts, w.before args s = true) (hG : GoodIn Ts (va_wsS own index yX7_in wsX7_in)) (hR : 0 + 1 ≤ R.frames ∧ 8 + (3 + 11) + 0 ≤ R.locals) (hcs : cells ≤ R.cells ∧ slots ≤ R.slots) (hK : zK D cy s) (hj : zI 6 ad) (hw : zW D 6 (zme cy ad σ) ad H) {A0 : Nat → Prop} (hA : ∀ i, i < 6 → A0 (ad i)) (hS : va_S A0 H0 H locs) (hsz : ls.size = nL) (hrest : (rest.map fun v => v.category).sum ≤ 8) (hdg : decode cc pc = .ok (.invokestatic index, 3)) (h : wp_X7_in σ p0 p1 p2 Q) (kk : ∀ (r : Int32) (σ : ST) (H : Heap) (locs : List Loc), Q r σ → zW D 6 (zme cy ad σ) ad H → va_S A0 H0 H locs → W p l e R s m args below meth c H locs cells slots QQ (F0 m (pc + 3) ls (.int r :: rest))) : W p l e R s m args below meth c H locs cells slots QQ (F0 m pc ls (.int p2 :: .int p1 :: .int p0 :: rest)) :=
  zcalli (va_runS (As := [.int p0, .int p1, .int p2]) (rest := rest) ⟨hx, hb, hml, hown, hts⟩ (c_X7_in l D cy ad σ p0 p1 p2 h) (va_cwS 3 hts hG rfl rfl rfl (by decide +kernel) hR) (zpreS hj hK hw _) rfl rfl hsz rfl (lv_room hrest) hdg hcs) hA hS kk
set_option maxHeartbeats 4000000 in
set_option maxRecDepth 100000 in
theorem c_X7_saves (l : Launch) (D : va_G) (cy : cyT) (ad : Nat → Nat) (σ : ST) {Q : ST → Prop} (h : wp_X7_saves σ Q) : Met l yX7_saves wsX7_saves ({ frames := 0, cells := 0, slots := 0, locals := 0 } : Room) (zPre D cy 6 (zme cy ad σ) ad [.ref (ad 0)]) (va_Qv Q (zB D 6 (zme cy ad) ad) (zA 6 ad)) 0 0 (zA 6 ad) := by
  refine Met.ofW (cc := cX7_saves) (maxL := 2) (ret := none) (by decide) rfl ?_
  intro p e s m args below meth c s₁ B hml hv
  obtain ⟨rfl, hj, hK, hw⟩ := hv
  have hx := B.exec
  have hb := B.bytes
  have hr := B.returns
  have hts := atoms_spec (ws := wsX7_saves) B.pre
  have hown : s.vm.findClass RX7 = some m.cls := findClass_of_methodNamed B.named
  have hlocks := B.notSynchronized
  have lk0 : Cond.fieldLink RX7 30 "TypeTraysModel" "saved" "I" ∈ wsX7_saves := List.mem_of_getElem? (i := 1) rfl
  have lk1 : Cond.fieldLink RX7 13 "TypeTraysModel" "past" "[I" ∈ wsX7_saves := List.mem_of_getElem? (i := 2) rfl
  have lk2 : Cond.fieldLink RX7 7 "TypeTraysModel" "w" "[I" ∈ wsX7_saves := List.mem_of_getElem? (i := 3) rfl
  have inX7 : ∀ w ∈ u_ws RX7 TX7 16, w ∈ wsX7_saves := zin_at 4 rfl
  have hS : va_S (zA 6 ad) s.heap s.heap [] := va_S.rf
  have hA : ∀ i, i < 6 → zA 6 ad (ad i) := fun i hi => ⟨i, hi, rfl⟩
  have hl := lv_entry ([.ref (ad 0)]) (n := 2) (Nat.le_of_ble_eq_true rfl)
  rw [lg_entry_eq]
  generalize (lg_sl ([.ref (ad 0)]) ++ List.replicate (2 - (lg_sl ([.ref (ad 0)])).length) Slot.unset).toArray = ls at hl ⊢
  have hl : lv_has ls 2 [(0, .ref (ad 0))] := hl
  show W p l e ({ frames := 0, cells := 0, slots := 0, locals := 0 } : Room) s m ([.ref (ad 0)] : List Value).toArray below meth c s.heap [] 0 0 (MQ below (va_Qv Q (zB D 6 (zme cy ad) ad) (zA 6 ad)) ([.ref (ad 0)] : List Value).toArray s 0 0 (zA 6 ad)) (F0 m 0 ls [])
  unfold wp_X7_saves at h
  refine lv_aload_n hx hb dX7_saves_0 rfl (lv_at hl 0 rfl) ?_
  refine zget hx hb hts inX7 hown hK hw 0 (by decide) rfl rfl 2 (by decide) lk0 (fun _ h9 => h9) rfl dX7_saves_1 ?_
  refine lv_iconst (v := (jI 4)) hx hb dX7_saves_4 rfl ?_
  refine lv_icmp_ne (tgt := 49) hx hb dX7_saves_5 (by decide) (fun c1 => ?_) (fun c1 => ?_)
  · have h := h.2 c1
    refine lv_iconst (v := (jI 0)) hx hb dX7_saves_49 rfl ?_
    refine lv_istore_n (lv' := [(1, .int (jI 0)), (0, .ref (ad 0))]) hx hb dX7_saves_50 rfl hl (by decide) rfl (fun ls hl => ?_)
    have k85_51 : ∀ (u_85 : ST) (H : Heap) (locs : List Loc), (∀ s2 : ST, s2 = zsp u_85 0 ((u_85.2 0) + (jI 1)) → Q s2) → zW D 6 (zme cy ad u_85) ad H → va_S (zA 6 ad) s.heap H locs → ∀ ls : Array Slot, lv_has ls 2 [(0, .ref (ad 0))] → W p l e ({ frames := 0, cells := 0, slots := 0, locals := 0 } : Room) s m ([.ref (ad 0)] : List Value).toArray below meth c H locs 0 0 (MQ below (va_Qv Q (zB D 6 (zme cy ad) ad) (zA 6 ad)) ([.ref (ad 0)] : List Value).toArray s 0 0 (zA 6 ad)) (F0 m 85 ls []) := by
      intro u_85 H locs h hw hS ls hl
      refine lv_aload_n hx hb dX7_saves_85 rfl (lv_at hl 0 rfl) ?_
      refine lv_dup hx hb dX7_saves_86 rfl ?_
      refine zget hx hb hts inX7 hown hK hw 0 (by decide) rfl rfl 2 (by decide) lk0 (fun _ h9 => h9) rfl dX7_saves_87 ?_
      refine lv_iconst (v := (jI 1)) hx hb dX7_saves_90 rfl ?_
      refine lv_iadd hx hb dX7_saves_91 ?_
      obtain ⟨s2, es2⟩ : ∃ y : ST, y = zsp u_85 0 ((u_85.2 0) + (jI 1)) := ⟨_, rfl⟩
      have h := h s2 es2
      refine zput (ty := .int) hx hb hts inX7 tyX7 tyX7_ok nmX7 hown hK hj hw hA hS 0 (by decide) rfl rfl 2 (by decide) lk0 (fun _ h9 => h9) rfl (by decide +kernel) rfl rfl (Nat.le_of_ble_eq_true rfl) dX7_saves_92 (zme cy ad s2) (by rw [es2]; rfl) (fun j hj9 => by rw [es2]; exact zsp_off_M_0 j hj9) (fun H locs hw hS => ?_)
      exact W.vret hx hb hr (fun t ht hW => ⟨⟨_, rfl, h, zend hw ht⟩, hS.F ht⟩) hS.2.2 dX7_saves_95
    have lp51 : ∀ (nn51 : Nat) (t_51 : ST) (y1_51 : Int32) (H : Heap) (locs : List Loc), wl_X7_saves_51 (fun u_85 => (∀ s2 : ST, s2 = zsp u_85 0 ((u_85.2 0) + (jI 1)) → Q s2))  nn51 t_51 y1_51 → zW D 6 (zme cy ad t_51) ad H → va_S (zA 6 ad) s.heap H locs → ∀ ls : Array Slot, lv_has ls 2 [(0, .ref (ad 0)), (1, .int y1_51)] → W p l e ({ frames := 0, cells := 0, slots := 0, locals := 0 } : Room) s m ([.ref (ad 0)] : List Value).toArray below meth c H locs 0 0 (MQ below (va_Qv Q (zB D 6 (zme cy ad) ad) (zA 6 ad)) ([.ref (ad 0)] : List Value).toArray s 0 0 (zA 6 ad)) (F0 m 51 ls []) := by
      intro nn51
      induction nn51 with
      | zero => intro _ _ _ _ h; exact h.elim
      | succ nn51 ih51 =>
        intro t_51 y1_51 H locs h hw hS ls hl
        simp only [wl_X7_saves_51, wb_X7_saves_51] at h
        refine lv_iload_n hx hb dX7_saves_51 rfl (lv_at hl 1 rfl) ?_
        refine lv_sipush (v := (jI 983)) hx hb dX7_saves_52 (by decide +kernel) ?_
        refine lv_icmp_ge (tgt := 85) hx hb dX7_saves_55 (by decide) (fun c2 => ?_) (fun c2 => ?_)
        · have h := h.1 c2
          exact k85_51 _ _ _ h hw hS _ (lv_sub hl [0] rfl)
        · have h := h.2 c2
          refine lv_aload_n hx hb dX7_saves_58 rfl (lv_at hl 0 rfl) ?_
          refine zget hx hb hts inX7 hown hK hw 0 (by decide) rfl rfl 1 (by decide) lk1 (fun _ h9 => h9) rfl dX7_saves_59 ?_
          refine lv_sipush (v := (jI 983)) hx hb dX7_saves_62 (by decide +kernel) ?_
          refine lv_aload_n hx hb dX7_saves_65 rfl (lv_at hl 0 rfl) ?_
          refine zget hx hb hts inX7 hown hK hw 0 (by decide) rfl rfl 2 (by decide) lk0 (fun _ h9 => h9) rfl dX7_saves_66 ?_
          refine lv_imul hx hb dX7_saves_69 ?_
          refine lv_iload_n hx hb dX7_saves_70 rfl (lv_at hl 1 rfl) ?_
          refine lv_iadd hx hb dX7_saves_71 ?_
          refine lv_aload_n hx hb dX7_saves_72 rfl (lv_at hl 0 rfl) ?_
          refine zget hx hb hts inX7 hown hK hw 0 (by decide) rfl rfl 0 (by decide) lk2 (fun _ h9 => h9) rfl dX7_saves_73 ?_
          refine lv_iload_n hx hb dX7_saves_76 rfl (lv_at hl 1 rfl) ?_
          refine ziald hx hb hK hw 1 (by decide) rfl h.1 dX7_saves_77 ?_
          refine lv_topi (fun v1 ev1 => ?_)
          have h := h.2 v1 ev1
          obtain ⟨s1, es1⟩ : ∃ y : ST, y = zrp t_51 1 (((jI 983) * (t_51.2 0)) + y1_51).toNatClampNeg v1 := ⟨_, rfl⟩
          refine ziast hx hb hK hj hw hA hS 2 (by decide) rfl h.1 dX7_saves_78 (zme cy ad s1) (by rw [es1]; exact zrp_on_M_1) (fun j hj9 => by rw [es1]; exact zrp_off_M_1 j hj9) (fun H locs hw hS => ?_)
          have h := h.2 s1 es1
          obtain ⟨x1, ex1⟩ : ∃ y : Int32, y = y1_51 + (jI 1) := ⟨_, rfl⟩
          have h := h x1 ex1
          refine lv_iinc (v := x1) (lv' := [(1, .int x1), (0, .ref (ad 0))]) hx hb dX7_saves_79 hl (k := 1) rfl (by rw [ex1]; rfl) (by decide) rfl (fun ls hl => ?_)
          refine lv_goto (tgt := 51) hx hb dX7_saves_82 (by decide) ?_
          exact ih51 _ _ _ _ h hw hS _ (lv_sub hl [1, 0] rfl)
    obtain ⟨nn51, h⟩ := h
    exact lp51 nn51 _ _ _ _ h hw hS _ (lv_sub hl [1, 0] rfl)
  · have h := h.1 c1
    refine lv_iconst (v := (jI 0)) hx hb dX7_saves_8 rfl ?_
    refine lv_istore_n (lv' := [(1, .int (jI 0)), (0, .ref (ad 0))]) hx hb dX7_saves_9 rfl hl (by decide) rfl (fun ls hl => ?_)
    have k39_10 : ∀ (u_39 : ST) (H : Heap) (locs : List Loc), (∀ s4 : ST, s4 = zsp u_39 0 ((u_39.2 0) - (jI 1)) → (∃ nn : Nat, wl_X7_saves_51 (fun u_85 => (∀ s6 : ST, s6 = zsp u_85 0 ((u_85.2 0) + (jI 1)) → Q s6))  nn s4 (jI 0))) → zW D 6 (zme cy ad u_39) ad H → va_S (zA 6 ad) s.heap H locs → ∀ ls : Array Slot, lv_has ls 2 [(0, .ref (ad 0))] → W p l e ({ frames := 0, cells := 0, slots := 0, locals := 0 } : Room) s m ([.ref (ad 0)] : List Value).toArray below meth c H locs 0 0 (MQ below (va_Qv Q (zB D 6 (zme cy ad) ad) (zA 6 ad)) ([.ref (ad 0)] : List Value).toArray s 0 0 (zA 6 ad)) (F0 m 39 ls []) := by
      intro u_39 H locs h hw hS ls hl
      refine lv_aload_n hx hb dX7_saves_39 rfl (lv_at hl 0 rfl) ?_
      refine lv_dup hx hb dX7_saves_40 rfl ?_
      refine zget hx hb hts inX7 hown hK hw 0 (by decide) rfl rfl 2 (by decide) lk0 (fun _ h9 => h9) rfl dX7_saves_41 ?_
      refine lv_iconst (v := (jI 1)) hx hb dX7_saves_44 rfl ?_
      refine lv_isub hx hb dX7_saves_45 ?_
      obtain ⟨s4, es4⟩ : ∃ y : ST, y = zsp u_39 0 ((u_39.2 0) - (jI 1)) := ⟨_, rfl⟩
      have h := h s4 es4
      refine zput (ty := .int) hx hb hts inX7 tyX7 tyX7_ok nmX7 hown hK hj hw hA hS 0 (by decide) rfl rfl 2 (by decide) lk0 (fun _ h9 => h9) rfl (by decide +kernel) rfl rfl (Nat.le_of_ble_eq_true rfl) dX7_saves_46 (zme cy ad s4) (by rw [es4]; rfl) (fun j hj9 => by rw [es4]; exact zsp_off_M_0 j hj9) (fun H locs hw hS => ?_)
      refine lv_iconst (v := (jI 0)) hx hb dX7_saves_49 rfl ?_
      refine lv_istore_n (lv' := [(1, .int (jI 0)), (0, .ref (ad 0))]) hx hb dX7_saves_50 rfl hl (by decide) rfl (fun ls hl => ?_)
      have k85_51 : ∀ (u_85 : ST) (H : Heap) (locs : List Loc), (∀ s6 : ST, s6 = zsp u_85 0 ((u_85.2 0) + (jI 1)) → Q s6) → zW D 6 (zme cy ad u_85) ad H → va_S (zA 6 ad) s.heap H locs → ∀ ls : Array Slot, lv_has ls 2 [(0, .ref (ad 0))] → W p l e ({ frames := 0, cells := 0, slots := 0, locals := 0 } : Room) s m ([.ref (ad 0)] : List Value).toArray below meth c H locs 0 0 (MQ below (va_Qv Q (zB D 6 (zme cy ad) ad) (zA 6 ad)) ([.ref (ad 0)] : List Value).toArray s 0 0 (zA 6 ad)) (F0 m 85 ls []) := by
        intro u_85 H locs h hw hS ls hl
        refine lv_aload_n hx hb dX7_saves_85 rfl (lv_at hl 0 rfl) ?_
        refine lv_dup hx hb dX7_saves_86 rfl ?_
        refine zget hx hb hts inX7 hown hK hw 0 (by decide) rfl rfl 2 (by decide) lk0 (fun _ h9 => h9) rfl dX7_saves_87 ?_
        refine lv_iconst (v := (jI 1)) hx hb dX7_saves_90 rfl ?_
        refine lv_iadd hx hb dX7_saves_91 ?_
        obtain ⟨s6, es6⟩ : ∃ y : ST, y = zsp u_85 0 ((u_85.2 0) + (jI 1)) := ⟨_, rfl⟩
        have h := h s6 es6
        refine zput (ty := .int) hx hb hts inX7 tyX7 tyX7_ok nmX7 hown hK hj hw hA hS 0 (by decide) rfl rfl 2 (by decide) lk0 (fun _ h9 => h9) rfl (by decide +kernel) rfl rfl (Nat.le_of_ble_eq_true rfl) dX7_saves_92 (zme cy ad s6) (by rw [es6]; rfl) (fun j hj9 => by rw [es6]; exact zsp_off_M_0 j hj9) (fun H locs hw hS => ?_)
        exact W.vret hx hb hr (fun t ht hW => ⟨⟨_, rfl, h, zend hw ht⟩, hS.F ht⟩) hS.2.2 dX7_saves_95
      have lp51 : ∀ (nn51 : Nat) (t_51 : ST) (y1_51 : Int32) (H : Heap) (locs : List Loc), wl_X7_saves_51 (fun u_85 => (∀ s6 : ST, s6 = zsp u_85 0 ((u_85.2 0) + (jI 1)) → Q s6))  nn51 t_51 y1_51 → zW D 6 (zme cy ad t_51) ad H → va_S (zA 6 ad) s.heap H locs → ∀ ls : Array Slot, lv_has ls 2 [(0, .ref (ad 0)), (1, .int y1_51)] → W p l e ({ frames := 0, cells := 0, slots := 0, locals := 0 } : Room) s m ([.ref (ad 0)] : List Value).toArray below meth c H locs 0 0 (MQ below (va_Qv Q (zB D 6 (zme cy ad) ad) (zA 6 ad)) ([.ref (ad 0)] : List Value).toArray s 0 0 (zA 6 ad)) (F0 m 51 ls []) := by
        intro nn51
        induction nn51 with
        | zero => intro _ _ _ _ h; exact h.elim
        | succ nn51 ih51 =>
          intro t_51 y1_51 H locs h hw hS ls hl
          simp only [wl_X7_saves_51, wb_X7_saves_51] at h
          refine lv_iload_n hx hb dX7_saves_51 rfl (lv_at hl 1 rfl) ?_
          refine lv_sipush (v := (jI 983)) hx hb dX7_saves_52 (by decide +kernel) ?_
          refine lv_icmp_ge (tgt := 85) hx hb dX7_saves_55 (by decide) (fun c4 => ?_) (fun c4 => ?_)
          · have h := h.1 c4
            exact k85_51 _ _ _ h hw hS _ (lv_sub hl [0] rfl)
          · have h := h.2 c4
            refine lv_aload_n hx hb dX7_saves_58 rfl (lv_at hl 0 rfl) ?_
            refine zget hx hb hts inX7 hown hK hw 0 (by decide) rfl rfl 1 (by decide) lk1 (fun _ h9 => h9) rfl dX7_saves_59 ?_
            refine lv_sipush (v := (jI 983)) hx hb dX7_saves_62 (by decide +kernel) ?_
            refine lv_aload_n hx hb dX7_saves_65 rfl (lv_at hl 0 rfl) ?_
            refine zget hx hb hts inX7 hown hK hw 0 (by decide) rfl rfl 2 (by decide) lk0 (fun _ h9 => h9) rfl dX7_saves_66 ?_
            refine lv_imul hx hb dX7_saves_69 ?_
            refine lv_iload_n hx hb dX7_saves_70 rfl (lv_at hl 1 rfl) ?_
            refine lv_iadd hx hb dX7_saves_71 ?_
            refine lv_aload_n hx hb dX7_saves_72 rfl (lv_at hl 0 rfl) ?_
            refine zget hx hb hts inX7 hown hK hw 0 (by decide) rfl rfl 0 (by decide) lk2 (fun _ h9 => h9) rfl dX7_saves_73 ?_
            refine lv_iload_n hx hb dX7_saves_76 rfl (lv_at hl 1 rfl) ?_
            refine ziald hx hb hK hw 1 (by decide) rfl h.1 dX7_saves_77 ?_
            refine lv_topi (fun v3 ev3 => ?_)
            have h := h.2 v3 ev3
            obtain ⟨s5, es5⟩ : ∃ y : ST, y = zrp t_51 1 (((jI 983) * (t_51.2 0)) + y1_51).toNatClampNeg v3 := ⟨_, rfl⟩
            refine ziast hx hb hK hj hw hA hS 2 (by decide) rfl h.1 dX7_saves_78 (zme cy ad s5) (by rw [es5]; exact zrp_on_M_1) (fun j hj9 => by rw [es5]; exact zrp_off_M_1 j hj9) (fun H locs hw hS => ?_)
            have h := h.2 s5 es5
            obtain ⟨x3, ex3⟩ : ∃ y : Int32, y = y1_51 + (jI 1) := ⟨_, rfl⟩
            have h := h x3 ex3
            refine lv_iinc (v := x3) (lv' := [(1, .int x3), (0, .ref (ad 0))]) hx hb dX7_saves_79 hl (k := 1) rfl (by rw [ex3]; rfl) (by decide) rfl (fun ls hl => ?_)
            refine lv_goto (tgt := 51) hx hb dX7_saves_82 (by decide) ?_
            exact ih51 _ _ _ _ h hw hS _ (lv_sub hl [1, 0] rfl)
      obtain ⟨nn51, h⟩ := h
      exact lp51 nn51 _ _ _ _ h hw hS _ (lv_sub hl [1, 0] rfl)
    have lp10 : ∀ (nn10 : Nat) (t_10 : ST) (y1_10 : Int32) (H : Heap) (locs : List Loc), wl_X7_saves_10 (fun u_39 => (∀ s4 : ST, s4 = zsp u_39 0 ((u_39.2 0) - (jI 1)) → (∃ nn : Nat, wl_X7_saves_51 (fun u_85 => (∀ s6 : ST, s6 = zsp u_85 0 ((u_85.2 0) + (jI 1)) → Q s6))  nn s4 (jI 0))))  nn10 t_10 y1_10 → zW D 6 (zme cy ad t_10) ad H → va_S (zA 6 ad) s.heap H locs → ∀ ls : Array Slot, lv_has ls 2 [(0, .ref (ad 0)), (1, .int y1_10)] → W p l e ({ frames := 0, cells := 0, slots := 0, locals := 0 } : Room) s m ([.ref (ad 0)] : List Value).toArray below meth c H locs 0 0 (MQ below (va_Qv Q (zB D 6 (zme cy ad) ad) (zA 6 ad)) ([.ref (ad 0)] : List Value).toArray s 0 0 (zA 6 ad)) (F0 m 10 ls []) := by
      intro nn10
      induction nn10 with
      | zero => intro _ _ _ _ h; exact h.elim
      | succ nn10 ih10 =>
        intro t_10 y1_10 H locs h hw hS ls hl
        simp only [wl_X7_saves_10, wb_X7_saves_10] at h
        refine lv_iload_n hx hb dX7_saves_10 rfl (lv_at hl 1 rfl) ?_
        refine lv_sipush (v := (jI 2949)) hx hb dX7_saves_11 (by decide +kernel) ?_
        refine lv_icmp_ge (tgt := 39) hx hb dX7_saves_14 (by decide) (fun c3 => ?_) (fun c3 => ?_)
        · have h := h.1 c3
          exact k39_10 _ _ _ h hw hS _ (lv_sub hl [0] rfl)
        · have h := h.2 c3
          refine lv_aload_n hx hb dX7_saves_17 rfl (lv_at hl 0 rfl) ?_
          refine zget hx hb hts inX7 hown hK hw 0 (by decide) rfl rfl 1 (by decide) lk1 (fun _ h9 => h9) rfl dX7_saves_18 ?_
          refine lv_iload_n hx hb dX7_saves_21 rfl (lv_at hl 1 rfl) ?_
          refine lv_aload_n hx hb dX7_saves_22 rfl (lv_at hl 0 rfl) ?_
          refine zget hx hb hts inX7 hown hK hw 0 (by decide) rfl rfl 1 (by decide) lk1 (fun _ h9 => h9) rfl dX7_saves_23 ?_
          refine lv_iload_n hx hb dX7_saves_26 rfl (lv_at hl 1 rfl) ?_
          refine lv_sipush (v := (jI 983)) hx hb dX7_saves_27 (by decide +kernel) ?_
          refine lv_iadd hx hb dX7_saves_30 ?_
          refine ziald hx hb hK hw 2 (by decide) rfl h.1 dX7_saves_31 ?_
          refine lv_topi (fun v2 ev2 => ?_)
          have h := h.2 v2 ev2
          obtain ⟨s3, es3⟩ : ∃ y : ST, y = zrp t_10 1 y1_10.toNatClampNeg v2 := ⟨_, rfl⟩
          refine ziast hx hb hK hj hw hA hS 2 (by decide) rfl h.1 dX7_saves_32 (zme cy ad s3) (by rw [es3]; exact zrp_on_M_1) (fun j hj9 => by rw [es3]; exact zrp_off_M_1 j hj9) (fun H locs hw hS => ?_)
          have h := h.2 s3 es3
          obtain ⟨x2, ex2⟩ : ∃ y : Int32, y = y1_10 + (jI 1) := ⟨_, rfl⟩
          have h := h x2 ex2
          refine lv_iinc (v := x2) (lv' := [(1, .int x2), (0, .ref (ad 0))]) hx hb dX7_saves_33 hl (k := 1) rfl (by rw [ex2]; rfl) (by decide) rfl (fun ls hl => ?_)
          refine lv_goto (tgt := 10) hx hb dX7_saves_36 (by decide) ?_
          exact ih10 _ _ _ _ h hw hS _ (lv_sub hl [1, 0] rfl)
    obtain ⟨nn10, h⟩ := h
    exact lp10 nn10 _ _ _ _ h hw hS _ (lv_sub hl [1, 0] rfl)
theorem k_X7_saves {p : Program} {l : Launch} {e : Env} {R : Room} {s : State} {m : MethodId} {args : Array Value} {below : List Frame} {meth : Method} {c : Code} {H : Heap} {locs : List Loc} {cells slots : Nat} {QQ : State → Prop} {cc : ByteArray} {pc nL index : Nat} {ls : Array Slot} {rest : List Value} {D : va_G} {cy : cyT} {ad : Nat → Nat} {own : String} {Ts : List Cond} {H0 : Heap} {σ : ST}  {Q : ST → Prop} (hx : p.tables.exec = Jvm.exec) (hb : c.code = cc) (hml : c.maxLocals = nL) (hown : s.vm.findClass own = some m.cls) (hts : ∀ w ∈ Ts, w.before args s = true) (hG : GoodIn Ts (wsV own index RX7 yX7_saves wsX7_saves)) (hR : 0 + 1 ≤ R.frames ∧ 8 + (2 + 11) + 0 ≤ R.locals) (hcs : cells ≤ R.cells ∧ slots ≤ R.slots) (hK : zK D cy s) (hj : zI 6 ad) (hw : zW D 6 (zme cy ad σ) ad H) {A0 : Nat → Prop} (hA : ∀ i, i < 6 → A0 (ad i)) (hS : va_S A0 H0 H locs) (hsz : ls.size = nL) (hrest : (rest.map fun v => v.category).sum ≤ 8) (hdg : decode cc pc = .ok (.invokevirtual index, 3)) (h : wp_X7_saves σ  Q) (kk : ∀ (σ : ST) (H : Heap) (locs : List Loc), Q σ → zW D 6 (zme cy ad σ) ad H → va_S A0 H0 H locs → W p l e R s m args below meth c H locs cells slots QQ (F0 m (pc + 3) ls rest)) : W p l e R s m args below meth c H locs cells slots QQ (F0 m pc ls (.ref (ad 0) :: rest)) :=
  zcallv (va_runV (As := []) (rest := rest) ⟨hx, hb, hml, hown, hts⟩ (c_X7_saves l D cy ad σ  h) (cwV 0 hts hG rfl rfl rfl (by decide +kernel) hR) (zpreV hj hK hw _ (i := 0) (ci := 6) (by decide) rfl rfl) rfl rfl hsz rfl (lv_room hrest) hdg hcs) hA hS kk
set_option maxHeartbeats 4000000 in
set_option maxRecDepth 100000 in
theorem c_X7_undo (l : Launch) (D : va_G) (cy : cyT) (ad : Nat → Nat) (σ : ST) {Q : Int32 → ST → Prop} (h : wp_X7_undo σ Q) : Met l yX7_undo wsX7_undo ({ frames := 0, cells := 0, slots := 0, locals := 0 } : Room) (zPre D cy 6 (zme cy ad σ) ad [.ref (ad 0)]) (va_Qi Q (zB D 6 (zme cy ad) ad) (zA 6 ad)) 0 0 (zA 6 ad) := by
  refine Met.ofW (cc := cX7_undo) (maxL := 2) (ret := (some .int)) (by decide) rfl ?_
  intro p e s m args below meth c s₁ B hml hv
  obtain ⟨rfl, hj, hK, hw⟩ := hv
  have hx := B.exec
  have hb := B.bytes
  have hr := B.returns
  have hts := atoms_spec (ws := wsX7_undo) B.pre
  have hown : s.vm.findClass RX7 = some m.cls := findClass_of_methodNamed B.named
  have hlocks := B.notSynchronized
  have lk0 : Cond.fieldLink RX7 30 "TypeTraysModel" "saved" "I" ∈ wsX7_undo := List.mem_of_getElem? (i := 1) rfl
  have lk1 : Cond.fieldLink RX7 26 "TypeTraysModel" "thrown" "I" ∈ wsX7_undo := List.mem_of_getElem? (i := 2) rfl
  have lk2 : Cond.fieldLink RX7 7 "TypeTraysModel" "w" "[I" ∈ wsX7_undo := List.mem_of_getElem? (i := 3) rfl
  have lk3 : Cond.fieldLink RX7 13 "TypeTraysModel" "past" "[I" ∈ wsX7_undo := List.mem_of_getElem? (i := 4) rfl
  have inX7 : ∀ w ∈ u_ws RX7 TX7 16, w ∈ wsX7_undo := zin_at 5 rfl
  have hS : va_S (zA 6 ad) s.heap s.heap [] := va_S.rf
  have hA : ∀ i, i < 6 → zA 6 ad (ad i) := fun i hi => ⟨i, hi, rfl⟩
  have hl := lv_entry ([.ref (ad 0)]) (n := 2) (Nat.le_of_ble_eq_true rfl)
  rw [lg_entry_eq]
  generalize (lg_sl ([.ref (ad 0)]) ++ List.replicate (2 - (lg_sl ([.ref (ad 0)])).length) Slot.unset).toArray = ls at hl ⊢
  have hl : lv_has ls 2 [(0, .ref (ad 0))] := hl
  show W p l e ({ frames := 0, cells := 0, slots := 0, locals := 0 } : Room) s m ([.ref (ad 0)] : List Value).toArray below meth c s.heap [] 0 0 (MQ below (va_Qi Q (zB D 6 (zme cy ad) ad) (zA 6 ad)) ([.ref (ad 0)] : List Value).toArray s 0 0 (zA 6 ad)) (F0 m 0 ls [])
  unfold wp_X7_undo at h
  refine lv_aload_n hx hb dX7_undo_0 rfl (lv_at hl 0 rfl) ?_
  refine lv_aload_n hx hb dX7_undo_1 rfl (lv_at hl 0 rfl) ?_
  refine zget hx hb hts inX7 hown hK hw 0 (by decide) rfl rfl 2 (by decide) lk0 (fun _ h9 => h9) rfl dX7_undo_2 ?_
  refine zif_ne (tgt := 12) hx hb dX7_undo_5 (by decide) (fun c1 => ?_) (fun c1 => ?_)
  · have h := h.2 c1
    refine lv_iconst (v := (jI 0)) hx hb dX7_undo_12 rfl ?_
    obtain ⟨s1, es1⟩ : ∃ y : ST, y = zsp σ 1 (jI 0) := ⟨_, rfl⟩
    have h := h s1 es1
    refine zput (ty := .int) hx hb hts inX7 tyX7 tyX7_ok nmX7 hown hK hj hw hA hS 0 (by decide) rfl rfl 3 (by decide) lk1 (fun _ h9 => h9) rfl (by decide +kernel) rfl rfl (Nat.le_of_ble_eq_true rfl) dX7_undo_13 (zme cy ad s1) (by rw [es1]; rfl) (fun j hj9 => by rw [es1]; exact zsp_off_M_1 j hj9) (fun H locs hw hS => ?_)
    refine lv_aload_n hx hb dX7_undo_16 rfl (lv_at hl 0 rfl) ?_
    refine zget hx hb hts inX7 hown hK hw 0 (by decide) rfl rfl 3 (by decide) lk1 (fun _ h9 => h9) rfl dX7_undo_17 ?_
    refine zif_le (tgt := 25) hx hb dX7_undo_20 (by decide) (fun c2 => ?_) (fun c2 => ?_)
    · have h := h.1 c2
      refine lv_aload_n hx hb dX7_undo_25 rfl (lv_at hl 0 rfl) ?_
      refine lv_dup hx hb dX7_undo_26 rfl ?_
      refine zget hx hb hts inX7 hown hK hw 0 (by decide) rfl rfl 2 (by decide) lk0 (fun _ h9 => h9) rfl dX7_undo_27 ?_
      refine lv_iconst (v := (jI 1)) hx hb dX7_undo_30 rfl ?_
      refine lv_isub hx hb dX7_undo_31 ?_
      obtain ⟨s2, es2⟩ : ∃ y : ST, y = zsp s1 0 ((s1.2 0) - (jI 1)) := ⟨_, rfl⟩
      have h := h s2 es2
      refine zput (ty := .int) hx hb hts inX7 tyX7 tyX7_ok nmX7 hown hK hj hw hA hS 0 (by decide) rfl rfl 2 (by decide) lk0 (fun _ h9 => h9) rfl (by decide +kernel) rfl rfl (Nat.le_of_ble_eq_true rfl) dX7_undo_32 (zme cy ad s2) (by rw [es2]; rfl) (fun j hj9 => by rw [es2]; exact zsp_off_M_0 j hj9) (fun H locs hw hS => ?_)
      refine lv_iconst (v := (jI 0)) hx hb dX7_undo_35 rfl ?_
      refine lv_istore_n (lv' := [(1, .int (jI 0)), (0, .ref (ad 0))]) hx hb dX7_undo_36 rfl hl (by decide) rfl (fun ls hl => ?_)
      have k71_37 : ∀ (u_71 : ST) (H : Heap) (locs : List Loc), Q (u_71.2 0) u_71 → zW D 6 (zme cy ad u_71) ad H → va_S (zA 6 ad) s.heap H locs → ∀ ls : Array Slot, lv_has ls 2 [(0, .ref (ad 0))] → W p l e ({ frames := 0, cells := 0, slots := 0, locals := 0 } : Room) s m ([.ref (ad 0)] : List Value).toArray below meth c H locs 0 0 (MQ below (va_Qi Q (zB D 6 (zme cy ad) ad) (zA 6 ad)) ([.ref (ad 0)] : List Value).toArray s 0 0 (zA 6 ad)) (F0 m 71 ls []) := by
        intro u_71 H locs h hw hS ls hl
        refine lv_aload_n hx hb dX7_undo_71 rfl (lv_at hl 0 rfl) ?_
        refine zget hx hb hts inX7 hown hK hw 0 (by decide) rfl rfl 2 (by decide) lk0 (fun _ h9 => h9) rfl dX7_undo_72 ?_
        exact W.iret (v := (u_71.2 0)) hx hb hr (fun t ht hW => ⟨⟨_, _, rfl, h, zend hw ht⟩, hS.F ht⟩) hS.2.2 dX7_undo_75
      have lp37 : ∀ (nn37 : Nat) (t_37 : ST) (y1_37 : Int32) (H : Heap) (locs : List Loc), wl_X7_undo_37 (fun u_71 => Q (u_71.2 0) u_71)  nn37 t_37 y1_37 → zW D 6 (zme cy ad t_37) ad H → va_S (zA 6 ad) s.heap H locs → ∀ ls : Array Slot, lv_has ls 2 [(0, .ref (ad 0)), (1, .int y1_37)] → W p l e ({ frames := 0, cells := 0, slots := 0, locals := 0 } : Room) s m ([.ref (ad 0)] : List Value).toArray below meth c H locs 0 0 (MQ below (va_Qi Q (zB D 6 (zme cy ad) ad) (zA 6 ad)) ([.ref (ad 0)] : List Value).toArray s 0 0 (zA 6 ad)) (F0 m 37 ls []) := by
        intro nn37
        induction nn37 with
        | zero => intro _ _ _ _ h; exact h.elim
        | succ nn37 ih37 =>
          intro t_37 y1_37 H locs h hw hS ls hl
          simp only [wl_X7_undo_37, wb_X7_undo_37] at h
          refine lv_iload_n hx hb dX7_undo_37 rfl (lv_at hl 1 rfl) ?_
          refine lv_sipush (v := (jI 983)) hx hb dX7_undo_38 (by decide +kernel) ?_
          refine lv_icmp_ge (tgt := 71) hx hb dX7_undo_41 (by decide) (fun c3 => ?_) (fun c3 => ?_)
          · have h := h.1 c3
            exact k71_37 _ _ _ h hw hS _ (lv_sub hl [0] rfl)
          · have h := h.2 c3
            refine lv_aload_n hx hb dX7_undo_44 rfl (lv_at hl 0 rfl) ?_
            refine zget hx hb hts inX7 hown hK hw 0 (by decide) rfl rfl 0 (by decide) lk2 (fun _ h9 => h9) rfl dX7_undo_45 ?_
            refine lv_iload_n hx hb dX7_undo_48 rfl (lv_at hl 1 rfl) ?_
            refine lv_aload_n hx hb dX7_undo_49 rfl (lv_at hl 0 rfl) ?_
            refine zget hx hb hts inX7 hown hK hw 0 (by decide) rfl rfl 1 (by decide) lk3 (fun _ h9 => h9) rfl dX7_undo_50 ?_
            refine lv_sipush (v := (jI 983)) hx hb dX7_undo_53 (by decide +kernel) ?_
            refine lv_aload_n hx hb dX7_undo_56 rfl (lv_at hl 0 rfl) ?_
            refine zget hx hb hts inX7 hown hK hw 0 (by decide) rfl rfl 2 (by decide) lk0 (fun _ h9 => h9) rfl dX7_undo_57 ?_
            refine lv_imul hx hb dX7_undo_60 ?_
            refine lv_iload_n hx hb dX7_undo_61 rfl (lv_at hl 1 rfl) ?_
            refine lv_iadd hx hb dX7_undo_62 ?_
            refine ziald hx hb hK hw 2 (by decide) rfl h.1 dX7_undo_63 ?_
            refine lv_topi (fun v1 ev1 => ?_)
            have h := h.2 v1 ev1
            obtain ⟨s3, es3⟩ : ∃ y : ST, y = zrp t_37 0 y1_37.toNatClampNeg v1 := ⟨_, rfl⟩
            refine ziast hx hb hK hj hw hA hS 1 (by decide) rfl h.1 dX7_undo_64 (zme cy ad s3) (by rw [es3]; exact zrp_on_M_0) (fun j hj9 => by rw [es3]; exact zrp_off_M_0 j hj9) (fun H locs hw hS => ?_)
            have h := h.2 s3 es3
            obtain ⟨x1, ex1⟩ : ∃ y : Int32, y = y1_37 + (jI 1) := ⟨_, rfl⟩
            have h := h x1 ex1
            refine lv_iinc (v := x1) (lv' := [(1, .int x1), (0, .ref (ad 0))]) hx hb dX7_undo_65 hl (k := 1) rfl (by rw [ex1]; rfl) (by decide) rfl (fun ls hl => ?_)
            refine lv_goto (tgt := 37) hx hb dX7_undo_68 (by decide) ?_
            exact ih37 _ _ _ _ h hw hS _ (lv_sub hl [1, 0] rfl)
      obtain ⟨nn37, h⟩ := h
      exact lp37 nn37 _ _ _ _ h hw hS _ (lv_sub hl [1, 0] rfl)
    · have h := h.2 c2
      refine lv_iconst (v := (jI 0)) hx hb dX7_undo_23 rfl ?_
      exact W.iret (v := (jI 0)) hx hb hr (fun t ht hW => ⟨⟨_, _, rfl, h, zend hw ht⟩, hS.F ht⟩) hS.2.2 dX7_undo_24
  · have h := h.1 c1
    refine lv_iconst (v := (jI 1)) hx hb dX7_undo_8 rfl ?_
    refine lv_goto (tgt := 13) hx hb dX7_undo_9 (by decide) ?_
    obtain ⟨s4, es4⟩ : ∃ y : ST, y = zsp σ 1 (jI 1) := ⟨_, rfl⟩
    have h := h s4 es4
    refine zput (ty := .int) hx hb hts inX7 tyX7 tyX7_ok nmX7 hown hK hj hw hA hS 0 (by decide) rfl rfl 3 (by decide) lk1 (fun _ h9 => h9) rfl (by decide +kernel) rfl rfl (Nat.le_of_ble_eq_true rfl) dX7_undo_13 (zme cy ad s4) (by rw [es4]; rfl) (fun j hj9 => by rw [es4]; exact zsp_off_M_1 j hj9) (fun H locs hw hS => ?_)
    refine lv_aload_n hx hb dX7_undo_16 rfl (lv_at hl 0 rfl) ?_
    refine zget hx hb hts inX7 hown hK hw 0 (by decide) rfl rfl 3 (by decide) lk1 (fun _ h9 => h9) rfl dX7_undo_17 ?_
    refine zif_le (tgt := 25) hx hb dX7_undo_20 (by decide) (fun c4 => ?_) (fun c4 => ?_)
    · have h := h.1 c4
      refine lv_aload_n hx hb dX7_undo_25 rfl (lv_at hl 0 rfl) ?_
      refine lv_dup hx hb dX7_undo_26 rfl ?_
      refine zget hx hb hts inX7 hown hK hw 0 (by decide) rfl rfl 2 (by decide) lk0 (fun _ h9 => h9) rfl dX7_undo_27 ?_
      refine lv_iconst (v := (jI 1)) hx hb dX7_undo_30 rfl ?_
      refine lv_isub hx hb dX7_undo_31 ?_
      obtain ⟨s5, es5⟩ : ∃ y : ST, y = zsp s4 0 ((s4.2 0) - (jI 1)) := ⟨_, rfl⟩
      have h := h s5 es5
      refine zput (ty := .int) hx hb hts inX7 tyX7 tyX7_ok nmX7 hown hK hj hw hA hS 0 (by decide) rfl rfl 2 (by decide) lk0 (fun _ h9 => h9) rfl (by decide +kernel) rfl rfl (Nat.le_of_ble_eq_true rfl) dX7_undo_32 (zme cy ad s5) (by rw [es5]; rfl) (fun j hj9 => by rw [es5]; exact zsp_off_M_0 j hj9) (fun H locs hw hS => ?_)
      refine lv_iconst (v := (jI 0)) hx hb dX7_undo_35 rfl ?_
      refine lv_istore_n (lv' := [(1, .int (jI 0)), (0, .ref (ad 0))]) hx hb dX7_undo_36 rfl hl (by decide) rfl (fun ls hl => ?_)
      have k71_37 : ∀ (u_71 : ST) (H : Heap) (locs : List Loc), Q (u_71.2 0) u_71 → zW D 6 (zme cy ad u_71) ad H → va_S (zA 6 ad) s.heap H locs → ∀ ls : Array Slot, lv_has ls 2 [(0, .ref (ad 0))] → W p l e ({ frames := 0, cells := 0, slots := 0, locals := 0 } : Room) s m ([.ref (ad 0)] : List Value).toArray below meth c H locs 0 0 (MQ below (va_Qi Q (zB D 6 (zme cy ad) ad) (zA 6 ad)) ([.ref (ad 0)] : List Value).toArray s 0 0 (zA 6 ad)) (F0 m 71 ls []) := by
        intro u_71 H locs h hw hS ls hl
        refine lv_aload_n hx hb dX7_undo_71 rfl (lv_at hl 0 rfl) ?_
        refine zget hx hb hts inX7 hown hK hw 0 (by decide) rfl rfl 2 (by decide) lk0 (fun _ h9 => h9) rfl dX7_undo_72 ?_
        exact W.iret (v := (u_71.2 0)) hx hb hr (fun t ht hW => ⟨⟨_, _, rfl, h, zend hw ht⟩, hS.F ht⟩) hS.2.2 dX7_undo_75
      have lp37 : ∀ (nn37 : Nat) (t_37 : ST) (y1_37 : Int32) (H : Heap) (locs : List Loc), wl_X7_undo_37 (fun u_71 => Q (u_71.2 0) u_71)  nn37 t_37 y1_37 → zW D 6 (zme cy ad t_37) ad H → va_S (zA 6 ad) s.heap H locs → ∀ ls : Array Slot, lv_has ls 2 [(0, .ref (ad 0)), (1, .int y1_37)] → W p l e ({ frames := 0, cells := 0, slots := 0, locals := 0 } : Room) s m ([.ref (ad 0)] : List Value).toArray below meth c H locs 0 0 (MQ below (va_Qi Q (zB D 6 (zme cy ad) ad) (zA 6 ad)) ([.ref (ad 0)] : List Value).toArray s 0 0 (zA 6 ad)) (F0 m 37 ls []) := by
        intro nn37
        induction nn37 with
        | zero => intro _ _ _ _ h; exact h.elim
        | succ nn37 ih37 =>
          intro t_37 y1_37 H locs h hw hS ls hl
          simp only [wl_X7_undo_37, wb_X7_undo_37] at h
          refine lv_iload_n hx hb dX7_undo_37 rfl (lv_at hl 1 rfl) ?_
          refine lv_sipush (v := (jI 983)) hx hb dX7_undo_38 (by decide +kernel) ?_
          refine lv_icmp_ge (tgt := 71) hx hb dX7_undo_41 (by decide) (fun c5 => ?_) (fun c5 => ?_)
          · have h := h.1 c5
            exact k71_37 _ _ _ h hw hS _ (lv_sub hl [0] rfl)
          · have h := h.2 c5
            refine lv_aload_n hx hb dX7_undo_44 rfl (lv_at hl 0 rfl) ?_
            refine zget hx hb hts inX7 hown hK hw 0 (by decide) rfl rfl 0 (by decide) lk2 (fun _ h9 => h9) rfl dX7_undo_45 ?_
            refine lv_iload_n hx hb dX7_undo_48 rfl (lv_at hl 1 rfl) ?_
            refine lv_aload_n hx hb dX7_undo_49 rfl (lv_at hl 0 rfl) ?_
            refine zget hx hb hts inX7 hown hK hw 0 (by decide) rfl rfl 1 (by decide) lk3 (fun _ h9 => h9) rfl dX7_undo_50 ?_
            refine lv_sipush (v := (jI 983)) hx hb dX7_undo_53 (by decide +kernel) ?_
            refine lv_aload_n hx hb dX7_undo_56 rfl (lv_at hl 0 rfl) ?_
            refine zget hx hb hts inX7 hown hK hw 0 (by decide) rfl rfl 2 (by decide) lk0 (fun _ h9 => h9) rfl dX7_undo_57 ?_
            refine lv_imul hx hb dX7_undo_60 ?_
            refine lv_iload_n hx hb dX7_undo_61 rfl (lv_at hl 1 rfl) ?_
            refine lv_iadd hx hb dX7_undo_62 ?_
            refine ziald hx hb hK hw 2 (by decide) rfl h.1 dX7_undo_63 ?_
            refine lv_topi (fun v2 ev2 => ?_)
            have h := h.2 v2 ev2
            obtain ⟨s6, es6⟩ : ∃ y : ST, y = zrp t_37 0 y1_37.toNatClampNeg v2 := ⟨_, rfl⟩
            refine ziast hx hb hK hj hw hA hS 1 (by decide) rfl h.1 dX7_undo_64 (zme cy ad s6) (by rw [es6]; exact zrp_on_M_0) (fun j hj9 => by rw [es6]; exact zrp_off_M_0 j hj9) (fun H locs hw hS => ?_)
            have h := h.2 s6 es6
            obtain ⟨x2, ex2⟩ : ∃ y : Int32, y = y1_37 + (jI 1) := ⟨_, rfl⟩
            have h := h x2 ex2
            refine lv_iinc (v := x2) (lv' := [(1, .int x2), (0, .ref (ad 0))]) hx hb dX7_undo_65 hl (k := 1) rfl (by rw [ex2]; rfl) (by decide) rfl (fun ls hl => ?_)
            refine lv_goto (tgt := 37) hx hb dX7_undo_68 (by decide) ?_
            exact ih37 _ _ _ _ h hw hS _ (lv_sub hl [1, 0] rfl)
      obtain ⟨nn37, h⟩ := h
      exact lp37 nn37 _ _ _ _ h hw hS _ (lv_sub hl [1, 0] rfl)
    · have h := h.2 c4
      refine lv_iconst (v := (jI 0)) hx hb dX7_undo_23 rfl ?_
      exact W.iret (v := (jI 0)) hx hb hr (fun t ht hW => ⟨⟨_, _, rfl, h, zend hw ht⟩, hS.F ht⟩) hS.2.2 dX7_undo_24
theorem k_X7_undo {p : Program} {l : Launch} {e : Env} {R : Room} {s : State} {m : MethodId} {args : Array Value} {below : List Frame} {meth : Method} {c : Code} {H : Heap} {locs : List Loc} {cells slots : Nat} {QQ : State → Prop} {cc : ByteArray} {pc nL index : Nat} {ls : Array Slot} {rest : List Value} {D : va_G} {cy : cyT} {ad : Nat → Nat} {own : String} {Ts : List Cond} {H0 : Heap} {σ : ST}  {Q : Int32 → ST → Prop} (hx : p.tables.exec = Jvm.exec) (hb : c.code = cc) (hml : c.maxLocals = nL) (hown : s.vm.findClass own = some m.cls) (hts : ∀ w ∈ Ts, w.before args s = true) (hG : GoodIn Ts (wsV own index RX7 yX7_undo wsX7_undo)) (hR : 0 + 1 ≤ R.frames ∧ 8 + (2 + 11) + 0 ≤ R.locals) (hcs : cells ≤ R.cells ∧ slots ≤ R.slots) (hK : zK D cy s) (hj : zI 6 ad) (hw : zW D 6 (zme cy ad σ) ad H) {A0 : Nat → Prop} (hA : ∀ i, i < 6 → A0 (ad i)) (hS : va_S A0 H0 H locs) (hsz : ls.size = nL) (hrest : (rest.map fun v => v.category).sum ≤ 8) (hdg : decode cc pc = .ok (.invokevirtual index, 3)) (h : wp_X7_undo σ  Q) (kk : ∀ (r : Int32) (σ : ST) (H : Heap) (locs : List Loc), Q r σ → zW D 6 (zme cy ad σ) ad H → va_S A0 H0 H locs → W p l e R s m args below meth c H locs cells slots QQ (F0 m (pc + 3) ls (.int r :: rest))) : W p l e R s m args below meth c H locs cells slots QQ (F0 m pc ls (.ref (ad 0) :: rest)) :=
  zcalli (va_runV (As := []) (rest := rest) ⟨hx, hb, hml, hown, hts⟩ (c_X7_undo l D cy ad σ  h) (cwV 0 hts hG rfl rfl rfl (by decide +kernel) hR) (zpreV hj hK hw _ (i := 0) (ci := 6) (by decide) rfl rfl) rfl rfl hsz rfl (lv_room hrest) hdg hcs) hA hS kk
set_option maxHeartbeats 4000000 in
set_option maxRecDepth 100000 in
theorem c_X7_number (l : Launch) (D : va_G) (cy : cyT) (ad : Nat → Nat) (σ : ST) (p0 : Int32) (p1 : Int32) (p2 : Int32) {Q : Int32 → ST → Prop} (h : wp_X7_number σ p0 p1 p2 Q) : Met l yX7_number wsX7_number ({ frames := 0, cells := 0, slots := 0, locals := 0 } : Room) (zPre D cy 6 (zme cy ad σ) ad [.int p0, .int p1, .int p2]) (va_Qi Q (zB D 6 (zme cy ad) ad) (zA 6 ad)) 0 0 (zA 6 ad) := by
  refine Met.ofW (cc := cX7_number) (maxL := 3) (ret := (some .int)) (by decide) rfl ?_
  intro p e s m args below meth c s₁ B hml hv
  obtain ⟨rfl, hj, hK, hw⟩ := hv
  have hx := B.exec
  have hb := B.bytes
  have hr := B.returns
  have hts := atoms_spec (ws := wsX7_number) B.pre
  have hown : s.vm.findClass RX7 = some m.cls := findClass_of_methodNamed B.named
  have hlocks := B.notSynchronized
  have hS : va_S (zA 6 ad) s.heap s.heap [] := va_S.rf
  have hA : ∀ i, i < 6 → zA 6 ad (ad i) := fun i hi => ⟨i, hi, rfl⟩
  have hl := lv_entry ([.int p0, .int p1, .int p2]) (n := 3) (Nat.le_of_ble_eq_true rfl)
  rw [lg_entry_eq]
  generalize (lg_sl ([.int p0, .int p1, .int p2]) ++ List.replicate (3 - (lg_sl ([.int p0, .int p1, .int p2])).length) Slot.unset).toArray = ls at hl ⊢
  have hl : lv_has ls 3 [(0, .int p0), (1, .int p1), (2, .int p2)] := hl
  show W p l e ({ frames := 0, cells := 0, slots := 0, locals := 0 } : Room) s m ([.int p0, .int p1, .int p2] : List Value).toArray below meth c s.heap [] 0 0 (MQ below (va_Qi Q (zB D 6 (zme cy ad) ad) (zA 6 ad)) ([.int p0, .int p1, .int p2] : List Value).toArray s 0 0 (zA 6 ad)) (F0 m 0 ls [])
  unfold wp_X7_number at h
  refine lv_bipush (v := (jI 9)) hx hb dX7_number_0 (by decide +kernel) ?_
  refine lv_iload_n hx hb dX7_number_2 rfl (lv_at hl 0 rfl) ?_
  refine lv_imul hx hb dX7_number_3 ?_
  refine lv_iconst (v := (jI 3)) hx hb dX7_number_4 rfl ?_
  refine lv_iload_n hx hb dX7_number_5 rfl (lv_at hl 1 rfl) ?_
  refine lv_iconst (v := (jI 1)) hx hb dX7_number_6 rfl ?_
  refine lv_isub hx hb dX7_number_7 ?_
  refine lv_imul hx hb dX7_number_8 ?_
  refine lv_iadd hx hb dX7_number_9 ?_
  refine lv_iload_n hx hb dX7_number_10 rfl (lv_at hl 2 rfl) ?_
  refine lv_iadd hx hb dX7_number_11 ?_
  exact W.iret (v := ((((jI 9) * p0) + ((jI 3) * (p1 - (jI 1)))) + p2)) hx hb hr (fun t ht hW => ⟨⟨_, _, rfl, h, zend hw ht⟩, hS.F ht⟩) hS.2.2 dX7_number_12
theorem k_X7_number {p : Program} {l : Launch} {e : Env} {R : Room} {s : State} {m : MethodId} {args : Array Value} {below : List Frame} {meth : Method} {c : Code} {H : Heap} {locs : List Loc} {cells slots : Nat} {QQ : State → Prop} {cc : ByteArray} {pc nL index : Nat} {ls : Array Slot} {rest : List Value} {D : va_G} {cy : cyT} {ad : Nat → Nat} {own : String} {Ts : List Cond} {H0 : Heap} {σ : ST} {p0 : Int32} {p1 : Int32} {p2 : Int32} {Q : Int32 → ST → Prop} (hx : p.tables.exec = Jvm.exec) (hb : c.code = cc) (hml : c.maxLocals = nL) (hown : s.vm.findClass own = some m.cls) (hts : ∀ w ∈ Ts, w.before args s = true) (hG : GoodIn Ts (va_wsS own index yX7_number wsX7_number)) (hR : 0 + 1 ≤ R.frames ∧ 8 + (3 + 11) + 0 ≤ R.locals) (hcs : cells ≤ R.cells ∧ slots ≤ R.slots) (hK : zK D cy s) (hj : zI 6 ad) (hw : zW D 6 (zme cy ad σ) ad H) {A0 : Nat → Prop} (hA : ∀ i, i < 6 → A0 (ad i)) (hS : va_S A0 H0 H locs) (hsz : ls.size = nL) (hrest : (rest.map fun v => v.category).sum ≤ 8) (hdg : decode cc pc = .ok (.invokestatic index, 3)) (h : wp_X7_number σ p0 p1 p2 Q) (kk : ∀ (r : Int32) (σ : ST) (H : Heap) (locs : List Loc), Q r σ → zW D 6 (zme cy ad σ) ad H → va_S A0 H0 H locs → W p l e R s m args below meth c H locs cells slots QQ (F0 m (pc + 3) ls (.int r :: rest))) : W p l e R s m args below meth c H locs cells slots QQ (F0 m pc ls (.int p2 :: .int p1 :: .int p0 :: rest)) :=
  zcalli (va_runS (As := [.int p0, .int p1, .int p2]) (rest := rest) ⟨hx, hb, hml, hown, hts⟩ (c_X7_number l D cy ad σ p0 p1 p2 h) (va_cwS 3 hts hG rfl rfl rfl (by decide +kernel) hR) (zpreS hj hK hw _) rfl rfl hsz rfl (lv_room hrest) hdg hcs) hA hS kk
set_option maxHeartbeats 4000000 in
set_option maxRecDepth 100000 in
theorem c_X7_codeOf (l : Launch) (D : va_G) (cy : cyT) (ad : Nat → Nat) (σ : ST) (p0 : Int32) {Q : Int32 → ST → Prop} (h : wp_X7_codeOf σ p0 Q) : Met l yX7_codeOf wsX7_codeOf ({ frames := 0, cells := 0, slots := 0, locals := 0 } : Room) (zPre D cy 6 (zme cy ad σ) ad [.int p0]) (va_Qi Q (zB D 6 (zme cy ad) ad) (zA 6 ad)) 0 0 (zA 6 ad) := by
  refine Met.ofW (cc := cX7_codeOf) (maxL := 1) (ret := (some .int)) (by decide) rfl ?_
  intro p e s m args below meth c s₁ B hml hv
  obtain ⟨rfl, hj, hK, hw⟩ := hv
  have hx := B.exec
  have hb := B.bytes
  have hr := B.returns
  have hts := atoms_spec (ws := wsX7_codeOf) B.pre
  have hown : s.vm.findClass RX7 = some m.cls := findClass_of_methodNamed B.named
  have hlocks := B.notSynchronized
  have hS : va_S (zA 6 ad) s.heap s.heap [] := va_S.rf
  have hA : ∀ i, i < 6 → zA 6 ad (ad i) := fun i hi => ⟨i, hi, rfl⟩
  have hl := lv_entry ([.int p0]) (n := 1) (Nat.le_of_ble_eq_true rfl)
  rw [lg_entry_eq]
  generalize (lg_sl ([.int p0]) ++ List.replicate (1 - (lg_sl ([.int p0])).length) Slot.unset).toArray = ls at hl ⊢
  have hl : lv_has ls 1 [(0, .int p0)] := hl
  show W p l e ({ frames := 0, cells := 0, slots := 0, locals := 0 } : Room) s m ([.int p0] : List Value).toArray below meth c s.heap [] 0 0 (MQ below (va_Qi Q (zB D 6 (zme cy ad) ad) (zA 6 ad)) ([.int p0] : List Value).toArray s 0 0 (zA 6 ad)) (F0 m 0 ls [])
  unfold wp_X7_codeOf at h
  refine lv_bipush (v := (jI 100)) hx hb dX7_codeOf_0 (by decide +kernel) ?_
  refine lv_iload_n hx hb dX7_codeOf_2 rfl (lv_at hl 0 rfl) ?_
  refine lv_bipush (v := (jI 9)) hx hb dX7_codeOf_3 (by decide +kernel) ?_
  refine lv_idiv hx hb dX7_codeOf_5 (by decide +kernel) ?_
  refine lv_imul hx hb dX7_codeOf_6 ?_
  refine lv_bipush (v := (jI 10)) hx hb dX7_codeOf_7 (by decide +kernel) ?_
  refine lv_iload_n hx hb dX7_codeOf_9 rfl (lv_at hl 0 rfl) ?_
  refine lv_bipush (v := (jI 9)) hx hb dX7_codeOf_10 (by decide +kernel) ?_
  refine lv_irem hx hb dX7_codeOf_12 (by decide +kernel) ?_
  refine lv_iconst (v := (jI 3)) hx hb dX7_codeOf_13 rfl ?_
  refine lv_idiv hx hb dX7_codeOf_14 (by decide +kernel) ?_
  refine lv_iconst (v := (jI 1)) hx hb dX7_codeOf_15 rfl ?_
  refine lv_iadd hx hb dX7_codeOf_16 ?_
  refine lv_imul hx hb dX7_codeOf_17 ?_
  refine lv_iadd hx hb dX7_codeOf_18 ?_
  refine lv_iload_n hx hb dX7_codeOf_19 rfl (lv_at hl 0 rfl) ?_
  refine lv_iconst (v := (jI 3)) hx hb dX7_codeOf_20 rfl ?_
  refine lv_irem hx hb dX7_codeOf_21 (by decide +kernel) ?_
  refine lv_iadd hx hb dX7_codeOf_22 ?_
  exact W.iret (v := ((((jI 100) * (p0 / (jI 9))) + ((jI 10) * (((p0 - p0 / (jI 9) * (jI 9)) / (jI 3)) + (jI 1)))) + (p0 - p0 / (jI 3) * (jI 3)))) hx hb hr (fun t ht hW => ⟨⟨_, _, rfl, h, zend hw ht⟩, hS.F ht⟩) hS.2.2 dX7_codeOf_23
theorem k_X7_codeOf {p : Program} {l : Launch} {e : Env} {R : Room} {s : State} {m : MethodId} {args : Array Value} {below : List Frame} {meth : Method} {c : Code} {H : Heap} {locs : List Loc} {cells slots : Nat} {QQ : State → Prop} {cc : ByteArray} {pc nL index : Nat} {ls : Array Slot} {rest : List Value} {D : va_G} {cy : cyT} {ad : Nat → Nat} {own : String} {Ts : List Cond} {H0 : Heap} {σ : ST} {p0 : Int32} {Q : Int32 → ST → Prop} (hx : p.tables.exec = Jvm.exec) (hb : c.code = cc) (hml : c.maxLocals = nL) (hown : s.vm.findClass own = some m.cls) (hts : ∀ w ∈ Ts, w.before args s = true) (hG : GoodIn Ts (va_wsS own index yX7_codeOf wsX7_codeOf)) (hR : 0 + 1 ≤ R.frames ∧ 8 + (1 + 11) + 0 ≤ R.locals) (hcs : cells ≤ R.cells ∧ slots ≤ R.slots) (hK : zK D cy s) (hj : zI 6 ad) (hw : zW D 6 (zme cy ad σ) ad H) {A0 : Nat → Prop} (hA : ∀ i, i < 6 → A0 (ad i)) (hS : va_S A0 H0 H locs) (hsz : ls.size = nL) (hrest : (rest.map fun v => v.category).sum ≤ 8) (hdg : decode cc pc = .ok (.invokestatic index, 3)) (h : wp_X7_codeOf σ p0 Q) (kk : ∀ (r : Int32) (σ : ST) (H : Heap) (locs : List Loc), Q r σ → zW D 6 (zme cy ad σ) ad H → va_S A0 H0 H locs → W p l e R s m args below meth c H locs cells slots QQ (F0 m (pc + 3) ls (.int r :: rest))) : W p l e R s m args below meth c H locs cells slots QQ (F0 m pc ls (.int p0 :: rest)) :=
  zcalli (va_runS (As := [.int p0]) (rest := rest) ⟨hx, hb, hml, hown, hts⟩ (c_X7_codeOf l D cy ad σ p0 h) (va_cwS 1 hts hG rfl rfl rfl (by decide +kernel) hR) (zpreS hj hK hw _) rfl rfl hsz rfl (lv_room hrest) hdg hcs) hA hS kk
set_option maxHeartbeats 4000000 in
set_option maxRecDepth 100000 in
theorem c_X7_of (l : Launch) (D : va_G) (cy : cyT) (ad : Nat → Nat) (σ : ST) (p0 : Int32) (p1 : Int32) {Q : Int32 → ST → Prop} (h : wp_X7_of σ p0 p1 Q) : Met l yX7_of wsX7_of ({ frames := 0, cells := 0, slots := 0, locals := 0 } : Room) (zPre D cy 6 (zme cy ad σ) ad [.ref (ad 0), .int p0, .int p1]) (va_Qi Q (zB D 6 (zme cy ad) ad) (zA 6 ad)) 0 0 (zA 6 ad) := by
  refine Met.ofW (cc := cX7_of) (maxL := 3) (ret := (some .int)) (by decide) rfl ?_
  intro p e s m args below meth c s₁ B hml hv
  obtain ⟨rfl, hj, hK, hw⟩ := hv
  have hx := B.exec
  have hb := B.bytes
  have hr := B.returns
  have hts := atoms_spec (ws := wsX7_of) B.pre
  have hown : s.vm.findClass RX7 = some m.cls := findClass_of_methodNamed B.named
  have hlocks := B.notSynchronized
  have lk0 : Cond.fieldLink RX7 7 "TypeTraysModel" "w" "[I" ∈ wsX7_of := List.mem_of_getElem? (i := 1) rfl
  have inX7 : ∀ w ∈ u_ws RX7 TX7 16, w ∈ wsX7_of := zin_at 2 rfl
  have hS : va_S (zA 6 ad) s.heap s.heap [] := va_S.rf
  have hA : ∀ i, i < 6 → zA 6 ad (ad i) := fun i hi => ⟨i, hi, rfl⟩
  have hl := lv_entry ([.ref (ad 0), .int p0, .int p1]) (n := 3) (Nat.le_of_ble_eq_true rfl)
  rw [lg_entry_eq]
  generalize (lg_sl ([.ref (ad 0), .int p0, .int p1]) ++ List.replicate (3 - (lg_sl ([.ref (ad 0), .int p0, .int p1])).length) Slot.unset).toArray = ls at hl ⊢
  have hl : lv_has ls 3 [(0, .ref (ad 0)), (1, .int p0), (2, .int p1)] := hl
  show W p l e ({ frames := 0, cells := 0, slots := 0, locals := 0 } : Room) s m ([.ref (ad 0), .int p0, .int p1] : List Value).toArray below meth c s.heap [] 0 0 (MQ below (va_Qi Q (zB D 6 (zme cy ad) ad) (zA 6 ad)) ([.ref (ad 0), .int p0, .int p1] : List Value).toArray s 0 0 (zA 6 ad)) (F0 m 0 ls [])
  unfold wp_X7_of at h
  refine lv_aload_n hx hb dX7_of_0 rfl (lv_at hl 0 rfl) ?_
  refine zget hx hb hts inX7 hown hK hw 0 (by decide) rfl rfl 0 (by decide) lk0 (fun _ h9 => h9) rfl dX7_of_1 ?_
  refine lv_bipush (v := (jI 119)) hx hb dX7_of_4 (by decide +kernel) ?_
  refine lv_bipush (v := (jI 6)) hx hb dX7_of_6 (by decide +kernel) ?_
  refine lv_iload_n hx hb dX7_of_8 rfl (lv_at hl 1 rfl) ?_
  refine lv_imul hx hb dX7_of_9 ?_
  refine lv_iadd hx hb dX7_of_10 ?_
  refine lv_iload_n hx hb dX7_of_11 rfl (lv_at hl 2 rfl) ?_
  refine lv_iadd hx hb dX7_of_12 ?_
  refine ziald hx hb hK hw 1 (by decide) rfl h.1 dX7_of_13 ?_
  refine lv_topi (fun v1 ev1 => ?_)
  have h := h.2 v1 ev1
  exact W.iret (v := v1) hx hb hr (fun t ht hW => ⟨⟨_, _, rfl, h, zend hw ht⟩, hS.F ht⟩) hS.2.2 dX7_of_14
theorem k_X7_of {p : Program} {l : Launch} {e : Env} {R : Room} {s : State} {m : MethodId} {args : Array Value} {below : List Frame} {meth : Method} {c : Code} {H : Heap} {locs : List Loc} {cells slots : Nat} {QQ : State → Prop} {cc : ByteArray} {pc nL index : Nat} {ls : Array Slot} {rest : List Value} {D : va_G} {cy : cyT} {ad : Nat → Nat} {own : String} {Ts : List Cond} {H0 : Heap} {σ : ST} {p0 : Int32} {p1 : Int32} {Q : Int32 → ST → Prop} (hx : p.tables.exec = Jvm.exec) (hb : c.code = cc) (hml : c.maxLocals = nL) (hown : s.vm.findClass own = some m.cls) (hts : ∀ w ∈ Ts, w.before args s = true) (hG : GoodIn Ts (wsV own index RX7 yX7_of wsX7_of)) (hR : 0 + 1 ≤ R.frames ∧ 8 + (3 + 11) + 0 ≤ R.locals) (hcs : cells ≤ R.cells ∧ slots ≤ R.slots) (hK : zK D cy s) (hj : zI 6 ad) (hw : zW D 6 (zme cy ad σ) ad H) {A0 : Nat → Prop} (hA : ∀ i, i < 6 → A0 (ad i)) (hS : va_S A0 H0 H locs) (hsz : ls.size = nL) (hrest : (rest.map fun v => v.category).sum ≤ 8) (hdg : decode cc pc = .ok (.invokevirtual index, 3)) (h : wp_X7_of σ p0 p1 Q) (kk : ∀ (r : Int32) (σ : ST) (H : Heap) (locs : List Loc), Q r σ → zW D 6 (zme cy ad σ) ad H → va_S A0 H0 H locs → W p l e R s m args below meth c H locs cells slots QQ (F0 m (pc + 3) ls (.int r :: rest))) : W p l e R s m args below meth c H locs cells slots QQ (F0 m pc ls (.int p1 :: .int p0 :: .ref (ad 0) :: rest)) :=
  zcalli (va_runV (As := [.int p0, .int p1]) (rest := rest) ⟨hx, hb, hml, hown, hts⟩ (c_X7_of l D cy ad σ p0 p1 h) (cwV 2 hts hG rfl rfl rfl (by decide +kernel) hR) (zpreV hj hK hw _ (i := 0) (ci := 6) (by decide) rfl rfl) rfl rfl hsz rfl (lv_room hrest) hdg hcs) hA hS kk
set_option maxHeartbeats 4000000 in
set_option maxRecDepth 100000 in
theorem c_X7_widthOf (l : Launch) (D : va_G) (cy : cyT) (ad : Nat → Nat) (σ : ST) (p0 : Int32) {Q : Int32 → ST → Prop} (h : wp_X7_widthOf σ p0 Q) : Met l yX7_widthOf wsX7_widthOf ({ frames := 0, cells := 0, slots := 0, locals := 0 } : Room) (zPre D cy 6 (zme cy ad σ) ad [.ref (ad 0), .int p0]) (va_Qi Q (zB D 6 (zme cy ad) ad) (zA 6 ad)) 0 0 (zA 6 ad) := by
  refine Met.ofW (cc := cX7_widthOf) (maxL := 2) (ret := (some .int)) (by decide) rfl ?_
  intro p e s m args below meth c s₁ B hml hv
  obtain ⟨rfl, hj, hK, hw⟩ := hv
  have hx := B.exec
  have hb := B.bytes
  have hr := B.returns
  have hts := atoms_spec (ws := wsX7_widthOf) B.pre
  have hown : s.vm.findClass RX7 = some m.cls := findClass_of_methodNamed B.named
  have hlocks := B.notSynchronized
  have lk0 : Cond.fieldLink RX7 7 "TypeTraysModel" "w" "[I" ∈ wsX7_widthOf := List.mem_of_getElem? (i := 1) rfl
  have inX7 : ∀ w ∈ u_ws RX7 TX7 16, w ∈ wsX7_widthOf := zin_at 2 rfl
  have hS : va_S (zA 6 ad) s.heap s.heap [] := va_S.rf
  have hA : ∀ i, i < 6 → zA 6 ad (ad i) := fun i hi => ⟨i, hi, rfl⟩
  have hl := lv_entry ([.ref (ad 0), .int p0]) (n := 2) (Nat.le_of_ble_eq_true rfl)
  rw [lg_entry_eq]
  generalize (lg_sl ([.ref (ad 0), .int p0]) ++ List.replicate (2 - (lg_sl ([.ref (ad 0), .int p0])).length) Slot.unset).toArray = ls at hl ⊢
  have hl : lv_has ls 2 [(0, .ref (ad 0)), (1, .int p0)] := hl
  show W p l e ({ frames := 0, cells := 0, slots := 0, locals := 0 } : Room) s m ([.ref (ad 0), .int p0] : List Value).toArray below meth c s.heap [] 0 0 (MQ below (va_Qi Q (zB D 6 (zme cy ad) ad) (zA 6 ad)) ([.ref (ad 0), .int p0] : List Value).toArray s 0 0 (zA 6 ad)) (F0 m 0 ls [])
  unfold wp_X7_widthOf at h
  refine lv_aload_n hx hb dX7_widthOf_0 rfl (lv_at hl 0 rfl) ?_
  refine zget hx hb hts inX7 hown hK hw 0 (by decide) rfl rfl 0 (by decide) lk0 (fun _ h9 => h9) rfl dX7_widthOf_1 ?_
  refine lv_bipush (v := (jI 12)) hx hb dX7_widthOf_4 (by decide +kernel) ?_
  refine lv_iload_n hx hb dX7_widthOf_6 rfl (lv_at hl 1 rfl) ?_
  refine lv_bipush (v := (jI 9)) hx hb dX7_widthOf_7 (by decide +kernel) ?_
  refine lv_idiv hx hb dX7_widthOf_9 (by decide +kernel) ?_
  refine lv_iadd hx hb dX7_widthOf_10 ?_
  refine ziald hx hb hK hw 1 (by decide) rfl h.1 dX7_widthOf_11 ?_
  refine lv_topi (fun v1 ev1 => ?_)
  have h := h.2 v1 ev1
  refine lv_iload_n hx hb dX7_widthOf_12 rfl (lv_at hl 1 rfl) ?_
  refine lv_bipush (v := (jI 9)) hx hb dX7_widthOf_13 (by decide +kernel) ?_
  refine lv_irem hx hb dX7_widthOf_15 (by decide +kernel) ?_
  refine lv_iconst (v := (jI 3)) hx hb dX7_widthOf_16 rfl ?_
  refine lv_idiv hx hb dX7_widthOf_17 (by decide +kernel) ?_
  refine lv_iconst (v := (jI 1)) hx hb dX7_widthOf_18 rfl ?_
  refine lv_iadd hx hb dX7_widthOf_19 ?_
  refine lv_imul hx hb dX7_widthOf_20 ?_
  refine lv_iconst (v := (jI 2)) hx hb dX7_widthOf_21 rfl ?_
  refine lv_iload_n hx hb dX7_widthOf_22 rfl (lv_at hl 1 rfl) ?_
  refine lv_iconst (v := (jI 3)) hx hb dX7_widthOf_23 rfl ?_
  refine lv_irem hx hb dX7_widthOf_24 (by decide +kernel) ?_
  refine lv_imul hx hb dX7_widthOf_25 ?_
  refine lv_iadd hx hb dX7_widthOf_26 ?_
  exact W.iret (v := ((v1 * (((p0 - p0 / (jI 9) * (jI 9)) / (jI 3)) + (jI 1))) + ((jI 2) * (p0 - p0 / (jI 3) * (jI 3))))) hx hb hr (fun t ht hW => ⟨⟨_, _, rfl, h, zend hw ht⟩, hS.F ht⟩) hS.2.2 dX7_widthOf_27
theorem k_X7_widthOf {p : Program} {l : Launch} {e : Env} {R : Room} {s : State} {m : MethodId} {args : Array Value} {below : List Frame} {meth : Method} {c : Code} {H : Heap} {locs : List Loc} {cells slots : Nat} {QQ : State → Prop} {cc : ByteArray} {pc nL index : Nat} {ls : Array Slot} {rest : List Value} {D : va_G} {cy : cyT} {ad : Nat → Nat} {own : String} {Ts : List Cond} {H0 : Heap} {σ : ST} {p0 : Int32} {Q : Int32 → ST → Prop} (hx : p.tables.exec = Jvm.exec) (hb : c.code = cc) (hml : c.maxLocals = nL) (hown : s.vm.findClass own = some m.cls) (hts : ∀ w ∈ Ts, w.before args s = true) (hG : GoodIn Ts (wsV own index RX7 yX7_widthOf wsX7_widthOf)) (hR : 0 + 1 ≤ R.frames ∧ 8 + (2 + 11) + 0 ≤ R.locals) (hcs : cells ≤ R.cells ∧ slots ≤ R.slots) (hK : zK D cy s) (hj : zI 6 ad) (hw : zW D 6 (zme cy ad σ) ad H) {A0 : Nat → Prop} (hA : ∀ i, i < 6 → A0 (ad i)) (hS : va_S A0 H0 H locs) (hsz : ls.size = nL) (hrest : (rest.map fun v => v.category).sum ≤ 8) (hdg : decode cc pc = .ok (.invokevirtual index, 3)) (h : wp_X7_widthOf σ p0 Q) (kk : ∀ (r : Int32) (σ : ST) (H : Heap) (locs : List Loc), Q r σ → zW D 6 (zme cy ad σ) ad H → va_S A0 H0 H locs → W p l e R s m args below meth c H locs cells slots QQ (F0 m (pc + 3) ls (.int r :: rest))) : W p l e R s m args below meth c H locs cells slots QQ (F0 m pc ls (.int p0 :: .ref (ad 0) :: rest)) :=
  zcalli (va_runV (As := [.int p0]) (rest := rest) ⟨hx, hb, hml, hown, hts⟩ (c_X7_widthOf l D cy ad σ p0 h) (cwV 1 hts hG rfl rfl rfl (by decide +kernel) hR) (zpreV hj hK hw _ (i := 0) (ci := 6) (by decide) rfl rfl) rfl rfl hsz rfl (lv_room hrest) hdg hcs) hA hS kk
set_option maxHeartbeats 4000000 in
set_option maxRecDepth 100000 in
theorem c_X7_heightOf (l : Launch) (D : va_G) (cy : cyT) (ad : Nat → Nat) (σ : ST) (p0 : Int32) {Q : Int32 → ST → Prop} (h : wp_X7_heightOf σ p0 Q) : Met l yX7_heightOf wsX7_heightOf ({ frames := 0, cells := 0, slots := 0, locals := 0 } : Room) (zPre D cy 6 (zme cy ad σ) ad [.ref (ad 0), .int p0]) (va_Qi Q (zB D 6 (zme cy ad) ad) (zA 6 ad)) 0 0 (zA 6 ad) := by
  refine Met.ofW (cc := cX7_heightOf) (maxL := 2) (ret := (some .int)) (by decide) rfl ?_
  intro p e s m args below meth c s₁ B hml hv
  obtain ⟨rfl, hj, hK, hw⟩ := hv
  have hx := B.exec
  have hb := B.bytes
  have hr := B.returns
  have hts := atoms_spec (ws := wsX7_heightOf) B.pre
  have hown : s.vm.findClass RX7 = some m.cls := findClass_of_methodNamed B.named
  have hlocks := B.notSynchronized
  have lk0 : Cond.fieldLink RX7 7 "TypeTraysModel" "w" "[I" ∈ wsX7_heightOf := List.mem_of_getElem? (i := 1) rfl
  have inX7 : ∀ w ∈ u_ws RX7 TX7 16, w ∈ wsX7_heightOf := zin_at 2 rfl
  have hS : va_S (zA 6 ad) s.heap s.heap [] := va_S.rf
  have hA : ∀ i, i < 6 → zA 6 ad (ad i) := fun i hi => ⟨i, hi, rfl⟩
  have hl := lv_entry ([.ref (ad 0), .int p0]) (n := 2) (Nat.le_of_ble_eq_true rfl)
  rw [lg_entry_eq]
  generalize (lg_sl ([.ref (ad 0), .int p0]) ++ List.replicate (2 - (lg_sl ([.ref (ad 0), .int p0])).length) Slot.unset).toArray = ls at hl ⊢
  have hl : lv_has ls 2 [(0, .ref (ad 0)), (1, .int p0)] := hl
  show W p l e ({ frames := 0, cells := 0, slots := 0, locals := 0 } : Room) s m ([.ref (ad 0), .int p0] : List Value).toArray below meth c s.heap [] 0 0 (MQ below (va_Qi Q (zB D 6 (zme cy ad) ad) (zA 6 ad)) ([.ref (ad 0), .int p0] : List Value).toArray s 0 0 (zA 6 ad)) (F0 m 0 ls [])
  unfold wp_X7_heightOf at h
  refine lv_aload_n hx hb dX7_heightOf_0 rfl (lv_at hl 0 rfl) ?_
  refine zget hx hb hts inX7 hown hK hw 0 (by decide) rfl rfl 0 (by decide) lk0 (fun _ h9 => h9) rfl dX7_heightOf_1 ?_
  refine lv_bipush (v := (jI 28)) hx hb dX7_heightOf_4 (by decide +kernel) ?_
  refine lv_iload_n hx hb dX7_heightOf_6 rfl (lv_at hl 1 rfl) ?_
  refine lv_bipush (v := (jI 9)) hx hb dX7_heightOf_7 (by decide +kernel) ?_
  refine lv_idiv hx hb dX7_heightOf_9 (by decide +kernel) ?_
  refine lv_iadd hx hb dX7_heightOf_10 ?_
  refine ziald hx hb hK hw 1 (by decide) rfl h.1 dX7_heightOf_11 ?_
  refine lv_topi (fun v1 ev1 => ?_)
  have h := h.2 v1 ev1
  refine lv_iload_n hx hb dX7_heightOf_12 rfl (lv_at hl 1 rfl) ?_
  refine lv_bipush (v := (jI 9)) hx hb dX7_heightOf_13 (by decide +kernel) ?_
  refine lv_irem hx hb dX7_heightOf_15 (by decide +kernel) ?_
  refine lv_iconst (v := (jI 3)) hx hb dX7_heightOf_16 rfl ?_
  refine lv_idiv hx hb dX7_heightOf_17 (by decide +kernel) ?_
  refine lv_iconst (v := (jI 1)) hx hb dX7_heightOf_18 rfl ?_
  refine lv_iadd hx hb dX7_heightOf_19 ?_
  refine lv_imul hx hb dX7_heightOf_20 ?_
  refine lv_iconst (v := (jI 2)) hx hb dX7_heightOf_21 rfl ?_
  refine lv_iload_n hx hb dX7_heightOf_22 rfl (lv_at hl 1 rfl) ?_
  refine lv_iconst (v := (jI 3)) hx hb dX7_heightOf_23 rfl ?_
  refine lv_irem hx hb dX7_heightOf_24 (by decide +kernel) ?_
  refine lv_imul hx hb dX7_heightOf_25 ?_
  refine lv_iadd hx hb dX7_heightOf_26 ?_
  exact W.iret (v := ((v1 * (((p0 - p0 / (jI 9) * (jI 9)) / (jI 3)) + (jI 1))) + ((jI 2) * (p0 - p0 / (jI 3) * (jI 3))))) hx hb hr (fun t ht hW => ⟨⟨_, _, rfl, h, zend hw ht⟩, hS.F ht⟩) hS.2.2 dX7_heightOf_27
theorem k_X7_heightOf {p : Program} {l : Launch} {e : Env} {R : Room} {s : State} {m : MethodId} {args : Array Value} {below : List Frame} {meth : Method} {c : Code} {H : Heap} {locs : List Loc} {cells slots : Nat} {QQ : State → Prop} {cc : ByteArray} {pc nL index : Nat} {ls : Array Slot} {rest : List Value} {D : va_G} {cy : cyT} {ad : Nat → Nat} {own : String} {Ts : List Cond} {H0 : Heap} {σ : ST} {p0 : Int32} {Q : Int32 → ST → Prop} (hx : p.tables.exec = Jvm.exec) (hb : c.code = cc) (hml : c.maxLocals = nL) (hown : s.vm.findClass own = some m.cls) (hts : ∀ w ∈ Ts, w.before args s = true) (hG : GoodIn Ts (wsV own index RX7 yX7_heightOf wsX7_heightOf)) (hR : 0 + 1 ≤ R.frames ∧ 8 + (2 + 11) + 0 ≤ R.locals) (hcs : cells ≤ R.cells ∧ slots ≤ R.slots) (hK : zK D cy s) (hj : zI 6 ad) (hw : zW D 6 (zme cy ad σ) ad H) {A0 : Nat → Prop} (hA : ∀ i, i < 6 → A0 (ad i)) (hS : va_S A0 H0 H locs) (hsz : ls.size = nL) (hrest : (rest.map fun v => v.category).sum ≤ 8) (hdg : decode cc pc = .ok (.invokevirtual index, 3)) (h : wp_X7_heightOf σ p0 Q) (kk : ∀ (r : Int32) (σ : ST) (H : Heap) (locs : List Loc), Q r σ → zW D 6 (zme cy ad σ) ad H → va_S A0 H0 H locs → W p l e R s m args below meth c H locs cells slots QQ (F0 m (pc + 3) ls (.int r :: rest))) : W p l e R s m args below meth c H locs cells slots QQ (F0 m pc ls (.int p0 :: .ref (ad 0) :: rest)) :=
  zcalli (va_runV (As := [.int p0]) (rest := rest) ⟨hx, hb, hml, hown, hts⟩ (c_X7_heightOf l D cy ad σ p0 h) (cwV 1 hts hG rfl rfl rfl (by decide +kernel) hR) (zpreV hj hK hw _ (i := 0) (ci := 6) (by decide) rfl rfl) rfl rfl hsz rfl (lv_room hrest) hdg hcs) hA hS kk
set_option maxHeartbeats 4000000 in
set_option maxRecDepth 100000 in
theorem c_X7_areaOf (l : Launch) (D : va_G) (cy : cyT) (ad : Nat → Nat) (σ : ST) (p0 : Int32) {Q : Int32 → ST → Prop} (h : wp_X7_areaOf σ p0 Q) : Met l yX7_areaOf wsX7_areaOf ({ frames := 1, cells := 0, slots := 0, locals := 21 } : Room) (zPre D cy 6 (zme cy ad σ) ad [.ref (ad 0), .int p0]) (va_Qi Q (zB D 6 (zme cy ad) ad) (zA 6 ad)) 0 0 (zA 6 ad) := by
  refine Met.ofW (cc := cX7_areaOf) (maxL := 2) (ret := (some .int)) (by decide) rfl ?_
  intro p e s m args below meth c s₁ B hml hv
  obtain ⟨rfl, hj, hK, hw⟩ := hv
  have hx := B.exec
  have hb := B.bytes
  have hr := B.returns
  have hts := atoms_spec (ws := wsX7_areaOf) B.pre
  have hown : s.vm.findClass RX7 = some m.cls := findClass_of_methodNamed B.named
  have hlocks := B.notSynchronized
  have hS : va_S (zA 6 ad) s.heap s.heap [] := va_S.rf
  have hA : ∀ i, i < 6 → zA 6 ad (ad i) := fun i hi => ⟨i, hi, rfl⟩
  have hl := lv_entry ([.ref (ad 0), .int p0]) (n := 2) (Nat.le_of_ble_eq_true rfl)
  rw [lg_entry_eq]
  generalize (lg_sl ([.ref (ad 0), .int p0]) ++ List.replicate (2 - (lg_sl ([.ref (ad 0), .int p0])).length) Slot.unset).toArray = ls at hl ⊢
  have hl : lv_has ls 2 [(0, .ref (ad 0)), (1, .int p0)] := hl
  show W p l e ({ frames := 1, cells := 0, slots := 0, locals := 21 } : Room) s m ([.ref (ad 0), .int p0] : List Value).toArray below meth c s.heap [] 0 0 (MQ below (va_Qi Q (zB D 6 (zme cy ad) ad) (zA 6 ad)) ([.ref (ad 0), .int p0] : List Value).toArray s 0 0 (zA 6 ad)) (F0 m 0 ls [])
  unfold wp_X7_areaOf at h
  refine lv_aload_n hx hb dX7_areaOf_0 rfl (lv_at hl 0 rfl) ?_
  refine lv_iload_n hx hb dX7_areaOf_1 rfl (lv_at hl 1 rfl) ?_
  refine k_X7_widthOf (rest := []) hx hb hml hown hts gX7_areaOf_X7_widthOf ⟨Nat.le_of_ble_eq_true rfl, Nat.le_of_ble_eq_true rfl⟩ ⟨Nat.zero_le _, Nat.zero_le _⟩ hK hj hw hA hS hl.1 (Nat.le_of_ble_eq_true rfl) dX7_areaOf_2 h (fun r1 s1 H locs h hw hS => ?_)
  refine lv_aload_n hx hb dX7_areaOf_5 rfl (lv_at hl 0 rfl) ?_
  refine lv_iload_n hx hb dX7_areaOf_6 rfl (lv_at hl 1 rfl) ?_
  refine k_X7_heightOf (rest := [.int r1]) hx hb hml hown hts gX7_areaOf_X7_heightOf ⟨Nat.le_of_ble_eq_true rfl, Nat.le_of_ble_eq_true rfl⟩ ⟨Nat.zero_le _, Nat.zero_le _⟩ hK hj hw hA hS hl.1 (Nat.le_of_ble_eq_true rfl) dX7_areaOf_7 h (fun r2 s2 H locs h hw hS => ?_)
  refine lv_imul hx hb dX7_areaOf_10 ?_
  exact W.iret (v := (r1 * r2)) hx hb hr (fun t ht hW => ⟨⟨_, _, rfl, h, zend hw ht⟩, hS.F ht⟩) hS.2.2 dX7_areaOf_11
theorem k_X7_areaOf {p : Program} {l : Launch} {e : Env} {R : Room} {s : State} {m : MethodId} {args : Array Value} {below : List Frame} {meth : Method} {c : Code} {H : Heap} {locs : List Loc} {cells slots : Nat} {QQ : State → Prop} {cc : ByteArray} {pc nL index : Nat} {ls : Array Slot} {rest : List Value} {D : va_G} {cy : cyT} {ad : Nat → Nat} {own : String} {Ts : List Cond} {H0 : Heap} {σ : ST} {p0 : Int32} {Q : Int32 → ST → Prop} (hx : p.tables.exec = Jvm.exec) (hb : c.code = cc) (hml : c.maxLocals = nL) (hown : s.vm.findClass own = some m.cls) (hts : ∀ w ∈ Ts, w.before args s = true) (hG : GoodIn Ts (wsV own index RX7 yX7_areaOf wsX7_areaOf)) (hR : 1 + 1 ≤ R.frames ∧ 8 + (2 + 11) + 21 ≤ R.locals) (hcs : cells ≤ R.cells ∧ slots ≤ R.slots) (hK : zK D cy s) (hj : zI 6 ad) (hw : zW D 6 (zme cy ad σ) ad H) {A0 : Nat → Prop} (hA : ∀ i, i < 6 → A0 (ad i)) (hS : va_S A0 H0 H locs) (hsz : ls.size = nL) (hrest : (rest.map fun v => v.category).sum ≤ 8) (hdg : decode cc pc = .ok (.invokevirtual index, 3)) (h : wp_X7_areaOf σ p0 Q) (kk : ∀ (r : Int32) (σ : ST) (H : Heap) (locs : List Loc), Q r σ → zW D 6 (zme cy ad σ) ad H → va_S A0 H0 H locs → W p l e R s m args below meth c H locs cells slots QQ (F0 m (pc + 3) ls (.int r :: rest))) : W p l e R s m args below meth c H locs cells slots QQ (F0 m pc ls (.int p0 :: .ref (ad 0) :: rest)) :=
  zcalli (va_runV (As := [.int p0]) (rest := rest) ⟨hx, hb, hml, hown, hts⟩ (c_X7_areaOf l D cy ad σ p0 h) (cwV 1 hts hG rfl rfl rfl (by decide +kernel) hR) (zpreV hj hK hw _ (i := 0) (ci := 6) (by decide) rfl rfl) rfl rfl hsz rfl (lv_room hrest) hdg hcs) hA hS kk
set_option maxHeartbeats 4000000 in
set_option maxRecDepth 100000 in
theorem c_X7_is (l : Launch) (D : va_G) (cy : cyT) (ad : Nat → Nat) (σ : ST) (p0 : Int32) {Q : Int32 → ST → Prop} (h : wp_X7_is σ p0 Q) : Met l yX7_is wsX7_is ({ frames := 1, cells := 0, slots := 0, locals := 22 } : Room) (zPre D cy 6 (zme cy ad σ) ad [.ref (ad 0), .int p0]) (va_Qi Q (zB D 6 (zme cy ad) ad) (zA 6 ad)) 0 0 (zA 6 ad) := by
  refine Met.ofW (cc := cX7_is) (maxL := 2) (ret := (some .boolean)) (by decide) rfl ?_
  intro p e s m args below meth c s₁ B hml hv
  obtain ⟨rfl, hj, hK, hw⟩ := hv
  have hx := B.exec
  have hb := B.bytes
  have hr := B.returns
  have hts := atoms_spec (ws := wsX7_is) B.pre
  have hown : s.vm.findClass RX7 = some m.cls := findClass_of_methodNamed B.named
  have hlocks := B.notSynchronized
  have hS : va_S (zA 6 ad) s.heap s.heap [] := va_S.rf
  have hA : ∀ i, i < 6 → zA 6 ad (ad i) := fun i hi => ⟨i, hi, rfl⟩
  have hl := lv_entry ([.ref (ad 0), .int p0]) (n := 2) (Nat.le_of_ble_eq_true rfl)
  rw [lg_entry_eq]
  generalize (lg_sl ([.ref (ad 0), .int p0]) ++ List.replicate (2 - (lg_sl ([.ref (ad 0), .int p0])).length) Slot.unset).toArray = ls at hl ⊢
  have hl : lv_has ls 2 [(0, .ref (ad 0)), (1, .int p0)] := hl
  show W p l e ({ frames := 1, cells := 0, slots := 0, locals := 22 } : Room) s m ([.ref (ad 0), .int p0] : List Value).toArray below meth c s.heap [] 0 0 (MQ below (va_Qi Q (zB D 6 (zme cy ad) ad) (zA 6 ad)) ([.ref (ad 0), .int p0] : List Value).toArray s 0 0 (zA 6 ad)) (F0 m 0 ls [])
  unfold wp_X7_is at h
  refine lv_aload_n hx hb dX7_is_0 rfl (lv_at hl 0 rfl) ?_
  refine lv_iload_n hx hb dX7_is_1 rfl (lv_at hl 1 rfl) ?_
  refine lv_iconst (v := (jI 0)) hx hb dX7_is_2 rfl ?_
  refine k_X7_of (rest := []) hx hb hml hown hts gX7_is_X7_of ⟨Nat.le_of_ble_eq_true rfl, Nat.le_of_ble_eq_true rfl⟩ ⟨Nat.zero_le _, Nat.zero_le _⟩ hK hj hw hA hS hl.1 (Nat.le_of_ble_eq_true rfl) dX7_is_3 h (fun r1 s1 H locs h hw hS => ?_)
  refine lv_iconst (v := (jI (-1))) hx hb dX7_is_6 rfl ?_
  refine lv_icmp_eq (tgt := 14) hx hb dX7_is_7 (by decide) (fun c1 => ?_) (fun c1 => ?_)
  · have h := h.1 c1
    refine lv_iconst (v := (jI 0)) hx hb dX7_is_14 rfl ?_
    exact W.zret (v := (jI 0)) (ty := .boolean) hx hb hr (by decide +kernel) (fun t ht hW => ⟨⟨_, _, rfl, h, zend hw ht⟩, hS.F ht⟩) hS.2.2 dX7_is_15
  · have h := h.2 c1
    refine lv_iconst (v := (jI 1)) hx hb dX7_is_10 rfl ?_
    refine lv_goto (tgt := 15) hx hb dX7_is_11 (by decide) ?_
    exact W.zret (v := (jI 1)) (ty := .boolean) hx hb hr (by decide +kernel) (fun t ht hW => ⟨⟨_, _, rfl, h, zend hw ht⟩, hS.F ht⟩) hS.2.2 dX7_is_15
theorem k_X7_is {p : Program} {l : Launch} {e : Env} {R : Room} {s : State} {m : MethodId} {args : Array Value} {below : List Frame} {meth : Method} {c : Code} {H : Heap} {locs : List Loc} {cells slots : Nat} {QQ : State → Prop} {cc : ByteArray} {pc nL index : Nat} {ls : Array Slot} {rest : List Value} {D : va_G} {cy : cyT} {ad : Nat → Nat} {own : String} {Ts : List Cond} {H0 : Heap} {σ : ST} {p0 : Int32} {Q : Int32 → ST → Prop} (hx : p.tables.exec = Jvm.exec) (hb : c.code = cc) (hml : c.maxLocals = nL) (hown : s.vm.findClass own = some m.cls) (hts : ∀ w ∈ Ts, w.before args s = true) (hG : GoodIn Ts (wsV own index RX7 yX7_is wsX7_is)) (hR : 1 + 1 ≤ R.frames ∧ 8 + (2 + 11) + 22 ≤ R.locals) (hcs : cells ≤ R.cells ∧ slots ≤ R.slots) (hK : zK D cy s) (hj : zI 6 ad) (hw : zW D 6 (zme cy ad σ) ad H) {A0 : Nat → Prop} (hA : ∀ i, i < 6 → A0 (ad i)) (hS : va_S A0 H0 H locs) (hsz : ls.size = nL) (hrest : (rest.map fun v => v.category).sum ≤ 8) (hdg : decode cc pc = .ok (.invokevirtual index, 3)) (h : wp_X7_is σ p0 Q) (kk : ∀ (r : Int32) (σ : ST) (H : Heap) (locs : List Loc), Q r σ → zW D 6 (zme cy ad σ) ad H → va_S A0 H0 H locs → W p l e R s m args below meth c H locs cells slots QQ (F0 m (pc + 3) ls (.int r :: rest))) : W p l e R s m args below meth c H locs cells slots QQ (F0 m pc ls (.int p0 :: .ref (ad 0) :: rest)) :=
  zcalli (va_runV (As := [.int p0]) (rest := rest) ⟨hx, hb, hml, hown, hts⟩ (c_X7_is l D cy ad σ p0 h) (cwV 1 hts hG rfl rfl rfl (by decide +kernel) hR) (zpreV hj hK hw _ (i := 0) (ci := 6) (by decide) rfl rfl) rfl rfl hsz rfl (lv_room hrest) hdg hcs) hA hS kk
set_option maxHeartbeats 4000000 in
set_option maxRecDepth 100000 in
theorem c_X7_isLaid (l : Launch) (D : va_G) (cy : cyT) (ad : Nat → Nat) (σ : ST) (p0 : Int32) {Q : Int32 → ST → Prop} (h : wp_X7_isLaid σ p0 Q) : Met l yX7_isLaid wsX7_isLaid ({ frames := 1, cells := 0, slots := 0, locals := 22 } : Room) (zPre D cy 6 (zme cy ad σ) ad [.ref (ad 0), .int p0]) (va_Qi Q (zB D 6 (zme cy ad) ad) (zA 6 ad)) 0 0 (zA 6 ad) := by
  refine Met.ofW (cc := cX7_isLaid) (maxL := 2) (ret := (some .boolean)) (by decide) rfl ?_
  intro p e s m args below meth c s₁ B hml hv
  obtain ⟨rfl, hj, hK, hw⟩ := hv
  have hx := B.exec
  have hb := B.bytes
  have hr := B.returns
  have hts := atoms_spec (ws := wsX7_isLaid) B.pre
  have hown : s.vm.findClass RX7 = some m.cls := findClass_of_methodNamed B.named
  have hlocks := B.notSynchronized
  have hS : va_S (zA 6 ad) s.heap s.heap [] := va_S.rf
  have hA : ∀ i, i < 6 → zA 6 ad (ad i) := fun i hi => ⟨i, hi, rfl⟩
  have hl := lv_entry ([.ref (ad 0), .int p0]) (n := 2) (Nat.le_of_ble_eq_true rfl)
  rw [lg_entry_eq]
  generalize (lg_sl ([.ref (ad 0), .int p0]) ++ List.replicate (2 - (lg_sl ([.ref (ad 0), .int p0])).length) Slot.unset).toArray = ls at hl ⊢
  have hl : lv_has ls 2 [(0, .ref (ad 0)), (1, .int p0)] := hl
  show W p l e ({ frames := 1, cells := 0, slots := 0, locals := 22 } : Room) s m ([.ref (ad 0), .int p0] : List Value).toArray below meth c s.heap [] 0 0 (MQ below (va_Qi Q (zB D 6 (zme cy ad) ad) (zA 6 ad)) ([.ref (ad 0), .int p0] : List Value).toArray s 0 0 (zA 6 ad)) (F0 m 0 ls [])
  unfold wp_X7_isLaid at h
  refine lv_aload_n hx hb dX7_isLaid_0 rfl (lv_at hl 0 rfl) ?_
  refine lv_iload_n hx hb dX7_isLaid_1 rfl (lv_at hl 1 rfl) ?_
  refine lv_iconst (v := (jI 0)) hx hb dX7_isLaid_2 rfl ?_
  refine k_X7_of (rest := []) hx hb hml hown hts gX7_isLaid_X7_of ⟨Nat.le_of_ble_eq_true rfl, Nat.le_of_ble_eq_true rfl⟩ ⟨Nat.zero_le _, Nat.zero_le _⟩ hK hj hw hA hS hl.1 (Nat.le_of_ble_eq_true rfl) dX7_isLaid_3 h (fun r1 s1 H locs h hw hS => ?_)
  refine lv_iconst (v := (jI 0)) hx hb dX7_isLaid_6 rfl ?_
  refine lv_iconst (v := (jI 2)) hx hb dX7_isLaid_7 rfl ?_
  refine k_X7_in (rest := []) hx hb hml hown hts gX7_isLaid_X7_in ⟨Nat.le_of_ble_eq_true rfl, Nat.le_of_ble_eq_true rfl⟩ ⟨Nat.zero_le _, Nat.zero_le _⟩ hK hj hw hA hS hl.1 (Nat.le_of_ble_eq_true rfl) dX7_isLaid_8 h (fun r2 s2 H locs h hw hS => ?_)
  exact W.zret (v := r2) (ty := .boolean) hx hb hr h.1 (fun t ht hW => ⟨⟨_, _, rfl, h.2, zend hw ht⟩, hS.F ht⟩) hS.2.2 dX7_isLaid_11
theorem k_X7_isLaid {p : Program} {l : Launch} {e : Env} {R : Room} {s : State} {m : MethodId} {args : Array Value} {below : List Frame} {meth : Method} {c : Code} {H : Heap} {locs : List Loc} {cells slots : Nat} {QQ : State → Prop} {cc : ByteArray} {pc nL index : Nat} {ls : Array Slot} {rest : List Value} {D : va_G} {cy : cyT} {ad : Nat → Nat} {own : String} {Ts : List Cond} {H0 : Heap} {σ : ST} {p0 : Int32} {Q : Int32 → ST → Prop} (hx : p.tables.exec = Jvm.exec) (hb : c.code = cc) (hml : c.maxLocals = nL) (hown : s.vm.findClass own = some m.cls) (hts : ∀ w ∈ Ts, w.before args s = true) (hG : GoodIn Ts (wsV own index RX7 yX7_isLaid wsX7_isLaid)) (hR : 1 + 1 ≤ R.frames ∧ 8 + (2 + 11) + 22 ≤ R.locals) (hcs : cells ≤ R.cells ∧ slots ≤ R.slots) (hK : zK D cy s) (hj : zI 6 ad) (hw : zW D 6 (zme cy ad σ) ad H) {A0 : Nat → Prop} (hA : ∀ i, i < 6 → A0 (ad i)) (hS : va_S A0 H0 H locs) (hsz : ls.size = nL) (hrest : (rest.map fun v => v.category).sum ≤ 8) (hdg : decode cc pc = .ok (.invokevirtual index, 3)) (h : wp_X7_isLaid σ p0 Q) (kk : ∀ (r : Int32) (σ : ST) (H : Heap) (locs : List Loc), Q r σ → zW D 6 (zme cy ad σ) ad H → va_S A0 H0 H locs → W p l e R s m args below meth c H locs cells slots QQ (F0 m (pc + 3) ls (.int r :: rest))) : W p l e R s m args below meth c H locs cells slots QQ (F0 m pc ls (.int p0 :: .ref (ad 0) :: rest)) :=
  zcalli (va_runV (As := [.int p0]) (rest := rest) ⟨hx, hb, hml, hown, hts⟩ (c_X7_isLaid l D cy ad σ p0 h) (cwV 1 hts hG rfl rfl rfl (by decide +kernel) hR) (zpreV hj hK hw _ (i := 0) (ci := 6) (by decide) rfl rfl) rfl rfl hsz rfl (lv_room hrest) hdg hcs) hA hS kk
set_option maxHeartbeats 4000000 in
set_option maxRecDepth 100000 in
theorem c_X7_isNow (l : Launch) (D : va_G) (cy : cyT) (ad : Nat → Nat) (σ : ST) (p0 : Int32) {Q : Int32 → ST → Prop} (h : wp_X7_isNow σ p0 Q) : Met l yX7_isNow wsX7_isNow ({ frames := 2, cells := 0, slots := 0, locals := 43 } : Room) (zPre D cy 6 (zme cy ad σ) ad [.ref (ad 0), .int p0]) (va_Qi Q (zB D 6 (zme cy ad) ad) (zA 6 ad)) 0 0 (zA 6 ad) := by
  refine Met.ofW (cc := cX7_isNow) (maxL := 2) (ret := (some .boolean)) (by decide) rfl ?_
  intro p e s m args below meth c s₁ B hml hv
  obtain ⟨rfl, hj, hK, hw⟩ := hv
  have hx := B.exec
  have hb := B.bytes
  have hr := B.returns
  have hts := atoms_spec (ws := wsX7_isNow) B.pre
  have hown : s.vm.findClass RX7 = some m.cls := findClass_of_methodNamed B.named
  have hlocks := B.notSynchronized
  have lk0 : Cond.fieldLink RX7 7 "TypeTraysModel" "w" "[I" ∈ wsX7_isNow := List.mem_of_getElem? (i := 1) rfl
  have inX7 : ∀ w ∈ u_ws RX7 TX7 16, w ∈ wsX7_isNow := zin_at 11 rfl
  have hS : va_S (zA 6 ad) s.heap s.heap [] := va_S.rf
  have hA : ∀ i, i < 6 → zA 6 ad (ad i) := fun i hi => ⟨i, hi, rfl⟩
  have hl := lv_entry ([.ref (ad 0), .int p0]) (n := 2) (Nat.le_of_ble_eq_true rfl)
  rw [lg_entry_eq]
  generalize (lg_sl ([.ref (ad 0), .int p0]) ++ List.replicate (2 - (lg_sl ([.ref (ad 0), .int p0])).length) Slot.unset).toArray = ls at hl ⊢
  have hl : lv_has ls 2 [(0, .ref (ad 0)), (1, .int p0)] := hl
  show W p l e ({ frames := 2, cells := 0, slots := 0, locals := 43 } : Room) s m ([.ref (ad 0), .int p0] : List Value).toArray below meth c s.heap [] 0 0 (MQ below (va_Qi Q (zB D 6 (zme cy ad) ad) (zA 6 ad)) ([.ref (ad 0), .int p0] : List Value).toArray s 0 0 (zA 6 ad)) (F0 m 0 ls [])
  unfold wp_X7_isNow at h
  refine lv_aload_n hx hb dX7_isNow_0 rfl (lv_at hl 0 rfl) ?_
  refine lv_iload_n hx hb dX7_isNow_1 rfl (lv_at hl 1 rfl) ?_
  refine k_X7_is (rest := []) hx hb hml hown hts gX7_isNow_X7_is ⟨Nat.le_of_ble_eq_true rfl, Nat.le_of_ble_eq_true rfl⟩ ⟨Nat.zero_le _, Nat.zero_le _⟩ hK hj hw hA hS hl.1 (Nat.le_of_ble_eq_true rfl) dX7_isNow_2 h (fun r1 s1 H locs h hw hS => ?_)
  refine zif_eq (tgt := 27) hx hb dX7_isNow_5 (by decide) (fun c1 => ?_) (fun c1 => ?_)
  · have h := h.1 c1
    refine lv_iconst (v := (jI 0)) hx hb dX7_isNow_27 rfl ?_
    exact W.zret (v := (jI 0)) (ty := .boolean) hx hb hr (by decide +kernel) (fun t ht hW => ⟨⟨_, _, rfl, h, zend hw ht⟩, hS.F ht⟩) hS.2.2 dX7_isNow_28
  · have h := h.2 c1
    refine lv_aload_n hx hb dX7_isNow_8 rfl (lv_at hl 0 rfl) ?_
    refine lv_iload_n hx hb dX7_isNow_9 rfl (lv_at hl 1 rfl) ?_
    refine lv_iconst (v := (jI 4)) hx hb dX7_isNow_10 rfl ?_
    refine k_X7_of (rest := []) hx hb hml hown hts gX7_isNow_X7_of ⟨Nat.le_of_ble_eq_true rfl, Nat.le_of_ble_eq_true rfl⟩ ⟨Nat.zero_le _, Nat.zero_le _⟩ hK hj hw hA hS hl.1 (Nat.le_of_ble_eq_true rfl) dX7_isNow_11 h (fun r2 s2 H locs h hw hS => ?_)
    refine lv_aload_n hx hb dX7_isNow_14 rfl (lv_at hl 0 rfl) ?_
    refine zget hx hb hts inX7 hown hK hw 0 (by decide) rfl rfl 0 (by decide) lk0 (fun _ h9 => h9) rfl dX7_isNow_15 ?_
    refine lv_iconst (v := (jI 1)) hx hb dX7_isNow_18 rfl ?_
    refine ziald hx hb hK hw 1 (by decide) rfl h.1 dX7_isNow_19 ?_
    refine lv_topi (fun v1 ev1 => ?_)
    have h := h.2 v1 ev1
    refine lv_icmp_ne (tgt := 27) hx hb dX7_isNow_20 (by decide) (fun c2 => ?_) (fun c2 => ?_)
    · have h := h.2 c2
      refine lv_iconst (v := (jI 0)) hx hb dX7_isNow_27 rfl ?_
      exact W.zret (v := (jI 0)) (ty := .boolean) hx hb hr (by decide +kernel) (fun t ht hW => ⟨⟨_, _, rfl, h, zend hw ht⟩, hS.F ht⟩) hS.2.2 dX7_isNow_28
    · have h := h.1 c2
      refine lv_iconst (v := (jI 1)) hx hb dX7_isNow_23 rfl ?_
      refine lv_goto (tgt := 28) hx hb dX7_isNow_24 (by decide) ?_
      exact W.zret (v := (jI 1)) (ty := .boolean) hx hb hr (by decide +kernel) (fun t ht hW => ⟨⟨_, _, rfl, h, zend hw ht⟩, hS.F ht⟩) hS.2.2 dX7_isNow_28
theorem k_X7_isNow {p : Program} {l : Launch} {e : Env} {R : Room} {s : State} {m : MethodId} {args : Array Value} {below : List Frame} {meth : Method} {c : Code} {H : Heap} {locs : List Loc} {cells slots : Nat} {QQ : State → Prop} {cc : ByteArray} {pc nL index : Nat} {ls : Array Slot} {rest : List Value} {D : va_G} {cy : cyT} {ad : Nat → Nat} {own : String} {Ts : List Cond} {H0 : Heap} {σ : ST} {p0 : Int32} {Q : Int32 → ST → Prop} (hx : p.tables.exec = Jvm.exec) (hb : c.code = cc) (hml : c.maxLocals = nL) (hown : s.vm.findClass own = some m.cls) (hts : ∀ w ∈ Ts, w.before args s = true) (hG : GoodIn Ts (wsV own index RX7 yX7_isNow wsX7_isNow)) (hR : 2 + 1 ≤ R.frames ∧ 8 + (2 + 11) + 43 ≤ R.locals) (hcs : cells ≤ R.cells ∧ slots ≤ R.slots) (hK : zK D cy s) (hj : zI 6 ad) (hw : zW D 6 (zme cy ad σ) ad H) {A0 : Nat → Prop} (hA : ∀ i, i < 6 → A0 (ad i)) (hS : va_S A0 H0 H locs) (hsz : ls.size = nL) (hrest : (rest.map fun v => v.category).sum ≤ 8) (hdg : decode cc pc = .ok (.invokevirtual index, 3)) (h : wp_X7_isNow σ p0 Q) (kk : ∀ (r : Int32) (σ : ST) (H : Heap) (locs : List Loc), Q r σ → zW D 6 (zme cy ad σ) ad H → va_S A0 H0 H locs → W p l e R s m args below meth c H locs cells slots QQ (F0 m (pc + 3) ls (.int r :: rest))) : W p l e R s m args below meth c H locs cells slots QQ (F0 m pc ls (.int p0 :: .ref (ad 0) :: rest)) :=
  zcalli (va_runV (As := [.int p0]) (rest := rest) ⟨hx, hb, hml, hown, hts⟩ (c_X7_isNow l D cy ad σ p0 h) (cwV 1 hts hG rfl rfl rfl (by decide +kernel) hR) (zpreV hj hK hw _ (i := 0) (ci := 6) (by decide) rfl rfl) rfl rfl hsz rfl (lv_room hrest) hdg hcs) hA hS kk
set_option maxHeartbeats 4000000 in
set_option maxRecDepth 100000 in
theorem c_X7_isOn (l : Launch) (D : va_G) (cy : cyT) (ad : Nat → Nat) (σ : ST) (p0 : Int32) (p1 : Int32) (p2 : Int32) {Q : Int32 → ST → Prop} (h : wp_X7_isOn σ p0 p1 p2 Q) : Met l yX7_isOn wsX7_isOn ({ frames := 1, cells := 0, slots := 0, locals := 22 } : Room) (zPre D cy 6 (zme cy ad σ) ad [.ref (ad 0), .int p0, .int p1, .int p2]) (va_Qi Q (zB D 6 (zme cy ad) ad) (zA 6 ad)) 0 0 (zA 6 ad) := by
  refine Met.ofW (cc := cX7_isOn) (maxL := 4) (ret := (some .boolean)) (by decide) rfl ?_
  intro p e s m args below meth c s₁ B hml hv
  obtain ⟨rfl, hj, hK, hw⟩ := hv
  have hx := B.exec
  have hb := B.bytes
  have hr := B.returns
  have hts := atoms_spec (ws := wsX7_isOn) B.pre
  have hown : s.vm.findClass RX7 = some m.cls := findClass_of_methodNamed B.named
  have hlocks := B.notSynchronized
  have hS : va_S (zA 6 ad) s.heap s.heap [] := va_S.rf
  have hA : ∀ i, i < 6 → zA 6 ad (ad i) := fun i hi => ⟨i, hi, rfl⟩
  have hl := lv_entry ([.ref (ad 0), .int p0, .int p1, .int p2]) (n := 4) (Nat.le_of_ble_eq_true rfl)
  rw [lg_entry_eq]
  generalize (lg_sl ([.ref (ad 0), .int p0, .int p1, .int p2]) ++ List.replicate (4 - (lg_sl ([.ref (ad 0), .int p0, .int p1, .int p2])).length) Slot.unset).toArray = ls at hl ⊢
  have hl : lv_has ls 4 [(0, .ref (ad 0)), (1, .int p0), (2, .int p1), (3, .int p2)] := hl
  show W p l e ({ frames := 1, cells := 0, slots := 0, locals := 22 } : Room) s m ([.ref (ad 0), .int p0, .int p1, .int p2] : List Value).toArray below meth c s.heap [] 0 0 (MQ below (va_Qi Q (zB D 6 (zme cy ad) ad) (zA 6 ad)) ([.ref (ad 0), .int p0, .int p1, .int p2] : List Value).toArray s 0 0 (zA 6 ad)) (F0 m 0 ls [])
  unfold wp_X7_isOn at h
  refine lv_aload_n hx hb dX7_isOn_0 rfl (lv_at hl 0 rfl) ?_
  refine lv_iload_n hx hb dX7_isOn_1 rfl (lv_at hl 1 rfl) ?_
  refine lv_iconst (v := (jI 0)) hx hb dX7_isOn_2 rfl ?_
  refine k_X7_of (rest := []) hx hb hml hown hts gX7_isOn_X7_of ⟨Nat.le_of_ble_eq_true rfl, Nat.le_of_ble_eq_true rfl⟩ ⟨Nat.zero_le _, Nat.zero_le _⟩ hK hj hw hA hS hl.1 (Nat.le_of_ble_eq_true rfl) dX7_isOn_3 h (fun r1 s1 H locs h hw hS => ?_)
  refine lv_iload_n hx hb dX7_isOn_6 rfl (lv_at hl 2 rfl) ?_
  refine lv_icmp_ne (tgt := 24) hx hb dX7_isOn_7 (by decide) (fun c1 => ?_) (fun c1 => ?_)
  · have h := h.2 c1
    refine lv_iconst (v := (jI 0)) hx hb dX7_isOn_24 rfl ?_
    exact W.zret (v := (jI 0)) (ty := .boolean) hx hb hr (by decide +kernel) (fun t ht hW => ⟨⟨_, _, rfl, h, zend hw ht⟩, hS.F ht⟩) hS.2.2 dX7_isOn_25
  · have h := h.1 c1
    refine lv_aload_n hx hb dX7_isOn_10 rfl (lv_at hl 0 rfl) ?_
    refine lv_iload_n hx hb dX7_isOn_11 rfl (lv_at hl 1 rfl) ?_
    refine lv_iconst (v := (jI 1)) hx hb dX7_isOn_12 rfl ?_
    refine k_X7_of (rest := []) hx hb hml hown hts gX7_isOn_X7_of ⟨Nat.le_of_ble_eq_true rfl, Nat.le_of_ble_eq_true rfl⟩ ⟨Nat.zero_le _, Nat.zero_le _⟩ hK hj hw hA hS hl.1 (Nat.le_of_ble_eq_true rfl) dX7_isOn_13 h (fun r2 s2 H locs h hw hS => ?_)
    refine lv_iload_n hx hb dX7_isOn_16 rfl (lv_at hl 3 rfl) ?_
    refine lv_icmp_ne (tgt := 24) hx hb dX7_isOn_17 (by decide) (fun c2 => ?_) (fun c2 => ?_)
    · have h := h.2 c2
      refine lv_iconst (v := (jI 0)) hx hb dX7_isOn_24 rfl ?_
      exact W.zret (v := (jI 0)) (ty := .boolean) hx hb hr (by decide +kernel) (fun t ht hW => ⟨⟨_, _, rfl, h, zend hw ht⟩, hS.F ht⟩) hS.2.2 dX7_isOn_25
    · have h := h.1 c2
      refine lv_iconst (v := (jI 1)) hx hb dX7_isOn_20 rfl ?_
      refine lv_goto (tgt := 25) hx hb dX7_isOn_21 (by decide) ?_
      exact W.zret (v := (jI 1)) (ty := .boolean) hx hb hr (by decide +kernel) (fun t ht hW => ⟨⟨_, _, rfl, h, zend hw ht⟩, hS.F ht⟩) hS.2.2 dX7_isOn_25
theorem k_X7_isOn {p : Program} {l : Launch} {e : Env} {R : Room} {s : State} {m : MethodId} {args : Array Value} {below : List Frame} {meth : Method} {c : Code} {H : Heap} {locs : List Loc} {cells slots : Nat} {QQ : State → Prop} {cc : ByteArray} {pc nL index : Nat} {ls : Array Slot} {rest : List Value} {D : va_G} {cy : cyT} {ad : Nat → Nat} {own : String} {Ts : List Cond} {H0 : Heap} {σ : ST} {p0 : Int32} {p1 : Int32} {p2 : Int32} {Q : Int32 → ST → Prop} (hx : p.tables.exec = Jvm.exec) (hb : c.code = cc) (hml : c.maxLocals = nL) (hown : s.vm.findClass own = some m.cls) (hts : ∀ w ∈ Ts, w.before args s = true) (hG : GoodIn Ts (wsV own index RX7 yX7_isOn wsX7_isOn)) (hR : 1 + 1 ≤ R.frames ∧ 8 + (4 + 11) + 22 ≤ R.locals) (hcs : cells ≤ R.cells ∧ slots ≤ R.slots) (hK : zK D cy s) (hj : zI 6 ad) (hw : zW D 6 (zme cy ad σ) ad H) {A0 : Nat → Prop} (hA : ∀ i, i < 6 → A0 (ad i)) (hS : va_S A0 H0 H locs) (hsz : ls.size = nL) (hrest : (rest.map fun v => v.category).sum ≤ 8) (hdg : decode cc pc = .ok (.invokevirtual index, 3)) (h : wp_X7_isOn σ p0 p1 p2 Q) (kk : ∀ (r : Int32) (σ : ST) (H : Heap) (locs : List Loc), Q r σ → zW D 6 (zme cy ad σ) ad H → va_S A0 H0 H locs → W p l e R s m args below meth c H locs cells slots QQ (F0 m (pc + 3) ls (.int r :: rest))) : W p l e R s m args below meth c H locs cells slots QQ (F0 m pc ls (.int p2 :: .int p1 :: .int p0 :: .ref (ad 0) :: rest)) :=
  zcalli (va_runV (As := [.int p0, .int p1, .int p2]) (rest := rest) ⟨hx, hb, hml, hown, hts⟩ (c_X7_isOn l D cy ad σ p0 p1 p2 h) (cwV 3 hts hG rfl rfl rfl (by decide +kernel) hR) (zpreV hj hK hw _ (i := 0) (ci := 6) (by decide) rfl rfl) rfl rfl hsz rfl (lv_room hrest) hdg hcs) hA hS kk
set_option maxHeartbeats 4000000 in
set_option maxRecDepth 100000 in
theorem c_X7_goes (l : Launch) (D : va_G) (cy : cyT) (ad : Nat → Nat) (σ : ST) (p0 : Int32) {Q : ST → Prop} (h : wp_X7_goes σ p0 Q) : Met l yX7_goes wsX7_goes ({ frames := 1, cells := 0, slots := 0, locals := 22 } : Room) (zPre D cy 6 (zme cy ad σ) ad [.ref (ad 0), .int p0]) (va_Qv Q (zB D 6 (zme cy ad) ad) (zA 6 ad)) 0 0 (zA 6 ad) := by
  refine Met.ofW (cc := cX7_goes) (maxL := 4) (ret := none) (by decide) rfl ?_
  intro p e s m args below meth c s₁ B hml hv
  obtain ⟨rfl, hj, hK, hw⟩ := hv
  have hx := B.exec
  have hb := B.bytes
  have hr := B.returns
  have hts := atoms_spec (ws := wsX7_goes) B.pre
  have hown : s.vm.findClass RX7 = some m.cls := findClass_of_methodNamed B.named
  have hlocks := B.notSynchronized
  have lk0 : Cond.fieldLink RX7 7 "TypeTraysModel" "w" "[I" ∈ wsX7_goes := List.mem_of_getElem? (i := 1) rfl
  have inX7 : ∀ w ∈ u_ws RX7 TX7 16, w ∈ wsX7_goes := zin_at 7 rfl
  have hS : va_S (zA 6 ad) s.heap s.heap [] := va_S.rf
  have hA : ∀ i, i < 6 → zA 6 ad (ad i) := fun i hi => ⟨i, hi, rfl⟩
  have hl := lv_entry ([.ref (ad 0), .int p0]) (n := 4) (Nat.le_of_ble_eq_true rfl)
  rw [lg_entry_eq]
  generalize (lg_sl ([.ref (ad 0), .int p0]) ++ List.replicate (4 - (lg_sl ([.ref (ad 0), .int p0])).length) Slot.unset).toArray = ls at hl ⊢
  have hl : lv_has ls 4 [(0, .ref (ad 0)), (1, .int p0)] := hl
  show W p l e ({ frames := 1, cells := 0, slots := 0, locals := 22 } : Room) s m ([.ref (ad 0), .int p0] : List Value).toArray below meth c s.heap [] 0 0 (MQ below (va_Qv Q (zB D 6 (zme cy ad) ad) (zA 6 ad)) ([.ref (ad 0), .int p0] : List Value).toArray s 0 0 (zA 6 ad)) (F0 m 0 ls [])
  unfold wp_X7_goes at h
  refine lv_aload_n hx hb dX7_goes_0 rfl (lv_at hl 0 rfl) ?_
  refine lv_iload_n hx hb dX7_goes_1 rfl (lv_at hl 1 rfl) ?_
  refine lv_iconst (v := (jI 0)) hx hb dX7_goes_2 rfl ?_
  refine k_X7_of (rest := []) hx hb hml hown hts gX7_goes_X7_of ⟨Nat.le_of_ble_eq_true rfl, Nat.le_of_ble_eq_true rfl⟩ ⟨Nat.zero_le _, Nat.zero_le _⟩ hK hj hw hA hS hl.1 (Nat.le_of_ble_eq_true rfl) dX7_goes_3 h (fun r1 s1 H locs h hw hS => ?_)
  refine lv_iconst (v := (jI 3)) hx hb dX7_goes_6 rfl ?_
  refine lv_icmp_ne (tgt := 78) hx hb dX7_goes_7 (by decide) (fun c1 => ?_) (fun c1 => ?_)
  · have h := h.2 c1
    refine lv_aload_n hx hb dX7_goes_78 rfl (lv_at hl 0 rfl) ?_
    refine zget hx hb hts inX7 hown hK hw 0 (by decide) rfl rfl 0 (by decide) lk0 (fun _ h9 => h9) rfl dX7_goes_79 ?_
    refine lv_bipush (v := (jI 119)) hx hb dX7_goes_82 (by decide +kernel) ?_
    refine lv_bipush (v := (jI 6)) hx hb dX7_goes_84 (by decide +kernel) ?_
    refine lv_iload_n hx hb dX7_goes_86 rfl (lv_at hl 1 rfl) ?_
    refine lv_imul hx hb dX7_goes_87 ?_
    refine lv_iadd hx hb dX7_goes_88 ?_
    refine lv_iconst (v := (jI (-1))) hx hb dX7_goes_89 rfl ?_
    obtain ⟨s2, es2⟩ : ∃ y : ST, y = zrp s1 0 ((jI 119) + ((jI 6) * p0)).toNatClampNeg (jI (-1)) := ⟨_, rfl⟩
    refine ziast hx hb hK hj hw hA hS 1 (by decide) rfl h.1 dX7_goes_90 (zme cy ad s2) (by rw [es2]; exact zrp_on_M_0) (fun j hj9 => by rw [es2]; exact zrp_off_M_0 j hj9) (fun H locs hw hS => ?_)
    have h := h.2 s2 es2
    refine lv_aload_n hx hb dX7_goes_91 rfl (lv_at hl 0 rfl) ?_
    refine zget hx hb hts inX7 hown hK hw 0 (by decide) rfl rfl 0 (by decide) lk0 (fun _ h9 => h9) rfl dX7_goes_92 ?_
    refine lv_iconst (v := (jI 5)) hx hb dX7_goes_95 rfl ?_
    refine lv_dup2_11 hx hb dX7_goes_96 rfl rfl ?_
    refine ziald hx hb hK hw 1 (by decide) rfl h.1 dX7_goes_97 ?_
    refine lv_topi (fun v1 ev1 => ?_)
    have h := h.2 v1 ev1
    refine lv_iconst (v := (jI 1)) hx hb dX7_goes_98 rfl ?_
    refine lv_iadd hx hb dX7_goes_99 ?_
    obtain ⟨s3, es3⟩ : ∃ y : ST, y = zrp s2 0 (jI 5).toNatClampNeg (v1 + (jI 1)) := ⟨_, rfl⟩
    refine ziast hx hb hK hj hw hA hS 1 (by decide) rfl h.1 dX7_goes_100 (zme cy ad s3) (by rw [es3]; exact zrp_on_M_0) (fun j hj9 => by rw [es3]; exact zrp_off_M_0 j hj9) (fun H locs hw hS => ?_)
    have h := h.2 s3 es3
    exact W.vret hx hb hr (fun t ht hW => ⟨⟨_, rfl, h, zend hw ht⟩, hS.F ht⟩) hS.2.2 dX7_goes_101
  · have h := h.1 c1
    refine lv_iconst (v := (jI 0)) hx hb dX7_goes_10 rfl ?_
    refine lv_istore_n (lv' := [(2, .int (jI 0)), (0, .ref (ad 0)), (1, .int p0)]) hx hb dX7_goes_11 rfl hl (by decide) rfl (fun ls hl => ?_)
    refine lv_iconst (v := (jI 0)) hx hb dX7_goes_12 rfl ?_
    refine lv_istore_n (lv' := [(3, .int (jI 0)), (2, .int (jI 0)), (0, .ref (ad 0)), (1, .int p0)]) hx hb dX7_goes_13 rfl hl (by decide) rfl (fun ls hl => ?_)
    have k70_14 : ∀ (u_70 : ST) (z2_70 : Int32) (H : Heap) (locs : List Loc), (vp_in (jI 7) 983 ∧ ∀ s5 : ST, s5 = zrp u_70 0 (jI 7).toNatClampNeg z2_70 → (vp_in ((jI 119) + ((jI 6) * p0)) 983 ∧ ∀ s6 : ST, s6 = zrp s5 0 ((jI 119) + ((jI 6) * p0)).toNatClampNeg (jI (-1)) → (vp_in (jI 5) 983 ∧ ∀ v5 : Int32, v5 = (s6.1 0 (jI 5).toNatClampNeg) → (vp_in (jI 5) 983 ∧ ∀ s7 : ST, s7 = zrp s6 0 (jI 5).toNatClampNeg (v5 + (jI 1)) → Q s7)))) → zW D 6 (zme cy ad u_70) ad H → va_S (zA 6 ad) s.heap H locs → ∀ ls : Array Slot, lv_has ls 4 [(0, .ref (ad 0)), (1, .int p0), (2, .int z2_70)] → W p l e ({ frames := 1, cells := 0, slots := 0, locals := 22 } : Room) s m ([.ref (ad 0), .int p0] : List Value).toArray below meth c H locs 0 0 (MQ below (va_Qv Q (zB D 6 (zme cy ad) ad) (zA 6 ad)) ([.ref (ad 0), .int p0] : List Value).toArray s 0 0 (zA 6 ad)) (F0 m 70 ls []) := by
      intro u_70 z2_70 H locs h hw hS ls hl
      refine lv_aload_n hx hb dX7_goes_70 rfl (lv_at hl 0 rfl) ?_
      refine zget hx hb hts inX7 hown hK hw 0 (by decide) rfl rfl 0 (by decide) lk0 (fun _ h9 => h9) rfl dX7_goes_71 ?_
      refine lv_bipush (v := (jI 7)) hx hb dX7_goes_74 (by decide +kernel) ?_
      refine lv_iload_n hx hb dX7_goes_76 rfl (lv_at hl 2 rfl) ?_
      obtain ⟨s5, es5⟩ : ∃ y : ST, y = zrp u_70 0 (jI 7).toNatClampNeg z2_70 := ⟨_, rfl⟩
      refine ziast hx hb hK hj hw hA hS 1 (by decide) rfl h.1 dX7_goes_77 (zme cy ad s5) (by rw [es5]; exact zrp_on_M_0) (fun j hj9 => by rw [es5]; exact zrp_off_M_0 j hj9) (fun H locs hw hS => ?_)
      have h := h.2 s5 es5
      refine lv_aload_n hx hb dX7_goes_78 rfl (lv_at hl 0 rfl) ?_
      refine zget hx hb hts inX7 hown hK hw 0 (by decide) rfl rfl 0 (by decide) lk0 (fun _ h9 => h9) rfl dX7_goes_79 ?_
      refine lv_bipush (v := (jI 119)) hx hb dX7_goes_82 (by decide +kernel) ?_
      refine lv_bipush (v := (jI 6)) hx hb dX7_goes_84 (by decide +kernel) ?_
      refine lv_iload_n hx hb dX7_goes_86 rfl (lv_at hl 1 rfl) ?_
      refine lv_imul hx hb dX7_goes_87 ?_
      refine lv_iadd hx hb dX7_goes_88 ?_
      refine lv_iconst (v := (jI (-1))) hx hb dX7_goes_89 rfl ?_
      obtain ⟨s6, es6⟩ : ∃ y : ST, y = zrp s5 0 ((jI 119) + ((jI 6) * p0)).toNatClampNeg (jI (-1)) := ⟨_, rfl⟩
      refine ziast hx hb hK hj hw hA hS 1 (by decide) rfl h.1 dX7_goes_90 (zme cy ad s6) (by rw [es6]; exact zrp_on_M_0) (fun j hj9 => by rw [es6]; exact zrp_off_M_0 j hj9) (fun H locs hw hS => ?_)
      have h := h.2 s6 es6
      refine lv_aload_n hx hb dX7_goes_91 rfl (lv_at hl 0 rfl) ?_
      refine zget hx hb hts inX7 hown hK hw 0 (by decide) rfl rfl 0 (by decide) lk0 (fun _ h9 => h9) rfl dX7_goes_92 ?_
      refine lv_iconst (v := (jI 5)) hx hb dX7_goes_95 rfl ?_
      refine lv_dup2_11 hx hb dX7_goes_96 rfl rfl ?_
      refine ziald hx hb hK hw 1 (by decide) rfl h.1 dX7_goes_97 ?_
      refine lv_topi (fun v5 ev5 => ?_)
      have h := h.2 v5 ev5
      refine lv_iconst (v := (jI 1)) hx hb dX7_goes_98 rfl ?_
      refine lv_iadd hx hb dX7_goes_99 ?_
      obtain ⟨s7, es7⟩ : ∃ y : ST, y = zrp s6 0 (jI 5).toNatClampNeg (v5 + (jI 1)) := ⟨_, rfl⟩
      refine ziast hx hb hK hj hw hA hS 1 (by decide) rfl h.1 dX7_goes_100 (zme cy ad s7) (by rw [es7]; exact zrp_on_M_0) (fun j hj9 => by rw [es7]; exact zrp_off_M_0 j hj9) (fun H locs hw hS => ?_)
      have h := h.2 s7 es7
      exact W.vret hx hb hr (fun t ht hW => ⟨⟨_, rfl, h, zend hw ht⟩, hS.F ht⟩) hS.2.2 dX7_goes_101
    have lp14 : ∀ (nn14 : Nat) (t_14 : ST) (y2_14 : Int32) (y3_14 : Int32) (H : Heap) (locs : List Loc), wl_X7_goes_14 (fun u_70 z2_70 => (vp_in (jI 7) 983 ∧ ∀ s5 : ST, s5 = zrp u_70 0 (jI 7).toNatClampNeg z2_70 → (vp_in ((jI 119) + ((jI 6) * p0)) 983 ∧ ∀ s6 : ST, s6 = zrp s5 0 ((jI 119) + ((jI 6) * p0)).toNatClampNeg (jI (-1)) → (vp_in (jI 5) 983 ∧ ∀ v5 : Int32, v5 = (s6.1 0 (jI 5).toNatClampNeg) → (vp_in (jI 5) 983 ∧ ∀ s7 : ST, s7 = zrp s6 0 (jI 5).toNatClampNeg (v5 + (jI 1)) → Q s7))))) p0 nn14 t_14 y2_14 y3_14 → zW D 6 (zme cy ad t_14) ad H → va_S (zA 6 ad) s.heap H locs → ∀ ls : Array Slot, lv_has ls 4 [(0, .ref (ad 0)), (1, .int p0), (2, .int y2_14), (3, .int y3_14)] → W p l e ({ frames := 1, cells := 0, slots := 0, locals := 22 } : Room) s m ([.ref (ad 0), .int p0] : List Value).toArray below meth c H locs 0 0 (MQ below (va_Qv Q (zB D 6 (zme cy ad) ad) (zA 6 ad)) ([.ref (ad 0), .int p0] : List Value).toArray s 0 0 (zA 6 ad)) (F0 m 14 ls []) := by
      intro nn14
      induction nn14 with
      | zero => intro _ _ _ _ _ h; exact h.elim
      | succ nn14 ih14 =>
        intro t_14 y2_14 y3_14 H locs h hw hS ls hl
        simp only [wl_X7_goes_14, wb_X7_goes_14] at h
        refine lv_iload_n hx hb dX7_goes_14 rfl (lv_at hl 3 rfl) ?_
        refine lv_aload_n hx hb dX7_goes_15 rfl (lv_at hl 0 rfl) ?_
        refine zget hx hb hts inX7 hown hK hw 0 (by decide) rfl rfl 0 (by decide) lk0 (fun _ h9 => h9) rfl dX7_goes_16 ?_
        refine lv_bipush (v := (jI 7)) hx hb dX7_goes_19 (by decide +kernel) ?_
        refine ziald hx hb hK hw 1 (by decide) rfl h.1 dX7_goes_21 ?_
        refine lv_topi (fun v2 ev2 => ?_)
        have h := h.2 v2 ev2
        refine lv_icmp_ge (tgt := 70) hx hb dX7_goes_22 (by decide) (fun c2 => ?_) (fun c2 => ?_)
        · have h := h.1 c2
          exact k70_14 _ _ _ _ h hw hS _ (lv_sub hl [0, 1, 2] rfl)
        · have h := h.2 c2
          refine lv_aload_n hx hb dX7_goes_25 rfl (lv_at hl 0 rfl) ?_
          refine zget hx hb hts inX7 hown hK hw 0 (by decide) rfl rfl 0 (by decide) lk0 (fun _ h9 => h9) rfl dX7_goes_26 ?_
          refine lv_bipush (v := (jI 8)) hx hb dX7_goes_29 (by decide +kernel) ?_
          refine lv_iload_n hx hb dX7_goes_31 rfl (lv_at hl 2 rfl) ?_
          refine lv_iadd hx hb dX7_goes_32 ?_
          refine lv_aload_n hx hb dX7_goes_33 rfl (lv_at hl 0 rfl) ?_
          refine zget hx hb hts inX7 hown hK hw 0 (by decide) rfl rfl 0 (by decide) lk0 (fun _ h9 => h9) rfl dX7_goes_34 ?_
          refine lv_bipush (v := (jI 8)) hx hb dX7_goes_37 (by decide +kernel) ?_
          refine lv_iload_n hx hb dX7_goes_39 rfl (lv_at hl 3 rfl) ?_
          refine lv_iadd hx hb dX7_goes_40 ?_
          refine ziald hx hb hK hw 1 (by decide) rfl h.1 dX7_goes_41 ?_
          refine lv_topi (fun v3 ev3 => ?_)
          have h := h.2 v3 ev3
          obtain ⟨s4, es4⟩ : ∃ y : ST, y = zrp t_14 0 ((jI 8) + y2_14).toNatClampNeg v3 := ⟨_, rfl⟩
          refine ziast hx hb hK hj hw hA hS 1 (by decide) rfl h.1 dX7_goes_42 (zme cy ad s4) (by rw [es4]; exact zrp_on_M_0) (fun j hj9 => by rw [es4]; exact zrp_off_M_0 j hj9) (fun H locs hw hS => ?_)
          have h := h.2 s4 es4
          refine lv_iload_n hx hb dX7_goes_43 rfl (lv_at hl 2 rfl) ?_
          refine lv_aload_n hx hb dX7_goes_44 rfl (lv_at hl 0 rfl) ?_
          refine zget hx hb hts inX7 hown hK hw 0 (by decide) rfl rfl 0 (by decide) lk0 (fun _ h9 => h9) rfl dX7_goes_45 ?_
          refine lv_bipush (v := (jI 8)) hx hb dX7_goes_48 (by decide +kernel) ?_
          refine lv_iload_n hx hb dX7_goes_50 rfl (lv_at hl 3 rfl) ?_
          refine lv_iadd hx hb dX7_goes_51 ?_
          refine ziald hx hb hK hw 1 (by decide) rfl h.1 dX7_goes_52 ?_
          refine lv_topi (fun v4 ev4 => ?_)
          have h := h.2 v4 ev4
          refine lv_iload_n hx hb dX7_goes_53 rfl (lv_at hl 1 rfl) ?_
          refine lv_icmp_ne (tgt := 61) hx hb dX7_goes_54 (by decide) (fun c3 => ?_) (fun c3 => ?_)
          · have h := h.2 c3
            refine lv_iconst (v := (jI 1)) hx hb dX7_goes_61 rfl ?_
            refine lv_iadd hx hb dX7_goes_62 ?_
            refine lv_topi (fun x1 ex1 => ?_)
            have h := h x1 ex1
            refine lv_istore_n (lv' := [(2, .int x1), (0, .ref (ad 0)), (1, .int p0), (3, .int y3_14)]) hx hb dX7_goes_63 rfl hl (by decide) rfl (fun ls hl => ?_)
            obtain ⟨x2, ex2⟩ : ∃ y : Int32, y = y3_14 + (jI 1) := ⟨_, rfl⟩
            have h := h x2 ex2
            refine lv_iinc (v := x2) (lv' := [(3, .int x2), (2, .int x1), (0, .ref (ad 0)), (1, .int p0)]) hx hb dX7_goes_64 hl (k := 3) rfl (by rw [ex2]; rfl) (by decide) rfl (fun ls hl => ?_)
            refine lv_goto (tgt := 14) hx hb dX7_goes_67 (by decide) ?_
            exact ih14 _ _ _ _ _ h hw hS _ (lv_sub hl [2, 3, 1, 0] rfl)
          · have h := h.1 c3
            refine lv_iconst (v := (jI 0)) hx hb dX7_goes_57 rfl ?_
            refine lv_goto (tgt := 62) hx hb dX7_goes_58 (by decide) ?_
            refine lv_iadd hx hb dX7_goes_62 ?_
            refine lv_topi (fun x3 ex3 => ?_)
            have h := h x3 ex3
            refine lv_istore_n (lv' := [(2, .int x3), (0, .ref (ad 0)), (1, .int p0), (3, .int y3_14)]) hx hb dX7_goes_63 rfl hl (by decide) rfl (fun ls hl => ?_)
            obtain ⟨x4, ex4⟩ : ∃ y : Int32, y = y3_14 + (jI 1) := ⟨_, rfl⟩
            have h := h x4 ex4
            refine lv_iinc (v := x4) (lv' := [(3, .int x4), (2, .int x3), (0, .ref (ad 0)), (1, .int p0)]) hx hb dX7_goes_64 hl (k := 3) rfl (by rw [ex4]; rfl) (by decide) rfl (fun ls hl => ?_)
            refine lv_goto (tgt := 14) hx hb dX7_goes_67 (by decide) ?_
            exact ih14 _ _ _ _ _ h hw hS _ (lv_sub hl [2, 3, 1, 0] rfl)
    obtain ⟨nn14, h⟩ := h
    exact lp14 nn14 _ _ _ _ _ h hw hS _ (lv_sub hl [2, 3, 1, 0] rfl)
theorem k_X7_goes {p : Program} {l : Launch} {e : Env} {R : Room} {s : State} {m : MethodId} {args : Array Value} {below : List Frame} {meth : Method} {c : Code} {H : Heap} {locs : List Loc} {cells slots : Nat} {QQ : State → Prop} {cc : ByteArray} {pc nL index : Nat} {ls : Array Slot} {rest : List Value} {D : va_G} {cy : cyT} {ad : Nat → Nat} {own : String} {Ts : List Cond} {H0 : Heap} {σ : ST} {p0 : Int32} {Q : ST → Prop} (hx : p.tables.exec = Jvm.exec) (hb : c.code = cc) (hml : c.maxLocals = nL) (hown : s.vm.findClass own = some m.cls) (hts : ∀ w ∈ Ts, w.before args s = true) (hG : GoodIn Ts (wsV own index RX7 yX7_goes wsX7_goes)) (hR : 1 + 1 ≤ R.frames ∧ 8 + (4 + 11) + 22 ≤ R.locals) (hcs : cells ≤ R.cells ∧ slots ≤ R.slots) (hK : zK D cy s) (hj : zI 6 ad) (hw : zW D 6 (zme cy ad σ) ad H) {A0 : Nat → Prop} (hA : ∀ i, i < 6 → A0 (ad i)) (hS : va_S A0 H0 H locs) (hsz : ls.size = nL) (hrest : (rest.map fun v => v.category).sum ≤ 8) (hdg : decode cc pc = .ok (.invokevirtual index, 3)) (h : wp_X7_goes σ p0 Q) (kk : ∀ (σ : ST) (H : Heap) (locs : List Loc), Q σ → zW D 6 (zme cy ad σ) ad H → va_S A0 H0 H locs → W p l e R s m args below meth c H locs cells slots QQ (F0 m (pc + 3) ls rest)) : W p l e R s m args below meth c H locs cells slots QQ (F0 m pc ls (.int p0 :: .ref (ad 0) :: rest)) :=
  zcallv (va_runV (As := [.int p0]) (rest := rest) ⟨hx, hb, hml, hown, hts⟩ (c_X7_goes l D cy ad σ p0 h) (cwV 1 hts hG rfl rfl rfl (by decide +kernel) hR) (zpreV hj hK hw _ (i := 0) (ci := 6) (by decide) rfl rfl) rfl rfl hsz rfl (lv_room hrest) hdg hcs) hA hS kk
set_option maxHeartbeats 4000000 in
set_option maxRecDepth 100000 in
theorem c_X7_bars (l : Launch) (D : va_G) (cy : cyT) (ad : Nat → Nat) (σ : ST) (p0 : Int32) (p1 : Int32) (p2 : Int32) {Q : Int32 → ST → Prop} (h : wp_X7_bars σ p0 p1 p2 Q) : Met l yX7_bars wsX7_bars ({ frames := 1, cells := 0, slots := 0, locals := 22 } : Room) (zPre D cy 6 (zme cy ad σ) ad [.int p0, .int p1, .int p2]) (va_Qi Q (zB D 6 (zme cy ad) ad) (zA 6 ad)) 0 0 (zA 6 ad) := by
  refine Met.ofW (cc := cX7_bars) (maxL := 3) (ret := (some .int)) (by decide) rfl ?_
  intro p e s m args below meth c s₁ B hml hv
  obtain ⟨rfl, hj, hK, hw⟩ := hv
  have hx := B.exec
  have hb := B.bytes
  have hr := B.returns
  have hts := atoms_spec (ws := wsX7_bars) B.pre
  have hown : s.vm.findClass RX7 = some m.cls := findClass_of_methodNamed B.named
  have hlocks := B.notSynchronized
  have hS : va_S (zA 6 ad) s.heap s.heap [] := va_S.rf
  have hA : ∀ i, i < 6 → zA 6 ad (ad i) := fun i hi => ⟨i, hi, rfl⟩
  have hl := lv_entry ([.int p0, .int p1, .int p2]) (n := 3) (Nat.le_of_ble_eq_true rfl)
  rw [lg_entry_eq]
  generalize (lg_sl ([.int p0, .int p1, .int p2]) ++ List.replicate (3 - (lg_sl ([.int p0, .int p1, .int p2])).length) Slot.unset).toArray = ls at hl ⊢
  have hl : lv_has ls 3 [(0, .int p0), (1, .int p1), (2, .int p2)] := hl
  show W p l e ({ frames := 1, cells := 0, slots := 0, locals := 22 } : Room) s m ([.int p0, .int p1, .int p2] : List Value).toArray below meth c s.heap [] 0 0 (MQ below (va_Qi Q (zB D 6 (zme cy ad) ad) (zA 6 ad)) ([.int p0, .int p1, .int p2] : List Value).toArray s 0 0 (zA 6 ad)) (F0 m 0 ls [])
  unfold wp_X7_bars at h
  refine lv_iload_n hx hb dX7_bars_0 rfl (lv_at hl 0 rfl) ?_
  refine lv_iconst (v := (jI 0)) hx hb dX7_bars_1 rfl ?_
  refine lv_bipush (v := (jI 15)) hx hb dX7_bars_2 (by decide +kernel) ?_
  refine k_X7_in (rest := []) hx hb hml hown hts gX7_bars_X7_in ⟨Nat.le_of_ble_eq_true rfl, Nat.le_of_ble_eq_true rfl⟩ ⟨Nat.zero_le _, Nat.zero_le _⟩ hK hj hw hA hS hl.1 (Nat.le_of_ble_eq_true rfl) dX7_bars_4 h (fun r1 s1 H locs h hw hS => ?_)
  refine zif_ne (tgt := 14) hx hb dX7_bars_7 (by decide) (fun c1 => ?_) (fun c1 => ?_)
  · have h := h.2 c1
    refine lv_iload_n hx hb dX7_bars_14 rfl (lv_at hl 1 rfl) ?_
    refine lv_iconst (v := (jI 1)) hx hb dX7_bars_15 rfl ?_
    refine lv_iconst (v := (jI 3)) hx hb dX7_bars_16 rfl ?_
    refine k_X7_in (rest := []) hx hb hml hown hts gX7_bars_X7_in ⟨Nat.le_of_ble_eq_true rfl, Nat.le_of_ble_eq_true rfl⟩ ⟨Nat.zero_le _, Nat.zero_le _⟩ hK hj hw hA hS hl.1 (Nat.le_of_ble_eq_true rfl) dX7_bars_17 h (fun r2 s2 H locs h hw hS => ?_)
    refine zif_eq (tgt := 32) hx hb dX7_bars_20 (by decide) (fun c2 => ?_) (fun c2 => ?_)
    · have h := h.1 c2
      refine lv_iconst (v := (jI 2)) hx hb dX7_bars_32 rfl ?_
      refine lv_goto (tgt := 37) hx hb dX7_bars_33 (by decide) ?_
      exact W.iret (v := (jI 2)) hx hb hr (fun t ht hW => ⟨⟨_, _, rfl, h, zend hw ht⟩, hS.F ht⟩) hS.2.2 dX7_bars_37
    · have h := h.2 c2
      refine lv_iload_n hx hb dX7_bars_23 rfl (lv_at hl 2 rfl) ?_
      refine lv_iconst (v := (jI 0)) hx hb dX7_bars_24 rfl ?_
      refine lv_iconst (v := (jI 2)) hx hb dX7_bars_25 rfl ?_
      refine k_X7_in (rest := []) hx hb hml hown hts gX7_bars_X7_in ⟨Nat.le_of_ble_eq_true rfl, Nat.le_of_ble_eq_true rfl⟩ ⟨Nat.zero_le _, Nat.zero_le _⟩ hK hj hw hA hS hl.1 (Nat.le_of_ble_eq_true rfl) dX7_bars_26 h (fun r3 s3 H locs h hw hS => ?_)
      refine zif_ne (tgt := 36) hx hb dX7_bars_29 (by decide) (fun c3 => ?_) (fun c3 => ?_)
      · have h := h.2 c3
        refine lv_iconst (v := (jI 0)) hx hb dX7_bars_36 rfl ?_
        exact W.iret (v := (jI 0)) hx hb hr (fun t ht hW => ⟨⟨_, _, rfl, h, zend hw ht⟩, hS.F ht⟩) hS.2.2 dX7_bars_37
      · have h := h.1 c3
        refine lv_iconst (v := (jI 2)) hx hb dX7_bars_32 rfl ?_
        refine lv_goto (tgt := 37) hx hb dX7_bars_33 (by decide) ?_
        exact W.iret (v := (jI 2)) hx hb hr (fun t ht hW => ⟨⟨_, _, rfl, h, zend hw ht⟩, hS.F ht⟩) hS.2.2 dX7_bars_37
  · have h := h.1 c1
    refine lv_iconst (v := (jI 1)) hx hb dX7_bars_10 rfl ?_
    refine lv_goto (tgt := 37) hx hb dX7_bars_11 (by decide) ?_
    exact W.iret (v := (jI 1)) hx hb hr (fun t ht hW => ⟨⟨_, _, rfl, h, zend hw ht⟩, hS.F ht⟩) hS.2.2 dX7_bars_37
theorem k_X7_bars {p : Program} {l : Launch} {e : Env} {R : Room} {s : State} {m : MethodId} {args : Array Value} {below : List Frame} {meth : Method} {c : Code} {H : Heap} {locs : List Loc} {cells slots : Nat} {QQ : State → Prop} {cc : ByteArray} {pc nL index : Nat} {ls : Array Slot} {rest : List Value} {D : va_G} {cy : cyT} {ad : Nat → Nat} {own : String} {Ts : List Cond} {H0 : Heap} {σ : ST} {p0 : Int32} {p1 : Int32} {p2 : Int32} {Q : Int32 → ST → Prop} (hx : p.tables.exec = Jvm.exec) (hb : c.code = cc) (hml : c.maxLocals = nL) (hown : s.vm.findClass own = some m.cls) (hts : ∀ w ∈ Ts, w.before args s = true) (hG : GoodIn Ts (va_wsS own index yX7_bars wsX7_bars)) (hR : 1 + 1 ≤ R.frames ∧ 8 + (3 + 11) + 22 ≤ R.locals) (hcs : cells ≤ R.cells ∧ slots ≤ R.slots) (hK : zK D cy s) (hj : zI 6 ad) (hw : zW D 6 (zme cy ad σ) ad H) {A0 : Nat → Prop} (hA : ∀ i, i < 6 → A0 (ad i)) (hS : va_S A0 H0 H locs) (hsz : ls.size = nL) (hrest : (rest.map fun v => v.category).sum ≤ 8) (hdg : decode cc pc = .ok (.invokestatic index, 3)) (h : wp_X7_bars σ p0 p1 p2 Q) (kk : ∀ (r : Int32) (σ : ST) (H : Heap) (locs : List Loc), Q r σ → zW D 6 (zme cy ad σ) ad H → va_S A0 H0 H locs → W p l e R s m args below meth c H locs cells slots QQ (F0 m (pc + 3) ls (.int r :: rest))) : W p l e R s m args below meth c H locs cells slots QQ (F0 m pc ls (.int p2 :: .int p1 :: .int p0 :: rest)) :=
  zcalli (va_runS (As := [.int p0, .int p1, .int p2]) (rest := rest) ⟨hx, hb, hml, hown, hts⟩ (c_X7_bars l D cy ad σ p0 p1 p2 h) (va_cwS 3 hts hG rfl rfl rfl (by decide +kernel) hR) (zpreS hj hK hw _) rfl rfl hsz rfl (lv_room hrest) hdg hcs) hA hS kk
set_option maxHeartbeats 4000000 in
set_option maxRecDepth 100000 in
theorem c_X7_tall (l : Launch) (D : va_G) (cy : cyT) (ad : Nat → Nat) (σ : ST) (p0 : Int32) (p1 : Int32) {Q : Int32 → ST → Prop} (h : wp_X7_tall σ p0 p1 Q) : Met l yX7_tall wsX7_tall ({ frames := 0, cells := 0, slots := 0, locals := 0 } : Room) (zPre D cy 6 (zme cy ad σ) ad [.ref (ad 0), .int p0, .int p1]) (va_Qi Q (zB D 6 (zme cy ad) ad) (zA 6 ad)) 0 0 (zA 6 ad) := by
  refine Met.ofW (cc := cX7_tall) (maxL := 3) (ret := (some .int)) (by decide) rfl ?_
  intro p e s m args below meth c s₁ B hml hv
  obtain ⟨rfl, hj, hK, hw⟩ := hv
  have hx := B.exec
  have hb := B.bytes
  have hr := B.returns
  have hts := atoms_spec (ws := wsX7_tall) B.pre
  have hown : s.vm.findClass RX7 = some m.cls := findClass_of_methodNamed B.named
  have hlocks := B.notSynchronized
  have lk0 : Cond.fieldLink RX7 7 "TypeTraysModel" "w" "[I" ∈ wsX7_tall := List.mem_of_getElem? (i := 1) rfl
  have inX7 : ∀ w ∈ u_ws RX7 TX7 16, w ∈ wsX7_tall := zin_at 2 rfl
  have hS : va_S (zA 6 ad) s.heap s.heap [] := va_S.rf
  have hA : ∀ i, i < 6 → zA 6 ad (ad i) := fun i hi => ⟨i, hi, rfl⟩
  have hl := lv_entry ([.ref (ad 0), .int p0, .int p1]) (n := 3) (Nat.le_of_ble_eq_true rfl)
  rw [lg_entry_eq]
  generalize (lg_sl ([.ref (ad 0), .int p0, .int p1]) ++ List.replicate (3 - (lg_sl ([.ref (ad 0), .int p0, .int p1])).length) Slot.unset).toArray = ls at hl ⊢
  have hl : lv_has ls 3 [(0, .ref (ad 0)), (1, .int p0), (2, .int p1)] := hl
  show W p l e ({ frames := 0, cells := 0, slots := 0, locals := 0 } : Room) s m ([.ref (ad 0), .int p0, .int p1] : List Value).toArray below meth c s.heap [] 0 0 (MQ below (va_Qi Q (zB D 6 (zme cy ad) ad) (zA 6 ad)) ([.ref (ad 0), .int p0, .int p1] : List Value).toArray s 0 0 (zA 6 ad)) (F0 m 0 ls [])
  unfold wp_X7_tall at h
  refine lv_aload_n hx hb dX7_tall_0 rfl (lv_at hl 0 rfl) ?_
  refine zget hx hb hts inX7 hown hK hw 0 (by decide) rfl rfl 0 (by decide) lk0 (fun _ h9 => h9) rfl dX7_tall_1 ?_
  refine lv_bipush (v := (jI 47)) hx hb dX7_tall_4 (by decide +kernel) ?_
  refine lv_bipush (v := (jI 24)) hx hb dX7_tall_6 (by decide +kernel) ?_
  refine lv_iload_n hx hb dX7_tall_8 rfl (lv_at hl 1 rfl) ?_
  refine lv_imul hx hb dX7_tall_9 ?_
  refine lv_iadd hx hb dX7_tall_10 ?_
  refine lv_iload_n hx hb dX7_tall_11 rfl (lv_at hl 2 rfl) ?_
  refine lv_iadd hx hb dX7_tall_12 ?_
  refine ziald hx hb hK hw 1 (by decide) rfl h.1 dX7_tall_13 ?_
  refine lv_topi (fun v1 ev1 => ?_)
  have h := h.2 v1 ev1
  exact W.iret (v := v1) hx hb hr (fun t ht hW => ⟨⟨_, _, rfl, h, zend hw ht⟩, hS.F ht⟩) hS.2.2 dX7_tall_14
theorem k_X7_tall {p : Program} {l : Launch} {e : Env} {R : Room} {s : State} {m : MethodId} {args : Array Value} {below : List Frame} {meth : Method} {c : Code} {H : Heap} {locs : List Loc} {cells slots : Nat} {QQ : State → Prop} {cc : ByteArray} {pc nL index : Nat} {ls : Array Slot} {rest : List Value} {D : va_G} {cy : cyT} {ad : Nat → Nat} {own : String} {Ts : List Cond} {H0 : Heap} {σ : ST} {p0 : Int32} {p1 : Int32} {Q : Int32 → ST → Prop} (hx : p.tables.exec = Jvm.exec) (hb : c.code = cc) (hml : c.maxLocals = nL) (hown : s.vm.findClass own = some m.cls) (hts : ∀ w ∈ Ts, w.before args s = true) (hG : GoodIn Ts (wsV own index RX7 yX7_tall wsX7_tall)) (hR : 0 + 1 ≤ R.frames ∧ 8 + (3 + 11) + 0 ≤ R.locals) (hcs : cells ≤ R.cells ∧ slots ≤ R.slots) (hK : zK D cy s) (hj : zI 6 ad) (hw : zW D 6 (zme cy ad σ) ad H) {A0 : Nat → Prop} (hA : ∀ i, i < 6 → A0 (ad i)) (hS : va_S A0 H0 H locs) (hsz : ls.size = nL) (hrest : (rest.map fun v => v.category).sum ≤ 8) (hdg : decode cc pc = .ok (.invokevirtual index, 3)) (h : wp_X7_tall σ p0 p1 Q) (kk : ∀ (r : Int32) (σ : ST) (H : Heap) (locs : List Loc), Q r σ → zW D 6 (zme cy ad σ) ad H → va_S A0 H0 H locs → W p l e R s m args below meth c H locs cells slots QQ (F0 m (pc + 3) ls (.int r :: rest))) : W p l e R s m args below meth c H locs cells slots QQ (F0 m pc ls (.int p1 :: .int p0 :: .ref (ad 0) :: rest)) :=
  zcalli (va_runV (As := [.int p0, .int p1]) (rest := rest) ⟨hx, hb, hml, hown, hts⟩ (c_X7_tall l D cy ad σ p0 p1 h) (cwV 2 hts hG rfl rfl rfl (by decide +kernel) hR) (zpreV hj hK hw _ (i := 0) (ci := 6) (by decide) rfl rfl) rfl rfl hsz rfl (lv_room hrest) hdg hcs) hA hS kk
set_option maxHeartbeats 4000000 in
set_option maxRecDepth 100000 in
theorem c_X7_top (l : Launch) (D : va_G) (cy : cyT) (ad : Nat → Nat) (σ : ST) (p0 : Int32) (p1 : Int32) {Q : Int32 → ST → Prop} (h : wp_X7_top σ p0 p1 Q) : Met l yX7_top wsX7_top ({ frames := 1, cells := 0, slots := 0, locals := 22 } : Room) (zPre D cy 6 (zme cy ad σ) ad [.ref (ad 0), .int p0, .int p1]) (va_Qi Q (zB D 6 (zme cy ad) ad) (zA 6 ad)) 0 0 (zA 6 ad) := by
  refine Met.ofW (cc := cX7_top) (maxL := 5) (ret := (some .int)) (by decide) rfl ?_
  intro p e s m args below meth c s₁ B hml hv
  obtain ⟨rfl, hj, hK, hw⟩ := hv
  have hx := B.exec
  have hb := B.bytes
  have hr := B.returns
  have hts := atoms_spec (ws := wsX7_top) B.pre
  have hown : s.vm.findClass RX7 = some m.cls := findClass_of_methodNamed B.named
  have hlocks := B.notSynchronized
  have hS : va_S (zA 6 ad) s.heap s.heap [] := va_S.rf
  have hA : ∀ i, i < 6 → zA 6 ad (ad i) := fun i hi => ⟨i, hi, rfl⟩
  have hl := lv_entry ([.ref (ad 0), .int p0, .int p1]) (n := 5) (Nat.le_of_ble_eq_true rfl)
  rw [lg_entry_eq]
  generalize (lg_sl ([.ref (ad 0), .int p0, .int p1]) ++ List.replicate (5 - (lg_sl ([.ref (ad 0), .int p0, .int p1])).length) Slot.unset).toArray = ls at hl ⊢
  have hl : lv_has ls 5 [(0, .ref (ad 0)), (1, .int p0), (2, .int p1)] := hl
  show W p l e ({ frames := 1, cells := 0, slots := 0, locals := 22 } : Room) s m ([.ref (ad 0), .int p0, .int p1] : List Value).toArray below meth c s.heap [] 0 0 (MQ below (va_Qi Q (zB D 6 (zme cy ad) ad) (zA 6 ad)) ([.ref (ad 0), .int p0, .int p1] : List Value).toArray s 0 0 (zA 6 ad)) (F0 m 0 ls [])
  unfold wp_X7_top at h
  refine lv_iconst (v := (jI 0)) hx hb dX7_top_0 rfl ?_
  refine lv_istore_n (lv' := [(3, .int (jI 0)), (0, .ref (ad 0)), (1, .int p0), (2, .int p1)]) hx hb dX7_top_1 rfl hl (by decide) rfl (fun ls hl => ?_)
  refine lv_iconst (v := (jI 0)) hx hb dX7_top_2 rfl ?_
  refine lv_istore (lv' := [(4, .int (jI 0)), (3, .int (jI 0)), (0, .ref (ad 0)), (1, .int p0), (2, .int p1)]) hx hb dX7_top_3 hl (by decide) rfl (fun ls hl => ?_)
  have k27_5 : ∀ (u_27 : ST) (z3_27 : Int32) (H : Heap) (locs : List Loc), Q z3_27 u_27 → zW D 6 (zme cy ad u_27) ad H → va_S (zA 6 ad) s.heap H locs → ∀ ls : Array Slot, lv_has ls 5 [(3, .int z3_27)] → W p l e ({ frames := 1, cells := 0, slots := 0, locals := 22 } : Room) s m ([.ref (ad 0), .int p0, .int p1] : List Value).toArray below meth c H locs 0 0 (MQ below (va_Qi Q (zB D 6 (zme cy ad) ad) (zA 6 ad)) ([.ref (ad 0), .int p0, .int p1] : List Value).toArray s 0 0 (zA 6 ad)) (F0 m 27 ls []) := by
    intro u_27 z3_27 H locs h hw hS ls hl
    refine lv_iload_n hx hb dX7_top_27 rfl (lv_at hl 0 rfl) ?_
    exact W.iret (v := z3_27) hx hb hr (fun t ht hW => ⟨⟨_, _, rfl, h, zend hw ht⟩, hS.F ht⟩) hS.2.2 dX7_top_28
  have lp5 : ∀ (nn5 : Nat) (t_5 : ST) (y3_5 : Int32) (y4_5 : Int32) (H : Heap) (locs : List Loc), wl_X7_top_5 (fun u_27 z3_27 => Q z3_27 u_27) p0 p1 nn5 t_5 y3_5 y4_5 → zW D 6 (zme cy ad t_5) ad H → va_S (zA 6 ad) s.heap H locs → ∀ ls : Array Slot, lv_has ls 5 [(0, .ref (ad 0)), (1, .int p0), (2, .int p1), (3, .int y3_5), (4, .int y4_5)] → W p l e ({ frames := 1, cells := 0, slots := 0, locals := 22 } : Room) s m ([.ref (ad 0), .int p0, .int p1] : List Value).toArray below meth c H locs 0 0 (MQ below (va_Qi Q (zB D 6 (zme cy ad) ad) (zA 6 ad)) ([.ref (ad 0), .int p0, .int p1] : List Value).toArray s 0 0 (zA 6 ad)) (F0 m 5 ls []) := by
    intro nn5
    induction nn5 with
    | zero => intro _ _ _ _ _ h; exact h.elim
    | succ nn5 ih5 =>
      intro t_5 y3_5 y4_5 H locs h hw hS ls hl
      simp only [wl_X7_top_5, wb_X7_top_5] at h
      refine lv_iload hx hb dX7_top_5 (lv_at hl 4 rfl) ?_
      refine lv_iload_n hx hb dX7_top_7 rfl (lv_at hl 2 rfl) ?_
      refine lv_icmp_ge (tgt := 27) hx hb dX7_top_8 (by decide) (fun c1 => ?_) (fun c1 => ?_)
      · have h := h.1 c1
        exact k27_5 _ _ _ _ h hw hS _ (lv_sub hl [3] rfl)
      · have h := h.2 c1
        refine lv_iload_n hx hb dX7_top_11 rfl (lv_at hl 3 rfl) ?_
        refine lv_aload_n hx hb dX7_top_12 rfl (lv_at hl 0 rfl) ?_
        refine lv_iload_n hx hb dX7_top_13 rfl (lv_at hl 1 rfl) ?_
        refine lv_iload hx hb dX7_top_14 (lv_at hl 4 rfl) ?_
        refine k_X7_tall (rest := [.int y3_5]) hx hb hml hown hts gX7_top_X7_tall ⟨Nat.le_of_ble_eq_true rfl, Nat.le_of_ble_eq_true rfl⟩ ⟨Nat.zero_le _, Nat.zero_le _⟩ hK hj hw hA hS hl.1 (Nat.le_of_ble_eq_true rfl) dX7_top_16 h (fun r1 s1 H locs h hw hS => ?_)
        refine lv_iadd hx hb dX7_top_19 ?_
        refine lv_topi (fun x1 ex1 => ?_)
        have h := h x1 ex1
        refine lv_istore_n (lv' := [(3, .int x1), (0, .ref (ad 0)), (1, .int p0), (2, .int p1), (4, .int y4_5)]) hx hb dX7_top_20 rfl hl (by decide) rfl (fun ls hl => ?_)
        obtain ⟨x2, ex2⟩ : ∃ y : Int32, y = y4_5 + (jI 1) := ⟨_, rfl⟩
        have h := h x2 ex2
        refine lv_iinc (v := x2) (lv' := [(4, .int x2), (3, .int x1), (0, .ref (ad 0)), (1, .int p0), (2, .int p1)]) hx hb dX7_top_21 hl (k := 4) rfl (by rw [ex2]; rfl) (by decide) rfl (fun ls hl => ?_)
        refine lv_goto (tgt := 5) hx hb dX7_top_24 (by decide) ?_
        exact ih5 _ _ _ _ _ h hw hS _ (lv_sub hl [2, 3, 4, 1, 0] rfl)
  obtain ⟨nn5, h⟩ := h
  exact lp5 nn5 _ _ _ _ _ h hw hS _ (lv_sub hl [2, 3, 4, 1, 0] rfl)
theorem k_X7_top {p : Program} {l : Launch} {e : Env} {R : Room} {s : State} {m : MethodId} {args : Array Value} {below : List Frame} {meth : Method} {c : Code} {H : Heap} {locs : List Loc} {cells slots : Nat} {QQ : State → Prop} {cc : ByteArray} {pc nL index : Nat} {ls : Array Slot} {rest : List Value} {D : va_G} {cy : cyT} {ad : Nat → Nat} {own : String} {Ts : List Cond} {H0 : Heap} {σ : ST} {p0 : Int32} {p1 : Int32} {Q : Int32 → ST → Prop} (hx : p.tables.exec = Jvm.exec) (hb : c.code = cc) (hml : c.maxLocals = nL) (hown : s.vm.findClass own = some m.cls) (hts : ∀ w ∈ Ts, w.before args s = true) (hG : GoodIn Ts (wsV own index RX7 yX7_top wsX7_top)) (hR : 1 + 1 ≤ R.frames ∧ 8 + (5 + 11) + 22 ≤ R.locals) (hcs : cells ≤ R.cells ∧ slots ≤ R.slots) (hK : zK D cy s) (hj : zI 6 ad) (hw : zW D 6 (zme cy ad σ) ad H) {A0 : Nat → Prop} (hA : ∀ i, i < 6 → A0 (ad i)) (hS : va_S A0 H0 H locs) (hsz : ls.size = nL) (hrest : (rest.map fun v => v.category).sum ≤ 8) (hdg : decode cc pc = .ok (.invokevirtual index, 3)) (h : wp_X7_top σ p0 p1 Q) (kk : ∀ (r : Int32) (σ : ST) (H : Heap) (locs : List Loc), Q r σ → zW D 6 (zme cy ad σ) ad H → va_S A0 H0 H locs → W p l e R s m args below meth c H locs cells slots QQ (F0 m (pc + 3) ls (.int r :: rest))) : W p l e R s m args below meth c H locs cells slots QQ (F0 m pc ls (.int p1 :: .int p0 :: .ref (ad 0) :: rest)) :=
  zcalli (va_runV (As := [.int p0, .int p1]) (rest := rest) ⟨hx, hb, hml, hown, hts⟩ (c_X7_top l D cy ad σ p0 p1 h) (cwV 2 hts hG rfl rfl rfl (by decide +kernel) hR) (zpreV hj hK hw _ (i := 0) (ci := 6) (by decide) rfl rfl) rfl rfl hsz rfl (lv_room hrest) hdg hcs) hA hS kk
set_option maxHeartbeats 4000000 in
set_option maxRecDepth 100000 in
theorem c_X7_covers (l : Launch) (D : va_G) (cy : cyT) (ad : Nat → Nat) (σ : ST) (p0 : Int32) (p1 : Int32) {Q : ST → Prop} (h : wp_X7_covers σ p0 p1 Q) : Met l yX7_covers wsX7_covers ({ frames := 2, cells := 0, slots := 0, locals := 45 } : Room) (zPre D cy 6 (zme cy ad σ) ad [.ref (ad 0), .int p0, .int p1]) (va_Qv Q (zB D 6 (zme cy ad) ad) (zA 6 ad)) 0 0 (zA 6 ad) := by
  refine Met.ofW (cc := cX7_covers) (maxL := 5) (ret := none) (by decide) rfl ?_
  intro p e s m args below meth c s₁ B hml hv
  obtain ⟨rfl, hj, hK, hw⟩ := hv
  have hx := B.exec
  have hb := B.bytes
  have hr := B.returns
  have hts := atoms_spec (ws := wsX7_covers) B.pre
  have hown : s.vm.findClass RX7 = some m.cls := findClass_of_methodNamed B.named
  have hlocks := B.notSynchronized
  have lk0 : Cond.fieldLink RX7 16 "TypeTraysModel" "covered" "[Z" ∈ wsX7_covers := List.mem_of_getElem? (i := 1) rfl
  have inX7 : ∀ w ∈ u_ws RX7 TX7 16, w ∈ wsX7_covers := zin_at 16 rfl
  have hS : va_S (zA 6 ad) s.heap s.heap [] := va_S.rf
  have hA : ∀ i, i < 6 → zA 6 ad (ad i) := fun i hi => ⟨i, hi, rfl⟩
  have hl := lv_entry ([.ref (ad 0), .int p0, .int p1]) (n := 5) (Nat.le_of_ble_eq_true rfl)
  rw [lg_entry_eq]
  generalize (lg_sl ([.ref (ad 0), .int p0, .int p1]) ++ List.replicate (5 - (lg_sl ([.ref (ad 0), .int p0, .int p1])).length) Slot.unset).toArray = ls at hl ⊢
  have hl : lv_has ls 5 [(0, .ref (ad 0)), (1, .int p0), (2, .int p1)] := hl
  show W p l e ({ frames := 2, cells := 0, slots := 0, locals := 45 } : Room) s m ([.ref (ad 0), .int p0, .int p1] : List Value).toArray below meth c s.heap [] 0 0 (MQ below (va_Qv Q (zB D 6 (zme cy ad) ad) (zA 6 ad)) ([.ref (ad 0), .int p0, .int p1] : List Value).toArray s 0 0 (zA 6 ad)) (F0 m 0 ls [])
  unfold wp_X7_covers at h
  refine lv_iconst (v := (jI 0)) hx hb dX7_covers_0 rfl ?_
  refine lv_istore_n (lv' := [(3, .int (jI 0)), (0, .ref (ad 0)), (1, .int p0), (2, .int p1)]) hx hb dX7_covers_1 rfl hl (by decide) rfl (fun ls hl => ?_)
  have k21_2 : ∀ (u_21 : ST) (H : Heap) (locs : List Loc), (vp_in (jI 24) 25 ∧ ∀ s2 : ST, s2 = zrp u_21 2 (jI 24).toNatClampNeg (jI 1) → (∃ nn : Nat, wl_X7_covers_31 (fun u_88 => Q u_88) p0 p1 nn s2 (jI 0))) → zW D 6 (zme cy ad u_21) ad H → va_S (zA 6 ad) s.heap H locs → ∀ ls : Array Slot, lv_has ls 5 [(0, .ref (ad 0)), (1, .int p0), (2, .int p1)] → W p l e ({ frames := 2, cells := 0, slots := 0, locals := 45 } : Room) s m ([.ref (ad 0), .int p0, .int p1] : List Value).toArray below meth c H locs 0 0 (MQ below (va_Qv Q (zB D 6 (zme cy ad) ad) (zA 6 ad)) ([.ref (ad 0), .int p0, .int p1] : List Value).toArray s 0 0 (zA 6 ad)) (F0 m 21 ls []) := by
    intro u_21 H locs h hw hS ls hl
    refine lv_aload_n hx hb dX7_covers_21 rfl (lv_at hl 0 rfl) ?_
    refine zget hx hb hts inX7 hown hK hw 0 (by decide) rfl rfl 4 (by decide) lk0 (fun _ h9 => h9) rfl dX7_covers_22 ?_
    refine lv_bipush (v := (jI 24)) hx hb dX7_covers_25 (by decide +kernel) ?_
    refine lv_iconst (v := (jI 1)) hx hb dX7_covers_27 rfl ?_
    obtain ⟨s2, es2⟩ : ∃ y : ST, y = zrp u_21 2 (jI 24).toNatClampNeg (jI 1) := ⟨_, rfl⟩
    refine zzast hx hb hK hj hw hA hS 3 (by decide) rfl h.1 dX7_covers_28 (by decide +kernel) (zme cy ad s2) (by rw [es2]; exact zrp_on_M_2) (fun j hj9 => by rw [es2]; exact zrp_off_M_2 j hj9) (fun H locs hw hS => ?_)
    have h := h.2 s2 es2
    refine lv_iconst (v := (jI 0)) hx hb dX7_covers_29 rfl ?_
    refine lv_istore_n (lv' := [(3, .int (jI 0)), (0, .ref (ad 0)), (1, .int p0), (2, .int p1)]) hx hb dX7_covers_30 rfl hl (by decide) rfl (fun ls hl => ?_)
    have k88_31 : ∀ (u_88 : ST) (H : Heap) (locs : List Loc), Q u_88 → zW D 6 (zme cy ad u_88) ad H → va_S (zA 6 ad) s.heap H locs → ∀ ls : Array Slot, lv_has ls 5 [] → W p l e ({ frames := 2, cells := 0, slots := 0, locals := 45 } : Room) s m ([.ref (ad 0), .int p0, .int p1] : List Value).toArray below meth c H locs 0 0 (MQ below (va_Qv Q (zB D 6 (zme cy ad) ad) (zA 6 ad)) ([.ref (ad 0), .int p0, .int p1] : List Value).toArray s 0 0 (zA 6 ad)) (F0 m 88 ls []) := by
      intro u_88 H locs h hw hS ls hl
      exact W.vret hx hb hr (fun t ht hW => ⟨⟨_, rfl, h, zend hw ht⟩, hS.F ht⟩) hS.2.2 dX7_covers_88
    have lp31 : ∀ (nn31 : Nat) (t_31 : ST) (y3_31 : Int32) (H : Heap) (locs : List Loc), wl_X7_covers_31 (fun u_88 => Q u_88) p0 p1 nn31 t_31 y3_31 → zW D 6 (zme cy ad t_31) ad H → va_S (zA 6 ad) s.heap H locs → ∀ ls : Array Slot, lv_has ls 5 [(0, .ref (ad 0)), (1, .int p0), (2, .int p1), (3, .int y3_31)] → W p l e ({ frames := 2, cells := 0, slots := 0, locals := 45 } : Room) s m ([.ref (ad 0), .int p0, .int p1] : List Value).toArray below meth c H locs 0 0 (MQ below (va_Qv Q (zB D 6 (zme cy ad) ad) (zA 6 ad)) ([.ref (ad 0), .int p0, .int p1] : List Value).toArray s 0 0 (zA 6 ad)) (F0 m 31 ls []) := by
      intro nn31
      induction nn31 with
      | zero => intro _ _ _ _ h; exact h.elim
      | succ nn31 ih31 =>
        intro t_31 y3_31 H locs h hw hS ls hl
        simp only [wl_X7_covers_31, wb_X7_covers_31] at h
        refine lv_iload_n hx hb dX7_covers_31 rfl (lv_at hl 3 rfl) ?_
        refine lv_sipush (v := (jI 144)) hx hb dX7_covers_32 (by decide +kernel) ?_
        refine lv_icmp_ge (tgt := 88) hx hb dX7_covers_35 (by decide) (fun c2 => ?_) (fun c2 => ?_)
        · have h := h.1 c2
          exact k88_31 _ _ _ h hw hS _ (lv_sub hl [] rfl)
        · have h := h.2 c2
          refine lv_iconst (v := (jI 0)) hx hb dX7_covers_38 rfl ?_
          refine lv_istore (lv' := [(4, .int (jI 0)), (0, .ref (ad 0)), (1, .int p0), (2, .int p1), (3, .int y3_31)]) hx hb dX7_covers_39 hl (by decide) rfl (fun ls hl => ?_)
          have k82_41 : ∀ (u_82 : ST) (H : Heap) (locs : List Loc), (∀ x3 : Int32, x3 = y3_31 + (jI 1) → (wl_X7_covers_31 (fun u_88 => Q u_88) p0 p1 nn31) u_82 x3) → zW D 6 (zme cy ad u_82) ad H → va_S (zA 6 ad) s.heap H locs → ∀ ls : Array Slot, lv_has ls 5 [(0, .ref (ad 0)), (1, .int p0), (2, .int p1), (3, .int y3_31)] → W p l e ({ frames := 2, cells := 0, slots := 0, locals := 45 } : Room) s m ([.ref (ad 0), .int p0, .int p1] : List Value).toArray below meth c H locs 0 0 (MQ below (va_Qv Q (zB D 6 (zme cy ad) ad) (zA 6 ad)) ([.ref (ad 0), .int p0, .int p1] : List Value).toArray s 0 0 (zA 6 ad)) (F0 m 82 ls []) := by
            intro u_82 H locs h hw hS ls hl
            obtain ⟨x3, ex3⟩ : ∃ y : Int32, y = y3_31 + (jI 1) := ⟨_, rfl⟩
            have h := h x3 ex3
            refine lv_iinc (v := x3) (lv' := [(3, .int x3), (0, .ref (ad 0)), (1, .int p0), (2, .int p1)]) hx hb dX7_covers_82 hl (k := 3) rfl (by rw [ex3]; rfl) (by decide) rfl (fun ls hl => ?_)
            refine lv_goto (tgt := 31) hx hb dX7_covers_85 (by decide) ?_
            exact ih31 _ _ _ _ h hw hS _ (lv_sub hl [1, 2, 3, 0] rfl)
          have lp41 : ∀ (nn41 : Nat) (t_41 : ST) (y4_41 : Int32) (H : Heap) (locs : List Loc), wl_X7_covers_41 (fun u_82 => (∀ x3 : Int32, x3 = y3_31 + (jI 1) → (wl_X7_covers_31 (fun u_88 => Q u_88) p0 p1 nn31) u_82 x3)) p0 p1 y3_31 nn41 t_41 y4_41 → zW D 6 (zme cy ad t_41) ad H → va_S (zA 6 ad) s.heap H locs → ∀ ls : Array Slot, lv_has ls 5 [(0, .ref (ad 0)), (1, .int p0), (2, .int p1), (3, .int y3_31), (4, .int y4_41)] → W p l e ({ frames := 2, cells := 0, slots := 0, locals := 45 } : Room) s m ([.ref (ad 0), .int p0, .int p1] : List Value).toArray below meth c H locs 0 0 (MQ below (va_Qv Q (zB D 6 (zme cy ad) ad) (zA 6 ad)) ([.ref (ad 0), .int p0, .int p1] : List Value).toArray s 0 0 (zA 6 ad)) (F0 m 41 ls []) := by
            intro nn41
            induction nn41 with
            | zero => intro _ _ _ _ h; exact h.elim
            | succ nn41 ih41 =>
              intro t_41 y4_41 H locs h hw hS ls hl
              simp only [wl_X7_covers_41, wb_X7_covers_41] at h
              refine lv_iload hx hb dX7_covers_41 (lv_at hl 4 rfl) ?_
              refine lv_aload_n hx hb dX7_covers_43 rfl (lv_at hl 0 rfl) ?_
              refine lv_iload_n hx hb dX7_covers_44 rfl (lv_at hl 3 rfl) ?_
              refine k_X7_widthOf (rest := [.int y4_41]) hx hb hml hown hts gX7_covers_X7_widthOf ⟨Nat.le_of_ble_eq_true rfl, Nat.le_of_ble_eq_true rfl⟩ ⟨Nat.zero_le _, Nat.zero_le _⟩ hK hj hw hA hS hl.1 (Nat.le_of_ble_eq_true rfl) dX7_covers_45 h (fun r1 s3 H locs h hw hS => ?_)
              refine lv_icmp_ge (tgt := 82) hx hb dX7_covers_48 (by decide) (fun c3 => ?_) (fun c3 => ?_)
              · have h := h.1 c3
                exact k82_41 _ _ _ h hw hS _ (lv_sub hl [0, 1, 2, 3] rfl)
              · have h := h.2 c3
                refine lv_aload_n hx hb dX7_covers_51 rfl (lv_at hl 0 rfl) ?_
                refine lv_iload_n hx hb dX7_covers_52 rfl (lv_at hl 3 rfl) ?_
                refine lv_iload_n hx hb dX7_covers_53 rfl (lv_at hl 1 rfl) ?_
                refine lv_iload_n hx hb dX7_covers_54 rfl (lv_at hl 2 rfl) ?_
                refine k_X7_isOn (rest := []) hx hb hml hown hts gX7_covers_X7_isOn ⟨Nat.le_of_ble_eq_true rfl, Nat.le_of_ble_eq_true rfl⟩ ⟨Nat.zero_le _, Nat.zero_le _⟩ hK hj hw hA hS hl.1 (Nat.le_of_ble_eq_true rfl) dX7_covers_55 h (fun r2 s4 H locs h hw hS => ?_)
                refine zif_eq (tgt := 82) hx hb dX7_covers_58 (by decide) (fun c4 => ?_) (fun c4 => ?_)
                · have h := h.1 c4
                  exact k82_41 _ _ _ h hw hS _ (lv_sub hl [0, 1, 2, 3] rfl)
                · have h := h.2 c4
                  refine lv_aload_n hx hb dX7_covers_61 rfl (lv_at hl 0 rfl) ?_
                  refine zget hx hb hts inX7 hown hK hw 0 (by decide) rfl rfl 4 (by decide) lk0 (fun _ h9 => h9) rfl dX7_covers_62 ?_
                  refine lv_aload_n hx hb dX7_covers_65 rfl (lv_at hl 0 rfl) ?_
                  refine lv_iload_n hx hb dX7_covers_66 rfl (lv_at hl 3 rfl) ?_
                  refine lv_iconst (v := (jI 2)) hx hb dX7_covers_67 rfl ?_
                  refine k_X7_of (rest := [.ref (ad 3)]) hx hb hml hown hts gX7_covers_X7_of ⟨Nat.le_of_ble_eq_true rfl, Nat.le_of_ble_eq_true rfl⟩ ⟨Nat.zero_le _, Nat.zero_le _⟩ hK hj hw hA hS hl.1 (Nat.le_of_ble_eq_true rfl) dX7_covers_68 h (fun r3 s5 H locs h hw hS => ?_)
                  refine lv_iload hx hb dX7_covers_71 (lv_at hl 4 rfl) ?_
                  refine lv_iadd hx hb dX7_covers_73 ?_
                  refine lv_iconst (v := (jI 1)) hx hb dX7_covers_74 rfl ?_
                  obtain ⟨s6, es6⟩ : ∃ y : ST, y = zrp s5 2 (r3 + y4_41).toNatClampNeg (jI 1) := ⟨_, rfl⟩
                  refine zzast hx hb hK hj hw hA hS 3 (by decide) rfl h.1 dX7_covers_75 (by decide +kernel) (zme cy ad s6) (by rw [es6]; exact zrp_on_M_2) (fun j hj9 => by rw [es6]; exact zrp_off_M_2 j hj9) (fun H locs hw hS => ?_)
                  have h := h.2 s6 es6
                  obtain ⟨x2, ex2⟩ : ∃ y : Int32, y = y4_41 + (jI 1) := ⟨_, rfl⟩
                  have h := h x2 ex2
                  refine lv_iinc (v := x2) (lv' := [(4, .int x2), (0, .ref (ad 0)), (1, .int p0), (2, .int p1), (3, .int y3_31)]) hx hb dX7_covers_76 hl (k := 4) rfl (by rw [ex2]; rfl) (by decide) rfl (fun ls hl => ?_)
                  refine lv_goto (tgt := 41) hx hb dX7_covers_79 (by decide) ?_
                  exact ih41 _ _ _ _ h hw hS _ (lv_sub hl [1, 2, 3, 4, 0] rfl)
          obtain ⟨nn41, h⟩ := h
          exact lp41 nn41 _ _ _ _ h hw hS _ (lv_sub hl [1, 2, 3, 4, 0] rfl)
    obtain ⟨nn31, h⟩ := h
    exact lp31 nn31 _ _ _ _ h hw hS _ (lv_sub hl [1, 2, 3, 0] rfl)
  have lp2 : ∀ (nn2 : Nat) (t_2 : ST) (y3_2 : Int32) (H : Heap) (locs : List Loc), wl_X7_covers_2 (fun u_21 => (vp_in (jI 24) 25 ∧ ∀ s2 : ST, s2 = zrp u_21 2 (jI 24).toNatClampNeg (jI 1) → (∃ nn : Nat, wl_X7_covers_31 (fun u_88 => Q u_88) p0 p1 nn s2 (jI 0)))) p0 p1 nn2 t_2 y3_2 → zW D 6 (zme cy ad t_2) ad H → va_S (zA 6 ad) s.heap H locs → ∀ ls : Array Slot, lv_has ls 5 [(0, .ref (ad 0)), (1, .int p0), (2, .int p1), (3, .int y3_2)] → W p l e ({ frames := 2, cells := 0, slots := 0, locals := 45 } : Room) s m ([.ref (ad 0), .int p0, .int p1] : List Value).toArray below meth c H locs 0 0 (MQ below (va_Qv Q (zB D 6 (zme cy ad) ad) (zA 6 ad)) ([.ref (ad 0), .int p0, .int p1] : List Value).toArray s 0 0 (zA 6 ad)) (F0 m 2 ls []) := by
    intro nn2
    induction nn2 with
    | zero => intro _ _ _ _ h; exact h.elim
    | succ nn2 ih2 =>
      intro t_2 y3_2 H locs h hw hS ls hl
      simp only [wl_X7_covers_2, wb_X7_covers_2] at h
      refine lv_iload_n hx hb dX7_covers_2 rfl (lv_at hl 3 rfl) ?_
      refine lv_bipush (v := (jI 24)) hx hb dX7_covers_3 (by decide +kernel) ?_
      refine lv_icmp_ge (tgt := 21) hx hb dX7_covers_5 (by decide) (fun c1 => ?_) (fun c1 => ?_)
      · have h := h.1 c1
        exact k21_2 _ _ _ h hw hS _ (lv_sub hl [0, 1, 2] rfl)
      · have h := h.2 c1
        refine lv_aload_n hx hb dX7_covers_8 rfl (lv_at hl 0 rfl) ?_
        refine zget hx hb hts inX7 hown hK hw 0 (by decide) rfl rfl 4 (by decide) lk0 (fun _ h9 => h9) rfl dX7_covers_9 ?_
        refine lv_iload_n hx hb dX7_covers_12 rfl (lv_at hl 3 rfl) ?_
        refine lv_iconst (v := (jI 0)) hx hb dX7_covers_13 rfl ?_
        obtain ⟨s1, es1⟩ : ∃ y : ST, y = zrp t_2 2 y3_2.toNatClampNeg (jI 0) := ⟨_, rfl⟩
        refine zzast hx hb hK hj hw hA hS 3 (by decide) rfl h.1 dX7_covers_14 (by decide +kernel) (zme cy ad s1) (by rw [es1]; exact zrp_on_M_2) (fun j hj9 => by rw [es1]; exact zrp_off_M_2 j hj9) (fun H locs hw hS => ?_)
        have h := h.2 s1 es1
        obtain ⟨x1, ex1⟩ : ∃ y : Int32, y = y3_2 + (jI 1) := ⟨_, rfl⟩
        have h := h x1 ex1
        refine lv_iinc (v := x1) (lv' := [(3, .int x1), (0, .ref (ad 0)), (1, .int p0), (2, .int p1)]) hx hb dX7_covers_15 hl (k := 3) rfl (by rw [ex1]; rfl) (by decide) rfl (fun ls hl => ?_)
        refine lv_goto (tgt := 2) hx hb dX7_covers_18 (by decide) ?_
        exact ih2 _ _ _ _ h hw hS _ (lv_sub hl [1, 2, 3, 0] rfl)
  obtain ⟨nn2, h⟩ := h
  exact lp2 nn2 _ _ _ _ h hw hS _ (lv_sub hl [1, 2, 3, 0] rfl)
theorem k_X7_covers {p : Program} {l : Launch} {e : Env} {R : Room} {s : State} {m : MethodId} {args : Array Value} {below : List Frame} {meth : Method} {c : Code} {H : Heap} {locs : List Loc} {cells slots : Nat} {QQ : State → Prop} {cc : ByteArray} {pc nL index : Nat} {ls : Array Slot} {rest : List Value} {D : va_G} {cy : cyT} {ad : Nat → Nat} {own : String} {Ts : List Cond} {H0 : Heap} {σ : ST} {p0 : Int32} {p1 : Int32} {Q : ST → Prop} (hx : p.tables.exec = Jvm.exec) (hb : c.code = cc) (hml : c.maxLocals = nL) (hown : s.vm.findClass own = some m.cls) (hts : ∀ w ∈ Ts, w.before args s = true) (hG : GoodIn Ts (wsV own index RX7 yX7_covers wsX7_covers)) (hR : 2 + 1 ≤ R.frames ∧ 8 + (5 + 11) + 45 ≤ R.locals) (hcs : cells ≤ R.cells ∧ slots ≤ R.slots) (hK : zK D cy s) (hj : zI 6 ad) (hw : zW D 6 (zme cy ad σ) ad H) {A0 : Nat → Prop} (hA : ∀ i, i < 6 → A0 (ad i)) (hS : va_S A0 H0 H locs) (hsz : ls.size = nL) (hrest : (rest.map fun v => v.category).sum ≤ 8) (hdg : decode cc pc = .ok (.invokevirtual index, 3)) (h : wp_X7_covers σ p0 p1 Q) (kk : ∀ (σ : ST) (H : Heap) (locs : List Loc), Q σ → zW D 6 (zme cy ad σ) ad H → va_S A0 H0 H locs → W p l e R s m args below meth c H locs cells slots QQ (F0 m (pc + 3) ls rest)) : W p l e R s m args below meth c H locs cells slots QQ (F0 m pc ls (.int p1 :: .int p0 :: .ref (ad 0) :: rest)) :=
  zcallv (va_runV (As := [.int p0, .int p1]) (rest := rest) ⟨hx, hb, hml, hown, hts⟩ (c_X7_covers l D cy ad σ p0 p1 h) (cwV 2 hts hG rfl rfl rfl (by decide +kernel) hR) (zpreV hj hK hw _ (i := 0) (ci := 6) (by decide) rfl rfl) rfl rfl hsz rfl (lv_room hrest) hdg hcs) hA hS kk
set_option maxHeartbeats 4000000 in
set_option maxRecDepth 100000 in
theorem c_X7_endOf (l : Launch) (D : va_G) (cy : cyT) (ad : Nat → Nat) (σ : ST) (p0 : Int32) {Q : Int32 → ST → Prop} (h : wp_X7_endOf σ p0 Q) : Met l yX7_endOf wsX7_endOf ({ frames := 0, cells := 0, slots := 0, locals := 0 } : Room) (zPre D cy 6 (zme cy ad σ) ad [.ref (ad 0), .int p0]) (va_Qi Q (zB D 6 (zme cy ad) ad) (zA 6 ad)) 0 0 (zA 6 ad) := by
  refine Met.ofW (cc := cX7_endOf) (maxL := 3) (ret := (some .int)) (by decide) rfl ?_
  intro p e s m args below meth c s₁ B hml hv
  obtain ⟨rfl, hj, hK, hw⟩ := hv
  have hx := B.exec
  have hb := B.bytes
  have hr := B.returns
  have hts := atoms_spec (ws := wsX7_endOf) B.pre
  have hown : s.vm.findClass RX7 = some m.cls := findClass_of_methodNamed B.named
  have hlocks := B.notSynchronized
  have lk0 : Cond.fieldLink RX7 16 "TypeTraysModel" "covered" "[Z" ∈ wsX7_endOf := List.mem_of_getElem? (i := 1) rfl
  have inX7 : ∀ w ∈ u_ws RX7 TX7 16, w ∈ wsX7_endOf := zin_at 2 rfl
  have hS : va_S (zA 6 ad) s.heap s.heap [] := va_S.rf
  have hA : ∀ i, i < 6 → zA 6 ad (ad i) := fun i hi => ⟨i, hi, rfl⟩
  have hl := lv_entry ([.ref (ad 0), .int p0]) (n := 3) (Nat.le_of_ble_eq_true rfl)
  rw [lg_entry_eq]
  generalize (lg_sl ([.ref (ad 0), .int p0]) ++ List.replicate (3 - (lg_sl ([.ref (ad 0), .int p0])).length) Slot.unset).toArray = ls at hl ⊢
  have hl : lv_has ls 3 [(0, .ref (ad 0)), (1, .int p0)] := hl
  show W p l e ({ frames := 0, cells := 0, slots := 0, locals := 0 } : Room) s m ([.ref (ad 0), .int p0] : List Value).toArray below meth c s.heap [] 0 0 (MQ below (va_Qi Q (zB D 6 (zme cy ad) ad) (zA 6 ad)) ([.ref (ad 0), .int p0] : List Value).toArray s 0 0 (zA 6 ad)) (F0 m 0 ls [])
  unfold wp_X7_endOf at h
  refine lv_iload_n hx hb dX7_endOf_0 rfl (lv_at hl 1 rfl) ?_
  refine lv_istore_n (lv' := [(2, .int p0), (0, .ref (ad 0)), (1, .int p0)]) hx hb dX7_endOf_1 rfl hl (by decide) rfl (fun ls hl => ?_)
  have k32_2 : ∀ (u_32 : ST) (z2_32 : Int32) (H : Heap) (locs : List Loc), Q z2_32 u_32 → zW D 6 (zme cy ad u_32) ad H → va_S (zA 6 ad) s.heap H locs → ∀ ls : Array Slot, lv_has ls 3 [(2, .int z2_32)] → W p l e ({ frames := 0, cells := 0, slots := 0, locals := 0 } : Room) s m ([.ref (ad 0), .int p0] : List Value).toArray below meth c H locs 0 0 (MQ below (va_Qi Q (zB D 6 (zme cy ad) ad) (zA 6 ad)) ([.ref (ad 0), .int p0] : List Value).toArray s 0 0 (zA 6 ad)) (F0 m 32 ls []) := by
    intro u_32 z2_32 H locs h hw hS ls hl
    refine lv_iload_n hx hb dX7_endOf_32 rfl (lv_at hl 0 rfl) ?_
    exact W.iret (v := z2_32) hx hb hr (fun t ht hW => ⟨⟨_, _, rfl, h, zend hw ht⟩, hS.F ht⟩) hS.2.2 dX7_endOf_33
  have lp2 : ∀ (nn2 : Nat) (t_2 : ST) (y2_2 : Int32) (H : Heap) (locs : List Loc), wl_X7_endOf_2 (fun u_32 z2_32 => Q z2_32 u_32) p0 nn2 t_2 y2_2 → zW D 6 (zme cy ad t_2) ad H → va_S (zA 6 ad) s.heap H locs → ∀ ls : Array Slot, lv_has ls 3 [(0, .ref (ad 0)), (1, .int p0), (2, .int y2_2)] → W p l e ({ frames := 0, cells := 0, slots := 0, locals := 0 } : Room) s m ([.ref (ad 0), .int p0] : List Value).toArray below meth c H locs 0 0 (MQ below (va_Qi Q (zB D 6 (zme cy ad) ad) (zA 6 ad)) ([.ref (ad 0), .int p0] : List Value).toArray s 0 0 (zA 6 ad)) (F0 m 2 ls []) := by
    intro nn2
    induction nn2 with
    | zero => intro _ _ _ _ h; exact h.elim
    | succ nn2 ih2 =>
      intro t_2 y2_2 H locs h hw hS ls hl
      simp only [wl_X7_endOf_2, wb_X7_endOf_2] at h
      refine lv_iload_n hx hb dX7_endOf_2 rfl (lv_at hl 1 rfl) ?_
      refine zif_eq (tgt := 17) hx hb dX7_endOf_3 (by decide) (fun c1 => ?_) (fun c1 => ?_)
      · have h := h.1 c1
        refine lv_aload_n hx hb dX7_endOf_17 rfl (lv_at hl 0 rfl) ?_
        refine zget hx hb hts inX7 hown hK hw 0 (by decide) rfl rfl 4 (by decide) lk0 (fun _ h9 => h9) rfl dX7_endOf_18 ?_
        refine lv_iload_n hx hb dX7_endOf_21 rfl (lv_at hl 2 rfl) ?_
        refine zzald hx hb hK hw 3 (by decide) rfl h.1 dX7_endOf_22 ?_
        refine lv_topi (fun v1 ev1 => ?_)
        have h := h.2 v1 ev1
        refine zif_ne (tgt := 32) hx hb dX7_endOf_23 (by decide) (fun c2 => ?_) (fun c2 => ?_)
        · have h := h.2 c2
          exact k32_2 _ _ _ _ h hw hS _ (lv_sub hl [2] rfl)
        · have h := h.1 c2
          obtain ⟨x1, ex1⟩ : ∃ y : Int32, y = y2_2 + (jI 1) := ⟨_, rfl⟩
          have h := h x1 ex1
          refine lv_iinc (v := x1) (lv' := [(2, .int x1), (0, .ref (ad 0)), (1, .int p0)]) hx hb dX7_endOf_26 hl (k := 2) rfl (by rw [ex1]; rfl) (by decide) rfl (fun ls hl => ?_)
          refine lv_goto (tgt := 2) hx hb dX7_endOf_29 (by decide) ?_
          exact ih2 _ _ _ _ h hw hS _ (lv_sub hl [1, 2, 0] rfl)
      · have h := h.2 c1
        refine lv_aload_n hx hb dX7_endOf_6 rfl (lv_at hl 0 rfl) ?_
        refine zget hx hb hts inX7 hown hK hw 0 (by decide) rfl rfl 4 (by decide) lk0 (fun _ h9 => h9) rfl dX7_endOf_7 ?_
        refine lv_iload_n hx hb dX7_endOf_10 rfl (lv_at hl 1 rfl) ?_
        refine lv_iconst (v := (jI 1)) hx hb dX7_endOf_11 rfl ?_
        refine lv_isub hx hb dX7_endOf_12 ?_
        refine zzald hx hb hK hw 3 (by decide) rfl h.1 dX7_endOf_13 ?_
        refine lv_topi (fun v2 ev2 => ?_)
        have h := h.2 v2 ev2
        refine zif_eq (tgt := 32) hx hb dX7_endOf_14 (by decide) (fun c3 => ?_) (fun c3 => ?_)
        · have h := h.1 c3
          exact k32_2 _ _ _ _ h hw hS _ (lv_sub hl [2] rfl)
        · have h := h.2 c3
          refine lv_aload_n hx hb dX7_endOf_17 rfl (lv_at hl 0 rfl) ?_
          refine zget hx hb hts inX7 hown hK hw 0 (by decide) rfl rfl 4 (by decide) lk0 (fun _ h9 => h9) rfl dX7_endOf_18 ?_
          refine lv_iload_n hx hb dX7_endOf_21 rfl (lv_at hl 2 rfl) ?_
          refine zzald hx hb hK hw 3 (by decide) rfl h.1 dX7_endOf_22 ?_
          refine lv_topi (fun v3 ev3 => ?_)
          have h := h.2 v3 ev3
          refine zif_ne (tgt := 32) hx hb dX7_endOf_23 (by decide) (fun c4 => ?_) (fun c4 => ?_)
          · have h := h.2 c4
            exact k32_2 _ _ _ _ h hw hS _ (lv_sub hl [2] rfl)
          · have h := h.1 c4
            obtain ⟨x2, ex2⟩ : ∃ y : Int32, y = y2_2 + (jI 1) := ⟨_, rfl⟩
            have h := h x2 ex2
            refine lv_iinc (v := x2) (lv' := [(2, .int x2), (0, .ref (ad 0)), (1, .int p0)]) hx hb dX7_endOf_26 hl (k := 2) rfl (by rw [ex2]; rfl) (by decide) rfl (fun ls hl => ?_)
            refine lv_goto (tgt := 2) hx hb dX7_endOf_29 (by decide) ?_
            exact ih2 _ _ _ _ h hw hS _ (lv_sub hl [1, 2, 0] rfl)
  obtain ⟨nn2, h⟩ := h
  exact lp2 nn2 _ _ _ _ h hw hS _ (lv_sub hl [1, 2, 0] rfl)
theorem k_X7_endOf {p : Program} {l : Launch} {e : Env} {R : Room} {s : State} {m : MethodId} {args : Array Value} {below : List Frame} {meth : Method} {c : Code} {H : Heap} {locs : List Loc} {cells slots : Nat} {QQ : State → Prop} {cc : ByteArray} {pc nL index : Nat} {ls : Array Slot} {rest : List Value} {D : va_G} {cy : cyT} {ad : Nat → Nat} {own : String} {Ts : List Cond} {H0 : Heap} {σ : ST} {p0 : Int32} {Q : Int32 → ST → Prop} (hx : p.tables.exec = Jvm.exec) (hb : c.code = cc) (hml : c.maxLocals = nL) (hown : s.vm.findClass own = some m.cls) (hts : ∀ w ∈ Ts, w.before args s = true) (hG : GoodIn Ts (wsV own index RX7 yX7_endOf wsX7_endOf)) (hR : 0 + 1 ≤ R.frames ∧ 8 + (3 + 11) + 0 ≤ R.locals) (hcs : cells ≤ R.cells ∧ slots ≤ R.slots) (hK : zK D cy s) (hj : zI 6 ad) (hw : zW D 6 (zme cy ad σ) ad H) {A0 : Nat → Prop} (hA : ∀ i, i < 6 → A0 (ad i)) (hS : va_S A0 H0 H locs) (hsz : ls.size = nL) (hrest : (rest.map fun v => v.category).sum ≤ 8) (hdg : decode cc pc = .ok (.invokevirtual index, 3)) (h : wp_X7_endOf σ p0 Q) (kk : ∀ (r : Int32) (σ : ST) (H : Heap) (locs : List Loc), Q r σ → zW D 6 (zme cy ad σ) ad H → va_S A0 H0 H locs → W p l e R s m args below meth c H locs cells slots QQ (F0 m (pc + 3) ls (.int r :: rest))) : W p l e R s m args below meth c H locs cells slots QQ (F0 m pc ls (.int p0 :: .ref (ad 0) :: rest)) :=
  zcalli (va_runV (As := [.int p0]) (rest := rest) ⟨hx, hb, hml, hown, hts⟩ (c_X7_endOf l D cy ad σ p0 h) (cwV 1 hts hG rfl rfl rfl (by decide +kernel) hR) (zpreV hj hK hw _ (i := 0) (ci := 6) (by decide) rfl rfl) rfl rfl hsz rfl (lv_room hrest) hdg hcs) hA hS kk
set_option maxHeartbeats 4000000 in
set_option maxRecDepth 100000 in
theorem c_X7_lettersOn (l : Launch) (D : va_G) (cy : cyT) (ad : Nat → Nat) (σ : ST) (p0 : Int32) (p1 : Int32) {Q : Int32 → ST → Prop} (h : wp_X7_lettersOn σ p0 p1 Q) : Met l yX7_lettersOn wsX7_lettersOn ({ frames := 2, cells := 0, slots := 0, locals := 45 } : Room) (zPre D cy 6 (zme cy ad σ) ad [.ref (ad 0), .int p0, .int p1]) (va_Qi Q (zB D 6 (zme cy ad) ad) (zA 6 ad)) 0 0 (zA 6 ad) := by
  refine Met.ofW (cc := cX7_lettersOn) (maxL := 5) (ret := (some .int)) (by decide) rfl ?_
  intro p e s m args below meth c s₁ B hml hv
  obtain ⟨rfl, hj, hK, hw⟩ := hv
  have hx := B.exec
  have hb := B.bytes
  have hr := B.returns
  have hts := atoms_spec (ws := wsX7_lettersOn) B.pre
  have hown : s.vm.findClass RX7 = some m.cls := findClass_of_methodNamed B.named
  have hlocks := B.notSynchronized
  have hS : va_S (zA 6 ad) s.heap s.heap [] := va_S.rf
  have hA : ∀ i, i < 6 → zA 6 ad (ad i) := fun i hi => ⟨i, hi, rfl⟩
  have hl := lv_entry ([.ref (ad 0), .int p0, .int p1]) (n := 5) (Nat.le_of_ble_eq_true rfl)
  rw [lg_entry_eq]
  generalize (lg_sl ([.ref (ad 0), .int p0, .int p1]) ++ List.replicate (5 - (lg_sl ([.ref (ad 0), .int p0, .int p1])).length) Slot.unset).toArray = ls at hl ⊢
  have hl : lv_has ls 5 [(0, .ref (ad 0)), (1, .int p0), (2, .int p1)] := hl
  show W p l e ({ frames := 2, cells := 0, slots := 0, locals := 45 } : Room) s m ([.ref (ad 0), .int p0, .int p1] : List Value).toArray below meth c s.heap [] 0 0 (MQ below (va_Qi Q (zB D 6 (zme cy ad) ad) (zA 6 ad)) ([.ref (ad 0), .int p0, .int p1] : List Value).toArray s 0 0 (zA 6 ad)) (F0 m 0 ls [])
  unfold wp_X7_lettersOn at h
  refine lv_iconst (v := (jI 0)) hx hb dX7_lettersOn_0 rfl ?_
  refine lv_istore_n (lv' := [(3, .int (jI 0)), (0, .ref (ad 0)), (1, .int p0), (2, .int p1)]) hx hb dX7_lettersOn_1 rfl hl (by decide) rfl (fun ls hl => ?_)
  refine lv_iconst (v := (jI 0)) hx hb dX7_lettersOn_2 rfl ?_
  refine lv_istore (lv' := [(4, .int (jI 0)), (3, .int (jI 0)), (0, .ref (ad 0)), (1, .int p0), (2, .int p1)]) hx hb dX7_lettersOn_3 hl (by decide) rfl (fun ls hl => ?_)
  have k38_5 : ∀ (u_38 : ST) (z3_38 : Int32) (H : Heap) (locs : List Loc), Q z3_38 u_38 → zW D 6 (zme cy ad u_38) ad H → va_S (zA 6 ad) s.heap H locs → ∀ ls : Array Slot, lv_has ls 5 [(3, .int z3_38)] → W p l e ({ frames := 2, cells := 0, slots := 0, locals := 45 } : Room) s m ([.ref (ad 0), .int p0, .int p1] : List Value).toArray below meth c H locs 0 0 (MQ below (va_Qi Q (zB D 6 (zme cy ad) ad) (zA 6 ad)) ([.ref (ad 0), .int p0, .int p1] : List Value).toArray s 0 0 (zA 6 ad)) (F0 m 38 ls []) := by
    intro u_38 z3_38 H locs h hw hS ls hl
    refine lv_iload_n hx hb dX7_lettersOn_38 rfl (lv_at hl 0 rfl) ?_
    exact W.iret (v := z3_38) hx hb hr (fun t ht hW => ⟨⟨_, _, rfl, h, zend hw ht⟩, hS.F ht⟩) hS.2.2 dX7_lettersOn_39
  have lp5 : ∀ (nn5 : Nat) (t_5 : ST) (y3_5 : Int32) (y4_5 : Int32) (H : Heap) (locs : List Loc), wl_X7_lettersOn_5 (fun u_38 z3_38 => Q z3_38 u_38) p0 p1 nn5 t_5 y3_5 y4_5 → zW D 6 (zme cy ad t_5) ad H → va_S (zA 6 ad) s.heap H locs → ∀ ls : Array Slot, lv_has ls 5 [(0, .ref (ad 0)), (1, .int p0), (2, .int p1), (3, .int y3_5), (4, .int y4_5)] → W p l e ({ frames := 2, cells := 0, slots := 0, locals := 45 } : Room) s m ([.ref (ad 0), .int p0, .int p1] : List Value).toArray below meth c H locs 0 0 (MQ below (va_Qi Q (zB D 6 (zme cy ad) ad) (zA 6 ad)) ([.ref (ad 0), .int p0, .int p1] : List Value).toArray s 0 0 (zA 6 ad)) (F0 m 5 ls []) := by
    intro nn5
    induction nn5 with
    | zero => intro _ _ _ _ _ h; exact h.elim
    | succ nn5 ih5 =>
      intro t_5 y3_5 y4_5 H locs h hw hS ls hl
      simp only [wl_X7_lettersOn_5, wb_X7_lettersOn_5] at h
      refine lv_iload hx hb dX7_lettersOn_5 (lv_at hl 4 rfl) ?_
      refine lv_sipush (v := (jI 144)) hx hb dX7_lettersOn_7 (by decide +kernel) ?_
      refine lv_icmp_ge (tgt := 38) hx hb dX7_lettersOn_10 (by decide) (fun c1 => ?_) (fun c1 => ?_)
      · have h := h.1 c1
        exact k38_5 _ _ _ _ h hw hS _ (lv_sub hl [3] rfl)
      · have h := h.2 c1
        refine lv_iload_n hx hb dX7_lettersOn_13 rfl (lv_at hl 3 rfl) ?_
        refine lv_aload_n hx hb dX7_lettersOn_14 rfl (lv_at hl 0 rfl) ?_
        refine lv_iload hx hb dX7_lettersOn_15 (lv_at hl 4 rfl) ?_
        refine lv_iload_n hx hb dX7_lettersOn_17 rfl (lv_at hl 1 rfl) ?_
        refine lv_iload_n hx hb dX7_lettersOn_18 rfl (lv_at hl 2 rfl) ?_
        refine k_X7_isOn (rest := [.int y3_5]) hx hb hml hown hts gX7_lettersOn_X7_isOn ⟨Nat.le_of_ble_eq_true rfl, Nat.le_of_ble_eq_true rfl⟩ ⟨Nat.zero_le _, Nat.zero_le _⟩ hK hj hw hA hS hl.1 (Nat.le_of_ble_eq_true rfl) dX7_lettersOn_19 h (fun r1 s1 H locs h hw hS => ?_)
        refine zif_eq (tgt := 29) hx hb dX7_lettersOn_22 (by decide) (fun c2 => ?_) (fun c2 => ?_)
        · have h := h.1 c2
          refine lv_iconst (v := (jI 0)) hx hb dX7_lettersOn_29 rfl ?_
          refine lv_iadd hx hb dX7_lettersOn_30 ?_
          refine lv_topi (fun x1 ex1 => ?_)
          have h := h x1 ex1
          refine lv_istore_n (lv' := [(3, .int x1), (0, .ref (ad 0)), (1, .int p0), (2, .int p1), (4, .int y4_5)]) hx hb dX7_lettersOn_31 rfl hl (by decide) rfl (fun ls hl => ?_)
          obtain ⟨x2, ex2⟩ : ∃ y : Int32, y = y4_5 + (jI 1) := ⟨_, rfl⟩
          have h := h x2 ex2
          refine lv_iinc (v := x2) (lv' := [(4, .int x2), (3, .int x1), (0, .ref (ad 0)), (1, .int p0), (2, .int p1)]) hx hb dX7_lettersOn_32 hl (k := 4) rfl (by rw [ex2]; rfl) (by decide) rfl (fun ls hl => ?_)
          refine lv_goto (tgt := 5) hx hb dX7_lettersOn_35 (by decide) ?_
          exact ih5 _ _ _ _ _ h hw hS _ (lv_sub hl [2, 3, 4, 1, 0] rfl)
        · have h := h.2 c2
          refine lv_iconst (v := (jI 1)) hx hb dX7_lettersOn_25 rfl ?_
          refine lv_goto (tgt := 30) hx hb dX7_lettersOn_26 (by decide) ?_
          refine lv_iadd hx hb dX7_lettersOn_30 ?_
          refine lv_topi (fun x3 ex3 => ?_)
          have h := h x3 ex3
          refine lv_istore_n (lv' := [(3, .int x3), (0, .ref (ad 0)), (1, .int p0), (2, .int p1), (4, .int y4_5)]) hx hb dX7_lettersOn_31 rfl hl (by decide) rfl (fun ls hl => ?_)
          obtain ⟨x4, ex4⟩ : ∃ y : Int32, y = y4_5 + (jI 1) := ⟨_, rfl⟩
          have h := h x4 ex4
          refine lv_iinc (v := x4) (lv' := [(4, .int x4), (3, .int x3), (0, .ref (ad 0)), (1, .int p0), (2, .int p1)]) hx hb dX7_lettersOn_32 hl (k := 4) rfl (by rw [ex4]; rfl) (by decide) rfl (fun ls hl => ?_)
          refine lv_goto (tgt := 5) hx hb dX7_lettersOn_35 (by decide) ?_
          exact ih5 _ _ _ _ _ h hw hS _ (lv_sub hl [2, 3, 4, 1, 0] rfl)
  obtain ⟨nn5, h⟩ := h
  exact lp5 nn5 _ _ _ _ _ h hw hS _ (lv_sub hl [2, 3, 4, 1, 0] rfl)
theorem k_X7_lettersOn {p : Program} {l : Launch} {e : Env} {R : Room} {s : State} {m : MethodId} {args : Array Value} {below : List Frame} {meth : Method} {c : Code} {H : Heap} {locs : List Loc} {cells slots : Nat} {QQ : State → Prop} {cc : ByteArray} {pc nL index : Nat} {ls : Array Slot} {rest : List Value} {D : va_G} {cy : cyT} {ad : Nat → Nat} {own : String} {Ts : List Cond} {H0 : Heap} {σ : ST} {p0 : Int32} {p1 : Int32} {Q : Int32 → ST → Prop} (hx : p.tables.exec = Jvm.exec) (hb : c.code = cc) (hml : c.maxLocals = nL) (hown : s.vm.findClass own = some m.cls) (hts : ∀ w ∈ Ts, w.before args s = true) (hG : GoodIn Ts (wsV own index RX7 yX7_lettersOn wsX7_lettersOn)) (hR : 2 + 1 ≤ R.frames ∧ 8 + (5 + 11) + 45 ≤ R.locals) (hcs : cells ≤ R.cells ∧ slots ≤ R.slots) (hK : zK D cy s) (hj : zI 6 ad) (hw : zW D 6 (zme cy ad σ) ad H) {A0 : Nat → Prop} (hA : ∀ i, i < 6 → A0 (ad i)) (hS : va_S A0 H0 H locs) (hsz : ls.size = nL) (hrest : (rest.map fun v => v.category).sum ≤ 8) (hdg : decode cc pc = .ok (.invokevirtual index, 3)) (h : wp_X7_lettersOn σ p0 p1 Q) (kk : ∀ (r : Int32) (σ : ST) (H : Heap) (locs : List Loc), Q r σ → zW D 6 (zme cy ad σ) ad H → va_S A0 H0 H locs → W p l e R s m args below meth c H locs cells slots QQ (F0 m (pc + 3) ls (.int r :: rest))) : W p l e R s m args below meth c H locs cells slots QQ (F0 m pc ls (.int p1 :: .int p0 :: .ref (ad 0) :: rest)) :=
  zcalli (va_runV (As := [.int p0, .int p1]) (rest := rest) ⟨hx, hb, hml, hown, hts⟩ (c_X7_lettersOn l D cy ad σ p0 p1 h) (cwV 2 hts hG rfl rfl rfl (by decide +kernel) hR) (zpreV hj hK hw _ (i := 0) (ci := 6) (by decide) rfl rfl) rfl rfl hsz rfl (lv_room hrest) hdg hcs) hA hS kk
theorem last_06c : True := trivial
