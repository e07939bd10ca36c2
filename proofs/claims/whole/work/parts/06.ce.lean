/-! printed by wip/whole/gen.py: contracts -/
set_option maxHeartbeats 4000000 in
set_option maxRecDepth 100000 in
theorem c_X7_closeShelves (l : Launch) (D : va_G) (cy : cyT) (ad : Nat → Nat) (σ : ST) {Q : Int32 → ST → Prop} (h : wp_X7_closeShelves σ Q) : Met l yX7_closeShelves wsX7_closeShelves ({ frames := 4, cells := 0, slots := 0, locals := 95 } : Room) (zPre D cy 6 (zme cy ad σ) ad [.ref (ad 0)]) (va_Qi Q (zB D 6 (zme cy ad) ad) (zA 6 ad)) 0 0 (zA 6 ad) := by
  refine Met.ofW (cc := cX7_closeShelves) (maxL := 1) (ret := (some .int)) (by decide) rfl ?_
  intro p e s m args below meth c s₁ B hml hv
  obtain ⟨rfl, hj, hK, hw⟩ := hv
  have hx := B.exec
  have hb := B.bytes
  have hr := B.returns
  have hts := atoms_spec (ws := wsX7_closeShelves) B.pre
  have hown : s.vm.findClass RX7 = some m.cls := findClass_of_methodNamed B.named
  have hlocks := B.notSynchronized
  have lk0 : Cond.fieldLink RX7 26 "TypeTraysModel" "thrown" "I" ∈ wsX7_closeShelves := List.mem_of_getElem? (i := 1) rfl
  have inX7 : ∀ w ∈ u_ws RX7 TX7 16, w ∈ wsX7_closeShelves := zin_at 30 rfl
  have hS : va_S (zA 6 ad) s.heap s.heap [] := va_S.rf
  have hA : ∀ i, i < 6 → zA 6 ad (ad i) := fun i hi => ⟨i, hi, rfl⟩
  have hl := lv_entry ([.ref (ad 0)]) (n := 1) (Nat.le_of_ble_eq_true rfl)
  rw [lg_entry_eq]
  generalize (lg_sl ([.ref (ad 0)]) ++ List.replicate (1 - (lg_sl ([.ref (ad 0)])).length) Slot.unset).toArray = ls at hl ⊢
  have hl : lv_has ls 1 [(0, .ref (ad 0))] := hl
  show W p l e ({ frames := 4, cells := 0, slots := 0, locals := 95 } : Room) s m ([.ref (ad 0)] : List Value).toArray below meth c s.heap [] 0 0 (MQ below (va_Qi Q (zB D 6 (zme cy ad) ad) (zA 6 ad)) ([.ref (ad 0)] : List Value).toArray s 0 0 (zA 6 ad)) (F0 m 0 ls [])
  unfold wp_X7_closeShelves at h
  refine lv_aload_n hx hb dX7_closeShelves_0 rfl (lv_at hl 0 rfl) ?_
  refine lv_iconst (v := (jI 0)) hx hb dX7_closeShelves_1 rfl ?_
  obtain ⟨s1, es1⟩ : ∃ y : ST, y = zsp σ 1 (jI 0) := ⟨_, rfl⟩
  have h := h s1 es1
  refine zput (ty := .int) hx hb hts inX7 tyX7 tyX7_ok nmX7 hown hK hj hw hA hS 0 (by decide) rfl rfl 3 (by decide) lk0 (fun _ h9 => h9) rfl (by decide +kernel) rfl rfl (Nat.le_of_ble_eq_true rfl) dX7_closeShelves_2 (zme cy ad s1) (by rw [es1]; rfl) (fun j hj9 => by rw [es1]; exact zsp_off_M_1 j hj9) (fun H locs hw hS => ?_)
  refine lv_aload_n hx hb dX7_closeShelves_5 rfl (lv_at hl 0 rfl) ?_
  refine k_X7_saves (rest := []) hx hb hml hown hts gX7_closeShelves_X7_saves ⟨Nat.le_of_ble_eq_true rfl, Nat.le_of_ble_eq_true rfl⟩ ⟨Nat.zero_le _, Nat.zero_le _⟩ hK hj hw hA hS hl.1 (Nat.le_of_ble_eq_true rfl) dX7_closeShelves_6 h (fun s2 H locs h hw hS => ?_)
  refine lv_aload_n hx hb dX7_closeShelves_9 rfl (lv_at hl 0 rfl) ?_
  refine k_X7_closes (rest := []) hx hb hml hown hts gX7_closeShelves_X7_closes ⟨Nat.le_of_ble_eq_true rfl, Nat.le_of_ble_eq_true rfl⟩ ⟨Nat.zero_le _, Nat.zero_le _⟩ hK hj hw hA hS hl.1 (Nat.le_of_ble_eq_true rfl) dX7_closeShelves_10 h (fun r1 s3 H locs h hw hS => ?_)
  exact W.iret (v := r1) hx hb hr (fun t ht hW => ⟨⟨_, _, rfl, h, zend hw ht⟩, hS.F ht⟩) hS.2.2 dX7_closeShelves_13
theorem k_X7_closeShelves {p : Program} {l : Launch} {e : Env} {R : Room} {s : State} {m : MethodId} {args : Array Value} {below : List Frame} {meth : Method} {c : Code} {H : Heap} {locs : List Loc} {cells slots : Nat} {QQ : State → Prop} {cc : ByteArray} {pc nL index : Nat} {ls : Array Slot} {rest : List Value} {D : va_G} {cy : cyT} {ad : Nat → Nat} {own : String} {Ts : List Cond} {H0 : Heap} {σ : ST}  {Q : Int32 → ST → Prop} (hx : p.tables.exec = Jvm.exec) (hb : c.code = cc) (hml : c.maxLocals = nL) (hown : s.vm.findClass own = some m.cls) (hts : ∀ w ∈ Ts, w.before args s = true) (hG : GoodIn Ts (wsV own index RX7 yX7_closeShelves wsX7_closeShelves)) (hR : 4 + 1 ≤ R.frames ∧ 8 + (1 + 11) + 95 ≤ R.locals) (hcs : cells ≤ R.cells ∧ slots ≤ R.slots) (hK : zK D cy s) (hj : zI 6 ad) (hw : zW D 6 (zme cy ad σ) ad H) {A0 : Nat → Prop} (hA : ∀ i, i < 6 → A0 (ad i)) (hS : va_S A0 H0 H locs) (hsz : ls.size = nL) (hrest : (rest.map fun v => v.category).sum ≤ 8) (hdg : decode cc pc = .ok (.invokevirtual index, 3)) (h : wp_X7_closeShelves σ  Q) (kk : ∀ (r : Int32) (σ : ST) (H : Heap) (locs : List Loc), Q r σ → zW D 6 (zme cy ad σ) ad H → va_S A0 H0 H locs → W p l e R s m args below meth c H locs cells slots QQ (F0 m (pc + 3) ls (.int r :: rest))) : W p l e R s m args below meth c H locs cells slots QQ (F0 m pc ls (.ref (ad 0) :: rest)) :=
  zcalli (va_runV (As := []) (rest := rest) ⟨hx, hb, hml, hown, hts⟩ (c_X7_closeShelves l D cy ad σ  h) (cwV 0 hts hG rfl rfl rfl (by decide +kernel) hR) (zpreV hj hK hw _ (i := 0) (ci := 6) (by decide) rfl rfl) rfl rfl hsz rfl (lv_room hrest) hdg hcs) hA hS kk
set_option maxHeartbeats 4000000 in
set_option maxRecDepth 100000 in
theorem c_X7_letterBy (l : Launch) (D : va_G) (cy : cyT) (ad : Nat → Nat) (σ : ST) (p0 : Int32) (p1 : Int32) {Q : Int32 → ST → Prop} (h : wp_X7_letterBy σ p0 p1 Q) : Met l yX7_letterBy wsX7_letterBy ({ frames := 2, cells := 0, slots := 0, locals := 46 } : Room) (zPre D cy 6 (zme cy ad σ) ad [.ref (ad 0), .int p0, .int p1]) (va_Qi Q (zB D 6 (zme cy ad) ad) (zA 6 ad)) 0 0 (zA 6 ad) := by
  refine Met.ofW (cc := cX7_letterBy) (maxL := 3) (ret := (some .int)) (by decide) rfl ?_
  intro p e s m args below meth c s₁ B hml hv
  obtain ⟨rfl, hj, hK, hw⟩ := hv
  have hx := B.exec
  have hb := B.bytes
  have hr := B.returns
  have hts := atoms_spec (ws := wsX7_letterBy) B.pre
  have hown : s.vm.findClass RX7 = some m.cls := findClass_of_methodNamed B.named
  have hlocks := B.notSynchronized
  have hS : va_S (zA 6 ad) s.heap s.heap [] := va_S.rf
  have hA : ∀ i, i < 6 → zA 6 ad (ad i) := fun i hi => ⟨i, hi, rfl⟩
  have hl := lv_entry ([.ref (ad 0), .int p0, .int p1]) (n := 3) (Nat.le_of_ble_eq_true rfl)
  rw [lg_entry_eq]
  generalize (lg_sl ([.ref (ad 0), .int p0, .int p1]) ++ List.replicate (3 - (lg_sl ([.ref (ad 0), .int p0, .int p1])).length) Slot.unset).toArray = ls at hl ⊢
  have hl : lv_has ls 3 [(0, .ref (ad 0)), (1, .int p0), (2, .int p1)] := hl
  show W p l e ({ frames := 2, cells := 0, slots := 0, locals := 46 } : Room) s m ([.ref (ad 0), .int p0, .int p1] : List Value).toArray below meth c s.heap [] 0 0 (MQ below (va_Qi Q (zB D 6 (zme cy ad) ad) (zA 6 ad)) ([.ref (ad 0), .int p0, .int p1] : List Value).toArray s 0 0 (zA 6 ad)) (F0 m 0 ls [])
  unfold wp_X7_letterBy at h
  refine lv_iload_n hx hb dX7_letterBy_0 rfl (lv_at hl 2 rfl) ?_
  refine lv_iconst (v := (jI 3)) hx hb dX7_letterBy_1 rfl ?_
  refine lv_icmp_eq (tgt := 10) hx hb dX7_letterBy_2 (by decide) (fun c1 => ?_) (fun c1 => ?_)
  · have h := h.1 c1
    refine lv_iload_n hx hb dX7_letterBy_10 rfl (lv_at hl 2 rfl) ?_
    refine lv_iconst (v := (jI 3)) hx hb dX7_letterBy_11 rfl ?_
    refine lv_icmp_ne (tgt := 23) hx hb dX7_letterBy_12 (by decide) (fun c2 => ?_) (fun c2 => ?_)
    · have h := h.2 c2
      refine lv_aload_n hx hb dX7_letterBy_23 rfl (lv_at hl 0 rfl) ?_
      refine lv_iload_n hx hb dX7_letterBy_24 rfl (lv_at hl 1 rfl) ?_
      refine k_X7_heightOf (rest := []) hx hb hml hown hts gX7_letterBy_X7_heightOf ⟨Nat.le_of_ble_eq_true rfl, Nat.le_of_ble_eq_true rfl⟩ ⟨Nat.zero_le _, Nat.zero_le _⟩ hK hj hw hA hS hl.1 (Nat.le_of_ble_eq_true rfl) dX7_letterBy_25 h (fun r1 s1 H locs h hw hS => ?_)
      exact W.iret (v := r1) hx hb hr (fun t ht hW => ⟨⟨_, _, rfl, h, zend hw ht⟩, hS.F ht⟩) hS.2.2 dX7_letterBy_28
    · have h := h.1 c2
      refine lv_aload_n hx hb dX7_letterBy_15 rfl (lv_at hl 0 rfl) ?_
      refine lv_iload_n hx hb dX7_letterBy_16 rfl (lv_at hl 1 rfl) ?_
      refine k_X7_widthOf (rest := []) hx hb hml hown hts gX7_letterBy_X7_widthOf ⟨Nat.le_of_ble_eq_true rfl, Nat.le_of_ble_eq_true rfl⟩ ⟨Nat.zero_le _, Nat.zero_le _⟩ hK hj hw hA hS hl.1 (Nat.le_of_ble_eq_true rfl) dX7_letterBy_17 h (fun r2 s2 H locs h hw hS => ?_)
      refine lv_goto (tgt := 28) hx hb dX7_letterBy_20 (by decide) ?_
      exact W.iret (v := r2) hx hb hr (fun t ht hW => ⟨⟨_, _, rfl, h, zend hw ht⟩, hS.F ht⟩) hS.2.2 dX7_letterBy_28
  · have h := h.2 c1
    refine lv_iload_n hx hb dX7_letterBy_5 rfl (lv_at hl 2 rfl) ?_
    refine lv_iconst (v := (jI 4)) hx hb dX7_letterBy_6 rfl ?_
    refine lv_icmp_ne (tgt := 29) hx hb dX7_letterBy_7 (by decide) (fun c3 => ?_) (fun c3 => ?_)
    · have h := h.2 c3
      refine lv_aload_n hx hb dX7_letterBy_29 rfl (lv_at hl 0 rfl) ?_
      refine lv_iload_n hx hb dX7_letterBy_30 rfl (lv_at hl 1 rfl) ?_
      refine k_X7_is (rest := []) hx hb hml hown hts gX7_letterBy_X7_is ⟨Nat.le_of_ble_eq_true rfl, Nat.le_of_ble_eq_true rfl⟩ ⟨Nat.zero_le _, Nat.zero_le _⟩ hK hj hw hA hS hl.1 (Nat.le_of_ble_eq_true rfl) dX7_letterBy_31 h (fun r3 s3 H locs h hw hS => ?_)
      refine zif_eq (tgt := 56) hx hb dX7_letterBy_34 (by decide) (fun c4 => ?_) (fun c4 => ?_)
      · have h := h.1 c4
        refine lv_iconst (v := (jI (-1))) hx hb dX7_letterBy_56 rfl ?_
        exact W.iret (v := (jI (-1))) hx hb hr (fun t ht hW => ⟨⟨_, _, rfl, h, zend hw ht⟩, hS.F ht⟩) hS.2.2 dX7_letterBy_57
      · have h := h.2 c4
        refine lv_aload_n hx hb dX7_letterBy_37 rfl (lv_at hl 0 rfl) ?_
        refine lv_iload_n hx hb dX7_letterBy_38 rfl (lv_at hl 1 rfl) ?_
        refine k_X7_isLaid (rest := []) hx hb hml hown hts gX7_letterBy_X7_isLaid ⟨Nat.le_of_ble_eq_true rfl, Nat.le_of_ble_eq_true rfl⟩ ⟨Nat.zero_le _, Nat.zero_le _⟩ hK hj hw hA hS hl.1 (Nat.le_of_ble_eq_true rfl) dX7_letterBy_39 h (fun r4 s4 H locs h hw hS => ?_)
        refine zif_ne (tgt := 58) hx hb dX7_letterBy_42 (by decide) (fun c5 => ?_) (fun c5 => ?_)
        · have h := h.2 c5
          refine lv_iload_n hx hb dX7_letterBy_58 rfl (lv_at hl 2 rfl) ?_
          rcases Classical.em (p1 = (jI 0)) with c6 | c6
          · have h := h.1 c6
            refine lv_tableIn (tgt := 108) (off := 49) hx hb dX7_letterBy_59 (by rw [c6]; decide +kernel) (by rw [c6]; decide +kernel) (by rw [c6]; decide +kernel) (by decide) ?_
            refine lv_aload_n hx hb dX7_letterBy_108 rfl (lv_at hl 0 rfl) ?_
            refine lv_iload_n hx hb dX7_letterBy_109 rfl (lv_at hl 1 rfl) ?_
            refine lv_iconst (v := (jI 0)) hx hb dX7_letterBy_110 rfl ?_
            refine k_X7_of (rest := []) hx hb hml hown hts gX7_letterBy_X7_of ⟨Nat.le_of_ble_eq_true rfl, Nat.le_of_ble_eq_true rfl⟩ ⟨Nat.zero_le _, Nat.zero_le _⟩ hK hj hw hA hS hl.1 (Nat.le_of_ble_eq_true rfl) dX7_letterBy_111 h (fun r5 s5 H locs h hw hS => ?_)
            exact W.iret (v := r5) hx hb hr (fun t ht hW => ⟨⟨_, _, rfl, h, zend hw ht⟩, hS.F ht⟩) hS.2.2 dX7_letterBy_114
          have h := h.2 c6
          rcases Classical.em (p1 = (jI 1)) with c7 | c7
          · have h := h.1 c7
            refine lv_tableIn (tgt := 115) (off := 56) hx hb dX7_letterBy_59 (by rw [c7]; decide +kernel) (by rw [c7]; decide +kernel) (by rw [c7]; decide +kernel) (by decide) ?_
            refine lv_aload_n hx hb dX7_letterBy_115 rfl (lv_at hl 0 rfl) ?_
            refine lv_iload_n hx hb dX7_letterBy_116 rfl (lv_at hl 1 rfl) ?_
            refine lv_iconst (v := (jI 2)) hx hb dX7_letterBy_117 rfl ?_
            refine k_X7_of (rest := []) hx hb hml hown hts gX7_letterBy_X7_of ⟨Nat.le_of_ble_eq_true rfl, Nat.le_of_ble_eq_true rfl⟩ ⟨Nat.zero_le _, Nat.zero_le _⟩ hK hj hw hA hS hl.1 (Nat.le_of_ble_eq_true rfl) dX7_letterBy_118 h (fun r6 s6 H locs h hw hS => ?_)
            exact W.iret (v := r6) hx hb hr (fun t ht hW => ⟨⟨_, _, rfl, h, zend hw ht⟩, hS.F ht⟩) hS.2.2 dX7_letterBy_121
          have h := h.2 c7
          rcases Classical.em (p1 = (jI 2)) with c8 | c8
          · have h := h.1 c8
            refine lv_tableIn (tgt := 122) (off := 63) hx hb dX7_letterBy_59 (by rw [c8]; decide +kernel) (by rw [c8]; decide +kernel) (by rw [c8]; decide +kernel) (by decide) ?_
            refine lv_aload_n hx hb dX7_letterBy_122 rfl (lv_at hl 0 rfl) ?_
            refine lv_aload_n hx hb dX7_letterBy_123 rfl (lv_at hl 0 rfl) ?_
            refine lv_iload_n hx hb dX7_letterBy_124 rfl (lv_at hl 1 rfl) ?_
            refine lv_iconst (v := (jI 0)) hx hb dX7_letterBy_125 rfl ?_
            refine k_X7_of (rest := [.ref (ad 0)]) hx hb hml hown hts gX7_letterBy_X7_of ⟨Nat.le_of_ble_eq_true rfl, Nat.le_of_ble_eq_true rfl⟩ ⟨Nat.zero_le _, Nat.zero_le _⟩ hK hj hw hA hS hl.1 (Nat.le_of_ble_eq_true rfl) dX7_letterBy_126 h (fun r7 s7 H locs h hw hS => ?_)
            refine lv_aload_n hx hb dX7_letterBy_129 rfl (lv_at hl 0 rfl) ?_
            refine lv_iload_n hx hb dX7_letterBy_130 rfl (lv_at hl 1 rfl) ?_
            refine lv_iconst (v := (jI 1)) hx hb dX7_letterBy_131 rfl ?_
            refine k_X7_of (rest := [.int r7, .ref (ad 0)]) hx hb hml hown hts gX7_letterBy_X7_of ⟨Nat.le_of_ble_eq_true rfl, Nat.le_of_ble_eq_true rfl⟩ ⟨Nat.zero_le _, Nat.zero_le _⟩ hK hj hw hA hS hl.1 (Nat.le_of_ble_eq_true rfl) dX7_letterBy_132 h (fun r8 s8 H locs h hw hS => ?_)
            refine k_X7_top (rest := []) hx hb hml hown hts gX7_letterBy_X7_top ⟨Nat.le_of_ble_eq_true rfl, Nat.le_of_ble_eq_true rfl⟩ ⟨Nat.zero_le _, Nat.zero_le _⟩ hK hj hw hA hS hl.1 (Nat.le_of_ble_eq_true rfl) dX7_letterBy_135 h (fun r9 s9 H locs h hw hS => ?_)
            exact W.iret (v := r9) hx hb hr (fun t ht hW => ⟨⟨_, _, rfl, h, zend hw ht⟩, hS.F ht⟩) hS.2.2 dX7_letterBy_138
          have h := h.2 c8
          rcases Classical.em (p1 = (jI 3)) with c9 | c9
          · have h := h.1 c9
            refine lv_tableIn (tgt := 146) (off := 87) hx hb dX7_letterBy_59 (by rw [c9]; decide +kernel) (by rw [c9]; decide +kernel) (by rw [c9]; decide +kernel) (by decide) ?_
            refine lv_aload_n hx hb dX7_letterBy_146 rfl (lv_at hl 0 rfl) ?_
            refine lv_iload_n hx hb dX7_letterBy_147 rfl (lv_at hl 1 rfl) ?_
            refine lv_iload_n hx hb dX7_letterBy_148 rfl (lv_at hl 2 rfl) ?_
            refine lv_iconst (v := (jI 2)) hx hb dX7_letterBy_149 rfl ?_
            refine lv_isub hx hb dX7_letterBy_150 ?_
            refine k_X7_of (rest := []) hx hb hml hown hts gX7_letterBy_X7_of ⟨Nat.le_of_ble_eq_true rfl, Nat.le_of_ble_eq_true rfl⟩ ⟨Nat.zero_le _, Nat.zero_le _⟩ hK hj hw hA hS hl.1 (Nat.le_of_ble_eq_true rfl) dX7_letterBy_151 h (fun r10 s10 H locs h hw hS => ?_)
            exact W.iret (v := r10) hx hb hr (fun t ht hW => ⟨⟨_, _, rfl, h, zend hw ht⟩, hS.F ht⟩) hS.2.2 dX7_letterBy_154
          have h := h.2 c9
          rcases Classical.em (p1 = (jI 4)) with c10 | c10
          · have h := h.1 c10
            refine lv_tableIn (tgt := 146) (off := 87) hx hb dX7_letterBy_59 (by rw [c10]; decide +kernel) (by rw [c10]; decide +kernel) (by rw [c10]; decide +kernel) (by decide) ?_
            refine lv_aload_n hx hb dX7_letterBy_146 rfl (lv_at hl 0 rfl) ?_
            refine lv_iload_n hx hb dX7_letterBy_147 rfl (lv_at hl 1 rfl) ?_
            refine lv_iload_n hx hb dX7_letterBy_148 rfl (lv_at hl 2 rfl) ?_
            refine lv_iconst (v := (jI 2)) hx hb dX7_letterBy_149 rfl ?_
            refine lv_isub hx hb dX7_letterBy_150 ?_
            refine k_X7_of (rest := []) hx hb hml hown hts gX7_letterBy_X7_of ⟨Nat.le_of_ble_eq_true rfl, Nat.le_of_ble_eq_true rfl⟩ ⟨Nat.zero_le _, Nat.zero_le _⟩ hK hj hw hA hS hl.1 (Nat.le_of_ble_eq_true rfl) dX7_letterBy_151 h (fun r11 s11 H locs h hw hS => ?_)
            exact W.iret (v := r11) hx hb hr (fun t ht hW => ⟨⟨_, _, rfl, h, zend hw ht⟩, hS.F ht⟩) hS.2.2 dX7_letterBy_154
          have h := h.2 c10
          rcases Classical.em (p1 = (jI 5)) with c11 | c11
          · have h := h.1 c11
            refine lv_tableIn (tgt := 146) (off := 87) hx hb dX7_letterBy_59 (by rw [c11]; decide +kernel) (by rw [c11]; decide +kernel) (by rw [c11]; decide +kernel) (by decide) ?_
            refine lv_aload_n hx hb dX7_letterBy_146 rfl (lv_at hl 0 rfl) ?_
            refine lv_iload_n hx hb dX7_letterBy_147 rfl (lv_at hl 1 rfl) ?_
            refine lv_iload_n hx hb dX7_letterBy_148 rfl (lv_at hl 2 rfl) ?_
            refine lv_iconst (v := (jI 2)) hx hb dX7_letterBy_149 rfl ?_
            refine lv_isub hx hb dX7_letterBy_150 ?_
            refine k_X7_of (rest := []) hx hb hml hown hts gX7_letterBy_X7_of ⟨Nat.le_of_ble_eq_true rfl, Nat.le_of_ble_eq_true rfl⟩ ⟨Nat.zero_le _, Nat.zero_le _⟩ hK hj hw hA hS hl.1 (Nat.le_of_ble_eq_true rfl) dX7_letterBy_151 h (fun r12 s12 H locs h hw hS => ?_)
            exact W.iret (v := r12) hx hb hr (fun t ht hW => ⟨⟨_, _, rfl, h, zend hw ht⟩, hS.F ht⟩) hS.2.2 dX7_letterBy_154
          have h := h.2 c11
          rcases Classical.em (p1 = (jI 6)) with c12 | c12
          · have h := h.1 c12
            refine lv_tableIn (tgt := 146) (off := 87) hx hb dX7_letterBy_59 (by rw [c12]; decide +kernel) (by rw [c12]; decide +kernel) (by rw [c12]; decide +kernel) (by decide) ?_
            refine lv_aload_n hx hb dX7_letterBy_146 rfl (lv_at hl 0 rfl) ?_
            refine lv_iload_n hx hb dX7_letterBy_147 rfl (lv_at hl 1 rfl) ?_
            refine lv_iload_n hx hb dX7_letterBy_148 rfl (lv_at hl 2 rfl) ?_
            refine lv_iconst (v := (jI 2)) hx hb dX7_letterBy_149 rfl ?_
            refine lv_isub hx hb dX7_letterBy_150 ?_
            refine k_X7_of (rest := []) hx hb hml hown hts gX7_letterBy_X7_of ⟨Nat.le_of_ble_eq_true rfl, Nat.le_of_ble_eq_true rfl⟩ ⟨Nat.zero_le _, Nat.zero_le _⟩ hK hj hw hA hS hl.1 (Nat.le_of_ble_eq_true rfl) dX7_letterBy_151 h (fun r13 s13 H locs h hw hS => ?_)
            exact W.iret (v := r13) hx hb hr (fun t ht hW => ⟨⟨_, _, rfl, h, zend hw ht⟩, hS.F ht⟩) hS.2.2 dX7_letterBy_154
          have h := h.2 c12
          rcases Classical.em (p1 = (jI 7)) with c13 | c13
          · have h := h.1 c13
            refine lv_tableIn (tgt := 146) (off := 87) hx hb dX7_letterBy_59 (by rw [c13]; decide +kernel) (by rw [c13]; decide +kernel) (by rw [c13]; decide +kernel) (by decide) ?_
            refine lv_aload_n hx hb dX7_letterBy_146 rfl (lv_at hl 0 rfl) ?_
            refine lv_iload_n hx hb dX7_letterBy_147 rfl (lv_at hl 1 rfl) ?_
            refine lv_iload_n hx hb dX7_letterBy_148 rfl (lv_at hl 2 rfl) ?_
            refine lv_iconst (v := (jI 2)) hx hb dX7_letterBy_149 rfl ?_
            refine lv_isub hx hb dX7_letterBy_150 ?_
            refine k_X7_of (rest := []) hx hb hml hown hts gX7_letterBy_X7_of ⟨Nat.le_of_ble_eq_true rfl, Nat.le_of_ble_eq_true rfl⟩ ⟨Nat.zero_le _, Nat.zero_le _⟩ hK hj hw hA hS hl.1 (Nat.le_of_ble_eq_true rfl) dX7_letterBy_151 h (fun r14 s14 H locs h hw hS => ?_)
            exact W.iret (v := r14) hx hb hr (fun t ht hW => ⟨⟨_, _, rfl, h, zend hw ht⟩, hS.F ht⟩) hS.2.2 dX7_letterBy_154
          have h := h.2 c13
          rcases Classical.em (p1 = (jI 8)) with c14 | c14
          · have h := h.1 c14
            refine lv_tableIn (tgt := 139) (off := 80) hx hb dX7_letterBy_59 (by rw [c14]; decide +kernel) (by rw [c14]; decide +kernel) (by rw [c14]; decide +kernel) (by decide) ?_
            refine lv_aload_n hx hb dX7_letterBy_139 rfl (lv_at hl 0 rfl) ?_
            refine lv_iload_n hx hb dX7_letterBy_140 rfl (lv_at hl 1 rfl) ?_
            refine lv_iconst (v := (jI 1)) hx hb dX7_letterBy_141 rfl ?_
            refine k_X7_of (rest := []) hx hb hml hown hts gX7_letterBy_X7_of ⟨Nat.le_of_ble_eq_true rfl, Nat.le_of_ble_eq_true rfl⟩ ⟨Nat.zero_le _, Nat.zero_le _⟩ hK hj hw hA hS hl.1 (Nat.le_of_ble_eq_true rfl) dX7_letterBy_142 h (fun r15 s15 H locs h hw hS => ?_)
            exact W.iret (v := r15) hx hb hr (fun t ht hW => ⟨⟨_, _, rfl, h, zend hw ht⟩, hS.F ht⟩) hS.2.2 dX7_letterBy_145
          have h := h.2 c14
          have hsw1 := zsw_out (x := p1) (0) 9 (fun k hk => by
            match k, hk with
            | 0, _ => exact c6
            | 1, _ => exact c7
            | 2, _ => exact c8
            | 3, _ => exact c9
            | 4, _ => exact c10
            | 5, _ => exact c11
            | 6, _ => exact c12
            | 7, _ => exact c13
            | 8, _ => exact c14
            | k + 9, hk => exact absurd hk (by omega))
          refine lv_tableOut (tgt := 146) hx hb dX7_letterBy_59 hsw1 (by decide) ?_
          refine lv_aload_n hx hb dX7_letterBy_146 rfl (lv_at hl 0 rfl) ?_
          refine lv_iload_n hx hb dX7_letterBy_147 rfl (lv_at hl 1 rfl) ?_
          refine lv_iload_n hx hb dX7_letterBy_148 rfl (lv_at hl 2 rfl) ?_
          refine lv_iconst (v := (jI 2)) hx hb dX7_letterBy_149 rfl ?_
          refine lv_isub hx hb dX7_letterBy_150 ?_
          refine k_X7_of (rest := []) hx hb hml hown hts gX7_letterBy_X7_of ⟨Nat.le_of_ble_eq_true rfl, Nat.le_of_ble_eq_true rfl⟩ ⟨Nat.zero_le _, Nat.zero_le _⟩ hK hj hw hA hS hl.1 (Nat.le_of_ble_eq_true rfl) dX7_letterBy_151 h (fun r16 s16 H locs h hw hS => ?_)
          exact W.iret (v := r16) hx hb hr (fun t ht hW => ⟨⟨_, _, rfl, h, zend hw ht⟩, hS.F ht⟩) hS.2.2 dX7_letterBy_154
        · have h := h.1 c5
          refine lv_iload_n hx hb dX7_letterBy_45 rfl (lv_at hl 2 rfl) ?_
          refine lv_iconst (v := (jI 3)) hx hb dX7_letterBy_46 rfl ?_
          refine lv_icmp_lt (tgt := 56) hx hb dX7_letterBy_47 (by decide) (fun c15 => ?_) (fun c15 => ?_)
          · have h := h.1 c15
            refine lv_iconst (v := (jI (-1))) hx hb dX7_letterBy_56 rfl ?_
            exact W.iret (v := (jI (-1))) hx hb hr (fun t ht hW => ⟨⟨_, _, rfl, h, zend hw ht⟩, hS.F ht⟩) hS.2.2 dX7_letterBy_57
          · have h := h.2 c15
            refine lv_iload_n hx hb dX7_letterBy_50 rfl (lv_at hl 2 rfl) ?_
            refine lv_bipush (v := (jI 8)) hx hb dX7_letterBy_51 (by decide +kernel) ?_
            refine lv_icmp_ne (tgt := 58) hx hb dX7_letterBy_53 (by decide) (fun c16 => ?_) (fun c16 => ?_)
            · have h := h.2 c16
              refine lv_iload_n hx hb dX7_letterBy_58 rfl (lv_at hl 2 rfl) ?_
              rcases Classical.em (p1 = (jI 0)) with c17 | c17
              · have h := h.1 c17
                refine lv_tableIn (tgt := 108) (off := 49) hx hb dX7_letterBy_59 (by rw [c17]; decide +kernel) (by rw [c17]; decide +kernel) (by rw [c17]; decide +kernel) (by decide) ?_
                refine lv_aload_n hx hb dX7_letterBy_108 rfl (lv_at hl 0 rfl) ?_
                refine lv_iload_n hx hb dX7_letterBy_109 rfl (lv_at hl 1 rfl) ?_
                refine lv_iconst (v := (jI 0)) hx hb dX7_letterBy_110 rfl ?_
                refine k_X7_of (rest := []) hx hb hml hown hts gX7_letterBy_X7_of ⟨Nat.le_of_ble_eq_true rfl, Nat.le_of_ble_eq_true rfl⟩ ⟨Nat.zero_le _, Nat.zero_le _⟩ hK hj hw hA hS hl.1 (Nat.le_of_ble_eq_true rfl) dX7_letterBy_111 h (fun r17 s17 H locs h hw hS => ?_)
                exact W.iret (v := r17) hx hb hr (fun t ht hW => ⟨⟨_, _, rfl, h, zend hw ht⟩, hS.F ht⟩) hS.2.2 dX7_letterBy_114
              have h := h.2 c17
              rcases Classical.em (p1 = (jI 1)) with c18 | c18
              · have h := h.1 c18
                refine lv_tableIn (tgt := 115) (off := 56) hx hb dX7_letterBy_59 (by rw [c18]; decide +kernel) (by rw [c18]; decide +kernel) (by rw [c18]; decide +kernel) (by decide) ?_
                refine lv_aload_n hx hb dX7_letterBy_115 rfl (lv_at hl 0 rfl) ?_
                refine lv_iload_n hx hb dX7_letterBy_116 rfl (lv_at hl 1 rfl) ?_
                refine lv_iconst (v := (jI 2)) hx hb dX7_letterBy_117 rfl ?_
                refine k_X7_of (rest := []) hx hb hml hown hts gX7_letterBy_X7_of ⟨Nat.le_of_ble_eq_true rfl, Nat.le_of_ble_eq_true rfl⟩ ⟨Nat.zero_le _, Nat.zero_le _⟩ hK hj hw hA hS hl.1 (Nat.le_of_ble_eq_true rfl) dX7_letterBy_118 h (fun r18 s18 H locs h hw hS => ?_)
                exact W.iret (v := r18) hx hb hr (fun t ht hW => ⟨⟨_, _, rfl, h, zend hw ht⟩, hS.F ht⟩) hS.2.2 dX7_letterBy_121
              have h := h.2 c18
              rcases Classical.em (p1 = (jI 2)) with c19 | c19
              · have h := h.1 c19
                refine lv_tableIn (tgt := 122) (off := 63) hx hb dX7_letterBy_59 (by rw [c19]; decide +kernel) (by rw [c19]; decide +kernel) (by rw [c19]; decide +kernel) (by decide) ?_
                refine lv_aload_n hx hb dX7_letterBy_122 rfl (lv_at hl 0 rfl) ?_
                refine lv_aload_n hx hb dX7_letterBy_123 rfl (lv_at hl 0 rfl) ?_
                refine lv_iload_n hx hb dX7_letterBy_124 rfl (lv_at hl 1 rfl) ?_
                refine lv_iconst (v := (jI 0)) hx hb dX7_letterBy_125 rfl ?_
                refine k_X7_of (rest := [.ref (ad 0)]) hx hb hml hown hts gX7_letterBy_X7_of ⟨Nat.le_of_ble_eq_true rfl, Nat.le_of_ble_eq_true rfl⟩ ⟨Nat.zero_le _, Nat.zero_le _⟩ hK hj hw hA hS hl.1 (Nat.le_of_ble_eq_true rfl) dX7_letterBy_126 h (fun r19 s19 H locs h hw hS => ?_)
                refine lv_aload_n hx hb dX7_letterBy_129 rfl (lv_at hl 0 rfl) ?_
                refine lv_iload_n hx hb dX7_letterBy_130 rfl (lv_at hl 1 rfl) ?_
                refine lv_iconst (v := (jI 1)) hx hb dX7_letterBy_131 rfl ?_
                refine k_X7_of (rest := [.int r19, .ref (ad 0)]) hx hb hml hown hts gX7_letterBy_X7_of ⟨Nat.le_of_ble_eq_true rfl, Nat.le_of_ble_eq_true rfl⟩ ⟨Nat.zero_le _, Nat.zero_le _⟩ hK hj hw hA hS hl.1 (Nat.le_of_ble_eq_true rfl) dX7_letterBy_132 h (fun r20 s20 H locs h hw hS => ?_)
                refine k_X7_top (rest := []) hx hb hml hown hts gX7_letterBy_X7_top ⟨Nat.le_of_ble_eq_true rfl, Nat.le_of_ble_eq_true rfl⟩ ⟨Nat.zero_le _, Nat.zero_le _⟩ hK hj hw hA hS hl.1 (Nat.le_of_ble_eq_true rfl) dX7_letterBy_135 h (fun r21 s21 H locs h hw hS => ?_)
                exact W.iret (v := r21) hx hb hr (fun t ht hW => ⟨⟨_, _, rfl, h, zend hw ht⟩, hS.F ht⟩) hS.2.2 dX7_letterBy_138
              have h := h.2 c19
              rcases Classical.em (p1 = (jI 3)) with c20 | c20
              · have h := h.1 c20
                refine lv_tableIn (tgt := 146) (off := 87) hx hb dX7_letterBy_59 (by rw [c20]; decide +kernel) (by rw [c20]; decide +kernel) (by rw [c20]; decide +kernel) (by decide) ?_
                refine lv_aload_n hx hb dX7_letterBy_146 rfl (lv_at hl 0 rfl) ?_
                refine lv_iload_n hx hb dX7_letterBy_147 rfl (lv_at hl 1 rfl) ?_
                refine lv_iload_n hx hb dX7_letterBy_148 rfl (lv_at hl 2 rfl) ?_
                refine lv_iconst (v := (jI 2)) hx hb dX7_letterBy_149 rfl ?_
                refine lv_isub hx hb dX7_letterBy_150 ?_
                refine k_X7_of (rest := []) hx hb hml hown hts gX7_letterBy_X7_of ⟨Nat.le_of_ble_eq_true rfl, Nat.le_of_ble_eq_true rfl⟩ ⟨Nat.zero_le _, Nat.zero_le _⟩ hK hj hw hA hS hl.1 (Nat.le_of_ble_eq_true rfl) dX7_letterBy_151 h (fun r22 s22 H locs h hw hS => ?_)
                exact W.iret (v := r22) hx hb hr (fun t ht hW => ⟨⟨_, _, rfl, h, zend hw ht⟩, hS.F ht⟩) hS.2.2 dX7_letterBy_154
              have h := h.2 c20
              rcases Classical.em (p1 = (jI 4)) with c21 | c21
              · have h := h.1 c21
                refine lv_tableIn (tgt := 146) (off := 87) hx hb dX7_letterBy_59 (by rw [c21]; decide +kernel) (by rw [c21]; decide +kernel) (by rw [c21]; decide +kernel) (by decide) ?_
                refine lv_aload_n hx hb dX7_letterBy_146 rfl (lv_at hl 0 rfl) ?_
                refine lv_iload_n hx hb dX7_letterBy_147 rfl (lv_at hl 1 rfl) ?_
                refine lv_iload_n hx hb dX7_letterBy_148 rfl (lv_at hl 2 rfl) ?_
                refine lv_iconst (v := (jI 2)) hx hb dX7_letterBy_149 rfl ?_
                refine lv_isub hx hb dX7_letterBy_150 ?_
                refine k_X7_of (rest := []) hx hb hml hown hts gX7_letterBy_X7_of ⟨Nat.le_of_ble_eq_true rfl, Nat.le_of_ble_eq_true rfl⟩ ⟨Nat.zero_le _, Nat.zero_le _⟩ hK hj hw hA hS hl.1 (Nat.le_of_ble_eq_true rfl) dX7_letterBy_151 h (fun r23 s23 H locs h hw hS => ?_)
                exact W.iret (v := r23) hx hb hr (fun t ht hW => ⟨⟨_, _, rfl, h, zend hw ht⟩, hS.F ht⟩) hS.2.2 dX7_letterBy_154
              have h := h.2 c21
              rcases Classical.em (p1 = (jI 5)) with c22 | c22
              · have h := h.1 c22
                refine lv_tableIn (tgt := 146) (off := 87) hx hb dX7_letterBy_59 (by rw [c22]; decide +kernel) (by rw [c22]; decide +kernel) (by rw [c22]; decide +kernel) (by decide) ?_
                refine lv_aload_n hx hb dX7_letterBy_146 rfl (lv_at hl 0 rfl) ?_
                refine lv_iload_n hx hb dX7_letterBy_147 rfl (lv_at hl 1 rfl) ?_
                refine lv_iload_n hx hb dX7_letterBy_148 rfl (lv_at hl 2 rfl) ?_
                refine lv_iconst (v := (jI 2)) hx hb dX7_letterBy_149 rfl ?_
                refine lv_isub hx hb dX7_letterBy_150 ?_
                refine k_X7_of (rest := []) hx hb hml hown hts gX7_letterBy_X7_of ⟨Nat.le_of_ble_eq_true rfl, Nat.le_of_ble_eq_true rfl⟩ ⟨Nat.zero_le _, Nat.zero_le _⟩ hK hj hw hA hS hl.1 (Nat.le_of_ble_eq_true rfl) dX7_letterBy_151 h (fun r24 s24 H locs h hw hS => ?_)
                exact W.iret (v := r24) hx hb hr (fun t ht hW => ⟨⟨_, _, rfl, h, zend hw ht⟩, hS.F ht⟩) hS.2.2 dX7_letterBy_154
              have h := h.2 c22
              rcases Classical.em (p1 = (jI 6)) with c23 | c23
              · have h := h.1 c23
                refine lv_tableIn (tgt := 146) (off := 87) hx hb dX7_letterBy_59 (by rw [c23]; decide +kernel) (by rw [c23]; decide +kernel) (by rw [c23]; decide +kernel) (by decide) ?_
                refine lv_aload_n hx hb dX7_letterBy_146 rfl (lv_at hl 0 rfl) ?_
                refine lv_iload_n hx hb dX7_letterBy_147 rfl (lv_at hl 1 rfl) ?_
                refine lv_iload_n hx hb dX7_letterBy_148 rfl (lv_at hl 2 rfl) ?_
                refine lv_iconst (v := (jI 2)) hx hb dX7_letterBy_149 rfl ?_
                refine lv_isub hx hb dX7_letterBy_150 ?_
                refine k_X7_of (rest := []) hx hb hml hown hts gX7_letterBy_X7_of ⟨Nat.le_of_ble_eq_true rfl, Nat.le_of_ble_eq_true rfl⟩ ⟨Nat.zero_le _, Nat.zero_le _⟩ hK hj hw hA hS hl.1 (Nat.le_of_ble_eq_true rfl) dX7_letterBy_151 h (fun r25 s25 H locs h hw hS => ?_)
                exact W.iret (v := r25) hx hb hr (fun t ht hW => ⟨⟨_, _, rfl, h, zend hw ht⟩, hS.F ht⟩) hS.2.2 dX7_letterBy_154
              have h := h.2 c23
              rcases Classical.em (p1 = (jI 7)) with c24 | c24
              · have h := h.1 c24
                refine lv_tableIn (tgt := 146) (off := 87) hx hb dX7_letterBy_59 (by rw [c24]; decide +kernel) (by rw [c24]; decide +kernel) (by rw [c24]; decide +kernel) (by decide) ?_
                refine lv_aload_n hx hb dX7_letterBy_146 rfl (lv_at hl 0 rfl) ?_
                refine lv_iload_n hx hb dX7_letterBy_147 rfl (lv_at hl 1 rfl) ?_
                refine lv_iload_n hx hb dX7_letterBy_148 rfl (lv_at hl 2 rfl) ?_
                refine lv_iconst (v := (jI 2)) hx hb dX7_letterBy_149 rfl ?_
                refine lv_isub hx hb dX7_letterBy_150 ?_
                refine k_X7_of (rest := []) hx hb hml hown hts gX7_letterBy_X7_of ⟨Nat.le_of_ble_eq_true rfl, Nat.le_of_ble_eq_true rfl⟩ ⟨Nat.zero_le _, Nat.zero_le _⟩ hK hj hw hA hS hl.1 (Nat.le_of_ble_eq_true rfl) dX7_letterBy_151 h (fun r26 s26 H locs h hw hS => ?_)
                exact W.iret (v := r26) hx hb hr (fun t ht hW => ⟨⟨_, _, rfl, h, zend hw ht⟩, hS.F ht⟩) hS.2.2 dX7_letterBy_154
              have h := h.2 c24
              rcases Classical.em (p1 = (jI 8)) with c25 | c25
              · have h := h.1 c25
                refine lv_tableIn (tgt := 139) (off := 80) hx hb dX7_letterBy_59 (by rw [c25]; decide +kernel) (by rw [c25]; decide +kernel) (by rw [c25]; decide +kernel) (by decide) ?_
                refine lv_aload_n hx hb dX7_letterBy_139 rfl (lv_at hl 0 rfl) ?_
                refine lv_iload_n hx hb dX7_letterBy_140 rfl (lv_at hl 1 rfl) ?_
                refine lv_iconst (v := (jI 1)) hx hb dX7_letterBy_141 rfl ?_
                refine k_X7_of (rest := []) hx hb hml hown hts gX7_letterBy_X7_of ⟨Nat.le_of_ble_eq_true rfl, Nat.le_of_ble_eq_true rfl⟩ ⟨Nat.zero_le _, Nat.zero_le _⟩ hK hj hw hA hS hl.1 (Nat.le_of_ble_eq_true rfl) dX7_letterBy_142 h (fun r27 s27 H locs h hw hS => ?_)
                exact W.iret (v := r27) hx hb hr (fun t ht hW => ⟨⟨_, _, rfl, h, zend hw ht⟩, hS.F ht⟩) hS.2.2 dX7_letterBy_145
              have h := h.2 c25
              have hsw2 := zsw_out (x := p1) (0) 9 (fun k hk => by
                match k, hk with
                | 0, _ => exact c17
                | 1, _ => exact c18
                | 2, _ => exact c19
                | 3, _ => exact c20
                | 4, _ => exact c21
                | 5, _ => exact c22
                | 6, _ => exact c23
                | 7, _ => exact c24
                | 8, _ => exact c25
                | k + 9, hk => exact absurd hk (by omega))
              refine lv_tableOut (tgt := 146) hx hb dX7_letterBy_59 hsw2 (by decide) ?_
              refine lv_aload_n hx hb dX7_letterBy_146 rfl (lv_at hl 0 rfl) ?_
              refine lv_iload_n hx hb dX7_letterBy_147 rfl (lv_at hl 1 rfl) ?_
              refine lv_iload_n hx hb dX7_letterBy_148 rfl (lv_at hl 2 rfl) ?_
              refine lv_iconst (v := (jI 2)) hx hb dX7_letterBy_149 rfl ?_
              refine lv_isub hx hb dX7_letterBy_150 ?_
              refine k_X7_of (rest := []) hx hb hml hown hts gX7_letterBy_X7_of ⟨Nat.le_of_ble_eq_true rfl, Nat.le_of_ble_eq_true rfl⟩ ⟨Nat.zero_le _, Nat.zero_le _⟩ hK hj hw hA hS hl.1 (Nat.le_of_ble_eq_true rfl) dX7_letterBy_151 h (fun r28 s28 H locs h hw hS => ?_)
              exact W.iret (v := r28) hx hb hr (fun t ht hW => ⟨⟨_, _, rfl, h, zend hw ht⟩, hS.F ht⟩) hS.2.2 dX7_letterBy_154
            · have h := h.1 c16
              refine lv_iconst (v := (jI (-1))) hx hb dX7_letterBy_56 rfl ?_
              exact W.iret (v := (jI (-1))) hx hb hr (fun t ht hW => ⟨⟨_, _, rfl, h, zend hw ht⟩, hS.F ht⟩) hS.2.2 dX7_letterBy_57
    · have h := h.1 c3
      refine lv_iload_n hx hb dX7_letterBy_10 rfl (lv_at hl 2 rfl) ?_
      refine lv_iconst (v := (jI 3)) hx hb dX7_letterBy_11 rfl ?_
      refine lv_icmp_ne (tgt := 23) hx hb dX7_letterBy_12 (by decide) (fun c26 => ?_) (fun c26 => ?_)
      · have h := h.2 c26
        refine lv_aload_n hx hb dX7_letterBy_23 rfl (lv_at hl 0 rfl) ?_
        refine lv_iload_n hx hb dX7_letterBy_24 rfl (lv_at hl 1 rfl) ?_
        refine k_X7_heightOf (rest := []) hx hb hml hown hts gX7_letterBy_X7_heightOf ⟨Nat.le_of_ble_eq_true rfl, Nat.le_of_ble_eq_true rfl⟩ ⟨Nat.zero_le _, Nat.zero_le _⟩ hK hj hw hA hS hl.1 (Nat.le_of_ble_eq_true rfl) dX7_letterBy_25 h (fun r29 s29 H locs h hw hS => ?_)
        exact W.iret (v := r29) hx hb hr (fun t ht hW => ⟨⟨_, _, rfl, h, zend hw ht⟩, hS.F ht⟩) hS.2.2 dX7_letterBy_28
      · have h := h.1 c26
        refine lv_aload_n hx hb dX7_letterBy_15 rfl (lv_at hl 0 rfl) ?_
        refine lv_iload_n hx hb dX7_letterBy_16 rfl (lv_at hl 1 rfl) ?_
        refine k_X7_widthOf (rest := []) hx hb hml hown hts gX7_letterBy_X7_widthOf ⟨Nat.le_of_ble_eq_true rfl, Nat.le_of_ble_eq_true rfl⟩ ⟨Nat.zero_le _, Nat.zero_le _⟩ hK hj hw hA hS hl.1 (Nat.le_of_ble_eq_true rfl) dX7_letterBy_17 h (fun r30 s30 H locs h hw hS => ?_)
        refine lv_goto (tgt := 28) hx hb dX7_letterBy_20 (by decide) ?_
        exact W.iret (v := r30) hx hb hr (fun t ht hW => ⟨⟨_, _, rfl, h, zend hw ht⟩, hS.F ht⟩) hS.2.2 dX7_letterBy_28
theorem k_X7_letterBy {p : Program} {l : Launch} {e : Env} {R : Room} {s : State} {m : MethodId} {args : Array Value} {below : List Frame} {meth : Method} {c : Code} {H : Heap} {locs : List Loc} {cells slots : Nat} {QQ : State → Prop} {cc : ByteArray} {pc nL index : Nat} {ls : Array Slot} {rest : List Value} {D : va_G} {cy : cyT} {ad : Nat → Nat} {own : String} {Ts : List Cond} {H0 : Heap} {σ : ST} {p0 : Int32} {p1 : Int32} {Q : Int32 → ST → Prop} (hx : p.tables.exec = Jvm.exec) (hb : c.code = cc) (hml : c.maxLocals = nL) (hown : s.vm.findClass own = some m.cls) (hts : ∀ w ∈ Ts, w.before args s = true) (hG : GoodIn Ts (wsV own index RX7 yX7_letterBy wsX7_letterBy)) (hR : 2 + 1 ≤ R.frames ∧ 8 + (3 + 11) + 46 ≤ R.locals) (hcs : cells ≤ R.cells ∧ slots ≤ R.slots) (hK : zK D cy s) (hj : zI 6 ad) (hw : zW D 6 (zme cy ad σ) ad H) {A0 : Nat → Prop} (hA : ∀ i, i < 6 → A0 (ad i)) (hS : va_S A0 H0 H locs) (hsz : ls.size = nL) (hrest : (rest.map fun v => v.category).sum ≤ 8) (hdg : decode cc pc = .ok (.invokevirtual index, 3)) (h : wp_X7_letterBy σ p0 p1 Q) (kk : ∀ (r : Int32) (σ : ST) (H : Heap) (locs : List Loc), Q r σ → zW D 6 (zme cy ad σ) ad H → va_S A0 H0 H locs → W p l e R s m args below meth c H locs cells slots QQ (F0 m (pc + 3) ls (.int r :: rest))) : W p l e R s m args below meth c H locs cells slots QQ (F0 m pc ls (.int p1 :: .int p0 :: .ref (ad 0) :: rest)) :=
  zcalli (va_runV (As := [.int p0, .int p1]) (rest := rest) ⟨hx, hb, hml, hown, hts⟩ (c_X7_letterBy l D cy ad σ p0 p1 h) (cwV 2 hts hG rfl rfl rfl (by decide +kernel) hR) (zpreV hj hK hw _ (i := 0) (ci := 6) (by decide) rfl rfl) rfl rfl hsz rfl (lv_room hrest) hdg hcs) hA hS kk
set_option maxHeartbeats 4000000 in
set_option maxRecDepth 100000 in
theorem c_X7_letter (l : Launch) (D : va_G) (cy : cyT) (ad : Nat → Nat) (σ : ST) (p0 : Int32) (p1 : Int32) (p2 : Int32) (p3 : Int32) {Q : Int32 → ST → Prop} (h : wp_X7_letter σ p0 p1 p2 p3 Q) : Met l yX7_letter wsX7_letter ({ frames := 3, cells := 0, slots := 0, locals := 68 } : Room) (zPre D cy 6 (zme cy ad σ) ad [.ref (ad 0), .int p0, .int p1, .int p2, .int p3]) (va_Qi Q (zB D 6 (zme cy ad) ad) (zA 6 ad)) 0 0 (zA 6 ad) := by
  refine Met.ofW (cc := cX7_letter) (maxL := 5) (ret := (some .int)) (by decide) rfl ?_
  intro p e s m args below meth c s₁ B hml hv
  obtain ⟨rfl, hj, hK, hw⟩ := hv
  have hx := B.exec
  have hb := B.bytes
  have hr := B.returns
  have hts := atoms_spec (ws := wsX7_letter) B.pre
  have hown : s.vm.findClass RX7 = some m.cls := findClass_of_methodNamed B.named
  have hlocks := B.notSynchronized
  have lk0 : Cond.fieldLink RX7 26 "TypeTraysModel" "thrown" "I" ∈ wsX7_letter := List.mem_of_getElem? (i := 1) rfl
  have inX7 : ∀ w ∈ u_ws RX7 TX7 16, w ∈ wsX7_letter := zin_at 45 rfl
  have hS : va_S (zA 6 ad) s.heap s.heap [] := va_S.rf
  have hA : ∀ i, i < 6 → zA 6 ad (ad i) := fun i hi => ⟨i, hi, rfl⟩
  have hl := lv_entry ([.ref (ad 0), .int p0, .int p1, .int p2, .int p3]) (n := 5) (Nat.le_of_ble_eq_true rfl)
  rw [lg_entry_eq]
  generalize (lg_sl ([.ref (ad 0), .int p0, .int p1, .int p2, .int p3]) ++ List.replicate (5 - (lg_sl ([.ref (ad 0), .int p0, .int p1, .int p2, .int p3])).length) Slot.unset).toArray = ls at hl ⊢
  have hl : lv_has ls 5 [(0, .ref (ad 0)), (1, .int p0), (2, .int p1), (3, .int p2), (4, .int p3)] := hl
  show W p l e ({ frames := 3, cells := 0, slots := 0, locals := 68 } : Room) s m ([.ref (ad 0), .int p0, .int p1, .int p2, .int p3] : List Value).toArray below meth c s.heap [] 0 0 (MQ below (va_Qi Q (zB D 6 (zme cy ad) ad) (zA 6 ad)) ([.ref (ad 0), .int p0, .int p1, .int p2, .int p3] : List Value).toArray s 0 0 (zA 6 ad)) (F0 m 0 ls [])
  unfold wp_X7_letter at h
  refine lv_aload_n hx hb dX7_letter_0 rfl (lv_at hl 0 rfl) ?_
  refine lv_iload_n hx hb dX7_letter_1 rfl (lv_at hl 1 rfl) ?_
  refine lv_iload_n hx hb dX7_letter_2 rfl (lv_at hl 2 rfl) ?_
  refine lv_iload_n hx hb dX7_letter_3 rfl (lv_at hl 3 rfl) ?_
  refine k_X7_bars (rest := [.ref (ad 0)]) hx hb hml hown hts gX7_letter_X7_bars ⟨Nat.le_of_ble_eq_true rfl, Nat.le_of_ble_eq_true rfl⟩ ⟨Nat.zero_le _, Nat.zero_le _⟩ hK hj hw hA hS hl.1 (Nat.le_of_ble_eq_true rfl) dX7_letter_4 h (fun r1 s1 H locs h hw hS => ?_)
  obtain ⟨s2, es2⟩ : ∃ y : ST, y = zsp s1 1 r1 := ⟨_, rfl⟩
  have h := h s2 es2
  refine zput (ty := .int) hx hb hts inX7 tyX7 tyX7_ok nmX7 hown hK hj hw hA hS 0 (by decide) rfl rfl 3 (by decide) lk0 (fun _ h9 => h9) rfl (by decide +kernel) rfl rfl (Nat.le_of_ble_eq_true rfl) dX7_letter_7 (zme cy ad s2) (by rw [es2]; rfl) (fun j hj9 => by rw [es2]; exact zsp_off_M_1 j hj9) (fun H locs hw hS => ?_)
  refine lv_aload_n hx hb dX7_letter_10 rfl (lv_at hl 0 rfl) ?_
  refine lv_aload_n hx hb dX7_letter_11 rfl (lv_at hl 0 rfl) ?_
  refine zget hx hb hts inX7 hown hK hw 0 (by decide) rfl rfl 3 (by decide) lk0 (fun _ h9 => h9) rfl dX7_letter_12 ?_
  refine zif_ne (tgt := 33) hx hb dX7_letter_15 (by decide) (fun c1 => ?_) (fun c1 => ?_)
  · have h := h.2 c1
    refine lv_aload_n hx hb dX7_letter_33 rfl (lv_at hl 0 rfl) ?_
    refine zget hx hb hts inX7 hown hK hw 0 (by decide) rfl rfl 3 (by decide) lk0 (fun _ h9 => h9) rfl dX7_letter_34 ?_
    obtain ⟨s3, es3⟩ : ∃ y : ST, y = zsp s2 1 (s2.2 1) := ⟨_, rfl⟩
    have h := h s3 es3
    refine zput (ty := .int) hx hb hts inX7 tyX7 tyX7_ok nmX7 hown hK hj hw hA hS 0 (by decide) rfl rfl 3 (by decide) lk0 (fun _ h9 => h9) rfl (by decide +kernel) rfl rfl (Nat.le_of_ble_eq_true rfl) dX7_letter_37 (zme cy ad s3) (by rw [es3]; rfl) (fun j hj9 => by rw [es3]; exact zsp_off_M_1 j hj9) (fun H locs hw hS => ?_)
    refine lv_aload_n hx hb dX7_letter_40 rfl (lv_at hl 0 rfl) ?_
    refine zget hx hb hts inX7 hown hK hw 0 (by decide) rfl rfl 3 (by decide) lk0 (fun _ h9 => h9) rfl dX7_letter_41 ?_
    refine zif_le (tgt := 51) hx hb dX7_letter_44 (by decide) (fun c2 => ?_) (fun c2 => ?_)
    · have h := h.1 c2
      refine lv_aload_n hx hb dX7_letter_51 rfl (lv_at hl 0 rfl) ?_
      refine lv_iload_n hx hb dX7_letter_52 rfl (lv_at hl 1 rfl) ?_
      refine lv_iload_n hx hb dX7_letter_53 rfl (lv_at hl 2 rfl) ?_
      refine lv_iload_n hx hb dX7_letter_54 rfl (lv_at hl 3 rfl) ?_
      refine k_X7_number (rest := [.ref (ad 0)]) hx hb hml hown hts gX7_letter_X7_number ⟨Nat.le_of_ble_eq_true rfl, Nat.le_of_ble_eq_true rfl⟩ ⟨Nat.zero_le _, Nat.zero_le _⟩ hK hj hw hA hS hl.1 (Nat.le_of_ble_eq_true rfl) dX7_letter_55 h (fun r2 s4 H locs h hw hS => ?_)
      refine lv_iload hx hb dX7_letter_58 (lv_at hl 4 rfl) ?_
      refine k_X7_letterBy (rest := []) hx hb hml hown hts gX7_letter_X7_letterBy ⟨Nat.le_of_ble_eq_true rfl, Nat.le_of_ble_eq_true rfl⟩ ⟨Nat.zero_le _, Nat.zero_le _⟩ hK hj hw hA hS hl.1 (Nat.le_of_ble_eq_true rfl) dX7_letter_60 h (fun r3 s5 H locs h hw hS => ?_)
      exact W.iret (v := r3) hx hb hr (fun t ht hW => ⟨⟨_, _, rfl, h, zend hw ht⟩, hS.F ht⟩) hS.2.2 dX7_letter_63
    · have h := h.2 c2
      refine lv_iconst (v := (jI 0)) hx hb dX7_letter_47 rfl ?_
      refine lv_goto (tgt := 63) hx hb dX7_letter_48 (by decide) ?_
      exact W.iret (v := (jI 0)) hx hb hr (fun t ht hW => ⟨⟨_, _, rfl, h, zend hw ht⟩, hS.F ht⟩) hS.2.2 dX7_letter_63
  · have h := h.1 c1
    refine lv_iload hx hb dX7_letter_18 (lv_at hl 4 rfl) ?_
    refine lv_iconst (v := (jI 0)) hx hb dX7_letter_20 rfl ?_
    refine lv_bipush (v := (jI 8)) hx hb dX7_letter_21 (by decide +kernel) ?_
    refine k_X7_in (rest := [.ref (ad 0)]) hx hb hml hown hts gX7_letter_X7_in ⟨Nat.le_of_ble_eq_true rfl, Nat.le_of_ble_eq_true rfl⟩ ⟨Nat.zero_le _, Nat.zero_le _⟩ hK hj hw hA hS hl.1 (Nat.le_of_ble_eq_true rfl) dX7_letter_23 h (fun r4 s6 H locs h hw hS => ?_)
    refine zif_ne (tgt := 33) hx hb dX7_letter_26 (by decide) (fun c3 => ?_) (fun c3 => ?_)
    · have h := h.2 c3
      refine lv_aload_n hx hb dX7_letter_33 rfl (lv_at hl 0 rfl) ?_
      refine zget hx hb hts inX7 hown hK hw 0 (by decide) rfl rfl 3 (by decide) lk0 (fun _ h9 => h9) rfl dX7_letter_34 ?_
      obtain ⟨s7, es7⟩ : ∃ y : ST, y = zsp s6 1 (s6.2 1) := ⟨_, rfl⟩
      have h := h s7 es7
      refine zput (ty := .int) hx hb hts inX7 tyX7 tyX7_ok nmX7 hown hK hj hw hA hS 0 (by decide) rfl rfl 3 (by decide) lk0 (fun _ h9 => h9) rfl (by decide +kernel) rfl rfl (Nat.le_of_ble_eq_true rfl) dX7_letter_37 (zme cy ad s7) (by rw [es7]; rfl) (fun j hj9 => by rw [es7]; exact zsp_off_M_1 j hj9) (fun H locs hw hS => ?_)
      refine lv_aload_n hx hb dX7_letter_40 rfl (lv_at hl 0 rfl) ?_
      refine zget hx hb hts inX7 hown hK hw 0 (by decide) rfl rfl 3 (by decide) lk0 (fun _ h9 => h9) rfl dX7_letter_41 ?_
      refine zif_le (tgt := 51) hx hb dX7_letter_44 (by decide) (fun c4 => ?_) (fun c4 => ?_)
      · have h := h.1 c4
        refine lv_aload_n hx hb dX7_letter_51 rfl (lv_at hl 0 rfl) ?_
        refine lv_iload_n hx hb dX7_letter_52 rfl (lv_at hl 1 rfl) ?_
        refine lv_iload_n hx hb dX7_letter_53 rfl (lv_at hl 2 rfl) ?_
        refine lv_iload_n hx hb dX7_letter_54 rfl (lv_at hl 3 rfl) ?_
        refine k_X7_number (rest := [.ref (ad 0)]) hx hb hml hown hts gX7_letter_X7_number ⟨Nat.le_of_ble_eq_true rfl, Nat.le_of_ble_eq_true rfl⟩ ⟨Nat.zero_le _, Nat.zero_le _⟩ hK hj hw hA hS hl.1 (Nat.le_of_ble_eq_true rfl) dX7_letter_55 h (fun r5 s8 H locs h hw hS => ?_)
        refine lv_iload hx hb dX7_letter_58 (lv_at hl 4 rfl) ?_
        refine k_X7_letterBy (rest := []) hx hb hml hown hts gX7_letter_X7_letterBy ⟨Nat.le_of_ble_eq_true rfl, Nat.le_of_ble_eq_true rfl⟩ ⟨Nat.zero_le _, Nat.zero_le _⟩ hK hj hw hA hS hl.1 (Nat.le_of_ble_eq_true rfl) dX7_letter_60 h (fun r6 s9 H locs h hw hS => ?_)
        exact W.iret (v := r6) hx hb hr (fun t ht hW => ⟨⟨_, _, rfl, h, zend hw ht⟩, hS.F ht⟩) hS.2.2 dX7_letter_63
      · have h := h.2 c4
        refine lv_iconst (v := (jI 0)) hx hb dX7_letter_47 rfl ?_
        refine lv_goto (tgt := 63) hx hb dX7_letter_48 (by decide) ?_
        exact W.iret (v := (jI 0)) hx hb hr (fun t ht hW => ⟨⟨_, _, rfl, h, zend hw ht⟩, hS.F ht⟩) hS.2.2 dX7_letter_63
    · have h := h.1 c3
      refine lv_iconst (v := (jI 2)) hx hb dX7_letter_29 rfl ?_
      refine lv_goto (tgt := 37) hx hb dX7_letter_30 (by decide) ?_
      obtain ⟨s10, es10⟩ : ∃ y : ST, y = zsp s6 1 (jI 2) := ⟨_, rfl⟩
      have h := h s10 es10
      refine zput (ty := .int) hx hb hts inX7 tyX7 tyX7_ok nmX7 hown hK hj hw hA hS 0 (by decide) rfl rfl 3 (by decide) lk0 (fun _ h9 => h9) rfl (by decide +kernel) rfl rfl (Nat.le_of_ble_eq_true rfl) dX7_letter_37 (zme cy ad s10) (by rw [es10]; rfl) (fun j hj9 => by rw [es10]; exact zsp_off_M_1 j hj9) (fun H locs hw hS => ?_)
      refine lv_aload_n hx hb dX7_letter_40 rfl (lv_at hl 0 rfl) ?_
      refine zget hx hb hts inX7 hown hK hw 0 (by decide) rfl rfl 3 (by decide) lk0 (fun _ h9 => h9) rfl dX7_letter_41 ?_
      refine zif_le (tgt := 51) hx hb dX7_letter_44 (by decide) (fun c5 => ?_) (fun c5 => ?_)
      · have h := h.1 c5
        refine lv_aload_n hx hb dX7_letter_51 rfl (lv_at hl 0 rfl) ?_
        refine lv_iload_n hx hb dX7_letter_52 rfl (lv_at hl 1 rfl) ?_
        refine lv_iload_n hx hb dX7_letter_53 rfl (lv_at hl 2 rfl) ?_
        refine lv_iload_n hx hb dX7_letter_54 rfl (lv_at hl 3 rfl) ?_
        refine k_X7_number (rest := [.ref (ad 0)]) hx hb hml hown hts gX7_letter_X7_number ⟨Nat.le_of_ble_eq_true rfl, Nat.le_of_ble_eq_true rfl⟩ ⟨Nat.zero_le _, Nat.zero_le _⟩ hK hj hw hA hS hl.1 (Nat.le_of_ble_eq_true rfl) dX7_letter_55 h (fun r7 s11 H locs h hw hS => ?_)
        refine lv_iload hx hb dX7_letter_58 (lv_at hl 4 rfl) ?_
        refine k_X7_letterBy (rest := []) hx hb hml hown hts gX7_letter_X7_letterBy ⟨Nat.le_of_ble_eq_true rfl, Nat.le_of_ble_eq_true rfl⟩ ⟨Nat.zero_le _, Nat.zero_le _⟩ hK hj hw hA hS hl.1 (Nat.le_of_ble_eq_true rfl) dX7_letter_60 h (fun r8 s12 H locs h hw hS => ?_)
        exact W.iret (v := r8) hx hb hr (fun t ht hW => ⟨⟨_, _, rfl, h, zend hw ht⟩, hS.F ht⟩) hS.2.2 dX7_letter_63
      · have h := h.2 c5
        refine lv_iconst (v := (jI 0)) hx hb dX7_letter_47 rfl ?_
        refine lv_goto (tgt := 63) hx hb dX7_letter_48 (by decide) ?_
        exact W.iret (v := (jI 0)) hx hb hr (fun t ht hW => ⟨⟨_, _, rfl, h, zend hw ht⟩, hS.F ht⟩) hS.2.2 dX7_letter_63
theorem k_X7_letter {p : Program} {l : Launch} {e : Env} {R : Room} {s : State} {m : MethodId} {args : Array Value} {below : List Frame} {meth : Method} {c : Code} {H : Heap} {locs : List Loc} {cells slots : Nat} {QQ : State → Prop} {cc : ByteArray} {pc nL index : Nat} {ls : Array Slot} {rest : List Value} {D : va_G} {cy : cyT} {ad : Nat → Nat} {own : String} {Ts : List Cond} {H0 : Heap} {σ : ST} {p0 : Int32} {p1 : Int32} {p2 : Int32} {p3 : Int32} {Q : Int32 → ST → Prop} (hx : p.tables.exec = Jvm.exec) (hb : c.code = cc) (hml : c.maxLocals = nL) (hown : s.vm.findClass own = some m.cls) (hts : ∀ w ∈ Ts, w.before args s = true) (hG : GoodIn Ts (wsV own index RX7 yX7_letter wsX7_letter)) (hR : 3 + 1 ≤ R.frames ∧ 8 + (5 + 11) + 68 ≤ R.locals) (hcs : cells ≤ R.cells ∧ slots ≤ R.slots) (hK : zK D cy s) (hj : zI 6 ad) (hw : zW D 6 (zme cy ad σ) ad H) {A0 : Nat → Prop} (hA : ∀ i, i < 6 → A0 (ad i)) (hS : va_S A0 H0 H locs) (hsz : ls.size = nL) (hrest : (rest.map fun v => v.category).sum ≤ 8) (hdg : decode cc pc = .ok (.invokevirtual index, 3)) (h : wp_X7_letter σ p0 p1 p2 p3 Q) (kk : ∀ (r : Int32) (σ : ST) (H : Heap) (locs : List Loc), Q r σ → zW D 6 (zme cy ad σ) ad H → va_S A0 H0 H locs → W p l e R s m args below meth c H locs cells slots QQ (F0 m (pc + 3) ls (.int r :: rest))) : W p l e R s m args below meth c H locs cells slots QQ (F0 m pc ls (.int p3 :: .int p2 :: .int p1 :: .int p0 :: .ref (ad 0) :: rest)) :=
  zcalli (va_runV (As := [.int p0, .int p1, .int p2, .int p3]) (rest := rest) ⟨hx, hb, hml, hown, hts⟩ (c_X7_letter l D cy ad σ p0 p1 p2 p3 h) (cwV 4 hts hG rfl rfl rfl (by decide +kernel) hR) (zpreV hj hK hw _ (i := 0) (ci := 6) (by decide) rfl rfl) rfl rfl hsz rfl (lv_room hrest) hdg hcs) hA hS kk
set_option maxHeartbeats 4000000 in
set_option maxRecDepth 100000 in
theorem c_X7_signBy (l : Launch) (D : va_G) (cy : cyT) (ad : Nat → Nat) (σ : ST) (p0 : Int32) (p1 : Int32) {Q : Int32 → ST → Prop} (h : wp_X7_signBy σ p0 p1 Q) : Met l yX7_signBy wsX7_signBy ({ frames := 2, cells := 0, slots := 0, locals := 43 } : Room) (zPre D cy 6 (zme cy ad σ) ad [.ref (ad 0), .int p0, .int p1]) (va_Qi Q (zB D 6 (zme cy ad) ad) (zA 6 ad)) 0 0 (zA 6 ad) := by
  refine Met.ofW (cc := cX7_signBy) (maxL := 5) (ret := (some .int)) (by decide) rfl ?_
  intro p e s m args below meth c s₁ B hml hv
  obtain ⟨rfl, hj, hK, hw⟩ := hv
  have hx := B.exec
  have hb := B.bytes
  have hr := B.returns
  have hts := atoms_spec (ws := wsX7_signBy) B.pre
  have hown : s.vm.findClass RX7 = some m.cls := findClass_of_methodNamed B.named
  have hlocks := B.notSynchronized
  have lk0 : Cond.fieldLink RX7 7 "TypeTraysModel" "w" "[I" ∈ wsX7_signBy := List.mem_of_getElem? (i := 1) rfl
  have inX7 : ∀ w ∈ u_ws RX7 TX7 16, w ∈ wsX7_signBy := zin_at 18 rfl
  have hS : va_S (zA 6 ad) s.heap s.heap [] := va_S.rf
  have hA : ∀ i, i < 6 → zA 6 ad (ad i) := fun i hi => ⟨i, hi, rfl⟩
  have hl := lv_entry ([.ref (ad 0), .int p0, .int p1]) (n := 5) (Nat.le_of_ble_eq_true rfl)
  rw [lg_entry_eq]
  generalize (lg_sl ([.ref (ad 0), .int p0, .int p1]) ++ List.replicate (5 - (lg_sl ([.ref (ad 0), .int p0, .int p1])).length) Slot.unset).toArray = ls at hl ⊢
  have hl : lv_has ls 5 [(0, .ref (ad 0)), (1, .int p0), (2, .int p1)] := hl
  show W p l e ({ frames := 2, cells := 0, slots := 0, locals := 43 } : Room) s m ([.ref (ad 0), .int p0, .int p1] : List Value).toArray below meth c s.heap [] 0 0 (MQ below (va_Qi Q (zB D 6 (zme cy ad) ad) (zA 6 ad)) ([.ref (ad 0), .int p0, .int p1] : List Value).toArray s 0 0 (zA 6 ad)) (F0 m 0 ls [])
  unfold wp_X7_signBy at h
  refine lv_iload_n hx hb dX7_signBy_0 rfl (lv_at hl 2 rfl) ?_
  refine lv_iconst (v := (jI 2)) hx hb dX7_signBy_1 rfl ?_
  refine lv_icmp_ge (tgt := 24) hx hb dX7_signBy_2 (by decide) (fun c1 => ?_) (fun c1 => ?_)
  · have h := h.1 c1
    refine lv_iconst (v := (jI 0)) hx hb dX7_signBy_24 rfl ?_
    refine lv_istore_n (lv' := [(3, .int (jI 0)), (0, .ref (ad 0)), (1, .int p0), (2, .int p1)]) hx hb dX7_signBy_25 rfl hl (by decide) rfl (fun ls hl => ?_)
    refine lv_bipush (v := (jI 9)) hx hb dX7_signBy_26 (by decide +kernel) ?_
    refine lv_iload_n hx hb dX7_signBy_28 rfl (lv_at hl 2 rfl) ?_
    refine lv_imul hx hb dX7_signBy_29 ?_
    refine lv_topi (fun x1 ex1 => ?_)
    have h := h x1 ex1
    refine lv_istore (lv' := [(4, .int x1), (3, .int (jI 0)), (0, .ref (ad 0)), (1, .int p0), (2, .int p1)]) hx hb dX7_signBy_30 hl (by decide) rfl (fun ls hl => ?_)
    have k86_32 : ∀ (u_86 : ST) (z3_86 : Int32) (H : Heap) (locs : List Loc), Q z3_86 u_86 → zW D 6 (zme cy ad u_86) ad H → va_S (zA 6 ad) s.heap H locs → ∀ ls : Array Slot, lv_has ls 5 [(3, .int z3_86)] → W p l e ({ frames := 2, cells := 0, slots := 0, locals := 43 } : Room) s m ([.ref (ad 0), .int p0, .int p1] : List Value).toArray below meth c H locs 0 0 (MQ below (va_Qi Q (zB D 6 (zme cy ad) ad) (zA 6 ad)) ([.ref (ad 0), .int p0, .int p1] : List Value).toArray s 0 0 (zA 6 ad)) (F0 m 86 ls []) := by
      intro u_86 z3_86 H locs h hw hS ls hl
      refine lv_iload_n hx hb dX7_signBy_86 rfl (lv_at hl 0 rfl) ?_
      exact W.iret (v := z3_86) hx hb hr (fun t ht hW => ⟨⟨_, _, rfl, h, zend hw ht⟩, hS.F ht⟩) hS.2.2 dX7_signBy_87
    have lp32 : ∀ (nn32 : Nat) (t_32 : ST) (y3_32 : Int32) (y4_32 : Int32) (H : Heap) (locs : List Loc), wl_X7_signBy_32 (fun u_86 z3_86 => Q z3_86 u_86) p0 p1 nn32 t_32 y3_32 y4_32 → zW D 6 (zme cy ad t_32) ad H → va_S (zA 6 ad) s.heap H locs → ∀ ls : Array Slot, lv_has ls 5 [(0, .ref (ad 0)), (1, .int p0), (2, .int p1), (3, .int y3_32), (4, .int y4_32)] → W p l e ({ frames := 2, cells := 0, slots := 0, locals := 43 } : Room) s m ([.ref (ad 0), .int p0, .int p1] : List Value).toArray below meth c H locs 0 0 (MQ below (va_Qi Q (zB D 6 (zme cy ad) ad) (zA 6 ad)) ([.ref (ad 0), .int p0, .int p1] : List Value).toArray s 0 0 (zA 6 ad)) (F0 m 32 ls []) := by
      intro nn32
      induction nn32 with
      | zero => intro _ _ _ _ _ h; exact h.elim
      | succ nn32 ih32 =>
        intro t_32 y3_32 y4_32 H locs h hw hS ls hl
        simp only [wl_X7_signBy_32, wb_X7_signBy_32] at h
        refine lv_iload hx hb dX7_signBy_32 (lv_at hl 4 rfl) ?_
        refine lv_bipush (v := (jI 9)) hx hb dX7_signBy_34 (by decide +kernel) ?_
        refine lv_iload_n hx hb dX7_signBy_36 rfl (lv_at hl 1 rfl) ?_
        refine lv_imul hx hb dX7_signBy_37 ?_
        refine lv_bipush (v := (jI 9)) hx hb dX7_signBy_38 (by decide +kernel) ?_
        refine lv_iadd hx hb dX7_signBy_40 ?_
        refine lv_icmp_ge (tgt := 86) hx hb dX7_signBy_41 (by decide) (fun c2 => ?_) (fun c2 => ?_)
        · have h := h.1 c2
          exact k86_32 _ _ _ _ h hw hS _ (lv_sub hl [3] rfl)
        · have h := h.2 c2
          refine lv_iload_n hx hb dX7_signBy_44 rfl (lv_at hl 3 rfl) ?_
          refine lv_aload_n hx hb dX7_signBy_45 rfl (lv_at hl 0 rfl) ?_
          refine lv_iload hx hb dX7_signBy_46 (lv_at hl 4 rfl) ?_
          refine k_X7_is (rest := [.int y3_32]) hx hb hml hown hts gX7_signBy_X7_is ⟨Nat.le_of_ble_eq_true rfl, Nat.le_of_ble_eq_true rfl⟩ ⟨Nat.zero_le _, Nat.zero_le _⟩ hK hj hw hA hS hl.1 (Nat.le_of_ble_eq_true rfl) dX7_signBy_48 h (fun r1 s1 H locs h hw hS => ?_)
          refine zif_eq (tgt := 77) hx hb dX7_signBy_51 (by decide) (fun c3 => ?_) (fun c3 => ?_)
          · have h := h.1 c3
            refine lv_iconst (v := (jI 0)) hx hb dX7_signBy_77 rfl ?_
            refine lv_iadd hx hb dX7_signBy_78 ?_
            refine lv_topi (fun x2 ex2 => ?_)
            have h := h x2 ex2
            refine lv_istore_n (lv' := [(3, .int x2), (0, .ref (ad 0)), (1, .int p0), (2, .int p1), (4, .int y4_32)]) hx hb dX7_signBy_79 rfl hl (by decide) rfl (fun ls hl => ?_)
            obtain ⟨x3, ex3⟩ : ∃ y : Int32, y = y4_32 + (jI 1) := ⟨_, rfl⟩
            have h := h x3 ex3
            refine lv_iinc (v := x3) (lv' := [(4, .int x3), (3, .int x2), (0, .ref (ad 0)), (1, .int p0), (2, .int p1)]) hx hb dX7_signBy_80 hl (k := 4) rfl (by rw [ex3]; rfl) (by decide) rfl (fun ls hl => ?_)
            refine lv_goto (tgt := 32) hx hb dX7_signBy_83 (by decide) ?_
            exact ih32 _ _ _ _ _ h hw hS _ (lv_sub hl [2, 3, 4, 1, 0] rfl)
          · have h := h.2 c3
            refine lv_aload_n hx hb dX7_signBy_54 rfl (lv_at hl 0 rfl) ?_
            refine lv_iload hx hb dX7_signBy_55 (lv_at hl 4 rfl) ?_
            refine k_X7_isLaid (rest := [.int y3_32]) hx hb hml hown hts gX7_signBy_X7_isLaid ⟨Nat.le_of_ble_eq_true rfl, Nat.le_of_ble_eq_true rfl⟩ ⟨Nat.zero_le _, Nat.zero_le _⟩ hK hj hw hA hS hl.1 (Nat.le_of_ble_eq_true rfl) dX7_signBy_57 h (fun r2 s2 H locs h hw hS => ?_)
            refine lv_iload_n hx hb dX7_signBy_60 rfl (lv_at hl 2 rfl) ?_
            refine lv_iconst (v := (jI 2)) hx hb dX7_signBy_61 rfl ?_
            refine lv_icmp_ne (tgt := 69) hx hb dX7_signBy_62 (by decide) (fun c4 => ?_) (fun c4 => ?_)
            · have h := h.2 c4
              refine lv_iconst (v := (jI 0)) hx hb dX7_signBy_69 rfl ?_
              refine lv_icmp_ne (tgt := 77) hx hb dX7_signBy_70 (by decide) (fun c5 => ?_) (fun c5 => ?_)
              · have h := h.2 c5
                refine lv_iconst (v := (jI 0)) hx hb dX7_signBy_77 rfl ?_
                refine lv_iadd hx hb dX7_signBy_78 ?_
                refine lv_topi (fun x4 ex4 => ?_)
                have h := h x4 ex4
                refine lv_istore_n (lv' := [(3, .int x4), (0, .ref (ad 0)), (1, .int p0), (2, .int p1), (4, .int y4_32)]) hx hb dX7_signBy_79 rfl hl (by decide) rfl (fun ls hl => ?_)
                obtain ⟨x5, ex5⟩ : ∃ y : Int32, y = y4_32 + (jI 1) := ⟨_, rfl⟩
                have h := h x5 ex5
                refine lv_iinc (v := x5) (lv' := [(4, .int x5), (3, .int x4), (0, .ref (ad 0)), (1, .int p0), (2, .int p1)]) hx hb dX7_signBy_80 hl (k := 4) rfl (by rw [ex5]; rfl) (by decide) rfl (fun ls hl => ?_)
                refine lv_goto (tgt := 32) hx hb dX7_signBy_83 (by decide) ?_
                exact ih32 _ _ _ _ _ h hw hS _ (lv_sub hl [2, 3, 4, 1, 0] rfl)
              · have h := h.1 c5
                refine lv_iconst (v := (jI 1)) hx hb dX7_signBy_73 rfl ?_
                refine lv_goto (tgt := 78) hx hb dX7_signBy_74 (by decide) ?_
                refine lv_iadd hx hb dX7_signBy_78 ?_
                refine lv_topi (fun x6 ex6 => ?_)
                have h := h x6 ex6
                refine lv_istore_n (lv' := [(3, .int x6), (0, .ref (ad 0)), (1, .int p0), (2, .int p1), (4, .int y4_32)]) hx hb dX7_signBy_79 rfl hl (by decide) rfl (fun ls hl => ?_)
                obtain ⟨x7, ex7⟩ : ∃ y : Int32, y = y4_32 + (jI 1) := ⟨_, rfl⟩
                have h := h x7 ex7
                refine lv_iinc (v := x7) (lv' := [(4, .int x7), (3, .int x6), (0, .ref (ad 0)), (1, .int p0), (2, .int p1)]) hx hb dX7_signBy_80 hl (k := 4) rfl (by rw [ex7]; rfl) (by decide) rfl (fun ls hl => ?_)
                refine lv_goto (tgt := 32) hx hb dX7_signBy_83 (by decide) ?_
                exact ih32 _ _ _ _ _ h hw hS _ (lv_sub hl [2, 3, 4, 1, 0] rfl)
            · have h := h.1 c4
              refine lv_iconst (v := (jI 1)) hx hb dX7_signBy_65 rfl ?_
              refine lv_goto (tgt := 70) hx hb dX7_signBy_66 (by decide) ?_
              refine lv_icmp_ne (tgt := 77) hx hb dX7_signBy_70 (by decide) (fun c6 => ?_) (fun c6 => ?_)
              · have h := h.2 c6
                refine lv_iconst (v := (jI 0)) hx hb dX7_signBy_77 rfl ?_
                refine lv_iadd hx hb dX7_signBy_78 ?_
                refine lv_topi (fun x8 ex8 => ?_)
                have h := h x8 ex8
                refine lv_istore_n (lv' := [(3, .int x8), (0, .ref (ad 0)), (1, .int p0), (2, .int p1), (4, .int y4_32)]) hx hb dX7_signBy_79 rfl hl (by decide) rfl (fun ls hl => ?_)
                obtain ⟨x9, ex9⟩ : ∃ y : Int32, y = y4_32 + (jI 1) := ⟨_, rfl⟩
                have h := h x9 ex9
                refine lv_iinc (v := x9) (lv' := [(4, .int x9), (3, .int x8), (0, .ref (ad 0)), (1, .int p0), (2, .int p1)]) hx hb dX7_signBy_80 hl (k := 4) rfl (by rw [ex9]; rfl) (by decide) rfl (fun ls hl => ?_)
                refine lv_goto (tgt := 32) hx hb dX7_signBy_83 (by decide) ?_
                exact ih32 _ _ _ _ _ h hw hS _ (lv_sub hl [2, 3, 4, 1, 0] rfl)
              · have h := h.1 c6
                refine lv_iconst (v := (jI 1)) hx hb dX7_signBy_73 rfl ?_
                refine lv_goto (tgt := 78) hx hb dX7_signBy_74 (by decide) ?_
                refine lv_iadd hx hb dX7_signBy_78 ?_
                refine lv_topi (fun x10 ex10 => ?_)
                have h := h x10 ex10
                refine lv_istore_n (lv' := [(3, .int x10), (0, .ref (ad 0)), (1, .int p0), (2, .int p1), (4, .int y4_32)]) hx hb dX7_signBy_79 rfl hl (by decide) rfl (fun ls hl => ?_)
                obtain ⟨x11, ex11⟩ : ∃ y : Int32, y = y4_32 + (jI 1) := ⟨_, rfl⟩
                have h := h x11 ex11
                refine lv_iinc (v := x11) (lv' := [(4, .int x11), (3, .int x10), (0, .ref (ad 0)), (1, .int p0), (2, .int p1)]) hx hb dX7_signBy_80 hl (k := 4) rfl (by rw [ex11]; rfl) (by decide) rfl (fun ls hl => ?_)
                refine lv_goto (tgt := 32) hx hb dX7_signBy_83 (by decide) ?_
                exact ih32 _ _ _ _ _ h hw hS _ (lv_sub hl [2, 3, 4, 1, 0] rfl)
    obtain ⟨nn32, h⟩ := h
    exact lp32 nn32 _ _ _ _ _ h hw hS _ (lv_sub hl [2, 3, 4, 1, 0] rfl)
  · have h := h.2 c1
    refine lv_aload_n hx hb dX7_signBy_5 rfl (lv_at hl 0 rfl) ?_
    refine zget hx hb hts inX7 hown hK hw 0 (by decide) rfl rfl 0 (by decide) lk0 (fun _ h9 => h9) rfl dX7_signBy_6 ?_
    refine lv_iload_n hx hb dX7_signBy_9 rfl (lv_at hl 2 rfl) ?_
    refine zif_ne (tgt := 18) hx hb dX7_signBy_10 (by decide) (fun c7 => ?_) (fun c7 => ?_)
    · have h := h.2 c7
      refine lv_bipush (v := (jI 28)) hx hb dX7_signBy_18 (by decide +kernel) ?_
      refine lv_iload_n hx hb dX7_signBy_20 rfl (lv_at hl 1 rfl) ?_
      refine lv_iadd hx hb dX7_signBy_21 ?_
      refine ziald hx hb hK hw 1 (by decide) rfl h.1 dX7_signBy_22 ?_
      refine lv_topi (fun v1 ev1 => ?_)
      have h := h.2 v1 ev1
      exact W.iret (v := v1) hx hb hr (fun t ht hW => ⟨⟨_, _, rfl, h, zend hw ht⟩, hS.F ht⟩) hS.2.2 dX7_signBy_23
    · have h := h.1 c7
      refine lv_bipush (v := (jI 12)) hx hb dX7_signBy_13 (by decide +kernel) ?_
      refine lv_goto (tgt := 20) hx hb dX7_signBy_15 (by decide) ?_
      refine lv_iload_n hx hb dX7_signBy_20 rfl (lv_at hl 1 rfl) ?_
      refine lv_iadd hx hb dX7_signBy_21 ?_
      refine ziald hx hb hK hw 1 (by decide) rfl h.1 dX7_signBy_22 ?_
      refine lv_topi (fun v2 ev2 => ?_)
      have h := h.2 v2 ev2
      exact W.iret (v := v2) hx hb hr (fun t ht hW => ⟨⟨_, _, rfl, h, zend hw ht⟩, hS.F ht⟩) hS.2.2 dX7_signBy_23
theorem k_X7_signBy {p : Program} {l : Launch} {e : Env} {R : Room} {s : State} {m : MethodId} {args : Array Value} {below : List Frame} {meth : Method} {c : Code} {H : Heap} {locs : List Loc} {cells slots : Nat} {QQ : State → Prop} {cc : ByteArray} {pc nL index : Nat} {ls : Array Slot} {rest : List Value} {D : va_G} {cy : cyT} {ad : Nat → Nat} {own : String} {Ts : List Cond} {H0 : Heap} {σ : ST} {p0 : Int32} {p1 : Int32} {Q : Int32 → ST → Prop} (hx : p.tables.exec = Jvm.exec) (hb : c.code = cc) (hml : c.maxLocals = nL) (hown : s.vm.findClass own = some m.cls) (hts : ∀ w ∈ Ts, w.before args s = true) (hG : GoodIn Ts (wsV own index RX7 yX7_signBy wsX7_signBy)) (hR : 2 + 1 ≤ R.frames ∧ 8 + (5 + 11) + 43 ≤ R.locals) (hcs : cells ≤ R.cells ∧ slots ≤ R.slots) (hK : zK D cy s) (hj : zI 6 ad) (hw : zW D 6 (zme cy ad σ) ad H) {A0 : Nat → Prop} (hA : ∀ i, i < 6 → A0 (ad i)) (hS : va_S A0 H0 H locs) (hsz : ls.size = nL) (hrest : (rest.map fun v => v.category).sum ≤ 8) (hdg : decode cc pc = .ok (.invokevirtual index, 3)) (h : wp_X7_signBy σ p0 p1 Q) (kk : ∀ (r : Int32) (σ : ST) (H : Heap) (locs : List Loc), Q r σ → zW D 6 (zme cy ad σ) ad H → va_S A0 H0 H locs → W p l e R s m args below meth c H locs cells slots QQ (F0 m (pc + 3) ls (.int r :: rest))) : W p l e R s m args below meth c H locs cells slots QQ (F0 m pc ls (.int p1 :: .int p0 :: .ref (ad 0) :: rest)) :=
  zcalli (va_runV (As := [.int p0, .int p1]) (rest := rest) ⟨hx, hb, hml, hown, hts⟩ (c_X7_signBy l D cy ad σ p0 p1 h) (cwV 2 hts hG rfl rfl rfl (by decide +kernel) hR) (zpreV hj hK hw _ (i := 0) (ci := 6) (by decide) rfl rfl) rfl rfl hsz rfl (lv_room hrest) hdg hcs) hA hS kk
set_option maxHeartbeats 4000000 in
set_option maxRecDepth 100000 in
theorem c_X7_sign (l : Launch) (D : va_G) (cy : cyT) (ad : Nat → Nat) (σ : ST) (p0 : Int32) (p1 : Int32) {Q : Int32 → ST → Prop} (h : wp_X7_sign σ p0 p1 Q) : Met l yX7_sign wsX7_sign ({ frames := 3, cells := 0, slots := 0, locals := 67 } : Room) (zPre D cy 6 (zme cy ad σ) ad [.ref (ad 0), .int p0, .int p1]) (va_Qi Q (zB D 6 (zme cy ad) ad) (zA 6 ad)) 0 0 (zA 6 ad) := by
  refine Met.ofW (cc := cX7_sign) (maxL := 3) (ret := (some .int)) (by decide) rfl ?_
  intro p e s m args below meth c s₁ B hml hv
  obtain ⟨rfl, hj, hK, hw⟩ := hv
  have hx := B.exec
  have hb := B.bytes
  have hr := B.returns
  have hts := atoms_spec (ws := wsX7_sign) B.pre
  have hown : s.vm.findClass RX7 = some m.cls := findClass_of_methodNamed B.named
  have hlocks := B.notSynchronized
  have lk0 : Cond.fieldLink RX7 26 "TypeTraysModel" "thrown" "I" ∈ wsX7_sign := List.mem_of_getElem? (i := 1) rfl
  have inX7 : ∀ w ∈ u_ws RX7 TX7 16, w ∈ wsX7_sign := zin_at 23 rfl
  have hS : va_S (zA 6 ad) s.heap s.heap [] := va_S.rf
  have hA : ∀ i, i < 6 → zA 6 ad (ad i) := fun i hi => ⟨i, hi, rfl⟩
  have hl := lv_entry ([.ref (ad 0), .int p0, .int p1]) (n := 3) (Nat.le_of_ble_eq_true rfl)
  rw [lg_entry_eq]
  generalize (lg_sl ([.ref (ad 0), .int p0, .int p1]) ++ List.replicate (3 - (lg_sl ([.ref (ad 0), .int p0, .int p1])).length) Slot.unset).toArray = ls at hl ⊢
  have hl : lv_has ls 3 [(0, .ref (ad 0)), (1, .int p0), (2, .int p1)] := hl
  show W p l e ({ frames := 3, cells := 0, slots := 0, locals := 67 } : Room) s m ([.ref (ad 0), .int p0, .int p1] : List Value).toArray below meth c s.heap [] 0 0 (MQ below (va_Qi Q (zB D 6 (zme cy ad) ad) (zA 6 ad)) ([.ref (ad 0), .int p0, .int p1] : List Value).toArray s 0 0 (zA 6 ad)) (F0 m 0 ls [])
  unfold wp_X7_sign at h
  refine lv_aload_n hx hb dX7_sign_0 rfl (lv_at hl 0 rfl) ?_
  refine lv_iload_n hx hb dX7_sign_1 rfl (lv_at hl 1 rfl) ?_
  refine lv_iconst (v := (jI 0)) hx hb dX7_sign_2 rfl ?_
  refine lv_bipush (v := (jI 15)) hx hb dX7_sign_3 (by decide +kernel) ?_
  refine k_X7_in (rest := [.ref (ad 0)]) hx hb hml hown hts gX7_sign_X7_in ⟨Nat.le_of_ble_eq_true rfl, Nat.le_of_ble_eq_true rfl⟩ ⟨Nat.zero_le _, Nat.zero_le _⟩ hK hj hw hA hS hl.1 (Nat.le_of_ble_eq_true rfl) dX7_sign_5 h (fun r1 s1 H locs h hw hS => ?_)
  refine zif_ne (tgt := 15) hx hb dX7_sign_8 (by decide) (fun c1 => ?_) (fun c1 => ?_)
  · have h := h.2 c1
    refine lv_iload_n hx hb dX7_sign_15 rfl (lv_at hl 2 rfl) ?_
    refine lv_iconst (v := (jI 0)) hx hb dX7_sign_16 rfl ?_
    refine lv_iconst (v := (jI 3)) hx hb dX7_sign_17 rfl ?_
    refine k_X7_in (rest := [.ref (ad 0)]) hx hb hml hown hts gX7_sign_X7_in ⟨Nat.le_of_ble_eq_true rfl, Nat.le_of_ble_eq_true rfl⟩ ⟨Nat.zero_le _, Nat.zero_le _⟩ hK hj hw hA hS hl.1 (Nat.le_of_ble_eq_true rfl) dX7_sign_18 h (fun r2 s2 H locs h hw hS => ?_)
    refine zif_ne (tgt := 28) hx hb dX7_sign_21 (by decide) (fun c2 => ?_) (fun c2 => ?_)
    · have h := h.2 c2
      refine lv_iconst (v := (jI 0)) hx hb dX7_sign_28 rfl ?_
      obtain ⟨s3, es3⟩ : ∃ y : ST, y = zsp s2 1 (jI 0) := ⟨_, rfl⟩
      have h := h s3 es3
      refine zput (ty := .int) hx hb hts inX7 tyX7 tyX7_ok nmX7 hown hK hj hw hA hS 0 (by decide) rfl rfl 3 (by decide) lk0 (fun _ h9 => h9) rfl (by decide +kernel) rfl rfl (Nat.le_of_ble_eq_true rfl) dX7_sign_29 (zme cy ad s3) (by rw [es3]; rfl) (fun j hj9 => by rw [es3]; exact zsp_off_M_1 j hj9) (fun H locs hw hS => ?_)
      refine lv_aload_n hx hb dX7_sign_32 rfl (lv_at hl 0 rfl) ?_
      refine zget hx hb hts inX7 hown hK hw 0 (by decide) rfl rfl 3 (by decide) lk0 (fun _ h9 => h9) rfl dX7_sign_33 ?_
      refine zif_le (tgt := 43) hx hb dX7_sign_36 (by decide) (fun c3 => ?_) (fun c3 => ?_)
      · have h := h.1 c3
        refine lv_aload_n hx hb dX7_sign_43 rfl (lv_at hl 0 rfl) ?_
        refine lv_iload_n hx hb dX7_sign_44 rfl (lv_at hl 1 rfl) ?_
        refine lv_iload_n hx hb dX7_sign_45 rfl (lv_at hl 2 rfl) ?_
        refine k_X7_signBy (rest := []) hx hb hml hown hts gX7_sign_X7_signBy ⟨Nat.le_of_ble_eq_true rfl, Nat.le_of_ble_eq_true rfl⟩ ⟨Nat.zero_le _, Nat.zero_le _⟩ hK hj hw hA hS hl.1 (Nat.le_of_ble_eq_true rfl) dX7_sign_46 h (fun r3 s4 H locs h hw hS => ?_)
        exact W.iret (v := r3) hx hb hr (fun t ht hW => ⟨⟨_, _, rfl, h, zend hw ht⟩, hS.F ht⟩) hS.2.2 dX7_sign_49
      · have h := h.2 c3
        refine lv_iconst (v := (jI 0)) hx hb dX7_sign_39 rfl ?_
        refine lv_goto (tgt := 49) hx hb dX7_sign_40 (by decide) ?_
        exact W.iret (v := (jI 0)) hx hb hr (fun t ht hW => ⟨⟨_, _, rfl, h, zend hw ht⟩, hS.F ht⟩) hS.2.2 dX7_sign_49
    · have h := h.1 c2
      refine lv_iconst (v := (jI 2)) hx hb dX7_sign_24 rfl ?_
      refine lv_goto (tgt := 29) hx hb dX7_sign_25 (by decide) ?_
      obtain ⟨s5, es5⟩ : ∃ y : ST, y = zsp s2 1 (jI 2) := ⟨_, rfl⟩
      have h := h s5 es5
      refine zput (ty := .int) hx hb hts inX7 tyX7 tyX7_ok nmX7 hown hK hj hw hA hS 0 (by decide) rfl rfl 3 (by decide) lk0 (fun _ h9 => h9) rfl (by decide +kernel) rfl rfl (Nat.le_of_ble_eq_true rfl) dX7_sign_29 (zme cy ad s5) (by rw [es5]; rfl) (fun j hj9 => by rw [es5]; exact zsp_off_M_1 j hj9) (fun H locs hw hS => ?_)
      refine lv_aload_n hx hb dX7_sign_32 rfl (lv_at hl 0 rfl) ?_
      refine zget hx hb hts inX7 hown hK hw 0 (by decide) rfl rfl 3 (by decide) lk0 (fun _ h9 => h9) rfl dX7_sign_33 ?_
      refine zif_le (tgt := 43) hx hb dX7_sign_36 (by decide) (fun c4 => ?_) (fun c4 => ?_)
      · have h := h.1 c4
        refine lv_aload_n hx hb dX7_sign_43 rfl (lv_at hl 0 rfl) ?_
        refine lv_iload_n hx hb dX7_sign_44 rfl (lv_at hl 1 rfl) ?_
        refine lv_iload_n hx hb dX7_sign_45 rfl (lv_at hl 2 rfl) ?_
        refine k_X7_signBy (rest := []) hx hb hml hown hts gX7_sign_X7_signBy ⟨Nat.le_of_ble_eq_true rfl, Nat.le_of_ble_eq_true rfl⟩ ⟨Nat.zero_le _, Nat.zero_le _⟩ hK hj hw hA hS hl.1 (Nat.le_of_ble_eq_true rfl) dX7_sign_46 h (fun r4 s6 H locs h hw hS => ?_)
        exact W.iret (v := r4) hx hb hr (fun t ht hW => ⟨⟨_, _, rfl, h, zend hw ht⟩, hS.F ht⟩) hS.2.2 dX7_sign_49
      · have h := h.2 c4
        refine lv_iconst (v := (jI 0)) hx hb dX7_sign_39 rfl ?_
        refine lv_goto (tgt := 49) hx hb dX7_sign_40 (by decide) ?_
        exact W.iret (v := (jI 0)) hx hb hr (fun t ht hW => ⟨⟨_, _, rfl, h, zend hw ht⟩, hS.F ht⟩) hS.2.2 dX7_sign_49
  · have h := h.1 c1
    refine lv_iconst (v := (jI 1)) hx hb dX7_sign_11 rfl ?_
    refine lv_goto (tgt := 29) hx hb dX7_sign_12 (by decide) ?_
    obtain ⟨s7, es7⟩ : ∃ y : ST, y = zsp s1 1 (jI 1) := ⟨_, rfl⟩
    have h := h s7 es7
    refine zput (ty := .int) hx hb hts inX7 tyX7 tyX7_ok nmX7 hown hK hj hw hA hS 0 (by decide) rfl rfl 3 (by decide) lk0 (fun _ h9 => h9) rfl (by decide +kernel) rfl rfl (Nat.le_of_ble_eq_true rfl) dX7_sign_29 (zme cy ad s7) (by rw [es7]; rfl) (fun j hj9 => by rw [es7]; exact zsp_off_M_1 j hj9) (fun H locs hw hS => ?_)
    refine lv_aload_n hx hb dX7_sign_32 rfl (lv_at hl 0 rfl) ?_
    refine zget hx hb hts inX7 hown hK hw 0 (by decide) rfl rfl 3 (by decide) lk0 (fun _ h9 => h9) rfl dX7_sign_33 ?_
    refine zif_le (tgt := 43) hx hb dX7_sign_36 (by decide) (fun c5 => ?_) (fun c5 => ?_)
    · have h := h.1 c5
      refine lv_aload_n hx hb dX7_sign_43 rfl (lv_at hl 0 rfl) ?_
      refine lv_iload_n hx hb dX7_sign_44 rfl (lv_at hl 1 rfl) ?_
      refine lv_iload_n hx hb dX7_sign_45 rfl (lv_at hl 2 rfl) ?_
      refine k_X7_signBy (rest := []) hx hb hml hown hts gX7_sign_X7_signBy ⟨Nat.le_of_ble_eq_true rfl, Nat.le_of_ble_eq_true rfl⟩ ⟨Nat.zero_le _, Nat.zero_le _⟩ hK hj hw hA hS hl.1 (Nat.le_of_ble_eq_true rfl) dX7_sign_46 h (fun r5 s8 H locs h hw hS => ?_)
      exact W.iret (v := r5) hx hb hr (fun t ht hW => ⟨⟨_, _, rfl, h, zend hw ht⟩, hS.F ht⟩) hS.2.2 dX7_sign_49
    · have h := h.2 c5
      refine lv_iconst (v := (jI 0)) hx hb dX7_sign_39 rfl ?_
      refine lv_goto (tgt := 49) hx hb dX7_sign_40 (by decide) ?_
      exact W.iret (v := (jI 0)) hx hb hr (fun t ht hW => ⟨⟨_, _, rfl, h, zend hw ht⟩, hS.F ht⟩) hS.2.2 dX7_sign_49
theorem k_X7_sign {p : Program} {l : Launch} {e : Env} {R : Room} {s : State} {m : MethodId} {args : Array Value} {below : List Frame} {meth : Method} {c : Code} {H : Heap} {locs : List Loc} {cells slots : Nat} {QQ : State → Prop} {cc : ByteArray} {pc nL index : Nat} {ls : Array Slot} {rest : List Value} {D : va_G} {cy : cyT} {ad : Nat → Nat} {own : String} {Ts : List Cond} {H0 : Heap} {σ : ST} {p0 : Int32} {p1 : Int32} {Q : Int32 → ST → Prop} (hx : p.tables.exec = Jvm.exec) (hb : c.code = cc) (hml : c.maxLocals = nL) (hown : s.vm.findClass own = some m.cls) (hts : ∀ w ∈ Ts, w.before args s = true) (hG : GoodIn Ts (wsV own index RX7 yX7_sign wsX7_sign)) (hR : 3 + 1 ≤ R.frames ∧ 8 + (3 + 11) + 67 ≤ R.locals) (hcs : cells ≤ R.cells ∧ slots ≤ R.slots) (hK : zK D cy s) (hj : zI 6 ad) (hw : zW D 6 (zme cy ad σ) ad H) {A0 : Nat → Prop} (hA : ∀ i, i < 6 → A0 (ad i)) (hS : va_S A0 H0 H locs) (hsz : ls.size = nL) (hrest : (rest.map fun v => v.category).sum ≤ 8) (hdg : decode cc pc = .ok (.invokevirtual index, 3)) (h : wp_X7_sign σ p0 p1 Q) (kk : ∀ (r : Int32) (σ : ST) (H : Heap) (locs : List Loc), Q r σ → zW D 6 (zme cy ad σ) ad H → va_S A0 H0 H locs → W p l e R s m args below meth c H locs cells slots QQ (F0 m (pc + 3) ls (.int r :: rest))) : W p l e R s m args below meth c H locs cells slots QQ (F0 m pc ls (.int p1 :: .int p0 :: .ref (ad 0) :: rest)) :=
  zcalli (va_runV (As := [.int p0, .int p1]) (rest := rest) ⟨hx, hb, hml, hown, hts⟩ (c_X7_sign l D cy ad σ p0 p1 h) (cwV 2 hts hG rfl rfl rfl (by decide +kernel) hR) (zpreV hj hK hw _ (i := 0) (ci := 6) (by decide) rfl rfl) rfl rfl hsz rfl (lv_room hrest) hdg hcs) hA hS kk
set_option maxHeartbeats 4000000 in
set_option maxRecDepth 100000 in
theorem c_X7_trayBy (l : Launch) (D : va_G) (cy : cyT) (ad : Nat → Nat) (σ : ST) (p0 : Int32) (p1 : Int32) {Q : Int32 → ST → Prop} (h : wp_X7_trayBy σ p0 p1 Q) : Met l yX7_trayBy wsX7_trayBy ({ frames := 2, cells := 0, slots := 0, locals := 46 } : Room) (zPre D cy 6 (zme cy ad σ) ad [.ref (ad 0), .int p0, .int p1]) (va_Qi Q (zB D 6 (zme cy ad) ad) (zA 6 ad)) 0 0 (zA 6 ad) := by
  refine Met.ofW (cc := cX7_trayBy) (maxL := 5) (ret := (some .int)) (by decide) rfl ?_
  intro p e s m args below meth c s₁ B hml hv
  obtain ⟨rfl, hj, hK, hw⟩ := hv
  have hx := B.exec
  have hb := B.bytes
  have hr := B.returns
  have hts := atoms_spec (ws := wsX7_trayBy) B.pre
  have hown : s.vm.findClass RX7 = some m.cls := findClass_of_methodNamed B.named
  have hlocks := B.notSynchronized
  have lk0 : Cond.fieldLink RX7 7 "TypeTraysModel" "w" "[I" ∈ wsX7_trayBy := List.mem_of_getElem? (i := 1) rfl
  have inX7 : ∀ w ∈ u_ws RX7 TX7 16, w ∈ wsX7_trayBy := zin_at 27 rfl
  have hS : va_S (zA 6 ad) s.heap s.heap [] := va_S.rf
  have hA : ∀ i, i < 6 → zA 6 ad (ad i) := fun i hi => ⟨i, hi, rfl⟩
  have hl := lv_entry ([.ref (ad 0), .int p0, .int p1]) (n := 5) (Nat.le_of_ble_eq_true rfl)
  rw [lg_entry_eq]
  generalize (lg_sl ([.ref (ad 0), .int p0, .int p1]) ++ List.replicate (5 - (lg_sl ([.ref (ad 0), .int p0, .int p1])).length) Slot.unset).toArray = ls at hl ⊢
  have hl : lv_has ls 5 [(0, .ref (ad 0)), (1, .int p0), (2, .int p1)] := hl
  show W p l e ({ frames := 2, cells := 0, slots := 0, locals := 46 } : Room) s m ([.ref (ad 0), .int p0, .int p1] : List Value).toArray below meth c s.heap [] 0 0 (MQ below (va_Qi Q (zB D 6 (zme cy ad) ad) (zA 6 ad)) ([.ref (ad 0), .int p0, .int p1] : List Value).toArray s 0 0 (zA 6 ad)) (F0 m 0 ls [])
  unfold wp_X7_trayBy at h
  refine lv_iconst (v := (jI 0)) hx hb dX7_trayBy_0 rfl ?_
  refine lv_istore_n (lv' := [(3, .int (jI 0)), (0, .ref (ad 0)), (1, .int p0), (2, .int p1)]) hx hb dX7_trayBy_1 rfl hl (by decide) rfl (fun ls hl => ?_)
  refine lv_iconst (v := (jI 0)) hx hb dX7_trayBy_2 rfl ?_
  refine lv_istore (lv' := [(4, .int (jI 0)), (3, .int (jI 0)), (0, .ref (ad 0)), (1, .int p0), (2, .int p1)]) hx hb dX7_trayBy_3 hl (by decide) rfl (fun ls hl => ?_)
  have k52_5 : ∀ (u_52 : ST) (z3_52 : Int32) (H : Heap) (locs : List Loc), ((p1 = (jI 0) → (vp_in ((jI 44) + p0) 983 ∧ ∀ v2 : Int32, v2 = (u_52.1 0 ((jI 44) + p0).toNatClampNeg) → Q v2 u_52)) ∧ (¬ p1 = (jI 0) → ((p1 = (jI 1) → (vp_in ((jI 44) + p0) 983 ∧ ∀ v1 : Int32, v1 = (u_52.1 0 ((jI 44) + p0).toNatClampNeg) → wp_X7_top u_52 p0 v1 (fun r3 s3 => Q r3 s3))) ∧ (¬ p1 = (jI 1) → Q z3_52 u_52)))) → zW D 6 (zme cy ad u_52) ad H → va_S (zA 6 ad) s.heap H locs → ∀ ls : Array Slot, lv_has ls 5 [(0, .ref (ad 0)), (1, .int p0), (2, .int p1), (3, .int z3_52)] → W p l e ({ frames := 2, cells := 0, slots := 0, locals := 46 } : Room) s m ([.ref (ad 0), .int p0, .int p1] : List Value).toArray below meth c H locs 0 0 (MQ below (va_Qi Q (zB D 6 (zme cy ad) ad) (zA 6 ad)) ([.ref (ad 0), .int p0, .int p1] : List Value).toArray s 0 0 (zA 6 ad)) (F0 m 52 ls []) := by
    intro u_52 z3_52 H locs h hw hS ls hl
    refine lv_iload_n hx hb dX7_trayBy_52 rfl (lv_at hl 2 rfl) ?_
    refine zif_ne (tgt := 68) hx hb dX7_trayBy_53 (by decide) (fun c4 => ?_) (fun c4 => ?_)
    · have h := h.2 c4
      refine lv_iload_n hx hb dX7_trayBy_68 rfl (lv_at hl 2 rfl) ?_
      refine lv_iconst (v := (jI 1)) hx hb dX7_trayBy_69 rfl ?_
      refine lv_icmp_ne (tgt := 90) hx hb dX7_trayBy_70 (by decide) (fun c5 => ?_) (fun c5 => ?_)
      · have h := h.2 c5
        refine lv_iload_n hx hb dX7_trayBy_90 rfl (lv_at hl 3 rfl) ?_
        exact W.iret (v := z3_52) hx hb hr (fun t ht hW => ⟨⟨_, _, rfl, h, zend hw ht⟩, hS.F ht⟩) hS.2.2 dX7_trayBy_91
      · have h := h.1 c5
        refine lv_aload_n hx hb dX7_trayBy_73 rfl (lv_at hl 0 rfl) ?_
        refine lv_iload_n hx hb dX7_trayBy_74 rfl (lv_at hl 1 rfl) ?_
        refine lv_aload_n hx hb dX7_trayBy_75 rfl (lv_at hl 0 rfl) ?_
        refine zget hx hb hts inX7 hown hK hw 0 (by decide) rfl rfl 0 (by decide) lk0 (fun _ h9 => h9) rfl dX7_trayBy_76 ?_
        refine lv_bipush (v := (jI 44)) hx hb dX7_trayBy_79 (by decide +kernel) ?_
        refine lv_iload_n hx hb dX7_trayBy_81 rfl (lv_at hl 1 rfl) ?_
        refine lv_iadd hx hb dX7_trayBy_82 ?_
        refine ziald hx hb hK hw 1 (by decide) rfl h.1 dX7_trayBy_83 ?_
        refine lv_topi (fun v1 ev1 => ?_)
        have h := h.2 v1 ev1
        refine k_X7_top (rest := []) hx hb hml hown hts gX7_trayBy_X7_top ⟨Nat.le_of_ble_eq_true rfl, Nat.le_of_ble_eq_true rfl⟩ ⟨Nat.zero_le _, Nat.zero_le _⟩ hK hj hw hA hS hl.1 (Nat.le_of_ble_eq_true rfl) dX7_trayBy_84 h (fun r3 s3 H locs h hw hS => ?_)
        refine lv_goto (tgt := 91) hx hb dX7_trayBy_87 (by decide) ?_
        exact W.iret (v := r3) hx hb hr (fun t ht hW => ⟨⟨_, _, rfl, h, zend hw ht⟩, hS.F ht⟩) hS.2.2 dX7_trayBy_91
    · have h := h.1 c4
      refine lv_aload_n hx hb dX7_trayBy_56 rfl (lv_at hl 0 rfl) ?_
      refine zget hx hb hts inX7 hown hK hw 0 (by decide) rfl rfl 0 (by decide) lk0 (fun _ h9 => h9) rfl dX7_trayBy_57 ?_
      refine lv_bipush (v := (jI 44)) hx hb dX7_trayBy_60 (by decide +kernel) ?_
      refine lv_iload_n hx hb dX7_trayBy_62 rfl (lv_at hl 1 rfl) ?_
      refine lv_iadd hx hb dX7_trayBy_63 ?_
      refine ziald hx hb hK hw 1 (by decide) rfl h.1 dX7_trayBy_64 ?_
      refine lv_topi (fun v2 ev2 => ?_)
      have h := h.2 v2 ev2
      refine lv_goto (tgt := 91) hx hb dX7_trayBy_65 (by decide) ?_
      exact W.iret (v := v2) hx hb hr (fun t ht hW => ⟨⟨_, _, rfl, h, zend hw ht⟩, hS.F ht⟩) hS.2.2 dX7_trayBy_91
  have lp5 : ∀ (nn5 : Nat) (t_5 : ST) (y3_5 : Int32) (y4_5 : Int32) (H : Heap) (locs : List Loc), wl_X7_trayBy_5 (fun u_52 z3_52 => ((p1 = (jI 0) → (vp_in ((jI 44) + p0) 983 ∧ ∀ v2 : Int32, v2 = (u_52.1 0 ((jI 44) + p0).toNatClampNeg) → Q v2 u_52)) ∧ (¬ p1 = (jI 0) → ((p1 = (jI 1) → (vp_in ((jI 44) + p0) 983 ∧ ∀ v1 : Int32, v1 = (u_52.1 0 ((jI 44) + p0).toNatClampNeg) → wp_X7_top u_52 p0 v1 (fun r3 s3 => Q r3 s3))) ∧ (¬ p1 = (jI 1) → Q z3_52 u_52))))) p0 p1 nn5 t_5 y3_5 y4_5 → zW D 6 (zme cy ad t_5) ad H → va_S (zA 6 ad) s.heap H locs → ∀ ls : Array Slot, lv_has ls 5 [(0, .ref (ad 0)), (1, .int p0), (2, .int p1), (3, .int y3_5), (4, .int y4_5)] → W p l e ({ frames := 2, cells := 0, slots := 0, locals := 46 } : Room) s m ([.ref (ad 0), .int p0, .int p1] : List Value).toArray below meth c H locs 0 0 (MQ below (va_Qi Q (zB D 6 (zme cy ad) ad) (zA 6 ad)) ([.ref (ad 0), .int p0, .int p1] : List Value).toArray s 0 0 (zA 6 ad)) (F0 m 5 ls []) := by
    intro nn5
    induction nn5 with
    | zero => intro _ _ _ _ _ h; exact h.elim
    | succ nn5 ih5 =>
      intro t_5 y3_5 y4_5 H locs h hw hS ls hl
      simp only [wl_X7_trayBy_5, wb_X7_trayBy_5] at h
      refine lv_iload hx hb dX7_trayBy_5 (lv_at hl 4 rfl) ?_
      refine lv_sipush (v := (jI 144)) hx hb dX7_trayBy_7 (by decide +kernel) ?_
      refine lv_icmp_ge (tgt := 52) hx hb dX7_trayBy_10 (by decide) (fun c1 => ?_) (fun c1 => ?_)
      · have h := h.1 c1
        exact k52_5 _ _ _ _ h hw hS _ (lv_sub hl [0, 1, 2, 3] rfl)
      · have h := h.2 c1
        refine lv_iload_n hx hb dX7_trayBy_13 rfl (lv_at hl 3 rfl) ?_
        refine lv_aload_n hx hb dX7_trayBy_14 rfl (lv_at hl 0 rfl) ?_
        refine lv_iload hx hb dX7_trayBy_15 (lv_at hl 4 rfl) ?_
        refine lv_iconst (v := (jI 0)) hx hb dX7_trayBy_17 rfl ?_
        refine k_X7_of (rest := [.int y3_5]) hx hb hml hown hts gX7_trayBy_X7_of ⟨Nat.le_of_ble_eq_true rfl, Nat.le_of_ble_eq_true rfl⟩ ⟨Nat.zero_le _, Nat.zero_le _⟩ hK hj hw hA hS hl.1 (Nat.le_of_ble_eq_true rfl) dX7_trayBy_18 h (fun r1 s1 H locs h hw hS => ?_)
        refine lv_iload_n hx hb dX7_trayBy_21 rfl (lv_at hl 1 rfl) ?_
        refine lv_icmp_eq (tgt := 29) hx hb dX7_trayBy_22 (by decide) (fun c2 => ?_) (fun c2 => ?_)
        · have h := h.1 c2
          refine lv_iload_n hx hb dX7_trayBy_29 rfl (lv_at hl 2 rfl) ?_
          refine lv_iconst (v := (jI 2)) hx hb dX7_trayBy_30 rfl ?_
          refine lv_icmp_ne (tgt := 38) hx hb dX7_trayBy_31 (by decide) (fun c3 => ?_) (fun c3 => ?_)
          · have h := h.2 c3
            refine lv_aload_n hx hb dX7_trayBy_38 rfl (lv_at hl 0 rfl) ?_
            refine lv_iload hx hb dX7_trayBy_39 (lv_at hl 4 rfl) ?_
            refine k_X7_areaOf (rest := [.int y3_5]) hx hb hml hown hts gX7_trayBy_X7_areaOf ⟨Nat.le_of_ble_eq_true rfl, Nat.le_of_ble_eq_true rfl⟩ ⟨Nat.zero_le _, Nat.zero_le _⟩ hK hj hw hA hS hl.1 (Nat.le_of_ble_eq_true rfl) dX7_trayBy_41 h (fun r2 s2 H locs h hw hS => ?_)
            refine lv_iadd hx hb dX7_trayBy_44 ?_
            refine lv_topi (fun x1 ex1 => ?_)
            have h := h x1 ex1
            refine lv_istore_n (lv' := [(3, .int x1), (0, .ref (ad 0)), (1, .int p0), (2, .int p1), (4, .int y4_5)]) hx hb dX7_trayBy_45 rfl hl (by decide) rfl (fun ls hl => ?_)
            obtain ⟨x2, ex2⟩ : ∃ y : Int32, y = y4_5 + (jI 1) := ⟨_, rfl⟩
            have h := h x2 ex2
            refine lv_iinc (v := x2) (lv' := [(4, .int x2), (3, .int x1), (0, .ref (ad 0)), (1, .int p0), (2, .int p1)]) hx hb dX7_trayBy_46 hl (k := 4) rfl (by rw [ex2]; rfl) (by decide) rfl (fun ls hl => ?_)
            refine lv_goto (tgt := 5) hx hb dX7_trayBy_49 (by decide) ?_
            exact ih5 _ _ _ _ _ h hw hS _ (lv_sub hl [2, 3, 4, 1, 0] rfl)
          · have h := h.1 c3
            refine lv_iconst (v := (jI 1)) hx hb dX7_trayBy_34 rfl ?_
            refine lv_goto (tgt := 44) hx hb dX7_trayBy_35 (by decide) ?_
            refine lv_iadd hx hb dX7_trayBy_44 ?_
            refine lv_topi (fun x3 ex3 => ?_)
            have h := h x3 ex3
            refine lv_istore_n (lv' := [(3, .int x3), (0, .ref (ad 0)), (1, .int p0), (2, .int p1), (4, .int y4_5)]) hx hb dX7_trayBy_45 rfl hl (by decide) rfl (fun ls hl => ?_)
            obtain ⟨x4, ex4⟩ : ∃ y : Int32, y = y4_5 + (jI 1) := ⟨_, rfl⟩
            have h := h x4 ex4
            refine lv_iinc (v := x4) (lv' := [(4, .int x4), (3, .int x3), (0, .ref (ad 0)), (1, .int p0), (2, .int p1)]) hx hb dX7_trayBy_46 hl (k := 4) rfl (by rw [ex4]; rfl) (by decide) rfl (fun ls hl => ?_)
            refine lv_goto (tgt := 5) hx hb dX7_trayBy_49 (by decide) ?_
            exact ih5 _ _ _ _ _ h hw hS _ (lv_sub hl [2, 3, 4, 1, 0] rfl)
        · have h := h.2 c2
          refine lv_iconst (v := (jI 0)) hx hb dX7_trayBy_25 rfl ?_
          refine lv_goto (tgt := 44) hx hb dX7_trayBy_26 (by decide) ?_
          refine lv_iadd hx hb dX7_trayBy_44 ?_
          refine lv_topi (fun x5 ex5 => ?_)
          have h := h x5 ex5
          refine lv_istore_n (lv' := [(3, .int x5), (0, .ref (ad 0)), (1, .int p0), (2, .int p1), (4, .int y4_5)]) hx hb dX7_trayBy_45 rfl hl (by decide) rfl (fun ls hl => ?_)
          obtain ⟨x6, ex6⟩ : ∃ y : Int32, y = y4_5 + (jI 1) := ⟨_, rfl⟩
          have h := h x6 ex6
          refine lv_iinc (v := x6) (lv' := [(4, .int x6), (3, .int x5), (0, .ref (ad 0)), (1, .int p0), (2, .int p1)]) hx hb dX7_trayBy_46 hl (k := 4) rfl (by rw [ex6]; rfl) (by decide) rfl (fun ls hl => ?_)
          refine lv_goto (tgt := 5) hx hb dX7_trayBy_49 (by decide) ?_
          exact ih5 _ _ _ _ _ h hw hS _ (lv_sub hl [2, 3, 4, 1, 0] rfl)
  obtain ⟨nn5, h⟩ := h
  exact lp5 nn5 _ _ _ _ _ h hw hS _ (lv_sub hl [2, 3, 4, 1, 0] rfl)
theorem k_X7_trayBy {p : Program} {l : Launch} {e : Env} {R : Room} {s : State} {m : MethodId} {args : Array Value} {below : List Frame} {meth : Method} {c : Code} {H : Heap} {locs : List Loc} {cells slots : Nat} {QQ : State → Prop} {cc : ByteArray} {pc nL index : Nat} {ls : Array Slot} {rest : List Value} {D : va_G} {cy : cyT} {ad : Nat → Nat} {own : String} {Ts : List Cond} {H0 : Heap} {σ : ST} {p0 : Int32} {p1 : Int32} {Q : Int32 → ST → Prop} (hx : p.tables.exec = Jvm.exec) (hb : c.code = cc) (hml : c.maxLocals = nL) (hown : s.vm.findClass own = some m.cls) (hts : ∀ w ∈ Ts, w.before args s = true) (hG : GoodIn Ts (wsV own index RX7 yX7_trayBy wsX7_trayBy)) (hR : 2 + 1 ≤ R.frames ∧ 8 + (5 + 11) + 46 ≤ R.locals) (hcs : cells ≤ R.cells ∧ slots ≤ R.slots) (hK : zK D cy s) (hj : zI 6 ad) (hw : zW D 6 (zme cy ad σ) ad H) {A0 : Nat → Prop} (hA : ∀ i, i < 6 → A0 (ad i)) (hS : va_S A0 H0 H locs) (hsz : ls.size = nL) (hrest : (rest.map fun v => v.category).sum ≤ 8) (hdg : decode cc pc = .ok (.invokevirtual index, 3)) (h : wp_X7_trayBy σ p0 p1 Q) (kk : ∀ (r : Int32) (σ : ST) (H : Heap) (locs : List Loc), Q r σ → zW D 6 (zme cy ad σ) ad H → va_S A0 H0 H locs → W p l e R s m args below meth c H locs cells slots QQ (F0 m (pc + 3) ls (.int r :: rest))) : W p l e R s m args below meth c H locs cells slots QQ (F0 m pc ls (.int p1 :: .int p0 :: .ref (ad 0) :: rest)) :=
  zcalli (va_runV (As := [.int p0, .int p1]) (rest := rest) ⟨hx, hb, hml, hown, hts⟩ (c_X7_trayBy l D cy ad σ p0 p1 h) (cwV 2 hts hG rfl rfl rfl (by decide +kernel) hR) (zpreV hj hK hw _ (i := 0) (ci := 6) (by decide) rfl rfl) rfl rfl hsz rfl (lv_room hrest) hdg hcs) hA hS kk
set_option maxHeartbeats 4000000 in
set_option maxRecDepth 100000 in
theorem c_X7_isTray (l : Launch) (D : va_G) (cy : cyT) (ad : Nat → Nat) (σ : ST) (p0 : Int32) {Q : Int32 → ST → Prop} (h : wp_X7_isTray σ p0 Q) : Met l yX7_isTray wsX7_isTray ({ frames := 1, cells := 0, slots := 0, locals := 22 } : Room) (zPre D cy 6 (zme cy ad σ) ad [.ref (ad 0), .int p0]) (va_Qi Q (zB D 6 (zme cy ad) ad) (zA 6 ad)) 0 0 (zA 6 ad) := by
  refine Met.ofW (cc := cX7_isTray) (maxL := 2) (ret := (some .boolean)) (by decide) rfl ?_
  intro p e s m args below meth c s₁ B hml hv
  obtain ⟨rfl, hj, hK, hw⟩ := hv
  have hx := B.exec
  have hb := B.bytes
  have hr := B.returns
  have hts := atoms_spec (ws := wsX7_isTray) B.pre
  have hown : s.vm.findClass RX7 = some m.cls := findClass_of_methodNamed B.named
  have hlocks := B.notSynchronized
  have lk0 : Cond.fieldLink RX7 7 "TypeTraysModel" "w" "[I" ∈ wsX7_isTray := List.mem_of_getElem? (i := 1) rfl
  have inX7 : ∀ w ∈ u_ws RX7 TX7 16, w ∈ wsX7_isTray := zin_at 6 rfl
  have hS : va_S (zA 6 ad) s.heap s.heap [] := va_S.rf
  have hA : ∀ i, i < 6 → zA 6 ad (ad i) := fun i hi => ⟨i, hi, rfl⟩
  have hl := lv_entry ([.ref (ad 0), .int p0]) (n := 2) (Nat.le_of_ble_eq_true rfl)
  rw [lg_entry_eq]
  generalize (lg_sl ([.ref (ad 0), .int p0]) ++ List.replicate (2 - (lg_sl ([.ref (ad 0), .int p0])).length) Slot.unset).toArray = ls at hl ⊢
  have hl : lv_has ls 2 [(0, .ref (ad 0)), (1, .int p0)] := hl
  show W p l e ({ frames := 1, cells := 0, slots := 0, locals := 22 } : Room) s m ([.ref (ad 0), .int p0] : List Value).toArray below meth c s.heap [] 0 0 (MQ below (va_Qi Q (zB D 6 (zme cy ad) ad) (zA 6 ad)) ([.ref (ad 0), .int p0] : List Value).toArray s 0 0 (zA 6 ad)) (F0 m 0 ls [])
  unfold wp_X7_isTray at h
  refine lv_iload_n hx hb dX7_isTray_0 rfl (lv_at hl 1 rfl) ?_
  refine lv_iconst (v := (jI 0)) hx hb dX7_isTray_1 rfl ?_
  refine lv_aload_n hx hb dX7_isTray_2 rfl (lv_at hl 0 rfl) ?_
  refine zget hx hb hts inX7 hown hK hw 0 (by decide) rfl rfl 0 (by decide) lk0 (fun _ h9 => h9) rfl dX7_isTray_3 ?_
  refine lv_iconst (v := (jI 0)) hx hb dX7_isTray_6 rfl ?_
  refine ziald hx hb hK hw 1 (by decide) rfl h.1 dX7_isTray_7 ?_
  refine lv_topi (fun v1 ev1 => ?_)
  have h := h.2 v1 ev1
  refine lv_iconst (v := (jI 1)) hx hb dX7_isTray_8 rfl ?_
  refine lv_isub hx hb dX7_isTray_9 ?_
  refine k_X7_in (rest := []) hx hb hml hown hts gX7_isTray_X7_in ⟨Nat.le_of_ble_eq_true rfl, Nat.le_of_ble_eq_true rfl⟩ ⟨Nat.zero_le _, Nat.zero_le _⟩ hK hj hw hA hS hl.1 (Nat.le_of_ble_eq_true rfl) dX7_isTray_10 h (fun r1 s1 H locs h hw hS => ?_)
  exact W.zret (v := r1) (ty := .boolean) hx hb hr h.1 (fun t ht hW => ⟨⟨_, _, rfl, h.2, zend hw ht⟩, hS.F ht⟩) hS.2.2 dX7_isTray_13
theorem k_X7_isTray {p : Program} {l : Launch} {e : Env} {R : Room} {s : State} {m : MethodId} {args : Array Value} {below : List Frame} {meth : Method} {c : Code} {H : Heap} {locs : List Loc} {cells slots : Nat} {QQ : State → Prop} {cc : ByteArray} {pc nL index : Nat} {ls : Array Slot} {rest : List Value} {D : va_G} {cy : cyT} {ad : Nat → Nat} {own : String} {Ts : List Cond} {H0 : Heap} {σ : ST} {p0 : Int32} {Q : Int32 → ST → Prop} (hx : p.tables.exec = Jvm.exec) (hb : c.code = cc) (hml : c.maxLocals = nL) (hown : s.vm.findClass own = some m.cls) (hts : ∀ w ∈ Ts, w.before args s = true) (hG : GoodIn Ts (wsV own index RX7 yX7_isTray wsX7_isTray)) (hR : 1 + 1 ≤ R.frames ∧ 8 + (2 + 11) + 22 ≤ R.locals) (hcs : cells ≤ R.cells ∧ slots ≤ R.slots) (hK : zK D cy s) (hj : zI 6 ad) (hw : zW D 6 (zme cy ad σ) ad H) {A0 : Nat → Prop} (hA : ∀ i, i < 6 → A0 (ad i)) (hS : va_S A0 H0 H locs) (hsz : ls.size = nL) (hrest : (rest.map fun v => v.category).sum ≤ 8) (hdg : decode cc pc = .ok (.invokevirtual index, 3)) (h : wp_X7_isTray σ p0 Q) (kk : ∀ (r : Int32) (σ : ST) (H : Heap) (locs : List Loc), Q r σ → zW D 6 (zme cy ad σ) ad H → va_S A0 H0 H locs → W p l e R s m args below meth c H locs cells slots QQ (F0 m (pc + 3) ls (.int r :: rest))) : W p l e R s m args below meth c H locs cells slots QQ (F0 m pc ls (.int p0 :: .ref (ad 0) :: rest)) :=
  zcalli (va_runV (As := [.int p0]) (rest := rest) ⟨hx, hb, hml, hown, hts⟩ (c_X7_isTray l D cy ad σ p0 h) (cwV 1 hts hG rfl rfl rfl (by decide +kernel) hR) (zpreV hj hK hw _ (i := 0) (ci := 6) (by decide) rfl rfl) rfl rfl hsz rfl (lv_room hrest) hdg hcs) hA hS kk
set_option maxHeartbeats 4000000 in
set_option maxRecDepth 100000 in
theorem c_X7_tray (l : Launch) (D : va_G) (cy : cyT) (ad : Nat → Nat) (σ : ST) (p0 : Int32) (p1 : Int32) {Q : Int32 → ST → Prop} (h : wp_X7_tray σ p0 p1 Q) : Met l yX7_tray wsX7_tray ({ frames := 3, cells := 0, slots := 0, locals := 70 } : Room) (zPre D cy 6 (zme cy ad σ) ad [.ref (ad 0), .int p0, .int p1]) (va_Qi Q (zB D 6 (zme cy ad) ad) (zA 6 ad)) 0 0 (zA 6 ad) := by
  refine Met.ofW (cc := cX7_tray) (maxL := 3) (ret := (some .int)) (by decide) rfl ?_
  intro p e s m args below meth c s₁ B hml hv
  obtain ⟨rfl, hj, hK, hw⟩ := hv
  have hx := B.exec
  have hb := B.bytes
  have hr := B.returns
  have hts := atoms_spec (ws := wsX7_tray) B.pre
  have hown : s.vm.findClass RX7 = some m.cls := findClass_of_methodNamed B.named
  have hlocks := B.notSynchronized
  have lk0 : Cond.fieldLink RX7 26 "TypeTraysModel" "thrown" "I" ∈ wsX7_tray := List.mem_of_getElem? (i := 1) rfl
  have inX7 : ∀ w ∈ u_ws RX7 TX7 16, w ∈ wsX7_tray := zin_at 39 rfl
  have hS : va_S (zA 6 ad) s.heap s.heap [] := va_S.rf
  have hA : ∀ i, i < 6 → zA 6 ad (ad i) := fun i hi => ⟨i, hi, rfl⟩
  have hl := lv_entry ([.ref (ad 0), .int p0, .int p1]) (n := 3) (Nat.le_of_ble_eq_true rfl)
  rw [lg_entry_eq]
  generalize (lg_sl ([.ref (ad 0), .int p0, .int p1]) ++ List.replicate (3 - (lg_sl ([.ref (ad 0), .int p0, .int p1])).length) Slot.unset).toArray = ls at hl ⊢
  have hl : lv_has ls 3 [(0, .ref (ad 0)), (1, .int p0), (2, .int p1)] := hl
  show W p l e ({ frames := 3, cells := 0, slots := 0, locals := 70 } : Room) s m ([.ref (ad 0), .int p0, .int p1] : List Value).toArray below meth c s.heap [] 0 0 (MQ below (va_Qi Q (zB D 6 (zme cy ad) ad) (zA 6 ad)) ([.ref (ad 0), .int p0, .int p1] : List Value).toArray s 0 0 (zA 6 ad)) (F0 m 0 ls [])
  unfold wp_X7_tray at h
  refine lv_aload_n hx hb dX7_tray_0 rfl (lv_at hl 0 rfl) ?_
  refine lv_aload_n hx hb dX7_tray_1 rfl (lv_at hl 0 rfl) ?_
  refine lv_iload_n hx hb dX7_tray_2 rfl (lv_at hl 1 rfl) ?_
  refine k_X7_isTray (rest := [.ref (ad 0)]) hx hb hml hown hts gX7_tray_X7_isTray ⟨Nat.le_of_ble_eq_true rfl, Nat.le_of_ble_eq_true rfl⟩ ⟨Nat.zero_le _, Nat.zero_le _⟩ hK hj hw hA hS hl.1 (Nat.le_of_ble_eq_true rfl) dX7_tray_3 h (fun r1 s1 H locs h hw hS => ?_)
  refine zif_ne (tgt := 13) hx hb dX7_tray_6 (by decide) (fun c1 => ?_) (fun c1 => ?_)
  · have h := h.2 c1
    refine lv_iload_n hx hb dX7_tray_13 rfl (lv_at hl 2 rfl) ?_
    refine lv_iconst (v := (jI 0)) hx hb dX7_tray_14 rfl ?_
    refine lv_iconst (v := (jI 3)) hx hb dX7_tray_15 rfl ?_
    refine k_X7_in (rest := [.ref (ad 0)]) hx hb hml hown hts gX7_tray_X7_in ⟨Nat.le_of_ble_eq_true rfl, Nat.le_of_ble_eq_true rfl⟩ ⟨Nat.zero_le _, Nat.zero_le _⟩ hK hj hw hA hS hl.1 (Nat.le_of_ble_eq_true rfl) dX7_tray_16 h (fun r2 s2 H locs h hw hS => ?_)
    refine zif_ne (tgt := 26) hx hb dX7_tray_19 (by decide) (fun c2 => ?_) (fun c2 => ?_)
    · have h := h.2 c2
      refine lv_iconst (v := (jI 0)) hx hb dX7_tray_26 rfl ?_
      obtain ⟨s3, es3⟩ : ∃ y : ST, y = zsp s2 1 (jI 0) := ⟨_, rfl⟩
      have h := h s3 es3
      refine zput (ty := .int) hx hb hts inX7 tyX7 tyX7_ok nmX7 hown hK hj hw hA hS 0 (by decide) rfl rfl 3 (by decide) lk0 (fun _ h9 => h9) rfl (by decide +kernel) rfl rfl (Nat.le_of_ble_eq_true rfl) dX7_tray_27 (zme cy ad s3) (by rw [es3]; rfl) (fun j hj9 => by rw [es3]; exact zsp_off_M_1 j hj9) (fun H locs hw hS => ?_)
      refine lv_aload_n hx hb dX7_tray_30 rfl (lv_at hl 0 rfl) ?_
      refine zget hx hb hts inX7 hown hK hw 0 (by decide) rfl rfl 3 (by decide) lk0 (fun _ h9 => h9) rfl dX7_tray_31 ?_
      refine zif_le (tgt := 41) hx hb dX7_tray_34 (by decide) (fun c3 => ?_) (fun c3 => ?_)
      · have h := h.1 c3
        refine lv_aload_n hx hb dX7_tray_41 rfl (lv_at hl 0 rfl) ?_
        refine lv_iload_n hx hb dX7_tray_42 rfl (lv_at hl 1 rfl) ?_
        refine lv_iload_n hx hb dX7_tray_43 rfl (lv_at hl 2 rfl) ?_
        refine k_X7_trayBy (rest := []) hx hb hml hown hts gX7_tray_X7_trayBy ⟨Nat.le_of_ble_eq_true rfl, Nat.le_of_ble_eq_true rfl⟩ ⟨Nat.zero_le _, Nat.zero_le _⟩ hK hj hw hA hS hl.1 (Nat.le_of_ble_eq_true rfl) dX7_tray_44 h (fun r3 s4 H locs h hw hS => ?_)
        exact W.iret (v := r3) hx hb hr (fun t ht hW => ⟨⟨_, _, rfl, h, zend hw ht⟩, hS.F ht⟩) hS.2.2 dX7_tray_47
      · have h := h.2 c3
        refine lv_iconst (v := (jI 0)) hx hb dX7_tray_37 rfl ?_
        refine lv_goto (tgt := 47) hx hb dX7_tray_38 (by decide) ?_
        exact W.iret (v := (jI 0)) hx hb hr (fun t ht hW => ⟨⟨_, _, rfl, h, zend hw ht⟩, hS.F ht⟩) hS.2.2 dX7_tray_47
    · have h := h.1 c2
      refine lv_iconst (v := (jI 2)) hx hb dX7_tray_22 rfl ?_
      refine lv_goto (tgt := 27) hx hb dX7_tray_23 (by decide) ?_
      obtain ⟨s5, es5⟩ : ∃ y : ST, y = zsp s2 1 (jI 2) := ⟨_, rfl⟩
      have h := h s5 es5
      refine zput (ty := .int) hx hb hts inX7 tyX7 tyX7_ok nmX7 hown hK hj hw hA hS 0 (by decide) rfl rfl 3 (by decide) lk0 (fun _ h9 => h9) rfl (by decide +kernel) rfl rfl (Nat.le_of_ble_eq_true rfl) dX7_tray_27 (zme cy ad s5) (by rw [es5]; rfl) (fun j hj9 => by rw [es5]; exact zsp_off_M_1 j hj9) (fun H locs hw hS => ?_)
      refine lv_aload_n hx hb dX7_tray_30 rfl (lv_at hl 0 rfl) ?_
      refine zget hx hb hts inX7 hown hK hw 0 (by decide) rfl rfl 3 (by decide) lk0 (fun _ h9 => h9) rfl dX7_tray_31 ?_
      refine zif_le (tgt := 41) hx hb dX7_tray_34 (by decide) (fun c4 => ?_) (fun c4 => ?_)
      · have h := h.1 c4
        refine lv_aload_n hx hb dX7_tray_41 rfl (lv_at hl 0 rfl) ?_
        refine lv_iload_n hx hb dX7_tray_42 rfl (lv_at hl 1 rfl) ?_
        refine lv_iload_n hx hb dX7_tray_43 rfl (lv_at hl 2 rfl) ?_
        refine k_X7_trayBy (rest := []) hx hb hml hown hts gX7_tray_X7_trayBy ⟨Nat.le_of_ble_eq_true rfl, Nat.le_of_ble_eq_true rfl⟩ ⟨Nat.zero_le _, Nat.zero_le _⟩ hK hj hw hA hS hl.1 (Nat.le_of_ble_eq_true rfl) dX7_tray_44 h (fun r4 s6 H locs h hw hS => ?_)
        exact W.iret (v := r4) hx hb hr (fun t ht hW => ⟨⟨_, _, rfl, h, zend hw ht⟩, hS.F ht⟩) hS.2.2 dX7_tray_47
      · have h := h.2 c4
        refine lv_iconst (v := (jI 0)) hx hb dX7_tray_37 rfl ?_
        refine lv_goto (tgt := 47) hx hb dX7_tray_38 (by decide) ?_
        exact W.iret (v := (jI 0)) hx hb hr (fun t ht hW => ⟨⟨_, _, rfl, h, zend hw ht⟩, hS.F ht⟩) hS.2.2 dX7_tray_47
  · have h := h.1 c1
    refine lv_iconst (v := (jI 1)) hx hb dX7_tray_9 rfl ?_
    refine lv_goto (tgt := 27) hx hb dX7_tray_10 (by decide) ?_
    obtain ⟨s7, es7⟩ : ∃ y : ST, y = zsp s1 1 (jI 1) := ⟨_, rfl⟩
    have h := h s7 es7
    refine zput (ty := .int) hx hb hts inX7 tyX7 tyX7_ok nmX7 hown hK hj hw hA hS 0 (by decide) rfl rfl 3 (by decide) lk0 (fun _ h9 => h9) rfl (by decide +kernel) rfl rfl (Nat.le_of_ble_eq_true rfl) dX7_tray_27 (zme cy ad s7) (by rw [es7]; rfl) (fun j hj9 => by rw [es7]; exact zsp_off_M_1 j hj9) (fun H locs hw hS => ?_)
    refine lv_aload_n hx hb dX7_tray_30 rfl (lv_at hl 0 rfl) ?_
    refine zget hx hb hts inX7 hown hK hw 0 (by decide) rfl rfl 3 (by decide) lk0 (fun _ h9 => h9) rfl dX7_tray_31 ?_
    refine zif_le (tgt := 41) hx hb dX7_tray_34 (by decide) (fun c5 => ?_) (fun c5 => ?_)
    · have h := h.1 c5
      refine lv_aload_n hx hb dX7_tray_41 rfl (lv_at hl 0 rfl) ?_
      refine lv_iload_n hx hb dX7_tray_42 rfl (lv_at hl 1 rfl) ?_
      refine lv_iload_n hx hb dX7_tray_43 rfl (lv_at hl 2 rfl) ?_
      refine k_X7_trayBy (rest := []) hx hb hml hown hts gX7_tray_X7_trayBy ⟨Nat.le_of_ble_eq_true rfl, Nat.le_of_ble_eq_true rfl⟩ ⟨Nat.zero_le _, Nat.zero_le _⟩ hK hj hw hA hS hl.1 (Nat.le_of_ble_eq_true rfl) dX7_tray_44 h (fun r5 s8 H locs h hw hS => ?_)
      exact W.iret (v := r5) hx hb hr (fun t ht hW => ⟨⟨_, _, rfl, h, zend hw ht⟩, hS.F ht⟩) hS.2.2 dX7_tray_47
    · have h := h.2 c5
      refine lv_iconst (v := (jI 0)) hx hb dX7_tray_37 rfl ?_
      refine lv_goto (tgt := 47) hx hb dX7_tray_38 (by decide) ?_
      exact W.iret (v := (jI 0)) hx hb hr (fun t ht hW => ⟨⟨_, _, rfl, h, zend hw ht⟩, hS.F ht⟩) hS.2.2 dX7_tray_47
theorem k_X7_tray {p : Program} {l : Launch} {e : Env} {R : Room} {s : State} {m : MethodId} {args : Array Value} {below : List Frame} {meth : Method} {c : Code} {H : Heap} {locs : List Loc} {cells slots : Nat} {QQ : State → Prop} {cc : ByteArray} {pc nL index : Nat} {ls : Array Slot} {rest : List Value} {D : va_G} {cy : cyT} {ad : Nat → Nat} {own : String} {Ts : List Cond} {H0 : Heap} {σ : ST} {p0 : Int32} {p1 : Int32} {Q : Int32 → ST → Prop} (hx : p.tables.exec = Jvm.exec) (hb : c.code = cc) (hml : c.maxLocals = nL) (hown : s.vm.findClass own = some m.cls) (hts : ∀ w ∈ Ts, w.before args s = true) (hG : GoodIn Ts (wsV own index RX7 yX7_tray wsX7_tray)) (hR : 3 + 1 ≤ R.frames ∧ 8 + (3 + 11) + 70 ≤ R.locals) (hcs : cells ≤ R.cells ∧ slots ≤ R.slots) (hK : zK D cy s) (hj : zI 6 ad) (hw : zW D 6 (zme cy ad σ) ad H) {A0 : Nat → Prop} (hA : ∀ i, i < 6 → A0 (ad i)) (hS : va_S A0 H0 H locs) (hsz : ls.size = nL) (hrest : (rest.map fun v => v.category).sum ≤ 8) (hdg : decode cc pc = .ok (.invokevirtual index, 3)) (h : wp_X7_tray σ p0 p1 Q) (kk : ∀ (r : Int32) (σ : ST) (H : Heap) (locs : List Loc), Q r σ → zW D 6 (zme cy ad σ) ad H → va_S A0 H0 H locs → W p l e R s m args below meth c H locs cells slots QQ (F0 m (pc + 3) ls (.int r :: rest))) : W p l e R s m args below meth c H locs cells slots QQ (F0 m pc ls (.int p1 :: .int p0 :: .ref (ad 0) :: rest)) :=
  zcalli (va_runV (As := [.int p0, .int p1]) (rest := rest) ⟨hx, hb, hml, hown, hts⟩ (c_X7_tray l D cy ad σ p0 p1 h) (cwV 2 hts hG rfl rfl rfl (by decide +kernel) hR) (zpreV hj hK hw _ (i := 0) (ci := 6) (by decide) rfl rfl) rfl rfl hsz rfl (lv_room hrest) hdg hcs) hA hS kk
set_option maxHeartbeats 4000000 in
set_option maxRecDepth 100000 in
theorem c_X7_gapsOf (l : Launch) (D : va_G) (cy : cyT) (ad : Nat → Nat) (σ : ST) (p0 : Int32) (p1 : Int32) (p2 : Int32) {Q : Int32 → ST → Prop} (h : wp_X7_gapsOf σ p0 p1 p2 Q) : Met l yX7_gapsOf wsX7_gapsOf ({ frames := 3, cells := 0, slots := 0, locals := 69 } : Room) (zPre D cy 6 (zme cy ad σ) ad [.ref (ad 0), .int p0, .int p1, .int p2]) (va_Qi Q (zB D 6 (zme cy ad) ad) (zA 6 ad)) 0 0 (zA 6 ad) := by
  refine Met.ofW (cc := cX7_gapsOf) (maxL := 8) (ret := (some .int)) (by decide) rfl ?_
  intro p e s m args below meth c s₁ B hml hv
  obtain ⟨rfl, hj, hK, hw⟩ := hv
  have hx := B.exec
  have hb := B.bytes
  have hr := B.returns
  have hts := atoms_spec (ws := wsX7_gapsOf) B.pre
  have hown : s.vm.findClass RX7 = some m.cls := findClass_of_methodNamed B.named
  have hlocks := B.notSynchronized
  have hS : va_S (zA 6 ad) s.heap s.heap [] := va_S.rf
  have hA : ∀ i, i < 6 → zA 6 ad (ad i) := fun i hi => ⟨i, hi, rfl⟩
  have hl := lv_entry ([.ref (ad 0), .int p0, .int p1, .int p2]) (n := 8) (Nat.le_of_ble_eq_true rfl)
  rw [lg_entry_eq]
  generalize (lg_sl ([.ref (ad 0), .int p0, .int p1, .int p2]) ++ List.replicate (8 - (lg_sl ([.ref (ad 0), .int p0, .int p1, .int p2])).length) Slot.unset).toArray = ls at hl ⊢
  have hl : lv_has ls 8 [(0, .ref (ad 0)), (1, .int p0), (2, .int p1), (3, .int p2)] := hl
  show W p l e ({ frames := 3, cells := 0, slots := 0, locals := 69 } : Room) s m ([.ref (ad 0), .int p0, .int p1, .int p2] : List Value).toArray below meth c s.heap [] 0 0 (MQ below (va_Qi Q (zB D 6 (zme cy ad) ad) (zA 6 ad)) ([.ref (ad 0), .int p0, .int p1, .int p2] : List Value).toArray s 0 0 (zA 6 ad)) (F0 m 0 ls [])
  unfold wp_X7_gapsOf at h
  refine lv_iconst (v := (jI 0)) hx hb dX7_gapsOf_0 rfl ?_
  refine lv_istore (lv' := [(4, .int (jI 0)), (0, .ref (ad 0)), (1, .int p0), (2, .int p1), (3, .int p2)]) hx hb dX7_gapsOf_1 hl (by decide) rfl (fun ls hl => ?_)
  refine lv_iconst (v := (jI 0)) hx hb dX7_gapsOf_3 rfl ?_
  refine lv_istore (lv' := [(5, .int (jI 0)), (4, .int (jI 0)), (0, .ref (ad 0)), (1, .int p0), (2, .int p1), (3, .int p2)]) hx hb dX7_gapsOf_4 hl (by decide) rfl (fun ls hl => ?_)
  refine lv_aload_n hx hb dX7_gapsOf_6 rfl (lv_at hl 2 rfl) ?_
  refine lv_iload_n hx hb dX7_gapsOf_7 rfl (lv_at hl 3 rfl) ?_
  refine lv_iload_n hx hb dX7_gapsOf_8 rfl (lv_at hl 4 rfl) ?_
  refine k_X7_covers (rest := []) hx hb hml hown hts gX7_gapsOf_X7_covers ⟨Nat.le_of_ble_eq_true rfl, Nat.le_of_ble_eq_true rfl⟩ ⟨Nat.zero_le _, Nat.zero_le _⟩ hK hj hw hA hS hl.1 (Nat.le_of_ble_eq_true rfl) dX7_gapsOf_9 h (fun s1 H locs h hw hS => ?_)
  refine lv_iconst (v := (jI 0)) hx hb dX7_gapsOf_12 rfl ?_
  refine lv_istore (lv' := [(6, .int (jI 0)), (5, .int (jI 0)), (4, .int (jI 0)), (0, .ref (ad 0)), (1, .int p0), (2, .int p1), (3, .int p2)]) hx hb dX7_gapsOf_13 hl (by decide) rfl (fun ls hl => ?_)
  have k70_15 : ∀ (u_70 : ST) (z4_70 : Int32) (z5_70 : Int32) (H : Heap) (locs : List Loc), ((p2 = (jI 0) → Q z5_70 u_70) ∧ (¬ p2 = (jI 0) → Q z4_70 u_70)) → zW D 6 (zme cy ad u_70) ad H → va_S (zA 6 ad) s.heap H locs → ∀ ls : Array Slot, lv_has ls 8 [(3, .int p2), (4, .int z4_70), (5, .int z5_70)] → W p l e ({ frames := 3, cells := 0, slots := 0, locals := 69 } : Room) s m ([.ref (ad 0), .int p0, .int p1, .int p2] : List Value).toArray below meth c H locs 0 0 (MQ below (va_Qi Q (zB D 6 (zme cy ad) ad) (zA 6 ad)) ([.ref (ad 0), .int p0, .int p1, .int p2] : List Value).toArray s 0 0 (zA 6 ad)) (F0 m 70 ls []) := by
    intro u_70 z4_70 z5_70 H locs h hw hS ls hl
    refine lv_iload_n hx hb dX7_gapsOf_70 rfl (lv_at hl 0 rfl) ?_
    refine zif_eq (tgt := 79) hx hb dX7_gapsOf_71 (by decide) (fun c5 => ?_) (fun c5 => ?_)
    · have h := h.1 c5
      refine lv_iload hx hb dX7_gapsOf_79 (lv_at hl 2 rfl) ?_
      exact W.iret (v := z5_70) hx hb hr (fun t ht hW => ⟨⟨_, _, rfl, h, zend hw ht⟩, hS.F ht⟩) hS.2.2 dX7_gapsOf_81
    · have h := h.2 c5
      refine lv_iload hx hb dX7_gapsOf_74 (lv_at hl 1 rfl) ?_
      refine lv_goto (tgt := 81) hx hb dX7_gapsOf_76 (by decide) ?_
      exact W.iret (v := z4_70) hx hb hr (fun t ht hW => ⟨⟨_, _, rfl, h, zend hw ht⟩, hS.F ht⟩) hS.2.2 dX7_gapsOf_81
  have lp15 : ∀ (nn15 : Nat) (t_15 : ST) (y4_15 : Int32) (y5_15 : Int32) (y6_15 : Int32) (H : Heap) (locs : List Loc), wl_X7_gapsOf_15 (fun u_70 z4_70 z5_70 => ((p2 = (jI 0) → Q z5_70 u_70) ∧ (¬ p2 = (jI 0) → Q z4_70 u_70))) p2 nn15 t_15 y4_15 y5_15 y6_15 → zW D 6 (zme cy ad t_15) ad H → va_S (zA 6 ad) s.heap H locs → ∀ ls : Array Slot, lv_has ls 8 [(0, .ref (ad 0)), (3, .int p2), (4, .int y4_15), (5, .int y5_15), (6, .int y6_15)] → W p l e ({ frames := 3, cells := 0, slots := 0, locals := 69 } : Room) s m ([.ref (ad 0), .int p0, .int p1, .int p2] : List Value).toArray below meth c H locs 0 0 (MQ below (va_Qi Q (zB D 6 (zme cy ad) ad) (zA 6 ad)) ([.ref (ad 0), .int p0, .int p1, .int p2] : List Value).toArray s 0 0 (zA 6 ad)) (F0 m 15 ls []) := by
    intro nn15
    induction nn15 with
    | zero => intro _ _ _ _ _ _ h; exact h.elim
    | succ nn15 ih15 =>
      intro t_15 y4_15 y5_15 y6_15 H locs h hw hS ls hl
      simp only [wl_X7_gapsOf_15, wb_X7_gapsOf_15] at h
      refine lv_iload hx hb dX7_gapsOf_15 (lv_at hl 4 rfl) ?_
      refine lv_bipush (v := (jI 24)) hx hb dX7_gapsOf_17 (by decide +kernel) ?_
      refine lv_icmp_ge (tgt := 70) hx hb dX7_gapsOf_19 (by decide) (fun c1 => ?_) (fun c1 => ?_)
      · have h := h.1 c1
        exact k70_15 _ _ _ _ _ h hw hS _ (lv_sub hl [1, 2, 3] rfl)
      · have h := h.2 c1
        refine lv_aload_n hx hb dX7_gapsOf_22 rfl (lv_at hl 0 rfl) ?_
        refine lv_iload hx hb dX7_gapsOf_23 (lv_at hl 4 rfl) ?_
        refine k_X7_endOf (rest := []) hx hb hml hown hts gX7_gapsOf_X7_endOf ⟨Nat.le_of_ble_eq_true rfl, Nat.le_of_ble_eq_true rfl⟩ ⟨Nat.zero_le _, Nat.zero_le _⟩ hK hj hw hA hS hl.1 (Nat.le_of_ble_eq_true rfl) dX7_gapsOf_25 h (fun r1 s2 H locs h hw hS => ?_)
        refine lv_iload hx hb dX7_gapsOf_28 (lv_at hl 4 rfl) ?_
        refine lv_isub hx hb dX7_gapsOf_30 ?_
        refine lv_topi (fun x1 ex1 => ?_)
        have h := h x1 ex1
        refine lv_istore (lv' := [(7, .int x1), (0, .ref (ad 0)), (3, .int p2), (4, .int y4_15), (5, .int y5_15), (6, .int y6_15)]) hx hb dX7_gapsOf_31 hl (by decide) rfl (fun ls hl => ?_)
        refine lv_iload hx hb dX7_gapsOf_33 (lv_at hl 3 rfl) ?_
        refine lv_iload hx hb dX7_gapsOf_35 (lv_at hl 0 rfl) ?_
        refine zif_le (tgt := 44) hx hb dX7_gapsOf_37 (by decide) (fun c2 => ?_) (fun c2 => ?_)
        · have h := h.1 c2
          refine lv_iconst (v := (jI 0)) hx hb dX7_gapsOf_44 rfl ?_
          refine lv_iadd hx hb dX7_gapsOf_45 ?_
          refine lv_topi (fun x2 ex2 => ?_)
          have h := h x2 ex2
          refine lv_istore (lv' := [(4, .int x2), (7, .int x1), (0, .ref (ad 0)), (3, .int p2), (5, .int y5_15), (6, .int y6_15)]) hx hb dX7_gapsOf_46 hl (by decide) rfl (fun ls hl => ?_)
          refine lv_iload hx hb dX7_gapsOf_48 (lv_at hl 1 rfl) ?_
          refine lv_iload hx hb dX7_gapsOf_50 (lv_at hl 4 rfl) ?_
          refine lv_icmp_le (tgt := 60) hx hb dX7_gapsOf_52 (by decide) (fun c3 => ?_) (fun c3 => ?_)
          · have h := h.1 c3
            refine lv_iload hx hb dX7_gapsOf_60 (lv_at hl 4 rfl) ?_
            refine lv_istore (lv' := [(5, .int y5_15), (4, .int x2), (7, .int x1), (0, .ref (ad 0)), (3, .int p2), (6, .int y6_15)]) hx hb dX7_gapsOf_62 hl (by decide) rfl (fun ls hl => ?_)
            obtain ⟨x3, ex3⟩ : ∃ y : Int32, y = y6_15 + (jI 1) := ⟨_, rfl⟩
            have h := h x3 ex3
            refine lv_iinc (v := x3) (lv' := [(6, .int x3), (5, .int y5_15), (4, .int x2), (7, .int x1), (0, .ref (ad 0)), (3, .int p2)]) hx hb dX7_gapsOf_64 hl (k := 5) rfl (by rw [ex3]; rfl) (by decide) rfl (fun ls hl => ?_)
            refine lv_goto (tgt := 15) hx hb dX7_gapsOf_67 (by decide) ?_
            exact ih15 _ _ _ _ _ _ h hw hS _ (lv_sub hl [4, 5, 2, 1, 0] rfl)
          · have h := h.2 c3
            refine lv_iload hx hb dX7_gapsOf_55 (lv_at hl 1 rfl) ?_
            refine lv_goto (tgt := 62) hx hb dX7_gapsOf_57 (by decide) ?_
            refine lv_istore (lv' := [(5, .int x1), (4, .int x2), (7, .int x1), (0, .ref (ad 0)), (3, .int p2), (6, .int y6_15)]) hx hb dX7_gapsOf_62 hl (by decide) rfl (fun ls hl => ?_)
            obtain ⟨x4, ex4⟩ : ∃ y : Int32, y = y6_15 + (jI 1) := ⟨_, rfl⟩
            have h := h x4 ex4
            refine lv_iinc (v := x4) (lv' := [(6, .int x4), (5, .int x1), (4, .int x2), (7, .int x1), (0, .ref (ad 0)), (3, .int p2)]) hx hb dX7_gapsOf_64 hl (k := 5) rfl (by rw [ex4]; rfl) (by decide) rfl (fun ls hl => ?_)
            refine lv_goto (tgt := 15) hx hb dX7_gapsOf_67 (by decide) ?_
            exact ih15 _ _ _ _ _ _ h hw hS _ (lv_sub hl [4, 5, 2, 1, 0] rfl)
        · have h := h.2 c2
          refine lv_iconst (v := (jI 1)) hx hb dX7_gapsOf_40 rfl ?_
          refine lv_goto (tgt := 45) hx hb dX7_gapsOf_41 (by decide) ?_
          refine lv_iadd hx hb dX7_gapsOf_45 ?_
          refine lv_topi (fun x5 ex5 => ?_)
          have h := h x5 ex5
          refine lv_istore (lv' := [(4, .int x5), (7, .int x1), (0, .ref (ad 0)), (3, .int p2), (5, .int y5_15), (6, .int y6_15)]) hx hb dX7_gapsOf_46 hl (by decide) rfl (fun ls hl => ?_)
          refine lv_iload hx hb dX7_gapsOf_48 (lv_at hl 1 rfl) ?_
          refine lv_iload hx hb dX7_gapsOf_50 (lv_at hl 4 rfl) ?_
          refine lv_icmp_le (tgt := 60) hx hb dX7_gapsOf_52 (by decide) (fun c4 => ?_) (fun c4 => ?_)
          · have h := h.1 c4
            refine lv_iload hx hb dX7_gapsOf_60 (lv_at hl 4 rfl) ?_
            refine lv_istore (lv' := [(5, .int y5_15), (4, .int x5), (7, .int x1), (0, .ref (ad 0)), (3, .int p2), (6, .int y6_15)]) hx hb dX7_gapsOf_62 hl (by decide) rfl (fun ls hl => ?_)
            obtain ⟨x6, ex6⟩ : ∃ y : Int32, y = y6_15 + (jI 1) := ⟨_, rfl⟩
            have h := h x6 ex6
            refine lv_iinc (v := x6) (lv' := [(6, .int x6), (5, .int y5_15), (4, .int x5), (7, .int x1), (0, .ref (ad 0)), (3, .int p2)]) hx hb dX7_gapsOf_64 hl (k := 5) rfl (by rw [ex6]; rfl) (by decide) rfl (fun ls hl => ?_)
            refine lv_goto (tgt := 15) hx hb dX7_gapsOf_67 (by decide) ?_
            exact ih15 _ _ _ _ _ _ h hw hS _ (lv_sub hl [4, 5, 2, 1, 0] rfl)
          · have h := h.2 c4
            refine lv_iload hx hb dX7_gapsOf_55 (lv_at hl 1 rfl) ?_
            refine lv_goto (tgt := 62) hx hb dX7_gapsOf_57 (by decide) ?_
            refine lv_istore (lv' := [(5, .int x1), (4, .int x5), (7, .int x1), (0, .ref (ad 0)), (3, .int p2), (6, .int y6_15)]) hx hb dX7_gapsOf_62 hl (by decide) rfl (fun ls hl => ?_)
            obtain ⟨x7, ex7⟩ : ∃ y : Int32, y = y6_15 + (jI 1) := ⟨_, rfl⟩
            have h := h x7 ex7
            refine lv_iinc (v := x7) (lv' := [(6, .int x7), (5, .int x1), (4, .int x5), (7, .int x1), (0, .ref (ad 0)), (3, .int p2)]) hx hb dX7_gapsOf_64 hl (k := 5) rfl (by rw [ex7]; rfl) (by decide) rfl (fun ls hl => ?_)
            refine lv_goto (tgt := 15) hx hb dX7_gapsOf_67 (by decide) ?_
            exact ih15 _ _ _ _ _ _ h hw hS _ (lv_sub hl [4, 5, 2, 1, 0] rfl)
  obtain ⟨nn15, h⟩ := h
  exact lp15 nn15 _ _ _ _ _ _ h hw hS _ (lv_sub hl [3, 6, 2, 1, 0] rfl)
theorem k_X7_gapsOf {p : Program} {l : Launch} {e : Env} {R : Room} {s : State} {m : MethodId} {args : Array Value} {below : List Frame} {meth : Method} {c : Code} {H : Heap} {locs : List Loc} {cells slots : Nat} {QQ : State → Prop} {cc : ByteArray} {pc nL index : Nat} {ls : Array Slot} {rest : List Value} {D : va_G} {cy : cyT} {ad : Nat → Nat} {own : String} {Ts : List Cond} {H0 : Heap} {σ : ST} {p0 : Int32} {p1 : Int32} {p2 : Int32} {Q : Int32 → ST → Prop} (hx : p.tables.exec = Jvm.exec) (hb : c.code = cc) (hml : c.maxLocals = nL) (hown : s.vm.findClass own = some m.cls) (hts : ∀ w ∈ Ts, w.before args s = true) (hG : GoodIn Ts (wsV own index RX7 yX7_gapsOf wsX7_gapsOf)) (hR : 3 + 1 ≤ R.frames ∧ 8 + (8 + 11) + 69 ≤ R.locals) (hcs : cells ≤ R.cells ∧ slots ≤ R.slots) (hK : zK D cy s) (hj : zI 6 ad) (hw : zW D 6 (zme cy ad σ) ad H) {A0 : Nat → Prop} (hA : ∀ i, i < 6 → A0 (ad i)) (hS : va_S A0 H0 H locs) (hsz : ls.size = nL) (hrest : (rest.map fun v => v.category).sum ≤ 8) (hdg : decode cc pc = .ok (.invokevirtual index, 3)) (h : wp_X7_gapsOf σ p0 p1 p2 Q) (kk : ∀ (r : Int32) (σ : ST) (H : Heap) (locs : List Loc), Q r σ → zW D 6 (zme cy ad σ) ad H → va_S A0 H0 H locs → W p l e R s m args below meth c H locs cells slots QQ (F0 m (pc + 3) ls (.int r :: rest))) : W p l e R s m args below meth c H locs cells slots QQ (F0 m pc ls (.int p2 :: .int p1 :: .int p0 :: .ref (ad 0) :: rest)) :=
  zcalli (va_runV (As := [.int p0, .int p1, .int p2]) (rest := rest) ⟨hx, hb, hml, hown, hts⟩ (c_X7_gapsOf l D cy ad σ p0 p1 p2 h) (cwV 3 hts hG rfl rfl rfl (by decide +kernel) hR) (zpreV hj hK hw _ (i := 0) (ci := 6) (by decide) rfl rfl) rfl rfl hsz rfl (lv_room hrest) hdg hcs) hA hS kk
set_option maxHeartbeats 4000000 in
set_option maxRecDepth 100000 in
theorem c_X7_shelfBy (l : Launch) (D : va_G) (cy : cyT) (ad : Nat → Nat) (σ : ST) (p0 : Int32) (p1 : Int32) (p2 : Int32) {Q : Int32 → ST → Prop} (h : wp_X7_shelfBy σ p0 p1 p2 Q) : Met l yX7_shelfBy wsX7_shelfBy ({ frames := 4, cells := 0, slots := 0, locals := 96 } : Room) (zPre D cy 6 (zme cy ad σ) ad [.ref (ad 0), .int p0, .int p1, .int p2]) (va_Qi Q (zB D 6 (zme cy ad) ad) (zA 6 ad)) 0 0 (zA 6 ad) := by
  refine Met.ofW (cc := cX7_shelfBy) (maxL := 4) (ret := (some .int)) (by decide) rfl ?_
  intro p e s m args below meth c s₁ B hml hv
  obtain ⟨rfl, hj, hK, hw⟩ := hv
  have hx := B.exec
  have hb := B.bytes
  have hr := B.returns
  have hts := atoms_spec (ws := wsX7_shelfBy) B.pre
  have hown : s.vm.findClass RX7 = some m.cls := findClass_of_methodNamed B.named
  have hlocks := B.notSynchronized
  have hS : va_S (zA 6 ad) s.heap s.heap [] := va_S.rf
  have hA : ∀ i, i < 6 → zA 6 ad (ad i) := fun i hi => ⟨i, hi, rfl⟩
  have hl := lv_entry ([.ref (ad 0), .int p0, .int p1, .int p2]) (n := 4) (Nat.le_of_ble_eq_true rfl)
  rw [lg_entry_eq]
  generalize (lg_sl ([.ref (ad 0), .int p0, .int p1, .int p2]) ++ List.replicate (4 - (lg_sl ([.ref (ad 0), .int p0, .int p1, .int p2])).length) Slot.unset).toArray = ls at hl ⊢
  have hl : lv_has ls 4 [(0, .ref (ad 0)), (1, .int p0), (2, .int p1), (3, .int p2)] := hl
  show W p l e ({ frames := 4, cells := 0, slots := 0, locals := 96 } : Room) s m ([.ref (ad 0), .int p0, .int p1, .int p2] : List Value).toArray below meth c s.heap [] 0 0 (MQ below (va_Qi Q (zB D 6 (zme cy ad) ad) (zA 6 ad)) ([.ref (ad 0), .int p0, .int p1, .int p2] : List Value).toArray s 0 0 (zA 6 ad)) (F0 m 0 ls [])
  unfold wp_X7_shelfBy at h
  refine lv_iload_n hx hb dX7_shelfBy_0 rfl (lv_at hl 3 rfl) ?_
  rcases Classical.em (p2 = (jI 0)) with c1 | c1
  · have h := h.1 c1
    refine lv_tableIn (tgt := 40) (off := 39) hx hb dX7_shelfBy_1 (by rw [c1]; decide +kernel) (by rw [c1]; decide +kernel) (by rw [c1]; decide +kernel) (by decide) ?_
    refine lv_aload_n hx hb dX7_shelfBy_40 rfl (lv_at hl 0 rfl) ?_
    refine lv_iload_n hx hb dX7_shelfBy_41 rfl (lv_at hl 1 rfl) ?_
    refine lv_iload_n hx hb dX7_shelfBy_42 rfl (lv_at hl 2 rfl) ?_
    refine k_X7_top (rest := []) hx hb hml hown hts gX7_shelfBy_X7_top ⟨Nat.le_of_ble_eq_true rfl, Nat.le_of_ble_eq_true rfl⟩ ⟨Nat.zero_le _, Nat.zero_le _⟩ hK hj hw hA hS hl.1 (Nat.le_of_ble_eq_true rfl) dX7_shelfBy_43 h (fun r1 s1 H locs h hw hS => ?_)
    exact W.iret (v := r1) hx hb hr (fun t ht hW => ⟨⟨_, _, rfl, h, zend hw ht⟩, hS.F ht⟩) hS.2.2 dX7_shelfBy_46
  have h := h.2 c1
  rcases Classical.em (p2 = (jI 1)) with c2 | c2
  · have h := h.1 c2
    refine lv_tableIn (tgt := 47) (off := 46) hx hb dX7_shelfBy_1 (by rw [c2]; decide +kernel) (by rw [c2]; decide +kernel) (by rw [c2]; decide +kernel) (by decide) ?_
    refine lv_aload_n hx hb dX7_shelfBy_47 rfl (lv_at hl 0 rfl) ?_
    refine lv_iload_n hx hb dX7_shelfBy_48 rfl (lv_at hl 1 rfl) ?_
    refine lv_iload_n hx hb dX7_shelfBy_49 rfl (lv_at hl 2 rfl) ?_
    refine k_X7_tall (rest := []) hx hb hml hown hts gX7_shelfBy_X7_tall ⟨Nat.le_of_ble_eq_true rfl, Nat.le_of_ble_eq_true rfl⟩ ⟨Nat.zero_le _, Nat.zero_le _⟩ hK hj hw hA hS hl.1 (Nat.le_of_ble_eq_true rfl) dX7_shelfBy_50 h (fun r2 s2 H locs h hw hS => ?_)
    exact W.iret (v := r2) hx hb hr (fun t ht hW => ⟨⟨_, _, rfl, h, zend hw ht⟩, hS.F ht⟩) hS.2.2 dX7_shelfBy_53
  have h := h.2 c2
  rcases Classical.em (p2 = (jI 2)) with c3 | c3
  · have h := h.1 c3
    refine lv_tableIn (tgt := 54) (off := 53) hx hb dX7_shelfBy_1 (by rw [c3]; decide +kernel) (by rw [c3]; decide +kernel) (by rw [c3]; decide +kernel) (by decide) ?_
    refine lv_aload_n hx hb dX7_shelfBy_54 rfl (lv_at hl 0 rfl) ?_
    refine lv_iload_n hx hb dX7_shelfBy_55 rfl (lv_at hl 1 rfl) ?_
    refine lv_iload_n hx hb dX7_shelfBy_56 rfl (lv_at hl 2 rfl) ?_
    refine k_X7_lettersOn (rest := []) hx hb hml hown hts gX7_shelfBy_X7_lettersOn ⟨Nat.le_of_ble_eq_true rfl, Nat.le_of_ble_eq_true rfl⟩ ⟨Nat.zero_le _, Nat.zero_le _⟩ hK hj hw hA hS hl.1 (Nat.le_of_ble_eq_true rfl) dX7_shelfBy_57 h (fun r3 s3 H locs h hw hS => ?_)
    exact W.iret (v := r3) hx hb hr (fun t ht hW => ⟨⟨_, _, rfl, h, zend hw ht⟩, hS.F ht⟩) hS.2.2 dX7_shelfBy_60
  have h := h.2 c3
  rcases Classical.em (p2 = (jI 3)) with c4 | c4
  · have h := h.1 c4
    refine lv_tableIn (tgt := 61) (off := 60) hx hb dX7_shelfBy_1 (by rw [c4]; decide +kernel) (by rw [c4]; decide +kernel) (by rw [c4]; decide +kernel) (by decide) ?_
    refine lv_aload_n hx hb dX7_shelfBy_61 rfl (lv_at hl 0 rfl) ?_
    refine lv_iload_n hx hb dX7_shelfBy_62 rfl (lv_at hl 1 rfl) ?_
    refine lv_iload_n hx hb dX7_shelfBy_63 rfl (lv_at hl 2 rfl) ?_
    refine lv_iload_n hx hb dX7_shelfBy_64 rfl (lv_at hl 3 rfl) ?_
    refine lv_iconst (v := (jI 3)) hx hb dX7_shelfBy_65 rfl ?_
    refine lv_icmp_ne (tgt := 73) hx hb dX7_shelfBy_66 (by decide) (fun c5 => ?_) (fun c5 => ?_)
    · have h := h.2 c5
      refine lv_iconst (v := (jI 0)) hx hb dX7_shelfBy_73 rfl ?_
      refine k_X7_gapsOf (rest := []) hx hb hml hown hts gX7_shelfBy_X7_gapsOf ⟨Nat.le_of_ble_eq_true rfl, Nat.le_of_ble_eq_true rfl⟩ ⟨Nat.zero_le _, Nat.zero_le _⟩ hK hj hw hA hS hl.1 (Nat.le_of_ble_eq_true rfl) dX7_shelfBy_74 h (fun r4 s4 H locs h hw hS => ?_)
      exact W.iret (v := r4) hx hb hr (fun t ht hW => ⟨⟨_, _, rfl, h, zend hw ht⟩, hS.F ht⟩) hS.2.2 dX7_shelfBy_77
    · have h := h.1 c5
      refine lv_iconst (v := (jI 1)) hx hb dX7_shelfBy_69 rfl ?_
      refine lv_goto (tgt := 74) hx hb dX7_shelfBy_70 (by decide) ?_
      refine k_X7_gapsOf (rest := []) hx hb hml hown hts gX7_shelfBy_X7_gapsOf ⟨Nat.le_of_ble_eq_true rfl, Nat.le_of_ble_eq_true rfl⟩ ⟨Nat.zero_le _, Nat.zero_le _⟩ hK hj hw hA hS hl.1 (Nat.le_of_ble_eq_true rfl) dX7_shelfBy_74 h (fun r5 s5 H locs h hw hS => ?_)
      exact W.iret (v := r5) hx hb hr (fun t ht hW => ⟨⟨_, _, rfl, h, zend hw ht⟩, hS.F ht⟩) hS.2.2 dX7_shelfBy_77
  have h := h.2 c4
  rcases Classical.em (p2 = (jI 4)) with c6 | c6
  · have h := h.1 c6
    refine lv_tableIn (tgt := 61) (off := 60) hx hb dX7_shelfBy_1 (by rw [c6]; decide +kernel) (by rw [c6]; decide +kernel) (by rw [c6]; decide +kernel) (by decide) ?_
    refine lv_aload_n hx hb dX7_shelfBy_61 rfl (lv_at hl 0 rfl) ?_
    refine lv_iload_n hx hb dX7_shelfBy_62 rfl (lv_at hl 1 rfl) ?_
    refine lv_iload_n hx hb dX7_shelfBy_63 rfl (lv_at hl 2 rfl) ?_
    refine lv_iload_n hx hb dX7_shelfBy_64 rfl (lv_at hl 3 rfl) ?_
    refine lv_iconst (v := (jI 3)) hx hb dX7_shelfBy_65 rfl ?_
    refine lv_icmp_ne (tgt := 73) hx hb dX7_shelfBy_66 (by decide) (fun c7 => ?_) (fun c7 => ?_)
    · have h := h.2 c7
      refine lv_iconst (v := (jI 0)) hx hb dX7_shelfBy_73 rfl ?_
      refine k_X7_gapsOf (rest := []) hx hb hml hown hts gX7_shelfBy_X7_gapsOf ⟨Nat.le_of_ble_eq_true rfl, Nat.le_of_ble_eq_true rfl⟩ ⟨Nat.zero_le _, Nat.zero_le _⟩ hK hj hw hA hS hl.1 (Nat.le_of_ble_eq_true rfl) dX7_shelfBy_74 h (fun r6 s6 H locs h hw hS => ?_)
      exact W.iret (v := r6) hx hb hr (fun t ht hW => ⟨⟨_, _, rfl, h, zend hw ht⟩, hS.F ht⟩) hS.2.2 dX7_shelfBy_77
    · have h := h.1 c7
      refine lv_iconst (v := (jI 1)) hx hb dX7_shelfBy_69 rfl ?_
      refine lv_goto (tgt := 74) hx hb dX7_shelfBy_70 (by decide) ?_
      refine k_X7_gapsOf (rest := []) hx hb hml hown hts gX7_shelfBy_X7_gapsOf ⟨Nat.le_of_ble_eq_true rfl, Nat.le_of_ble_eq_true rfl⟩ ⟨Nat.zero_le _, Nat.zero_le _⟩ hK hj hw hA hS hl.1 (Nat.le_of_ble_eq_true rfl) dX7_shelfBy_74 h (fun r7 s7 H locs h hw hS => ?_)
      exact W.iret (v := r7) hx hb hr (fun t ht hW => ⟨⟨_, _, rfl, h, zend hw ht⟩, hS.F ht⟩) hS.2.2 dX7_shelfBy_77
  have h := h.2 c6
  rcases Classical.em (p2 = (jI 5)) with c8 | c8
  · have h := h.1 c8
    refine lv_tableIn (tgt := 78) (off := 77) hx hb dX7_shelfBy_1 (by rw [c8]; decide +kernel) (by rw [c8]; decide +kernel) (by rw [c8]; decide +kernel) (by decide) ?_
    refine lv_aload_n hx hb dX7_shelfBy_78 rfl (lv_at hl 0 rfl) ?_
    refine lv_iload_n hx hb dX7_shelfBy_79 rfl (lv_at hl 1 rfl) ?_
    refine lv_iload_n hx hb dX7_shelfBy_80 rfl (lv_at hl 2 rfl) ?_
    refine k_X7_latestOn (rest := []) hx hb hml hown hts gX7_shelfBy_X7_latestOn ⟨Nat.le_of_ble_eq_true rfl, Nat.le_of_ble_eq_true rfl⟩ ⟨Nat.zero_le _, Nat.zero_le _⟩ hK hj hw hA hS hl.1 (Nat.le_of_ble_eq_true rfl) dX7_shelfBy_81 h (fun r8 s8 H locs h hw hS => ?_)
    exact W.iret (v := r8) hx hb hr (fun t ht hW => ⟨⟨_, _, rfl, h, zend hw ht⟩, hS.F ht⟩) hS.2.2 dX7_shelfBy_84
  have h := h.2 c8
  have hsw1 := zsw_out (x := p2) (0) 6 (fun k hk => by
    match k, hk with
    | 0, _ => exact c1
    | 1, _ => exact c2
    | 2, _ => exact c3
    | 3, _ => exact c4
    | 4, _ => exact c6
    | 5, _ => exact c8
    | k + 6, hk => exact absurd hk (by omega))
  refine lv_tableOut (tgt := 85) hx hb dX7_shelfBy_1 hsw1 (by decide) ?_
  refine lv_aload_n hx hb dX7_shelfBy_85 rfl (lv_at hl 0 rfl) ?_
  refine lv_iload_n hx hb dX7_shelfBy_86 rfl (lv_at hl 1 rfl) ?_
  refine lv_iload_n hx hb dX7_shelfBy_87 rfl (lv_at hl 2 rfl) ?_
  refine k_X7_isNowOn (rest := []) hx hb hml hown hts gX7_shelfBy_X7_isNowOn ⟨Nat.le_of_ble_eq_true rfl, Nat.le_of_ble_eq_true rfl⟩ ⟨Nat.zero_le _, Nat.zero_le _⟩ hK hj hw hA hS hl.1 (Nat.le_of_ble_eq_true rfl) dX7_shelfBy_88 h (fun r9 s9 H locs h hw hS => ?_)
  refine zif_eq (tgt := 98) hx hb dX7_shelfBy_91 (by decide) (fun c9 => ?_) (fun c9 => ?_)
  · have h := h.1 c9
    refine lv_iconst (v := (jI 0)) hx hb dX7_shelfBy_98 rfl ?_
    exact W.iret (v := (jI 0)) hx hb hr (fun t ht hW => ⟨⟨_, _, rfl, h, zend hw ht⟩, hS.F ht⟩) hS.2.2 dX7_shelfBy_99
  · have h := h.2 c9
    refine lv_iconst (v := (jI 1)) hx hb dX7_shelfBy_94 rfl ?_
    refine lv_goto (tgt := 99) hx hb dX7_shelfBy_95 (by decide) ?_
    exact W.iret (v := (jI 1)) hx hb hr (fun t ht hW => ⟨⟨_, _, rfl, h, zend hw ht⟩, hS.F ht⟩) hS.2.2 dX7_shelfBy_99
theorem k_X7_shelfBy {p : Program} {l : Launch} {e : Env} {R : Room} {s : State} {m : MethodId} {args : Array Value} {below : List Frame} {meth : Method} {c : Code} {H : Heap} {locs : List Loc} {cells slots : Nat} {QQ : State → Prop} {cc : ByteArray} {pc nL index : Nat} {ls : Array Slot} {rest : List Value} {D : va_G} {cy : cyT} {ad : Nat → Nat} {own : String} {Ts : List Cond} {H0 : Heap} {σ : ST} {p0 : Int32} {p1 : Int32} {p2 : Int32} {Q : Int32 → ST → Prop} (hx : p.tables.exec = Jvm.exec) (hb : c.code = cc) (hml : c.maxLocals = nL) (hown : s.vm.findClass own = some m.cls) (hts : ∀ w ∈ Ts, w.before args s = true) (hG : GoodIn Ts (wsV own index RX7 yX7_shelfBy wsX7_shelfBy)) (hR : 4 + 1 ≤ R.frames ∧ 8 + (4 + 11) + 96 ≤ R.locals) (hcs : cells ≤ R.cells ∧ slots ≤ R.slots) (hK : zK D cy s) (hj : zI 6 ad) (hw : zW D 6 (zme cy ad σ) ad H) {A0 : Nat → Prop} (hA : ∀ i, i < 6 → A0 (ad i)) (hS : va_S A0 H0 H locs) (hsz : ls.size = nL) (hrest : (rest.map fun v => v.category).sum ≤ 8) (hdg : decode cc pc = .ok (.invokevirtual index, 3)) (h : wp_X7_shelfBy σ p0 p1 p2 Q) (kk : ∀ (r : Int32) (σ : ST) (H : Heap) (locs : List Loc), Q r σ → zW D 6 (zme cy ad σ) ad H → va_S A0 H0 H locs → W p l e R s m args below meth c H locs cells slots QQ (F0 m (pc + 3) ls (.int r :: rest))) : W p l e R s m args below meth c H locs cells slots QQ (F0 m pc ls (.int p2 :: .int p1 :: .int p0 :: .ref (ad 0) :: rest)) :=
  zcalli (va_runV (As := [.int p0, .int p1, .int p2]) (rest := rest) ⟨hx, hb, hml, hown, hts⟩ (c_X7_shelfBy l D cy ad σ p0 p1 p2 h) (cwV 3 hts hG rfl rfl rfl (by decide +kernel) hR) (zpreV hj hK hw _ (i := 0) (ci := 6) (by decide) rfl rfl) rfl rfl hsz rfl (lv_room hrest) hdg hcs) hA hS kk
set_option maxHeartbeats 4000000 in
set_option maxRecDepth 100000 in
theorem c_X7_shelf (l : Launch) (D : va_G) (cy : cyT) (ad : Nat → Nat) (σ : ST) (p0 : Int32) (p1 : Int32) (p2 : Int32) {Q : Int32 → ST → Prop} (h : wp_X7_shelf σ p0 p1 p2 Q) : Met l yX7_shelf wsX7_shelf ({ frames := 5, cells := 0, slots := 0, locals := 119 } : Room) (zPre D cy 6 (zme cy ad σ) ad [.ref (ad 0), .int p0, .int p1, .int p2]) (va_Qi Q (zB D 6 (zme cy ad) ad) (zA 6 ad)) 0 0 (zA 6 ad) := by
  refine Met.ofW (cc := cX7_shelf) (maxL := 4) (ret := (some .int)) (by decide) rfl ?_
  intro p e s m args below meth c s₁ B hml hv
  obtain ⟨rfl, hj, hK, hw⟩ := hv
  have hx := B.exec
  have hb := B.bytes
  have hr := B.returns
  have hts := atoms_spec (ws := wsX7_shelf) B.pre
  have hown : s.vm.findClass RX7 = some m.cls := findClass_of_methodNamed B.named
  have hlocks := B.notSynchronized
  have lk0 : Cond.fieldLink RX7 26 "TypeTraysModel" "thrown" "I" ∈ wsX7_shelf := List.mem_of_getElem? (i := 2) rfl
  have lk1 : Cond.fieldLink RX7 7 "TypeTraysModel" "w" "[I" ∈ wsX7_shelf := List.mem_of_getElem? (i := 1) rfl
  have inX7 : ∀ w ∈ u_ws RX7 TX7 16, w ∈ wsX7_shelf := zin_at 68 rfl
  have hS : va_S (zA 6 ad) s.heap s.heap [] := va_S.rf
  have hA : ∀ i, i < 6 → zA 6 ad (ad i) := fun i hi => ⟨i, hi, rfl⟩
  have hl := lv_entry ([.ref (ad 0), .int p0, .int p1, .int p2]) (n := 4) (Nat.le_of_ble_eq_true rfl)
  rw [lg_entry_eq]
  generalize (lg_sl ([.ref (ad 0), .int p0, .int p1, .int p2]) ++ List.replicate (4 - (lg_sl ([.ref (ad 0), .int p0, .int p1, .int p2])).length) Slot.unset).toArray = ls at hl ⊢
  have hl : lv_has ls 4 [(0, .ref (ad 0)), (1, .int p0), (2, .int p1), (3, .int p2)] := hl
  show W p l e ({ frames := 5, cells := 0, slots := 0, locals := 119 } : Room) s m ([.ref (ad 0), .int p0, .int p1, .int p2] : List Value).toArray below meth c s.heap [] 0 0 (MQ below (va_Qi Q (zB D 6 (zme cy ad) ad) (zA 6 ad)) ([.ref (ad 0), .int p0, .int p1, .int p2] : List Value).toArray s 0 0 (zA 6 ad)) (F0 m 0 ls [])
  unfold wp_X7_shelf at h
  refine lv_aload_n hx hb dX7_shelf_0 rfl (lv_at hl 0 rfl) ?_
  refine lv_aload_n hx hb dX7_shelf_1 rfl (lv_at hl 0 rfl) ?_
  refine lv_iload_n hx hb dX7_shelf_2 rfl (lv_at hl 1 rfl) ?_
  refine k_X7_isTray (rest := [.ref (ad 0)]) hx hb hml hown hts gX7_shelf_X7_isTray ⟨Nat.le_of_ble_eq_true rfl, Nat.le_of_ble_eq_true rfl⟩ ⟨Nat.zero_le _, Nat.zero_le _⟩ hK hj hw hA hS hl.1 (Nat.le_of_ble_eq_true rfl) dX7_shelf_3 h (fun r1 s1 H locs h hw hS => ?_)
  refine zif_eq (tgt := 28) hx hb dX7_shelf_6 (by decide) (fun c1 => ?_) (fun c1 => ?_)
  · have h := h.1 c1
    refine lv_iconst (v := (jI 1)) hx hb dX7_shelf_28 rfl ?_
    refine lv_goto (tgt := 47) hx hb dX7_shelf_29 (by decide) ?_
    obtain ⟨s2, es2⟩ : ∃ y : ST, y = zsp s1 1 (jI 1) := ⟨_, rfl⟩
    have h := h s2 es2
    refine zput (ty := .int) hx hb hts inX7 tyX7 tyX7_ok nmX7 hown hK hj hw hA hS 0 (by decide) rfl rfl 3 (by decide) lk0 (fun _ h9 => h9) rfl (by decide +kernel) rfl rfl (Nat.le_of_ble_eq_true rfl) dX7_shelf_47 (zme cy ad s2) (by rw [es2]; rfl) (fun j hj9 => by rw [es2]; exact zsp_off_M_1 j hj9) (fun H locs hw hS => ?_)
    refine lv_aload_n hx hb dX7_shelf_50 rfl (lv_at hl 0 rfl) ?_
    refine zget hx hb hts inX7 hown hK hw 0 (by decide) rfl rfl 3 (by decide) lk0 (fun _ h9 => h9) rfl dX7_shelf_51 ?_
    refine zif_le (tgt := 61) hx hb dX7_shelf_54 (by decide) (fun c2 => ?_) (fun c2 => ?_)
    · have h := h.1 c2
      refine lv_aload_n hx hb dX7_shelf_61 rfl (lv_at hl 0 rfl) ?_
      refine lv_iload_n hx hb dX7_shelf_62 rfl (lv_at hl 1 rfl) ?_
      refine lv_iload_n hx hb dX7_shelf_63 rfl (lv_at hl 2 rfl) ?_
      refine lv_iload_n hx hb dX7_shelf_64 rfl (lv_at hl 3 rfl) ?_
      refine k_X7_shelfBy (rest := []) hx hb hml hown hts gX7_shelf_X7_shelfBy ⟨Nat.le_of_ble_eq_true rfl, Nat.le_of_ble_eq_true rfl⟩ ⟨Nat.zero_le _, Nat.zero_le _⟩ hK hj hw hA hS hl.1 (Nat.le_of_ble_eq_true rfl) dX7_shelf_65 h (fun r2 s3 H locs h hw hS => ?_)
      exact W.iret (v := r2) hx hb hr (fun t ht hW => ⟨⟨_, _, rfl, h, zend hw ht⟩, hS.F ht⟩) hS.2.2 dX7_shelf_68
    · have h := h.2 c2
      refine lv_iconst (v := (jI 0)) hx hb dX7_shelf_57 rfl ?_
      refine lv_goto (tgt := 68) hx hb dX7_shelf_58 (by decide) ?_
      exact W.iret (v := (jI 0)) hx hb hr (fun t ht hW => ⟨⟨_, _, rfl, h, zend hw ht⟩, hS.F ht⟩) hS.2.2 dX7_shelf_68
  · have h := h.2 c1
    refine lv_iload_n hx hb dX7_shelf_9 rfl (lv_at hl 2 rfl) ?_
    refine lv_iconst (v := (jI 0)) hx hb dX7_shelf_10 rfl ?_
    refine lv_aload_n hx hb dX7_shelf_11 rfl (lv_at hl 0 rfl) ?_
    refine zget hx hb hts inX7 hown hK hw 0 (by decide) rfl rfl 0 (by decide) lk1 (fun _ h9 => h9) rfl dX7_shelf_12 ?_
    refine lv_bipush (v := (jI 44)) hx hb dX7_shelf_15 (by decide +kernel) ?_
    refine lv_iload_n hx hb dX7_shelf_17 rfl (lv_at hl 1 rfl) ?_
    refine lv_iadd hx hb dX7_shelf_18 ?_
    refine ziald hx hb hK hw 1 (by decide) rfl h.1 dX7_shelf_19 ?_
    refine lv_topi (fun v1 ev1 => ?_)
    have h := h.2 v1 ev1
    refine lv_iconst (v := (jI 1)) hx hb dX7_shelf_20 rfl ?_
    refine lv_isub hx hb dX7_shelf_21 ?_
    refine k_X7_in (rest := [.ref (ad 0)]) hx hb hml hown hts gX7_shelf_X7_in ⟨Nat.le_of_ble_eq_true rfl, Nat.le_of_ble_eq_true rfl⟩ ⟨Nat.zero_le _, Nat.zero_le _⟩ hK hj hw hA hS hl.1 (Nat.le_of_ble_eq_true rfl) dX7_shelf_22 h (fun r3 s4 H locs h hw hS => ?_)
    refine zif_ne (tgt := 32) hx hb dX7_shelf_25 (by decide) (fun c3 => ?_) (fun c3 => ?_)
    · have h := h.2 c3
      refine lv_iload_n hx hb dX7_shelf_32 rfl (lv_at hl 3 rfl) ?_
      refine lv_iconst (v := (jI 0)) hx hb dX7_shelf_33 rfl ?_
      refine lv_bipush (v := (jI 6)) hx hb dX7_shelf_34 (by decide +kernel) ?_
      refine k_X7_in (rest := [.ref (ad 0)]) hx hb hml hown hts gX7_shelf_X7_in ⟨Nat.le_of_ble_eq_true rfl, Nat.le_of_ble_eq_true rfl⟩ ⟨Nat.zero_le _, Nat.zero_le _⟩ hK hj hw hA hS hl.1 (Nat.le_of_ble_eq_true rfl) dX7_shelf_36 h (fun r4 s5 H locs h hw hS => ?_)
      refine zif_ne (tgt := 46) hx hb dX7_shelf_39 (by decide) (fun c4 => ?_) (fun c4 => ?_)
      · have h := h.2 c4
        refine lv_iconst (v := (jI 0)) hx hb dX7_shelf_46 rfl ?_
        obtain ⟨s6, es6⟩ : ∃ y : ST, y = zsp s5 1 (jI 0) := ⟨_, rfl⟩
        have h := h s6 es6
        refine zput (ty := .int) hx hb hts inX7 tyX7 tyX7_ok nmX7 hown hK hj hw hA hS 0 (by decide) rfl rfl 3 (by decide) lk0 (fun _ h9 => h9) rfl (by decide +kernel) rfl rfl (Nat.le_of_ble_eq_true rfl) dX7_shelf_47 (zme cy ad s6) (by rw [es6]; rfl) (fun j hj9 => by rw [es6]; exact zsp_off_M_1 j hj9) (fun H locs hw hS => ?_)
        refine lv_aload_n hx hb dX7_shelf_50 rfl (lv_at hl 0 rfl) ?_
        refine zget hx hb hts inX7 hown hK hw 0 (by decide) rfl rfl 3 (by decide) lk0 (fun _ h9 => h9) rfl dX7_shelf_51 ?_
        refine zif_le (tgt := 61) hx hb dX7_shelf_54 (by decide) (fun c5 => ?_) (fun c5 => ?_)
        · have h := h.1 c5
          refine lv_aload_n hx hb dX7_shelf_61 rfl (lv_at hl 0 rfl) ?_
          refine lv_iload_n hx hb dX7_shelf_62 rfl (lv_at hl 1 rfl) ?_
          refine lv_iload_n hx hb dX7_shelf_63 rfl (lv_at hl 2 rfl) ?_
          refine lv_iload_n hx hb dX7_shelf_64 rfl (lv_at hl 3 rfl) ?_
          refine k_X7_shelfBy (rest := []) hx hb hml hown hts gX7_shelf_X7_shelfBy ⟨Nat.le_of_ble_eq_true rfl, Nat.le_of_ble_eq_true rfl⟩ ⟨Nat.zero_le _, Nat.zero_le _⟩ hK hj hw hA hS hl.1 (Nat.le_of_ble_eq_true rfl) dX7_shelf_65 h (fun r5 s7 H locs h hw hS => ?_)
          exact W.iret (v := r5) hx hb hr (fun t ht hW => ⟨⟨_, _, rfl, h, zend hw ht⟩, hS.F ht⟩) hS.2.2 dX7_shelf_68
        · have h := h.2 c5
          refine lv_iconst (v := (jI 0)) hx hb dX7_shelf_57 rfl ?_
          refine lv_goto (tgt := 68) hx hb dX7_shelf_58 (by decide) ?_
          exact W.iret (v := (jI 0)) hx hb hr (fun t ht hW => ⟨⟨_, _, rfl, h, zend hw ht⟩, hS.F ht⟩) hS.2.2 dX7_shelf_68
      · have h := h.1 c4
        refine lv_iconst (v := (jI 2)) hx hb dX7_shelf_42 rfl ?_
        refine lv_goto (tgt := 47) hx hb dX7_shelf_43 (by decide) ?_
        obtain ⟨s8, es8⟩ : ∃ y : ST, y = zsp s5 1 (jI 2) := ⟨_, rfl⟩
        have h := h s8 es8
        refine zput (ty := .int) hx hb hts inX7 tyX7 tyX7_ok nmX7 hown hK hj hw hA hS 0 (by decide) rfl rfl 3 (by decide) lk0 (fun _ h9 => h9) rfl (by decide +kernel) rfl rfl (Nat.le_of_ble_eq_true rfl) dX7_shelf_47 (zme cy ad s8) (by rw [es8]; rfl) (fun j hj9 => by rw [es8]; exact zsp_off_M_1 j hj9) (fun H locs hw hS => ?_)
        refine lv_aload_n hx hb dX7_shelf_50 rfl (lv_at hl 0 rfl) ?_
        refine zget hx hb hts inX7 hown hK hw 0 (by decide) rfl rfl 3 (by decide) lk0 (fun _ h9 => h9) rfl dX7_shelf_51 ?_
        refine zif_le (tgt := 61) hx hb dX7_shelf_54 (by decide) (fun c6 => ?_) (fun c6 => ?_)
        · have h := h.1 c6
          refine lv_aload_n hx hb dX7_shelf_61 rfl (lv_at hl 0 rfl) ?_
          refine lv_iload_n hx hb dX7_shelf_62 rfl (lv_at hl 1 rfl) ?_
          refine lv_iload_n hx hb dX7_shelf_63 rfl (lv_at hl 2 rfl) ?_
          refine lv_iload_n hx hb dX7_shelf_64 rfl (lv_at hl 3 rfl) ?_
          refine k_X7_shelfBy (rest := []) hx hb hml hown hts gX7_shelf_X7_shelfBy ⟨Nat.le_of_ble_eq_true rfl, Nat.le_of_ble_eq_true rfl⟩ ⟨Nat.zero_le _, Nat.zero_le _⟩ hK hj hw hA hS hl.1 (Nat.le_of_ble_eq_true rfl) dX7_shelf_65 h (fun r6 s9 H locs h hw hS => ?_)
          exact W.iret (v := r6) hx hb hr (fun t ht hW => ⟨⟨_, _, rfl, h, zend hw ht⟩, hS.F ht⟩) hS.2.2 dX7_shelf_68
        · have h := h.2 c6
          refine lv_iconst (v := (jI 0)) hx hb dX7_shelf_57 rfl ?_
          refine lv_goto (tgt := 68) hx hb dX7_shelf_58 (by decide) ?_
          exact W.iret (v := (jI 0)) hx hb hr (fun t ht hW => ⟨⟨_, _, rfl, h, zend hw ht⟩, hS.F ht⟩) hS.2.2 dX7_shelf_68
    · have h := h.1 c3
      refine lv_iconst (v := (jI 1)) hx hb dX7_shelf_28 rfl ?_
      refine lv_goto (tgt := 47) hx hb dX7_shelf_29 (by decide) ?_
      obtain ⟨s10, es10⟩ : ∃ y : ST, y = zsp s4 1 (jI 1) := ⟨_, rfl⟩
      have h := h s10 es10
      refine zput (ty := .int) hx hb hts inX7 tyX7 tyX7_ok nmX7 hown hK hj hw hA hS 0 (by decide) rfl rfl 3 (by decide) lk0 (fun _ h9 => h9) rfl (by decide +kernel) rfl rfl (Nat.le_of_ble_eq_true rfl) dX7_shelf_47 (zme cy ad s10) (by rw [es10]; rfl) (fun j hj9 => by rw [es10]; exact zsp_off_M_1 j hj9) (fun H locs hw hS => ?_)
      refine lv_aload_n hx hb dX7_shelf_50 rfl (lv_at hl 0 rfl) ?_
      refine zget hx hb hts inX7 hown hK hw 0 (by decide) rfl rfl 3 (by decide) lk0 (fun _ h9 => h9) rfl dX7_shelf_51 ?_
      refine zif_le (tgt := 61) hx hb dX7_shelf_54 (by decide) (fun c7 => ?_) (fun c7 => ?_)
      · have h := h.1 c7
        refine lv_aload_n hx hb dX7_shelf_61 rfl (lv_at hl 0 rfl) ?_
        refine lv_iload_n hx hb dX7_shelf_62 rfl (lv_at hl 1 rfl) ?_
        refine lv_iload_n hx hb dX7_shelf_63 rfl (lv_at hl 2 rfl) ?_
        refine lv_iload_n hx hb dX7_shelf_64 rfl (lv_at hl 3 rfl) ?_
        refine k_X7_shelfBy (rest := []) hx hb hml hown hts gX7_shelf_X7_shelfBy ⟨Nat.le_of_ble_eq_true rfl, Nat.le_of_ble_eq_true rfl⟩ ⟨Nat.zero_le _, Nat.zero_le _⟩ hK hj hw hA hS hl.1 (Nat.le_of_ble_eq_true rfl) dX7_shelf_65 h (fun r7 s11 H locs h hw hS => ?_)
        exact W.iret (v := r7) hx hb hr (fun t ht hW => ⟨⟨_, _, rfl, h, zend hw ht⟩, hS.F ht⟩) hS.2.2 dX7_shelf_68
      · have h := h.2 c7
        refine lv_iconst (v := (jI 0)) hx hb dX7_shelf_57 rfl ?_
        refine lv_goto (tgt := 68) hx hb dX7_shelf_58 (by decide) ?_
        exact W.iret (v := (jI 0)) hx hb hr (fun t ht hW => ⟨⟨_, _, rfl, h, zend hw ht⟩, hS.F ht⟩) hS.2.2 dX7_shelf_68
theorem k_X7_shelf {p : Program} {l : Launch} {e : Env} {R : Room} {s : State} {m : MethodId} {args : Array Value} {below : List Frame} {meth : Method} {c : Code} {H : Heap} {locs : List Loc} {cells slots : Nat} {QQ : State → Prop} {cc : ByteArray} {pc nL index : Nat} {ls : Array Slot} {rest : List Value} {D : va_G} {cy : cyT} {ad : Nat → Nat} {own : String} {Ts : List Cond} {H0 : Heap} {σ : ST} {p0 : Int32} {p1 : Int32} {p2 : Int32} {Q : Int32 → ST → Prop} (hx : p.tables.exec = Jvm.exec) (hb : c.code = cc) (hml : c.maxLocals = nL) (hown : s.vm.findClass own = some m.cls) (hts : ∀ w ∈ Ts, w.before args s = true) (hG : GoodIn Ts (wsV own index RX7 yX7_shelf wsX7_shelf)) (hR : 5 + 1 ≤ R.frames ∧ 8 + (4 + 11) + 119 ≤ R.locals) (hcs : cells ≤ R.cells ∧ slots ≤ R.slots) (hK : zK D cy s) (hj : zI 6 ad) (hw : zW D 6 (zme cy ad σ) ad H) {A0 : Nat → Prop} (hA : ∀ i, i < 6 → A0 (ad i)) (hS : va_S A0 H0 H locs) (hsz : ls.size = nL) (hrest : (rest.map fun v => v.category).sum ≤ 8) (hdg : decode cc pc = .ok (.invokevirtual index, 3)) (h : wp_X7_shelf σ p0 p1 p2 Q) (kk : ∀ (r : Int32) (σ : ST) (H : Heap) (locs : List Loc), Q r σ → zW D 6 (zme cy ad σ) ad H → va_S A0 H0 H locs → W p l e R s m args below meth c H locs cells slots QQ (F0 m (pc + 3) ls (.int r :: rest))) : W p l e R s m args below meth c H locs cells slots QQ (F0 m pc ls (.int p2 :: .int p1 :: .int p0 :: .ref (ad 0) :: rest)) :=
  zcalli (va_runV (As := [.int p0, .int p1, .int p2]) (rest := rest) ⟨hx, hb, hml, hown, hts⟩ (c_X7_shelf l D cy ad σ p0 p1 p2 h) (cwV 3 hts hG rfl rfl rfl (by decide +kernel) hR) (zpreV hj hK hw _ (i := 0) (ci := 6) (by decide) rfl rfl) rfl rfl hsz rfl (lv_room hrest) hdg hcs) hA hS kk
set_option maxHeartbeats 4000000 in
set_option maxRecDepth 100000 in
theorem c_X7_at (l : Launch) (D : va_G) (cy : cyT) (ad : Nat → Nat) (σ : ST) (p0 : Int32) (p1 : Int32) (p2 : Int32) {Q : Int32 → ST → Prop} (h : wp_X7_at σ p0 p1 p2 Q) : Met l yX7_at wsX7_at ({ frames := 2, cells := 0, slots := 0, locals := 46 } : Room) (zPre D cy 6 (zme cy ad σ) ad [.ref (ad 0), .int p0, .int p1, .int p2]) (va_Qi Q (zB D 6 (zme cy ad) ad) (zA 6 ad)) 0 0 (zA 6 ad) := by
  refine Met.ofW (cc := cX7_at) (maxL := 7) (ret := (some .int)) (by decide) rfl ?_
  intro p e s m args below meth c s₁ B hml hv
  obtain ⟨rfl, hj, hK, hw⟩ := hv
  have hx := B.exec
  have hb := B.bytes
  have hr := B.returns
  have hts := atoms_spec (ws := wsX7_at) B.pre
  have hown : s.vm.findClass RX7 = some m.cls := findClass_of_methodNamed B.named
  have hlocks := B.notSynchronized
  have lk0 : Cond.fieldLink RX7 26 "TypeTraysModel" "thrown" "I" ∈ wsX7_at := List.mem_of_getElem? (i := 1) rfl
  have inX7 : ∀ w ∈ u_ws RX7 TX7 16, w ∈ wsX7_at := zin_at 34 rfl
  have hS : va_S (zA 6 ad) s.heap s.heap [] := va_S.rf
  have hA : ∀ i, i < 6 → zA 6 ad (ad i) := fun i hi => ⟨i, hi, rfl⟩
  have hl := lv_entry ([.ref (ad 0), .int p0, .int p1, .int p2]) (n := 7) (Nat.le_of_ble_eq_true rfl)
  rw [lg_entry_eq]
  generalize (lg_sl ([.ref (ad 0), .int p0, .int p1, .int p2]) ++ List.replicate (7 - (lg_sl ([.ref (ad 0), .int p0, .int p1, .int p2])).length) Slot.unset).toArray = ls at hl ⊢
  have hl : lv_has ls 7 [(0, .ref (ad 0)), (1, .int p0), (2, .int p1), (3, .int p2)] := hl
  show W p l e ({ frames := 2, cells := 0, slots := 0, locals := 46 } : Room) s m ([.ref (ad 0), .int p0, .int p1, .int p2] : List Value).toArray below meth c s.heap [] 0 0 (MQ below (va_Qi Q (zB D 6 (zme cy ad) ad) (zA 6 ad)) ([.ref (ad 0), .int p0, .int p1, .int p2] : List Value).toArray s 0 0 (zA 6 ad)) (F0 m 0 ls [])
  unfold wp_X7_at at h
  refine lv_aload_n hx hb dX7_at_0 rfl (lv_at hl 0 rfl) ?_
  refine lv_aload_n hx hb dX7_at_1 rfl (lv_at hl 0 rfl) ?_
  refine lv_iload_n hx hb dX7_at_2 rfl (lv_at hl 1 rfl) ?_
  refine k_X7_isTray (rest := [.ref (ad 0)]) hx hb hml hown hts gX7_at_X7_isTray ⟨Nat.le_of_ble_eq_true rfl, Nat.le_of_ble_eq_true rfl⟩ ⟨Nat.zero_le _, Nat.zero_le _⟩ hK hj hw hA hS hl.1 (Nat.le_of_ble_eq_true rfl) dX7_at_3 h (fun r1 s1 H locs h hw hS => ?_)
  refine zif_ne (tgt := 13) hx hb dX7_at_6 (by decide) (fun c1 => ?_) (fun c1 => ?_)
  · have h := h.2 c1
    refine lv_iload_n hx hb dX7_at_13 rfl (lv_at hl 2 rfl) ?_
    refine lv_iconst (v := (jI 0)) hx hb dX7_at_14 rfl ?_
    refine lv_bipush (v := (jI 23)) hx hb dX7_at_15 (by decide +kernel) ?_
    refine k_X7_in (rest := [.ref (ad 0)]) hx hb hml hown hts gX7_at_X7_in ⟨Nat.le_of_ble_eq_true rfl, Nat.le_of_ble_eq_true rfl⟩ ⟨Nat.zero_le _, Nat.zero_le _⟩ hK hj hw hA hS hl.1 (Nat.le_of_ble_eq_true rfl) dX7_at_17 h (fun r2 s2 H locs h hw hS => ?_)
    refine zif_eq (tgt := 33) hx hb dX7_at_20 (by decide) (fun c2 => ?_) (fun c2 => ?_)
    · have h := h.1 c2
      refine lv_iconst (v := (jI 2)) hx hb dX7_at_33 rfl ?_
      refine lv_goto (tgt := 38) hx hb dX7_at_34 (by decide) ?_
      obtain ⟨s3, es3⟩ : ∃ y : ST, y = zsp s2 1 (jI 2) := ⟨_, rfl⟩
      have h := h s3 es3
      refine zput (ty := .int) hx hb hts inX7 tyX7 tyX7_ok nmX7 hown hK hj hw hA hS 0 (by decide) rfl rfl 3 (by decide) lk0 (fun _ h9 => h9) rfl (by decide +kernel) rfl rfl (Nat.le_of_ble_eq_true rfl) dX7_at_38 (zme cy ad s3) (by rw [es3]; rfl) (fun j hj9 => by rw [es3]; exact zsp_off_M_1 j hj9) (fun H locs hw hS => ?_)
      refine lv_iconst (v := (jI 0)) hx hb dX7_at_41 rfl ?_
      refine lv_istore (lv' := [(4, .int (jI 0)), (0, .ref (ad 0)), (1, .int p0), (2, .int p1), (3, .int p2)]) hx hb dX7_at_42 hl (by decide) rfl (fun ls hl => ?_)
      have k133_44 : ∀ (u_133 : ST) (z4_133 : Int32) (H : Heap) (locs : List Loc), wp_X7_codeOf u_133 z4_133 (fun r11 s12 => Q r11 s12) → zW D 6 (zme cy ad u_133) ad H → va_S (zA 6 ad) s.heap H locs → ∀ ls : Array Slot, lv_has ls 7 [(4, .int z4_133)] → W p l e ({ frames := 2, cells := 0, slots := 0, locals := 46 } : Room) s m ([.ref (ad 0), .int p0, .int p1, .int p2] : List Value).toArray below meth c H locs 0 0 (MQ below (va_Qi Q (zB D 6 (zme cy ad) ad) (zA 6 ad)) ([.ref (ad 0), .int p0, .int p1, .int p2] : List Value).toArray s 0 0 (zA 6 ad)) (F0 m 133 ls []) := by
        intro u_133 z4_133 H locs h hw hS ls hl
        refine lv_iload hx hb dX7_at_133 (lv_at hl 0 rfl) ?_
        refine k_X7_codeOf (rest := []) hx hb hml hown hts gX7_at_X7_codeOf ⟨Nat.le_of_ble_eq_true rfl, Nat.le_of_ble_eq_true rfl⟩ ⟨Nat.zero_le _, Nat.zero_le _⟩ hK hj hw hA hS hl.1 (Nat.le_of_ble_eq_true rfl) dX7_at_135 h (fun r11 s12 H locs h hw hS => ?_)
        exact W.iret (v := r11) hx hb hr (fun t ht hW => ⟨⟨_, _, rfl, h, zend hw ht⟩, hS.F ht⟩) hS.2.2 dX7_at_138
      have k145_44 : ∀ (u_145 : ST) (H : Heap) (locs : List Loc), (((u_145.2 1) ≤ (jI 0) → Q (jI (-1)) u_145) ∧ (¬ (u_145.2 1) ≤ (jI 0) → Q (jI 0) u_145)) → zW D 6 (zme cy ad u_145) ad H → va_S (zA 6 ad) s.heap H locs → ∀ ls : Array Slot, lv_has ls 7 [(0, .ref (ad 0))] → W p l e ({ frames := 2, cells := 0, slots := 0, locals := 46 } : Room) s m ([.ref (ad 0), .int p0, .int p1, .int p2] : List Value).toArray below meth c H locs 0 0 (MQ below (va_Qi Q (zB D 6 (zme cy ad) ad) (zA 6 ad)) ([.ref (ad 0), .int p0, .int p1, .int p2] : List Value).toArray s 0 0 (zA 6 ad)) (F0 m 145 ls []) := by
        intro u_145 H locs h hw hS ls hl
        refine lv_aload_n hx hb dX7_at_145 rfl (lv_at hl 0 rfl) ?_
        refine zget hx hb hts inX7 hown hK hw 0 (by decide) rfl rfl 3 (by decide) lk0 (fun _ h9 => h9) rfl dX7_at_146 ?_
        refine zif_le (tgt := 156) hx hb dX7_at_149 (by decide) (fun c8 => ?_) (fun c8 => ?_)
        · have h := h.1 c8
          refine lv_iconst (v := (jI (-1))) hx hb dX7_at_156 rfl ?_
          exact W.iret (v := (jI (-1))) hx hb hr (fun t ht hW => ⟨⟨_, _, rfl, h, zend hw ht⟩, hS.F ht⟩) hS.2.2 dX7_at_157
        · have h := h.2 c8
          refine lv_iconst (v := (jI 0)) hx hb dX7_at_152 rfl ?_
          refine lv_goto (tgt := 157) hx hb dX7_at_153 (by decide) ?_
          exact W.iret (v := (jI 0)) hx hb hr (fun t ht hW => ⟨⟨_, _, rfl, h, zend hw ht⟩, hS.F ht⟩) hS.2.2 dX7_at_157
      have lp44 : ∀ (nn44 : Nat) (t_44 : ST) (y4_44 : Int32) (H : Heap) (locs : List Loc), wl_X7_at_44 (fun u_133 z4_133 => wp_X7_codeOf u_133 z4_133 (fun r11 s12 => Q r11 s12)) (fun u_145 => (((u_145.2 1) ≤ (jI 0) → Q (jI (-1)) u_145) ∧ (¬ (u_145.2 1) ≤ (jI 0) → Q (jI 0) u_145))) p0 p1 p2 nn44 t_44 y4_44 → zW D 6 (zme cy ad t_44) ad H → va_S (zA 6 ad) s.heap H locs → ∀ ls : Array Slot, lv_has ls 7 [(0, .ref (ad 0)), (1, .int p0), (2, .int p1), (3, .int p2), (4, .int y4_44)] → W p l e ({ frames := 2, cells := 0, slots := 0, locals := 46 } : Room) s m ([.ref (ad 0), .int p0, .int p1, .int p2] : List Value).toArray below meth c H locs 0 0 (MQ below (va_Qi Q (zB D 6 (zme cy ad) ad) (zA 6 ad)) ([.ref (ad 0), .int p0, .int p1, .int p2] : List Value).toArray s 0 0 (zA 6 ad)) (F0 m 44 ls []) := by
        intro nn44
        induction nn44 with
        | zero => intro _ _ _ _ h; exact h.elim
        | succ nn44 ih44 =>
          intro t_44 y4_44 H locs h hw hS ls hl
          simp only [wl_X7_at_44, wb_X7_at_44] at h
          refine lv_iload hx hb dX7_at_44 (lv_at hl 4 rfl) ?_
          refine lv_sipush (v := (jI 144)) hx hb dX7_at_46 (by decide +kernel) ?_
          refine lv_icmp_ge (tgt := 145) hx hb dX7_at_49 (by decide) (fun c3 => ?_) (fun c3 => ?_)
          · have h := h.1 c3
            exact k145_44 _ _ _ h hw hS _ (lv_sub hl [0] rfl)
          · have h := h.2 c3
            refine lv_aload_n hx hb dX7_at_52 rfl (lv_at hl 0 rfl) ?_
            refine zget hx hb hts inX7 hown hK hw 0 (by decide) rfl rfl 3 (by decide) lk0 (fun _ h9 => h9) rfl dX7_at_53 ?_
            refine zif_ne (tgt := 145) hx hb dX7_at_56 (by decide) (fun c4 => ?_) (fun c4 => ?_)
            · have h := h.2 c4
              exact k145_44 _ _ _ h hw hS _ (lv_sub hl [0] rfl)
            · have h := h.1 c4
              refine lv_aload_n hx hb dX7_at_59 rfl (lv_at hl 0 rfl) ?_
              refine lv_iload hx hb dX7_at_60 (lv_at hl 4 rfl) ?_
              refine lv_iconst (v := (jI 0)) hx hb dX7_at_62 rfl ?_
              refine k_X7_of (rest := []) hx hb hml hown hts gX7_at_X7_of ⟨Nat.le_of_ble_eq_true rfl, Nat.le_of_ble_eq_true rfl⟩ ⟨Nat.zero_le _, Nat.zero_le _⟩ hK hj hw hA hS hl.1 (Nat.le_of_ble_eq_true rfl) dX7_at_63 h (fun r3 s4 H locs h hw hS => ?_)
              refine lv_iload_n hx hb dX7_at_66 rfl (lv_at hl 1 rfl) ?_
              refine lv_icmp_ne (tgt := 139) hx hb dX7_at_67 (by decide) (fun c5 => ?_) (fun c5 => ?_)
              · have h := h.2 c5
                obtain ⟨x1, ex1⟩ : ∃ y : Int32, y = y4_44 + (jI 1) := ⟨_, rfl⟩
                have h := h x1 ex1
                refine lv_iinc (v := x1) (lv' := [(4, .int x1), (0, .ref (ad 0)), (1, .int p0), (2, .int p1), (3, .int p2)]) hx hb dX7_at_139 hl (k := 4) rfl (by rw [ex1]; rfl) (by decide) rfl (fun ls hl => ?_)
                refine lv_goto (tgt := 44) hx hb dX7_at_142 (by decide) ?_
                exact ih44 _ _ _ _ h hw hS _ (lv_sub hl [1, 2, 3, 4, 0] rfl)
              · have h := h.1 c5
                refine lv_aload_n hx hb dX7_at_70 rfl (lv_at hl 0 rfl) ?_
                refine lv_iload hx hb dX7_at_71 (lv_at hl 4 rfl) ?_
                refine lv_iconst (v := (jI 2)) hx hb dX7_at_73 rfl ?_
                refine k_X7_of (rest := []) hx hb hml hown hts gX7_at_X7_of ⟨Nat.le_of_ble_eq_true rfl, Nat.le_of_ble_eq_true rfl⟩ ⟨Nat.zero_le _, Nat.zero_le _⟩ hK hj hw hA hS hl.1 (Nat.le_of_ble_eq_true rfl) dX7_at_74 h (fun r4 s5 H locs h hw hS => ?_)
                refine lv_istore (lv' := [(5, .int r4), (0, .ref (ad 0)), (1, .int p0), (2, .int p1), (3, .int p2), (4, .int y4_44)]) hx hb dX7_at_77 hl (by decide) rfl (fun ls hl => ?_)
                refine lv_aload_n hx hb dX7_at_79 rfl (lv_at hl 1 rfl) ?_
                refine lv_iload_n hx hb dX7_at_80 rfl (lv_at hl 2 rfl) ?_
                refine lv_aload_n hx hb dX7_at_81 rfl (lv_at hl 1 rfl) ?_
                refine lv_iload hx hb dX7_at_82 (lv_at hl 5 rfl) ?_
                refine lv_iconst (v := (jI 1)) hx hb dX7_at_84 rfl ?_
                refine k_X7_of (rest := [.int p0, .ref (ad 0)]) hx hb hml hown hts gX7_at_X7_of ⟨Nat.le_of_ble_eq_true rfl, Nat.le_of_ble_eq_true rfl⟩ ⟨Nat.zero_le _, Nat.zero_le _⟩ hK hj hw hA hS hl.1 (Nat.le_of_ble_eq_true rfl) dX7_at_85 h (fun r5 s6 H locs h hw hS => ?_)
                refine k_X7_top (rest := []) hx hb hml hown hts gX7_at_X7_top ⟨Nat.le_of_ble_eq_true rfl, Nat.le_of_ble_eq_true rfl⟩ ⟨Nat.zero_le _, Nat.zero_le _⟩ hK hj hw hA hS hl.1 (Nat.le_of_ble_eq_true rfl) dX7_at_88 h (fun r6 s7 H locs h hw hS => ?_)
                refine lv_istore (lv' := [(6, .int r6), (5, .int r4), (0, .ref (ad 0)), (1, .int p0), (2, .int p1), (3, .int p2), (4, .int y4_44)]) hx hb dX7_at_91 hl (by decide) rfl (fun ls hl => ?_)
                refine lv_iload_n hx hb dX7_at_93 rfl (lv_at hl 4 rfl) ?_
                refine lv_iload hx hb dX7_at_94 (lv_at hl 1 rfl) ?_
                refine lv_iload hx hb dX7_at_96 (lv_at hl 1 rfl) ?_
                refine lv_aload_n hx hb dX7_at_98 rfl (lv_at hl 2 rfl) ?_
                refine lv_iload hx hb dX7_at_99 (lv_at hl 6 rfl) ?_
                refine k_X7_widthOf (rest := [.int r4, .int r4, .int p1]) hx hb hml hown hts gX7_at_X7_widthOf ⟨Nat.le_of_ble_eq_true rfl, Nat.le_of_ble_eq_true rfl⟩ ⟨Nat.zero_le _, Nat.zero_le _⟩ hK hj hw hA hS hl.1 (Nat.le_of_ble_eq_true rfl) dX7_at_101 h (fun r7 s8 H locs h hw hS => ?_)
                refine lv_iadd hx hb dX7_at_104 ?_
                refine lv_iconst (v := (jI 1)) hx hb dX7_at_105 rfl ?_
                refine lv_isub hx hb dX7_at_106 ?_
                refine k_X7_in (rest := []) hx hb hml hown hts gX7_at_X7_in ⟨Nat.le_of_ble_eq_true rfl, Nat.le_of_ble_eq_true rfl⟩ ⟨Nat.zero_le _, Nat.zero_le _⟩ hK hj hw hA hS hl.1 (Nat.le_of_ble_eq_true rfl) dX7_at_107 h (fun r8 s9 H locs h hw hS => ?_)
                refine zif_eq (tgt := 139) hx hb dX7_at_110 (by decide) (fun c6 => ?_) (fun c6 => ?_)
                · have h := h.1 c6
                  obtain ⟨x2, ex2⟩ : ∃ y : Int32, y = y4_44 + (jI 1) := ⟨_, rfl⟩
                  have h := h x2 ex2
                  refine lv_iinc (v := x2) (lv' := [(4, .int x2), (6, .int r6), (5, .int r4), (0, .ref (ad 0)), (1, .int p0), (2, .int p1), (3, .int p2)]) hx hb dX7_at_139 hl (k := 6) rfl (by rw [ex2]; rfl) (by decide) rfl (fun ls hl => ?_)
                  refine lv_goto (tgt := 44) hx hb dX7_at_142 (by decide) ?_
                  exact ih44 _ _ _ _ h hw hS _ (lv_sub hl [3, 4, 5, 6, 0] rfl)
                · have h := h.2 c6
                  refine lv_iload_n hx hb dX7_at_113 rfl (lv_at hl 5 rfl) ?_
                  refine lv_iload hx hb dX7_at_114 (lv_at hl 0 rfl) ?_
                  refine lv_iload hx hb dX7_at_116 (lv_at hl 0 rfl) ?_
                  refine lv_aload_n hx hb dX7_at_118 rfl (lv_at hl 2 rfl) ?_
                  refine lv_iload hx hb dX7_at_119 (lv_at hl 6 rfl) ?_
                  refine k_X7_heightOf (rest := [.int r6, .int r6, .int p2]) hx hb hml hown hts gX7_at_X7_heightOf ⟨Nat.le_of_ble_eq_true rfl, Nat.le_of_ble_eq_true rfl⟩ ⟨Nat.zero_le _, Nat.zero_le _⟩ hK hj hw hA hS hl.1 (Nat.le_of_ble_eq_true rfl) dX7_at_121 h (fun r9 s10 H locs h hw hS => ?_)
                  refine lv_iadd hx hb dX7_at_124 ?_
                  refine lv_iconst (v := (jI 1)) hx hb dX7_at_125 rfl ?_
                  refine lv_isub hx hb dX7_at_126 ?_
                  refine k_X7_in (rest := []) hx hb hml hown hts gX7_at_X7_in ⟨Nat.le_of_ble_eq_true rfl, Nat.le_of_ble_eq_true rfl⟩ ⟨Nat.zero_le _, Nat.zero_le _⟩ hK hj hw hA hS hl.1 (Nat.le_of_ble_eq_true rfl) dX7_at_127 h (fun r10 s11 H locs h hw hS => ?_)
                  refine zif_eq (tgt := 139) hx hb dX7_at_130 (by decide) (fun c7 => ?_) (fun c7 => ?_)
                  · have h := h.1 c7
                    obtain ⟨x3, ex3⟩ : ∃ y : Int32, y = y4_44 + (jI 1) := ⟨_, rfl⟩
                    have h := h x3 ex3
                    refine lv_iinc (v := x3) (lv' := [(4, .int x3), (6, .int r6), (5, .int r4), (0, .ref (ad 0)), (1, .int p0), (2, .int p1), (3, .int p2)]) hx hb dX7_at_139 hl (k := 6) rfl (by rw [ex3]; rfl) (by decide) rfl (fun ls hl => ?_)
                    refine lv_goto (tgt := 44) hx hb dX7_at_142 (by decide) ?_
                    exact ih44 _ _ _ _ h hw hS _ (lv_sub hl [3, 4, 5, 6, 0] rfl)
                  · have h := h.2 c7
                    exact k133_44 _ _ _ _ h hw hS _ (lv_sub hl [6] rfl)
      obtain ⟨nn44, h⟩ := h
      exact lp44 nn44 _ _ _ _ h hw hS _ (lv_sub hl [1, 2, 3, 4, 0] rfl)
    · have h := h.2 c2
      refine lv_iload_n hx hb dX7_at_23 rfl (lv_at hl 3 rfl) ?_
      refine lv_iconst (v := (jI 0)) hx hb dX7_at_24 rfl ?_
      refine lv_bipush (v := (jI 23)) hx hb dX7_at_25 (by decide +kernel) ?_
      refine k_X7_in (rest := [.ref (ad 0)]) hx hb hml hown hts gX7_at_X7_in ⟨Nat.le_of_ble_eq_true rfl, Nat.le_of_ble_eq_true rfl⟩ ⟨Nat.zero_le _, Nat.zero_le _⟩ hK hj hw hA hS hl.1 (Nat.le_of_ble_eq_true rfl) dX7_at_27 h (fun r12 s13 H locs h hw hS => ?_)
      refine zif_ne (tgt := 37) hx hb dX7_at_30 (by decide) (fun c9 => ?_) (fun c9 => ?_)
      · have h := h.2 c9
        refine lv_iconst (v := (jI 0)) hx hb dX7_at_37 rfl ?_
        obtain ⟨s14, es14⟩ : ∃ y : ST, y = zsp s13 1 (jI 0) := ⟨_, rfl⟩
        have h := h s14 es14
        refine zput (ty := .int) hx hb hts inX7 tyX7 tyX7_ok nmX7 hown hK hj hw hA hS 0 (by decide) rfl rfl 3 (by decide) lk0 (fun _ h9 => h9) rfl (by decide +kernel) rfl rfl (Nat.le_of_ble_eq_true rfl) dX7_at_38 (zme cy ad s14) (by rw [es14]; rfl) (fun j hj9 => by rw [es14]; exact zsp_off_M_1 j hj9) (fun H locs hw hS => ?_)
        refine lv_iconst (v := (jI 0)) hx hb dX7_at_41 rfl ?_
        refine lv_istore (lv' := [(4, .int (jI 0)), (0, .ref (ad 0)), (1, .int p0), (2, .int p1), (3, .int p2)]) hx hb dX7_at_42 hl (by decide) rfl (fun ls hl => ?_)
        have k133_44 : ∀ (u_133 : ST) (z4_133 : Int32) (H : Heap) (locs : List Loc), wp_X7_codeOf u_133 z4_133 (fun r21 s23 => Q r21 s23) → zW D 6 (zme cy ad u_133) ad H → va_S (zA 6 ad) s.heap H locs → ∀ ls : Array Slot, lv_has ls 7 [(4, .int z4_133)] → W p l e ({ frames := 2, cells := 0, slots := 0, locals := 46 } : Room) s m ([.ref (ad 0), .int p0, .int p1, .int p2] : List Value).toArray below meth c H locs 0 0 (MQ below (va_Qi Q (zB D 6 (zme cy ad) ad) (zA 6 ad)) ([.ref (ad 0), .int p0, .int p1, .int p2] : List Value).toArray s 0 0 (zA 6 ad)) (F0 m 133 ls []) := by
          intro u_133 z4_133 H locs h hw hS ls hl
          refine lv_iload hx hb dX7_at_133 (lv_at hl 0 rfl) ?_
          refine k_X7_codeOf (rest := []) hx hb hml hown hts gX7_at_X7_codeOf ⟨Nat.le_of_ble_eq_true rfl, Nat.le_of_ble_eq_true rfl⟩ ⟨Nat.zero_le _, Nat.zero_le _⟩ hK hj hw hA hS hl.1 (Nat.le_of_ble_eq_true rfl) dX7_at_135 h (fun r21 s23 H locs h hw hS => ?_)
          exact W.iret (v := r21) hx hb hr (fun t ht hW => ⟨⟨_, _, rfl, h, zend hw ht⟩, hS.F ht⟩) hS.2.2 dX7_at_138
        have k145_44 : ∀ (u_145 : ST) (H : Heap) (locs : List Loc), (((u_145.2 1) ≤ (jI 0) → Q (jI (-1)) u_145) ∧ (¬ (u_145.2 1) ≤ (jI 0) → Q (jI 0) u_145)) → zW D 6 (zme cy ad u_145) ad H → va_S (zA 6 ad) s.heap H locs → ∀ ls : Array Slot, lv_has ls 7 [(0, .ref (ad 0))] → W p l e ({ frames := 2, cells := 0, slots := 0, locals := 46 } : Room) s m ([.ref (ad 0), .int p0, .int p1, .int p2] : List Value).toArray below meth c H locs 0 0 (MQ below (va_Qi Q (zB D 6 (zme cy ad) ad) (zA 6 ad)) ([.ref (ad 0), .int p0, .int p1, .int p2] : List Value).toArray s 0 0 (zA 6 ad)) (F0 m 145 ls []) := by
          intro u_145 H locs h hw hS ls hl
          refine lv_aload_n hx hb dX7_at_145 rfl (lv_at hl 0 rfl) ?_
          refine zget hx hb hts inX7 hown hK hw 0 (by decide) rfl rfl 3 (by decide) lk0 (fun _ h9 => h9) rfl dX7_at_146 ?_
          refine zif_le (tgt := 156) hx hb dX7_at_149 (by decide) (fun c15 => ?_) (fun c15 => ?_)
          · have h := h.1 c15
            refine lv_iconst (v := (jI (-1))) hx hb dX7_at_156 rfl ?_
            exact W.iret (v := (jI (-1))) hx hb hr (fun t ht hW => ⟨⟨_, _, rfl, h, zend hw ht⟩, hS.F ht⟩) hS.2.2 dX7_at_157
          · have h := h.2 c15
            refine lv_iconst (v := (jI 0)) hx hb dX7_at_152 rfl ?_
            refine lv_goto (tgt := 157) hx hb dX7_at_153 (by decide) ?_
            exact W.iret (v := (jI 0)) hx hb hr (fun t ht hW => ⟨⟨_, _, rfl, h, zend hw ht⟩, hS.F ht⟩) hS.2.2 dX7_at_157
        have lp44 : ∀ (nn44 : Nat) (t_44 : ST) (y4_44 : Int32) (H : Heap) (locs : List Loc), wl_X7_at_44 (fun u_133 z4_133 => wp_X7_codeOf u_133 z4_133 (fun r21 s23 => Q r21 s23)) (fun u_145 => (((u_145.2 1) ≤ (jI 0) → Q (jI (-1)) u_145) ∧ (¬ (u_145.2 1) ≤ (jI 0) → Q (jI 0) u_145))) p0 p1 p2 nn44 t_44 y4_44 → zW D 6 (zme cy ad t_44) ad H → va_S (zA 6 ad) s.heap H locs → ∀ ls : Array Slot, lv_has ls 7 [(0, .ref (ad 0)), (1, .int p0), (2, .int p1), (3, .int p2), (4, .int y4_44)] → W p l e ({ frames := 2, cells := 0, slots := 0, locals := 46 } : Room) s m ([.ref (ad 0), .int p0, .int p1, .int p2] : List Value).toArray below meth c H locs 0 0 (MQ below (va_Qi Q (zB D 6 (zme cy ad) ad) (zA 6 ad)) ([.ref (ad 0), .int p0, .int p1, .int p2] : List Value).toArray s 0 0 (zA 6 ad)) (F0 m 44 ls []) := by
          intro nn44
          induction nn44 with
          | zero => intro _ _ _ _ h; exact h.elim
          | succ nn44 ih44 =>
            intro t_44 y4_44 H locs h hw hS ls hl
            simp only [wl_X7_at_44, wb_X7_at_44] at h
            refine lv_iload hx hb dX7_at_44 (lv_at hl 4 rfl) ?_
            refine lv_sipush (v := (jI 144)) hx hb dX7_at_46 (by decide +kernel) ?_
            refine lv_icmp_ge (tgt := 145) hx hb dX7_at_49 (by decide) (fun c10 => ?_) (fun c10 => ?_)
            · have h := h.1 c10
              exact k145_44 _ _ _ h hw hS _ (lv_sub hl [0] rfl)
            · have h := h.2 c10
              refine lv_aload_n hx hb dX7_at_52 rfl (lv_at hl 0 rfl) ?_
              refine zget hx hb hts inX7 hown hK hw 0 (by decide) rfl rfl 3 (by decide) lk0 (fun _ h9 => h9) rfl dX7_at_53 ?_
              refine zif_ne (tgt := 145) hx hb dX7_at_56 (by decide) (fun c11 => ?_) (fun c11 => ?_)
              · have h := h.2 c11
                exact k145_44 _ _ _ h hw hS _ (lv_sub hl [0] rfl)
              · have h := h.1 c11
                refine lv_aload_n hx hb dX7_at_59 rfl (lv_at hl 0 rfl) ?_
                refine lv_iload hx hb dX7_at_60 (lv_at hl 4 rfl) ?_
                refine lv_iconst (v := (jI 0)) hx hb dX7_at_62 rfl ?_
                refine k_X7_of (rest := []) hx hb hml hown hts gX7_at_X7_of ⟨Nat.le_of_ble_eq_true rfl, Nat.le_of_ble_eq_true rfl⟩ ⟨Nat.zero_le _, Nat.zero_le _⟩ hK hj hw hA hS hl.1 (Nat.le_of_ble_eq_true rfl) dX7_at_63 h (fun r13 s15 H locs h hw hS => ?_)
                refine lv_iload_n hx hb dX7_at_66 rfl (lv_at hl 1 rfl) ?_
                refine lv_icmp_ne (tgt := 139) hx hb dX7_at_67 (by decide) (fun c12 => ?_) (fun c12 => ?_)
                · have h := h.2 c12
                  obtain ⟨x4, ex4⟩ : ∃ y : Int32, y = y4_44 + (jI 1) := ⟨_, rfl⟩
                  have h := h x4 ex4
                  refine lv_iinc (v := x4) (lv' := [(4, .int x4), (0, .ref (ad 0)), (1, .int p0), (2, .int p1), (3, .int p2)]) hx hb dX7_at_139 hl (k := 4) rfl (by rw [ex4]; rfl) (by decide) rfl (fun ls hl => ?_)
                  refine lv_goto (tgt := 44) hx hb dX7_at_142 (by decide) ?_
                  exact ih44 _ _ _ _ h hw hS _ (lv_sub hl [1, 2, 3, 4, 0] rfl)
                · have h := h.1 c12
                  refine lv_aload_n hx hb dX7_at_70 rfl (lv_at hl 0 rfl) ?_
                  refine lv_iload hx hb dX7_at_71 (lv_at hl 4 rfl) ?_
                  refine lv_iconst (v := (jI 2)) hx hb dX7_at_73 rfl ?_
                  refine k_X7_of (rest := []) hx hb hml hown hts gX7_at_X7_of ⟨Nat.le_of_ble_eq_true rfl, Nat.le_of_ble_eq_true rfl⟩ ⟨Nat.zero_le _, Nat.zero_le _⟩ hK hj hw hA hS hl.1 (Nat.le_of_ble_eq_true rfl) dX7_at_74 h (fun r14 s16 H locs h hw hS => ?_)
                  refine lv_istore (lv' := [(5, .int r14), (0, .ref (ad 0)), (1, .int p0), (2, .int p1), (3, .int p2), (4, .int y4_44)]) hx hb dX7_at_77 hl (by decide) rfl (fun ls hl => ?_)
                  refine lv_aload_n hx hb dX7_at_79 rfl (lv_at hl 1 rfl) ?_
                  refine lv_iload_n hx hb dX7_at_80 rfl (lv_at hl 2 rfl) ?_
                  refine lv_aload_n hx hb dX7_at_81 rfl (lv_at hl 1 rfl) ?_
                  refine lv_iload hx hb dX7_at_82 (lv_at hl 5 rfl) ?_
                  refine lv_iconst (v := (jI 1)) hx hb dX7_at_84 rfl ?_
                  refine k_X7_of (rest := [.int p0, .ref (ad 0)]) hx hb hml hown hts gX7_at_X7_of ⟨Nat.le_of_ble_eq_true rfl, Nat.le_of_ble_eq_true rfl⟩ ⟨Nat.zero_le _, Nat.zero_le _⟩ hK hj hw hA hS hl.1 (Nat.le_of_ble_eq_true rfl) dX7_at_85 h (fun r15 s17 H locs h hw hS => ?_)
                  refine k_X7_top (rest := []) hx hb hml hown hts gX7_at_X7_top ⟨Nat.le_of_ble_eq_true rfl, Nat.le_of_ble_eq_true rfl⟩ ⟨Nat.zero_le _, Nat.zero_le _⟩ hK hj hw hA hS hl.1 (Nat.le_of_ble_eq_true rfl) dX7_at_88 h (fun r16 s18 H locs h hw hS => ?_)
                  refine lv_istore (lv' := [(6, .int r16), (5, .int r14), (0, .ref (ad 0)), (1, .int p0), (2, .int p1), (3, .int p2), (4, .int y4_44)]) hx hb dX7_at_91 hl (by decide) rfl (fun ls hl => ?_)
                  refine lv_iload_n hx hb dX7_at_93 rfl (lv_at hl 4 rfl) ?_
                  refine lv_iload hx hb dX7_at_94 (lv_at hl 1 rfl) ?_
                  refine lv_iload hx hb dX7_at_96 (lv_at hl 1 rfl) ?_
                  refine lv_aload_n hx hb dX7_at_98 rfl (lv_at hl 2 rfl) ?_
                  refine lv_iload hx hb dX7_at_99 (lv_at hl 6 rfl) ?_
                  refine k_X7_widthOf (rest := [.int r14, .int r14, .int p1]) hx hb hml hown hts gX7_at_X7_widthOf ⟨Nat.le_of_ble_eq_true rfl, Nat.le_of_ble_eq_true rfl⟩ ⟨Nat.zero_le _, Nat.zero_le _⟩ hK hj hw hA hS hl.1 (Nat.le_of_ble_eq_true rfl) dX7_at_101 h (fun r17 s19 H locs h hw hS => ?_)
                  refine lv_iadd hx hb dX7_at_104 ?_
                  refine lv_iconst (v := (jI 1)) hx hb dX7_at_105 rfl ?_
                  refine lv_isub hx hb dX7_at_106 ?_
                  refine k_X7_in (rest := []) hx hb hml hown hts gX7_at_X7_in ⟨Nat.le_of_ble_eq_true rfl, Nat.le_of_ble_eq_true rfl⟩ ⟨Nat.zero_le _, Nat.zero_le _⟩ hK hj hw hA hS hl.1 (Nat.le_of_ble_eq_true rfl) dX7_at_107 h (fun r18 s20 H locs h hw hS => ?_)
                  refine zif_eq (tgt := 139) hx hb dX7_at_110 (by decide) (fun c13 => ?_) (fun c13 => ?_)
                  · have h := h.1 c13
                    obtain ⟨x5, ex5⟩ : ∃ y : Int32, y = y4_44 + (jI 1) := ⟨_, rfl⟩
                    have h := h x5 ex5
                    refine lv_iinc (v := x5) (lv' := [(4, .int x5), (6, .int r16), (5, .int r14), (0, .ref (ad 0)), (1, .int p0), (2, .int p1), (3, .int p2)]) hx hb dX7_at_139 hl (k := 6) rfl (by rw [ex5]; rfl) (by decide) rfl (fun ls hl => ?_)
                    refine lv_goto (tgt := 44) hx hb dX7_at_142 (by decide) ?_
                    exact ih44 _ _ _ _ h hw hS _ (lv_sub hl [3, 4, 5, 6, 0] rfl)
                  · have h := h.2 c13
                    refine lv_iload_n hx hb dX7_at_113 rfl (lv_at hl 5 rfl) ?_
                    refine lv_iload hx hb dX7_at_114 (lv_at hl 0 rfl) ?_
                    refine lv_iload hx hb dX7_at_116 (lv_at hl 0 rfl) ?_
                    refine lv_aload_n hx hb dX7_at_118 rfl (lv_at hl 2 rfl) ?_
                    refine lv_iload hx hb dX7_at_119 (lv_at hl 6 rfl) ?_
                    refine k_X7_heightOf (rest := [.int r16, .int r16, .int p2]) hx hb hml hown hts gX7_at_X7_heightOf ⟨Nat.le_of_ble_eq_true rfl, Nat.le_of_ble_eq_true rfl⟩ ⟨Nat.zero_le _, Nat.zero_le _⟩ hK hj hw hA hS hl.1 (Nat.le_of_ble_eq_true rfl) dX7_at_121 h (fun r19 s21 H locs h hw hS => ?_)
                    refine lv_iadd hx hb dX7_at_124 ?_
                    refine lv_iconst (v := (jI 1)) hx hb dX7_at_125 rfl ?_
                    refine lv_isub hx hb dX7_at_126 ?_
                    refine k_X7_in (rest := []) hx hb hml hown hts gX7_at_X7_in ⟨Nat.le_of_ble_eq_true rfl, Nat.le_of_ble_eq_true rfl⟩ ⟨Nat.zero_le _, Nat.zero_le _⟩ hK hj hw hA hS hl.1 (Nat.le_of_ble_eq_true rfl) dX7_at_127 h (fun r20 s22 H locs h hw hS => ?_)
                    refine zif_eq (tgt := 139) hx hb dX7_at_130 (by decide) (fun c14 => ?_) (fun c14 => ?_)
                    · have h := h.1 c14
                      obtain ⟨x6, ex6⟩ : ∃ y : Int32, y = y4_44 + (jI 1) := ⟨_, rfl⟩
                      have h := h x6 ex6
                      refine lv_iinc (v := x6) (lv' := [(4, .int x6), (6, .int r16), (5, .int r14), (0, .ref (ad 0)), (1, .int p0), (2, .int p1), (3, .int p2)]) hx hb dX7_at_139 hl (k := 6) rfl (by rw [ex6]; rfl) (by decide) rfl (fun ls hl => ?_)
                      refine lv_goto (tgt := 44) hx hb dX7_at_142 (by decide) ?_
                      exact ih44 _ _ _ _ h hw hS _ (lv_sub hl [3, 4, 5, 6, 0] rfl)
                    · have h := h.2 c14
                      exact k133_44 _ _ _ _ h hw hS _ (lv_sub hl [6] rfl)
        obtain ⟨nn44, h⟩ := h
        exact lp44 nn44 _ _ _ _ h hw hS _ (lv_sub hl [1, 2, 3, 4, 0] rfl)
      · have h := h.1 c9
        refine lv_iconst (v := (jI 2)) hx hb dX7_at_33 rfl ?_
        refine lv_goto (tgt := 38) hx hb dX7_at_34 (by decide) ?_
        obtain ⟨s24, es24⟩ : ∃ y : ST, y = zsp s13 1 (jI 2) := ⟨_, rfl⟩
        have h := h s24 es24
        refine zput (ty := .int) hx hb hts inX7 tyX7 tyX7_ok nmX7 hown hK hj hw hA hS 0 (by decide) rfl rfl 3 (by decide) lk0 (fun _ h9 => h9) rfl (by decide +kernel) rfl rfl (Nat.le_of_ble_eq_true rfl) dX7_at_38 (zme cy ad s24) (by rw [es24]; rfl) (fun j hj9 => by rw [es24]; exact zsp_off_M_1 j hj9) (fun H locs hw hS => ?_)
        refine lv_iconst (v := (jI 0)) hx hb dX7_at_41 rfl ?_
        refine lv_istore (lv' := [(4, .int (jI 0)), (0, .ref (ad 0)), (1, .int p0), (2, .int p1), (3, .int p2)]) hx hb dX7_at_42 hl (by decide) rfl (fun ls hl => ?_)
        have k133_44 : ∀ (u_133 : ST) (z4_133 : Int32) (H : Heap) (locs : List Loc), wp_X7_codeOf u_133 z4_133 (fun r30 s33 => Q r30 s33) → zW D 6 (zme cy ad u_133) ad H → va_S (zA 6 ad) s.heap H locs → ∀ ls : Array Slot, lv_has ls 7 [(4, .int z4_133)] → W p l e ({ frames := 2, cells := 0, slots := 0, locals := 46 } : Room) s m ([.ref (ad 0), .int p0, .int p1, .int p2] : List Value).toArray below meth c H locs 0 0 (MQ below (va_Qi Q (zB D 6 (zme cy ad) ad) (zA 6 ad)) ([.ref (ad 0), .int p0, .int p1, .int p2] : List Value).toArray s 0 0 (zA 6 ad)) (F0 m 133 ls []) := by
          intro u_133 z4_133 H locs h hw hS ls hl
          refine lv_iload hx hb dX7_at_133 (lv_at hl 0 rfl) ?_
          refine k_X7_codeOf (rest := []) hx hb hml hown hts gX7_at_X7_codeOf ⟨Nat.le_of_ble_eq_true rfl, Nat.le_of_ble_eq_true rfl⟩ ⟨Nat.zero_le _, Nat.zero_le _⟩ hK hj hw hA hS hl.1 (Nat.le_of_ble_eq_true rfl) dX7_at_135 h (fun r30 s33 H locs h hw hS => ?_)
          exact W.iret (v := r30) hx hb hr (fun t ht hW => ⟨⟨_, _, rfl, h, zend hw ht⟩, hS.F ht⟩) hS.2.2 dX7_at_138
        have k145_44 : ∀ (u_145 : ST) (H : Heap) (locs : List Loc), (((u_145.2 1) ≤ (jI 0) → Q (jI (-1)) u_145) ∧ (¬ (u_145.2 1) ≤ (jI 0) → Q (jI 0) u_145)) → zW D 6 (zme cy ad u_145) ad H → va_S (zA 6 ad) s.heap H locs → ∀ ls : Array Slot, lv_has ls 7 [(0, .ref (ad 0))] → W p l e ({ frames := 2, cells := 0, slots := 0, locals := 46 } : Room) s m ([.ref (ad 0), .int p0, .int p1, .int p2] : List Value).toArray below meth c H locs 0 0 (MQ below (va_Qi Q (zB D 6 (zme cy ad) ad) (zA 6 ad)) ([.ref (ad 0), .int p0, .int p1, .int p2] : List Value).toArray s 0 0 (zA 6 ad)) (F0 m 145 ls []) := by
          intro u_145 H locs h hw hS ls hl
          refine lv_aload_n hx hb dX7_at_145 rfl (lv_at hl 0 rfl) ?_
          refine zget hx hb hts inX7 hown hK hw 0 (by decide) rfl rfl 3 (by decide) lk0 (fun _ h9 => h9) rfl dX7_at_146 ?_
          refine zif_le (tgt := 156) hx hb dX7_at_149 (by decide) (fun c21 => ?_) (fun c21 => ?_)
          · have h := h.1 c21
            refine lv_iconst (v := (jI (-1))) hx hb dX7_at_156 rfl ?_
            exact W.iret (v := (jI (-1))) hx hb hr (fun t ht hW => ⟨⟨_, _, rfl, h, zend hw ht⟩, hS.F ht⟩) hS.2.2 dX7_at_157
          · have h := h.2 c21
            refine lv_iconst (v := (jI 0)) hx hb dX7_at_152 rfl ?_
            refine lv_goto (tgt := 157) hx hb dX7_at_153 (by decide) ?_
            exact W.iret (v := (jI 0)) hx hb hr (fun t ht hW => ⟨⟨_, _, rfl, h, zend hw ht⟩, hS.F ht⟩) hS.2.2 dX7_at_157
        have lp44 : ∀ (nn44 : Nat) (t_44 : ST) (y4_44 : Int32) (H : Heap) (locs : List Loc), wl_X7_at_44 (fun u_133 z4_133 => wp_X7_codeOf u_133 z4_133 (fun r30 s33 => Q r30 s33)) (fun u_145 => (((u_145.2 1) ≤ (jI 0) → Q (jI (-1)) u_145) ∧ (¬ (u_145.2 1) ≤ (jI 0) → Q (jI 0) u_145))) p0 p1 p2 nn44 t_44 y4_44 → zW D 6 (zme cy ad t_44) ad H → va_S (zA 6 ad) s.heap H locs → ∀ ls : Array Slot, lv_has ls 7 [(0, .ref (ad 0)), (1, .int p0), (2, .int p1), (3, .int p2), (4, .int y4_44)] → W p l e ({ frames := 2, cells := 0, slots := 0, locals := 46 } : Room) s m ([.ref (ad 0), .int p0, .int p1, .int p2] : List Value).toArray below meth c H locs 0 0 (MQ below (va_Qi Q (zB D 6 (zme cy ad) ad) (zA 6 ad)) ([.ref (ad 0), .int p0, .int p1, .int p2] : List Value).toArray s 0 0 (zA 6 ad)) (F0 m 44 ls []) := by
          intro nn44
          induction nn44 with
          | zero => intro _ _ _ _ h; exact h.elim
          | succ nn44 ih44 =>
            intro t_44 y4_44 H locs h hw hS ls hl
            simp only [wl_X7_at_44, wb_X7_at_44] at h
            refine lv_iload hx hb dX7_at_44 (lv_at hl 4 rfl) ?_
            refine lv_sipush (v := (jI 144)) hx hb dX7_at_46 (by decide +kernel) ?_
            refine lv_icmp_ge (tgt := 145) hx hb dX7_at_49 (by decide) (fun c16 => ?_) (fun c16 => ?_)
            · have h := h.1 c16
              exact k145_44 _ _ _ h hw hS _ (lv_sub hl [0] rfl)
            · have h := h.2 c16
              refine lv_aload_n hx hb dX7_at_52 rfl (lv_at hl 0 rfl) ?_
              refine zget hx hb hts inX7 hown hK hw 0 (by decide) rfl rfl 3 (by decide) lk0 (fun _ h9 => h9) rfl dX7_at_53 ?_
              refine zif_ne (tgt := 145) hx hb dX7_at_56 (by decide) (fun c17 => ?_) (fun c17 => ?_)
              · have h := h.2 c17
                exact k145_44 _ _ _ h hw hS _ (lv_sub hl [0] rfl)
              · have h := h.1 c17
                refine lv_aload_n hx hb dX7_at_59 rfl (lv_at hl 0 rfl) ?_
                refine lv_iload hx hb dX7_at_60 (lv_at hl 4 rfl) ?_
                refine lv_iconst (v := (jI 0)) hx hb dX7_at_62 rfl ?_
                refine k_X7_of (rest := []) hx hb hml hown hts gX7_at_X7_of ⟨Nat.le_of_ble_eq_true rfl, Nat.le_of_ble_eq_true rfl⟩ ⟨Nat.zero_le _, Nat.zero_le _⟩ hK hj hw hA hS hl.1 (Nat.le_of_ble_eq_true rfl) dX7_at_63 h (fun r22 s25 H locs h hw hS => ?_)
                refine lv_iload_n hx hb dX7_at_66 rfl (lv_at hl 1 rfl) ?_
                refine lv_icmp_ne (tgt := 139) hx hb dX7_at_67 (by decide) (fun c18 => ?_) (fun c18 => ?_)
                · have h := h.2 c18
                  obtain ⟨x7, ex7⟩ : ∃ y : Int32, y = y4_44 + (jI 1) := ⟨_, rfl⟩
                  have h := h x7 ex7
                  refine lv_iinc (v := x7) (lv' := [(4, .int x7), (0, .ref (ad 0)), (1, .int p0), (2, .int p1), (3, .int p2)]) hx hb dX7_at_139 hl (k := 4) rfl (by rw [ex7]; rfl) (by decide) rfl (fun ls hl => ?_)
                  refine lv_goto (tgt := 44) hx hb dX7_at_142 (by decide) ?_
                  exact ih44 _ _ _ _ h hw hS _ (lv_sub hl [1, 2, 3, 4, 0] rfl)
                · have h := h.1 c18
                  refine lv_aload_n hx hb dX7_at_70 rfl (lv_at hl 0 rfl) ?_
                  refine lv_iload hx hb dX7_at_71 (lv_at hl 4 rfl) ?_
                  refine lv_iconst (v := (jI 2)) hx hb dX7_at_73 rfl ?_
                  refine k_X7_of (rest := []) hx hb hml hown hts gX7_at_X7_of ⟨Nat.le_of_ble_eq_true rfl, Nat.le_of_ble_eq_true rfl⟩ ⟨Nat.zero_le _, Nat.zero_le _⟩ hK hj hw hA hS hl.1 (Nat.le_of_ble_eq_true rfl) dX7_at_74 h (fun r23 s26 H locs h hw hS => ?_)
                  refine lv_istore (lv' := [(5, .int r23), (0, .ref (ad 0)), (1, .int p0), (2, .int p1), (3, .int p2), (4, .int y4_44)]) hx hb dX7_at_77 hl (by decide) rfl (fun ls hl => ?_)
                  refine lv_aload_n hx hb dX7_at_79 rfl (lv_at hl 1 rfl) ?_
                  refine lv_iload_n hx hb dX7_at_80 rfl (lv_at hl 2 rfl) ?_
                  refine lv_aload_n hx hb dX7_at_81 rfl (lv_at hl 1 rfl) ?_
                  refine lv_iload hx hb dX7_at_82 (lv_at hl 5 rfl) ?_
                  refine lv_iconst (v := (jI 1)) hx hb dX7_at_84 rfl ?_
                  refine k_X7_of (rest := [.int p0, .ref (ad 0)]) hx hb hml hown hts gX7_at_X7_of ⟨Nat.le_of_ble_eq_true rfl, Nat.le_of_ble_eq_true rfl⟩ ⟨Nat.zero_le _, Nat.zero_le _⟩ hK hj hw hA hS hl.1 (Nat.le_of_ble_eq_true rfl) dX7_at_85 h (fun r24 s27 H locs h hw hS => ?_)
                  refine k_X7_top (rest := []) hx hb hml hown hts gX7_at_X7_top ⟨Nat.le_of_ble_eq_true rfl, Nat.le_of_ble_eq_true rfl⟩ ⟨Nat.zero_le _, Nat.zero_le _⟩ hK hj hw hA hS hl.1 (Nat.le_of_ble_eq_true rfl) dX7_at_88 h (fun r25 s28 H locs h hw hS => ?_)
                  refine lv_istore (lv' := [(6, .int r25), (5, .int r23), (0, .ref (ad 0)), (1, .int p0), (2, .int p1), (3, .int p2), (4, .int y4_44)]) hx hb dX7_at_91 hl (by decide) rfl (fun ls hl => ?_)
                  refine lv_iload_n hx hb dX7_at_93 rfl (lv_at hl 4 rfl) ?_
                  refine lv_iload hx hb dX7_at_94 (lv_at hl 1 rfl) ?_
                  refine lv_iload hx hb dX7_at_96 (lv_at hl 1 rfl) ?_
                  refine lv_aload_n hx hb dX7_at_98 rfl (lv_at hl 2 rfl) ?_
                  refine lv_iload hx hb dX7_at_99 (lv_at hl 6 rfl) ?_
                  refine k_X7_widthOf (rest := [.int r23, .int r23, .int p1]) hx hb hml hown hts gX7_at_X7_widthOf ⟨Nat.le_of_ble_eq_true rfl, Nat.le_of_ble_eq_true rfl⟩ ⟨Nat.zero_le _, Nat.zero_le _⟩ hK hj hw hA hS hl.1 (Nat.le_of_ble_eq_true rfl) dX7_at_101 h (fun r26 s29 H locs h hw hS => ?_)
                  refine lv_iadd hx hb dX7_at_104 ?_
                  refine lv_iconst (v := (jI 1)) hx hb dX7_at_105 rfl ?_
                  refine lv_isub hx hb dX7_at_106 ?_
                  refine k_X7_in (rest := []) hx hb hml hown hts gX7_at_X7_in ⟨Nat.le_of_ble_eq_true rfl, Nat.le_of_ble_eq_true rfl⟩ ⟨Nat.zero_le _, Nat.zero_le _⟩ hK hj hw hA hS hl.1 (Nat.le_of_ble_eq_true rfl) dX7_at_107 h (fun r27 s30 H locs h hw hS => ?_)
                  refine zif_eq (tgt := 139) hx hb dX7_at_110 (by decide) (fun c19 => ?_) (fun c19 => ?_)
                  · have h := h.1 c19
                    obtain ⟨x8, ex8⟩ : ∃ y : Int32, y = y4_44 + (jI 1) := ⟨_, rfl⟩
                    have h := h x8 ex8
                    refine lv_iinc (v := x8) (lv' := [(4, .int x8), (6, .int r25), (5, .int r23), (0, .ref (ad 0)), (1, .int p0), (2, .int p1), (3, .int p2)]) hx hb dX7_at_139 hl (k := 6) rfl (by rw [ex8]; rfl) (by decide) rfl (fun ls hl => ?_)
                    refine lv_goto (tgt := 44) hx hb dX7_at_142 (by decide) ?_
                    exact ih44 _ _ _ _ h hw hS _ (lv_sub hl [3, 4, 5, 6, 0] rfl)
                  · have h := h.2 c19
                    refine lv_iload_n hx hb dX7_at_113 rfl (lv_at hl 5 rfl) ?_
                    refine lv_iload hx hb dX7_at_114 (lv_at hl 0 rfl) ?_
                    refine lv_iload hx hb dX7_at_116 (lv_at hl 0 rfl) ?_
                    refine lv_aload_n hx hb dX7_at_118 rfl (lv_at hl 2 rfl) ?_
                    refine lv_iload hx hb dX7_at_119 (lv_at hl 6 rfl) ?_
                    refine k_X7_heightOf (rest := [.int r25, .int r25, .int p2]) hx hb hml hown hts gX7_at_X7_heightOf ⟨Nat.le_of_ble_eq_true rfl, Nat.le_of_ble_eq_true rfl⟩ ⟨Nat.zero_le _, Nat.zero_le _⟩ hK hj hw hA hS hl.1 (Nat.le_of_ble_eq_true rfl) dX7_at_121 h (fun r28 s31 H locs h hw hS => ?_)
                    refine lv_iadd hx hb dX7_at_124 ?_
                    refine lv_iconst (v := (jI 1)) hx hb dX7_at_125 rfl ?_
                    refine lv_isub hx hb dX7_at_126 ?_
                    refine k_X7_in (rest := []) hx hb hml hown hts gX7_at_X7_in ⟨Nat.le_of_ble_eq_true rfl, Nat.le_of_ble_eq_true rfl⟩ ⟨Nat.zero_le _, Nat.zero_le _⟩ hK hj hw hA hS hl.1 (Nat.le_of_ble_eq_true rfl) dX7_at_127 h (fun r29 s32 H locs h hw hS => ?_)
                    refine zif_eq (tgt := 139) hx hb dX7_at_130 (by decide) (fun c20 => ?_) (fun c20 => ?_)
                    · have h := h.1 c20
                      obtain ⟨x9, ex9⟩ : ∃ y : Int32, y = y4_44 + (jI 1) := ⟨_, rfl⟩
                      have h := h x9 ex9
                      refine lv_iinc (v := x9) (lv' := [(4, .int x9), (6, .int r25), (5, .int r23), (0, .ref (ad 0)), (1, .int p0), (2, .int p1), (3, .int p2)]) hx hb dX7_at_139 hl (k := 6) rfl (by rw [ex9]; rfl) (by decide) rfl (fun ls hl => ?_)
                      refine lv_goto (tgt := 44) hx hb dX7_at_142 (by decide) ?_
                      exact ih44 _ _ _ _ h hw hS _ (lv_sub hl [3, 4, 5, 6, 0] rfl)
                    · have h := h.2 c20
                      exact k133_44 _ _ _ _ h hw hS _ (lv_sub hl [6] rfl)
        obtain ⟨nn44, h⟩ := h
        exact lp44 nn44 _ _ _ _ h hw hS _ (lv_sub hl [1, 2, 3, 4, 0] rfl)
  · have h := h.1 c1
    refine lv_iconst (v := (jI 1)) hx hb dX7_at_9 rfl ?_
    refine lv_goto (tgt := 38) hx hb dX7_at_10 (by decide) ?_
    obtain ⟨s34, es34⟩ : ∃ y : ST, y = zsp s1 1 (jI 1) := ⟨_, rfl⟩
    have h := h s34 es34
    refine zput (ty := .int) hx hb hts inX7 tyX7 tyX7_ok nmX7 hown hK hj hw hA hS 0 (by decide) rfl rfl 3 (by decide) lk0 (fun _ h9 => h9) rfl (by decide +kernel) rfl rfl (Nat.le_of_ble_eq_true rfl) dX7_at_38 (zme cy ad s34) (by rw [es34]; rfl) (fun j hj9 => by rw [es34]; exact zsp_off_M_1 j hj9) (fun H locs hw hS => ?_)
    refine lv_iconst (v := (jI 0)) hx hb dX7_at_41 rfl ?_
    refine lv_istore (lv' := [(4, .int (jI 0)), (0, .ref (ad 0)), (1, .int p0), (2, .int p1), (3, .int p2)]) hx hb dX7_at_42 hl (by decide) rfl (fun ls hl => ?_)
    have k133_44 : ∀ (u_133 : ST) (z4_133 : Int32) (H : Heap) (locs : List Loc), wp_X7_codeOf u_133 z4_133 (fun r39 s43 => Q r39 s43) → zW D 6 (zme cy ad u_133) ad H → va_S (zA 6 ad) s.heap H locs → ∀ ls : Array Slot, lv_has ls 7 [(4, .int z4_133)] → W p l e ({ frames := 2, cells := 0, slots := 0, locals := 46 } : Room) s m ([.ref (ad 0), .int p0, .int p1, .int p2] : List Value).toArray below meth c H locs 0 0 (MQ below (va_Qi Q (zB D 6 (zme cy ad) ad) (zA 6 ad)) ([.ref (ad 0), .int p0, .int p1, .int p2] : List Value).toArray s 0 0 (zA 6 ad)) (F0 m 133 ls []) := by
      intro u_133 z4_133 H locs h hw hS ls hl
      refine lv_iload hx hb dX7_at_133 (lv_at hl 0 rfl) ?_
      refine k_X7_codeOf (rest := []) hx hb hml hown hts gX7_at_X7_codeOf ⟨Nat.le_of_ble_eq_true rfl, Nat.le_of_ble_eq_true rfl⟩ ⟨Nat.zero_le _, Nat.zero_le _⟩ hK hj hw hA hS hl.1 (Nat.le_of_ble_eq_true rfl) dX7_at_135 h (fun r39 s43 H locs h hw hS => ?_)
      exact W.iret (v := r39) hx hb hr (fun t ht hW => ⟨⟨_, _, rfl, h, zend hw ht⟩, hS.F ht⟩) hS.2.2 dX7_at_138
    have k145_44 : ∀ (u_145 : ST) (H : Heap) (locs : List Loc), (((u_145.2 1) ≤ (jI 0) → Q (jI (-1)) u_145) ∧ (¬ (u_145.2 1) ≤ (jI 0) → Q (jI 0) u_145)) → zW D 6 (zme cy ad u_145) ad H → va_S (zA 6 ad) s.heap H locs → ∀ ls : Array Slot, lv_has ls 7 [(0, .ref (ad 0))] → W p l e ({ frames := 2, cells := 0, slots := 0, locals := 46 } : Room) s m ([.ref (ad 0), .int p0, .int p1, .int p2] : List Value).toArray below meth c H locs 0 0 (MQ below (va_Qi Q (zB D 6 (zme cy ad) ad) (zA 6 ad)) ([.ref (ad 0), .int p0, .int p1, .int p2] : List Value).toArray s 0 0 (zA 6 ad)) (F0 m 145 ls []) := by
      intro u_145 H locs h hw hS ls hl
      refine lv_aload_n hx hb dX7_at_145 rfl (lv_at hl 0 rfl) ?_
      refine zget hx hb hts inX7 hown hK hw 0 (by decide) rfl rfl 3 (by decide) lk0 (fun _ h9 => h9) rfl dX7_at_146 ?_
      refine zif_le (tgt := 156) hx hb dX7_at_149 (by decide) (fun c27 => ?_) (fun c27 => ?_)
      · have h := h.1 c27
        refine lv_iconst (v := (jI (-1))) hx hb dX7_at_156 rfl ?_
        exact W.iret (v := (jI (-1))) hx hb hr (fun t ht hW => ⟨⟨_, _, rfl, h, zend hw ht⟩, hS.F ht⟩) hS.2.2 dX7_at_157
      · have h := h.2 c27
        refine lv_iconst (v := (jI 0)) hx hb dX7_at_152 rfl ?_
        refine lv_goto (tgt := 157) hx hb dX7_at_153 (by decide) ?_
        exact W.iret (v := (jI 0)) hx hb hr (fun t ht hW => ⟨⟨_, _, rfl, h, zend hw ht⟩, hS.F ht⟩) hS.2.2 dX7_at_157
    have lp44 : ∀ (nn44 : Nat) (t_44 : ST) (y4_44 : Int32) (H : Heap) (locs : List Loc), wl_X7_at_44 (fun u_133 z4_133 => wp_X7_codeOf u_133 z4_133 (fun r39 s43 => Q r39 s43)) (fun u_145 => (((u_145.2 1) ≤ (jI 0) → Q (jI (-1)) u_145) ∧ (¬ (u_145.2 1) ≤ (jI 0) → Q (jI 0) u_145))) p0 p1 p2 nn44 t_44 y4_44 → zW D 6 (zme cy ad t_44) ad H → va_S (zA 6 ad) s.heap H locs → ∀ ls : Array Slot, lv_has ls 7 [(0, .ref (ad 0)), (1, .int p0), (2, .int p1), (3, .int p2), (4, .int y4_44)] → W p l e ({ frames := 2, cells := 0, slots := 0, locals := 46 } : Room) s m ([.ref (ad 0), .int p0, .int p1, .int p2] : List Value).toArray below meth c H locs 0 0 (MQ below (va_Qi Q (zB D 6 (zme cy ad) ad) (zA 6 ad)) ([.ref (ad 0), .int p0, .int p1, .int p2] : List Value).toArray s 0 0 (zA 6 ad)) (F0 m 44 ls []) := by
      intro nn44
      induction nn44 with
      | zero => intro _ _ _ _ h; exact h.elim
      | succ nn44 ih44 =>
        intro t_44 y4_44 H locs h hw hS ls hl
        simp only [wl_X7_at_44, wb_X7_at_44] at h
        refine lv_iload hx hb dX7_at_44 (lv_at hl 4 rfl) ?_
        refine lv_sipush (v := (jI 144)) hx hb dX7_at_46 (by decide +kernel) ?_
        refine lv_icmp_ge (tgt := 145) hx hb dX7_at_49 (by decide) (fun c22 => ?_) (fun c22 => ?_)
        · have h := h.1 c22
          exact k145_44 _ _ _ h hw hS _ (lv_sub hl [0] rfl)
        · have h := h.2 c22
          refine lv_aload_n hx hb dX7_at_52 rfl (lv_at hl 0 rfl) ?_
          refine zget hx hb hts inX7 hown hK hw 0 (by decide) rfl rfl 3 (by decide) lk0 (fun _ h9 => h9) rfl dX7_at_53 ?_
          refine zif_ne (tgt := 145) hx hb dX7_at_56 (by decide) (fun c23 => ?_) (fun c23 => ?_)
          · have h := h.2 c23
            exact k145_44 _ _ _ h hw hS _ (lv_sub hl [0] rfl)
          · have h := h.1 c23
            refine lv_aload_n hx hb dX7_at_59 rfl (lv_at hl 0 rfl) ?_
            refine lv_iload hx hb dX7_at_60 (lv_at hl 4 rfl) ?_
            refine lv_iconst (v := (jI 0)) hx hb dX7_at_62 rfl ?_
            refine k_X7_of (rest := []) hx hb hml hown hts gX7_at_X7_of ⟨Nat.le_of_ble_eq_true rfl, Nat.le_of_ble_eq_true rfl⟩ ⟨Nat.zero_le _, Nat.zero_le _⟩ hK hj hw hA hS hl.1 (Nat.le_of_ble_eq_true rfl) dX7_at_63 h (fun r31 s35 H locs h hw hS => ?_)
            refine lv_iload_n hx hb dX7_at_66 rfl (lv_at hl 1 rfl) ?_
            refine lv_icmp_ne (tgt := 139) hx hb dX7_at_67 (by decide) (fun c24 => ?_) (fun c24 => ?_)
            · have h := h.2 c24
              obtain ⟨x10, ex10⟩ : ∃ y : Int32, y = y4_44 + (jI 1) := ⟨_, rfl⟩
              have h := h x10 ex10
              refine lv_iinc (v := x10) (lv' := [(4, .int x10), (0, .ref (ad 0)), (1, .int p0), (2, .int p1), (3, .int p2)]) hx hb dX7_at_139 hl (k := 4) rfl (by rw [ex10]; rfl) (by decide) rfl (fun ls hl => ?_)
              refine lv_goto (tgt := 44) hx hb dX7_at_142 (by decide) ?_
              exact ih44 _ _ _ _ h hw hS _ (lv_sub hl [1, 2, 3, 4, 0] rfl)
            · have h := h.1 c24
              refine lv_aload_n hx hb dX7_at_70 rfl (lv_at hl 0 rfl) ?_
              refine lv_iload hx hb dX7_at_71 (lv_at hl 4 rfl) ?_
              refine lv_iconst (v := (jI 2)) hx hb dX7_at_73 rfl ?_
              refine k_X7_of (rest := []) hx hb hml hown hts gX7_at_X7_of ⟨Nat.le_of_ble_eq_true rfl, Nat.le_of_ble_eq_true rfl⟩ ⟨Nat.zero_le _, Nat.zero_le _⟩ hK hj hw hA hS hl.1 (Nat.le_of_ble_eq_true rfl) dX7_at_74 h (fun r32 s36 H locs h hw hS => ?_)
              refine lv_istore (lv' := [(5, .int r32), (0, .ref (ad 0)), (1, .int p0), (2, .int p1), (3, .int p2), (4, .int y4_44)]) hx hb dX7_at_77 hl (by decide) rfl (fun ls hl => ?_)
              refine lv_aload_n hx hb dX7_at_79 rfl (lv_at hl 1 rfl) ?_
              refine lv_iload_n hx hb dX7_at_80 rfl (lv_at hl 2 rfl) ?_
              refine lv_aload_n hx hb dX7_at_81 rfl (lv_at hl 1 rfl) ?_
              refine lv_iload hx hb dX7_at_82 (lv_at hl 5 rfl) ?_
              refine lv_iconst (v := (jI 1)) hx hb dX7_at_84 rfl ?_
              refine k_X7_of (rest := [.int p0, .ref (ad 0)]) hx hb hml hown hts gX7_at_X7_of ⟨Nat.le_of_ble_eq_true rfl, Nat.le_of_ble_eq_true rfl⟩ ⟨Nat.zero_le _, Nat.zero_le _⟩ hK hj hw hA hS hl.1 (Nat.le_of_ble_eq_true rfl) dX7_at_85 h (fun r33 s37 H locs h hw hS => ?_)
              refine k_X7_top (rest := []) hx hb hml hown hts gX7_at_X7_top ⟨Nat.le_of_ble_eq_true rfl, Nat.le_of_ble_eq_true rfl⟩ ⟨Nat.zero_le _, Nat.zero_le _⟩ hK hj hw hA hS hl.1 (Nat.le_of_ble_eq_true rfl) dX7_at_88 h (fun r34 s38 H locs h hw hS => ?_)
              refine lv_istore (lv' := [(6, .int r34), (5, .int r32), (0, .ref (ad 0)), (1, .int p0), (2, .int p1), (3, .int p2), (4, .int y4_44)]) hx hb dX7_at_91 hl (by decide) rfl (fun ls hl => ?_)
              refine lv_iload_n hx hb dX7_at_93 rfl (lv_at hl 4 rfl) ?_
              refine lv_iload hx hb dX7_at_94 (lv_at hl 1 rfl) ?_
              refine lv_iload hx hb dX7_at_96 (lv_at hl 1 rfl) ?_
              refine lv_aload_n hx hb dX7_at_98 rfl (lv_at hl 2 rfl) ?_
              refine lv_iload hx hb dX7_at_99 (lv_at hl 6 rfl) ?_
              refine k_X7_widthOf (rest := [.int r32, .int r32, .int p1]) hx hb hml hown hts gX7_at_X7_widthOf ⟨Nat.le_of_ble_eq_true rfl, Nat.le_of_ble_eq_true rfl⟩ ⟨Nat.zero_le _, Nat.zero_le _⟩ hK hj hw hA hS hl.1 (Nat.le_of_ble_eq_true rfl) dX7_at_101 h (fun r35 s39 H locs h hw hS => ?_)
              refine lv_iadd hx hb dX7_at_104 ?_
              refine lv_iconst (v := (jI 1)) hx hb dX7_at_105 rfl ?_
              refine lv_isub hx hb dX7_at_106 ?_
              refine k_X7_in (rest := []) hx hb hml hown hts gX7_at_X7_in ⟨Nat.le_of_ble_eq_true rfl, Nat.le_of_ble_eq_true rfl⟩ ⟨Nat.zero_le _, Nat.zero_le _⟩ hK hj hw hA hS hl.1 (Nat.le_of_ble_eq_true rfl) dX7_at_107 h (fun r36 s40 H locs h hw hS => ?_)
              refine zif_eq (tgt := 139) hx hb dX7_at_110 (by decide) (fun c25 => ?_) (fun c25 => ?_)
              · have h := h.1 c25
                obtain ⟨x11, ex11⟩ : ∃ y : Int32, y = y4_44 + (jI 1) := ⟨_, rfl⟩
                have h := h x11 ex11
                refine lv_iinc (v := x11) (lv' := [(4, .int x11), (6, .int r34), (5, .int r32), (0, .ref (ad 0)), (1, .int p0), (2, .int p1), (3, .int p2)]) hx hb dX7_at_139 hl (k := 6) rfl (by rw [ex11]; rfl) (by decide) rfl (fun ls hl => ?_)
                refine lv_goto (tgt := 44) hx hb dX7_at_142 (by decide) ?_
                exact ih44 _ _ _ _ h hw hS _ (lv_sub hl [3, 4, 5, 6, 0] rfl)
              · have h := h.2 c25
                refine lv_iload_n hx hb dX7_at_113 rfl (lv_at hl 5 rfl) ?_
                refine lv_iload hx hb dX7_at_114 (lv_at hl 0 rfl) ?_
                refine lv_iload hx hb dX7_at_116 (lv_at hl 0 rfl) ?_
                refine lv_aload_n hx hb dX7_at_118 rfl (lv_at hl 2 rfl) ?_
                refine lv_iload hx hb dX7_at_119 (lv_at hl 6 rfl) ?_
                refine k_X7_heightOf (rest := [.int r34, .int r34, .int p2]) hx hb hml hown hts gX7_at_X7_heightOf ⟨Nat.le_of_ble_eq_true rfl, Nat.le_of_ble_eq_true rfl⟩ ⟨Nat.zero_le _, Nat.zero_le _⟩ hK hj hw hA hS hl.1 (Nat.le_of_ble_eq_true rfl) dX7_at_121 h (fun r37 s41 H locs h hw hS => ?_)
                refine lv_iadd hx hb dX7_at_124 ?_
                refine lv_iconst (v := (jI 1)) hx hb dX7_at_125 rfl ?_
                refine lv_isub hx hb dX7_at_126 ?_
                refine k_X7_in (rest := []) hx hb hml hown hts gX7_at_X7_in ⟨Nat.le_of_ble_eq_true rfl, Nat.le_of_ble_eq_true rfl⟩ ⟨Nat.zero_le _, Nat.zero_le _⟩ hK hj hw hA hS hl.1 (Nat.le_of_ble_eq_true rfl) dX7_at_127 h (fun r38 s42 H locs h hw hS => ?_)
                refine zif_eq (tgt := 139) hx hb dX7_at_130 (by decide) (fun c26 => ?_) (fun c26 => ?_)
                · have h := h.1 c26
                  obtain ⟨x12, ex12⟩ : ∃ y : Int32, y = y4_44 + (jI 1) := ⟨_, rfl⟩
                  have h := h x12 ex12
                  refine lv_iinc (v := x12) (lv' := [(4, .int x12), (6, .int r34), (5, .int r32), (0, .ref (ad 0)), (1, .int p0), (2, .int p1), (3, .int p2)]) hx hb dX7_at_139 hl (k := 6) rfl (by rw [ex12]; rfl) (by decide) rfl (fun ls hl => ?_)
                  refine lv_goto (tgt := 44) hx hb dX7_at_142 (by decide) ?_
                  exact ih44 _ _ _ _ h hw hS _ (lv_sub hl [3, 4, 5, 6, 0] rfl)
                · have h := h.2 c26
                  exact k133_44 _ _ _ _ h hw hS _ (lv_sub hl [6] rfl)
    obtain ⟨nn44, h⟩ := h
    exact lp44 nn44 _ _ _ _ h hw hS _ (lv_sub hl [1, 2, 3, 4, 0] rfl)
theorem k_X7_at {p : Program} {l : Launch} {e : Env} {R : Room} {s : State} {m : MethodId} {args : Array Value} {below : List Frame} {meth : Method} {c : Code} {H : Heap} {locs : List Loc} {cells slots : Nat} {QQ : State → Prop} {cc : ByteArray} {pc nL index : Nat} {ls : Array Slot} {rest : List Value} {D : va_G} {cy : cyT} {ad : Nat → Nat} {own : String} {Ts : List Cond} {H0 : Heap} {σ : ST} {p0 : Int32} {p1 : Int32} {p2 : Int32} {Q : Int32 → ST → Prop} (hx : p.tables.exec = Jvm.exec) (hb : c.code = cc) (hml : c.maxLocals = nL) (hown : s.vm.findClass own = some m.cls) (hts : ∀ w ∈ Ts, w.before args s = true) (hG : GoodIn Ts (wsV own index RX7 yX7_at wsX7_at)) (hR : 2 + 1 ≤ R.frames ∧ 8 + (7 + 11) + 46 ≤ R.locals) (hcs : cells ≤ R.cells ∧ slots ≤ R.slots) (hK : zK D cy s) (hj : zI 6 ad) (hw : zW D 6 (zme cy ad σ) ad H) {A0 : Nat → Prop} (hA : ∀ i, i < 6 → A0 (ad i)) (hS : va_S A0 H0 H locs) (hsz : ls.size = nL) (hrest : (rest.map fun v => v.category).sum ≤ 8) (hdg : decode cc pc = .ok (.invokevirtual index, 3)) (h : wp_X7_at σ p0 p1 p2 Q) (kk : ∀ (r : Int32) (σ : ST) (H : Heap) (locs : List Loc), Q r σ → zW D 6 (zme cy ad σ) ad H → va_S A0 H0 H locs → W p l e R s m args below meth c H locs cells slots QQ (F0 m (pc + 3) ls (.int r :: rest))) : W p l e R s m args below meth c H locs cells slots QQ (F0 m pc ls (.int p2 :: .int p1 :: .int p0 :: .ref (ad 0) :: rest)) :=
  zcalli (va_runV (As := [.int p0, .int p1, .int p2]) (rest := rest) ⟨hx, hb, hml, hown, hts⟩ (c_X7_at l D cy ad σ p0 p1 p2 h) (cwV 3 hts hG rfl rfl rfl (by decide +kernel) hR) (zpreV hj hK hw _ (i := 0) (ci := 6) (by decide) rfl rfl) rfl rfl hsz rfl (lv_room hrest) hdg hcs) hA hS kk
set_option maxHeartbeats 4000000 in
set_option maxRecDepth 100000 in
theorem c_X7_streetAt (l : Launch) (D : va_G) (cy : cyT) (ad : Nat → Nat) (σ : ST) (p0 : Int32) {Q : Int32 → ST → Prop} (h : wp_X7_streetAt σ p0 Q) : Met l yX7_streetAt wsX7_streetAt ({ frames := 1, cells := 0, slots := 0, locals := 20 } : Room) (zPre D cy 6 (zme cy ad σ) ad [.ref (ad 0), .int p0]) (va_Qi Q (zB D 6 (zme cy ad) ad) (zA 6 ad)) 0 0 (zA 6 ad) := by
  refine Met.ofW (cc := cX7_streetAt) (maxL := 2) (ret := (some .int)) (by decide) rfl ?_
  intro p e s m args below meth c s₁ B hml hv
  obtain ⟨rfl, hj, hK, hw⟩ := hv
  have hx := B.exec
  have hb := B.bytes
  have hr := B.returns
  have hts := atoms_spec (ws := wsX7_streetAt) B.pre
  have hown : s.vm.findClass RX7 = some m.cls := findClass_of_methodNamed B.named
  have hlocks := B.notSynchronized
  have lk0 : Cond.fieldLink RX7 7 "TypeTraysModel" "w" "[I" ∈ wsX7_streetAt := List.mem_of_getElem? (i := 1) rfl
  have inX7 : ∀ w ∈ u_ws RX7 TX7 16, w ∈ wsX7_streetAt := zin_at 6 rfl
  have hS : va_S (zA 6 ad) s.heap s.heap [] := va_S.rf
  have hA : ∀ i, i < 6 → zA 6 ad (ad i) := fun i hi => ⟨i, hi, rfl⟩
  have hl := lv_entry ([.ref (ad 0), .int p0]) (n := 2) (Nat.le_of_ble_eq_true rfl)
  rw [lg_entry_eq]
  generalize (lg_sl ([.ref (ad 0), .int p0]) ++ List.replicate (2 - (lg_sl ([.ref (ad 0), .int p0])).length) Slot.unset).toArray = ls at hl ⊢
  have hl : lv_has ls 2 [(0, .ref (ad 0)), (1, .int p0)] := hl
  show W p l e ({ frames := 1, cells := 0, slots := 0, locals := 20 } : Room) s m ([.ref (ad 0), .int p0] : List Value).toArray below meth c s.heap [] 0 0 (MQ below (va_Qi Q (zB D 6 (zme cy ad) ad) (zA 6 ad)) ([.ref (ad 0), .int p0] : List Value).toArray s 0 0 (zA 6 ad)) (F0 m 0 ls [])
  unfold wp_X7_streetAt at h
  refine lv_iload_n hx hb dX7_streetAt_0 rfl (lv_at hl 1 rfl) ?_
  refine lv_aload_n hx hb dX7_streetAt_1 rfl (lv_at hl 0 rfl) ?_
  refine zget hx hb hts inX7 hown hK hw 0 (by decide) rfl rfl 0 (by decide) lk0 (fun _ h9 => h9) rfl dX7_streetAt_2 ?_
  refine lv_bipush (v := (jI 7)) hx hb dX7_streetAt_5 (by decide +kernel) ?_
  refine ziald hx hb hK hw 1 (by decide) rfl h.1 dX7_streetAt_7 ?_
  refine lv_topi (fun v1 ev1 => ?_)
  have h := h.2 v1 ev1
  refine lv_icmp_ge (tgt := 26) hx hb dX7_streetAt_8 (by decide) (fun c1 => ?_) (fun c1 => ?_)
  · have h := h.1 c1
    refine lv_iconst (v := (jI (-1))) hx hb dX7_streetAt_26 rfl ?_
    exact W.iret (v := (jI (-1))) hx hb hr (fun t ht hW => ⟨⟨_, _, rfl, h, zend hw ht⟩, hS.F ht⟩) hS.2.2 dX7_streetAt_27
  · have h := h.2 c1
    refine lv_aload_n hx hb dX7_streetAt_11 rfl (lv_at hl 0 rfl) ?_
    refine zget hx hb hts inX7 hown hK hw 0 (by decide) rfl rfl 0 (by decide) lk0 (fun _ h9 => h9) rfl dX7_streetAt_12 ?_
    refine lv_bipush (v := (jI 8)) hx hb dX7_streetAt_15 (by decide +kernel) ?_
    refine lv_iload_n hx hb dX7_streetAt_17 rfl (lv_at hl 1 rfl) ?_
    refine lv_iadd hx hb dX7_streetAt_18 ?_
    refine ziald hx hb hK hw 1 (by decide) rfl h.1 dX7_streetAt_19 ?_
    refine lv_topi (fun v2 ev2 => ?_)
    have h := h.2 v2 ev2
    refine k_X7_codeOf (rest := []) hx hb hml hown hts gX7_streetAt_X7_codeOf ⟨Nat.le_of_ble_eq_true rfl, Nat.le_of_ble_eq_true rfl⟩ ⟨Nat.zero_le _, Nat.zero_le _⟩ hK hj hw hA hS hl.1 (Nat.le_of_ble_eq_true rfl) dX7_streetAt_20 h (fun r1 s1 H locs h hw hS => ?_)
    refine lv_goto (tgt := 27) hx hb dX7_streetAt_23 (by decide) ?_
    exact W.iret (v := r1) hx hb hr (fun t ht hW => ⟨⟨_, _, rfl, h, zend hw ht⟩, hS.F ht⟩) hS.2.2 dX7_streetAt_27
theorem k_X7_streetAt {p : Program} {l : Launch} {e : Env} {R : Room} {s : State} {m : MethodId} {args : Array Value} {below : List Frame} {meth : Method} {c : Code} {H : Heap} {locs : List Loc} {cells slots : Nat} {QQ : State → Prop} {cc : ByteArray} {pc nL index : Nat} {ls : Array Slot} {rest : List Value} {D : va_G} {cy : cyT} {ad : Nat → Nat} {own : String} {Ts : List Cond} {H0 : Heap} {σ : ST} {p0 : Int32} {Q : Int32 → ST → Prop} (hx : p.tables.exec = Jvm.exec) (hb : c.code = cc) (hml : c.maxLocals = nL) (hown : s.vm.findClass own = some m.cls) (hts : ∀ w ∈ Ts, w.before args s = true) (hG : GoodIn Ts (wsV own index RX7 yX7_streetAt wsX7_streetAt)) (hR : 1 + 1 ≤ R.frames ∧ 8 + (2 + 11) + 20 ≤ R.locals) (hcs : cells ≤ R.cells ∧ slots ≤ R.slots) (hK : zK D cy s) (hj : zI 6 ad) (hw : zW D 6 (zme cy ad σ) ad H) {A0 : Nat → Prop} (hA : ∀ i, i < 6 → A0 (ad i)) (hS : va_S A0 H0 H locs) (hsz : ls.size = nL) (hrest : (rest.map fun v => v.category).sum ≤ 8) (hdg : decode cc pc = .ok (.invokevirtual index, 3)) (h : wp_X7_streetAt σ p0 Q) (kk : ∀ (r : Int32) (σ : ST) (H : Heap) (locs : List Loc), Q r σ → zW D 6 (zme cy ad σ) ad H → va_S A0 H0 H locs → W p l e R s m args below meth c H locs cells slots QQ (F0 m (pc + 3) ls (.int r :: rest))) : W p l e R s m args below meth c H locs cells slots QQ (F0 m pc ls (.int p0 :: .ref (ad 0) :: rest)) :=
  zcalli (va_runV (As := [.int p0]) (rest := rest) ⟨hx, hb, hml, hown, hts⟩ (c_X7_streetAt l D cy ad σ p0 h) (cwV 1 hts hG rfl rfl rfl (by decide +kernel) hR) (zpreV hj hK hw _ (i := 0) (ci := 6) (by decide) rfl rfl) rfl rfl hsz rfl (lv_room hrest) hdg hcs) hA hS kk
set_option maxHeartbeats 4000000 in
set_option maxRecDepth 100000 in
theorem c_X7_street (l : Launch) (D : va_G) (cy : cyT) (ad : Nat → Nat) (σ : ST) (p0 : Int32) {Q : Int32 → ST → Prop} (h : wp_X7_street σ p0 Q) : Met l yX7_street wsX7_street ({ frames := 2, cells := 0, slots := 0, locals := 41 } : Room) (zPre D cy 6 (zme cy ad σ) ad [.ref (ad 0), .int p0]) (va_Qi Q (zB D 6 (zme cy ad) ad) (zA 6 ad)) 0 0 (zA 6 ad) := by
  refine Met.ofW (cc := cX7_street) (maxL := 2) (ret := (some .int)) (by decide) rfl ?_
  intro p e s m args below meth c s₁ B hml hv
  obtain ⟨rfl, hj, hK, hw⟩ := hv
  have hx := B.exec
  have hb := B.bytes
  have hr := B.returns
  have hts := atoms_spec (ws := wsX7_street) B.pre
  have hown : s.vm.findClass RX7 = some m.cls := findClass_of_methodNamed B.named
  have hlocks := B.notSynchronized
  have lk0 : Cond.fieldLink RX7 26 "TypeTraysModel" "thrown" "I" ∈ wsX7_street := List.mem_of_getElem? (i := 1) rfl
  have inX7 : ∀ w ∈ u_ws RX7 TX7 16, w ∈ wsX7_street := zin_at 11 rfl
  have hS : va_S (zA 6 ad) s.heap s.heap [] := va_S.rf
  have hA : ∀ i, i < 6 → zA 6 ad (ad i) := fun i hi => ⟨i, hi, rfl⟩
  have hl := lv_entry ([.ref (ad 0), .int p0]) (n := 2) (Nat.le_of_ble_eq_true rfl)
  rw [lg_entry_eq]
  generalize (lg_sl ([.ref (ad 0), .int p0]) ++ List.replicate (2 - (lg_sl ([.ref (ad 0), .int p0])).length) Slot.unset).toArray = ls at hl ⊢
  have hl : lv_has ls 2 [(0, .ref (ad 0)), (1, .int p0)] := hl
  show W p l e ({ frames := 2, cells := 0, slots := 0, locals := 41 } : Room) s m ([.ref (ad 0), .int p0] : List Value).toArray below meth c s.heap [] 0 0 (MQ below (va_Qi Q (zB D 6 (zme cy ad) ad) (zA 6 ad)) ([.ref (ad 0), .int p0] : List Value).toArray s 0 0 (zA 6 ad)) (F0 m 0 ls [])
  unfold wp_X7_street at h
  refine lv_aload_n hx hb dX7_street_0 rfl (lv_at hl 0 rfl) ?_
  refine lv_iload_n hx hb dX7_street_1 rfl (lv_at hl 1 rfl) ?_
  refine zif_ge (tgt := 9) hx hb dX7_street_2 (by decide) (fun c1 => ?_) (fun c1 => ?_)
  · have h := h.1 c1
    refine lv_iconst (v := (jI 0)) hx hb dX7_street_9 rfl ?_
    obtain ⟨s1, es1⟩ : ∃ y : ST, y = zsp σ 1 (jI 0) := ⟨_, rfl⟩
    have h := h s1 es1
    refine zput (ty := .int) hx hb hts inX7 tyX7 tyX7_ok nmX7 hown hK hj hw hA hS 0 (by decide) rfl rfl 3 (by decide) lk0 (fun _ h9 => h9) rfl (by decide +kernel) rfl rfl (Nat.le_of_ble_eq_true rfl) dX7_street_10 (zme cy ad s1) (by rw [es1]; rfl) (fun j hj9 => by rw [es1]; exact zsp_off_M_1 j hj9) (fun H locs hw hS => ?_)
    refine lv_aload_n hx hb dX7_street_13 rfl (lv_at hl 0 rfl) ?_
    refine zget hx hb hts inX7 hown hK hw 0 (by decide) rfl rfl 3 (by decide) lk0 (fun _ h9 => h9) rfl dX7_street_14 ?_
    refine zif_le (tgt := 24) hx hb dX7_street_17 (by decide) (fun c2 => ?_) (fun c2 => ?_)
    · have h := h.1 c2
      refine lv_aload_n hx hb dX7_street_24 rfl (lv_at hl 0 rfl) ?_
      refine lv_iload_n hx hb dX7_street_25 rfl (lv_at hl 1 rfl) ?_
      refine k_X7_streetAt (rest := []) hx hb hml hown hts gX7_street_X7_streetAt ⟨Nat.le_of_ble_eq_true rfl, Nat.le_of_ble_eq_true rfl⟩ ⟨Nat.zero_le _, Nat.zero_le _⟩ hK hj hw hA hS hl.1 (Nat.le_of_ble_eq_true rfl) dX7_street_26 h (fun r1 s2 H locs h hw hS => ?_)
      exact W.iret (v := r1) hx hb hr (fun t ht hW => ⟨⟨_, _, rfl, h, zend hw ht⟩, hS.F ht⟩) hS.2.2 dX7_street_29
    · have h := h.2 c2
      refine lv_iconst (v := (jI 0)) hx hb dX7_street_20 rfl ?_
      refine lv_goto (tgt := 29) hx hb dX7_street_21 (by decide) ?_
      exact W.iret (v := (jI 0)) hx hb hr (fun t ht hW => ⟨⟨_, _, rfl, h, zend hw ht⟩, hS.F ht⟩) hS.2.2 dX7_street_29
  · have h := h.2 c1
    refine lv_iconst (v := (jI 1)) hx hb dX7_street_5 rfl ?_
    refine lv_goto (tgt := 10) hx hb dX7_street_6 (by decide) ?_
    obtain ⟨s3, es3⟩ : ∃ y : ST, y = zsp σ 1 (jI 1) := ⟨_, rfl⟩
    have h := h s3 es3
    refine zput (ty := .int) hx hb hts inX7 tyX7 tyX7_ok nmX7 hown hK hj hw hA hS 0 (by decide) rfl rfl 3 (by decide) lk0 (fun _ h9 => h9) rfl (by decide +kernel) rfl rfl (Nat.le_of_ble_eq_true rfl) dX7_street_10 (zme cy ad s3) (by rw [es3]; rfl) (fun j hj9 => by rw [es3]; exact zsp_off_M_1 j hj9) (fun H locs hw hS => ?_)
    refine lv_aload_n hx hb dX7_street_13 rfl (lv_at hl 0 rfl) ?_
    refine zget hx hb hts inX7 hown hK hw 0 (by decide) rfl rfl 3 (by decide) lk0 (fun _ h9 => h9) rfl dX7_street_14 ?_
    refine zif_le (tgt := 24) hx hb dX7_street_17 (by decide) (fun c3 => ?_) (fun c3 => ?_)
    · have h := h.1 c3
      refine lv_aload_n hx hb dX7_street_24 rfl (lv_at hl 0 rfl) ?_
      refine lv_iload_n hx hb dX7_street_25 rfl (lv_at hl 1 rfl) ?_
      refine k_X7_streetAt (rest := []) hx hb hml hown hts gX7_street_X7_streetAt ⟨Nat.le_of_ble_eq_true rfl, Nat.le_of_ble_eq_true rfl⟩ ⟨Nat.zero_le _, Nat.zero_le _⟩ hK hj hw hA hS hl.1 (Nat.le_of_ble_eq_true rfl) dX7_street_26 h (fun r2 s4 H locs h hw hS => ?_)
      exact W.iret (v := r2) hx hb hr (fun t ht hW => ⟨⟨_, _, rfl, h, zend hw ht⟩, hS.F ht⟩) hS.2.2 dX7_street_29
    · have h := h.2 c3
      refine lv_iconst (v := (jI 0)) hx hb dX7_street_20 rfl ?_
      refine lv_goto (tgt := 29) hx hb dX7_street_21 (by decide) ?_
      exact W.iret (v := (jI 0)) hx hb hr (fun t ht hW => ⟨⟨_, _, rfl, h, zend hw ht⟩, hS.F ht⟩) hS.2.2 dX7_street_29
theorem k_X7_street {p : Program} {l : Launch} {e : Env} {R : Room} {s : State} {m : MethodId} {args : Array Value} {below : List Frame} {meth : Method} {c : Code} {H : Heap} {locs : List Loc} {cells slots : Nat} {QQ : State → Prop} {cc : ByteArray} {pc nL index : Nat} {ls : Array Slot} {rest : List Value} {D : va_G} {cy : cyT} {ad : Nat → Nat} {own : String} {Ts : List Cond} {H0 : Heap} {σ : ST} {p0 : Int32} {Q : Int32 → ST → Prop} (hx : p.tables.exec = Jvm.exec) (hb : c.code = cc) (hml : c.maxLocals = nL) (hown : s.vm.findClass own = some m.cls) (hts : ∀ w ∈ Ts, w.before args s = true) (hG : GoodIn Ts (wsV own index RX7 yX7_street wsX7_street)) (hR : 2 + 1 ≤ R.frames ∧ 8 + (2 + 11) + 41 ≤ R.locals) (hcs : cells ≤ R.cells ∧ slots ≤ R.slots) (hK : zK D cy s) (hj : zI 6 ad) (hw : zW D 6 (zme cy ad σ) ad H) {A0 : Nat → Prop} (hA : ∀ i, i < 6 → A0 (ad i)) (hS : va_S A0 H0 H locs) (hsz : ls.size = nL) (hrest : (rest.map fun v => v.category).sum ≤ 8) (hdg : decode cc pc = .ok (.invokevirtual index, 3)) (h : wp_X7_street σ p0 Q) (kk : ∀ (r : Int32) (σ : ST) (H : Heap) (locs : List Loc), Q r σ → zW D 6 (zme cy ad σ) ad H → va_S A0 H0 H locs → W p l e R s m args below meth c H locs cells slots QQ (F0 m (pc + 3) ls (.int r :: rest))) : W p l e R s m args below meth c H locs cells slots QQ (F0 m pc ls (.int p0 :: .ref (ad 0) :: rest)) :=
  zcalli (va_runV (As := [.int p0]) (rest := rest) ⟨hx, hb, hml, hown, hts⟩ (c_X7_street l D cy ad σ p0 h) (cwV 1 hts hG rfl rfl rfl (by decide +kernel) hR) (zpreV hj hK hw _ (i := 0) (ci := 6) (by decide) rfl rfl) rfl rfl hsz rfl (lv_room hrest) hdg hcs) hA hS kk
set_option maxHeartbeats 4000000 in
set_option maxRecDepth 100000 in
theorem c_X7_sumOf (l : Launch) (D : va_G) (cy : cyT) (ad : Nat → Nat) (σ : ST) (p0 : Int32) {Q : Int32 → ST → Prop} (h : wp_X7_sumOf σ p0 Q) : Met l yX7_sumOf wsX7_sumOf ({ frames := 3, cells := 0, slots := 0, locals := 70 } : Room) (zPre D cy 6 (zme cy ad σ) ad [.ref (ad 0), .int p0]) (va_Qi Q (zB D 6 (zme cy ad) ad) (zA 6 ad)) 0 0 (zA 6 ad) := by
  refine Met.ofW (cc := cX7_sumOf) (maxL := 4) (ret := (some .int)) (by decide) rfl ?_
  intro p e s m args below meth c s₁ B hml hv
  obtain ⟨rfl, hj, hK, hw⟩ := hv
  have hx := B.exec
  have hb := B.bytes
  have hr := B.returns
  have hts := atoms_spec (ws := wsX7_sumOf) B.pre
  have hown : s.vm.findClass RX7 = some m.cls := findClass_of_methodNamed B.named
  have hlocks := B.notSynchronized
  have lk0 : Cond.fieldLink RX7 7 "TypeTraysModel" "w" "[I" ∈ wsX7_sumOf := List.mem_of_getElem? (i := 1) rfl
  have inX7 : ∀ w ∈ u_ws RX7 TX7 16, w ∈ wsX7_sumOf := zin_at 31 rfl
  have hS : va_S (zA 6 ad) s.heap s.heap [] := va_S.rf
  have hA : ∀ i, i < 6 → zA 6 ad (ad i) := fun i hi => ⟨i, hi, rfl⟩
  have hl := lv_entry ([.ref (ad 0), .int p0]) (n := 4) (Nat.le_of_ble_eq_true rfl)
  rw [lg_entry_eq]
  generalize (lg_sl ([.ref (ad 0), .int p0]) ++ List.replicate (4 - (lg_sl ([.ref (ad 0), .int p0])).length) Slot.unset).toArray = ls at hl ⊢
  have hl : lv_has ls 4 [(0, .ref (ad 0)), (1, .int p0)] := hl
  show W p l e ({ frames := 3, cells := 0, slots := 0, locals := 70 } : Room) s m ([.ref (ad 0), .int p0] : List Value).toArray below meth c s.heap [] 0 0 (MQ below (va_Qi Q (zB D 6 (zme cy ad) ad) (zA 6 ad)) ([.ref (ad 0), .int p0] : List Value).toArray s 0 0 (zA 6 ad)) (F0 m 0 ls [])
  unfold wp_X7_sumOf at h
  refine lv_iconst (v := (jI 0)) hx hb dX7_sumOf_0 rfl ?_
  refine lv_istore_n (lv' := [(2, .int (jI 0)), (0, .ref (ad 0)), (1, .int p0)]) hx hb dX7_sumOf_1 rfl hl (by decide) rfl (fun ls hl => ?_)
  refine lv_iconst (v := (jI 0)) hx hb dX7_sumOf_2 rfl ?_
  refine lv_istore_n (lv' := [(3, .int (jI 0)), (2, .int (jI 0)), (0, .ref (ad 0)), (1, .int p0)]) hx hb dX7_sumOf_3 rfl hl (by decide) rfl (fun ls hl => ?_)
  have k29_4 : ∀ (u_29 : ST) (z2_29 : Int32) (H : Heap) (locs : List Loc), Q z2_29 u_29 → zW D 6 (zme cy ad u_29) ad H → va_S (zA 6 ad) s.heap H locs → ∀ ls : Array Slot, lv_has ls 4 [(2, .int z2_29)] → W p l e ({ frames := 3, cells := 0, slots := 0, locals := 70 } : Room) s m ([.ref (ad 0), .int p0] : List Value).toArray below meth c H locs 0 0 (MQ below (va_Qi Q (zB D 6 (zme cy ad) ad) (zA 6 ad)) ([.ref (ad 0), .int p0] : List Value).toArray s 0 0 (zA 6 ad)) (F0 m 29 ls []) := by
    intro u_29 z2_29 H locs h hw hS ls hl
    refine lv_iload_n hx hb dX7_sumOf_29 rfl (lv_at hl 0 rfl) ?_
    exact W.iret (v := z2_29) hx hb hr (fun t ht hW => ⟨⟨_, _, rfl, h, zend hw ht⟩, hS.F ht⟩) hS.2.2 dX7_sumOf_30
  have lp4 : ∀ (nn4 : Nat) (t_4 : ST) (y2_4 : Int32) (y3_4 : Int32) (H : Heap) (locs : List Loc), wl_X7_sumOf_4 (fun u_29 z2_29 => Q z2_29 u_29) p0 nn4 t_4 y2_4 y3_4 → zW D 6 (zme cy ad t_4) ad H → va_S (zA 6 ad) s.heap H locs → ∀ ls : Array Slot, lv_has ls 4 [(0, .ref (ad 0)), (1, .int p0), (2, .int y2_4), (3, .int y3_4)] → W p l e ({ frames := 3, cells := 0, slots := 0, locals := 70 } : Room) s m ([.ref (ad 0), .int p0] : List Value).toArray below meth c H locs 0 0 (MQ below (va_Qi Q (zB D 6 (zme cy ad) ad) (zA 6 ad)) ([.ref (ad 0), .int p0] : List Value).toArray s 0 0 (zA 6 ad)) (F0 m 4 ls []) := by
    intro nn4
    induction nn4 with
    | zero => intro _ _ _ _ _ h; exact h.elim
    | succ nn4 ih4 =>
      intro t_4 y2_4 y3_4 H locs h hw hS ls hl
      simp only [wl_X7_sumOf_4, wb_X7_sumOf_4] at h
      refine lv_iload_n hx hb dX7_sumOf_4 rfl (lv_at hl 3 rfl) ?_
      refine lv_aload_n hx hb dX7_sumOf_5 rfl (lv_at hl 0 rfl) ?_
      refine zget hx hb hts inX7 hown hK hw 0 (by decide) rfl rfl 0 (by decide) lk0 (fun _ h9 => h9) rfl dX7_sumOf_6 ?_
      refine lv_iconst (v := (jI 0)) hx hb dX7_sumOf_9 rfl ?_
      refine ziald hx hb hK hw 1 (by decide) rfl h.1 dX7_sumOf_10 ?_
      refine lv_topi (fun v1 ev1 => ?_)
      have h := h.2 v1 ev1
      refine lv_icmp_ge (tgt := 29) hx hb dX7_sumOf_11 (by decide) (fun c1 => ?_) (fun c1 => ?_)
      · have h := h.1 c1
        exact k29_4 _ _ _ _ h hw hS _ (lv_sub hl [2] rfl)
      · have h := h.2 c1
        refine lv_iload_n hx hb dX7_sumOf_14 rfl (lv_at hl 2 rfl) ?_
        refine lv_aload_n hx hb dX7_sumOf_15 rfl (lv_at hl 0 rfl) ?_
        refine lv_iload_n hx hb dX7_sumOf_16 rfl (lv_at hl 3 rfl) ?_
        refine lv_iload_n hx hb dX7_sumOf_17 rfl (lv_at hl 1 rfl) ?_
        refine k_X7_trayBy (rest := [.int y2_4]) hx hb hml hown hts gX7_sumOf_X7_trayBy ⟨Nat.le_of_ble_eq_true rfl, Nat.le_of_ble_eq_true rfl⟩ ⟨Nat.zero_le _, Nat.zero_le _⟩ hK hj hw hA hS hl.1 (Nat.le_of_ble_eq_true rfl) dX7_sumOf_18 h (fun r1 s1 H locs h hw hS => ?_)
        refine lv_iadd hx hb dX7_sumOf_21 ?_
        refine lv_topi (fun x1 ex1 => ?_)
        have h := h x1 ex1
        refine lv_istore_n (lv' := [(2, .int x1), (0, .ref (ad 0)), (1, .int p0), (3, .int y3_4)]) hx hb dX7_sumOf_22 rfl hl (by decide) rfl (fun ls hl => ?_)
        obtain ⟨x2, ex2⟩ : ∃ y : Int32, y = y3_4 + (jI 1) := ⟨_, rfl⟩
        have h := h x2 ex2
        refine lv_iinc (v := x2) (lv' := [(3, .int x2), (2, .int x1), (0, .ref (ad 0)), (1, .int p0)]) hx hb dX7_sumOf_23 hl (k := 3) rfl (by rw [ex2]; rfl) (by decide) rfl (fun ls hl => ?_)
        refine lv_goto (tgt := 4) hx hb dX7_sumOf_26 (by decide) ?_
        exact ih4 _ _ _ _ _ h hw hS _ (lv_sub hl [2, 3, 1, 0] rfl)
  obtain ⟨nn4, h⟩ := h
  exact lp4 nn4 _ _ _ _ _ h hw hS _ (lv_sub hl [2, 3, 1, 0] rfl)
theorem k_X7_sumOf {p : Program} {l : Launch} {e : Env} {R : Room} {s : State} {m : MethodId} {args : Array Value} {below : List Frame} {meth : Method} {c : Code} {H : Heap} {locs : List Loc} {cells slots : Nat} {QQ : State → Prop} {cc : ByteArray} {pc nL index : Nat} {ls : Array Slot} {rest : List Value} {D : va_G} {cy : cyT} {ad : Nat → Nat} {own : String} {Ts : List Cond} {H0 : Heap} {σ : ST} {p0 : Int32} {Q : Int32 → ST → Prop} (hx : p.tables.exec = Jvm.exec) (hb : c.code = cc) (hml : c.maxLocals = nL) (hown : s.vm.findClass own = some m.cls) (hts : ∀ w ∈ Ts, w.before args s = true) (hG : GoodIn Ts (wsV own index RX7 yX7_sumOf wsX7_sumOf)) (hR : 3 + 1 ≤ R.frames ∧ 8 + (4 + 11) + 70 ≤ R.locals) (hcs : cells ≤ R.cells ∧ slots ≤ R.slots) (hK : zK D cy s) (hj : zI 6 ad) (hw : zW D 6 (zme cy ad σ) ad H) {A0 : Nat → Prop} (hA : ∀ i, i < 6 → A0 (ad i)) (hS : va_S A0 H0 H locs) (hsz : ls.size = nL) (hrest : (rest.map fun v => v.category).sum ≤ 8) (hdg : decode cc pc = .ok (.invokevirtual index, 3)) (h : wp_X7_sumOf σ p0 Q) (kk : ∀ (r : Int32) (σ : ST) (H : Heap) (locs : List Loc), Q r σ → zW D 6 (zme cy ad σ) ad H → va_S A0 H0 H locs → W p l e R s m args below meth c H locs cells slots QQ (F0 m (pc + 3) ls (.int r :: rest))) : W p l e R s m args below meth c H locs cells slots QQ (F0 m pc ls (.int p0 :: .ref (ad 0) :: rest)) :=
  zcalli (va_runV (As := [.int p0]) (rest := rest) ⟨hx, hb, hml, hown, hts⟩ (c_X7_sumOf l D cy ad σ p0 h) (cwV 1 hts hG rfl rfl rfl (by decide +kernel) hR) (zpreV hj hK hw _ (i := 0) (ci := 6) (by decide) rfl rfl) rfl rfl hsz rfl (lv_room hrest) hdg hcs) hA hS kk
set_option maxHeartbeats 4000000 in
set_option maxRecDepth 100000 in
theorem c_X7_wholeBy (l : Launch) (D : va_G) (cy : cyT) (ad : Nat → Nat) (σ : ST) (p0 : Int32) {Q : Int32 → ST → Prop} (h : wp_X7_wholeBy σ p0 Q) : Met l yX7_wholeBy wsX7_wholeBy ({ frames := 4, cells := 0, slots := 0, locals := 93 } : Room) (zPre D cy 6 (zme cy ad σ) ad [.ref (ad 0), .int p0]) (va_Qi Q (zB D 6 (zme cy ad) ad) (zA 6 ad)) 0 0 (zA 6 ad) := by
  refine Met.ofW (cc := cX7_wholeBy) (maxL := 2) (ret := (some .int)) (by decide) rfl ?_
  intro p e s m args below meth c s₁ B hml hv
  obtain ⟨rfl, hj, hK, hw⟩ := hv
  have hx := B.exec
  have hb := B.bytes
  have hr := B.returns
  have hts := atoms_spec (ws := wsX7_wholeBy) B.pre
  have hown : s.vm.findClass RX7 = some m.cls := findClass_of_methodNamed B.named
  have hlocks := B.notSynchronized
  have lk0 : Cond.fieldLink RX7 7 "TypeTraysModel" "w" "[I" ∈ wsX7_wholeBy := List.mem_of_getElem? (i := 1) rfl
  have lk1 : Cond.fieldLink RX7 187 "TypeTraysModel" "typed" "I" ∈ wsX7_wholeBy := List.mem_of_getElem? (i := 2) rfl
  have inX7 : ∀ w ∈ u_ws RX7 TX7 16, w ∈ wsX7_wholeBy := zin_at 48 rfl
  have hS : va_S (zA 6 ad) s.heap s.heap [] := va_S.rf
  have hA : ∀ i, i < 6 → zA 6 ad (ad i) := fun i hi => ⟨i, hi, rfl⟩
  have hl := lv_entry ([.ref (ad 0), .int p0]) (n := 2) (Nat.le_of_ble_eq_true rfl)
  rw [lg_entry_eq]
  generalize (lg_sl ([.ref (ad 0), .int p0]) ++ List.replicate (2 - (lg_sl ([.ref (ad 0), .int p0])).length) Slot.unset).toArray = ls at hl ⊢
  have hl : lv_has ls 2 [(0, .ref (ad 0)), (1, .int p0)] := hl
  show W p l e ({ frames := 4, cells := 0, slots := 0, locals := 93 } : Room) s m ([.ref (ad 0), .int p0] : List Value).toArray below meth c s.heap [] 0 0 (MQ below (va_Qi Q (zB D 6 (zme cy ad) ad) (zA 6 ad)) ([.ref (ad 0), .int p0] : List Value).toArray s 0 0 (zA 6 ad)) (F0 m 0 ls [])
  unfold wp_X7_wholeBy at h
  refine lv_iload_n hx hb dX7_wholeBy_0 rfl (lv_at hl 1 rfl) ?_
  rcases Classical.em (p0 = (jI 0)) with c1 | c1
  · have h := h.1 c1
    refine lv_tableIn (tgt := 64) (off := 63) hx hb dX7_wholeBy_1 (by rw [c1]; decide +kernel) (by rw [c1]; decide +kernel) (by rw [c1]; decide +kernel) (by decide) ?_
    refine lv_aload_n hx hb dX7_wholeBy_64 rfl (lv_at hl 0 rfl) ?_
    refine zget hx hb hts inX7 hown hK hw 0 (by decide) rfl rfl 0 (by decide) lk0 (fun _ h9 => h9) rfl dX7_wholeBy_65 ?_
    refine lv_iconst (v := (jI 0)) hx hb dX7_wholeBy_68 rfl ?_
    refine ziald hx hb hK hw 1 (by decide) rfl h.1 dX7_wholeBy_69 ?_
    refine lv_topi (fun v1 ev1 => ?_)
    have h := h.2 v1 ev1
    exact W.iret (v := v1) hx hb hr (fun t ht hW => ⟨⟨_, _, rfl, h, zend hw ht⟩, hS.F ht⟩) hS.2.2 dX7_wholeBy_70
  have h := h.2 c1
  rcases Classical.em (p0 = (jI 1)) with c2 | c2
  · have h := h.1 c2
    refine lv_tableIn (tgt := 71) (off := 70) hx hb dX7_wholeBy_1 (by rw [c2]; decide +kernel) (by rw [c2]; decide +kernel) (by rw [c2]; decide +kernel) (by decide) ?_
    refine lv_aload_n hx hb dX7_wholeBy_71 rfl (lv_at hl 0 rfl) ?_
    refine lv_iconst (v := (jI 0)) hx hb dX7_wholeBy_72 rfl ?_
    refine k_X7_sumOf (rest := []) hx hb hml hown hts gX7_wholeBy_X7_sumOf ⟨Nat.le_of_ble_eq_true rfl, Nat.le_of_ble_eq_true rfl⟩ ⟨Nat.zero_le _, Nat.zero_le _⟩ hK hj hw hA hS hl.1 (Nat.le_of_ble_eq_true rfl) dX7_wholeBy_73 h (fun r1 s1 H locs h hw hS => ?_)
    exact W.iret (v := r1) hx hb hr (fun t ht hW => ⟨⟨_, _, rfl, h, zend hw ht⟩, hS.F ht⟩) hS.2.2 dX7_wholeBy_76
  have h := h.2 c2
  rcases Classical.em (p0 = (jI 2)) with c3 | c3
  · have h := h.1 c3
    refine lv_tableIn (tgt := 77) (off := 76) hx hb dX7_wholeBy_1 (by rw [c3]; decide +kernel) (by rw [c3]; decide +kernel) (by rw [c3]; decide +kernel) (by decide) ?_
    refine lv_aload_n hx hb dX7_wholeBy_77 rfl (lv_at hl 0 rfl) ?_
    refine lv_iconst (v := (jI 2)) hx hb dX7_wholeBy_78 rfl ?_
    refine k_X7_sumOf (rest := []) hx hb hml hown hts gX7_wholeBy_X7_sumOf ⟨Nat.le_of_ble_eq_true rfl, Nat.le_of_ble_eq_true rfl⟩ ⟨Nat.zero_le _, Nat.zero_le _⟩ hK hj hw hA hS hl.1 (Nat.le_of_ble_eq_true rfl) dX7_wholeBy_79 h (fun r2 s2 H locs h hw hS => ?_)
    exact W.iret (v := r2) hx hb hr (fun t ht hW => ⟨⟨_, _, rfl, h, zend hw ht⟩, hS.F ht⟩) hS.2.2 dX7_wholeBy_82
  have h := h.2 c3
  rcases Classical.em (p0 = (jI 3)) with c4 | c4
  · have h := h.1 c4
    refine lv_tableIn (tgt := 83) (off := 82) hx hb dX7_wholeBy_1 (by rw [c4]; decide +kernel) (by rw [c4]; decide +kernel) (by rw [c4]; decide +kernel) (by decide) ?_
    refine lv_aload_n hx hb dX7_wholeBy_83 rfl (lv_at hl 0 rfl) ?_
    refine zget hx hb hts inX7 hown hK hw 0 (by decide) rfl rfl 0 (by decide) lk0 (fun _ h9 => h9) rfl dX7_wholeBy_84 ?_
    refine lv_bipush (v := (jI 7)) hx hb dX7_wholeBy_87 (by decide +kernel) ?_
    refine ziald hx hb hK hw 1 (by decide) rfl h.1 dX7_wholeBy_89 ?_
    refine lv_topi (fun v2 ev2 => ?_)
    have h := h.2 v2 ev2
    exact W.iret (v := v2) hx hb hr (fun t ht hW => ⟨⟨_, _, rfl, h, zend hw ht⟩, hS.F ht⟩) hS.2.2 dX7_wholeBy_90
  have h := h.2 c4
  rcases Classical.em (p0 = (jI 4)) with c5 | c5
  · have h := h.1 c5
    refine lv_tableIn (tgt := 91) (off := 90) hx hb dX7_wholeBy_1 (by rw [c5]; decide +kernel) (by rw [c5]; decide +kernel) (by rw [c5]; decide +kernel) (by decide) ?_
    refine lv_aload_n hx hb dX7_wholeBy_91 rfl (lv_at hl 0 rfl) ?_
    refine zget hx hb hts inX7 hown hK hw 0 (by decide) rfl rfl 0 (by decide) lk0 (fun _ h9 => h9) rfl dX7_wholeBy_92 ?_
    refine lv_iconst (v := (jI 1)) hx hb dX7_wholeBy_95 rfl ?_
    refine lv_iload_n hx hb dX7_wholeBy_96 rfl (lv_at hl 1 rfl) ?_
    refine lv_iadd hx hb dX7_wholeBy_97 ?_
    refine lv_iconst (v := (jI 4)) hx hb dX7_wholeBy_98 rfl ?_
    refine lv_isub hx hb dX7_wholeBy_99 ?_
    refine ziald hx hb hK hw 1 (by decide) rfl h.1 dX7_wholeBy_100 ?_
    refine lv_topi (fun v3 ev3 => ?_)
    have h := h.2 v3 ev3
    exact W.iret (v := v3) hx hb hr (fun t ht hW => ⟨⟨_, _, rfl, h, zend hw ht⟩, hS.F ht⟩) hS.2.2 dX7_wholeBy_101
  have h := h.2 c5
  rcases Classical.em (p0 = (jI 5)) with c6 | c6
  · have h := h.1 c6
    refine lv_tableIn (tgt := 91) (off := 90) hx hb dX7_wholeBy_1 (by rw [c6]; decide +kernel) (by rw [c6]; decide +kernel) (by rw [c6]; decide +kernel) (by decide) ?_
    refine lv_aload_n hx hb dX7_wholeBy_91 rfl (lv_at hl 0 rfl) ?_
    refine zget hx hb hts inX7 hown hK hw 0 (by decide) rfl rfl 0 (by decide) lk0 (fun _ h9 => h9) rfl dX7_wholeBy_92 ?_
    refine lv_iconst (v := (jI 1)) hx hb dX7_wholeBy_95 rfl ?_
    refine lv_iload_n hx hb dX7_wholeBy_96 rfl (lv_at hl 1 rfl) ?_
    refine lv_iadd hx hb dX7_wholeBy_97 ?_
    refine lv_iconst (v := (jI 4)) hx hb dX7_wholeBy_98 rfl ?_
    refine lv_isub hx hb dX7_wholeBy_99 ?_
    refine ziald hx hb hK hw 1 (by decide) rfl h.1 dX7_wholeBy_100 ?_
    refine lv_topi (fun v4 ev4 => ?_)
    have h := h.2 v4 ev4
    exact W.iret (v := v4) hx hb hr (fun t ht hW => ⟨⟨_, _, rfl, h, zend hw ht⟩, hS.F ht⟩) hS.2.2 dX7_wholeBy_101
  have h := h.2 c6
  rcases Classical.em (p0 = (jI 6)) with c7 | c7
  · have h := h.1 c7
    refine lv_tableIn (tgt := 91) (off := 90) hx hb dX7_wholeBy_1 (by rw [c7]; decide +kernel) (by rw [c7]; decide +kernel) (by rw [c7]; decide +kernel) (by decide) ?_
    refine lv_aload_n hx hb dX7_wholeBy_91 rfl (lv_at hl 0 rfl) ?_
    refine zget hx hb hts inX7 hown hK hw 0 (by decide) rfl rfl 0 (by decide) lk0 (fun _ h9 => h9) rfl dX7_wholeBy_92 ?_
    refine lv_iconst (v := (jI 1)) hx hb dX7_wholeBy_95 rfl ?_
    refine lv_iload_n hx hb dX7_wholeBy_96 rfl (lv_at hl 1 rfl) ?_
    refine lv_iadd hx hb dX7_wholeBy_97 ?_
    refine lv_iconst (v := (jI 4)) hx hb dX7_wholeBy_98 rfl ?_
    refine lv_isub hx hb dX7_wholeBy_99 ?_
    refine ziald hx hb hK hw 1 (by decide) rfl h.1 dX7_wholeBy_100 ?_
    refine lv_topi (fun v5 ev5 => ?_)
    have h := h.2 v5 ev5
    exact W.iret (v := v5) hx hb hr (fun t ht hW => ⟨⟨_, _, rfl, h, zend hw ht⟩, hS.F ht⟩) hS.2.2 dX7_wholeBy_101
  have h := h.2 c7
  rcases Classical.em (p0 = (jI 7)) with c8 | c8
  · have h := h.1 c8
    refine lv_tableIn (tgt := 91) (off := 90) hx hb dX7_wholeBy_1 (by rw [c8]; decide +kernel) (by rw [c8]; decide +kernel) (by rw [c8]; decide +kernel) (by decide) ?_
    refine lv_aload_n hx hb dX7_wholeBy_91 rfl (lv_at hl 0 rfl) ?_
    refine zget hx hb hts inX7 hown hK hw 0 (by decide) rfl rfl 0 (by decide) lk0 (fun _ h9 => h9) rfl dX7_wholeBy_92 ?_
    refine lv_iconst (v := (jI 1)) hx hb dX7_wholeBy_95 rfl ?_
    refine lv_iload_n hx hb dX7_wholeBy_96 rfl (lv_at hl 1 rfl) ?_
    refine lv_iadd hx hb dX7_wholeBy_97 ?_
    refine lv_iconst (v := (jI 4)) hx hb dX7_wholeBy_98 rfl ?_
    refine lv_isub hx hb dX7_wholeBy_99 ?_
    refine ziald hx hb hK hw 1 (by decide) rfl h.1 dX7_wholeBy_100 ?_
    refine lv_topi (fun v6 ev6 => ?_)
    have h := h.2 v6 ev6
    exact W.iret (v := v6) hx hb hr (fun t ht hW => ⟨⟨_, _, rfl, h, zend hw ht⟩, hS.F ht⟩) hS.2.2 dX7_wholeBy_101
  have h := h.2 c8
  rcases Classical.em (p0 = (jI 8)) with c9 | c9
  · have h := h.1 c9
    refine lv_tableIn (tgt := 91) (off := 90) hx hb dX7_wholeBy_1 (by rw [c9]; decide +kernel) (by rw [c9]; decide +kernel) (by rw [c9]; decide +kernel) (by decide) ?_
    refine lv_aload_n hx hb dX7_wholeBy_91 rfl (lv_at hl 0 rfl) ?_
    refine zget hx hb hts inX7 hown hK hw 0 (by decide) rfl rfl 0 (by decide) lk0 (fun _ h9 => h9) rfl dX7_wholeBy_92 ?_
    refine lv_iconst (v := (jI 1)) hx hb dX7_wholeBy_95 rfl ?_
    refine lv_iload_n hx hb dX7_wholeBy_96 rfl (lv_at hl 1 rfl) ?_
    refine lv_iadd hx hb dX7_wholeBy_97 ?_
    refine lv_iconst (v := (jI 4)) hx hb dX7_wholeBy_98 rfl ?_
    refine lv_isub hx hb dX7_wholeBy_99 ?_
    refine ziald hx hb hK hw 1 (by decide) rfl h.1 dX7_wholeBy_100 ?_
    refine lv_topi (fun v7 ev7 => ?_)
    have h := h.2 v7 ev7
    exact W.iret (v := v7) hx hb hr (fun t ht hW => ⟨⟨_, _, rfl, h, zend hw ht⟩, hS.F ht⟩) hS.2.2 dX7_wholeBy_101
  have h := h.2 c9
  rcases Classical.em (p0 = (jI 9)) with c10 | c10
  · have h := h.1 c10
    refine lv_tableIn (tgt := 91) (off := 90) hx hb dX7_wholeBy_1 (by rw [c10]; decide +kernel) (by rw [c10]; decide +kernel) (by rw [c10]; decide +kernel) (by decide) ?_
    refine lv_aload_n hx hb dX7_wholeBy_91 rfl (lv_at hl 0 rfl) ?_
    refine zget hx hb hts inX7 hown hK hw 0 (by decide) rfl rfl 0 (by decide) lk0 (fun _ h9 => h9) rfl dX7_wholeBy_92 ?_
    refine lv_iconst (v := (jI 1)) hx hb dX7_wholeBy_95 rfl ?_
    refine lv_iload_n hx hb dX7_wholeBy_96 rfl (lv_at hl 1 rfl) ?_
    refine lv_iadd hx hb dX7_wholeBy_97 ?_
    refine lv_iconst (v := (jI 4)) hx hb dX7_wholeBy_98 rfl ?_
    refine lv_isub hx hb dX7_wholeBy_99 ?_
    refine ziald hx hb hK hw 1 (by decide) rfl h.1 dX7_wholeBy_100 ?_
    refine lv_topi (fun v8 ev8 => ?_)
    have h := h.2 v8 ev8
    exact W.iret (v := v8) hx hb hr (fun t ht hW => ⟨⟨_, _, rfl, h, zend hw ht⟩, hS.F ht⟩) hS.2.2 dX7_wholeBy_101
  have h := h.2 c10
  rcases Classical.em (p0 = (jI 10)) with c11 | c11
  · have h := h.1 c11
    refine lv_tableIn (tgt := 102) (off := 101) hx hb dX7_wholeBy_1 (by rw [c11]; decide +kernel) (by rw [c11]; decide +kernel) (by rw [c11]; decide +kernel) (by decide) ?_
    refine lv_aload_n hx hb dX7_wholeBy_102 rfl (lv_at hl 0 rfl) ?_
    refine k_X7_manyNow (rest := []) hx hb hml hown hts gX7_wholeBy_X7_manyNow ⟨Nat.le_of_ble_eq_true rfl, Nat.le_of_ble_eq_true rfl⟩ ⟨Nat.zero_le _, Nat.zero_le _⟩ hK hj hw hA hS hl.1 (Nat.le_of_ble_eq_true rfl) dX7_wholeBy_103 h (fun r3 s3 H locs h hw hS => ?_)
    exact W.iret (v := r3) hx hb hr (fun t ht hW => ⟨⟨_, _, rfl, h, zend hw ht⟩, hS.F ht⟩) hS.2.2 dX7_wholeBy_106
  have h := h.2 c11
  rcases Classical.em (p0 = (jI 11)) with c12 | c12
  · have h := h.1 c12
    refine lv_tableIn (tgt := 107) (off := 106) hx hb dX7_wholeBy_1 (by rw [c12]; decide +kernel) (by rw [c12]; decide +kernel) (by rw [c12]; decide +kernel) (by decide) ?_
    refine lv_aload_n hx hb dX7_wholeBy_107 rfl (lv_at hl 0 rfl) ?_
    refine lv_iconst (v := (jI 3)) hx hb dX7_wholeBy_108 rfl ?_
    refine k_X7_sumOf (rest := []) hx hb hml hown hts gX7_wholeBy_X7_sumOf ⟨Nat.le_of_ble_eq_true rfl, Nat.le_of_ble_eq_true rfl⟩ ⟨Nat.zero_le _, Nat.zero_le _⟩ hK hj hw hA hS hl.1 (Nat.le_of_ble_eq_true rfl) dX7_wholeBy_109 h (fun r4 s4 H locs h hw hS => ?_)
    exact W.iret (v := r4) hx hb hr (fun t ht hW => ⟨⟨_, _, rfl, h, zend hw ht⟩, hS.F ht⟩) hS.2.2 dX7_wholeBy_112
  have h := h.2 c12
  have hsw1 := zsw_out (x := p0) (0) 12 (fun k hk => by
    match k, hk with
    | 0, _ => exact c1
    | 1, _ => exact c2
    | 2, _ => exact c3
    | 3, _ => exact c4
    | 4, _ => exact c5
    | 5, _ => exact c6
    | 6, _ => exact c7
    | 7, _ => exact c8
    | 8, _ => exact c9
    | 9, _ => exact c10
    | 10, _ => exact c11
    | 11, _ => exact c12
    | k + 12, hk => exact absurd hk (by omega))
  refine lv_tableOut (tgt := 113) hx hb dX7_wholeBy_1 hsw1 (by decide) ?_
  refine lv_aload_n hx hb dX7_wholeBy_113 rfl (lv_at hl 0 rfl) ?_
  refine zget hx hb hts inX7 hown hK hw 0 (by decide) rfl rfl 12 (by decide) lk1 (fun _ h9 => h9) rfl dX7_wholeBy_114 ?_
  exact W.iret (v := (σ.2 8)) hx hb hr (fun t ht hW => ⟨⟨_, _, rfl, h, zend hw ht⟩, hS.F ht⟩) hS.2.2 dX7_wholeBy_117
theorem k_X7_wholeBy {p : Program} {l : Launch} {e : Env} {R : Room} {s : State} {m : MethodId} {args : Array Value} {below : List Frame} {meth : Method} {c : Code} {H : Heap} {locs : List Loc} {cells slots : Nat} {QQ : State → Prop} {cc : ByteArray} {pc nL index : Nat} {ls : Array Slot} {rest : List Value} {D : va_G} {cy : cyT} {ad : Nat → Nat} {own : String} {Ts : List Cond} {H0 : Heap} {σ : ST} {p0 : Int32} {Q : Int32 → ST → Prop} (hx : p.tables.exec = Jvm.exec) (hb : c.code = cc) (hml : c.maxLocals = nL) (hown : s.vm.findClass own = some m.cls) (hts : ∀ w ∈ Ts, w.before args s = true) (hG : GoodIn Ts (wsV own index RX7 yX7_wholeBy wsX7_wholeBy)) (hR : 4 + 1 ≤ R.frames ∧ 8 + (2 + 11) + 93 ≤ R.locals) (hcs : cells ≤ R.cells ∧ slots ≤ R.slots) (hK : zK D cy s) (hj : zI 6 ad) (hw : zW D 6 (zme cy ad σ) ad H) {A0 : Nat → Prop} (hA : ∀ i, i < 6 → A0 (ad i)) (hS : va_S A0 H0 H locs) (hsz : ls.size = nL) (hrest : (rest.map fun v => v.category).sum ≤ 8) (hdg : decode cc pc = .ok (.invokevirtual index, 3)) (h : wp_X7_wholeBy σ p0 Q) (kk : ∀ (r : Int32) (σ : ST) (H : Heap) (locs : List Loc), Q r σ → zW D 6 (zme cy ad σ) ad H → va_S A0 H0 H locs → W p l e R s m args below meth c H locs cells slots QQ (F0 m (pc + 3) ls (.int r :: rest))) : W p l e R s m args below meth c H locs cells slots QQ (F0 m pc ls (.int p0 :: .ref (ad 0) :: rest)) :=
  zcalli (va_runV (As := [.int p0]) (rest := rest) ⟨hx, hb, hml, hown, hts⟩ (c_X7_wholeBy l D cy ad σ p0 h) (cwV 1 hts hG rfl rfl rfl (by decide +kernel) hR) (zpreV hj hK hw _ (i := 0) (ci := 6) (by decide) rfl rfl) rfl rfl hsz rfl (lv_room hrest) hdg hcs) hA hS kk
set_option maxHeartbeats 4000000 in
set_option maxRecDepth 100000 in
theorem c_X7_whole (l : Launch) (D : va_G) (cy : cyT) (ad : Nat → Nat) (σ : ST) (p0 : Int32) {Q : Int32 → ST → Prop} (h : wp_X7_whole σ p0 Q) : Met l yX7_whole wsX7_whole ({ frames := 5, cells := 0, slots := 0, locals := 114 } : Room) (zPre D cy 6 (zme cy ad σ) ad [.ref (ad 0), .int p0]) (va_Qi Q (zB D 6 (zme cy ad) ad) (zA 6 ad)) 0 0 (zA 6 ad) := by
  refine Met.ofW (cc := cX7_whole) (maxL := 2) (ret := (some .int)) (by decide) rfl ?_
  intro p e s m args below meth c s₁ B hml hv
  obtain ⟨rfl, hj, hK, hw⟩ := hv
  have hx := B.exec
  have hb := B.bytes
  have hr := B.returns
  have hts := atoms_spec (ws := wsX7_whole) B.pre
  have hown : s.vm.findClass RX7 = some m.cls := findClass_of_methodNamed B.named
  have hlocks := B.notSynchronized
  have lk0 : Cond.fieldLink RX7 26 "TypeTraysModel" "thrown" "I" ∈ wsX7_whole := List.mem_of_getElem? (i := 1) rfl
  have inX7 : ∀ w ∈ u_ws RX7 TX7 16, w ∈ wsX7_whole := zin_at 56 rfl
  have hS : va_S (zA 6 ad) s.heap s.heap [] := va_S.rf
  have hA : ∀ i, i < 6 → zA 6 ad (ad i) := fun i hi => ⟨i, hi, rfl⟩
  have hl := lv_entry ([.ref (ad 0), .int p0]) (n := 2) (Nat.le_of_ble_eq_true rfl)
  rw [lg_entry_eq]
  generalize (lg_sl ([.ref (ad 0), .int p0]) ++ List.replicate (2 - (lg_sl ([.ref (ad 0), .int p0])).length) Slot.unset).toArray = ls at hl ⊢
  have hl : lv_has ls 2 [(0, .ref (ad 0)), (1, .int p0)] := hl
  show W p l e ({ frames := 5, cells := 0, slots := 0, locals := 114 } : Room) s m ([.ref (ad 0), .int p0] : List Value).toArray below meth c s.heap [] 0 0 (MQ below (va_Qi Q (zB D 6 (zme cy ad) ad) (zA 6 ad)) ([.ref (ad 0), .int p0] : List Value).toArray s 0 0 (zA 6 ad)) (F0 m 0 ls [])
  unfold wp_X7_whole at h
  refine lv_aload_n hx hb dX7_whole_0 rfl (lv_at hl 0 rfl) ?_
  refine lv_iload_n hx hb dX7_whole_1 rfl (lv_at hl 1 rfl) ?_
  refine lv_iconst (v := (jI 0)) hx hb dX7_whole_2 rfl ?_
  refine lv_bipush (v := (jI 12)) hx hb dX7_whole_3 (by decide +kernel) ?_
  refine k_X7_in (rest := [.ref (ad 0)]) hx hb hml hown hts gX7_whole_X7_in ⟨Nat.le_of_ble_eq_true rfl, Nat.le_of_ble_eq_true rfl⟩ ⟨Nat.zero_le _, Nat.zero_le _⟩ hK hj hw hA hS hl.1 (Nat.le_of_ble_eq_true rfl) dX7_whole_5 h (fun r1 s1 H locs h hw hS => ?_)
  refine zif_eq (tgt := 15) hx hb dX7_whole_8 (by decide) (fun c1 => ?_) (fun c1 => ?_)
  · have h := h.1 c1
    refine lv_iconst (v := (jI 1)) hx hb dX7_whole_15 rfl ?_
    obtain ⟨s2, es2⟩ : ∃ y : ST, y = zsp s1 1 (jI 1) := ⟨_, rfl⟩
    have h := h s2 es2
    refine zput (ty := .int) hx hb hts inX7 tyX7 tyX7_ok nmX7 hown hK hj hw hA hS 0 (by decide) rfl rfl 3 (by decide) lk0 (fun _ h9 => h9) rfl (by decide +kernel) rfl rfl (Nat.le_of_ble_eq_true rfl) dX7_whole_16 (zme cy ad s2) (by rw [es2]; rfl) (fun j hj9 => by rw [es2]; exact zsp_off_M_1 j hj9) (fun H locs hw hS => ?_)
    refine lv_aload_n hx hb dX7_whole_19 rfl (lv_at hl 0 rfl) ?_
    refine zget hx hb hts inX7 hown hK hw 0 (by decide) rfl rfl 3 (by decide) lk0 (fun _ h9 => h9) rfl dX7_whole_20 ?_
    refine zif_le (tgt := 30) hx hb dX7_whole_23 (by decide) (fun c2 => ?_) (fun c2 => ?_)
    · have h := h.1 c2
      refine lv_aload_n hx hb dX7_whole_30 rfl (lv_at hl 0 rfl) ?_
      refine lv_iload_n hx hb dX7_whole_31 rfl (lv_at hl 1 rfl) ?_
      refine k_X7_wholeBy (rest := []) hx hb hml hown hts gX7_whole_X7_wholeBy ⟨Nat.le_of_ble_eq_true rfl, Nat.le_of_ble_eq_true rfl⟩ ⟨Nat.zero_le _, Nat.zero_le _⟩ hK hj hw hA hS hl.1 (Nat.le_of_ble_eq_true rfl) dX7_whole_32 h (fun r2 s3 H locs h hw hS => ?_)
      exact W.iret (v := r2) hx hb hr (fun t ht hW => ⟨⟨_, _, rfl, h, zend hw ht⟩, hS.F ht⟩) hS.2.2 dX7_whole_35
    · have h := h.2 c2
      refine lv_iconst (v := (jI 0)) hx hb dX7_whole_26 rfl ?_
      refine lv_goto (tgt := 35) hx hb dX7_whole_27 (by decide) ?_
      exact W.iret (v := (jI 0)) hx hb hr (fun t ht hW => ⟨⟨_, _, rfl, h, zend hw ht⟩, hS.F ht⟩) hS.2.2 dX7_whole_35
  · have h := h.2 c1
    refine lv_iconst (v := (jI 0)) hx hb dX7_whole_11 rfl ?_
    refine lv_goto (tgt := 16) hx hb dX7_whole_12 (by decide) ?_
    obtain ⟨s4, es4⟩ : ∃ y : ST, y = zsp s1 1 (jI 0) := ⟨_, rfl⟩
    have h := h s4 es4
    refine zput (ty := .int) hx hb hts inX7 tyX7 tyX7_ok nmX7 hown hK hj hw hA hS 0 (by decide) rfl rfl 3 (by decide) lk0 (fun _ h9 => h9) rfl (by decide +kernel) rfl rfl (Nat.le_of_ble_eq_true rfl) dX7_whole_16 (zme cy ad s4) (by rw [es4]; rfl) (fun j hj9 => by rw [es4]; exact zsp_off_M_1 j hj9) (fun H locs hw hS => ?_)
    refine lv_aload_n hx hb dX7_whole_19 rfl (lv_at hl 0 rfl) ?_
    refine zget hx hb hts inX7 hown hK hw 0 (by decide) rfl rfl 3 (by decide) lk0 (fun _ h9 => h9) rfl dX7_whole_20 ?_
    refine zif_le (tgt := 30) hx hb dX7_whole_23 (by decide) (fun c3 => ?_) (fun c3 => ?_)
    · have h := h.1 c3
      refine lv_aload_n hx hb dX7_whole_30 rfl (lv_at hl 0 rfl) ?_
      refine lv_iload_n hx hb dX7_whole_31 rfl (lv_at hl 1 rfl) ?_
      refine k_X7_wholeBy (rest := []) hx hb hml hown hts gX7_whole_X7_wholeBy ⟨Nat.le_of_ble_eq_true rfl, Nat.le_of_ble_eq_true rfl⟩ ⟨Nat.zero_le _, Nat.zero_le _⟩ hK hj hw hA hS hl.1 (Nat.le_of_ble_eq_true rfl) dX7_whole_32 h (fun r3 s5 H locs h hw hS => ?_)
      exact W.iret (v := r3) hx hb hr (fun t ht hW => ⟨⟨_, _, rfl, h, zend hw ht⟩, hS.F ht⟩) hS.2.2 dX7_whole_35
    · have h := h.2 c3
      refine lv_iconst (v := (jI 0)) hx hb dX7_whole_26 rfl ?_
      refine lv_goto (tgt := 35) hx hb dX7_whole_27 (by decide) ?_
      exact W.iret (v := (jI 0)) hx hb hr (fun t ht hW => ⟨⟨_, _, rfl, h, zend hw ht⟩, hS.F ht⟩) hS.2.2 dX7_whole_35
theorem k_X7_whole {p : Program} {l : Launch} {e : Env} {R : Room} {s : State} {m : MethodId} {args : Array Value} {below : List Frame} {meth : Method} {c : Code} {H : Heap} {locs : List Loc} {cells slots : Nat} {QQ : State → Prop} {cc : ByteArray} {pc nL index : Nat} {ls : Array Slot} {rest : List Value} {D : va_G} {cy : cyT} {ad : Nat → Nat} {own : String} {Ts : List Cond} {H0 : Heap} {σ : ST} {p0 : Int32} {Q : Int32 → ST → Prop} (hx : p.tables.exec = Jvm.exec) (hb : c.code = cc) (hml : c.maxLocals = nL) (hown : s.vm.findClass own = some m.cls) (hts : ∀ w ∈ Ts, w.before args s = true) (hG : GoodIn Ts (wsV own index RX7 yX7_whole wsX7_whole)) (hR : 5 + 1 ≤ R.frames ∧ 8 + (2 + 11) + 114 ≤ R.locals) (hcs : cells ≤ R.cells ∧ slots ≤ R.slots) (hK : zK D cy s) (hj : zI 6 ad) (hw : zW D 6 (zme cy ad σ) ad H) {A0 : Nat → Prop} (hA : ∀ i, i < 6 → A0 (ad i)) (hS : va_S A0 H0 H locs) (hsz : ls.size = nL) (hrest : (rest.map fun v => v.category).sum ≤ 8) (hdg : decode cc pc = .ok (.invokevirtual index, 3)) (h : wp_X7_whole σ p0 Q) (kk : ∀ (r : Int32) (σ : ST) (H : Heap) (locs : List Loc), Q r σ → zW D 6 (zme cy ad σ) ad H → va_S A0 H0 H locs → W p l e R s m args below meth c H locs cells slots QQ (F0 m (pc + 3) ls (.int r :: rest))) : W p l e R s m args below meth c H locs cells slots QQ (F0 m pc ls (.int p0 :: .ref (ad 0) :: rest)) :=
  zcalli (va_runV (As := [.int p0]) (rest := rest) ⟨hx, hb, hml, hown, hts⟩ (c_X7_whole l D cy ad σ p0 h) (cwV 1 hts hG rfl rfl rfl (by decide +kernel) hR) (zpreV hj hK hw _ (i := 0) (ci := 6) (by decide) rfl rfl) rfl rfl hsz rfl (lv_room hrest) hdg hcs) hA hS kk
set_option maxHeartbeats 4000000 in
set_option maxRecDepth 100000 in
theorem c_X7_rule (l : Launch) (D : va_G) (cy : cyT) (ad : Nat → Nat) (σ : ST) (p0 : Int32) (p1 : Int32) (p2 : Int32) {Q : Int32 → ST → Prop} (h : wp_X7_rule σ p0 p1 p2 Q) : Met l yX7_rule wsX7_rule ({ frames := 6, cells := 0, slots := 0, locals := 135 } : Room) (zPre D cy 6 (zme cy ad σ) ad [.ref (ad 0), .int p0, .int p1, .int p2]) (va_Qi Q (zB D 6 (zme cy ad) ad) (zA 6 ad)) 0 0 (zA 6 ad) := by
  refine Met.ofW (cc := cX7_rule) (maxL := 4) (ret := (some .int)) (by decide) rfl ?_
  intro p e s m args below meth c s₁ B hml hv
  obtain ⟨rfl, hj, hK, hw⟩ := hv
  have hx := B.exec
  have hb := B.bytes
  have hr := B.returns
  have hts := atoms_spec (ws := wsX7_rule) B.pre
  have hown : s.vm.findClass RX7 = some m.cls := findClass_of_methodNamed B.named
  have hlocks := B.notSynchronized
  have lk0 : Cond.fieldLink RX7 26 "TypeTraysModel" "thrown" "I" ∈ wsX7_rule := List.mem_of_getElem? (i := 1) rfl
  have lk1 : Cond.fieldLink RX7 68 "TypeTraysModel" "rule" "I" ∈ wsX7_rule := List.mem_of_getElem? (i := 2) rfl
  have inX7 : ∀ w ∈ u_ws RX7 TX7 16, w ∈ wsX7_rule := zin_at 92 rfl
  have hS : va_S (zA 6 ad) s.heap s.heap [] := va_S.rf
  have hA : ∀ i, i < 6 → zA 6 ad (ad i) := fun i hi => ⟨i, hi, rfl⟩
  have hl := lv_entry ([.ref (ad 0), .int p0, .int p1, .int p2]) (n := 4) (Nat.le_of_ble_eq_true rfl)
  rw [lg_entry_eq]
  generalize (lg_sl ([.ref (ad 0), .int p0, .int p1, .int p2]) ++ List.replicate (4 - (lg_sl ([.ref (ad 0), .int p0, .int p1, .int p2])).length) Slot.unset).toArray = ls at hl ⊢
  have hl : lv_has ls 4 [(0, .ref (ad 0)), (1, .int p0), (2, .int p1), (3, .int p2)] := hl
  show W p l e ({ frames := 6, cells := 0, slots := 0, locals := 135 } : Room) s m ([.ref (ad 0), .int p0, .int p1, .int p2] : List Value).toArray below meth c s.heap [] 0 0 (MQ below (va_Qi Q (zB D 6 (zme cy ad) ad) (zA 6 ad)) ([.ref (ad 0), .int p0, .int p1, .int p2] : List Value).toArray s 0 0 (zA 6 ad)) (F0 m 0 ls [])
  unfold wp_X7_rule at h
  refine lv_aload_n hx hb dX7_rule_0 rfl (lv_at hl 0 rfl) ?_
  refine lv_iload_n hx hb dX7_rule_1 rfl (lv_at hl 1 rfl) ?_
  refine lv_iload_n hx hb dX7_rule_2 rfl (lv_at hl 2 rfl) ?_
  refine lv_iload_n hx hb dX7_rule_3 rfl (lv_at hl 3 rfl) ?_
  refine k_X7_bars (rest := [.ref (ad 0)]) hx hb hml hown hts gX7_rule_X7_bars ⟨Nat.le_of_ble_eq_true rfl, Nat.le_of_ble_eq_true rfl⟩ ⟨Nat.zero_le _, Nat.zero_le _⟩ hK hj hw hA hS hl.1 (Nat.le_of_ble_eq_true rfl) dX7_rule_4 h (fun r1 s1 H locs h hw hS => ?_)
  obtain ⟨s2, es2⟩ : ∃ y : ST, y = zsp s1 1 r1 := ⟨_, rfl⟩
  have h := h s2 es2
  refine zput (ty := .int) hx hb hts inX7 tyX7 tyX7_ok nmX7 hown hK hj hw hA hS 0 (by decide) rfl rfl 3 (by decide) lk0 (fun _ h9 => h9) rfl (by decide +kernel) rfl rfl (Nat.le_of_ble_eq_true rfl) dX7_rule_7 (zme cy ad s2) (by rw [es2]; rfl) (fun j hj9 => by rw [es2]; exact zsp_off_M_1 j hj9) (fun H locs hw hS => ?_)
  refine lv_aload_n hx hb dX7_rule_10 rfl (lv_at hl 0 rfl) ?_
  refine zget hx hb hts inX7 hown hK hw 0 (by decide) rfl rfl 3 (by decide) lk0 (fun _ h9 => h9) rfl dX7_rule_11 ?_
  refine zif_le (tgt := 19) hx hb dX7_rule_14 (by decide) (fun c1 => ?_) (fun c1 => ?_)
  · have h := h.1 c1
    refine lv_aload_n hx hb dX7_rule_19 rfl (lv_at hl 0 rfl) ?_
    refine lv_iload_n hx hb dX7_rule_20 rfl (lv_at hl 1 rfl) ?_
    refine lv_iload_n hx hb dX7_rule_21 rfl (lv_at hl 2 rfl) ?_
    refine lv_iload_n hx hb dX7_rule_22 rfl (lv_at hl 3 rfl) ?_
    refine k_X7_number (rest := [.ref (ad 0)]) hx hb hml hown hts gX7_rule_X7_number ⟨Nat.le_of_ble_eq_true rfl, Nat.le_of_ble_eq_true rfl⟩ ⟨Nat.zero_le _, Nat.zero_le _⟩ hK hj hw hA hS hl.1 (Nat.le_of_ble_eq_true rfl) dX7_rule_23 h (fun r2 s3 H locs h hw hS => ?_)
    refine k_X7_looks (rest := []) hx hb hml hown hts gX7_rule_X7_looks ⟨Nat.le_of_ble_eq_true rfl, Nat.le_of_ble_eq_true rfl⟩ ⟨Nat.zero_le _, Nat.zero_le _⟩ hK hj hw hA hS hl.1 (Nat.le_of_ble_eq_true rfl) dX7_rule_26 h (fun s4 H locs h hw hS => ?_)
    refine lv_aload_n hx hb dX7_rule_29 rfl (lv_at hl 0 rfl) ?_
    refine zget hx hb hts inX7 hown hK hw 0 (by decide) rfl rfl 5 (by decide) lk1 (fun _ h9 => h9) rfl dX7_rule_30 ?_
    exact W.iret (v := (s4.2 2)) hx hb hr (fun t ht hW => ⟨⟨_, _, rfl, h, zend hw ht⟩, hS.F ht⟩) hS.2.2 dX7_rule_33
  · have h := h.2 c1
    refine lv_iconst (v := (jI 0)) hx hb dX7_rule_17 rfl ?_
    exact W.iret (v := (jI 0)) hx hb hr (fun t ht hW => ⟨⟨_, _, rfl, h, zend hw ht⟩, hS.F ht⟩) hS.2.2 dX7_rule_18
theorem k_X7_rule {p : Program} {l : Launch} {e : Env} {R : Room} {s : State} {m : MethodId} {args : Array Value} {below : List Frame} {meth : Method} {c : Code} {H : Heap} {locs : List Loc} {cells slots : Nat} {QQ : State → Prop} {cc : ByteArray} {pc nL index : Nat} {ls : Array Slot} {rest : List Value} {D : va_G} {cy : cyT} {ad : Nat → Nat} {own : String} {Ts : List Cond} {H0 : Heap} {σ : ST} {p0 : Int32} {p1 : Int32} {p2 : Int32} {Q : Int32 → ST → Prop} (hx : p.tables.exec = Jvm.exec) (hb : c.code = cc) (hml : c.maxLocals = nL) (hown : s.vm.findClass own = some m.cls) (hts : ∀ w ∈ Ts, w.before args s = true) (hG : GoodIn Ts (wsV own index RX7 yX7_rule wsX7_rule)) (hR : 6 + 1 ≤ R.frames ∧ 8 + (4 + 11) + 135 ≤ R.locals) (hcs : cells ≤ R.cells ∧ slots ≤ R.slots) (hK : zK D cy s) (hj : zI 6 ad) (hw : zW D 6 (zme cy ad σ) ad H) {A0 : Nat → Prop} (hA : ∀ i, i < 6 → A0 (ad i)) (hS : va_S A0 H0 H locs) (hsz : ls.size = nL) (hrest : (rest.map fun v => v.category).sum ≤ 8) (hdg : decode cc pc = .ok (.invokevirtual index, 3)) (h : wp_X7_rule σ p0 p1 p2 Q) (kk : ∀ (r : Int32) (σ : ST) (H : Heap) (locs : List Loc), Q r σ → zW D 6 (zme cy ad σ) ad H → va_S A0 H0 H locs → W p l e R s m args below meth c H locs cells slots QQ (F0 m (pc + 3) ls (.int r :: rest))) : W p l e R s m args below meth c H locs cells slots QQ (F0 m pc ls (.int p2 :: .int p1 :: .int p0 :: .ref (ad 0) :: rest)) :=
  zcalli (va_runV (As := [.int p0, .int p1, .int p2]) (rest := rest) ⟨hx, hb, hml, hown, hts⟩ (c_X7_rule l D cy ad σ p0 p1 p2 h) (cwV 3 hts hG rfl rfl rfl (by decide +kernel) hR) (zpreV hj hK hw _ (i := 0) (ci := 6) (by decide) rfl rfl) rfl rfl hsz rfl (lv_room hrest) hdg hcs) hA hS kk
set_option maxHeartbeats 4000000 in
set_option maxRecDepth 100000 in
theorem c_X7_takenBy (l : Launch) (D : va_G) (cy : cyT) (ad : Nat → Nat) (σ : ST) (p0 : Int32) (p1 : Int32) (p2 : Int32) {Q : Int32 → ST → Prop} (h : wp_X7_takenBy σ p0 p1 p2 Q) : Met l yX7_takenBy wsX7_takenBy ({ frames := 6, cells := 0, slots := 0, locals := 135 } : Room) (zPre D cy 6 (zme cy ad σ) ad [.ref (ad 0), .int p0, .int p1, .int p2]) (va_Qi Q (zB D 6 (zme cy ad) ad) (zA 6 ad)) 0 0 (zA 6 ad) := by
  refine Met.ofW (cc := cX7_takenBy) (maxL := 4) (ret := (some .int)) (by decide) rfl ?_
  intro p e s m args below meth c s₁ B hml hv
  obtain ⟨rfl, hj, hK, hw⟩ := hv
  have hx := B.exec
  have hb := B.bytes
  have hr := B.returns
  have hts := atoms_spec (ws := wsX7_takenBy) B.pre
  have hown : s.vm.findClass RX7 = some m.cls := findClass_of_methodNamed B.named
  have hlocks := B.notSynchronized
  have lk0 : Cond.fieldLink RX7 26 "TypeTraysModel" "thrown" "I" ∈ wsX7_takenBy := List.mem_of_getElem? (i := 1) rfl
  have lk1 : Cond.fieldLink RX7 68 "TypeTraysModel" "rule" "I" ∈ wsX7_takenBy := List.mem_of_getElem? (i := 2) rfl
  have lk2 : Cond.fieldLink RX7 93 "TypeTraysModel" "taken" "I" ∈ wsX7_takenBy := List.mem_of_getElem? (i := 3) rfl
  have inX7 : ∀ w ∈ u_ws RX7 TX7 16, w ∈ wsX7_takenBy := zin_at 92 rfl
  have hS : va_S (zA 6 ad) s.heap s.heap [] := va_S.rf
  have hA : ∀ i, i < 6 → zA 6 ad (ad i) := fun i hi => ⟨i, hi, rfl⟩
  have hl := lv_entry ([.ref (ad 0), .int p0, .int p1, .int p2]) (n := 4) (Nat.le_of_ble_eq_true rfl)
  rw [lg_entry_eq]
  generalize (lg_sl ([.ref (ad 0), .int p0, .int p1, .int p2]) ++ List.replicate (4 - (lg_sl ([.ref (ad 0), .int p0, .int p1, .int p2])).length) Slot.unset).toArray = ls at hl ⊢
  have hl : lv_has ls 4 [(0, .ref (ad 0)), (1, .int p0), (2, .int p1), (3, .int p2)] := hl
  show W p l e ({ frames := 6, cells := 0, slots := 0, locals := 135 } : Room) s m ([.ref (ad 0), .int p0, .int p1, .int p2] : List Value).toArray below meth c s.heap [] 0 0 (MQ below (va_Qi Q (zB D 6 (zme cy ad) ad) (zA 6 ad)) ([.ref (ad 0), .int p0, .int p1, .int p2] : List Value).toArray s 0 0 (zA 6 ad)) (F0 m 0 ls [])
  unfold wp_X7_takenBy at h
  refine lv_aload_n hx hb dX7_takenBy_0 rfl (lv_at hl 0 rfl) ?_
  refine lv_iload_n hx hb dX7_takenBy_1 rfl (lv_at hl 1 rfl) ?_
  refine lv_iload_n hx hb dX7_takenBy_2 rfl (lv_at hl 2 rfl) ?_
  refine lv_iload_n hx hb dX7_takenBy_3 rfl (lv_at hl 3 rfl) ?_
  refine k_X7_bars (rest := [.ref (ad 0)]) hx hb hml hown hts gX7_takenBy_X7_bars ⟨Nat.le_of_ble_eq_true rfl, Nat.le_of_ble_eq_true rfl⟩ ⟨Nat.zero_le _, Nat.zero_le _⟩ hK hj hw hA hS hl.1 (Nat.le_of_ble_eq_true rfl) dX7_takenBy_4 h (fun r1 s1 H locs h hw hS => ?_)
  obtain ⟨s2, es2⟩ : ∃ y : ST, y = zsp s1 1 r1 := ⟨_, rfl⟩
  have h := h s2 es2
  refine zput (ty := .int) hx hb hts inX7 tyX7 tyX7_ok nmX7 hown hK hj hw hA hS 0 (by decide) rfl rfl 3 (by decide) lk0 (fun _ h9 => h9) rfl (by decide +kernel) rfl rfl (Nat.le_of_ble_eq_true rfl) dX7_takenBy_7 (zme cy ad s2) (by rw [es2]; rfl) (fun j hj9 => by rw [es2]; exact zsp_off_M_1 j hj9) (fun H locs hw hS => ?_)
  refine lv_aload_n hx hb dX7_takenBy_10 rfl (lv_at hl 0 rfl) ?_
  refine zget hx hb hts inX7 hown hK hw 0 (by decide) rfl rfl 3 (by decide) lk0 (fun _ h9 => h9) rfl dX7_takenBy_11 ?_
  refine zif_le (tgt := 19) hx hb dX7_takenBy_14 (by decide) (fun c1 => ?_) (fun c1 => ?_)
  · have h := h.1 c1
    refine lv_aload_n hx hb dX7_takenBy_19 rfl (lv_at hl 0 rfl) ?_
    refine lv_iload_n hx hb dX7_takenBy_20 rfl (lv_at hl 1 rfl) ?_
    refine lv_iload_n hx hb dX7_takenBy_21 rfl (lv_at hl 2 rfl) ?_
    refine lv_iload_n hx hb dX7_takenBy_22 rfl (lv_at hl 3 rfl) ?_
    refine k_X7_number (rest := [.ref (ad 0)]) hx hb hml hown hts gX7_takenBy_X7_number ⟨Nat.le_of_ble_eq_true rfl, Nat.le_of_ble_eq_true rfl⟩ ⟨Nat.zero_le _, Nat.zero_le _⟩ hK hj hw hA hS hl.1 (Nat.le_of_ble_eq_true rfl) dX7_takenBy_23 h (fun r2 s3 H locs h hw hS => ?_)
    refine k_X7_looks (rest := []) hx hb hml hown hts gX7_takenBy_X7_looks ⟨Nat.le_of_ble_eq_true rfl, Nat.le_of_ble_eq_true rfl⟩ ⟨Nat.zero_le _, Nat.zero_le _⟩ hK hj hw hA hS hl.1 (Nat.le_of_ble_eq_true rfl) dX7_takenBy_26 h (fun s4 H locs h hw hS => ?_)
    refine lv_aload_n hx hb dX7_takenBy_29 rfl (lv_at hl 0 rfl) ?_
    refine zget hx hb hts inX7 hown hK hw 0 (by decide) rfl rfl 5 (by decide) lk1 (fun _ h9 => h9) rfl dX7_takenBy_30 ?_
    refine lv_iconst (v := (jI (-1))) hx hb dX7_takenBy_33 rfl ?_
    refine lv_icmp_ne (tgt := 41) hx hb dX7_takenBy_34 (by decide) (fun c2 => ?_) (fun c2 => ?_)
    · have h := h.2 c2
      refine lv_aload_n hx hb dX7_takenBy_41 rfl (lv_at hl 0 rfl) ?_
      refine zget hx hb hts inX7 hown hK hw 0 (by decide) rfl rfl 10 (by decide) lk2 (fun _ h9 => h9) rfl dX7_takenBy_42 ?_
      exact W.iret (v := (s4.2 7)) hx hb hr (fun t ht hW => ⟨⟨_, _, rfl, h, zend hw ht⟩, hS.F ht⟩) hS.2.2 dX7_takenBy_45
    · have h := h.1 c2
      refine lv_iconst (v := (jI (-1))) hx hb dX7_takenBy_37 rfl ?_
      refine lv_goto (tgt := 45) hx hb dX7_takenBy_38 (by decide) ?_
      exact W.iret (v := (jI (-1))) hx hb hr (fun t ht hW => ⟨⟨_, _, rfl, h, zend hw ht⟩, hS.F ht⟩) hS.2.2 dX7_takenBy_45
  · have h := h.2 c1
    refine lv_iconst (v := (jI 0)) hx hb dX7_takenBy_17 rfl ?_
    exact W.iret (v := (jI 0)) hx hb hr (fun t ht hW => ⟨⟨_, _, rfl, h, zend hw ht⟩, hS.F ht⟩) hS.2.2 dX7_takenBy_18
theorem k_X7_takenBy {p : Program} {l : Launch} {e : Env} {R : Room} {s : State} {m : MethodId} {args : Array Value} {below : List Frame} {meth : Method} {c : Code} {H : Heap} {locs : List Loc} {cells slots : Nat} {QQ : State → Prop} {cc : ByteArray} {pc nL index : Nat} {ls : Array Slot} {rest : List Value} {D : va_G} {cy : cyT} {ad : Nat → Nat} {own : String} {Ts : List Cond} {H0 : Heap} {σ : ST} {p0 : Int32} {p1 : Int32} {p2 : Int32} {Q : Int32 → ST → Prop} (hx : p.tables.exec = Jvm.exec) (hb : c.code = cc) (hml : c.maxLocals = nL) (hown : s.vm.findClass own = some m.cls) (hts : ∀ w ∈ Ts, w.before args s = true) (hG : GoodIn Ts (wsV own index RX7 yX7_takenBy wsX7_takenBy)) (hR : 6 + 1 ≤ R.frames ∧ 8 + (4 + 11) + 135 ≤ R.locals) (hcs : cells ≤ R.cells ∧ slots ≤ R.slots) (hK : zK D cy s) (hj : zI 6 ad) (hw : zW D 6 (zme cy ad σ) ad H) {A0 : Nat → Prop} (hA : ∀ i, i < 6 → A0 (ad i)) (hS : va_S A0 H0 H locs) (hsz : ls.size = nL) (hrest : (rest.map fun v => v.category).sum ≤ 8) (hdg : decode cc pc = .ok (.invokevirtual index, 3)) (h : wp_X7_takenBy σ p0 p1 p2 Q) (kk : ∀ (r : Int32) (σ : ST) (H : Heap) (locs : List Loc), Q r σ → zW D 6 (zme cy ad σ) ad H → va_S A0 H0 H locs → W p l e R s m args below meth c H locs cells slots QQ (F0 m (pc + 3) ls (.int r :: rest))) : W p l e R s m args below meth c H locs cells slots QQ (F0 m pc ls (.int p2 :: .int p1 :: .int p0 :: .ref (ad 0) :: rest)) :=
  zcalli (va_runV (As := [.int p0, .int p1, .int p2]) (rest := rest) ⟨hx, hb, hml, hown, hts⟩ (c_X7_takenBy l D cy ad σ p0 p1 p2 h) (cwV 3 hts hG rfl rfl rfl (by decide +kernel) hR) (zpreV hj hK hw _ (i := 0) (ci := 6) (by decide) rfl rfl) rfl rfl hsz rfl (lv_room hrest) hdg hcs) hA hS kk
set_option maxHeartbeats 4000000 in
set_option maxRecDepth 100000 in
theorem c_X7_costOf (l : Launch) (D : va_G) (cy : cyT) (ad : Nat → Nat) (σ : ST) (p0 : Int32) (p1 : Int32) (p2 : Int32) {Q : Int32 → ST → Prop} (h : wp_X7_costOf σ p0 p1 p2 Q) : Met l yX7_costOf wsX7_costOf ({ frames := 6, cells := 0, slots := 0, locals := 135 } : Room) (zPre D cy 6 (zme cy ad σ) ad [.ref (ad 0), .int p0, .int p1, .int p2]) (va_Qi Q (zB D 6 (zme cy ad) ad) (zA 6 ad)) 0 0 (zA 6 ad) := by
  refine Met.ofW (cc := cX7_costOf) (maxL := 5) (ret := (some .int)) (by decide) rfl ?_
  intro p e s m args below meth c s₁ B hml hv
  obtain ⟨rfl, hj, hK, hw⟩ := hv
  have hx := B.exec
  have hb := B.bytes
  have hr := B.returns
  have hts := atoms_spec (ws := wsX7_costOf) B.pre
  have hown : s.vm.findClass RX7 = some m.cls := findClass_of_methodNamed B.named
  have hlocks := B.notSynchronized
  have lk0 : Cond.fieldLink RX7 26 "TypeTraysModel" "thrown" "I" ∈ wsX7_costOf := List.mem_of_getElem? (i := 1) rfl
  have lk1 : Cond.fieldLink RX7 68 "TypeTraysModel" "rule" "I" ∈ wsX7_costOf := List.mem_of_getElem? (i := 2) rfl
  have inX7 : ∀ w ∈ u_ws RX7 TX7 16, w ∈ wsX7_costOf := zin_at 100 rfl
  have hS : va_S (zA 6 ad) s.heap s.heap [] := va_S.rf
  have hA : ∀ i, i < 6 → zA 6 ad (ad i) := fun i hi => ⟨i, hi, rfl⟩
  have hl := lv_entry ([.ref (ad 0), .int p0, .int p1, .int p2]) (n := 5) (Nat.le_of_ble_eq_true rfl)
  rw [lg_entry_eq]
  generalize (lg_sl ([.ref (ad 0), .int p0, .int p1, .int p2]) ++ List.replicate (5 - (lg_sl ([.ref (ad 0), .int p0, .int p1, .int p2])).length) Slot.unset).toArray = ls at hl ⊢
  have hl : lv_has ls 5 [(0, .ref (ad 0)), (1, .int p0), (2, .int p1), (3, .int p2)] := hl
  show W p l e ({ frames := 6, cells := 0, slots := 0, locals := 135 } : Room) s m ([.ref (ad 0), .int p0, .int p1, .int p2] : List Value).toArray below meth c s.heap [] 0 0 (MQ below (va_Qi Q (zB D 6 (zme cy ad) ad) (zA 6 ad)) ([.ref (ad 0), .int p0, .int p1, .int p2] : List Value).toArray s 0 0 (zA 6 ad)) (F0 m 0 ls [])
  unfold wp_X7_costOf at h
  refine lv_aload_n hx hb dX7_costOf_0 rfl (lv_at hl 0 rfl) ?_
  refine lv_iload_n hx hb dX7_costOf_1 rfl (lv_at hl 1 rfl) ?_
  refine lv_iload_n hx hb dX7_costOf_2 rfl (lv_at hl 2 rfl) ?_
  refine lv_iload_n hx hb dX7_costOf_3 rfl (lv_at hl 3 rfl) ?_
  refine k_X7_bars (rest := [.ref (ad 0)]) hx hb hml hown hts gX7_costOf_X7_bars ⟨Nat.le_of_ble_eq_true rfl, Nat.le_of_ble_eq_true rfl⟩ ⟨Nat.zero_le _, Nat.zero_le _⟩ hK hj hw hA hS hl.1 (Nat.le_of_ble_eq_true rfl) dX7_costOf_4 h (fun r1 s1 H locs h hw hS => ?_)
  obtain ⟨s2, es2⟩ : ∃ y : ST, y = zsp s1 1 r1 := ⟨_, rfl⟩
  have h := h s2 es2
  refine zput (ty := .int) hx hb hts inX7 tyX7 tyX7_ok nmX7 hown hK hj hw hA hS 0 (by decide) rfl rfl 3 (by decide) lk0 (fun _ h9 => h9) rfl (by decide +kernel) rfl rfl (Nat.le_of_ble_eq_true rfl) dX7_costOf_7 (zme cy ad s2) (by rw [es2]; rfl) (fun j hj9 => by rw [es2]; exact zsp_off_M_1 j hj9) (fun H locs hw hS => ?_)
  refine lv_aload_n hx hb dX7_costOf_10 rfl (lv_at hl 0 rfl) ?_
  refine zget hx hb hts inX7 hown hK hw 0 (by decide) rfl rfl 3 (by decide) lk0 (fun _ h9 => h9) rfl dX7_costOf_11 ?_
  refine zif_le (tgt := 19) hx hb dX7_costOf_14 (by decide) (fun c1 => ?_) (fun c1 => ?_)
  · have h := h.1 c1
    refine lv_iload_n hx hb dX7_costOf_19 rfl (lv_at hl 1 rfl) ?_
    refine lv_iload_n hx hb dX7_costOf_20 rfl (lv_at hl 2 rfl) ?_
    refine lv_iload_n hx hb dX7_costOf_21 rfl (lv_at hl 3 rfl) ?_
    refine k_X7_number (rest := []) hx hb hml hown hts gX7_costOf_X7_number ⟨Nat.le_of_ble_eq_true rfl, Nat.le_of_ble_eq_true rfl⟩ ⟨Nat.zero_le _, Nat.zero_le _⟩ hK hj hw hA hS hl.1 (Nat.le_of_ble_eq_true rfl) dX7_costOf_22 h (fun r2 s3 H locs h hw hS => ?_)
    refine lv_istore (lv' := [(4, .int r2), (0, .ref (ad 0)), (1, .int p0), (2, .int p1), (3, .int p2)]) hx hb dX7_costOf_25 hl (by decide) rfl (fun ls hl => ?_)
    refine lv_aload_n hx hb dX7_costOf_27 rfl (lv_at hl 1 rfl) ?_
    refine lv_iload hx hb dX7_costOf_28 (lv_at hl 0 rfl) ?_
    refine k_X7_looks (rest := []) hx hb hml hown hts gX7_costOf_X7_looks ⟨Nat.le_of_ble_eq_true rfl, Nat.le_of_ble_eq_true rfl⟩ ⟨Nat.zero_le _, Nat.zero_le _⟩ hK hj hw hA hS hl.1 (Nat.le_of_ble_eq_true rfl) dX7_costOf_30 h (fun s4 H locs h hw hS => ?_)
    refine lv_aload_n hx hb dX7_costOf_33 rfl (lv_at hl 1 rfl) ?_
    refine zget hx hb hts inX7 hown hK hw 0 (by decide) rfl rfl 5 (by decide) lk1 (fun _ h9 => h9) rfl dX7_costOf_34 ?_
    refine lv_iconst (v := (jI (-1))) hx hb dX7_costOf_37 rfl ?_
    refine lv_icmp_ne (tgt := 45) hx hb dX7_costOf_38 (by decide) (fun c2 => ?_) (fun c2 => ?_)
    · have h := h.2 c2
      refine lv_aload_n hx hb dX7_costOf_45 rfl (lv_at hl 1 rfl) ?_
      refine zget hx hb hts inX7 hown hK hw 0 (by decide) rfl rfl 5 (by decide) lk1 (fun _ h9 => h9) rfl dX7_costOf_46 ?_
      refine zif_ne (tgt := 56) hx hb dX7_costOf_49 (by decide) (fun c3 => ?_) (fun c3 => ?_)
      · have h := h.2 c3
        refine lv_aload_n hx hb dX7_costOf_56 rfl (lv_at hl 1 rfl) ?_
        refine lv_iload hx hb dX7_costOf_57 (lv_at hl 0 rfl) ?_
        refine k_X7_inks (rest := []) hx hb hml hown hts gX7_costOf_X7_inks ⟨Nat.le_of_ble_eq_true rfl, Nat.le_of_ble_eq_true rfl⟩ ⟨Nat.zero_le _, Nat.zero_le _⟩ hK hj hw hA hS hl.1 (Nat.le_of_ble_eq_true rfl) dX7_costOf_59 h (fun r3 s5 H locs h hw hS => ?_)
        exact W.iret (v := r3) hx hb hr (fun t ht hW => ⟨⟨_, _, rfl, h, zend hw ht⟩, hS.F ht⟩) hS.2.2 dX7_costOf_62
      · have h := h.1 c3
        refine lv_iconst (v := (jI 0)) hx hb dX7_costOf_52 rfl ?_
        refine lv_goto (tgt := 62) hx hb dX7_costOf_53 (by decide) ?_
        exact W.iret (v := (jI 0)) hx hb hr (fun t ht hW => ⟨⟨_, _, rfl, h, zend hw ht⟩, hS.F ht⟩) hS.2.2 dX7_costOf_62
    · have h := h.1 c2
      refine lv_iconst (v := (jI (-1))) hx hb dX7_costOf_41 rfl ?_
      refine lv_goto (tgt := 62) hx hb dX7_costOf_42 (by decide) ?_
      exact W.iret (v := (jI (-1))) hx hb hr (fun t ht hW => ⟨⟨_, _, rfl, h, zend hw ht⟩, hS.F ht⟩) hS.2.2 dX7_costOf_62
  · have h := h.2 c1
    refine lv_iconst (v := (jI 0)) hx hb dX7_costOf_17 rfl ?_
    exact W.iret (v := (jI 0)) hx hb hr (fun t ht hW => ⟨⟨_, _, rfl, h, zend hw ht⟩, hS.F ht⟩) hS.2.2 dX7_costOf_18
theorem k_X7_costOf {p : Program} {l : Launch} {e : Env} {R : Room} {s : State} {m : MethodId} {args : Array Value} {below : List Frame} {meth : Method} {c : Code} {H : Heap} {locs : List Loc} {cells slots : Nat} {QQ : State → Prop} {cc : ByteArray} {pc nL index : Nat} {ls : Array Slot} {rest : List Value} {D : va_G} {cy : cyT} {ad : Nat → Nat} {own : String} {Ts : List Cond} {H0 : Heap} {σ : ST} {p0 : Int32} {p1 : Int32} {p2 : Int32} {Q : Int32 → ST → Prop} (hx : p.tables.exec = Jvm.exec) (hb : c.code = cc) (hml : c.maxLocals = nL) (hown : s.vm.findClass own = some m.cls) (hts : ∀ w ∈ Ts, w.before args s = true) (hG : GoodIn Ts (wsV own index RX7 yX7_costOf wsX7_costOf)) (hR : 6 + 1 ≤ R.frames ∧ 8 + (5 + 11) + 135 ≤ R.locals) (hcs : cells ≤ R.cells ∧ slots ≤ R.slots) (hK : zK D cy s) (hj : zI 6 ad) (hw : zW D 6 (zme cy ad σ) ad H) {A0 : Nat → Prop} (hA : ∀ i, i < 6 → A0 (ad i)) (hS : va_S A0 H0 H locs) (hsz : ls.size = nL) (hrest : (rest.map fun v => v.category).sum ≤ 8) (hdg : decode cc pc = .ok (.invokevirtual index, 3)) (h : wp_X7_costOf σ p0 p1 p2 Q) (kk : ∀ (r : Int32) (σ : ST) (H : Heap) (locs : List Loc), Q r σ → zW D 6 (zme cy ad σ) ad H → va_S A0 H0 H locs → W p l e R s m args below meth c H locs cells slots QQ (F0 m (pc + 3) ls (.int r :: rest))) : W p l e R s m args below meth c H locs cells slots QQ (F0 m pc ls (.int p2 :: .int p1 :: .int p0 :: .ref (ad 0) :: rest)) :=
  zcalli (va_runV (As := [.int p0, .int p1, .int p2]) (rest := rest) ⟨hx, hb, hml, hown, hts⟩ (c_X7_costOf l D cy ad σ p0 p1 p2 h) (cwV 3 hts hG rfl rfl rfl (by decide +kernel) hR) (zpreV hj hK hw _ (i := 0) (ci := 6) (by decide) rfl rfl) rfl rfl hsz rfl (lv_room hrest) hdg hcs) hA hS kk
set_option maxHeartbeats 4000000 in
set_option maxRecDepth 100000 in
theorem c_X7_oldestOne (l : Launch) (D : va_G) (cy : cyT) (ad : Nat → Nat) (σ : ST) {Q : Int32 → ST → Prop} (h : wp_X7_oldestOne σ Q) : Met l yX7_oldestOne wsX7_oldestOne ({ frames := 2, cells := 0, slots := 0, locals := 43 } : Room) (zPre D cy 6 (zme cy ad σ) ad [.ref (ad 0)]) (va_Qi Q (zB D 6 (zme cy ad) ad) (zA 6 ad)) 0 0 (zA 6 ad) := by
  refine Met.ofW (cc := cX7_oldestOne) (maxL := 3) (ret := (some .int)) (by decide) rfl ?_
  intro p e s m args below meth c s₁ B hml hv
  obtain ⟨rfl, hj, hK, hw⟩ := hv
  have hx := B.exec
  have hb := B.bytes
  have hr := B.returns
  have hts := atoms_spec (ws := wsX7_oldestOne) B.pre
  have hown : s.vm.findClass RX7 = some m.cls := findClass_of_methodNamed B.named
  have hlocks := B.notSynchronized
  have hS : va_S (zA 6 ad) s.heap s.heap [] := va_S.rf
  have hA : ∀ i, i < 6 → zA 6 ad (ad i) := fun i hi => ⟨i, hi, rfl⟩
  have hl := lv_entry ([.ref (ad 0)]) (n := 3) (Nat.le_of_ble_eq_true rfl)
  rw [lg_entry_eq]
  generalize (lg_sl ([.ref (ad 0)]) ++ List.replicate (3 - (lg_sl ([.ref (ad 0)])).length) Slot.unset).toArray = ls at hl ⊢
  have hl : lv_has ls 3 [(0, .ref (ad 0))] := hl
  show W p l e ({ frames := 2, cells := 0, slots := 0, locals := 43 } : Room) s m ([.ref (ad 0)] : List Value).toArray below meth c s.heap [] 0 0 (MQ below (va_Qi Q (zB D 6 (zme cy ad) ad) (zA 6 ad)) ([.ref (ad 0)] : List Value).toArray s 0 0 (zA 6 ad)) (F0 m 0 ls [])
  unfold wp_X7_oldestOne at h
  refine lv_iconst (v := (jI (-1))) hx hb dX7_oldestOne_0 rfl ?_
  refine lv_istore_n (lv' := [(1, .int (jI (-1))), (0, .ref (ad 0))]) hx hb dX7_oldestOne_1 rfl hl (by decide) rfl (fun ls hl => ?_)
  refine lv_iconst (v := (jI 0)) hx hb dX7_oldestOne_2 rfl ?_
  refine lv_istore_n (lv' := [(2, .int (jI 0)), (1, .int (jI (-1))), (0, .ref (ad 0))]) hx hb dX7_oldestOne_3 rfl hl (by decide) rfl (fun ls hl => ?_)
  have k51_4 : ∀ (u_51 : ST) (z1_51 : Int32) (H : Heap) (locs : List Loc), ((z1_51 = (jI (-1)) → Q (jI (-1)) u_51) ∧ (¬ z1_51 = (jI (-1)) → wp_X7_codeOf u_51 z1_51 (fun r4 s4 => Q r4 s4))) → zW D 6 (zme cy ad u_51) ad H → va_S (zA 6 ad) s.heap H locs → ∀ ls : Array Slot, lv_has ls 3 [(1, .int z1_51)] → W p l e ({ frames := 2, cells := 0, slots := 0, locals := 43 } : Room) s m ([.ref (ad 0)] : List Value).toArray below meth c H locs 0 0 (MQ below (va_Qi Q (zB D 6 (zme cy ad) ad) (zA 6 ad)) ([.ref (ad 0)] : List Value).toArray s 0 0 (zA 6 ad)) (F0 m 51 ls []) := by
    intro u_51 z1_51 H locs h hw hS ls hl
    refine lv_iload_n hx hb dX7_oldestOne_51 rfl (lv_at hl 0 rfl) ?_
    refine lv_iconst (v := (jI (-1))) hx hb dX7_oldestOne_52 rfl ?_
    refine lv_icmp_ne (tgt := 60) hx hb dX7_oldestOne_53 (by decide) (fun c5 => ?_) (fun c5 => ?_)
    · have h := h.2 c5
      refine lv_iload_n hx hb dX7_oldestOne_60 rfl (lv_at hl 0 rfl) ?_
      refine k_X7_codeOf (rest := []) hx hb hml hown hts gX7_oldestOne_X7_codeOf ⟨Nat.le_of_ble_eq_true rfl, Nat.le_of_ble_eq_true rfl⟩ ⟨Nat.zero_le _, Nat.zero_le _⟩ hK hj hw hA hS hl.1 (Nat.le_of_ble_eq_true rfl) dX7_oldestOne_61 h (fun r4 s4 H locs h hw hS => ?_)
      exact W.iret (v := r4) hx hb hr (fun t ht hW => ⟨⟨_, _, rfl, h, zend hw ht⟩, hS.F ht⟩) hS.2.2 dX7_oldestOne_64
    · have h := h.1 c5
      refine lv_iconst (v := (jI (-1))) hx hb dX7_oldestOne_56 rfl ?_
      refine lv_goto (tgt := 64) hx hb dX7_oldestOne_57 (by decide) ?_
      exact W.iret (v := (jI (-1))) hx hb hr (fun t ht hW => ⟨⟨_, _, rfl, h, zend hw ht⟩, hS.F ht⟩) hS.2.2 dX7_oldestOne_64
  have lp4 : ∀ (nn4 : Nat) (t_4 : ST) (y1_4 : Int32) (y2_4 : Int32) (H : Heap) (locs : List Loc), wl_X7_oldestOne_4 (fun u_51 z1_51 => ((z1_51 = (jI (-1)) → Q (jI (-1)) u_51) ∧ (¬ z1_51 = (jI (-1)) → wp_X7_codeOf u_51 z1_51 (fun r4 s4 => Q r4 s4))))  nn4 t_4 y1_4 y2_4 → zW D 6 (zme cy ad t_4) ad H → va_S (zA 6 ad) s.heap H locs → ∀ ls : Array Slot, lv_has ls 3 [(0, .ref (ad 0)), (1, .int y1_4), (2, .int y2_4)] → W p l e ({ frames := 2, cells := 0, slots := 0, locals := 43 } : Room) s m ([.ref (ad 0)] : List Value).toArray below meth c H locs 0 0 (MQ below (va_Qi Q (zB D 6 (zme cy ad) ad) (zA 6 ad)) ([.ref (ad 0)] : List Value).toArray s 0 0 (zA 6 ad)) (F0 m 4 ls []) := by
    intro nn4
    induction nn4 with
    | zero => intro _ _ _ _ _ h; exact h.elim
    | succ nn4 ih4 =>
      intro t_4 y1_4 y2_4 H locs h hw hS ls hl
      simp only [wl_X7_oldestOne_4, wb_X7_oldestOne_4] at h
      refine lv_iload_n hx hb dX7_oldestOne_4 rfl (lv_at hl 2 rfl) ?_
      refine lv_sipush (v := (jI 144)) hx hb dX7_oldestOne_5 (by decide +kernel) ?_
      refine lv_icmp_ge (tgt := 51) hx hb dX7_oldestOne_8 (by decide) (fun c1 => ?_) (fun c1 => ?_)
      · have h := h.1 c1
        exact k51_4 _ _ _ _ h hw hS _ (lv_sub hl [1] rfl)
      · have h := h.2 c1
        refine lv_aload_n hx hb dX7_oldestOne_11 rfl (lv_at hl 0 rfl) ?_
        refine lv_iload_n hx hb dX7_oldestOne_12 rfl (lv_at hl 2 rfl) ?_
        refine k_X7_is (rest := []) hx hb hml hown hts gX7_oldestOne_X7_is ⟨Nat.le_of_ble_eq_true rfl, Nat.le_of_ble_eq_true rfl⟩ ⟨Nat.zero_le _, Nat.zero_le _⟩ hK hj hw hA hS hl.1 (Nat.le_of_ble_eq_true rfl) dX7_oldestOne_13 h (fun r1 s1 H locs h hw hS => ?_)
        refine zif_eq (tgt := 43) hx hb dX7_oldestOne_16 (by decide) (fun c2 => ?_) (fun c2 => ?_)
        · have h := h.1 c2
          refine lv_iload_n hx hb dX7_oldestOne_43 rfl (lv_at hl 1 rfl) ?_
          refine lv_istore_n (lv' := [(1, .int y1_4), (0, .ref (ad 0)), (2, .int y2_4)]) hx hb dX7_oldestOne_44 rfl hl (by decide) rfl (fun ls hl => ?_)
          obtain ⟨x1, ex1⟩ : ∃ y : Int32, y = y2_4 + (jI 1) := ⟨_, rfl⟩
          have h := h x1 ex1
          refine lv_iinc (v := x1) (lv' := [(2, .int x1), (1, .int y1_4), (0, .ref (ad 0))]) hx hb dX7_oldestOne_45 hl (k := 2) rfl (by rw [ex1]; rfl) (by decide) rfl (fun ls hl => ?_)
          refine lv_goto (tgt := 4) hx hb dX7_oldestOne_48 (by decide) ?_
          exact ih4 _ _ _ _ _ h hw hS _ (lv_sub hl [2, 1, 0] rfl)
        · have h := h.2 c2
          refine lv_iload_n hx hb dX7_oldestOne_19 rfl (lv_at hl 1 rfl) ?_
          refine lv_iconst (v := (jI (-1))) hx hb dX7_oldestOne_20 rfl ?_
          refine lv_icmp_eq (tgt := 39) hx hb dX7_oldestOne_21 (by decide) (fun c3 => ?_) (fun c3 => ?_)
          · have h := h.1 c3
            refine lv_iload_n hx hb dX7_oldestOne_39 rfl (lv_at hl 2 rfl) ?_
            refine lv_goto (tgt := 44) hx hb dX7_oldestOne_40 (by decide) ?_
            refine lv_istore_n (lv' := [(1, .int y2_4), (0, .ref (ad 0)), (2, .int y2_4)]) hx hb dX7_oldestOne_44 rfl hl (by decide) rfl (fun ls hl => ?_)
            obtain ⟨x2, ex2⟩ : ∃ y : Int32, y = y2_4 + (jI 1) := ⟨_, rfl⟩
            have h := h x2 ex2
            refine lv_iinc (v := x2) (lv' := [(2, .int x2), (1, .int y2_4), (0, .ref (ad 0))]) hx hb dX7_oldestOne_45 hl (k := 2) rfl (by rw [ex2]; rfl) (by decide) rfl (fun ls hl => ?_)
            refine lv_goto (tgt := 4) hx hb dX7_oldestOne_48 (by decide) ?_
            exact ih4 _ _ _ _ _ h hw hS _ (lv_sub hl [2, 1, 0] rfl)
          · have h := h.2 c3
            refine lv_aload_n hx hb dX7_oldestOne_24 rfl (lv_at hl 0 rfl) ?_
            refine lv_iload_n hx hb dX7_oldestOne_25 rfl (lv_at hl 2 rfl) ?_
            refine lv_iconst (v := (jI 3)) hx hb dX7_oldestOne_26 rfl ?_
            refine k_X7_of (rest := []) hx hb hml hown hts gX7_oldestOne_X7_of ⟨Nat.le_of_ble_eq_true rfl, Nat.le_of_ble_eq_true rfl⟩ ⟨Nat.zero_le _, Nat.zero_le _⟩ hK hj hw hA hS hl.1 (Nat.le_of_ble_eq_true rfl) dX7_oldestOne_27 h (fun r2 s2 H locs h hw hS => ?_)
            refine lv_aload_n hx hb dX7_oldestOne_30 rfl (lv_at hl 0 rfl) ?_
            refine lv_iload_n hx hb dX7_oldestOne_31 rfl (lv_at hl 1 rfl) ?_
            refine lv_iconst (v := (jI 3)) hx hb dX7_oldestOne_32 rfl ?_
            refine k_X7_of (rest := [.int r2]) hx hb hml hown hts gX7_oldestOne_X7_of ⟨Nat.le_of_ble_eq_true rfl, Nat.le_of_ble_eq_true rfl⟩ ⟨Nat.zero_le _, Nat.zero_le _⟩ hK hj hw hA hS hl.1 (Nat.le_of_ble_eq_true rfl) dX7_oldestOne_33 h (fun r3 s3 H locs h hw hS => ?_)
            refine lv_icmp_ge (tgt := 43) hx hb dX7_oldestOne_36 (by decide) (fun c4 => ?_) (fun c4 => ?_)
            · have h := h.1 c4
              refine lv_iload_n hx hb dX7_oldestOne_43 rfl (lv_at hl 1 rfl) ?_
              refine lv_istore_n (lv' := [(1, .int y1_4), (0, .ref (ad 0)), (2, .int y2_4)]) hx hb dX7_oldestOne_44 rfl hl (by decide) rfl (fun ls hl => ?_)
              obtain ⟨x3, ex3⟩ : ∃ y : Int32, y = y2_4 + (jI 1) := ⟨_, rfl⟩
              have h := h x3 ex3
              refine lv_iinc (v := x3) (lv' := [(2, .int x3), (1, .int y1_4), (0, .ref (ad 0))]) hx hb dX7_oldestOne_45 hl (k := 2) rfl (by rw [ex3]; rfl) (by decide) rfl (fun ls hl => ?_)
              refine lv_goto (tgt := 4) hx hb dX7_oldestOne_48 (by decide) ?_
              exact ih4 _ _ _ _ _ h hw hS _ (lv_sub hl [2, 1, 0] rfl)
            · have h := h.2 c4
              refine lv_iload_n hx hb dX7_oldestOne_39 rfl (lv_at hl 2 rfl) ?_
              refine lv_goto (tgt := 44) hx hb dX7_oldestOne_40 (by decide) ?_
              refine lv_istore_n (lv' := [(1, .int y2_4), (0, .ref (ad 0)), (2, .int y2_4)]) hx hb dX7_oldestOne_44 rfl hl (by decide) rfl (fun ls hl => ?_)
              obtain ⟨x4, ex4⟩ : ∃ y : Int32, y = y2_4 + (jI 1) := ⟨_, rfl⟩
              have h := h x4 ex4
              refine lv_iinc (v := x4) (lv' := [(2, .int x4), (1, .int y2_4), (0, .ref (ad 0))]) hx hb dX7_oldestOne_45 hl (k := 2) rfl (by rw [ex4]; rfl) (by decide) rfl (fun ls hl => ?_)
              refine lv_goto (tgt := 4) hx hb dX7_oldestOne_48 (by decide) ?_
              exact ih4 _ _ _ _ _ h hw hS _ (lv_sub hl [2, 1, 0] rfl)
  obtain ⟨nn4, h⟩ := h
  exact lp4 nn4 _ _ _ _ _ h hw hS _ (lv_sub hl [2, 1, 0] rfl)
theorem k_X7_oldestOne {p : Program} {l : Launch} {e : Env} {R : Room} {s : State} {m : MethodId} {args : Array Value} {below : List Frame} {meth : Method} {c : Code} {H : Heap} {locs : List Loc} {cells slots : Nat} {QQ : State → Prop} {cc : ByteArray} {pc nL index : Nat} {ls : Array Slot} {rest : List Value} {D : va_G} {cy : cyT} {ad : Nat → Nat} {own : String} {Ts : List Cond} {H0 : Heap} {σ : ST}  {Q : Int32 → ST → Prop} (hx : p.tables.exec = Jvm.exec) (hb : c.code = cc) (hml : c.maxLocals = nL) (hown : s.vm.findClass own = some m.cls) (hts : ∀ w ∈ Ts, w.before args s = true) (hG : GoodIn Ts (wsV own index RX7 yX7_oldestOne wsX7_oldestOne)) (hR : 2 + 1 ≤ R.frames ∧ 8 + (3 + 11) + 43 ≤ R.locals) (hcs : cells ≤ R.cells ∧ slots ≤ R.slots) (hK : zK D cy s) (hj : zI 6 ad) (hw : zW D 6 (zme cy ad σ) ad H) {A0 : Nat → Prop} (hA : ∀ i, i < 6 → A0 (ad i)) (hS : va_S A0 H0 H locs) (hsz : ls.size = nL) (hrest : (rest.map fun v => v.category).sum ≤ 8) (hdg : decode cc pc = .ok (.invokevirtual index, 3)) (h : wp_X7_oldestOne σ  Q) (kk : ∀ (r : Int32) (σ : ST) (H : Heap) (locs : List Loc), Q r σ → zW D 6 (zme cy ad σ) ad H → va_S A0 H0 H locs → W p l e R s m args below meth c H locs cells slots QQ (F0 m (pc + 3) ls (.int r :: rest))) : W p l e R s m args below meth c H locs cells slots QQ (F0 m pc ls (.ref (ad 0) :: rest)) :=
  zcalli (va_runV (As := []) (rest := rest) ⟨hx, hb, hml, hown, hts⟩ (c_X7_oldestOne l D cy ad σ  h) (cwV 0 hts hG rfl rfl rfl (by decide +kernel) hR) (zpreV hj hK hw _ (i := 0) (ci := 6) (by decide) rfl rfl) rfl rfl hsz rfl (lv_room hrest) hdg hcs) hA hS kk
set_option maxHeartbeats 4000000 in
set_option maxRecDepth 100000 in
theorem c_X7_oldest (l : Launch) (D : va_G) (cy : cyT) (ad : Nat → Nat) (σ : ST) {Q : Int32 → ST → Prop} (h : wp_X7_oldest σ Q) : Met l yX7_oldest wsX7_oldest ({ frames := 3, cells := 0, slots := 0, locals := 65 } : Room) (zPre D cy 6 (zme cy ad σ) ad [.ref (ad 0)]) (va_Qi Q (zB D 6 (zme cy ad) ad) (zA 6 ad)) 0 0 (zA 6 ad) := by
  refine Met.ofW (cc := cX7_oldest) (maxL := 1) (ret := (some .int)) (by decide) rfl ?_
  intro p e s m args below meth c s₁ B hml hv
  obtain ⟨rfl, hj, hK, hw⟩ := hv
  have hx := B.exec
  have hb := B.bytes
  have hr := B.returns
  have hts := atoms_spec (ws := wsX7_oldest) B.pre
  have hown : s.vm.findClass RX7 = some m.cls := findClass_of_methodNamed B.named
  have hlocks := B.notSynchronized
  have lk0 : Cond.fieldLink RX7 26 "TypeTraysModel" "thrown" "I" ∈ wsX7_oldest := List.mem_of_getElem? (i := 1) rfl
  have inX7 : ∀ w ∈ u_ws RX7 TX7 16, w ∈ wsX7_oldest := zin_at 19 rfl
  have hS : va_S (zA 6 ad) s.heap s.heap [] := va_S.rf
  have hA : ∀ i, i < 6 → zA 6 ad (ad i) := fun i hi => ⟨i, hi, rfl⟩
  have hl := lv_entry ([.ref (ad 0)]) (n := 1) (Nat.le_of_ble_eq_true rfl)
  rw [lg_entry_eq]
  generalize (lg_sl ([.ref (ad 0)]) ++ List.replicate (1 - (lg_sl ([.ref (ad 0)])).length) Slot.unset).toArray = ls at hl ⊢
  have hl : lv_has ls 1 [(0, .ref (ad 0))] := hl
  show W p l e ({ frames := 3, cells := 0, slots := 0, locals := 65 } : Room) s m ([.ref (ad 0)] : List Value).toArray below meth c s.heap [] 0 0 (MQ below (va_Qi Q (zB D 6 (zme cy ad) ad) (zA 6 ad)) ([.ref (ad 0)] : List Value).toArray s 0 0 (zA 6 ad)) (F0 m 0 ls [])
  unfold wp_X7_oldest at h
  refine lv_aload_n hx hb dX7_oldest_0 rfl (lv_at hl 0 rfl) ?_
  refine lv_iconst (v := (jI 0)) hx hb dX7_oldest_1 rfl ?_
  obtain ⟨s1, es1⟩ : ∃ y : ST, y = zsp σ 1 (jI 0) := ⟨_, rfl⟩
  have h := h s1 es1
  refine zput (ty := .int) hx hb hts inX7 tyX7 tyX7_ok nmX7 hown hK hj hw hA hS 0 (by decide) rfl rfl 3 (by decide) lk0 (fun _ h9 => h9) rfl (by decide +kernel) rfl rfl (Nat.le_of_ble_eq_true rfl) dX7_oldest_2 (zme cy ad s1) (by rw [es1]; rfl) (fun j hj9 => by rw [es1]; exact zsp_off_M_1 j hj9) (fun H locs hw hS => ?_)
  refine lv_aload_n hx hb dX7_oldest_5 rfl (lv_at hl 0 rfl) ?_
  refine k_X7_oldestOne (rest := []) hx hb hml hown hts gX7_oldest_X7_oldestOne ⟨Nat.le_of_ble_eq_true rfl, Nat.le_of_ble_eq_true rfl⟩ ⟨Nat.zero_le _, Nat.zero_le _⟩ hK hj hw hA hS hl.1 (Nat.le_of_ble_eq_true rfl) dX7_oldest_6 h (fun r1 s2 H locs h hw hS => ?_)
  exact W.iret (v := r1) hx hb hr (fun t ht hW => ⟨⟨_, _, rfl, h, zend hw ht⟩, hS.F ht⟩) hS.2.2 dX7_oldest_9
theorem k_X7_oldest {p : Program} {l : Launch} {e : Env} {R : Room} {s : State} {m : MethodId} {args : Array Value} {below : List Frame} {meth : Method} {c : Code} {H : Heap} {locs : List Loc} {cells slots : Nat} {QQ : State → Prop} {cc : ByteArray} {pc nL index : Nat} {ls : Array Slot} {rest : List Value} {D : va_G} {cy : cyT} {ad : Nat → Nat} {own : String} {Ts : List Cond} {H0 : Heap} {σ : ST}  {Q : Int32 → ST → Prop} (hx : p.tables.exec = Jvm.exec) (hb : c.code = cc) (hml : c.maxLocals = nL) (hown : s.vm.findClass own = some m.cls) (hts : ∀ w ∈ Ts, w.before args s = true) (hG : GoodIn Ts (wsV own index RX7 yX7_oldest wsX7_oldest)) (hR : 3 + 1 ≤ R.frames ∧ 8 + (1 + 11) + 65 ≤ R.locals) (hcs : cells ≤ R.cells ∧ slots ≤ R.slots) (hK : zK D cy s) (hj : zI 6 ad) (hw : zW D 6 (zme cy ad σ) ad H) {A0 : Nat → Prop} (hA : ∀ i, i < 6 → A0 (ad i)) (hS : va_S A0 H0 H locs) (hsz : ls.size = nL) (hrest : (rest.map fun v => v.category).sum ≤ 8) (hdg : decode cc pc = .ok (.invokevirtual index, 3)) (h : wp_X7_oldest σ  Q) (kk : ∀ (r : Int32) (σ : ST) (H : Heap) (locs : List Loc), Q r σ → zW D 6 (zme cy ad σ) ad H → va_S A0 H0 H locs → W p l e R s m args below meth c H locs cells slots QQ (F0 m (pc + 3) ls (.int r :: rest))) : W p l e R s m args below meth c H locs cells slots QQ (F0 m pc ls (.ref (ad 0) :: rest)) :=
  zcalli (va_runV (As := []) (rest := rest) ⟨hx, hb, hml, hown, hts⟩ (c_X7_oldest l D cy ad σ  h) (cwV 0 hts hG rfl rfl rfl (by decide +kernel) hR) (zpreV hj hK hw _ (i := 0) (ci := 6) (by decide) rfl rfl) rfl rfl hsz rfl (lv_room hrest) hdg hcs) hA hS kk
set_option maxHeartbeats 4000000 in
set_option maxRecDepth 100000 in
theorem c_X7_widestArea (l : Launch) (D : va_G) (cy : cyT) (ad : Nat → Nat) (σ : ST) {Q : Int32 → ST → Prop} (h : wp_X7_widestArea σ Q) : Met l yX7_widestArea wsX7_widestArea ({ frames := 4, cells := 0, slots := 0, locals := 96 } : Room) (zPre D cy 6 (zme cy ad σ) ad [.ref (ad 0)]) (va_Qi Q (zB D 6 (zme cy ad) ad) (zA 6 ad)) 0 0 (zA 6 ad) := by
  refine Met.ofW (cc := cX7_widestArea) (maxL := 5) (ret := (some .int)) (by decide) rfl ?_
  intro p e s m args below meth c s₁ B hml hv
  obtain ⟨rfl, hj, hK, hw⟩ := hv
  have hx := B.exec
  have hb := B.bytes
  have hr := B.returns
  have hts := atoms_spec (ws := wsX7_widestArea) B.pre
  have hown : s.vm.findClass RX7 = some m.cls := findClass_of_methodNamed B.named
  have hlocks := B.notSynchronized
  have lk0 : Cond.fieldLink RX7 7 "TypeTraysModel" "w" "[I" ∈ wsX7_widestArea := List.mem_of_getElem? (i := 1) rfl
  have inX7 : ∀ w ∈ u_ws RX7 TX7 16, w ∈ wsX7_widestArea := zin_at 32 rfl
  have hS : va_S (zA 6 ad) s.heap s.heap [] := va_S.rf
  have hA : ∀ i, i < 6 → zA 6 ad (ad i) := fun i hi => ⟨i, hi, rfl⟩
  have hl := lv_entry ([.ref (ad 0)]) (n := 5) (Nat.le_of_ble_eq_true rfl)
  rw [lg_entry_eq]
  generalize (lg_sl ([.ref (ad 0)]) ++ List.replicate (5 - (lg_sl ([.ref (ad 0)])).length) Slot.unset).toArray = ls at hl ⊢
  have hl : lv_has ls 5 [(0, .ref (ad 0))] := hl
  show W p l e ({ frames := 4, cells := 0, slots := 0, locals := 96 } : Room) s m ([.ref (ad 0)] : List Value).toArray below meth c s.heap [] 0 0 (MQ below (va_Qi Q (zB D 6 (zme cy ad) ad) (zA 6 ad)) ([.ref (ad 0)] : List Value).toArray s 0 0 (zA 6 ad)) (F0 m 0 ls [])
  unfold wp_X7_widestArea at h
  refine lv_iconst (v := (jI 0)) hx hb dX7_widestArea_0 rfl ?_
  refine lv_istore_n (lv' := [(1, .int (jI 0)), (0, .ref (ad 0))]) hx hb dX7_widestArea_1 rfl hl (by decide) rfl (fun ls hl => ?_)
  refine lv_iconst (v := (jI 0)) hx hb dX7_widestArea_2 rfl ?_
  refine lv_istore_n (lv' := [(2, .int (jI 0)), (1, .int (jI 0)), (0, .ref (ad 0))]) hx hb dX7_widestArea_3 rfl hl (by decide) rfl (fun ls hl => ?_)
  have k70_4 : ∀ (u_70 : ST) (z1_70 : Int32) (H : Heap) (locs : List Loc), Q z1_70 u_70 → zW D 6 (zme cy ad u_70) ad H → va_S (zA 6 ad) s.heap H locs → ∀ ls : Array Slot, lv_has ls 5 [(1, .int z1_70)] → W p l e ({ frames := 4, cells := 0, slots := 0, locals := 96 } : Room) s m ([.ref (ad 0)] : List Value).toArray below meth c H locs 0 0 (MQ below (va_Qi Q (zB D 6 (zme cy ad) ad) (zA 6 ad)) ([.ref (ad 0)] : List Value).toArray s 0 0 (zA 6 ad)) (F0 m 70 ls []) := by
    intro u_70 z1_70 H locs h hw hS ls hl
    refine lv_iload_n hx hb dX7_widestArea_70 rfl (lv_at hl 0 rfl) ?_
    exact W.iret (v := z1_70) hx hb hr (fun t ht hW => ⟨⟨_, _, rfl, h, zend hw ht⟩, hS.F ht⟩) hS.2.2 dX7_widestArea_71
  have lp4 : ∀ (nn4 : Nat) (t_4 : ST) (y1_4 : Int32) (y2_4 : Int32) (H : Heap) (locs : List Loc), wl_X7_widestArea_4 (fun u_70 z1_70 => Q z1_70 u_70)  nn4 t_4 y1_4 y2_4 → zW D 6 (zme cy ad t_4) ad H → va_S (zA 6 ad) s.heap H locs → ∀ ls : Array Slot, lv_has ls 5 [(0, .ref (ad 0)), (1, .int y1_4), (2, .int y2_4)] → W p l e ({ frames := 4, cells := 0, slots := 0, locals := 96 } : Room) s m ([.ref (ad 0)] : List Value).toArray below meth c H locs 0 0 (MQ below (va_Qi Q (zB D 6 (zme cy ad) ad) (zA 6 ad)) ([.ref (ad 0)] : List Value).toArray s 0 0 (zA 6 ad)) (F0 m 4 ls []) := by
    intro nn4
    induction nn4 with
    | zero => intro _ _ _ _ _ h; exact h.elim
    | succ nn4 ih4 =>
      intro t_4 y1_4 y2_4 H locs h hw hS ls hl
      simp only [wl_X7_widestArea_4, wb_X7_widestArea_4] at h
      refine lv_iload_n hx hb dX7_widestArea_4 rfl (lv_at hl 2 rfl) ?_
      refine lv_aload_n hx hb dX7_widestArea_5 rfl (lv_at hl 0 rfl) ?_
      refine zget hx hb hts inX7 hown hK hw 0 (by decide) rfl rfl 0 (by decide) lk0 (fun _ h9 => h9) rfl dX7_widestArea_6 ?_
      refine lv_iconst (v := (jI 0)) hx hb dX7_widestArea_9 rfl ?_
      refine ziald hx hb hK hw 1 (by decide) rfl h.1 dX7_widestArea_10 ?_
      refine lv_topi (fun v1 ev1 => ?_)
      have h := h.2 v1 ev1
      refine lv_icmp_ge (tgt := 70) hx hb dX7_widestArea_11 (by decide) (fun c1 => ?_) (fun c1 => ?_)
      · have h := h.1 c1
        exact k70_4 _ _ _ _ h hw hS _ (lv_sub hl [1] rfl)
      · have h := h.2 c1
        refine lv_iconst (v := (jI 0)) hx hb dX7_widestArea_14 rfl ?_
        refine lv_istore_n (lv' := [(3, .int (jI 0)), (0, .ref (ad 0)), (1, .int y1_4), (2, .int y2_4)]) hx hb dX7_widestArea_15 rfl hl (by decide) rfl (fun ls hl => ?_)
        have k64_16 : ∀ (u_64 : ST) (z1_64 : Int32) (H : Heap) (locs : List Loc), (∀ x4 : Int32, x4 = y2_4 + (jI 1) → (wl_X7_widestArea_4 (fun u_70 z1_70 => Q z1_70 u_70)  nn4) u_64 z1_64 x4) → zW D 6 (zme cy ad u_64) ad H → va_S (zA 6 ad) s.heap H locs → ∀ ls : Array Slot, lv_has ls 5 [(0, .ref (ad 0)), (1, .int z1_64), (2, .int y2_4)] → W p l e ({ frames := 4, cells := 0, slots := 0, locals := 96 } : Room) s m ([.ref (ad 0)] : List Value).toArray below meth c H locs 0 0 (MQ below (va_Qi Q (zB D 6 (zme cy ad) ad) (zA 6 ad)) ([.ref (ad 0)] : List Value).toArray s 0 0 (zA 6 ad)) (F0 m 64 ls []) := by
          intro u_64 z1_64 H locs h hw hS ls hl
          obtain ⟨x4, ex4⟩ : ∃ y : Int32, y = y2_4 + (jI 1) := ⟨_, rfl⟩
          have h := h x4 ex4
          refine lv_iinc (v := x4) (lv' := [(2, .int x4), (0, .ref (ad 0)), (1, .int z1_64)]) hx hb dX7_widestArea_64 hl (k := 2) rfl (by rw [ex4]; rfl) (by decide) rfl (fun ls hl => ?_)
          refine lv_goto (tgt := 4) hx hb dX7_widestArea_67 (by decide) ?_
          exact ih4 _ _ _ _ _ h hw hS _ (lv_sub hl [1, 2, 0] rfl)
        have lp16 : ∀ (nn16 : Nat) (t_16 : ST) (y1_16 : Int32) (y3_16 : Int32) (H : Heap) (locs : List Loc), wl_X7_widestArea_16 (fun u_64 z1_64 => (∀ x4 : Int32, x4 = y2_4 + (jI 1) → (wl_X7_widestArea_4 (fun u_70 z1_70 => Q z1_70 u_70)  nn4) u_64 z1_64 x4)) y2_4 nn16 t_16 y1_16 y3_16 → zW D 6 (zme cy ad t_16) ad H → va_S (zA 6 ad) s.heap H locs → ∀ ls : Array Slot, lv_has ls 5 [(0, .ref (ad 0)), (1, .int y1_16), (2, .int y2_4), (3, .int y3_16)] → W p l e ({ frames := 4, cells := 0, slots := 0, locals := 96 } : Room) s m ([.ref (ad 0)] : List Value).toArray below meth c H locs 0 0 (MQ below (va_Qi Q (zB D 6 (zme cy ad) ad) (zA 6 ad)) ([.ref (ad 0)] : List Value).toArray s 0 0 (zA 6 ad)) (F0 m 16 ls []) := by
          intro nn16
          induction nn16 with
          | zero => intro _ _ _ _ _ h; exact h.elim
          | succ nn16 ih16 =>
            intro t_16 y1_16 y3_16 H locs h hw hS ls hl
            simp only [wl_X7_widestArea_16, wb_X7_widestArea_16] at h
            refine lv_iload_n hx hb dX7_widestArea_16 rfl (lv_at hl 3 rfl) ?_
            refine lv_aload_n hx hb dX7_widestArea_17 rfl (lv_at hl 0 rfl) ?_
            refine zget hx hb hts inX7 hown hK hw 0 (by decide) rfl rfl 0 (by decide) lk0 (fun _ h9 => h9) rfl dX7_widestArea_18 ?_
            refine lv_bipush (v := (jI 44)) hx hb dX7_widestArea_21 (by decide +kernel) ?_
            refine lv_iload_n hx hb dX7_widestArea_23 rfl (lv_at hl 2 rfl) ?_
            refine lv_iadd hx hb dX7_widestArea_24 ?_
            refine ziald hx hb hK hw 1 (by decide) rfl h.1 dX7_widestArea_25 ?_
            refine lv_topi (fun v2 ev2 => ?_)
            have h := h.2 v2 ev2
            refine lv_icmp_ge (tgt := 64) hx hb dX7_widestArea_26 (by decide) (fun c2 => ?_) (fun c2 => ?_)
            · have h := h.1 c2
              exact k64_16 _ _ _ _ h hw hS _ (lv_sub hl [0, 1, 2] rfl)
            · have h := h.2 c2
              refine lv_aload_n hx hb dX7_widestArea_29 rfl (lv_at hl 0 rfl) ?_
              refine lv_iload_n hx hb dX7_widestArea_30 rfl (lv_at hl 2 rfl) ?_
              refine lv_iload_n hx hb dX7_widestArea_31 rfl (lv_at hl 3 rfl) ?_
              refine lv_iconst (v := (jI 0)) hx hb dX7_widestArea_32 rfl ?_
              refine k_X7_gapsOf (rest := []) hx hb hml hown hts gX7_widestArea_X7_gapsOf ⟨Nat.le_of_ble_eq_true rfl, Nat.le_of_ble_eq_true rfl⟩ ⟨Nat.zero_le _, Nat.zero_le _⟩ hK hj hw hA hS hl.1 (Nat.le_of_ble_eq_true rfl) dX7_widestArea_33 h (fun r1 s1 H locs h hw hS => ?_)
              refine lv_aload_n hx hb dX7_widestArea_36 rfl (lv_at hl 0 rfl) ?_
              refine lv_iload_n hx hb dX7_widestArea_37 rfl (lv_at hl 2 rfl) ?_
              refine lv_iload_n hx hb dX7_widestArea_38 rfl (lv_at hl 3 rfl) ?_
              refine k_X7_tall (rest := [.int r1]) hx hb hml hown hts gX7_widestArea_X7_tall ⟨Nat.le_of_ble_eq_true rfl, Nat.le_of_ble_eq_true rfl⟩ ⟨Nat.zero_le _, Nat.zero_le _⟩ hK hj hw hA hS hl.1 (Nat.le_of_ble_eq_true rfl) dX7_widestArea_39 h (fun r2 s2 H locs h hw hS => ?_)
              refine lv_imul hx hb dX7_widestArea_42 ?_
              refine lv_topi (fun x1 ex1 => ?_)
              have h := h x1 ex1
              refine lv_istore (lv' := [(4, .int x1), (0, .ref (ad 0)), (1, .int y1_16), (2, .int y2_4), (3, .int y3_16)]) hx hb dX7_widestArea_43 hl (by decide) rfl (fun ls hl => ?_)
              refine lv_iload hx hb dX7_widestArea_45 (lv_at hl 0 rfl) ?_
              refine lv_iload_n hx hb dX7_widestArea_47 rfl (lv_at hl 2 rfl) ?_
              refine lv_icmp_le (tgt := 56) hx hb dX7_widestArea_48 (by decide) (fun c3 => ?_) (fun c3 => ?_)
              · have h := h.1 c3
                refine lv_iload_n hx hb dX7_widestArea_56 rfl (lv_at hl 2 rfl) ?_
                refine lv_istore_n (lv' := [(1, .int y1_16), (4, .int x1), (0, .ref (ad 0)), (2, .int y2_4), (3, .int y3_16)]) hx hb dX7_widestArea_57 rfl hl (by decide) rfl (fun ls hl => ?_)
                obtain ⟨x2, ex2⟩ : ∃ y : Int32, y = y3_16 + (jI 1) := ⟨_, rfl⟩
                have h := h x2 ex2
                refine lv_iinc (v := x2) (lv' := [(3, .int x2), (1, .int y1_16), (4, .int x1), (0, .ref (ad 0)), (2, .int y2_4)]) hx hb dX7_widestArea_58 hl (k := 4) rfl (by rw [ex2]; rfl) (by decide) rfl (fun ls hl => ?_)
                refine lv_goto (tgt := 16) hx hb dX7_widestArea_61 (by decide) ?_
                exact ih16 _ _ _ _ _ h hw hS _ (lv_sub hl [3, 1, 4, 0] rfl)
              · have h := h.2 c3
                refine lv_iload hx hb dX7_widestArea_51 (lv_at hl 0 rfl) ?_
                refine lv_goto (tgt := 57) hx hb dX7_widestArea_53 (by decide) ?_
                refine lv_istore_n (lv' := [(1, .int x1), (4, .int x1), (0, .ref (ad 0)), (2, .int y2_4), (3, .int y3_16)]) hx hb dX7_widestArea_57 rfl hl (by decide) rfl (fun ls hl => ?_)
                obtain ⟨x3, ex3⟩ : ∃ y : Int32, y = y3_16 + (jI 1) := ⟨_, rfl⟩
                have h := h x3 ex3
                refine lv_iinc (v := x3) (lv' := [(3, .int x3), (1, .int x1), (4, .int x1), (0, .ref (ad 0)), (2, .int y2_4)]) hx hb dX7_widestArea_58 hl (k := 4) rfl (by rw [ex3]; rfl) (by decide) rfl (fun ls hl => ?_)
                refine lv_goto (tgt := 16) hx hb dX7_widestArea_61 (by decide) ?_
                exact ih16 _ _ _ _ _ h hw hS _ (lv_sub hl [3, 1, 4, 0] rfl)
        obtain ⟨nn16, h⟩ := h
        exact lp16 nn16 _ _ _ _ _ h hw hS _ (lv_sub hl [1, 2, 3, 0] rfl)
  obtain ⟨nn4, h⟩ := h
  exact lp4 nn4 _ _ _ _ _ h hw hS _ (lv_sub hl [2, 1, 0] rfl)
theorem k_X7_widestArea {p : Program} {l : Launch} {e : Env} {R : Room} {s : State} {m : MethodId} {args : Array Value} {below : List Frame} {meth : Method} {c : Code} {H : Heap} {locs : List Loc} {cells slots : Nat} {QQ : State → Prop} {cc : ByteArray} {pc nL index : Nat} {ls : Array Slot} {rest : List Value} {D : va_G} {cy : cyT} {ad : Nat → Nat} {own : String} {Ts : List Cond} {H0 : Heap} {σ : ST}  {Q : Int32 → ST → Prop} (hx : p.tables.exec = Jvm.exec) (hb : c.code = cc) (hml : c.maxLocals = nL) (hown : s.vm.findClass own = some m.cls) (hts : ∀ w ∈ Ts, w.before args s = true) (hG : GoodIn Ts (wsV own index RX7 yX7_widestArea wsX7_widestArea)) (hR : 4 + 1 ≤ R.frames ∧ 8 + (5 + 11) + 96 ≤ R.locals) (hcs : cells ≤ R.cells ∧ slots ≤ R.slots) (hK : zK D cy s) (hj : zI 6 ad) (hw : zW D 6 (zme cy ad σ) ad H) {A0 : Nat → Prop} (hA : ∀ i, i < 6 → A0 (ad i)) (hS : va_S A0 H0 H locs) (hsz : ls.size = nL) (hrest : (rest.map fun v => v.category).sum ≤ 8) (hdg : decode cc pc = .ok (.invokevirtual index, 3)) (h : wp_X7_widestArea σ  Q) (kk : ∀ (r : Int32) (σ : ST) (H : Heap) (locs : List Loc), Q r σ → zW D 6 (zme cy ad σ) ad H → va_S A0 H0 H locs → W p l e R s m args below meth c H locs cells slots QQ (F0 m (pc + 3) ls (.int r :: rest))) : W p l e R s m args below meth c H locs cells slots QQ (F0 m pc ls (.ref (ad 0) :: rest)) :=
  zcalli (va_runV (As := []) (rest := rest) ⟨hx, hb, hml, hown, hts⟩ (c_X7_widestArea l D cy ad σ  h) (cwV 0 hts hG rfl rfl rfl (by decide +kernel) hR) (zpreV hj hK hw _ (i := 0) (ci := 6) (by decide) rfl rfl) rfl rfl hsz rfl (lv_room hrest) hdg hcs) hA hS kk
set_option maxHeartbeats 4000000 in
set_option maxRecDepth 100000 in
theorem c_X7_greatestGap (l : Launch) (D : va_G) (cy : cyT) (ad : Nat → Nat) (σ : ST) {Q : Int32 → ST → Prop} (h : wp_X7_greatestGap σ Q) : Met l yX7_greatestGap wsX7_greatestGap ({ frames := 5, cells := 0, slots := 0, locals := 120 } : Room) (zPre D cy 6 (zme cy ad σ) ad [.ref (ad 0)]) (va_Qi Q (zB D 6 (zme cy ad) ad) (zA 6 ad)) 0 0 (zA 6 ad) := by
  refine Met.ofW (cc := cX7_greatestGap) (maxL := 1) (ret := (some .int)) (by decide) rfl ?_
  intro p e s m args below meth c s₁ B hml hv
  obtain ⟨rfl, hj, hK, hw⟩ := hv
  have hx := B.exec
  have hb := B.bytes
  have hr := B.returns
  have hts := atoms_spec (ws := wsX7_greatestGap) B.pre
  have hown : s.vm.findClass RX7 = some m.cls := findClass_of_methodNamed B.named
  have hlocks := B.notSynchronized
  have lk0 : Cond.fieldLink RX7 26 "TypeTraysModel" "thrown" "I" ∈ wsX7_greatestGap := List.mem_of_getElem? (i := 1) rfl
  have inX7 : ∀ w ∈ u_ws RX7 TX7 16, w ∈ wsX7_greatestGap := zin_at 37 rfl
  have hS : va_S (zA 6 ad) s.heap s.heap [] := va_S.rf
  have hA : ∀ i, i < 6 → zA 6 ad (ad i) := fun i hi => ⟨i, hi, rfl⟩
  have hl := lv_entry ([.ref (ad 0)]) (n := 1) (Nat.le_of_ble_eq_true rfl)
  rw [lg_entry_eq]
  generalize (lg_sl ([.ref (ad 0)]) ++ List.replicate (1 - (lg_sl ([.ref (ad 0)])).length) Slot.unset).toArray = ls at hl ⊢
  have hl : lv_has ls 1 [(0, .ref (ad 0))] := hl
  show W p l e ({ frames := 5, cells := 0, slots := 0, locals := 120 } : Room) s m ([.ref (ad 0)] : List Value).toArray below meth c s.heap [] 0 0 (MQ below (va_Qi Q (zB D 6 (zme cy ad) ad) (zA 6 ad)) ([.ref (ad 0)] : List Value).toArray s 0 0 (zA 6 ad)) (F0 m 0 ls [])
  unfold wp_X7_greatestGap at h
  refine lv_aload_n hx hb dX7_greatestGap_0 rfl (lv_at hl 0 rfl) ?_
  refine lv_iconst (v := (jI 0)) hx hb dX7_greatestGap_1 rfl ?_
  obtain ⟨s1, es1⟩ : ∃ y : ST, y = zsp σ 1 (jI 0) := ⟨_, rfl⟩
  have h := h s1 es1
  refine zput (ty := .int) hx hb hts inX7 tyX7 tyX7_ok nmX7 hown hK hj hw hA hS 0 (by decide) rfl rfl 3 (by decide) lk0 (fun _ h9 => h9) rfl (by decide +kernel) rfl rfl (Nat.le_of_ble_eq_true rfl) dX7_greatestGap_2 (zme cy ad s1) (by rw [es1]; rfl) (fun j hj9 => by rw [es1]; exact zsp_off_M_1 j hj9) (fun H locs hw hS => ?_)
  refine lv_aload_n hx hb dX7_greatestGap_5 rfl (lv_at hl 0 rfl) ?_
  refine k_X7_widestArea (rest := []) hx hb hml hown hts gX7_greatestGap_X7_widestArea ⟨Nat.le_of_ble_eq_true rfl, Nat.le_of_ble_eq_true rfl⟩ ⟨Nat.zero_le _, Nat.zero_le _⟩ hK hj hw hA hS hl.1 (Nat.le_of_ble_eq_true rfl) dX7_greatestGap_6 h (fun r1 s2 H locs h hw hS => ?_)
  exact W.iret (v := r1) hx hb hr (fun t ht hW => ⟨⟨_, _, rfl, h, zend hw ht⟩, hS.F ht⟩) hS.2.2 dX7_greatestGap_9
theorem k_X7_greatestGap {p : Program} {l : Launch} {e : Env} {R : Room} {s : State} {m : MethodId} {args : Array Value} {below : List Frame} {meth : Method} {c : Code} {H : Heap} {locs : List Loc} {cells slots : Nat} {QQ : State → Prop} {cc : ByteArray} {pc nL index : Nat} {ls : Array Slot} {rest : List Value} {D : va_G} {cy : cyT} {ad : Nat → Nat} {own : String} {Ts : List Cond} {H0 : Heap} {σ : ST}  {Q : Int32 → ST → Prop} (hx : p.tables.exec = Jvm.exec) (hb : c.code = cc) (hml : c.maxLocals = nL) (hown : s.vm.findClass own = some m.cls) (hts : ∀ w ∈ Ts, w.before args s = true) (hG : GoodIn Ts (wsV own index RX7 yX7_greatestGap wsX7_greatestGap)) (hR : 5 + 1 ≤ R.frames ∧ 8 + (1 + 11) + 120 ≤ R.locals) (hcs : cells ≤ R.cells ∧ slots ≤ R.slots) (hK : zK D cy s) (hj : zI 6 ad) (hw : zW D 6 (zme cy ad σ) ad H) {A0 : Nat → Prop} (hA : ∀ i, i < 6 → A0 (ad i)) (hS : va_S A0 H0 H locs) (hsz : ls.size = nL) (hrest : (rest.map fun v => v.category).sum ≤ 8) (hdg : decode cc pc = .ok (.invokevirtual index, 3)) (h : wp_X7_greatestGap σ  Q) (kk : ∀ (r : Int32) (σ : ST) (H : Heap) (locs : List Loc), Q r σ → zW D 6 (zme cy ad σ) ad H → va_S A0 H0 H locs → W p l e R s m args below meth c H locs cells slots QQ (F0 m (pc + 3) ls (.int r :: rest))) : W p l e R s m args below meth c H locs cells slots QQ (F0 m pc ls (.ref (ad 0) :: rest)) :=
  zcalli (va_runV (As := []) (rest := rest) ⟨hx, hb, hml, hown, hts⟩ (c_X7_greatestGap l D cy ad σ  h) (cwV 0 hts hG rfl rfl rfl (by decide +kernel) hR) (zpreV hj hK hw _ (i := 0) (ci := 6) (by decide) rfl rfl) rfl rfl hsz rfl (lv_room hrest) hdg hcs) hA hS kk
set_option maxHeartbeats 4000000 in
set_option maxRecDepth 100000 in
theorem c_X7_type (l : Launch) (D : va_G) (cy : cyT) (ad : Nat → Nat) (σ : ST) (p0 : Int32) {Q : Int32 → ST → Prop} (h : wp_X7_type σ p0 Q) : Met l yX7_type wsX7_type ({ frames := 1, cells := 0, slots := 0, locals := 22 } : Room) (zPre D cy 6 (zme cy ad σ) ad [.ref (ad 0), .int p0]) (va_Qi Q (zB D 6 (zme cy ad) ad) (zA 6 ad)) 0 0 (zA 6 ad) := by
  refine Met.ofW (cc := cX7_type) (maxL := 2) (ret := (some .int)) (by decide) rfl ?_
  intro p e s m args below meth c s₁ B hml hv
  obtain ⟨rfl, hj, hK, hw⟩ := hv
  have hx := B.exec
  have hb := B.bytes
  have hr := B.returns
  have hts := atoms_spec (ws := wsX7_type) B.pre
  have hown : s.vm.findClass RX7 = some m.cls := findClass_of_methodNamed B.named
  have hlocks := B.notSynchronized
  have lk0 : Cond.fieldLink RX7 187 "TypeTraysModel" "typed" "I" ∈ wsX7_type := List.mem_of_getElem? (i := 1) rfl
  have lk1 : Cond.fieldLink RX7 26 "TypeTraysModel" "thrown" "I" ∈ wsX7_type := List.mem_of_getElem? (i := 2) rfl
  have lk2 : Cond.fieldLink RX7 20 "TypeTraysModel" "text" "[I" ∈ wsX7_type := List.mem_of_getElem? (i := 3) rfl
  have inX7 : ∀ w ∈ u_ws RX7 TX7 16, w ∈ wsX7_type := zin_at 8 rfl
  have hS : va_S (zA 6 ad) s.heap s.heap [] := va_S.rf
  have hA : ∀ i, i < 6 → zA 6 ad (ad i) := fun i hi => ⟨i, hi, rfl⟩
  have hl := lv_entry ([.ref (ad 0), .int p0]) (n := 2) (Nat.le_of_ble_eq_true rfl)
  rw [lg_entry_eq]
  generalize (lg_sl ([.ref (ad 0), .int p0]) ++ List.replicate (2 - (lg_sl ([.ref (ad 0), .int p0])).length) Slot.unset).toArray = ls at hl ⊢
  have hl : lv_has ls 2 [(0, .ref (ad 0)), (1, .int p0)] := hl
  show W p l e ({ frames := 1, cells := 0, slots := 0, locals := 22 } : Room) s m ([.ref (ad 0), .int p0] : List Value).toArray below meth c s.heap [] 0 0 (MQ below (va_Qi Q (zB D 6 (zme cy ad) ad) (zA 6 ad)) ([.ref (ad 0), .int p0] : List Value).toArray s 0 0 (zA 6 ad)) (F0 m 0 ls [])
  unfold wp_X7_type at h
  refine lv_aload_n hx hb dX7_type_0 rfl (lv_at hl 0 rfl) ?_
  refine lv_iload_n hx hb dX7_type_1 rfl (lv_at hl 1 rfl) ?_
  refine lv_iconst (v := (jI 0)) hx hb dX7_type_2 rfl ?_
  refine lv_bipush (v := (jI 127)) hx hb dX7_type_3 (by decide +kernel) ?_
  refine k_X7_in (rest := [.ref (ad 0)]) hx hb hml hown hts gX7_type_X7_in ⟨Nat.le_of_ble_eq_true rfl, Nat.le_of_ble_eq_true rfl⟩ ⟨Nat.zero_le _, Nat.zero_le _⟩ hK hj hw hA hS hl.1 (Nat.le_of_ble_eq_true rfl) dX7_type_5 h (fun r1 s1 H locs h hw hS => ?_)
  refine zif_ne (tgt := 15) hx hb dX7_type_8 (by decide) (fun c1 => ?_) (fun c1 => ?_)
  · have h := h.2 c1
    refine lv_aload_n hx hb dX7_type_15 rfl (lv_at hl 0 rfl) ?_
    refine zget hx hb hts inX7 hown hK hw 0 (by decide) rfl rfl 12 (by decide) lk0 (fun _ h9 => h9) rfl dX7_type_16 ?_
    refine lv_sipush (v := (jI 150)) hx hb dX7_type_19 (by decide +kernel) ?_
    refine lv_icmp_ne (tgt := 29) hx hb dX7_type_22 (by decide) (fun c2 => ?_) (fun c2 => ?_)
    · have h := h.2 c2
      refine lv_iconst (v := (jI 0)) hx hb dX7_type_29 rfl ?_
      obtain ⟨s2, es2⟩ : ∃ y : ST, y = zsp s1 1 (jI 0) := ⟨_, rfl⟩
      have h := h s2 es2
      refine zput (ty := .int) hx hb hts inX7 tyX7 tyX7_ok nmX7 hown hK hj hw hA hS 0 (by decide) rfl rfl 3 (by decide) lk1 (fun _ h9 => h9) rfl (by decide +kernel) rfl rfl (Nat.le_of_ble_eq_true rfl) dX7_type_30 (zme cy ad s2) (by rw [es2]; rfl) (fun j hj9 => by rw [es2]; exact zsp_off_M_1 j hj9) (fun H locs hw hS => ?_)
      refine lv_aload_n hx hb dX7_type_33 rfl (lv_at hl 0 rfl) ?_
      refine zget hx hb hts inX7 hown hK hw 0 (by decide) rfl rfl 3 (by decide) lk1 (fun _ h9 => h9) rfl dX7_type_34 ?_
      refine zif_le (tgt := 42) hx hb dX7_type_37 (by decide) (fun c3 => ?_) (fun c3 => ?_)
      · have h := h.1 c3
        refine lv_aload_n hx hb dX7_type_42 rfl (lv_at hl 0 rfl) ?_
        refine zget hx hb hts inX7 hown hK hw 0 (by decide) rfl rfl 11 (by decide) lk2 (fun _ h9 => h9) rfl dX7_type_43 ?_
        refine lv_aload_n hx hb dX7_type_46 rfl (lv_at hl 0 rfl) ?_
        refine zget hx hb hts inX7 hown hK hw 0 (by decide) rfl rfl 12 (by decide) lk0 (fun _ h9 => h9) rfl dX7_type_47 ?_
        refine lv_iload_n hx hb dX7_type_50 rfl (lv_at hl 1 rfl) ?_
        obtain ⟨s3, es3⟩ : ∃ y : ST, y = zrp s2 3 (s2.2 8).toNatClampNeg p0 := ⟨_, rfl⟩
        refine ziast hx hb hK hj hw hA hS 4 (by decide) rfl h.1 dX7_type_51 (zme cy ad s3) (by rw [es3]; exact zrp_on_M_3) (fun j hj9 => by rw [es3]; exact zrp_off_M_3 j hj9) (fun H locs hw hS => ?_)
        have h := h.2 s3 es3
        refine lv_aload_n hx hb dX7_type_52 rfl (lv_at hl 0 rfl) ?_
        refine lv_dup hx hb dX7_type_53 rfl ?_
        refine zget hx hb hts inX7 hown hK hw 0 (by decide) rfl rfl 12 (by decide) lk0 (fun _ h9 => h9) rfl dX7_type_54 ?_
        refine lv_iconst (v := (jI 1)) hx hb dX7_type_57 rfl ?_
        refine lv_iadd hx hb dX7_type_58 ?_
        obtain ⟨s4, es4⟩ : ∃ y : ST, y = zsp s3 8 ((s3.2 8) + (jI 1)) := ⟨_, rfl⟩
        have h := h s4 es4
        refine zput (ty := .int) hx hb hts inX7 tyX7 tyX7_ok nmX7 hown hK hj hw hA hS 0 (by decide) rfl rfl 12 (by decide) lk0 (fun _ h9 => h9) rfl (by decide +kernel) rfl rfl (Nat.le_of_ble_eq_true rfl) dX7_type_59 (zme cy ad s4) (by rw [es4]; rfl) (fun j hj9 => by rw [es4]; exact zsp_off_M_8 j hj9) (fun H locs hw hS => ?_)
        refine lv_aload_n hx hb dX7_type_62 rfl (lv_at hl 0 rfl) ?_
        refine zget hx hb hts inX7 hown hK hw 0 (by decide) rfl rfl 12 (by decide) lk0 (fun _ h9 => h9) rfl dX7_type_63 ?_
        exact W.iret (v := (s4.2 8)) hx hb hr (fun t ht hW => ⟨⟨_, _, rfl, h, zend hw ht⟩, hS.F ht⟩) hS.2.2 dX7_type_66
      · have h := h.2 c3
        refine lv_iconst (v := (jI 0)) hx hb dX7_type_40 rfl ?_
        exact W.iret (v := (jI 0)) hx hb hr (fun t ht hW => ⟨⟨_, _, rfl, h, zend hw ht⟩, hS.F ht⟩) hS.2.2 dX7_type_41
    · have h := h.1 c2
      refine lv_iconst (v := (jI 2)) hx hb dX7_type_25 rfl ?_
      refine lv_goto (tgt := 30) hx hb dX7_type_26 (by decide) ?_
      obtain ⟨s5, es5⟩ : ∃ y : ST, y = zsp s1 1 (jI 2) := ⟨_, rfl⟩
      have h := h s5 es5
      refine zput (ty := .int) hx hb hts inX7 tyX7 tyX7_ok nmX7 hown hK hj hw hA hS 0 (by decide) rfl rfl 3 (by decide) lk1 (fun _ h9 => h9) rfl (by decide +kernel) rfl rfl (Nat.le_of_ble_eq_true rfl) dX7_type_30 (zme cy ad s5) (by rw [es5]; rfl) (fun j hj9 => by rw [es5]; exact zsp_off_M_1 j hj9) (fun H locs hw hS => ?_)
      refine lv_aload_n hx hb dX7_type_33 rfl (lv_at hl 0 rfl) ?_
      refine zget hx hb hts inX7 hown hK hw 0 (by decide) rfl rfl 3 (by decide) lk1 (fun _ h9 => h9) rfl dX7_type_34 ?_
      refine zif_le (tgt := 42) hx hb dX7_type_37 (by decide) (fun c4 => ?_) (fun c4 => ?_)
      · have h := h.1 c4
        refine lv_aload_n hx hb dX7_type_42 rfl (lv_at hl 0 rfl) ?_
        refine zget hx hb hts inX7 hown hK hw 0 (by decide) rfl rfl 11 (by decide) lk2 (fun _ h9 => h9) rfl dX7_type_43 ?_
        refine lv_aload_n hx hb dX7_type_46 rfl (lv_at hl 0 rfl) ?_
        refine zget hx hb hts inX7 hown hK hw 0 (by decide) rfl rfl 12 (by decide) lk0 (fun _ h9 => h9) rfl dX7_type_47 ?_
        refine lv_iload_n hx hb dX7_type_50 rfl (lv_at hl 1 rfl) ?_
        obtain ⟨s6, es6⟩ : ∃ y : ST, y = zrp s5 3 (s5.2 8).toNatClampNeg p0 := ⟨_, rfl⟩
        refine ziast hx hb hK hj hw hA hS 4 (by decide) rfl h.1 dX7_type_51 (zme cy ad s6) (by rw [es6]; exact zrp_on_M_3) (fun j hj9 => by rw [es6]; exact zrp_off_M_3 j hj9) (fun H locs hw hS => ?_)
        have h := h.2 s6 es6
        refine lv_aload_n hx hb dX7_type_52 rfl (lv_at hl 0 rfl) ?_
        refine lv_dup hx hb dX7_type_53 rfl ?_
        refine zget hx hb hts inX7 hown hK hw 0 (by decide) rfl rfl 12 (by decide) lk0 (fun _ h9 => h9) rfl dX7_type_54 ?_
        refine lv_iconst (v := (jI 1)) hx hb dX7_type_57 rfl ?_
        refine lv_iadd hx hb dX7_type_58 ?_
        obtain ⟨s7, es7⟩ : ∃ y : ST, y = zsp s6 8 ((s6.2 8) + (jI 1)) := ⟨_, rfl⟩
        have h := h s7 es7
        refine zput (ty := .int) hx hb hts inX7 tyX7 tyX7_ok nmX7 hown hK hj hw hA hS 0 (by decide) rfl rfl 12 (by decide) lk0 (fun _ h9 => h9) rfl (by decide +kernel) rfl rfl (Nat.le_of_ble_eq_true rfl) dX7_type_59 (zme cy ad s7) (by rw [es7]; rfl) (fun j hj9 => by rw [es7]; exact zsp_off_M_8 j hj9) (fun H locs hw hS => ?_)
        refine lv_aload_n hx hb dX7_type_62 rfl (lv_at hl 0 rfl) ?_
        refine zget hx hb hts inX7 hown hK hw 0 (by decide) rfl rfl 12 (by decide) lk0 (fun _ h9 => h9) rfl dX7_type_63 ?_
        exact W.iret (v := (s7.2 8)) hx hb hr (fun t ht hW => ⟨⟨_, _, rfl, h, zend hw ht⟩, hS.F ht⟩) hS.2.2 dX7_type_66
      · have h := h.2 c4
        refine lv_iconst (v := (jI 0)) hx hb dX7_type_40 rfl ?_
        exact W.iret (v := (jI 0)) hx hb hr (fun t ht hW => ⟨⟨_, _, rfl, h, zend hw ht⟩, hS.F ht⟩) hS.2.2 dX7_type_41
  · have h := h.1 c1
    refine lv_iconst (v := (jI 1)) hx hb dX7_type_11 rfl ?_
    refine lv_goto (tgt := 30) hx hb dX7_type_12 (by decide) ?_
    obtain ⟨s8, es8⟩ : ∃ y : ST, y = zsp s1 1 (jI 1) := ⟨_, rfl⟩
    have h := h s8 es8
    refine zput (ty := .int) hx hb hts inX7 tyX7 tyX7_ok nmX7 hown hK hj hw hA hS 0 (by decide) rfl rfl 3 (by decide) lk1 (fun _ h9 => h9) rfl (by decide +kernel) rfl rfl (Nat.le_of_ble_eq_true rfl) dX7_type_30 (zme cy ad s8) (by rw [es8]; rfl) (fun j hj9 => by rw [es8]; exact zsp_off_M_1 j hj9) (fun H locs hw hS => ?_)
    refine lv_aload_n hx hb dX7_type_33 rfl (lv_at hl 0 rfl) ?_
    refine zget hx hb hts inX7 hown hK hw 0 (by decide) rfl rfl 3 (by decide) lk1 (fun _ h9 => h9) rfl dX7_type_34 ?_
    refine zif_le (tgt := 42) hx hb dX7_type_37 (by decide) (fun c5 => ?_) (fun c5 => ?_)
    · have h := h.1 c5
      refine lv_aload_n hx hb dX7_type_42 rfl (lv_at hl 0 rfl) ?_
      refine zget hx hb hts inX7 hown hK hw 0 (by decide) rfl rfl 11 (by decide) lk2 (fun _ h9 => h9) rfl dX7_type_43 ?_
      refine lv_aload_n hx hb dX7_type_46 rfl (lv_at hl 0 rfl) ?_
      refine zget hx hb hts inX7 hown hK hw 0 (by decide) rfl rfl 12 (by decide) lk0 (fun _ h9 => h9) rfl dX7_type_47 ?_
      refine lv_iload_n hx hb dX7_type_50 rfl (lv_at hl 1 rfl) ?_
      obtain ⟨s9, es9⟩ : ∃ y : ST, y = zrp s8 3 (s8.2 8).toNatClampNeg p0 := ⟨_, rfl⟩
      refine ziast hx hb hK hj hw hA hS 4 (by decide) rfl h.1 dX7_type_51 (zme cy ad s9) (by rw [es9]; exact zrp_on_M_3) (fun j hj9 => by rw [es9]; exact zrp_off_M_3 j hj9) (fun H locs hw hS => ?_)
      have h := h.2 s9 es9
      refine lv_aload_n hx hb dX7_type_52 rfl (lv_at hl 0 rfl) ?_
      refine lv_dup hx hb dX7_type_53 rfl ?_
      refine zget hx hb hts inX7 hown hK hw 0 (by decide) rfl rfl 12 (by decide) lk0 (fun _ h9 => h9) rfl dX7_type_54 ?_
      refine lv_iconst (v := (jI 1)) hx hb dX7_type_57 rfl ?_
      refine lv_iadd hx hb dX7_type_58 ?_
      obtain ⟨s10, es10⟩ : ∃ y : ST, y = zsp s9 8 ((s9.2 8) + (jI 1)) := ⟨_, rfl⟩
      have h := h s10 es10
      refine zput (ty := .int) hx hb hts inX7 tyX7 tyX7_ok nmX7 hown hK hj hw hA hS 0 (by decide) rfl rfl 12 (by decide) lk0 (fun _ h9 => h9) rfl (by decide +kernel) rfl rfl (Nat.le_of_ble_eq_true rfl) dX7_type_59 (zme cy ad s10) (by rw [es10]; rfl) (fun j hj9 => by rw [es10]; exact zsp_off_M_8 j hj9) (fun H locs hw hS => ?_)
      refine lv_aload_n hx hb dX7_type_62 rfl (lv_at hl 0 rfl) ?_
      refine zget hx hb hts inX7 hown hK hw 0 (by decide) rfl rfl 12 (by decide) lk0 (fun _ h9 => h9) rfl dX7_type_63 ?_
      exact W.iret (v := (s10.2 8)) hx hb hr (fun t ht hW => ⟨⟨_, _, rfl, h, zend hw ht⟩, hS.F ht⟩) hS.2.2 dX7_type_66
    · have h := h.2 c5
      refine lv_iconst (v := (jI 0)) hx hb dX7_type_40 rfl ?_
      exact W.iret (v := (jI 0)) hx hb hr (fun t ht hW => ⟨⟨_, _, rfl, h, zend hw ht⟩, hS.F ht⟩) hS.2.2 dX7_type_41
theorem k_X7_type {p : Program} {l : Launch} {e : Env} {R : Room} {s : State} {m : MethodId} {args : Array Value} {below : List Frame} {meth : Method} {c : Code} {H : Heap} {locs : List Loc} {cells slots : Nat} {QQ : State → Prop} {cc : ByteArray} {pc nL index : Nat} {ls : Array Slot} {rest : List Value} {D : va_G} {cy : cyT} {ad : Nat → Nat} {own : String} {Ts : List Cond} {H0 : Heap} {σ : ST} {p0 : Int32} {Q : Int32 → ST → Prop} (hx : p.tables.exec = Jvm.exec) (hb : c.code = cc) (hml : c.maxLocals = nL) (hown : s.vm.findClass own = some m.cls) (hts : ∀ w ∈ Ts, w.before args s = true) (hG : GoodIn Ts (wsV own index RX7 yX7_type wsX7_type)) (hR : 1 + 1 ≤ R.frames ∧ 8 + (2 + 11) + 22 ≤ R.locals) (hcs : cells ≤ R.cells ∧ slots ≤ R.slots) (hK : zK D cy s) (hj : zI 6 ad) (hw : zW D 6 (zme cy ad σ) ad H) {A0 : Nat → Prop} (hA : ∀ i, i < 6 → A0 (ad i)) (hS : va_S A0 H0 H locs) (hsz : ls.size = nL) (hrest : (rest.map fun v => v.category).sum ≤ 8) (hdg : decode cc pc = .ok (.invokevirtual index, 3)) (h : wp_X7_type σ p0 Q) (kk : ∀ (r : Int32) (σ : ST) (H : Heap) (locs : List Loc), Q r σ → zW D 6 (zme cy ad σ) ad H → va_S A0 H0 H locs → W p l e R s m args below meth c H locs cells slots QQ (F0 m (pc + 3) ls (.int r :: rest))) : W p l e R s m args below meth c H locs cells slots QQ (F0 m pc ls (.int p0 :: .ref (ad 0) :: rest)) :=
  zcalli (va_runV (As := [.int p0]) (rest := rest) ⟨hx, hb, hml, hown, hts⟩ (c_X7_type l D cy ad σ p0 h) (cwV 1 hts hG rfl rfl rfl (by decide +kernel) hR) (zpreV hj hK hw _ (i := 0) (ci := 6) (by decide) rfl rfl) rfl rfl hsz rfl (lv_room hrest) hdg hcs) hA hS kk
set_option maxHeartbeats 4000000 in
set_option maxRecDepth 100000 in
theorem c_X7_clearCommands (l : Launch) (D : va_G) (cy : cyT) (ad : Nat → Nat) (σ : ST) {Q : Int32 → ST → Prop} (h : wp_X7_clearCommands σ Q) : Met l yX7_clearCommands wsX7_clearCommands ({ frames := 0, cells := 0, slots := 0, locals := 0 } : Room) (zPre D cy 6 (zme cy ad σ) ad [.ref (ad 0)]) (va_Qi Q (zB D 6 (zme cy ad) ad) (zA 6 ad)) 0 0 (zA 6 ad) := by
  refine Met.ofW (cc := cX7_clearCommands) (maxL := 2) (ret := (some .int)) (by decide) rfl ?_
  intro p e s m args below meth c s₁ B hml hv
  obtain ⟨rfl, hj, hK, hw⟩ := hv
  have hx := B.exec
  have hb := B.bytes
  have hr := B.returns
  have hts := atoms_spec (ws := wsX7_clearCommands) B.pre
  have hown : s.vm.findClass RX7 = some m.cls := findClass_of_methodNamed B.named
  have hlocks := B.notSynchronized
  have lk0 : Cond.fieldLink RX7 26 "TypeTraysModel" "thrown" "I" ∈ wsX7_clearCommands := List.mem_of_getElem? (i := 1) rfl
  have lk1 : Cond.fieldLink RX7 187 "TypeTraysModel" "typed" "I" ∈ wsX7_clearCommands := List.mem_of_getElem? (i := 2) rfl
  have inX7 : ∀ w ∈ u_ws RX7 TX7 16, w ∈ wsX7_clearCommands := zin_at 3 rfl
  have hS : va_S (zA 6 ad) s.heap s.heap [] := va_S.rf
  have hA : ∀ i, i < 6 → zA 6 ad (ad i) := fun i hi => ⟨i, hi, rfl⟩
  have hl := lv_entry ([.ref (ad 0)]) (n := 2) (Nat.le_of_ble_eq_true rfl)
  rw [lg_entry_eq]
  generalize (lg_sl ([.ref (ad 0)]) ++ List.replicate (2 - (lg_sl ([.ref (ad 0)])).length) Slot.unset).toArray = ls at hl ⊢
  have hl : lv_has ls 2 [(0, .ref (ad 0))] := hl
  show W p l e ({ frames := 0, cells := 0, slots := 0, locals := 0 } : Room) s m ([.ref (ad 0)] : List Value).toArray below meth c s.heap [] 0 0 (MQ below (va_Qi Q (zB D 6 (zme cy ad) ad) (zA 6 ad)) ([.ref (ad 0)] : List Value).toArray s 0 0 (zA 6 ad)) (F0 m 0 ls [])
  unfold wp_X7_clearCommands at h
  refine lv_aload_n hx hb dX7_clearCommands_0 rfl (lv_at hl 0 rfl) ?_
  refine lv_iconst (v := (jI 0)) hx hb dX7_clearCommands_1 rfl ?_
  obtain ⟨s1, es1⟩ : ∃ y : ST, y = zsp σ 1 (jI 0) := ⟨_, rfl⟩
  have h := h s1 es1
  refine zput (ty := .int) hx hb hts inX7 tyX7 tyX7_ok nmX7 hown hK hj hw hA hS 0 (by decide) rfl rfl 3 (by decide) lk0 (fun _ h9 => h9) rfl (by decide +kernel) rfl rfl (Nat.le_of_ble_eq_true rfl) dX7_clearCommands_2 (zme cy ad s1) (by rw [es1]; rfl) (fun j hj9 => by rw [es1]; exact zsp_off_M_1 j hj9) (fun H locs hw hS => ?_)
  refine lv_aload_n hx hb dX7_clearCommands_5 rfl (lv_at hl 0 rfl) ?_
  refine zget hx hb hts inX7 hown hK hw 0 (by decide) rfl rfl 12 (by decide) lk1 (fun _ h9 => h9) rfl dX7_clearCommands_6 ?_
  refine lv_istore_n (lv' := [(1, .int (s1.2 8)), (0, .ref (ad 0))]) hx hb dX7_clearCommands_9 rfl hl (by decide) rfl (fun ls hl => ?_)
  refine lv_aload_n hx hb dX7_clearCommands_10 rfl (lv_at hl 1 rfl) ?_
  refine lv_iconst (v := (jI 0)) hx hb dX7_clearCommands_11 rfl ?_
  obtain ⟨s2, es2⟩ : ∃ y : ST, y = zsp s1 8 (jI 0) := ⟨_, rfl⟩
  have h := h s2 es2
  refine zput (ty := .int) hx hb hts inX7 tyX7 tyX7_ok nmX7 hown hK hj hw hA hS 0 (by decide) rfl rfl 12 (by decide) lk1 (fun _ h9 => h9) rfl (by decide +kernel) rfl rfl (Nat.le_of_ble_eq_true rfl) dX7_clearCommands_12 (zme cy ad s2) (by rw [es2]; rfl) (fun j hj9 => by rw [es2]; exact zsp_off_M_8 j hj9) (fun H locs hw hS => ?_)
  refine lv_iload_n hx hb dX7_clearCommands_15 rfl (lv_at hl 0 rfl) ?_
  exact W.iret (v := (s1.2 8)) hx hb hr (fun t ht hW => ⟨⟨_, _, rfl, h, zend hw ht⟩, hS.F ht⟩) hS.2.2 dX7_clearCommands_16
theorem k_X7_clearCommands {p : Program} {l : Launch} {e : Env} {R : Room} {s : State} {m : MethodId} {args : Array Value} {below : List Frame} {meth : Method} {c : Code} {H : Heap} {locs : List Loc} {cells slots : Nat} {QQ : State → Prop} {cc : ByteArray} {pc nL index : Nat} {ls : Array Slot} {rest : List Value} {D : va_G} {cy : cyT} {ad : Nat → Nat} {own : String} {Ts : List Cond} {H0 : Heap} {σ : ST}  {Q : Int32 → ST → Prop} (hx : p.tables.exec = Jvm.exec) (hb : c.code = cc) (hml : c.maxLocals = nL) (hown : s.vm.findClass own = some m.cls) (hts : ∀ w ∈ Ts, w.before args s = true) (hG : GoodIn Ts (wsV own index RX7 yX7_clearCommands wsX7_clearCommands)) (hR : 0 + 1 ≤ R.frames ∧ 8 + (2 + 11) + 0 ≤ R.locals) (hcs : cells ≤ R.cells ∧ slots ≤ R.slots) (hK : zK D cy s) (hj : zI 6 ad) (hw : zW D 6 (zme cy ad σ) ad H) {A0 : Nat → Prop} (hA : ∀ i, i < 6 → A0 (ad i)) (hS : va_S A0 H0 H locs) (hsz : ls.size = nL) (hrest : (rest.map fun v => v.category).sum ≤ 8) (hdg : decode cc pc = .ok (.invokevirtual index, 3)) (h : wp_X7_clearCommands σ  Q) (kk : ∀ (r : Int32) (σ : ST) (H : Heap) (locs : List Loc), Q r σ → zW D 6 (zme cy ad σ) ad H → va_S A0 H0 H locs → W p l e R s m args below meth c H locs cells slots QQ (F0 m (pc + 3) ls (.int r :: rest))) : W p l e R s m args below meth c H locs cells slots QQ (F0 m pc ls (.ref (ad 0) :: rest)) :=
  zcalli (va_runV (As := []) (rest := rest) ⟨hx, hb, hml, hown, hts⟩ (c_X7_clearCommands l D cy ad σ  h) (cwV 0 hts hG rfl rfl rfl (by decide +kernel) hR) (zpreV hj hK hw _ (i := 0) (ci := 6) (by decide) rfl rfl) rfl rfl hsz rfl (lv_room hrest) hdg hcs) hA hS kk
theorem last_06e : True := trivial
