/-! printed by wip/whole/gen.py: contracts -/
set_option maxHeartbeats 4000000 in
set_option maxRecDepth 100000 in
theorem c_X7_look (l : Launch) (D : va_G) (cy : cyT) (ad : Nat → Nat) (σ : ST) {Q : Int32 → ST → Prop} (h : wp_X7_look σ Q) : Met l yX7_look wsX7_look ({ frames := 0, cells := 0, slots := 0, locals := 0 } : Room) (zPre D cy 6 (zme cy ad σ) ad [.ref (ad 0)]) (va_Qi Q (zB D 6 (zme cy ad) ad) (zA 6 ad)) 0 0 (zA 6 ad) := by
  refine Met.ofW (cc := cX7_look) (maxL := 1) (ret := (some .int)) (by decide) rfl ?_
  intro p e s m args below meth c s₁ B hml hv
  obtain ⟨rfl, hj, hK, hw⟩ := hv
  have hx := B.exec
  have hb := B.bytes
  have hr := B.returns
  have hts := atoms_spec (ws := wsX7_look) B.pre
  have hown : s.vm.findClass RX7 = some m.cls := findClass_of_methodNamed B.named
  have hlocks := B.notSynchronized
  have lk0 : Cond.fieldLink RX7 199 "TypeTraysModel" "place" "I" ∈ wsX7_look := List.mem_of_getElem? (i := 1) rfl
  have lk1 : Cond.fieldLink RX7 187 "TypeTraysModel" "typed" "I" ∈ wsX7_look := List.mem_of_getElem? (i := 2) rfl
  have lk2 : Cond.fieldLink RX7 20 "TypeTraysModel" "text" "[I" ∈ wsX7_look := List.mem_of_getElem? (i := 3) rfl
  have inX7 : ∀ w ∈ u_ws RX7 TX7 16, w ∈ wsX7_look := zin_at 4 rfl
  have hS : va_S (zA 6 ad) s.heap s.heap [] := va_S.rf
  have hA : ∀ i, i < 6 → zA 6 ad (ad i) := fun i hi => ⟨i, hi, rfl⟩
  have hl := lv_entry ([.ref (ad 0)]) (n := 1) (Nat.le_of_ble_eq_true rfl)
  rw [lg_entry_eq]
  generalize (lg_sl ([.ref (ad 0)]) ++ List.replicate (1 - (lg_sl ([.ref (ad 0)])).length) Slot.unset).toArray = ls at hl ⊢
  have hl : lv_has ls 1 [(0, .ref (ad 0))] := hl
  show W p l e ({ frames := 0, cells := 0, slots := 0, locals := 0 } : Room) s m ([.ref (ad 0)] : List Value).toArray below meth c s.heap [] 0 0 (MQ below (va_Qi Q (zB D 6 (zme cy ad) ad) (zA 6 ad)) ([.ref (ad 0)] : List Value).toArray s 0 0 (zA 6 ad)) (F0 m 0 ls [])
  unfold wp_X7_look at h
  refine lv_aload_n hx hb dX7_look_0 rfl (lv_at hl 0 rfl) ?_
  refine zget hx hb hts inX7 hown hK hw 0 (by decide) rfl rfl 13 (by decide) lk0 (fun _ h9 => h9) rfl dX7_look_1 ?_
  refine lv_aload_n hx hb dX7_look_4 rfl (lv_at hl 0 rfl) ?_
  refine zget hx hb hts inX7 hown hK hw 0 (by decide) rfl rfl 12 (by decide) lk1 (fun _ h9 => h9) rfl dX7_look_5 ?_
  refine lv_icmp_ge (tgt := 23) hx hb dX7_look_8 (by decide) (fun c1 => ?_) (fun c1 => ?_)
  · have h := h.1 c1
    refine lv_iconst (v := (jI (-1))) hx hb dX7_look_23 rfl ?_
    exact W.iret (v := (jI (-1))) hx hb hr (fun t ht hW => ⟨⟨_, _, rfl, h, zend hw ht⟩, hS.F ht⟩) hS.2.2 dX7_look_24
  · have h := h.2 c1
    refine lv_aload_n hx hb dX7_look_11 rfl (lv_at hl 0 rfl) ?_
    refine zget hx hb hts inX7 hown hK hw 0 (by decide) rfl rfl 11 (by decide) lk2 (fun _ h9 => h9) rfl dX7_look_12 ?_
    refine lv_aload_n hx hb dX7_look_15 rfl (lv_at hl 0 rfl) ?_
    refine zget hx hb hts inX7 hown hK hw 0 (by decide) rfl rfl 13 (by decide) lk0 (fun _ h9 => h9) rfl dX7_look_16 ?_
    refine ziald hx hb hK hw 4 (by decide) rfl h.1 dX7_look_19 ?_
    refine lv_topi (fun v1 ev1 => ?_)
    have h := h.2 v1 ev1
    refine lv_goto (tgt := 24) hx hb dX7_look_20 (by decide) ?_
    exact W.iret (v := v1) hx hb hr (fun t ht hW => ⟨⟨_, _, rfl, h, zend hw ht⟩, hS.F ht⟩) hS.2.2 dX7_look_24
theorem k_X7_look {p : Program} {l : Launch} {e : Env} {R : Room} {s : State} {m : MethodId} {args : Array Value} {below : List Frame} {meth : Method} {c : Code} {H : Heap} {locs : List Loc} {cells slots : Nat} {QQ : State → Prop} {cc : ByteArray} {pc nL index : Nat} {ls : Array Slot} {rest : List Value} {D : va_G} {cy : cyT} {ad : Nat → Nat} {own : String} {Ts : List Cond} {H0 : Heap} {σ : ST}  {Q : Int32 → ST → Prop} (hx : p.tables.exec = Jvm.exec) (hb : c.code = cc) (hml : c.maxLocals = nL) (hown : s.vm.findClass own = some m.cls) (hts : ∀ w ∈ Ts, w.before args s = true) (hG : GoodIn Ts (wsV own index RX7 yX7_look wsX7_look)) (hR : 0 + 1 ≤ R.frames ∧ 8 + (1 + 11) + 0 ≤ R.locals) (hcs : cells ≤ R.cells ∧ slots ≤ R.slots) (hK : zK D cy s) (hj : zI 6 ad) (hw : zW D 6 (zme cy ad σ) ad H) {A0 : Nat → Prop} (hA : ∀ i, i < 6 → A0 (ad i)) (hS : va_S A0 H0 H locs) (hsz : ls.size = nL) (hrest : (rest.map fun v => v.category).sum ≤ 8) (hdg : decode cc pc = .ok (.invokevirtual index, 3)) (h : wp_X7_look σ  Q) (kk : ∀ (r : Int32) (σ : ST) (H : Heap) (locs : List Loc), Q r σ → zW D 6 (zme cy ad σ) ad H → va_S A0 H0 H locs → W p l e R s m args below meth c H locs cells slots QQ (F0 m (pc + 3) ls (.int r :: rest))) : W p l e R s m args below meth c H locs cells slots QQ (F0 m pc ls (.ref (ad 0) :: rest)) :=
  zcalli (va_runV (As := []) (rest := rest) ⟨hx, hb, hml, hown, hts⟩ (c_X7_look l D cy ad σ  h) (cwV 0 hts hG rfl rfl rfl (by decide +kernel) hR) (zpreV hj hK hw _ (i := 0) (ci := 6) (by decide) rfl rfl) rfl rfl hsz rfl (lv_room hrest) hdg hcs) hA hS kk
set_option maxHeartbeats 4000000 in
set_option maxRecDepth 100000 in
theorem c_X7_skips (l : Launch) (D : va_G) (cy : cyT) (ad : Nat → Nat) (σ : ST) {Q : Int32 → ST → Prop} (h : wp_X7_skips σ Q) : Met l yX7_skips wsX7_skips ({ frames := 1, cells := 0, slots := 0, locals := 20 } : Room) (zPre D cy 6 (zme cy ad σ) ad [.ref (ad 0)]) (va_Qi Q (zB D 6 (zme cy ad) ad) (zA 6 ad)) 0 0 (zA 6 ad) := by
  refine Met.ofW (cc := cX7_skips) (maxL := 2) (ret := (some .int)) (by decide) rfl ?_
  intro p e s m args below meth c s₁ B hml hv
  obtain ⟨rfl, hj, hK, hw⟩ := hv
  have hx := B.exec
  have hb := B.bytes
  have hr := B.returns
  have hts := atoms_spec (ws := wsX7_skips) B.pre
  have hown : s.vm.findClass RX7 = some m.cls := findClass_of_methodNamed B.named
  have hlocks := B.notSynchronized
  have lk0 : Cond.fieldLink RX7 199 "TypeTraysModel" "place" "I" ∈ wsX7_skips := List.mem_of_getElem? (i := 1) rfl
  have inX7 : ∀ w ∈ u_ws RX7 TX7 16, w ∈ wsX7_skips := zin_at 9 rfl
  have hS : va_S (zA 6 ad) s.heap s.heap [] := va_S.rf
  have hA : ∀ i, i < 6 → zA 6 ad (ad i) := fun i hi => ⟨i, hi, rfl⟩
  have hl := lv_entry ([.ref (ad 0)]) (n := 2) (Nat.le_of_ble_eq_true rfl)
  rw [lg_entry_eq]
  generalize (lg_sl ([.ref (ad 0)]) ++ List.replicate (2 - (lg_sl ([.ref (ad 0)])).length) Slot.unset).toArray = ls at hl ⊢
  have hl : lv_has ls 2 [(0, .ref (ad 0))] := hl
  show W p l e ({ frames := 1, cells := 0, slots := 0, locals := 20 } : Room) s m ([.ref (ad 0)] : List Value).toArray below meth c s.heap [] 0 0 (MQ below (va_Qi Q (zB D 6 (zme cy ad) ad) (zA 6 ad)) ([.ref (ad 0)] : List Value).toArray s 0 0 (zA 6 ad)) (F0 m 0 ls [])
  unfold wp_X7_skips at h
  refine lv_iconst (v := (jI 0)) hx hb dX7_skips_0 rfl ?_
  refine lv_istore_n (lv' := [(1, .int (jI 0)), (0, .ref (ad 0))]) hx hb dX7_skips_1 rfl hl (by decide) rfl (fun ls hl => ?_)
  have k27_2 : ∀ (u_27 : ST) (z1_27 : Int32) (H : Heap) (locs : List Loc), Q z1_27 u_27 → zW D 6 (zme cy ad u_27) ad H → va_S (zA 6 ad) s.heap H locs → ∀ ls : Array Slot, lv_has ls 2 [(1, .int z1_27)] → W p l e ({ frames := 1, cells := 0, slots := 0, locals := 20 } : Room) s m ([.ref (ad 0)] : List Value).toArray below meth c H locs 0 0 (MQ below (va_Qi Q (zB D 6 (zme cy ad) ad) (zA 6 ad)) ([.ref (ad 0)] : List Value).toArray s 0 0 (zA 6 ad)) (F0 m 27 ls []) := by
    intro u_27 z1_27 H locs h hw hS ls hl
    refine lv_iload_n hx hb dX7_skips_27 rfl (lv_at hl 0 rfl) ?_
    exact W.iret (v := z1_27) hx hb hr (fun t ht hW => ⟨⟨_, _, rfl, h, zend hw ht⟩, hS.F ht⟩) hS.2.2 dX7_skips_28
  have lp2 : ∀ (nn2 : Nat) (t_2 : ST) (y1_2 : Int32) (H : Heap) (locs : List Loc), wl_X7_skips_2 (fun u_27 z1_27 => Q z1_27 u_27)  nn2 t_2 y1_2 → zW D 6 (zme cy ad t_2) ad H → va_S (zA 6 ad) s.heap H locs → ∀ ls : Array Slot, lv_has ls 2 [(0, .ref (ad 0)), (1, .int y1_2)] → W p l e ({ frames := 1, cells := 0, slots := 0, locals := 20 } : Room) s m ([.ref (ad 0)] : List Value).toArray below meth c H locs 0 0 (MQ below (va_Qi Q (zB D 6 (zme cy ad) ad) (zA 6 ad)) ([.ref (ad 0)] : List Value).toArray s 0 0 (zA 6 ad)) (F0 m 2 ls []) := by
    intro nn2
    induction nn2 with
    | zero => intro _ _ _ _ h; exact h.elim
    | succ nn2 ih2 =>
      intro t_2 y1_2 H locs h hw hS ls hl
      simp only [wl_X7_skips_2, wb_X7_skips_2] at h
      refine lv_aload_n hx hb dX7_skips_2 rfl (lv_at hl 0 rfl) ?_
      refine k_X7_look (rest := []) hx hb hml hown hts gX7_skips_X7_look ⟨Nat.le_of_ble_eq_true rfl, Nat.le_of_ble_eq_true rfl⟩ ⟨Nat.zero_le _, Nat.zero_le _⟩ hK hj hw hA hS hl.1 (Nat.le_of_ble_eq_true rfl) dX7_skips_3 h (fun r1 s1 H locs h hw hS => ?_)
      refine lv_bipush (v := (jI 32)) hx hb dX7_skips_6 (by decide +kernel) ?_
      refine lv_icmp_ne (tgt := 27) hx hb dX7_skips_8 (by decide) (fun c1 => ?_) (fun c1 => ?_)
      · have h := h.2 c1
        exact k27_2 _ _ _ _ h hw hS _ (lv_sub hl [1] rfl)
      · have h := h.1 c1
        refine lv_aload_n hx hb dX7_skips_11 rfl (lv_at hl 0 rfl) ?_
        refine lv_dup hx hb dX7_skips_12 rfl ?_
        refine zget hx hb hts inX7 hown hK hw 0 (by decide) rfl rfl 13 (by decide) lk0 (fun _ h9 => h9) rfl dX7_skips_13 ?_
        refine lv_iconst (v := (jI 1)) hx hb dX7_skips_16 rfl ?_
        refine lv_iadd hx hb dX7_skips_17 ?_
        obtain ⟨s2, es2⟩ : ∃ y : ST, y = zsp s1 9 ((s1.2 9) + (jI 1)) := ⟨_, rfl⟩
        have h := h s2 es2
        refine zput (ty := .int) hx hb hts inX7 tyX7 tyX7_ok nmX7 hown hK hj hw hA hS 0 (by decide) rfl rfl 13 (by decide) lk0 (fun _ h9 => h9) rfl (by decide +kernel) rfl rfl (Nat.le_of_ble_eq_true rfl) dX7_skips_18 (zme cy ad s2) (by rw [es2]; rfl) (fun j hj9 => by rw [es2]; exact zsp_off_M_9 j hj9) (fun H locs hw hS => ?_)
        obtain ⟨x1, ex1⟩ : ∃ y : Int32, y = y1_2 + (jI 1) := ⟨_, rfl⟩
        have h := h x1 ex1
        refine lv_iinc (v := x1) (lv' := [(1, .int x1), (0, .ref (ad 0))]) hx hb dX7_skips_21 hl (k := 1) rfl (by rw [ex1]; rfl) (by decide) rfl (fun ls hl => ?_)
        refine lv_goto (tgt := 2) hx hb dX7_skips_24 (by decide) ?_
        exact ih2 _ _ _ _ h hw hS _ (lv_sub hl [1, 0] rfl)
  obtain ⟨nn2, h⟩ := h
  exact lp2 nn2 _ _ _ _ h hw hS _ (lv_sub hl [1, 0] rfl)
theorem k_X7_skips {p : Program} {l : Launch} {e : Env} {R : Room} {s : State} {m : MethodId} {args : Array Value} {below : List Frame} {meth : Method} {c : Code} {H : Heap} {locs : List Loc} {cells slots : Nat} {QQ : State → Prop} {cc : ByteArray} {pc nL index : Nat} {ls : Array Slot} {rest : List Value} {D : va_G} {cy : cyT} {ad : Nat → Nat} {own : String} {Ts : List Cond} {H0 : Heap} {σ : ST}  {Q : Int32 → ST → Prop} (hx : p.tables.exec = Jvm.exec) (hb : c.code = cc) (hml : c.maxLocals = nL) (hown : s.vm.findClass own = some m.cls) (hts : ∀ w ∈ Ts, w.before args s = true) (hG : GoodIn Ts (wsV own index RX7 yX7_skips wsX7_skips)) (hR : 1 + 1 ≤ R.frames ∧ 8 + (2 + 11) + 20 ≤ R.locals) (hcs : cells ≤ R.cells ∧ slots ≤ R.slots) (hK : zK D cy s) (hj : zI 6 ad) (hw : zW D 6 (zme cy ad σ) ad H) {A0 : Nat → Prop} (hA : ∀ i, i < 6 → A0 (ad i)) (hS : va_S A0 H0 H locs) (hsz : ls.size = nL) (hrest : (rest.map fun v => v.category).sum ≤ 8) (hdg : decode cc pc = .ok (.invokevirtual index, 3)) (h : wp_X7_skips σ  Q) (kk : ∀ (r : Int32) (σ : ST) (H : Heap) (locs : List Loc), Q r σ → zW D 6 (zme cy ad σ) ad H → va_S A0 H0 H locs → W p l e R s m args below meth c H locs cells slots QQ (F0 m (pc + 3) ls (.int r :: rest))) : W p l e R s m args below meth c H locs cells slots QQ (F0 m pc ls (.ref (ad 0) :: rest)) :=
  zcalli (va_runV (As := []) (rest := rest) ⟨hx, hb, hml, hown, hts⟩ (c_X7_skips l D cy ad σ  h) (cwV 0 hts hG rfl rfl rfl (by decide +kernel) hR) (zpreV hj hK hw _ (i := 0) (ci := 6) (by decide) rfl rfl) rfl rfl hsz rfl (lv_room hrest) hdg hcs) hA hS kk
set_option maxHeartbeats 4000000 in
set_option maxRecDepth 100000 in
theorem c_X7_readsWord (l : Launch) (D : va_G) (cy : cyT) (ad : Nat → Nat) (σ : ST) {Q : Int32 → ST → Prop} (h : wp_X7_readsWord σ Q) : Met l yX7_readsWord wsX7_readsWord ({ frames := 1, cells := 0, slots := 0, locals := 22 } : Room) (zPre D cy 6 (zme cy ad σ) ad [.ref (ad 0)]) (va_Qi Q (zB D 6 (zme cy ad) ad) (zA 6 ad)) 0 0 (zA 6 ad) := by
  refine Met.ofW (cc := cX7_readsWord) (maxL := 3) (ret := (some .int)) (by decide) rfl ?_
  intro p e s m args below meth c s₁ B hml hv
  obtain ⟨rfl, hj, hK, hw⟩ := hv
  have hx := B.exec
  have hb := B.bytes
  have hr := B.returns
  have hts := atoms_spec (ws := wsX7_readsWord) B.pre
  have hown : s.vm.findClass RX7 = some m.cls := findClass_of_methodNamed B.named
  have hlocks := B.notSynchronized
  have lk0 : Cond.fieldLink RX7 199 "TypeTraysModel" "place" "I" ∈ wsX7_readsWord := List.mem_of_getElem? (i := 1) rfl
  have inX7 : ∀ w ∈ u_ws RX7 TX7 16, w ∈ wsX7_readsWord := zin_at 12 rfl
  have hS : va_S (zA 6 ad) s.heap s.heap [] := va_S.rf
  have hA : ∀ i, i < 6 → zA 6 ad (ad i) := fun i hi => ⟨i, hi, rfl⟩
  have hl := lv_entry ([.ref (ad 0)]) (n := 3) (Nat.le_of_ble_eq_true rfl)
  rw [lg_entry_eq]
  generalize (lg_sl ([.ref (ad 0)]) ++ List.replicate (3 - (lg_sl ([.ref (ad 0)])).length) Slot.unset).toArray = ls at hl ⊢
  have hl : lv_has ls 3 [(0, .ref (ad 0))] := hl
  show W p l e ({ frames := 1, cells := 0, slots := 0, locals := 22 } : Room) s m ([.ref (ad 0)] : List Value).toArray below meth c s.heap [] 0 0 (MQ below (va_Qi Q (zB D 6 (zme cy ad) ad) (zA 6 ad)) ([.ref (ad 0)] : List Value).toArray s 0 0 (zA 6 ad)) (F0 m 0 ls [])
  unfold wp_X7_readsWord at h
  refine lv_iconst (v := (jI 0)) hx hb dX7_readsWord_0 rfl ?_
  refine lv_istore_n (lv' := [(1, .int (jI 0)), (0, .ref (ad 0))]) hx hb dX7_readsWord_1 rfl hl (by decide) rfl (fun ls hl => ?_)
  refine lv_iconst (v := (jI 0)) hx hb dX7_readsWord_2 rfl ?_
  refine lv_istore_n (lv' := [(2, .int (jI 0)), (1, .int (jI 0)), (0, .ref (ad 0))]) hx hb dX7_readsWord_3 rfl hl (by decide) rfl (fun ls hl => ?_)
  have k58_4 : ∀ (u_58 : ST) (z1_58 : Int32) (z2_58 : Int32) (H : Heap) (locs : List Loc), ((z2_58 ≤ (jI 5) → Q z1_58 u_58) ∧ (¬ z2_58 ≤ (jI 5) → Q (jI 0) u_58)) → zW D 6 (zme cy ad u_58) ad H → va_S (zA 6 ad) s.heap H locs → ∀ ls : Array Slot, lv_has ls 3 [(1, .int z1_58), (2, .int z2_58)] → W p l e ({ frames := 1, cells := 0, slots := 0, locals := 22 } : Room) s m ([.ref (ad 0)] : List Value).toArray below meth c H locs 0 0 (MQ below (va_Qi Q (zB D 6 (zme cy ad) ad) (zA 6 ad)) ([.ref (ad 0)] : List Value).toArray s 0 0 (zA 6 ad)) (F0 m 58 ls []) := by
    intro u_58 z1_58 z2_58 H locs h hw hS ls hl
    refine lv_iload_n hx hb dX7_readsWord_58 rfl (lv_at hl 1 rfl) ?_
    refine lv_iconst (v := (jI 5)) hx hb dX7_readsWord_59 rfl ?_
    refine lv_icmp_le (tgt := 67) hx hb dX7_readsWord_60 (by decide) (fun c3 => ?_) (fun c3 => ?_)
    · have h := h.1 c3
      refine lv_iload_n hx hb dX7_readsWord_67 rfl (lv_at hl 0 rfl) ?_
      exact W.iret (v := z1_58) hx hb hr (fun t ht hW => ⟨⟨_, _, rfl, h, zend hw ht⟩, hS.F ht⟩) hS.2.2 dX7_readsWord_68
    · have h := h.2 c3
      refine lv_iconst (v := (jI 0)) hx hb dX7_readsWord_63 rfl ?_
      refine lv_goto (tgt := 68) hx hb dX7_readsWord_64 (by decide) ?_
      exact W.iret (v := (jI 0)) hx hb hr (fun t ht hW => ⟨⟨_, _, rfl, h, zend hw ht⟩, hS.F ht⟩) hS.2.2 dX7_readsWord_68
  have lp4 : ∀ (nn4 : Nat) (t_4 : ST) (y1_4 : Int32) (y2_4 : Int32) (H : Heap) (locs : List Loc), wl_X7_readsWord_4 (fun u_58 z1_58 z2_58 => ((z2_58 ≤ (jI 5) → Q z1_58 u_58) ∧ (¬ z2_58 ≤ (jI 5) → Q (jI 0) u_58)))  nn4 t_4 y1_4 y2_4 → zW D 6 (zme cy ad t_4) ad H → va_S (zA 6 ad) s.heap H locs → ∀ ls : Array Slot, lv_has ls 3 [(0, .ref (ad 0)), (1, .int y1_4), (2, .int y2_4)] → W p l e ({ frames := 1, cells := 0, slots := 0, locals := 22 } : Room) s m ([.ref (ad 0)] : List Value).toArray below meth c H locs 0 0 (MQ below (va_Qi Q (zB D 6 (zme cy ad) ad) (zA 6 ad)) ([.ref (ad 0)] : List Value).toArray s 0 0 (zA 6 ad)) (F0 m 4 ls []) := by
    intro nn4
    induction nn4 with
    | zero => intro _ _ _ _ _ h; exact h.elim
    | succ nn4 ih4 =>
      intro t_4 y1_4 y2_4 H locs h hw hS ls hl
      simp only [wl_X7_readsWord_4, wb_X7_readsWord_4] at h
      refine lv_aload_n hx hb dX7_readsWord_4 rfl (lv_at hl 0 rfl) ?_
      refine k_X7_look (rest := []) hx hb hml hown hts gX7_readsWord_X7_look ⟨Nat.le_of_ble_eq_true rfl, Nat.le_of_ble_eq_true rfl⟩ ⟨Nat.zero_le _, Nat.zero_le _⟩ hK hj hw hA hS hl.1 (Nat.le_of_ble_eq_true rfl) dX7_readsWord_5 h (fun r1 s1 H locs h hw hS => ?_)
      refine lv_bipush (v := (jI 97)) hx hb dX7_readsWord_8 (by decide +kernel) ?_
      refine lv_bipush (v := (jI 122)) hx hb dX7_readsWord_10 (by decide +kernel) ?_
      refine k_X7_in (rest := []) hx hb hml hown hts gX7_readsWord_X7_in ⟨Nat.le_of_ble_eq_true rfl, Nat.le_of_ble_eq_true rfl⟩ ⟨Nat.zero_le _, Nat.zero_le _⟩ hK hj hw hA hS hl.1 (Nat.le_of_ble_eq_true rfl) dX7_readsWord_12 h (fun r2 s2 H locs h hw hS => ?_)
      refine zif_eq (tgt := 58) hx hb dX7_readsWord_15 (by decide) (fun c1 => ?_) (fun c1 => ?_)
      · have h := h.1 c1
        exact k58_4 _ _ _ _ _ h hw hS _ (lv_sub hl [1, 2] rfl)
      · have h := h.2 c1
        refine lv_iload_n hx hb dX7_readsWord_18 rfl (lv_at hl 2 rfl) ?_
        refine lv_iconst (v := (jI 5)) hx hb dX7_readsWord_19 rfl ?_
        refine lv_icmp_ge (tgt := 40) hx hb dX7_readsWord_20 (by decide) (fun c2 => ?_) (fun c2 => ?_)
        · have h := h.1 c2
          refine lv_iconst (v := (jI 0)) hx hb dX7_readsWord_40 rfl ?_
          refine lv_istore_n (lv' := [(1, .int (jI 0)), (0, .ref (ad 0)), (2, .int y2_4)]) hx hb dX7_readsWord_41 rfl hl (by decide) rfl (fun ls hl => ?_)
          obtain ⟨x1, ex1⟩ : ∃ y : Int32, y = y2_4 + (jI 1) := ⟨_, rfl⟩
          have h := h x1 ex1
          refine lv_iinc (v := x1) (lv' := [(2, .int x1), (1, .int (jI 0)), (0, .ref (ad 0))]) hx hb dX7_readsWord_42 hl (k := 2) rfl (by rw [ex1]; rfl) (by decide) rfl (fun ls hl => ?_)
          refine lv_aload_n hx hb dX7_readsWord_45 rfl (lv_at hl 2 rfl) ?_
          refine lv_dup hx hb dX7_readsWord_46 rfl ?_
          refine zget hx hb hts inX7 hown hK hw 0 (by decide) rfl rfl 13 (by decide) lk0 (fun _ h9 => h9) rfl dX7_readsWord_47 ?_
          refine lv_iconst (v := (jI 1)) hx hb dX7_readsWord_50 rfl ?_
          refine lv_iadd hx hb dX7_readsWord_51 ?_
          obtain ⟨s3, es3⟩ : ∃ y : ST, y = zsp s2 9 ((s2.2 9) + (jI 1)) := ⟨_, rfl⟩
          have h := h s3 es3
          refine zput (ty := .int) hx hb hts inX7 tyX7 tyX7_ok nmX7 hown hK hj hw hA hS 0 (by decide) rfl rfl 13 (by decide) lk0 (fun _ h9 => h9) rfl (by decide +kernel) rfl rfl (Nat.le_of_ble_eq_true rfl) dX7_readsWord_52 (zme cy ad s3) (by rw [es3]; rfl) (fun j hj9 => by rw [es3]; exact zsp_off_M_9 j hj9) (fun H locs hw hS => ?_)
          refine lv_goto (tgt := 4) hx hb dX7_readsWord_55 (by decide) ?_
          exact ih4 _ _ _ _ _ h hw hS _ (lv_sub hl [2, 1, 0] rfl)
        · have h := h.2 c2
          refine lv_bipush (v := (jI 27)) hx hb dX7_readsWord_23 (by decide +kernel) ?_
          refine lv_iload_n hx hb dX7_readsWord_25 rfl (lv_at hl 1 rfl) ?_
          refine lv_imul hx hb dX7_readsWord_26 ?_
          refine lv_aload_n hx hb dX7_readsWord_27 rfl (lv_at hl 0 rfl) ?_
          refine k_X7_look (rest := [.int ((jI 27) * y1_4)]) hx hb hml hown hts gX7_readsWord_X7_look ⟨Nat.le_of_ble_eq_true rfl, Nat.le_of_ble_eq_true rfl⟩ ⟨Nat.zero_le _, Nat.zero_le _⟩ hK hj hw hA hS hl.1 (Nat.le_of_ble_eq_true rfl) dX7_readsWord_28 h (fun r3 s4 H locs h hw hS => ?_)
          refine lv_iadd hx hb dX7_readsWord_31 ?_
          refine lv_bipush (v := (jI 97)) hx hb dX7_readsWord_32 (by decide +kernel) ?_
          refine lv_isub hx hb dX7_readsWord_34 ?_
          refine lv_iconst (v := (jI 1)) hx hb dX7_readsWord_35 rfl ?_
          refine lv_iadd hx hb dX7_readsWord_36 ?_
          refine lv_goto (tgt := 41) hx hb dX7_readsWord_37 (by decide) ?_
          refine lv_topi (fun x2 ex2 => ?_)
          have h := h x2 ex2
          refine lv_istore_n (lv' := [(1, .int x2), (0, .ref (ad 0)), (2, .int y2_4)]) hx hb dX7_readsWord_41 rfl hl (by decide) rfl (fun ls hl => ?_)
          obtain ⟨x3, ex3⟩ : ∃ y : Int32, y = y2_4 + (jI 1) := ⟨_, rfl⟩
          have h := h x3 ex3
          refine lv_iinc (v := x3) (lv' := [(2, .int x3), (1, .int x2), (0, .ref (ad 0))]) hx hb dX7_readsWord_42 hl (k := 2) rfl (by rw [ex3]; rfl) (by decide) rfl (fun ls hl => ?_)
          refine lv_aload_n hx hb dX7_readsWord_45 rfl (lv_at hl 2 rfl) ?_
          refine lv_dup hx hb dX7_readsWord_46 rfl ?_
          refine zget hx hb hts inX7 hown hK hw 0 (by decide) rfl rfl 13 (by decide) lk0 (fun _ h9 => h9) rfl dX7_readsWord_47 ?_
          refine lv_iconst (v := (jI 1)) hx hb dX7_readsWord_50 rfl ?_
          refine lv_iadd hx hb dX7_readsWord_51 ?_
          obtain ⟨s5, es5⟩ : ∃ y : ST, y = zsp s4 9 ((s4.2 9) + (jI 1)) := ⟨_, rfl⟩
          have h := h s5 es5
          refine zput (ty := .int) hx hb hts inX7 tyX7 tyX7_ok nmX7 hown hK hj hw hA hS 0 (by decide) rfl rfl 13 (by decide) lk0 (fun _ h9 => h9) rfl (by decide +kernel) rfl rfl (Nat.le_of_ble_eq_true rfl) dX7_readsWord_52 (zme cy ad s5) (by rw [es5]; rfl) (fun j hj9 => by rw [es5]; exact zsp_off_M_9 j hj9) (fun H locs hw hS => ?_)
          refine lv_goto (tgt := 4) hx hb dX7_readsWord_55 (by decide) ?_
          exact ih4 _ _ _ _ _ h hw hS _ (lv_sub hl [2, 1, 0] rfl)
  obtain ⟨nn4, h⟩ := h
  exact lp4 nn4 _ _ _ _ _ h hw hS _ (lv_sub hl [2, 1, 0] rfl)
theorem k_X7_readsWord {p : Program} {l : Launch} {e : Env} {R : Room} {s : State} {m : MethodId} {args : Array Value} {below : List Frame} {meth : Method} {c : Code} {H : Heap} {locs : List Loc} {cells slots : Nat} {QQ : State → Prop} {cc : ByteArray} {pc nL index : Nat} {ls : Array Slot} {rest : List Value} {D : va_G} {cy : cyT} {ad : Nat → Nat} {own : String} {Ts : List Cond} {H0 : Heap} {σ : ST}  {Q : Int32 → ST → Prop} (hx : p.tables.exec = Jvm.exec) (hb : c.code = cc) (hml : c.maxLocals = nL) (hown : s.vm.findClass own = some m.cls) (hts : ∀ w ∈ Ts, w.before args s = true) (hG : GoodIn Ts (wsV own index RX7 yX7_readsWord wsX7_readsWord)) (hR : 1 + 1 ≤ R.frames ∧ 8 + (3 + 11) + 22 ≤ R.locals) (hcs : cells ≤ R.cells ∧ slots ≤ R.slots) (hK : zK D cy s) (hj : zI 6 ad) (hw : zW D 6 (zme cy ad σ) ad H) {A0 : Nat → Prop} (hA : ∀ i, i < 6 → A0 (ad i)) (hS : va_S A0 H0 H locs) (hsz : ls.size = nL) (hrest : (rest.map fun v => v.category).sum ≤ 8) (hdg : decode cc pc = .ok (.invokevirtual index, 3)) (h : wp_X7_readsWord σ  Q) (kk : ∀ (r : Int32) (σ : ST) (H : Heap) (locs : List Loc), Q r σ → zW D 6 (zme cy ad σ) ad H → va_S A0 H0 H locs → W p l e R s m args below meth c H locs cells slots QQ (F0 m (pc + 3) ls (.int r :: rest))) : W p l e R s m args below meth c H locs cells slots QQ (F0 m pc ls (.ref (ad 0) :: rest)) :=
  zcalli (va_runV (As := []) (rest := rest) ⟨hx, hb, hml, hown, hts⟩ (c_X7_readsWord l D cy ad σ  h) (cwV 0 hts hG rfl rfl rfl (by decide +kernel) hR) (zpreV hj hK hw _ (i := 0) (ci := 6) (by decide) rfl rfl) rfl rfl hsz rfl (lv_room hrest) hdg hcs) hA hS kk
set_option maxHeartbeats 4000000 in
set_option maxRecDepth 100000 in
theorem c_X7_wordOf (l : Launch) (D : va_G) (cy : cyT) (ad : Nat → Nat) (σ : ST) (p0 : Int32) (p1 : Int32) (p2 : Int32) (p3 : Int32) (p4 : Int32) {Q : Int32 → ST → Prop} (h : wp_X7_wordOf σ p0 p1 p2 p3 p4 Q) : Met l yX7_wordOf wsX7_wordOf ({ frames := 0, cells := 0, slots := 0, locals := 0 } : Room) (zPre D cy 6 (zme cy ad σ) ad [.int p0, .int p1, .int p2, .int p3, .int p4]) (va_Qi Q (zB D 6 (zme cy ad) ad) (zA 6 ad)) 0 0 (zA 6 ad) := by
  refine Met.ofW (cc := cX7_wordOf) (maxL := 6) (ret := (some .int)) (by decide) rfl ?_
  intro p e s m args below meth c s₁ B hml hv
  obtain ⟨rfl, hj, hK, hw⟩ := hv
  have hx := B.exec
  have hb := B.bytes
  have hr := B.returns
  have hts := atoms_spec (ws := wsX7_wordOf) B.pre
  have hown : s.vm.findClass RX7 = some m.cls := findClass_of_methodNamed B.named
  have hlocks := B.notSynchronized
  have hS : va_S (zA 6 ad) s.heap s.heap [] := va_S.rf
  have hA : ∀ i, i < 6 → zA 6 ad (ad i) := fun i hi => ⟨i, hi, rfl⟩
  have hl := lv_entry ([.int p0, .int p1, .int p2, .int p3, .int p4]) (n := 6) (Nat.le_of_ble_eq_true rfl)
  rw [lg_entry_eq]
  generalize (lg_sl ([.int p0, .int p1, .int p2, .int p3, .int p4]) ++ List.replicate (6 - (lg_sl ([.int p0, .int p1, .int p2, .int p3, .int p4])).length) Slot.unset).toArray = ls at hl ⊢
  have hl : lv_has ls 6 [(0, .int p0), (1, .int p1), (2, .int p2), (3, .int p3), (4, .int p4)] := hl
  show W p l e ({ frames := 0, cells := 0, slots := 0, locals := 0 } : Room) s m ([.int p0, .int p1, .int p2, .int p3, .int p4] : List Value).toArray below meth c s.heap [] 0 0 (MQ below (va_Qi Q (zB D 6 (zme cy ad) ad) (zA 6 ad)) ([.int p0, .int p1, .int p2, .int p3, .int p4] : List Value).toArray s 0 0 (zA 6 ad)) (F0 m 0 ls [])
  unfold wp_X7_wordOf at h
  refine lv_bipush (v := (jI 27)) hx hb dX7_wordOf_0 (by decide +kernel) ?_
  refine lv_bipush (v := (jI 27)) hx hb dX7_wordOf_2 (by decide +kernel) ?_
  refine lv_iload_n hx hb dX7_wordOf_4 rfl (lv_at hl 0 rfl) ?_
  refine lv_bipush (v := (jI 97)) hx hb dX7_wordOf_5 (by decide +kernel) ?_
  refine lv_isub hx hb dX7_wordOf_7 ?_
  refine lv_iconst (v := (jI 1)) hx hb dX7_wordOf_8 rfl ?_
  refine lv_iadd hx hb dX7_wordOf_9 ?_
  refine lv_imul hx hb dX7_wordOf_10 ?_
  refine lv_iload_n hx hb dX7_wordOf_11 rfl (lv_at hl 1 rfl) ?_
  refine lv_iadd hx hb dX7_wordOf_12 ?_
  refine lv_bipush (v := (jI 97)) hx hb dX7_wordOf_13 (by decide +kernel) ?_
  refine lv_isub hx hb dX7_wordOf_15 ?_
  refine lv_iconst (v := (jI 1)) hx hb dX7_wordOf_16 rfl ?_
  refine lv_iadd hx hb dX7_wordOf_17 ?_
  refine lv_imul hx hb dX7_wordOf_18 ?_
  refine lv_iload_n hx hb dX7_wordOf_19 rfl (lv_at hl 2 rfl) ?_
  refine lv_iadd hx hb dX7_wordOf_20 ?_
  refine lv_bipush (v := (jI 97)) hx hb dX7_wordOf_21 (by decide +kernel) ?_
  refine lv_isub hx hb dX7_wordOf_23 ?_
  refine lv_iconst (v := (jI 1)) hx hb dX7_wordOf_24 rfl ?_
  refine lv_iadd hx hb dX7_wordOf_25 ?_
  refine lv_topi (fun x1 ex1 => ?_)
  have h := h x1 ex1
  refine lv_istore (lv' := [(5, .int x1), (0, .int p0), (1, .int p1), (2, .int p2), (3, .int p3), (4, .int p4)]) hx hb dX7_wordOf_26 hl (by decide) rfl (fun ls hl => ?_)
  refine lv_iload_n hx hb dX7_wordOf_28 rfl (lv_at hl 4 rfl) ?_
  refine lv_bipush (v := (jI 32)) hx hb dX7_wordOf_29 (by decide +kernel) ?_
  refine lv_icmp_ne (tgt := 39) hx hb dX7_wordOf_31 (by decide) (fun c1 => ?_) (fun c1 => ?_)
  · have h := h.2 c1
    refine lv_bipush (v := (jI 27)) hx hb dX7_wordOf_39 (by decide +kernel) ?_
    refine lv_iload hx hb dX7_wordOf_41 (lv_at hl 0 rfl) ?_
    refine lv_imul hx hb dX7_wordOf_43 ?_
    refine lv_iload_n hx hb dX7_wordOf_44 rfl (lv_at hl 4 rfl) ?_
    refine lv_iadd hx hb dX7_wordOf_45 ?_
    refine lv_bipush (v := (jI 97)) hx hb dX7_wordOf_46 (by decide +kernel) ?_
    refine lv_isub hx hb dX7_wordOf_48 ?_
    refine lv_iconst (v := (jI 1)) hx hb dX7_wordOf_49 rfl ?_
    refine lv_iadd hx hb dX7_wordOf_50 ?_
    refine lv_topi (fun x2 ex2 => ?_)
    have h := h x2 ex2
    refine lv_istore (lv' := [(5, .int x2), (0, .int p0), (1, .int p1), (2, .int p2), (3, .int p3), (4, .int p4)]) hx hb dX7_wordOf_51 hl (by decide) rfl (fun ls hl => ?_)
    refine lv_iload hx hb dX7_wordOf_53 (lv_at hl 5 rfl) ?_
    refine lv_bipush (v := (jI 32)) hx hb dX7_wordOf_55 (by decide +kernel) ?_
    refine lv_icmp_ne (tgt := 65) hx hb dX7_wordOf_57 (by decide) (fun c2 => ?_) (fun c2 => ?_)
    · have h := h.2 c2
      refine lv_bipush (v := (jI 27)) hx hb dX7_wordOf_65 (by decide +kernel) ?_
      refine lv_iload hx hb dX7_wordOf_67 (lv_at hl 0 rfl) ?_
      refine lv_imul hx hb dX7_wordOf_69 ?_
      refine lv_iload hx hb dX7_wordOf_70 (lv_at hl 5 rfl) ?_
      refine lv_iadd hx hb dX7_wordOf_72 ?_
      refine lv_bipush (v := (jI 97)) hx hb dX7_wordOf_73 (by decide +kernel) ?_
      refine lv_isub hx hb dX7_wordOf_75 ?_
      refine lv_iconst (v := (jI 1)) hx hb dX7_wordOf_76 rfl ?_
      refine lv_iadd hx hb dX7_wordOf_77 ?_
      exact W.iret (v := (((((jI 27) * x2) + p4) - (jI 97)) + (jI 1))) hx hb hr (fun t ht hW => ⟨⟨_, _, rfl, h, zend hw ht⟩, hS.F ht⟩) hS.2.2 dX7_wordOf_78
    · have h := h.1 c2
      refine lv_iload hx hb dX7_wordOf_60 (lv_at hl 0 rfl) ?_
      refine lv_goto (tgt := 78) hx hb dX7_wordOf_62 (by decide) ?_
      exact W.iret (v := x2) hx hb hr (fun t ht hW => ⟨⟨_, _, rfl, h, zend hw ht⟩, hS.F ht⟩) hS.2.2 dX7_wordOf_78
  · have h := h.1 c1
    refine lv_iload hx hb dX7_wordOf_34 (lv_at hl 0 rfl) ?_
    refine lv_goto (tgt := 51) hx hb dX7_wordOf_36 (by decide) ?_
    refine lv_istore (lv' := [(5, .int x1), (0, .int p0), (1, .int p1), (2, .int p2), (3, .int p3), (4, .int p4)]) hx hb dX7_wordOf_51 hl (by decide) rfl (fun ls hl => ?_)
    refine lv_iload hx hb dX7_wordOf_53 (lv_at hl 5 rfl) ?_
    refine lv_bipush (v := (jI 32)) hx hb dX7_wordOf_55 (by decide +kernel) ?_
    refine lv_icmp_ne (tgt := 65) hx hb dX7_wordOf_57 (by decide) (fun c3 => ?_) (fun c3 => ?_)
    · have h := h.2 c3
      refine lv_bipush (v := (jI 27)) hx hb dX7_wordOf_65 (by decide +kernel) ?_
      refine lv_iload hx hb dX7_wordOf_67 (lv_at hl 0 rfl) ?_
      refine lv_imul hx hb dX7_wordOf_69 ?_
      refine lv_iload hx hb dX7_wordOf_70 (lv_at hl 5 rfl) ?_
      refine lv_iadd hx hb dX7_wordOf_72 ?_
      refine lv_bipush (v := (jI 97)) hx hb dX7_wordOf_73 (by decide +kernel) ?_
      refine lv_isub hx hb dX7_wordOf_75 ?_
      refine lv_iconst (v := (jI 1)) hx hb dX7_wordOf_76 rfl ?_
      refine lv_iadd hx hb dX7_wordOf_77 ?_
      exact W.iret (v := (((((jI 27) * x1) + p4) - (jI 97)) + (jI 1))) hx hb hr (fun t ht hW => ⟨⟨_, _, rfl, h, zend hw ht⟩, hS.F ht⟩) hS.2.2 dX7_wordOf_78
    · have h := h.1 c3
      refine lv_iload hx hb dX7_wordOf_60 (lv_at hl 0 rfl) ?_
      refine lv_goto (tgt := 78) hx hb dX7_wordOf_62 (by decide) ?_
      exact W.iret (v := x1) hx hb hr (fun t ht hW => ⟨⟨_, _, rfl, h, zend hw ht⟩, hS.F ht⟩) hS.2.2 dX7_wordOf_78
theorem k_X7_wordOf {p : Program} {l : Launch} {e : Env} {R : Room} {s : State} {m : MethodId} {args : Array Value} {below : List Frame} {meth : Method} {c : Code} {H : Heap} {locs : List Loc} {cells slots : Nat} {QQ : State → Prop} {cc : ByteArray} {pc nL index : Nat} {ls : Array Slot} {rest : List Value} {D : va_G} {cy : cyT} {ad : Nat → Nat} {own : String} {Ts : List Cond} {H0 : Heap} {σ : ST} {p0 : Int32} {p1 : Int32} {p2 : Int32} {p3 : Int32} {p4 : Int32} {Q : Int32 → ST → Prop} (hx : p.tables.exec = Jvm.exec) (hb : c.code = cc) (hml : c.maxLocals = nL) (hown : s.vm.findClass own = some m.cls) (hts : ∀ w ∈ Ts, w.before args s = true) (hG : GoodIn Ts (va_wsS own index yX7_wordOf wsX7_wordOf)) (hR : 0 + 1 ≤ R.frames ∧ 8 + (6 + 11) + 0 ≤ R.locals) (hcs : cells ≤ R.cells ∧ slots ≤ R.slots) (hK : zK D cy s) (hj : zI 6 ad) (hw : zW D 6 (zme cy ad σ) ad H) {A0 : Nat → Prop} (hA : ∀ i, i < 6 → A0 (ad i)) (hS : va_S A0 H0 H locs) (hsz : ls.size = nL) (hrest : (rest.map fun v => v.category).sum ≤ 8) (hdg : decode cc pc = .ok (.invokestatic index, 3)) (h : wp_X7_wordOf σ p0 p1 p2 p3 p4 Q) (kk : ∀ (r : Int32) (σ : ST) (H : Heap) (locs : List Loc), Q r σ → zW D 6 (zme cy ad σ) ad H → va_S A0 H0 H locs → W p l e R s m args below meth c H locs cells slots QQ (F0 m (pc + 3) ls (.int r :: rest))) : W p l e R s m args below meth c H locs cells slots QQ (F0 m pc ls (.int p4 :: .int p3 :: .int p2 :: .int p1 :: .int p0 :: rest)) :=
  zcalli (va_runS (As := [.int p0, .int p1, .int p2, .int p3, .int p4]) (rest := rest) ⟨hx, hb, hml, hown, hts⟩ (c_X7_wordOf l D cy ad σ p0 p1 p2 p3 p4 h) (va_cwS 5 hts hG rfl rfl rfl (by decide +kernel) hR) (zpreS hj hK hw _) rfl rfl hsz rfl (lv_room hrest) hdg hcs) hA hS kk
set_option maxHeartbeats 4000000 in
set_option maxRecDepth 100000 in
theorem c_X7_kindOf (l : Launch) (D : va_G) (cy : cyT) (ad : Nat → Nat) (σ : ST) (p0 : Int32) {Q : Int32 → ST → Prop} (h : wp_X7_kindOf σ p0 Q) : Met l yX7_kindOf wsX7_kindOf ({ frames := 1, cells := 0, slots := 0, locals := 25 } : Room) (zPre D cy 6 (zme cy ad σ) ad [.int p0]) (va_Qi Q (zB D 6 (zme cy ad) ad) (zA 6 ad)) 0 0 (zA 6 ad) := by
  refine Met.ofW (cc := cX7_kindOf) (maxL := 1) (ret := (some .int)) (by decide) rfl ?_
  intro p e s m args below meth c s₁ B hml hv
  obtain ⟨rfl, hj, hK, hw⟩ := hv
  have hx := B.exec
  have hb := B.bytes
  have hr := B.returns
  have hts := atoms_spec (ws := wsX7_kindOf) B.pre
  have hown : s.vm.findClass RX7 = some m.cls := findClass_of_methodNamed B.named
  have hlocks := B.notSynchronized
  have hS : va_S (zA 6 ad) s.heap s.heap [] := va_S.rf
  have hA : ∀ i, i < 6 → zA 6 ad (ad i) := fun i hi => ⟨i, hi, rfl⟩
  have hl := lv_entry ([.int p0]) (n := 1) (Nat.le_of_ble_eq_true rfl)
  rw [lg_entry_eq]
  generalize (lg_sl ([.int p0]) ++ List.replicate (1 - (lg_sl ([.int p0])).length) Slot.unset).toArray = ls at hl ⊢
  have hl : lv_has ls 1 [(0, .int p0)] := hl
  show W p l e ({ frames := 1, cells := 0, slots := 0, locals := 25 } : Room) s m ([.int p0] : List Value).toArray below meth c s.heap [] 0 0 (MQ below (va_Qi Q (zB D 6 (zme cy ad) ad) (zA 6 ad)) ([.int p0] : List Value).toArray s 0 0 (zA 6 ad)) (F0 m 0 ls [])
  unfold wp_X7_kindOf at h
  refine lv_iload_n hx hb dX7_kindOf_0 rfl (lv_at hl 0 rfl) ?_
  refine lv_bipush (v := (jI 99)) hx hb dX7_kindOf_1 (by decide +kernel) ?_
  refine lv_bipush (v := (jI 117)) hx hb dX7_kindOf_3 (by decide +kernel) ?_
  refine lv_bipush (v := (jI 116)) hx hb dX7_kindOf_5 (by decide +kernel) ?_
  refine lv_bipush (v := (jI 32)) hx hb dX7_kindOf_7 (by decide +kernel) ?_
  refine lv_bipush (v := (jI 32)) hx hb dX7_kindOf_9 (by decide +kernel) ?_
  refine k_X7_wordOf (rest := [.int p0]) hx hb hml hown hts gX7_kindOf_X7_wordOf ⟨Nat.le_of_ble_eq_true rfl, Nat.le_of_ble_eq_true rfl⟩ ⟨Nat.zero_le _, Nat.zero_le _⟩ hK hj hw hA hS hl.1 (Nat.le_of_ble_eq_true rfl) dX7_kindOf_11 h (fun r1 s1 H locs h hw hS => ?_)
  refine lv_icmp_ne (tgt := 21) hx hb dX7_kindOf_14 (by decide) (fun c1 => ?_) (fun c1 => ?_)
  · have h := h.2 c1
    refine lv_iload_n hx hb dX7_kindOf_21 rfl (lv_at hl 0 rfl) ?_
    refine lv_bipush (v := (jI 117)) hx hb dX7_kindOf_22 (by decide +kernel) ?_
    refine lv_bipush (v := (jI 115)) hx hb dX7_kindOf_24 (by decide +kernel) ?_
    refine lv_bipush (v := (jI 101)) hx hb dX7_kindOf_26 (by decide +kernel) ?_
    refine lv_bipush (v := (jI 32)) hx hb dX7_kindOf_28 (by decide +kernel) ?_
    refine lv_bipush (v := (jI 32)) hx hb dX7_kindOf_30 (by decide +kernel) ?_
    refine k_X7_wordOf (rest := [.int p0]) hx hb hml hown hts gX7_kindOf_X7_wordOf ⟨Nat.le_of_ble_eq_true rfl, Nat.le_of_ble_eq_true rfl⟩ ⟨Nat.zero_le _, Nat.zero_le _⟩ hK hj hw hA hS hl.1 (Nat.le_of_ble_eq_true rfl) dX7_kindOf_32 h (fun r2 s2 H locs h hw hS => ?_)
    refine lv_icmp_ne (tgt := 42) hx hb dX7_kindOf_35 (by decide) (fun c2 => ?_) (fun c2 => ?_)
    · have h := h.2 c2
      refine lv_iload_n hx hb dX7_kindOf_42 rfl (lv_at hl 0 rfl) ?_
      refine lv_bipush (v := (jI 100)) hx hb dX7_kindOf_43 (by decide +kernel) ?_
      refine lv_bipush (v := (jI 114)) hx hb dX7_kindOf_45 (by decide +kernel) ?_
      refine lv_bipush (v := (jI 111)) hx hb dX7_kindOf_47 (by decide +kernel) ?_
      refine lv_bipush (v := (jI 112)) hx hb dX7_kindOf_49 (by decide +kernel) ?_
      refine lv_bipush (v := (jI 32)) hx hb dX7_kindOf_51 (by decide +kernel) ?_
      refine k_X7_wordOf (rest := [.int p0]) hx hb hml hown hts gX7_kindOf_X7_wordOf ⟨Nat.le_of_ble_eq_true rfl, Nat.le_of_ble_eq_true rfl⟩ ⟨Nat.zero_le _, Nat.zero_le _⟩ hK hj hw hA hS hl.1 (Nat.le_of_ble_eq_true rfl) dX7_kindOf_53 h (fun r3 s3 H locs h hw hS => ?_)
      refine lv_icmp_ne (tgt := 63) hx hb dX7_kindOf_56 (by decide) (fun c3 => ?_) (fun c3 => ?_)
      · have h := h.2 c3
        refine lv_iload_n hx hb dX7_kindOf_63 rfl (lv_at hl 0 rfl) ?_
        refine lv_bipush (v := (jI 108)) hx hb dX7_kindOf_64 (by decide +kernel) ?_
        refine lv_bipush (v := (jI 105)) hx hb dX7_kindOf_66 (by decide +kernel) ?_
        refine lv_bipush (v := (jI 110)) hx hb dX7_kindOf_68 (by decide +kernel) ?_
        refine lv_bipush (v := (jI 101)) hx hb dX7_kindOf_70 (by decide +kernel) ?_
        refine lv_bipush (v := (jI 32)) hx hb dX7_kindOf_72 (by decide +kernel) ?_
        refine k_X7_wordOf (rest := [.int p0]) hx hb hml hown hts gX7_kindOf_X7_wordOf ⟨Nat.le_of_ble_eq_true rfl, Nat.le_of_ble_eq_true rfl⟩ ⟨Nat.zero_le _, Nat.zero_le _⟩ hK hj hw hA hS hl.1 (Nat.le_of_ble_eq_true rfl) dX7_kindOf_74 h (fun r4 s4 H locs h hw hS => ?_)
        refine lv_icmp_ne (tgt := 84) hx hb dX7_kindOf_77 (by decide) (fun c4 => ?_) (fun c4 => ?_)
        · have h := h.2 c4
          refine lv_iload_n hx hb dX7_kindOf_84 rfl (lv_at hl 0 rfl) ?_
          refine lv_bipush (v := (jI 116)) hx hb dX7_kindOf_85 (by decide +kernel) ?_
          refine lv_bipush (v := (jI 114)) hx hb dX7_kindOf_87 (by decide +kernel) ?_
          refine lv_bipush (v := (jI 97)) hx hb dX7_kindOf_89 (by decide +kernel) ?_
          refine lv_bipush (v := (jI 121)) hx hb dX7_kindOf_91 (by decide +kernel) ?_
          refine lv_bipush (v := (jI 32)) hx hb dX7_kindOf_93 (by decide +kernel) ?_
          refine k_X7_wordOf (rest := [.int p0]) hx hb hml hown hts gX7_kindOf_X7_wordOf ⟨Nat.le_of_ble_eq_true rfl, Nat.le_of_ble_eq_true rfl⟩ ⟨Nat.zero_le _, Nat.zero_le _⟩ hK hj hw hA hS hl.1 (Nat.le_of_ble_eq_true rfl) dX7_kindOf_95 h (fun r5 s5 H locs h hw hS => ?_)
          refine lv_icmp_ne (tgt := 105) hx hb dX7_kindOf_98 (by decide) (fun c5 => ?_) (fun c5 => ?_)
          · have h := h.2 c5
            refine lv_iload_n hx hb dX7_kindOf_105 rfl (lv_at hl 0 rfl) ?_
            refine lv_bipush (v := (jI 99)) hx hb dX7_kindOf_106 (by decide +kernel) ?_
            refine lv_bipush (v := (jI 108)) hx hb dX7_kindOf_108 (by decide +kernel) ?_
            refine lv_bipush (v := (jI 111)) hx hb dX7_kindOf_110 (by decide +kernel) ?_
            refine lv_bipush (v := (jI 115)) hx hb dX7_kindOf_112 (by decide +kernel) ?_
            refine lv_bipush (v := (jI 101)) hx hb dX7_kindOf_114 (by decide +kernel) ?_
            refine k_X7_wordOf (rest := [.int p0]) hx hb hml hown hts gX7_kindOf_X7_wordOf ⟨Nat.le_of_ble_eq_true rfl, Nat.le_of_ble_eq_true rfl⟩ ⟨Nat.zero_le _, Nat.zero_le _⟩ hK hj hw hA hS hl.1 (Nat.le_of_ble_eq_true rfl) dX7_kindOf_116 h (fun r6 s6 H locs h hw hS => ?_)
            refine lv_icmp_ne (tgt := 127) hx hb dX7_kindOf_119 (by decide) (fun c6 => ?_) (fun c6 => ?_)
            · have h := h.2 c6
              refine lv_iconst (v := (jI 0)) hx hb dX7_kindOf_127 rfl ?_
              exact W.iret (v := (jI 0)) hx hb hr (fun t ht hW => ⟨⟨_, _, rfl, h, zend hw ht⟩, hS.F ht⟩) hS.2.2 dX7_kindOf_128
            · have h := h.1 c6
              refine lv_bipush (v := (jI 6)) hx hb dX7_kindOf_122 (by decide +kernel) ?_
              refine lv_goto (tgt := 128) hx hb dX7_kindOf_124 (by decide) ?_
              exact W.iret (v := (jI 6)) hx hb hr (fun t ht hW => ⟨⟨_, _, rfl, h, zend hw ht⟩, hS.F ht⟩) hS.2.2 dX7_kindOf_128
          · have h := h.1 c5
            refine lv_iconst (v := (jI 5)) hx hb dX7_kindOf_101 rfl ?_
            refine lv_goto (tgt := 128) hx hb dX7_kindOf_102 (by decide) ?_
            exact W.iret (v := (jI 5)) hx hb hr (fun t ht hW => ⟨⟨_, _, rfl, h, zend hw ht⟩, hS.F ht⟩) hS.2.2 dX7_kindOf_128
        · have h := h.1 c4
          refine lv_iconst (v := (jI 4)) hx hb dX7_kindOf_80 rfl ?_
          refine lv_goto (tgt := 128) hx hb dX7_kindOf_81 (by decide) ?_
          exact W.iret (v := (jI 4)) hx hb hr (fun t ht hW => ⟨⟨_, _, rfl, h, zend hw ht⟩, hS.F ht⟩) hS.2.2 dX7_kindOf_128
      · have h := h.1 c3
        refine lv_iconst (v := (jI 3)) hx hb dX7_kindOf_59 rfl ?_
        refine lv_goto (tgt := 128) hx hb dX7_kindOf_60 (by decide) ?_
        exact W.iret (v := (jI 3)) hx hb hr (fun t ht hW => ⟨⟨_, _, rfl, h, zend hw ht⟩, hS.F ht⟩) hS.2.2 dX7_kindOf_128
    · have h := h.1 c2
      refine lv_iconst (v := (jI 2)) hx hb dX7_kindOf_38 rfl ?_
      refine lv_goto (tgt := 128) hx hb dX7_kindOf_39 (by decide) ?_
      exact W.iret (v := (jI 2)) hx hb hr (fun t ht hW => ⟨⟨_, _, rfl, h, zend hw ht⟩, hS.F ht⟩) hS.2.2 dX7_kindOf_128
  · have h := h.1 c1
    refine lv_iconst (v := (jI 1)) hx hb dX7_kindOf_17 rfl ?_
    refine lv_goto (tgt := 128) hx hb dX7_kindOf_18 (by decide) ?_
    exact W.iret (v := (jI 1)) hx hb hr (fun t ht hW => ⟨⟨_, _, rfl, h, zend hw ht⟩, hS.F ht⟩) hS.2.2 dX7_kindOf_128
theorem k_X7_kindOf {p : Program} {l : Launch} {e : Env} {R : Room} {s : State} {m : MethodId} {args : Array Value} {below : List Frame} {meth : Method} {c : Code} {H : Heap} {locs : List Loc} {cells slots : Nat} {QQ : State → Prop} {cc : ByteArray} {pc nL index : Nat} {ls : Array Slot} {rest : List Value} {D : va_G} {cy : cyT} {ad : Nat → Nat} {own : String} {Ts : List Cond} {H0 : Heap} {σ : ST} {p0 : Int32} {Q : Int32 → ST → Prop} (hx : p.tables.exec = Jvm.exec) (hb : c.code = cc) (hml : c.maxLocals = nL) (hown : s.vm.findClass own = some m.cls) (hts : ∀ w ∈ Ts, w.before args s = true) (hG : GoodIn Ts (va_wsS own index yX7_kindOf wsX7_kindOf)) (hR : 1 + 1 ≤ R.frames ∧ 8 + (1 + 11) + 25 ≤ R.locals) (hcs : cells ≤ R.cells ∧ slots ≤ R.slots) (hK : zK D cy s) (hj : zI 6 ad) (hw : zW D 6 (zme cy ad σ) ad H) {A0 : Nat → Prop} (hA : ∀ i, i < 6 → A0 (ad i)) (hS : va_S A0 H0 H locs) (hsz : ls.size = nL) (hrest : (rest.map fun v => v.category).sum ≤ 8) (hdg : decode cc pc = .ok (.invokestatic index, 3)) (h : wp_X7_kindOf σ p0 Q) (kk : ∀ (r : Int32) (σ : ST) (H : Heap) (locs : List Loc), Q r σ → zW D 6 (zme cy ad σ) ad H → va_S A0 H0 H locs → W p l e R s m args below meth c H locs cells slots QQ (F0 m (pc + 3) ls (.int r :: rest))) : W p l e R s m args below meth c H locs cells slots QQ (F0 m pc ls (.int p0 :: rest)) :=
  zcalli (va_runS (As := [.int p0]) (rest := rest) ⟨hx, hb, hml, hown, hts⟩ (c_X7_kindOf l D cy ad σ p0 h) (va_cwS 1 hts hG rfl rfl rfl (by decide +kernel) hR) (zpreS hj hK hw _) rfl rfl hsz rfl (lv_room hrest) hdg hcs) hA hS kk
set_option maxHeartbeats 4000000 in
set_option maxRecDepth 100000 in
theorem c_X7_readsNumber (l : Launch) (D : va_G) (cy : cyT) (ad : Nat → Nat) (σ : ST) (p0 : Int32) {Q : Int32 → ST → Prop} (h : wp_X7_readsNumber σ p0 Q) : Met l yX7_readsNumber wsX7_readsNumber ({ frames := 2, cells := 0, slots := 0, locals := 41 } : Room) (zPre D cy 6 (zme cy ad σ) ad [.ref (ad 0), .int p0]) (va_Qi Q (zB D 6 (zme cy ad) ad) (zA 6 ad)) 0 0 (zA 6 ad) := by
  refine Met.ofW (cc := cX7_readsNumber) (maxL := 4) (ret := (some .boolean)) (by decide) rfl ?_
  intro p e s m args below meth c s₁ B hml hv
  obtain ⟨rfl, hj, hK, hw⟩ := hv
  have hx := B.exec
  have hb := B.bytes
  have hr := B.returns
  have hts := atoms_spec (ws := wsX7_readsNumber) B.pre
  have hown : s.vm.findClass RX7 = some m.cls := findClass_of_methodNamed B.named
  have hlocks := B.notSynchronized
  have lk0 : Cond.fieldLink RX7 199 "TypeTraysModel" "place" "I" ∈ wsX7_readsNumber := List.mem_of_getElem? (i := 1) rfl
  have lk1 : Cond.fieldLink RX7 23 "TypeTraysModel" "commands" "[I" ∈ wsX7_readsNumber := List.mem_of_getElem? (i := 2) rfl
  have lk2 : Cond.fieldLink RX7 212 "TypeTraysModel" "many" "I" ∈ wsX7_readsNumber := List.mem_of_getElem? (i := 3) rfl
  have inX7 : ∀ w ∈ u_ws RX7 TX7 16, w ∈ wsX7_readsNumber := zin_at 18 rfl
  have hS : va_S (zA 6 ad) s.heap s.heap [] := va_S.rf
  have hA : ∀ i, i < 6 → zA 6 ad (ad i) := fun i hi => ⟨i, hi, rfl⟩
  have hl := lv_entry ([.ref (ad 0), .int p0]) (n := 4) (Nat.le_of_ble_eq_true rfl)
  rw [lg_entry_eq]
  generalize (lg_sl ([.ref (ad 0), .int p0]) ++ List.replicate (4 - (lg_sl ([.ref (ad 0), .int p0])).length) Slot.unset).toArray = ls at hl ⊢
  have hl : lv_has ls 4 [(0, .ref (ad 0)), (1, .int p0)] := hl
  show W p l e ({ frames := 2, cells := 0, slots := 0, locals := 41 } : Room) s m ([.ref (ad 0), .int p0] : List Value).toArray below meth c s.heap [] 0 0 (MQ below (va_Qi Q (zB D 6 (zme cy ad) ad) (zA 6 ad)) ([.ref (ad 0), .int p0] : List Value).toArray s 0 0 (zA 6 ad)) (F0 m 0 ls [])
  unfold wp_X7_readsNumber at h
  refine lv_aload_n hx hb dX7_readsNumber_0 rfl (lv_at hl 0 rfl) ?_
  refine k_X7_skips (rest := []) hx hb hml hown hts gX7_readsNumber_X7_skips ⟨Nat.le_of_ble_eq_true rfl, Nat.le_of_ble_eq_true rfl⟩ ⟨Nat.zero_le _, Nat.zero_le _⟩ hK hj hw hA hS hl.1 (Nat.le_of_ble_eq_true rfl) dX7_readsNumber_1 h (fun r1 s1 H locs h hw hS => ?_)
  refine zif_eq (tgt := 21) hx hb dX7_readsNumber_4 (by decide) (fun c1 => ?_) (fun c1 => ?_)
  · have h := h.1 c1
    refine lv_iconst (v := (jI 0)) hx hb dX7_readsNumber_21 rfl ?_
    exact W.zret (v := (jI 0)) (ty := .boolean) hx hb hr (by decide +kernel) (fun t ht hW => ⟨⟨_, _, rfl, h, zend hw ht⟩, hS.F ht⟩) hS.2.2 dX7_readsNumber_22
  · have h := h.2 c1
    refine lv_aload_n hx hb dX7_readsNumber_7 rfl (lv_at hl 0 rfl) ?_
    refine k_X7_look (rest := []) hx hb hml hown hts gX7_readsNumber_X7_look ⟨Nat.le_of_ble_eq_true rfl, Nat.le_of_ble_eq_true rfl⟩ ⟨Nat.zero_le _, Nat.zero_le _⟩ hK hj hw hA hS hl.1 (Nat.le_of_ble_eq_true rfl) dX7_readsNumber_8 h (fun r2 s2 H locs h hw hS => ?_)
    refine lv_bipush (v := (jI 48)) hx hb dX7_readsNumber_11 (by decide +kernel) ?_
    refine lv_bipush (v := (jI 57)) hx hb dX7_readsNumber_13 (by decide +kernel) ?_
    refine k_X7_in (rest := []) hx hb hml hown hts gX7_readsNumber_X7_in ⟨Nat.le_of_ble_eq_true rfl, Nat.le_of_ble_eq_true rfl⟩ ⟨Nat.zero_le _, Nat.zero_le _⟩ hK hj hw hA hS hl.1 (Nat.le_of_ble_eq_true rfl) dX7_readsNumber_15 h (fun r3 s3 H locs h hw hS => ?_)
    refine zif_ne (tgt := 23) hx hb dX7_readsNumber_18 (by decide) (fun c2 => ?_) (fun c2 => ?_)
    · have h := h.2 c2
      refine lv_iconst (v := (jI 0)) hx hb dX7_readsNumber_23 rfl ?_
      refine lv_istore_n (lv' := [(2, .int (jI 0)), (0, .ref (ad 0)), (1, .int p0)]) hx hb dX7_readsNumber_24 rfl hl (by decide) rfl (fun ls hl => ?_)
      refine lv_iconst (v := (jI 0)) hx hb dX7_readsNumber_25 rfl ?_
      refine lv_istore_n (lv' := [(3, .int (jI 0)), (2, .int (jI 0)), (0, .ref (ad 0)), (1, .int p0)]) hx hb dX7_readsNumber_26 rfl hl (by decide) rfl (fun ls hl => ?_)
      have k75_27 : ∀ (u_75 : ST) (z2_75 : Int32) (H : Heap) (locs : List Loc), (vp_in (((jI 4) * (u_75.2 10)) + p0) 200 ∧ ∀ s8 : ST, s8 = zrp u_75 4 (((jI 4) * (u_75.2 10)) + p0).toNatClampNeg z2_75 → Q (jI 1) s8) → zW D 6 (zme cy ad u_75) ad H → va_S (zA 6 ad) s.heap H locs → ∀ ls : Array Slot, lv_has ls 4 [(0, .ref (ad 0)), (1, .int p0), (2, .int z2_75)] → W p l e ({ frames := 2, cells := 0, slots := 0, locals := 41 } : Room) s m ([.ref (ad 0), .int p0] : List Value).toArray below meth c H locs 0 0 (MQ below (va_Qi Q (zB D 6 (zme cy ad) ad) (zA 6 ad)) ([.ref (ad 0), .int p0] : List Value).toArray s 0 0 (zA 6 ad)) (F0 m 75 ls []) := by
        intro u_75 z2_75 H locs h hw hS ls hl
        refine lv_aload_n hx hb dX7_readsNumber_75 rfl (lv_at hl 0 rfl) ?_
        refine zget hx hb hts inX7 hown hK hw 0 (by decide) rfl rfl 14 (by decide) lk1 (fun _ h9 => h9) rfl dX7_readsNumber_76 ?_
        refine lv_iconst (v := (jI 4)) hx hb dX7_readsNumber_79 rfl ?_
        refine lv_aload_n hx hb dX7_readsNumber_80 rfl (lv_at hl 0 rfl) ?_
        refine zget hx hb hts inX7 hown hK hw 0 (by decide) rfl rfl 15 (by decide) lk2 (fun _ h9 => h9) rfl dX7_readsNumber_81 ?_
        refine lv_imul hx hb dX7_readsNumber_84 ?_
        refine lv_iload_n hx hb dX7_readsNumber_85 rfl (lv_at hl 1 rfl) ?_
        refine lv_iadd hx hb dX7_readsNumber_86 ?_
        refine lv_iload_n hx hb dX7_readsNumber_87 rfl (lv_at hl 2 rfl) ?_
        obtain ⟨s8, es8⟩ : ∃ y : ST, y = zrp u_75 4 (((jI 4) * (u_75.2 10)) + p0).toNatClampNeg z2_75 := ⟨_, rfl⟩
        refine ziast hx hb hK hj hw hA hS 5 (by decide) rfl h.1 dX7_readsNumber_88 (zme cy ad s8) (by rw [es8]; exact zrp_on_M_4) (fun j hj9 => by rw [es8]; exact zrp_off_M_4 j hj9) (fun H locs hw hS => ?_)
        have h := h.2 s8 es8
        refine lv_iconst (v := (jI 1)) hx hb dX7_readsNumber_89 rfl ?_
        exact W.zret (v := (jI 1)) (ty := .boolean) hx hb hr (by decide +kernel) (fun t ht hW => ⟨⟨_, _, rfl, h, zend hw ht⟩, hS.F ht⟩) hS.2.2 dX7_readsNumber_90
      have lp27 : ∀ (nn27 : Nat) (t_27 : ST) (y2_27 : Int32) (y3_27 : Int32) (H : Heap) (locs : List Loc), wl_X7_readsNumber_27 (fun u_75 z2_75 => (vp_in (((jI 4) * (u_75.2 10)) + p0) 200 ∧ ∀ s8 : ST, s8 = zrp u_75 4 (((jI 4) * (u_75.2 10)) + p0).toNatClampNeg z2_75 → Q (jI 1) s8)) p0 nn27 t_27 y2_27 y3_27 → zW D 6 (zme cy ad t_27) ad H → va_S (zA 6 ad) s.heap H locs → ∀ ls : Array Slot, lv_has ls 4 [(0, .ref (ad 0)), (1, .int p0), (2, .int y2_27), (3, .int y3_27)] → W p l e ({ frames := 2, cells := 0, slots := 0, locals := 41 } : Room) s m ([.ref (ad 0), .int p0] : List Value).toArray below meth c H locs 0 0 (MQ below (va_Qi Q (zB D 6 (zme cy ad) ad) (zA 6 ad)) ([.ref (ad 0), .int p0] : List Value).toArray s 0 0 (zA 6 ad)) (F0 m 27 ls []) := by
        intro nn27
        induction nn27 with
        | zero => intro _ _ _ _ _ h; exact h.elim
        | succ nn27 ih27 =>
          intro t_27 y2_27 y3_27 H locs h hw hS ls hl
          simp only [wl_X7_readsNumber_27, wb_X7_readsNumber_27] at h
          refine lv_iload_n hx hb dX7_readsNumber_27 rfl (lv_at hl 3 rfl) ?_
          refine lv_iconst (v := (jI 2)) hx hb dX7_readsNumber_28 rfl ?_
          refine lv_icmp_ge (tgt := 75) hx hb dX7_readsNumber_29 (by decide) (fun c3 => ?_) (fun c3 => ?_)
          · have h := h.1 c3
            exact k75_27 _ _ _ _ h hw hS _ (lv_sub hl [0, 1, 2] rfl)
          · have h := h.2 c3
            refine lv_aload_n hx hb dX7_readsNumber_32 rfl (lv_at hl 0 rfl) ?_
            refine k_X7_look (rest := []) hx hb hml hown hts gX7_readsNumber_X7_look ⟨Nat.le_of_ble_eq_true rfl, Nat.le_of_ble_eq_true rfl⟩ ⟨Nat.zero_le _, Nat.zero_le _⟩ hK hj hw hA hS hl.1 (Nat.le_of_ble_eq_true rfl) dX7_readsNumber_33 h (fun r4 s4 H locs h hw hS => ?_)
            refine lv_bipush (v := (jI 48)) hx hb dX7_readsNumber_36 (by decide +kernel) ?_
            refine lv_bipush (v := (jI 57)) hx hb dX7_readsNumber_38 (by decide +kernel) ?_
            refine k_X7_in (rest := []) hx hb hml hown hts gX7_readsNumber_X7_in ⟨Nat.le_of_ble_eq_true rfl, Nat.le_of_ble_eq_true rfl⟩ ⟨Nat.zero_le _, Nat.zero_le _⟩ hK hj hw hA hS hl.1 (Nat.le_of_ble_eq_true rfl) dX7_readsNumber_40 h (fun r5 s5 H locs h hw hS => ?_)
            refine zif_eq (tgt := 75) hx hb dX7_readsNumber_43 (by decide) (fun c4 => ?_) (fun c4 => ?_)
            · have h := h.1 c4
              exact k75_27 _ _ _ _ h hw hS _ (lv_sub hl [0, 1, 2] rfl)
            · have h := h.2 c4
              refine lv_bipush (v := (jI 10)) hx hb dX7_readsNumber_46 (by decide +kernel) ?_
              refine lv_iload_n hx hb dX7_readsNumber_48 rfl (lv_at hl 2 rfl) ?_
              refine lv_imul hx hb dX7_readsNumber_49 ?_
              refine lv_aload_n hx hb dX7_readsNumber_50 rfl (lv_at hl 0 rfl) ?_
              refine k_X7_look (rest := [.int ((jI 10) * y2_27)]) hx hb hml hown hts gX7_readsNumber_X7_look ⟨Nat.le_of_ble_eq_true rfl, Nat.le_of_ble_eq_true rfl⟩ ⟨Nat.zero_le _, Nat.zero_le _⟩ hK hj hw hA hS hl.1 (Nat.le_of_ble_eq_true rfl) dX7_readsNumber_51 h (fun r6 s6 H locs h hw hS => ?_)
              refine lv_iadd hx hb dX7_readsNumber_54 ?_
              refine lv_bipush (v := (jI 48)) hx hb dX7_readsNumber_55 (by decide +kernel) ?_
              refine lv_isub hx hb dX7_readsNumber_57 ?_
              refine lv_topi (fun x1 ex1 => ?_)
              have h := h x1 ex1
              refine lv_istore_n (lv' := [(2, .int x1), (0, .ref (ad 0)), (1, .int p0), (3, .int y3_27)]) hx hb dX7_readsNumber_58 rfl hl (by decide) rfl (fun ls hl => ?_)
              refine lv_aload_n hx hb dX7_readsNumber_59 rfl (lv_at hl 1 rfl) ?_
              refine lv_dup hx hb dX7_readsNumber_60 rfl ?_
              refine zget hx hb hts inX7 hown hK hw 0 (by decide) rfl rfl 13 (by decide) lk0 (fun _ h9 => h9) rfl dX7_readsNumber_61 ?_
              refine lv_iconst (v := (jI 1)) hx hb dX7_readsNumber_64 rfl ?_
              refine lv_iadd hx hb dX7_readsNumber_65 ?_
              obtain ⟨s7, es7⟩ : ∃ y : ST, y = zsp s6 9 ((s6.2 9) + (jI 1)) := ⟨_, rfl⟩
              have h := h s7 es7
              refine zput (ty := .int) hx hb hts inX7 tyX7 tyX7_ok nmX7 hown hK hj hw hA hS 0 (by decide) rfl rfl 13 (by decide) lk0 (fun _ h9 => h9) rfl (by decide +kernel) rfl rfl (Nat.le_of_ble_eq_true rfl) dX7_readsNumber_66 (zme cy ad s7) (by rw [es7]; rfl) (fun j hj9 => by rw [es7]; exact zsp_off_M_9 j hj9) (fun H locs hw hS => ?_)
              obtain ⟨x2, ex2⟩ : ∃ y : Int32, y = y3_27 + (jI 1) := ⟨_, rfl⟩
              have h := h x2 ex2
              refine lv_iinc (v := x2) (lv' := [(3, .int x2), (2, .int x1), (0, .ref (ad 0)), (1, .int p0)]) hx hb dX7_readsNumber_69 hl (k := 3) rfl (by rw [ex2]; rfl) (by decide) rfl (fun ls hl => ?_)
              refine lv_goto (tgt := 27) hx hb dX7_readsNumber_72 (by decide) ?_
              exact ih27 _ _ _ _ _ h hw hS _ (lv_sub hl [2, 3, 1, 0] rfl)
      obtain ⟨nn27, h⟩ := h
      exact lp27 nn27 _ _ _ _ _ h hw hS _ (lv_sub hl [2, 3, 1, 0] rfl)
    · have h := h.1 c2
      refine lv_iconst (v := (jI 0)) hx hb dX7_readsNumber_21 rfl ?_
      exact W.zret (v := (jI 0)) (ty := .boolean) hx hb hr (by decide +kernel) (fun t ht hW => ⟨⟨_, _, rfl, h, zend hw ht⟩, hS.F ht⟩) hS.2.2 dX7_readsNumber_22
theorem k_X7_readsNumber {p : Program} {l : Launch} {e : Env} {R : Room} {s : State} {m : MethodId} {args : Array Value} {below : List Frame} {meth : Method} {c : Code} {H : Heap} {locs : List Loc} {cells slots : Nat} {QQ : State → Prop} {cc : ByteArray} {pc nL index : Nat} {ls : Array Slot} {rest : List Value} {D : va_G} {cy : cyT} {ad : Nat → Nat} {own : String} {Ts : List Cond} {H0 : Heap} {σ : ST} {p0 : Int32} {Q : Int32 → ST → Prop} (hx : p.tables.exec = Jvm.exec) (hb : c.code = cc) (hml : c.maxLocals = nL) (hown : s.vm.findClass own = some m.cls) (hts : ∀ w ∈ Ts, w.before args s = true) (hG : GoodIn Ts (wsV own index RX7 yX7_readsNumber wsX7_readsNumber)) (hR : 2 + 1 ≤ R.frames ∧ 8 + (4 + 11) + 41 ≤ R.locals) (hcs : cells ≤ R.cells ∧ slots ≤ R.slots) (hK : zK D cy s) (hj : zI 6 ad) (hw : zW D 6 (zme cy ad σ) ad H) {A0 : Nat → Prop} (hA : ∀ i, i < 6 → A0 (ad i)) (hS : va_S A0 H0 H locs) (hsz : ls.size = nL) (hrest : (rest.map fun v => v.category).sum ≤ 8) (hdg : decode cc pc = .ok (.invokevirtual index, 3)) (h : wp_X7_readsNumber σ p0 Q) (kk : ∀ (r : Int32) (σ : ST) (H : Heap) (locs : List Loc), Q r σ → zW D 6 (zme cy ad σ) ad H → va_S A0 H0 H locs → W p l e R s m args below meth c H locs cells slots QQ (F0 m (pc + 3) ls (.int r :: rest))) : W p l e R s m args below meth c H locs cells slots QQ (F0 m pc ls (.int p0 :: .ref (ad 0) :: rest)) :=
  zcalli (va_runV (As := [.int p0]) (rest := rest) ⟨hx, hb, hml, hown, hts⟩ (c_X7_readsNumber l D cy ad σ p0 h) (cwV 1 hts hG rfl rfl rfl (by decide +kernel) hR) (zpreV hj hK hw _ (i := 0) (ci := 6) (by decide) rfl rfl) rfl rfl hsz rfl (lv_room hrest) hdg hcs) hA hS kk
set_option maxHeartbeats 4000000 in
set_option maxRecDepth 100000 in
theorem c_X7_readsCommand (l : Launch) (D : va_G) (cy : cyT) (ad : Nat → Nat) (σ : ST) {Q : Int32 → ST → Prop} (h : wp_X7_readsCommand σ Q) : Met l yX7_readsCommand wsX7_readsCommand ({ frames := 3, cells := 0, slots := 0, locals := 64 } : Room) (zPre D cy 6 (zme cy ad σ) ad [.ref (ad 0)]) (va_Qi Q (zB D 6 (zme cy ad) ad) (zA 6 ad)) 0 0 (zA 6 ad) := by
  refine Met.ofW (cc := cX7_readsCommand) (maxL := 4) (ret := (some .boolean)) (by decide) rfl ?_
  intro p e s m args below meth c s₁ B hml hv
  obtain ⟨rfl, hj, hK, hw⟩ := hv
  have hx := B.exec
  have hb := B.bytes
  have hr := B.returns
  have hts := atoms_spec (ws := wsX7_readsCommand) B.pre
  have hown : s.vm.findClass RX7 = some m.cls := findClass_of_methodNamed B.named
  have hlocks := B.notSynchronized
  have lk0 : Cond.fieldLink RX7 199 "TypeTraysModel" "place" "I" ∈ wsX7_readsCommand := List.mem_of_getElem? (i := 1) rfl
  have lk1 : Cond.fieldLink RX7 23 "TypeTraysModel" "commands" "[I" ∈ wsX7_readsCommand := List.mem_of_getElem? (i := 2) rfl
  have lk2 : Cond.fieldLink RX7 212 "TypeTraysModel" "many" "I" ∈ wsX7_readsCommand := List.mem_of_getElem? (i := 3) rfl
  have inX7 : ∀ w ∈ u_ws RX7 TX7 16, w ∈ wsX7_readsCommand := zin_at 32 rfl
  have hS : va_S (zA 6 ad) s.heap s.heap [] := va_S.rf
  have hA : ∀ i, i < 6 → zA 6 ad (ad i) := fun i hi => ⟨i, hi, rfl⟩
  have hl := lv_entry ([.ref (ad 0)]) (n := 4) (Nat.le_of_ble_eq_true rfl)
  rw [lg_entry_eq]
  generalize (lg_sl ([.ref (ad 0)]) ++ List.replicate (4 - (lg_sl ([.ref (ad 0)])).length) Slot.unset).toArray = ls at hl ⊢
  have hl : lv_has ls 4 [(0, .ref (ad 0))] := hl
  show W p l e ({ frames := 3, cells := 0, slots := 0, locals := 64 } : Room) s m ([.ref (ad 0)] : List Value).toArray below meth c s.heap [] 0 0 (MQ below (va_Qi Q (zB D 6 (zme cy ad) ad) (zA 6 ad)) ([.ref (ad 0)] : List Value).toArray s 0 0 (zA 6 ad)) (F0 m 0 ls [])
  unfold wp_X7_readsCommand at h
  refine lv_aload_n hx hb dX7_readsCommand_0 rfl (lv_at hl 0 rfl) ?_
  refine zget hx hb hts inX7 hown hK hw 0 (by decide) rfl rfl 13 (by decide) lk0 (fun _ h9 => h9) rfl dX7_readsCommand_1 ?_
  refine lv_istore_n (lv' := [(1, .int (σ.2 9)), (0, .ref (ad 0))]) hx hb dX7_readsCommand_4 rfl hl (by decide) rfl (fun ls hl => ?_)
  refine lv_aload_n hx hb dX7_readsCommand_5 rfl (lv_at hl 1 rfl) ?_
  refine k_X7_readsWord (rest := []) hx hb hml hown hts gX7_readsCommand_X7_readsWord ⟨Nat.le_of_ble_eq_true rfl, Nat.le_of_ble_eq_true rfl⟩ ⟨Nat.zero_le _, Nat.zero_le _⟩ hK hj hw hA hS hl.1 (Nat.le_of_ble_eq_true rfl) dX7_readsCommand_6 h (fun r1 s1 H locs h hw hS => ?_)
  refine k_X7_kindOf (rest := []) hx hb hml hown hts gX7_readsCommand_X7_kindOf ⟨Nat.le_of_ble_eq_true rfl, Nat.le_of_ble_eq_true rfl⟩ ⟨Nat.zero_le _, Nat.zero_le _⟩ hK hj hw hA hS hl.1 (Nat.le_of_ble_eq_true rfl) dX7_readsCommand_9 h (fun r2 s2 H locs h hw hS => ?_)
  refine lv_istore_n (lv' := [(2, .int r2), (1, .int (σ.2 9)), (0, .ref (ad 0))]) hx hb dX7_readsCommand_12 rfl hl (by decide) rfl (fun ls hl => ?_)
  refine lv_iload_n hx hb dX7_readsCommand_13 rfl (lv_at hl 0 rfl) ?_
  refine zif_ne (tgt := 24) hx hb dX7_readsCommand_14 (by decide) (fun c1 => ?_) (fun c1 => ?_)
  · have h := h.2 c1
    refine lv_aload_n hx hb dX7_readsCommand_24 rfl (lv_at hl 2 rfl) ?_
    refine zget hx hb hts inX7 hown hK hw 0 (by decide) rfl rfl 14 (by decide) lk1 (fun _ h9 => h9) rfl dX7_readsCommand_25 ?_
    refine lv_iconst (v := (jI 4)) hx hb dX7_readsCommand_28 rfl ?_
    refine lv_aload_n hx hb dX7_readsCommand_29 rfl (lv_at hl 2 rfl) ?_
    refine zget hx hb hts inX7 hown hK hw 0 (by decide) rfl rfl 15 (by decide) lk2 (fun _ h9 => h9) rfl dX7_readsCommand_30 ?_
    refine lv_imul hx hb dX7_readsCommand_33 ?_
    refine lv_iload_n hx hb dX7_readsCommand_34 rfl (lv_at hl 0 rfl) ?_
    obtain ⟨s3, es3⟩ : ∃ y : ST, y = zrp s2 4 ((jI 4) * (s2.2 10)).toNatClampNeg r2 := ⟨_, rfl⟩
    refine ziast hx hb hK hj hw hA hS 5 (by decide) rfl h.1 dX7_readsCommand_35 (zme cy ad s3) (by rw [es3]; exact zrp_on_M_4) (fun j hj9 => by rw [es3]; exact zrp_off_M_4 j hj9) (fun H locs hw hS => ?_)
    have h := h.2 s3 es3
    refine lv_iconst (v := (jI 1)) hx hb dX7_readsCommand_36 rfl ?_
    refine lv_istore_n (lv' := [(3, .int (jI 1)), (2, .int r2), (1, .int (σ.2 9)), (0, .ref (ad 0))]) hx hb dX7_readsCommand_37 rfl hl (by decide) rfl (fun ls hl => ?_)
    have k56_38 : ∀ (u_56 : ST) (H : Heap) (locs : List Loc), Q (jI 0) u_56 → zW D 6 (zme cy ad u_56) ad H → va_S (zA 6 ad) s.heap H locs → ∀ ls : Array Slot, lv_has ls 4 [] → W p l e ({ frames := 3, cells := 0, slots := 0, locals := 64 } : Room) s m ([.ref (ad 0)] : List Value).toArray below meth c H locs 0 0 (MQ below (va_Qi Q (zB D 6 (zme cy ad) ad) (zA 6 ad)) ([.ref (ad 0)] : List Value).toArray s 0 0 (zA 6 ad)) (F0 m 56 ls []) := by
      intro u_56 H locs h hw hS ls hl
      refine lv_iconst (v := (jI 0)) hx hb dX7_readsCommand_56 rfl ?_
      exact W.zret (v := (jI 0)) (ty := .boolean) hx hb hr (by decide +kernel) (fun t ht hW => ⟨⟨_, _, rfl, h, zend hw ht⟩, hS.F ht⟩) hS.2.2 dX7_readsCommand_57
    have k64_38 : ∀ (u_64 : ST) (H : Heap) (locs : List Loc), wp_X7_skips u_64 (fun r4 s5 => wp_X7_look s5 (fun r5 s6 => ((r5 = (jI 59) → (∀ s7 : ST, s7 = zsp s6 9 ((s6.2 9) + (jI 1)) → (∀ s8 : ST, s8 = zsp s7 10 ((s7.2 10) + (jI 1)) → Q (jI 1) s8))) ∧ (¬ r5 = (jI 59) → Q (jI 0) s6)))) → zW D 6 (zme cy ad u_64) ad H → va_S (zA 6 ad) s.heap H locs → ∀ ls : Array Slot, lv_has ls 4 [(0, .ref (ad 0))] → W p l e ({ frames := 3, cells := 0, slots := 0, locals := 64 } : Room) s m ([.ref (ad 0)] : List Value).toArray below meth c H locs 0 0 (MQ below (va_Qi Q (zB D 6 (zme cy ad) ad) (zA 6 ad)) ([.ref (ad 0)] : List Value).toArray s 0 0 (zA 6 ad)) (F0 m 64 ls []) := by
      intro u_64 H locs h hw hS ls hl
      refine lv_aload_n hx hb dX7_readsCommand_64 rfl (lv_at hl 0 rfl) ?_
      refine k_X7_skips (rest := []) hx hb hml hown hts gX7_readsCommand_X7_skips ⟨Nat.le_of_ble_eq_true rfl, Nat.le_of_ble_eq_true rfl⟩ ⟨Nat.zero_le _, Nat.zero_le _⟩ hK hj hw hA hS hl.1 (Nat.le_of_ble_eq_true rfl) dX7_readsCommand_65 h (fun r4 s5 H locs h hw hS => ?_)
      refine lv_pop hx hb dX7_readsCommand_68 rfl ?_
      refine lv_aload_n hx hb dX7_readsCommand_69 rfl (lv_at hl 0 rfl) ?_
      refine k_X7_look (rest := []) hx hb hml hown hts gX7_readsCommand_X7_look ⟨Nat.le_of_ble_eq_true rfl, Nat.le_of_ble_eq_true rfl⟩ ⟨Nat.zero_le _, Nat.zero_le _⟩ hK hj hw hA hS hl.1 (Nat.le_of_ble_eq_true rfl) dX7_readsCommand_70 h (fun r5 s6 H locs h hw hS => ?_)
      refine lv_bipush (v := (jI 59)) hx hb dX7_readsCommand_73 (by decide +kernel) ?_
      refine lv_icmp_eq (tgt := 80) hx hb dX7_readsCommand_75 (by decide) (fun c5 => ?_) (fun c5 => ?_)
      · have h := h.1 c5
        refine lv_aload_n hx hb dX7_readsCommand_80 rfl (lv_at hl 0 rfl) ?_
        refine lv_dup hx hb dX7_readsCommand_81 rfl ?_
        refine zget hx hb hts inX7 hown hK hw 0 (by decide) rfl rfl 13 (by decide) lk0 (fun _ h9 => h9) rfl dX7_readsCommand_82 ?_
        refine lv_iconst (v := (jI 1)) hx hb dX7_readsCommand_85 rfl ?_
        refine lv_iadd hx hb dX7_readsCommand_86 ?_
        obtain ⟨s7, es7⟩ : ∃ y : ST, y = zsp s6 9 ((s6.2 9) + (jI 1)) := ⟨_, rfl⟩
        have h := h s7 es7
        refine zput (ty := .int) hx hb hts inX7 tyX7 tyX7_ok nmX7 hown hK hj hw hA hS 0 (by decide) rfl rfl 13 (by decide) lk0 (fun _ h9 => h9) rfl (by decide +kernel) rfl rfl (Nat.le_of_ble_eq_true rfl) dX7_readsCommand_87 (zme cy ad s7) (by rw [es7]; rfl) (fun j hj9 => by rw [es7]; exact zsp_off_M_9 j hj9) (fun H locs hw hS => ?_)
        refine lv_aload_n hx hb dX7_readsCommand_90 rfl (lv_at hl 0 rfl) ?_
        refine lv_dup hx hb dX7_readsCommand_91 rfl ?_
        refine zget hx hb hts inX7 hown hK hw 0 (by decide) rfl rfl 15 (by decide) lk2 (fun _ h9 => h9) rfl dX7_readsCommand_92 ?_
        refine lv_iconst (v := (jI 1)) hx hb dX7_readsCommand_95 rfl ?_
        refine lv_iadd hx hb dX7_readsCommand_96 ?_
        obtain ⟨s8, es8⟩ : ∃ y : ST, y = zsp s7 10 ((s7.2 10) + (jI 1)) := ⟨_, rfl⟩
        have h := h s8 es8
        refine zput (ty := .int) hx hb hts inX7 tyX7 tyX7_ok nmX7 hown hK hj hw hA hS 0 (by decide) rfl rfl 15 (by decide) lk2 (fun _ h9 => h9) rfl (by decide +kernel) rfl rfl (Nat.le_of_ble_eq_true rfl) dX7_readsCommand_97 (zme cy ad s8) (by rw [es8]; rfl) (fun j hj9 => by rw [es8]; exact zsp_off_M_10 j hj9) (fun H locs hw hS => ?_)
        refine lv_iconst (v := (jI 1)) hx hb dX7_readsCommand_100 rfl ?_
        exact W.zret (v := (jI 1)) (ty := .boolean) hx hb hr (by decide +kernel) (fun t ht hW => ⟨⟨_, _, rfl, h, zend hw ht⟩, hS.F ht⟩) hS.2.2 dX7_readsCommand_101
      · have h := h.2 c5
        refine lv_iconst (v := (jI 0)) hx hb dX7_readsCommand_78 rfl ?_
        exact W.zret (v := (jI 0)) (ty := .boolean) hx hb hr (by decide +kernel) (fun t ht hW => ⟨⟨_, _, rfl, h, zend hw ht⟩, hS.F ht⟩) hS.2.2 dX7_readsCommand_79
    have lp38 : ∀ (nn38 : Nat) (t_38 : ST) (y3_38 : Int32) (H : Heap) (locs : List Loc), wl_X7_readsCommand_38 (fun u_56 => Q (jI 0) u_56) (fun u_64 => wp_X7_skips u_64 (fun r4 s5 => wp_X7_look s5 (fun r5 s6 => ((r5 = (jI 59) → (∀ s7 : ST, s7 = zsp s6 9 ((s6.2 9) + (jI 1)) → (∀ s8 : ST, s8 = zsp s7 10 ((s7.2 10) + (jI 1)) → Q (jI 1) s8))) ∧ (¬ r5 = (jI 59) → Q (jI 0) s6))))) r2 nn38 t_38 y3_38 → zW D 6 (zme cy ad t_38) ad H → va_S (zA 6 ad) s.heap H locs → ∀ ls : Array Slot, lv_has ls 4 [(0, .ref (ad 0)), (2, .int r2), (3, .int y3_38)] → W p l e ({ frames := 3, cells := 0, slots := 0, locals := 64 } : Room) s m ([.ref (ad 0)] : List Value).toArray below meth c H locs 0 0 (MQ below (va_Qi Q (zB D 6 (zme cy ad) ad) (zA 6 ad)) ([.ref (ad 0)] : List Value).toArray s 0 0 (zA 6 ad)) (F0 m 38 ls []) := by
      intro nn38
      induction nn38 with
      | zero => intro _ _ _ _ h; exact h.elim
      | succ nn38 ih38 =>
        intro t_38 y3_38 H locs h hw hS ls hl
        simp only [wl_X7_readsCommand_38, wb_X7_readsCommand_38] at h
        refine lv_iload_n hx hb dX7_readsCommand_38 rfl (lv_at hl 2 rfl) ?_
        refine lv_iconst (v := (jI 4)) hx hb dX7_readsCommand_39 rfl ?_
        refine lv_icmp_ge (tgt := 64) hx hb dX7_readsCommand_40 (by decide) (fun c2 => ?_) (fun c2 => ?_)
        · have h := h.1 c2
          exact k64_38 _ _ _ h hw hS _ (lv_sub hl [0] rfl)
        · have h := h.2 c2
          refine lv_iload_n hx hb dX7_readsCommand_43 rfl (lv_at hl 1 rfl) ?_
          refine lv_iconst (v := (jI 4)) hx hb dX7_readsCommand_44 rfl ?_
          refine lv_icmp_ge (tgt := 64) hx hb dX7_readsCommand_45 (by decide) (fun c3 => ?_) (fun c3 => ?_)
          · have h := h.1 c3
            exact k64_38 _ _ _ h hw hS _ (lv_sub hl [0] rfl)
          · have h := h.2 c3
            refine lv_aload_n hx hb dX7_readsCommand_48 rfl (lv_at hl 0 rfl) ?_
            refine lv_iload_n hx hb dX7_readsCommand_49 rfl (lv_at hl 2 rfl) ?_
            refine k_X7_readsNumber (rest := []) hx hb hml hown hts gX7_readsCommand_X7_readsNumber ⟨Nat.le_of_ble_eq_true rfl, Nat.le_of_ble_eq_true rfl⟩ ⟨Nat.zero_le _, Nat.zero_le _⟩ hK hj hw hA hS hl.1 (Nat.le_of_ble_eq_true rfl) dX7_readsCommand_50 h (fun r3 s4 H locs h hw hS => ?_)
            refine zif_ne (tgt := 58) hx hb dX7_readsCommand_53 (by decide) (fun c4 => ?_) (fun c4 => ?_)
            · have h := h.2 c4
              obtain ⟨x1, ex1⟩ : ∃ y : Int32, y = y3_38 + (jI 1) := ⟨_, rfl⟩
              have h := h x1 ex1
              refine lv_iinc (v := x1) (lv' := [(3, .int x1), (0, .ref (ad 0)), (2, .int r2)]) hx hb dX7_readsCommand_58 hl (k := 2) rfl (by rw [ex1]; rfl) (by decide) rfl (fun ls hl => ?_)
              refine lv_goto (tgt := 38) hx hb dX7_readsCommand_61 (by decide) ?_
              exact ih38 _ _ _ _ h hw hS _ (lv_sub hl [1, 2, 0] rfl)
            · have h := h.1 c4
              exact k56_38 _ _ _ h hw hS _ (lv_sub hl [] rfl)
    obtain ⟨nn38, h⟩ := h
    exact lp38 nn38 _ _ _ _ h hw hS _ (lv_sub hl [3, 1, 0] rfl)
  · have h := h.1 c1
    refine lv_aload_n hx hb dX7_readsCommand_17 rfl (lv_at hl 2 rfl) ?_
    refine lv_iload_n hx hb dX7_readsCommand_18 rfl (lv_at hl 1 rfl) ?_
    obtain ⟨s9, es9⟩ : ∃ y : ST, y = zsp s2 9 (σ.2 9) := ⟨_, rfl⟩
    have h := h s9 es9
    refine zput (ty := .int) hx hb hts inX7 tyX7 tyX7_ok nmX7 hown hK hj hw hA hS 0 (by decide) rfl rfl 13 (by decide) lk0 (fun _ h9 => h9) rfl (by decide +kernel) rfl rfl (Nat.le_of_ble_eq_true rfl) dX7_readsCommand_19 (zme cy ad s9) (by rw [es9]; rfl) (fun j hj9 => by rw [es9]; exact zsp_off_M_9 j hj9) (fun H locs hw hS => ?_)
    refine lv_iconst (v := (jI 0)) hx hb dX7_readsCommand_22 rfl ?_
    exact W.zret (v := (jI 0)) (ty := .boolean) hx hb hr (by decide +kernel) (fun t ht hW => ⟨⟨_, _, rfl, h, zend hw ht⟩, hS.F ht⟩) hS.2.2 dX7_readsCommand_23
theorem k_X7_readsCommand {p : Program} {l : Launch} {e : Env} {R : Room} {s : State} {m : MethodId} {args : Array Value} {below : List Frame} {meth : Method} {c : Code} {H : Heap} {locs : List Loc} {cells slots : Nat} {QQ : State → Prop} {cc : ByteArray} {pc nL index : Nat} {ls : Array Slot} {rest : List Value} {D : va_G} {cy : cyT} {ad : Nat → Nat} {own : String} {Ts : List Cond} {H0 : Heap} {σ : ST}  {Q : Int32 → ST → Prop} (hx : p.tables.exec = Jvm.exec) (hb : c.code = cc) (hml : c.maxLocals = nL) (hown : s.vm.findClass own = some m.cls) (hts : ∀ w ∈ Ts, w.before args s = true) (hG : GoodIn Ts (wsV own index RX7 yX7_readsCommand wsX7_readsCommand)) (hR : 3 + 1 ≤ R.frames ∧ 8 + (4 + 11) + 64 ≤ R.locals) (hcs : cells ≤ R.cells ∧ slots ≤ R.slots) (hK : zK D cy s) (hj : zI 6 ad) (hw : zW D 6 (zme cy ad σ) ad H) {A0 : Nat → Prop} (hA : ∀ i, i < 6 → A0 (ad i)) (hS : va_S A0 H0 H locs) (hsz : ls.size = nL) (hrest : (rest.map fun v => v.category).sum ≤ 8) (hdg : decode cc pc = .ok (.invokevirtual index, 3)) (h : wp_X7_readsCommand σ  Q) (kk : ∀ (r : Int32) (σ : ST) (H : Heap) (locs : List Loc), Q r σ → zW D 6 (zme cy ad σ) ad H → va_S A0 H0 H locs → W p l e R s m args below meth c H locs cells slots QQ (F0 m (pc + 3) ls (.int r :: rest))) : W p l e R s m args below meth c H locs cells slots QQ (F0 m pc ls (.ref (ad 0) :: rest)) :=
  zcalli (va_runV (As := []) (rest := rest) ⟨hx, hb, hml, hown, hts⟩ (c_X7_readsCommand l D cy ad σ  h) (cwV 0 hts hG rfl rfl rfl (by decide +kernel) hR) (zpreV hj hK hw _ (i := 0) (ci := 6) (by decide) rfl rfl) rfl rfl hsz rfl (lv_room hrest) hdg hcs) hA hS kk
set_option maxHeartbeats 4000000 in
set_option maxRecDepth 100000 in
theorem c_X7_reads (l : Launch) (D : va_G) (cy : cyT) (ad : Nat → Nat) (σ : ST) {Q : Int32 → ST → Prop} (h : wp_X7_reads σ Q) : Met l yX7_reads wsX7_reads ({ frames := 4, cells := 0, slots := 0, locals := 87 } : Room) (zPre D cy 6 (zme cy ad σ) ad [.ref (ad 0)]) (va_Qi Q (zB D 6 (zme cy ad) ad) (zA 6 ad)) 0 0 (zA 6 ad) := by
  refine Met.ofW (cc := cX7_reads) (maxL := 2) (ret := (some .boolean)) (by decide) rfl ?_
  intro p e s m args below meth c s₁ B hml hv
  obtain ⟨rfl, hj, hK, hw⟩ := hv
  have hx := B.exec
  have hb := B.bytes
  have hr := B.returns
  have hts := atoms_spec (ws := wsX7_reads) B.pre
  have hown : s.vm.findClass RX7 = some m.cls := findClass_of_methodNamed B.named
  have hlocks := B.notSynchronized
  have lk0 : Cond.fieldLink RX7 199 "TypeTraysModel" "place" "I" ∈ wsX7_reads := List.mem_of_getElem? (i := 1) rfl
  have lk1 : Cond.fieldLink RX7 212 "TypeTraysModel" "many" "I" ∈ wsX7_reads := List.mem_of_getElem? (i := 2) rfl
  have lk2 : Cond.fieldLink RX7 187 "TypeTraysModel" "typed" "I" ∈ wsX7_reads := List.mem_of_getElem? (i := 3) rfl
  have inX7 : ∀ w ∈ u_ws RX7 TX7 16, w ∈ wsX7_reads := zin_at 36 rfl
  have hS : va_S (zA 6 ad) s.heap s.heap [] := va_S.rf
  have hA : ∀ i, i < 6 → zA 6 ad (ad i) := fun i hi => ⟨i, hi, rfl⟩
  have hl := lv_entry ([.ref (ad 0)]) (n := 2) (Nat.le_of_ble_eq_true rfl)
  rw [lg_entry_eq]
  generalize (lg_sl ([.ref (ad 0)]) ++ List.replicate (2 - (lg_sl ([.ref (ad 0)])).length) Slot.unset).toArray = ls at hl ⊢
  have hl : lv_has ls 2 [(0, .ref (ad 0))] := hl
  show W p l e ({ frames := 4, cells := 0, slots := 0, locals := 87 } : Room) s m ([.ref (ad 0)] : List Value).toArray below meth c s.heap [] 0 0 (MQ below (va_Qi Q (zB D 6 (zme cy ad) ad) (zA 6 ad)) ([.ref (ad 0)] : List Value).toArray s 0 0 (zA 6 ad)) (F0 m 0 ls [])
  unfold wp_X7_reads at h
  refine lv_aload_n hx hb dX7_reads_0 rfl (lv_at hl 0 rfl) ?_
  refine lv_iconst (v := (jI 0)) hx hb dX7_reads_1 rfl ?_
  obtain ⟨s1, es1⟩ : ∃ y : ST, y = zsp σ 9 (jI 0) := ⟨_, rfl⟩
  have h := h s1 es1
  refine zput (ty := .int) hx hb hts inX7 tyX7 tyX7_ok nmX7 hown hK hj hw hA hS 0 (by decide) rfl rfl 13 (by decide) lk0 (fun _ h9 => h9) rfl (by decide +kernel) rfl rfl (Nat.le_of_ble_eq_true rfl) dX7_reads_2 (zme cy ad s1) (by rw [es1]; rfl) (fun j hj9 => by rw [es1]; exact zsp_off_M_9 j hj9) (fun H locs hw hS => ?_)
  refine lv_aload_n hx hb dX7_reads_5 rfl (lv_at hl 0 rfl) ?_
  refine lv_iconst (v := (jI 0)) hx hb dX7_reads_6 rfl ?_
  obtain ⟨s2, es2⟩ : ∃ y : ST, y = zsp s1 10 (jI 0) := ⟨_, rfl⟩
  have h := h s2 es2
  refine zput (ty := .int) hx hb hts inX7 tyX7 tyX7_ok nmX7 hown hK hj hw hA hS 0 (by decide) rfl rfl 15 (by decide) lk1 (fun _ h9 => h9) rfl (by decide +kernel) rfl rfl (Nat.le_of_ble_eq_true rfl) dX7_reads_7 (zme cy ad s2) (by rw [es2]; rfl) (fun j hj9 => by rw [es2]; exact zsp_off_M_10 j hj9) (fun H locs hw hS => ?_)
  refine lv_aload_n hx hb dX7_reads_10 rfl (lv_at hl 0 rfl) ?_
  refine k_X7_skips (rest := []) hx hb hml hown hts gX7_reads_X7_skips ⟨Nat.le_of_ble_eq_true rfl, Nat.le_of_ble_eq_true rfl⟩ ⟨Nat.zero_le _, Nat.zero_le _⟩ hK hj hw hA hS hl.1 (Nat.le_of_ble_eq_true rfl) dX7_reads_11 h (fun r1 s3 H locs h hw hS => ?_)
  refine lv_pop hx hb dX7_reads_14 rfl ?_
  refine lv_iconst (v := (jI 1)) hx hb dX7_reads_15 rfl ?_
  refine lv_istore_n (lv' := [(1, .int (jI 1)), (0, .ref (ad 0))]) hx hb dX7_reads_16 rfl hl (by decide) rfl (fun ls hl => ?_)
  have k49_17 : ∀ (u_49 : ST) (z1_49 : Int32) (H : Heap) (locs : List Loc), (narrow .boolean (.int z1_49) = .int z1_49 ∧ Q z1_49 u_49) → zW D 6 (zme cy ad u_49) ad H → va_S (zA 6 ad) s.heap H locs → ∀ ls : Array Slot, lv_has ls 2 [(1, .int z1_49)] → W p l e ({ frames := 4, cells := 0, slots := 0, locals := 87 } : Room) s m ([.ref (ad 0)] : List Value).toArray below meth c H locs 0 0 (MQ below (va_Qi Q (zB D 6 (zme cy ad) ad) (zA 6 ad)) ([.ref (ad 0)] : List Value).toArray s 0 0 (zA 6 ad)) (F0 m 49 ls []) := by
    intro u_49 z1_49 H locs h hw hS ls hl
    refine lv_iload_n hx hb dX7_reads_49 rfl (lv_at hl 0 rfl) ?_
    exact W.zret (v := z1_49) (ty := .boolean) hx hb hr h.1 (fun t ht hW => ⟨⟨_, _, rfl, h.2, zend hw ht⟩, hS.F ht⟩) hS.2.2 dX7_reads_50
  have lp17 : ∀ (nn17 : Nat) (t_17 : ST) (y1_17 : Int32) (H : Heap) (locs : List Loc), wl_X7_reads_17 (fun u_49 z1_49 => (narrow .boolean (.int z1_49) = .int z1_49 ∧ Q z1_49 u_49))  nn17 t_17 y1_17 → zW D 6 (zme cy ad t_17) ad H → va_S (zA 6 ad) s.heap H locs → ∀ ls : Array Slot, lv_has ls 2 [(0, .ref (ad 0)), (1, .int y1_17)] → W p l e ({ frames := 4, cells := 0, slots := 0, locals := 87 } : Room) s m ([.ref (ad 0)] : List Value).toArray below meth c H locs 0 0 (MQ below (va_Qi Q (zB D 6 (zme cy ad) ad) (zA 6 ad)) ([.ref (ad 0)] : List Value).toArray s 0 0 (zA 6 ad)) (F0 m 17 ls []) := by
    intro nn17
    induction nn17 with
    | zero => intro _ _ _ _ h; exact h.elim
    | succ nn17 ih17 =>
      intro t_17 y1_17 H locs h hw hS ls hl
      simp only [wl_X7_reads_17, wb_X7_reads_17] at h
      refine lv_iload_n hx hb dX7_reads_17 rfl (lv_at hl 1 rfl) ?_
      refine zif_eq (tgt := 49) hx hb dX7_reads_18 (by decide) (fun c1 => ?_) (fun c1 => ?_)
      · have h := h.1 c1
        exact k49_17 _ _ _ _ h hw hS _ (lv_sub hl [1] rfl)
      · have h := h.2 c1
        refine lv_aload_n hx hb dX7_reads_21 rfl (lv_at hl 0 rfl) ?_
        refine zget hx hb hts inX7 hown hK hw 0 (by decide) rfl rfl 13 (by decide) lk0 (fun _ h9 => h9) rfl dX7_reads_22 ?_
        refine lv_aload_n hx hb dX7_reads_25 rfl (lv_at hl 0 rfl) ?_
        refine zget hx hb hts inX7 hown hK hw 0 (by decide) rfl rfl 12 (by decide) lk2 (fun _ h9 => h9) rfl dX7_reads_26 ?_
        refine lv_icmp_ge (tgt := 49) hx hb dX7_reads_29 (by decide) (fun c2 => ?_) (fun c2 => ?_)
        · have h := h.1 c2
          exact k49_17 _ _ _ _ h hw hS _ (lv_sub hl [1] rfl)
        · have h := h.2 c2
          refine lv_aload_n hx hb dX7_reads_32 rfl (lv_at hl 0 rfl) ?_
          refine k_X7_readsCommand (rest := []) hx hb hml hown hts gX7_reads_X7_readsCommand ⟨Nat.le_of_ble_eq_true rfl, Nat.le_of_ble_eq_true rfl⟩ ⟨Nat.zero_le _, Nat.zero_le _⟩ hK hj hw hA hS hl.1 (Nat.le_of_ble_eq_true rfl) dX7_reads_33 h (fun r2 s4 H locs h hw hS => ?_)
          refine lv_istore_n (lv' := [(1, .int r2), (0, .ref (ad 0))]) hx hb dX7_reads_36 rfl hl (by decide) rfl (fun ls hl => ?_)
          refine lv_iload_n hx hb dX7_reads_37 rfl (lv_at hl 0 rfl) ?_
          refine zif_eq (tgt := 17) hx hb dX7_reads_38 (by decide) (fun c3 => ?_) (fun c3 => ?_)
          · have h := h.1 c3
            exact ih17 _ _ _ _ h hw hS _ (lv_sub hl [1, 0] rfl)
          · have h := h.2 c3
            refine lv_aload_n hx hb dX7_reads_41 rfl (lv_at hl 1 rfl) ?_
            refine k_X7_skips (rest := []) hx hb hml hown hts gX7_reads_X7_skips ⟨Nat.le_of_ble_eq_true rfl, Nat.le_of_ble_eq_true rfl⟩ ⟨Nat.zero_le _, Nat.zero_le _⟩ hK hj hw hA hS hl.1 (Nat.le_of_ble_eq_true rfl) dX7_reads_42 h (fun r3 s5 H locs h hw hS => ?_)
            refine lv_pop hx hb dX7_reads_45 rfl ?_
            refine lv_goto (tgt := 17) hx hb dX7_reads_46 (by decide) ?_
            exact ih17 _ _ _ _ h hw hS _ (lv_sub hl [1, 0] rfl)
  obtain ⟨nn17, h⟩ := h
  exact lp17 nn17 _ _ _ _ h hw hS _ (lv_sub hl [1, 0] rfl)
theorem k_X7_reads {p : Program} {l : Launch} {e : Env} {R : Room} {s : State} {m : MethodId} {args : Array Value} {below : List Frame} {meth : Method} {c : Code} {H : Heap} {locs : List Loc} {cells slots : Nat} {QQ : State → Prop} {cc : ByteArray} {pc nL index : Nat} {ls : Array Slot} {rest : List Value} {D : va_G} {cy : cyT} {ad : Nat → Nat} {own : String} {Ts : List Cond} {H0 : Heap} {σ : ST}  {Q : Int32 → ST → Prop} (hx : p.tables.exec = Jvm.exec) (hb : c.code = cc) (hml : c.maxLocals = nL) (hown : s.vm.findClass own = some m.cls) (hts : ∀ w ∈ Ts, w.before args s = true) (hG : GoodIn Ts (wsV own index RX7 yX7_reads wsX7_reads)) (hR : 4 + 1 ≤ R.frames ∧ 8 + (2 + 11) + 87 ≤ R.locals) (hcs : cells ≤ R.cells ∧ slots ≤ R.slots) (hK : zK D cy s) (hj : zI 6 ad) (hw : zW D 6 (zme cy ad σ) ad H) {A0 : Nat → Prop} (hA : ∀ i, i < 6 → A0 (ad i)) (hS : va_S A0 H0 H locs) (hsz : ls.size = nL) (hrest : (rest.map fun v => v.category).sum ≤ 8) (hdg : decode cc pc = .ok (.invokevirtual index, 3)) (h : wp_X7_reads σ  Q) (kk : ∀ (r : Int32) (σ : ST) (H : Heap) (locs : List Loc), Q r σ → zW D 6 (zme cy ad σ) ad H → va_S A0 H0 H locs → W p l e R s m args below meth c H locs cells slots QQ (F0 m (pc + 3) ls (.int r :: rest))) : W p l e R s m args below meth c H locs cells slots QQ (F0 m pc ls (.ref (ad 0) :: rest)) :=
  zcalli (va_runV (As := []) (rest := rest) ⟨hx, hb, hml, hown, hts⟩ (c_X7_reads l D cy ad σ  h) (cwV 0 hts hG rfl rfl rfl (by decide +kernel) hR) (zpreV hj hK hw _ (i := 0) (ci := 6) (by decide) rfl rfl) rfl rfl hsz rfl (lv_room hrest) hdg hcs) hA hS kk
set_option maxHeartbeats 4000000 in
set_option maxRecDepth 100000 in
theorem c_X7_does (l : Launch) (D : va_G) (cy : cyT) (ad : Nat → Nat) (σ : ST) (p0 : Int32) {Q : Int32 → ST → Prop} (h : wp_X7_does σ p0 Q) : Met l yX7_does wsX7_does ({ frames := 7, cells := 0, slots := 0, locals := 157 } : Room) (zPre D cy 6 (zme cy ad σ) ad [.ref (ad 0), .int p0]) (va_Qi Q (zB D 6 (zme cy ad) ad) (zA 6 ad)) 0 0 (zA 6 ad) := by
  refine Met.ofW (cc := cX7_does) (maxL := 5) (ret := (some .boolean)) (by decide) rfl ?_
  intro p e s m args below meth c s₁ B hml hv
  obtain ⟨rfl, hj, hK, hw⟩ := hv
  have hx := B.exec
  have hb := B.bytes
  have hr := B.returns
  have hts := atoms_spec (ws := wsX7_does) B.pre
  have hown : s.vm.findClass RX7 = some m.cls := findClass_of_methodNamed B.named
  have hlocks := B.notSynchronized
  have lk0 : Cond.fieldLink RX7 23 "TypeTraysModel" "commands" "[I" ∈ wsX7_does := List.mem_of_getElem? (i := 1) rfl
  have lk1 : Cond.fieldLink RX7 7 "TypeTraysModel" "w" "[I" ∈ wsX7_does := List.mem_of_getElem? (i := 2) rfl
  have inX7 : ∀ w ∈ u_ws RX7 TX7 16, w ∈ wsX7_does := zin_at 127 rfl
  have hS : va_S (zA 6 ad) s.heap s.heap [] := va_S.rf
  have hA : ∀ i, i < 6 → zA 6 ad (ad i) := fun i hi => ⟨i, hi, rfl⟩
  have hl := lv_entry ([.ref (ad 0), .int p0]) (n := 5) (Nat.le_of_ble_eq_true rfl)
  rw [lg_entry_eq]
  generalize (lg_sl ([.ref (ad 0), .int p0]) ++ List.replicate (5 - (lg_sl ([.ref (ad 0), .int p0])).length) Slot.unset).toArray = ls at hl ⊢
  have hl : lv_has ls 5 [(0, .ref (ad 0)), (1, .int p0)] := hl
  show W p l e ({ frames := 7, cells := 0, slots := 0, locals := 157 } : Room) s m ([.ref (ad 0), .int p0] : List Value).toArray below meth c s.heap [] 0 0 (MQ below (va_Qi Q (zB D 6 (zme cy ad) ad) (zA 6 ad)) ([.ref (ad 0), .int p0] : List Value).toArray s 0 0 (zA 6 ad)) (F0 m 0 ls [])
  unfold wp_X7_does at h
  refine lv_aload_n hx hb dX7_does_0 rfl (lv_at hl 0 rfl) ?_
  refine zget hx hb hts inX7 hown hK hw 0 (by decide) rfl rfl 14 (by decide) lk0 (fun _ h9 => h9) rfl dX7_does_1 ?_
  refine lv_iload_n hx hb dX7_does_4 rfl (lv_at hl 1 rfl) ?_
  refine lv_iconst (v := (jI 1)) hx hb dX7_does_5 rfl ?_
  refine lv_iadd hx hb dX7_does_6 ?_
  refine ziald hx hb hK hw 5 (by decide) rfl h.1 dX7_does_7 ?_
  refine lv_topi (fun v1 ev1 => ?_)
  have h := h.2 v1 ev1
  refine lv_istore_n (lv' := [(2, .int v1), (0, .ref (ad 0)), (1, .int p0)]) hx hb dX7_does_8 rfl hl (by decide) rfl (fun ls hl => ?_)
  refine lv_aload_n hx hb dX7_does_9 rfl (lv_at hl 1 rfl) ?_
  refine zget hx hb hts inX7 hown hK hw 0 (by decide) rfl rfl 14 (by decide) lk0 (fun _ h9 => h9) rfl dX7_does_10 ?_
  refine lv_iload_n hx hb dX7_does_13 rfl (lv_at hl 2 rfl) ?_
  refine lv_iconst (v := (jI 2)) hx hb dX7_does_14 rfl ?_
  refine lv_iadd hx hb dX7_does_15 ?_
  refine ziald hx hb hK hw 5 (by decide) rfl h.1 dX7_does_16 ?_
  refine lv_topi (fun v2 ev2 => ?_)
  have h := h.2 v2 ev2
  refine lv_istore_n (lv' := [(3, .int v2), (2, .int v1), (0, .ref (ad 0)), (1, .int p0)]) hx hb dX7_does_17 rfl hl (by decide) rfl (fun ls hl => ?_)
  refine lv_aload_n hx hb dX7_does_18 rfl (lv_at hl 2 rfl) ?_
  refine zget hx hb hts inX7 hown hK hw 0 (by decide) rfl rfl 14 (by decide) lk0 (fun _ h9 => h9) rfl dX7_does_19 ?_
  refine lv_iload_n hx hb dX7_does_22 rfl (lv_at hl 3 rfl) ?_
  refine lv_iconst (v := (jI 3)) hx hb dX7_does_23 rfl ?_
  refine lv_iadd hx hb dX7_does_24 ?_
  refine ziald hx hb hK hw 5 (by decide) rfl h.1 dX7_does_25 ?_
  refine lv_topi (fun v3 ev3 => ?_)
  have h := h.2 v3 ev3
  refine lv_istore (lv' := [(4, .int v3), (3, .int v2), (2, .int v1), (0, .ref (ad 0)), (1, .int p0)]) hx hb dX7_does_26 hl (by decide) rfl (fun ls hl => ?_)
  refine lv_aload_n hx hb dX7_does_28 rfl (lv_at hl 3 rfl) ?_
  refine zget hx hb hts inX7 hown hK hw 0 (by decide) rfl rfl 14 (by decide) lk0 (fun _ h9 => h9) rfl dX7_does_29 ?_
  refine lv_iload_n hx hb dX7_does_32 rfl (lv_at hl 4 rfl) ?_
  refine ziald hx hb hK hw 5 (by decide) rfl h.1 dX7_does_33 ?_
  refine lv_topi (fun v4 ev4 => ?_)
  have h := h.2 v4 ev4
  rcases Classical.em (v4 = (jI 1)) with c1 | c1
  · have h := h.1 c1
    refine lv_tableIn (tgt := 68) (off := 34) hx hb dX7_does_34 (by rw [c1]; decide +kernel) (by rw [c1]; decide +kernel) (by rw [c1]; decide +kernel) (by decide) ?_
    refine lv_iload_n hx hb dX7_does_68 rfl (lv_at hl 2 rfl) ?_
    refine lv_iload_n hx hb dX7_does_69 rfl (lv_at hl 1 rfl) ?_
    refine lv_iload hx hb dX7_does_70 (lv_at hl 0 rfl) ?_
    refine k_X7_cutBars (rest := []) hx hb hml hown hts gX7_does_X7_cutBars ⟨Nat.le_of_ble_eq_true rfl, Nat.le_of_ble_eq_true rfl⟩ ⟨Nat.zero_le _, Nat.zero_le _⟩ hK hj hw hA hS hl.1 (Nat.le_of_ble_eq_true rfl) dX7_does_72 h (fun r1 s1 H locs h hw hS => ?_)
    refine zif_ne (tgt := 93) hx hb dX7_does_75 (by decide) (fun c2 => ?_) (fun c2 => ?_)
    · have h := h.2 c2
      refine lv_iconst (v := (jI 0)) hx hb dX7_does_93 rfl ?_
      exact W.zret (v := (jI 0)) (ty := .boolean) hx hb hr (by decide +kernel) (fun t ht hW => ⟨⟨_, _, rfl, h, zend hw ht⟩, hS.F ht⟩) hS.2.2 dX7_does_94
    · have h := h.1 c2
      refine lv_aload_n hx hb dX7_does_78 rfl (lv_at hl 3 rfl) ?_
      refine lv_iload_n hx hb dX7_does_79 rfl (lv_at hl 2 rfl) ?_
      refine lv_iload_n hx hb dX7_does_80 rfl (lv_at hl 1 rfl) ?_
      refine lv_iload hx hb dX7_does_81 (lv_at hl 0 rfl) ?_
      refine k_X7_cuts (rest := []) hx hb hml hown hts gX7_does_X7_cuts ⟨Nat.le_of_ble_eq_true rfl, Nat.le_of_ble_eq_true rfl⟩ ⟨Nat.zero_le _, Nat.zero_le _⟩ hK hj hw hA hS hl.1 (Nat.le_of_ble_eq_true rfl) dX7_does_83 h (fun r2 s2 H locs h hw hS => ?_)
      refine zif_lt (tgt := 93) hx hb dX7_does_86 (by decide) (fun c3 => ?_) (fun c3 => ?_)
      · have h := h.1 c3
        refine lv_iconst (v := (jI 0)) hx hb dX7_does_93 rfl ?_
        exact W.zret (v := (jI 0)) (ty := .boolean) hx hb hr (by decide +kernel) (fun t ht hW => ⟨⟨_, _, rfl, h, zend hw ht⟩, hS.F ht⟩) hS.2.2 dX7_does_94
      · have h := h.2 c3
        refine lv_iconst (v := (jI 1)) hx hb dX7_does_89 rfl ?_
        refine lv_goto (tgt := 94) hx hb dX7_does_90 (by decide) ?_
        exact W.zret (v := (jI 1)) (ty := .boolean) hx hb hr (by decide +kernel) (fun t ht hW => ⟨⟨_, _, rfl, h, zend hw ht⟩, hS.F ht⟩) hS.2.2 dX7_does_94
  have h := h.2 c1
  rcases Classical.em (v4 = (jI 2)) with c4 | c4
  · have h := h.1 c4
    refine lv_tableIn (tgt := 95) (off := 61) hx hb dX7_does_34 (by rw [c4]; decide +kernel) (by rw [c4]; decide +kernel) (by rw [c4]; decide +kernel) (by decide) ?_
    refine lv_iload_n hx hb dX7_does_95 rfl (lv_at hl 2 rfl) ?_
    refine lv_iload_n hx hb dX7_does_96 rfl (lv_at hl 1 rfl) ?_
    refine lv_iload hx hb dX7_does_97 (lv_at hl 0 rfl) ?_
    refine k_X7_bars (rest := []) hx hb hml hown hts gX7_does_X7_bars ⟨Nat.le_of_ble_eq_true rfl, Nat.le_of_ble_eq_true rfl⟩ ⟨Nat.zero_le _, Nat.zero_le _⟩ hK hj hw hA hS hl.1 (Nat.le_of_ble_eq_true rfl) dX7_does_99 h (fun r3 s3 H locs h hw hS => ?_)
    refine zif_ne (tgt := 124) hx hb dX7_does_102 (by decide) (fun c5 => ?_) (fun c5 => ?_)
    · have h := h.2 c5
      refine lv_iconst (v := (jI 0)) hx hb dX7_does_124 rfl ?_
      exact W.zret (v := (jI 0)) (ty := .boolean) hx hb hr (by decide +kernel) (fun t ht hW => ⟨⟨_, _, rfl, h, zend hw ht⟩, hS.F ht⟩) hS.2.2 dX7_does_125
    · have h := h.1 c5
      refine lv_aload_n hx hb dX7_does_105 rfl (lv_at hl 3 rfl) ?_
      refine lv_iload_n hx hb dX7_does_106 rfl (lv_at hl 2 rfl) ?_
      refine lv_iload_n hx hb dX7_does_107 rfl (lv_at hl 1 rfl) ?_
      refine lv_iload hx hb dX7_does_108 (lv_at hl 0 rfl) ?_
      refine k_X7_number (rest := [.ref (ad 0)]) hx hb hml hown hts gX7_does_X7_number ⟨Nat.le_of_ble_eq_true rfl, Nat.le_of_ble_eq_true rfl⟩ ⟨Nat.zero_le _, Nat.zero_le _⟩ hK hj hw hA hS hl.1 (Nat.le_of_ble_eq_true rfl) dX7_does_110 h (fun r4 s4 H locs h hw hS => ?_)
      refine k_X7_uses (rest := []) hx hb hml hown hts gX7_does_X7_uses ⟨Nat.le_of_ble_eq_true rfl, Nat.le_of_ble_eq_true rfl⟩ ⟨Nat.zero_le _, Nat.zero_le _⟩ hK hj hw hA hS hl.1 (Nat.le_of_ble_eq_true rfl) dX7_does_113 h (fun r5 s5 H locs h hw hS => ?_)
      refine lv_iconst (v := (jI (-1))) hx hb dX7_does_116 rfl ?_
      refine lv_icmp_eq (tgt := 124) hx hb dX7_does_117 (by decide) (fun c6 => ?_) (fun c6 => ?_)
      · have h := h.1 c6
        refine lv_iconst (v := (jI 0)) hx hb dX7_does_124 rfl ?_
        exact W.zret (v := (jI 0)) (ty := .boolean) hx hb hr (by decide +kernel) (fun t ht hW => ⟨⟨_, _, rfl, h, zend hw ht⟩, hS.F ht⟩) hS.2.2 dX7_does_125
      · have h := h.2 c6
        refine lv_iconst (v := (jI 1)) hx hb dX7_does_120 rfl ?_
        refine lv_goto (tgt := 125) hx hb dX7_does_121 (by decide) ?_
        exact W.zret (v := (jI 1)) (ty := .boolean) hx hb hr (by decide +kernel) (fun t ht hW => ⟨⟨_, _, rfl, h, zend hw ht⟩, hS.F ht⟩) hS.2.2 dX7_does_125
  have h := h.2 c4
  rcases Classical.em (v4 = (jI 3)) with c7 | c7
  · have h := h.1 c7
    refine lv_tableIn (tgt := 126) (off := 92) hx hb dX7_does_34 (by rw [c7]; decide +kernel) (by rw [c7]; decide +kernel) (by rw [c7]; decide +kernel) (by decide) ?_
    refine lv_iload_n hx hb dX7_does_126 rfl (lv_at hl 2 rfl) ?_
    refine lv_iload_n hx hb dX7_does_127 rfl (lv_at hl 1 rfl) ?_
    refine lv_iload hx hb dX7_does_128 (lv_at hl 0 rfl) ?_
    refine k_X7_bars (rest := []) hx hb hml hown hts gX7_does_X7_bars ⟨Nat.le_of_ble_eq_true rfl, Nat.le_of_ble_eq_true rfl⟩ ⟨Nat.zero_le _, Nat.zero_le _⟩ hK hj hw hA hS hl.1 (Nat.le_of_ble_eq_true rfl) dX7_does_130 h (fun r6 s6 H locs h hw hS => ?_)
    refine zif_gt (tgt := 150) hx hb dX7_does_133 (by decide) (fun c8 => ?_) (fun c8 => ?_)
    · have h := h.1 c8
      refine lv_iconst (v := (jI 0)) hx hb dX7_does_150 rfl ?_
      exact W.zret (v := (jI 0)) (ty := .boolean) hx hb hr (by decide +kernel) (fun t ht hW => ⟨⟨_, _, rfl, h, zend hw ht⟩, hS.F ht⟩) hS.2.2 dX7_does_151
    · have h := h.2 c8
      refine lv_aload_n hx hb dX7_does_136 rfl (lv_at hl 3 rfl) ?_
      refine lv_iload_n hx hb dX7_does_137 rfl (lv_at hl 2 rfl) ?_
      refine lv_iload_n hx hb dX7_does_138 rfl (lv_at hl 1 rfl) ?_
      refine lv_iload hx hb dX7_does_139 (lv_at hl 0 rfl) ?_
      refine k_X7_number (rest := [.ref (ad 0)]) hx hb hml hown hts gX7_does_X7_number ⟨Nat.le_of_ble_eq_true rfl, Nat.le_of_ble_eq_true rfl⟩ ⟨Nat.zero_le _, Nat.zero_le _⟩ hK hj hw hA hS hl.1 (Nat.le_of_ble_eq_true rfl) dX7_does_141 h (fun r7 s7 H locs h hw hS => ?_)
      refine k_X7_is (rest := []) hx hb hml hown hts gX7_does_X7_is ⟨Nat.le_of_ble_eq_true rfl, Nat.le_of_ble_eq_true rfl⟩ ⟨Nat.zero_le _, Nat.zero_le _⟩ hK hj hw hA hS hl.1 (Nat.le_of_ble_eq_true rfl) dX7_does_144 h (fun r8 s8 H locs h hw hS => ?_)
      refine zif_ne (tgt := 152) hx hb dX7_does_147 (by decide) (fun c9 => ?_) (fun c9 => ?_)
      · have h := h.2 c9
        refine lv_aload_n hx hb dX7_does_152 rfl (lv_at hl 3 rfl) ?_
        refine lv_iload_n hx hb dX7_does_153 rfl (lv_at hl 2 rfl) ?_
        refine lv_iload_n hx hb dX7_does_154 rfl (lv_at hl 1 rfl) ?_
        refine lv_iload hx hb dX7_does_155 (lv_at hl 0 rfl) ?_
        refine k_X7_number (rest := [.ref (ad 0)]) hx hb hml hown hts gX7_does_X7_number ⟨Nat.le_of_ble_eq_true rfl, Nat.le_of_ble_eq_true rfl⟩ ⟨Nat.zero_le _, Nat.zero_le _⟩ hK hj hw hA hS hl.1 (Nat.le_of_ble_eq_true rfl) dX7_does_157 h (fun r9 s9 H locs h hw hS => ?_)
        refine k_X7_goes (rest := []) hx hb hml hown hts gX7_does_X7_goes ⟨Nat.le_of_ble_eq_true rfl, Nat.le_of_ble_eq_true rfl⟩ ⟨Nat.zero_le _, Nat.zero_le _⟩ hK hj hw hA hS hl.1 (Nat.le_of_ble_eq_true rfl) dX7_does_160 h (fun s10 H locs h hw hS => ?_)
        refine lv_iconst (v := (jI 1)) hx hb dX7_does_163 rfl ?_
        exact W.zret (v := (jI 1)) (ty := .boolean) hx hb hr (by decide +kernel) (fun t ht hW => ⟨⟨_, _, rfl, h, zend hw ht⟩, hS.F ht⟩) hS.2.2 dX7_does_164
      · have h := h.1 c9
        refine lv_iconst (v := (jI 0)) hx hb dX7_does_150 rfl ?_
        exact W.zret (v := (jI 0)) (ty := .boolean) hx hb hr (by decide +kernel) (fun t ht hW => ⟨⟨_, _, rfl, h, zend hw ht⟩, hS.F ht⟩) hS.2.2 dX7_does_151
  have h := h.2 c7
  rcases Classical.em (v4 = (jI 4)) with c10 | c10
  · have h := h.1 c10
    refine lv_tableIn (tgt := 165) (off := 131) hx hb dX7_does_34 (by rw [c10]; decide +kernel) (by rw [c10]; decide +kernel) (by rw [c10]; decide +kernel) (by decide) ?_
    refine lv_aload_n hx hb dX7_does_165 rfl (lv_at hl 3 rfl) ?_
    refine zget hx hb hts inX7 hown hK hw 0 (by decide) rfl rfl 0 (by decide) lk1 (fun _ h9 => h9) rfl dX7_does_166 ?_
    refine lv_iconst (v := (jI 1)) hx hb dX7_does_169 rfl ?_
    refine lv_dup2_11 hx hb dX7_does_170 rfl rfl ?_
    refine ziald hx hb hK hw 1 (by decide) rfl h.1 dX7_does_171 ?_
    refine lv_topi (fun v5 ev5 => ?_)
    have h := h.2 v5 ev5
    refine lv_iconst (v := (jI 1)) hx hb dX7_does_172 rfl ?_
    refine lv_iadd hx hb dX7_does_173 ?_
    obtain ⟨s11, es11⟩ : ∃ y : ST, y = zrp σ 0 (jI 1).toNatClampNeg (v5 + (jI 1)) := ⟨_, rfl⟩
    refine ziast hx hb hK hj hw hA hS 1 (by decide) rfl h.1 dX7_does_174 (zme cy ad s11) (by rw [es11]; exact zrp_on_M_0) (fun j hj9 => by rw [es11]; exact zrp_off_M_0 j hj9) (fun H locs hw hS => ?_)
    have h := h.2 s11 es11
    refine lv_iconst (v := (jI 1)) hx hb dX7_does_175 rfl ?_
    exact W.zret (v := (jI 1)) (ty := .boolean) hx hb hr (by decide +kernel) (fun t ht hW => ⟨⟨_, _, rfl, h, zend hw ht⟩, hS.F ht⟩) hS.2.2 dX7_does_176
  have h := h.2 c10
  rcases Classical.em (v4 = (jI 5)) with c11 | c11
  · have h := h.1 c11
    refine lv_tableIn (tgt := 177) (off := 143) hx hb dX7_does_34 (by rw [c11]; decide +kernel) (by rw [c11]; decide +kernel) (by rw [c11]; decide +kernel) (by decide) ?_
    refine lv_aload_n hx hb dX7_does_177 rfl (lv_at hl 3 rfl) ?_
    refine zget hx hb hts inX7 hown hK hw 0 (by decide) rfl rfl 0 (by decide) lk1 (fun _ h9 => h9) rfl dX7_does_178 ?_
    refine lv_iconst (v := (jI 0)) hx hb dX7_does_181 rfl ?_
    refine ziald hx hb hK hw 1 (by decide) rfl h.1 dX7_does_182 ?_
    refine lv_topi (fun v6 ev6 => ?_)
    have h := h.2 v6 ev6
    refine lv_iconst (v := (jI 3)) hx hb dX7_does_183 rfl ?_
    refine lv_icmp_ge (tgt := 198) hx hb dX7_does_184 (by decide) (fun c12 => ?_) (fun c12 => ?_)
    · have h := h.1 c12
      refine lv_iconst (v := (jI 0)) hx hb dX7_does_198 rfl ?_
      exact W.zret (v := (jI 0)) (ty := .boolean) hx hb hr (by decide +kernel) (fun t ht hW => ⟨⟨_, _, rfl, h, zend hw ht⟩, hS.F ht⟩) hS.2.2 dX7_does_199
    · have h := h.2 c12
      refine lv_aload_n hx hb dX7_does_187 rfl (lv_at hl 3 rfl) ?_
      refine k_X7_addsTray (rest := []) hx hb hml hown hts gX7_does_X7_addsTray ⟨Nat.le_of_ble_eq_true rfl, Nat.le_of_ble_eq_true rfl⟩ ⟨Nat.zero_le _, Nat.zero_le _⟩ hK hj hw hA hS hl.1 (Nat.le_of_ble_eq_true rfl) dX7_does_188 h (fun r10 s12 H locs h hw hS => ?_)
      refine zif_le (tgt := 198) hx hb dX7_does_191 (by decide) (fun c13 => ?_) (fun c13 => ?_)
      · have h := h.1 c13
        refine lv_iconst (v := (jI 0)) hx hb dX7_does_198 rfl ?_
        exact W.zret (v := (jI 0)) (ty := .boolean) hx hb hr (by decide +kernel) (fun t ht hW => ⟨⟨_, _, rfl, h, zend hw ht⟩, hS.F ht⟩) hS.2.2 dX7_does_199
      · have h := h.2 c13
        refine lv_iconst (v := (jI 1)) hx hb dX7_does_194 rfl ?_
        refine lv_goto (tgt := 199) hx hb dX7_does_195 (by decide) ?_
        exact W.zret (v := (jI 1)) (ty := .boolean) hx hb hr (by decide +kernel) (fun t ht hW => ⟨⟨_, _, rfl, h, zend hw ht⟩, hS.F ht⟩) hS.2.2 dX7_does_199
  have h := h.2 c11
  have hsw1 := zsw_out (x := v4) (1) 5 (fun k hk => by
    match k, hk with
    | 0, _ => exact c1
    | 1, _ => exact c4
    | 2, _ => exact c7
    | 3, _ => exact c10
    | 4, _ => exact c11
    | k + 5, hk => exact absurd hk (by omega))
  refine lv_tableOut (tgt := 200) hx hb dX7_does_34 hsw1 (by decide) ?_
  refine lv_aload_n hx hb dX7_does_200 rfl (lv_at hl 3 rfl) ?_
  refine k_X7_closes (rest := []) hx hb hml hown hts gX7_does_X7_closes ⟨Nat.le_of_ble_eq_true rfl, Nat.le_of_ble_eq_true rfl⟩ ⟨Nat.zero_le _, Nat.zero_le _⟩ hK hj hw hA hS hl.1 (Nat.le_of_ble_eq_true rfl) dX7_does_201 h (fun r11 s13 H locs h hw hS => ?_)
  refine zif_lt (tgt := 211) hx hb dX7_does_204 (by decide) (fun c14 => ?_) (fun c14 => ?_)
  · have h := h.1 c14
    refine lv_iconst (v := (jI 0)) hx hb dX7_does_211 rfl ?_
    exact W.zret (v := (jI 0)) (ty := .boolean) hx hb hr (by decide +kernel) (fun t ht hW => ⟨⟨_, _, rfl, h, zend hw ht⟩, hS.F ht⟩) hS.2.2 dX7_does_212
  · have h := h.2 c14
    refine lv_iconst (v := (jI 1)) hx hb dX7_does_207 rfl ?_
    refine lv_goto (tgt := 212) hx hb dX7_does_208 (by decide) ?_
    exact W.zret (v := (jI 1)) (ty := .boolean) hx hb hr (by decide +kernel) (fun t ht hW => ⟨⟨_, _, rfl, h, zend hw ht⟩, hS.F ht⟩) hS.2.2 dX7_does_212
theorem k_X7_does {p : Program} {l : Launch} {e : Env} {R : Room} {s : State} {m : MethodId} {args : Array Value} {below : List Frame} {meth : Method} {c : Code} {H : Heap} {locs : List Loc} {cells slots : Nat} {QQ : State → Prop} {cc : ByteArray} {pc nL index : Nat} {ls : Array Slot} {rest : List Value} {D : va_G} {cy : cyT} {ad : Nat → Nat} {own : String} {Ts : List Cond} {H0 : Heap} {σ : ST} {p0 : Int32} {Q : Int32 → ST → Prop} (hx : p.tables.exec = Jvm.exec) (hb : c.code = cc) (hml : c.maxLocals = nL) (hown : s.vm.findClass own = some m.cls) (hts : ∀ w ∈ Ts, w.before args s = true) (hG : GoodIn Ts (wsV own index RX7 yX7_does wsX7_does)) (hR : 7 + 1 ≤ R.frames ∧ 8 + (5 + 11) + 157 ≤ R.locals) (hcs : cells ≤ R.cells ∧ slots ≤ R.slots) (hK : zK D cy s) (hj : zI 6 ad) (hw : zW D 6 (zme cy ad σ) ad H) {A0 : Nat → Prop} (hA : ∀ i, i < 6 → A0 (ad i)) (hS : va_S A0 H0 H locs) (hsz : ls.size = nL) (hrest : (rest.map fun v => v.category).sum ≤ 8) (hdg : decode cc pc = .ok (.invokevirtual index, 3)) (h : wp_X7_does σ p0 Q) (kk : ∀ (r : Int32) (σ : ST) (H : Heap) (locs : List Loc), Q r σ → zW D 6 (zme cy ad σ) ad H → va_S A0 H0 H locs → W p l e R s m args below meth c H locs cells slots QQ (F0 m (pc + 3) ls (.int r :: rest))) : W p l e R s m args below meth c H locs cells slots QQ (F0 m pc ls (.int p0 :: .ref (ad 0) :: rest)) :=
  zcalli (va_runV (As := [.int p0]) (rest := rest) ⟨hx, hb, hml, hown, hts⟩ (c_X7_does l D cy ad σ p0 h) (cwV 1 hts hG rfl rfl rfl (by decide +kernel) hR) (zpreV hj hK hw _ (i := 0) (ci := 6) (by decide) rfl rfl) rfl rfl hsz rfl (lv_room hrest) hdg hcs) hA hS kk
set_option maxHeartbeats 4000000 in
set_option maxRecDepth 100000 in
theorem c_X7_runCommands (l : Launch) (D : va_G) (cy : cyT) (ad : Nat → Nat) (σ : ST) {Q : Int32 → ST → Prop} (h : wp_X7_runCommands σ Q) : Met l yX7_runCommands wsX7_runCommands ({ frames := 8, cells := 0, slots := 0, locals := 181 } : Room) (zPre D cy 6 (zme cy ad σ) ad [.ref (ad 0)]) (va_Qi Q (zB D 6 (zme cy ad) ad) (zA 6 ad)) 0 0 (zA 6 ad) := by
  refine Met.ofW (cc := cX7_runCommands) (maxL := 2) (ret := (some .int)) (by decide) rfl ?_
  intro p e s m args below meth c s₁ B hml hv
  obtain ⟨rfl, hj, hK, hw⟩ := hv
  have hx := B.exec
  have hb := B.bytes
  have hr := B.returns
  have hts := atoms_spec (ws := wsX7_runCommands) B.pre
  have hown : s.vm.findClass RX7 = some m.cls := findClass_of_methodNamed B.named
  have hlocks := B.notSynchronized
  have lk0 : Cond.fieldLink RX7 26 "TypeTraysModel" "thrown" "I" ∈ wsX7_runCommands := List.mem_of_getElem? (i := 1) rfl
  have lk1 : Cond.fieldLink RX7 212 "TypeTraysModel" "many" "I" ∈ wsX7_runCommands := List.mem_of_getElem? (i := 3) rfl
  have lk2 : Cond.fieldLink RX7 199 "TypeTraysModel" "place" "I" ∈ wsX7_runCommands := List.mem_of_getElem? (i := 2) rfl
  have inX7 : ∀ w ∈ u_ws RX7 TX7 16, w ∈ wsX7_runCommands := zin_at 172 rfl
  have hS : va_S (zA 6 ad) s.heap s.heap [] := va_S.rf
  have hA : ∀ i, i < 6 → zA 6 ad (ad i) := fun i hi => ⟨i, hi, rfl⟩
  have hl := lv_entry ([.ref (ad 0)]) (n := 2) (Nat.le_of_ble_eq_true rfl)
  rw [lg_entry_eq]
  generalize (lg_sl ([.ref (ad 0)]) ++ List.replicate (2 - (lg_sl ([.ref (ad 0)])).length) Slot.unset).toArray = ls at hl ⊢
  have hl : lv_has ls 2 [(0, .ref (ad 0))] := hl
  show W p l e ({ frames := 8, cells := 0, slots := 0, locals := 181 } : Room) s m ([.ref (ad 0)] : List Value).toArray below meth c s.heap [] 0 0 (MQ below (va_Qi Q (zB D 6 (zme cy ad) ad) (zA 6 ad)) ([.ref (ad 0)] : List Value).toArray s 0 0 (zA 6 ad)) (F0 m 0 ls [])
  unfold wp_X7_runCommands at h
  refine lv_aload_n hx hb dX7_runCommands_0 rfl (lv_at hl 0 rfl) ?_
  refine lv_iconst (v := (jI 0)) hx hb dX7_runCommands_1 rfl ?_
  obtain ⟨s1, es1⟩ : ∃ y : ST, y = zsp σ 1 (jI 0) := ⟨_, rfl⟩
  have h := h s1 es1
  refine zput (ty := .int) hx hb hts inX7 tyX7 tyX7_ok nmX7 hown hK hj hw hA hS 0 (by decide) rfl rfl 3 (by decide) lk0 (fun _ h9 => h9) rfl (by decide +kernel) rfl rfl (Nat.le_of_ble_eq_true rfl) dX7_runCommands_2 (zme cy ad s1) (by rw [es1]; rfl) (fun j hj9 => by rw [es1]; exact zsp_off_M_1 j hj9) (fun H locs hw hS => ?_)
  refine lv_aload_n hx hb dX7_runCommands_5 rfl (lv_at hl 0 rfl) ?_
  refine k_X7_reads (rest := []) hx hb hml hown hts gX7_runCommands_X7_reads ⟨Nat.le_of_ble_eq_true rfl, Nat.le_of_ble_eq_true rfl⟩ ⟨Nat.zero_le _, Nat.zero_le _⟩ hK hj hw hA hS hl.1 (Nat.le_of_ble_eq_true rfl) dX7_runCommands_6 h (fun r1 s2 H locs h hw hS => ?_)
  refine zif_ne (tgt := 20) hx hb dX7_runCommands_9 (by decide) (fun c1 => ?_) (fun c1 => ?_)
  · have h := h.2 c1
    refine lv_aload_n hx hb dX7_runCommands_20 rfl (lv_at hl 0 rfl) ?_
    refine k_X7_saves (rest := []) hx hb hml hown hts gX7_runCommands_X7_saves ⟨Nat.le_of_ble_eq_true rfl, Nat.le_of_ble_eq_true rfl⟩ ⟨Nat.zero_le _, Nat.zero_le _⟩ hK hj hw hA hS hl.1 (Nat.le_of_ble_eq_true rfl) dX7_runCommands_21 h (fun s3 H locs h hw hS => ?_)
    refine lv_iconst (v := (jI 0)) hx hb dX7_runCommands_24 rfl ?_
    refine lv_istore_n (lv' := [(1, .int (jI 0)), (0, .ref (ad 0))]) hx hb dX7_runCommands_25 rfl hl (by decide) rfl (fun ls hl => ?_)
    have k50_26 : ∀ (u_50 : ST) (z1_50 : Int32) (H : Heap) (locs : List Loc), Q z1_50 u_50 → zW D 6 (zme cy ad u_50) ad H → va_S (zA 6 ad) s.heap H locs → ∀ ls : Array Slot, lv_has ls 2 [(1, .int z1_50)] → W p l e ({ frames := 8, cells := 0, slots := 0, locals := 181 } : Room) s m ([.ref (ad 0)] : List Value).toArray below meth c H locs 0 0 (MQ below (va_Qi Q (zB D 6 (zme cy ad) ad) (zA 6 ad)) ([.ref (ad 0)] : List Value).toArray s 0 0 (zA 6 ad)) (F0 m 50 ls []) := by
      intro u_50 z1_50 H locs h hw hS ls hl
      refine lv_iload_n hx hb dX7_runCommands_50 rfl (lv_at hl 0 rfl) ?_
      exact W.iret (v := z1_50) hx hb hr (fun t ht hW => ⟨⟨_, _, rfl, h, zend hw ht⟩, hS.F ht⟩) hS.2.2 dX7_runCommands_51
    have lp26 : ∀ (nn26 : Nat) (t_26 : ST) (y1_26 : Int32) (H : Heap) (locs : List Loc), wl_X7_runCommands_26 (fun u_50 z1_50 => Q z1_50 u_50)  nn26 t_26 y1_26 → zW D 6 (zme cy ad t_26) ad H → va_S (zA 6 ad) s.heap H locs → ∀ ls : Array Slot, lv_has ls 2 [(0, .ref (ad 0)), (1, .int y1_26)] → W p l e ({ frames := 8, cells := 0, slots := 0, locals := 181 } : Room) s m ([.ref (ad 0)] : List Value).toArray below meth c H locs 0 0 (MQ below (va_Qi Q (zB D 6 (zme cy ad) ad) (zA 6 ad)) ([.ref (ad 0)] : List Value).toArray s 0 0 (zA 6 ad)) (F0 m 26 ls []) := by
      intro nn26
      induction nn26 with
      | zero => intro _ _ _ _ h; exact h.elim
      | succ nn26 ih26 =>
        intro t_26 y1_26 H locs h hw hS ls hl
        simp only [wl_X7_runCommands_26, wb_X7_runCommands_26] at h
        refine lv_iload_n hx hb dX7_runCommands_26 rfl (lv_at hl 1 rfl) ?_
        refine lv_aload_n hx hb dX7_runCommands_27 rfl (lv_at hl 0 rfl) ?_
        refine zget hx hb hts inX7 hown hK hw 0 (by decide) rfl rfl 15 (by decide) lk1 (fun _ h9 => h9) rfl dX7_runCommands_28 ?_
        refine lv_icmp_ge (tgt := 50) hx hb dX7_runCommands_31 (by decide) (fun c2 => ?_) (fun c2 => ?_)
        · have h := h.1 c2
          exact k50_26 _ _ _ _ h hw hS _ (lv_sub hl [1] rfl)
        · have h := h.2 c2
          refine lv_aload_n hx hb dX7_runCommands_34 rfl (lv_at hl 0 rfl) ?_
          refine lv_iconst (v := (jI 4)) hx hb dX7_runCommands_35 rfl ?_
          refine lv_iload_n hx hb dX7_runCommands_36 rfl (lv_at hl 1 rfl) ?_
          refine lv_imul hx hb dX7_runCommands_37 ?_
          refine k_X7_does (rest := []) hx hb hml hown hts gX7_runCommands_X7_does ⟨Nat.le_of_ble_eq_true rfl, Nat.le_of_ble_eq_true rfl⟩ ⟨Nat.zero_le _, Nat.zero_le _⟩ hK hj hw hA hS hl.1 (Nat.le_of_ble_eq_true rfl) dX7_runCommands_38 h (fun r2 s4 H locs h hw hS => ?_)
          refine zif_eq (tgt := 50) hx hb dX7_runCommands_41 (by decide) (fun c3 => ?_) (fun c3 => ?_)
          · have h := h.1 c3
            exact k50_26 _ _ _ _ h hw hS _ (lv_sub hl [1] rfl)
          · have h := h.2 c3
            obtain ⟨x1, ex1⟩ : ∃ y : Int32, y = y1_26 + (jI 1) := ⟨_, rfl⟩
            have h := h x1 ex1
            refine lv_iinc (v := x1) (lv' := [(1, .int x1), (0, .ref (ad 0))]) hx hb dX7_runCommands_44 hl (k := 1) rfl (by rw [ex1]; rfl) (by decide) rfl (fun ls hl => ?_)
            refine lv_goto (tgt := 26) hx hb dX7_runCommands_47 (by decide) ?_
            exact ih26 _ _ _ _ h hw hS _ (lv_sub hl [1, 0] rfl)
    obtain ⟨nn26, h⟩ := h
    exact lp26 nn26 _ _ _ _ h hw hS _ (lv_sub hl [1, 0] rfl)
  · have h := h.1 c1
    refine lv_bipush (v := (jI (-10))) hx hb dX7_runCommands_12 (by decide +kernel) ?_
    refine lv_aload_n hx hb dX7_runCommands_14 rfl (lv_at hl 0 rfl) ?_
    refine zget hx hb hts inX7 hown hK hw 0 (by decide) rfl rfl 13 (by decide) lk2 (fun _ h9 => h9) rfl dX7_runCommands_15 ?_
    refine lv_isub hx hb dX7_runCommands_18 ?_
    exact W.iret (v := ((jI (-10)) - (s2.2 9))) hx hb hr (fun t ht hW => ⟨⟨_, _, rfl, h, zend hw ht⟩, hS.F ht⟩) hS.2.2 dX7_runCommands_19
theorem k_X7_runCommands {p : Program} {l : Launch} {e : Env} {R : Room} {s : State} {m : MethodId} {args : Array Value} {below : List Frame} {meth : Method} {c : Code} {H : Heap} {locs : List Loc} {cells slots : Nat} {QQ : State → Prop} {cc : ByteArray} {pc nL index : Nat} {ls : Array Slot} {rest : List Value} {D : va_G} {cy : cyT} {ad : Nat → Nat} {own : String} {Ts : List Cond} {H0 : Heap} {σ : ST}  {Q : Int32 → ST → Prop} (hx : p.tables.exec = Jvm.exec) (hb : c.code = cc) (hml : c.maxLocals = nL) (hown : s.vm.findClass own = some m.cls) (hts : ∀ w ∈ Ts, w.before args s = true) (hG : GoodIn Ts (wsV own index RX7 yX7_runCommands wsX7_runCommands)) (hR : 8 + 1 ≤ R.frames ∧ 8 + (2 + 11) + 181 ≤ R.locals) (hcs : cells ≤ R.cells ∧ slots ≤ R.slots) (hK : zK D cy s) (hj : zI 6 ad) (hw : zW D 6 (zme cy ad σ) ad H) {A0 : Nat → Prop} (hA : ∀ i, i < 6 → A0 (ad i)) (hS : va_S A0 H0 H locs) (hsz : ls.size = nL) (hrest : (rest.map fun v => v.category).sum ≤ 8) (hdg : decode cc pc = .ok (.invokevirtual index, 3)) (h : wp_X7_runCommands σ  Q) (kk : ∀ (r : Int32) (σ : ST) (H : Heap) (locs : List Loc), Q r σ → zW D 6 (zme cy ad σ) ad H → va_S A0 H0 H locs → W p l e R s m args below meth c H locs cells slots QQ (F0 m (pc + 3) ls (.int r :: rest))) : W p l e R s m args below meth c H locs cells slots QQ (F0 m pc ls (.ref (ad 0) :: rest)) :=
  zcalli (va_runV (As := []) (rest := rest) ⟨hx, hb, hml, hown, hts⟩ (c_X7_runCommands l D cy ad σ  h) (cwV 0 hts hG rfl rfl rfl (by decide +kernel) hR) (zpreV hj hK hw _ (i := 0) (ci := 6) (by decide) rfl rfl) rfl rfl hsz rfl (lv_room hrest) hdg hcs) hA hS kk
set_option maxHeartbeats 4000000 in
set_option maxRecDepth 100000 in
theorem c_X7_digest (l : Launch) (D : va_G) (cy : cyT) (ad : Nat → Nat) (σ : ST) {Q : Int64 → ST → Prop} (h : wp_X7_digest σ Q) : Met l yX7_digest wsX7_digest ({ frames := 5, cells := 0, slots := 0, locals := 120 } : Room) (zPre D cy 6 (zme cy ad σ) ad [.ref (ad 0)]) (va_Ql Q (zB D 6 (zme cy ad) ad) (zA 6 ad)) 0 0 (zA 6 ad) := by
  refine Met.ofW (cc := cX7_digest) (maxL := 5) (ret := (some .long)) (by decide) rfl ?_
  intro p e s m args below meth c s₁ B hml hv
  obtain ⟨rfl, hj, hK, hw⟩ := hv
  have hx := B.exec
  have hb := B.bytes
  have hr := B.returns
  have hts := atoms_spec (ws := wsX7_digest) B.pre
  have hown : s.vm.findClass RX7 = some m.cls := findClass_of_methodNamed B.named
  have hlocks := B.notSynchronized
  have lk0 : Cond.fieldLink RX7 26 "TypeTraysModel" "thrown" "I" ∈ wsX7_digest := List.mem_of_getElem? (i := 1) rfl
  have lk1 : Cond.constantLong RX7 234 (1349492) ∈ wsX7_digest := List.mem_of_getElem? (i := 2) rfl
  have lk2 : Cond.fieldLink RX7 30 "TypeTraysModel" "saved" "I" ∈ wsX7_digest := List.mem_of_getElem? (i := 3) rfl
  have lk3 : Cond.constantLong RX7 236 (31) ∈ wsX7_digest := List.mem_of_getElem? (i := 4) rfl
  have lk4 : Cond.fieldLink RX7 7 "TypeTraysModel" "w" "[I" ∈ wsX7_digest := List.mem_of_getElem? (i := 5) rfl
  have inX7 : ∀ w ∈ u_ws RX7 TX7 16, w ∈ wsX7_digest := zin_at 119 rfl
  have hS : va_S (zA 6 ad) s.heap s.heap [] := va_S.rf
  have hA : ∀ i, i < 6 → zA 6 ad (ad i) := fun i hi => ⟨i, hi, rfl⟩
  have hl := lv_entry ([.ref (ad 0)]) (n := 5) (Nat.le_of_ble_eq_true rfl)
  rw [lg_entry_eq]
  generalize (lg_sl ([.ref (ad 0)]) ++ List.replicate (5 - (lg_sl ([.ref (ad 0)])).length) Slot.unset).toArray = ls at hl ⊢
  have hl : lv_has ls 5 [(0, .ref (ad 0))] := hl
  show W p l e ({ frames := 5, cells := 0, slots := 0, locals := 120 } : Room) s m ([.ref (ad 0)] : List Value).toArray below meth c s.heap [] 0 0 (MQ below (va_Ql Q (zB D 6 (zme cy ad) ad) (zA 6 ad)) ([.ref (ad 0)] : List Value).toArray s 0 0 (zA 6 ad)) (F0 m 0 ls [])
  unfold wp_X7_digest at h
  refine lv_aload_n hx hb dX7_digest_0 rfl (lv_at hl 0 rfl) ?_
  refine lv_iconst (v := (jI 0)) hx hb dX7_digest_1 rfl ?_
  obtain ⟨s1, es1⟩ : ∃ y : ST, y = zsp σ 1 (jI 0) := ⟨_, rfl⟩
  have h := h s1 es1
  refine zput (ty := .int) hx hb hts inX7 tyX7 tyX7_ok nmX7 hown hK hj hw hA hS 0 (by decide) rfl rfl 3 (by decide) lk0 (fun _ h9 => h9) rfl (by decide +kernel) rfl rfl (Nat.le_of_ble_eq_true rfl) dX7_digest_2 (zme cy ad s1) (by rw [es1]; rfl) (fun j hj9 => by rw [es1]; exact zsp_off_M_1 j hj9) (fun H locs hw hS => ?_)
  refine lv_ldc2 hx hb hown (hts _ lk1) dX7_digest_5 ?_
  refine lv_aload_n hx hb dX7_digest_8 rfl (lv_at hl 0 rfl) ?_
  refine zget hx hb hts inX7 hown hK hw 0 (by decide) rfl rfl 2 (by decide) lk2 (fun _ h9 => h9) rfl dX7_digest_9 ?_
  refine lv_i2l hx hb dX7_digest_12 rfl ?_
  refine lv_ladd hx hb dX7_digest_13 ?_
  refine lv_topl (fun x1 ex1 => ?_)
  have h := h x1 ex1
  refine lv_lstore_n (lv' := [(1, .long x1), (0, .ref (ad 0))]) hx hb dX7_digest_14 rfl hl (by decide) rfl (fun ls hl => ?_)
  refine lv_iconst (v := (jI 0)) hx hb dX7_digest_15 rfl ?_
  refine lv_istore_n (lv' := [(3, .int (jI 0)), (1, .long x1), (0, .ref (ad 0))]) hx hb dX7_digest_16 rfl hl (by decide) rfl (fun ls hl => ?_)
  have k42_17 : ∀ (u_42 : ST) (z1_42 : Int64) (H : Heap) (locs : List Loc), (∃ nn : Nat, wl_X7_digest_44 (fun u_74 z1_74 => (∃ nn : Nat, wl_X7_digest_76 (fun u_109 z1_109 => (∃ nn : Nat, wl_X7_digest_111 (fun u_206 z1_206 => (∃ nn : Nat, wl_X7_digest_208 (fun u_238 z1_238 => wp_X7_oldestOne u_238 (fun r7 s8 => (∀ x15 : Int64, x15 = ((((31) : Int64) * z1_238) + (r7.toInt64)) → wp_X7_widestArea s8 (fun r8 s9 => Q ((((31) : Int64) * x15) + (r8.toInt64)) s9))))  nn u_206 z1_206 (jI 0)))  nn u_109 z1_109 (jI 0)))  nn u_74 z1_74 (jI 0)))  nn u_42 z1_42 (jI 0)) → zW D 6 (zme cy ad u_42) ad H → va_S (zA 6 ad) s.heap H locs → ∀ ls : Array Slot, lv_has ls 5 [(0, .ref (ad 0)), (1, .long z1_42)] → W p l e ({ frames := 5, cells := 0, slots := 0, locals := 120 } : Room) s m ([.ref (ad 0)] : List Value).toArray below meth c H locs 0 0 (MQ below (va_Ql Q (zB D 6 (zme cy ad) ad) (zA 6 ad)) ([.ref (ad 0)] : List Value).toArray s 0 0 (zA 6 ad)) (F0 m 42 ls []) := by
    intro u_42 z1_42 H locs h hw hS ls hl
    refine lv_iconst (v := (jI 0)) hx hb dX7_digest_42 rfl ?_
    refine lv_istore_n (lv' := [(3, .int (jI 0)), (0, .ref (ad 0)), (1, .long z1_42)]) hx hb dX7_digest_43 rfl hl (by decide) rfl (fun ls hl => ?_)
    have k74_44 : ∀ (u_74 : ST) (z1_74 : Int64) (H : Heap) (locs : List Loc), (∃ nn : Nat, wl_X7_digest_76 (fun u_109 z1_109 => (∃ nn : Nat, wl_X7_digest_111 (fun u_206 z1_206 => (∃ nn : Nat, wl_X7_digest_208 (fun u_238 z1_238 => wp_X7_oldestOne u_238 (fun r7 s8 => (∀ x15 : Int64, x15 = ((((31) : Int64) * z1_238) + (r7.toInt64)) → wp_X7_widestArea s8 (fun r8 s9 => Q ((((31) : Int64) * x15) + (r8.toInt64)) s9))))  nn u_206 z1_206 (jI 0)))  nn u_109 z1_109 (jI 0)))  nn u_74 z1_74 (jI 0)) → zW D 6 (zme cy ad u_74) ad H → va_S (zA 6 ad) s.heap H locs → ∀ ls : Array Slot, lv_has ls 5 [(0, .ref (ad 0)), (1, .long z1_74)] → W p l e ({ frames := 5, cells := 0, slots := 0, locals := 120 } : Room) s m ([.ref (ad 0)] : List Value).toArray below meth c H locs 0 0 (MQ below (va_Ql Q (zB D 6 (zme cy ad) ad) (zA 6 ad)) ([.ref (ad 0)] : List Value).toArray s 0 0 (zA 6 ad)) (F0 m 74 ls []) := by
      intro u_74 z1_74 H locs h hw hS ls hl
      refine lv_iconst (v := (jI 0)) hx hb dX7_digest_74 rfl ?_
      refine lv_istore_n (lv' := [(3, .int (jI 0)), (0, .ref (ad 0)), (1, .long z1_74)]) hx hb dX7_digest_75 rfl hl (by decide) rfl (fun ls hl => ?_)
      have k109_76 : ∀ (u_109 : ST) (z1_109 : Int64) (H : Heap) (locs : List Loc), (∃ nn : Nat, wl_X7_digest_111 (fun u_206 z1_206 => (∃ nn : Nat, wl_X7_digest_208 (fun u_238 z1_238 => wp_X7_oldestOne u_238 (fun r7 s8 => (∀ x15 : Int64, x15 = ((((31) : Int64) * z1_238) + (r7.toInt64)) → wp_X7_widestArea s8 (fun r8 s9 => Q ((((31) : Int64) * x15) + (r8.toInt64)) s9))))  nn u_206 z1_206 (jI 0)))  nn u_109 z1_109 (jI 0)) → zW D 6 (zme cy ad u_109) ad H → va_S (zA 6 ad) s.heap H locs → ∀ ls : Array Slot, lv_has ls 5 [(0, .ref (ad 0)), (1, .long z1_109)] → W p l e ({ frames := 5, cells := 0, slots := 0, locals := 120 } : Room) s m ([.ref (ad 0)] : List Value).toArray below meth c H locs 0 0 (MQ below (va_Ql Q (zB D 6 (zme cy ad) ad) (zA 6 ad)) ([.ref (ad 0)] : List Value).toArray s 0 0 (zA 6 ad)) (F0 m 109 ls []) := by
        intro u_109 z1_109 H locs h hw hS ls hl
        refine lv_iconst (v := (jI 0)) hx hb dX7_digest_109 rfl ?_
        refine lv_istore_n (lv' := [(3, .int (jI 0)), (0, .ref (ad 0)), (1, .long z1_109)]) hx hb dX7_digest_110 rfl hl (by decide) rfl (fun ls hl => ?_)
        have k206_111 : ∀ (u_206 : ST) (z1_206 : Int64) (H : Heap) (locs : List Loc), (∃ nn : Nat, wl_X7_digest_208 (fun u_238 z1_238 => wp_X7_oldestOne u_238 (fun r7 s8 => (∀ x15 : Int64, x15 = ((((31) : Int64) * z1_238) + (r7.toInt64)) → wp_X7_widestArea s8 (fun r8 s9 => Q ((((31) : Int64) * x15) + (r8.toInt64)) s9))))  nn u_206 z1_206 (jI 0)) → zW D 6 (zme cy ad u_206) ad H → va_S (zA 6 ad) s.heap H locs → ∀ ls : Array Slot, lv_has ls 5 [(0, .ref (ad 0)), (1, .long z1_206)] → W p l e ({ frames := 5, cells := 0, slots := 0, locals := 120 } : Room) s m ([.ref (ad 0)] : List Value).toArray below meth c H locs 0 0 (MQ below (va_Ql Q (zB D 6 (zme cy ad) ad) (zA 6 ad)) ([.ref (ad 0)] : List Value).toArray s 0 0 (zA 6 ad)) (F0 m 206 ls []) := by
          intro u_206 z1_206 H locs h hw hS ls hl
          refine lv_iconst (v := (jI 0)) hx hb dX7_digest_206 rfl ?_
          refine lv_istore_n (lv' := [(3, .int (jI 0)), (0, .ref (ad 0)), (1, .long z1_206)]) hx hb dX7_digest_207 rfl hl (by decide) rfl (fun ls hl => ?_)
          have k238_208 : ∀ (u_238 : ST) (z1_238 : Int64) (H : Heap) (locs : List Loc), wp_X7_oldestOne u_238 (fun r7 s8 => (∀ x15 : Int64, x15 = ((((31) : Int64) * z1_238) + (r7.toInt64)) → wp_X7_widestArea s8 (fun r8 s9 => Q ((((31) : Int64) * x15) + (r8.toInt64)) s9))) → zW D 6 (zme cy ad u_238) ad H → va_S (zA 6 ad) s.heap H locs → ∀ ls : Array Slot, lv_has ls 5 [(0, .ref (ad 0)), (1, .long z1_238)] → W p l e ({ frames := 5, cells := 0, slots := 0, locals := 120 } : Room) s m ([.ref (ad 0)] : List Value).toArray below meth c H locs 0 0 (MQ below (va_Ql Q (zB D 6 (zme cy ad) ad) (zA 6 ad)) ([.ref (ad 0)] : List Value).toArray s 0 0 (zA 6 ad)) (F0 m 238 ls []) := by
            intro u_238 z1_238 H locs h hw hS ls hl
            refine lv_ldc2 hx hb hown (hts _ lk3) dX7_digest_238 ?_
            refine lv_lload_n hx hb dX7_digest_241 rfl (lv_at hl 1 rfl) ?_
            refine lv_lmul hx hb dX7_digest_242 ?_
            refine lv_aload_n hx hb dX7_digest_243 rfl (lv_at hl 0 rfl) ?_
            refine k_X7_oldestOne (rest := [.long (((31) : Int64) * z1_238)]) hx hb hml hown hts gX7_digest_X7_oldestOne ⟨Nat.le_of_ble_eq_true rfl, Nat.le_of_ble_eq_true rfl⟩ ⟨Nat.zero_le _, Nat.zero_le _⟩ hK hj hw hA hS hl.1 (Nat.le_of_ble_eq_true rfl) dX7_digest_244 h (fun r7 s8 H locs h hw hS => ?_)
            refine lv_i2l hx hb dX7_digest_247 rfl ?_
            refine lv_ladd hx hb dX7_digest_248 ?_
            refine lv_topl (fun x15 ex15 => ?_)
            have h := h x15 ex15
            refine lv_lstore_n (lv' := [(1, .long x15), (0, .ref (ad 0))]) hx hb dX7_digest_249 rfl hl (by decide) rfl (fun ls hl => ?_)
            refine lv_ldc2 hx hb hown (hts _ lk3) dX7_digest_250 ?_
            refine lv_lload_n hx hb dX7_digest_253 rfl (lv_at hl 0 rfl) ?_
            refine lv_lmul hx hb dX7_digest_254 ?_
            refine lv_aload_n hx hb dX7_digest_255 rfl (lv_at hl 1 rfl) ?_
            refine k_X7_widestArea (rest := [.long (((31) : Int64) * x15)]) hx hb hml hown hts gX7_digest_X7_widestArea ⟨Nat.le_of_ble_eq_true rfl, Nat.le_of_ble_eq_true rfl⟩ ⟨Nat.zero_le _, Nat.zero_le _⟩ hK hj hw hA hS hl.1 (Nat.le_of_ble_eq_true rfl) dX7_digest_256 h (fun r8 s9 H locs h hw hS => ?_)
            refine lv_i2l hx hb dX7_digest_259 rfl ?_
            refine lv_ladd hx hb dX7_digest_260 ?_
            exact W.lret (v := ((((31) : Int64) * x15) + (r8.toInt64))) hx hb hr (fun t ht hW => ⟨⟨_, _, rfl, h, zend hw ht⟩, hS.F ht⟩) hS.2.2 dX7_digest_261
          have lp208 : ∀ (nn208 : Nat) (t_208 : ST) (y1_208 : Int64) (y3_208 : Int32) (H : Heap) (locs : List Loc), wl_X7_digest_208 (fun u_238 z1_238 => wp_X7_oldestOne u_238 (fun r7 s8 => (∀ x15 : Int64, x15 = ((((31) : Int64) * z1_238) + (r7.toInt64)) → wp_X7_widestArea s8 (fun r8 s9 => Q ((((31) : Int64) * x15) + (r8.toInt64)) s9))))  nn208 t_208 y1_208 y3_208 → zW D 6 (zme cy ad t_208) ad H → va_S (zA 6 ad) s.heap H locs → ∀ ls : Array Slot, lv_has ls 5 [(0, .ref (ad 0)), (1, .long y1_208), (3, .int y3_208)] → W p l e ({ frames := 5, cells := 0, slots := 0, locals := 120 } : Room) s m ([.ref (ad 0)] : List Value).toArray below meth c H locs 0 0 (MQ below (va_Ql Q (zB D 6 (zme cy ad) ad) (zA 6 ad)) ([.ref (ad 0)] : List Value).toArray s 0 0 (zA 6 ad)) (F0 m 208 ls []) := by
            intro nn208
            induction nn208 with
            | zero => intro _ _ _ _ _ h; exact h.elim
            | succ nn208 ih208 =>
              intro t_208 y1_208 y3_208 H locs h hw hS ls hl
              simp only [wl_X7_digest_208, wb_X7_digest_208] at h
              refine lv_iload_n hx hb dX7_digest_208 rfl (lv_at hl 2 rfl) ?_
              refine lv_aload_n hx hb dX7_digest_209 rfl (lv_at hl 0 rfl) ?_
              refine zget hx hb hts inX7 hown hK hw 0 (by decide) rfl rfl 0 (by decide) lk4 (fun _ h9 => h9) rfl dX7_digest_210 ?_
              refine lv_bipush (v := (jI 7)) hx hb dX7_digest_213 (by decide +kernel) ?_
              refine ziald hx hb hK hw 1 (by decide) rfl h.1 dX7_digest_215 ?_
              refine lv_topi (fun v3 ev3 => ?_)
              have h := h.2 v3 ev3
              refine lv_icmp_ge (tgt := 238) hx hb dX7_digest_216 (by decide) (fun c7 => ?_) (fun c7 => ?_)
              · have h := h.1 c7
                exact k238_208 _ _ _ _ h hw hS _ (lv_sub hl [0, 1] rfl)
              · have h := h.2 c7
                refine lv_ldc2 hx hb hown (hts _ lk3) dX7_digest_219 ?_
                refine lv_lload_n hx hb dX7_digest_222 rfl (lv_at hl 1 rfl) ?_
                refine lv_lmul hx hb dX7_digest_223 ?_
                refine lv_aload_n hx hb dX7_digest_224 rfl (lv_at hl 0 rfl) ?_
                refine lv_iload_n hx hb dX7_digest_225 rfl (lv_at hl 2 rfl) ?_
                refine k_X7_streetAt (rest := [.long (((31) : Int64) * y1_208)]) hx hb hml hown hts gX7_digest_X7_streetAt ⟨Nat.le_of_ble_eq_true rfl, Nat.le_of_ble_eq_true rfl⟩ ⟨Nat.zero_le _, Nat.zero_le _⟩ hK hj hw hA hS hl.1 (Nat.le_of_ble_eq_true rfl) dX7_digest_226 h (fun r6 s7 H locs h hw hS => ?_)
                refine lv_i2l hx hb dX7_digest_229 rfl ?_
                refine lv_ladd hx hb dX7_digest_230 ?_
                refine lv_topl (fun x13 ex13 => ?_)
                have h := h x13 ex13
                refine lv_lstore_n (lv' := [(1, .long x13), (0, .ref (ad 0)), (3, .int y3_208)]) hx hb dX7_digest_231 rfl hl (by decide) rfl (fun ls hl => ?_)
                obtain ⟨x14, ex14⟩ : ∃ y : Int32, y = y3_208 + (jI 1) := ⟨_, rfl⟩
                have h := h x14 ex14
                refine lv_iinc (v := x14) (lv' := [(3, .int x14), (1, .long x13), (0, .ref (ad 0))]) hx hb dX7_digest_232 hl (k := 2) rfl (by rw [ex14]; rfl) (by decide) rfl (fun ls hl => ?_)
                refine lv_goto (tgt := 208) hx hb dX7_digest_235 (by decide) ?_
                exact ih208 _ _ _ _ _ h hw hS _ (lv_sub hl [2, 1, 0] rfl)
          obtain ⟨nn208, h⟩ := h
          exact lp208 nn208 _ _ _ _ _ h hw hS _ (lv_sub hl [1, 2, 0] rfl)
        have lp111 : ∀ (nn111 : Nat) (t_111 : ST) (y1_111 : Int64) (y3_111 : Int32) (H : Heap) (locs : List Loc), wl_X7_digest_111 (fun u_206 z1_206 => (∃ nn : Nat, wl_X7_digest_208 (fun u_238 z1_238 => wp_X7_oldestOne u_238 (fun r7 s8 => (∀ x15 : Int64, x15 = ((((31) : Int64) * z1_238) + (r7.toInt64)) → wp_X7_widestArea s8 (fun r8 s9 => Q ((((31) : Int64) * x15) + (r8.toInt64)) s9))))  nn u_206 z1_206 (jI 0)))  nn111 t_111 y1_111 y3_111 → zW D 6 (zme cy ad t_111) ad H → va_S (zA 6 ad) s.heap H locs → ∀ ls : Array Slot, lv_has ls 5 [(0, .ref (ad 0)), (1, .long y1_111), (3, .int y3_111)] → W p l e ({ frames := 5, cells := 0, slots := 0, locals := 120 } : Room) s m ([.ref (ad 0)] : List Value).toArray below meth c H locs 0 0 (MQ below (va_Ql Q (zB D 6 (zme cy ad) ad) (zA 6 ad)) ([.ref (ad 0)] : List Value).toArray s 0 0 (zA 6 ad)) (F0 m 111 ls []) := by
          intro nn111
          induction nn111 with
          | zero => intro _ _ _ _ _ h; exact h.elim
          | succ nn111 ih111 =>
            intro t_111 y1_111 y3_111 H locs h hw hS ls hl
            simp only [wl_X7_digest_111, wb_X7_digest_111] at h
            refine lv_iload_n hx hb dX7_digest_111 rfl (lv_at hl 2 rfl) ?_
            refine lv_aload_n hx hb dX7_digest_112 rfl (lv_at hl 0 rfl) ?_
            refine zget hx hb hts inX7 hown hK hw 0 (by decide) rfl rfl 0 (by decide) lk4 (fun _ h9 => h9) rfl dX7_digest_113 ?_
            refine lv_iconst (v := (jI 0)) hx hb dX7_digest_116 rfl ?_
            refine ziald hx hb hK hw 1 (by decide) rfl h.1 dX7_digest_117 ?_
            refine lv_topi (fun v1 ev1 => ?_)
            have h := h.2 v1 ev1
            refine lv_icmp_ge (tgt := 206) hx hb dX7_digest_118 (by decide) (fun c4 => ?_) (fun c4 => ?_)
            · have h := h.1 c4
              exact k206_111 _ _ _ _ h hw hS _ (lv_sub hl [0, 1] rfl)
            · have h := h.2 c4
              refine lv_iconst (v := (jI 0)) hx hb dX7_digest_121 rfl ?_
              refine lv_istore (lv' := [(4, .int (jI 0)), (0, .ref (ad 0)), (1, .long y1_111), (3, .int y3_111)]) hx hb dX7_digest_122 hl (by decide) rfl (fun ls hl => ?_)
              have k151_124 : ∀ (u_151 : ST) (z1_151 : Int64) (H : Heap) (locs : List Loc), (∃ nn : Nat, wl_X7_digest_154 (fun u_200 z1_200 => (∀ x12 : Int32, x12 = y3_111 + (jI 1) → (wl_X7_digest_111 (fun u_206 z1_206 => (∃ nn : Nat, wl_X7_digest_208 (fun u_238 z1_238 => wp_X7_oldestOne u_238 (fun r7 s8 => (∀ x15 : Int64, x15 = ((((31) : Int64) * z1_238) + (r7.toInt64)) → wp_X7_widestArea s8 (fun r8 s9 => Q ((((31) : Int64) * x15) + (r8.toInt64)) s9))))  nn u_206 z1_206 (jI 0)))  nn111) u_200 z1_200 x12)) y3_111 nn u_151 z1_151 (jI 0)) → zW D 6 (zme cy ad u_151) ad H → va_S (zA 6 ad) s.heap H locs → ∀ ls : Array Slot, lv_has ls 5 [(0, .ref (ad 0)), (1, .long z1_151), (3, .int y3_111)] → W p l e ({ frames := 5, cells := 0, slots := 0, locals := 120 } : Room) s m ([.ref (ad 0)] : List Value).toArray below meth c H locs 0 0 (MQ below (va_Ql Q (zB D 6 (zme cy ad) ad) (zA 6 ad)) ([.ref (ad 0)] : List Value).toArray s 0 0 (zA 6 ad)) (F0 m 151 ls []) := by
                intro u_151 z1_151 H locs h hw hS ls hl
                refine lv_iconst (v := (jI 0)) hx hb dX7_digest_151 rfl ?_
                refine lv_istore (lv' := [(4, .int (jI 0)), (0, .ref (ad 0)), (1, .long z1_151), (3, .int y3_111)]) hx hb dX7_digest_152 hl (by decide) rfl (fun ls hl => ?_)
                have k200_154 : ∀ (u_200 : ST) (z1_200 : Int64) (H : Heap) (locs : List Loc), (∀ x12 : Int32, x12 = y3_111 + (jI 1) → (wl_X7_digest_111 (fun u_206 z1_206 => (∃ nn : Nat, wl_X7_digest_208 (fun u_238 z1_238 => wp_X7_oldestOne u_238 (fun r7 s8 => (∀ x15 : Int64, x15 = ((((31) : Int64) * z1_238) + (r7.toInt64)) → wp_X7_widestArea s8 (fun r8 s9 => Q ((((31) : Int64) * x15) + (r8.toInt64)) s9))))  nn u_206 z1_206 (jI 0)))  nn111) u_200 z1_200 x12) → zW D 6 (zme cy ad u_200) ad H → va_S (zA 6 ad) s.heap H locs → ∀ ls : Array Slot, lv_has ls 5 [(0, .ref (ad 0)), (1, .long z1_200), (3, .int y3_111)] → W p l e ({ frames := 5, cells := 0, slots := 0, locals := 120 } : Room) s m ([.ref (ad 0)] : List Value).toArray below meth c H locs 0 0 (MQ below (va_Ql Q (zB D 6 (zme cy ad) ad) (zA 6 ad)) ([.ref (ad 0)] : List Value).toArray s 0 0 (zA 6 ad)) (F0 m 200 ls []) := by
                  intro u_200 z1_200 H locs h hw hS ls hl
                  obtain ⟨x12, ex12⟩ : ∃ y : Int32, y = y3_111 + (jI 1) := ⟨_, rfl⟩
                  have h := h x12 ex12
                  refine lv_iinc (v := x12) (lv' := [(3, .int x12), (0, .ref (ad 0)), (1, .long z1_200)]) hx hb dX7_digest_200 hl (k := 2) rfl (by rw [ex12]; rfl) (by decide) rfl (fun ls hl => ?_)
                  refine lv_goto (tgt := 111) hx hb dX7_digest_203 (by decide) ?_
                  exact ih111 _ _ _ _ _ h hw hS _ (lv_sub hl [1, 2, 0] rfl)
                have lp154 : ∀ (nn154 : Nat) (t_154 : ST) (y1_154 : Int64) (y4_154 : Int32) (H : Heap) (locs : List Loc), wl_X7_digest_154 (fun u_200 z1_200 => (∀ x12 : Int32, x12 = y3_111 + (jI 1) → (wl_X7_digest_111 (fun u_206 z1_206 => (∃ nn : Nat, wl_X7_digest_208 (fun u_238 z1_238 => wp_X7_oldestOne u_238 (fun r7 s8 => (∀ x15 : Int64, x15 = ((((31) : Int64) * z1_238) + (r7.toInt64)) → wp_X7_widestArea s8 (fun r8 s9 => Q ((((31) : Int64) * x15) + (r8.toInt64)) s9))))  nn u_206 z1_206 (jI 0)))  nn111) u_200 z1_200 x12)) y3_111 nn154 t_154 y1_154 y4_154 → zW D 6 (zme cy ad t_154) ad H → va_S (zA 6 ad) s.heap H locs → ∀ ls : Array Slot, lv_has ls 5 [(0, .ref (ad 0)), (1, .long y1_154), (3, .int y3_111), (4, .int y4_154)] → W p l e ({ frames := 5, cells := 0, slots := 0, locals := 120 } : Room) s m ([.ref (ad 0)] : List Value).toArray below meth c H locs 0 0 (MQ below (va_Ql Q (zB D 6 (zme cy ad) ad) (zA 6 ad)) ([.ref (ad 0)] : List Value).toArray s 0 0 (zA 6 ad)) (F0 m 154 ls []) := by
                  intro nn154
                  induction nn154 with
                  | zero => intro _ _ _ _ _ h; exact h.elim
                  | succ nn154 ih154 =>
                    intro t_154 y1_154 y4_154 H locs h hw hS ls hl
                    simp only [wl_X7_digest_154, wb_X7_digest_154] at h
                    refine lv_iload hx hb dX7_digest_154 (lv_at hl 3 rfl) ?_
                    refine lv_bipush (v := (jI 7)) hx hb dX7_digest_156 (by decide +kernel) ?_
                    refine lv_aload_n hx hb dX7_digest_158 rfl (lv_at hl 0 rfl) ?_
                    refine zget hx hb hts inX7 hown hK hw 0 (by decide) rfl rfl 0 (by decide) lk4 (fun _ h9 => h9) rfl dX7_digest_159 ?_
                    refine lv_bipush (v := (jI 44)) hx hb dX7_digest_162 (by decide +kernel) ?_
                    refine lv_iload_n hx hb dX7_digest_164 rfl (lv_at hl 2 rfl) ?_
                    refine lv_iadd hx hb dX7_digest_165 ?_
                    refine ziald hx hb hK hw 1 (by decide) rfl h.1 dX7_digest_166 ?_
                    refine lv_topi (fun v2 ev2 => ?_)
                    have h := h.2 v2 ev2
                    refine lv_imul hx hb dX7_digest_167 ?_
                    refine lv_icmp_ge (tgt := 200) hx hb dX7_digest_168 (by decide) (fun c6 => ?_) (fun c6 => ?_)
                    · have h := h.1 c6
                      exact k200_154 _ _ _ _ h hw hS _ (lv_sub hl [0, 1, 2] rfl)
                    · have h := h.2 c6
                      refine lv_ldc2 hx hb hown (hts _ lk3) dX7_digest_171 ?_
                      refine lv_lload_n hx hb dX7_digest_174 rfl (lv_at hl 1 rfl) ?_
                      refine lv_lmul hx hb dX7_digest_175 ?_
                      refine lv_aload_n hx hb dX7_digest_176 rfl (lv_at hl 0 rfl) ?_
                      refine lv_iload_n hx hb dX7_digest_177 rfl (lv_at hl 2 rfl) ?_
                      refine lv_iload hx hb dX7_digest_178 (lv_at hl 3 rfl) ?_
                      refine lv_bipush (v := (jI 7)) hx hb dX7_digest_180 (by decide +kernel) ?_
                      refine lv_idiv hx hb dX7_digest_182 (by decide +kernel) ?_
                      refine lv_iload hx hb dX7_digest_183 (lv_at hl 3 rfl) ?_
                      refine lv_bipush (v := (jI 7)) hx hb dX7_digest_185 (by decide +kernel) ?_
                      refine lv_irem hx hb dX7_digest_187 (by decide +kernel) ?_
                      refine k_X7_shelfBy (rest := [.long (((31) : Int64) * y1_154)]) hx hb hml hown hts gX7_digest_X7_shelfBy ⟨Nat.le_of_ble_eq_true rfl, Nat.le_of_ble_eq_true rfl⟩ ⟨Nat.zero_le _, Nat.zero_le _⟩ hK hj hw hA hS hl.1 (Nat.le_of_ble_eq_true rfl) dX7_digest_188 h (fun r5 s6 H locs h hw hS => ?_)
                      refine lv_i2l hx hb dX7_digest_191 rfl ?_
                      refine lv_ladd hx hb dX7_digest_192 ?_
                      refine lv_topl (fun x10 ex10 => ?_)
                      have h := h x10 ex10
                      refine lv_lstore_n (lv' := [(1, .long x10), (0, .ref (ad 0)), (3, .int y3_111), (4, .int y4_154)]) hx hb dX7_digest_193 rfl hl (by decide) rfl (fun ls hl => ?_)
                      obtain ⟨x11, ex11⟩ : ∃ y : Int32, y = y4_154 + (jI 1) := ⟨_, rfl⟩
                      have h := h x11 ex11
                      refine lv_iinc (v := x11) (lv' := [(4, .int x11), (1, .long x10), (0, .ref (ad 0)), (3, .int y3_111)]) hx hb dX7_digest_194 hl (k := 3) rfl (by rw [ex11]; rfl) (by decide) rfl (fun ls hl => ?_)
                      refine lv_goto (tgt := 154) hx hb dX7_digest_197 (by decide) ?_
                      exact ih154 _ _ _ _ _ h hw hS _ (lv_sub hl [2, 1, 3, 0] rfl)
                obtain ⟨nn154, h⟩ := h
                exact lp154 nn154 _ _ _ _ _ h hw hS _ (lv_sub hl [1, 2, 3, 0] rfl)
              have lp124 : ∀ (nn124 : Nat) (t_124 : ST) (y1_124 : Int64) (y4_124 : Int32) (H : Heap) (locs : List Loc), wl_X7_digest_124 (fun u_151 z1_151 => (∃ nn : Nat, wl_X7_digest_154 (fun u_200 z1_200 => (∀ x12 : Int32, x12 = y3_111 + (jI 1) → (wl_X7_digest_111 (fun u_206 z1_206 => (∃ nn : Nat, wl_X7_digest_208 (fun u_238 z1_238 => wp_X7_oldestOne u_238 (fun r7 s8 => (∀ x15 : Int64, x15 = ((((31) : Int64) * z1_238) + (r7.toInt64)) → wp_X7_widestArea s8 (fun r8 s9 => Q ((((31) : Int64) * x15) + (r8.toInt64)) s9))))  nn u_206 z1_206 (jI 0)))  nn111) u_200 z1_200 x12)) y3_111 nn u_151 z1_151 (jI 0))) y3_111 nn124 t_124 y1_124 y4_124 → zW D 6 (zme cy ad t_124) ad H → va_S (zA 6 ad) s.heap H locs → ∀ ls : Array Slot, lv_has ls 5 [(0, .ref (ad 0)), (1, .long y1_124), (3, .int y3_111), (4, .int y4_124)] → W p l e ({ frames := 5, cells := 0, slots := 0, locals := 120 } : Room) s m ([.ref (ad 0)] : List Value).toArray below meth c H locs 0 0 (MQ below (va_Ql Q (zB D 6 (zme cy ad) ad) (zA 6 ad)) ([.ref (ad 0)] : List Value).toArray s 0 0 (zA 6 ad)) (F0 m 124 ls []) := by
                intro nn124
                induction nn124 with
                | zero => intro _ _ _ _ _ h; exact h.elim
                | succ nn124 ih124 =>
                  intro t_124 y1_124 y4_124 H locs h hw hS ls hl
                  simp only [wl_X7_digest_124, wb_X7_digest_124] at h
                  refine lv_iload hx hb dX7_digest_124 (lv_at hl 3 rfl) ?_
                  refine lv_iconst (v := (jI 4)) hx hb dX7_digest_126 rfl ?_
                  refine lv_icmp_ge (tgt := 151) hx hb dX7_digest_127 (by decide) (fun c5 => ?_) (fun c5 => ?_)
                  · have h := h.1 c5
                    exact k151_124 _ _ _ _ h hw hS _ (lv_sub hl [0, 1, 2] rfl)
                  · have h := h.2 c5
                    refine lv_ldc2 hx hb hown (hts _ lk3) dX7_digest_130 ?_
                    refine lv_lload_n hx hb dX7_digest_133 rfl (lv_at hl 1 rfl) ?_
                    refine lv_lmul hx hb dX7_digest_134 ?_
                    refine lv_aload_n hx hb dX7_digest_135 rfl (lv_at hl 0 rfl) ?_
                    refine lv_iload_n hx hb dX7_digest_136 rfl (lv_at hl 2 rfl) ?_
                    refine lv_iload hx hb dX7_digest_137 (lv_at hl 3 rfl) ?_
                    refine k_X7_trayBy (rest := [.long (((31) : Int64) * y1_124)]) hx hb hml hown hts gX7_digest_X7_trayBy ⟨Nat.le_of_ble_eq_true rfl, Nat.le_of_ble_eq_true rfl⟩ ⟨Nat.zero_le _, Nat.zero_le _⟩ hK hj hw hA hS hl.1 (Nat.le_of_ble_eq_true rfl) dX7_digest_139 h (fun r4 s5 H locs h hw hS => ?_)
                    refine lv_i2l hx hb dX7_digest_142 rfl ?_
                    refine lv_ladd hx hb dX7_digest_143 ?_
                    refine lv_topl (fun x8 ex8 => ?_)
                    have h := h x8 ex8
                    refine lv_lstore_n (lv' := [(1, .long x8), (0, .ref (ad 0)), (3, .int y3_111), (4, .int y4_124)]) hx hb dX7_digest_144 rfl hl (by decide) rfl (fun ls hl => ?_)
                    obtain ⟨x9, ex9⟩ : ∃ y : Int32, y = y4_124 + (jI 1) := ⟨_, rfl⟩
                    have h := h x9 ex9
                    refine lv_iinc (v := x9) (lv' := [(4, .int x9), (1, .long x8), (0, .ref (ad 0)), (3, .int y3_111)]) hx hb dX7_digest_145 hl (k := 3) rfl (by rw [ex9]; rfl) (by decide) rfl (fun ls hl => ?_)
                    refine lv_goto (tgt := 124) hx hb dX7_digest_148 (by decide) ?_
                    exact ih124 _ _ _ _ _ h hw hS _ (lv_sub hl [2, 1, 3, 0] rfl)
              obtain ⟨nn124, h⟩ := h
              exact lp124 nn124 _ _ _ _ _ h hw hS _ (lv_sub hl [1, 2, 3, 0] rfl)
        obtain ⟨nn111, h⟩ := h
        exact lp111 nn111 _ _ _ _ _ h hw hS _ (lv_sub hl [1, 2, 0] rfl)
      have lp76 : ∀ (nn76 : Nat) (t_76 : ST) (y1_76 : Int64) (y3_76 : Int32) (H : Heap) (locs : List Loc), wl_X7_digest_76 (fun u_109 z1_109 => (∃ nn : Nat, wl_X7_digest_111 (fun u_206 z1_206 => (∃ nn : Nat, wl_X7_digest_208 (fun u_238 z1_238 => wp_X7_oldestOne u_238 (fun r7 s8 => (∀ x15 : Int64, x15 = ((((31) : Int64) * z1_238) + (r7.toInt64)) → wp_X7_widestArea s8 (fun r8 s9 => Q ((((31) : Int64) * x15) + (r8.toInt64)) s9))))  nn u_206 z1_206 (jI 0)))  nn u_109 z1_109 (jI 0)))  nn76 t_76 y1_76 y3_76 → zW D 6 (zme cy ad t_76) ad H → va_S (zA 6 ad) s.heap H locs → ∀ ls : Array Slot, lv_has ls 5 [(0, .ref (ad 0)), (1, .long y1_76), (3, .int y3_76)] → W p l e ({ frames := 5, cells := 0, slots := 0, locals := 120 } : Room) s m ([.ref (ad 0)] : List Value).toArray below meth c H locs 0 0 (MQ below (va_Ql Q (zB D 6 (zme cy ad) ad) (zA 6 ad)) ([.ref (ad 0)] : List Value).toArray s 0 0 (zA 6 ad)) (F0 m 76 ls []) := by
        intro nn76
        induction nn76 with
        | zero => intro _ _ _ _ _ h; exact h.elim
        | succ nn76 ih76 =>
          intro t_76 y1_76 y3_76 H locs h hw hS ls hl
          simp only [wl_X7_digest_76, wb_X7_digest_76] at h
          refine lv_iload_n hx hb dX7_digest_76 rfl (lv_at hl 2 rfl) ?_
          refine lv_sipush (v := (jI 1296)) hx hb dX7_digest_77 (by decide +kernel) ?_
          refine lv_icmp_ge (tgt := 109) hx hb dX7_digest_80 (by decide) (fun c3 => ?_) (fun c3 => ?_)
          · have h := h.1 c3
            exact k109_76 _ _ _ _ h hw hS _ (lv_sub hl [0, 1] rfl)
          · have h := h.2 c3
            refine lv_ldc2 hx hb hown (hts _ lk3) dX7_digest_83 ?_
            refine lv_lload_n hx hb dX7_digest_86 rfl (lv_at hl 1 rfl) ?_
            refine lv_lmul hx hb dX7_digest_87 ?_
            refine lv_aload_n hx hb dX7_digest_88 rfl (lv_at hl 0 rfl) ?_
            refine lv_iload_n hx hb dX7_digest_89 rfl (lv_at hl 2 rfl) ?_
            refine lv_bipush (v := (jI 9)) hx hb dX7_digest_90 (by decide +kernel) ?_
            refine lv_idiv hx hb dX7_digest_92 (by decide +kernel) ?_
            refine lv_iload_n hx hb dX7_digest_93 rfl (lv_at hl 2 rfl) ?_
            refine lv_bipush (v := (jI 9)) hx hb dX7_digest_94 (by decide +kernel) ?_
            refine lv_irem hx hb dX7_digest_96 (by decide +kernel) ?_
            refine k_X7_letterBy (rest := [.long (((31) : Int64) * y1_76)]) hx hb hml hown hts gX7_digest_X7_letterBy ⟨Nat.le_of_ble_eq_true rfl, Nat.le_of_ble_eq_true rfl⟩ ⟨Nat.zero_le _, Nat.zero_le _⟩ hK hj hw hA hS hl.1 (Nat.le_of_ble_eq_true rfl) dX7_digest_97 h (fun r3 s4 H locs h hw hS => ?_)
            refine lv_i2l hx hb dX7_digest_100 rfl ?_
            refine lv_ladd hx hb dX7_digest_101 ?_
            refine lv_topl (fun x6 ex6 => ?_)
            have h := h x6 ex6
            refine lv_lstore_n (lv' := [(1, .long x6), (0, .ref (ad 0)), (3, .int y3_76)]) hx hb dX7_digest_102 rfl hl (by decide) rfl (fun ls hl => ?_)
            obtain ⟨x7, ex7⟩ : ∃ y : Int32, y = y3_76 + (jI 1) := ⟨_, rfl⟩
            have h := h x7 ex7
            refine lv_iinc (v := x7) (lv' := [(3, .int x7), (1, .long x6), (0, .ref (ad 0))]) hx hb dX7_digest_103 hl (k := 2) rfl (by rw [ex7]; rfl) (by decide) rfl (fun ls hl => ?_)
            refine lv_goto (tgt := 76) hx hb dX7_digest_106 (by decide) ?_
            exact ih76 _ _ _ _ _ h hw hS _ (lv_sub hl [2, 1, 0] rfl)
      obtain ⟨nn76, h⟩ := h
      exact lp76 nn76 _ _ _ _ _ h hw hS _ (lv_sub hl [1, 2, 0] rfl)
    have lp44 : ∀ (nn44 : Nat) (t_44 : ST) (y1_44 : Int64) (y3_44 : Int32) (H : Heap) (locs : List Loc), wl_X7_digest_44 (fun u_74 z1_74 => (∃ nn : Nat, wl_X7_digest_76 (fun u_109 z1_109 => (∃ nn : Nat, wl_X7_digest_111 (fun u_206 z1_206 => (∃ nn : Nat, wl_X7_digest_208 (fun u_238 z1_238 => wp_X7_oldestOne u_238 (fun r7 s8 => (∀ x15 : Int64, x15 = ((((31) : Int64) * z1_238) + (r7.toInt64)) → wp_X7_widestArea s8 (fun r8 s9 => Q ((((31) : Int64) * x15) + (r8.toInt64)) s9))))  nn u_206 z1_206 (jI 0)))  nn u_109 z1_109 (jI 0)))  nn u_74 z1_74 (jI 0)))  nn44 t_44 y1_44 y3_44 → zW D 6 (zme cy ad t_44) ad H → va_S (zA 6 ad) s.heap H locs → ∀ ls : Array Slot, lv_has ls 5 [(0, .ref (ad 0)), (1, .long y1_44), (3, .int y3_44)] → W p l e ({ frames := 5, cells := 0, slots := 0, locals := 120 } : Room) s m ([.ref (ad 0)] : List Value).toArray below meth c H locs 0 0 (MQ below (va_Ql Q (zB D 6 (zme cy ad) ad) (zA 6 ad)) ([.ref (ad 0)] : List Value).toArray s 0 0 (zA 6 ad)) (F0 m 44 ls []) := by
      intro nn44
      induction nn44 with
      | zero => intro _ _ _ _ _ h; exact h.elim
      | succ nn44 ih44 =>
        intro t_44 y1_44 y3_44 H locs h hw hS ls hl
        simp only [wl_X7_digest_44, wb_X7_digest_44] at h
        refine lv_iload_n hx hb dX7_digest_44 rfl (lv_at hl 2 rfl) ?_
        refine lv_bipush (v := (jI 64)) hx hb dX7_digest_45 (by decide +kernel) ?_
        refine lv_icmp_ge (tgt := 74) hx hb dX7_digest_47 (by decide) (fun c2 => ?_) (fun c2 => ?_)
        · have h := h.1 c2
          exact k74_44 _ _ _ _ h hw hS _ (lv_sub hl [0, 1] rfl)
        · have h := h.2 c2
          refine lv_ldc2 hx hb hown (hts _ lk3) dX7_digest_50 ?_
          refine lv_lload_n hx hb dX7_digest_53 rfl (lv_at hl 1 rfl) ?_
          refine lv_lmul hx hb dX7_digest_54 ?_
          refine lv_aload_n hx hb dX7_digest_55 rfl (lv_at hl 0 rfl) ?_
          refine lv_iload_n hx hb dX7_digest_56 rfl (lv_at hl 2 rfl) ?_
          refine lv_iconst (v := (jI 4)) hx hb dX7_digest_57 rfl ?_
          refine lv_idiv hx hb dX7_digest_58 (by decide +kernel) ?_
          refine lv_iload_n hx hb dX7_digest_59 rfl (lv_at hl 2 rfl) ?_
          refine lv_iconst (v := (jI 4)) hx hb dX7_digest_60 rfl ?_
          refine lv_irem hx hb dX7_digest_61 (by decide +kernel) ?_
          refine k_X7_signBy (rest := [.long (((31) : Int64) * y1_44)]) hx hb hml hown hts gX7_digest_X7_signBy ⟨Nat.le_of_ble_eq_true rfl, Nat.le_of_ble_eq_true rfl⟩ ⟨Nat.zero_le _, Nat.zero_le _⟩ hK hj hw hA hS hl.1 (Nat.le_of_ble_eq_true rfl) dX7_digest_62 h (fun r2 s3 H locs h hw hS => ?_)
          refine lv_i2l hx hb dX7_digest_65 rfl ?_
          refine lv_ladd hx hb dX7_digest_66 ?_
          refine lv_topl (fun x4 ex4 => ?_)
          have h := h x4 ex4
          refine lv_lstore_n (lv' := [(1, .long x4), (0, .ref (ad 0)), (3, .int y3_44)]) hx hb dX7_digest_67 rfl hl (by decide) rfl (fun ls hl => ?_)
          obtain ⟨x5, ex5⟩ : ∃ y : Int32, y = y3_44 + (jI 1) := ⟨_, rfl⟩
          have h := h x5 ex5
          refine lv_iinc (v := x5) (lv' := [(3, .int x5), (1, .long x4), (0, .ref (ad 0))]) hx hb dX7_digest_68 hl (k := 2) rfl (by rw [ex5]; rfl) (by decide) rfl (fun ls hl => ?_)
          refine lv_goto (tgt := 44) hx hb dX7_digest_71 (by decide) ?_
          exact ih44 _ _ _ _ _ h hw hS _ (lv_sub hl [2, 1, 0] rfl)
    obtain ⟨nn44, h⟩ := h
    exact lp44 nn44 _ _ _ _ _ h hw hS _ (lv_sub hl [1, 2, 0] rfl)
  have lp17 : ∀ (nn17 : Nat) (t_17 : ST) (y1_17 : Int64) (y3_17 : Int32) (H : Heap) (locs : List Loc), wl_X7_digest_17 (fun u_42 z1_42 => (∃ nn : Nat, wl_X7_digest_44 (fun u_74 z1_74 => (∃ nn : Nat, wl_X7_digest_76 (fun u_109 z1_109 => (∃ nn : Nat, wl_X7_digest_111 (fun u_206 z1_206 => (∃ nn : Nat, wl_X7_digest_208 (fun u_238 z1_238 => wp_X7_oldestOne u_238 (fun r7 s8 => (∀ x15 : Int64, x15 = ((((31) : Int64) * z1_238) + (r7.toInt64)) → wp_X7_widestArea s8 (fun r8 s9 => Q ((((31) : Int64) * x15) + (r8.toInt64)) s9))))  nn u_206 z1_206 (jI 0)))  nn u_109 z1_109 (jI 0)))  nn u_74 z1_74 (jI 0)))  nn u_42 z1_42 (jI 0)))  nn17 t_17 y1_17 y3_17 → zW D 6 (zme cy ad t_17) ad H → va_S (zA 6 ad) s.heap H locs → ∀ ls : Array Slot, lv_has ls 5 [(0, .ref (ad 0)), (1, .long y1_17), (3, .int y3_17)] → W p l e ({ frames := 5, cells := 0, slots := 0, locals := 120 } : Room) s m ([.ref (ad 0)] : List Value).toArray below meth c H locs 0 0 (MQ below (va_Ql Q (zB D 6 (zme cy ad) ad) (zA 6 ad)) ([.ref (ad 0)] : List Value).toArray s 0 0 (zA 6 ad)) (F0 m 17 ls []) := by
    intro nn17
    induction nn17 with
    | zero => intro _ _ _ _ _ h; exact h.elim
    | succ nn17 ih17 =>
      intro t_17 y1_17 y3_17 H locs h hw hS ls hl
      simp only [wl_X7_digest_17, wb_X7_digest_17] at h
      refine lv_iload_n hx hb dX7_digest_17 rfl (lv_at hl 2 rfl) ?_
      refine lv_bipush (v := (jI 13)) hx hb dX7_digest_18 (by decide +kernel) ?_
      refine lv_icmp_ge (tgt := 42) hx hb dX7_digest_20 (by decide) (fun c1 => ?_) (fun c1 => ?_)
      · have h := h.1 c1
        exact k42_17 _ _ _ _ h hw hS _ (lv_sub hl [0, 1] rfl)
      · have h := h.2 c1
        refine lv_ldc2 hx hb hown (hts _ lk3) dX7_digest_23 ?_
        refine lv_lload_n hx hb dX7_digest_26 rfl (lv_at hl 1 rfl) ?_
        refine lv_lmul hx hb dX7_digest_27 ?_
        refine lv_aload_n hx hb dX7_digest_28 rfl (lv_at hl 0 rfl) ?_
        refine lv_iload_n hx hb dX7_digest_29 rfl (lv_at hl 2 rfl) ?_
        refine k_X7_wholeBy (rest := [.long (((31) : Int64) * y1_17)]) hx hb hml hown hts gX7_digest_X7_wholeBy ⟨Nat.le_of_ble_eq_true rfl, Nat.le_of_ble_eq_true rfl⟩ ⟨Nat.zero_le _, Nat.zero_le _⟩ hK hj hw hA hS hl.1 (Nat.le_of_ble_eq_true rfl) dX7_digest_30 h (fun r1 s2 H locs h hw hS => ?_)
        refine lv_i2l hx hb dX7_digest_33 rfl ?_
        refine lv_ladd hx hb dX7_digest_34 ?_
        refine lv_topl (fun x2 ex2 => ?_)
        have h := h x2 ex2
        refine lv_lstore_n (lv' := [(1, .long x2), (0, .ref (ad 0)), (3, .int y3_17)]) hx hb dX7_digest_35 rfl hl (by decide) rfl (fun ls hl => ?_)
        obtain ⟨x3, ex3⟩ : ∃ y : Int32, y = y3_17 + (jI 1) := ⟨_, rfl⟩
        have h := h x3 ex3
        refine lv_iinc (v := x3) (lv' := [(3, .int x3), (1, .long x2), (0, .ref (ad 0))]) hx hb dX7_digest_36 hl (k := 2) rfl (by rw [ex3]; rfl) (by decide) rfl (fun ls hl => ?_)
        refine lv_goto (tgt := 17) hx hb dX7_digest_39 (by decide) ?_
        exact ih17 _ _ _ _ _ h hw hS _ (lv_sub hl [2, 1, 0] rfl)
  obtain ⟨nn17, h⟩ := h
  exact lp17 nn17 _ _ _ _ _ h hw hS _ (lv_sub hl [2, 1, 0] rfl)
theorem k_X7_digest {p : Program} {l : Launch} {e : Env} {R : Room} {s : State} {m : MethodId} {args : Array Value} {below : List Frame} {meth : Method} {c : Code} {H : Heap} {locs : List Loc} {cells slots : Nat} {QQ : State → Prop} {cc : ByteArray} {pc nL index : Nat} {ls : Array Slot} {rest : List Value} {D : va_G} {cy : cyT} {ad : Nat → Nat} {own : String} {Ts : List Cond} {H0 : Heap} {σ : ST}  {Q : Int64 → ST → Prop} (hx : p.tables.exec = Jvm.exec) (hb : c.code = cc) (hml : c.maxLocals = nL) (hown : s.vm.findClass own = some m.cls) (hts : ∀ w ∈ Ts, w.before args s = true) (hG : GoodIn Ts (wsV own index RX7 yX7_digest wsX7_digest)) (hR : 5 + 1 ≤ R.frames ∧ 8 + (5 + 11) + 120 ≤ R.locals) (hcs : cells ≤ R.cells ∧ slots ≤ R.slots) (hK : zK D cy s) (hj : zI 6 ad) (hw : zW D 6 (zme cy ad σ) ad H) {A0 : Nat → Prop} (hA : ∀ i, i < 6 → A0 (ad i)) (hS : va_S A0 H0 H locs) (hsz : ls.size = nL) (hrest : (rest.map fun v => v.category).sum ≤ 8) (hdg : decode cc pc = .ok (.invokevirtual index, 3)) (h : wp_X7_digest σ  Q) (kk : ∀ (r : Int64) (σ : ST) (H : Heap) (locs : List Loc), Q r σ → zW D 6 (zme cy ad σ) ad H → va_S A0 H0 H locs → W p l e R s m args below meth c H locs cells slots QQ (F0 m (pc + 3) ls (.long r :: rest))) : W p l e R s m args below meth c H locs cells slots QQ (F0 m pc ls (.ref (ad 0) :: rest)) :=
  zcalll (va_runV (As := []) (rest := rest) ⟨hx, hb, hml, hown, hts⟩ (c_X7_digest l D cy ad σ  h) (cwV 0 hts hG rfl rfl rfl (by decide +kernel) hR) (zpreV hj hK hw _ (i := 0) (ci := 6) (by decide) rfl rfl) rfl rfl hsz rfl (lv_room hrest) hdg hcs) hA hS kk
theorem last_06f : True := trivial
