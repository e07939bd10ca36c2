/-! Row.get and Row.put over the class's world -/
set_option maxHeartbeats 4000000 in
set_option maxRecDepth 100000 in
theorem c_X3_get (l : Launch) (D : va_G) (cy : cyT) (ad : Nat → Nat) (σ : ST) (r : Nat) (hr53 : r < 53) (x : Int32) : Met l yX3_get wsX3_get ({ frames := 0, cells := 0, slots := 0, locals := 0 } : Room) (zPre D cy 116 (zce cy ad σ) ad [.ref (ad (2 * r + 10)), .int x]) (va_Qi (fun y τ => y = zrg σ r x ∧ τ = σ) (zB D 116 (zce cy ad) ad) (zA 116 ad)) 0 0 (zA 116 ad) := by
  refine Met.ofW (cc := cX3_get) (maxL := 2) (ret := (some .int)) (by decide) rfl ?_
  intro p e s m args below meth c s₁ B hml hv
  obtain ⟨rfl, hj, hK, hw⟩ := hv
  have hx := B.exec
  have hb := B.bytes
  have hr := B.returns
  have hts := atoms_spec (ws := wsX3_get) B.pre
  have hown : s.vm.findClass RX3 = some m.cls := findClass_of_methodNamed B.named
  have hlocks := B.notSynchronized
  have lk0 : Cond.fieldLink RX3 7 "TypeTrays$Row" "cells" "[I" ∈ wsX3_get := List.mem_of_getElem? (i := 1) rfl
  have inX3 : ∀ w ∈ u_ws RX3 TX3 1, w ∈ wsX3_get := zin_at 2 rfl
  have hS : va_S (zA 116 ad) s.heap s.heap [] := va_S.rf
  have hA : ∀ i, i < 116 → zA 116 ad (ad i) := fun i hi => ⟨i, hi, rfl⟩
  have hl := lv_entry ([.ref (ad (2 * r + 10)), .int x]) (n := 2) (Nat.le_of_ble_eq_true rfl)
  rw [lg_entry_eq]
  generalize (lg_sl ([.ref (ad (2 * r + 10)), .int x]) ++ List.replicate (2 - (lg_sl ([.ref (ad (2 * r + 10)), .int x])).length) Slot.unset).toArray = ls at hl ⊢
  have hl : lv_has ls 2 [(0, .ref (ad (2 * r + 10))), (1, .int x)] := hl
  refine lv_iload_n hx hb dX3_get_0 rfl (lv_at hl 1 rfl) ?_
  refine lv_if_lt (tgt := 22) hx hb dX3_get_1 (by decide) (fun c1 => ?_) (fun c1 => ?_)
  · refine lv_iconst (v := 0) hx hb dX3_get_22 (by decide +kernel) ?_
    exact W.iret (v := 0) hx hb hr (fun t ht hW => ⟨⟨_, _, rfl, ⟨(if_neg (zlt0 c1)).symm, rfl⟩, zend hw ht⟩, hS.F ht⟩) hS.2.2 dX3_get_23
  · refine lv_iload_n hx hb dX3_get_4 rfl (lv_at hl 1 rfl) ?_
    refine lv_aload_n hx hb dX3_get_5 rfl (lv_at hl 0 rfl) ?_
    refine zget hx hb hts inX3 hown hK hw (2 * r + 10) (by omega) (zce_row r) rfl 0 (by decide) lk0 (fun _ h9 => h9) rfl dX3_get_6 ?_
    refine zalen hx hb hK hw (2 * r + 11) (by omega) (zce_arr r) rfl dX3_get_9 ?_
    refine lv_icmp_ge (tgt := 22) hx hb dX3_get_10 (by decide) (fun c2 => ?_) (fun c2 => ?_)
    · refine lv_iconst (v := 0) hx hb dX3_get_22 (by decide +kernel) ?_
      exact W.iret (v := 0) hx hb hr (fun t ht hW => ⟨⟨_, _, rfl, ⟨(if_neg (zge0 (zlen_lt r) c2)).symm, rfl⟩, zend hw ht⟩, hS.F ht⟩) hS.2.2 dX3_get_23
    · have hin : vp_in x (zlen r) := zin_of (zlen_lt r) c1 c2
      refine lv_aload_n hx hb dX3_get_13 rfl (lv_at hl 0 rfl) ?_
      refine zget hx hb hts inX3 hown hK hw (2 * r + 10) (by omega) (zce_row r) rfl 0 (by decide) lk0 (fun _ h9 => h9) rfl dX3_get_14 ?_
      refine lv_iload_n hx hb dX3_get_17 rfl (lv_at hl 1 rfl) ?_
      refine ziald hx hb hK hw (2 * r + 11) (by omega) (zce_arr r) hin dX3_get_18 ?_
      refine lv_goto (tgt := 23) hx hb dX3_get_19 (by decide) ?_
      exact W.iret (v := σ.1 r x.toNatClampNeg) hx hb hr (fun t ht hW => ⟨⟨_, _, rfl, ⟨(zrg_in hin).symm, rfl⟩, zend hw ht⟩, hS.F ht⟩) hS.2.2 dX3_get_23
set_option maxHeartbeats 4000000 in
set_option maxRecDepth 100000 in
theorem c_X3_put (l : Launch) (D : va_G) (cy : cyT) (ad : Nat → Nat) (σ : ST) (r : Nat) (hr53 : r < 53) (x v : Int32) : Met l yX3_put wsX3_put ({ frames := 0, cells := 0, slots := 0, locals := 0 } : Room) (zPre D cy 116 (zce cy ad σ) ad [.ref (ad (2 * r + 10)), .int x, .int v]) (va_Qv (fun τ => τ = zrs σ r x v) (zB D 116 (zce cy ad) ad) (zA 116 ad)) 0 0 (zA 116 ad) := by
  refine Met.ofW (cc := cX3_put) (maxL := 3) (ret := none) (by decide) rfl ?_
  intro p e s m args below meth c s₁ B hml hv
  obtain ⟨rfl, hj, hK, hw⟩ := hv
  have hx := B.exec
  have hb := B.bytes
  have hr := B.returns
  have hts := atoms_spec (ws := wsX3_put) B.pre
  have hown : s.vm.findClass RX3 = some m.cls := findClass_of_methodNamed B.named
  have hlocks := B.notSynchronized
  have lk0 : Cond.fieldLink RX3 7 "TypeTrays$Row" "cells" "[I" ∈ wsX3_put := List.mem_of_getElem? (i := 1) rfl
  have inX3 : ∀ w ∈ u_ws RX3 TX3 1, w ∈ wsX3_put := zin_at 2 rfl
  have hS : va_S (zA 116 ad) s.heap s.heap [] := va_S.rf
  have hA : ∀ i, i < 116 → zA 116 ad (ad i) := fun i hi => ⟨i, hi, rfl⟩
  have hl := lv_entry ([.ref (ad (2 * r + 10)), .int x, .int v]) (n := 3) (Nat.le_of_ble_eq_true rfl)
  rw [lg_entry_eq]
  generalize (lg_sl ([.ref (ad (2 * r + 10)), .int x, .int v]) ++ List.replicate (3 - (lg_sl ([.ref (ad (2 * r + 10)), .int x, .int v])).length) Slot.unset).toArray = ls at hl ⊢
  have hl : lv_has ls 3 [(0, .ref (ad (2 * r + 10))), (1, .int x), (2, .int v)] := hl
  refine lv_iload_n hx hb dX3_put_0 rfl (lv_at hl 1 rfl) ?_
  refine lv_if_lt (tgt := 20) hx hb dX3_put_1 (by decide) (fun c1 => ?_) (fun c1 => ?_)
  · exact W.vret hx hb hr (fun t ht hW => ⟨⟨_, rfl, (if_neg (zlt0 c1)).symm, zend hw ht⟩, hS.F ht⟩) hS.2.2 dX3_put_20
  · refine lv_iload_n hx hb dX3_put_4 rfl (lv_at hl 1 rfl) ?_
    refine lv_aload_n hx hb dX3_put_5 rfl (lv_at hl 0 rfl) ?_
    refine zget hx hb hts inX3 hown hK hw (2 * r + 10) (by omega) (zce_row r) rfl 0 (by decide) lk0 (fun _ h9 => h9) rfl dX3_put_6 ?_
    refine zalen hx hb hK hw (2 * r + 11) (by omega) (zce_arr r) rfl dX3_put_9 ?_
    refine lv_icmp_ge (tgt := 20) hx hb dX3_put_10 (by decide) (fun c2 => ?_) (fun c2 => ?_)
    · exact W.vret hx hb hr (fun t ht hW => ⟨⟨_, rfl, (if_neg (zge0 (zlen_lt r) c2)).symm, zend hw ht⟩, hS.F ht⟩) hS.2.2 dX3_put_20
    · have hin : vp_in x (zlen r) := zin_of (zlen_lt r) c1 c2
      refine lv_aload_n hx hb dX3_put_13 rfl (lv_at hl 0 rfl) ?_
      refine zget hx hb hts inX3 hown hK hw (2 * r + 10) (by omega) (zce_row r) rfl 0 (by decide) lk0 (fun _ h9 => h9) rfl dX3_put_14 ?_
      refine lv_iload_n hx hb dX3_put_17 rfl (lv_at hl 1 rfl) ?_
      refine lv_iload_n hx hb dX3_put_18 rfl (lv_at hl 2 rfl) ?_
      refine ziast hx hb hK hj hw hA hS (2 * r + 11) (by omega) (zce_arr r) hin dX3_put_19 (zce cy ad (zrp σ r x.toNatClampNeg v)) (zrp_on_C r _ _) (fun j hj9 => zrp_off_C j hj9) (fun H locs hw hS => ?_)
      exact W.vret hx hb hr (fun t ht hW => ⟨⟨_, rfl, (zrs_in hin).symm, zend hw ht⟩, hS.F ht⟩) hS.2.2 dX3_put_20
theorem zcall_get {p : Program} {l : Launch} {e : Env} {R : Room} {s : State} {m : MethodId} {args : Array Value} {below : List Frame} {meth : Method} {c : Code} {H : Heap} {locs : List Loc} {cells slots : Nat} {QQ : State → Prop} {cc : ByteArray} {pc nL index : Nat} {ls : Array Slot} {rest : List Value} {D : va_G} {cy : cyT} {ad : Nat → Nat} {own : String} {Ts : List Cond} {H0 : Heap} {σ : ST} {x : Int32} (hx : p.tables.exec = Jvm.exec) (hb : c.code = cc) (hml : c.maxLocals = nL) (hown : s.vm.findClass own = some m.cls) (hts : ∀ w ∈ Ts, w.before args s = true) (hG : GoodIn Ts (wsV own index RX3 yX3_get wsX3_get)) (hR : 0 + 1 ≤ R.frames ∧ 8 + (2 + 11) + 0 ≤ R.locals) (hcs : cells ≤ R.cells ∧ slots ≤ R.slots) (hK : zK D cy s) (hj : zI 116 ad) (hw : zW D 116 (zce cy ad σ) ad H) {A0 : Nat → Prop} (hA : ∀ i, i < 116 → A0 (ad i)) (hS : va_S A0 H0 H locs) (r : Nat) (hr : r < 53) (hsz : ls.size = nL) (hrest : (rest.map fun v => v.category).sum ≤ 8) (hdg : decode cc pc = .ok (.invokevirtual index, 3)) (kk : ∀ (H : Heap) (locs : List Loc), zW D 116 (zce cy ad σ) ad H → va_S A0 H0 H locs → W p l e R s m args below meth c H locs cells slots QQ (F0 m (pc + 3) ls (.int (zrg σ r x) :: rest))) : W p l e R s m args below meth c H locs cells slots QQ (F0 m pc ls (.int x :: .ref (ad (2 * r + 10)) :: rest)) :=
  zcalli (va_runV (As := [.int x]) (rest := rest) ⟨hx, hb, hml, hown, hts⟩ (c_X3_get l D cy ad σ r hr x) (cwV 1 hts hG rfl rfl rfl (by decide +kernel) hR) (zpreV hj hK hw _ (i := 2 * r + 10) (ci := 2) (by omega) (zce_row r) rfl) rfl rfl hsz rfl (lv_room hrest) hdg hcs) hA hS (fun y τ H1 locs1 h hw1 hS1 => by
    rw [h.2] at hw1
    rw [h.1]
    exact kk H1 locs1 hw1 hS1)
theorem zcall_put {p : Program} {l : Launch} {e : Env} {R : Room} {s : State} {m : MethodId} {args : Array Value} {below : List Frame} {meth : Method} {c : Code} {H : Heap} {locs : List Loc} {cells slots : Nat} {QQ : State → Prop} {cc : ByteArray} {pc nL index : Nat} {ls : Array Slot} {rest : List Value} {D : va_G} {cy : cyT} {ad : Nat → Nat} {own : String} {Ts : List Cond} {H0 : Heap} {σ : ST} {x v : Int32} (hx : p.tables.exec = Jvm.exec) (hb : c.code = cc) (hml : c.maxLocals = nL) (hown : s.vm.findClass own = some m.cls) (hts : ∀ w ∈ Ts, w.before args s = true) (hG : GoodIn Ts (wsV own index RX3 yX3_put wsX3_put)) (hR : 0 + 1 ≤ R.frames ∧ 8 + (3 + 11) + 0 ≤ R.locals) (hcs : cells ≤ R.cells ∧ slots ≤ R.slots) (hK : zK D cy s) (hj : zI 116 ad) (hw : zW D 116 (zce cy ad σ) ad H) {A0 : Nat → Prop} (hA : ∀ i, i < 116 → A0 (ad i)) (hS : va_S A0 H0 H locs) (r : Nat) (hr : r < 53) (hsz : ls.size = nL) (hrest : (rest.map fun v => v.category).sum ≤ 8) (hdg : decode cc pc = .ok (.invokevirtual index, 3)) (kk : ∀ (H : Heap) (locs : List Loc), zW D 116 (zce cy ad (zrs σ r x v)) ad H → va_S A0 H0 H locs → W p l e R s m args below meth c H locs cells slots QQ (F0 m (pc + 3) ls rest)) : W p l e R s m args below meth c H locs cells slots QQ (F0 m pc ls (.int v :: .int x :: .ref (ad (2 * r + 10)) :: rest)) :=
  zcallv (va_runV (As := [.int x, .int v]) (rest := rest) ⟨hx, hb, hml, hown, hts⟩ (c_X3_put l D cy ad σ r hr x v) (cwV 2 hts hG rfl rfl rfl (by decide +kernel) hR) (zpreV hj hK hw _ (i := 2 * r + 10) (ci := 2) (by omega) (zce_row r) rfl) rfl rfl hsz rfl (lv_room hrest) hdg hcs) hA hS (fun τ H1 locs1 h hw1 hS1 => by
    rw [h] at hw1
    exact kk H1 locs1 hw1 hS1)
theorem last_04 : True := trivial
