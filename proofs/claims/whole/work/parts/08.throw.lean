/-! what is thrown: throwFor, and how it goes on to the caller -/
def zThr : List Cond := vx_atS RX6 221 "java/lang/IndexOutOfBoundsException" ["java/lang/RuntimeException", "java/lang/Exception"] ++ (vx_atS RX6 228 "java/lang/IllegalArgumentException" ["java/lang/RuntimeException", "java/lang/Exception"] ++ vx_atS RX6 233 "java/lang/IllegalStateException" ["java/lang/RuntimeException", "java/lang/Exception"])
def zAn (n : Nat) (ad : Nat → Nat) (sz : Nat) : Nat → Prop := fun q => zA n ad q ∨ sz ≤ q
def zX (AL : Nat → Prop) (sa : Nat → Nat) (U : State) : Prop :=
  vk_R RX6 219 "there is no such one" (sa 0) U ∧ vk_R RX6 226 "out of range" (sa 1) U ∧ vk_R RX6 231 "not in this state" (sa 2) U ∧ vx_Zq Bundle.tN "UNASSIGNED_STACK" Bundle.steD AL U U.heap ∧ vx_Zq Bundle.tN "SUPPRESSED_SENTINEL" Bundle.listD AL U U.heap ∧ ∀ w ∈ zThr, w.before #[] U = true
def zAL (AL : Nat → Prop) (n : Nat) (ad : Nat → Nat) (sz : Nat) : Prop := (∀ i, i < n → AL (ad i)) ∧ ∀ q, sz ≤ q → AL q
theorem zThr_face : ∀ w ∈ zThr, w.keepsFace = true := by decide +kernel
theorem zThr_ot : ∀ w ∈ zThr, vx_ot w = true := by decide +kernel
theorem zX.moved {AL : Nat → Prop} {sa : Nat → Nat} {s U : State} (hW : s.WarmedH U.vm) (hq : ∀ a : Nat, a < s.heap.size → ¬ AL a → U.heap[a]? = s.heap[a]?) (h : zX AL sa s) : zX AL sa U := by
  obtain ⟨h1, h2, h3, h4, h5, h6⟩ := h
  refine ⟨vk_R.warm hW h1, vk_R.warm hW h2, vk_R.warm hW h3, vx_Zq.kept (vx_Zq.moved hW.alike h4) hq, vx_Zq.kept (vx_Zq.moved hW.alike h5) hq, fun w hw => ?_⟩
  have e := Cond.before_shiftedFace (State.Shifted.of_warmed hW) w (zThr_face w hw) (h6 w hw)
  exact vx_ot_at (s := s.setVm U.vm) (by exact State.WarmedH.refl _) rfl (zThr_ot w hw) e
theorem zX.same {AL : Nat → Prop} {sa : Nat → Nat} {s U : State} (hv : s.vm = U.vm) (hh : U.heap = s.heap) (h : zX AL sa s) : zX AL sa U := by
  have hW : s.WarmedH U.vm := by rw [← hv]; exact State.WarmedH.refl s
  exact zX.moved hW (fun a _ _ => by rw [hh]) h
def xPre (D : va_G) (cy : cyT) (n : Nat) (f : Nat → va_E) (ad : Nat → Nat) (AL : Nat → Prop) (sa : Nat → Nat) (sz : Nat) (As : List Value) : Array Value → State → Prop := va_Pc As (fun U => U.heap.size = sz ∧ zI n ad ∧ zK D cy U ∧ zW D n f ad U.heap ∧ zX AL sa U ∧ zAL AL n ad U.heap.size)
theorem xblind {D : va_G} {cy : cyT} {n : Nat} {f : Nat → va_E} {ad : Nat → Nat} {AL : Nat → Prop} {sa : Nat → Nat} {sz : Nat} {As : List Value} : FrameBlind (xPre D cy n f ad AL sa sz As) := fun _ U _ _ h => ⟨h.1, h.2.1, h.2.2.1, zK.same (s := U) rfl h.2.2.2.1, h.2.2.2.2.1, zX.same (s := U) rfl rfl h.2.2.2.2.2.1, h.2.2.2.2.2.2⟩
def zEx : Nat → String
  | 1 => "java/lang/IndexOutOfBoundsException"
  | 2 => "java/lang/IllegalArgumentException"
  | _ => "java/lang/IllegalStateException"
def zXC (D : va_G) (n : Nat) (E : ST → Nat → va_E) (ad : Nat → Nat) (X : Nat → ST → Prop) (A : Nat → Prop) : String → State → State → Prop := vx_X (fun u : Nat × ST => X u.1 u.2) (fun e u t => e = zEx u.1 ∧ zW D n (E u.2) ad t.heap) A
theorem zW.grown {D : va_G} {n : Nat} {f : Nat → va_E} {ad : Nat → Nat} {H H1 : Heap} (hw : zW D n f ad H) (hq : ∀ q : Nat, q < H.size → H1[q]? = H[q]?) : zW D n f ad H1 := fun i hi => (hw i hi).kept (hq _ (hw i hi).lt)
theorem zsub {AL : Nat → Prop} {n : Nat} {ad : Nat → Nat} {sz : Nat} (h : zAL AL n ad sz) : ∀ q, zAn n ad sz q → AL q := fun q hq => by
  rcases hq with ⟨i, hi, rfl⟩ | hq
  · exact h.1 i hi
  · exact h.2 q hq
theorem xpreS {D : va_G} {cy : cyT} {n : Nat} {f : Nat → va_E} {ad : Nat → Nat} {AL : Nat → Prop} {sa : Nat → Nat} {s : State} {H : Heap} {locs : List Loc} (hj : zI n ad) (hK : zK D cy s) (hw : zW D n f ad H) (hX : zX AL sa s) (hAL : zAL AL n ad s.heap.size) (hS : va_S (zAn n ad s.heap.size) s.heap H locs) (As : List Value) : PreS s H (xPre D cy n f ad AL sa H.size As) As :=
  ⟨xblind, fun U hU hW => ⟨rfl, by rw [hU], hj, hK.moved hW, by rw [hU]; exact hw, zX.moved hW (fun a ha hn => by rw [hU]; exact hS.2.1 a ha (fun q => hn (zsub hAL _ q))) hX, hAL.1, fun q hq => hAL.2 q (Nat.le_trans hS.1 (by rw [← hU]; exact hq))⟩⟩
def wp_X6_throwFor (σ : ST) (p0 : Int32) (Q : ST → Prop) : Prop := ¬ p0 = jI 1 ∧ ¬ p0 = jI 2 ∧ ¬ p0 = jI 3 ∧ Q σ
def wx_X6_throwFor (σ : ST) (p0 : Int32) (Q : ST → Prop) (X : Nat → ST → Prop) : Prop := (p0 = jI 1 → X 1 σ) ∧ (¬ p0 = jI 1 → (p0 = jI 2 → X 2 σ) ∧ (¬ p0 = jI 2 → (p0 = jI 3 → X 3 σ) ∧ (¬ p0 = jI 3 → Q σ)))
set_option maxHeartbeats 4000000 in
set_option maxRecDepth 100000 in
theorem c_X6_throwFor (l : Launch) (D : va_G) (cy : cyT) (ad : Nat → Nat) (σ : ST) (p0 : Int32) {Q : ST → Prop} (h : wp_X6_throwFor σ p0 Q) : Met l yX6_throwFor wsX6_throwFor ({ frames := 0, cells := 0, slots := 0, locals := 0 } : Room) (zPre D cy 116 (zce cy ad σ) ad [.int p0]) (va_Qv Q (zB D 116 (zce cy ad) ad) (zA 116 ad)) 0 0 (zA 116 ad) := by
  refine Met.ofW (cc := cX6_throwFor) (maxL := 1) (ret := none) (by decide) rfl ?_
  intro p e s m args below meth c s₁ B hml hv
  obtain ⟨rfl, hj, hK, hw⟩ := hv
  have hx := B.exec
  have hb := B.bytes
  have hr := B.returns
  have hlocks := B.notSynchronized
  have hS : va_S (zA 116 ad) s.heap s.heap [] := va_S.rf
  have hl := lv_entry ([.int p0]) (n := 1) (Nat.le_of_ble_eq_true rfl)
  rw [lg_entry_eq]
  generalize (lg_sl ([.int p0]) ++ List.replicate (1 - (lg_sl ([.int p0])).length) Slot.unset).toArray = ls at hl ⊢
  have hl : lv_has ls 1 [(0, .int p0)] := hl
  refine lv_iload_n hx hb dX6_throwFor_0 rfl (lv_at hl 0 rfl) ?_
  refine lv_iconst (v := jI 1) hx hb dX6_throwFor_1 rfl ?_
  refine lv_icmp_ne (tgt := 15) hx hb dX6_throwFor_2 (by decide) (fun c1 => ?_) (fun c1 => absurd c1 h.1)
  refine lv_iload_n hx hb dX6_throwFor_15 rfl (lv_at hl 0 rfl) ?_
  refine lv_iconst (v := jI 2) hx hb dX6_throwFor_16 rfl ?_
  refine lv_icmp_ne (tgt := 30) hx hb dX6_throwFor_17 (by decide) (fun c1 => ?_) (fun c1 => absurd c1 h.2.1)
  refine lv_iload_n hx hb dX6_throwFor_30 rfl (lv_at hl 0 rfl) ?_
  refine lv_iconst (v := jI 3) hx hb dX6_throwFor_31 rfl ?_
  refine lv_icmp_ne (tgt := 45) hx hb dX6_throwFor_32 (by decide) (fun c1 => ?_) (fun c1 => absurd c1 h.2.2.1)
  exact W.vret hx hb hr (fun t ht hW => ⟨⟨_, rfl, h.2.2.2, zend hw ht⟩, hS.F ht⟩) hS.2.2 dX6_throwFor_45
theorem zhatS {s : State} {args : Array Value} {L : List Cond} (hs : ∀ w ∈ L, w ∈ zThr) (h6 : ∀ w ∈ zThr, w.before #[] s = true) : ∀ w ∈ L, w.before args s = true := fun w hw => vx_ot_at (State.WarmedH.refl s) rfl (zThr_ot w (hs w hw)) (h6 w (hs w hw))
set_option maxHeartbeats 4000000 in
set_option maxRecDepth 100000 in
theorem t_X6_throwFor (l : Launch) (hlt : l.stackTraces = false) (D : va_G) (cy : cyT) (ad : Nat → Nat) (AL : Nat → Prop) (sa : Nat → Nat) (sz : Nat) (σ : ST) (p0 : Int32) {Q : ST → Prop} {X : Nat → ST → Prop} (h : wx_X6_throwFor σ p0 Q X) : vx_Met l yX6_throwFor wsX6_throwFor ({ frames := 6, cells := 1, slots := 6, locals := 90 } : Room) (xPre D cy 116 (zce cy ad σ) ad AL sa sz [.int p0]) (va_Qv Q (zB D 116 (zce cy ad) ad) (zAn 116 ad sz)) (zXC D 116 (zce cy ad) ad X (zAn 116 ad sz)) 1 6 (zAn 116 ad sz) := by
  refine vx_ofW (cc := cX6_throwFor) (maxL := 1) (ret := none) (by decide) rfl ?_
  intro p e s m args below meth c s₁ B hml htab hv
  obtain ⟨rfl, hsz, hj, hK, hw, hX, hAL⟩ := hv
  subst hsz
  have hx := B.exec
  have hb := B.bytes
  have hr := B.returns
  have hts := atoms_spec (ws := wsX6_throwFor) B.pre
  have hown : s.vm.findClass RX6 = some m.cls := findClass_of_methodNamed B.named
  have hlocks := B.notSynchronized
  have hS : va_S AL s.heap s.heap [] := va_S.rf
  have hS0 : va_S (zAn 116 ad s.heap.size) s.heap s.heap [] := va_S.rf
  have q1 : Cond.classLink RX6 217 "java/lang/IndexOutOfBoundsException" ∈ wsX6_throwFor := List.mem_of_getElem? (i := 1) rfl
  have q2 : Cond.initialized "java/lang/IndexOutOfBoundsException" ∈ wsX6_throwFor := List.mem_of_getElem? (i := 2) rfl
  have q3 : Cond.classLink RX6 224 "java/lang/IllegalArgumentException" ∈ wsX6_throwFor := List.mem_of_getElem? (i := 3) rfl
  have q4 : Cond.initialized "java/lang/IllegalArgumentException" ∈ wsX6_throwFor := List.mem_of_getElem? (i := 4) rfl
  have q5 : Cond.classLink RX6 229 "java/lang/IllegalStateException" ∈ wsX6_throwFor := List.mem_of_getElem? (i := 5) rfl
  have q6 : Cond.initialized "java/lang/IllegalStateException" ∈ wsX6_throwFor := List.mem_of_getElem? (i := 6) rfl
  obtain ⟨r1, r2, r3, z1, z2, h6⟩ := hX
  have hl := lv_entry ([.int p0]) (n := 1) (Nat.le_of_ble_eq_true rfl)
  rw [lg_entry_eq]
  generalize (lg_sl ([.int p0]) ++ List.replicate (1 - (lg_sl ([.int p0])).length) Slot.unset).toArray = ls at hl ⊢
  have hl : lv_has ls 1 [(0, .int p0)] := hl
  refine lv_iload_n hx hb dX6_throwFor_0 rfl (lv_at hl 0 rfl) ?_
  refine lv_iconst (v := jI 1) hx hb dX6_throwFor_1 rfl ?_
  refine lv_icmp_ne (tgt := 15) hx hb dX6_throwFor_2 (by decide) (fun c1 => ?_) (fun c1 => ?_)
  · have h := h.2 c1
    refine lv_iload_n hx hb dX6_throwFor_15 rfl (lv_at hl 0 rfl) ?_
    refine lv_iconst (v := jI 2) hx hb dX6_throwFor_16 rfl ?_
    refine lv_icmp_ne (tgt := 30) hx hb dX6_throwFor_17 (by decide) (fun c2 => ?_) (fun c2 => ?_)
    · have h := h.2 c2
      refine lv_iload_n hx hb dX6_throwFor_30 rfl (lv_at hl 0 rfl) ?_
      refine lv_iconst (v := jI 3) hx hb dX6_throwFor_31 rfl ?_
      refine lv_icmp_ne (tgt := 45) hx hb dX6_throwFor_32 (by decide) (fun c3 => ?_) (fun c3 => ?_)
      · refine vx_ret (W.widen (k := 1) (n := 6) (Nat.le_of_ble_eq_true rfl) (Nat.le_of_ble_eq_true rfl) ?_)
        exact W.vret hx hb hr (fun t ht hW => ⟨⟨_, rfl, h.2 c3, zend hw ht⟩, hS0.F ht⟩) hS0.2.2 dX6_throwFor_45
      · exact vx_throwS hx hb hlt hown (names := ["java/lang/RuntimeException", "java/lang/Exception"]) (by decide +kernel) (by decide +kernel) (hts _ q5) (hts _ q6) r3 (zhatS (fun w hw => List.mem_append_right _ (List.mem_append_right _ hw)) h6) (by decide +kernel) z1 z2 hS (by rw [hml]; exact hl.1) dX6_throwFor_35 dX6_throwFor_38 dX6_throwFor_39 dX6_throwFor_41 dX6_throwFor_44 (fun x hx => (htab x hx).elim) (Nat.le_of_ble_eq_true rfl) (Nat.le_of_ble_eq_true rfl) (Nat.le_of_ble_eq_true rfl) (Nat.le_of_ble_eq_true rfl) hlocks (fun t hal hz hq => ⟨(3, σ), h.1 c3, ⟨rfl, hw.grown hq⟩, hz, fun q hq1 _ => hq q hq1⟩) (fun z hz => nomatch hz) (Nat.le_of_ble_eq_true rfl) (Nat.le_of_ble_eq_true rfl)
    · exact vx_throwS hx hb hlt hown (names := ["java/lang/RuntimeException", "java/lang/Exception"]) (by decide +kernel) (by decide +kernel) (hts _ q3) (hts _ q4) r2 (zhatS (fun w hw => List.mem_append_right _ (List.mem_append_left _ hw)) h6) (by decide +kernel) z1 z2 hS (by rw [hml]; exact hl.1) dX6_throwFor_20 dX6_throwFor_23 dX6_throwFor_24 dX6_throwFor_26 dX6_throwFor_29 (fun x hx => (htab x hx).elim) (Nat.le_of_ble_eq_true rfl) (Nat.le_of_ble_eq_true rfl) (Nat.le_of_ble_eq_true rfl) (Nat.le_of_ble_eq_true rfl) hlocks (fun t hal hz hq => ⟨(2, σ), h.1 c2, ⟨rfl, hw.grown hq⟩, hz, fun q hq1 _ => hq q hq1⟩) (fun z hz => nomatch hz) (Nat.le_of_ble_eq_true rfl) (Nat.le_of_ble_eq_true rfl)
  · exact vx_throwS hx hb hlt hown (names := ["java/lang/RuntimeException", "java/lang/Exception"]) (by decide +kernel) (by decide +kernel) (hts _ q1) (hts _ q2) r1 (zhatS (fun w hw => List.mem_append_left _ hw) h6) (by decide +kernel) z1 z2 hS (by rw [hml]; exact hl.1) dX6_throwFor_5 dX6_throwFor_8 dX6_throwFor_9 dX6_throwFor_11 dX6_throwFor_14 (fun x hx => (htab x hx).elim) (Nat.le_of_ble_eq_true rfl) (Nat.le_of_ble_eq_true rfl) (Nat.le_of_ble_eq_true rfl) (Nat.le_of_ble_eq_true rfl) hlocks (fun t hal hz hq => ⟨(1, σ), h.1 c1, ⟨rfl, hw.grown hq⟩, hz, fun q hq1 _ => hq q hq1⟩) (fun z hz => nomatch hz) (Nat.le_of_ble_eq_true rfl) (Nat.le_of_ble_eq_true rfl)
theorem k_X6_throwFor {p : Program} {l : Launch} {e : Env} {R : Room} {s : State} {m : MethodId} {args : Array Value} {below : List Frame} {meth : Method} {c : Code} {H : Heap} {locs : List Loc} {cells slots : Nat} {QQ : State → Prop} {cc : ByteArray} {pc nL index : Nat} {ls : Array Slot} {rest : List Value} {D : va_G} {cy : cyT} {ad : Nat → Nat} {own : String} {Ts : List Cond} {H0 : Heap} {σ : ST} {p0 : Int32} {Q : ST → Prop} (hx : p.tables.exec = Jvm.exec) (hb : c.code = cc) (hml : c.maxLocals = nL) (hown : s.vm.findClass own = some m.cls) (hts : ∀ w ∈ Ts, w.before args s = true) (hG : GoodIn Ts (va_wsS own index yX6_throwFor wsX6_throwFor)) (hR : 0 + 1 ≤ R.frames ∧ 8 + (1 + 11) + 0 ≤ R.locals) (hcs : cells ≤ R.cells ∧ slots ≤ R.slots) (hK : zK D cy s) (hj : zI 116 ad) (hw : zW D 116 (zce cy ad σ) ad H) {A0 : Nat → Prop} (hA : ∀ i, i < 116 → A0 (ad i)) (hS : va_S A0 H0 H locs) (hsz : ls.size = nL) (hrest : (rest.map fun v => v.category).sum ≤ 8) (hdg : decode cc pc = .ok (.invokestatic index, 3)) (h : wp_X6_throwFor σ p0 Q) (kk : ∀ (σ : ST) (H : Heap) (locs : List Loc), Q σ → zW D 116 (zce cy ad σ) ad H → va_S A0 H0 H locs → W p l e R s m args below meth c H locs cells slots QQ (F0 m (pc + 3) ls rest)) : W p l e R s m args below meth c H locs cells slots QQ (F0 m pc ls (.int p0 :: rest)) :=
  zcallv (va_runS (As := [.int p0]) (rest := rest) ⟨hx, hb, hml, hown, hts⟩ (c_X6_throwFor l D cy ad σ p0 h) (va_cwS 1 hts hG rfl rfl rfl (by decide +kernel) hR) (zpreS hj hK hw _) rfl rfl hsz rfl (lv_room hrest) hdg hcs) hA hS kk
/-- throwFor called by a method that lets it through -/
theorem zthrow {p : Program} {l : Launch} {e : Env} {R : Room} {s : State} {m : MethodId} {args : Array Value} {below : List Frame} {meth : Method} {c : Code} {H : Heap} {locs : List Loc} {cells slots mc ms : Nat} {cc : ByteArray} {pc nL index : Nat} {ls : Array Slot} {rest : List Value} {D : va_G} {cy : cyT} {ad : Nat → Nat} {AL : Nat → Prop} {sa : Nat → Nat} {own : String} {Ts : List Cond} {σ : ST} {p0 : Int32} {Q : ST → Prop} {X : Nat → ST → Prop} {Qc : Array Value → State → Outcome → State → Prop} (hx : p.tables.exec = Jvm.exec) (hb : c.code = cc) (hml : c.maxLocals = nL) (hown : s.vm.findClass own = some m.cls) (hts : ∀ w ∈ Ts, w.before args s = true) (hlt : l.stackTraces = false) (hG : GoodIn Ts (va_wsS own index yX6_throwFor wsX6_throwFor)) (hR : 6 + 1 ≤ R.frames ∧ 8 + (1 + 11) + 90 ≤ R.locals) (hcs : cells + 1 ≤ R.cells ∧ slots + 6 ≤ R.slots) (hK : zK D cy s) (hj : zI 116 ad) (hw : zW D 116 (zce cy ad σ) ad H) (hX : zX AL sa s) (hAL : zAL AL 116 ad s.heap.size) (hS : va_S (zAn 116 ad s.heap.size) s.heap H locs) (hsz : ls.size = nL) (hrest : (rest.map fun v => v.category).sum ≤ 8) (hdg : decode cc pc = .ok (.invokestatic index, 3)) (htab : ∀ x ∈ c.exceptionTable.toList, False) (hlocks : meth.locks = false) (hmc : cells + 1 ≤ mc) (hms : slots + 6 ≤ ms) (h : wx_X6_throwFor σ p0 Q X)
    (kk : ∀ (σ : ST) (H : Heap) (locs : List Loc), Q σ → zW D 116 (zce cy ad σ) ad H → va_S (zAn 116 ad s.heap.size) s.heap H locs → W p l e R s m args below meth c H locs (cells + 1) (slots + 6) (vx_MQ below Qc (zXC D 116 (zce cy ad) ad X (zAn 116 ad s.heap.size)) args s mc ms (zAn 116 ad s.heap.size)) (F0 m (pc + 3) ls rest)) :
    W p l e R s m args below meth c H locs cells slots (vx_MQ below Qc (zXC D 116 (zce cy ad) ad X (zAn 116 ad s.heap.size)) args s mc ms (zAn 116 ad s.heap.size)) (F0 m pc ls (.int p0 :: rest)) := by
  have hsub : ∀ q, zAn 116 ad H.size q → zAn 116 ad s.heap.size q := fun q hq => hq.elim Or.inl (fun z => Or.inr (Nat.le_trans hS.1 z))
  refine vx_callv (vx_runS (As := [.int p0]) (rest := rest) ⟨hx, hb, hml, hown, hts⟩ (t_X6_throwFor l hlt D cy ad AL sa H.size σ p0 h) (va_cwS 1 hts hG rfl rfl rfl (by decide +kernel) hR) (xpreS hj hK hw hX hAL hS _) rfl rfl hsz rfl (lv_room hrest) hdg hcs) hS (fun q _ hq => hsub q hq) hsub (fun q _ hq => hsub q hq) (fun E ce q9 u t H1 locs1 ht hal hp hB hz hk hS1 hcell hvm hcl => ?_) (fun u t H1 locs1 ht hal hp hB hz hk hS1 => kk u H1 locs1 hp (by rw [← ht]; exact hB) hS1)
  refine vx_out (fun x hx => (htab x hx).elim) hlocks hcell hvm hcl (fun t' ht' _ => ⟨u, hp, ⟨hB.1, by rw [ht', ← ht]; exact hB.2⟩, hS1.F ht'⟩) hS1.2.2 hmc hms
theorem last_08 : True := trivial
