/-! printed by wip/whole/gen.py: contracts -/
set_option maxHeartbeats 4000000 in
set_option maxRecDepth 100000 in
theorem c_X7_latestOn (l : Launch) (D : va_G) (cy : cyT) (ad : Nat → Nat) (σ : ST) (p0 : Int32) (p1 : Int32) {Q : Int32 → ST → Prop} (h : wp_X7_latestOn σ p0 p1 Q) : Met l yX7_latestOn wsX7_latestOn ({ frames := 2, cells := 0, slots := 0, locals := 45 } : Room) (zPre D cy 6 (zme cy ad σ) ad [.ref (ad 0), .int p0, .int p1]) (va_Qi Q (zB D 6 (zme cy ad) ad) (zA 6 ad)) 0 0 (zA 6 ad) := by
  refine Met.ofW (cc := cX7_latestOn) (maxL := 5) (ret := (some .int)) (by decide) rfl ?_
  intro p e s m args below meth c s₁ B hml hv
  obtain ⟨rfl, hj, hK, hw⟩ := hv
  have hx := B.exec
  have hb := B.bytes
  have hr := B.returns
  have hts := atoms_spec (ws := wsX7_latestOn) B.pre
  have hown : s.vm.findClass RX7 = some m.cls := findClass_of_methodNamed B.named
  have hlocks := B.notSynchronized
  have hS : va_S (zA 6 ad) s.heap s.heap [] := va_S.rf
  have hA : ∀ i, i < 6 → zA 6 ad (ad i) := fun i hi => ⟨i, hi, rfl⟩
  have hl := lv_entry ([.ref (ad 0), .int p0, .int p1]) (n := 5) (Nat.le_of_ble_eq_true rfl)
  rw [lg_entry_eq]
  generalize (lg_sl ([.ref (ad 0), .int p0, .int p1]) ++ List.replicate (5 - (lg_sl ([.ref (ad 0), .int p0, .int p1])).length) Slot.unset).toArray = ls at hl ⊢
  have hl : lv_has ls 5 [(0, .ref (ad 0)), (1, .int p0), (2, .int p1)] := hl
  show W p l e ({ frames := 2, cells := 0, slots := 0, locals := 45 } : Room) s m ([.ref (ad 0), .int p0, .int p1] : List Value).toArray below meth c s.heap [] 0 0 (MQ below (va_Qi Q (zB D 6 (zme cy ad) ad) (zA 6 ad)) ([.ref (ad 0), .int p0, .int p1] : List Value).toArray s 0 0 (zA 6 ad)) (F0 m 0 ls [])
  unfold wp_X7_latestOn at h
  refine lv_iconst (v := (jI (-1))) hx hb dX7_latestOn_0 rfl ?_
  refine lv_istore_n (lv' := [(3, .int (jI (-1))), (0, .ref (ad 0)), (1, .int p0), (2, .int p1)]) hx hb dX7_latestOn_1 rfl hl (by decide) rfl (fun ls hl => ?_)
  refine lv_iconst (v := (jI 0)) hx hb dX7_latestOn_2 rfl ?_
  refine lv_istore (lv' := [(4, .int (jI 0)), (3, .int (jI (-1))), (0, .ref (ad 0)), (1, .int p0), (2, .int p1)]) hx hb dX7_latestOn_3 hl (by decide) rfl (fun ls hl => ?_)
  have k53_5 : ∀ (u_53 : ST) (z3_53 : Int32) (H : Heap) (locs : List Loc), Q z3_53 u_53 → zW D 6 (zme cy ad u_53) ad H → va_S (zA 6 ad) s.heap H locs → ∀ ls : Array Slot, lv_has ls 5 [(3, .int z3_53)] → W p l e ({ frames := 2, cells := 0, slots := 0, locals := 45 } : Room) s m ([.ref (ad 0), .int p0, .int p1] : List Value).toArray below meth c H locs 0 0 (MQ below (va_Qi Q (zB D 6 (zme cy ad) ad) (zA 6 ad)) ([.ref (ad 0), .int p0, .int p1] : List Value).toArray s 0 0 (zA 6 ad)) (F0 m 53 ls []) := by
    intro u_53 z3_53 H locs h hw hS ls hl
    refine lv_iload_n hx hb dX7_latestOn_53 rfl (lv_at hl 0 rfl) ?_
    exact W.iret (v := z3_53) hx hb hr (fun t ht hW => ⟨⟨_, _, rfl, h, zend hw ht⟩, hS.F ht⟩) hS.2.2 dX7_latestOn_54
  have lp5 : ∀ (nn5 : Nat) (t_5 : ST) (y3_5 : Int32) (y4_5 : Int32) (H : Heap) (locs : List Loc), wl_X7_latestOn_5 (fun u_53 z3_53 => Q z3_53 u_53) p0 p1 nn5 t_5 y3_5 y4_5 → zW D 6 (zme cy ad t_5) ad H → va_S (zA 6 ad) s.heap H locs → ∀ ls : Array Slot, lv_has ls 5 [(0, .ref (ad 0)), (1, .int p0), (2, .int p1), (3, .int y3_5), (4, .int y4_5)] → W p l e ({ frames := 2, cells := 0, slots := 0, locals := 45 } : Room) s m ([.ref (ad 0), .int p0, .int p1] : List Value).toArray below meth c H locs 0 0 (MQ below (va_Qi Q (zB D 6 (zme cy ad) ad) (zA 6 ad)) ([.ref (ad 0), .int p0, .int p1] : List Value).toArray s 0 0 (zA 6 ad)) (F0 m 5 ls []) := by
    intro nn5
    induction nn5 with
    | zero => intro _ _ _ _ _ h; exact h.elim
    | succ nn5 ih5 =>
      intro t_5 y3_5 y4_5 H locs h hw hS ls hl
      simp only [wl_X7_latestOn_5, wb_X7_latestOn_5] at h
      refine lv_iload hx hb dX7_latestOn_5 (lv_at hl 4 rfl) ?_
      refine lv_sipush (v := (jI 144)) hx hb dX7_latestOn_7 (by decide +kernel) ?_
      refine lv_icmp_ge (tgt := 53) hx hb dX7_latestOn_10 (by decide) (fun c1 => ?_) (fun c1 => ?_)
      · have h := h.1 c1
        exact k53_5 _ _ _ _ h hw hS _ (lv_sub hl [3] rfl)
      · have h := h.2 c1
        refine lv_aload_n hx hb dX7_latestOn_13 rfl (lv_at hl 0 rfl) ?_
        refine lv_iload hx hb dX7_latestOn_14 (lv_at hl 4 rfl) ?_
        refine lv_iload_n hx hb dX7_latestOn_16 rfl (lv_at hl 1 rfl) ?_
        refine lv_iload_n hx hb dX7_latestOn_17 rfl (lv_at hl 2 rfl) ?_
        refine k_X7_isOn (rest := []) hx hb hml hown hts gX7_latestOn_X7_isOn ⟨Nat.le_of_ble_eq_true rfl, Nat.le_of_ble_eq_true rfl⟩ ⟨Nat.zero_le _, Nat.zero_le _⟩ hK hj hw hA hS hl.1 (Nat.le_of_ble_eq_true rfl) dX7_latestOn_18 h (fun r1 s1 H locs h hw hS => ?_)
        refine zif_eq (tgt := 45) hx hb dX7_latestOn_21 (by decide) (fun c2 => ?_) (fun c2 => ?_)
        · have h := h.1 c2
          refine lv_iload_n hx hb dX7_latestOn_45 rfl (lv_at hl 3 rfl) ?_
          refine lv_istore_n (lv' := [(3, .int y3_5), (0, .ref (ad 0)), (1, .int p0), (2, .int p1), (4, .int y4_5)]) hx hb dX7_latestOn_46 rfl hl (by decide) rfl (fun ls hl => ?_)
          obtain ⟨x1, ex1⟩ : ∃ y : Int32, y = y4_5 + (jI 1) := ⟨_, rfl⟩
          have h := h x1 ex1
          refine lv_iinc (v := x1) (lv' := [(4, .int x1), (3, .int y3_5), (0, .ref (ad 0)), (1, .int p0), (2, .int p1)]) hx hb dX7_latestOn_47 hl (k := 4) rfl (by rw [ex1]; rfl) (by decide) rfl (fun ls hl => ?_)
          refine lv_goto (tgt := 5) hx hb dX7_latestOn_50 (by decide) ?_
          exact ih5 _ _ _ _ _ h hw hS _ (lv_sub hl [2, 3, 4, 1, 0] rfl)
        · have h := h.2 c2
          refine lv_aload_n hx hb dX7_latestOn_24 rfl (lv_at hl 0 rfl) ?_
          refine lv_iload hx hb dX7_latestOn_25 (lv_at hl 4 rfl) ?_
          refine lv_iconst (v := (jI 3)) hx hb dX7_latestOn_27 rfl ?_
          refine k_X7_of (rest := []) hx hb hml hown hts gX7_latestOn_X7_of ⟨Nat.le_of_ble_eq_true rfl, Nat.le_of_ble_eq_true rfl⟩ ⟨Nat.zero_le _, Nat.zero_le _⟩ hK hj hw hA hS hl.1 (Nat.le_of_ble_eq_true rfl) dX7_latestOn_28 h (fun r2 s2 H locs h hw hS => ?_)
          refine lv_iload_n hx hb dX7_latestOn_31 rfl (lv_at hl 3 rfl) ?_
          refine lv_icmp_le (tgt := 45) hx hb dX7_latestOn_32 (by decide) (fun c3 => ?_) (fun c3 => ?_)
          · have h := h.1 c3
            refine lv_iload_n hx hb dX7_latestOn_45 rfl (lv_at hl 3 rfl) ?_
            refine lv_istore_n (lv' := [(3, .int y3_5), (0, .ref (ad 0)), (1, .int p0), (2, .int p1), (4, .int y4_5)]) hx hb dX7_latestOn_46 rfl hl (by decide) rfl (fun ls hl => ?_)
            obtain ⟨x2, ex2⟩ : ∃ y : Int32, y = y4_5 + (jI 1) := ⟨_, rfl⟩
            have h := h x2 ex2
            refine lv_iinc (v := x2) (lv' := [(4, .int x2), (3, .int y3_5), (0, .ref (ad 0)), (1, .int p0), (2, .int p1)]) hx hb dX7_latestOn_47 hl (k := 4) rfl (by rw [ex2]; rfl) (by decide) rfl (fun ls hl => ?_)
            refine lv_goto (tgt := 5) hx hb dX7_latestOn_50 (by decide) ?_
            exact ih5 _ _ _ _ _ h hw hS _ (lv_sub hl [2, 3, 4, 1, 0] rfl)
          · have h := h.2 c3
            refine lv_aload_n hx hb dX7_latestOn_35 rfl (lv_at hl 0 rfl) ?_
            refine lv_iload hx hb dX7_latestOn_36 (lv_at hl 4 rfl) ?_
            refine lv_iconst (v := (jI 3)) hx hb dX7_latestOn_38 rfl ?_
            refine k_X7_of (rest := []) hx hb hml hown hts gX7_latestOn_X7_of ⟨Nat.le_of_ble_eq_true rfl, Nat.le_of_ble_eq_true rfl⟩ ⟨Nat.zero_le _, Nat.zero_le _⟩ hK hj hw hA hS hl.1 (Nat.le_of_ble_eq_true rfl) dX7_latestOn_39 h (fun r3 s3 H locs h hw hS => ?_)
            refine lv_goto (tgt := 46) hx hb dX7_latestOn_42 (by decide) ?_
            refine lv_istore_n (lv' := [(3, .int r3), (0, .ref (ad 0)), (1, .int p0), (2, .int p1), (4, .int y4_5)]) hx hb dX7_latestOn_46 rfl hl (by decide) rfl (fun ls hl => ?_)
            obtain ⟨x3, ex3⟩ : ∃ y : Int32, y = y4_5 + (jI 1) := ⟨_, rfl⟩
            have h := h x3 ex3
            refine lv_iinc (v := x3) (lv' := [(4, .int x3), (3, .int r3), (0, .ref (ad 0)), (1, .int p0), (2, .int p1)]) hx hb dX7_latestOn_47 hl (k := 4) rfl (by rw [ex3]; rfl) (by decide) rfl (fun ls hl => ?_)
            refine lv_goto (tgt := 5) hx hb dX7_latestOn_50 (by decide) ?_
            exact ih5 _ _ _ _ _ h hw hS _ (lv_sub hl [2, 3, 4, 1, 0] rfl)
  obtain ⟨nn5, h⟩ := h
  exact lp5 nn5 _ _ _ _ _ h hw hS _ (lv_sub hl [2, 3, 4, 1, 0] rfl)
theorem k_X7_latestOn {p : Program} {l : Launch} {e : Env} {R : Room} {s : State} {m : MethodId} {args : Array Value} {below : List Frame} {meth : Method} {c : Code} {H : Heap} {locs : List Loc} {cells slots : Nat} {QQ : State → Prop} {cc : ByteArray} {pc nL index : Nat} {ls : Array Slot} {rest : List Value} {D : va_G} {cy : cyT} {ad : Nat → Nat} {own : String} {Ts : List Cond} {H0 : Heap} {σ : ST} {p0 : Int32} {p1 : Int32} {Q : Int32 → ST → Prop} (hx : p.tables.exec = Jvm.exec) (hb : c.code = cc) (hml : c.maxLocals = nL) (hown : s.vm.findClass own = some m.cls) (hts : ∀ w ∈ Ts, w.before args s = true) (hG : GoodIn Ts (wsV own index RX7 yX7_latestOn wsX7_latestOn)) (hR : 2 + 1 ≤ R.frames ∧ 8 + (5 + 11) + 45 ≤ R.locals) (hcs : cells ≤ R.cells ∧ slots ≤ R.slots) (hK : zK D cy s) (hj : zI 6 ad) (hw : zW D 6 (zme cy ad σ) ad H) {A0 : Nat → Prop} (hA : ∀ i, i < 6 → A0 (ad i)) (hS : va_S A0 H0 H locs) (hsz : ls.size = nL) (hrest : (rest.map fun v => v.category).sum ≤ 8) (hdg : decode cc pc = .ok (.invokevirtual index, 3)) (h : wp_X7_latestOn σ p0 p1 Q) (kk : ∀ (r : Int32) (σ : ST) (H : Heap) (locs : List Loc), Q r σ → zW D 6 (zme cy ad σ) ad H → va_S A0 H0 H locs → W p l e R s m args below meth c H locs cells slots QQ (F0 m (pc + 3) ls (.int r :: rest))) : W p l e R s m args below meth c H locs cells slots QQ (F0 m pc ls (.int p1 :: .int p0 :: .ref (ad 0) :: rest)) :=
  zcalli (va_runV (As := [.int p0, .int p1]) (rest := rest) ⟨hx, hb, hml, hown, hts⟩ (c_X7_latestOn l D cy ad σ p0 p1 h) (cwV 2 hts hG rfl rfl rfl (by decide +kernel) hR) (zpreV hj hK hw _ (i := 0) (ci := 6) (by decide) rfl rfl) rfl rfl hsz rfl (lv_room hrest) hdg hcs) hA hS kk
set_option maxHeartbeats 4000000 in
set_option maxRecDepth 100000 in
theorem c_X7_isNowOn (l : Launch) (D : va_G) (cy : cyT) (ad : Nat → Nat) (σ : ST) (p0 : Int32) (p1 : Int32) {Q : Int32 → ST → Prop} (h : wp_X7_isNowOn σ p0 p1 Q) : Met l yX7_isNowOn wsX7_isNowOn ({ frames := 3, cells := 0, slots := 0, locals := 64 } : Room) (zPre D cy 6 (zme cy ad σ) ad [.ref (ad 0), .int p0, .int p1]) (va_Qi Q (zB D 6 (zme cy ad) ad) (zA 6 ad)) 0 0 (zA 6 ad) := by
  refine Met.ofW (cc := cX7_isNowOn) (maxL := 5) (ret := (some .boolean)) (by decide) rfl ?_
  intro p e s m args below meth c s₁ B hml hv
  obtain ⟨rfl, hj, hK, hw⟩ := hv
  have hx := B.exec
  have hb := B.bytes
  have hr := B.returns
  have hts := atoms_spec (ws := wsX7_isNowOn) B.pre
  have hown : s.vm.findClass RX7 = some m.cls := findClass_of_methodNamed B.named
  have hlocks := B.notSynchronized
  have hS : va_S (zA 6 ad) s.heap s.heap [] := va_S.rf
  have hA : ∀ i, i < 6 → zA 6 ad (ad i) := fun i hi => ⟨i, hi, rfl⟩
  have hl := lv_entry ([.ref (ad 0), .int p0, .int p1]) (n := 5) (Nat.le_of_ble_eq_true rfl)
  rw [lg_entry_eq]
  generalize (lg_sl ([.ref (ad 0), .int p0, .int p1]) ++ List.replicate (5 - (lg_sl ([.ref (ad 0), .int p0, .int p1])).length) Slot.unset).toArray = ls at hl ⊢
  have hl : lv_has ls 5 [(0, .ref (ad 0)), (1, .int p0), (2, .int p1)] := hl
  show W p l e ({ frames := 3, cells := 0, slots := 0, locals := 64 } : Room) s m ([.ref (ad 0), .int p0, .int p1] : List Value).toArray below meth c s.heap [] 0 0 (MQ below (va_Qi Q (zB D 6 (zme cy ad) ad) (zA 6 ad)) ([.ref (ad 0), .int p0, .int p1] : List Value).toArray s 0 0 (zA 6 ad)) (F0 m 0 ls [])
  unfold wp_X7_isNowOn at h
  refine lv_iconst (v := (jI 0)) hx hb dX7_isNowOn_0 rfl ?_
  refine lv_istore_n (lv' := [(3, .int (jI 0)), (0, .ref (ad 0)), (1, .int p0), (2, .int p1)]) hx hb dX7_isNowOn_1 rfl hl (by decide) rfl (fun ls hl => ?_)
  refine lv_iconst (v := (jI 0)) hx hb dX7_isNowOn_2 rfl ?_
  refine lv_istore (lv' := [(4, .int (jI 0)), (3, .int (jI 0)), (0, .ref (ad 0)), (1, .int p0), (2, .int p1)]) hx hb dX7_isNowOn_3 hl (by decide) rfl (fun ls hl => ?_)
  have k49_5 : ∀ (u_49 : ST) (z3_49 : Int32) (H : Heap) (locs : List Loc), (narrow .boolean (.int z3_49) = .int z3_49 ∧ Q z3_49 u_49) → zW D 6 (zme cy ad u_49) ad H → va_S (zA 6 ad) s.heap H locs → ∀ ls : Array Slot, lv_has ls 5 [(3, .int z3_49)] → W p l e ({ frames := 3, cells := 0, slots := 0, locals := 64 } : Room) s m ([.ref (ad 0), .int p0, .int p1] : List Value).toArray below meth c H locs 0 0 (MQ below (va_Qi Q (zB D 6 (zme cy ad) ad) (zA 6 ad)) ([.ref (ad 0), .int p0, .int p1] : List Value).toArray s 0 0 (zA 6 ad)) (F0 m 49 ls []) := by
    intro u_49 z3_49 H locs h hw hS ls hl
    refine lv_iload_n hx hb dX7_isNowOn_49 rfl (lv_at hl 0 rfl) ?_
    exact W.zret (v := z3_49) (ty := .boolean) hx hb hr h.1 (fun t ht hW => ⟨⟨_, _, rfl, h.2, zend hw ht⟩, hS.F ht⟩) hS.2.2 dX7_isNowOn_50
  have lp5 : ∀ (nn5 : Nat) (t_5 : ST) (y3_5 : Int32) (y4_5 : Int32) (H : Heap) (locs : List Loc), wl_X7_isNowOn_5 (fun u_49 z3_49 => (narrow .boolean (.int z3_49) = .int z3_49 ∧ Q z3_49 u_49)) p0 p1 nn5 t_5 y3_5 y4_5 → zW D 6 (zme cy ad t_5) ad H → va_S (zA 6 ad) s.heap H locs → ∀ ls : Array Slot, lv_has ls 5 [(0, .ref (ad 0)), (1, .int p0), (2, .int p1), (3, .int y3_5), (4, .int y4_5)] → W p l e ({ frames := 3, cells := 0, slots := 0, locals := 64 } : Room) s m ([.ref (ad 0), .int p0, .int p1] : List Value).toArray below meth c H locs 0 0 (MQ below (va_Qi Q (zB D 6 (zme cy ad) ad) (zA 6 ad)) ([.ref (ad 0), .int p0, .int p1] : List Value).toArray s 0 0 (zA 6 ad)) (F0 m 5 ls []) := by
    intro nn5
    induction nn5 with
    | zero => intro _ _ _ _ _ h; exact h.elim
    | succ nn5 ih5 =>
      intro t_5 y3_5 y4_5 H locs h hw hS ls hl
      simp only [wl_X7_isNowOn_5, wb_X7_isNowOn_5] at h
      refine lv_iload hx hb dX7_isNowOn_5 (lv_at hl 4 rfl) ?_
      refine lv_sipush (v := (jI 144)) hx hb dX7_isNowOn_7 (by decide +kernel) ?_
      refine lv_icmp_ge (tgt := 49) hx hb dX7_isNowOn_10 (by decide) (fun c1 => ?_) (fun c1 => ?_)
      · have h := h.1 c1
        exact k49_5 _ _ _ _ h hw hS _ (lv_sub hl [3] rfl)
      · have h := h.2 c1
        refine lv_iload_n hx hb dX7_isNowOn_13 rfl (lv_at hl 3 rfl) ?_
        refine zif_ne (tgt := 37) hx hb dX7_isNowOn_14 (by decide) (fun c2 => ?_) (fun c2 => ?_)
        · have h := h.2 c2
          refine lv_iconst (v := (jI 1)) hx hb dX7_isNowOn_37 rfl ?_
          refine lv_goto (tgt := 42) hx hb dX7_isNowOn_38 (by decide) ?_
          refine lv_istore_n (lv' := [(3, .int (jI 1)), (0, .ref (ad 0)), (1, .int p0), (2, .int p1), (4, .int y4_5)]) hx hb dX7_isNowOn_42 rfl hl (by decide) rfl (fun ls hl => ?_)
          obtain ⟨x1, ex1⟩ : ∃ y : Int32, y = y4_5 + (jI 1) := ⟨_, rfl⟩
          have h := h x1 ex1
          refine lv_iinc (v := x1) (lv' := [(4, .int x1), (3, .int (jI 1)), (0, .ref (ad 0)), (1, .int p0), (2, .int p1)]) hx hb dX7_isNowOn_43 hl (k := 4) rfl (by rw [ex1]; rfl) (by decide) rfl (fun ls hl => ?_)
          refine lv_goto (tgt := 5) hx hb dX7_isNowOn_46 (by decide) ?_
          exact ih5 _ _ _ _ _ h hw hS _ (lv_sub hl [2, 3, 4, 1, 0] rfl)
        · have h := h.1 c2
          refine lv_aload_n hx hb dX7_isNowOn_17 rfl (lv_at hl 0 rfl) ?_
          refine lv_iload hx hb dX7_isNowOn_18 (lv_at hl 4 rfl) ?_
          refine lv_iload_n hx hb dX7_isNowOn_20 rfl (lv_at hl 1 rfl) ?_
          refine lv_iload_n hx hb dX7_isNowOn_21 rfl (lv_at hl 2 rfl) ?_
          refine k_X7_isOn (rest := []) hx hb hml hown hts gX7_isNowOn_X7_isOn ⟨Nat.le_of_ble_eq_true rfl, Nat.le_of_ble_eq_true rfl⟩ ⟨Nat.zero_le _, Nat.zero_le _⟩ hK hj hw hA hS hl.1 (Nat.le_of_ble_eq_true rfl) dX7_isNowOn_22 h (fun r1 s1 H locs h hw hS => ?_)
          refine zif_eq (tgt := 41) hx hb dX7_isNowOn_25 (by decide) (fun c3 => ?_) (fun c3 => ?_)
          · have h := h.1 c3
            refine lv_iconst (v := (jI 0)) hx hb dX7_isNowOn_41 rfl ?_
            refine lv_istore_n (lv' := [(3, .int (jI 0)), (0, .ref (ad 0)), (1, .int p0), (2, .int p1), (4, .int y4_5)]) hx hb dX7_isNowOn_42 rfl hl (by decide) rfl (fun ls hl => ?_)
            obtain ⟨x2, ex2⟩ : ∃ y : Int32, y = y4_5 + (jI 1) := ⟨_, rfl⟩
            have h := h x2 ex2
            refine lv_iinc (v := x2) (lv' := [(4, .int x2), (3, .int (jI 0)), (0, .ref (ad 0)), (1, .int p0), (2, .int p1)]) hx hb dX7_isNowOn_43 hl (k := 4) rfl (by rw [ex2]; rfl) (by decide) rfl (fun ls hl => ?_)
            refine lv_goto (tgt := 5) hx hb dX7_isNowOn_46 (by decide) ?_
            exact ih5 _ _ _ _ _ h hw hS _ (lv_sub hl [2, 3, 4, 1, 0] rfl)
          · have h := h.2 c3
            refine lv_aload_n hx hb dX7_isNowOn_28 rfl (lv_at hl 0 rfl) ?_
            refine lv_iload hx hb dX7_isNowOn_29 (lv_at hl 4 rfl) ?_
            refine k_X7_isNow (rest := []) hx hb hml hown hts gX7_isNowOn_X7_isNow ⟨Nat.le_of_ble_eq_true rfl, Nat.le_of_ble_eq_true rfl⟩ ⟨Nat.zero_le _, Nat.zero_le _⟩ hK hj hw hA hS hl.1 (Nat.le_of_ble_eq_true rfl) dX7_isNowOn_31 h (fun r2 s2 H locs h hw hS => ?_)
            refine zif_eq (tgt := 41) hx hb dX7_isNowOn_34 (by decide) (fun c4 => ?_) (fun c4 => ?_)
            · have h := h.1 c4
              refine lv_iconst (v := (jI 0)) hx hb dX7_isNowOn_41 rfl ?_
              refine lv_istore_n (lv' := [(3, .int (jI 0)), (0, .ref (ad 0)), (1, .int p0), (2, .int p1), (4, .int y4_5)]) hx hb dX7_isNowOn_42 rfl hl (by decide) rfl (fun ls hl => ?_)
              obtain ⟨x3, ex3⟩ : ∃ y : Int32, y = y4_5 + (jI 1) := ⟨_, rfl⟩
              have h := h x3 ex3
              refine lv_iinc (v := x3) (lv' := [(4, .int x3), (3, .int (jI 0)), (0, .ref (ad 0)), (1, .int p0), (2, .int p1)]) hx hb dX7_isNowOn_43 hl (k := 4) rfl (by rw [ex3]; rfl) (by decide) rfl (fun ls hl => ?_)
              refine lv_goto (tgt := 5) hx hb dX7_isNowOn_46 (by decide) ?_
              exact ih5 _ _ _ _ _ h hw hS _ (lv_sub hl [2, 3, 4, 1, 0] rfl)
            · have h := h.2 c4
              refine lv_iconst (v := (jI 1)) hx hb dX7_isNowOn_37 rfl ?_
              refine lv_goto (tgt := 42) hx hb dX7_isNowOn_38 (by decide) ?_
              refine lv_istore_n (lv' := [(3, .int (jI 1)), (0, .ref (ad 0)), (1, .int p0), (2, .int p1), (4, .int y4_5)]) hx hb dX7_isNowOn_42 rfl hl (by decide) rfl (fun ls hl => ?_)
              obtain ⟨x4, ex4⟩ : ∃ y : Int32, y = y4_5 + (jI 1) := ⟨_, rfl⟩
              have h := h x4 ex4
              refine lv_iinc (v := x4) (lv' := [(4, .int x4), (3, .int (jI 1)), (0, .ref (ad 0)), (1, .int p0), (2, .int p1)]) hx hb dX7_isNowOn_43 hl (k := 4) rfl (by rw [ex4]; rfl) (by decide) rfl (fun ls hl => ?_)
              refine lv_goto (tgt := 5) hx hb dX7_isNowOn_46 (by decide) ?_
              exact ih5 _ _ _ _ _ h hw hS _ (lv_sub hl [2, 3, 4, 1, 0] rfl)
  obtain ⟨nn5, h⟩ := h
  exact lp5 nn5 _ _ _ _ _ h hw hS _ (lv_sub hl [2, 3, 4, 1, 0] rfl)
theorem k_X7_isNowOn {p : Program} {l : Launch} {e : Env} {R : Room} {s : State} {m : MethodId} {args : Array Value} {below : List Frame} {meth : Method} {c : Code} {H : Heap} {locs : List Loc} {cells slots : Nat} {QQ : State → Prop} {cc : ByteArray} {pc nL index : Nat} {ls : Array Slot} {rest : List Value} {D : va_G} {cy : cyT} {ad : Nat → Nat} {own : String} {Ts : List Cond} {H0 : Heap} {σ : ST} {p0 : Int32} {p1 : Int32} {Q : Int32 → ST → Prop} (hx : p.tables.exec = Jvm.exec) (hb : c.code = cc) (hml : c.maxLocals = nL) (hown : s.vm.findClass own = some m.cls) (hts : ∀ w ∈ Ts, w.before args s = true) (hG : GoodIn Ts (wsV own index RX7 yX7_isNowOn wsX7_isNowOn)) (hR : 3 + 1 ≤ R.frames ∧ 8 + (5 + 11) + 64 ≤ R.locals) (hcs : cells ≤ R.cells ∧ slots ≤ R.slots) (hK : zK D cy s) (hj : zI 6 ad) (hw : zW D 6 (zme cy ad σ) ad H) {A0 : Nat → Prop} (hA : ∀ i, i < 6 → A0 (ad i)) (hS : va_S A0 H0 H locs) (hsz : ls.size = nL) (hrest : (rest.map fun v => v.category).sum ≤ 8) (hdg : decode cc pc = .ok (.invokevirtual index, 3)) (h : wp_X7_isNowOn σ p0 p1 Q) (kk : ∀ (r : Int32) (σ : ST) (H : Heap) (locs : List Loc), Q r σ → zW D 6 (zme cy ad σ) ad H → va_S A0 H0 H locs → W p l e R s m args below meth c H locs cells slots QQ (F0 m (pc + 3) ls (.int r :: rest))) : W p l e R s m args below meth c H locs cells slots QQ (F0 m pc ls (.int p1 :: .int p0 :: .ref (ad 0) :: rest)) :=
  zcalli (va_runV (As := [.int p0, .int p1]) (rest := rest) ⟨hx, hb, hml, hown, hts⟩ (c_X7_isNowOn l D cy ad σ p0 p1 h) (cwV 2 hts hG rfl rfl rfl (by decide +kernel) hR) (zpreV hj hK hw _ (i := 0) (ci := 6) (by decide) rfl rfl) rfl rfl hsz rfl (lv_room hrest) hdg hcs) hA hS kk
set_option maxHeartbeats 4000000 in
set_option maxRecDepth 100000 in
theorem c_X7_looksAtGaps (l : Launch) (D : va_G) (cy : cyT) (ad : Nat → Nat) (σ : ST) (p0 : Int32) {Q : ST → Prop} (h : wp_X7_looksAtGaps σ p0 Q) : Met l yX7_looksAtGaps wsX7_looksAtGaps ({ frames := 3, cells := 0, slots := 0, locals := 69 } : Room) (zPre D cy 6 (zme cy ad σ) ad [.ref (ad 0), .int p0]) (va_Qv Q (zB D 6 (zme cy ad) ad) (zA 6 ad)) 0 0 (zA 6 ad) := by
  refine Met.ofW (cc := cX7_looksAtGaps) (maxL := 7) (ret := none) (by decide) rfl ?_
  intro p e s m args below meth c s₁ B hml hv
  obtain ⟨rfl, hj, hK, hw⟩ := hv
  have hx := B.exec
  have hb := B.bytes
  have hr := B.returns
  have hts := atoms_spec (ws := wsX7_looksAtGaps) B.pre
  have hown : s.vm.findClass RX7 = some m.cls := findClass_of_methodNamed B.named
  have hlocks := B.notSynchronized
  have lk0 : Cond.fieldLink RX7 7 "TypeTraysModel" "w" "[I" ∈ wsX7_looksAtGaps := List.mem_of_getElem? (i := 1) rfl
  have lk1 : Cond.fieldLink RX7 68 "TypeTraysModel" "rule" "I" ∈ wsX7_looksAtGaps := List.mem_of_getElem? (i := 2) rfl
  have lk2 : Cond.fieldLink RX7 71 "TypeTraysModel" "toTray" "I" ∈ wsX7_looksAtGaps := List.mem_of_getElem? (i := 3) rfl
  have lk3 : Cond.fieldLink RX7 74 "TypeTraysModel" "toShelf" "I" ∈ wsX7_looksAtGaps := List.mem_of_getElem? (i := 4) rfl
  have lk4 : Cond.fieldLink RX7 77 "TypeTraysModel" "toX" "I" ∈ wsX7_looksAtGaps := List.mem_of_getElem? (i := 5) rfl
  have inX7 : ∀ w ∈ u_ws RX7 TX7 16, w ∈ wsX7_looksAtGaps := zin_at 36 rfl
  have hS : va_S (zA 6 ad) s.heap s.heap [] := va_S.rf
  have hA : ∀ i, i < 6 → zA 6 ad (ad i) := fun i hi => ⟨i, hi, rfl⟩
  have hl := lv_entry ([.ref (ad 0), .int p0]) (n := 7) (Nat.le_of_ble_eq_true rfl)
  rw [lg_entry_eq]
  generalize (lg_sl ([.ref (ad 0), .int p0]) ++ List.replicate (7 - (lg_sl ([.ref (ad 0), .int p0])).length) Slot.unset).toArray = ls at hl ⊢
  have hl : lv_has ls 7 [(0, .ref (ad 0)), (1, .int p0)] := hl
  show W p l e ({ frames := 3, cells := 0, slots := 0, locals := 69 } : Room) s m ([.ref (ad 0), .int p0] : List Value).toArray below meth c s.heap [] 0 0 (MQ below (va_Qv Q (zB D 6 (zme cy ad) ad) (zA 6 ad)) ([.ref (ad 0), .int p0] : List Value).toArray s 0 0 (zA 6 ad)) (F0 m 0 ls [])
  unfold wp_X7_looksAtGaps at h
  refine lv_bipush (v := (jI 24)) hx hb dX7_looksAtGaps_0 (by decide +kernel) ?_
  refine lv_istore_n (lv' := [(2, .int (jI 24)), (0, .ref (ad 0)), (1, .int p0)]) hx hb dX7_looksAtGaps_2 rfl hl (by decide) rfl (fun ls hl => ?_)
  refine lv_iconst (v := (jI 0)) hx hb dX7_looksAtGaps_3 rfl ?_
  refine lv_istore_n (lv' := [(3, .int (jI 0)), (2, .int (jI 24)), (0, .ref (ad 0)), (1, .int p0)]) hx hb dX7_looksAtGaps_4 rfl hl (by decide) rfl (fun ls hl => ?_)
  have k135_5 : ∀ (u_135 : ST) (H : Heap) (locs : List Loc), Q u_135 → zW D 6 (zme cy ad u_135) ad H → va_S (zA 6 ad) s.heap H locs → ∀ ls : Array Slot, lv_has ls 7 [] → W p l e ({ frames := 3, cells := 0, slots := 0, locals := 69 } : Room) s m ([.ref (ad 0), .int p0] : List Value).toArray below meth c H locs 0 0 (MQ below (va_Qv Q (zB D 6 (zme cy ad) ad) (zA 6 ad)) ([.ref (ad 0), .int p0] : List Value).toArray s 0 0 (zA 6 ad)) (F0 m 135 ls []) := by
    intro u_135 H locs h hw hS ls hl
    exact W.vret hx hb hr (fun t ht hW => ⟨⟨_, rfl, h, zend hw ht⟩, hS.F ht⟩) hS.2.2 dX7_looksAtGaps_135
  have lp5 : ∀ (nn5 : Nat) (t_5 : ST) (y2_5 : Int32) (y3_5 : Int32) (H : Heap) (locs : List Loc), wl_X7_looksAtGaps_5 (fun u_135 => Q u_135) p0 nn5 t_5 y2_5 y3_5 → zW D 6 (zme cy ad t_5) ad H → va_S (zA 6 ad) s.heap H locs → ∀ ls : Array Slot, lv_has ls 7 [(0, .ref (ad 0)), (1, .int p0), (2, .int y2_5), (3, .int y3_5)] → W p l e ({ frames := 3, cells := 0, slots := 0, locals := 69 } : Room) s m ([.ref (ad 0), .int p0] : List Value).toArray below meth c H locs 0 0 (MQ below (va_Qv Q (zB D 6 (zme cy ad) ad) (zA 6 ad)) ([.ref (ad 0), .int p0] : List Value).toArray s 0 0 (zA 6 ad)) (F0 m 5 ls []) := by
    intro nn5
    induction nn5 with
    | zero => intro _ _ _ _ _ h; exact h.elim
    | succ nn5 ih5 =>
      intro t_5 y2_5 y3_5 H locs h hw hS ls hl
      simp only [wl_X7_looksAtGaps_5, wb_X7_looksAtGaps_5] at h
      refine lv_iload_n hx hb dX7_looksAtGaps_5 rfl (lv_at hl 3 rfl) ?_
      refine lv_aload_n hx hb dX7_looksAtGaps_6 rfl (lv_at hl 0 rfl) ?_
      refine zget hx hb hts inX7 hown hK hw 0 (by decide) rfl rfl 0 (by decide) lk0 (fun _ h9 => h9) rfl dX7_looksAtGaps_7 ?_
      refine lv_iconst (v := (jI 0)) hx hb dX7_looksAtGaps_10 rfl ?_
      refine ziald hx hb hK hw 1 (by decide) rfl h.1 dX7_looksAtGaps_11 ?_
      refine lv_topi (fun v1 ev1 => ?_)
      have h := h.2 v1 ev1
      refine lv_icmp_ge (tgt := 135) hx hb dX7_looksAtGaps_12 (by decide) (fun c1 => ?_) (fun c1 => ?_)
      · have h := h.1 c1
        exact k135_5 _ _ _ h hw hS _ (lv_sub hl [] rfl)
      · have h := h.2 c1
        refine lv_iconst (v := (jI 0)) hx hb dX7_looksAtGaps_15 rfl ?_
        refine lv_istore (lv' := [(4, .int (jI 0)), (0, .ref (ad 0)), (1, .int p0), (2, .int y2_5), (3, .int y3_5)]) hx hb dX7_looksAtGaps_16 hl (by decide) rfl (fun ls hl => ?_)
        have k129_18 : ∀ (u_129 : ST) (z2_129 : Int32) (H : Heap) (locs : List Loc), (∀ x5 : Int32, x5 = y3_5 + (jI 1) → (wl_X7_looksAtGaps_5 (fun u_135 => Q u_135) p0 nn5) u_129 z2_129 x5) → zW D 6 (zme cy ad u_129) ad H → va_S (zA 6 ad) s.heap H locs → ∀ ls : Array Slot, lv_has ls 7 [(0, .ref (ad 0)), (1, .int p0), (2, .int z2_129), (3, .int y3_5)] → W p l e ({ frames := 3, cells := 0, slots := 0, locals := 69 } : Room) s m ([.ref (ad 0), .int p0] : List Value).toArray below meth c H locs 0 0 (MQ below (va_Qv Q (zB D 6 (zme cy ad) ad) (zA 6 ad)) ([.ref (ad 0), .int p0] : List Value).toArray s 0 0 (zA 6 ad)) (F0 m 129 ls []) := by
          intro u_129 z2_129 H locs h hw hS ls hl
          obtain ⟨x5, ex5⟩ : ∃ y : Int32, y = y3_5 + (jI 1) := ⟨_, rfl⟩
          have h := h x5 ex5
          refine lv_iinc (v := x5) (lv' := [(3, .int x5), (0, .ref (ad 0)), (1, .int p0), (2, .int z2_129)]) hx hb dX7_looksAtGaps_129 hl (k := 3) rfl (by rw [ex5]; rfl) (by decide) rfl (fun ls hl => ?_)
          refine lv_goto (tgt := 5) hx hb dX7_looksAtGaps_132 (by decide) ?_
          exact ih5 _ _ _ _ _ h hw hS _ (lv_sub hl [1, 2, 3, 0] rfl)
        have lp18 : ∀ (nn18 : Nat) (t_18 : ST) (y2_18 : Int32) (y4_18 : Int32) (H : Heap) (locs : List Loc), wl_X7_looksAtGaps_18 (fun u_129 z2_129 => (∀ x5 : Int32, x5 = y3_5 + (jI 1) → (wl_X7_looksAtGaps_5 (fun u_135 => Q u_135) p0 nn5) u_129 z2_129 x5)) p0 y3_5 nn18 t_18 y2_18 y4_18 → zW D 6 (zme cy ad t_18) ad H → va_S (zA 6 ad) s.heap H locs → ∀ ls : Array Slot, lv_has ls 7 [(0, .ref (ad 0)), (1, .int p0), (2, .int y2_18), (3, .int y3_5), (4, .int y4_18)] → W p l e ({ frames := 3, cells := 0, slots := 0, locals := 69 } : Room) s m ([.ref (ad 0), .int p0] : List Value).toArray below meth c H locs 0 0 (MQ below (va_Qv Q (zB D 6 (zme cy ad) ad) (zA 6 ad)) ([.ref (ad 0), .int p0] : List Value).toArray s 0 0 (zA 6 ad)) (F0 m 18 ls []) := by
          intro nn18
          induction nn18 with
          | zero => intro _ _ _ _ _ h; exact h.elim
          | succ nn18 ih18 =>
            intro t_18 y2_18 y4_18 H locs h hw hS ls hl
            simp only [wl_X7_looksAtGaps_18, wb_X7_looksAtGaps_18] at h
            refine lv_iload hx hb dX7_looksAtGaps_18 (lv_at hl 4 rfl) ?_
            refine lv_aload_n hx hb dX7_looksAtGaps_20 rfl (lv_at hl 0 rfl) ?_
            refine zget hx hb hts inX7 hown hK hw 0 (by decide) rfl rfl 0 (by decide) lk0 (fun _ h9 => h9) rfl dX7_looksAtGaps_21 ?_
            refine lv_bipush (v := (jI 44)) hx hb dX7_looksAtGaps_24 (by decide +kernel) ?_
            refine lv_iload_n hx hb dX7_looksAtGaps_26 rfl (lv_at hl 3 rfl) ?_
            refine lv_iadd hx hb dX7_looksAtGaps_27 ?_
            refine ziald hx hb hK hw 1 (by decide) rfl h.1 dX7_looksAtGaps_28 ?_
            refine lv_topi (fun v2 ev2 => ?_)
            have h := h.2 v2 ev2
            refine lv_icmp_ge (tgt := 129) hx hb dX7_looksAtGaps_29 (by decide) (fun c2 => ?_) (fun c2 => ?_)
            · have h := h.1 c2
              exact k129_18 _ _ _ _ h hw hS _ (lv_sub hl [0, 1, 2, 3] rfl)
            · have h := h.2 c2
              refine lv_aload_n hx hb dX7_looksAtGaps_32 rfl (lv_at hl 0 rfl) ?_
              refine lv_iload_n hx hb dX7_looksAtGaps_33 rfl (lv_at hl 3 rfl) ?_
              refine lv_iload hx hb dX7_looksAtGaps_34 (lv_at hl 4 rfl) ?_
              refine k_X7_tall (rest := []) hx hb hml hown hts gX7_looksAtGaps_X7_tall ⟨Nat.le_of_ble_eq_true rfl, Nat.le_of_ble_eq_true rfl⟩ ⟨Nat.zero_le _, Nat.zero_le _⟩ hK hj hw hA hS hl.1 (Nat.le_of_ble_eq_true rfl) dX7_looksAtGaps_36 h (fun r1 s1 H locs h hw hS => ?_)
              refine lv_aload_n hx hb dX7_looksAtGaps_39 rfl (lv_at hl 0 rfl) ?_
              refine lv_iload_n hx hb dX7_looksAtGaps_40 rfl (lv_at hl 1 rfl) ?_
              refine k_X7_heightOf (rest := [.int r1]) hx hb hml hown hts gX7_looksAtGaps_X7_heightOf ⟨Nat.le_of_ble_eq_true rfl, Nat.le_of_ble_eq_true rfl⟩ ⟨Nat.zero_le _, Nat.zero_le _⟩ hK hj hw hA hS hl.1 (Nat.le_of_ble_eq_true rfl) dX7_looksAtGaps_41 h (fun r2 s2 H locs h hw hS => ?_)
              refine lv_isub hx hb dX7_looksAtGaps_44 ?_
              refine lv_topi (fun x1 ex1 => ?_)
              have h := h x1 ex1
              refine lv_istore (lv' := [(5, .int x1), (0, .ref (ad 0)), (1, .int p0), (2, .int y2_18), (3, .int y3_5), (4, .int y4_18)]) hx hb dX7_looksAtGaps_45 hl (by decide) rfl (fun ls hl => ?_)
              refine lv_aload_n hx hb dX7_looksAtGaps_47 rfl (lv_at hl 1 rfl) ?_
              refine lv_iload_n hx hb dX7_looksAtGaps_48 rfl (lv_at hl 4 rfl) ?_
              refine lv_iload hx hb dX7_looksAtGaps_49 (lv_at hl 5 rfl) ?_
              refine k_X7_covers (rest := []) hx hb hml hown hts gX7_looksAtGaps_X7_covers ⟨Nat.le_of_ble_eq_true rfl, Nat.le_of_ble_eq_true rfl⟩ ⟨Nat.zero_le _, Nat.zero_le _⟩ hK hj hw hA hS hl.1 (Nat.le_of_ble_eq_true rfl) dX7_looksAtGaps_51 h (fun s3 H locs h hw hS => ?_)
              refine lv_iconst (v := (jI 0)) hx hb dX7_looksAtGaps_54 rfl ?_
              refine lv_istore (lv' := [(6, .int (jI 0)), (5, .int x1), (0, .ref (ad 0)), (1, .int p0), (2, .int y2_18), (3, .int y3_5), (4, .int y4_18)]) hx hb dX7_looksAtGaps_55 hl (by decide) rfl (fun ls hl => ?_)
              have k123_57 : ∀ (u_123 : ST) (z2_123 : Int32) (H : Heap) (locs : List Loc), (∀ x4 : Int32, x4 = y4_18 + (jI 1) → (wl_X7_looksAtGaps_18 (fun u_129 z2_129 => (∀ x5 : Int32, x5 = y3_5 + (jI 1) → (wl_X7_looksAtGaps_5 (fun u_135 => Q u_135) p0 nn5) u_129 z2_129 x5)) p0 y3_5 nn18) u_123 z2_123 x4) → zW D 6 (zme cy ad u_123) ad H → va_S (zA 6 ad) s.heap H locs → ∀ ls : Array Slot, lv_has ls 7 [(0, .ref (ad 0)), (1, .int p0), (2, .int z2_123), (3, .int y3_5), (4, .int y4_18)] → W p l e ({ frames := 3, cells := 0, slots := 0, locals := 69 } : Room) s m ([.ref (ad 0), .int p0] : List Value).toArray below meth c H locs 0 0 (MQ below (va_Qv Q (zB D 6 (zme cy ad) ad) (zA 6 ad)) ([.ref (ad 0), .int p0] : List Value).toArray s 0 0 (zA 6 ad)) (F0 m 123 ls []) := by
                intro u_123 z2_123 H locs h hw hS ls hl
                obtain ⟨x4, ex4⟩ : ∃ y : Int32, y = y4_18 + (jI 1) := ⟨_, rfl⟩
                have h := h x4 ex4
                refine lv_iinc (v := x4) (lv' := [(4, .int x4), (0, .ref (ad 0)), (1, .int p0), (2, .int z2_123), (3, .int y3_5)]) hx hb dX7_looksAtGaps_123 hl (k := 4) rfl (by rw [ex4]; rfl) (by decide) rfl (fun ls hl => ?_)
                refine lv_goto (tgt := 18) hx hb dX7_looksAtGaps_126 (by decide) ?_
                exact ih18 _ _ _ _ _ h hw hS _ (lv_sub hl [1, 2, 3, 4, 0] rfl)
              have lp57 : ∀ (nn57 : Nat) (t_57 : ST) (y2_57 : Int32) (y6_57 : Int32) (H : Heap) (locs : List Loc), wl_X7_looksAtGaps_57 (fun u_123 z2_123 => (∀ x4 : Int32, x4 = y4_18 + (jI 1) → (wl_X7_looksAtGaps_18 (fun u_129 z2_129 => (∀ x5 : Int32, x5 = y3_5 + (jI 1) → (wl_X7_looksAtGaps_5 (fun u_135 => Q u_135) p0 nn5) u_129 z2_129 x5)) p0 y3_5 nn18) u_123 z2_123 x4)) p0 y3_5 y4_18 x1 nn57 t_57 y2_57 y6_57 → zW D 6 (zme cy ad t_57) ad H → va_S (zA 6 ad) s.heap H locs → ∀ ls : Array Slot, lv_has ls 7 [(0, .ref (ad 0)), (1, .int p0), (2, .int y2_57), (3, .int y3_5), (4, .int y4_18), (5, .int x1), (6, .int y6_57)] → W p l e ({ frames := 3, cells := 0, slots := 0, locals := 69 } : Room) s m ([.ref (ad 0), .int p0] : List Value).toArray below meth c H locs 0 0 (MQ below (va_Qv Q (zB D 6 (zme cy ad) ad) (zA 6 ad)) ([.ref (ad 0), .int p0] : List Value).toArray s 0 0 (zA 6 ad)) (F0 m 57 ls []) := by
                intro nn57
                induction nn57 with
                | zero => intro _ _ _ _ _ h; exact h.elim
                | succ nn57 ih57 =>
                  intro t_57 y2_57 y6_57 H locs h hw hS ls hl
                  simp only [wl_X7_looksAtGaps_57, wb_X7_looksAtGaps_57] at h
                  refine lv_iload hx hb dX7_looksAtGaps_57 (lv_at hl 6 rfl) ?_
                  refine lv_bipush (v := (jI 24)) hx hb dX7_looksAtGaps_59 (by decide +kernel) ?_
                  refine lv_icmp_ge (tgt := 123) hx hb dX7_looksAtGaps_61 (by decide) (fun c3 => ?_) (fun c3 => ?_)
                  · have h := h.1 c3
                    exact k123_57 _ _ _ _ h hw hS _ (lv_sub hl [0, 1, 2, 3, 4] rfl)
                  · have h := h.2 c3
                    refine lv_iload hx hb dX7_looksAtGaps_64 (lv_at hl 5 rfl) ?_
                    refine zif_lt (tgt := 123) hx hb dX7_looksAtGaps_66 (by decide) (fun c4 => ?_) (fun c4 => ?_)
                    · have h := h.1 c4
                      exact k123_57 _ _ _ _ h hw hS _ (lv_sub hl [0, 1, 2, 3, 4] rfl)
                    · have h := h.2 c4
                      refine lv_iload hx hb dX7_looksAtGaps_69 (lv_at hl 5 rfl) ?_
                      refine lv_iload_n hx hb dX7_looksAtGaps_71 rfl (lv_at hl 2 rfl) ?_
                      refine lv_icmp_ge (tgt := 123) hx hb dX7_looksAtGaps_72 (by decide) (fun c5 => ?_) (fun c5 => ?_)
                      · have h := h.1 c5
                        exact k123_57 _ _ _ _ h hw hS _ (lv_sub hl [0, 1, 2, 3, 4] rfl)
                      · have h := h.2 c5
                        refine lv_aload_n hx hb dX7_looksAtGaps_75 rfl (lv_at hl 0 rfl) ?_
                        refine lv_iload hx hb dX7_looksAtGaps_76 (lv_at hl 6 rfl) ?_
                        refine k_X7_endOf (rest := []) hx hb hml hown hts gX7_looksAtGaps_X7_endOf ⟨Nat.le_of_ble_eq_true rfl, Nat.le_of_ble_eq_true rfl⟩ ⟨Nat.zero_le _, Nat.zero_le _⟩ hK hj hw hA hS hl.1 (Nat.le_of_ble_eq_true rfl) dX7_looksAtGaps_78 h (fun r3 s4 H locs h hw hS => ?_)
                        refine lv_iload hx hb dX7_looksAtGaps_81 (lv_at hl 6 rfl) ?_
                        refine lv_isub hx hb dX7_looksAtGaps_83 ?_
                        refine lv_aload_n hx hb dX7_looksAtGaps_84 rfl (lv_at hl 0 rfl) ?_
                        refine lv_iload_n hx hb dX7_looksAtGaps_85 rfl (lv_at hl 1 rfl) ?_
                        refine k_X7_widthOf (rest := [.int (r3 - y6_57)]) hx hb hml hown hts gX7_looksAtGaps_X7_widthOf ⟨Nat.le_of_ble_eq_true rfl, Nat.le_of_ble_eq_true rfl⟩ ⟨Nat.zero_le _, Nat.zero_le _⟩ hK hj hw hA hS hl.1 (Nat.le_of_ble_eq_true rfl) dX7_looksAtGaps_86 h (fun r4 s5 H locs h hw hS => ?_)
                        refine lv_icmp_lt (tgt := 117) hx hb dX7_looksAtGaps_89 (by decide) (fun c6 => ?_) (fun c6 => ?_)
                        · have h := h.1 c6
                          obtain ⟨x2, ex2⟩ : ∃ y : Int32, y = y6_57 + (jI 1) := ⟨_, rfl⟩
                          have h := h x2 ex2
                          refine lv_iinc (v := x2) (lv' := [(6, .int x2), (0, .ref (ad 0)), (1, .int p0), (2, .int y2_57), (3, .int y3_5), (4, .int y4_18), (5, .int x1)]) hx hb dX7_looksAtGaps_117 hl (k := 6) rfl (by rw [ex2]; rfl) (by decide) rfl (fun ls hl => ?_)
                          refine lv_goto (tgt := 57) hx hb dX7_looksAtGaps_120 (by decide) ?_
                          exact ih57 _ _ _ _ _ h hw hS _ (lv_sub hl [1, 2, 3, 4, 5, 6, 0] rfl)
                        · have h := h.2 c6
                          refine lv_iload hx hb dX7_looksAtGaps_92 (lv_at hl 5 rfl) ?_
                          refine lv_istore_n (lv' := [(2, .int x1), (0, .ref (ad 0)), (1, .int p0), (3, .int y3_5), (4, .int y4_18), (5, .int x1), (6, .int y6_57)]) hx hb dX7_looksAtGaps_94 rfl hl (by decide) rfl (fun ls hl => ?_)
                          refine lv_aload_n hx hb dX7_looksAtGaps_95 rfl (lv_at hl 1 rfl) ?_
                          refine lv_iconst (v := (jI 1)) hx hb dX7_looksAtGaps_96 rfl ?_
                          obtain ⟨s6, es6⟩ : ∃ y : ST, y = zsp s5 2 (jI 1) := ⟨_, rfl⟩
                          have h := h s6 es6
                          refine zput (ty := .int) hx hb hts inX7 tyX7 tyX7_ok nmX7 hown hK hj hw hA hS 0 (by decide) rfl rfl 5 (by decide) lk1 (fun _ h9 => h9) rfl (by decide +kernel) rfl rfl (Nat.le_of_ble_eq_true rfl) dX7_looksAtGaps_97 (zme cy ad s6) (by rw [es6]; rfl) (fun j hj9 => by rw [es6]; exact zsp_off_M_2 j hj9) (fun H locs hw hS => ?_)
                          refine lv_aload_n hx hb dX7_looksAtGaps_100 rfl (lv_at hl 1 rfl) ?_
                          refine lv_iload_n hx hb dX7_looksAtGaps_101 rfl (lv_at hl 3 rfl) ?_
                          obtain ⟨s7, es7⟩ : ∃ y : ST, y = zsp s6 3 y3_5 := ⟨_, rfl⟩
                          have h := h s7 es7
                          refine zput (ty := .int) hx hb hts inX7 tyX7 tyX7_ok nmX7 hown hK hj hw hA hS 0 (by decide) rfl rfl 6 (by decide) lk2 (fun _ h9 => h9) rfl (by decide +kernel) rfl rfl (Nat.le_of_ble_eq_true rfl) dX7_looksAtGaps_102 (zme cy ad s7) (by rw [es7]; rfl) (fun j hj9 => by rw [es7]; exact zsp_off_M_3 j hj9) (fun H locs hw hS => ?_)
                          refine lv_aload_n hx hb dX7_looksAtGaps_105 rfl (lv_at hl 1 rfl) ?_
                          refine lv_iload hx hb dX7_looksAtGaps_106 (lv_at hl 4 rfl) ?_
                          obtain ⟨s8, es8⟩ : ∃ y : ST, y = zsp s7 4 y4_18 := ⟨_, rfl⟩
                          have h := h s8 es8
                          refine zput (ty := .int) hx hb hts inX7 tyX7 tyX7_ok nmX7 hown hK hj hw hA hS 0 (by decide) rfl rfl 7 (by decide) lk3 (fun _ h9 => h9) rfl (by decide +kernel) rfl rfl (Nat.le_of_ble_eq_true rfl) dX7_looksAtGaps_108 (zme cy ad s8) (by rw [es8]; rfl) (fun j hj9 => by rw [es8]; exact zsp_off_M_4 j hj9) (fun H locs hw hS => ?_)
                          refine lv_aload_n hx hb dX7_looksAtGaps_111 rfl (lv_at hl 1 rfl) ?_
                          refine lv_iload hx hb dX7_looksAtGaps_112 (lv_at hl 6 rfl) ?_
                          obtain ⟨s9, es9⟩ : ∃ y : ST, y = zsp s8 5 y6_57 := ⟨_, rfl⟩
                          have h := h s9 es9
                          refine zput (ty := .int) hx hb hts inX7 tyX7 tyX7_ok nmX7 hown hK hj hw hA hS 0 (by decide) rfl rfl 8 (by decide) lk4 (fun _ h9 => h9) rfl (by decide +kernel) rfl rfl (Nat.le_of_ble_eq_true rfl) dX7_looksAtGaps_114 (zme cy ad s9) (by rw [es9]; rfl) (fun j hj9 => by rw [es9]; exact zsp_off_M_5 j hj9) (fun H locs hw hS => ?_)
                          obtain ⟨x3, ex3⟩ : ∃ y : Int32, y = y6_57 + (jI 1) := ⟨_, rfl⟩
                          have h := h x3 ex3
                          refine lv_iinc (v := x3) (lv' := [(6, .int x3), (2, .int x1), (0, .ref (ad 0)), (1, .int p0), (3, .int y3_5), (4, .int y4_18), (5, .int x1)]) hx hb dX7_looksAtGaps_117 hl (k := 6) rfl (by rw [ex3]; rfl) (by decide) rfl (fun ls hl => ?_)
                          refine lv_goto (tgt := 57) hx hb dX7_looksAtGaps_120 (by decide) ?_
                          exact ih57 _ _ _ _ _ h hw hS _ (lv_sub hl [2, 3, 1, 4, 5, 6, 0] rfl)
              obtain ⟨nn57, h⟩ := h
              exact lp57 nn57 _ _ _ _ _ h hw hS _ (lv_sub hl [2, 3, 4, 5, 6, 1, 0] rfl)
        obtain ⟨nn18, h⟩ := h
        exact lp18 nn18 _ _ _ _ _ h hw hS _ (lv_sub hl [1, 2, 3, 4, 0] rfl)
  obtain ⟨nn5, h⟩ := h
  exact lp5 nn5 _ _ _ _ _ h hw hS _ (lv_sub hl [2, 3, 1, 0] rfl)
theorem k_X7_looksAtGaps {p : Program} {l : Launch} {e : Env} {R : Room} {s : State} {m : MethodId} {args : Array Value} {below : List Frame} {meth : Method} {c : Code} {H : Heap} {locs : List Loc} {cells slots : Nat} {QQ : State → Prop} {cc : ByteArray} {pc nL index : Nat} {ls : Array Slot} {rest : List Value} {D : va_G} {cy : cyT} {ad : Nat → Nat} {own : String} {Ts : List Cond} {H0 : Heap} {σ : ST} {p0 : Int32} {Q : ST → Prop} (hx : p.tables.exec = Jvm.exec) (hb : c.code = cc) (hml : c.maxLocals = nL) (hown : s.vm.findClass own = some m.cls) (hts : ∀ w ∈ Ts, w.before args s = true) (hG : GoodIn Ts (wsV own index RX7 yX7_looksAtGaps wsX7_looksAtGaps)) (hR : 3 + 1 ≤ R.frames ∧ 8 + (7 + 11) + 69 ≤ R.locals) (hcs : cells ≤ R.cells ∧ slots ≤ R.slots) (hK : zK D cy s) (hj : zI 6 ad) (hw : zW D 6 (zme cy ad σ) ad H) {A0 : Nat → Prop} (hA : ∀ i, i < 6 → A0 (ad i)) (hS : va_S A0 H0 H locs) (hsz : ls.size = nL) (hrest : (rest.map fun v => v.category).sum ≤ 8) (hdg : decode cc pc = .ok (.invokevirtual index, 3)) (h : wp_X7_looksAtGaps σ p0 Q) (kk : ∀ (σ : ST) (H : Heap) (locs : List Loc), Q σ → zW D 6 (zme cy ad σ) ad H → va_S A0 H0 H locs → W p l e R s m args below meth c H locs cells slots QQ (F0 m (pc + 3) ls rest)) : W p l e R s m args below meth c H locs cells slots QQ (F0 m pc ls (.int p0 :: .ref (ad 0) :: rest)) :=
  zcallv (va_runV (As := [.int p0]) (rest := rest) ⟨hx, hb, hml, hown, hts⟩ (c_X7_looksAtGaps l D cy ad σ p0 h) (cwV 1 hts hG rfl rfl rfl (by decide +kernel) hR) (zpreV hj hK hw _ (i := 0) (ci := 6) (by decide) rfl rfl) rfl rfl hsz rfl (lv_room hrest) hdg hcs) hA hS kk
set_option maxHeartbeats 4000000 in
set_option maxRecDepth 100000 in
theorem c_X7_looksAtTrays (l : Launch) (D : va_G) (cy : cyT) (ad : Nat → Nat) (σ : ST) (p0 : Int32) {Q : ST → Prop} (h : wp_X7_looksAtTrays σ p0 Q) : Met l yX7_looksAtTrays wsX7_looksAtTrays ({ frames := 2, cells := 0, slots := 0, locals := 46 } : Room) (zPre D cy 6 (zme cy ad σ) ad [.ref (ad 0), .int p0]) (va_Qv Q (zB D 6 (zme cy ad) ad) (zA 6 ad)) 0 0 (zA 6 ad) := by
  refine Met.ofW (cc := cX7_looksAtTrays) (maxL := 3) (ret := none) (by decide) rfl ?_
  intro p e s m args below meth c s₁ B hml hv
  obtain ⟨rfl, hj, hK, hw⟩ := hv
  have hx := B.exec
  have hb := B.bytes
  have hr := B.returns
  have hts := atoms_spec (ws := wsX7_looksAtTrays) B.pre
  have hown : s.vm.findClass RX7 = some m.cls := findClass_of_methodNamed B.named
  have hlocks := B.notSynchronized
  have lk0 : Cond.fieldLink RX7 7 "TypeTraysModel" "w" "[I" ∈ wsX7_looksAtTrays := List.mem_of_getElem? (i := 1) rfl
  have lk1 : Cond.fieldLink RX7 68 "TypeTraysModel" "rule" "I" ∈ wsX7_looksAtTrays := List.mem_of_getElem? (i := 2) rfl
  have lk2 : Cond.fieldLink RX7 71 "TypeTraysModel" "toTray" "I" ∈ wsX7_looksAtTrays := List.mem_of_getElem? (i := 3) rfl
  have lk3 : Cond.fieldLink RX7 74 "TypeTraysModel" "toShelf" "I" ∈ wsX7_looksAtTrays := List.mem_of_getElem? (i := 4) rfl
  have lk4 : Cond.fieldLink RX7 77 "TypeTraysModel" "toX" "I" ∈ wsX7_looksAtTrays := List.mem_of_getElem? (i := 5) rfl
  have inX7 : ∀ w ∈ u_ws RX7 TX7 16, w ∈ wsX7_looksAtTrays := zin_at 19 rfl
  have hS : va_S (zA 6 ad) s.heap s.heap [] := va_S.rf
  have hA : ∀ i, i < 6 → zA 6 ad (ad i) := fun i hi => ⟨i, hi, rfl⟩
  have hl := lv_entry ([.ref (ad 0), .int p0]) (n := 3) (Nat.le_of_ble_eq_true rfl)
  rw [lg_entry_eq]
  generalize (lg_sl ([.ref (ad 0), .int p0]) ++ List.replicate (3 - (lg_sl ([.ref (ad 0), .int p0])).length) Slot.unset).toArray = ls at hl ⊢
  have hl : lv_has ls 3 [(0, .ref (ad 0)), (1, .int p0)] := hl
  show W p l e ({ frames := 2, cells := 0, slots := 0, locals := 46 } : Room) s m ([.ref (ad 0), .int p0] : List Value).toArray below meth c s.heap [] 0 0 (MQ below (va_Qv Q (zB D 6 (zme cy ad) ad) (zA 6 ad)) ([.ref (ad 0), .int p0] : List Value).toArray s 0 0 (zA 6 ad)) (F0 m 0 ls [])
  unfold wp_X7_looksAtTrays at h
  refine lv_aload_n hx hb dX7_looksAtTrays_0 rfl (lv_at hl 0 rfl) ?_
  refine zget hx hb hts inX7 hown hK hw 0 (by decide) rfl rfl 0 (by decide) lk0 (fun _ h9 => h9) rfl dX7_looksAtTrays_1 ?_
  refine lv_iconst (v := (jI 0)) hx hb dX7_looksAtTrays_4 rfl ?_
  refine ziald hx hb hK hw 1 (by decide) rfl h.1 dX7_looksAtTrays_5 ?_
  refine lv_topi (fun v1 ev1 => ?_)
  have h := h.2 v1 ev1
  refine lv_iconst (v := (jI 1)) hx hb dX7_looksAtTrays_6 rfl ?_
  refine lv_isub hx hb dX7_looksAtTrays_7 ?_
  refine lv_topi (fun x1 ex1 => ?_)
  have h := h x1 ex1
  refine lv_istore_n (lv' := [(2, .int x1), (0, .ref (ad 0)), (1, .int p0)]) hx hb dX7_looksAtTrays_8 rfl hl (by decide) rfl (fun ls hl => ?_)
  have k72_9 : ∀ (u_72 : ST) (H : Heap) (locs : List Loc), Q u_72 → zW D 6 (zme cy ad u_72) ad H → va_S (zA 6 ad) s.heap H locs → ∀ ls : Array Slot, lv_has ls 3 [] → W p l e ({ frames := 2, cells := 0, slots := 0, locals := 46 } : Room) s m ([.ref (ad 0), .int p0] : List Value).toArray below meth c H locs 0 0 (MQ below (va_Qv Q (zB D 6 (zme cy ad) ad) (zA 6 ad)) ([.ref (ad 0), .int p0] : List Value).toArray s 0 0 (zA 6 ad)) (F0 m 72 ls []) := by
    intro u_72 H locs h hw hS ls hl
    exact W.vret hx hb hr (fun t ht hW => ⟨⟨_, rfl, h, zend hw ht⟩, hS.F ht⟩) hS.2.2 dX7_looksAtTrays_72
  have lp9 : ∀ (nn9 : Nat) (t_9 : ST) (y2_9 : Int32) (H : Heap) (locs : List Loc), wl_X7_looksAtTrays_9 (fun u_72 => Q u_72) p0 nn9 t_9 y2_9 → zW D 6 (zme cy ad t_9) ad H → va_S (zA 6 ad) s.heap H locs → ∀ ls : Array Slot, lv_has ls 3 [(0, .ref (ad 0)), (1, .int p0), (2, .int y2_9)] → W p l e ({ frames := 2, cells := 0, slots := 0, locals := 46 } : Room) s m ([.ref (ad 0), .int p0] : List Value).toArray below meth c H locs 0 0 (MQ below (va_Qv Q (zB D 6 (zme cy ad) ad) (zA 6 ad)) ([.ref (ad 0), .int p0] : List Value).toArray s 0 0 (zA 6 ad)) (F0 m 9 ls []) := by
    intro nn9
    induction nn9 with
    | zero => intro _ _ _ _ h; exact h.elim
    | succ nn9 ih9 =>
      intro t_9 y2_9 H locs h hw hS ls hl
      simp only [wl_X7_looksAtTrays_9, wb_X7_looksAtTrays_9] at h
      refine lv_iload_n hx hb dX7_looksAtTrays_9 rfl (lv_at hl 2 rfl) ?_
      refine zif_lt (tgt := 72) hx hb dX7_looksAtTrays_10 (by decide) (fun c1 => ?_) (fun c1 => ?_)
      · have h := h.1 c1
        exact k72_9 _ _ _ h hw hS _ (lv_sub hl [] rfl)
      · have h := h.2 c1
        refine lv_aload_n hx hb dX7_looksAtTrays_13 rfl (lv_at hl 0 rfl) ?_
        refine lv_iload_n hx hb dX7_looksAtTrays_14 rfl (lv_at hl 2 rfl) ?_
        refine lv_aload_n hx hb dX7_looksAtTrays_15 rfl (lv_at hl 0 rfl) ?_
        refine zget hx hb hts inX7 hown hK hw 0 (by decide) rfl rfl 0 (by decide) lk0 (fun _ h9 => h9) rfl dX7_looksAtTrays_16 ?_
        refine lv_bipush (v := (jI 44)) hx hb dX7_looksAtTrays_19 (by decide +kernel) ?_
        refine lv_iload_n hx hb dX7_looksAtTrays_21 rfl (lv_at hl 2 rfl) ?_
        refine lv_iadd hx hb dX7_looksAtTrays_22 ?_
        refine ziald hx hb hK hw 1 (by decide) rfl h.1 dX7_looksAtTrays_23 ?_
        refine lv_topi (fun v2 ev2 => ?_)
        have h := h.2 v2 ev2
        refine k_X7_top (rest := []) hx hb hml hown hts gX7_looksAtTrays_X7_top ⟨Nat.le_of_ble_eq_true rfl, Nat.le_of_ble_eq_true rfl⟩ ⟨Nat.zero_le _, Nat.zero_le _⟩ hK hj hw hA hS hl.1 (Nat.le_of_ble_eq_true rfl) dX7_looksAtTrays_24 h (fun r1 s1 H locs h hw hS => ?_)
        refine lv_aload_n hx hb dX7_looksAtTrays_27 rfl (lv_at hl 0 rfl) ?_
        refine lv_iload_n hx hb dX7_looksAtTrays_28 rfl (lv_at hl 1 rfl) ?_
        refine k_X7_heightOf (rest := [.int r1]) hx hb hml hown hts gX7_looksAtTrays_X7_heightOf ⟨Nat.le_of_ble_eq_true rfl, Nat.le_of_ble_eq_true rfl⟩ ⟨Nat.zero_le _, Nat.zero_le _⟩ hK hj hw hA hS hl.1 (Nat.le_of_ble_eq_true rfl) dX7_looksAtTrays_29 h (fun r2 s2 H locs h hw hS => ?_)
        refine lv_iadd hx hb dX7_looksAtTrays_32 ?_
        refine lv_bipush (v := (jI 24)) hx hb dX7_looksAtTrays_33 (by decide +kernel) ?_
        refine lv_icmp_gt (tgt := 66) hx hb dX7_looksAtTrays_35 (by decide) (fun c2 => ?_) (fun c2 => ?_)
        · have h := h.1 c2
          obtain ⟨x2, ex2⟩ : ∃ y : Int32, y = y2_9 + (jI (-1)) := ⟨_, rfl⟩
          have h := h x2 ex2
          refine lv_iinc (v := x2) (lv' := [(2, .int x2), (0, .ref (ad 0)), (1, .int p0)]) hx hb dX7_looksAtTrays_66 hl (k := 2) rfl (by rw [ex2]; rfl) (by decide) rfl (fun ls hl => ?_)
          refine lv_goto (tgt := 9) hx hb dX7_looksAtTrays_69 (by decide) ?_
          exact ih9 _ _ _ _ h hw hS _ (lv_sub hl [1, 2, 0] rfl)
        · have h := h.2 c2
          refine lv_aload_n hx hb dX7_looksAtTrays_38 rfl (lv_at hl 0 rfl) ?_
          refine lv_iconst (v := (jI 2)) hx hb dX7_looksAtTrays_39 rfl ?_
          obtain ⟨s3, es3⟩ : ∃ y : ST, y = zsp s2 2 (jI 2) := ⟨_, rfl⟩
          have h := h s3 es3
          refine zput (ty := .int) hx hb hts inX7 tyX7 tyX7_ok nmX7 hown hK hj hw hA hS 0 (by decide) rfl rfl 5 (by decide) lk1 (fun _ h9 => h9) rfl (by decide +kernel) rfl rfl (Nat.le_of_ble_eq_true rfl) dX7_looksAtTrays_40 (zme cy ad s3) (by rw [es3]; rfl) (fun j hj9 => by rw [es3]; exact zsp_off_M_2 j hj9) (fun H locs hw hS => ?_)
          refine lv_aload_n hx hb dX7_looksAtTrays_43 rfl (lv_at hl 0 rfl) ?_
          refine lv_iload_n hx hb dX7_looksAtTrays_44 rfl (lv_at hl 2 rfl) ?_
          obtain ⟨s4, es4⟩ : ∃ y : ST, y = zsp s3 3 y2_9 := ⟨_, rfl⟩
          have h := h s4 es4
          refine zput (ty := .int) hx hb hts inX7 tyX7 tyX7_ok nmX7 hown hK hj hw hA hS 0 (by decide) rfl rfl 6 (by decide) lk2 (fun _ h9 => h9) rfl (by decide +kernel) rfl rfl (Nat.le_of_ble_eq_true rfl) dX7_looksAtTrays_45 (zme cy ad s4) (by rw [es4]; rfl) (fun j hj9 => by rw [es4]; exact zsp_off_M_3 j hj9) (fun H locs hw hS => ?_)
          refine lv_aload_n hx hb dX7_looksAtTrays_48 rfl (lv_at hl 0 rfl) ?_
          refine lv_aload_n hx hb dX7_looksAtTrays_49 rfl (lv_at hl 0 rfl) ?_
          refine zget hx hb hts inX7 hown hK hw 0 (by decide) rfl rfl 0 (by decide) lk0 (fun _ h9 => h9) rfl dX7_looksAtTrays_50 ?_
          refine lv_bipush (v := (jI 44)) hx hb dX7_looksAtTrays_53 (by decide +kernel) ?_
          refine lv_iload_n hx hb dX7_looksAtTrays_55 rfl (lv_at hl 2 rfl) ?_
          refine lv_iadd hx hb dX7_looksAtTrays_56 ?_
          refine ziald hx hb hK hw 1 (by decide) rfl h.1 dX7_looksAtTrays_57 ?_
          refine lv_topi (fun v3 ev3 => ?_)
          have h := h.2 v3 ev3
          obtain ⟨s5, es5⟩ : ∃ y : ST, y = zsp s4 4 v3 := ⟨_, rfl⟩
          have h := h s5 es5
          refine zput (ty := .int) hx hb hts inX7 tyX7 tyX7_ok nmX7 hown hK hj hw hA hS 0 (by decide) rfl rfl 7 (by decide) lk3 (fun _ h9 => h9) rfl (by decide +kernel) rfl rfl (Nat.le_of_ble_eq_true rfl) dX7_looksAtTrays_58 (zme cy ad s5) (by rw [es5]; rfl) (fun j hj9 => by rw [es5]; exact zsp_off_M_4 j hj9) (fun H locs hw hS => ?_)
          refine lv_aload_n hx hb dX7_looksAtTrays_61 rfl (lv_at hl 0 rfl) ?_
          refine lv_iconst (v := (jI 0)) hx hb dX7_looksAtTrays_62 rfl ?_
          obtain ⟨s6, es6⟩ : ∃ y : ST, y = zsp s5 5 (jI 0) := ⟨_, rfl⟩
          have h := h s6 es6
          refine zput (ty := .int) hx hb hts inX7 tyX7 tyX7_ok nmX7 hown hK hj hw hA hS 0 (by decide) rfl rfl 8 (by decide) lk4 (fun _ h9 => h9) rfl (by decide +kernel) rfl rfl (Nat.le_of_ble_eq_true rfl) dX7_looksAtTrays_63 (zme cy ad s6) (by rw [es6]; rfl) (fun j hj9 => by rw [es6]; exact zsp_off_M_5 j hj9) (fun H locs hw hS => ?_)
          obtain ⟨x3, ex3⟩ : ∃ y : Int32, y = y2_9 + (jI (-1)) := ⟨_, rfl⟩
          have h := h x3 ex3
          refine lv_iinc (v := x3) (lv' := [(2, .int x3), (0, .ref (ad 0)), (1, .int p0)]) hx hb dX7_looksAtTrays_66 hl (k := 2) rfl (by rw [ex3]; rfl) (by decide) rfl (fun ls hl => ?_)
          refine lv_goto (tgt := 9) hx hb dX7_looksAtTrays_69 (by decide) ?_
          exact ih9 _ _ _ _ h hw hS _ (lv_sub hl [1, 2, 0] rfl)
  obtain ⟨nn9, h⟩ := h
  exact lp9 nn9 _ _ _ _ h hw hS _ (lv_sub hl [1, 2, 0] rfl)
theorem k_X7_looksAtTrays {p : Program} {l : Launch} {e : Env} {R : Room} {s : State} {m : MethodId} {args : Array Value} {below : List Frame} {meth : Method} {c : Code} {H : Heap} {locs : List Loc} {cells slots : Nat} {QQ : State → Prop} {cc : ByteArray} {pc nL index : Nat} {ls : Array Slot} {rest : List Value} {D : va_G} {cy : cyT} {ad : Nat → Nat} {own : String} {Ts : List Cond} {H0 : Heap} {σ : ST} {p0 : Int32} {Q : ST → Prop} (hx : p.tables.exec = Jvm.exec) (hb : c.code = cc) (hml : c.maxLocals = nL) (hown : s.vm.findClass own = some m.cls) (hts : ∀ w ∈ Ts, w.before args s = true) (hG : GoodIn Ts (wsV own index RX7 yX7_looksAtTrays wsX7_looksAtTrays)) (hR : 2 + 1 ≤ R.frames ∧ 8 + (3 + 11) + 46 ≤ R.locals) (hcs : cells ≤ R.cells ∧ slots ≤ R.slots) (hK : zK D cy s) (hj : zI 6 ad) (hw : zW D 6 (zme cy ad σ) ad H) {A0 : Nat → Prop} (hA : ∀ i, i < 6 → A0 (ad i)) (hS : va_S A0 H0 H locs) (hsz : ls.size = nL) (hrest : (rest.map fun v => v.category).sum ≤ 8) (hdg : decode cc pc = .ok (.invokevirtual index, 3)) (h : wp_X7_looksAtTrays σ p0 Q) (kk : ∀ (σ : ST) (H : Heap) (locs : List Loc), Q σ → zW D 6 (zme cy ad σ) ad H → va_S A0 H0 H locs → W p l e R s m args below meth c H locs cells slots QQ (F0 m (pc + 3) ls rest)) : W p l e R s m args below meth c H locs cells slots QQ (F0 m pc ls (.int p0 :: .ref (ad 0) :: rest)) :=
  zcallv (va_runV (As := [.int p0]) (rest := rest) ⟨hx, hb, hml, hown, hts⟩ (c_X7_looksAtTrays l D cy ad σ p0 h) (cwV 1 hts hG rfl rfl rfl (by decide +kernel) hR) (zpreV hj hK hw _ (i := 0) (ci := 6) (by decide) rfl rfl) rfl rfl hsz rfl (lv_room hrest) hdg hcs) hA hS kk
set_option maxHeartbeats 4000000 in
set_option maxRecDepth 100000 in
theorem c_X7_looksAtShelves (l : Launch) (D : va_G) (cy : cyT) (ad : Nat → Nat) (σ : ST) (p0 : Int32) {Q : ST → Prop} (h : wp_X7_looksAtShelves σ p0 Q) : Met l yX7_looksAtShelves wsX7_looksAtShelves ({ frames := 4, cells := 0, slots := 0, locals := 88 } : Room) (zPre D cy 6 (zme cy ad σ) ad [.ref (ad 0), .int p0]) (va_Qv Q (zB D 6 (zme cy ad) ad) (zA 6 ad)) 0 0 (zA 6 ad) := by
  refine Met.ofW (cc := cX7_looksAtShelves) (maxL := 7) (ret := none) (by decide) rfl ?_
  intro p e s m args below meth c s₁ B hml hv
  obtain ⟨rfl, hj, hK, hw⟩ := hv
  have hx := B.exec
  have hb := B.bytes
  have hr := B.returns
  have hts := atoms_spec (ws := wsX7_looksAtShelves) B.pre
  have hown : s.vm.findClass RX7 = some m.cls := findClass_of_methodNamed B.named
  have hlocks := B.notSynchronized
  have lk0 : Cond.fieldLink RX7 7 "TypeTraysModel" "w" "[I" ∈ wsX7_looksAtShelves := List.mem_of_getElem? (i := 1) rfl
  have lk1 : Cond.fieldLink RX7 68 "TypeTraysModel" "rule" "I" ∈ wsX7_looksAtShelves := List.mem_of_getElem? (i := 2) rfl
  have lk2 : Cond.fieldLink RX7 71 "TypeTraysModel" "toTray" "I" ∈ wsX7_looksAtShelves := List.mem_of_getElem? (i := 3) rfl
  have lk3 : Cond.fieldLink RX7 74 "TypeTraysModel" "toShelf" "I" ∈ wsX7_looksAtShelves := List.mem_of_getElem? (i := 4) rfl
  have lk4 : Cond.fieldLink RX7 77 "TypeTraysModel" "toX" "I" ∈ wsX7_looksAtShelves := List.mem_of_getElem? (i := 5) rfl
  have lk5 : Cond.fieldLink RX7 93 "TypeTraysModel" "taken" "I" ∈ wsX7_looksAtShelves := List.mem_of_getElem? (i := 6) rfl
  have inX7 : ∀ w ∈ u_ws RX7 TX7 16, w ∈ wsX7_looksAtShelves := zin_at 44 rfl
  have hS : va_S (zA 6 ad) s.heap s.heap [] := va_S.rf
  have hA : ∀ i, i < 6 → zA 6 ad (ad i) := fun i hi => ⟨i, hi, rfl⟩
  have hl := lv_entry ([.ref (ad 0), .int p0]) (n := 7) (Nat.le_of_ble_eq_true rfl)
  rw [lg_entry_eq]
  generalize (lg_sl ([.ref (ad 0), .int p0]) ++ List.replicate (7 - (lg_sl ([.ref (ad 0), .int p0])).length) Slot.unset).toArray = ls at hl ⊢
  have hl : lv_has ls 7 [(0, .ref (ad 0)), (1, .int p0)] := hl
  show W p l e ({ frames := 4, cells := 0, slots := 0, locals := 88 } : Room) s m ([.ref (ad 0), .int p0] : List Value).toArray below meth c s.heap [] 0 0 (MQ below (va_Qv Q (zB D 6 (zme cy ad) ad) (zA 6 ad)) ([.ref (ad 0), .int p0] : List Value).toArray s 0 0 (zA 6 ad)) (F0 m 0 ls [])
  unfold wp_X7_looksAtShelves at h
  refine lv_iconst (v := (jI 0)) hx hb dX7_looksAtShelves_0 rfl ?_
  refine lv_istore_n (lv' := [(2, .int (jI 0)), (0, .ref (ad 0)), (1, .int p0)]) hx hb dX7_looksAtShelves_1 rfl hl (by decide) rfl (fun ls hl => ?_)
  refine lv_iconst (v := (jI 0)) hx hb dX7_looksAtShelves_2 rfl ?_
  refine lv_istore_n (lv' := [(3, .int (jI 0)), (2, .int (jI 0)), (0, .ref (ad 0)), (1, .int p0)]) hx hb dX7_looksAtShelves_3 rfl hl (by decide) rfl (fun ls hl => ?_)
  have k138_4 : ∀ (u_138 : ST) (H : Heap) (locs : List Loc), Q u_138 → zW D 6 (zme cy ad u_138) ad H → va_S (zA 6 ad) s.heap H locs → ∀ ls : Array Slot, lv_has ls 7 [] → W p l e ({ frames := 4, cells := 0, slots := 0, locals := 88 } : Room) s m ([.ref (ad 0), .int p0] : List Value).toArray below meth c H locs 0 0 (MQ below (va_Qv Q (zB D 6 (zme cy ad) ad) (zA 6 ad)) ([.ref (ad 0), .int p0] : List Value).toArray s 0 0 (zA 6 ad)) (F0 m 138 ls []) := by
    intro u_138 H locs h hw hS ls hl
    exact W.vret hx hb hr (fun t ht hW => ⟨⟨_, rfl, h, zend hw ht⟩, hS.F ht⟩) hS.2.2 dX7_looksAtShelves_138
  have lp4 : ∀ (nn4 : Nat) (t_4 : ST) (y2_4 : Int32) (y3_4 : Int32) (H : Heap) (locs : List Loc), wl_X7_looksAtShelves_4 (fun u_138 => Q u_138) p0 nn4 t_4 y2_4 y3_4 → zW D 6 (zme cy ad t_4) ad H → va_S (zA 6 ad) s.heap H locs → ∀ ls : Array Slot, lv_has ls 7 [(0, .ref (ad 0)), (1, .int p0), (2, .int y2_4), (3, .int y3_4)] → W p l e ({ frames := 4, cells := 0, slots := 0, locals := 88 } : Room) s m ([.ref (ad 0), .int p0] : List Value).toArray below meth c H locs 0 0 (MQ below (va_Qv Q (zB D 6 (zme cy ad) ad) (zA 6 ad)) ([.ref (ad 0), .int p0] : List Value).toArray s 0 0 (zA 6 ad)) (F0 m 4 ls []) := by
    intro nn4
    induction nn4 with
    | zero => intro _ _ _ _ _ h; exact h.elim
    | succ nn4 ih4 =>
      intro t_4 y2_4 y3_4 H locs h hw hS ls hl
      simp only [wl_X7_looksAtShelves_4, wb_X7_looksAtShelves_4] at h
      refine lv_iload_n hx hb dX7_looksAtShelves_4 rfl (lv_at hl 3 rfl) ?_
      refine lv_aload_n hx hb dX7_looksAtShelves_5 rfl (lv_at hl 0 rfl) ?_
      refine zget hx hb hts inX7 hown hK hw 0 (by decide) rfl rfl 0 (by decide) lk0 (fun _ h9 => h9) rfl dX7_looksAtShelves_6 ?_
      refine lv_iconst (v := (jI 0)) hx hb dX7_looksAtShelves_9 rfl ?_
      refine ziald hx hb hK hw 1 (by decide) rfl h.1 dX7_looksAtShelves_10 ?_
      refine lv_topi (fun v1 ev1 => ?_)
      have h := h.2 v1 ev1
      refine lv_icmp_ge (tgt := 138) hx hb dX7_looksAtShelves_11 (by decide) (fun c1 => ?_) (fun c1 => ?_)
      · have h := h.1 c1
        exact k138_4 _ _ _ h hw hS _ (lv_sub hl [] rfl)
      · have h := h.2 c1
        refine lv_iconst (v := (jI 0)) hx hb dX7_looksAtShelves_14 rfl ?_
        refine lv_istore (lv' := [(4, .int (jI 0)), (0, .ref (ad 0)), (1, .int p0), (2, .int y2_4), (3, .int y3_4)]) hx hb dX7_looksAtShelves_15 hl (by decide) rfl (fun ls hl => ?_)
        have k132_17 : ∀ (u_132 : ST) (z2_132 : Int32) (H : Heap) (locs : List Loc), (∀ x6 : Int32, x6 = y3_4 + (jI 1) → (wl_X7_looksAtShelves_4 (fun u_138 => Q u_138) p0 nn4) u_132 z2_132 x6) → zW D 6 (zme cy ad u_132) ad H → va_S (zA 6 ad) s.heap H locs → ∀ ls : Array Slot, lv_has ls 7 [(0, .ref (ad 0)), (1, .int p0), (2, .int z2_132), (3, .int y3_4)] → W p l e ({ frames := 4, cells := 0, slots := 0, locals := 88 } : Room) s m ([.ref (ad 0), .int p0] : List Value).toArray below meth c H locs 0 0 (MQ below (va_Qv Q (zB D 6 (zme cy ad) ad) (zA 6 ad)) ([.ref (ad 0), .int p0] : List Value).toArray s 0 0 (zA 6 ad)) (F0 m 132 ls []) := by
          intro u_132 z2_132 H locs h hw hS ls hl
          obtain ⟨x6, ex6⟩ : ∃ y : Int32, y = y3_4 + (jI 1) := ⟨_, rfl⟩
          have h := h x6 ex6
          refine lv_iinc (v := x6) (lv' := [(3, .int x6), (0, .ref (ad 0)), (1, .int p0), (2, .int z2_132)]) hx hb dX7_looksAtShelves_132 hl (k := 3) rfl (by rw [ex6]; rfl) (by decide) rfl (fun ls hl => ?_)
          refine lv_goto (tgt := 4) hx hb dX7_looksAtShelves_135 (by decide) ?_
          exact ih4 _ _ _ _ _ h hw hS _ (lv_sub hl [1, 2, 3, 0] rfl)
        have lp17 : ∀ (nn17 : Nat) (t_17 : ST) (y2_17 : Int32) (y4_17 : Int32) (H : Heap) (locs : List Loc), wl_X7_looksAtShelves_17 (fun u_132 z2_132 => (∀ x6 : Int32, x6 = y3_4 + (jI 1) → (wl_X7_looksAtShelves_4 (fun u_138 => Q u_138) p0 nn4) u_132 z2_132 x6)) p0 y3_4 nn17 t_17 y2_17 y4_17 → zW D 6 (zme cy ad t_17) ad H → va_S (zA 6 ad) s.heap H locs → ∀ ls : Array Slot, lv_has ls 7 [(0, .ref (ad 0)), (1, .int p0), (2, .int y2_17), (3, .int y3_4), (4, .int y4_17)] → W p l e ({ frames := 4, cells := 0, slots := 0, locals := 88 } : Room) s m ([.ref (ad 0), .int p0] : List Value).toArray below meth c H locs 0 0 (MQ below (va_Qv Q (zB D 6 (zme cy ad) ad) (zA 6 ad)) ([.ref (ad 0), .int p0] : List Value).toArray s 0 0 (zA 6 ad)) (F0 m 17 ls []) := by
          intro nn17
          induction nn17 with
          | zero => intro _ _ _ _ _ h; exact h.elim
          | succ nn17 ih17 =>
            intro t_17 y2_17 y4_17 H locs h hw hS ls hl
            simp only [wl_X7_looksAtShelves_17, wb_X7_looksAtShelves_17] at h
            refine lv_iload hx hb dX7_looksAtShelves_17 (lv_at hl 4 rfl) ?_
            refine lv_aload_n hx hb dX7_looksAtShelves_19 rfl (lv_at hl 0 rfl) ?_
            refine zget hx hb hts inX7 hown hK hw 0 (by decide) rfl rfl 0 (by decide) lk0 (fun _ h9 => h9) rfl dX7_looksAtShelves_20 ?_
            refine lv_bipush (v := (jI 44)) hx hb dX7_looksAtShelves_23 (by decide +kernel) ?_
            refine lv_iload_n hx hb dX7_looksAtShelves_25 rfl (lv_at hl 3 rfl) ?_
            refine lv_iadd hx hb dX7_looksAtShelves_26 ?_
            refine ziald hx hb hK hw 1 (by decide) rfl h.1 dX7_looksAtShelves_27 ?_
            refine lv_topi (fun v2 ev2 => ?_)
            have h := h.2 v2 ev2
            refine lv_icmp_ge (tgt := 132) hx hb dX7_looksAtShelves_28 (by decide) (fun c2 => ?_) (fun c2 => ?_)
            · have h := h.1 c2
              exact k132_17 _ _ _ _ h hw hS _ (lv_sub hl [0, 1, 2, 3] rfl)
            · have h := h.2 c2
              refine lv_aload_n hx hb dX7_looksAtShelves_31 rfl (lv_at hl 0 rfl) ?_
              refine lv_iload_n hx hb dX7_looksAtShelves_32 rfl (lv_at hl 3 rfl) ?_
              refine lv_iload hx hb dX7_looksAtShelves_33 (lv_at hl 4 rfl) ?_
              refine k_X7_latestOn (rest := []) hx hb hml hown hts gX7_looksAtShelves_X7_latestOn ⟨Nat.le_of_ble_eq_true rfl, Nat.le_of_ble_eq_true rfl⟩ ⟨Nat.zero_le _, Nat.zero_le _⟩ hK hj hw hA hS hl.1 (Nat.le_of_ble_eq_true rfl) dX7_looksAtShelves_35 h (fun r1 s1 H locs h hw hS => ?_)
              refine lv_istore (lv' := [(5, .int r1), (0, .ref (ad 0)), (1, .int p0), (2, .int y2_17), (3, .int y3_4), (4, .int y4_17)]) hx hb dX7_looksAtShelves_38 hl (by decide) rfl (fun ls hl => ?_)
              refine lv_aload_n hx hb dX7_looksAtShelves_40 rfl (lv_at hl 1 rfl) ?_
              refine lv_iload_n hx hb dX7_looksAtShelves_41 rfl (lv_at hl 4 rfl) ?_
              refine lv_iload hx hb dX7_looksAtShelves_42 (lv_at hl 5 rfl) ?_
              refine k_X7_tall (rest := []) hx hb hml hown hts gX7_looksAtShelves_X7_tall ⟨Nat.le_of_ble_eq_true rfl, Nat.le_of_ble_eq_true rfl⟩ ⟨Nat.zero_le _, Nat.zero_le _⟩ hK hj hw hA hS hl.1 (Nat.le_of_ble_eq_true rfl) dX7_looksAtShelves_44 h (fun r2 s2 H locs h hw hS => ?_)
              refine lv_aload_n hx hb dX7_looksAtShelves_47 rfl (lv_at hl 1 rfl) ?_
              refine lv_iload_n hx hb dX7_looksAtShelves_48 rfl (lv_at hl 2 rfl) ?_
              refine k_X7_heightOf (rest := [.int r2]) hx hb hml hown hts gX7_looksAtShelves_X7_heightOf ⟨Nat.le_of_ble_eq_true rfl, Nat.le_of_ble_eq_true rfl⟩ ⟨Nat.zero_le _, Nat.zero_le _⟩ hK hj hw hA hS hl.1 (Nat.le_of_ble_eq_true rfl) dX7_looksAtShelves_49 h (fun r3 s3 H locs h hw hS => ?_)
              refine lv_icmp_lt (tgt := 69) hx hb dX7_looksAtShelves_52 (by decide) (fun c3 => ?_) (fun c3 => ?_)
              · have h := h.1 c3
                refine lv_iconst (v := (jI 0)) hx hb dX7_looksAtShelves_69 rfl ?_
                refine lv_istore (lv' := [(6, .int (jI 0)), (5, .int r1), (0, .ref (ad 0)), (1, .int p0), (2, .int y2_17), (3, .int y3_4), (4, .int y4_17)]) hx hb dX7_looksAtShelves_70 hl (by decide) rfl (fun ls hl => ?_)
                refine lv_iload hx hb dX7_looksAtShelves_72 (lv_at hl 0 rfl) ?_
                refine zif_eq (tgt := 126) hx hb dX7_looksAtShelves_74 (by decide) (fun c4 => ?_) (fun c4 => absurd c4 (by decide +kernel))
                obtain ⟨x1, ex1⟩ : ∃ y : Int32, y = y4_17 + (jI 1) := ⟨_, rfl⟩
                have h := h x1 ex1
                refine lv_iinc (v := x1) (lv' := [(4, .int x1), (6, .int (jI 0)), (5, .int r1), (0, .ref (ad 0)), (1, .int p0), (2, .int y2_17), (3, .int y3_4)]) hx hb dX7_looksAtShelves_126 hl (k := 6) rfl (by rw [ex1]; rfl) (by decide) rfl (fun ls hl => ?_)
                refine lv_goto (tgt := 17) hx hb dX7_looksAtShelves_129 (by decide) ?_
                exact ih17 _ _ _ _ _ h hw hS _ (lv_sub hl [3, 4, 5, 6, 0] rfl)
              · have h := h.2 c3
                refine lv_aload_n hx hb dX7_looksAtShelves_55 rfl (lv_at hl 1 rfl) ?_
                refine lv_iload_n hx hb dX7_looksAtShelves_56 rfl (lv_at hl 4 rfl) ?_
                refine lv_iload hx hb dX7_looksAtShelves_57 (lv_at hl 5 rfl) ?_
                refine k_X7_isNowOn (rest := []) hx hb hml hown hts gX7_looksAtShelves_X7_isNowOn ⟨Nat.le_of_ble_eq_true rfl, Nat.le_of_ble_eq_true rfl⟩ ⟨Nat.zero_le _, Nat.zero_le _⟩ hK hj hw hA hS hl.1 (Nat.le_of_ble_eq_true rfl) dX7_looksAtShelves_59 h (fun r4 s4 H locs h hw hS => ?_)
                refine zif_ne (tgt := 69) hx hb dX7_looksAtShelves_62 (by decide) (fun c5 => ?_) (fun c5 => ?_)
                · have h := h.2 c5
                  refine lv_iconst (v := (jI 0)) hx hb dX7_looksAtShelves_69 rfl ?_
                  refine lv_istore (lv' := [(6, .int (jI 0)), (5, .int r1), (0, .ref (ad 0)), (1, .int p0), (2, .int y2_17), (3, .int y3_4), (4, .int y4_17)]) hx hb dX7_looksAtShelves_70 hl (by decide) rfl (fun ls hl => ?_)
                  refine lv_iload hx hb dX7_looksAtShelves_72 (lv_at hl 0 rfl) ?_
                  refine zif_eq (tgt := 126) hx hb dX7_looksAtShelves_74 (by decide) (fun c6 => ?_) (fun c6 => absurd c6 (by decide +kernel))
                  obtain ⟨x2, ex2⟩ : ∃ y : Int32, y = y4_17 + (jI 1) := ⟨_, rfl⟩
                  have h := h x2 ex2
                  refine lv_iinc (v := x2) (lv' := [(4, .int x2), (6, .int (jI 0)), (5, .int r1), (0, .ref (ad 0)), (1, .int p0), (2, .int y2_17), (3, .int y3_4)]) hx hb dX7_looksAtShelves_126 hl (k := 6) rfl (by rw [ex2]; rfl) (by decide) rfl (fun ls hl => ?_)
                  refine lv_goto (tgt := 17) hx hb dX7_looksAtShelves_129 (by decide) ?_
                  exact ih17 _ _ _ _ _ h hw hS _ (lv_sub hl [3, 4, 5, 6, 0] rfl)
                · have h := h.1 c5
                  refine lv_iconst (v := (jI 1)) hx hb dX7_looksAtShelves_65 rfl ?_
                  refine lv_goto (tgt := 70) hx hb dX7_looksAtShelves_66 (by decide) ?_
                  refine lv_istore (lv' := [(6, .int (jI 1)), (5, .int r1), (0, .ref (ad 0)), (1, .int p0), (2, .int y2_17), (3, .int y3_4), (4, .int y4_17)]) hx hb dX7_looksAtShelves_70 hl (by decide) rfl (fun ls hl => ?_)
                  refine lv_iload hx hb dX7_looksAtShelves_72 (lv_at hl 0 rfl) ?_
                  refine zif_eq (tgt := 126) hx hb dX7_looksAtShelves_74 (by decide) (fun c7 => absurd c7 (by decide +kernel)) (fun c7 => ?_)
                  refine lv_aload_n hx hb dX7_looksAtShelves_77 rfl (lv_at hl 2 rfl) ?_
                  refine zget hx hb hts inX7 hown hK hw 0 (by decide) rfl rfl 5 (by decide) lk1 (fun _ h9 => h9) rfl dX7_looksAtShelves_78 ?_
                  refine lv_iconst (v := (jI (-1))) hx hb dX7_looksAtShelves_81 rfl ?_
                  refine lv_icmp_eq (tgt := 91) hx hb dX7_looksAtShelves_82 (by decide) (fun c8 => ?_) (fun c8 => ?_)
                  · have h := h.1 c8
                    refine lv_iload hx hb dX7_looksAtShelves_91 (lv_at hl 1 rfl) ?_
                    refine lv_istore_n (lv' := [(2, .int r1), (6, .int (jI 1)), (5, .int r1), (0, .ref (ad 0)), (1, .int p0), (3, .int y3_4), (4, .int y4_17)]) hx hb dX7_looksAtShelves_93 rfl hl (by decide) rfl (fun ls hl => ?_)
                    refine lv_aload_n hx hb dX7_looksAtShelves_94 rfl (lv_at hl 3 rfl) ?_
                    refine lv_iconst (v := (jI 3)) hx hb dX7_looksAtShelves_95 rfl ?_
                    obtain ⟨s5, es5⟩ : ∃ y : ST, y = zsp s4 2 (jI 3) := ⟨_, rfl⟩
                    have h := h s5 es5
                    refine zput (ty := .int) hx hb hts inX7 tyX7 tyX7_ok nmX7 hown hK hj hw hA hS 0 (by decide) rfl rfl 5 (by decide) lk1 (fun _ h9 => h9) rfl (by decide +kernel) rfl rfl (Nat.le_of_ble_eq_true rfl) dX7_looksAtShelves_96 (zme cy ad s5) (by rw [es5]; rfl) (fun j hj9 => by rw [es5]; exact zsp_off_M_2 j hj9) (fun H locs hw hS => ?_)
                    refine lv_aload_n hx hb dX7_looksAtShelves_99 rfl (lv_at hl 3 rfl) ?_
                    refine lv_iload_n hx hb dX7_looksAtShelves_100 rfl (lv_at hl 5 rfl) ?_
                    obtain ⟨s6, es6⟩ : ∃ y : ST, y = zsp s5 3 y3_4 := ⟨_, rfl⟩
                    have h := h s6 es6
                    refine zput (ty := .int) hx hb hts inX7 tyX7 tyX7_ok nmX7 hown hK hj hw hA hS 0 (by decide) rfl rfl 6 (by decide) lk2 (fun _ h9 => h9) rfl (by decide +kernel) rfl rfl (Nat.le_of_ble_eq_true rfl) dX7_looksAtShelves_101 (zme cy ad s6) (by rw [es6]; rfl) (fun j hj9 => by rw [es6]; exact zsp_off_M_3 j hj9) (fun H locs hw hS => ?_)
                    refine lv_aload_n hx hb dX7_looksAtShelves_104 rfl (lv_at hl 3 rfl) ?_
                    refine lv_iload hx hb dX7_looksAtShelves_105 (lv_at hl 6 rfl) ?_
                    obtain ⟨s7, es7⟩ : ∃ y : ST, y = zsp s6 4 y4_17 := ⟨_, rfl⟩
                    have h := h s7 es7
                    refine zput (ty := .int) hx hb hts inX7 tyX7 tyX7_ok nmX7 hown hK hj hw hA hS 0 (by decide) rfl rfl 7 (by decide) lk3 (fun _ h9 => h9) rfl (by decide +kernel) rfl rfl (Nat.le_of_ble_eq_true rfl) dX7_looksAtShelves_107 (zme cy ad s7) (by rw [es7]; rfl) (fun j hj9 => by rw [es7]; exact zsp_off_M_4 j hj9) (fun H locs hw hS => ?_)
                    refine lv_aload_n hx hb dX7_looksAtShelves_110 rfl (lv_at hl 3 rfl) ?_
                    refine lv_iconst (v := (jI 0)) hx hb dX7_looksAtShelves_111 rfl ?_
                    obtain ⟨s8, es8⟩ : ∃ y : ST, y = zsp s7 5 (jI 0) := ⟨_, rfl⟩
                    have h := h s8 es8
                    refine zput (ty := .int) hx hb hts inX7 tyX7 tyX7_ok nmX7 hown hK hj hw hA hS 0 (by decide) rfl rfl 8 (by decide) lk4 (fun _ h9 => h9) rfl (by decide +kernel) rfl rfl (Nat.le_of_ble_eq_true rfl) dX7_looksAtShelves_112 (zme cy ad s8) (by rw [es8]; rfl) (fun j hj9 => by rw [es8]; exact zsp_off_M_5 j hj9) (fun H locs hw hS => ?_)
                    refine lv_aload_n hx hb dX7_looksAtShelves_115 rfl (lv_at hl 3 rfl) ?_
                    refine lv_aload_n hx hb dX7_looksAtShelves_116 rfl (lv_at hl 3 rfl) ?_
                    refine lv_iload_n hx hb dX7_looksAtShelves_117 rfl (lv_at hl 5 rfl) ?_
                    refine lv_iload hx hb dX7_looksAtShelves_118 (lv_at hl 6 rfl) ?_
                    refine k_X7_lettersOn (rest := [.ref (ad 0)]) hx hb hml hown hts gX7_looksAtShelves_X7_lettersOn ⟨Nat.le_of_ble_eq_true rfl, Nat.le_of_ble_eq_true rfl⟩ ⟨Nat.zero_le _, Nat.zero_le _⟩ hK hj hw hA hS hl.1 (Nat.le_of_ble_eq_true rfl) dX7_looksAtShelves_120 h (fun r5 s9 H locs h hw hS => ?_)
                    obtain ⟨s10, es10⟩ : ∃ y : ST, y = zsp s9 7 r5 := ⟨_, rfl⟩
                    have h := h s10 es10
                    refine zput (ty := .int) hx hb hts inX7 tyX7 tyX7_ok nmX7 hown hK hj hw hA hS 0 (by decide) rfl rfl 10 (by decide) lk5 (fun _ h9 => h9) rfl (by decide +kernel) rfl rfl (Nat.le_of_ble_eq_true rfl) dX7_looksAtShelves_123 (zme cy ad s10) (by rw [es10]; rfl) (fun j hj9 => by rw [es10]; exact zsp_off_M_7 j hj9) (fun H locs hw hS => ?_)
                    obtain ⟨x3, ex3⟩ : ∃ y : Int32, y = y4_17 + (jI 1) := ⟨_, rfl⟩
                    have h := h x3 ex3
                    refine lv_iinc (v := x3) (lv' := [(4, .int x3), (2, .int r1), (6, .int (jI 1)), (5, .int r1), (0, .ref (ad 0)), (1, .int p0), (3, .int y3_4)]) hx hb dX7_looksAtShelves_126 hl (k := 6) rfl (by rw [ex3]; rfl) (by decide) rfl (fun ls hl => ?_)
                    refine lv_goto (tgt := 17) hx hb dX7_looksAtShelves_129 (by decide) ?_
                    exact ih17 _ _ _ _ _ h hw hS _ (lv_sub hl [4, 5, 1, 6, 0] rfl)
                  · have h := h.2 c8
                    refine lv_iload hx hb dX7_looksAtShelves_85 (lv_at hl 1 rfl) ?_
                    refine lv_iload_n hx hb dX7_looksAtShelves_87 rfl (lv_at hl 4 rfl) ?_
                    refine lv_icmp_ge (tgt := 126) hx hb dX7_looksAtShelves_88 (by decide) (fun c9 => ?_) (fun c9 => ?_)
                    · have h := h.1 c9
                      obtain ⟨x4, ex4⟩ : ∃ y : Int32, y = y4_17 + (jI 1) := ⟨_, rfl⟩
                      have h := h x4 ex4
                      refine lv_iinc (v := x4) (lv' := [(4, .int x4), (6, .int (jI 1)), (5, .int r1), (0, .ref (ad 0)), (1, .int p0), (2, .int y2_17), (3, .int y3_4)]) hx hb dX7_looksAtShelves_126 hl (k := 6) rfl (by rw [ex4]; rfl) (by decide) rfl (fun ls hl => ?_)
                      refine lv_goto (tgt := 17) hx hb dX7_looksAtShelves_129 (by decide) ?_
                      exact ih17 _ _ _ _ _ h hw hS _ (lv_sub hl [3, 4, 5, 6, 0] rfl)
                    · have h := h.2 c9
                      refine lv_iload hx hb dX7_looksAtShelves_91 (lv_at hl 1 rfl) ?_
                      refine lv_istore_n (lv' := [(2, .int r1), (6, .int (jI 1)), (5, .int r1), (0, .ref (ad 0)), (1, .int p0), (3, .int y3_4), (4, .int y4_17)]) hx hb dX7_looksAtShelves_93 rfl hl (by decide) rfl (fun ls hl => ?_)
                      refine lv_aload_n hx hb dX7_looksAtShelves_94 rfl (lv_at hl 3 rfl) ?_
                      refine lv_iconst (v := (jI 3)) hx hb dX7_looksAtShelves_95 rfl ?_
                      obtain ⟨s11, es11⟩ : ∃ y : ST, y = zsp s4 2 (jI 3) := ⟨_, rfl⟩
                      have h := h s11 es11
                      refine zput (ty := .int) hx hb hts inX7 tyX7 tyX7_ok nmX7 hown hK hj hw hA hS 0 (by decide) rfl rfl 5 (by decide) lk1 (fun _ h9 => h9) rfl (by decide +kernel) rfl rfl (Nat.le_of_ble_eq_true rfl) dX7_looksAtShelves_96 (zme cy ad s11) (by rw [es11]; rfl) (fun j hj9 => by rw [es11]; exact zsp_off_M_2 j hj9) (fun H locs hw hS => ?_)
                      refine lv_aload_n hx hb dX7_looksAtShelves_99 rfl (lv_at hl 3 rfl) ?_
                      refine lv_iload_n hx hb dX7_looksAtShelves_100 rfl (lv_at hl 5 rfl) ?_
                      obtain ⟨s12, es12⟩ : ∃ y : ST, y = zsp s11 3 y3_4 := ⟨_, rfl⟩
                      have h := h s12 es12
                      refine zput (ty := .int) hx hb hts inX7 tyX7 tyX7_ok nmX7 hown hK hj hw hA hS 0 (by decide) rfl rfl 6 (by decide) lk2 (fun _ h9 => h9) rfl (by decide +kernel) rfl rfl (Nat.le_of_ble_eq_true rfl) dX7_looksAtShelves_101 (zme cy ad s12) (by rw [es12]; rfl) (fun j hj9 => by rw [es12]; exact zsp_off_M_3 j hj9) (fun H locs hw hS => ?_)
                      refine lv_aload_n hx hb dX7_looksAtShelves_104 rfl (lv_at hl 3 rfl) ?_
                      refine lv_iload hx hb dX7_looksAtShelves_105 (lv_at hl 6 rfl) ?_
                      obtain ⟨s13, es13⟩ : ∃ y : ST, y = zsp s12 4 y4_17 := ⟨_, rfl⟩
                      have h := h s13 es13
                      refine zput (ty := .int) hx hb hts inX7 tyX7 tyX7_ok nmX7 hown hK hj hw hA hS 0 (by decide) rfl rfl 7 (by decide) lk3 (fun _ h9 => h9) rfl (by decide +kernel) rfl rfl (Nat.le_of_ble_eq_true rfl) dX7_looksAtShelves_107 (zme cy ad s13) (by rw [es13]; rfl) (fun j hj9 => by rw [es13]; exact zsp_off_M_4 j hj9) (fun H locs hw hS => ?_)
                      refine lv_aload_n hx hb dX7_looksAtShelves_110 rfl (lv_at hl 3 rfl) ?_
                      refine lv_iconst (v := (jI 0)) hx hb dX7_looksAtShelves_111 rfl ?_
                      obtain ⟨s14, es14⟩ : ∃ y : ST, y = zsp s13 5 (jI 0) := ⟨_, rfl⟩
                      have h := h s14 es14
                      refine zput (ty := .int) hx hb hts inX7 tyX7 tyX7_ok nmX7 hown hK hj hw hA hS 0 (by decide) rfl rfl 8 (by decide) lk4 (fun _ h9 => h9) rfl (by decide +kernel) rfl rfl (Nat.le_of_ble_eq_true rfl) dX7_looksAtShelves_112 (zme cy ad s14) (by rw [es14]; rfl) (fun j hj9 => by rw [es14]; exact zsp_off_M_5 j hj9) (fun H locs hw hS => ?_)
                      refine lv_aload_n hx hb dX7_looksAtShelves_115 rfl (lv_at hl 3 rfl) ?_
                      refine lv_aload_n hx hb dX7_looksAtShelves_116 rfl (lv_at hl 3 rfl) ?_
                      refine lv_iload_n hx hb dX7_looksAtShelves_117 rfl (lv_at hl 5 rfl) ?_
                      refine lv_iload hx hb dX7_looksAtShelves_118 (lv_at hl 6 rfl) ?_
                      refine k_X7_lettersOn (rest := [.ref (ad 0)]) hx hb hml hown hts gX7_looksAtShelves_X7_lettersOn ⟨Nat.le_of_ble_eq_true rfl, Nat.le_of_ble_eq_true rfl⟩ ⟨Nat.zero_le _, Nat.zero_le _⟩ hK hj hw hA hS hl.1 (Nat.le_of_ble_eq_true rfl) dX7_looksAtShelves_120 h (fun r6 s15 H locs h hw hS => ?_)
                      obtain ⟨s16, es16⟩ : ∃ y : ST, y = zsp s15 7 r6 := ⟨_, rfl⟩
                      have h := h s16 es16
                      refine zput (ty := .int) hx hb hts inX7 tyX7 tyX7_ok nmX7 hown hK hj hw hA hS 0 (by decide) rfl rfl 10 (by decide) lk5 (fun _ h9 => h9) rfl (by decide +kernel) rfl rfl (Nat.le_of_ble_eq_true rfl) dX7_looksAtShelves_123 (zme cy ad s16) (by rw [es16]; rfl) (fun j hj9 => by rw [es16]; exact zsp_off_M_7 j hj9) (fun H locs hw hS => ?_)
                      obtain ⟨x5, ex5⟩ : ∃ y : Int32, y = y4_17 + (jI 1) := ⟨_, rfl⟩
                      have h := h x5 ex5
                      refine lv_iinc (v := x5) (lv' := [(4, .int x5), (2, .int r1), (6, .int (jI 1)), (5, .int r1), (0, .ref (ad 0)), (1, .int p0), (3, .int y3_4)]) hx hb dX7_looksAtShelves_126 hl (k := 6) rfl (by rw [ex5]; rfl) (by decide) rfl (fun ls hl => ?_)
                      refine lv_goto (tgt := 17) hx hb dX7_looksAtShelves_129 (by decide) ?_
                      exact ih17 _ _ _ _ _ h hw hS _ (lv_sub hl [4, 5, 1, 6, 0] rfl)
        obtain ⟨nn17, h⟩ := h
        exact lp17 nn17 _ _ _ _ _ h hw hS _ (lv_sub hl [1, 2, 3, 4, 0] rfl)
  obtain ⟨nn4, h⟩ := h
  exact lp4 nn4 _ _ _ _ _ h hw hS _ (lv_sub hl [2, 3, 1, 0] rfl)
theorem k_X7_looksAtShelves {p : Program} {l : Launch} {e : Env} {R : Room} {s : State} {m : MethodId} {args : Array Value} {below : List Frame} {meth : Method} {c : Code} {H : Heap} {locs : List Loc} {cells slots : Nat} {QQ : State → Prop} {cc : ByteArray} {pc nL index : Nat} {ls : Array Slot} {rest : List Value} {D : va_G} {cy : cyT} {ad : Nat → Nat} {own : String} {Ts : List Cond} {H0 : Heap} {σ : ST} {p0 : Int32} {Q : ST → Prop} (hx : p.tables.exec = Jvm.exec) (hb : c.code = cc) (hml : c.maxLocals = nL) (hown : s.vm.findClass own = some m.cls) (hts : ∀ w ∈ Ts, w.before args s = true) (hG : GoodIn Ts (wsV own index RX7 yX7_looksAtShelves wsX7_looksAtShelves)) (hR : 4 + 1 ≤ R.frames ∧ 8 + (7 + 11) + 88 ≤ R.locals) (hcs : cells ≤ R.cells ∧ slots ≤ R.slots) (hK : zK D cy s) (hj : zI 6 ad) (hw : zW D 6 (zme cy ad σ) ad H) {A0 : Nat → Prop} (hA : ∀ i, i < 6 → A0 (ad i)) (hS : va_S A0 H0 H locs) (hsz : ls.size = nL) (hrest : (rest.map fun v => v.category).sum ≤ 8) (hdg : decode cc pc = .ok (.invokevirtual index, 3)) (h : wp_X7_looksAtShelves σ p0 Q) (kk : ∀ (σ : ST) (H : Heap) (locs : List Loc), Q σ → zW D 6 (zme cy ad σ) ad H → va_S A0 H0 H locs → W p l e R s m args below meth c H locs cells slots QQ (F0 m (pc + 3) ls rest)) : W p l e R s m args below meth c H locs cells slots QQ (F0 m pc ls (.int p0 :: .ref (ad 0) :: rest)) :=
  zcallv (va_runV (As := [.int p0]) (rest := rest) ⟨hx, hb, hml, hown, hts⟩ (c_X7_looksAtShelves l D cy ad σ p0 h) (cwV 1 hts hG rfl rfl rfl (by decide +kernel) hR) (zpreV hj hK hw _ (i := 0) (ci := 6) (by decide) rfl rfl) rfl rfl hsz rfl (lv_room hrest) hdg hcs) hA hS kk
set_option maxHeartbeats 4000000 in
set_option maxRecDepth 100000 in
theorem c_X7_looksAtStreet (l : Launch) (D : va_G) (cy : cyT) (ad : Nat → Nat) (σ : ST) {Q : ST → Prop} (h : wp_X7_looksAtStreet σ Q) : Met l yX7_looksAtStreet wsX7_looksAtStreet ({ frames := 3, cells := 0, slots := 0, locals := 64 } : Room) (zPre D cy 6 (zme cy ad σ) ad [.ref (ad 0)]) (va_Qv Q (zB D 6 (zme cy ad) ad) (zA 6 ad)) 0 0 (zA 6 ad) := by
  refine Met.ofW (cc := cX7_looksAtStreet) (maxL := 3) (ret := none) (by decide) rfl ?_
  intro p e s m args below meth c s₁ B hml hv
  obtain ⟨rfl, hj, hK, hw⟩ := hv
  have hx := B.exec
  have hb := B.bytes
  have hr := B.returns
  have hts := atoms_spec (ws := wsX7_looksAtStreet) B.pre
  have hown : s.vm.findClass RX7 = some m.cls := findClass_of_methodNamed B.named
  have hlocks := B.notSynchronized
  have lk0 : Cond.fieldLink RX7 7 "TypeTraysModel" "w" "[I" ∈ wsX7_looksAtStreet := List.mem_of_getElem? (i := 1) rfl
  have lk1 : Cond.fieldLink RX7 96 "TypeTraysModel" "leaver" "I" ∈ wsX7_looksAtStreet := List.mem_of_getElem? (i := 3) rfl
  have lk2 : Cond.fieldLink RX7 68 "TypeTraysModel" "rule" "I" ∈ wsX7_looksAtStreet := List.mem_of_getElem? (i := 2) rfl
  have lk3 : Cond.fieldLink RX7 93 "TypeTraysModel" "taken" "I" ∈ wsX7_looksAtStreet := List.mem_of_getElem? (i := 4) rfl
  have inX7 : ∀ w ∈ u_ws RX7 TX7 16, w ∈ wsX7_looksAtStreet := zin_at 18 rfl
  have hS : va_S (zA 6 ad) s.heap s.heap [] := va_S.rf
  have hA : ∀ i, i < 6 → zA 6 ad (ad i) := fun i hi => ⟨i, hi, rfl⟩
  have hl := lv_entry ([.ref (ad 0)]) (n := 3) (Nat.le_of_ble_eq_true rfl)
  rw [lg_entry_eq]
  generalize (lg_sl ([.ref (ad 0)]) ++ List.replicate (3 - (lg_sl ([.ref (ad 0)])).length) Slot.unset).toArray = ls at hl ⊢
  have hl : lv_has ls 3 [(0, .ref (ad 0))] := hl
  show W p l e ({ frames := 3, cells := 0, slots := 0, locals := 64 } : Room) s m ([.ref (ad 0)] : List Value).toArray below meth c s.heap [] 0 0 (MQ below (va_Qv Q (zB D 6 (zme cy ad) ad) (zA 6 ad)) ([.ref (ad 0)] : List Value).toArray s 0 0 (zA 6 ad)) (F0 m 0 ls [])
  unfold wp_X7_looksAtStreet at h
  refine lv_aload_n hx hb dX7_looksAtStreet_0 rfl (lv_at hl 0 rfl) ?_
  refine zget hx hb hts inX7 hown hK hw 0 (by decide) rfl rfl 0 (by decide) lk0 (fun _ h9 => h9) rfl dX7_looksAtStreet_1 ?_
  refine lv_bipush (v := (jI 7)) hx hb dX7_looksAtStreet_4 (by decide +kernel) ?_
  refine ziald hx hb hK hw 1 (by decide) rfl h.1 dX7_looksAtStreet_6 ?_
  refine lv_topi (fun v1 ev1 => ?_)
  have h := h.2 v1 ev1
  refine lv_iconst (v := (jI 4)) hx hb dX7_looksAtStreet_7 rfl ?_
  refine lv_icmp_ge (tgt := 17) hx hb dX7_looksAtStreet_8 (by decide) (fun c1 => ?_) (fun c1 => ?_)
  · have h := h.1 c1
    refine lv_iconst (v := (jI 0)) hx hb dX7_looksAtStreet_17 rfl ?_
    refine lv_istore_n (lv' := [(1, .int (jI 0)), (0, .ref (ad 0))]) hx hb dX7_looksAtStreet_18 rfl hl (by decide) rfl (fun ls hl => ?_)
    have k89_19 : ∀ (u_89 : ST) (H : Heap) (locs : List Loc), Q u_89 → zW D 6 (zme cy ad u_89) ad H → va_S (zA 6 ad) s.heap H locs → ∀ ls : Array Slot, lv_has ls 3 [] → W p l e ({ frames := 3, cells := 0, slots := 0, locals := 64 } : Room) s m ([.ref (ad 0)] : List Value).toArray below meth c H locs 0 0 (MQ below (va_Qv Q (zB D 6 (zme cy ad) ad) (zA 6 ad)) ([.ref (ad 0)] : List Value).toArray s 0 0 (zA 6 ad)) (F0 m 89 ls []) := by
      intro u_89 H locs h hw hS ls hl
      exact W.vret hx hb hr (fun t ht hW => ⟨⟨_, rfl, h, zend hw ht⟩, hS.F ht⟩) hS.2.2 dX7_looksAtStreet_89
    have lp19 : ∀ (nn19 : Nat) (t_19 : ST) (y1_19 : Int32) (H : Heap) (locs : List Loc), wl_X7_looksAtStreet_19 (fun u_89 => Q u_89)  nn19 t_19 y1_19 → zW D 6 (zme cy ad t_19) ad H → va_S (zA 6 ad) s.heap H locs → ∀ ls : Array Slot, lv_has ls 3 [(0, .ref (ad 0)), (1, .int y1_19)] → W p l e ({ frames := 3, cells := 0, slots := 0, locals := 64 } : Room) s m ([.ref (ad 0)] : List Value).toArray below meth c H locs 0 0 (MQ below (va_Qv Q (zB D 6 (zme cy ad) ad) (zA 6 ad)) ([.ref (ad 0)] : List Value).toArray s 0 0 (zA 6 ad)) (F0 m 19 ls []) := by
      intro nn19
      induction nn19 with
      | zero => intro _ _ _ _ h; exact h.elim
      | succ nn19 ih19 =>
        intro t_19 y1_19 H locs h hw hS ls hl
        simp only [wl_X7_looksAtStreet_19, wb_X7_looksAtStreet_19] at h
        refine lv_iload_n hx hb dX7_looksAtStreet_19 rfl (lv_at hl 1 rfl) ?_
        refine lv_iconst (v := (jI 4)) hx hb dX7_looksAtStreet_20 rfl ?_
        refine lv_icmp_ge (tgt := 89) hx hb dX7_looksAtStreet_21 (by decide) (fun c2 => ?_) (fun c2 => ?_)
        · have h := h.1 c2
          exact k89_19 _ _ _ h hw hS _ (lv_sub hl [] rfl)
        · have h := h.2 c2
          refine lv_aload_n hx hb dX7_looksAtStreet_24 rfl (lv_at hl 0 rfl) ?_
          refine zget hx hb hts inX7 hown hK hw 0 (by decide) rfl rfl 0 (by decide) lk0 (fun _ h9 => h9) rfl dX7_looksAtStreet_25 ?_
          refine lv_bipush (v := (jI 8)) hx hb dX7_looksAtStreet_28 (by decide +kernel) ?_
          refine lv_iload_n hx hb dX7_looksAtStreet_30 rfl (lv_at hl 1 rfl) ?_
          refine lv_iadd hx hb dX7_looksAtStreet_31 ?_
          refine ziald hx hb hK hw 1 (by decide) rfl h.1 dX7_looksAtStreet_32 ?_
          refine lv_topi (fun v2 ev2 => ?_)
          have h := h.2 v2 ev2
          refine lv_istore_n (lv' := [(2, .int v2), (0, .ref (ad 0)), (1, .int y1_19)]) hx hb dX7_looksAtStreet_33 rfl hl (by decide) rfl (fun ls hl => ?_)
          refine lv_aload_n hx hb dX7_looksAtStreet_34 rfl (lv_at hl 1 rfl) ?_
          refine lv_iload_n hx hb dX7_looksAtStreet_35 rfl (lv_at hl 0 rfl) ?_
          refine k_X7_isNow (rest := []) hx hb hml hown hts gX7_looksAtStreet_X7_isNow ⟨Nat.le_of_ble_eq_true rfl, Nat.le_of_ble_eq_true rfl⟩ ⟨Nat.zero_le _, Nat.zero_le _⟩ hK hj hw hA hS hl.1 (Nat.le_of_ble_eq_true rfl) dX7_looksAtStreet_36 h (fun r1 s1 H locs h hw hS => ?_)
          refine zif_ne (tgt := 83) hx hb dX7_looksAtStreet_39 (by decide) (fun c3 => ?_) (fun c3 => ?_)
          · have h := h.2 c3
            obtain ⟨x1, ex1⟩ : ∃ y : Int32, y = y1_19 + (jI 1) := ⟨_, rfl⟩
            have h := h x1 ex1
            refine lv_iinc (v := x1) (lv' := [(1, .int x1), (2, .int v2), (0, .ref (ad 0))]) hx hb dX7_looksAtStreet_83 hl (k := 2) rfl (by rw [ex1]; rfl) (by decide) rfl (fun ls hl => ?_)
            refine lv_goto (tgt := 19) hx hb dX7_looksAtStreet_86 (by decide) ?_
            exact ih19 _ _ _ _ h hw hS _ (lv_sub hl [2, 0] rfl)
          · have h := h.1 c3
            refine lv_aload_n hx hb dX7_looksAtStreet_42 rfl (lv_at hl 1 rfl) ?_
            refine zget hx hb hts inX7 hown hK hw 0 (by decide) rfl rfl 9 (by decide) lk1 (fun _ h9 => h9) rfl dX7_looksAtStreet_43 ?_
            refine lv_iconst (v := (jI (-1))) hx hb dX7_looksAtStreet_46 rfl ?_
            refine lv_icmp_eq (tgt := 68) hx hb dX7_looksAtStreet_47 (by decide) (fun c4 => ?_) (fun c4 => ?_)
            · have h := h.1 c4
              refine lv_aload_n hx hb dX7_looksAtStreet_68 rfl (lv_at hl 1 rfl) ?_
              refine lv_iload_n hx hb dX7_looksAtStreet_69 rfl (lv_at hl 0 rfl) ?_
              obtain ⟨s2, es2⟩ : ∃ y : ST, y = zsp s1 6 v2 := ⟨_, rfl⟩
              have h := h s2 es2
              refine zput (ty := .int) hx hb hts inX7 tyX7 tyX7_ok nmX7 hown hK hj hw hA hS 0 (by decide) rfl rfl 9 (by decide) lk1 (fun _ h9 => h9) rfl (by decide +kernel) rfl rfl (Nat.le_of_ble_eq_true rfl) dX7_looksAtStreet_70 (zme cy ad s2) (by rw [es2]; rfl) (fun j hj9 => by rw [es2]; exact zsp_off_M_6 j hj9) (fun H locs hw hS => ?_)
              refine lv_aload_n hx hb dX7_looksAtStreet_73 rfl (lv_at hl 1 rfl) ?_
              refine lv_iconst (v := (jI 4)) hx hb dX7_looksAtStreet_74 rfl ?_
              obtain ⟨s3, es3⟩ : ∃ y : ST, y = zsp s2 2 (jI 4) := ⟨_, rfl⟩
              have h := h s3 es3
              refine zput (ty := .int) hx hb hts inX7 tyX7 tyX7_ok nmX7 hown hK hj hw hA hS 0 (by decide) rfl rfl 5 (by decide) lk2 (fun _ h9 => h9) rfl (by decide +kernel) rfl rfl (Nat.le_of_ble_eq_true rfl) dX7_looksAtStreet_75 (zme cy ad s3) (by rw [es3]; rfl) (fun j hj9 => by rw [es3]; exact zsp_off_M_2 j hj9) (fun H locs hw hS => ?_)
              refine lv_aload_n hx hb dX7_looksAtStreet_78 rfl (lv_at hl 1 rfl) ?_
              refine lv_iconst (v := (jI 1)) hx hb dX7_looksAtStreet_79 rfl ?_
              obtain ⟨s4, es4⟩ : ∃ y : ST, y = zsp s3 7 (jI 1) := ⟨_, rfl⟩
              have h := h s4 es4
              refine zput (ty := .int) hx hb hts inX7 tyX7 tyX7_ok nmX7 hown hK hj hw hA hS 0 (by decide) rfl rfl 10 (by decide) lk3 (fun _ h9 => h9) rfl (by decide +kernel) rfl rfl (Nat.le_of_ble_eq_true rfl) dX7_looksAtStreet_80 (zme cy ad s4) (by rw [es4]; rfl) (fun j hj9 => by rw [es4]; exact zsp_off_M_7 j hj9) (fun H locs hw hS => ?_)
              obtain ⟨x2, ex2⟩ : ∃ y : Int32, y = y1_19 + (jI 1) := ⟨_, rfl⟩
              have h := h x2 ex2
              refine lv_iinc (v := x2) (lv' := [(1, .int x2), (2, .int v2), (0, .ref (ad 0))]) hx hb dX7_looksAtStreet_83 hl (k := 2) rfl (by rw [ex2]; rfl) (by decide) rfl (fun ls hl => ?_)
              refine lv_goto (tgt := 19) hx hb dX7_looksAtStreet_86 (by decide) ?_
              exact ih19 _ _ _ _ h hw hS _ (lv_sub hl [2, 0] rfl)
            · have h := h.2 c4
              refine lv_aload_n hx hb dX7_looksAtStreet_50 rfl (lv_at hl 1 rfl) ?_
              refine lv_iload_n hx hb dX7_looksAtStreet_51 rfl (lv_at hl 0 rfl) ?_
              refine lv_iconst (v := (jI 3)) hx hb dX7_looksAtStreet_52 rfl ?_
              refine k_X7_of (rest := []) hx hb hml hown hts gX7_looksAtStreet_X7_of ⟨Nat.le_of_ble_eq_true rfl, Nat.le_of_ble_eq_true rfl⟩ ⟨Nat.zero_le _, Nat.zero_le _⟩ hK hj hw hA hS hl.1 (Nat.le_of_ble_eq_true rfl) dX7_looksAtStreet_53 h (fun r2 s5 H locs h hw hS => ?_)
              refine lv_aload_n hx hb dX7_looksAtStreet_56 rfl (lv_at hl 1 rfl) ?_
              refine lv_aload_n hx hb dX7_looksAtStreet_57 rfl (lv_at hl 1 rfl) ?_
              refine zget hx hb hts inX7 hown hK hw 0 (by decide) rfl rfl 9 (by decide) lk1 (fun _ h9 => h9) rfl dX7_looksAtStreet_58 ?_
              refine lv_iconst (v := (jI 3)) hx hb dX7_looksAtStreet_61 rfl ?_
              refine k_X7_of (rest := [.int r2]) hx hb hml hown hts gX7_looksAtStreet_X7_of ⟨Nat.le_of_ble_eq_true rfl, Nat.le_of_ble_eq_true rfl⟩ ⟨Nat.zero_le _, Nat.zero_le _⟩ hK hj hw hA hS hl.1 (Nat.le_of_ble_eq_true rfl) dX7_looksAtStreet_62 h (fun r3 s6 H locs h hw hS => ?_)
              refine lv_icmp_ge (tgt := 83) hx hb dX7_looksAtStreet_65 (by decide) (fun c5 => ?_) (fun c5 => ?_)
              · have h := h.1 c5
                obtain ⟨x3, ex3⟩ : ∃ y : Int32, y = y1_19 + (jI 1) := ⟨_, rfl⟩
                have h := h x3 ex3
                refine lv_iinc (v := x3) (lv' := [(1, .int x3), (2, .int v2), (0, .ref (ad 0))]) hx hb dX7_looksAtStreet_83 hl (k := 2) rfl (by rw [ex3]; rfl) (by decide) rfl (fun ls hl => ?_)
                refine lv_goto (tgt := 19) hx hb dX7_looksAtStreet_86 (by decide) ?_
                exact ih19 _ _ _ _ h hw hS _ (lv_sub hl [2, 0] rfl)
              · have h := h.2 c5
                refine lv_aload_n hx hb dX7_looksAtStreet_68 rfl (lv_at hl 1 rfl) ?_
                refine lv_iload_n hx hb dX7_looksAtStreet_69 rfl (lv_at hl 0 rfl) ?_
                obtain ⟨s7, es7⟩ : ∃ y : ST, y = zsp s6 6 v2 := ⟨_, rfl⟩
                have h := h s7 es7
                refine zput (ty := .int) hx hb hts inX7 tyX7 tyX7_ok nmX7 hown hK hj hw hA hS 0 (by decide) rfl rfl 9 (by decide) lk1 (fun _ h9 => h9) rfl (by decide +kernel) rfl rfl (Nat.le_of_ble_eq_true rfl) dX7_looksAtStreet_70 (zme cy ad s7) (by rw [es7]; rfl) (fun j hj9 => by rw [es7]; exact zsp_off_M_6 j hj9) (fun H locs hw hS => ?_)
                refine lv_aload_n hx hb dX7_looksAtStreet_73 rfl (lv_at hl 1 rfl) ?_
                refine lv_iconst (v := (jI 4)) hx hb dX7_looksAtStreet_74 rfl ?_
                obtain ⟨s8, es8⟩ : ∃ y : ST, y = zsp s7 2 (jI 4) := ⟨_, rfl⟩
                have h := h s8 es8
                refine zput (ty := .int) hx hb hts inX7 tyX7 tyX7_ok nmX7 hown hK hj hw hA hS 0 (by decide) rfl rfl 5 (by decide) lk2 (fun _ h9 => h9) rfl (by decide +kernel) rfl rfl (Nat.le_of_ble_eq_true rfl) dX7_looksAtStreet_75 (zme cy ad s8) (by rw [es8]; rfl) (fun j hj9 => by rw [es8]; exact zsp_off_M_2 j hj9) (fun H locs hw hS => ?_)
                refine lv_aload_n hx hb dX7_looksAtStreet_78 rfl (lv_at hl 1 rfl) ?_
                refine lv_iconst (v := (jI 1)) hx hb dX7_looksAtStreet_79 rfl ?_
                obtain ⟨s9, es9⟩ : ∃ y : ST, y = zsp s8 7 (jI 1) := ⟨_, rfl⟩
                have h := h s9 es9
                refine zput (ty := .int) hx hb hts inX7 tyX7 tyX7_ok nmX7 hown hK hj hw hA hS 0 (by decide) rfl rfl 10 (by decide) lk3 (fun _ h9 => h9) rfl (by decide +kernel) rfl rfl (Nat.le_of_ble_eq_true rfl) dX7_looksAtStreet_80 (zme cy ad s9) (by rw [es9]; rfl) (fun j hj9 => by rw [es9]; exact zsp_off_M_7 j hj9) (fun H locs hw hS => ?_)
                obtain ⟨x4, ex4⟩ : ∃ y : Int32, y = y1_19 + (jI 1) := ⟨_, rfl⟩
                have h := h x4 ex4
                refine lv_iinc (v := x4) (lv' := [(1, .int x4), (2, .int v2), (0, .ref (ad 0))]) hx hb dX7_looksAtStreet_83 hl (k := 2) rfl (by rw [ex4]; rfl) (by decide) rfl (fun ls hl => ?_)
                refine lv_goto (tgt := 19) hx hb dX7_looksAtStreet_86 (by decide) ?_
                exact ih19 _ _ _ _ h hw hS _ (lv_sub hl [2, 0] rfl)
    obtain ⟨nn19, h⟩ := h
    exact lp19 nn19 _ _ _ _ h hw hS _ (lv_sub hl [1, 0] rfl)
  · have h := h.2 c1
    refine lv_aload_n hx hb dX7_looksAtStreet_11 rfl (lv_at hl 0 rfl) ?_
    refine lv_iconst (v := (jI 4)) hx hb dX7_looksAtStreet_12 rfl ?_
    obtain ⟨s10, es10⟩ : ∃ y : ST, y = zsp σ 2 (jI 4) := ⟨_, rfl⟩
    have h := h s10 es10
    refine zput (ty := .int) hx hb hts inX7 tyX7 tyX7_ok nmX7 hown hK hj hw hA hS 0 (by decide) rfl rfl 5 (by decide) lk2 (fun _ h9 => h9) rfl (by decide +kernel) rfl rfl (Nat.le_of_ble_eq_true rfl) dX7_looksAtStreet_13 (zme cy ad s10) (by rw [es10]; rfl) (fun j hj9 => by rw [es10]; exact zsp_off_M_2 j hj9) (fun H locs hw hS => ?_)
    exact W.vret hx hb hr (fun t ht hW => ⟨⟨_, rfl, h, zend hw ht⟩, hS.F ht⟩) hS.2.2 dX7_looksAtStreet_16
theorem k_X7_looksAtStreet {p : Program} {l : Launch} {e : Env} {R : Room} {s : State} {m : MethodId} {args : Array Value} {below : List Frame} {meth : Method} {c : Code} {H : Heap} {locs : List Loc} {cells slots : Nat} {QQ : State → Prop} {cc : ByteArray} {pc nL index : Nat} {ls : Array Slot} {rest : List Value} {D : va_G} {cy : cyT} {ad : Nat → Nat} {own : String} {Ts : List Cond} {H0 : Heap} {σ : ST}  {Q : ST → Prop} (hx : p.tables.exec = Jvm.exec) (hb : c.code = cc) (hml : c.maxLocals = nL) (hown : s.vm.findClass own = some m.cls) (hts : ∀ w ∈ Ts, w.before args s = true) (hG : GoodIn Ts (wsV own index RX7 yX7_looksAtStreet wsX7_looksAtStreet)) (hR : 3 + 1 ≤ R.frames ∧ 8 + (3 + 11) + 64 ≤ R.locals) (hcs : cells ≤ R.cells ∧ slots ≤ R.slots) (hK : zK D cy s) (hj : zI 6 ad) (hw : zW D 6 (zme cy ad σ) ad H) {A0 : Nat → Prop} (hA : ∀ i, i < 6 → A0 (ad i)) (hS : va_S A0 H0 H locs) (hsz : ls.size = nL) (hrest : (rest.map fun v => v.category).sum ≤ 8) (hdg : decode cc pc = .ok (.invokevirtual index, 3)) (h : wp_X7_looksAtStreet σ  Q) (kk : ∀ (σ : ST) (H : Heap) (locs : List Loc), Q σ → zW D 6 (zme cy ad σ) ad H → va_S A0 H0 H locs → W p l e R s m args below meth c H locs cells slots QQ (F0 m (pc + 3) ls rest)) : W p l e R s m args below meth c H locs cells slots QQ (F0 m pc ls (.ref (ad 0) :: rest)) :=
  zcallv (va_runV (As := []) (rest := rest) ⟨hx, hb, hml, hown, hts⟩ (c_X7_looksAtStreet l D cy ad σ  h) (cwV 0 hts hG rfl rfl rfl (by decide +kernel) hR) (zpreV hj hK hw _ (i := 0) (ci := 6) (by decide) rfl rfl) rfl rfl hsz rfl (lv_room hrest) hdg hcs) hA hS kk
set_option maxHeartbeats 4000000 in
set_option maxRecDepth 100000 in
theorem c_X7_looks (l : Launch) (D : va_G) (cy : cyT) (ad : Nat → Nat) (σ : ST) (p0 : Int32) {Q : ST → Prop} (h : wp_X7_looks σ p0 Q) : Met l yX7_looks wsX7_looks ({ frames := 5, cells := 0, slots := 0, locals := 114 } : Room) (zPre D cy 6 (zme cy ad σ) ad [.ref (ad 0), .int p0]) (va_Qv Q (zB D 6 (zme cy ad) ad) (zA 6 ad)) 0 0 (zA 6 ad) := by
  refine Met.ofW (cc := cX7_looks) (maxL := 2) (ret := none) (by decide) rfl ?_
  intro p e s m args below meth c s₁ B hml hv
  obtain ⟨rfl, hj, hK, hw⟩ := hv
  have hx := B.exec
  have hb := B.bytes
  have hr := B.returns
  have hts := atoms_spec (ws := wsX7_looks) B.pre
  have hown : s.vm.findClass RX7 = some m.cls := findClass_of_methodNamed B.named
  have hlocks := B.notSynchronized
  have lk0 : Cond.fieldLink RX7 68 "TypeTraysModel" "rule" "I" ∈ wsX7_looks := List.mem_of_getElem? (i := 1) rfl
  have lk1 : Cond.fieldLink RX7 96 "TypeTraysModel" "leaver" "I" ∈ wsX7_looks := List.mem_of_getElem? (i := 2) rfl
  have lk2 : Cond.fieldLink RX7 93 "TypeTraysModel" "taken" "I" ∈ wsX7_looks := List.mem_of_getElem? (i := 3) rfl
  have inX7 : ∀ w ∈ u_ws RX7 TX7 16, w ∈ wsX7_looks := zin_at 78 rfl
  have hS : va_S (zA 6 ad) s.heap s.heap [] := va_S.rf
  have hA : ∀ i, i < 6 → zA 6 ad (ad i) := fun i hi => ⟨i, hi, rfl⟩
  have hl := lv_entry ([.ref (ad 0), .int p0]) (n := 2) (Nat.le_of_ble_eq_true rfl)
  rw [lg_entry_eq]
  generalize (lg_sl ([.ref (ad 0), .int p0]) ++ List.replicate (2 - (lg_sl ([.ref (ad 0), .int p0])).length) Slot.unset).toArray = ls at hl ⊢
  have hl : lv_has ls 2 [(0, .ref (ad 0)), (1, .int p0)] := hl
  show W p l e ({ frames := 5, cells := 0, slots := 0, locals := 114 } : Room) s m ([.ref (ad 0), .int p0] : List Value).toArray below meth c s.heap [] 0 0 (MQ below (va_Qv Q (zB D 6 (zme cy ad) ad) (zA 6 ad)) ([.ref (ad 0), .int p0] : List Value).toArray s 0 0 (zA 6 ad)) (F0 m 0 ls [])
  unfold wp_X7_looks at h
  refine lv_aload_n hx hb dX7_looks_0 rfl (lv_at hl 0 rfl) ?_
  refine lv_aload_n hx hb dX7_looks_1 rfl (lv_at hl 0 rfl) ?_
  refine lv_iload_n hx hb dX7_looks_2 rfl (lv_at hl 1 rfl) ?_
  refine k_X7_is (rest := [.ref (ad 0)]) hx hb hml hown hts gX7_looks_X7_is ⟨Nat.le_of_ble_eq_true rfl, Nat.le_of_ble_eq_true rfl⟩ ⟨Nat.zero_le _, Nat.zero_le _⟩ hK hj hw hA hS hl.1 (Nat.le_of_ble_eq_true rfl) dX7_looks_3 h (fun r1 s1 H locs h hw hS => ?_)
  refine zif_eq (tgt := 13) hx hb dX7_looks_6 (by decide) (fun c1 => ?_) (fun c1 => ?_)
  · have h := h.1 c1
    refine lv_iconst (v := (jI (-1))) hx hb dX7_looks_13 rfl ?_
    obtain ⟨s2, es2⟩ : ∃ y : ST, y = zsp s1 2 (jI (-1)) := ⟨_, rfl⟩
    have h := h s2 es2
    refine zput (ty := .int) hx hb hts inX7 tyX7 tyX7_ok nmX7 hown hK hj hw hA hS 0 (by decide) rfl rfl 5 (by decide) lk0 (fun _ h9 => h9) rfl (by decide +kernel) rfl rfl (Nat.le_of_ble_eq_true rfl) dX7_looks_14 (zme cy ad s2) (by rw [es2]; rfl) (fun j hj9 => by rw [es2]; exact zsp_off_M_2 j hj9) (fun H locs hw hS => ?_)
    refine lv_aload_n hx hb dX7_looks_17 rfl (lv_at hl 0 rfl) ?_
    refine lv_iconst (v := (jI (-1))) hx hb dX7_looks_18 rfl ?_
    obtain ⟨s3, es3⟩ : ∃ y : ST, y = zsp s2 6 (jI (-1)) := ⟨_, rfl⟩
    have h := h s3 es3
    refine zput (ty := .int) hx hb hts inX7 tyX7 tyX7_ok nmX7 hown hK hj hw hA hS 0 (by decide) rfl rfl 9 (by decide) lk1 (fun _ h9 => h9) rfl (by decide +kernel) rfl rfl (Nat.le_of_ble_eq_true rfl) dX7_looks_19 (zme cy ad s3) (by rw [es3]; rfl) (fun j hj9 => by rw [es3]; exact zsp_off_M_6 j hj9) (fun H locs hw hS => ?_)
    refine lv_aload_n hx hb dX7_looks_22 rfl (lv_at hl 0 rfl) ?_
    refine lv_iconst (v := (jI 0)) hx hb dX7_looks_23 rfl ?_
    obtain ⟨s4, es4⟩ : ∃ y : ST, y = zsp s3 7 (jI 0) := ⟨_, rfl⟩
    have h := h s4 es4
    refine zput (ty := .int) hx hb hts inX7 tyX7 tyX7_ok nmX7 hown hK hj hw hA hS 0 (by decide) rfl rfl 10 (by decide) lk2 (fun _ h9 => h9) rfl (by decide +kernel) rfl rfl (Nat.le_of_ble_eq_true rfl) dX7_looks_24 (zme cy ad s4) (by rw [es4]; rfl) (fun j hj9 => by rw [es4]; exact zsp_off_M_7 j hj9) (fun H locs hw hS => ?_)
    refine lv_aload_n hx hb dX7_looks_27 rfl (lv_at hl 0 rfl) ?_
    refine zget hx hb hts inX7 hown hK hw 0 (by decide) rfl rfl 5 (by decide) lk0 (fun _ h9 => h9) rfl dX7_looks_28 ?_
    refine lv_iconst (v := (jI (-1))) hx hb dX7_looks_31 rfl ?_
    refine lv_icmp_ne (tgt := 40) hx hb dX7_looks_32 (by decide) (fun c2 => ?_) (fun c2 => ?_)
    · have h := h.2 c2
      refine lv_aload_n hx hb dX7_looks_40 rfl (lv_at hl 0 rfl) ?_
      refine zget hx hb hts inX7 hown hK hw 0 (by decide) rfl rfl 5 (by decide) lk0 (fun _ h9 => h9) rfl dX7_looks_41 ?_
      refine lv_iconst (v := (jI (-1))) hx hb dX7_looks_44 rfl ?_
      refine lv_icmp_ne (tgt := 53) hx hb dX7_looks_45 (by decide) (fun c3 => ?_) (fun c3 => ?_)
      · have h := h.2 c3
        refine lv_aload_n hx hb dX7_looks_53 rfl (lv_at hl 0 rfl) ?_
        refine zget hx hb hts inX7 hown hK hw 0 (by decide) rfl rfl 5 (by decide) lk0 (fun _ h9 => h9) rfl dX7_looks_54 ?_
        refine lv_iconst (v := (jI (-1))) hx hb dX7_looks_57 rfl ?_
        refine lv_icmp_ne (tgt := 66) hx hb dX7_looks_58 (by decide) (fun c4 => ?_) (fun c4 => ?_)
        · have h := h.2 c4
          refine lv_aload_n hx hb dX7_looks_66 rfl (lv_at hl 0 rfl) ?_
          refine zget hx hb hts inX7 hown hK hw 0 (by decide) rfl rfl 5 (by decide) lk0 (fun _ h9 => h9) rfl dX7_looks_67 ?_
          refine lv_iconst (v := (jI (-1))) hx hb dX7_looks_70 rfl ?_
          refine lv_icmp_ne (tgt := 78) hx hb dX7_looks_71 (by decide) (fun c5 => ?_) (fun c5 => ?_)
          · have h := h.2 c5
            exact W.vret hx hb hr (fun t ht hW => ⟨⟨_, rfl, h, zend hw ht⟩, hS.F ht⟩) hS.2.2 dX7_looks_78
          · have h := h.1 c5
            refine lv_aload_n hx hb dX7_looks_74 rfl (lv_at hl 0 rfl) ?_
            refine k_X7_looksAtStreet (rest := []) hx hb hml hown hts gX7_looks_X7_looksAtStreet ⟨Nat.le_of_ble_eq_true rfl, Nat.le_of_ble_eq_true rfl⟩ ⟨Nat.zero_le _, Nat.zero_le _⟩ hK hj hw hA hS hl.1 (Nat.le_of_ble_eq_true rfl) dX7_looks_75 h (fun s5 H locs h hw hS => ?_)
            exact W.vret hx hb hr (fun t ht hW => ⟨⟨_, rfl, h, zend hw ht⟩, hS.F ht⟩) hS.2.2 dX7_looks_78
        · have h := h.1 c4
          refine lv_aload_n hx hb dX7_looks_61 rfl (lv_at hl 0 rfl) ?_
          refine lv_iload_n hx hb dX7_looks_62 rfl (lv_at hl 1 rfl) ?_
          refine k_X7_looksAtShelves (rest := []) hx hb hml hown hts gX7_looks_X7_looksAtShelves ⟨Nat.le_of_ble_eq_true rfl, Nat.le_of_ble_eq_true rfl⟩ ⟨Nat.zero_le _, Nat.zero_le _⟩ hK hj hw hA hS hl.1 (Nat.le_of_ble_eq_true rfl) dX7_looks_63 h (fun s6 H locs h hw hS => ?_)
          refine lv_aload_n hx hb dX7_looks_66 rfl (lv_at hl 0 rfl) ?_
          refine zget hx hb hts inX7 hown hK hw 0 (by decide) rfl rfl 5 (by decide) lk0 (fun _ h9 => h9) rfl dX7_looks_67 ?_
          refine lv_iconst (v := (jI (-1))) hx hb dX7_looks_70 rfl ?_
          refine lv_icmp_ne (tgt := 78) hx hb dX7_looks_71 (by decide) (fun c6 => ?_) (fun c6 => ?_)
          · have h := h.2 c6
            exact W.vret hx hb hr (fun t ht hW => ⟨⟨_, rfl, h, zend hw ht⟩, hS.F ht⟩) hS.2.2 dX7_looks_78
          · have h := h.1 c6
            refine lv_aload_n hx hb dX7_looks_74 rfl (lv_at hl 0 rfl) ?_
            refine k_X7_looksAtStreet (rest := []) hx hb hml hown hts gX7_looks_X7_looksAtStreet ⟨Nat.le_of_ble_eq_true rfl, Nat.le_of_ble_eq_true rfl⟩ ⟨Nat.zero_le _, Nat.zero_le _⟩ hK hj hw hA hS hl.1 (Nat.le_of_ble_eq_true rfl) dX7_looks_75 h (fun s7 H locs h hw hS => ?_)
            exact W.vret hx hb hr (fun t ht hW => ⟨⟨_, rfl, h, zend hw ht⟩, hS.F ht⟩) hS.2.2 dX7_looks_78
      · have h := h.1 c3
        refine lv_aload_n hx hb dX7_looks_48 rfl (lv_at hl 0 rfl) ?_
        refine lv_iload_n hx hb dX7_looks_49 rfl (lv_at hl 1 rfl) ?_
        refine k_X7_looksAtTrays (rest := []) hx hb hml hown hts gX7_looks_X7_looksAtTrays ⟨Nat.le_of_ble_eq_true rfl, Nat.le_of_ble_eq_true rfl⟩ ⟨Nat.zero_le _, Nat.zero_le _⟩ hK hj hw hA hS hl.1 (Nat.le_of_ble_eq_true rfl) dX7_looks_50 h (fun s8 H locs h hw hS => ?_)
        refine lv_aload_n hx hb dX7_looks_53 rfl (lv_at hl 0 rfl) ?_
        refine zget hx hb hts inX7 hown hK hw 0 (by decide) rfl rfl 5 (by decide) lk0 (fun _ h9 => h9) rfl dX7_looks_54 ?_
        refine lv_iconst (v := (jI (-1))) hx hb dX7_looks_57 rfl ?_
        refine lv_icmp_ne (tgt := 66) hx hb dX7_looks_58 (by decide) (fun c7 => ?_) (fun c7 => ?_)
        · have h := h.2 c7
          refine lv_aload_n hx hb dX7_looks_66 rfl (lv_at hl 0 rfl) ?_
          refine zget hx hb hts inX7 hown hK hw 0 (by decide) rfl rfl 5 (by decide) lk0 (fun _ h9 => h9) rfl dX7_looks_67 ?_
          refine lv_iconst (v := (jI (-1))) hx hb dX7_looks_70 rfl ?_
          refine lv_icmp_ne (tgt := 78) hx hb dX7_looks_71 (by decide) (fun c8 => ?_) (fun c8 => ?_)
          · have h := h.2 c8
            exact W.vret hx hb hr (fun t ht hW => ⟨⟨_, rfl, h, zend hw ht⟩, hS.F ht⟩) hS.2.2 dX7_looks_78
          · have h := h.1 c8
            refine lv_aload_n hx hb dX7_looks_74 rfl (lv_at hl 0 rfl) ?_
            refine k_X7_looksAtStreet (rest := []) hx hb hml hown hts gX7_looks_X7_looksAtStreet ⟨Nat.le_of_ble_eq_true rfl, Nat.le_of_ble_eq_true rfl⟩ ⟨Nat.zero_le _, Nat.zero_le _⟩ hK hj hw hA hS hl.1 (Nat.le_of_ble_eq_true rfl) dX7_looks_75 h (fun s9 H locs h hw hS => ?_)
            exact W.vret hx hb hr (fun t ht hW => ⟨⟨_, rfl, h, zend hw ht⟩, hS.F ht⟩) hS.2.2 dX7_looks_78
        · have h := h.1 c7
          refine lv_aload_n hx hb dX7_looks_61 rfl (lv_at hl 0 rfl) ?_
          refine lv_iload_n hx hb dX7_looks_62 rfl (lv_at hl 1 rfl) ?_
          refine k_X7_looksAtShelves (rest := []) hx hb hml hown hts gX7_looks_X7_looksAtShelves ⟨Nat.le_of_ble_eq_true rfl, Nat.le_of_ble_eq_true rfl⟩ ⟨Nat.zero_le _, Nat.zero_le _⟩ hK hj hw hA hS hl.1 (Nat.le_of_ble_eq_true rfl) dX7_looks_63 h (fun s10 H locs h hw hS => ?_)
          refine lv_aload_n hx hb dX7_looks_66 rfl (lv_at hl 0 rfl) ?_
          refine zget hx hb hts inX7 hown hK hw 0 (by decide) rfl rfl 5 (by decide) lk0 (fun _ h9 => h9) rfl dX7_looks_67 ?_
          refine lv_iconst (v := (jI (-1))) hx hb dX7_looks_70 rfl ?_
          refine lv_icmp_ne (tgt := 78) hx hb dX7_looks_71 (by decide) (fun c9 => ?_) (fun c9 => ?_)
          · have h := h.2 c9
            exact W.vret hx hb hr (fun t ht hW => ⟨⟨_, rfl, h, zend hw ht⟩, hS.F ht⟩) hS.2.2 dX7_looks_78
          · have h := h.1 c9
            refine lv_aload_n hx hb dX7_looks_74 rfl (lv_at hl 0 rfl) ?_
            refine k_X7_looksAtStreet (rest := []) hx hb hml hown hts gX7_looks_X7_looksAtStreet ⟨Nat.le_of_ble_eq_true rfl, Nat.le_of_ble_eq_true rfl⟩ ⟨Nat.zero_le _, Nat.zero_le _⟩ hK hj hw hA hS hl.1 (Nat.le_of_ble_eq_true rfl) dX7_looks_75 h (fun s11 H locs h hw hS => ?_)
            exact W.vret hx hb hr (fun t ht hW => ⟨⟨_, rfl, h, zend hw ht⟩, hS.F ht⟩) hS.2.2 dX7_looks_78
    · have h := h.1 c2
      refine lv_aload_n hx hb dX7_looks_35 rfl (lv_at hl 0 rfl) ?_
      refine lv_iload_n hx hb dX7_looks_36 rfl (lv_at hl 1 rfl) ?_
      refine k_X7_looksAtGaps (rest := []) hx hb hml hown hts gX7_looks_X7_looksAtGaps ⟨Nat.le_of_ble_eq_true rfl, Nat.le_of_ble_eq_true rfl⟩ ⟨Nat.zero_le _, Nat.zero_le _⟩ hK hj hw hA hS hl.1 (Nat.le_of_ble_eq_true rfl) dX7_looks_37 h (fun s12 H locs h hw hS => ?_)
      refine lv_aload_n hx hb dX7_looks_40 rfl (lv_at hl 0 rfl) ?_
      refine zget hx hb hts inX7 hown hK hw 0 (by decide) rfl rfl 5 (by decide) lk0 (fun _ h9 => h9) rfl dX7_looks_41 ?_
      refine lv_iconst (v := (jI (-1))) hx hb dX7_looks_44 rfl ?_
      refine lv_icmp_ne (tgt := 53) hx hb dX7_looks_45 (by decide) (fun c10 => ?_) (fun c10 => ?_)
      · have h := h.2 c10
        refine lv_aload_n hx hb dX7_looks_53 rfl (lv_at hl 0 rfl) ?_
        refine zget hx hb hts inX7 hown hK hw 0 (by decide) rfl rfl 5 (by decide) lk0 (fun _ h9 => h9) rfl dX7_looks_54 ?_
        refine lv_iconst (v := (jI (-1))) hx hb dX7_looks_57 rfl ?_
        refine lv_icmp_ne (tgt := 66) hx hb dX7_looks_58 (by decide) (fun c11 => ?_) (fun c11 => ?_)
        · have h := h.2 c11
          refine lv_aload_n hx hb dX7_looks_66 rfl (lv_at hl 0 rfl) ?_
          refine zget hx hb hts inX7 hown hK hw 0 (by decide) rfl rfl 5 (by decide) lk0 (fun _ h9 => h9) rfl dX7_looks_67 ?_
          refine lv_iconst (v := (jI (-1))) hx hb dX7_looks_70 rfl ?_
          refine lv_icmp_ne (tgt := 78) hx hb dX7_looks_71 (by decide) (fun c12 => ?_) (fun c12 => ?_)
          · have h := h.2 c12
            exact W.vret hx hb hr (fun t ht hW => ⟨⟨_, rfl, h, zend hw ht⟩, hS.F ht⟩) hS.2.2 dX7_looks_78
          · have h := h.1 c12
            refine lv_aload_n hx hb dX7_looks_74 rfl (lv_at hl 0 rfl) ?_
            refine k_X7_looksAtStreet (rest := []) hx hb hml hown hts gX7_looks_X7_looksAtStreet ⟨Nat.le_of_ble_eq_true rfl, Nat.le_of_ble_eq_true rfl⟩ ⟨Nat.zero_le _, Nat.zero_le _⟩ hK hj hw hA hS hl.1 (Nat.le_of_ble_eq_true rfl) dX7_looks_75 h (fun s13 H locs h hw hS => ?_)
            exact W.vret hx hb hr (fun t ht hW => ⟨⟨_, rfl, h, zend hw ht⟩, hS.F ht⟩) hS.2.2 dX7_looks_78
        · have h := h.1 c11
          refine lv_aload_n hx hb dX7_looks_61 rfl (lv_at hl 0 rfl) ?_
          refine lv_iload_n hx hb dX7_looks_62 rfl (lv_at hl 1 rfl) ?_
          refine k_X7_looksAtShelves (rest := []) hx hb hml hown hts gX7_looks_X7_looksAtShelves ⟨Nat.le_of_ble_eq_true rfl, Nat.le_of_ble_eq_true rfl⟩ ⟨Nat.zero_le _, Nat.zero_le _⟩ hK hj hw hA hS hl.1 (Nat.le_of_ble_eq_true rfl) dX7_looks_63 h (fun s14 H locs h hw hS => ?_)
          refine lv_aload_n hx hb dX7_looks_66 rfl (lv_at hl 0 rfl) ?_
          refine zget hx hb hts inX7 hown hK hw 0 (by decide) rfl rfl 5 (by decide) lk0 (fun _ h9 => h9) rfl dX7_looks_67 ?_
          refine lv_iconst (v := (jI (-1))) hx hb dX7_looks_70 rfl ?_
          refine lv_icmp_ne (tgt := 78) hx hb dX7_looks_71 (by decide) (fun c13 => ?_) (fun c13 => ?_)
          · have h := h.2 c13
            exact W.vret hx hb hr (fun t ht hW => ⟨⟨_, rfl, h, zend hw ht⟩, hS.F ht⟩) hS.2.2 dX7_looks_78
          · have h := h.1 c13
            refine lv_aload_n hx hb dX7_looks_74 rfl (lv_at hl 0 rfl) ?_
            refine k_X7_looksAtStreet (rest := []) hx hb hml hown hts gX7_looks_X7_looksAtStreet ⟨Nat.le_of_ble_eq_true rfl, Nat.le_of_ble_eq_true rfl⟩ ⟨Nat.zero_le _, Nat.zero_le _⟩ hK hj hw hA hS hl.1 (Nat.le_of_ble_eq_true rfl) dX7_looks_75 h (fun s15 H locs h hw hS => ?_)
            exact W.vret hx hb hr (fun t ht hW => ⟨⟨_, rfl, h, zend hw ht⟩, hS.F ht⟩) hS.2.2 dX7_looks_78
      · have h := h.1 c10
        refine lv_aload_n hx hb dX7_looks_48 rfl (lv_at hl 0 rfl) ?_
        refine lv_iload_n hx hb dX7_looks_49 rfl (lv_at hl 1 rfl) ?_
        refine k_X7_looksAtTrays (rest := []) hx hb hml hown hts gX7_looks_X7_looksAtTrays ⟨Nat.le_of_ble_eq_true rfl, Nat.le_of_ble_eq_true rfl⟩ ⟨Nat.zero_le _, Nat.zero_le _⟩ hK hj hw hA hS hl.1 (Nat.le_of_ble_eq_true rfl) dX7_looks_50 h (fun s16 H locs h hw hS => ?_)
        refine lv_aload_n hx hb dX7_looks_53 rfl (lv_at hl 0 rfl) ?_
        refine zget hx hb hts inX7 hown hK hw 0 (by decide) rfl rfl 5 (by decide) lk0 (fun _ h9 => h9) rfl dX7_looks_54 ?_
        refine lv_iconst (v := (jI (-1))) hx hb dX7_looks_57 rfl ?_
        refine lv_icmp_ne (tgt := 66) hx hb dX7_looks_58 (by decide) (fun c14 => ?_) (fun c14 => ?_)
        · have h := h.2 c14
          refine lv_aload_n hx hb dX7_looks_66 rfl (lv_at hl 0 rfl) ?_
          refine zget hx hb hts inX7 hown hK hw 0 (by decide) rfl rfl 5 (by decide) lk0 (fun _ h9 => h9) rfl dX7_looks_67 ?_
          refine lv_iconst (v := (jI (-1))) hx hb dX7_looks_70 rfl ?_
          refine lv_icmp_ne (tgt := 78) hx hb dX7_looks_71 (by decide) (fun c15 => ?_) (fun c15 => ?_)
          · have h := h.2 c15
            exact W.vret hx hb hr (fun t ht hW => ⟨⟨_, rfl, h, zend hw ht⟩, hS.F ht⟩) hS.2.2 dX7_looks_78
          · have h := h.1 c15
            refine lv_aload_n hx hb dX7_looks_74 rfl (lv_at hl 0 rfl) ?_
            refine k_X7_looksAtStreet (rest := []) hx hb hml hown hts gX7_looks_X7_looksAtStreet ⟨Nat.le_of_ble_eq_true rfl, Nat.le_of_ble_eq_true rfl⟩ ⟨Nat.zero_le _, Nat.zero_le _⟩ hK hj hw hA hS hl.1 (Nat.le_of_ble_eq_true rfl) dX7_looks_75 h (fun s17 H locs h hw hS => ?_)
            exact W.vret hx hb hr (fun t ht hW => ⟨⟨_, rfl, h, zend hw ht⟩, hS.F ht⟩) hS.2.2 dX7_looks_78
        · have h := h.1 c14
          refine lv_aload_n hx hb dX7_looks_61 rfl (lv_at hl 0 rfl) ?_
          refine lv_iload_n hx hb dX7_looks_62 rfl (lv_at hl 1 rfl) ?_
          refine k_X7_looksAtShelves (rest := []) hx hb hml hown hts gX7_looks_X7_looksAtShelves ⟨Nat.le_of_ble_eq_true rfl, Nat.le_of_ble_eq_true rfl⟩ ⟨Nat.zero_le _, Nat.zero_le _⟩ hK hj hw hA hS hl.1 (Nat.le_of_ble_eq_true rfl) dX7_looks_63 h (fun s18 H locs h hw hS => ?_)
          refine lv_aload_n hx hb dX7_looks_66 rfl (lv_at hl 0 rfl) ?_
          refine zget hx hb hts inX7 hown hK hw 0 (by decide) rfl rfl 5 (by decide) lk0 (fun _ h9 => h9) rfl dX7_looks_67 ?_
          refine lv_iconst (v := (jI (-1))) hx hb dX7_looks_70 rfl ?_
          refine lv_icmp_ne (tgt := 78) hx hb dX7_looks_71 (by decide) (fun c16 => ?_) (fun c16 => ?_)
          · have h := h.2 c16
            exact W.vret hx hb hr (fun t ht hW => ⟨⟨_, rfl, h, zend hw ht⟩, hS.F ht⟩) hS.2.2 dX7_looks_78
          · have h := h.1 c16
            refine lv_aload_n hx hb dX7_looks_74 rfl (lv_at hl 0 rfl) ?_
            refine k_X7_looksAtStreet (rest := []) hx hb hml hown hts gX7_looks_X7_looksAtStreet ⟨Nat.le_of_ble_eq_true rfl, Nat.le_of_ble_eq_true rfl⟩ ⟨Nat.zero_le _, Nat.zero_le _⟩ hK hj hw hA hS hl.1 (Nat.le_of_ble_eq_true rfl) dX7_looks_75 h (fun s19 H locs h hw hS => ?_)
            exact W.vret hx hb hr (fun t ht hW => ⟨⟨_, rfl, h, zend hw ht⟩, hS.F ht⟩) hS.2.2 dX7_looks_78
  · have h := h.2 c1
    refine lv_iconst (v := (jI 0)) hx hb dX7_looks_9 rfl ?_
    refine lv_goto (tgt := 14) hx hb dX7_looks_10 (by decide) ?_
    obtain ⟨s20, es20⟩ : ∃ y : ST, y = zsp s1 2 (jI 0) := ⟨_, rfl⟩
    have h := h s20 es20
    refine zput (ty := .int) hx hb hts inX7 tyX7 tyX7_ok nmX7 hown hK hj hw hA hS 0 (by decide) rfl rfl 5 (by decide) lk0 (fun _ h9 => h9) rfl (by decide +kernel) rfl rfl (Nat.le_of_ble_eq_true rfl) dX7_looks_14 (zme cy ad s20) (by rw [es20]; rfl) (fun j hj9 => by rw [es20]; exact zsp_off_M_2 j hj9) (fun H locs hw hS => ?_)
    refine lv_aload_n hx hb dX7_looks_17 rfl (lv_at hl 0 rfl) ?_
    refine lv_iconst (v := (jI (-1))) hx hb dX7_looks_18 rfl ?_
    obtain ⟨s21, es21⟩ : ∃ y : ST, y = zsp s20 6 (jI (-1)) := ⟨_, rfl⟩
    have h := h s21 es21
    refine zput (ty := .int) hx hb hts inX7 tyX7 tyX7_ok nmX7 hown hK hj hw hA hS 0 (by decide) rfl rfl 9 (by decide) lk1 (fun _ h9 => h9) rfl (by decide +kernel) rfl rfl (Nat.le_of_ble_eq_true rfl) dX7_looks_19 (zme cy ad s21) (by rw [es21]; rfl) (fun j hj9 => by rw [es21]; exact zsp_off_M_6 j hj9) (fun H locs hw hS => ?_)
    refine lv_aload_n hx hb dX7_looks_22 rfl (lv_at hl 0 rfl) ?_
    refine lv_iconst (v := (jI 0)) hx hb dX7_looks_23 rfl ?_
    obtain ⟨s22, es22⟩ : ∃ y : ST, y = zsp s21 7 (jI 0) := ⟨_, rfl⟩
    have h := h s22 es22
    refine zput (ty := .int) hx hb hts inX7 tyX7 tyX7_ok nmX7 hown hK hj hw hA hS 0 (by decide) rfl rfl 10 (by decide) lk2 (fun _ h9 => h9) rfl (by decide +kernel) rfl rfl (Nat.le_of_ble_eq_true rfl) dX7_looks_24 (zme cy ad s22) (by rw [es22]; rfl) (fun j hj9 => by rw [es22]; exact zsp_off_M_7 j hj9) (fun H locs hw hS => ?_)
    refine lv_aload_n hx hb dX7_looks_27 rfl (lv_at hl 0 rfl) ?_
    refine zget hx hb hts inX7 hown hK hw 0 (by decide) rfl rfl 5 (by decide) lk0 (fun _ h9 => h9) rfl dX7_looks_28 ?_
    refine lv_iconst (v := (jI (-1))) hx hb dX7_looks_31 rfl ?_
    refine lv_icmp_ne (tgt := 40) hx hb dX7_looks_32 (by decide) (fun c17 => ?_) (fun c17 => ?_)
    · have h := h.2 c17
      refine lv_aload_n hx hb dX7_looks_40 rfl (lv_at hl 0 rfl) ?_
      refine zget hx hb hts inX7 hown hK hw 0 (by decide) rfl rfl 5 (by decide) lk0 (fun _ h9 => h9) rfl dX7_looks_41 ?_
      refine lv_iconst (v := (jI (-1))) hx hb dX7_looks_44 rfl ?_
      refine lv_icmp_ne (tgt := 53) hx hb dX7_looks_45 (by decide) (fun c18 => ?_) (fun c18 => ?_)
      · have h := h.2 c18
        refine lv_aload_n hx hb dX7_looks_53 rfl (lv_at hl 0 rfl) ?_
        refine zget hx hb hts inX7 hown hK hw 0 (by decide) rfl rfl 5 (by decide) lk0 (fun _ h9 => h9) rfl dX7_looks_54 ?_
        refine lv_iconst (v := (jI (-1))) hx hb dX7_looks_57 rfl ?_
        refine lv_icmp_ne (tgt := 66) hx hb dX7_looks_58 (by decide) (fun c19 => ?_) (fun c19 => ?_)
        · have h := h.2 c19
          refine lv_aload_n hx hb dX7_looks_66 rfl (lv_at hl 0 rfl) ?_
          refine zget hx hb hts inX7 hown hK hw 0 (by decide) rfl rfl 5 (by decide) lk0 (fun _ h9 => h9) rfl dX7_looks_67 ?_
          refine lv_iconst (v := (jI (-1))) hx hb dX7_looks_70 rfl ?_
          refine lv_icmp_ne (tgt := 78) hx hb dX7_looks_71 (by decide) (fun c20 => ?_) (fun c20 => ?_)
          · have h := h.2 c20
            exact W.vret hx hb hr (fun t ht hW => ⟨⟨_, rfl, h, zend hw ht⟩, hS.F ht⟩) hS.2.2 dX7_looks_78
          · have h := h.1 c20
            refine lv_aload_n hx hb dX7_looks_74 rfl (lv_at hl 0 rfl) ?_
            refine k_X7_looksAtStreet (rest := []) hx hb hml hown hts gX7_looks_X7_looksAtStreet ⟨Nat.le_of_ble_eq_true rfl, Nat.le_of_ble_eq_true rfl⟩ ⟨Nat.zero_le _, Nat.zero_le _⟩ hK hj hw hA hS hl.1 (Nat.le_of_ble_eq_true rfl) dX7_looks_75 h (fun s23 H locs h hw hS => ?_)
            exact W.vret hx hb hr (fun t ht hW => ⟨⟨_, rfl, h, zend hw ht⟩, hS.F ht⟩) hS.2.2 dX7_looks_78
        · have h := h.1 c19
          refine lv_aload_n hx hb dX7_looks_61 rfl (lv_at hl 0 rfl) ?_
          refine lv_iload_n hx hb dX7_looks_62 rfl (lv_at hl 1 rfl) ?_
          refine k_X7_looksAtShelves (rest := []) hx hb hml hown hts gX7_looks_X7_looksAtShelves ⟨Nat.le_of_ble_eq_true rfl, Nat.le_of_ble_eq_true rfl⟩ ⟨Nat.zero_le _, Nat.zero_le _⟩ hK hj hw hA hS hl.1 (Nat.le_of_ble_eq_true rfl) dX7_looks_63 h (fun s24 H locs h hw hS => ?_)
          refine lv_aload_n hx hb dX7_looks_66 rfl (lv_at hl 0 rfl) ?_
          refine zget hx hb hts inX7 hown hK hw 0 (by decide) rfl rfl 5 (by decide) lk0 (fun _ h9 => h9) rfl dX7_looks_67 ?_
          refine lv_iconst (v := (jI (-1))) hx hb dX7_looks_70 rfl ?_
          refine lv_icmp_ne (tgt := 78) hx hb dX7_looks_71 (by decide) (fun c21 => ?_) (fun c21 => ?_)
          · have h := h.2 c21
            exact W.vret hx hb hr (fun t ht hW => ⟨⟨_, rfl, h, zend hw ht⟩, hS.F ht⟩) hS.2.2 dX7_looks_78
          · have h := h.1 c21
            refine lv_aload_n hx hb dX7_looks_74 rfl (lv_at hl 0 rfl) ?_
            refine k_X7_looksAtStreet (rest := []) hx hb hml hown hts gX7_looks_X7_looksAtStreet ⟨Nat.le_of_ble_eq_true rfl, Nat.le_of_ble_eq_true rfl⟩ ⟨Nat.zero_le _, Nat.zero_le _⟩ hK hj hw hA hS hl.1 (Nat.le_of_ble_eq_true rfl) dX7_looks_75 h (fun s25 H locs h hw hS => ?_)
            exact W.vret hx hb hr (fun t ht hW => ⟨⟨_, rfl, h, zend hw ht⟩, hS.F ht⟩) hS.2.2 dX7_looks_78
      · have h := h.1 c18
        refine lv_aload_n hx hb dX7_looks_48 rfl (lv_at hl 0 rfl) ?_
        refine lv_iload_n hx hb dX7_looks_49 rfl (lv_at hl 1 rfl) ?_
        refine k_X7_looksAtTrays (rest := []) hx hb hml hown hts gX7_looks_X7_looksAtTrays ⟨Nat.le_of_ble_eq_true rfl, Nat.le_of_ble_eq_true rfl⟩ ⟨Nat.zero_le _, Nat.zero_le _⟩ hK hj hw hA hS hl.1 (Nat.le_of_ble_eq_true rfl) dX7_looks_50 h (fun s26 H locs h hw hS => ?_)
        refine lv_aload_n hx hb dX7_looks_53 rfl (lv_at hl 0 rfl) ?_
        refine zget hx hb hts inX7 hown hK hw 0 (by decide) rfl rfl 5 (by decide) lk0 (fun _ h9 => h9) rfl dX7_looks_54 ?_
        refine lv_iconst (v := (jI (-1))) hx hb dX7_looks_57 rfl ?_
        refine lv_icmp_ne (tgt := 66) hx hb dX7_looks_58 (by decide) (fun c22 => ?_) (fun c22 => ?_)
        · have h := h.2 c22
          refine lv_aload_n hx hb dX7_looks_66 rfl (lv_at hl 0 rfl) ?_
          refine zget hx hb hts inX7 hown hK hw 0 (by decide) rfl rfl 5 (by decide) lk0 (fun _ h9 => h9) rfl dX7_looks_67 ?_
          refine lv_iconst (v := (jI (-1))) hx hb dX7_looks_70 rfl ?_
          refine lv_icmp_ne (tgt := 78) hx hb dX7_looks_71 (by decide) (fun c23 => ?_) (fun c23 => ?_)
          · have h := h.2 c23
            exact W.vret hx hb hr (fun t ht hW => ⟨⟨_, rfl, h, zend hw ht⟩, hS.F ht⟩) hS.2.2 dX7_looks_78
          · have h := h.1 c23
            refine lv_aload_n hx hb dX7_looks_74 rfl (lv_at hl 0 rfl) ?_
            refine k_X7_looksAtStreet (rest := []) hx hb hml hown hts gX7_looks_X7_looksAtStreet ⟨Nat.le_of_ble_eq_true rfl, Nat.le_of_ble_eq_true rfl⟩ ⟨Nat.zero_le _, Nat.zero_le _⟩ hK hj hw hA hS hl.1 (Nat.le_of_ble_eq_true rfl) dX7_looks_75 h (fun s27 H locs h hw hS => ?_)
            exact W.vret hx hb hr (fun t ht hW => ⟨⟨_, rfl, h, zend hw ht⟩, hS.F ht⟩) hS.2.2 dX7_looks_78
        · have h := h.1 c22
          refine lv_aload_n hx hb dX7_looks_61 rfl (lv_at hl 0 rfl) ?_
          refine lv_iload_n hx hb dX7_looks_62 rfl (lv_at hl 1 rfl) ?_
          refine k_X7_looksAtShelves (rest := []) hx hb hml hown hts gX7_looks_X7_looksAtShelves ⟨Nat.le_of_ble_eq_true rfl, Nat.le_of_ble_eq_true rfl⟩ ⟨Nat.zero_le _, Nat.zero_le _⟩ hK hj hw hA hS hl.1 (Nat.le_of_ble_eq_true rfl) dX7_looks_63 h (fun s28 H locs h hw hS => ?_)
          refine lv_aload_n hx hb dX7_looks_66 rfl (lv_at hl 0 rfl) ?_
          refine zget hx hb hts inX7 hown hK hw 0 (by decide) rfl rfl 5 (by decide) lk0 (fun _ h9 => h9) rfl dX7_looks_67 ?_
          refine lv_iconst (v := (jI (-1))) hx hb dX7_looks_70 rfl ?_
          refine lv_icmp_ne (tgt := 78) hx hb dX7_looks_71 (by decide) (fun c24 => ?_) (fun c24 => ?_)
          · have h := h.2 c24
            exact W.vret hx hb hr (fun t ht hW => ⟨⟨_, rfl, h, zend hw ht⟩, hS.F ht⟩) hS.2.2 dX7_looks_78
          · have h := h.1 c24
            refine lv_aload_n hx hb dX7_looks_74 rfl (lv_at hl 0 rfl) ?_
            refine k_X7_looksAtStreet (rest := []) hx hb hml hown hts gX7_looks_X7_looksAtStreet ⟨Nat.le_of_ble_eq_true rfl, Nat.le_of_ble_eq_true rfl⟩ ⟨Nat.zero_le _, Nat.zero_le _⟩ hK hj hw hA hS hl.1 (Nat.le_of_ble_eq_true rfl) dX7_looks_75 h (fun s29 H locs h hw hS => ?_)
            exact W.vret hx hb hr (fun t ht hW => ⟨⟨_, rfl, h, zend hw ht⟩, hS.F ht⟩) hS.2.2 dX7_looks_78
    · have h := h.1 c17
      refine lv_aload_n hx hb dX7_looks_35 rfl (lv_at hl 0 rfl) ?_
      refine lv_iload_n hx hb dX7_looks_36 rfl (lv_at hl 1 rfl) ?_
      refine k_X7_looksAtGaps (rest := []) hx hb hml hown hts gX7_looks_X7_looksAtGaps ⟨Nat.le_of_ble_eq_true rfl, Nat.le_of_ble_eq_true rfl⟩ ⟨Nat.zero_le _, Nat.zero_le _⟩ hK hj hw hA hS hl.1 (Nat.le_of_ble_eq_true rfl) dX7_looks_37 h (fun s30 H locs h hw hS => ?_)
      refine lv_aload_n hx hb dX7_looks_40 rfl (lv_at hl 0 rfl) ?_
      refine zget hx hb hts inX7 hown hK hw 0 (by decide) rfl rfl 5 (by decide) lk0 (fun _ h9 => h9) rfl dX7_looks_41 ?_
      refine lv_iconst (v := (jI (-1))) hx hb dX7_looks_44 rfl ?_
      refine lv_icmp_ne (tgt := 53) hx hb dX7_looks_45 (by decide) (fun c25 => ?_) (fun c25 => ?_)
      · have h := h.2 c25
        refine lv_aload_n hx hb dX7_looks_53 rfl (lv_at hl 0 rfl) ?_
        refine zget hx hb hts inX7 hown hK hw 0 (by decide) rfl rfl 5 (by decide) lk0 (fun _ h9 => h9) rfl dX7_looks_54 ?_
        refine lv_iconst (v := (jI (-1))) hx hb dX7_looks_57 rfl ?_
        refine lv_icmp_ne (tgt := 66) hx hb dX7_looks_58 (by decide) (fun c26 => ?_) (fun c26 => ?_)
        · have h := h.2 c26
          refine lv_aload_n hx hb dX7_looks_66 rfl (lv_at hl 0 rfl) ?_
          refine zget hx hb hts inX7 hown hK hw 0 (by decide) rfl rfl 5 (by decide) lk0 (fun _ h9 => h9) rfl dX7_looks_67 ?_
          refine lv_iconst (v := (jI (-1))) hx hb dX7_looks_70 rfl ?_
          refine lv_icmp_ne (tgt := 78) hx hb dX7_looks_71 (by decide) (fun c27 => ?_) (fun c27 => ?_)
          · have h := h.2 c27
            exact W.vret hx hb hr (fun t ht hW => ⟨⟨_, rfl, h, zend hw ht⟩, hS.F ht⟩) hS.2.2 dX7_looks_78
          · have h := h.1 c27
            refine lv_aload_n hx hb dX7_looks_74 rfl (lv_at hl 0 rfl) ?_
            refine k_X7_looksAtStreet (rest := []) hx hb hml hown hts gX7_looks_X7_looksAtStreet ⟨Nat.le_of_ble_eq_true rfl, Nat.le_of_ble_eq_true rfl⟩ ⟨Nat.zero_le _, Nat.zero_le _⟩ hK hj hw hA hS hl.1 (Nat.le_of_ble_eq_true rfl) dX7_looks_75 h (fun s31 H locs h hw hS => ?_)
            exact W.vret hx hb hr (fun t ht hW => ⟨⟨_, rfl, h, zend hw ht⟩, hS.F ht⟩) hS.2.2 dX7_looks_78
        · have h := h.1 c26
          refine lv_aload_n hx hb dX7_looks_61 rfl (lv_at hl 0 rfl) ?_
          refine lv_iload_n hx hb dX7_looks_62 rfl (lv_at hl 1 rfl) ?_
          refine k_X7_looksAtShelves (rest := []) hx hb hml hown hts gX7_looks_X7_looksAtShelves ⟨Nat.le_of_ble_eq_true rfl, Nat.le_of_ble_eq_true rfl⟩ ⟨Nat.zero_le _, Nat.zero_le _⟩ hK hj hw hA hS hl.1 (Nat.le_of_ble_eq_true rfl) dX7_looks_63 h (fun s32 H locs h hw hS => ?_)
          refine lv_aload_n hx hb dX7_looks_66 rfl (lv_at hl 0 rfl) ?_
          refine zget hx hb hts inX7 hown hK hw 0 (by decide) rfl rfl 5 (by decide) lk0 (fun _ h9 => h9) rfl dX7_looks_67 ?_
          refine lv_iconst (v := (jI (-1))) hx hb dX7_looks_70 rfl ?_
          refine lv_icmp_ne (tgt := 78) hx hb dX7_looks_71 (by decide) (fun c28 => ?_) (fun c28 => ?_)
          · have h := h.2 c28
            exact W.vret hx hb hr (fun t ht hW => ⟨⟨_, rfl, h, zend hw ht⟩, hS.F ht⟩) hS.2.2 dX7_looks_78
          · have h := h.1 c28
            refine lv_aload_n hx hb dX7_looks_74 rfl (lv_at hl 0 rfl) ?_
            refine k_X7_looksAtStreet (rest := []) hx hb hml hown hts gX7_looks_X7_looksAtStreet ⟨Nat.le_of_ble_eq_true rfl, Nat.le_of_ble_eq_true rfl⟩ ⟨Nat.zero_le _, Nat.zero_le _⟩ hK hj hw hA hS hl.1 (Nat.le_of_ble_eq_true rfl) dX7_looks_75 h (fun s33 H locs h hw hS => ?_)
            exact W.vret hx hb hr (fun t ht hW => ⟨⟨_, rfl, h, zend hw ht⟩, hS.F ht⟩) hS.2.2 dX7_looks_78
      · have h := h.1 c25
        refine lv_aload_n hx hb dX7_looks_48 rfl (lv_at hl 0 rfl) ?_
        refine lv_iload_n hx hb dX7_looks_49 rfl (lv_at hl 1 rfl) ?_
        refine k_X7_looksAtTrays (rest := []) hx hb hml hown hts gX7_looks_X7_looksAtTrays ⟨Nat.le_of_ble_eq_true rfl, Nat.le_of_ble_eq_true rfl⟩ ⟨Nat.zero_le _, Nat.zero_le _⟩ hK hj hw hA hS hl.1 (Nat.le_of_ble_eq_true rfl) dX7_looks_50 h (fun s34 H locs h hw hS => ?_)
        refine lv_aload_n hx hb dX7_looks_53 rfl (lv_at hl 0 rfl) ?_
        refine zget hx hb hts inX7 hown hK hw 0 (by decide) rfl rfl 5 (by decide) lk0 (fun _ h9 => h9) rfl dX7_looks_54 ?_
        refine lv_iconst (v := (jI (-1))) hx hb dX7_looks_57 rfl ?_
        refine lv_icmp_ne (tgt := 66) hx hb dX7_looks_58 (by decide) (fun c29 => ?_) (fun c29 => ?_)
        · have h := h.2 c29
          refine lv_aload_n hx hb dX7_looks_66 rfl (lv_at hl 0 rfl) ?_
          refine zget hx hb hts inX7 hown hK hw 0 (by decide) rfl rfl 5 (by decide) lk0 (fun _ h9 => h9) rfl dX7_looks_67 ?_
          refine lv_iconst (v := (jI (-1))) hx hb dX7_looks_70 rfl ?_
          refine lv_icmp_ne (tgt := 78) hx hb dX7_looks_71 (by decide) (fun c30 => ?_) (fun c30 => ?_)
          · have h := h.2 c30
            exact W.vret hx hb hr (fun t ht hW => ⟨⟨_, rfl, h, zend hw ht⟩, hS.F ht⟩) hS.2.2 dX7_looks_78
          · have h := h.1 c30
            refine lv_aload_n hx hb dX7_looks_74 rfl (lv_at hl 0 rfl) ?_
            refine k_X7_looksAtStreet (rest := []) hx hb hml hown hts gX7_looks_X7_looksAtStreet ⟨Nat.le_of_ble_eq_true rfl, Nat.le_of_ble_eq_true rfl⟩ ⟨Nat.zero_le _, Nat.zero_le _⟩ hK hj hw hA hS hl.1 (Nat.le_of_ble_eq_true rfl) dX7_looks_75 h (fun s35 H locs h hw hS => ?_)
            exact W.vret hx hb hr (fun t ht hW => ⟨⟨_, rfl, h, zend hw ht⟩, hS.F ht⟩) hS.2.2 dX7_looks_78
        · have h := h.1 c29
          refine lv_aload_n hx hb dX7_looks_61 rfl (lv_at hl 0 rfl) ?_
          refine lv_iload_n hx hb dX7_looks_62 rfl (lv_at hl 1 rfl) ?_
          refine k_X7_looksAtShelves (rest := []) hx hb hml hown hts gX7_looks_X7_looksAtShelves ⟨Nat.le_of_ble_eq_true rfl, Nat.le_of_ble_eq_true rfl⟩ ⟨Nat.zero_le _, Nat.zero_le _⟩ hK hj hw hA hS hl.1 (Nat.le_of_ble_eq_true rfl) dX7_looks_63 h (fun s36 H locs h hw hS => ?_)
          refine lv_aload_n hx hb dX7_looks_66 rfl (lv_at hl 0 rfl) ?_
          refine zget hx hb hts inX7 hown hK hw 0 (by decide) rfl rfl 5 (by decide) lk0 (fun _ h9 => h9) rfl dX7_looks_67 ?_
          refine lv_iconst (v := (jI (-1))) hx hb dX7_looks_70 rfl ?_
          refine lv_icmp_ne (tgt := 78) hx hb dX7_looks_71 (by decide) (fun c31 => ?_) (fun c31 => ?_)
          · have h := h.2 c31
            exact W.vret hx hb hr (fun t ht hW => ⟨⟨_, rfl, h, zend hw ht⟩, hS.F ht⟩) hS.2.2 dX7_looks_78
          · have h := h.1 c31
            refine lv_aload_n hx hb dX7_looks_74 rfl (lv_at hl 0 rfl) ?_
            refine k_X7_looksAtStreet (rest := []) hx hb hml hown hts gX7_looks_X7_looksAtStreet ⟨Nat.le_of_ble_eq_true rfl, Nat.le_of_ble_eq_true rfl⟩ ⟨Nat.zero_le _, Nat.zero_le _⟩ hK hj hw hA hS hl.1 (Nat.le_of_ble_eq_true rfl) dX7_looks_75 h (fun s37 H locs h hw hS => ?_)
            exact W.vret hx hb hr (fun t ht hW => ⟨⟨_, rfl, h, zend hw ht⟩, hS.F ht⟩) hS.2.2 dX7_looks_78
theorem k_X7_looks {p : Program} {l : Launch} {e : Env} {R : Room} {s : State} {m : MethodId} {args : Array Value} {below : List Frame} {meth : Method} {c : Code} {H : Heap} {locs : List Loc} {cells slots : Nat} {QQ : State → Prop} {cc : ByteArray} {pc nL index : Nat} {ls : Array Slot} {rest : List Value} {D : va_G} {cy : cyT} {ad : Nat → Nat} {own : String} {Ts : List Cond} {H0 : Heap} {σ : ST} {p0 : Int32} {Q : ST → Prop} (hx : p.tables.exec = Jvm.exec) (hb : c.code = cc) (hml : c.maxLocals = nL) (hown : s.vm.findClass own = some m.cls) (hts : ∀ w ∈ Ts, w.before args s = true) (hG : GoodIn Ts (wsV own index RX7 yX7_looks wsX7_looks)) (hR : 5 + 1 ≤ R.frames ∧ 8 + (2 + 11) + 114 ≤ R.locals) (hcs : cells ≤ R.cells ∧ slots ≤ R.slots) (hK : zK D cy s) (hj : zI 6 ad) (hw : zW D 6 (zme cy ad σ) ad H) {A0 : Nat → Prop} (hA : ∀ i, i < 6 → A0 (ad i)) (hS : va_S A0 H0 H locs) (hsz : ls.size = nL) (hrest : (rest.map fun v => v.category).sum ≤ 8) (hdg : decode cc pc = .ok (.invokevirtual index, 3)) (h : wp_X7_looks σ p0 Q) (kk : ∀ (σ : ST) (H : Heap) (locs : List Loc), Q σ → zW D 6 (zme cy ad σ) ad H → va_S A0 H0 H locs → W p l e R s m args below meth c H locs cells slots QQ (F0 m (pc + 3) ls rest)) : W p l e R s m args below meth c H locs cells slots QQ (F0 m pc ls (.int p0 :: .ref (ad 0) :: rest)) :=
  zcallv (va_runV (As := [.int p0]) (rest := rest) ⟨hx, hb, hml, hown, hts⟩ (c_X7_looks l D cy ad σ p0 h) (cwV 1 hts hG rfl rfl rfl (by decide +kernel) hR) (zpreV hj hK hw _ (i := 0) (ci := 6) (by decide) rfl rfl) rfl rfl hsz rfl (lv_room hrest) hdg hcs) hA hS kk
set_option maxHeartbeats 4000000 in
set_option maxRecDepth 100000 in
theorem c_X7_inks (l : Launch) (D : va_G) (cy : cyT) (ad : Nat → Nat) (σ : ST) (p0 : Int32) {Q : Int32 → ST → Prop} (h : wp_X7_inks σ p0 Q) : Met l yX7_inks wsX7_inks ({ frames := 2, cells := 0, slots := 0, locals := 43 } : Room) (zPre D cy 6 (zme cy ad σ) ad [.ref (ad 0), .int p0]) (va_Qi Q (zB D 6 (zme cy ad) ad) (zA 6 ad)) 0 0 (zA 6 ad) := by
  refine Met.ofW (cc := cX7_inks) (maxL := 3) (ret := (some .int)) (by decide) rfl ?_
  intro p e s m args below meth c s₁ B hml hv
  obtain ⟨rfl, hj, hK, hw⟩ := hv
  have hx := B.exec
  have hb := B.bytes
  have hr := B.returns
  have hts := atoms_spec (ws := wsX7_inks) B.pre
  have hown : s.vm.findClass RX7 = some m.cls := findClass_of_methodNamed B.named
  have hlocks := B.notSynchronized
  have hS : va_S (zA 6 ad) s.heap s.heap [] := va_S.rf
  have hA : ∀ i, i < 6 → zA 6 ad (ad i) := fun i hi => ⟨i, hi, rfl⟩
  have hl := lv_entry ([.ref (ad 0), .int p0]) (n := 3) (Nat.le_of_ble_eq_true rfl)
  rw [lg_entry_eq]
  generalize (lg_sl ([.ref (ad 0), .int p0]) ++ List.replicate (3 - (lg_sl ([.ref (ad 0), .int p0])).length) Slot.unset).toArray = ls at hl ⊢
  have hl : lv_has ls 3 [(0, .ref (ad 0)), (1, .int p0)] := hl
  show W p l e ({ frames := 2, cells := 0, slots := 0, locals := 43 } : Room) s m ([.ref (ad 0), .int p0] : List Value).toArray below meth c s.heap [] 0 0 (MQ below (va_Qi Q (zB D 6 (zme cy ad) ad) (zA 6 ad)) ([.ref (ad 0), .int p0] : List Value).toArray s 0 0 (zA 6 ad)) (F0 m 0 ls [])
  unfold wp_X7_inks at h
  refine lv_iload_n hx hb dX7_inks_0 rfl (lv_at hl 1 rfl) ?_
  refine lv_iconst (v := (jI 3)) hx hb dX7_inks_1 rfl ?_
  refine lv_irem hx hb dX7_inks_2 (by decide +kernel) ?_
  refine zif_le (tgt := 22) hx hb dX7_inks_3 (by decide) (fun c1 => ?_) (fun c1 => ?_)
  · have h := h.1 c1
    refine lv_iconst (v := (jI 0)) hx hb dX7_inks_22 rfl ?_
    refine lv_istore_n (lv' := [(2, .int (jI 0)), (0, .ref (ad 0)), (1, .int p0)]) hx hb dX7_inks_23 rfl hl (by decide) rfl (fun ls hl => ?_)
    refine lv_iload_n hx hb dX7_inks_24 rfl (lv_at hl 0 rfl) ?_
    refine zif_eq (tgt := 38) hx hb dX7_inks_25 (by decide) (fun c2 => ?_) (fun c2 => absurd c2 (by decide +kernel))
    refine lv_aload_n hx hb dX7_inks_38 rfl (lv_at hl 1 rfl) ?_
    refine lv_iload_n hx hb dX7_inks_39 rfl (lv_at hl 2 rfl) ?_
    refine k_X7_areaOf (rest := []) hx hb hml hown hts gX7_inks_X7_areaOf ⟨Nat.le_of_ble_eq_true rfl, Nat.le_of_ble_eq_true rfl⟩ ⟨Nat.zero_le _, Nat.zero_le _⟩ hK hj hw hA hS hl.1 (Nat.le_of_ble_eq_true rfl) dX7_inks_40 h (fun r1 s1 H locs h hw hS => ?_)
    exact W.iret (v := r1) hx hb hr (fun t ht hW => ⟨⟨_, _, rfl, h, zend hw ht⟩, hS.F ht⟩) hS.2.2 dX7_inks_43
  · have h := h.2 c1
    refine lv_aload_n hx hb dX7_inks_6 rfl (lv_at hl 0 rfl) ?_
    refine lv_iload_n hx hb dX7_inks_7 rfl (lv_at hl 1 rfl) ?_
    refine lv_iload_n hx hb dX7_inks_8 rfl (lv_at hl 1 rfl) ?_
    refine lv_iconst (v := (jI 3)) hx hb dX7_inks_9 rfl ?_
    refine lv_irem hx hb dX7_inks_10 (by decide +kernel) ?_
    refine lv_isub hx hb dX7_inks_11 ?_
    refine k_X7_is (rest := []) hx hb hml hown hts gX7_inks_X7_is ⟨Nat.le_of_ble_eq_true rfl, Nat.le_of_ble_eq_true rfl⟩ ⟨Nat.zero_le _, Nat.zero_le _⟩ hK hj hw hA hS hl.1 (Nat.le_of_ble_eq_true rfl) dX7_inks_12 h (fun r2 s2 H locs h hw hS => ?_)
    refine zif_eq (tgt := 22) hx hb dX7_inks_15 (by decide) (fun c3 => ?_) (fun c3 => ?_)
    · have h := h.1 c3
      refine lv_iconst (v := (jI 0)) hx hb dX7_inks_22 rfl ?_
      refine lv_istore_n (lv' := [(2, .int (jI 0)), (0, .ref (ad 0)), (1, .int p0)]) hx hb dX7_inks_23 rfl hl (by decide) rfl (fun ls hl => ?_)
      refine lv_iload_n hx hb dX7_inks_24 rfl (lv_at hl 0 rfl) ?_
      refine zif_eq (tgt := 38) hx hb dX7_inks_25 (by decide) (fun c4 => ?_) (fun c4 => absurd c4 (by decide +kernel))
      refine lv_aload_n hx hb dX7_inks_38 rfl (lv_at hl 1 rfl) ?_
      refine lv_iload_n hx hb dX7_inks_39 rfl (lv_at hl 2 rfl) ?_
      refine k_X7_areaOf (rest := []) hx hb hml hown hts gX7_inks_X7_areaOf ⟨Nat.le_of_ble_eq_true rfl, Nat.le_of_ble_eq_true rfl⟩ ⟨Nat.zero_le _, Nat.zero_le _⟩ hK hj hw hA hS hl.1 (Nat.le_of_ble_eq_true rfl) dX7_inks_40 h (fun r3 s3 H locs h hw hS => ?_)
      exact W.iret (v := r3) hx hb hr (fun t ht hW => ⟨⟨_, _, rfl, h, zend hw ht⟩, hS.F ht⟩) hS.2.2 dX7_inks_43
    · have h := h.2 c3
      refine lv_iconst (v := (jI 1)) hx hb dX7_inks_18 rfl ?_
      refine lv_goto (tgt := 23) hx hb dX7_inks_19 (by decide) ?_
      refine lv_istore_n (lv' := [(2, .int (jI 1)), (0, .ref (ad 0)), (1, .int p0)]) hx hb dX7_inks_23 rfl hl (by decide) rfl (fun ls hl => ?_)
      refine lv_iload_n hx hb dX7_inks_24 rfl (lv_at hl 0 rfl) ?_
      refine zif_eq (tgt := 38) hx hb dX7_inks_25 (by decide) (fun c5 => absurd c5 (by decide +kernel)) (fun c5 => ?_)
      refine lv_aload_n hx hb dX7_inks_28 rfl (lv_at hl 1 rfl) ?_
      refine lv_iload_n hx hb dX7_inks_29 rfl (lv_at hl 2 rfl) ?_
      refine k_X7_areaOf (rest := []) hx hb hml hown hts gX7_inks_X7_areaOf ⟨Nat.le_of_ble_eq_true rfl, Nat.le_of_ble_eq_true rfl⟩ ⟨Nat.zero_le _, Nat.zero_le _⟩ hK hj hw hA hS hl.1 (Nat.le_of_ble_eq_true rfl) dX7_inks_30 h (fun r4 s4 H locs h hw hS => ?_)
      refine lv_iconst (v := (jI 2)) hx hb dX7_inks_33 rfl ?_
      refine lv_idiv hx hb dX7_inks_34 (by decide +kernel) ?_
      refine lv_goto (tgt := 43) hx hb dX7_inks_35 (by decide) ?_
      exact W.iret (v := (r4 / (jI 2))) hx hb hr (fun t ht hW => ⟨⟨_, _, rfl, h, zend hw ht⟩, hS.F ht⟩) hS.2.2 dX7_inks_43
theorem k_X7_inks {p : Program} {l : Launch} {e : Env} {R : Room} {s : State} {m : MethodId} {args : Array Value} {below : List Frame} {meth : Method} {c : Code} {H : Heap} {locs : List Loc} {cells slots : Nat} {QQ : State → Prop} {cc : ByteArray} {pc nL index : Nat} {ls : Array Slot} {rest : List Value} {D : va_G} {cy : cyT} {ad : Nat → Nat} {own : String} {Ts : List Cond} {H0 : Heap} {σ : ST} {p0 : Int32} {Q : Int32 → ST → Prop} (hx : p.tables.exec = Jvm.exec) (hb : c.code = cc) (hml : c.maxLocals = nL) (hown : s.vm.findClass own = some m.cls) (hts : ∀ w ∈ Ts, w.before args s = true) (hG : GoodIn Ts (wsV own index RX7 yX7_inks wsX7_inks)) (hR : 2 + 1 ≤ R.frames ∧ 8 + (3 + 11) + 43 ≤ R.locals) (hcs : cells ≤ R.cells ∧ slots ≤ R.slots) (hK : zK D cy s) (hj : zI 6 ad) (hw : zW D 6 (zme cy ad σ) ad H) {A0 : Nat → Prop} (hA : ∀ i, i < 6 → A0 (ad i)) (hS : va_S A0 H0 H locs) (hsz : ls.size = nL) (hrest : (rest.map fun v => v.category).sum ≤ 8) (hdg : decode cc pc = .ok (.invokevirtual index, 3)) (h : wp_X7_inks σ p0 Q) (kk : ∀ (r : Int32) (σ : ST) (H : Heap) (locs : List Loc), Q r σ → zW D 6 (zme cy ad σ) ad H → va_S A0 H0 H locs → W p l e R s m args below meth c H locs cells slots QQ (F0 m (pc + 3) ls (.int r :: rest))) : W p l e R s m args below meth c H locs cells slots QQ (F0 m pc ls (.int p0 :: .ref (ad 0) :: rest)) :=
  zcalli (va_runV (As := [.int p0]) (rest := rest) ⟨hx, hb, hml, hown, hts⟩ (c_X7_inks l D cy ad σ p0 h) (cwV 1 hts hG rfl rfl rfl (by decide +kernel) hR) (zpreV hj hK hw _ (i := 0) (ci := 6) (by decide) rfl rfl) rfl rfl hsz rfl (lv_room hrest) hdg hcs) hA hS kk
set_option maxHeartbeats 4000000 in
set_option maxRecDepth 100000 in
theorem c_X7_lays (l : Launch) (D : va_G) (cy : cyT) (ad : Nat → Nat) (σ : ST) (p0 : Int32) {Q : ST → Prop} (h : wp_X7_lays σ p0 Q) : Met l yX7_lays wsX7_lays ({ frames := 2, cells := 0, slots := 0, locals := 45 } : Room) (zPre D cy 6 (zme cy ad σ) ad [.ref (ad 0), .int p0]) (va_Qv Q (zB D 6 (zme cy ad) ad) (zA 6 ad)) 0 0 (zA 6 ad) := by
  refine Met.ofW (cc := cX7_lays) (maxL := 3) (ret := none) (by decide) rfl ?_
  intro p e s m args below meth c s₁ B hml hv
  obtain ⟨rfl, hj, hK, hw⟩ := hv
  have hx := B.exec
  have hb := B.bytes
  have hr := B.returns
  have hts := atoms_spec (ws := wsX7_lays) B.pre
  have hown : s.vm.findClass RX7 = some m.cls := findClass_of_methodNamed B.named
  have hlocks := B.notSynchronized
  have lk0 : Cond.fieldLink RX7 68 "TypeTraysModel" "rule" "I" ∈ wsX7_lays := List.mem_of_getElem? (i := 1) rfl
  have lk1 : Cond.fieldLink RX7 71 "TypeTraysModel" "toTray" "I" ∈ wsX7_lays := List.mem_of_getElem? (i := 4) rfl
  have lk2 : Cond.fieldLink RX7 74 "TypeTraysModel" "toShelf" "I" ∈ wsX7_lays := List.mem_of_getElem? (i := 5) rfl
  have lk3 : Cond.fieldLink RX7 7 "TypeTraysModel" "w" "[I" ∈ wsX7_lays := List.mem_of_getElem? (i := 3) rfl
  have lk4 : Cond.fieldLink RX7 77 "TypeTraysModel" "toX" "I" ∈ wsX7_lays := List.mem_of_getElem? (i := 6) rfl
  have lk5 : Cond.fieldLink RX7 96 "TypeTraysModel" "leaver" "I" ∈ wsX7_lays := List.mem_of_getElem? (i := 2) rfl
  have inX7 : ∀ w ∈ u_ws RX7 TX7 16, w ∈ wsX7_lays := zin_at 24 rfl
  have hS : va_S (zA 6 ad) s.heap s.heap [] := va_S.rf
  have hA : ∀ i, i < 6 → zA 6 ad (ad i) := fun i hi => ⟨i, hi, rfl⟩
  have hl := lv_entry ([.ref (ad 0), .int p0]) (n := 3) (Nat.le_of_ble_eq_true rfl)
  rw [lg_entry_eq]
  generalize (lg_sl ([.ref (ad 0), .int p0]) ++ List.replicate (3 - (lg_sl ([.ref (ad 0), .int p0])).length) Slot.unset).toArray = ls at hl ⊢
  have hl : lv_has ls 3 [(0, .ref (ad 0)), (1, .int p0)] := hl
  show W p l e ({ frames := 2, cells := 0, slots := 0, locals := 45 } : Room) s m ([.ref (ad 0), .int p0] : List Value).toArray below meth c s.heap [] 0 0 (MQ below (va_Qv Q (zB D 6 (zme cy ad) ad) (zA 6 ad)) ([.ref (ad 0), .int p0] : List Value).toArray s 0 0 (zA 6 ad)) (F0 m 0 ls [])
  unfold wp_X7_lays at h
  refine lv_aload_n hx hb dX7_lays_0 rfl (lv_at hl 0 rfl) ?_
  refine zget hx hb hts inX7 hown hK hw 0 (by decide) rfl rfl 5 (by decide) lk0 (fun _ h9 => h9) rfl dX7_lays_1 ?_
  refine lv_iconst (v := (jI 4)) hx hb dX7_lays_4 rfl ?_
  refine lv_icmp_ne (tgt := 65) hx hb dX7_lays_5 (by decide) (fun c1 => ?_) (fun c1 => ?_)
  · have h := h.2 c1
    refine lv_aload_n hx hb dX7_lays_65 rfl (lv_at hl 0 rfl) ?_
    refine zget hx hb hts inX7 hown hK hw 0 (by decide) rfl rfl 5 (by decide) lk0 (fun _ h9 => h9) rfl dX7_lays_66 ?_
    refine lv_iconst (v := (jI 2)) hx hb dX7_lays_69 rfl ?_
    refine lv_icmp_ne (tgt := 114) hx hb dX7_lays_70 (by decide) (fun c2 => ?_) (fun c2 => ?_)
    · have h := h.2 c2
      refine lv_iconst (v := (jI 0)) hx hb dX7_lays_114 rfl ?_
      refine lv_istore_n (lv' := [(2, .int (jI 0)), (0, .ref (ad 0)), (1, .int p0)]) hx hb dX7_lays_115 rfl hl (by decide) rfl (fun ls hl => ?_)
      have k158_116 : ∀ (u_158 : ST) (H : Heap) (locs : List Loc), (vp_in ((jI 119) + ((jI 6) * p0)) 983 ∧ ∀ s3 : ST, s3 = zrp u_158 0 ((jI 119) + ((jI 6) * p0)).toNatClampNeg (u_158.2 3) → (vp_in (((jI 119) + ((jI 6) * p0)) + (jI 1)) 983 ∧ ∀ s4 : ST, s4 = zrp s3 0 (((jI 119) + ((jI 6) * p0)) + (jI 1)).toNatClampNeg (s3.2 4) → (vp_in (((jI 119) + ((jI 6) * p0)) + (jI 2)) 983 ∧ ∀ s5 : ST, s5 = zrp s4 0 (((jI 119) + ((jI 6) * p0)) + (jI 2)).toNatClampNeg (s4.2 5) → Q s5))) → zW D 6 (zme cy ad u_158) ad H → va_S (zA 6 ad) s.heap H locs → ∀ ls : Array Slot, lv_has ls 3 [(0, .ref (ad 0)), (1, .int p0)] → W p l e ({ frames := 2, cells := 0, slots := 0, locals := 45 } : Room) s m ([.ref (ad 0), .int p0] : List Value).toArray below meth c H locs 0 0 (MQ below (va_Qv Q (zB D 6 (zme cy ad) ad) (zA 6 ad)) ([.ref (ad 0), .int p0] : List Value).toArray s 0 0 (zA 6 ad)) (F0 m 158 ls []) := by
        intro u_158 H locs h hw hS ls hl
        refine lv_aload_n hx hb dX7_lays_158 rfl (lv_at hl 0 rfl) ?_
        refine zget hx hb hts inX7 hown hK hw 0 (by decide) rfl rfl 0 (by decide) lk3 (fun _ h9 => h9) rfl dX7_lays_159 ?_
        refine lv_bipush (v := (jI 119)) hx hb dX7_lays_162 (by decide +kernel) ?_
        refine lv_bipush (v := (jI 6)) hx hb dX7_lays_164 (by decide +kernel) ?_
        refine lv_iload_n hx hb dX7_lays_166 rfl (lv_at hl 1 rfl) ?_
        refine lv_imul hx hb dX7_lays_167 ?_
        refine lv_iadd hx hb dX7_lays_168 ?_
        refine lv_aload_n hx hb dX7_lays_169 rfl (lv_at hl 0 rfl) ?_
        refine zget hx hb hts inX7 hown hK hw 0 (by decide) rfl rfl 6 (by decide) lk1 (fun _ h9 => h9) rfl dX7_lays_170 ?_
        obtain ⟨s3, es3⟩ : ∃ y : ST, y = zrp u_158 0 ((jI 119) + ((jI 6) * p0)).toNatClampNeg (u_158.2 3) := ⟨_, rfl⟩
        refine ziast hx hb hK hj hw hA hS 1 (by decide) rfl h.1 dX7_lays_173 (zme cy ad s3) (by rw [es3]; exact zrp_on_M_0) (fun j hj9 => by rw [es3]; exact zrp_off_M_0 j hj9) (fun H locs hw hS => ?_)
        have h := h.2 s3 es3
        refine lv_aload_n hx hb dX7_lays_174 rfl (lv_at hl 0 rfl) ?_
        refine zget hx hb hts inX7 hown hK hw 0 (by decide) rfl rfl 0 (by decide) lk3 (fun _ h9 => h9) rfl dX7_lays_175 ?_
        refine lv_bipush (v := (jI 119)) hx hb dX7_lays_178 (by decide +kernel) ?_
        refine lv_bipush (v := (jI 6)) hx hb dX7_lays_180 (by decide +kernel) ?_
        refine lv_iload_n hx hb dX7_lays_182 rfl (lv_at hl 1 rfl) ?_
        refine lv_imul hx hb dX7_lays_183 ?_
        refine lv_iadd hx hb dX7_lays_184 ?_
        refine lv_iconst (v := (jI 1)) hx hb dX7_lays_185 rfl ?_
        refine lv_iadd hx hb dX7_lays_186 ?_
        refine lv_aload_n hx hb dX7_lays_187 rfl (lv_at hl 0 rfl) ?_
        refine zget hx hb hts inX7 hown hK hw 0 (by decide) rfl rfl 7 (by decide) lk2 (fun _ h9 => h9) rfl dX7_lays_188 ?_
        obtain ⟨s4, es4⟩ : ∃ y : ST, y = zrp s3 0 (((jI 119) + ((jI 6) * p0)) + (jI 1)).toNatClampNeg (s3.2 4) := ⟨_, rfl⟩
        refine ziast hx hb hK hj hw hA hS 1 (by decide) rfl h.1 dX7_lays_191 (zme cy ad s4) (by rw [es4]; exact zrp_on_M_0) (fun j hj9 => by rw [es4]; exact zrp_off_M_0 j hj9) (fun H locs hw hS => ?_)
        have h := h.2 s4 es4
        refine lv_aload_n hx hb dX7_lays_192 rfl (lv_at hl 0 rfl) ?_
        refine zget hx hb hts inX7 hown hK hw 0 (by decide) rfl rfl 0 (by decide) lk3 (fun _ h9 => h9) rfl dX7_lays_193 ?_
        refine lv_bipush (v := (jI 119)) hx hb dX7_lays_196 (by decide +kernel) ?_
        refine lv_bipush (v := (jI 6)) hx hb dX7_lays_198 (by decide +kernel) ?_
        refine lv_iload_n hx hb dX7_lays_200 rfl (lv_at hl 1 rfl) ?_
        refine lv_imul hx hb dX7_lays_201 ?_
        refine lv_iadd hx hb dX7_lays_202 ?_
        refine lv_iconst (v := (jI 2)) hx hb dX7_lays_203 rfl ?_
        refine lv_iadd hx hb dX7_lays_204 ?_
        refine lv_aload_n hx hb dX7_lays_205 rfl (lv_at hl 0 rfl) ?_
        refine zget hx hb hts inX7 hown hK hw 0 (by decide) rfl rfl 8 (by decide) lk4 (fun _ h9 => h9) rfl dX7_lays_206 ?_
        obtain ⟨s5, es5⟩ : ∃ y : ST, y = zrp s4 0 (((jI 119) + ((jI 6) * p0)) + (jI 2)).toNatClampNeg (s4.2 5) := ⟨_, rfl⟩
        refine ziast hx hb hK hj hw hA hS 1 (by decide) rfl h.1 dX7_lays_209 (zme cy ad s5) (by rw [es5]; exact zrp_on_M_0) (fun j hj9 => by rw [es5]; exact zrp_off_M_0 j hj9) (fun H locs hw hS => ?_)
        have h := h.2 s5 es5
        exact W.vret hx hb hr (fun t ht hW => ⟨⟨_, rfl, h, zend hw ht⟩, hS.F ht⟩) hS.2.2 dX7_lays_210
      have lp116 : ∀ (nn116 : Nat) (t_116 : ST) (y2_116 : Int32) (H : Heap) (locs : List Loc), wl_X7_lays_116 (fun u_158 => (vp_in ((jI 119) + ((jI 6) * p0)) 983 ∧ ∀ s3 : ST, s3 = zrp u_158 0 ((jI 119) + ((jI 6) * p0)).toNatClampNeg (u_158.2 3) → (vp_in (((jI 119) + ((jI 6) * p0)) + (jI 1)) 983 ∧ ∀ s4 : ST, s4 = zrp s3 0 (((jI 119) + ((jI 6) * p0)) + (jI 1)).toNatClampNeg (s3.2 4) → (vp_in (((jI 119) + ((jI 6) * p0)) + (jI 2)) 983 ∧ ∀ s5 : ST, s5 = zrp s4 0 (((jI 119) + ((jI 6) * p0)) + (jI 2)).toNatClampNeg (s4.2 5) → Q s5)))) p0 nn116 t_116 y2_116 → zW D 6 (zme cy ad t_116) ad H → va_S (zA 6 ad) s.heap H locs → ∀ ls : Array Slot, lv_has ls 3 [(0, .ref (ad 0)), (1, .int p0), (2, .int y2_116)] → W p l e ({ frames := 2, cells := 0, slots := 0, locals := 45 } : Room) s m ([.ref (ad 0), .int p0] : List Value).toArray below meth c H locs 0 0 (MQ below (va_Qv Q (zB D 6 (zme cy ad) ad) (zA 6 ad)) ([.ref (ad 0), .int p0] : List Value).toArray s 0 0 (zA 6 ad)) (F0 m 116 ls []) := by
        intro nn116
        induction nn116 with
        | zero => intro _ _ _ _ h; exact h.elim
        | succ nn116 ih116 =>
          intro t_116 y2_116 H locs h hw hS ls hl
          simp only [wl_X7_lays_116, wb_X7_lays_116] at h
          refine lv_iload_n hx hb dX7_lays_116 rfl (lv_at hl 2 rfl) ?_
          refine lv_sipush (v := (jI 144)) hx hb dX7_lays_117 (by decide +kernel) ?_
          refine lv_icmp_ge (tgt := 158) hx hb dX7_lays_120 (by decide) (fun c3 => ?_) (fun c3 => ?_)
          · have h := h.1 c3
            exact k158_116 _ _ _ h hw hS _ (lv_sub hl [0, 1] rfl)
          · have h := h.2 c3
            refine lv_aload_n hx hb dX7_lays_123 rfl (lv_at hl 0 rfl) ?_
            refine zget hx hb hts inX7 hown hK hw 0 (by decide) rfl rfl 5 (by decide) lk0 (fun _ h9 => h9) rfl dX7_lays_124 ?_
            refine lv_iconst (v := (jI 3)) hx hb dX7_lays_127 rfl ?_
            refine lv_icmp_ne (tgt := 158) hx hb dX7_lays_128 (by decide) (fun c4 => ?_) (fun c4 => ?_)
            · have h := h.2 c4
              exact k158_116 _ _ _ h hw hS _ (lv_sub hl [0, 1] rfl)
            · have h := h.1 c4
              refine lv_aload_n hx hb dX7_lays_131 rfl (lv_at hl 0 rfl) ?_
              refine lv_iload_n hx hb dX7_lays_132 rfl (lv_at hl 2 rfl) ?_
              refine lv_aload_n hx hb dX7_lays_133 rfl (lv_at hl 0 rfl) ?_
              refine zget hx hb hts inX7 hown hK hw 0 (by decide) rfl rfl 6 (by decide) lk1 (fun _ h9 => h9) rfl dX7_lays_134 ?_
              refine lv_aload_n hx hb dX7_lays_137 rfl (lv_at hl 0 rfl) ?_
              refine zget hx hb hts inX7 hown hK hw 0 (by decide) rfl rfl 7 (by decide) lk2 (fun _ h9 => h9) rfl dX7_lays_138 ?_
              refine k_X7_isOn (rest := []) hx hb hml hown hts gX7_lays_X7_isOn ⟨Nat.le_of_ble_eq_true rfl, Nat.le_of_ble_eq_true rfl⟩ ⟨Nat.zero_le _, Nat.zero_le _⟩ hK hj hw hA hS hl.1 (Nat.le_of_ble_eq_true rfl) dX7_lays_141 h (fun r1 s1 H locs h hw hS => ?_)
              refine zif_eq (tgt := 152) hx hb dX7_lays_144 (by decide) (fun c5 => ?_) (fun c5 => ?_)
              · have h := h.1 c5
                obtain ⟨x1, ex1⟩ : ∃ y : Int32, y = y2_116 + (jI 1) := ⟨_, rfl⟩
                have h := h x1 ex1
                refine lv_iinc (v := x1) (lv' := [(2, .int x1), (0, .ref (ad 0)), (1, .int p0)]) hx hb dX7_lays_152 hl (k := 2) rfl (by rw [ex1]; rfl) (by decide) rfl (fun ls hl => ?_)
                refine lv_goto (tgt := 116) hx hb dX7_lays_155 (by decide) ?_
                exact ih116 _ _ _ _ h hw hS _ (lv_sub hl [1, 2, 0] rfl)
              · have h := h.2 c5
                refine lv_aload_n hx hb dX7_lays_147 rfl (lv_at hl 0 rfl) ?_
                refine lv_iload_n hx hb dX7_lays_148 rfl (lv_at hl 2 rfl) ?_
                refine k_X7_goes (rest := []) hx hb hml hown hts gX7_lays_X7_goes ⟨Nat.le_of_ble_eq_true rfl, Nat.le_of_ble_eq_true rfl⟩ ⟨Nat.zero_le _, Nat.zero_le _⟩ hK hj hw hA hS hl.1 (Nat.le_of_ble_eq_true rfl) dX7_lays_149 h (fun s2 H locs h hw hS => ?_)
                obtain ⟨x2, ex2⟩ : ∃ y : Int32, y = y2_116 + (jI 1) := ⟨_, rfl⟩
                have h := h x2 ex2
                refine lv_iinc (v := x2) (lv' := [(2, .int x2), (0, .ref (ad 0)), (1, .int p0)]) hx hb dX7_lays_152 hl (k := 2) rfl (by rw [ex2]; rfl) (by decide) rfl (fun ls hl => ?_)
                refine lv_goto (tgt := 116) hx hb dX7_lays_155 (by decide) ?_
                exact ih116 _ _ _ _ h hw hS _ (lv_sub hl [1, 2, 0] rfl)
      obtain ⟨nn116, h⟩ := h
      exact lp116 nn116 _ _ _ _ h hw hS _ (lv_sub hl [1, 2, 0] rfl)
    · have h := h.1 c2
      refine lv_aload_n hx hb dX7_lays_73 rfl (lv_at hl 0 rfl) ?_
      refine zget hx hb hts inX7 hown hK hw 0 (by decide) rfl rfl 0 (by decide) lk3 (fun _ h9 => h9) rfl dX7_lays_74 ?_
      refine lv_bipush (v := (jI 47)) hx hb dX7_lays_77 (by decide +kernel) ?_
      refine lv_bipush (v := (jI 24)) hx hb dX7_lays_79 (by decide +kernel) ?_
      refine lv_aload_n hx hb dX7_lays_81 rfl (lv_at hl 0 rfl) ?_
      refine zget hx hb hts inX7 hown hK hw 0 (by decide) rfl rfl 6 (by decide) lk1 (fun _ h9 => h9) rfl dX7_lays_82 ?_
      refine lv_imul hx hb dX7_lays_85 ?_
      refine lv_iadd hx hb dX7_lays_86 ?_
      refine lv_aload_n hx hb dX7_lays_87 rfl (lv_at hl 0 rfl) ?_
      refine zget hx hb hts inX7 hown hK hw 0 (by decide) rfl rfl 7 (by decide) lk2 (fun _ h9 => h9) rfl dX7_lays_88 ?_
      refine lv_iadd hx hb dX7_lays_91 ?_
      refine lv_aload_n hx hb dX7_lays_92 rfl (lv_at hl 0 rfl) ?_
      refine lv_iload_n hx hb dX7_lays_93 rfl (lv_at hl 1 rfl) ?_
      refine k_X7_heightOf (rest := [.int (((jI 47) + ((jI 24) * (σ.2 3))) + (σ.2 4)), .ref (ad 1)]) hx hb hml hown hts gX7_lays_X7_heightOf ⟨Nat.le_of_ble_eq_true rfl, Nat.le_of_ble_eq_true rfl⟩ ⟨Nat.zero_le _, Nat.zero_le _⟩ hK hj hw hA hS hl.1 (Nat.le_of_ble_eq_true rfl) dX7_lays_94 h (fun r2 s6 H locs h hw hS => ?_)
      obtain ⟨s7, es7⟩ : ∃ y : ST, y = zrp s6 0 (((jI 47) + ((jI 24) * (σ.2 3))) + (σ.2 4)).toNatClampNeg r2 := ⟨_, rfl⟩
      refine ziast hx hb hK hj hw hA hS 1 (by decide) rfl h.1 dX7_lays_97 (zme cy ad s7) (by rw [es7]; exact zrp_on_M_0) (fun j hj9 => by rw [es7]; exact zrp_off_M_0 j hj9) (fun H locs hw hS => ?_)
      have h := h.2 s7 es7
      refine lv_aload_n hx hb dX7_lays_98 rfl (lv_at hl 0 rfl) ?_
      refine zget hx hb hts inX7 hown hK hw 0 (by decide) rfl rfl 0 (by decide) lk3 (fun _ h9 => h9) rfl dX7_lays_99 ?_
      refine lv_bipush (v := (jI 44)) hx hb dX7_lays_102 (by decide +kernel) ?_
      refine lv_aload_n hx hb dX7_lays_104 rfl (lv_at hl 0 rfl) ?_
      refine zget hx hb hts inX7 hown hK hw 0 (by decide) rfl rfl 6 (by decide) lk1 (fun _ h9 => h9) rfl dX7_lays_105 ?_
      refine lv_iadd hx hb dX7_lays_108 ?_
      refine lv_topi (fun x3 ex3 => ?_)
      have h := h x3 ex3
      refine lv_dup2_11 hx hb dX7_lays_109 rfl rfl ?_
      refine ziald hx hb hK hw 1 (by decide) rfl h.1 dX7_lays_110 ?_
      refine lv_topi (fun v1 ev1 => ?_)
      have h := h.2 v1 ev1
      refine lv_iconst (v := (jI 1)) hx hb dX7_lays_111 rfl ?_
      refine lv_iadd hx hb dX7_lays_112 ?_
      obtain ⟨s8, es8⟩ : ∃ y : ST, y = zrp s7 0 x3.toNatClampNeg (v1 + (jI 1)) := ⟨_, rfl⟩
      refine ziast hx hb hK hj hw hA hS 1 (by decide) rfl h.1 dX7_lays_113 (zme cy ad s8) (by rw [es8]; exact zrp_on_M_0) (fun j hj9 => by rw [es8]; exact zrp_off_M_0 j hj9) (fun H locs hw hS => ?_)
      have h := h.2 s8 es8
      refine lv_iconst (v := (jI 0)) hx hb dX7_lays_114 rfl ?_
      refine lv_istore_n (lv' := [(2, .int (jI 0)), (0, .ref (ad 0)), (1, .int p0)]) hx hb dX7_lays_115 rfl hl (by decide) rfl (fun ls hl => ?_)
      have k158_116 : ∀ (u_158 : ST) (H : Heap) (locs : List Loc), (vp_in ((jI 119) + ((jI 6) * p0)) 983 ∧ ∀ s11 : ST, s11 = zrp u_158 0 ((jI 119) + ((jI 6) * p0)).toNatClampNeg (u_158.2 3) → (vp_in (((jI 119) + ((jI 6) * p0)) + (jI 1)) 983 ∧ ∀ s12 : ST, s12 = zrp s11 0 (((jI 119) + ((jI 6) * p0)) + (jI 1)).toNatClampNeg (s11.2 4) → (vp_in (((jI 119) + ((jI 6) * p0)) + (jI 2)) 983 ∧ ∀ s13 : ST, s13 = zrp s12 0 (((jI 119) + ((jI 6) * p0)) + (jI 2)).toNatClampNeg (s12.2 5) → Q s13))) → zW D 6 (zme cy ad u_158) ad H → va_S (zA 6 ad) s.heap H locs → ∀ ls : Array Slot, lv_has ls 3 [(0, .ref (ad 0)), (1, .int p0)] → W p l e ({ frames := 2, cells := 0, slots := 0, locals := 45 } : Room) s m ([.ref (ad 0), .int p0] : List Value).toArray below meth c H locs 0 0 (MQ below (va_Qv Q (zB D 6 (zme cy ad) ad) (zA 6 ad)) ([.ref (ad 0), .int p0] : List Value).toArray s 0 0 (zA 6 ad)) (F0 m 158 ls []) := by
        intro u_158 H locs h hw hS ls hl
        refine lv_aload_n hx hb dX7_lays_158 rfl (lv_at hl 0 rfl) ?_
        refine zget hx hb hts inX7 hown hK hw 0 (by decide) rfl rfl 0 (by decide) lk3 (fun _ h9 => h9) rfl dX7_lays_159 ?_
        refine lv_bipush (v := (jI 119)) hx hb dX7_lays_162 (by decide +kernel) ?_
        refine lv_bipush (v := (jI 6)) hx hb dX7_lays_164 (by decide +kernel) ?_
        refine lv_iload_n hx hb dX7_lays_166 rfl (lv_at hl 1 rfl) ?_
        refine lv_imul hx hb dX7_lays_167 ?_
        refine lv_iadd hx hb dX7_lays_168 ?_
        refine lv_aload_n hx hb dX7_lays_169 rfl (lv_at hl 0 rfl) ?_
        refine zget hx hb hts inX7 hown hK hw 0 (by decide) rfl rfl 6 (by decide) lk1 (fun _ h9 => h9) rfl dX7_lays_170 ?_
        obtain ⟨s11, es11⟩ : ∃ y : ST, y = zrp u_158 0 ((jI 119) + ((jI 6) * p0)).toNatClampNeg (u_158.2 3) := ⟨_, rfl⟩
        refine ziast hx hb hK hj hw hA hS 1 (by decide) rfl h.1 dX7_lays_173 (zme cy ad s11) (by rw [es11]; exact zrp_on_M_0) (fun j hj9 => by rw [es11]; exact zrp_off_M_0 j hj9) (fun H locs hw hS => ?_)
        have h := h.2 s11 es11
        refine lv_aload_n hx hb dX7_lays_174 rfl (lv_at hl 0 rfl) ?_
        refine zget hx hb hts inX7 hown hK hw 0 (by decide) rfl rfl 0 (by decide) lk3 (fun _ h9 => h9) rfl dX7_lays_175 ?_
        refine lv_bipush (v := (jI 119)) hx hb dX7_lays_178 (by decide +kernel) ?_
        refine lv_bipush (v := (jI 6)) hx hb dX7_lays_180 (by decide +kernel) ?_
        refine lv_iload_n hx hb dX7_lays_182 rfl (lv_at hl 1 rfl) ?_
        refine lv_imul hx hb dX7_lays_183 ?_
        refine lv_iadd hx hb dX7_lays_184 ?_
        refine lv_iconst (v := (jI 1)) hx hb dX7_lays_185 rfl ?_
        refine lv_iadd hx hb dX7_lays_186 ?_
        refine lv_aload_n hx hb dX7_lays_187 rfl (lv_at hl 0 rfl) ?_
        refine zget hx hb hts inX7 hown hK hw 0 (by decide) rfl rfl 7 (by decide) lk2 (fun _ h9 => h9) rfl dX7_lays_188 ?_
        obtain ⟨s12, es12⟩ : ∃ y : ST, y = zrp s11 0 (((jI 119) + ((jI 6) * p0)) + (jI 1)).toNatClampNeg (s11.2 4) := ⟨_, rfl⟩
        refine ziast hx hb hK hj hw hA hS 1 (by decide) rfl h.1 dX7_lays_191 (zme cy ad s12) (by rw [es12]; exact zrp_on_M_0) (fun j hj9 => by rw [es12]; exact zrp_off_M_0 j hj9) (fun H locs hw hS => ?_)
        have h := h.2 s12 es12
        refine lv_aload_n hx hb dX7_lays_192 rfl (lv_at hl 0 rfl) ?_
        refine zget hx hb hts inX7 hown hK hw 0 (by decide) rfl rfl 0 (by decide) lk3 (fun _ h9 => h9) rfl dX7_lays_193 ?_
        refine lv_bipush (v := (jI 119)) hx hb dX7_lays_196 (by decide +kernel) ?_
        refine lv_bipush (v := (jI 6)) hx hb dX7_lays_198 (by decide +kernel) ?_
        refine lv_iload_n hx hb dX7_lays_200 rfl (lv_at hl 1 rfl) ?_
        refine lv_imul hx hb dX7_lays_201 ?_
        refine lv_iadd hx hb dX7_lays_202 ?_
        refine lv_iconst (v := (jI 2)) hx hb dX7_lays_203 rfl ?_
        refine lv_iadd hx hb dX7_lays_204 ?_
        refine lv_aload_n hx hb dX7_lays_205 rfl (lv_at hl 0 rfl) ?_
        refine zget hx hb hts inX7 hown hK hw 0 (by decide) rfl rfl 8 (by decide) lk4 (fun _ h9 => h9) rfl dX7_lays_206 ?_
        obtain ⟨s13, es13⟩ : ∃ y : ST, y = zrp s12 0 (((jI 119) + ((jI 6) * p0)) + (jI 2)).toNatClampNeg (s12.2 5) := ⟨_, rfl⟩
        refine ziast hx hb hK hj hw hA hS 1 (by decide) rfl h.1 dX7_lays_209 (zme cy ad s13) (by rw [es13]; exact zrp_on_M_0) (fun j hj9 => by rw [es13]; exact zrp_off_M_0 j hj9) (fun H locs hw hS => ?_)
        have h := h.2 s13 es13
        exact W.vret hx hb hr (fun t ht hW => ⟨⟨_, rfl, h, zend hw ht⟩, hS.F ht⟩) hS.2.2 dX7_lays_210
      have lp116 : ∀ (nn116 : Nat) (t_116 : ST) (y2_116 : Int32) (H : Heap) (locs : List Loc), wl_X7_lays_116 (fun u_158 => (vp_in ((jI 119) + ((jI 6) * p0)) 983 ∧ ∀ s11 : ST, s11 = zrp u_158 0 ((jI 119) + ((jI 6) * p0)).toNatClampNeg (u_158.2 3) → (vp_in (((jI 119) + ((jI 6) * p0)) + (jI 1)) 983 ∧ ∀ s12 : ST, s12 = zrp s11 0 (((jI 119) + ((jI 6) * p0)) + (jI 1)).toNatClampNeg (s11.2 4) → (vp_in (((jI 119) + ((jI 6) * p0)) + (jI 2)) 983 ∧ ∀ s13 : ST, s13 = zrp s12 0 (((jI 119) + ((jI 6) * p0)) + (jI 2)).toNatClampNeg (s12.2 5) → Q s13)))) p0 nn116 t_116 y2_116 → zW D 6 (zme cy ad t_116) ad H → va_S (zA 6 ad) s.heap H locs → ∀ ls : Array Slot, lv_has ls 3 [(0, .ref (ad 0)), (1, .int p0), (2, .int y2_116)] → W p l e ({ frames := 2, cells := 0, slots := 0, locals := 45 } : Room) s m ([.ref (ad 0), .int p0] : List Value).toArray below meth c H locs 0 0 (MQ below (va_Qv Q (zB D 6 (zme cy ad) ad) (zA 6 ad)) ([.ref (ad 0), .int p0] : List Value).toArray s 0 0 (zA 6 ad)) (F0 m 116 ls []) := by
        intro nn116
        induction nn116 with
        | zero => intro _ _ _ _ h; exact h.elim
        | succ nn116 ih116 =>
          intro t_116 y2_116 H locs h hw hS ls hl
          simp only [wl_X7_lays_116, wb_X7_lays_116] at h
          refine lv_iload_n hx hb dX7_lays_116 rfl (lv_at hl 2 rfl) ?_
          refine lv_sipush (v := (jI 144)) hx hb dX7_lays_117 (by decide +kernel) ?_
          refine lv_icmp_ge (tgt := 158) hx hb dX7_lays_120 (by decide) (fun c6 => ?_) (fun c6 => ?_)
          · have h := h.1 c6
            exact k158_116 _ _ _ h hw hS _ (lv_sub hl [0, 1] rfl)
          · have h := h.2 c6
            refine lv_aload_n hx hb dX7_lays_123 rfl (lv_at hl 0 rfl) ?_
            refine zget hx hb hts inX7 hown hK hw 0 (by decide) rfl rfl 5 (by decide) lk0 (fun _ h9 => h9) rfl dX7_lays_124 ?_
            refine lv_iconst (v := (jI 3)) hx hb dX7_lays_127 rfl ?_
            refine lv_icmp_ne (tgt := 158) hx hb dX7_lays_128 (by decide) (fun c7 => ?_) (fun c7 => ?_)
            · have h := h.2 c7
              exact k158_116 _ _ _ h hw hS _ (lv_sub hl [0, 1] rfl)
            · have h := h.1 c7
              refine lv_aload_n hx hb dX7_lays_131 rfl (lv_at hl 0 rfl) ?_
              refine lv_iload_n hx hb dX7_lays_132 rfl (lv_at hl 2 rfl) ?_
              refine lv_aload_n hx hb dX7_lays_133 rfl (lv_at hl 0 rfl) ?_
              refine zget hx hb hts inX7 hown hK hw 0 (by decide) rfl rfl 6 (by decide) lk1 (fun _ h9 => h9) rfl dX7_lays_134 ?_
              refine lv_aload_n hx hb dX7_lays_137 rfl (lv_at hl 0 rfl) ?_
              refine zget hx hb hts inX7 hown hK hw 0 (by decide) rfl rfl 7 (by decide) lk2 (fun _ h9 => h9) rfl dX7_lays_138 ?_
              refine k_X7_isOn (rest := []) hx hb hml hown hts gX7_lays_X7_isOn ⟨Nat.le_of_ble_eq_true rfl, Nat.le_of_ble_eq_true rfl⟩ ⟨Nat.zero_le _, Nat.zero_le _⟩ hK hj hw hA hS hl.1 (Nat.le_of_ble_eq_true rfl) dX7_lays_141 h (fun r3 s9 H locs h hw hS => ?_)
              refine zif_eq (tgt := 152) hx hb dX7_lays_144 (by decide) (fun c8 => ?_) (fun c8 => ?_)
              · have h := h.1 c8
                obtain ⟨x4, ex4⟩ : ∃ y : Int32, y = y2_116 + (jI 1) := ⟨_, rfl⟩
                have h := h x4 ex4
                refine lv_iinc (v := x4) (lv' := [(2, .int x4), (0, .ref (ad 0)), (1, .int p0)]) hx hb dX7_lays_152 hl (k := 2) rfl (by rw [ex4]; rfl) (by decide) rfl (fun ls hl => ?_)
                refine lv_goto (tgt := 116) hx hb dX7_lays_155 (by decide) ?_
                exact ih116 _ _ _ _ h hw hS _ (lv_sub hl [1, 2, 0] rfl)
              · have h := h.2 c8
                refine lv_aload_n hx hb dX7_lays_147 rfl (lv_at hl 0 rfl) ?_
                refine lv_iload_n hx hb dX7_lays_148 rfl (lv_at hl 2 rfl) ?_
                refine k_X7_goes (rest := []) hx hb hml hown hts gX7_lays_X7_goes ⟨Nat.le_of_ble_eq_true rfl, Nat.le_of_ble_eq_true rfl⟩ ⟨Nat.zero_le _, Nat.zero_le _⟩ hK hj hw hA hS hl.1 (Nat.le_of_ble_eq_true rfl) dX7_lays_149 h (fun s10 H locs h hw hS => ?_)
                obtain ⟨x5, ex5⟩ : ∃ y : Int32, y = y2_116 + (jI 1) := ⟨_, rfl⟩
                have h := h x5 ex5
                refine lv_iinc (v := x5) (lv' := [(2, .int x5), (0, .ref (ad 0)), (1, .int p0)]) hx hb dX7_lays_152 hl (k := 2) rfl (by rw [ex5]; rfl) (by decide) rfl (fun ls hl => ?_)
                refine lv_goto (tgt := 116) hx hb dX7_lays_155 (by decide) ?_
                exact ih116 _ _ _ _ h hw hS _ (lv_sub hl [1, 2, 0] rfl)
      obtain ⟨nn116, h⟩ := h
      exact lp116 nn116 _ _ _ _ h hw hS _ (lv_sub hl [1, 2, 0] rfl)
  · have h := h.1 c1
    refine lv_aload_n hx hb dX7_lays_8 rfl (lv_at hl 0 rfl) ?_
    refine zget hx hb hts inX7 hown hK hw 0 (by decide) rfl rfl 9 (by decide) lk5 (fun _ h9 => h9) rfl dX7_lays_9 ?_
    refine lv_iconst (v := (jI (-1))) hx hb dX7_lays_12 rfl ?_
    refine lv_icmp_eq (tgt := 24) hx hb dX7_lays_13 (by decide) (fun c9 => ?_) (fun c9 => ?_)
    · have h := h.1 c9
      refine lv_aload_n hx hb dX7_lays_24 rfl (lv_at hl 0 rfl) ?_
      refine zget hx hb hts inX7 hown hK hw 0 (by decide) rfl rfl 0 (by decide) lk3 (fun _ h9 => h9) rfl dX7_lays_25 ?_
      refine lv_bipush (v := (jI 8)) hx hb dX7_lays_28 (by decide +kernel) ?_
      refine lv_aload_n hx hb dX7_lays_30 rfl (lv_at hl 0 rfl) ?_
      refine zget hx hb hts inX7 hown hK hw 0 (by decide) rfl rfl 0 (by decide) lk3 (fun _ h9 => h9) rfl dX7_lays_31 ?_
      refine lv_bipush (v := (jI 7)) hx hb dX7_lays_34 (by decide +kernel) ?_
      refine ziald hx hb hK hw 1 (by decide) rfl h.1 dX7_lays_36 ?_
      refine lv_topi (fun v2 ev2 => ?_)
      have h := h.2 v2 ev2
      refine lv_iadd hx hb dX7_lays_37 ?_
      refine lv_iload_n hx hb dX7_lays_38 rfl (lv_at hl 1 rfl) ?_
      obtain ⟨s14, es14⟩ : ∃ y : ST, y = zrp σ 0 ((jI 8) + v2).toNatClampNeg p0 := ⟨_, rfl⟩
      refine ziast hx hb hK hj hw hA hS 1 (by decide) rfl h.1 dX7_lays_39 (zme cy ad s14) (by rw [es14]; exact zrp_on_M_0) (fun j hj9 => by rw [es14]; exact zrp_off_M_0 j hj9) (fun H locs hw hS => ?_)
      have h := h.2 s14 es14
      refine lv_aload_n hx hb dX7_lays_40 rfl (lv_at hl 0 rfl) ?_
      refine zget hx hb hts inX7 hown hK hw 0 (by decide) rfl rfl 0 (by decide) lk3 (fun _ h9 => h9) rfl dX7_lays_41 ?_
      refine lv_bipush (v := (jI 7)) hx hb dX7_lays_44 (by decide +kernel) ?_
      refine lv_dup2_11 hx hb dX7_lays_46 rfl rfl ?_
      refine ziald hx hb hK hw 1 (by decide) rfl h.1 dX7_lays_47 ?_
      refine lv_topi (fun v3 ev3 => ?_)
      have h := h.2 v3 ev3
      refine lv_iconst (v := (jI 1)) hx hb dX7_lays_48 rfl ?_
      refine lv_iadd hx hb dX7_lays_49 ?_
      obtain ⟨s15, es15⟩ : ∃ y : ST, y = zrp s14 0 (jI 7).toNatClampNeg (v3 + (jI 1)) := ⟨_, rfl⟩
      refine ziast hx hb hK hj hw hA hS 1 (by decide) rfl h.1 dX7_lays_50 (zme cy ad s15) (by rw [es15]; exact zrp_on_M_0) (fun j hj9 => by rw [es15]; exact zrp_off_M_0 j hj9) (fun H locs hw hS => ?_)
      have h := h.2 s15 es15
      refine lv_aload_n hx hb dX7_lays_51 rfl (lv_at hl 0 rfl) ?_
      refine zget hx hb hts inX7 hown hK hw 0 (by decide) rfl rfl 0 (by decide) lk3 (fun _ h9 => h9) rfl dX7_lays_52 ?_
      refine lv_bipush (v := (jI 119)) hx hb dX7_lays_55 (by decide +kernel) ?_
      refine lv_bipush (v := (jI 6)) hx hb dX7_lays_57 (by decide +kernel) ?_
      refine lv_iload_n hx hb dX7_lays_59 rfl (lv_at hl 1 rfl) ?_
      refine lv_imul hx hb dX7_lays_60 ?_
      refine lv_iadd hx hb dX7_lays_61 ?_
      refine lv_iconst (v := (jI 3)) hx hb dX7_lays_62 rfl ?_
      obtain ⟨s16, es16⟩ : ∃ y : ST, y = zrp s15 0 ((jI 119) + ((jI 6) * p0)).toNatClampNeg (jI 3) := ⟨_, rfl⟩
      refine ziast hx hb hK hj hw hA hS 1 (by decide) rfl h.1 dX7_lays_63 (zme cy ad s16) (by rw [es16]; exact zrp_on_M_0) (fun j hj9 => by rw [es16]; exact zrp_off_M_0 j hj9) (fun H locs hw hS => ?_)
      have h := h.2 s16 es16
      exact W.vret hx hb hr (fun t ht hW => ⟨⟨_, rfl, h, zend hw ht⟩, hS.F ht⟩) hS.2.2 dX7_lays_64
    · have h := h.2 c9
      refine lv_aload_n hx hb dX7_lays_16 rfl (lv_at hl 0 rfl) ?_
      refine lv_aload_n hx hb dX7_lays_17 rfl (lv_at hl 0 rfl) ?_
      refine zget hx hb hts inX7 hown hK hw 0 (by decide) rfl rfl 9 (by decide) lk5 (fun _ h9 => h9) rfl dX7_lays_18 ?_
      refine k_X7_goes (rest := []) hx hb hml hown hts gX7_lays_X7_goes ⟨Nat.le_of_ble_eq_true rfl, Nat.le_of_ble_eq_true rfl⟩ ⟨Nat.zero_le _, Nat.zero_le _⟩ hK hj hw hA hS hl.1 (Nat.le_of_ble_eq_true rfl) dX7_lays_21 h (fun s17 H locs h hw hS => ?_)
      refine lv_aload_n hx hb dX7_lays_24 rfl (lv_at hl 0 rfl) ?_
      refine zget hx hb hts inX7 hown hK hw 0 (by decide) rfl rfl 0 (by decide) lk3 (fun _ h9 => h9) rfl dX7_lays_25 ?_
      refine lv_bipush (v := (jI 8)) hx hb dX7_lays_28 (by decide +kernel) ?_
      refine lv_aload_n hx hb dX7_lays_30 rfl (lv_at hl 0 rfl) ?_
      refine zget hx hb hts inX7 hown hK hw 0 (by decide) rfl rfl 0 (by decide) lk3 (fun _ h9 => h9) rfl dX7_lays_31 ?_
      refine lv_bipush (v := (jI 7)) hx hb dX7_lays_34 (by decide +kernel) ?_
      refine ziald hx hb hK hw 1 (by decide) rfl h.1 dX7_lays_36 ?_
      refine lv_topi (fun v4 ev4 => ?_)
      have h := h.2 v4 ev4
      refine lv_iadd hx hb dX7_lays_37 ?_
      refine lv_iload_n hx hb dX7_lays_38 rfl (lv_at hl 1 rfl) ?_
      obtain ⟨s18, es18⟩ : ∃ y : ST, y = zrp s17 0 ((jI 8) + v4).toNatClampNeg p0 := ⟨_, rfl⟩
      refine ziast hx hb hK hj hw hA hS 1 (by decide) rfl h.1 dX7_lays_39 (zme cy ad s18) (by rw [es18]; exact zrp_on_M_0) (fun j hj9 => by rw [es18]; exact zrp_off_M_0 j hj9) (fun H locs hw hS => ?_)
      have h := h.2 s18 es18
      refine lv_aload_n hx hb dX7_lays_40 rfl (lv_at hl 0 rfl) ?_
      refine zget hx hb hts inX7 hown hK hw 0 (by decide) rfl rfl 0 (by decide) lk3 (fun _ h9 => h9) rfl dX7_lays_41 ?_
      refine lv_bipush (v := (jI 7)) hx hb dX7_lays_44 (by decide +kernel) ?_
      refine lv_dup2_11 hx hb dX7_lays_46 rfl rfl ?_
      refine ziald hx hb hK hw 1 (by decide) rfl h.1 dX7_lays_47 ?_
      refine lv_topi (fun v5 ev5 => ?_)
      have h := h.2 v5 ev5
      refine lv_iconst (v := (jI 1)) hx hb dX7_lays_48 rfl ?_
      refine lv_iadd hx hb dX7_lays_49 ?_
      obtain ⟨s19, es19⟩ : ∃ y : ST, y = zrp s18 0 (jI 7).toNatClampNeg (v5 + (jI 1)) := ⟨_, rfl⟩
      refine ziast hx hb hK hj hw hA hS 1 (by decide) rfl h.1 dX7_lays_50 (zme cy ad s19) (by rw [es19]; exact zrp_on_M_0) (fun j hj9 => by rw [es19]; exact zrp_off_M_0 j hj9) (fun H locs hw hS => ?_)
      have h := h.2 s19 es19
      refine lv_aload_n hx hb dX7_lays_51 rfl (lv_at hl 0 rfl) ?_
      refine zget hx hb hts inX7 hown hK hw 0 (by decide) rfl rfl 0 (by decide) lk3 (fun _ h9 => h9) rfl dX7_lays_52 ?_
      refine lv_bipush (v := (jI 119)) hx hb dX7_lays_55 (by decide +kernel) ?_
      refine lv_bipush (v := (jI 6)) hx hb dX7_lays_57 (by decide +kernel) ?_
      refine lv_iload_n hx hb dX7_lays_59 rfl (lv_at hl 1 rfl) ?_
      refine lv_imul hx hb dX7_lays_60 ?_
      refine lv_iadd hx hb dX7_lays_61 ?_
      refine lv_iconst (v := (jI 3)) hx hb dX7_lays_62 rfl ?_
      obtain ⟨s20, es20⟩ : ∃ y : ST, y = zrp s19 0 ((jI 119) + ((jI 6) * p0)).toNatClampNeg (jI 3) := ⟨_, rfl⟩
      refine ziast hx hb hK hj hw hA hS 1 (by decide) rfl h.1 dX7_lays_63 (zme cy ad s20) (by rw [es20]; exact zrp_on_M_0) (fun j hj9 => by rw [es20]; exact zrp_off_M_0 j hj9) (fun H locs hw hS => ?_)
      have h := h.2 s20 es20
      exact W.vret hx hb hr (fun t ht hW => ⟨⟨_, rfl, h, zend hw ht⟩, hS.F ht⟩) hS.2.2 dX7_lays_64
theorem k_X7_lays {p : Program} {l : Launch} {e : Env} {R : Room} {s : State} {m : MethodId} {args : Array Value} {below : List Frame} {meth : Method} {c : Code} {H : Heap} {locs : List Loc} {cells slots : Nat} {QQ : State → Prop} {cc : ByteArray} {pc nL index : Nat} {ls : Array Slot} {rest : List Value} {D : va_G} {cy : cyT} {ad : Nat → Nat} {own : String} {Ts : List Cond} {H0 : Heap} {σ : ST} {p0 : Int32} {Q : ST → Prop} (hx : p.tables.exec = Jvm.exec) (hb : c.code = cc) (hml : c.maxLocals = nL) (hown : s.vm.findClass own = some m.cls) (hts : ∀ w ∈ Ts, w.before args s = true) (hG : GoodIn Ts (wsV own index RX7 yX7_lays wsX7_lays)) (hR : 2 + 1 ≤ R.frames ∧ 8 + (3 + 11) + 45 ≤ R.locals) (hcs : cells ≤ R.cells ∧ slots ≤ R.slots) (hK : zK D cy s) (hj : zI 6 ad) (hw : zW D 6 (zme cy ad σ) ad H) {A0 : Nat → Prop} (hA : ∀ i, i < 6 → A0 (ad i)) (hS : va_S A0 H0 H locs) (hsz : ls.size = nL) (hrest : (rest.map fun v => v.category).sum ≤ 8) (hdg : decode cc pc = .ok (.invokevirtual index, 3)) (h : wp_X7_lays σ p0 Q) (kk : ∀ (σ : ST) (H : Heap) (locs : List Loc), Q σ → zW D 6 (zme cy ad σ) ad H → va_S A0 H0 H locs → W p l e R s m args below meth c H locs cells slots QQ (F0 m (pc + 3) ls rest)) : W p l e R s m args below meth c H locs cells slots QQ (F0 m pc ls (.int p0 :: .ref (ad 0) :: rest)) :=
  zcallv (va_runV (As := [.int p0]) (rest := rest) ⟨hx, hb, hml, hown, hts⟩ (c_X7_lays l D cy ad σ p0 h) (cwV 1 hts hG rfl rfl rfl (by decide +kernel) hR) (zpreV hj hK hw _ (i := 0) (ci := 6) (by decide) rfl rfl) rfl rfl hsz rfl (lv_room hrest) hdg hcs) hA hS kk
set_option maxHeartbeats 4000000 in
set_option maxRecDepth 100000 in
theorem c_X7_uses (l : Launch) (D : va_G) (cy : cyT) (ad : Nat → Nat) (σ : ST) (p0 : Int32) {Q : Int32 → ST → Prop} (h : wp_X7_uses σ p0 Q) : Met l yX7_uses wsX7_uses ({ frames := 6, cells := 0, slots := 0, locals := 135 } : Room) (zPre D cy 6 (zme cy ad σ) ad [.ref (ad 0), .int p0]) (va_Qi Q (zB D 6 (zme cy ad) ad) (zA 6 ad)) 0 0 (zA 6 ad) := by
  refine Met.ofW (cc := cX7_uses) (maxL := 3) (ret := (some .int)) (by decide) rfl ?_
  intro p e s m args below meth c s₁ B hml hv
  obtain ⟨rfl, hj, hK, hw⟩ := hv
  have hx := B.exec
  have hb := B.bytes
  have hr := B.returns
  have hts := atoms_spec (ws := wsX7_uses) B.pre
  have hown : s.vm.findClass RX7 = some m.cls := findClass_of_methodNamed B.named
  have hlocks := B.notSynchronized
  have lk0 : Cond.fieldLink RX7 68 "TypeTraysModel" "rule" "I" ∈ wsX7_uses := List.mem_of_getElem? (i := 1) rfl
  have lk1 : Cond.fieldLink RX7 7 "TypeTraysModel" "w" "[I" ∈ wsX7_uses := List.mem_of_getElem? (i := 2) rfl
  have inX7 : ∀ w ∈ u_ws RX7 TX7 16, w ∈ wsX7_uses := zin_at 98 rfl
  have hS : va_S (zA 6 ad) s.heap s.heap [] := va_S.rf
  have hA : ∀ i, i < 6 → zA 6 ad (ad i) := fun i hi => ⟨i, hi, rfl⟩
  have hl := lv_entry ([.ref (ad 0), .int p0]) (n := 3) (Nat.le_of_ble_eq_true rfl)
  rw [lg_entry_eq]
  generalize (lg_sl ([.ref (ad 0), .int p0]) ++ List.replicate (3 - (lg_sl ([.ref (ad 0), .int p0])).length) Slot.unset).toArray = ls at hl ⊢
  have hl : lv_has ls 3 [(0, .ref (ad 0)), (1, .int p0)] := hl
  show W p l e ({ frames := 6, cells := 0, slots := 0, locals := 135 } : Room) s m ([.ref (ad 0), .int p0] : List Value).toArray below meth c s.heap [] 0 0 (MQ below (va_Qi Q (zB D 6 (zme cy ad) ad) (zA 6 ad)) ([.ref (ad 0), .int p0] : List Value).toArray s 0 0 (zA 6 ad)) (F0 m 0 ls [])
  unfold wp_X7_uses at h
  refine lv_aload_n hx hb dX7_uses_0 rfl (lv_at hl 0 rfl) ?_
  refine lv_iload_n hx hb dX7_uses_1 rfl (lv_at hl 1 rfl) ?_
  refine k_X7_looks (rest := []) hx hb hml hown hts gX7_uses_X7_looks ⟨Nat.le_of_ble_eq_true rfl, Nat.le_of_ble_eq_true rfl⟩ ⟨Nat.zero_le _, Nat.zero_le _⟩ hK hj hw hA hS hl.1 (Nat.le_of_ble_eq_true rfl) dX7_uses_2 h (fun s1 H locs h hw hS => ?_)
  refine lv_aload_n hx hb dX7_uses_5 rfl (lv_at hl 0 rfl) ?_
  refine zget hx hb hts inX7 hown hK hw 0 (by decide) rfl rfl 5 (by decide) lk0 (fun _ h9 => h9) rfl dX7_uses_6 ?_
  refine lv_iconst (v := (jI (-1))) hx hb dX7_uses_9 rfl ?_
  refine lv_icmp_ne (tgt := 15) hx hb dX7_uses_10 (by decide) (fun c1 => ?_) (fun c1 => ?_)
  · have h := h.2 c1
    refine lv_bipush (v := (jI 119)) hx hb dX7_uses_15 (by decide +kernel) ?_
    refine lv_bipush (v := (jI 6)) hx hb dX7_uses_17 (by decide +kernel) ?_
    refine lv_iload_n hx hb dX7_uses_19 rfl (lv_at hl 1 rfl) ?_
    refine lv_imul hx hb dX7_uses_20 ?_
    refine lv_iadd hx hb dX7_uses_21 ?_
    refine lv_topi (fun x1 ex1 => ?_)
    have h := h x1 ex1
    refine lv_istore_n (lv' := [(2, .int x1), (0, .ref (ad 0)), (1, .int p0)]) hx hb dX7_uses_22 rfl hl (by decide) rfl (fun ls hl => ?_)
    refine lv_aload_n hx hb dX7_uses_23 rfl (lv_at hl 1 rfl) ?_
    refine zget hx hb hts inX7 hown hK hw 0 (by decide) rfl rfl 5 (by decide) lk0 (fun _ h9 => h9) rfl dX7_uses_24 ?_
    refine zif_le (tgt := 72) hx hb dX7_uses_27 (by decide) (fun c2 => ?_) (fun c2 => ?_)
    · have h := h.1 c2
      refine lv_aload_n hx hb dX7_uses_72 rfl (lv_at hl 1 rfl) ?_
      refine zget hx hb hts inX7 hown hK hw 0 (by decide) rfl rfl 0 (by decide) lk1 (fun _ h9 => h9) rfl dX7_uses_73 ?_
      refine lv_iconst (v := (jI 3)) hx hb dX7_uses_76 rfl ?_
      refine lv_dup2_11 hx hb dX7_uses_77 rfl rfl ?_
      refine ziald hx hb hK hw 1 (by decide) rfl h.1 dX7_uses_78 ?_
      refine lv_topi (fun v1 ev1 => ?_)
      have h := h.2 v1 ev1
      refine lv_iconst (v := (jI 1)) hx hb dX7_uses_79 rfl ?_
      refine lv_iadd hx hb dX7_uses_80 ?_
      obtain ⟨s2, es2⟩ : ∃ y : ST, y = zrp s1 0 (jI 3).toNatClampNeg (v1 + (jI 1)) := ⟨_, rfl⟩
      refine ziast hx hb hK hj hw hA hS 1 (by decide) rfl h.1 dX7_uses_81 (zme cy ad s2) (by rw [es2]; exact zrp_on_M_0) (fun j hj9 => by rw [es2]; exact zrp_off_M_0 j hj9) (fun H locs hw hS => ?_)
      have h := h.2 s2 es2
      refine lv_aload_n hx hb dX7_uses_82 rfl (lv_at hl 1 rfl) ?_
      refine zget hx hb hts inX7 hown hK hw 0 (by decide) rfl rfl 0 (by decide) lk1 (fun _ h9 => h9) rfl dX7_uses_83 ?_
      refine lv_iconst (v := (jI 2)) hx hb dX7_uses_86 rfl ?_
      refine lv_dup2_11 hx hb dX7_uses_87 rfl rfl ?_
      refine ziald hx hb hK hw 1 (by decide) rfl h.1 dX7_uses_88 ?_
      refine lv_topi (fun v2 ev2 => ?_)
      have h := h.2 v2 ev2
      refine lv_iconst (v := (jI 1)) hx hb dX7_uses_89 rfl ?_
      refine lv_iadd hx hb dX7_uses_90 ?_
      obtain ⟨s3, es3⟩ : ∃ y : ST, y = zrp s2 0 (jI 2).toNatClampNeg (v2 + (jI 1)) := ⟨_, rfl⟩
      refine ziast hx hb hK hj hw hA hS 1 (by decide) rfl h.1 dX7_uses_91 (zme cy ad s3) (by rw [es3]; exact zrp_on_M_0) (fun j hj9 => by rw [es3]; exact zrp_off_M_0 j hj9) (fun H locs hw hS => ?_)
      have h := h.2 s3 es3
      refine lv_aload_n hx hb dX7_uses_92 rfl (lv_at hl 1 rfl) ?_
      refine zget hx hb hts inX7 hown hK hw 0 (by decide) rfl rfl 0 (by decide) lk1 (fun _ h9 => h9) rfl dX7_uses_93 ?_
      refine lv_iload_n hx hb dX7_uses_96 rfl (lv_at hl 0 rfl) ?_
      refine lv_iconst (v := (jI 3)) hx hb dX7_uses_97 rfl ?_
      refine lv_iadd hx hb dX7_uses_98 ?_
      refine lv_aload_n hx hb dX7_uses_99 rfl (lv_at hl 1 rfl) ?_
      refine zget hx hb hts inX7 hown hK hw 0 (by decide) rfl rfl 0 (by decide) lk1 (fun _ h9 => h9) rfl dX7_uses_100 ?_
      refine lv_iconst (v := (jI 2)) hx hb dX7_uses_103 rfl ?_
      refine ziald hx hb hK hw 1 (by decide) rfl h.1 dX7_uses_104 ?_
      refine lv_topi (fun v3 ev3 => ?_)
      have h := h.2 v3 ev3
      obtain ⟨s4, es4⟩ : ∃ y : ST, y = zrp s3 0 (x1 + (jI 3)).toNatClampNeg v3 := ⟨_, rfl⟩
      refine ziast hx hb hK hj hw hA hS 1 (by decide) rfl h.1 dX7_uses_105 (zme cy ad s4) (by rw [es4]; exact zrp_on_M_0) (fun j hj9 => by rw [es4]; exact zrp_off_M_0 j hj9) (fun H locs hw hS => ?_)
      have h := h.2 s4 es4
      refine lv_aload_n hx hb dX7_uses_106 rfl (lv_at hl 1 rfl) ?_
      refine zget hx hb hts inX7 hown hK hw 0 (by decide) rfl rfl 0 (by decide) lk1 (fun _ h9 => h9) rfl dX7_uses_107 ?_
      refine lv_iload_n hx hb dX7_uses_110 rfl (lv_at hl 0 rfl) ?_
      refine lv_iconst (v := (jI 4)) hx hb dX7_uses_111 rfl ?_
      refine lv_iadd hx hb dX7_uses_112 ?_
      refine lv_aload_n hx hb dX7_uses_113 rfl (lv_at hl 1 rfl) ?_
      refine zget hx hb hts inX7 hown hK hw 0 (by decide) rfl rfl 0 (by decide) lk1 (fun _ h9 => h9) rfl dX7_uses_114 ?_
      refine lv_iconst (v := (jI 1)) hx hb dX7_uses_117 rfl ?_
      refine ziald hx hb hK hw 1 (by decide) rfl h.1 dX7_uses_118 ?_
      refine lv_topi (fun v4 ev4 => ?_)
      have h := h.2 v4 ev4
      obtain ⟨s5, es5⟩ : ∃ y : ST, y = zrp s4 0 (x1 + (jI 4)).toNatClampNeg v4 := ⟨_, rfl⟩
      refine ziast hx hb hK hj hw hA hS 1 (by decide) rfl h.1 dX7_uses_119 (zme cy ad s5) (by rw [es5]; exact zrp_on_M_0) (fun j hj9 => by rw [es5]; exact zrp_off_M_0 j hj9) (fun H locs hw hS => ?_)
      have h := h.2 s5 es5
      refine lv_aload_n hx hb dX7_uses_120 rfl (lv_at hl 1 rfl) ?_
      refine zget hx hb hts inX7 hown hK hw 0 (by decide) rfl rfl 0 (by decide) lk1 (fun _ h9 => h9) rfl dX7_uses_121 ?_
      refine lv_iload_n hx hb dX7_uses_124 rfl (lv_at hl 0 rfl) ?_
      refine lv_iconst (v := (jI 5)) hx hb dX7_uses_125 rfl ?_
      refine lv_iadd hx hb dX7_uses_126 ?_
      refine lv_topi (fun x2 ex2 => ?_)
      have h := h x2 ex2
      refine lv_dup2_11 hx hb dX7_uses_127 rfl rfl ?_
      refine ziald hx hb hK hw 1 (by decide) rfl h.1 dX7_uses_128 ?_
      refine lv_topi (fun v5 ev5 => ?_)
      have h := h.2 v5 ev5
      refine lv_iconst (v := (jI 1)) hx hb dX7_uses_129 rfl ?_
      refine lv_iadd hx hb dX7_uses_130 ?_
      obtain ⟨s6, es6⟩ : ∃ y : ST, y = zrp s5 0 x2.toNatClampNeg (v5 + (jI 1)) := ⟨_, rfl⟩
      refine ziast hx hb hK hj hw hA hS 1 (by decide) rfl h.1 dX7_uses_131 (zme cy ad s6) (by rw [es6]; exact zrp_on_M_0) (fun j hj9 => by rw [es6]; exact zrp_off_M_0 j hj9) (fun H locs hw hS => ?_)
      have h := h.2 s6 es6
      refine lv_aload_n hx hb dX7_uses_132 rfl (lv_at hl 1 rfl) ?_
      refine zget hx hb hts inX7 hown hK hw 0 (by decide) rfl rfl 5 (by decide) lk0 (fun _ h9 => h9) rfl dX7_uses_133 ?_
      exact W.iret (v := (s6.2 2)) hx hb hr (fun t ht hW => ⟨⟨_, _, rfl, h, zend hw ht⟩, hS.F ht⟩) hS.2.2 dX7_uses_136
    · have h := h.2 c2
      refine lv_aload_n hx hb dX7_uses_30 rfl (lv_at hl 1 rfl) ?_
      refine zget hx hb hts inX7 hown hK hw 0 (by decide) rfl rfl 0 (by decide) lk1 (fun _ h9 => h9) rfl dX7_uses_31 ?_
      refine lv_bipush (v := (jI 6)) hx hb dX7_uses_34 (by decide +kernel) ?_
      refine lv_dup2_11 hx hb dX7_uses_36 rfl rfl ?_
      refine ziald hx hb hK hw 1 (by decide) rfl h.1 dX7_uses_37 ?_
      refine lv_topi (fun v6 ev6 => ?_)
      have h := h.2 v6 ev6
      refine lv_aload_n hx hb dX7_uses_38 rfl (lv_at hl 1 rfl) ?_
      refine lv_iload_n hx hb dX7_uses_39 rfl (lv_at hl 2 rfl) ?_
      refine k_X7_inks (rest := [.int v6, .int (jI 6), .ref (ad 1)]) hx hb hml hown hts gX7_uses_X7_inks ⟨Nat.le_of_ble_eq_true rfl, Nat.le_of_ble_eq_true rfl⟩ ⟨Nat.zero_le _, Nat.zero_le _⟩ hK hj hw hA hS hl.1 (Nat.le_of_ble_eq_true rfl) dX7_uses_40 h (fun r1 s7 H locs h hw hS => ?_)
      refine lv_iadd hx hb dX7_uses_43 ?_
      obtain ⟨s8, es8⟩ : ∃ y : ST, y = zrp s7 0 (jI 6).toNatClampNeg (v6 + r1) := ⟨_, rfl⟩
      refine ziast hx hb hK hj hw hA hS 1 (by decide) rfl h.1 dX7_uses_44 (zme cy ad s8) (by rw [es8]; exact zrp_on_M_0) (fun j hj9 => by rw [es8]; exact zrp_off_M_0 j hj9) (fun H locs hw hS => ?_)
      have h := h.2 s8 es8
      refine lv_aload_n hx hb dX7_uses_45 rfl (lv_at hl 1 rfl) ?_
      refine zget hx hb hts inX7 hown hK hw 0 (by decide) rfl rfl 0 (by decide) lk1 (fun _ h9 => h9) rfl dX7_uses_46 ?_
      refine lv_iconst (v := (jI 4)) hx hb dX7_uses_49 rfl ?_
      refine lv_dup2_11 hx hb dX7_uses_50 rfl rfl ?_
      refine ziald hx hb hK hw 1 (by decide) rfl h.1 dX7_uses_51 ?_
      refine lv_topi (fun v7 ev7 => ?_)
      have h := h.2 v7 ev7
      refine lv_iconst (v := (jI 1)) hx hb dX7_uses_52 rfl ?_
      refine lv_iadd hx hb dX7_uses_53 ?_
      obtain ⟨s9, es9⟩ : ∃ y : ST, y = zrp s8 0 (jI 4).toNatClampNeg (v7 + (jI 1)) := ⟨_, rfl⟩
      refine ziast hx hb hK hj hw hA hS 1 (by decide) rfl h.1 dX7_uses_54 (zme cy ad s9) (by rw [es9]; exact zrp_on_M_0) (fun j hj9 => by rw [es9]; exact zrp_off_M_0 j hj9) (fun H locs hw hS => ?_)
      have h := h.2 s9 es9
      refine lv_aload_n hx hb dX7_uses_55 rfl (lv_at hl 1 rfl) ?_
      refine lv_iload_n hx hb dX7_uses_56 rfl (lv_at hl 2 rfl) ?_
      refine k_X7_lays (rest := []) hx hb hml hown hts gX7_uses_X7_lays ⟨Nat.le_of_ble_eq_true rfl, Nat.le_of_ble_eq_true rfl⟩ ⟨Nat.zero_le _, Nat.zero_le _⟩ hK hj hw hA hS hl.1 (Nat.le_of_ble_eq_true rfl) dX7_uses_57 h (fun s10 H locs h hw hS => ?_)
      refine lv_aload_n hx hb dX7_uses_60 rfl (lv_at hl 1 rfl) ?_
      refine zget hx hb hts inX7 hown hK hw 0 (by decide) rfl rfl 0 (by decide) lk1 (fun _ h9 => h9) rfl dX7_uses_61 ?_
      refine lv_iload_n hx hb dX7_uses_64 rfl (lv_at hl 0 rfl) ?_
      refine lv_iconst (v := (jI 5)) hx hb dX7_uses_65 rfl ?_
      refine lv_iadd hx hb dX7_uses_66 ?_
      refine lv_iconst (v := (jI 0)) hx hb dX7_uses_67 rfl ?_
      obtain ⟨s11, es11⟩ : ∃ y : ST, y = zrp s10 0 (x1 + (jI 5)).toNatClampNeg (jI 0) := ⟨_, rfl⟩
      refine ziast hx hb hK hj hw hA hS 1 (by decide) rfl h.1 dX7_uses_68 (zme cy ad s11) (by rw [es11]; exact zrp_on_M_0) (fun j hj9 => by rw [es11]; exact zrp_off_M_0 j hj9) (fun H locs hw hS => ?_)
      have h := h.2 s11 es11
      refine lv_goto (tgt := 82) hx hb dX7_uses_69 (by decide) ?_
      refine lv_aload_n hx hb dX7_uses_82 rfl (lv_at hl 1 rfl) ?_
      refine zget hx hb hts inX7 hown hK hw 0 (by decide) rfl rfl 0 (by decide) lk1 (fun _ h9 => h9) rfl dX7_uses_83 ?_
      refine lv_iconst (v := (jI 2)) hx hb dX7_uses_86 rfl ?_
      refine lv_dup2_11 hx hb dX7_uses_87 rfl rfl ?_
      refine ziald hx hb hK hw 1 (by decide) rfl h.1 dX7_uses_88 ?_
      refine lv_topi (fun v8 ev8 => ?_)
      have h := h.2 v8 ev8
      refine lv_iconst (v := (jI 1)) hx hb dX7_uses_89 rfl ?_
      refine lv_iadd hx hb dX7_uses_90 ?_
      obtain ⟨s12, es12⟩ : ∃ y : ST, y = zrp s11 0 (jI 2).toNatClampNeg (v8 + (jI 1)) := ⟨_, rfl⟩
      refine ziast hx hb hK hj hw hA hS 1 (by decide) rfl h.1 dX7_uses_91 (zme cy ad s12) (by rw [es12]; exact zrp_on_M_0) (fun j hj9 => by rw [es12]; exact zrp_off_M_0 j hj9) (fun H locs hw hS => ?_)
      have h := h.2 s12 es12
      refine lv_aload_n hx hb dX7_uses_92 rfl (lv_at hl 1 rfl) ?_
      refine zget hx hb hts inX7 hown hK hw 0 (by decide) rfl rfl 0 (by decide) lk1 (fun _ h9 => h9) rfl dX7_uses_93 ?_
      refine lv_iload_n hx hb dX7_uses_96 rfl (lv_at hl 0 rfl) ?_
      refine lv_iconst (v := (jI 3)) hx hb dX7_uses_97 rfl ?_
      refine lv_iadd hx hb dX7_uses_98 ?_
      refine lv_aload_n hx hb dX7_uses_99 rfl (lv_at hl 1 rfl) ?_
      refine zget hx hb hts inX7 hown hK hw 0 (by decide) rfl rfl 0 (by decide) lk1 (fun _ h9 => h9) rfl dX7_uses_100 ?_
      refine lv_iconst (v := (jI 2)) hx hb dX7_uses_103 rfl ?_
      refine ziald hx hb hK hw 1 (by decide) rfl h.1 dX7_uses_104 ?_
      refine lv_topi (fun v9 ev9 => ?_)
      have h := h.2 v9 ev9
      obtain ⟨s13, es13⟩ : ∃ y : ST, y = zrp s12 0 (x1 + (jI 3)).toNatClampNeg v9 := ⟨_, rfl⟩
      refine ziast hx hb hK hj hw hA hS 1 (by decide) rfl h.1 dX7_uses_105 (zme cy ad s13) (by rw [es13]; exact zrp_on_M_0) (fun j hj9 => by rw [es13]; exact zrp_off_M_0 j hj9) (fun H locs hw hS => ?_)
      have h := h.2 s13 es13
      refine lv_aload_n hx hb dX7_uses_106 rfl (lv_at hl 1 rfl) ?_
      refine zget hx hb hts inX7 hown hK hw 0 (by decide) rfl rfl 0 (by decide) lk1 (fun _ h9 => h9) rfl dX7_uses_107 ?_
      refine lv_iload_n hx hb dX7_uses_110 rfl (lv_at hl 0 rfl) ?_
      refine lv_iconst (v := (jI 4)) hx hb dX7_uses_111 rfl ?_
      refine lv_iadd hx hb dX7_uses_112 ?_
      refine lv_aload_n hx hb dX7_uses_113 rfl (lv_at hl 1 rfl) ?_
      refine zget hx hb hts inX7 hown hK hw 0 (by decide) rfl rfl 0 (by decide) lk1 (fun _ h9 => h9) rfl dX7_uses_114 ?_
      refine lv_iconst (v := (jI 1)) hx hb dX7_uses_117 rfl ?_
      refine ziald hx hb hK hw 1 (by decide) rfl h.1 dX7_uses_118 ?_
      refine lv_topi (fun v10 ev10 => ?_)
      have h := h.2 v10 ev10
      obtain ⟨s14, es14⟩ : ∃ y : ST, y = zrp s13 0 (x1 + (jI 4)).toNatClampNeg v10 := ⟨_, rfl⟩
      refine ziast hx hb hK hj hw hA hS 1 (by decide) rfl h.1 dX7_uses_119 (zme cy ad s14) (by rw [es14]; exact zrp_on_M_0) (fun j hj9 => by rw [es14]; exact zrp_off_M_0 j hj9) (fun H locs hw hS => ?_)
      have h := h.2 s14 es14
      refine lv_aload_n hx hb dX7_uses_120 rfl (lv_at hl 1 rfl) ?_
      refine zget hx hb hts inX7 hown hK hw 0 (by decide) rfl rfl 0 (by decide) lk1 (fun _ h9 => h9) rfl dX7_uses_121 ?_
      refine lv_iload_n hx hb dX7_uses_124 rfl (lv_at hl 0 rfl) ?_
      refine lv_iconst (v := (jI 5)) hx hb dX7_uses_125 rfl ?_
      refine lv_iadd hx hb dX7_uses_126 ?_
      refine lv_topi (fun x3 ex3 => ?_)
      have h := h x3 ex3
      refine lv_dup2_11 hx hb dX7_uses_127 rfl rfl ?_
      refine ziald hx hb hK hw 1 (by decide) rfl h.1 dX7_uses_128 ?_
      refine lv_topi (fun v11 ev11 => ?_)
      have h := h.2 v11 ev11
      refine lv_iconst (v := (jI 1)) hx hb dX7_uses_129 rfl ?_
      refine lv_iadd hx hb dX7_uses_130 ?_
      obtain ⟨s15, es15⟩ : ∃ y : ST, y = zrp s14 0 x3.toNatClampNeg (v11 + (jI 1)) := ⟨_, rfl⟩
      refine ziast hx hb hK hj hw hA hS 1 (by decide) rfl h.1 dX7_uses_131 (zme cy ad s15) (by rw [es15]; exact zrp_on_M_0) (fun j hj9 => by rw [es15]; exact zrp_off_M_0 j hj9) (fun H locs hw hS => ?_)
      have h := h.2 s15 es15
      refine lv_aload_n hx hb dX7_uses_132 rfl (lv_at hl 1 rfl) ?_
      refine zget hx hb hts inX7 hown hK hw 0 (by decide) rfl rfl 5 (by decide) lk0 (fun _ h9 => h9) rfl dX7_uses_133 ?_
      exact W.iret (v := (s15.2 2)) hx hb hr (fun t ht hW => ⟨⟨_, _, rfl, h, zend hw ht⟩, hS.F ht⟩) hS.2.2 dX7_uses_136
  · have h := h.1 c1
    refine lv_iconst (v := (jI (-1))) hx hb dX7_uses_13 rfl ?_
    exact W.iret (v := (jI (-1))) hx hb hr (fun t ht hW => ⟨⟨_, _, rfl, h, zend hw ht⟩, hS.F ht⟩) hS.2.2 dX7_uses_14
theorem k_X7_uses {p : Program} {l : Launch} {e : Env} {R : Room} {s : State} {m : MethodId} {args : Array Value} {below : List Frame} {meth : Method} {c : Code} {H : Heap} {locs : List Loc} {cells slots : Nat} {QQ : State → Prop} {cc : ByteArray} {pc nL index : Nat} {ls : Array Slot} {rest : List Value} {D : va_G} {cy : cyT} {ad : Nat → Nat} {own : String} {Ts : List Cond} {H0 : Heap} {σ : ST} {p0 : Int32} {Q : Int32 → ST → Prop} (hx : p.tables.exec = Jvm.exec) (hb : c.code = cc) (hml : c.maxLocals = nL) (hown : s.vm.findClass own = some m.cls) (hts : ∀ w ∈ Ts, w.before args s = true) (hG : GoodIn Ts (wsV own index RX7 yX7_uses wsX7_uses)) (hR : 6 + 1 ≤ R.frames ∧ 8 + (3 + 11) + 135 ≤ R.locals) (hcs : cells ≤ R.cells ∧ slots ≤ R.slots) (hK : zK D cy s) (hj : zI 6 ad) (hw : zW D 6 (zme cy ad σ) ad H) {A0 : Nat → Prop} (hA : ∀ i, i < 6 → A0 (ad i)) (hS : va_S A0 H0 H locs) (hsz : ls.size = nL) (hrest : (rest.map fun v => v.category).sum ≤ 8) (hdg : decode cc pc = .ok (.invokevirtual index, 3)) (h : wp_X7_uses σ p0 Q) (kk : ∀ (r : Int32) (σ : ST) (H : Heap) (locs : List Loc), Q r σ → zW D 6 (zme cy ad σ) ad H → va_S A0 H0 H locs → W p l e R s m args below meth c H locs cells slots QQ (F0 m (pc + 3) ls (.int r :: rest))) : W p l e R s m args below meth c H locs cells slots QQ (F0 m pc ls (.int p0 :: .ref (ad 0) :: rest)) :=
  zcalli (va_runV (As := [.int p0]) (rest := rest) ⟨hx, hb, hml, hown, hts⟩ (c_X7_uses l D cy ad σ p0 h) (cwV 1 hts hG rfl rfl rfl (by decide +kernel) hR) (zpreV hj hK hw _ (i := 0) (ci := 6) (by decide) rfl rfl) rfl rfl hsz rfl (lv_room hrest) hdg hcs) hA hS kk
set_option maxHeartbeats 4000000 in
set_option maxRecDepth 100000 in
theorem c_X7_cuts (l : Launch) (D : va_G) (cy : cyT) (ad : Nat → Nat) (σ : ST) (p0 : Int32) (p1 : Int32) (p2 : Int32) {Q : Int32 → ST → Prop} (h : wp_X7_cuts σ p0 p1 p2 Q) : Met l yX7_cuts wsX7_cuts ({ frames := 2, cells := 0, slots := 0, locals := 45 } : Room) (zPre D cy 6 (zme cy ad σ) ad [.ref (ad 0), .int p0, .int p1, .int p2]) (va_Qi Q (zB D 6 (zme cy ad) ad) (zA 6 ad)) 0 0 (zA 6 ad) := by
  refine Met.ofW (cc := cX7_cuts) (maxL := 6) (ret := (some .int)) (by decide) rfl ?_
  intro p e s m args below meth c s₁ B hml hv
  obtain ⟨rfl, hj, hK, hw⟩ := hv
  have hx := B.exec
  have hb := B.bytes
  have hr := B.returns
  have hts := atoms_spec (ws := wsX7_cuts) B.pre
  have hown : s.vm.findClass RX7 = some m.cls := findClass_of_methodNamed B.named
  have hlocks := B.notSynchronized
  have lk0 : Cond.fieldLink RX7 7 "TypeTraysModel" "w" "[I" ∈ wsX7_cuts := List.mem_of_getElem? (i := 1) rfl
  have inX7 : ∀ w ∈ u_ws RX7 TX7 16, w ∈ wsX7_cuts := zin_at 15 rfl
  have hS : va_S (zA 6 ad) s.heap s.heap [] := va_S.rf
  have hA : ∀ i, i < 6 → zA 6 ad (ad i) := fun i hi => ⟨i, hi, rfl⟩
  have hl := lv_entry ([.ref (ad 0), .int p0, .int p1, .int p2]) (n := 6) (Nat.le_of_ble_eq_true rfl)
  rw [lg_entry_eq]
  generalize (lg_sl ([.ref (ad 0), .int p0, .int p1, .int p2]) ++ List.replicate (6 - (lg_sl ([.ref (ad 0), .int p0, .int p1, .int p2])).length) Slot.unset).toArray = ls at hl ⊢
  have hl : lv_has ls 6 [(0, .ref (ad 0)), (1, .int p0), (2, .int p1), (3, .int p2)] := hl
  show W p l e ({ frames := 2, cells := 0, slots := 0, locals := 45 } : Room) s m ([.ref (ad 0), .int p0, .int p1, .int p2] : List Value).toArray below meth c s.heap [] 0 0 (MQ below (va_Qi Q (zB D 6 (zme cy ad) ad) (zA 6 ad)) ([.ref (ad 0), .int p0, .int p1, .int p2] : List Value).toArray s 0 0 (zA 6 ad)) (F0 m 0 ls [])
  unfold wp_X7_cuts at h
  refine lv_aload_n hx hb dX7_cuts_0 rfl (lv_at hl 0 rfl) ?_
  refine zget hx hb hts inX7 hown hK hw 0 (by decide) rfl rfl 0 (by decide) lk0 (fun _ h9 => h9) rfl dX7_cuts_1 ?_
  refine lv_bipush (v := (jI 12)) hx hb dX7_cuts_4 (by decide +kernel) ?_
  refine lv_iload_n hx hb dX7_cuts_6 rfl (lv_at hl 1 rfl) ?_
  refine lv_iadd hx hb dX7_cuts_7 ?_
  refine ziald hx hb hK hw 1 (by decide) rfl h.1 dX7_cuts_8 ?_
  refine lv_topi (fun v1 ev1 => ?_)
  have h := h.2 v1 ev1
  refine lv_iload_n hx hb dX7_cuts_9 rfl (lv_at hl 2 rfl) ?_
  refine lv_icmp_ne (tgt := 28) hx hb dX7_cuts_10 (by decide) (fun c1 => ?_) (fun c1 => ?_)
  · have h := h.2 c1
    refine lv_iconst (v := (jI 0)) hx hb dX7_cuts_28 rfl ?_
    refine lv_istore (lv' := [(4, .int (jI 0)), (0, .ref (ad 0)), (1, .int p0), (2, .int p1), (3, .int p2)]) hx hb dX7_cuts_29 hl (by decide) rfl (fun ls hl => ?_)
    refine lv_bipush (v := (jI 9)) hx hb dX7_cuts_31 (by decide +kernel) ?_
    refine lv_iload_n hx hb dX7_cuts_33 rfl (lv_at hl 2 rfl) ?_
    refine lv_imul hx hb dX7_cuts_34 ?_
    refine lv_topi (fun x1 ex1 => ?_)
    have h := h x1 ex1
    refine lv_istore (lv' := [(5, .int x1), (4, .int (jI 0)), (0, .ref (ad 0)), (1, .int p0), (2, .int p1), (3, .int p2)]) hx hb dX7_cuts_35 hl (by decide) rfl (fun ls hl => ?_)
    have k73_37 : ∀ (u_73 : ST) (z4_73 : Int32) (H : Heap) (locs : List Loc), (vp_in ((jI 12) + p0) 983 ∧ ∀ s3 : ST, s3 = zrp u_73 0 ((jI 12) + p0).toNatClampNeg p1 → (vp_in ((jI 28) + p0) 983 ∧ ∀ s4 : ST, s4 = zrp s3 0 ((jI 28) + p0).toNatClampNeg p2 → Q z4_73 s4)) → zW D 6 (zme cy ad u_73) ad H → va_S (zA 6 ad) s.heap H locs → ∀ ls : Array Slot, lv_has ls 6 [(0, .ref (ad 0)), (1, .int p0), (2, .int p1), (3, .int p2), (4, .int z4_73)] → W p l e ({ frames := 2, cells := 0, slots := 0, locals := 45 } : Room) s m ([.ref (ad 0), .int p0, .int p1, .int p2] : List Value).toArray below meth c H locs 0 0 (MQ below (va_Qi Q (zB D 6 (zme cy ad) ad) (zA 6 ad)) ([.ref (ad 0), .int p0, .int p1, .int p2] : List Value).toArray s 0 0 (zA 6 ad)) (F0 m 73 ls []) := by
      intro u_73 z4_73 H locs h hw hS ls hl
      refine lv_aload_n hx hb dX7_cuts_73 rfl (lv_at hl 0 rfl) ?_
      refine zget hx hb hts inX7 hown hK hw 0 (by decide) rfl rfl 0 (by decide) lk0 (fun _ h9 => h9) rfl dX7_cuts_74 ?_
      refine lv_bipush (v := (jI 12)) hx hb dX7_cuts_77 (by decide +kernel) ?_
      refine lv_iload_n hx hb dX7_cuts_79 rfl (lv_at hl 1 rfl) ?_
      refine lv_iadd hx hb dX7_cuts_80 ?_
      refine lv_iload_n hx hb dX7_cuts_81 rfl (lv_at hl 2 rfl) ?_
      obtain ⟨s3, es3⟩ : ∃ y : ST, y = zrp u_73 0 ((jI 12) + p0).toNatClampNeg p1 := ⟨_, rfl⟩
      refine ziast hx hb hK hj hw hA hS 1 (by decide) rfl h.1 dX7_cuts_82 (zme cy ad s3) (by rw [es3]; exact zrp_on_M_0) (fun j hj9 => by rw [es3]; exact zrp_off_M_0 j hj9) (fun H locs hw hS => ?_)
      have h := h.2 s3 es3
      refine lv_aload_n hx hb dX7_cuts_83 rfl (lv_at hl 0 rfl) ?_
      refine zget hx hb hts inX7 hown hK hw 0 (by decide) rfl rfl 0 (by decide) lk0 (fun _ h9 => h9) rfl dX7_cuts_84 ?_
      refine lv_bipush (v := (jI 28)) hx hb dX7_cuts_87 (by decide +kernel) ?_
      refine lv_iload_n hx hb dX7_cuts_89 rfl (lv_at hl 1 rfl) ?_
      refine lv_iadd hx hb dX7_cuts_90 ?_
      refine lv_iload_n hx hb dX7_cuts_91 rfl (lv_at hl 3 rfl) ?_
      obtain ⟨s4, es4⟩ : ∃ y : ST, y = zrp s3 0 ((jI 28) + p0).toNatClampNeg p2 := ⟨_, rfl⟩
      refine ziast hx hb hK hj hw hA hS 1 (by decide) rfl h.1 dX7_cuts_92 (zme cy ad s4) (by rw [es4]; exact zrp_on_M_0) (fun j hj9 => by rw [es4]; exact zrp_off_M_0 j hj9) (fun H locs hw hS => ?_)
      have h := h.2 s4 es4
      refine lv_iload hx hb dX7_cuts_93 (lv_at hl 4 rfl) ?_
      exact W.iret (v := z4_73) hx hb hr (fun t ht hW => ⟨⟨_, _, rfl, h, zend hw ht⟩, hS.F ht⟩) hS.2.2 dX7_cuts_95
    have lp37 : ∀ (nn37 : Nat) (t_37 : ST) (y4_37 : Int32) (y5_37 : Int32) (H : Heap) (locs : List Loc), wl_X7_cuts_37 (fun u_73 z4_73 => (vp_in ((jI 12) + p0) 983 ∧ ∀ s3 : ST, s3 = zrp u_73 0 ((jI 12) + p0).toNatClampNeg p1 → (vp_in ((jI 28) + p0) 983 ∧ ∀ s4 : ST, s4 = zrp s3 0 ((jI 28) + p0).toNatClampNeg p2 → Q z4_73 s4))) p0 p1 p2 nn37 t_37 y4_37 y5_37 → zW D 6 (zme cy ad t_37) ad H → va_S (zA 6 ad) s.heap H locs → ∀ ls : Array Slot, lv_has ls 6 [(0, .ref (ad 0)), (1, .int p0), (2, .int p1), (3, .int p2), (4, .int y4_37), (5, .int y5_37)] → W p l e ({ frames := 2, cells := 0, slots := 0, locals := 45 } : Room) s m ([.ref (ad 0), .int p0, .int p1, .int p2] : List Value).toArray below meth c H locs 0 0 (MQ below (va_Qi Q (zB D 6 (zme cy ad) ad) (zA 6 ad)) ([.ref (ad 0), .int p0, .int p1, .int p2] : List Value).toArray s 0 0 (zA 6 ad)) (F0 m 37 ls []) := by
      intro nn37
      induction nn37 with
      | zero => intro _ _ _ _ _ h; exact h.elim
      | succ nn37 ih37 =>
        intro t_37 y4_37 y5_37 H locs h hw hS ls hl
        simp only [wl_X7_cuts_37, wb_X7_cuts_37] at h
        refine lv_iload hx hb dX7_cuts_37 (lv_at hl 5 rfl) ?_
        refine lv_bipush (v := (jI 9)) hx hb dX7_cuts_39 (by decide +kernel) ?_
        refine lv_iload_n hx hb dX7_cuts_41 rfl (lv_at hl 1 rfl) ?_
        refine lv_imul hx hb dX7_cuts_42 ?_
        refine lv_bipush (v := (jI 9)) hx hb dX7_cuts_43 (by decide +kernel) ?_
        refine lv_iadd hx hb dX7_cuts_45 ?_
        refine lv_icmp_ge (tgt := 73) hx hb dX7_cuts_46 (by decide) (fun c2 => ?_) (fun c2 => ?_)
        · have h := h.1 c2
          exact k73_37 _ _ _ _ h hw hS _ (lv_sub hl [0, 1, 2, 3, 4] rfl)
        · have h := h.2 c2
          refine lv_aload_n hx hb dX7_cuts_49 rfl (lv_at hl 0 rfl) ?_
          refine lv_iload hx hb dX7_cuts_50 (lv_at hl 5 rfl) ?_
          refine k_X7_is (rest := []) hx hb hml hown hts gX7_cuts_X7_is ⟨Nat.le_of_ble_eq_true rfl, Nat.le_of_ble_eq_true rfl⟩ ⟨Nat.zero_le _, Nat.zero_le _⟩ hK hj hw hA hS hl.1 (Nat.le_of_ble_eq_true rfl) dX7_cuts_52 h (fun r1 s1 H locs h hw hS => ?_)
          refine zif_eq (tgt := 67) hx hb dX7_cuts_55 (by decide) (fun c3 => ?_) (fun c3 => ?_)
          · have h := h.1 c3
            obtain ⟨x2, ex2⟩ : ∃ y : Int32, y = y5_37 + (jI 1) := ⟨_, rfl⟩
            have h := h x2 ex2
            refine lv_iinc (v := x2) (lv' := [(5, .int x2), (0, .ref (ad 0)), (1, .int p0), (2, .int p1), (3, .int p2), (4, .int y4_37)]) hx hb dX7_cuts_67 hl (k := 5) rfl (by rw [ex2]; rfl) (by decide) rfl (fun ls hl => ?_)
            refine lv_goto (tgt := 37) hx hb dX7_cuts_70 (by decide) ?_
            exact ih37 _ _ _ _ _ h hw hS _ (lv_sub hl [1, 2, 3, 4, 5, 0] rfl)
          · have h := h.2 c3
            refine lv_aload_n hx hb dX7_cuts_58 rfl (lv_at hl 0 rfl) ?_
            refine lv_iload hx hb dX7_cuts_59 (lv_at hl 5 rfl) ?_
            refine k_X7_goes (rest := []) hx hb hml hown hts gX7_cuts_X7_goes ⟨Nat.le_of_ble_eq_true rfl, Nat.le_of_ble_eq_true rfl⟩ ⟨Nat.zero_le _, Nat.zero_le _⟩ hK hj hw hA hS hl.1 (Nat.le_of_ble_eq_true rfl) dX7_cuts_61 h (fun s2 H locs h hw hS => ?_)
            obtain ⟨x3, ex3⟩ : ∃ y : Int32, y = y4_37 + (jI 1) := ⟨_, rfl⟩
            have h := h x3 ex3
            refine lv_iinc (v := x3) (lv' := [(4, .int x3), (0, .ref (ad 0)), (1, .int p0), (2, .int p1), (3, .int p2), (5, .int y5_37)]) hx hb dX7_cuts_64 hl (k := 4) rfl (by rw [ex3]; rfl) (by decide) rfl (fun ls hl => ?_)
            obtain ⟨x4, ex4⟩ : ∃ y : Int32, y = y5_37 + (jI 1) := ⟨_, rfl⟩
            have h := h x4 ex4
            refine lv_iinc (v := x4) (lv' := [(5, .int x4), (4, .int x3), (0, .ref (ad 0)), (1, .int p0), (2, .int p1), (3, .int p2)]) hx hb dX7_cuts_67 hl (k := 5) rfl (by rw [ex4]; rfl) (by decide) rfl (fun ls hl => ?_)
            refine lv_goto (tgt := 37) hx hb dX7_cuts_70 (by decide) ?_
            exact ih37 _ _ _ _ _ h hw hS _ (lv_sub hl [2, 3, 4, 5, 1, 0] rfl)
    obtain ⟨nn37, h⟩ := h
    exact lp37 nn37 _ _ _ _ _ h hw hS _ (lv_sub hl [2, 3, 4, 5, 1, 0] rfl)
  · have h := h.1 c1
    refine lv_aload_n hx hb dX7_cuts_13 rfl (lv_at hl 0 rfl) ?_
    refine zget hx hb hts inX7 hown hK hw 0 (by decide) rfl rfl 0 (by decide) lk0 (fun _ h9 => h9) rfl dX7_cuts_14 ?_
    refine lv_bipush (v := (jI 28)) hx hb dX7_cuts_17 (by decide +kernel) ?_
    refine lv_iload_n hx hb dX7_cuts_19 rfl (lv_at hl 1 rfl) ?_
    refine lv_iadd hx hb dX7_cuts_20 ?_
    refine ziald hx hb hK hw 1 (by decide) rfl h.1 dX7_cuts_21 ?_
    refine lv_topi (fun v2 ev2 => ?_)
    have h := h.2 v2 ev2
    refine lv_iload_n hx hb dX7_cuts_22 rfl (lv_at hl 3 rfl) ?_
    refine lv_icmp_ne (tgt := 28) hx hb dX7_cuts_23 (by decide) (fun c4 => ?_) (fun c4 => ?_)
    · have h := h.2 c4
      refine lv_iconst (v := (jI 0)) hx hb dX7_cuts_28 rfl ?_
      refine lv_istore (lv' := [(4, .int (jI 0)), (0, .ref (ad 0)), (1, .int p0), (2, .int p1), (3, .int p2)]) hx hb dX7_cuts_29 hl (by decide) rfl (fun ls hl => ?_)
      refine lv_bipush (v := (jI 9)) hx hb dX7_cuts_31 (by decide +kernel) ?_
      refine lv_iload_n hx hb dX7_cuts_33 rfl (lv_at hl 2 rfl) ?_
      refine lv_imul hx hb dX7_cuts_34 ?_
      refine lv_topi (fun x5 ex5 => ?_)
      have h := h x5 ex5
      refine lv_istore (lv' := [(5, .int x5), (4, .int (jI 0)), (0, .ref (ad 0)), (1, .int p0), (2, .int p1), (3, .int p2)]) hx hb dX7_cuts_35 hl (by decide) rfl (fun ls hl => ?_)
      have k73_37 : ∀ (u_73 : ST) (z4_73 : Int32) (H : Heap) (locs : List Loc), (vp_in ((jI 12) + p0) 983 ∧ ∀ s7 : ST, s7 = zrp u_73 0 ((jI 12) + p0).toNatClampNeg p1 → (vp_in ((jI 28) + p0) 983 ∧ ∀ s8 : ST, s8 = zrp s7 0 ((jI 28) + p0).toNatClampNeg p2 → Q z4_73 s8)) → zW D 6 (zme cy ad u_73) ad H → va_S (zA 6 ad) s.heap H locs → ∀ ls : Array Slot, lv_has ls 6 [(0, .ref (ad 0)), (1, .int p0), (2, .int p1), (3, .int p2), (4, .int z4_73)] → W p l e ({ frames := 2, cells := 0, slots := 0, locals := 45 } : Room) s m ([.ref (ad 0), .int p0, .int p1, .int p2] : List Value).toArray below meth c H locs 0 0 (MQ below (va_Qi Q (zB D 6 (zme cy ad) ad) (zA 6 ad)) ([.ref (ad 0), .int p0, .int p1, .int p2] : List Value).toArray s 0 0 (zA 6 ad)) (F0 m 73 ls []) := by
        intro u_73 z4_73 H locs h hw hS ls hl
        refine lv_aload_n hx hb dX7_cuts_73 rfl (lv_at hl 0 rfl) ?_
        refine zget hx hb hts inX7 hown hK hw 0 (by decide) rfl rfl 0 (by decide) lk0 (fun _ h9 => h9) rfl dX7_cuts_74 ?_
        refine lv_bipush (v := (jI 12)) hx hb dX7_cuts_77 (by decide +kernel) ?_
        refine lv_iload_n hx hb dX7_cuts_79 rfl (lv_at hl 1 rfl) ?_
        refine lv_iadd hx hb dX7_cuts_80 ?_
        refine lv_iload_n hx hb dX7_cuts_81 rfl (lv_at hl 2 rfl) ?_
        obtain ⟨s7, es7⟩ : ∃ y : ST, y = zrp u_73 0 ((jI 12) + p0).toNatClampNeg p1 := ⟨_, rfl⟩
        refine ziast hx hb hK hj hw hA hS 1 (by decide) rfl h.1 dX7_cuts_82 (zme cy ad s7) (by rw [es7]; exact zrp_on_M_0) (fun j hj9 => by rw [es7]; exact zrp_off_M_0 j hj9) (fun H locs hw hS => ?_)
        have h := h.2 s7 es7
        refine lv_aload_n hx hb dX7_cuts_83 rfl (lv_at hl 0 rfl) ?_
        refine zget hx hb hts inX7 hown hK hw 0 (by decide) rfl rfl 0 (by decide) lk0 (fun _ h9 => h9) rfl dX7_cuts_84 ?_
        refine lv_bipush (v := (jI 28)) hx hb dX7_cuts_87 (by decide +kernel) ?_
        refine lv_iload_n hx hb dX7_cuts_89 rfl (lv_at hl 1 rfl) ?_
        refine lv_iadd hx hb dX7_cuts_90 ?_
        refine lv_iload_n hx hb dX7_cuts_91 rfl (lv_at hl 3 rfl) ?_
        obtain ⟨s8, es8⟩ : ∃ y : ST, y = zrp s7 0 ((jI 28) + p0).toNatClampNeg p2 := ⟨_, rfl⟩
        refine ziast hx hb hK hj hw hA hS 1 (by decide) rfl h.1 dX7_cuts_92 (zme cy ad s8) (by rw [es8]; exact zrp_on_M_0) (fun j hj9 => by rw [es8]; exact zrp_off_M_0 j hj9) (fun H locs hw hS => ?_)
        have h := h.2 s8 es8
        refine lv_iload hx hb dX7_cuts_93 (lv_at hl 4 rfl) ?_
        exact W.iret (v := z4_73) hx hb hr (fun t ht hW => ⟨⟨_, _, rfl, h, zend hw ht⟩, hS.F ht⟩) hS.2.2 dX7_cuts_95
      have lp37 : ∀ (nn37 : Nat) (t_37 : ST) (y4_37 : Int32) (y5_37 : Int32) (H : Heap) (locs : List Loc), wl_X7_cuts_37 (fun u_73 z4_73 => (vp_in ((jI 12) + p0) 983 ∧ ∀ s7 : ST, s7 = zrp u_73 0 ((jI 12) + p0).toNatClampNeg p1 → (vp_in ((jI 28) + p0) 983 ∧ ∀ s8 : ST, s8 = zrp s7 0 ((jI 28) + p0).toNatClampNeg p2 → Q z4_73 s8))) p0 p1 p2 nn37 t_37 y4_37 y5_37 → zW D 6 (zme cy ad t_37) ad H → va_S (zA 6 ad) s.heap H locs → ∀ ls : Array Slot, lv_has ls 6 [(0, .ref (ad 0)), (1, .int p0), (2, .int p1), (3, .int p2), (4, .int y4_37), (5, .int y5_37)] → W p l e ({ frames := 2, cells := 0, slots := 0, locals := 45 } : Room) s m ([.ref (ad 0), .int p0, .int p1, .int p2] : List Value).toArray below meth c H locs 0 0 (MQ below (va_Qi Q (zB D 6 (zme cy ad) ad) (zA 6 ad)) ([.ref (ad 0), .int p0, .int p1, .int p2] : List Value).toArray s 0 0 (zA 6 ad)) (F0 m 37 ls []) := by
        intro nn37
        induction nn37 with
        | zero => intro _ _ _ _ _ h; exact h.elim
        | succ nn37 ih37 =>
          intro t_37 y4_37 y5_37 H locs h hw hS ls hl
          simp only [wl_X7_cuts_37, wb_X7_cuts_37] at h
          refine lv_iload hx hb dX7_cuts_37 (lv_at hl 5 rfl) ?_
          refine lv_bipush (v := (jI 9)) hx hb dX7_cuts_39 (by decide +kernel) ?_
          refine lv_iload_n hx hb dX7_cuts_41 rfl (lv_at hl 1 rfl) ?_
          refine lv_imul hx hb dX7_cuts_42 ?_
          refine lv_bipush (v := (jI 9)) hx hb dX7_cuts_43 (by decide +kernel) ?_
          refine lv_iadd hx hb dX7_cuts_45 ?_
          refine lv_icmp_ge (tgt := 73) hx hb dX7_cuts_46 (by decide) (fun c5 => ?_) (fun c5 => ?_)
          · have h := h.1 c5
            exact k73_37 _ _ _ _ h hw hS _ (lv_sub hl [0, 1, 2, 3, 4] rfl)
          · have h := h.2 c5
            refine lv_aload_n hx hb dX7_cuts_49 rfl (lv_at hl 0 rfl) ?_
            refine lv_iload hx hb dX7_cuts_50 (lv_at hl 5 rfl) ?_
            refine k_X7_is (rest := []) hx hb hml hown hts gX7_cuts_X7_is ⟨Nat.le_of_ble_eq_true rfl, Nat.le_of_ble_eq_true rfl⟩ ⟨Nat.zero_le _, Nat.zero_le _⟩ hK hj hw hA hS hl.1 (Nat.le_of_ble_eq_true rfl) dX7_cuts_52 h (fun r2 s5 H locs h hw hS => ?_)
            refine zif_eq (tgt := 67) hx hb dX7_cuts_55 (by decide) (fun c6 => ?_) (fun c6 => ?_)
            · have h := h.1 c6
              obtain ⟨x6, ex6⟩ : ∃ y : Int32, y = y5_37 + (jI 1) := ⟨_, rfl⟩
              have h := h x6 ex6
              refine lv_iinc (v := x6) (lv' := [(5, .int x6), (0, .ref (ad 0)), (1, .int p0), (2, .int p1), (3, .int p2), (4, .int y4_37)]) hx hb dX7_cuts_67 hl (k := 5) rfl (by rw [ex6]; rfl) (by decide) rfl (fun ls hl => ?_)
              refine lv_goto (tgt := 37) hx hb dX7_cuts_70 (by decide) ?_
              exact ih37 _ _ _ _ _ h hw hS _ (lv_sub hl [1, 2, 3, 4, 5, 0] rfl)
            · have h := h.2 c6
              refine lv_aload_n hx hb dX7_cuts_58 rfl (lv_at hl 0 rfl) ?_
              refine lv_iload hx hb dX7_cuts_59 (lv_at hl 5 rfl) ?_
              refine k_X7_goes (rest := []) hx hb hml hown hts gX7_cuts_X7_goes ⟨Nat.le_of_ble_eq_true rfl, Nat.le_of_ble_eq_true rfl⟩ ⟨Nat.zero_le _, Nat.zero_le _⟩ hK hj hw hA hS hl.1 (Nat.le_of_ble_eq_true rfl) dX7_cuts_61 h (fun s6 H locs h hw hS => ?_)
              obtain ⟨x7, ex7⟩ : ∃ y : Int32, y = y4_37 + (jI 1) := ⟨_, rfl⟩
              have h := h x7 ex7
              refine lv_iinc (v := x7) (lv' := [(4, .int x7), (0, .ref (ad 0)), (1, .int p0), (2, .int p1), (3, .int p2), (5, .int y5_37)]) hx hb dX7_cuts_64 hl (k := 4) rfl (by rw [ex7]; rfl) (by decide) rfl (fun ls hl => ?_)
              obtain ⟨x8, ex8⟩ : ∃ y : Int32, y = y5_37 + (jI 1) := ⟨_, rfl⟩
              have h := h x8 ex8
              refine lv_iinc (v := x8) (lv' := [(5, .int x8), (4, .int x7), (0, .ref (ad 0)), (1, .int p0), (2, .int p1), (3, .int p2)]) hx hb dX7_cuts_67 hl (k := 5) rfl (by rw [ex8]; rfl) (by decide) rfl (fun ls hl => ?_)
              refine lv_goto (tgt := 37) hx hb dX7_cuts_70 (by decide) ?_
              exact ih37 _ _ _ _ _ h hw hS _ (lv_sub hl [2, 3, 4, 5, 1, 0] rfl)
      obtain ⟨nn37, h⟩ := h
      exact lp37 nn37 _ _ _ _ _ h hw hS _ (lv_sub hl [2, 3, 4, 5, 1, 0] rfl)
    · have h := h.1 c4
      refine lv_iconst (v := (jI 0)) hx hb dX7_cuts_26 rfl ?_
      exact W.iret (v := (jI 0)) hx hb hr (fun t ht hW => ⟨⟨_, _, rfl, h, zend hw ht⟩, hS.F ht⟩) hS.2.2 dX7_cuts_27
theorem k_X7_cuts {p : Program} {l : Launch} {e : Env} {R : Room} {s : State} {m : MethodId} {args : Array Value} {below : List Frame} {meth : Method} {c : Code} {H : Heap} {locs : List Loc} {cells slots : Nat} {QQ : State → Prop} {cc : ByteArray} {pc nL index : Nat} {ls : Array Slot} {rest : List Value} {D : va_G} {cy : cyT} {ad : Nat → Nat} {own : String} {Ts : List Cond} {H0 : Heap} {σ : ST} {p0 : Int32} {p1 : Int32} {p2 : Int32} {Q : Int32 → ST → Prop} (hx : p.tables.exec = Jvm.exec) (hb : c.code = cc) (hml : c.maxLocals = nL) (hown : s.vm.findClass own = some m.cls) (hts : ∀ w ∈ Ts, w.before args s = true) (hG : GoodIn Ts (wsV own index RX7 yX7_cuts wsX7_cuts)) (hR : 2 + 1 ≤ R.frames ∧ 8 + (6 + 11) + 45 ≤ R.locals) (hcs : cells ≤ R.cells ∧ slots ≤ R.slots) (hK : zK D cy s) (hj : zI 6 ad) (hw : zW D 6 (zme cy ad σ) ad H) {A0 : Nat → Prop} (hA : ∀ i, i < 6 → A0 (ad i)) (hS : va_S A0 H0 H locs) (hsz : ls.size = nL) (hrest : (rest.map fun v => v.category).sum ≤ 8) (hdg : decode cc pc = .ok (.invokevirtual index, 3)) (h : wp_X7_cuts σ p0 p1 p2 Q) (kk : ∀ (r : Int32) (σ : ST) (H : Heap) (locs : List Loc), Q r σ → zW D 6 (zme cy ad σ) ad H → va_S A0 H0 H locs → W p l e R s m args below meth c H locs cells slots QQ (F0 m (pc + 3) ls (.int r :: rest))) : W p l e R s m args below meth c H locs cells slots QQ (F0 m pc ls (.int p2 :: .int p1 :: .int p0 :: .ref (ad 0) :: rest)) :=
  zcalli (va_runV (As := [.int p0, .int p1, .int p2]) (rest := rest) ⟨hx, hb, hml, hown, hts⟩ (c_X7_cuts l D cy ad σ p0 p1 p2 h) (cwV 3 hts hG rfl rfl rfl (by decide +kernel) hR) (zpreV hj hK hw _ (i := 0) (ci := 6) (by decide) rfl rfl) rfl rfl hsz rfl (lv_room hrest) hdg hcs) hA hS kk
set_option maxHeartbeats 4000000 in
set_option maxRecDepth 100000 in
theorem c_X7_cutBars (l : Launch) (D : va_G) (cy : cyT) (ad : Nat → Nat) (σ : ST) (p0 : Int32) (p1 : Int32) (p2 : Int32) {Q : Int32 → ST → Prop} (h : wp_X7_cutBars σ p0 p1 p2 Q) : Met l yX7_cutBars wsX7_cutBars ({ frames := 1, cells := 0, slots := 0, locals := 22 } : Room) (zPre D cy 6 (zme cy ad σ) ad [.int p0, .int p1, .int p2]) (va_Qi Q (zB D 6 (zme cy ad) ad) (zA 6 ad)) 0 0 (zA 6 ad) := by
  refine Met.ofW (cc := cX7_cutBars) (maxL := 3) (ret := (some .int)) (by decide) rfl ?_
  intro p e s m args below meth c s₁ B hml hv
  obtain ⟨rfl, hj, hK, hw⟩ := hv
  have hx := B.exec
  have hb := B.bytes
  have hr := B.returns
  have hts := atoms_spec (ws := wsX7_cutBars) B.pre
  have hown : s.vm.findClass RX7 = some m.cls := findClass_of_methodNamed B.named
  have hlocks := B.notSynchronized
  have hS : va_S (zA 6 ad) s.heap s.heap [] := va_S.rf
  have hA : ∀ i, i < 6 → zA 6 ad (ad i) := fun i hi => ⟨i, hi, rfl⟩
  have hl := lv_entry ([.int p0, .int p1, .int p2]) (n := 3) (Nat.le_of_ble_eq_true rfl)
  rw [lg_entry_eq]
  generalize (lg_sl ([.int p0, .int p1, .int p2]) ++ List.replicate (3 - (lg_sl ([.int p0, .int p1, .int p2])).length) Slot.unset).toArray = ls at hl ⊢
  have hl : lv_has ls 3 [(0, .int p0), (1, .int p1), (2, .int p2)] := hl
  show W p l e ({ frames := 1, cells := 0, slots := 0, locals := 22 } : Room) s m ([.int p0, .int p1, .int p2] : List Value).toArray below meth c s.heap [] 0 0 (MQ below (va_Qi Q (zB D 6 (zme cy ad) ad) (zA 6 ad)) ([.int p0, .int p1, .int p2] : List Value).toArray s 0 0 (zA 6 ad)) (F0 m 0 ls [])
  unfold wp_X7_cutBars at h
  refine lv_iload_n hx hb dX7_cutBars_0 rfl (lv_at hl 0 rfl) ?_
  refine lv_iconst (v := (jI 0)) hx hb dX7_cutBars_1 rfl ?_
  refine lv_bipush (v := (jI 15)) hx hb dX7_cutBars_2 (by decide +kernel) ?_
  refine k_X7_in (rest := []) hx hb hml hown hts gX7_cutBars_X7_in ⟨Nat.le_of_ble_eq_true rfl, Nat.le_of_ble_eq_true rfl⟩ ⟨Nat.zero_le _, Nat.zero_le _⟩ hK hj hw hA hS hl.1 (Nat.le_of_ble_eq_true rfl) dX7_cutBars_4 h (fun r1 s1 H locs h hw hS => ?_)
  refine zif_ne (tgt := 14) hx hb dX7_cutBars_7 (by decide) (fun c1 => ?_) (fun c1 => ?_)
  · have h := h.2 c1
    refine lv_iload_n hx hb dX7_cutBars_14 rfl (lv_at hl 1 rfl) ?_
    refine lv_iconst (v := (jI 1)) hx hb dX7_cutBars_15 rfl ?_
    refine lv_bipush (v := (jI 6)) hx hb dX7_cutBars_16 (by decide +kernel) ?_
    refine k_X7_in (rest := []) hx hb hml hown hts gX7_cutBars_X7_in ⟨Nat.le_of_ble_eq_true rfl, Nat.le_of_ble_eq_true rfl⟩ ⟨Nat.zero_le _, Nat.zero_le _⟩ hK hj hw hA hS hl.1 (Nat.le_of_ble_eq_true rfl) dX7_cutBars_18 h (fun r2 s2 H locs h hw hS => ?_)
    refine zif_eq (tgt := 34) hx hb dX7_cutBars_21 (by decide) (fun c2 => ?_) (fun c2 => ?_)
    · have h := h.1 c2
      refine lv_iconst (v := (jI 2)) hx hb dX7_cutBars_34 rfl ?_
      refine lv_goto (tgt := 39) hx hb dX7_cutBars_35 (by decide) ?_
      exact W.iret (v := (jI 2)) hx hb hr (fun t ht hW => ⟨⟨_, _, rfl, h, zend hw ht⟩, hS.F ht⟩) hS.2.2 dX7_cutBars_39
    · have h := h.2 c2
      refine lv_iload_n hx hb dX7_cutBars_24 rfl (lv_at hl 2 rfl) ?_
      refine lv_iconst (v := (jI 1)) hx hb dX7_cutBars_25 rfl ?_
      refine lv_bipush (v := (jI 6)) hx hb dX7_cutBars_26 (by decide +kernel) ?_
      refine k_X7_in (rest := []) hx hb hml hown hts gX7_cutBars_X7_in ⟨Nat.le_of_ble_eq_true rfl, Nat.le_of_ble_eq_true rfl⟩ ⟨Nat.zero_le _, Nat.zero_le _⟩ hK hj hw hA hS hl.1 (Nat.le_of_ble_eq_true rfl) dX7_cutBars_28 h (fun r3 s3 H locs h hw hS => ?_)
      refine zif_ne (tgt := 38) hx hb dX7_cutBars_31 (by decide) (fun c3 => ?_) (fun c3 => ?_)
      · have h := h.2 c3
        refine lv_iconst (v := (jI 0)) hx hb dX7_cutBars_38 rfl ?_
        exact W.iret (v := (jI 0)) hx hb hr (fun t ht hW => ⟨⟨_, _, rfl, h, zend hw ht⟩, hS.F ht⟩) hS.2.2 dX7_cutBars_39
      · have h := h.1 c3
        refine lv_iconst (v := (jI 2)) hx hb dX7_cutBars_34 rfl ?_
        refine lv_goto (tgt := 39) hx hb dX7_cutBars_35 (by decide) ?_
        exact W.iret (v := (jI 2)) hx hb hr (fun t ht hW => ⟨⟨_, _, rfl, h, zend hw ht⟩, hS.F ht⟩) hS.2.2 dX7_cutBars_39
  · have h := h.1 c1
    refine lv_iconst (v := (jI 1)) hx hb dX7_cutBars_10 rfl ?_
    refine lv_goto (tgt := 39) hx hb dX7_cutBars_11 (by decide) ?_
    exact W.iret (v := (jI 1)) hx hb hr (fun t ht hW => ⟨⟨_, _, rfl, h, zend hw ht⟩, hS.F ht⟩) hS.2.2 dX7_cutBars_39
theorem k_X7_cutBars {p : Program} {l : Launch} {e : Env} {R : Room} {s : State} {m : MethodId} {args : Array Value} {below : List Frame} {meth : Method} {c : Code} {H : Heap} {locs : List Loc} {cells slots : Nat} {QQ : State → Prop} {cc : ByteArray} {pc nL index : Nat} {ls : Array Slot} {rest : List Value} {D : va_G} {cy : cyT} {ad : Nat → Nat} {own : String} {Ts : List Cond} {H0 : Heap} {σ : ST} {p0 : Int32} {p1 : Int32} {p2 : Int32} {Q : Int32 → ST → Prop} (hx : p.tables.exec = Jvm.exec) (hb : c.code = cc) (hml : c.maxLocals = nL) (hown : s.vm.findClass own = some m.cls) (hts : ∀ w ∈ Ts, w.before args s = true) (hG : GoodIn Ts (va_wsS own index yX7_cutBars wsX7_cutBars)) (hR : 1 + 1 ≤ R.frames ∧ 8 + (3 + 11) + 22 ≤ R.locals) (hcs : cells ≤ R.cells ∧ slots ≤ R.slots) (hK : zK D cy s) (hj : zI 6 ad) (hw : zW D 6 (zme cy ad σ) ad H) {A0 : Nat → Prop} (hA : ∀ i, i < 6 → A0 (ad i)) (hS : va_S A0 H0 H locs) (hsz : ls.size = nL) (hrest : (rest.map fun v => v.category).sum ≤ 8) (hdg : decode cc pc = .ok (.invokestatic index, 3)) (h : wp_X7_cutBars σ p0 p1 p2 Q) (kk : ∀ (r : Int32) (σ : ST) (H : Heap) (locs : List Loc), Q r σ → zW D 6 (zme cy ad σ) ad H → va_S A0 H0 H locs → W p l e R s m args below meth c H locs cells slots QQ (F0 m (pc + 3) ls (.int r :: rest))) : W p l e R s m args below meth c H locs cells slots QQ (F0 m pc ls (.int p2 :: .int p1 :: .int p0 :: rest)) :=
  zcalli (va_runS (As := [.int p0, .int p1, .int p2]) (rest := rest) ⟨hx, hb, hml, hown, hts⟩ (c_X7_cutBars l D cy ad σ p0 p1 p2 h) (va_cwS 3 hts hG rfl rfl rfl (by decide +kernel) hR) (zpreS hj hK hw _) rfl rfl hsz rfl (lv_room hrest) hdg hcs) hA hS kk
set_option maxHeartbeats 4000000 in
set_option maxRecDepth 100000 in
theorem c_X7_cut (l : Launch) (D : va_G) (cy : cyT) (ad : Nat → Nat) (σ : ST) (p0 : Int32) (p1 : Int32) (p2 : Int32) {Q : Int32 → ST → Prop} (h : wp_X7_cut σ p0 p1 p2 Q) : Met l yX7_cut wsX7_cut ({ frames := 3, cells := 0, slots := 0, locals := 70 } : Room) (zPre D cy 6 (zme cy ad σ) ad [.ref (ad 0), .int p0, .int p1, .int p2]) (va_Qi Q (zB D 6 (zme cy ad) ad) (zA 6 ad)) 0 0 (zA 6 ad) := by
  refine Met.ofW (cc := cX7_cut) (maxL := 4) (ret := (some .int)) (by decide) rfl ?_
  intro p e s m args below meth c s₁ B hml hv
  obtain ⟨rfl, hj, hK, hw⟩ := hv
  have hx := B.exec
  have hb := B.bytes
  have hr := B.returns
  have hts := atoms_spec (ws := wsX7_cut) B.pre
  have hown : s.vm.findClass RX7 = some m.cls := findClass_of_methodNamed B.named
  have hlocks := B.notSynchronized
  have lk0 : Cond.fieldLink RX7 26 "TypeTraysModel" "thrown" "I" ∈ wsX7_cut := List.mem_of_getElem? (i := 1) rfl
  have inX7 : ∀ w ∈ u_ws RX7 TX7 16, w ∈ wsX7_cut := zin_at 32 rfl
  have hS : va_S (zA 6 ad) s.heap s.heap [] := va_S.rf
  have hA : ∀ i, i < 6 → zA 6 ad (ad i) := fun i hi => ⟨i, hi, rfl⟩
  have hl := lv_entry ([.ref (ad 0), .int p0, .int p1, .int p2]) (n := 4) (Nat.le_of_ble_eq_true rfl)
  rw [lg_entry_eq]
  generalize (lg_sl ([.ref (ad 0), .int p0, .int p1, .int p2]) ++ List.replicate (4 - (lg_sl ([.ref (ad 0), .int p0, .int p1, .int p2])).length) Slot.unset).toArray = ls at hl ⊢
  have hl : lv_has ls 4 [(0, .ref (ad 0)), (1, .int p0), (2, .int p1), (3, .int p2)] := hl
  show W p l e ({ frames := 3, cells := 0, slots := 0, locals := 70 } : Room) s m ([.ref (ad 0), .int p0, .int p1, .int p2] : List Value).toArray below meth c s.heap [] 0 0 (MQ below (va_Qi Q (zB D 6 (zme cy ad) ad) (zA 6 ad)) ([.ref (ad 0), .int p0, .int p1, .int p2] : List Value).toArray s 0 0 (zA 6 ad)) (F0 m 0 ls [])
  unfold wp_X7_cut at h
  refine lv_aload_n hx hb dX7_cut_0 rfl (lv_at hl 0 rfl) ?_
  refine lv_iload_n hx hb dX7_cut_1 rfl (lv_at hl 1 rfl) ?_
  refine lv_iload_n hx hb dX7_cut_2 rfl (lv_at hl 2 rfl) ?_
  refine lv_iload_n hx hb dX7_cut_3 rfl (lv_at hl 3 rfl) ?_
  refine k_X7_cutBars (rest := [.ref (ad 0)]) hx hb hml hown hts gX7_cut_X7_cutBars ⟨Nat.le_of_ble_eq_true rfl, Nat.le_of_ble_eq_true rfl⟩ ⟨Nat.zero_le _, Nat.zero_le _⟩ hK hj hw hA hS hl.1 (Nat.le_of_ble_eq_true rfl) dX7_cut_4 h (fun r1 s1 H locs h hw hS => ?_)
  obtain ⟨s2, es2⟩ : ∃ y : ST, y = zsp s1 1 r1 := ⟨_, rfl⟩
  have h := h s2 es2
  refine zput (ty := .int) hx hb hts inX7 tyX7 tyX7_ok nmX7 hown hK hj hw hA hS 0 (by decide) rfl rfl 3 (by decide) lk0 (fun _ h9 => h9) rfl (by decide +kernel) rfl rfl (Nat.le_of_ble_eq_true rfl) dX7_cut_7 (zme cy ad s2) (by rw [es2]; rfl) (fun j hj9 => by rw [es2]; exact zsp_off_M_1 j hj9) (fun H locs hw hS => ?_)
  refine lv_aload_n hx hb dX7_cut_10 rfl (lv_at hl 0 rfl) ?_
  refine zget hx hb hts inX7 hown hK hw 0 (by decide) rfl rfl 3 (by decide) lk0 (fun _ h9 => h9) rfl dX7_cut_11 ?_
  refine zif_le (tgt := 19) hx hb dX7_cut_14 (by decide) (fun c1 => ?_) (fun c1 => ?_)
  · have h := h.1 c1
    refine lv_aload_n hx hb dX7_cut_19 rfl (lv_at hl 0 rfl) ?_
    refine k_X7_saves (rest := []) hx hb hml hown hts gX7_cut_X7_saves ⟨Nat.le_of_ble_eq_true rfl, Nat.le_of_ble_eq_true rfl⟩ ⟨Nat.zero_le _, Nat.zero_le _⟩ hK hj hw hA hS hl.1 (Nat.le_of_ble_eq_true rfl) dX7_cut_20 h (fun s3 H locs h hw hS => ?_)
    refine lv_aload_n hx hb dX7_cut_23 rfl (lv_at hl 0 rfl) ?_
    refine lv_iload_n hx hb dX7_cut_24 rfl (lv_at hl 1 rfl) ?_
    refine lv_iload_n hx hb dX7_cut_25 rfl (lv_at hl 2 rfl) ?_
    refine lv_iload_n hx hb dX7_cut_26 rfl (lv_at hl 3 rfl) ?_
    refine k_X7_cuts (rest := []) hx hb hml hown hts gX7_cut_X7_cuts ⟨Nat.le_of_ble_eq_true rfl, Nat.le_of_ble_eq_true rfl⟩ ⟨Nat.zero_le _, Nat.zero_le _⟩ hK hj hw hA hS hl.1 (Nat.le_of_ble_eq_true rfl) dX7_cut_27 h (fun r2 s4 H locs h hw hS => ?_)
    exact W.iret (v := r2) hx hb hr (fun t ht hW => ⟨⟨_, _, rfl, h, zend hw ht⟩, hS.F ht⟩) hS.2.2 dX7_cut_30
  · have h := h.2 c1
    refine lv_iconst (v := (jI 0)) hx hb dX7_cut_17 rfl ?_
    exact W.iret (v := (jI 0)) hx hb hr (fun t ht hW => ⟨⟨_, _, rfl, h, zend hw ht⟩, hS.F ht⟩) hS.2.2 dX7_cut_18
theorem k_X7_cut {p : Program} {l : Launch} {e : Env} {R : Room} {s : State} {m : MethodId} {args : Array Value} {below : List Frame} {meth : Method} {c : Code} {H : Heap} {locs : List Loc} {cells slots : Nat} {QQ : State → Prop} {cc : ByteArray} {pc nL index : Nat} {ls : Array Slot} {rest : List Value} {D : va_G} {cy : cyT} {ad : Nat → Nat} {own : String} {Ts : List Cond} {H0 : Heap} {σ : ST} {p0 : Int32} {p1 : Int32} {p2 : Int32} {Q : Int32 → ST → Prop} (hx : p.tables.exec = Jvm.exec) (hb : c.code = cc) (hml : c.maxLocals = nL) (hown : s.vm.findClass own = some m.cls) (hts : ∀ w ∈ Ts, w.before args s = true) (hG : GoodIn Ts (wsV own index RX7 yX7_cut wsX7_cut)) (hR : 3 + 1 ≤ R.frames ∧ 8 + (4 + 11) + 70 ≤ R.locals) (hcs : cells ≤ R.cells ∧ slots ≤ R.slots) (hK : zK D cy s) (hj : zI 6 ad) (hw : zW D 6 (zme cy ad σ) ad H) {A0 : Nat → Prop} (hA : ∀ i, i < 6 → A0 (ad i)) (hS : va_S A0 H0 H locs) (hsz : ls.size = nL) (hrest : (rest.map fun v => v.category).sum ≤ 8) (hdg : decode cc pc = .ok (.invokevirtual index, 3)) (h : wp_X7_cut σ p0 p1 p2 Q) (kk : ∀ (r : Int32) (σ : ST) (H : Heap) (locs : List Loc), Q r σ → zW D 6 (zme cy ad σ) ad H → va_S A0 H0 H locs → W p l e R s m args below meth c H locs cells slots QQ (F0 m (pc + 3) ls (.int r :: rest))) : W p l e R s m args below meth c H locs cells slots QQ (F0 m pc ls (.int p2 :: .int p1 :: .int p0 :: .ref (ad 0) :: rest)) :=
  zcalli (va_runV (As := [.int p0, .int p1, .int p2]) (rest := rest) ⟨hx, hb, hml, hown, hts⟩ (c_X7_cut l D cy ad σ p0 p1 p2 h) (cwV 3 hts hG rfl rfl rfl (by decide +kernel) hR) (zpreV hj hK hw _ (i := 0) (ci := 6) (by decide) rfl rfl) rfl rfl hsz rfl (lv_room hrest) hdg hcs) hA hS kk
set_option maxHeartbeats 4000000 in
set_option maxRecDepth 100000 in
theorem c_X7_use (l : Launch) (D : va_G) (cy : cyT) (ad : Nat → Nat) (σ : ST) (p0 : Int32) (p1 : Int32) (p2 : Int32) {Q : Int32 → ST → Prop} (h : wp_X7_use σ p0 p1 p2 Q) : Met l yX7_use wsX7_use ({ frames := 7, cells := 0, slots := 0, locals := 157 } : Room) (zPre D cy 6 (zme cy ad σ) ad [.ref (ad 0), .int p0, .int p1, .int p2]) (va_Qi Q (zB D 6 (zme cy ad) ad) (zA 6 ad)) 0 0 (zA 6 ad) := by
  refine Met.ofW (cc := cX7_use) (maxL := 5) (ret := (some .int)) (by decide) rfl ?_
  intro p e s m args below meth c s₁ B hml hv
  obtain ⟨rfl, hj, hK, hw⟩ := hv
  have hx := B.exec
  have hb := B.bytes
  have hr := B.returns
  have hts := atoms_spec (ws := wsX7_use) B.pre
  have hown : s.vm.findClass RX7 = some m.cls := findClass_of_methodNamed B.named
  have hlocks := B.notSynchronized
  have lk0 : Cond.fieldLink RX7 26 "TypeTraysModel" "thrown" "I" ∈ wsX7_use := List.mem_of_getElem? (i := 1) rfl
  have lk1 : Cond.fieldLink RX7 68 "TypeTraysModel" "rule" "I" ∈ wsX7_use := List.mem_of_getElem? (i := 2) rfl
  have inX7 : ∀ w ∈ u_ws RX7 TX7 16, w ∈ wsX7_use := zin_at 118 rfl
  have hS : va_S (zA 6 ad) s.heap s.heap [] := va_S.rf
  have hA : ∀ i, i < 6 → zA 6 ad (ad i) := fun i hi => ⟨i, hi, rfl⟩
  have hl := lv_entry ([.ref (ad 0), .int p0, .int p1, .int p2]) (n := 5) (Nat.le_of_ble_eq_true rfl)
  rw [lg_entry_eq]
  generalize (lg_sl ([.ref (ad 0), .int p0, .int p1, .int p2]) ++ List.replicate (5 - (lg_sl ([.ref (ad 0), .int p0, .int p1, .int p2])).length) Slot.unset).toArray = ls at hl ⊢
  have hl : lv_has ls 5 [(0, .ref (ad 0)), (1, .int p0), (2, .int p1), (3, .int p2)] := hl
  show W p l e ({ frames := 7, cells := 0, slots := 0, locals := 157 } : Room) s m ([.ref (ad 0), .int p0, .int p1, .int p2] : List Value).toArray below meth c s.heap [] 0 0 (MQ below (va_Qi Q (zB D 6 (zme cy ad) ad) (zA 6 ad)) ([.ref (ad 0), .int p0, .int p1, .int p2] : List Value).toArray s 0 0 (zA 6 ad)) (F0 m 0 ls [])
  unfold wp_X7_use at h
  refine lv_aload_n hx hb dX7_use_0 rfl (lv_at hl 0 rfl) ?_
  refine lv_iload_n hx hb dX7_use_1 rfl (lv_at hl 1 rfl) ?_
  refine lv_iload_n hx hb dX7_use_2 rfl (lv_at hl 2 rfl) ?_
  refine lv_iload_n hx hb dX7_use_3 rfl (lv_at hl 3 rfl) ?_
  refine k_X7_bars (rest := [.ref (ad 0)]) hx hb hml hown hts gX7_use_X7_bars ⟨Nat.le_of_ble_eq_true rfl, Nat.le_of_ble_eq_true rfl⟩ ⟨Nat.zero_le _, Nat.zero_le _⟩ hK hj hw hA hS hl.1 (Nat.le_of_ble_eq_true rfl) dX7_use_4 h (fun r1 s1 H locs h hw hS => ?_)
  obtain ⟨s2, es2⟩ : ∃ y : ST, y = zsp s1 1 r1 := ⟨_, rfl⟩
  have h := h s2 es2
  refine zput (ty := .int) hx hb hts inX7 tyX7 tyX7_ok nmX7 hown hK hj hw hA hS 0 (by decide) rfl rfl 3 (by decide) lk0 (fun _ h9 => h9) rfl (by decide +kernel) rfl rfl (Nat.le_of_ble_eq_true rfl) dX7_use_7 (zme cy ad s2) (by rw [es2]; rfl) (fun j hj9 => by rw [es2]; exact zsp_off_M_1 j hj9) (fun H locs hw hS => ?_)
  refine lv_aload_n hx hb dX7_use_10 rfl (lv_at hl 0 rfl) ?_
  refine zget hx hb hts inX7 hown hK hw 0 (by decide) rfl rfl 3 (by decide) lk0 (fun _ h9 => h9) rfl dX7_use_11 ?_
  refine zif_le (tgt := 19) hx hb dX7_use_14 (by decide) (fun c1 => ?_) (fun c1 => ?_)
  · have h := h.1 c1
    refine lv_iload_n hx hb dX7_use_19 rfl (lv_at hl 1 rfl) ?_
    refine lv_iload_n hx hb dX7_use_20 rfl (lv_at hl 2 rfl) ?_
    refine lv_iload_n hx hb dX7_use_21 rfl (lv_at hl 3 rfl) ?_
    refine k_X7_number (rest := []) hx hb hml hown hts gX7_use_X7_number ⟨Nat.le_of_ble_eq_true rfl, Nat.le_of_ble_eq_true rfl⟩ ⟨Nat.zero_le _, Nat.zero_le _⟩ hK hj hw hA hS hl.1 (Nat.le_of_ble_eq_true rfl) dX7_use_22 h (fun r2 s3 H locs h hw hS => ?_)
    refine lv_istore (lv' := [(4, .int r2), (0, .ref (ad 0)), (1, .int p0), (2, .int p1), (3, .int p2)]) hx hb dX7_use_25 hl (by decide) rfl (fun ls hl => ?_)
    refine lv_aload_n hx hb dX7_use_27 rfl (lv_at hl 1 rfl) ?_
    refine lv_iload hx hb dX7_use_28 (lv_at hl 0 rfl) ?_
    refine k_X7_looks (rest := []) hx hb hml hown hts gX7_use_X7_looks ⟨Nat.le_of_ble_eq_true rfl, Nat.le_of_ble_eq_true rfl⟩ ⟨Nat.zero_le _, Nat.zero_le _⟩ hK hj hw hA hS hl.1 (Nat.le_of_ble_eq_true rfl) dX7_use_30 h (fun s4 H locs h hw hS => ?_)
    refine lv_aload_n hx hb dX7_use_33 rfl (lv_at hl 1 rfl) ?_
    refine lv_aload_n hx hb dX7_use_34 rfl (lv_at hl 1 rfl) ?_
    refine zget hx hb hts inX7 hown hK hw 0 (by decide) rfl rfl 5 (by decide) lk1 (fun _ h9 => h9) rfl dX7_use_35 ?_
    refine lv_iconst (v := (jI (-1))) hx hb dX7_use_38 rfl ?_
    refine lv_icmp_ne (tgt := 46) hx hb dX7_use_39 (by decide) (fun c2 => ?_) (fun c2 => ?_)
    · have h := h.2 c2
      refine lv_iconst (v := (jI 0)) hx hb dX7_use_46 rfl ?_
      obtain ⟨s5, es5⟩ : ∃ y : ST, y = zsp s4 1 (jI 0) := ⟨_, rfl⟩
      have h := h s5 es5
      refine zput (ty := .int) hx hb hts inX7 tyX7 tyX7_ok nmX7 hown hK hj hw hA hS 0 (by decide) rfl rfl 3 (by decide) lk0 (fun _ h9 => h9) rfl (by decide +kernel) rfl rfl (Nat.le_of_ble_eq_true rfl) dX7_use_47 (zme cy ad s5) (by rw [es5]; rfl) (fun j hj9 => by rw [es5]; exact zsp_off_M_1 j hj9) (fun H locs hw hS => ?_)
      refine lv_aload_n hx hb dX7_use_50 rfl (lv_at hl 1 rfl) ?_
      refine zget hx hb hts inX7 hown hK hw 0 (by decide) rfl rfl 3 (by decide) lk0 (fun _ h9 => h9) rfl dX7_use_51 ?_
      refine zif_le (tgt := 59) hx hb dX7_use_54 (by decide) (fun c3 => ?_) (fun c3 => ?_)
      · have h := h.1 c3
        refine lv_aload_n hx hb dX7_use_59 rfl (lv_at hl 1 rfl) ?_
        refine k_X7_saves (rest := []) hx hb hml hown hts gX7_use_X7_saves ⟨Nat.le_of_ble_eq_true rfl, Nat.le_of_ble_eq_true rfl⟩ ⟨Nat.zero_le _, Nat.zero_le _⟩ hK hj hw hA hS hl.1 (Nat.le_of_ble_eq_true rfl) dX7_use_60 h (fun s6 H locs h hw hS => ?_)
        refine lv_aload_n hx hb dX7_use_63 rfl (lv_at hl 1 rfl) ?_
        refine lv_iload hx hb dX7_use_64 (lv_at hl 0 rfl) ?_
        refine k_X7_uses (rest := []) hx hb hml hown hts gX7_use_X7_uses ⟨Nat.le_of_ble_eq_true rfl, Nat.le_of_ble_eq_true rfl⟩ ⟨Nat.zero_le _, Nat.zero_le _⟩ hK hj hw hA hS hl.1 (Nat.le_of_ble_eq_true rfl) dX7_use_66 h (fun r3 s7 H locs h hw hS => ?_)
        exact W.iret (v := r3) hx hb hr (fun t ht hW => ⟨⟨_, _, rfl, h, zend hw ht⟩, hS.F ht⟩) hS.2.2 dX7_use_69
      · have h := h.2 c3
        refine lv_iconst (v := (jI 0)) hx hb dX7_use_57 rfl ?_
        exact W.iret (v := (jI 0)) hx hb hr (fun t ht hW => ⟨⟨_, _, rfl, h, zend hw ht⟩, hS.F ht⟩) hS.2.2 dX7_use_58
    · have h := h.1 c2
      refine lv_iconst (v := (jI 3)) hx hb dX7_use_42 rfl ?_
      refine lv_goto (tgt := 47) hx hb dX7_use_43 (by decide) ?_
      obtain ⟨s8, es8⟩ : ∃ y : ST, y = zsp s4 1 (jI 3) := ⟨_, rfl⟩
      have h := h s8 es8
      refine zput (ty := .int) hx hb hts inX7 tyX7 tyX7_ok nmX7 hown hK hj hw hA hS 0 (by decide) rfl rfl 3 (by decide) lk0 (fun _ h9 => h9) rfl (by decide +kernel) rfl rfl (Nat.le_of_ble_eq_true rfl) dX7_use_47 (zme cy ad s8) (by rw [es8]; rfl) (fun j hj9 => by rw [es8]; exact zsp_off_M_1 j hj9) (fun H locs hw hS => ?_)
      refine lv_aload_n hx hb dX7_use_50 rfl (lv_at hl 1 rfl) ?_
      refine zget hx hb hts inX7 hown hK hw 0 (by decide) rfl rfl 3 (by decide) lk0 (fun _ h9 => h9) rfl dX7_use_51 ?_
      refine zif_le (tgt := 59) hx hb dX7_use_54 (by decide) (fun c4 => ?_) (fun c4 => ?_)
      · have h := h.1 c4
        refine lv_aload_n hx hb dX7_use_59 rfl (lv_at hl 1 rfl) ?_
        refine k_X7_saves (rest := []) hx hb hml hown hts gX7_use_X7_saves ⟨Nat.le_of_ble_eq_true rfl, Nat.le_of_ble_eq_true rfl⟩ ⟨Nat.zero_le _, Nat.zero_le _⟩ hK hj hw hA hS hl.1 (Nat.le_of_ble_eq_true rfl) dX7_use_60 h (fun s9 H locs h hw hS => ?_)
        refine lv_aload_n hx hb dX7_use_63 rfl (lv_at hl 1 rfl) ?_
        refine lv_iload hx hb dX7_use_64 (lv_at hl 0 rfl) ?_
        refine k_X7_uses (rest := []) hx hb hml hown hts gX7_use_X7_uses ⟨Nat.le_of_ble_eq_true rfl, Nat.le_of_ble_eq_true rfl⟩ ⟨Nat.zero_le _, Nat.zero_le _⟩ hK hj hw hA hS hl.1 (Nat.le_of_ble_eq_true rfl) dX7_use_66 h (fun r4 s10 H locs h hw hS => ?_)
        exact W.iret (v := r4) hx hb hr (fun t ht hW => ⟨⟨_, _, rfl, h, zend hw ht⟩, hS.F ht⟩) hS.2.2 dX7_use_69
      · have h := h.2 c4
        refine lv_iconst (v := (jI 0)) hx hb dX7_use_57 rfl ?_
        exact W.iret (v := (jI 0)) hx hb hr (fun t ht hW => ⟨⟨_, _, rfl, h, zend hw ht⟩, hS.F ht⟩) hS.2.2 dX7_use_58
  · have h := h.2 c1
    refine lv_iconst (v := (jI 0)) hx hb dX7_use_17 rfl ?_
    exact W.iret (v := (jI 0)) hx hb hr (fun t ht hW => ⟨⟨_, _, rfl, h, zend hw ht⟩, hS.F ht⟩) hS.2.2 dX7_use_18
theorem k_X7_use {p : Program} {l : Launch} {e : Env} {R : Room} {s : State} {m : MethodId} {args : Array Value} {below : List Frame} {meth : Method} {c : Code} {H : Heap} {locs : List Loc} {cells slots : Nat} {QQ : State → Prop} {cc : ByteArray} {pc nL index : Nat} {ls : Array Slot} {rest : List Value} {D : va_G} {cy : cyT} {ad : Nat → Nat} {own : String} {Ts : List Cond} {H0 : Heap} {σ : ST} {p0 : Int32} {p1 : Int32} {p2 : Int32} {Q : Int32 → ST → Prop} (hx : p.tables.exec = Jvm.exec) (hb : c.code = cc) (hml : c.maxLocals = nL) (hown : s.vm.findClass own = some m.cls) (hts : ∀ w ∈ Ts, w.before args s = true) (hG : GoodIn Ts (wsV own index RX7 yX7_use wsX7_use)) (hR : 7 + 1 ≤ R.frames ∧ 8 + (5 + 11) + 157 ≤ R.locals) (hcs : cells ≤ R.cells ∧ slots ≤ R.slots) (hK : zK D cy s) (hj : zI 6 ad) (hw : zW D 6 (zme cy ad σ) ad H) {A0 : Nat → Prop} (hA : ∀ i, i < 6 → A0 (ad i)) (hS : va_S A0 H0 H locs) (hsz : ls.size = nL) (hrest : (rest.map fun v => v.category).sum ≤ 8) (hdg : decode cc pc = .ok (.invokevirtual index, 3)) (h : wp_X7_use σ p0 p1 p2 Q) (kk : ∀ (r : Int32) (σ : ST) (H : Heap) (locs : List Loc), Q r σ → zW D 6 (zme cy ad σ) ad H → va_S A0 H0 H locs → W p l e R s m args below meth c H locs cells slots QQ (F0 m (pc + 3) ls (.int r :: rest))) : W p l e R s m args below meth c H locs cells slots QQ (F0 m pc ls (.int p2 :: .int p1 :: .int p0 :: .ref (ad 0) :: rest)) :=
  zcalli (va_runV (As := [.int p0, .int p1, .int p2]) (rest := rest) ⟨hx, hb, hml, hown, hts⟩ (c_X7_use l D cy ad σ p0 p1 p2 h) (cwV 3 hts hG rfl rfl rfl (by decide +kernel) hR) (zpreV hj hK hw _ (i := 0) (ci := 6) (by decide) rfl rfl) rfl rfl hsz rfl (lv_room hrest) hdg hcs) hA hS kk
set_option maxHeartbeats 4000000 in
set_option maxRecDepth 100000 in
theorem c_X7_drop (l : Launch) (D : va_G) (cy : cyT) (ad : Nat → Nat) (σ : ST) (p0 : Int32) (p1 : Int32) (p2 : Int32) {Q : Int32 → ST → Prop} (h : wp_X7_drop σ p0 p1 p2 Q) : Met l yX7_drop wsX7_drop ({ frames := 2, cells := 0, slots := 0, locals := 45 } : Room) (zPre D cy 6 (zme cy ad σ) ad [.ref (ad 0), .int p0, .int p1, .int p2]) (va_Qi Q (zB D 6 (zme cy ad) ad) (zA 6 ad)) 0 0 (zA 6 ad) := by
  refine Met.ofW (cc := cX7_drop) (maxL := 5) (ret := (some .int)) (by decide) rfl ?_
  intro p e s m args below meth c s₁ B hml hv
  obtain ⟨rfl, hj, hK, hw⟩ := hv
  have hx := B.exec
  have hb := B.bytes
  have hr := B.returns
  have hts := atoms_spec (ws := wsX7_drop) B.pre
  have hown : s.vm.findClass RX7 = some m.cls := findClass_of_methodNamed B.named
  have hlocks := B.notSynchronized
  have lk0 : Cond.fieldLink RX7 26 "TypeTraysModel" "thrown" "I" ∈ wsX7_drop := List.mem_of_getElem? (i := 1) rfl
  have inX7 : ∀ w ∈ u_ws RX7 TX7 16, w ∈ wsX7_drop := zin_at 31 rfl
  have hS : va_S (zA 6 ad) s.heap s.heap [] := va_S.rf
  have hA : ∀ i, i < 6 → zA 6 ad (ad i) := fun i hi => ⟨i, hi, rfl⟩
  have hl := lv_entry ([.ref (ad 0), .int p0, .int p1, .int p2]) (n := 5) (Nat.le_of_ble_eq_true rfl)
  rw [lg_entry_eq]
  generalize (lg_sl ([.ref (ad 0), .int p0, .int p1, .int p2]) ++ List.replicate (5 - (lg_sl ([.ref (ad 0), .int p0, .int p1, .int p2])).length) Slot.unset).toArray = ls at hl ⊢
  have hl : lv_has ls 5 [(0, .ref (ad 0)), (1, .int p0), (2, .int p1), (3, .int p2)] := hl
  show W p l e ({ frames := 2, cells := 0, slots := 0, locals := 45 } : Room) s m ([.ref (ad 0), .int p0, .int p1, .int p2] : List Value).toArray below meth c s.heap [] 0 0 (MQ below (va_Qi Q (zB D 6 (zme cy ad) ad) (zA 6 ad)) ([.ref (ad 0), .int p0, .int p1, .int p2] : List Value).toArray s 0 0 (zA 6 ad)) (F0 m 0 ls [])
  unfold wp_X7_drop at h
  refine lv_aload_n hx hb dX7_drop_0 rfl (lv_at hl 0 rfl) ?_
  refine lv_iload_n hx hb dX7_drop_1 rfl (lv_at hl 1 rfl) ?_
  refine lv_iload_n hx hb dX7_drop_2 rfl (lv_at hl 2 rfl) ?_
  refine lv_iload_n hx hb dX7_drop_3 rfl (lv_at hl 3 rfl) ?_
  refine k_X7_bars (rest := [.ref (ad 0)]) hx hb hml hown hts gX7_drop_X7_bars ⟨Nat.le_of_ble_eq_true rfl, Nat.le_of_ble_eq_true rfl⟩ ⟨Nat.zero_le _, Nat.zero_le _⟩ hK hj hw hA hS hl.1 (Nat.le_of_ble_eq_true rfl) dX7_drop_4 h (fun r1 s1 H locs h hw hS => ?_)
  obtain ⟨s2, es2⟩ : ∃ y : ST, y = zsp s1 1 r1 := ⟨_, rfl⟩
  have h := h s2 es2
  refine zput (ty := .int) hx hb hts inX7 tyX7 tyX7_ok nmX7 hown hK hj hw hA hS 0 (by decide) rfl rfl 3 (by decide) lk0 (fun _ h9 => h9) rfl (by decide +kernel) rfl rfl (Nat.le_of_ble_eq_true rfl) dX7_drop_7 (zme cy ad s2) (by rw [es2]; rfl) (fun j hj9 => by rw [es2]; exact zsp_off_M_1 j hj9) (fun H locs hw hS => ?_)
  refine lv_aload_n hx hb dX7_drop_10 rfl (lv_at hl 0 rfl) ?_
  refine zget hx hb hts inX7 hown hK hw 0 (by decide) rfl rfl 3 (by decide) lk0 (fun _ h9 => h9) rfl dX7_drop_11 ?_
  refine zif_le (tgt := 19) hx hb dX7_drop_14 (by decide) (fun c1 => ?_) (fun c1 => ?_)
  · have h := h.1 c1
    refine lv_iload_n hx hb dX7_drop_19 rfl (lv_at hl 1 rfl) ?_
    refine lv_iload_n hx hb dX7_drop_20 rfl (lv_at hl 2 rfl) ?_
    refine lv_iload_n hx hb dX7_drop_21 rfl (lv_at hl 3 rfl) ?_
    refine k_X7_number (rest := []) hx hb hml hown hts gX7_drop_X7_number ⟨Nat.le_of_ble_eq_true rfl, Nat.le_of_ble_eq_true rfl⟩ ⟨Nat.zero_le _, Nat.zero_le _⟩ hK hj hw hA hS hl.1 (Nat.le_of_ble_eq_true rfl) dX7_drop_22 h (fun r2 s3 H locs h hw hS => ?_)
    refine lv_istore (lv' := [(4, .int r2), (0, .ref (ad 0)), (1, .int p0), (2, .int p1), (3, .int p2)]) hx hb dX7_drop_25 hl (by decide) rfl (fun ls hl => ?_)
    refine lv_aload_n hx hb dX7_drop_27 rfl (lv_at hl 1 rfl) ?_
    refine lv_aload_n hx hb dX7_drop_28 rfl (lv_at hl 1 rfl) ?_
    refine lv_iload hx hb dX7_drop_29 (lv_at hl 0 rfl) ?_
    refine k_X7_is (rest := [.ref (ad 0)]) hx hb hml hown hts gX7_drop_X7_is ⟨Nat.le_of_ble_eq_true rfl, Nat.le_of_ble_eq_true rfl⟩ ⟨Nat.zero_le _, Nat.zero_le _⟩ hK hj hw hA hS hl.1 (Nat.le_of_ble_eq_true rfl) dX7_drop_31 h (fun r3 s4 H locs h hw hS => ?_)
    refine zif_eq (tgt := 41) hx hb dX7_drop_34 (by decide) (fun c2 => ?_) (fun c2 => ?_)
    · have h := h.1 c2
      refine lv_iconst (v := (jI 3)) hx hb dX7_drop_41 rfl ?_
      obtain ⟨s5, es5⟩ : ∃ y : ST, y = zsp s4 1 (jI 3) := ⟨_, rfl⟩
      have h := h s5 es5
      refine zput (ty := .int) hx hb hts inX7 tyX7 tyX7_ok nmX7 hown hK hj hw hA hS 0 (by decide) rfl rfl 3 (by decide) lk0 (fun _ h9 => h9) rfl (by decide +kernel) rfl rfl (Nat.le_of_ble_eq_true rfl) dX7_drop_42 (zme cy ad s5) (by rw [es5]; rfl) (fun j hj9 => by rw [es5]; exact zsp_off_M_1 j hj9) (fun H locs hw hS => ?_)
      refine lv_aload_n hx hb dX7_drop_45 rfl (lv_at hl 1 rfl) ?_
      refine zget hx hb hts inX7 hown hK hw 0 (by decide) rfl rfl 3 (by decide) lk0 (fun _ h9 => h9) rfl dX7_drop_46 ?_
      refine zif_le (tgt := 54) hx hb dX7_drop_49 (by decide) (fun c3 => ?_) (fun c3 => ?_)
      · have h := h.1 c3
        refine lv_aload_n hx hb dX7_drop_54 rfl (lv_at hl 1 rfl) ?_
        refine k_X7_saves (rest := []) hx hb hml hown hts gX7_drop_X7_saves ⟨Nat.le_of_ble_eq_true rfl, Nat.le_of_ble_eq_true rfl⟩ ⟨Nat.zero_le _, Nat.zero_le _⟩ hK hj hw hA hS hl.1 (Nat.le_of_ble_eq_true rfl) dX7_drop_55 h (fun s6 H locs h hw hS => ?_)
        refine lv_aload_n hx hb dX7_drop_58 rfl (lv_at hl 1 rfl) ?_
        refine lv_iload hx hb dX7_drop_59 (lv_at hl 0 rfl) ?_
        refine k_X7_goes (rest := []) hx hb hml hown hts gX7_drop_X7_goes ⟨Nat.le_of_ble_eq_true rfl, Nat.le_of_ble_eq_true rfl⟩ ⟨Nat.zero_le _, Nat.zero_le _⟩ hK hj hw hA hS hl.1 (Nat.le_of_ble_eq_true rfl) dX7_drop_61 h (fun s7 H locs h hw hS => ?_)
        refine lv_aload_n hx hb dX7_drop_64 rfl (lv_at hl 1 rfl) ?_
        refine lv_iload hx hb dX7_drop_65 (lv_at hl 0 rfl) ?_
        refine lv_iconst (v := (jI 5)) hx hb dX7_drop_67 rfl ?_
        refine k_X7_of (rest := []) hx hb hml hown hts gX7_drop_X7_of ⟨Nat.le_of_ble_eq_true rfl, Nat.le_of_ble_eq_true rfl⟩ ⟨Nat.zero_le _, Nat.zero_le _⟩ hK hj hw hA hS hl.1 (Nat.le_of_ble_eq_true rfl) dX7_drop_68 h (fun r4 s8 H locs h hw hS => ?_)
        exact W.iret (v := r4) hx hb hr (fun t ht hW => ⟨⟨_, _, rfl, h, zend hw ht⟩, hS.F ht⟩) hS.2.2 dX7_drop_71
      · have h := h.2 c3
        refine lv_iconst (v := (jI 0)) hx hb dX7_drop_52 rfl ?_
        exact W.iret (v := (jI 0)) hx hb hr (fun t ht hW => ⟨⟨_, _, rfl, h, zend hw ht⟩, hS.F ht⟩) hS.2.2 dX7_drop_53
    · have h := h.2 c2
      refine lv_iconst (v := (jI 0)) hx hb dX7_drop_37 rfl ?_
      refine lv_goto (tgt := 42) hx hb dX7_drop_38 (by decide) ?_
      obtain ⟨s9, es9⟩ : ∃ y : ST, y = zsp s4 1 (jI 0) := ⟨_, rfl⟩
      have h := h s9 es9
      refine zput (ty := .int) hx hb hts inX7 tyX7 tyX7_ok nmX7 hown hK hj hw hA hS 0 (by decide) rfl rfl 3 (by decide) lk0 (fun _ h9 => h9) rfl (by decide +kernel) rfl rfl (Nat.le_of_ble_eq_true rfl) dX7_drop_42 (zme cy ad s9) (by rw [es9]; rfl) (fun j hj9 => by rw [es9]; exact zsp_off_M_1 j hj9) (fun H locs hw hS => ?_)
      refine lv_aload_n hx hb dX7_drop_45 rfl (lv_at hl 1 rfl) ?_
      refine zget hx hb hts inX7 hown hK hw 0 (by decide) rfl rfl 3 (by decide) lk0 (fun _ h9 => h9) rfl dX7_drop_46 ?_
      refine zif_le (tgt := 54) hx hb dX7_drop_49 (by decide) (fun c4 => ?_) (fun c4 => ?_)
      · have h := h.1 c4
        refine lv_aload_n hx hb dX7_drop_54 rfl (lv_at hl 1 rfl) ?_
        refine k_X7_saves (rest := []) hx hb hml hown hts gX7_drop_X7_saves ⟨Nat.le_of_ble_eq_true rfl, Nat.le_of_ble_eq_true rfl⟩ ⟨Nat.zero_le _, Nat.zero_le _⟩ hK hj hw hA hS hl.1 (Nat.le_of_ble_eq_true rfl) dX7_drop_55 h (fun s10 H locs h hw hS => ?_)
        refine lv_aload_n hx hb dX7_drop_58 rfl (lv_at hl 1 rfl) ?_
        refine lv_iload hx hb dX7_drop_59 (lv_at hl 0 rfl) ?_
        refine k_X7_goes (rest := []) hx hb hml hown hts gX7_drop_X7_goes ⟨Nat.le_of_ble_eq_true rfl, Nat.le_of_ble_eq_true rfl⟩ ⟨Nat.zero_le _, Nat.zero_le _⟩ hK hj hw hA hS hl.1 (Nat.le_of_ble_eq_true rfl) dX7_drop_61 h (fun s11 H locs h hw hS => ?_)
        refine lv_aload_n hx hb dX7_drop_64 rfl (lv_at hl 1 rfl) ?_
        refine lv_iload hx hb dX7_drop_65 (lv_at hl 0 rfl) ?_
        refine lv_iconst (v := (jI 5)) hx hb dX7_drop_67 rfl ?_
        refine k_X7_of (rest := []) hx hb hml hown hts gX7_drop_X7_of ⟨Nat.le_of_ble_eq_true rfl, Nat.le_of_ble_eq_true rfl⟩ ⟨Nat.zero_le _, Nat.zero_le _⟩ hK hj hw hA hS hl.1 (Nat.le_of_ble_eq_true rfl) dX7_drop_68 h (fun r5 s12 H locs h hw hS => ?_)
        exact W.iret (v := r5) hx hb hr (fun t ht hW => ⟨⟨_, _, rfl, h, zend hw ht⟩, hS.F ht⟩) hS.2.2 dX7_drop_71
      · have h := h.2 c4
        refine lv_iconst (v := (jI 0)) hx hb dX7_drop_52 rfl ?_
        exact W.iret (v := (jI 0)) hx hb hr (fun t ht hW => ⟨⟨_, _, rfl, h, zend hw ht⟩, hS.F ht⟩) hS.2.2 dX7_drop_53
  · have h := h.2 c1
    refine lv_iconst (v := (jI 0)) hx hb dX7_drop_17 rfl ?_
    exact W.iret (v := (jI 0)) hx hb hr (fun t ht hW => ⟨⟨_, _, rfl, h, zend hw ht⟩, hS.F ht⟩) hS.2.2 dX7_drop_18
theorem k_X7_drop {p : Program} {l : Launch} {e : Env} {R : Room} {s : State} {m : MethodId} {args : Array Value} {below : List Frame} {meth : Method} {c : Code} {H : Heap} {locs : List Loc} {cells slots : Nat} {QQ : State → Prop} {cc : ByteArray} {pc nL index : Nat} {ls : Array Slot} {rest : List Value} {D : va_G} {cy : cyT} {ad : Nat → Nat} {own : String} {Ts : List Cond} {H0 : Heap} {σ : ST} {p0 : Int32} {p1 : Int32} {p2 : Int32} {Q : Int32 → ST → Prop} (hx : p.tables.exec = Jvm.exec) (hb : c.code = cc) (hml : c.maxLocals = nL) (hown : s.vm.findClass own = some m.cls) (hts : ∀ w ∈ Ts, w.before args s = true) (hG : GoodIn Ts (wsV own index RX7 yX7_drop wsX7_drop)) (hR : 2 + 1 ≤ R.frames ∧ 8 + (5 + 11) + 45 ≤ R.locals) (hcs : cells ≤ R.cells ∧ slots ≤ R.slots) (hK : zK D cy s) (hj : zI 6 ad) (hw : zW D 6 (zme cy ad σ) ad H) {A0 : Nat → Prop} (hA : ∀ i, i < 6 → A0 (ad i)) (hS : va_S A0 H0 H locs) (hsz : ls.size = nL) (hrest : (rest.map fun v => v.category).sum ≤ 8) (hdg : decode cc pc = .ok (.invokevirtual index, 3)) (h : wp_X7_drop σ p0 p1 p2 Q) (kk : ∀ (r : Int32) (σ : ST) (H : Heap) (locs : List Loc), Q r σ → zW D 6 (zme cy ad σ) ad H → va_S A0 H0 H locs → W p l e R s m args below meth c H locs cells slots QQ (F0 m (pc + 3) ls (.int r :: rest))) : W p l e R s m args below meth c H locs cells slots QQ (F0 m pc ls (.int p2 :: .int p1 :: .int p0 :: .ref (ad 0) :: rest)) :=
  zcalli (va_runV (As := [.int p0, .int p1, .int p2]) (rest := rest) ⟨hx, hb, hml, hown, hts⟩ (c_X7_drop l D cy ad σ p0 p1 p2 h) (cwV 3 hts hG rfl rfl rfl (by decide +kernel) hR) (zpreV hj hK hw _ (i := 0) (ci := 6) (by decide) rfl rfl) rfl rfl hsz rfl (lv_room hrest) hdg hcs) hA hS kk
set_option maxHeartbeats 4000000 in
set_option maxRecDepth 100000 in
theorem c_X7_manyNow (l : Launch) (D : va_G) (cy : cyT) (ad : Nat → Nat) (σ : ST) {Q : Int32 → ST → Prop} (h : wp_X7_manyNow σ Q) : Met l yX7_manyNow wsX7_manyNow ({ frames := 3, cells := 0, slots := 0, locals := 64 } : Room) (zPre D cy 6 (zme cy ad σ) ad [.ref (ad 0)]) (va_Qi Q (zB D 6 (zme cy ad) ad) (zA 6 ad)) 0 0 (zA 6 ad) := by
  refine Met.ofW (cc := cX7_manyNow) (maxL := 3) (ret := (some .int)) (by decide) rfl ?_
  intro p e s m args below meth c s₁ B hml hv
  obtain ⟨rfl, hj, hK, hw⟩ := hv
  have hx := B.exec
  have hb := B.bytes
  have hr := B.returns
  have hts := atoms_spec (ws := wsX7_manyNow) B.pre
  have hown : s.vm.findClass RX7 = some m.cls := findClass_of_methodNamed B.named
  have hlocks := B.notSynchronized
  have hS : va_S (zA 6 ad) s.heap s.heap [] := va_S.rf
  have hA : ∀ i, i < 6 → zA 6 ad (ad i) := fun i hi => ⟨i, hi, rfl⟩
  have hl := lv_entry ([.ref (ad 0)]) (n := 3) (Nat.le_of_ble_eq_true rfl)
  rw [lg_entry_eq]
  generalize (lg_sl ([.ref (ad 0)]) ++ List.replicate (3 - (lg_sl ([.ref (ad 0)])).length) Slot.unset).toArray = ls at hl ⊢
  have hl : lv_has ls 3 [(0, .ref (ad 0))] := hl
  show W p l e ({ frames := 3, cells := 0, slots := 0, locals := 64 } : Room) s m ([.ref (ad 0)] : List Value).toArray below meth c s.heap [] 0 0 (MQ below (va_Qi Q (zB D 6 (zme cy ad) ad) (zA 6 ad)) ([.ref (ad 0)] : List Value).toArray s 0 0 (zA 6 ad)) (F0 m 0 ls [])
  unfold wp_X7_manyNow at h
  refine lv_iconst (v := (jI 0)) hx hb dX7_manyNow_0 rfl ?_
  refine lv_istore_n (lv' := [(1, .int (jI 0)), (0, .ref (ad 0))]) hx hb dX7_manyNow_1 rfl hl (by decide) rfl (fun ls hl => ?_)
  refine lv_iconst (v := (jI 0)) hx hb dX7_manyNow_2 rfl ?_
  refine lv_istore_n (lv' := [(2, .int (jI 0)), (1, .int (jI 0)), (0, .ref (ad 0))]) hx hb dX7_manyNow_3 rfl hl (by decide) rfl (fun ls hl => ?_)
  have k33_4 : ∀ (u_33 : ST) (z1_33 : Int32) (H : Heap) (locs : List Loc), Q z1_33 u_33 → zW D 6 (zme cy ad u_33) ad H → va_S (zA 6 ad) s.heap H locs → ∀ ls : Array Slot, lv_has ls 3 [(1, .int z1_33)] → W p l e ({ frames := 3, cells := 0, slots := 0, locals := 64 } : Room) s m ([.ref (ad 0)] : List Value).toArray below meth c H locs 0 0 (MQ below (va_Qi Q (zB D 6 (zme cy ad) ad) (zA 6 ad)) ([.ref (ad 0)] : List Value).toArray s 0 0 (zA 6 ad)) (F0 m 33 ls []) := by
    intro u_33 z1_33 H locs h hw hS ls hl
    refine lv_iload_n hx hb dX7_manyNow_33 rfl (lv_at hl 0 rfl) ?_
    exact W.iret (v := z1_33) hx hb hr (fun t ht hW => ⟨⟨_, _, rfl, h, zend hw ht⟩, hS.F ht⟩) hS.2.2 dX7_manyNow_34
  have lp4 : ∀ (nn4 : Nat) (t_4 : ST) (y1_4 : Int32) (y2_4 : Int32) (H : Heap) (locs : List Loc), wl_X7_manyNow_4 (fun u_33 z1_33 => Q z1_33 u_33)  nn4 t_4 y1_4 y2_4 → zW D 6 (zme cy ad t_4) ad H → va_S (zA 6 ad) s.heap H locs → ∀ ls : Array Slot, lv_has ls 3 [(0, .ref (ad 0)), (1, .int y1_4), (2, .int y2_4)] → W p l e ({ frames := 3, cells := 0, slots := 0, locals := 64 } : Room) s m ([.ref (ad 0)] : List Value).toArray below meth c H locs 0 0 (MQ below (va_Qi Q (zB D 6 (zme cy ad) ad) (zA 6 ad)) ([.ref (ad 0)] : List Value).toArray s 0 0 (zA 6 ad)) (F0 m 4 ls []) := by
    intro nn4
    induction nn4 with
    | zero => intro _ _ _ _ _ h; exact h.elim
    | succ nn4 ih4 =>
      intro t_4 y1_4 y2_4 H locs h hw hS ls hl
      simp only [wl_X7_manyNow_4, wb_X7_manyNow_4] at h
      refine lv_iload_n hx hb dX7_manyNow_4 rfl (lv_at hl 2 rfl) ?_
      refine lv_sipush (v := (jI 144)) hx hb dX7_manyNow_5 (by decide +kernel) ?_
      refine lv_icmp_ge (tgt := 33) hx hb dX7_manyNow_8 (by decide) (fun c1 => ?_) (fun c1 => ?_)
      · have h := h.1 c1
        exact k33_4 _ _ _ _ h hw hS _ (lv_sub hl [1] rfl)
      · have h := h.2 c1
        refine lv_iload_n hx hb dX7_manyNow_11 rfl (lv_at hl 1 rfl) ?_
        refine lv_aload_n hx hb dX7_manyNow_12 rfl (lv_at hl 0 rfl) ?_
        refine lv_iload_n hx hb dX7_manyNow_13 rfl (lv_at hl 2 rfl) ?_
        refine k_X7_isNow (rest := [.int y1_4]) hx hb hml hown hts gX7_manyNow_X7_isNow ⟨Nat.le_of_ble_eq_true rfl, Nat.le_of_ble_eq_true rfl⟩ ⟨Nat.zero_le _, Nat.zero_le _⟩ hK hj hw hA hS hl.1 (Nat.le_of_ble_eq_true rfl) dX7_manyNow_14 h (fun r1 s1 H locs h hw hS => ?_)
        refine zif_eq (tgt := 24) hx hb dX7_manyNow_17 (by decide) (fun c2 => ?_) (fun c2 => ?_)
        · have h := h.1 c2
          refine lv_iconst (v := (jI 0)) hx hb dX7_manyNow_24 rfl ?_
          refine lv_iadd hx hb dX7_manyNow_25 ?_
          refine lv_topi (fun x1 ex1 => ?_)
          have h := h x1 ex1
          refine lv_istore_n (lv' := [(1, .int x1), (0, .ref (ad 0)), (2, .int y2_4)]) hx hb dX7_manyNow_26 rfl hl (by decide) rfl (fun ls hl => ?_)
          obtain ⟨x2, ex2⟩ : ∃ y : Int32, y = y2_4 + (jI 1) := ⟨_, rfl⟩
          have h := h x2 ex2
          refine lv_iinc (v := x2) (lv' := [(2, .int x2), (1, .int x1), (0, .ref (ad 0))]) hx hb dX7_manyNow_27 hl (k := 2) rfl (by rw [ex2]; rfl) (by decide) rfl (fun ls hl => ?_)
          refine lv_goto (tgt := 4) hx hb dX7_manyNow_30 (by decide) ?_
          exact ih4 _ _ _ _ _ h hw hS _ (lv_sub hl [2, 1, 0] rfl)
        · have h := h.2 c2
          refine lv_iconst (v := (jI 1)) hx hb dX7_manyNow_20 rfl ?_
          refine lv_goto (tgt := 25) hx hb dX7_manyNow_21 (by decide) ?_
          refine lv_iadd hx hb dX7_manyNow_25 ?_
          refine lv_topi (fun x3 ex3 => ?_)
          have h := h x3 ex3
          refine lv_istore_n (lv' := [(1, .int x3), (0, .ref (ad 0)), (2, .int y2_4)]) hx hb dX7_manyNow_26 rfl hl (by decide) rfl (fun ls hl => ?_)
          obtain ⟨x4, ex4⟩ : ∃ y : Int32, y = y2_4 + (jI 1) := ⟨_, rfl⟩
          have h := h x4 ex4
          refine lv_iinc (v := x4) (lv' := [(2, .int x4), (1, .int x3), (0, .ref (ad 0))]) hx hb dX7_manyNow_27 hl (k := 2) rfl (by rw [ex4]; rfl) (by decide) rfl (fun ls hl => ?_)
          refine lv_goto (tgt := 4) hx hb dX7_manyNow_30 (by decide) ?_
          exact ih4 _ _ _ _ _ h hw hS _ (lv_sub hl [2, 1, 0] rfl)
  obtain ⟨nn4, h⟩ := h
  exact lp4 nn4 _ _ _ _ _ h hw hS _ (lv_sub hl [2, 1, 0] rfl)
theorem k_X7_manyNow {p : Program} {l : Launch} {e : Env} {R : Room} {s : State} {m : MethodId} {args : Array Value} {below : List Frame} {meth : Method} {c : Code} {H : Heap} {locs : List Loc} {cells slots : Nat} {QQ : State → Prop} {cc : ByteArray} {pc nL index : Nat} {ls : Array Slot} {rest : List Value} {D : va_G} {cy : cyT} {ad : Nat → Nat} {own : String} {Ts : List Cond} {H0 : Heap} {σ : ST}  {Q : Int32 → ST → Prop} (hx : p.tables.exec = Jvm.exec) (hb : c.code = cc) (hml : c.maxLocals = nL) (hown : s.vm.findClass own = some m.cls) (hts : ∀ w ∈ Ts, w.before args s = true) (hG : GoodIn Ts (wsV own index RX7 yX7_manyNow wsX7_manyNow)) (hR : 3 + 1 ≤ R.frames ∧ 8 + (3 + 11) + 64 ≤ R.locals) (hcs : cells ≤ R.cells ∧ slots ≤ R.slots) (hK : zK D cy s) (hj : zI 6 ad) (hw : zW D 6 (zme cy ad σ) ad H) {A0 : Nat → Prop} (hA : ∀ i, i < 6 → A0 (ad i)) (hS : va_S A0 H0 H locs) (hsz : ls.size = nL) (hrest : (rest.map fun v => v.category).sum ≤ 8) (hdg : decode cc pc = .ok (.invokevirtual index, 3)) (h : wp_X7_manyNow σ  Q) (kk : ∀ (r : Int32) (σ : ST) (H : Heap) (locs : List Loc), Q r σ → zW D 6 (zme cy ad σ) ad H → va_S A0 H0 H locs → W p l e R s m args below meth c H locs cells slots QQ (F0 m (pc + 3) ls (.int r :: rest))) : W p l e R s m args below meth c H locs cells slots QQ (F0 m pc ls (.ref (ad 0) :: rest)) :=
  zcalli (va_runV (As := []) (rest := rest) ⟨hx, hb, hml, hown, hts⟩ (c_X7_manyNow l D cy ad σ  h) (cwV 0 hts hG rfl rfl rfl (by decide +kernel) hR) (zpreV hj hK hw _ (i := 0) (ci := 6) (by decide) rfl rfl) rfl rfl hsz rfl (lv_room hrest) hdg hcs) hA hS kk
set_option maxHeartbeats 4000000 in
set_option maxRecDepth 100000 in
theorem c_X7_newLine (l : Launch) (D : va_G) (cy : cyT) (ad : Nat → Nat) (σ : ST) {Q : Int32 → ST → Prop} (h : wp_X7_newLine σ Q) : Met l yX7_newLine wsX7_newLine ({ frames := 4, cells := 0, slots := 0, locals := 86 } : Room) (zPre D cy 6 (zme cy ad σ) ad [.ref (ad 0)]) (va_Qi Q (zB D 6 (zme cy ad) ad) (zA 6 ad)) 0 0 (zA 6 ad) := by
  refine Met.ofW (cc := cX7_newLine) (maxL := 2) (ret := (some .int)) (by decide) rfl ?_
  intro p e s m args below meth c s₁ B hml hv
  obtain ⟨rfl, hj, hK, hw⟩ := hv
  have hx := B.exec
  have hb := B.bytes
  have hr := B.returns
  have hts := atoms_spec (ws := wsX7_newLine) B.pre
  have hown : s.vm.findClass RX7 = some m.cls := findClass_of_methodNamed B.named
  have hlocks := B.notSynchronized
  have lk0 : Cond.fieldLink RX7 26 "TypeTraysModel" "thrown" "I" ∈ wsX7_newLine := List.mem_of_getElem? (i := 1) rfl
  have lk1 : Cond.fieldLink RX7 7 "TypeTraysModel" "w" "[I" ∈ wsX7_newLine := List.mem_of_getElem? (i := 2) rfl
  have inX7 : ∀ w ∈ u_ws RX7 TX7 16, w ∈ wsX7_newLine := zin_at 26 rfl
  have hS : va_S (zA 6 ad) s.heap s.heap [] := va_S.rf
  have hA : ∀ i, i < 6 → zA 6 ad (ad i) := fun i hi => ⟨i, hi, rfl⟩
  have hl := lv_entry ([.ref (ad 0)]) (n := 2) (Nat.le_of_ble_eq_true rfl)
  rw [lg_entry_eq]
  generalize (lg_sl ([.ref (ad 0)]) ++ List.replicate (2 - (lg_sl ([.ref (ad 0)])).length) Slot.unset).toArray = ls at hl ⊢
  have hl : lv_has ls 2 [(0, .ref (ad 0))] := hl
  show W p l e ({ frames := 4, cells := 0, slots := 0, locals := 86 } : Room) s m ([.ref (ad 0)] : List Value).toArray below meth c s.heap [] 0 0 (MQ below (va_Qi Q (zB D 6 (zme cy ad) ad) (zA 6 ad)) ([.ref (ad 0)] : List Value).toArray s 0 0 (zA 6 ad)) (F0 m 0 ls [])
  unfold wp_X7_newLine at h
  refine lv_aload_n hx hb dX7_newLine_0 rfl (lv_at hl 0 rfl) ?_
  refine lv_iconst (v := (jI 0)) hx hb dX7_newLine_1 rfl ?_
  obtain ⟨s1, es1⟩ : ∃ y : ST, y = zsp σ 1 (jI 0) := ⟨_, rfl⟩
  have h := h s1 es1
  refine zput (ty := .int) hx hb hts inX7 tyX7 tyX7_ok nmX7 hown hK hj hw hA hS 0 (by decide) rfl rfl 3 (by decide) lk0 (fun _ h9 => h9) rfl (by decide +kernel) rfl rfl (Nat.le_of_ble_eq_true rfl) dX7_newLine_2 (zme cy ad s1) (by rw [es1]; rfl) (fun j hj9 => by rw [es1]; exact zsp_off_M_1 j hj9) (fun H locs hw hS => ?_)
  refine lv_aload_n hx hb dX7_newLine_5 rfl (lv_at hl 0 rfl) ?_
  refine k_X7_saves (rest := []) hx hb hml hown hts gX7_newLine_X7_saves ⟨Nat.le_of_ble_eq_true rfl, Nat.le_of_ble_eq_true rfl⟩ ⟨Nat.zero_le _, Nat.zero_le _⟩ hK hj hw hA hS hl.1 (Nat.le_of_ble_eq_true rfl) dX7_newLine_6 h (fun s2 H locs h hw hS => ?_)
  refine lv_aload_n hx hb dX7_newLine_9 rfl (lv_at hl 0 rfl) ?_
  refine k_X7_manyNow (rest := []) hx hb hml hown hts gX7_newLine_X7_manyNow ⟨Nat.le_of_ble_eq_true rfl, Nat.le_of_ble_eq_true rfl⟩ ⟨Nat.zero_le _, Nat.zero_le _⟩ hK hj hw hA hS hl.1 (Nat.le_of_ble_eq_true rfl) dX7_newLine_10 h (fun r1 s3 H locs h hw hS => ?_)
  refine lv_istore_n (lv' := [(1, .int r1), (0, .ref (ad 0))]) hx hb dX7_newLine_13 rfl hl (by decide) rfl (fun ls hl => ?_)
  refine lv_aload_n hx hb dX7_newLine_14 rfl (lv_at hl 1 rfl) ?_
  refine zget hx hb hts inX7 hown hK hw 0 (by decide) rfl rfl 0 (by decide) lk1 (fun _ h9 => h9) rfl dX7_newLine_15 ?_
  refine lv_iconst (v := (jI 1)) hx hb dX7_newLine_18 rfl ?_
  refine lv_dup2_11 hx hb dX7_newLine_19 rfl rfl ?_
  refine ziald hx hb hK hw 1 (by decide) rfl h.1 dX7_newLine_20 ?_
  refine lv_topi (fun v1 ev1 => ?_)
  have h := h.2 v1 ev1
  refine lv_iconst (v := (jI 1)) hx hb dX7_newLine_21 rfl ?_
  refine lv_iadd hx hb dX7_newLine_22 ?_
  obtain ⟨s4, es4⟩ : ∃ y : ST, y = zrp s3 0 (jI 1).toNatClampNeg (v1 + (jI 1)) := ⟨_, rfl⟩
  refine ziast hx hb hK hj hw hA hS 1 (by decide) rfl h.1 dX7_newLine_23 (zme cy ad s4) (by rw [es4]; exact zrp_on_M_0) (fun j hj9 => by rw [es4]; exact zrp_off_M_0 j hj9) (fun H locs hw hS => ?_)
  have h := h.2 s4 es4
  refine lv_iload_n hx hb dX7_newLine_24 rfl (lv_at hl 0 rfl) ?_
  exact W.iret (v := r1) hx hb hr (fun t ht hW => ⟨⟨_, _, rfl, h, zend hw ht⟩, hS.F ht⟩) hS.2.2 dX7_newLine_25
theorem k_X7_newLine {p : Program} {l : Launch} {e : Env} {R : Room} {s : State} {m : MethodId} {args : Array Value} {below : List Frame} {meth : Method} {c : Code} {H : Heap} {locs : List Loc} {cells slots : Nat} {QQ : State → Prop} {cc : ByteArray} {pc nL index : Nat} {ls : Array Slot} {rest : List Value} {D : va_G} {cy : cyT} {ad : Nat → Nat} {own : String} {Ts : List Cond} {H0 : Heap} {σ : ST}  {Q : Int32 → ST → Prop} (hx : p.tables.exec = Jvm.exec) (hb : c.code = cc) (hml : c.maxLocals = nL) (hown : s.vm.findClass own = some m.cls) (hts : ∀ w ∈ Ts, w.before args s = true) (hG : GoodIn Ts (wsV own index RX7 yX7_newLine wsX7_newLine)) (hR : 4 + 1 ≤ R.frames ∧ 8 + (2 + 11) + 86 ≤ R.locals) (hcs : cells ≤ R.cells ∧ slots ≤ R.slots) (hK : zK D cy s) (hj : zI 6 ad) (hw : zW D 6 (zme cy ad σ) ad H) {A0 : Nat → Prop} (hA : ∀ i, i < 6 → A0 (ad i)) (hS : va_S A0 H0 H locs) (hsz : ls.size = nL) (hrest : (rest.map fun v => v.category).sum ≤ 8) (hdg : decode cc pc = .ok (.invokevirtual index, 3)) (h : wp_X7_newLine σ  Q) (kk : ∀ (r : Int32) (σ : ST) (H : Heap) (locs : List Loc), Q r σ → zW D 6 (zme cy ad σ) ad H → va_S A0 H0 H locs → W p l e R s m args below meth c H locs cells slots QQ (F0 m (pc + 3) ls (.int r :: rest))) : W p l e R s m args below meth c H locs cells slots QQ (F0 m pc ls (.ref (ad 0) :: rest)) :=
  zcalli (va_runV (As := []) (rest := rest) ⟨hx, hb, hml, hown, hts⟩ (c_X7_newLine l D cy ad σ  h) (cwV 0 hts hG rfl rfl rfl (by decide +kernel) hR) (zpreV hj hK hw _ (i := 0) (ci := 6) (by decide) rfl rfl) rfl rfl hsz rfl (lv_room hrest) hdg hcs) hA hS kk
set_option maxHeartbeats 4000000 in
set_option maxRecDepth 100000 in
theorem c_X7_addsTray (l : Launch) (D : va_G) (cy : cyT) (ad : Nat → Nat) (σ : ST) {Q : Int32 → ST → Prop} (h : wp_X7_addsTray σ Q) : Met l yX7_addsTray wsX7_addsTray ({ frames := 0, cells := 0, slots := 0, locals := 0 } : Room) (zPre D cy 6 (zme cy ad σ) ad [.ref (ad 0)]) (va_Qi Q (zB D 6 (zme cy ad) ad) (zA 6 ad)) 0 0 (zA 6 ad) := by
  refine Met.ofW (cc := cX7_addsTray) (maxL := 1) (ret := (some .int)) (by decide) rfl ?_
  intro p e s m args below meth c s₁ B hml hv
  obtain ⟨rfl, hj, hK, hw⟩ := hv
  have hx := B.exec
  have hb := B.bytes
  have hr := B.returns
  have hts := atoms_spec (ws := wsX7_addsTray) B.pre
  have hown : s.vm.findClass RX7 = some m.cls := findClass_of_methodNamed B.named
  have hlocks := B.notSynchronized
  have lk0 : Cond.fieldLink RX7 7 "TypeTraysModel" "w" "[I" ∈ wsX7_addsTray := List.mem_of_getElem? (i := 1) rfl
  have inX7 : ∀ w ∈ u_ws RX7 TX7 16, w ∈ wsX7_addsTray := zin_at 2 rfl
  have hS : va_S (zA 6 ad) s.heap s.heap [] := va_S.rf
  have hA : ∀ i, i < 6 → zA 6 ad (ad i) := fun i hi => ⟨i, hi, rfl⟩
  have hl := lv_entry ([.ref (ad 0)]) (n := 1) (Nat.le_of_ble_eq_true rfl)
  rw [lg_entry_eq]
  generalize (lg_sl ([.ref (ad 0)]) ++ List.replicate (1 - (lg_sl ([.ref (ad 0)])).length) Slot.unset).toArray = ls at hl ⊢
  have hl : lv_has ls 1 [(0, .ref (ad 0))] := hl
  show W p l e ({ frames := 0, cells := 0, slots := 0, locals := 0 } : Room) s m ([.ref (ad 0)] : List Value).toArray below meth c s.heap [] 0 0 (MQ below (va_Qi Q (zB D 6 (zme cy ad) ad) (zA 6 ad)) ([.ref (ad 0)] : List Value).toArray s 0 0 (zA 6 ad)) (F0 m 0 ls [])
  unfold wp_X7_addsTray at h
  refine lv_aload_n hx hb dX7_addsTray_0 rfl (lv_at hl 0 rfl) ?_
  refine zget hx hb hts inX7 hown hK hw 0 (by decide) rfl rfl 0 (by decide) lk0 (fun _ h9 => h9) rfl dX7_addsTray_1 ?_
  refine lv_bipush (v := (jI 44)) hx hb dX7_addsTray_4 (by decide +kernel) ?_
  refine lv_aload_n hx hb dX7_addsTray_6 rfl (lv_at hl 0 rfl) ?_
  refine zget hx hb hts inX7 hown hK hw 0 (by decide) rfl rfl 0 (by decide) lk0 (fun _ h9 => h9) rfl dX7_addsTray_7 ?_
  refine lv_iconst (v := (jI 0)) hx hb dX7_addsTray_10 rfl ?_
  refine ziald hx hb hK hw 1 (by decide) rfl h.1 dX7_addsTray_11 ?_
  refine lv_topi (fun v1 ev1 => ?_)
  have h := h.2 v1 ev1
  refine lv_iadd hx hb dX7_addsTray_12 ?_
  refine lv_iconst (v := (jI 0)) hx hb dX7_addsTray_13 rfl ?_
  obtain ⟨s1, es1⟩ : ∃ y : ST, y = zrp σ 0 ((jI 44) + v1).toNatClampNeg (jI 0) := ⟨_, rfl⟩
  refine ziast hx hb hK hj hw hA hS 1 (by decide) rfl h.1 dX7_addsTray_14 (zme cy ad s1) (by rw [es1]; exact zrp_on_M_0) (fun j hj9 => by rw [es1]; exact zrp_off_M_0 j hj9) (fun H locs hw hS => ?_)
  have h := h.2 s1 es1
  refine lv_aload_n hx hb dX7_addsTray_15 rfl (lv_at hl 0 rfl) ?_
  refine zget hx hb hts inX7 hown hK hw 0 (by decide) rfl rfl 0 (by decide) lk0 (fun _ h9 => h9) rfl dX7_addsTray_16 ?_
  refine lv_iconst (v := (jI 0)) hx hb dX7_addsTray_19 rfl ?_
  refine lv_dup2_11 hx hb dX7_addsTray_20 rfl rfl ?_
  refine ziald hx hb hK hw 1 (by decide) rfl h.1 dX7_addsTray_21 ?_
  refine lv_topi (fun v2 ev2 => ?_)
  have h := h.2 v2 ev2
  refine lv_iconst (v := (jI 1)) hx hb dX7_addsTray_22 rfl ?_
  refine lv_iadd hx hb dX7_addsTray_23 ?_
  obtain ⟨s2, es2⟩ : ∃ y : ST, y = zrp s1 0 (jI 0).toNatClampNeg (v2 + (jI 1)) := ⟨_, rfl⟩
  refine ziast hx hb hK hj hw hA hS 1 (by decide) rfl h.1 dX7_addsTray_24 (zme cy ad s2) (by rw [es2]; exact zrp_on_M_0) (fun j hj9 => by rw [es2]; exact zrp_off_M_0 j hj9) (fun H locs hw hS => ?_)
  have h := h.2 s2 es2
  refine lv_aload_n hx hb dX7_addsTray_25 rfl (lv_at hl 0 rfl) ?_
  refine zget hx hb hts inX7 hown hK hw 0 (by decide) rfl rfl 0 (by decide) lk0 (fun _ h9 => h9) rfl dX7_addsTray_26 ?_
  refine lv_iconst (v := (jI 0)) hx hb dX7_addsTray_29 rfl ?_
  refine ziald hx hb hK hw 1 (by decide) rfl h.1 dX7_addsTray_30 ?_
  refine lv_topi (fun v3 ev3 => ?_)
  have h := h.2 v3 ev3
  refine lv_iconst (v := (jI 1)) hx hb dX7_addsTray_31 rfl ?_
  refine lv_isub hx hb dX7_addsTray_32 ?_
  exact W.iret (v := (v3 - (jI 1))) hx hb hr (fun t ht hW => ⟨⟨_, _, rfl, h, zend hw ht⟩, hS.F ht⟩) hS.2.2 dX7_addsTray_33
theorem k_X7_addsTray {p : Program} {l : Launch} {e : Env} {R : Room} {s : State} {m : MethodId} {args : Array Value} {below : List Frame} {meth : Method} {c : Code} {H : Heap} {locs : List Loc} {cells slots : Nat} {QQ : State → Prop} {cc : ByteArray} {pc nL index : Nat} {ls : Array Slot} {rest : List Value} {D : va_G} {cy : cyT} {ad : Nat → Nat} {own : String} {Ts : List Cond} {H0 : Heap} {σ : ST}  {Q : Int32 → ST → Prop} (hx : p.tables.exec = Jvm.exec) (hb : c.code = cc) (hml : c.maxLocals = nL) (hown : s.vm.findClass own = some m.cls) (hts : ∀ w ∈ Ts, w.before args s = true) (hG : GoodIn Ts (wsV own index RX7 yX7_addsTray wsX7_addsTray)) (hR : 0 + 1 ≤ R.frames ∧ 8 + (1 + 11) + 0 ≤ R.locals) (hcs : cells ≤ R.cells ∧ slots ≤ R.slots) (hK : zK D cy s) (hj : zI 6 ad) (hw : zW D 6 (zme cy ad σ) ad H) {A0 : Nat → Prop} (hA : ∀ i, i < 6 → A0 (ad i)) (hS : va_S A0 H0 H locs) (hsz : ls.size = nL) (hrest : (rest.map fun v => v.category).sum ≤ 8) (hdg : decode cc pc = .ok (.invokevirtual index, 3)) (h : wp_X7_addsTray σ  Q) (kk : ∀ (r : Int32) (σ : ST) (H : Heap) (locs : List Loc), Q r σ → zW D 6 (zme cy ad σ) ad H → va_S A0 H0 H locs → W p l e R s m args below meth c H locs cells slots QQ (F0 m (pc + 3) ls (.int r :: rest))) : W p l e R s m args below meth c H locs cells slots QQ (F0 m pc ls (.ref (ad 0) :: rest)) :=
  zcalli (va_runV (As := []) (rest := rest) ⟨hx, hb, hml, hown, hts⟩ (c_X7_addsTray l D cy ad σ  h) (cwV 0 hts hG rfl rfl rfl (by decide +kernel) hR) (zpreV hj hK hw _ (i := 0) (ci := 6) (by decide) rfl rfl) rfl rfl hsz rfl (lv_room hrest) hdg hcs) hA hS kk
set_option maxHeartbeats 4000000 in
set_option maxRecDepth 100000 in
theorem c_X7_addTray (l : Launch) (D : va_G) (cy : cyT) (ad : Nat → Nat) (σ : ST) {Q : Int32 → ST → Prop} (h : wp_X7_addTray σ Q) : Met l yX7_addTray wsX7_addTray ({ frames := 1, cells := 0, slots := 0, locals := 21 } : Room) (zPre D cy 6 (zme cy ad σ) ad [.ref (ad 0)]) (va_Qi Q (zB D 6 (zme cy ad) ad) (zA 6 ad)) 0 0 (zA 6 ad) := by
  refine Met.ofW (cc := cX7_addTray) (maxL := 1) (ret := (some .int)) (by decide) rfl ?_
  intro p e s m args below meth c s₁ B hml hv
  obtain ⟨rfl, hj, hK, hw⟩ := hv
  have hx := B.exec
  have hb := B.bytes
  have hr := B.returns
  have hts := atoms_spec (ws := wsX7_addTray) B.pre
  have hown : s.vm.findClass RX7 = some m.cls := findClass_of_methodNamed B.named
  have hlocks := B.notSynchronized
  have lk0 : Cond.fieldLink RX7 7 "TypeTraysModel" "w" "[I" ∈ wsX7_addTray := List.mem_of_getElem? (i := 1) rfl
  have lk1 : Cond.fieldLink RX7 26 "TypeTraysModel" "thrown" "I" ∈ wsX7_addTray := List.mem_of_getElem? (i := 2) rfl
  have inX7 : ∀ w ∈ u_ws RX7 TX7 16, w ∈ wsX7_addTray := zin_at 14 rfl
  have hS : va_S (zA 6 ad) s.heap s.heap [] := va_S.rf
  have hA : ∀ i, i < 6 → zA 6 ad (ad i) := fun i hi => ⟨i, hi, rfl⟩
  have hl := lv_entry ([.ref (ad 0)]) (n := 1) (Nat.le_of_ble_eq_true rfl)
  rw [lg_entry_eq]
  generalize (lg_sl ([.ref (ad 0)]) ++ List.replicate (1 - (lg_sl ([.ref (ad 0)])).length) Slot.unset).toArray = ls at hl ⊢
  have hl : lv_has ls 1 [(0, .ref (ad 0))] := hl
  show W p l e ({ frames := 1, cells := 0, slots := 0, locals := 21 } : Room) s m ([.ref (ad 0)] : List Value).toArray below meth c s.heap [] 0 0 (MQ below (va_Qi Q (zB D 6 (zme cy ad) ad) (zA 6 ad)) ([.ref (ad 0)] : List Value).toArray s 0 0 (zA 6 ad)) (F0 m 0 ls [])
  unfold wp_X7_addTray at h
  refine lv_aload_n hx hb dX7_addTray_0 rfl (lv_at hl 0 rfl) ?_
  refine lv_aload_n hx hb dX7_addTray_1 rfl (lv_at hl 0 rfl) ?_
  refine zget hx hb hts inX7 hown hK hw 0 (by decide) rfl rfl 0 (by decide) lk0 (fun _ h9 => h9) rfl dX7_addTray_2 ?_
  refine lv_iconst (v := (jI 0)) hx hb dX7_addTray_5 rfl ?_
  refine ziald hx hb hK hw 1 (by decide) rfl h.1 dX7_addTray_6 ?_
  refine lv_topi (fun v1 ev1 => ?_)
  have h := h.2 v1 ev1
  refine lv_iconst (v := (jI 3)) hx hb dX7_addTray_7 rfl ?_
  refine lv_icmp_ne (tgt := 15) hx hb dX7_addTray_8 (by decide) (fun c1 => ?_) (fun c1 => ?_)
  · have h := h.2 c1
    refine lv_iconst (v := (jI 0)) hx hb dX7_addTray_15 rfl ?_
    obtain ⟨s1, es1⟩ : ∃ y : ST, y = zsp σ 1 (jI 0) := ⟨_, rfl⟩
    have h := h s1 es1
    refine zput (ty := .int) hx hb hts inX7 tyX7 tyX7_ok nmX7 hown hK hj hw hA hS 0 (by decide) rfl rfl 3 (by decide) lk1 (fun _ h9 => h9) rfl (by decide +kernel) rfl rfl (Nat.le_of_ble_eq_true rfl) dX7_addTray_16 (zme cy ad s1) (by rw [es1]; rfl) (fun j hj9 => by rw [es1]; exact zsp_off_M_1 j hj9) (fun H locs hw hS => ?_)
    refine lv_aload_n hx hb dX7_addTray_19 rfl (lv_at hl 0 rfl) ?_
    refine zget hx hb hts inX7 hown hK hw 0 (by decide) rfl rfl 3 (by decide) lk1 (fun _ h9 => h9) rfl dX7_addTray_20 ?_
    refine zif_le (tgt := 28) hx hb dX7_addTray_23 (by decide) (fun c2 => ?_) (fun c2 => ?_)
    · have h := h.1 c2
      refine lv_aload_n hx hb dX7_addTray_28 rfl (lv_at hl 0 rfl) ?_
      refine k_X7_saves (rest := []) hx hb hml hown hts gX7_addTray_X7_saves ⟨Nat.le_of_ble_eq_true rfl, Nat.le_of_ble_eq_true rfl⟩ ⟨Nat.zero_le _, Nat.zero_le _⟩ hK hj hw hA hS hl.1 (Nat.le_of_ble_eq_true rfl) dX7_addTray_29 h (fun s2 H locs h hw hS => ?_)
      refine lv_aload_n hx hb dX7_addTray_32 rfl (lv_at hl 0 rfl) ?_
      refine k_X7_addsTray (rest := []) hx hb hml hown hts gX7_addTray_X7_addsTray ⟨Nat.le_of_ble_eq_true rfl, Nat.le_of_ble_eq_true rfl⟩ ⟨Nat.zero_le _, Nat.zero_le _⟩ hK hj hw hA hS hl.1 (Nat.le_of_ble_eq_true rfl) dX7_addTray_33 h (fun r1 s3 H locs h hw hS => ?_)
      exact W.iret (v := r1) hx hb hr (fun t ht hW => ⟨⟨_, _, rfl, h, zend hw ht⟩, hS.F ht⟩) hS.2.2 dX7_addTray_36
    · have h := h.2 c2
      refine lv_iconst (v := (jI 0)) hx hb dX7_addTray_26 rfl ?_
      exact W.iret (v := (jI 0)) hx hb hr (fun t ht hW => ⟨⟨_, _, rfl, h, zend hw ht⟩, hS.F ht⟩) hS.2.2 dX7_addTray_27
  · have h := h.1 c1
    refine lv_iconst (v := (jI 1)) hx hb dX7_addTray_11 rfl ?_
    refine lv_goto (tgt := 16) hx hb dX7_addTray_12 (by decide) ?_
    obtain ⟨s4, es4⟩ : ∃ y : ST, y = zsp σ 1 (jI 1) := ⟨_, rfl⟩
    have h := h s4 es4
    refine zput (ty := .int) hx hb hts inX7 tyX7 tyX7_ok nmX7 hown hK hj hw hA hS 0 (by decide) rfl rfl 3 (by decide) lk1 (fun _ h9 => h9) rfl (by decide +kernel) rfl rfl (Nat.le_of_ble_eq_true rfl) dX7_addTray_16 (zme cy ad s4) (by rw [es4]; rfl) (fun j hj9 => by rw [es4]; exact zsp_off_M_1 j hj9) (fun H locs hw hS => ?_)
    refine lv_aload_n hx hb dX7_addTray_19 rfl (lv_at hl 0 rfl) ?_
    refine zget hx hb hts inX7 hown hK hw 0 (by decide) rfl rfl 3 (by decide) lk1 (fun _ h9 => h9) rfl dX7_addTray_20 ?_
    refine zif_le (tgt := 28) hx hb dX7_addTray_23 (by decide) (fun c3 => ?_) (fun c3 => ?_)
    · have h := h.1 c3
      refine lv_aload_n hx hb dX7_addTray_28 rfl (lv_at hl 0 rfl) ?_
      refine k_X7_saves (rest := []) hx hb hml hown hts gX7_addTray_X7_saves ⟨Nat.le_of_ble_eq_true rfl, Nat.le_of_ble_eq_true rfl⟩ ⟨Nat.zero_le _, Nat.zero_le _⟩ hK hj hw hA hS hl.1 (Nat.le_of_ble_eq_true rfl) dX7_addTray_29 h (fun s5 H locs h hw hS => ?_)
      refine lv_aload_n hx hb dX7_addTray_32 rfl (lv_at hl 0 rfl) ?_
      refine k_X7_addsTray (rest := []) hx hb hml hown hts gX7_addTray_X7_addsTray ⟨Nat.le_of_ble_eq_true rfl, Nat.le_of_ble_eq_true rfl⟩ ⟨Nat.zero_le _, Nat.zero_le _⟩ hK hj hw hA hS hl.1 (Nat.le_of_ble_eq_true rfl) dX7_addTray_33 h (fun r2 s6 H locs h hw hS => ?_)
      exact W.iret (v := r2) hx hb hr (fun t ht hW => ⟨⟨_, _, rfl, h, zend hw ht⟩, hS.F ht⟩) hS.2.2 dX7_addTray_36
    · have h := h.2 c3
      refine lv_iconst (v := (jI 0)) hx hb dX7_addTray_26 rfl ?_
      exact W.iret (v := (jI 0)) hx hb hr (fun t ht hW => ⟨⟨_, _, rfl, h, zend hw ht⟩, hS.F ht⟩) hS.2.2 dX7_addTray_27
theorem k_X7_addTray {p : Program} {l : Launch} {e : Env} {R : Room} {s : State} {m : MethodId} {args : Array Value} {below : List Frame} {meth : Method} {c : Code} {H : Heap} {locs : List Loc} {cells slots : Nat} {QQ : State → Prop} {cc : ByteArray} {pc nL index : Nat} {ls : Array Slot} {rest : List Value} {D : va_G} {cy : cyT} {ad : Nat → Nat} {own : String} {Ts : List Cond} {H0 : Heap} {σ : ST}  {Q : Int32 → ST → Prop} (hx : p.tables.exec = Jvm.exec) (hb : c.code = cc) (hml : c.maxLocals = nL) (hown : s.vm.findClass own = some m.cls) (hts : ∀ w ∈ Ts, w.before args s = true) (hG : GoodIn Ts (wsV own index RX7 yX7_addTray wsX7_addTray)) (hR : 1 + 1 ≤ R.frames ∧ 8 + (1 + 11) + 21 ≤ R.locals) (hcs : cells ≤ R.cells ∧ slots ≤ R.slots) (hK : zK D cy s) (hj : zI 6 ad) (hw : zW D 6 (zme cy ad σ) ad H) {A0 : Nat → Prop} (hA : ∀ i, i < 6 → A0 (ad i)) (hS : va_S A0 H0 H locs) (hsz : ls.size = nL) (hrest : (rest.map fun v => v.category).sum ≤ 8) (hdg : decode cc pc = .ok (.invokevirtual index, 3)) (h : wp_X7_addTray σ  Q) (kk : ∀ (r : Int32) (σ : ST) (H : Heap) (locs : List Loc), Q r σ → zW D 6 (zme cy ad σ) ad H → va_S A0 H0 H locs → W p l e R s m args below meth c H locs cells slots QQ (F0 m (pc + 3) ls (.int r :: rest))) : W p l e R s m args below meth c H locs cells slots QQ (F0 m pc ls (.ref (ad 0) :: rest)) :=
  zcalli (va_runV (As := []) (rest := rest) ⟨hx, hb, hml, hown, hts⟩ (c_X7_addTray l D cy ad σ  h) (cwV 0 hts hG rfl rfl rfl (by decide +kernel) hR) (zpreV hj hK hw _ (i := 0) (ci := 6) (by decide) rfl rfl) rfl rfl hsz rfl (lv_room hrest) hdg hcs) hA hS kk
set_option maxHeartbeats 4000000 in
set_option maxRecDepth 100000 in
theorem c_X7_closes (l : Launch) (D : va_G) (cy : cyT) (ad : Nat → Nat) (σ : ST) {Q : Int32 → ST → Prop} (h : wp_X7_closes σ Q) : Met l yX7_closes wsX7_closes ({ frames := 3, cells := 0, slots := 0, locals := 69 } : Room) (zPre D cy 6 (zme cy ad σ) ad [.ref (ad 0)]) (va_Qi Q (zB D 6 (zme cy ad) ad) (zA 6 ad)) 0 0 (zA 6 ad) := by
  refine Met.ofW (cc := cX7_closes) (maxL := 7) (ret := (some .int)) (by decide) rfl ?_
  intro p e s m args below meth c s₁ B hml hv
  obtain ⟨rfl, hj, hK, hw⟩ := hv
  have hx := B.exec
  have hb := B.bytes
  have hr := B.returns
  have hts := atoms_spec (ws := wsX7_closes) B.pre
  have hown : s.vm.findClass RX7 = some m.cls := findClass_of_methodNamed B.named
  have hlocks := B.notSynchronized
  have lk0 : Cond.fieldLink RX7 7 "TypeTraysModel" "w" "[I" ∈ wsX7_closes := List.mem_of_getElem? (i := 1) rfl
  have inX7 : ∀ w ∈ u_ws RX7 TX7 16, w ∈ wsX7_closes := zin_at 19 rfl
  have hS : va_S (zA 6 ad) s.heap s.heap [] := va_S.rf
  have hA : ∀ i, i < 6 → zA 6 ad (ad i) := fun i hi => ⟨i, hi, rfl⟩
  have hl := lv_entry ([.ref (ad 0)]) (n := 7) (Nat.le_of_ble_eq_true rfl)
  rw [lg_entry_eq]
  generalize (lg_sl ([.ref (ad 0)]) ++ List.replicate (7 - (lg_sl ([.ref (ad 0)])).length) Slot.unset).toArray = ls at hl ⊢
  have hl : lv_has ls 7 [(0, .ref (ad 0))] := hl
  show W p l e ({ frames := 3, cells := 0, slots := 0, locals := 69 } : Room) s m ([.ref (ad 0)] : List Value).toArray below meth c s.heap [] 0 0 (MQ below (va_Qi Q (zB D 6 (zme cy ad) ad) (zA 6 ad)) ([.ref (ad 0)] : List Value).toArray s 0 0 (zA 6 ad)) (F0 m 0 ls [])
  unfold wp_X7_closes at h
  refine lv_iconst (v := (jI 0)) hx hb dX7_closes_0 rfl ?_
  refine lv_istore_n (lv' := [(1, .int (jI 0)), (0, .ref (ad 0))]) hx hb dX7_closes_1 rfl hl (by decide) rfl (fun ls hl => ?_)
  refine lv_iconst (v := (jI 0)) hx hb dX7_closes_2 rfl ?_
  refine lv_istore_n (lv' := [(2, .int (jI 0)), (1, .int (jI 0)), (0, .ref (ad 0))]) hx hb dX7_closes_3 rfl hl (by decide) rfl (fun ls hl => ?_)
  have k174_4 : ∀ (u_174 : ST) (z1_174 : Int32) (H : Heap) (locs : List Loc), Q z1_174 u_174 → zW D 6 (zme cy ad u_174) ad H → va_S (zA 6 ad) s.heap H locs → ∀ ls : Array Slot, lv_has ls 7 [(1, .int z1_174)] → W p l e ({ frames := 3, cells := 0, slots := 0, locals := 69 } : Room) s m ([.ref (ad 0)] : List Value).toArray below meth c H locs 0 0 (MQ below (va_Qi Q (zB D 6 (zme cy ad) ad) (zA 6 ad)) ([.ref (ad 0)] : List Value).toArray s 0 0 (zA 6 ad)) (F0 m 174 ls []) := by
    intro u_174 z1_174 H locs h hw hS ls hl
    refine lv_iload_n hx hb dX7_closes_174 rfl (lv_at hl 0 rfl) ?_
    exact W.iret (v := z1_174) hx hb hr (fun t ht hW => ⟨⟨_, _, rfl, h, zend hw ht⟩, hS.F ht⟩) hS.2.2 dX7_closes_175
  have lp4 : ∀ (nn4 : Nat) (t_4 : ST) (y1_4 : Int32) (y2_4 : Int32) (H : Heap) (locs : List Loc), wl_X7_closes_4 (fun u_174 z1_174 => Q z1_174 u_174)  nn4 t_4 y1_4 y2_4 → zW D 6 (zme cy ad t_4) ad H → va_S (zA 6 ad) s.heap H locs → ∀ ls : Array Slot, lv_has ls 7 [(0, .ref (ad 0)), (1, .int y1_4), (2, .int y2_4)] → W p l e ({ frames := 3, cells := 0, slots := 0, locals := 69 } : Room) s m ([.ref (ad 0)] : List Value).toArray below meth c H locs 0 0 (MQ below (va_Qi Q (zB D 6 (zme cy ad) ad) (zA 6 ad)) ([.ref (ad 0)] : List Value).toArray s 0 0 (zA 6 ad)) (F0 m 4 ls []) := by
    intro nn4
    induction nn4 with
    | zero => intro _ _ _ _ _ h; exact h.elim
    | succ nn4 ih4 =>
      intro t_4 y1_4 y2_4 H locs h hw hS ls hl
      simp only [wl_X7_closes_4, wb_X7_closes_4] at h
      refine lv_iload_n hx hb dX7_closes_4 rfl (lv_at hl 2 rfl) ?_
      refine lv_aload_n hx hb dX7_closes_5 rfl (lv_at hl 0 rfl) ?_
      refine zget hx hb hts inX7 hown hK hw 0 (by decide) rfl rfl 0 (by decide) lk0 (fun _ h9 => h9) rfl dX7_closes_6 ?_
      refine lv_iconst (v := (jI 0)) hx hb dX7_closes_9 rfl ?_
      refine ziald hx hb hK hw 1 (by decide) rfl h.1 dX7_closes_10 ?_
      refine lv_topi (fun v1 ev1 => ?_)
      have h := h.2 v1 ev1
      refine lv_icmp_ge (tgt := 174) hx hb dX7_closes_11 (by decide) (fun c1 => ?_) (fun c1 => ?_)
      · have h := h.1 c1
        exact k174_4 _ _ _ _ h hw hS _ (lv_sub hl [1] rfl)
      · have h := h.2 c1
        refine lv_iconst (v := (jI 0)) hx hb dX7_closes_14 rfl ?_
        refine lv_istore_n (lv' := [(3, .int (jI 0)), (0, .ref (ad 0)), (1, .int y1_4), (2, .int y2_4)]) hx hb dX7_closes_15 rfl hl (by decide) rfl (fun ls hl => ?_)
        refine lv_iconst (v := (jI 0)) hx hb dX7_closes_16 rfl ?_
        refine lv_istore (lv' := [(4, .int (jI 0)), (3, .int (jI 0)), (0, .ref (ad 0)), (1, .int y1_4), (2, .int y2_4)]) hx hb dX7_closes_17 hl (by decide) rfl (fun ls hl => ?_)
        have k158_19 : ∀ (u_158 : ST) (z1_158 : Int32) (z3_158 : Int32) (H : Heap) (locs : List Loc), (vp_in ((jI 44) + y2_4) 983 ∧ ∀ s14 : ST, s14 = zrp u_158 0 ((jI 44) + y2_4).toNatClampNeg z3_158 → (∀ x11 : Int32, x11 = y2_4 + (jI 1) → (wl_X7_closes_4 (fun u_174 z1_174 => Q z1_174 u_174)  nn4) s14 z1_158 x11)) → zW D 6 (zme cy ad u_158) ad H → va_S (zA 6 ad) s.heap H locs → ∀ ls : Array Slot, lv_has ls 7 [(0, .ref (ad 0)), (1, .int z1_158), (2, .int y2_4), (3, .int z3_158)] → W p l e ({ frames := 3, cells := 0, slots := 0, locals := 69 } : Room) s m ([.ref (ad 0)] : List Value).toArray below meth c H locs 0 0 (MQ below (va_Qi Q (zB D 6 (zme cy ad) ad) (zA 6 ad)) ([.ref (ad 0)] : List Value).toArray s 0 0 (zA 6 ad)) (F0 m 158 ls []) := by
          intro u_158 z1_158 z3_158 H locs h hw hS ls hl
          refine lv_aload_n hx hb dX7_closes_158 rfl (lv_at hl 0 rfl) ?_
          refine zget hx hb hts inX7 hown hK hw 0 (by decide) rfl rfl 0 (by decide) lk0 (fun _ h9 => h9) rfl dX7_closes_159 ?_
          refine lv_bipush (v := (jI 44)) hx hb dX7_closes_162 (by decide +kernel) ?_
          refine lv_iload_n hx hb dX7_closes_164 rfl (lv_at hl 2 rfl) ?_
          refine lv_iadd hx hb dX7_closes_165 ?_
          refine lv_iload_n hx hb dX7_closes_166 rfl (lv_at hl 3 rfl) ?_
          obtain ⟨s14, es14⟩ : ∃ y : ST, y = zrp u_158 0 ((jI 44) + y2_4).toNatClampNeg z3_158 := ⟨_, rfl⟩
          refine ziast hx hb hK hj hw hA hS 1 (by decide) rfl h.1 dX7_closes_167 (zme cy ad s14) (by rw [es14]; exact zrp_on_M_0) (fun j hj9 => by rw [es14]; exact zrp_off_M_0 j hj9) (fun H locs hw hS => ?_)
          have h := h.2 s14 es14
          obtain ⟨x11, ex11⟩ : ∃ y : Int32, y = y2_4 + (jI 1) := ⟨_, rfl⟩
          have h := h x11 ex11
          refine lv_iinc (v := x11) (lv' := [(2, .int x11), (0, .ref (ad 0)), (1, .int z1_158), (3, .int z3_158)]) hx hb dX7_closes_168 hl (k := 2) rfl (by rw [ex11]; rfl) (by decide) rfl (fun ls hl => ?_)
          refine lv_goto (tgt := 4) hx hb dX7_closes_171 (by decide) ?_
          exact ih4 _ _ _ _ _ h hw hS _ (lv_sub hl [1, 2, 0] rfl)
        have lp19 : ∀ (nn19 : Nat) (t_19 : ST) (y1_19 : Int32) (y3_19 : Int32) (y4_19 : Int32) (H : Heap) (locs : List Loc), wl_X7_closes_19 (fun u_158 z1_158 z3_158 => (vp_in ((jI 44) + y2_4) 983 ∧ ∀ s14 : ST, s14 = zrp u_158 0 ((jI 44) + y2_4).toNatClampNeg z3_158 → (∀ x11 : Int32, x11 = y2_4 + (jI 1) → (wl_X7_closes_4 (fun u_174 z1_174 => Q z1_174 u_174)  nn4) s14 z1_158 x11))) y2_4 nn19 t_19 y1_19 y3_19 y4_19 → zW D 6 (zme cy ad t_19) ad H → va_S (zA 6 ad) s.heap H locs → ∀ ls : Array Slot, lv_has ls 7 [(0, .ref (ad 0)), (1, .int y1_19), (2, .int y2_4), (3, .int y3_19), (4, .int y4_19)] → W p l e ({ frames := 3, cells := 0, slots := 0, locals := 69 } : Room) s m ([.ref (ad 0)] : List Value).toArray below meth c H locs 0 0 (MQ below (va_Qi Q (zB D 6 (zme cy ad) ad) (zA 6 ad)) ([.ref (ad 0)] : List Value).toArray s 0 0 (zA 6 ad)) (F0 m 19 ls []) := by
          intro nn19
          induction nn19 with
          | zero => intro _ _ _ _ _ _ h; exact h.elim
          | succ nn19 ih19 =>
            intro t_19 y1_19 y3_19 y4_19 H locs h hw hS ls hl
            simp only [wl_X7_closes_19, wb_X7_closes_19] at h
            refine lv_iload hx hb dX7_closes_19 (lv_at hl 4 rfl) ?_
            refine lv_aload_n hx hb dX7_closes_21 rfl (lv_at hl 0 rfl) ?_
            refine zget hx hb hts inX7 hown hK hw 0 (by decide) rfl rfl 0 (by decide) lk0 (fun _ h9 => h9) rfl dX7_closes_22 ?_
            refine lv_bipush (v := (jI 44)) hx hb dX7_closes_25 (by decide +kernel) ?_
            refine lv_iload_n hx hb dX7_closes_27 rfl (lv_at hl 2 rfl) ?_
            refine lv_iadd hx hb dX7_closes_28 ?_
            refine ziald hx hb hK hw 1 (by decide) rfl h.1 dX7_closes_29 ?_
            refine lv_topi (fun v2 ev2 => ?_)
            have h := h.2 v2 ev2
            refine lv_icmp_ge (tgt := 158) hx hb dX7_closes_30 (by decide) (fun c2 => ?_) (fun c2 => ?_)
            · have h := h.1 c2
              exact k158_19 _ _ _ _ _ h hw hS _ (lv_sub hl [0, 1, 2, 3] rfl)
            · have h := h.2 c2
              refine lv_aload_n hx hb dX7_closes_33 rfl (lv_at hl 0 rfl) ?_
              refine lv_iload_n hx hb dX7_closes_34 rfl (lv_at hl 2 rfl) ?_
              refine lv_iload hx hb dX7_closes_35 (lv_at hl 4 rfl) ?_
              refine k_X7_lettersOn (rest := []) hx hb hml hown hts gX7_closes_X7_lettersOn ⟨Nat.le_of_ble_eq_true rfl, Nat.le_of_ble_eq_true rfl⟩ ⟨Nat.zero_le _, Nat.zero_le _⟩ hK hj hw hA hS hl.1 (Nat.le_of_ble_eq_true rfl) dX7_closes_37 h (fun r1 s1 H locs h hw hS => ?_)
              refine zif_le (tgt := 47) hx hb dX7_closes_40 (by decide) (fun c3 => ?_) (fun c3 => ?_)
              · have h := h.1 c3
                refine lv_iconst (v := (jI 0)) hx hb dX7_closes_47 rfl ?_
                refine lv_istore (lv' := [(5, .int (jI 0)), (0, .ref (ad 0)), (1, .int y1_19), (2, .int y2_4), (3, .int y3_19), (4, .int y4_19)]) hx hb dX7_closes_48 hl (by decide) rfl (fun ls hl => ?_)
                refine lv_iconst (v := (jI 0)) hx hb dX7_closes_50 rfl ?_
                refine lv_istore (lv' := [(6, .int (jI 0)), (5, .int (jI 0)), (0, .ref (ad 0)), (1, .int y1_19), (2, .int y2_4), (3, .int y3_19), (4, .int y4_19)]) hx hb dX7_closes_51 hl (by decide) rfl (fun ls hl => ?_)
                have k105_53 : ∀ (u_105 : ST) (H : Heap) (locs : List Loc), wp_X7_tall u_105 y2_4 y4_19 (fun r4 s6 => (vp_in (((jI 47) + ((jI 24) * y2_4)) + y3_19) 983 ∧ ∀ s7 : ST, s7 = zrp s6 0 (((jI 47) + ((jI 24) * y2_4)) + y3_19).toNatClampNeg r4 → (∀ x3 : Int32, x3 = (y3_19 + (jI 0)) → (∀ x4 : Int32, x4 = (y1_19 + (jI 1)) → (∀ x5 : Int32, x5 = y4_19 + (jI 1) → (wl_X7_closes_19 (fun u_158 z1_158 z3_158 => (vp_in ((jI 44) + y2_4) 983 ∧ ∀ s14 : ST, s14 = zrp u_158 0 ((jI 44) + y2_4).toNatClampNeg z3_158 → (∀ x11 : Int32, x11 = y2_4 + (jI 1) → (wl_X7_closes_4 (fun u_174 z1_174 => Q z1_174 u_174)  nn4) s14 z1_158 x11))) y2_4 nn19) s7 x4 x3 x5))))) → zW D 6 (zme cy ad u_105) ad H → va_S (zA 6 ad) s.heap H locs → ∀ ls : Array Slot, lv_has ls 7 [(0, .ref (ad 0)), (1, .int y1_19), (2, .int y2_4), (3, .int y3_19), (4, .int y4_19), (5, .int (jI 0))] → W p l e ({ frames := 3, cells := 0, slots := 0, locals := 69 } : Room) s m ([.ref (ad 0)] : List Value).toArray below meth c H locs 0 0 (MQ below (va_Qi Q (zB D 6 (zme cy ad) ad) (zA 6 ad)) ([.ref (ad 0)] : List Value).toArray s 0 0 (zA 6 ad)) (F0 m 105 ls []) := by
                  intro u_105 H locs h hw hS ls hl
                  refine lv_aload_n hx hb dX7_closes_105 rfl (lv_at hl 0 rfl) ?_
                  refine zget hx hb hts inX7 hown hK hw 0 (by decide) rfl rfl 0 (by decide) lk0 (fun _ h9 => h9) rfl dX7_closes_106 ?_
                  refine lv_bipush (v := (jI 47)) hx hb dX7_closes_109 (by decide +kernel) ?_
                  refine lv_bipush (v := (jI 24)) hx hb dX7_closes_111 (by decide +kernel) ?_
                  refine lv_iload_n hx hb dX7_closes_113 rfl (lv_at hl 2 rfl) ?_
                  refine lv_imul hx hb dX7_closes_114 ?_
                  refine lv_iadd hx hb dX7_closes_115 ?_
                  refine lv_iload_n hx hb dX7_closes_116 rfl (lv_at hl 3 rfl) ?_
                  refine lv_iadd hx hb dX7_closes_117 ?_
                  refine lv_aload_n hx hb dX7_closes_118 rfl (lv_at hl 0 rfl) ?_
                  refine lv_iload_n hx hb dX7_closes_119 rfl (lv_at hl 2 rfl) ?_
                  refine lv_iload hx hb dX7_closes_120 (lv_at hl 4 rfl) ?_
                  refine k_X7_tall (rest := [.int (((jI 47) + ((jI 24) * y2_4)) + y3_19), .ref (ad 1)]) hx hb hml hown hts gX7_closes_X7_tall ⟨Nat.le_of_ble_eq_true rfl, Nat.le_of_ble_eq_true rfl⟩ ⟨Nat.zero_le _, Nat.zero_le _⟩ hK hj hw hA hS hl.1 (Nat.le_of_ble_eq_true rfl) dX7_closes_122 h (fun r4 s6 H locs h hw hS => ?_)
                  obtain ⟨s7, es7⟩ : ∃ y : ST, y = zrp s6 0 (((jI 47) + ((jI 24) * y2_4)) + y3_19).toNatClampNeg r4 := ⟨_, rfl⟩
                  refine ziast hx hb hK hj hw hA hS 1 (by decide) rfl h.1 dX7_closes_125 (zme cy ad s7) (by rw [es7]; exact zrp_on_M_0) (fun j hj9 => by rw [es7]; exact zrp_off_M_0 j hj9) (fun H locs hw hS => ?_)
                  have h := h.2 s7 es7
                  refine lv_iload_n hx hb dX7_closes_126 rfl (lv_at hl 3 rfl) ?_
                  refine lv_iload hx hb dX7_closes_127 (lv_at hl 5 rfl) ?_
                  refine zif_eq (tgt := 136) hx hb dX7_closes_129 (by decide) (fun c6 => ?_) (fun c6 => absurd c6 (by decide +kernel))
                  refine lv_iconst (v := (jI 0)) hx hb dX7_closes_136 rfl ?_
                  refine lv_iadd hx hb dX7_closes_137 ?_
                  refine lv_topi (fun x3 ex3 => ?_)
                  have h := h x3 ex3
                  refine lv_istore_n (lv' := [(3, .int x3), (0, .ref (ad 0)), (1, .int y1_19), (2, .int y2_4), (4, .int y4_19), (5, .int (jI 0))]) hx hb dX7_closes_138 rfl hl (by decide) rfl (fun ls hl => ?_)
                  refine lv_iload_n hx hb dX7_closes_139 rfl (lv_at hl 2 rfl) ?_
                  refine lv_iload hx hb dX7_closes_140 (lv_at hl 5 rfl) ?_
                  refine zif_eq (tgt := 149) hx hb dX7_closes_142 (by decide) (fun c7 => ?_) (fun c7 => absurd c7 (by decide +kernel))
                  refine lv_iconst (v := (jI 1)) hx hb dX7_closes_149 rfl ?_
                  refine lv_iadd hx hb dX7_closes_150 ?_
                  refine lv_topi (fun x4 ex4 => ?_)
                  have h := h x4 ex4
                  refine lv_istore_n (lv' := [(1, .int x4), (3, .int x3), (0, .ref (ad 0)), (2, .int y2_4), (4, .int y4_19), (5, .int (jI 0))]) hx hb dX7_closes_151 rfl hl (by decide) rfl (fun ls hl => ?_)
                  obtain ⟨x5, ex5⟩ : ∃ y : Int32, y = y4_19 + (jI 1) := ⟨_, rfl⟩
                  have h := h x5 ex5
                  refine lv_iinc (v := x5) (lv' := [(4, .int x5), (1, .int x4), (3, .int x3), (0, .ref (ad 0)), (2, .int y2_4), (5, .int (jI 0))]) hx hb dX7_closes_152 hl (k := 4) rfl (by rw [ex5]; rfl) (by decide) rfl (fun ls hl => ?_)
                  refine lv_goto (tgt := 19) hx hb dX7_closes_155 (by decide) ?_
                  exact ih19 _ _ _ _ _ _ h hw hS _ (lv_sub hl [3, 1, 4, 2, 0] rfl)
                have lp53 : ∀ (nn53 : Nat) (t_53 : ST) (y6_53 : Int32) (H : Heap) (locs : List Loc), wl_X7_closes_53 (fun u_105 => wp_X7_tall u_105 y2_4 y4_19 (fun r4 s6 => (vp_in (((jI 47) + ((jI 24) * y2_4)) + y3_19) 983 ∧ ∀ s7 : ST, s7 = zrp s6 0 (((jI 47) + ((jI 24) * y2_4)) + y3_19).toNatClampNeg r4 → (∀ x3 : Int32, x3 = (y3_19 + (jI 0)) → (∀ x4 : Int32, x4 = (y1_19 + (jI 1)) → (∀ x5 : Int32, x5 = y4_19 + (jI 1) → (wl_X7_closes_19 (fun u_158 z1_158 z3_158 => (vp_in ((jI 44) + y2_4) 983 ∧ ∀ s14 : ST, s14 = zrp u_158 0 ((jI 44) + y2_4).toNatClampNeg z3_158 → (∀ x11 : Int32, x11 = y2_4 + (jI 1) → (wl_X7_closes_4 (fun u_174 z1_174 => Q z1_174 u_174)  nn4) s14 z1_158 x11))) y2_4 nn19) s7 x4 x3 x5)))))) y1_19 y2_4 y3_19 y4_19 (jI 0) nn53 t_53 y6_53 → zW D 6 (zme cy ad t_53) ad H → va_S (zA 6 ad) s.heap H locs → ∀ ls : Array Slot, lv_has ls 7 [(0, .ref (ad 0)), (1, .int y1_19), (2, .int y2_4), (3, .int y3_19), (4, .int y4_19), (5, .int (jI 0)), (6, .int y6_53)] → W p l e ({ frames := 3, cells := 0, slots := 0, locals := 69 } : Room) s m ([.ref (ad 0)] : List Value).toArray below meth c H locs 0 0 (MQ below (va_Qi Q (zB D 6 (zme cy ad) ad) (zA 6 ad)) ([.ref (ad 0)] : List Value).toArray s 0 0 (zA 6 ad)) (F0 m 53 ls []) := by
                  intro nn53
                  induction nn53 with
                  | zero => intro _ _ _ _ h; exact h.elim
                  | succ nn53 ih53 =>
                    intro t_53 y6_53 H locs h hw hS ls hl
                    simp only [wl_X7_closes_53, wb_X7_closes_53] at h
                    refine lv_iload hx hb dX7_closes_53 (lv_at hl 6 rfl) ?_
                    refine lv_sipush (v := (jI 144)) hx hb dX7_closes_55 (by decide +kernel) ?_
                    refine lv_icmp_ge (tgt := 105) hx hb dX7_closes_58 (by decide) (fun c4 => ?_) (fun c4 => ?_)
                    · have h := h.1 c4
                      exact k105_53 _ _ _ h hw hS _ (lv_sub hl [0, 1, 2, 3, 4, 5] rfl)
                    · have h := h.2 c4
                      refine lv_aload_n hx hb dX7_closes_61 rfl (lv_at hl 0 rfl) ?_
                      refine zget hx hb hts inX7 hown hK hw 0 (by decide) rfl rfl 0 (by decide) lk0 (fun _ h9 => h9) rfl dX7_closes_62 ?_
                      refine lv_bipush (v := (jI 119)) hx hb dX7_closes_65 (by decide +kernel) ?_
                      refine lv_bipush (v := (jI 6)) hx hb dX7_closes_67 (by decide +kernel) ?_
                      refine lv_iload hx hb dX7_closes_69 (lv_at hl 6 rfl) ?_
                      refine lv_imul hx hb dX7_closes_71 ?_
                      refine lv_iadd hx hb dX7_closes_72 ?_
                      refine lv_iconst (v := (jI 1)) hx hb dX7_closes_73 rfl ?_
                      refine lv_iadd hx hb dX7_closes_74 ?_
                      refine lv_aload_n hx hb dX7_closes_75 rfl (lv_at hl 0 rfl) ?_
                      refine lv_iload hx hb dX7_closes_76 (lv_at hl 6 rfl) ?_
                      refine lv_iload_n hx hb dX7_closes_78 rfl (lv_at hl 2 rfl) ?_
                      refine lv_iload hx hb dX7_closes_79 (lv_at hl 4 rfl) ?_
                      refine k_X7_isOn (rest := [.int (((jI 119) + ((jI 6) * y6_53)) + (jI 1)), .ref (ad 1)]) hx hb hml hown hts gX7_closes_X7_isOn ⟨Nat.le_of_ble_eq_true rfl, Nat.le_of_ble_eq_true rfl⟩ ⟨Nat.zero_le _, Nat.zero_le _⟩ hK hj hw hA hS hl.1 (Nat.le_of_ble_eq_true rfl) dX7_closes_81 h (fun r2 s2 H locs h hw hS => ?_)
                      refine zif_eq (tgt := 91) hx hb dX7_closes_84 (by decide) (fun c5 => ?_) (fun c5 => ?_)
                      · have h := h.1 c5
                        refine lv_aload_n hx hb dX7_closes_91 rfl (lv_at hl 0 rfl) ?_
                        refine lv_iload hx hb dX7_closes_92 (lv_at hl 6 rfl) ?_
                        refine lv_iconst (v := (jI 1)) hx hb dX7_closes_94 rfl ?_
                        refine k_X7_of (rest := [.int (((jI 119) + ((jI 6) * y6_53)) + (jI 1)), .ref (ad 1)]) hx hb hml hown hts gX7_closes_X7_of ⟨Nat.le_of_ble_eq_true rfl, Nat.le_of_ble_eq_true rfl⟩ ⟨Nat.zero_le _, Nat.zero_le _⟩ hK hj hw hA hS hl.1 (Nat.le_of_ble_eq_true rfl) dX7_closes_95 h (fun r3 s3 H locs h hw hS => ?_)
                        obtain ⟨s4, es4⟩ : ∃ y : ST, y = zrp s3 0 (((jI 119) + ((jI 6) * y6_53)) + (jI 1)).toNatClampNeg r3 := ⟨_, rfl⟩
                        refine ziast hx hb hK hj hw hA hS 1 (by decide) rfl h.1 dX7_closes_98 (zme cy ad s4) (by rw [es4]; exact zrp_on_M_0) (fun j hj9 => by rw [es4]; exact zrp_off_M_0 j hj9) (fun H locs hw hS => ?_)
                        have h := h.2 s4 es4
                        obtain ⟨x1, ex1⟩ : ∃ y : Int32, y = y6_53 + (jI 1) := ⟨_, rfl⟩
                        have h := h x1 ex1
                        refine lv_iinc (v := x1) (lv' := [(6, .int x1), (0, .ref (ad 0)), (1, .int y1_19), (2, .int y2_4), (3, .int y3_19), (4, .int y4_19), (5, .int (jI 0))]) hx hb dX7_closes_99 hl (k := 6) rfl (by rw [ex1]; rfl) (by decide) rfl (fun ls hl => ?_)
                        refine lv_goto (tgt := 53) hx hb dX7_closes_102 (by decide) ?_
                        exact ih53 _ _ _ _ h hw hS _ (lv_sub hl [1, 2, 3, 4, 5, 6, 0] rfl)
                      · have h := h.2 c5
                        refine lv_iload_n hx hb dX7_closes_87 rfl (lv_at hl 3 rfl) ?_
                        refine lv_goto (tgt := 98) hx hb dX7_closes_88 (by decide) ?_
                        obtain ⟨s5, es5⟩ : ∃ y : ST, y = zrp s2 0 (((jI 119) + ((jI 6) * y6_53)) + (jI 1)).toNatClampNeg y3_19 := ⟨_, rfl⟩
                        refine ziast hx hb hK hj hw hA hS 1 (by decide) rfl h.1 dX7_closes_98 (zme cy ad s5) (by rw [es5]; exact zrp_on_M_0) (fun j hj9 => by rw [es5]; exact zrp_off_M_0 j hj9) (fun H locs hw hS => ?_)
                        have h := h.2 s5 es5
                        obtain ⟨x2, ex2⟩ : ∃ y : Int32, y = y6_53 + (jI 1) := ⟨_, rfl⟩
                        have h := h x2 ex2
                        refine lv_iinc (v := x2) (lv' := [(6, .int x2), (0, .ref (ad 0)), (1, .int y1_19), (2, .int y2_4), (3, .int y3_19), (4, .int y4_19), (5, .int (jI 0))]) hx hb dX7_closes_99 hl (k := 6) rfl (by rw [ex2]; rfl) (by decide) rfl (fun ls hl => ?_)
                        refine lv_goto (tgt := 53) hx hb dX7_closes_102 (by decide) ?_
                        exact ih53 _ _ _ _ h hw hS _ (lv_sub hl [1, 2, 3, 4, 5, 6, 0] rfl)
                obtain ⟨nn53, h⟩ := h
                exact lp53 nn53 _ _ _ _ h hw hS _ (lv_sub hl [2, 3, 4, 5, 6, 1, 0] rfl)
              · have h := h.2 c3
                refine lv_iconst (v := (jI 1)) hx hb dX7_closes_43 rfl ?_
                refine lv_goto (tgt := 48) hx hb dX7_closes_44 (by decide) ?_
                refine lv_istore (lv' := [(5, .int (jI 1)), (0, .ref (ad 0)), (1, .int y1_19), (2, .int y2_4), (3, .int y3_19), (4, .int y4_19)]) hx hb dX7_closes_48 hl (by decide) rfl (fun ls hl => ?_)
                refine lv_iconst (v := (jI 0)) hx hb dX7_closes_50 rfl ?_
                refine lv_istore (lv' := [(6, .int (jI 0)), (5, .int (jI 1)), (0, .ref (ad 0)), (1, .int y1_19), (2, .int y2_4), (3, .int y3_19), (4, .int y4_19)]) hx hb dX7_closes_51 hl (by decide) rfl (fun ls hl => ?_)
                have k105_53 : ∀ (u_105 : ST) (H : Heap) (locs : List Loc), wp_X7_tall u_105 y2_4 y4_19 (fun r7 s12 => (vp_in (((jI 47) + ((jI 24) * y2_4)) + y3_19) 983 ∧ ∀ s13 : ST, s13 = zrp s12 0 (((jI 47) + ((jI 24) * y2_4)) + y3_19).toNatClampNeg r7 → (∀ x8 : Int32, x8 = (y3_19 + (jI 1)) → (∀ x9 : Int32, x9 = (y1_19 + (jI 0)) → (∀ x10 : Int32, x10 = y4_19 + (jI 1) → (wl_X7_closes_19 (fun u_158 z1_158 z3_158 => (vp_in ((jI 44) + y2_4) 983 ∧ ∀ s14 : ST, s14 = zrp u_158 0 ((jI 44) + y2_4).toNatClampNeg z3_158 → (∀ x11 : Int32, x11 = y2_4 + (jI 1) → (wl_X7_closes_4 (fun u_174 z1_174 => Q z1_174 u_174)  nn4) s14 z1_158 x11))) y2_4 nn19) s13 x9 x8 x10))))) → zW D 6 (zme cy ad u_105) ad H → va_S (zA 6 ad) s.heap H locs → ∀ ls : Array Slot, lv_has ls 7 [(0, .ref (ad 0)), (1, .int y1_19), (2, .int y2_4), (3, .int y3_19), (4, .int y4_19), (5, .int (jI 1))] → W p l e ({ frames := 3, cells := 0, slots := 0, locals := 69 } : Room) s m ([.ref (ad 0)] : List Value).toArray below meth c H locs 0 0 (MQ below (va_Qi Q (zB D 6 (zme cy ad) ad) (zA 6 ad)) ([.ref (ad 0)] : List Value).toArray s 0 0 (zA 6 ad)) (F0 m 105 ls []) := by
                  intro u_105 H locs h hw hS ls hl
                  refine lv_aload_n hx hb dX7_closes_105 rfl (lv_at hl 0 rfl) ?_
                  refine zget hx hb hts inX7 hown hK hw 0 (by decide) rfl rfl 0 (by decide) lk0 (fun _ h9 => h9) rfl dX7_closes_106 ?_
                  refine lv_bipush (v := (jI 47)) hx hb dX7_closes_109 (by decide +kernel) ?_
                  refine lv_bipush (v := (jI 24)) hx hb dX7_closes_111 (by decide +kernel) ?_
                  refine lv_iload_n hx hb dX7_closes_113 rfl (lv_at hl 2 rfl) ?_
                  refine lv_imul hx hb dX7_closes_114 ?_
                  refine lv_iadd hx hb dX7_closes_115 ?_
                  refine lv_iload_n hx hb dX7_closes_116 rfl (lv_at hl 3 rfl) ?_
                  refine lv_iadd hx hb dX7_closes_117 ?_
                  refine lv_aload_n hx hb dX7_closes_118 rfl (lv_at hl 0 rfl) ?_
                  refine lv_iload_n hx hb dX7_closes_119 rfl (lv_at hl 2 rfl) ?_
                  refine lv_iload hx hb dX7_closes_120 (lv_at hl 4 rfl) ?_
                  refine k_X7_tall (rest := [.int (((jI 47) + ((jI 24) * y2_4)) + y3_19), .ref (ad 1)]) hx hb hml hown hts gX7_closes_X7_tall ⟨Nat.le_of_ble_eq_true rfl, Nat.le_of_ble_eq_true rfl⟩ ⟨Nat.zero_le _, Nat.zero_le _⟩ hK hj hw hA hS hl.1 (Nat.le_of_ble_eq_true rfl) dX7_closes_122 h (fun r7 s12 H locs h hw hS => ?_)
                  obtain ⟨s13, es13⟩ : ∃ y : ST, y = zrp s12 0 (((jI 47) + ((jI 24) * y2_4)) + y3_19).toNatClampNeg r7 := ⟨_, rfl⟩
                  refine ziast hx hb hK hj hw hA hS 1 (by decide) rfl h.1 dX7_closes_125 (zme cy ad s13) (by rw [es13]; exact zrp_on_M_0) (fun j hj9 => by rw [es13]; exact zrp_off_M_0 j hj9) (fun H locs hw hS => ?_)
                  have h := h.2 s13 es13
                  refine lv_iload_n hx hb dX7_closes_126 rfl (lv_at hl 3 rfl) ?_
                  refine lv_iload hx hb dX7_closes_127 (lv_at hl 5 rfl) ?_
                  refine zif_eq (tgt := 136) hx hb dX7_closes_129 (by decide) (fun c10 => absurd c10 (by decide +kernel)) (fun c10 => ?_)
                  refine lv_iconst (v := (jI 1)) hx hb dX7_closes_132 rfl ?_
                  refine lv_goto (tgt := 137) hx hb dX7_closes_133 (by decide) ?_
                  refine lv_iadd hx hb dX7_closes_137 ?_
                  refine lv_topi (fun x8 ex8 => ?_)
                  have h := h x8 ex8
                  refine lv_istore_n (lv' := [(3, .int x8), (0, .ref (ad 0)), (1, .int y1_19), (2, .int y2_4), (4, .int y4_19), (5, .int (jI 1))]) hx hb dX7_closes_138 rfl hl (by decide) rfl (fun ls hl => ?_)
                  refine lv_iload_n hx hb dX7_closes_139 rfl (lv_at hl 2 rfl) ?_
                  refine lv_iload hx hb dX7_closes_140 (lv_at hl 5 rfl) ?_
                  refine zif_eq (tgt := 149) hx hb dX7_closes_142 (by decide) (fun c11 => absurd c11 (by decide +kernel)) (fun c11 => ?_)
                  refine lv_iconst (v := (jI 0)) hx hb dX7_closes_145 rfl ?_
                  refine lv_goto (tgt := 150) hx hb dX7_closes_146 (by decide) ?_
                  refine lv_iadd hx hb dX7_closes_150 ?_
                  refine lv_topi (fun x9 ex9 => ?_)
                  have h := h x9 ex9
                  refine lv_istore_n (lv' := [(1, .int x9), (3, .int x8), (0, .ref (ad 0)), (2, .int y2_4), (4, .int y4_19), (5, .int (jI 1))]) hx hb dX7_closes_151 rfl hl (by decide) rfl (fun ls hl => ?_)
                  obtain ⟨x10, ex10⟩ : ∃ y : Int32, y = y4_19 + (jI 1) := ⟨_, rfl⟩
                  have h := h x10 ex10
                  refine lv_iinc (v := x10) (lv' := [(4, .int x10), (1, .int x9), (3, .int x8), (0, .ref (ad 0)), (2, .int y2_4), (5, .int (jI 1))]) hx hb dX7_closes_152 hl (k := 4) rfl (by rw [ex10]; rfl) (by decide) rfl (fun ls hl => ?_)
                  refine lv_goto (tgt := 19) hx hb dX7_closes_155 (by decide) ?_
                  exact ih19 _ _ _ _ _ _ h hw hS _ (lv_sub hl [3, 1, 4, 2, 0] rfl)
                have lp53 : ∀ (nn53 : Nat) (t_53 : ST) (y6_53 : Int32) (H : Heap) (locs : List Loc), wl_X7_closes_53 (fun u_105 => wp_X7_tall u_105 y2_4 y4_19 (fun r7 s12 => (vp_in (((jI 47) + ((jI 24) * y2_4)) + y3_19) 983 ∧ ∀ s13 : ST, s13 = zrp s12 0 (((jI 47) + ((jI 24) * y2_4)) + y3_19).toNatClampNeg r7 → (∀ x8 : Int32, x8 = (y3_19 + (jI 1)) → (∀ x9 : Int32, x9 = (y1_19 + (jI 0)) → (∀ x10 : Int32, x10 = y4_19 + (jI 1) → (wl_X7_closes_19 (fun u_158 z1_158 z3_158 => (vp_in ((jI 44) + y2_4) 983 ∧ ∀ s14 : ST, s14 = zrp u_158 0 ((jI 44) + y2_4).toNatClampNeg z3_158 → (∀ x11 : Int32, x11 = y2_4 + (jI 1) → (wl_X7_closes_4 (fun u_174 z1_174 => Q z1_174 u_174)  nn4) s14 z1_158 x11))) y2_4 nn19) s13 x9 x8 x10)))))) y1_19 y2_4 y3_19 y4_19 (jI 1) nn53 t_53 y6_53 → zW D 6 (zme cy ad t_53) ad H → va_S (zA 6 ad) s.heap H locs → ∀ ls : Array Slot, lv_has ls 7 [(0, .ref (ad 0)), (1, .int y1_19), (2, .int y2_4), (3, .int y3_19), (4, .int y4_19), (5, .int (jI 1)), (6, .int y6_53)] → W p l e ({ frames := 3, cells := 0, slots := 0, locals := 69 } : Room) s m ([.ref (ad 0)] : List Value).toArray below meth c H locs 0 0 (MQ below (va_Qi Q (zB D 6 (zme cy ad) ad) (zA 6 ad)) ([.ref (ad 0)] : List Value).toArray s 0 0 (zA 6 ad)) (F0 m 53 ls []) := by
                  intro nn53
                  induction nn53 with
                  | zero => intro _ _ _ _ h; exact h.elim
                  | succ nn53 ih53 =>
                    intro t_53 y6_53 H locs h hw hS ls hl
                    simp only [wl_X7_closes_53, wb_X7_closes_53] at h
                    refine lv_iload hx hb dX7_closes_53 (lv_at hl 6 rfl) ?_
                    refine lv_sipush (v := (jI 144)) hx hb dX7_closes_55 (by decide +kernel) ?_
                    refine lv_icmp_ge (tgt := 105) hx hb dX7_closes_58 (by decide) (fun c8 => ?_) (fun c8 => ?_)
                    · have h := h.1 c8
                      exact k105_53 _ _ _ h hw hS _ (lv_sub hl [0, 1, 2, 3, 4, 5] rfl)
                    · have h := h.2 c8
                      refine lv_aload_n hx hb dX7_closes_61 rfl (lv_at hl 0 rfl) ?_
                      refine zget hx hb hts inX7 hown hK hw 0 (by decide) rfl rfl 0 (by decide) lk0 (fun _ h9 => h9) rfl dX7_closes_62 ?_
                      refine lv_bipush (v := (jI 119)) hx hb dX7_closes_65 (by decide +kernel) ?_
                      refine lv_bipush (v := (jI 6)) hx hb dX7_closes_67 (by decide +kernel) ?_
                      refine lv_iload hx hb dX7_closes_69 (lv_at hl 6 rfl) ?_
                      refine lv_imul hx hb dX7_closes_71 ?_
                      refine lv_iadd hx hb dX7_closes_72 ?_
                      refine lv_iconst (v := (jI 1)) hx hb dX7_closes_73 rfl ?_
                      refine lv_iadd hx hb dX7_closes_74 ?_
                      refine lv_aload_n hx hb dX7_closes_75 rfl (lv_at hl 0 rfl) ?_
                      refine lv_iload hx hb dX7_closes_76 (lv_at hl 6 rfl) ?_
                      refine lv_iload_n hx hb dX7_closes_78 rfl (lv_at hl 2 rfl) ?_
                      refine lv_iload hx hb dX7_closes_79 (lv_at hl 4 rfl) ?_
                      refine k_X7_isOn (rest := [.int (((jI 119) + ((jI 6) * y6_53)) + (jI 1)), .ref (ad 1)]) hx hb hml hown hts gX7_closes_X7_isOn ⟨Nat.le_of_ble_eq_true rfl, Nat.le_of_ble_eq_true rfl⟩ ⟨Nat.zero_le _, Nat.zero_le _⟩ hK hj hw hA hS hl.1 (Nat.le_of_ble_eq_true rfl) dX7_closes_81 h (fun r5 s8 H locs h hw hS => ?_)
                      refine zif_eq (tgt := 91) hx hb dX7_closes_84 (by decide) (fun c9 => ?_) (fun c9 => ?_)
                      · have h := h.1 c9
                        refine lv_aload_n hx hb dX7_closes_91 rfl (lv_at hl 0 rfl) ?_
                        refine lv_iload hx hb dX7_closes_92 (lv_at hl 6 rfl) ?_
                        refine lv_iconst (v := (jI 1)) hx hb dX7_closes_94 rfl ?_
                        refine k_X7_of (rest := [.int (((jI 119) + ((jI 6) * y6_53)) + (jI 1)), .ref (ad 1)]) hx hb hml hown hts gX7_closes_X7_of ⟨Nat.le_of_ble_eq_true rfl, Nat.le_of_ble_eq_true rfl⟩ ⟨Nat.zero_le _, Nat.zero_le _⟩ hK hj hw hA hS hl.1 (Nat.le_of_ble_eq_true rfl) dX7_closes_95 h (fun r6 s9 H locs h hw hS => ?_)
                        obtain ⟨s10, es10⟩ : ∃ y : ST, y = zrp s9 0 (((jI 119) + ((jI 6) * y6_53)) + (jI 1)).toNatClampNeg r6 := ⟨_, rfl⟩
                        refine ziast hx hb hK hj hw hA hS 1 (by decide) rfl h.1 dX7_closes_98 (zme cy ad s10) (by rw [es10]; exact zrp_on_M_0) (fun j hj9 => by rw [es10]; exact zrp_off_M_0 j hj9) (fun H locs hw hS => ?_)
                        have h := h.2 s10 es10
                        obtain ⟨x6, ex6⟩ : ∃ y : Int32, y = y6_53 + (jI 1) := ⟨_, rfl⟩
                        have h := h x6 ex6
                        refine lv_iinc (v := x6) (lv' := [(6, .int x6), (0, .ref (ad 0)), (1, .int y1_19), (2, .int y2_4), (3, .int y3_19), (4, .int y4_19), (5, .int (jI 1))]) hx hb dX7_closes_99 hl (k := 6) rfl (by rw [ex6]; rfl) (by decide) rfl (fun ls hl => ?_)
                        refine lv_goto (tgt := 53) hx hb dX7_closes_102 (by decide) ?_
                        exact ih53 _ _ _ _ h hw hS _ (lv_sub hl [1, 2, 3, 4, 5, 6, 0] rfl)
                      · have h := h.2 c9
                        refine lv_iload_n hx hb dX7_closes_87 rfl (lv_at hl 3 rfl) ?_
                        refine lv_goto (tgt := 98) hx hb dX7_closes_88 (by decide) ?_
                        obtain ⟨s11, es11⟩ : ∃ y : ST, y = zrp s8 0 (((jI 119) + ((jI 6) * y6_53)) + (jI 1)).toNatClampNeg y3_19 := ⟨_, rfl⟩
                        refine ziast hx hb hK hj hw hA hS 1 (by decide) rfl h.1 dX7_closes_98 (zme cy ad s11) (by rw [es11]; exact zrp_on_M_0) (fun j hj9 => by rw [es11]; exact zrp_off_M_0 j hj9) (fun H locs hw hS => ?_)
                        have h := h.2 s11 es11
                        obtain ⟨x7, ex7⟩ : ∃ y : Int32, y = y6_53 + (jI 1) := ⟨_, rfl⟩
                        have h := h x7 ex7
                        refine lv_iinc (v := x7) (lv' := [(6, .int x7), (0, .ref (ad 0)), (1, .int y1_19), (2, .int y2_4), (3, .int y3_19), (4, .int y4_19), (5, .int (jI 1))]) hx hb dX7_closes_99 hl (k := 6) rfl (by rw [ex7]; rfl) (by decide) rfl (fun ls hl => ?_)
                        refine lv_goto (tgt := 53) hx hb dX7_closes_102 (by decide) ?_
                        exact ih53 _ _ _ _ h hw hS _ (lv_sub hl [1, 2, 3, 4, 5, 6, 0] rfl)
                obtain ⟨nn53, h⟩ := h
                exact lp53 nn53 _ _ _ _ h hw hS _ (lv_sub hl [2, 3, 4, 5, 6, 1, 0] rfl)
        obtain ⟨nn19, h⟩ := h
        exact lp19 nn19 _ _ _ _ _ _ h hw hS _ (lv_sub hl [2, 3, 4, 1, 0] rfl)
  obtain ⟨nn4, h⟩ := h
  exact lp4 nn4 _ _ _ _ _ h hw hS _ (lv_sub hl [2, 1, 0] rfl)
theorem k_X7_closes {p : Program} {l : Launch} {e : Env} {R : Room} {s : State} {m : MethodId} {args : Array Value} {below : List Frame} {meth : Method} {c : Code} {H : Heap} {locs : List Loc} {cells slots : Nat} {QQ : State → Prop} {cc : ByteArray} {pc nL index : Nat} {ls : Array Slot} {rest : List Value} {D : va_G} {cy : cyT} {ad : Nat → Nat} {own : String} {Ts : List Cond} {H0 : Heap} {σ : ST}  {Q : Int32 → ST → Prop} (hx : p.tables.exec = Jvm.exec) (hb : c.code = cc) (hml : c.maxLocals = nL) (hown : s.vm.findClass own = some m.cls) (hts : ∀ w ∈ Ts, w.before args s = true) (hG : GoodIn Ts (wsV own index RX7 yX7_closes wsX7_closes)) (hR : 3 + 1 ≤ R.frames ∧ 8 + (7 + 11) + 69 ≤ R.locals) (hcs : cells ≤ R.cells ∧ slots ≤ R.slots) (hK : zK D cy s) (hj : zI 6 ad) (hw : zW D 6 (zme cy ad σ) ad H) {A0 : Nat → Prop} (hA : ∀ i, i < 6 → A0 (ad i)) (hS : va_S A0 H0 H locs) (hsz : ls.size = nL) (hrest : (rest.map fun v => v.category).sum ≤ 8) (hdg : decode cc pc = .ok (.invokevirtual index, 3)) (h : wp_X7_closes σ  Q) (kk : ∀ (r : Int32) (σ : ST) (H : Heap) (locs : List Loc), Q r σ → zW D 6 (zme cy ad σ) ad H → va_S A0 H0 H locs → W p l e R s m args below meth c H locs cells slots QQ (F0 m (pc + 3) ls (.int r :: rest))) : W p l e R s m args below meth c H locs cells slots QQ (F0 m pc ls (.ref (ad 0) :: rest)) :=
  zcalli (va_runV (As := []) (rest := rest) ⟨hx, hb, hml, hown, hts⟩ (c_X7_closes l D cy ad σ  h) (cwV 0 hts hG rfl rfl rfl (by decide +kernel) hR) (zpreV hj hK hw _ (i := 0) (ci := 6) (by decide) rfl rfl) rfl rfl hsz rfl (lv_room hrest) hdg hcs) hA hS kk
theorem last_06d : True := trivial
