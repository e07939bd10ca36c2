/-! printed by wip/whole/gen.py -/
def wb_X0_isTextAt_15 (K41 : ST → Prop) (K49 : ST → Prop) (LL : ST → Int32 → Prop) (f1_15 : Int32) (q2 : Nat) (t_15 : ST) (y4_15 : Int32) : Prop :=
  (((jI (zln.getD q2 0 : Nat)) ≤ y4_15 → K49 t_15) ∧ (¬ (jI (zln.getD q2 0 : Nat)) ≤ y4_15 → wp_X0_byteAt t_15 (f1_15 + y4_15) (fun r1 s1 => (vp_in y4_15 (zln.getD q2 0) ∧ ∀ v1 : Int32, v1 = zch q2 y4_15.toNatClampNeg → ((r1 = v1 → (∀ x1 : Int32, x1 = y4_15 + (jI 1) → LL s1 x1)) ∧ (¬ r1 = v1 → K41 s1))))))
def wl_X0_isTextAt_15 (K41 : ST → Prop) (K49 : ST → Prop) (f1_15 : Int32) (q2 : Nat) : Nat → ST → Int32 → Prop
  | 0 => fun _ _ => False
  | nn + 1 => wb_X0_isTextAt_15 K41 K49 (wl_X0_isTextAt_15 K41 K49 f1_15 q2 nn) f1_15 q2
def wp_X0_isTextAt (σ : ST) (p0 : Int32) (p1 : Int32) (q2 : Nat) (Q : Int32 → ST → Prop) : Prop :=
  (((p1 - p0) = (jI (zln.getD q2 0 : Nat)) → (∃ nn : Nat, wl_X0_isTextAt_15 (fun u_41 => Q (jI 0) u_41) (fun u_49 => Q (jI 1) u_49) p0 q2 nn σ (jI 0))) ∧ (¬ (p1 - p0) = (jI (zln.getD q2 0 : Nat)) → Q (jI 0) σ))
set_option maxHeartbeats 4000000 in
set_option maxRecDepth 100000 in
theorem c_X0_isTextAt (l : Launch) (D : va_G) (cy : cyT) (ad : Nat → Nat) (AL : Nat → Prop) (aK aV : Nat → Nat) (σ : ST) (p0 : Int32) (p1 : Int32) (q2 : Nat) (hq2 : q2 < 6) {Q : Int32 → ST → Prop} (h : wp_X0_isTextAt σ p0 p1 q2 Q) : Met l yX0_isTextAt wsX0_isTextAt ({ frames := 4, cells := 0, slots := 0, locals := 85 } : Room) (zPreZ D cy 116 (zce cy ad σ) ad AL aK aV [.ref (ad 3), .int p0, .int p1, .ref (aK q2)]) (va_Qi Q (zB D 116 (zce cy ad) ad) (zA 116 ad)) 0 0 (zA 116 ad) := by
  refine Met.ofW (cc := cX0_isTextAt) (maxL := 5) (ret := (some .boolean)) (by decide) rfl ?_
  intro p e s m args below meth c s₁ B hml hv
  obtain ⟨rfl, hj, hK, hw, hZ, hAL⟩ := hv
  have hsub : ∀ q, zA 116 ad q → AL q := fun q hq => by obtain ⟨i, hi, rfl⟩ := hq; exact hAL i hi
  have hx := B.exec
  have hb := B.bytes
  have hr := B.returns
  have hts := atoms_spec (ws := wsX0_isTextAt) B.pre
  have hown : s.vm.findClass RX0 = some m.cls := findClass_of_methodNamed B.named
  have hlocks := B.notSynchronized
  have hS : va_S (zA 116 ad) s.heap s.heap [] := va_S.rf
  have hA : ∀ i, i < 116 → zA 116 ad (ad i) := fun i hi => ⟨i, hi, rfl⟩
  have hl := lv_entry ([.ref (ad 3), .int p0, .int p1, .ref (aK q2)]) (n := 5) (Nat.le_of_ble_eq_true rfl)
  rw [lg_entry_eq]
  generalize (lg_sl ([.ref (ad 3), .int p0, .int p1, .ref (aK q2)]) ++ List.replicate (5 - (lg_sl ([.ref (ad 3), .int p0, .int p1, .ref (aK q2)])).length) Slot.unset).toArray = ls at hl ⊢
  have hl : lv_has ls 5 [(0, .ref (ad 3)), (1, .int p0), (2, .int p1), (3, .ref (aK q2))] := hl
  show W p l e ({ frames := 4, cells := 0, slots := 0, locals := 85 } : Room) s m ([.ref (ad 3), .int p0, .int p1, .ref (aK q2)] : List Value).toArray below meth c s.heap [] 0 0 (MQ below (va_Qi Q (zB D 116 (zce cy ad) ad) (zA 116 ad)) ([.ref (ad 3), .int p0, .int p1, .ref (aK q2)] : List Value).toArray s 0 0 (zA 116 ad)) (F0 m 0 ls [])
  unfold wp_X0_isTextAt at h
  refine lv_iload_n hx hb dX0_isTextAt_0 rfl (lv_at hl 2 rfl) ?_
  refine lv_iload_n hx hb dX0_isTextAt_1 rfl (lv_at hl 1 rfl) ?_
  refine lv_isub hx hb dX0_isTextAt_2 ?_
  refine lv_aload_n hx hb dX0_isTextAt_3 rfl (lv_at hl 3 rfl) ?_
  refine zcallp (va_runV (As := []) (rest := [.int (p1 - p0)]) ⟨hx, hb, hml, hown, hts⟩ (c_J0_length_8abf5 l AL aK aV q2 hq2) (cwV 0 hts gX0_isTextAt_J0_length_8abf5 rfl rfl rfl (by decide +kernel) ⟨Nat.le_of_ble_eq_true rfl, Nat.le_of_ble_eq_true rfl⟩) (zprepV hZ (zSweak hS hsub) hq2 _) rfl rfl hl.1 rfl (lv_room (Nat.le_of_ble_eq_true rfl)) dX0_isTextAt_4 ⟨Nat.zero_le _, Nat.zero_le _⟩) ?_
  refine lv_icmp_eq (tgt := 12) hx hb dX0_isTextAt_7 (by decide) (fun c1 => ?_) (fun c1 => ?_)
  · have h := h.1 c1
    refine lv_iconst (v := (jI 0)) hx hb dX0_isTextAt_12 rfl ?_
    refine lv_istore (lv' := [(4, .int (jI 0)), (0, .ref (ad 3)), (1, .int p0), (2, .int p1), (3, .ref (aK q2))]) hx hb dX0_isTextAt_13 hl (by decide) rfl (fun ls hl => ?_)
    have k41_15 : ∀ (u_41 : ST) (H : Heap) (locs : List Loc), Q (jI 0) u_41 → zW D 116 (zce cy ad u_41) ad H → va_S (zA 116 ad) s.heap H locs → ∀ ls : Array Slot, lv_has ls 5 [] → W p l e ({ frames := 4, cells := 0, slots := 0, locals := 85 } : Room) s m ([.ref (ad 3), .int p0, .int p1, .ref (aK q2)] : List Value).toArray below meth c H locs 0 0 (MQ below (va_Qi Q (zB D 116 (zce cy ad) ad) (zA 116 ad)) ([.ref (ad 3), .int p0, .int p1, .ref (aK q2)] : List Value).toArray s 0 0 (zA 116 ad)) (F0 m 41 ls []) := by
      intro u_41 H locs h hw hS ls hl
      refine lv_iconst (v := (jI 0)) hx hb dX0_isTextAt_41 rfl ?_
      exact W.zret (v := (jI 0)) (ty := .boolean) hx hb hr (by decide +kernel) (fun t ht hW => ⟨⟨_, _, rfl, h, zend hw ht⟩, hS.F ht⟩) hS.2.2 dX0_isTextAt_42
    have k49_15 : ∀ (u_49 : ST) (H : Heap) (locs : List Loc), Q (jI 1) u_49 → zW D 116 (zce cy ad u_49) ad H → va_S (zA 116 ad) s.heap H locs → ∀ ls : Array Slot, lv_has ls 5 [] → W p l e ({ frames := 4, cells := 0, slots := 0, locals := 85 } : Room) s m ([.ref (ad 3), .int p0, .int p1, .ref (aK q2)] : List Value).toArray below meth c H locs 0 0 (MQ below (va_Qi Q (zB D 116 (zce cy ad) ad) (zA 116 ad)) ([.ref (ad 3), .int p0, .int p1, .ref (aK q2)] : List Value).toArray s 0 0 (zA 116 ad)) (F0 m 49 ls []) := by
      intro u_49 H locs h hw hS ls hl
      refine lv_iconst (v := (jI 1)) hx hb dX0_isTextAt_49 rfl ?_
      exact W.zret (v := (jI 1)) (ty := .boolean) hx hb hr (by decide +kernel) (fun t ht hW => ⟨⟨_, _, rfl, h, zend hw ht⟩, hS.F ht⟩) hS.2.2 dX0_isTextAt_50
    have lp15 : ∀ (nn15 : Nat) (t_15 : ST) (y4_15 : Int32) (H : Heap) (locs : List Loc), wl_X0_isTextAt_15 (fun u_41 => Q (jI 0) u_41) (fun u_49 => Q (jI 1) u_49) p0 q2 nn15 t_15 y4_15 → zW D 116 (zce cy ad t_15) ad H → va_S (zA 116 ad) s.heap H locs → ∀ ls : Array Slot, lv_has ls 5 [(0, .ref (ad 3)), (1, .int p0), (3, .ref (aK q2)), (4, .int y4_15)] → W p l e ({ frames := 4, cells := 0, slots := 0, locals := 85 } : Room) s m ([.ref (ad 3), .int p0, .int p1, .ref (aK q2)] : List Value).toArray below meth c H locs 0 0 (MQ below (va_Qi Q (zB D 116 (zce cy ad) ad) (zA 116 ad)) ([.ref (ad 3), .int p0, .int p1, .ref (aK q2)] : List Value).toArray s 0 0 (zA 116 ad)) (F0 m 15 ls []) := by
      intro nn15
      induction nn15 with
      | zero => intro _ _ _ _ h; exact h.elim
      | succ nn15 ih15 =>
        intro t_15 y4_15 H locs h hw hS ls hl
        simp only [wl_X0_isTextAt_15, wb_X0_isTextAt_15] at h
        refine lv_iload hx hb dX0_isTextAt_15 (lv_at hl 3 rfl) ?_
        refine lv_aload_n hx hb dX0_isTextAt_17 rfl (lv_at hl 2 rfl) ?_
        refine zcallp (va_runV (As := []) (rest := [.int y4_15]) ⟨hx, hb, hml, hown, hts⟩ (c_J0_length_8abf5 l AL aK aV q2 hq2) (cwV 0 hts gX0_isTextAt_J0_length_8abf5 rfl rfl rfl (by decide +kernel) ⟨Nat.le_of_ble_eq_true rfl, Nat.le_of_ble_eq_true rfl⟩) (zprepV hZ (zSweak hS hsub) hq2 _) rfl rfl hl.1 rfl (lv_room (Nat.le_of_ble_eq_true rfl)) dX0_isTextAt_18 ⟨Nat.zero_le _, Nat.zero_le _⟩) ?_
        refine lv_icmp_ge (tgt := 49) hx hb dX0_isTextAt_21 (by decide) (fun c2 => ?_) (fun c2 => ?_)
        · have h := h.1 c2
          exact k49_15 _ _ _ h hw hS _ (lv_sub hl [] rfl)
        · have h := h.2 c2
          refine lv_aload_n hx hb dX0_isTextAt_24 rfl (lv_at hl 0 rfl) ?_
          refine lv_iload_n hx hb dX0_isTextAt_25 rfl (lv_at hl 1 rfl) ?_
          refine lv_iload hx hb dX0_isTextAt_26 (lv_at hl 3 rfl) ?_
          refine lv_iadd hx hb dX0_isTextAt_28 ?_
          refine k_X0_byteAt (rest := []) hx hb hml hown hts gX0_isTextAt_X0_byteAt ⟨Nat.le_of_ble_eq_true rfl, Nat.le_of_ble_eq_true rfl⟩ ⟨Nat.zero_le _, Nat.zero_le _⟩ hK hj hw hA hS hl.1 (Nat.le_of_ble_eq_true rfl) dX0_isTextAt_29 h (fun r1 s1 H locs h hw hS => ?_)
          refine lv_aload_n hx hb dX0_isTextAt_32 rfl (lv_at hl 2 rfl) ?_
          refine lv_iload hx hb dX0_isTextAt_33 (lv_at hl 3 rfl) ?_
          refine zcallp (va_runV (As := [.int y4_15]) (rest := [.int r1]) ⟨hx, hb, hml, hown, hts⟩ (c_J0_charAt_5068e l AL aK aV q2 hq2 y4_15 h.1) (cwV 1 hts gX0_isTextAt_J0_charAt_5068e rfl rfl rfl (by decide +kernel) ⟨Nat.le_of_ble_eq_true rfl, Nat.le_of_ble_eq_true rfl⟩) (zprepV hZ (zSweak hS hsub) hq2 _) rfl rfl hl.1 rfl (lv_room (Nat.le_of_ble_eq_true rfl)) dX0_isTextAt_35 ⟨Nat.zero_le _, Nat.zero_le _⟩) ?_
          refine lv_topi (fun v1 ev1 => ?_)
          have h := h.2 v1 ev1
          refine lv_icmp_eq (tgt := 43) hx hb dX0_isTextAt_38 (by decide) (fun c3 => ?_) (fun c3 => ?_)
          · have h := h.1 c3
            obtain ⟨x1, ex1⟩ : ∃ y : Int32, y = y4_15 + (jI 1) := ⟨_, rfl⟩
            have h := h x1 ex1
            refine lv_iinc (v := x1) (lv' := [(4, .int x1), (0, .ref (ad 3)), (1, .int p0), (3, .ref (aK q2))]) hx hb dX0_isTextAt_43 hl (k := 3) rfl (by rw [ex1]; rfl) (by decide) rfl (fun ls hl => ?_)
            refine lv_goto (tgt := 15) hx hb dX0_isTextAt_46 (by decide) ?_
            exact ih15 _ _ _ _ h hw hS _ (lv_sub hl [1, 2, 3, 0] rfl)
          · have h := h.2 c3
            exact k41_15 _ _ _ h hw hS _ (lv_sub hl [] rfl)
    obtain ⟨nn15, h⟩ := h
    exact lp15 nn15 _ _ _ _ h hw hS _ (lv_sub hl [1, 2, 4, 0] rfl)
  · have h := h.2 c1
    refine lv_iconst (v := (jI 0)) hx hb dX0_isTextAt_10 rfl ?_
    exact W.zret (v := (jI 0)) (ty := .boolean) hx hb hr (by decide +kernel) (fun t ht hW => ⟨⟨_, _, rfl, h, zend hw ht⟩, hS.F ht⟩) hS.2.2 dX0_isTextAt_11
theorem k_X0_isTextAt {p : Program} {l : Launch} {e : Env} {R : Room} {s : State} {m : MethodId} {args : Array Value} {below : List Frame} {meth : Method} {c : Code} {H : Heap} {locs : List Loc} {cells slots : Nat} {QQ : State → Prop} {cc : ByteArray} {pc nL index : Nat} {ls : Array Slot} {rest : List Value} {D : va_G} {cy : cyT} {ad : Nat → Nat} {own : String} {Ts : List Cond} {AL : Nat → Prop} {aK aV : Nat → Nat} {σ : ST} {p0 : Int32} {p1 : Int32} {q2 : Nat} {Q : Int32 → ST → Prop} (hx : p.tables.exec = Jvm.exec) (hb : c.code = cc) (hml : c.maxLocals = nL) (hown : s.vm.findClass own = some m.cls) (hts : ∀ w ∈ Ts, w.before args s = true) (hG : GoodIn Ts (wsV own index RX0 yX0_isTextAt wsX0_isTextAt)) (hR : 4 + 1 ≤ R.frames ∧ 8 + (5 + 11) + 85 ≤ R.locals) (hcs : cells ≤ R.cells ∧ slots ≤ R.slots) (hK : zK D cy s) (hj : zI 116 ad) (hw : zW D 116 (zce cy ad σ) ad H) {A0 : Nat → Prop} (hZ : zStr AL aK aV s) (hAL : ∀ i, i < 116 → AL (ad i)) (hsub : ∀ q, A0 q → AL q) (hq2 : q2 < 6) (hA : ∀ i, i < 116 → A0 (ad i)) (hS : va_S A0 s.heap H locs) (hsz : ls.size = nL) (hrest : (rest.map fun v => v.category).sum ≤ 8) (hdg : decode cc pc = .ok (.invokevirtual index, 3)) (h : wp_X0_isTextAt σ p0 p1 q2 Q) (kk : ∀ (r : Int32) (σ : ST) (H : Heap) (locs : List Loc), Q r σ → zW D 116 (zce cy ad σ) ad H → va_S A0 s.heap H locs → W p l e R s m args below meth c H locs cells slots QQ (F0 m (pc + 3) ls (.int r :: rest))) : W p l e R s m args below meth c H locs cells slots QQ (F0 m pc ls (.ref (aK q2) :: .int p1 :: .int p0 :: .ref (ad 3) :: rest)) :=
  zcalli (va_runV (As := [.int p0, .int p1, .ref (aK q2)]) (rest := rest) ⟨hx, hb, hml, hown, hts⟩ (c_X0_isTextAt l D cy ad AL aK aV σ p0 p1 q2 hq2 h) (cwV 3 hts hG rfl rfl rfl (by decide +kernel) hR) (zpreVZ hj hK hw hZ hAL hsub hS _ (i := 3) (ci := 0) (by decide) rfl rfl) rfl rfl hsz rfl (lv_room hrest) hdg hcs) hA hS kk
def wb_X0_findWord_2 (K21 : ST → Int32 → Prop) (K29 : ST → Prop) (LL : ST → Int32 → Prop) (f1_2 : Int32) (f2_2 : Int32) (t_2 : ST) (y3_2 : Int32) : Prop :=
  (((jI 6) ≤ y3_2 → K29 t_2) ∧ (¬ (jI 6) ≤ y3_2 → (∃ i1 : Nat, i1 < 6 ∧ y3_2 = jI i1 ∧ wp_X0_isTextAt t_2 f1_2 f2_2 i1 (fun r1 s1 => ((r1 = (jI 0) → (∀ x1 : Int32, x1 = y3_2 + (jI 1) → LL s1 x1)) ∧ (¬ r1 = (jI 0) → K21 s1 y3_2))))))
def wl_X0_findWord_2 (K21 : ST → Int32 → Prop) (K29 : ST → Prop) (f1_2 : Int32) (f2_2 : Int32) : Nat → ST → Int32 → Prop
  | 0 => fun _ _ => False
  | nn + 1 => wb_X0_findWord_2 K21 K29 (wl_X0_findWord_2 K21 K29 f1_2 f2_2 nn) f1_2 f2_2
def wp_X0_findWord (σ : ST) (p0 : Int32) (p1 : Int32) (Q : Int32 → ST → Prop) : Prop :=
  (∃ nn : Nat, wl_X0_findWord_2 (fun u_21 z3_21 => Q z3_21 u_21) (fun u_29 => Q (jI (-1)) u_29) p0 p1 nn σ (jI 0))
set_option maxHeartbeats 4000000 in
set_option maxRecDepth 100000 in
theorem c_X0_findWord (l : Launch) (D : va_G) (cy : cyT) (ad : Nat → Nat) (AL : Nat → Prop) (aK aV : Nat → Nat) (σ : ST) (p0 : Int32) (p1 : Int32) {Q : Int32 → ST → Prop} (h : wp_X0_findWord σ p0 p1 Q) : Met l yX0_findWord wsX0_findWord ({ frames := 5, cells := 0, slots := 0, locals := 109 } : Room) (zPreZ D cy 116 (zce cy ad σ) ad AL aK aV [.ref (ad 3), .int p0, .int p1]) (va_Qi Q (zB D 116 (zce cy ad) ad) (zA 116 ad)) 0 0 (zA 116 ad) := by
  refine Met.ofW (cc := cX0_findWord) (maxL := 4) (ret := (some .int)) (by decide) rfl ?_
  intro p e s m args below meth c s₁ B hml hv
  obtain ⟨rfl, hj, hK, hw, hZ, hAL⟩ := hv
  have hsub : ∀ q, zA 116 ad q → AL q := fun q hq => by obtain ⟨i, hi, rfl⟩ := hq; exact hAL i hi
  have hx := B.exec
  have hb := B.bytes
  have hr := B.returns
  have hts := atoms_spec (ws := wsX0_findWord) B.pre
  have hown : s.vm.findClass RX0 = some m.cls := findClass_of_methodNamed B.named
  have hlocks := B.notSynchronized
  have hS : va_S (zA 116 ad) s.heap s.heap [] := va_S.rf
  have hA : ∀ i, i < 116 → zA 116 ad (ad i) := fun i hi => ⟨i, hi, rfl⟩
  have hl := lv_entry ([.ref (ad 3), .int p0, .int p1]) (n := 4) (Nat.le_of_ble_eq_true rfl)
  rw [lg_entry_eq]
  generalize (lg_sl ([.ref (ad 3), .int p0, .int p1]) ++ List.replicate (4 - (lg_sl ([.ref (ad 3), .int p0, .int p1])).length) Slot.unset).toArray = ls at hl ⊢
  have hl : lv_has ls 4 [(0, .ref (ad 3)), (1, .int p0), (2, .int p1)] := hl
  show W p l e ({ frames := 5, cells := 0, slots := 0, locals := 109 } : Room) s m ([.ref (ad 3), .int p0, .int p1] : List Value).toArray below meth c s.heap [] 0 0 (MQ below (va_Qi Q (zB D 116 (zce cy ad) ad) (zA 116 ad)) ([.ref (ad 3), .int p0, .int p1] : List Value).toArray s 0 0 (zA 116 ad)) (F0 m 0 ls [])
  unfold wp_X0_findWord at h
  refine lv_iconst (v := (jI 0)) hx hb dX0_findWord_0 rfl ?_
  refine lv_istore_n (lv' := [(3, .int (jI 0)), (0, .ref (ad 3)), (1, .int p0), (2, .int p1)]) hx hb dX0_findWord_1 rfl hl (by decide) rfl (fun ls hl => ?_)
  have k21_2 : ∀ (u_21 : ST) (z3_21 : Int32) (H : Heap) (locs : List Loc), Q z3_21 u_21 → zW D 116 (zce cy ad u_21) ad H → va_S (zA 116 ad) s.heap H locs → ∀ ls : Array Slot, lv_has ls 4 [(3, .int z3_21)] → W p l e ({ frames := 5, cells := 0, slots := 0, locals := 109 } : Room) s m ([.ref (ad 3), .int p0, .int p1] : List Value).toArray below meth c H locs 0 0 (MQ below (va_Qi Q (zB D 116 (zce cy ad) ad) (zA 116 ad)) ([.ref (ad 3), .int p0, .int p1] : List Value).toArray s 0 0 (zA 116 ad)) (F0 m 21 ls []) := by
    intro u_21 z3_21 H locs h hw hS ls hl
    refine lv_iload_n hx hb dX0_findWord_21 rfl (lv_at hl 0 rfl) ?_
    exact W.iret (v := z3_21) hx hb hr (fun t ht hW => ⟨⟨_, _, rfl, h, zend hw ht⟩, hS.F ht⟩) hS.2.2 dX0_findWord_22
  have k29_2 : ∀ (u_29 : ST) (H : Heap) (locs : List Loc), Q (jI (-1)) u_29 → zW D 116 (zce cy ad u_29) ad H → va_S (zA 116 ad) s.heap H locs → ∀ ls : Array Slot, lv_has ls 4 [] → W p l e ({ frames := 5, cells := 0, slots := 0, locals := 109 } : Room) s m ([.ref (ad 3), .int p0, .int p1] : List Value).toArray below meth c H locs 0 0 (MQ below (va_Qi Q (zB D 116 (zce cy ad) ad) (zA 116 ad)) ([.ref (ad 3), .int p0, .int p1] : List Value).toArray s 0 0 (zA 116 ad)) (F0 m 29 ls []) := by
    intro u_29 H locs h hw hS ls hl
    refine lv_iconst (v := (jI (-1))) hx hb dX0_findWord_29 rfl ?_
    exact W.iret (v := (jI (-1))) hx hb hr (fun t ht hW => ⟨⟨_, _, rfl, h, zend hw ht⟩, hS.F ht⟩) hS.2.2 dX0_findWord_30
  have lp2 : ∀ (nn2 : Nat) (t_2 : ST) (y3_2 : Int32) (H : Heap) (locs : List Loc), wl_X0_findWord_2 (fun u_21 z3_21 => Q z3_21 u_21) (fun u_29 => Q (jI (-1)) u_29) p0 p1 nn2 t_2 y3_2 → zW D 116 (zce cy ad t_2) ad H → va_S (zA 116 ad) s.heap H locs → ∀ ls : Array Slot, lv_has ls 4 [(0, .ref (ad 3)), (1, .int p0), (2, .int p1), (3, .int y3_2)] → W p l e ({ frames := 5, cells := 0, slots := 0, locals := 109 } : Room) s m ([.ref (ad 3), .int p0, .int p1] : List Value).toArray below meth c H locs 0 0 (MQ below (va_Qi Q (zB D 116 (zce cy ad) ad) (zA 116 ad)) ([.ref (ad 3), .int p0, .int p1] : List Value).toArray s 0 0 (zA 116 ad)) (F0 m 2 ls []) := by
    intro nn2
    induction nn2 with
    | zero => intro _ _ _ _ h; exact h.elim
    | succ nn2 ih2 =>
      intro t_2 y3_2 H locs h hw hS ls hl
      simp only [wl_X0_findWord_2, wb_X0_findWord_2] at h
      refine lv_iload_n hx hb dX0_findWord_2 rfl (lv_at hl 3 rfl) ?_
      refine lv_bipush (v := (jI 6)) hx hb dX0_findWord_3 (by decide +kernel) ?_
      refine lv_icmp_ge (tgt := 29) hx hb dX0_findWord_5 (by decide) (fun c1 => ?_) (fun c1 => ?_)
      · have h := h.1 c1
        exact k29_2 _ _ _ h hw hS _ (lv_sub hl [] rfl)
      · have h := h.2 c1
        refine lv_aload_n hx hb dX0_findWord_8 rfl (lv_at hl 0 rfl) ?_
        refine lv_iload_n hx hb dX0_findWord_9 rfl (lv_at hl 1 rfl) ?_
        refine lv_iload_n hx hb dX0_findWord_10 rfl (lv_at hl 2 rfl) ?_
        refine lv_iload_n hx hb dX0_findWord_11 rfl (lv_at hl 3 rfl) ?_
        obtain ⟨i1, hi1, ei1, h⟩ := h
        refine zcallp (va_runS (As := [.int y3_2]) (rest := [.int p1, .int p0, .ref (ad 3)]) ⟨hx, hb, hml, hown, hts⟩ (c_X0_spellingOf_w l AL aK aV y3_2 i1 hi1 ei1) (va_cwS 1 hts gX0_findWord_X0_spellingOf rfl rfl rfl (by decide +kernel) ⟨Nat.le_of_ble_eq_true rfl, Nat.le_of_ble_eq_true rfl⟩) (zprepS hZ (zSweak hS hsub) _) rfl rfl hl.1 rfl (lv_room (Nat.le_of_ble_eq_true rfl)) dX0_findWord_12 ⟨Nat.zero_le _, Nat.zero_le _⟩) ?_
        refine k_X0_isTextAt (rest := []) hx hb hml hown hts gX0_findWord_X0_isTextAt ⟨Nat.le_of_ble_eq_true rfl, Nat.le_of_ble_eq_true rfl⟩ ⟨Nat.zero_le _, Nat.zero_le _⟩ hK hj hw hZ hAL hsub hi1 hA hS hl.1 (Nat.le_of_ble_eq_true rfl) dX0_findWord_15 h (fun r1 s1 H locs h hw hS => ?_)
        refine zif_eq (tgt := 23) hx hb dX0_findWord_18 (by decide) (fun c2 => ?_) (fun c2 => ?_)
        · have h := h.1 c2
          obtain ⟨x1, ex1⟩ : ∃ y : Int32, y = y3_2 + (jI 1) := ⟨_, rfl⟩
          have h := h x1 ex1
          refine lv_iinc (v := x1) (lv' := [(3, .int x1), (0, .ref (ad 3)), (1, .int p0), (2, .int p1)]) hx hb dX0_findWord_23 hl (k := 3) rfl (by rw [ex1]; rfl) (by decide) rfl (fun ls hl => ?_)
          refine lv_goto (tgt := 2) hx hb dX0_findWord_26 (by decide) ?_
          exact ih2 _ _ _ _ h hw hS _ (lv_sub hl [1, 2, 3, 0] rfl)
        · have h := h.2 c2
          exact k21_2 _ _ _ _ h hw hS _ (lv_sub hl [3] rfl)
  obtain ⟨nn2, h⟩ := h
  exact lp2 nn2 _ _ _ _ h hw hS _ (lv_sub hl [1, 2, 3, 0] rfl)
theorem k_X0_findWord {p : Program} {l : Launch} {e : Env} {R : Room} {s : State} {m : MethodId} {args : Array Value} {below : List Frame} {meth : Method} {c : Code} {H : Heap} {locs : List Loc} {cells slots : Nat} {QQ : State → Prop} {cc : ByteArray} {pc nL index : Nat} {ls : Array Slot} {rest : List Value} {D : va_G} {cy : cyT} {ad : Nat → Nat} {own : String} {Ts : List Cond} {AL : Nat → Prop} {aK aV : Nat → Nat} {σ : ST} {p0 : Int32} {p1 : Int32} {Q : Int32 → ST → Prop} (hx : p.tables.exec = Jvm.exec) (hb : c.code = cc) (hml : c.maxLocals = nL) (hown : s.vm.findClass own = some m.cls) (hts : ∀ w ∈ Ts, w.before args s = true) (hG : GoodIn Ts (wsV own index RX0 yX0_findWord wsX0_findWord)) (hR : 5 + 1 ≤ R.frames ∧ 8 + (4 + 11) + 109 ≤ R.locals) (hcs : cells ≤ R.cells ∧ slots ≤ R.slots) (hK : zK D cy s) (hj : zI 116 ad) (hw : zW D 116 (zce cy ad σ) ad H) {A0 : Nat → Prop} (hZ : zStr AL aK aV s) (hAL : ∀ i, i < 116 → AL (ad i)) (hsub : ∀ q, A0 q → AL q) (hA : ∀ i, i < 116 → A0 (ad i)) (hS : va_S A0 s.heap H locs) (hsz : ls.size = nL) (hrest : (rest.map fun v => v.category).sum ≤ 8) (hdg : decode cc pc = .ok (.invokevirtual index, 3)) (h : wp_X0_findWord σ p0 p1 Q) (kk : ∀ (r : Int32) (σ : ST) (H : Heap) (locs : List Loc), Q r σ → zW D 116 (zce cy ad σ) ad H → va_S A0 s.heap H locs → W p l e R s m args below meth c H locs cells slots QQ (F0 m (pc + 3) ls (.int r :: rest))) : W p l e R s m args below meth c H locs cells slots QQ (F0 m pc ls (.int p1 :: .int p0 :: .ref (ad 3) :: rest)) :=
  zcalli (va_runV (As := [.int p0, .int p1]) (rest := rest) ⟨hx, hb, hml, hown, hts⟩ (c_X0_findWord l D cy ad AL aK aV σ p0 p1 h) (cwV 2 hts hG rfl rfl rfl (by decide +kernel) hR) (zpreVZ hj hK hw hZ hAL hsub hS _ (i := 3) (ci := 0) (by decide) rfl rfl) rfl rfl hsz rfl (lv_room hrest) hdg hcs) hA hS kk
def wb_X0_readCommand_51 (K66 : ST → Prop) (K74 : ST → Prop) (LL : ST → Int32 → Prop) (f3_51 : Int32) (t_51 : ST) (y4_51 : Int32) : Prop :=
  ((f3_51 ≤ y4_51 → K74 t_51) ∧ (¬ f3_51 ≤ y4_51 → wp_X0_readNumber t_51 y4_51 (fun r3 s5 => ((r3 = (jI 0) → K66 s5) ∧ (¬ r3 = (jI 0) → (∀ x1 : Int32, x1 = y4_51 + (jI 1) → LL s5 x1))))))
def wl_X0_readCommand_51 (K66 : ST → Prop) (K74 : ST → Prop) (f3_51 : Int32) : Nat → ST → Int32 → Prop
  | 0 => fun _ _ => False
  | nn + 1 => wb_X0_readCommand_51 K66 K74 (wl_X0_readCommand_51 K66 K74 f3_51 nn) f3_51
def wp_X0_readCommand (σ : ST)  (Q : Int32 → ST → Prop) : Prop :=
  wp_X0_skipLetters σ (fun s1 => wp_X0_findWord s1 (σ.2 43) (s1.2 43) (fun r1 s2 => ((r1 = (jI (-1)) → (∀ s9 : ST, s9 = zsp s2 43 (σ.2 43) → Q (jI 0) s9)) ∧ (¬ r1 = (jI (-1)) → (∀ s3 : ST, s3 = zrs s2 51 (s2.2 44) r1 → wp_X0_numbersAfter s3 r1 (fun r2 s4 => (∃ nn : Nat, wl_X0_readCommand_51 (fun u_66 => Q (jI 0) u_66) (fun u_74 => wp_X0_skipSpaces u_74 (fun s6 => wp_X0_byteAt s6 (s6.2 43) (fun r4 s7 => ((r4 = (jI 59) → (∀ s8 : ST, s8 = zsp s7 43 ((s7.2 43) + (jI 1)) → Q (jI 1) s8)) ∧ (¬ r4 = (jI 59) → Q (jI 0) s7))))) r2 nn s4 (jI 0))))))))
set_option maxHeartbeats 4000000 in
set_option maxRecDepth 100000 in
theorem c_X0_readCommand (l : Launch) (D : va_G) (cy : cyT) (ad : Nat → Nat) (AL : Nat → Prop) (aK aV : Nat → Nat) (σ : ST) {Q : Int32 → ST → Prop} (h : wp_X0_readCommand σ Q) : Met l yX0_readCommand wsX0_readCommand ({ frames := 6, cells := 0, slots := 0, locals := 132 } : Room) (zPreZ D cy 116 (zce cy ad σ) ad AL aK aV [.ref (ad 3)]) (va_Qi Q (zB D 116 (zce cy ad) ad) (zA 116 ad)) 0 0 (zA 116 ad) := by
  refine Met.ofW (cc := cX0_readCommand) (maxL := 5) (ret := (some .boolean)) (by decide) rfl ?_
  intro p e s m args below meth c s₁ B hml hv
  obtain ⟨rfl, hj, hK, hw, hZ, hAL⟩ := hv
  have hsub : ∀ q, zA 116 ad q → AL q := fun q hq => by obtain ⟨i, hi, rfl⟩ := hq; exact hAL i hi
  have hx := B.exec
  have hb := B.bytes
  have hr := B.returns
  have hts := atoms_spec (ws := wsX0_readCommand) B.pre
  have hown : s.vm.findClass RX0 = some m.cls := findClass_of_methodNamed B.named
  have hlocks := B.notSynchronized
  have lk0 : Cond.fieldLink RX0 24 "TypeTrays$Commands" "position" "I" ∈ wsX0_readCommand := List.mem_of_getElem? (i := 1) rfl
  have lk1 : Cond.fieldLink RX0 27 "TypeTrays$Commands" "words" "LTypeTrays$Row;" ∈ wsX0_readCommand := List.mem_of_getElem? (i := 2) rfl
  have lk2 : Cond.fieldLink RX0 33 "TypeTrays$Commands" "count" "I" ∈ wsX0_readCommand := List.mem_of_getElem? (i := 3) rfl
  have inX0 : ∀ w ∈ u_ws RX0 TX0 6, w ∈ wsX0_readCommand := zin_at 103 rfl
  have hS : va_S (zA 116 ad) s.heap s.heap [] := va_S.rf
  have hA : ∀ i, i < 116 → zA 116 ad (ad i) := fun i hi => ⟨i, hi, rfl⟩
  have hl := lv_entry ([.ref (ad 3)]) (n := 5) (Nat.le_of_ble_eq_true rfl)
  rw [lg_entry_eq]
  generalize (lg_sl ([.ref (ad 3)]) ++ List.replicate (5 - (lg_sl ([.ref (ad 3)])).length) Slot.unset).toArray = ls at hl ⊢
  have hl : lv_has ls 5 [(0, .ref (ad 3))] := hl
  show W p l e ({ frames := 6, cells := 0, slots := 0, locals := 132 } : Room) s m ([.ref (ad 3)] : List Value).toArray below meth c s.heap [] 0 0 (MQ below (va_Qi Q (zB D 116 (zce cy ad) ad) (zA 116 ad)) ([.ref (ad 3)] : List Value).toArray s 0 0 (zA 116 ad)) (F0 m 0 ls [])
  unfold wp_X0_readCommand at h
  refine lv_aload_n hx hb dX0_readCommand_0 rfl (lv_at hl 0 rfl) ?_
  refine zget hx hb hts inX0 hown hK hw 3 (by decide) rfl rfl 2 (by decide) lk0 (fun _ h9 => h9) rfl dX0_readCommand_1 ?_
  refine lv_istore_n (lv' := [(1, .int (σ.2 43)), (0, .ref (ad 3))]) hx hb dX0_readCommand_4 rfl hl (by decide) rfl (fun ls hl => ?_)
  refine lv_aload_n hx hb dX0_readCommand_5 rfl (lv_at hl 1 rfl) ?_
  refine k_X0_skipLetters (rest := []) hx hb hml hown hts gX0_readCommand_X0_skipLetters ⟨Nat.le_of_ble_eq_true rfl, Nat.le_of_ble_eq_true rfl⟩ ⟨Nat.zero_le _, Nat.zero_le _⟩ hK hj hw hA hS hl.1 (Nat.le_of_ble_eq_true rfl) dX0_readCommand_6 h (fun s1 H locs h hw hS => ?_)
  refine lv_aload_n hx hb dX0_readCommand_9 rfl (lv_at hl 1 rfl) ?_
  refine lv_iload_n hx hb dX0_readCommand_10 rfl (lv_at hl 0 rfl) ?_
  refine lv_aload_n hx hb dX0_readCommand_11 rfl (lv_at hl 1 rfl) ?_
  refine zget hx hb hts inX0 hown hK hw 3 (by decide) rfl rfl 2 (by decide) lk0 (fun _ h9 => h9) rfl dX0_readCommand_12 ?_
  refine k_X0_findWord (rest := []) hx hb hml hown hts gX0_readCommand_X0_findWord ⟨Nat.le_of_ble_eq_true rfl, Nat.le_of_ble_eq_true rfl⟩ ⟨Nat.zero_le _, Nat.zero_le _⟩ hK hj hw hZ hAL hsub hA hS hl.1 (Nat.le_of_ble_eq_true rfl) dX0_readCommand_15 h (fun r1 s2 H locs h hw hS => ?_)
  refine lv_istore_n (lv' := [(2, .int r1), (1, .int (σ.2 43)), (0, .ref (ad 3))]) hx hb dX0_readCommand_18 rfl hl (by decide) rfl (fun ls hl => ?_)
  refine lv_iload_n hx hb dX0_readCommand_19 rfl (lv_at hl 0 rfl) ?_
  refine lv_iconst (v := (jI (-1))) hx hb dX0_readCommand_20 rfl ?_
  refine lv_icmp_ne (tgt := 31) hx hb dX0_readCommand_21 (by decide) (fun c1 => ?_) (fun c1 => ?_)
  · have h := h.2 c1
    refine lv_aload_n hx hb dX0_readCommand_31 rfl (lv_at hl 2 rfl) ?_
    refine zget hx hb hts inX0 hown hK hw 3 (by decide) rfl rfl 3 (by decide) lk1 (fun _ h9 => h9) rfl dX0_readCommand_32 ?_
    refine lv_aload_n hx hb dX0_readCommand_35 rfl (lv_at hl 2 rfl) ?_
    refine zget hx hb hts inX0 hown hK hw 3 (by decide) rfl rfl 5 (by decide) lk2 (fun _ h9 => h9) rfl dX0_readCommand_36 ?_
    refine lv_iload_n hx hb dX0_readCommand_39 rfl (lv_at hl 0 rfl) ?_
    obtain ⟨s3, es3⟩ : ∃ y : ST, y = zrs s2 51 (s2.2 44) r1 := ⟨_, rfl⟩
    have h := h s3 es3
    refine zcall_put (rest := []) hx hb hml hown hts gX0_readCommand_X3_put ⟨Nat.le_of_ble_eq_true rfl, Nat.le_of_ble_eq_true rfl⟩ ⟨Nat.zero_le _, Nat.zero_le _⟩ hK hj hw hA hS 51 (by decide) hl.1 (Nat.le_of_ble_eq_true rfl) dX0_readCommand_40 (fun H locs hw hS => ?_)
    rw [← es3] at hw
    refine lv_iload_n hx hb dX0_readCommand_43 rfl (lv_at hl 0 rfl) ?_
    refine k_X0_numbersAfter (rest := []) hx hb hml hown hts gX0_readCommand_X0_numbersAfter ⟨Nat.le_of_ble_eq_true rfl, Nat.le_of_ble_eq_true rfl⟩ ⟨Nat.zero_le _, Nat.zero_le _⟩ hK hj hw hA hS hl.1 (Nat.le_of_ble_eq_true rfl) dX0_readCommand_44 h (fun r2 s4 H locs h hw hS => ?_)
    refine lv_istore_n (lv' := [(3, .int r2), (2, .int r1), (1, .int (σ.2 43)), (0, .ref (ad 3))]) hx hb dX0_readCommand_47 rfl hl (by decide) rfl (fun ls hl => ?_)
    refine lv_iconst (v := (jI 0)) hx hb dX0_readCommand_48 rfl ?_
    refine lv_istore (lv' := [(4, .int (jI 0)), (3, .int r2), (2, .int r1), (1, .int (σ.2 43)), (0, .ref (ad 3))]) hx hb dX0_readCommand_49 hl (by decide) rfl (fun ls hl => ?_)
    have k66_51 : ∀ (u_66 : ST) (H : Heap) (locs : List Loc), Q (jI 0) u_66 → zW D 116 (zce cy ad u_66) ad H → va_S (zA 116 ad) s.heap H locs → ∀ ls : Array Slot, lv_has ls 5 [] → W p l e ({ frames := 6, cells := 0, slots := 0, locals := 132 } : Room) s m ([.ref (ad 3)] : List Value).toArray below meth c H locs 0 0 (MQ below (va_Qi Q (zB D 116 (zce cy ad) ad) (zA 116 ad)) ([.ref (ad 3)] : List Value).toArray s 0 0 (zA 116 ad)) (F0 m 66 ls []) := by
      intro u_66 H locs h hw hS ls hl
      refine lv_iconst (v := (jI 0)) hx hb dX0_readCommand_66 rfl ?_
      exact W.zret (v := (jI 0)) (ty := .boolean) hx hb hr (by decide +kernel) (fun t ht hW => ⟨⟨_, _, rfl, h, zend hw ht⟩, hS.F ht⟩) hS.2.2 dX0_readCommand_67
    have k74_51 : ∀ (u_74 : ST) (H : Heap) (locs : List Loc), wp_X0_skipSpaces u_74 (fun s6 => wp_X0_byteAt s6 (s6.2 43) (fun r4 s7 => ((r4 = (jI 59) → (∀ s8 : ST, s8 = zsp s7 43 ((s7.2 43) + (jI 1)) → Q (jI 1) s8)) ∧ (¬ r4 = (jI 59) → Q (jI 0) s7)))) → zW D 116 (zce cy ad u_74) ad H → va_S (zA 116 ad) s.heap H locs → ∀ ls : Array Slot, lv_has ls 5 [(0, .ref (ad 3))] → W p l e ({ frames := 6, cells := 0, slots := 0, locals := 132 } : Room) s m ([.ref (ad 3)] : List Value).toArray below meth c H locs 0 0 (MQ below (va_Qi Q (zB D 116 (zce cy ad) ad) (zA 116 ad)) ([.ref (ad 3)] : List Value).toArray s 0 0 (zA 116 ad)) (F0 m 74 ls []) := by
      intro u_74 H locs h hw hS ls hl
      refine lv_aload_n hx hb dX0_readCommand_74 rfl (lv_at hl 0 rfl) ?_
      refine k_X0_skipSpaces (rest := []) hx hb hml hown hts gX0_readCommand_X0_skipSpaces ⟨Nat.le_of_ble_eq_true rfl, Nat.le_of_ble_eq_true rfl⟩ ⟨Nat.zero_le _, Nat.zero_le _⟩ hK hj hw hA hS hl.1 (Nat.le_of_ble_eq_true rfl) dX0_readCommand_75 h (fun s6 H locs h hw hS => ?_)
      refine lv_aload_n hx hb dX0_readCommand_78 rfl (lv_at hl 0 rfl) ?_
      refine lv_aload_n hx hb dX0_readCommand_79 rfl (lv_at hl 0 rfl) ?_
      refine zget hx hb hts inX0 hown hK hw 3 (by decide) rfl rfl 2 (by decide) lk0 (fun _ h9 => h9) rfl dX0_readCommand_80 ?_
      refine k_X0_byteAt (rest := []) hx hb hml hown hts gX0_readCommand_X0_byteAt ⟨Nat.le_of_ble_eq_true rfl, Nat.le_of_ble_eq_true rfl⟩ ⟨Nat.zero_le _, Nat.zero_le _⟩ hK hj hw hA hS hl.1 (Nat.le_of_ble_eq_true rfl) dX0_readCommand_83 h (fun r4 s7 H locs h hw hS => ?_)
      refine lv_bipush (v := (jI 59)) hx hb dX0_readCommand_86 (by decide +kernel) ?_
      refine lv_icmp_eq (tgt := 93) hx hb dX0_readCommand_88 (by decide) (fun c4 => ?_) (fun c4 => ?_)
      · have h := h.1 c4
        refine lv_aload_n hx hb dX0_readCommand_93 rfl (lv_at hl 0 rfl) ?_
        refine lv_dup hx hb dX0_readCommand_94 rfl ?_
        refine zget hx hb hts inX0 hown hK hw 3 (by decide) rfl rfl 2 (by decide) lk0 (fun _ h9 => h9) rfl dX0_readCommand_95 ?_
        refine lv_iconst (v := (jI 1)) hx hb dX0_readCommand_98 rfl ?_
        refine lv_iadd hx hb dX0_readCommand_99 ?_
        obtain ⟨s8, es8⟩ : ∃ y : ST, y = zsp s7 43 ((s7.2 43) + (jI 1)) := ⟨_, rfl⟩
        have h := h s8 es8
        refine zput (ty := .int) hx hb hts inX0 tyX0 tyX0_ok nmX0 hown hK hj hw hA hS 3 (by decide) rfl rfl 2 (by decide) lk0 (fun _ h9 => h9) rfl (by decide +kernel) rfl rfl (Nat.le_of_ble_eq_true rfl) dX0_readCommand_100 (zce cy ad s8) (by rw [es8]; rfl) (fun j hj9 => by rw [es8]; exact zsp_off_C_43 j hj9) (fun H locs hw hS => ?_)
        refine lv_iconst (v := (jI 1)) hx hb dX0_readCommand_103 rfl ?_
        exact W.zret (v := (jI 1)) (ty := .boolean) hx hb hr (by decide +kernel) (fun t ht hW => ⟨⟨_, _, rfl, h, zend hw ht⟩, hS.F ht⟩) hS.2.2 dX0_readCommand_104
      · have h := h.2 c4
        refine lv_iconst (v := (jI 0)) hx hb dX0_readCommand_91 rfl ?_
        exact W.zret (v := (jI 0)) (ty := .boolean) hx hb hr (by decide +kernel) (fun t ht hW => ⟨⟨_, _, rfl, h, zend hw ht⟩, hS.F ht⟩) hS.2.2 dX0_readCommand_92
    have lp51 : ∀ (nn51 : Nat) (t_51 : ST) (y4_51 : Int32) (H : Heap) (locs : List Loc), wl_X0_readCommand_51 (fun u_66 => Q (jI 0) u_66) (fun u_74 => wp_X0_skipSpaces u_74 (fun s6 => wp_X0_byteAt s6 (s6.2 43) (fun r4 s7 => ((r4 = (jI 59) → (∀ s8 : ST, s8 = zsp s7 43 ((s7.2 43) + (jI 1)) → Q (jI 1) s8)) ∧ (¬ r4 = (jI 59) → Q (jI 0) s7))))) r2 nn51 t_51 y4_51 → zW D 116 (zce cy ad t_51) ad H → va_S (zA 116 ad) s.heap H locs → ∀ ls : Array Slot, lv_has ls 5 [(0, .ref (ad 3)), (3, .int r2), (4, .int y4_51)] → W p l e ({ frames := 6, cells := 0, slots := 0, locals := 132 } : Room) s m ([.ref (ad 3)] : List Value).toArray below meth c H locs 0 0 (MQ below (va_Qi Q (zB D 116 (zce cy ad) ad) (zA 116 ad)) ([.ref (ad 3)] : List Value).toArray s 0 0 (zA 116 ad)) (F0 m 51 ls []) := by
      intro nn51
      induction nn51 with
      | zero => intro _ _ _ _ h; exact h.elim
      | succ nn51 ih51 =>
        intro t_51 y4_51 H locs h hw hS ls hl
        simp only [wl_X0_readCommand_51, wb_X0_readCommand_51] at h
        refine lv_iload hx hb dX0_readCommand_51 (lv_at hl 2 rfl) ?_
        refine lv_iload_n hx hb dX0_readCommand_53 rfl (lv_at hl 1 rfl) ?_
        refine lv_icmp_ge (tgt := 74) hx hb dX0_readCommand_54 (by decide) (fun c2 => ?_) (fun c2 => ?_)
        · have h := h.1 c2
          exact k74_51 _ _ _ h hw hS _ (lv_sub hl [0] rfl)
        · have h := h.2 c2
          refine lv_aload_n hx hb dX0_readCommand_57 rfl (lv_at hl 0 rfl) ?_
          refine lv_iload hx hb dX0_readCommand_58 (lv_at hl 2 rfl) ?_
          refine k_X0_readNumber (rest := []) hx hb hml hown hts gX0_readCommand_X0_readNumber ⟨Nat.le_of_ble_eq_true rfl, Nat.le_of_ble_eq_true rfl⟩ ⟨Nat.zero_le _, Nat.zero_le _⟩ hK hj hw hA hS hl.1 (Nat.le_of_ble_eq_true rfl) dX0_readCommand_60 h (fun r3 s5 H locs h hw hS => ?_)
          refine zif_ne (tgt := 68) hx hb dX0_readCommand_63 (by decide) (fun c3 => ?_) (fun c3 => ?_)
          · have h := h.2 c3
            obtain ⟨x1, ex1⟩ : ∃ y : Int32, y = y4_51 + (jI 1) := ⟨_, rfl⟩
            have h := h x1 ex1
            refine lv_iinc (v := x1) (lv' := [(4, .int x1), (0, .ref (ad 3)), (3, .int r2)]) hx hb dX0_readCommand_68 hl (k := 2) rfl (by rw [ex1]; rfl) (by decide) rfl (fun ls hl => ?_)
            refine lv_goto (tgt := 51) hx hb dX0_readCommand_71 (by decide) ?_
            exact ih51 _ _ _ _ h hw hS _ (lv_sub hl [1, 2, 0] rfl)
          · have h := h.1 c3
            exact k66_51 _ _ _ h hw hS _ (lv_sub hl [] rfl)
    obtain ⟨nn51, h⟩ := h
    exact lp51 nn51 _ _ _ _ h hw hS _ (lv_sub hl [4, 1, 0] rfl)
  · have h := h.1 c1
    refine lv_aload_n hx hb dX0_readCommand_24 rfl (lv_at hl 2 rfl) ?_
    refine lv_iload_n hx hb dX0_readCommand_25 rfl (lv_at hl 1 rfl) ?_
    obtain ⟨s9, es9⟩ : ∃ y : ST, y = zsp s2 43 (σ.2 43) := ⟨_, rfl⟩
    have h := h s9 es9
    refine zput (ty := .int) hx hb hts inX0 tyX0 tyX0_ok nmX0 hown hK hj hw hA hS 3 (by decide) rfl rfl 2 (by decide) lk0 (fun _ h9 => h9) rfl (by decide +kernel) rfl rfl (Nat.le_of_ble_eq_true rfl) dX0_readCommand_26 (zce cy ad s9) (by rw [es9]; rfl) (fun j hj9 => by rw [es9]; exact zsp_off_C_43 j hj9) (fun H locs hw hS => ?_)
    refine lv_iconst (v := (jI 0)) hx hb dX0_readCommand_29 rfl ?_
    exact W.zret (v := (jI 0)) (ty := .boolean) hx hb hr (by decide +kernel) (fun t ht hW => ⟨⟨_, _, rfl, h, zend hw ht⟩, hS.F ht⟩) hS.2.2 dX0_readCommand_30
theorem k_X0_readCommand {p : Program} {l : Launch} {e : Env} {R : Room} {s : State} {m : MethodId} {args : Array Value} {below : List Frame} {meth : Method} {c : Code} {H : Heap} {locs : List Loc} {cells slots : Nat} {QQ : State → Prop} {cc : ByteArray} {pc nL index : Nat} {ls : Array Slot} {rest : List Value} {D : va_G} {cy : cyT} {ad : Nat → Nat} {own : String} {Ts : List Cond} {AL : Nat → Prop} {aK aV : Nat → Nat} {σ : ST}  {Q : Int32 → ST → Prop} (hx : p.tables.exec = Jvm.exec) (hb : c.code = cc) (hml : c.maxLocals = nL) (hown : s.vm.findClass own = some m.cls) (hts : ∀ w ∈ Ts, w.before args s = true) (hG : GoodIn Ts (wsV own index RX0 yX0_readCommand wsX0_readCommand)) (hR : 6 + 1 ≤ R.frames ∧ 8 + (5 + 11) + 132 ≤ R.locals) (hcs : cells ≤ R.cells ∧ slots ≤ R.slots) (hK : zK D cy s) (hj : zI 116 ad) (hw : zW D 116 (zce cy ad σ) ad H) {A0 : Nat → Prop} (hZ : zStr AL aK aV s) (hAL : ∀ i, i < 116 → AL (ad i)) (hsub : ∀ q, A0 q → AL q) (hA : ∀ i, i < 116 → A0 (ad i)) (hS : va_S A0 s.heap H locs) (hsz : ls.size = nL) (hrest : (rest.map fun v => v.category).sum ≤ 8) (hdg : decode cc pc = .ok (.invokevirtual index, 3)) (h : wp_X0_readCommand σ  Q) (kk : ∀ (r : Int32) (σ : ST) (H : Heap) (locs : List Loc), Q r σ → zW D 116 (zce cy ad σ) ad H → va_S A0 s.heap H locs → W p l e R s m args below meth c H locs cells slots QQ (F0 m (pc + 3) ls (.int r :: rest))) : W p l e R s m args below meth c H locs cells slots QQ (F0 m pc ls (.ref (ad 3) :: rest)) :=
  zcalli (va_runV (As := []) (rest := rest) ⟨hx, hb, hml, hown, hts⟩ (c_X0_readCommand l D cy ad AL aK aV σ  h) (cwV 0 hts hG rfl rfl rfl (by decide +kernel) hR) (zpreVZ hj hK hw hZ hAL hsub hS _ (i := 3) (ci := 0) (by decide) rfl rfl) rfl rfl hsz rfl (lv_room hrest) hdg hcs) hA hS kk
def wb_X0_readText_16 (K41 : ST → Prop) (K63 : ST → Prop) (LL : ST → Int32 → Prop)  (t_16 : ST) (y1_16 : Int32) : Prop :=
  (((jI 150) ≤ y1_16 → K63 t_16) ∧ (¬ (jI 150) ≤ y1_16 → (((t_16.2 42) ≤ (t_16.2 43) → K63 t_16) ∧ (¬ (t_16.2 42) ≤ (t_16.2 43) → wp_X0_readCommand t_16 (fun r1 s4 => ((r1 = (jI 0) → K41 s4) ∧ (¬ r1 = (jI 0) → (∀ s5 : ST, s5 = zsp s4 44 ((s4.2 44) + (jI 1)) → wp_X0_skipSpaces s5 (fun s6 => (∀ x1 : Int32, x1 = y1_16 + (jI 1) → LL s6 x1))))))))))
def wl_X0_readText_16 (K41 : ST → Prop) (K63 : ST → Prop)  : Nat → ST → Int32 → Prop
  | 0 => fun _ _ => False
  | nn + 1 => wb_X0_readText_16 K41 K63 (wl_X0_readText_16 K41 K63  nn) 
def wp_X0_readText (σ : ST)  (Q : Int32 → ST → Prop) : Prop :=
  (∀ s1 : ST, s1 = zsp σ 43 (jI 0) → (∀ s2 : ST, s2 = zsp s1 44 (jI 0) → wp_X0_skipSpaces s2 (fun s3 => (∃ nn : Nat, wl_X0_readText_16 (fun u_41 => Q (jI 0) u_41) (fun u_63 => Q (jI 1) u_63)  nn s3 (jI 0)))))
set_option maxHeartbeats 4000000 in
set_option maxRecDepth 100000 in
theorem c_X0_readText (l : Launch) (D : va_G) (cy : cyT) (ad : Nat → Nat) (AL : Nat → Prop) (aK aV : Nat → Nat) (σ : ST) {Q : Int32 → ST → Prop} (h : wp_X0_readText σ Q) : Met l yX0_readText wsX0_readText ({ frames := 7, cells := 0, slots := 0, locals := 156 } : Room) (zPreZ D cy 116 (zce cy ad σ) ad AL aK aV [.ref (ad 3)]) (va_Qi Q (zB D 116 (zce cy ad) ad) (zA 116 ad)) 0 0 (zA 116 ad) := by
  refine Met.ofW (cc := cX0_readText) (maxL := 2) (ret := (some .boolean)) (by decide) rfl ?_
  intro p e s m args below meth c s₁ B hml hv
  obtain ⟨rfl, hj, hK, hw, hZ, hAL⟩ := hv
  have hsub : ∀ q, zA 116 ad q → AL q := fun q hq => by obtain ⟨i, hi, rfl⟩ := hq; exact hAL i hi
  have hx := B.exec
  have hb := B.bytes
  have hr := B.returns
  have hts := atoms_spec (ws := wsX0_readText) B.pre
  have hown : s.vm.findClass RX0 = some m.cls := findClass_of_methodNamed B.named
  have hlocks := B.notSynchronized
  have lk0 : Cond.fieldLink RX0 24 "TypeTrays$Commands" "position" "I" ∈ wsX0_readText := List.mem_of_getElem? (i := 1) rfl
  have lk1 : Cond.fieldLink RX0 33 "TypeTrays$Commands" "count" "I" ∈ wsX0_readText := List.mem_of_getElem? (i := 2) rfl
  have lk2 : Cond.fieldLink RX0 20 "TypeTrays$Commands" "length" "I" ∈ wsX0_readText := List.mem_of_getElem? (i := 3) rfl
  have inX0 : ∀ w ∈ u_ws RX0 TX0 6, w ∈ wsX0_readText := zin_at 107 rfl
  have hS : va_S (zA 116 ad) s.heap s.heap [] := va_S.rf
  have hA : ∀ i, i < 116 → zA 116 ad (ad i) := fun i hi => ⟨i, hi, rfl⟩
  have hl := lv_entry ([.ref (ad 3)]) (n := 2) (Nat.le_of_ble_eq_true rfl)
  rw [lg_entry_eq]
  generalize (lg_sl ([.ref (ad 3)]) ++ List.replicate (2 - (lg_sl ([.ref (ad 3)])).length) Slot.unset).toArray = ls at hl ⊢
  have hl : lv_has ls 2 [(0, .ref (ad 3))] := hl
  show W p l e ({ frames := 7, cells := 0, slots := 0, locals := 156 } : Room) s m ([.ref (ad 3)] : List Value).toArray below meth c s.heap [] 0 0 (MQ below (va_Qi Q (zB D 116 (zce cy ad) ad) (zA 116 ad)) ([.ref (ad 3)] : List Value).toArray s 0 0 (zA 116 ad)) (F0 m 0 ls [])
  unfold wp_X0_readText at h
  refine lv_aload_n hx hb dX0_readText_0 rfl (lv_at hl 0 rfl) ?_
  refine lv_iconst (v := (jI 0)) hx hb dX0_readText_1 rfl ?_
  obtain ⟨s1, es1⟩ : ∃ y : ST, y = zsp σ 43 (jI 0) := ⟨_, rfl⟩
  have h := h s1 es1
  refine zput (ty := .int) hx hb hts inX0 tyX0 tyX0_ok nmX0 hown hK hj hw hA hS 3 (by decide) rfl rfl 2 (by decide) lk0 (fun _ h9 => h9) rfl (by decide +kernel) rfl rfl (Nat.le_of_ble_eq_true rfl) dX0_readText_2 (zce cy ad s1) (by rw [es1]; rfl) (fun j hj9 => by rw [es1]; exact zsp_off_C_43 j hj9) (fun H locs hw hS => ?_)
  refine lv_aload_n hx hb dX0_readText_5 rfl (lv_at hl 0 rfl) ?_
  refine lv_iconst (v := (jI 0)) hx hb dX0_readText_6 rfl ?_
  obtain ⟨s2, es2⟩ : ∃ y : ST, y = zsp s1 44 (jI 0) := ⟨_, rfl⟩
  have h := h s2 es2
  refine zput (ty := .int) hx hb hts inX0 tyX0 tyX0_ok nmX0 hown hK hj hw hA hS 3 (by decide) rfl rfl 5 (by decide) lk1 (fun _ h9 => h9) rfl (by decide +kernel) rfl rfl (Nat.le_of_ble_eq_true rfl) dX0_readText_7 (zce cy ad s2) (by rw [es2]; rfl) (fun j hj9 => by rw [es2]; exact zsp_off_C_44 j hj9) (fun H locs hw hS => ?_)
  refine lv_aload_n hx hb dX0_readText_10 rfl (lv_at hl 0 rfl) ?_
  refine k_X0_skipSpaces (rest := []) hx hb hml hown hts gX0_readText_X0_skipSpaces ⟨Nat.le_of_ble_eq_true rfl, Nat.le_of_ble_eq_true rfl⟩ ⟨Nat.zero_le _, Nat.zero_le _⟩ hK hj hw hA hS hl.1 (Nat.le_of_ble_eq_true rfl) dX0_readText_11 h (fun s3 H locs h hw hS => ?_)
  refine lv_iconst (v := (jI 0)) hx hb dX0_readText_14 rfl ?_
  refine lv_istore_n (lv' := [(1, .int (jI 0)), (0, .ref (ad 3))]) hx hb dX0_readText_15 rfl hl (by decide) rfl (fun ls hl => ?_)
  have k41_16 : ∀ (u_41 : ST) (H : Heap) (locs : List Loc), Q (jI 0) u_41 → zW D 116 (zce cy ad u_41) ad H → va_S (zA 116 ad) s.heap H locs → ∀ ls : Array Slot, lv_has ls 2 [] → W p l e ({ frames := 7, cells := 0, slots := 0, locals := 156 } : Room) s m ([.ref (ad 3)] : List Value).toArray below meth c H locs 0 0 (MQ below (va_Qi Q (zB D 116 (zce cy ad) ad) (zA 116 ad)) ([.ref (ad 3)] : List Value).toArray s 0 0 (zA 116 ad)) (F0 m 41 ls []) := by
    intro u_41 H locs h hw hS ls hl
    refine lv_iconst (v := (jI 0)) hx hb dX0_readText_41 rfl ?_
    exact W.zret (v := (jI 0)) (ty := .boolean) hx hb hr (by decide +kernel) (fun t ht hW => ⟨⟨_, _, rfl, h, zend hw ht⟩, hS.F ht⟩) hS.2.2 dX0_readText_42
  have k63_16 : ∀ (u_63 : ST) (H : Heap) (locs : List Loc), Q (jI 1) u_63 → zW D 116 (zce cy ad u_63) ad H → va_S (zA 116 ad) s.heap H locs → ∀ ls : Array Slot, lv_has ls 2 [] → W p l e ({ frames := 7, cells := 0, slots := 0, locals := 156 } : Room) s m ([.ref (ad 3)] : List Value).toArray below meth c H locs 0 0 (MQ below (va_Qi Q (zB D 116 (zce cy ad) ad) (zA 116 ad)) ([.ref (ad 3)] : List Value).toArray s 0 0 (zA 116 ad)) (F0 m 63 ls []) := by
    intro u_63 H locs h hw hS ls hl
    refine lv_iconst (v := (jI 1)) hx hb dX0_readText_63 rfl ?_
    exact W.zret (v := (jI 1)) (ty := .boolean) hx hb hr (by decide +kernel) (fun t ht hW => ⟨⟨_, _, rfl, h, zend hw ht⟩, hS.F ht⟩) hS.2.2 dX0_readText_64
  have lp16 : ∀ (nn16 : Nat) (t_16 : ST) (y1_16 : Int32) (H : Heap) (locs : List Loc), wl_X0_readText_16 (fun u_41 => Q (jI 0) u_41) (fun u_63 => Q (jI 1) u_63)  nn16 t_16 y1_16 → zW D 116 (zce cy ad t_16) ad H → va_S (zA 116 ad) s.heap H locs → ∀ ls : Array Slot, lv_has ls 2 [(0, .ref (ad 3)), (1, .int y1_16)] → W p l e ({ frames := 7, cells := 0, slots := 0, locals := 156 } : Room) s m ([.ref (ad 3)] : List Value).toArray below meth c H locs 0 0 (MQ below (va_Qi Q (zB D 116 (zce cy ad) ad) (zA 116 ad)) ([.ref (ad 3)] : List Value).toArray s 0 0 (zA 116 ad)) (F0 m 16 ls []) := by
    intro nn16
    induction nn16 with
    | zero => intro _ _ _ _ h; exact h.elim
    | succ nn16 ih16 =>
      intro t_16 y1_16 H locs h hw hS ls hl
      simp only [wl_X0_readText_16, wb_X0_readText_16] at h
      refine lv_iload_n hx hb dX0_readText_16 rfl (lv_at hl 1 rfl) ?_
      refine lv_sipush (v := (jI 150)) hx hb dX0_readText_17 (by decide +kernel) ?_
      refine lv_icmp_ge (tgt := 63) hx hb dX0_readText_20 (by decide) (fun c1 => ?_) (fun c1 => ?_)
      · have h := h.1 c1
        exact k63_16 _ _ _ h hw hS _ (lv_sub hl [] rfl)
      · have h := h.2 c1
        refine lv_aload_n hx hb dX0_readText_23 rfl (lv_at hl 0 rfl) ?_
        refine zget hx hb hts inX0 hown hK hw 3 (by decide) rfl rfl 2 (by decide) lk0 (fun _ h9 => h9) rfl dX0_readText_24 ?_
        refine lv_aload_n hx hb dX0_readText_27 rfl (lv_at hl 0 rfl) ?_
        refine zget hx hb hts inX0 hown hK hw 3 (by decide) rfl rfl 1 (by decide) lk2 (fun _ h9 => h9) rfl dX0_readText_28 ?_
        refine lv_icmp_ge (tgt := 63) hx hb dX0_readText_31 (by decide) (fun c2 => ?_) (fun c2 => ?_)
        · have h := h.1 c2
          exact k63_16 _ _ _ h hw hS _ (lv_sub hl [] rfl)
        · have h := h.2 c2
          refine lv_aload_n hx hb dX0_readText_34 rfl (lv_at hl 0 rfl) ?_
          refine k_X0_readCommand (rest := []) hx hb hml hown hts gX0_readText_X0_readCommand ⟨Nat.le_of_ble_eq_true rfl, Nat.le_of_ble_eq_true rfl⟩ ⟨Nat.zero_le _, Nat.zero_le _⟩ hK hj hw hZ hAL hsub hA hS hl.1 (Nat.le_of_ble_eq_true rfl) dX0_readText_35 h (fun r1 s4 H locs h hw hS => ?_)
          refine zif_ne (tgt := 43) hx hb dX0_readText_38 (by decide) (fun c3 => ?_) (fun c3 => ?_)
          · have h := h.2 c3
            refine lv_aload_n hx hb dX0_readText_43 rfl (lv_at hl 0 rfl) ?_
            refine lv_dup hx hb dX0_readText_44 rfl ?_
            refine zget hx hb hts inX0 hown hK hw 3 (by decide) rfl rfl 5 (by decide) lk1 (fun _ h9 => h9) rfl dX0_readText_45 ?_
            refine lv_iconst (v := (jI 1)) hx hb dX0_readText_48 rfl ?_
            refine lv_iadd hx hb dX0_readText_49 ?_
            obtain ⟨s5, es5⟩ : ∃ y : ST, y = zsp s4 44 ((s4.2 44) + (jI 1)) := ⟨_, rfl⟩
            have h := h s5 es5
            refine zput (ty := .int) hx hb hts inX0 tyX0 tyX0_ok nmX0 hown hK hj hw hA hS 3 (by decide) rfl rfl 5 (by decide) lk1 (fun _ h9 => h9) rfl (by decide +kernel) rfl rfl (Nat.le_of_ble_eq_true rfl) dX0_readText_50 (zce cy ad s5) (by rw [es5]; rfl) (fun j hj9 => by rw [es5]; exact zsp_off_C_44 j hj9) (fun H locs hw hS => ?_)
            refine lv_aload_n hx hb dX0_readText_53 rfl (lv_at hl 0 rfl) ?_
            refine k_X0_skipSpaces (rest := []) hx hb hml hown hts gX0_readText_X0_skipSpaces ⟨Nat.le_of_ble_eq_true rfl, Nat.le_of_ble_eq_true rfl⟩ ⟨Nat.zero_le _, Nat.zero_le _⟩ hK hj hw hA hS hl.1 (Nat.le_of_ble_eq_true rfl) dX0_readText_54 h (fun s6 H locs h hw hS => ?_)
            obtain ⟨x1, ex1⟩ : ∃ y : Int32, y = y1_16 + (jI 1) := ⟨_, rfl⟩
            have h := h x1 ex1
            refine lv_iinc (v := x1) (lv' := [(1, .int x1), (0, .ref (ad 3))]) hx hb dX0_readText_57 hl (k := 1) rfl (by rw [ex1]; rfl) (by decide) rfl (fun ls hl => ?_)
            refine lv_goto (tgt := 16) hx hb dX0_readText_60 (by decide) ?_
            exact ih16 _ _ _ _ h hw hS _ (lv_sub hl [1, 0] rfl)
          · have h := h.1 c3
            exact k41_16 _ _ _ h hw hS _ (lv_sub hl [] rfl)
  obtain ⟨nn16, h⟩ := h
  exact lp16 nn16 _ _ _ _ h hw hS _ (lv_sub hl [1, 0] rfl)
theorem k_X0_readText {p : Program} {l : Launch} {e : Env} {R : Room} {s : State} {m : MethodId} {args : Array Value} {below : List Frame} {meth : Method} {c : Code} {H : Heap} {locs : List Loc} {cells slots : Nat} {QQ : State → Prop} {cc : ByteArray} {pc nL index : Nat} {ls : Array Slot} {rest : List Value} {D : va_G} {cy : cyT} {ad : Nat → Nat} {own : String} {Ts : List Cond} {AL : Nat → Prop} {aK aV : Nat → Nat} {σ : ST}  {Q : Int32 → ST → Prop} (hx : p.tables.exec = Jvm.exec) (hb : c.code = cc) (hml : c.maxLocals = nL) (hown : s.vm.findClass own = some m.cls) (hts : ∀ w ∈ Ts, w.before args s = true) (hG : GoodIn Ts (wsV own index RX0 yX0_readText wsX0_readText)) (hR : 7 + 1 ≤ R.frames ∧ 8 + (2 + 11) + 156 ≤ R.locals) (hcs : cells ≤ R.cells ∧ slots ≤ R.slots) (hK : zK D cy s) (hj : zI 116 ad) (hw : zW D 116 (zce cy ad σ) ad H) {A0 : Nat → Prop} (hZ : zStr AL aK aV s) (hAL : ∀ i, i < 116 → AL (ad i)) (hsub : ∀ q, A0 q → AL q) (hA : ∀ i, i < 116 → A0 (ad i)) (hS : va_S A0 s.heap H locs) (hsz : ls.size = nL) (hrest : (rest.map fun v => v.category).sum ≤ 8) (hdg : decode cc pc = .ok (.invokevirtual index, 3)) (h : wp_X0_readText σ  Q) (kk : ∀ (r : Int32) (σ : ST) (H : Heap) (locs : List Loc), Q r σ → zW D 116 (zce cy ad σ) ad H → va_S A0 s.heap H locs → W p l e R s m args below meth c H locs cells slots QQ (F0 m (pc + 3) ls (.int r :: rest))) : W p l e R s m args below meth c H locs cells slots QQ (F0 m pc ls (.ref (ad 3) :: rest)) :=
  zcalli (va_runV (As := []) (rest := rest) ⟨hx, hb, hml, hown, hts⟩ (c_X0_readText l D cy ad AL aK aV σ  h) (cwV 0 hts hG rfl rfl rfl (by decide +kernel) hR) (zpreVZ hj hK hw hZ hAL hsub hS _ (i := 3) (ci := 0) (by decide) rfl rfl) rfl rfl hsz rfl (lv_room hrest) hdg hcs) hA hS kk
def wb_X6_runCommands_34 (K59 : ST → Int32 → Prop) (LL : ST → Int32 → Prop)  (t_34 : ST) (y1_34 : Int32) : Prop :=
  (((t_34.2 44) ≤ y1_34 → K59 t_34 y1_34) ∧ (¬ (t_34.2 44) ≤ y1_34 → wp_X6_carryOut t_34 y1_34 (fun r2 s3 => ((r2 = (jI 0) → K59 s3 y1_34) ∧ (¬ r2 = (jI 0) → (∀ x1 : Int32, x1 = y1_34 + (jI 1) → LL s3 x1))))))
def wl_X6_runCommands_34 (K59 : ST → Int32 → Prop)  : Nat → ST → Int32 → Prop
  | 0 => fun _ _ => False
  | nn + 1 => wb_X6_runCommands_34 K59 (wl_X6_runCommands_34 K59  nn) 
def wp_X6_runCommands (σ : ST)  (Q : Int32 → ST → Prop) : Prop :=
  wp_X0_readText σ (fun r1 s1 => ((r1 = (jI 0) → Q ((jI (-10)) - (s1.2 43)) s1) ∧ (¬ r1 = (jI 0) → wp_X5_push s1 (fun s2 => (∃ nn : Nat, wl_X6_runCommands_34 (fun u_59 z1_59 => Q z1_59 u_59)  nn s2 (jI 0))))))
set_option maxHeartbeats 4000000 in
set_option maxRecDepth 100000 in
theorem c_X6_runCommands (l : Launch) (D : va_G) (cy : cyT) (ad : Nat → Nat) (AL : Nat → Prop) (aK aV : Nat → Nat) (σ : ST) {Q : Int32 → ST → Prop} (h : wp_X6_runCommands σ Q) : Met l yX6_runCommands wsX6_runCommands ({ frames := 8, cells := 0, slots := 0, locals := 177 } : Room) (zPreZ D cy 116 (zce cy ad σ) ad AL aK aV [.ref (ad 0)]) (va_Qi Q (zB D 116 (zce cy ad) ad) (zA 116 ad)) 0 0 (zA 116 ad) := by
  refine Met.ofW (cc := cX6_runCommands) (maxL := 2) (ret := (some .int)) (by decide) rfl ?_
  intro p e s m args below meth c s₁ B hml hv
  obtain ⟨rfl, hj, hK, hw, hZ, hAL⟩ := hv
  have hsub : ∀ q, zA 116 ad q → AL q := fun q hq => by obtain ⟨i, hi, rfl⟩ := hq; exact hAL i hi
  have hx := B.exec
  have hb := B.bytes
  have hr := B.returns
  have hts := atoms_spec (ws := wsX6_runCommands) B.pre
  have hown : s.vm.findClass RX6 = some m.cls := findClass_of_methodNamed B.named
  have hlocks := B.notSynchronized
  have lk0 : Cond.fieldLink RX6 26 "TypeTrays" "commands" "LTypeTrays$Commands;" ∈ wsX6_runCommands := List.mem_of_getElem? (i := 1) rfl
  have lk1 : Cond.fieldLink RX6 19 "TypeTrays" "undoStack" "LTypeTrays$UndoStack;" ∈ wsX6_runCommands := List.mem_of_getElem? (i := 2) rfl
  have lk2 : Cond.fieldLink RX6 12 "TypeTrays" "state" "LTypeTrays$State;" ∈ wsX6_runCommands := List.mem_of_getElem? (i := 3) rfl
  have inX6 : ∀ w ∈ u_ws RX6 TX6 4, w ∈ wsX6_runCommands := zin_at 367 rfl
  have inX0 : ∀ w ∈ u_ws RX0 TX0 6, w ∈ wsX6_runCommands := zin_at 371 rfl
  have hS : va_S (zA 116 ad) s.heap s.heap [] := va_S.rf
  have hA : ∀ i, i < 116 → zA 116 ad (ad i) := fun i hi => ⟨i, hi, rfl⟩
  have hl := lv_entry ([.ref (ad 0)]) (n := 2) (Nat.le_of_ble_eq_true rfl)
  rw [lg_entry_eq]
  generalize (lg_sl ([.ref (ad 0)]) ++ List.replicate (2 - (lg_sl ([.ref (ad 0)])).length) Slot.unset).toArray = ls at hl ⊢
  have hl : lv_has ls 2 [(0, .ref (ad 0))] := hl
  show W p l e ({ frames := 8, cells := 0, slots := 0, locals := 177 } : Room) s m ([.ref (ad 0)] : List Value).toArray below meth c s.heap [] 0 0 (MQ below (va_Qi Q (zB D 116 (zce cy ad) ad) (zA 116 ad)) ([.ref (ad 0)] : List Value).toArray s 0 0 (zA 116 ad)) (F0 m 0 ls [])
  unfold wp_X6_runCommands at h
  refine lv_aload_n hx hb dX6_runCommands_0 rfl (lv_at hl 0 rfl) ?_
  refine zget hx hb hts inX6 hown hK hw 0 (by decide) rfl rfl 2 (by decide) lk0 (fun _ h9 => h9) rfl dX6_runCommands_1 ?_
  refine k_X0_readText (rest := []) hx hb hml hown hts gX6_runCommands_X0_readText ⟨Nat.le_of_ble_eq_true rfl, Nat.le_of_ble_eq_true rfl⟩ ⟨Nat.zero_le _, Nat.zero_le _⟩ hK hj hw hZ hAL hsub hA hS hl.1 (Nat.le_of_ble_eq_true rfl) dX6_runCommands_4 h (fun r1 s1 H locs h hw hS => ?_)
  refine zif_ne (tgt := 21) hx hb dX6_runCommands_7 (by decide) (fun c1 => ?_) (fun c1 => ?_)
  · have h := h.2 c1
    refine lv_aload_n hx hb dX6_runCommands_21 rfl (lv_at hl 0 rfl) ?_
    refine zget hx hb hts inX6 hown hK hw 0 (by decide) rfl rfl 1 (by decide) lk1 (fun _ h9 => h9) rfl dX6_runCommands_22 ?_
    refine lv_aload_n hx hb dX6_runCommands_25 rfl (lv_at hl 0 rfl) ?_
    refine zget hx hb hts inX6 hown hK hw 0 (by decide) rfl rfl 0 (by decide) lk2 (fun _ h9 => h9) rfl dX6_runCommands_26 ?_
    refine k_X5_push (rest := []) hx hb hml hown hts gX6_runCommands_X5_push ⟨Nat.le_of_ble_eq_true rfl, Nat.le_of_ble_eq_true rfl⟩ ⟨Nat.zero_le _, Nat.zero_le _⟩ hK hj hw hA hS hl.1 (Nat.le_of_ble_eq_true rfl) dX6_runCommands_29 h (fun s2 H locs h hw hS => ?_)
    refine lv_iconst (v := (jI 0)) hx hb dX6_runCommands_32 rfl ?_
    refine lv_istore_n (lv' := [(1, .int (jI 0)), (0, .ref (ad 0))]) hx hb dX6_runCommands_33 rfl hl (by decide) rfl (fun ls hl => ?_)
    have k59_34 : ∀ (u_59 : ST) (z1_59 : Int32) (H : Heap) (locs : List Loc), Q z1_59 u_59 → zW D 116 (zce cy ad u_59) ad H → va_S (zA 116 ad) s.heap H locs → ∀ ls : Array Slot, lv_has ls 2 [(1, .int z1_59)] → W p l e ({ frames := 8, cells := 0, slots := 0, locals := 177 } : Room) s m ([.ref (ad 0)] : List Value).toArray below meth c H locs 0 0 (MQ below (va_Qi Q (zB D 116 (zce cy ad) ad) (zA 116 ad)) ([.ref (ad 0)] : List Value).toArray s 0 0 (zA 116 ad)) (F0 m 59 ls []) := by
      intro u_59 z1_59 H locs h hw hS ls hl
      refine lv_iload_n hx hb dX6_runCommands_59 rfl (lv_at hl 0 rfl) ?_
      exact W.iret (v := z1_59) hx hb hr (fun t ht hW => ⟨⟨_, _, rfl, h, zend hw ht⟩, hS.F ht⟩) hS.2.2 dX6_runCommands_60
    have lp34 : ∀ (nn34 : Nat) (t_34 : ST) (y1_34 : Int32) (H : Heap) (locs : List Loc), wl_X6_runCommands_34 (fun u_59 z1_59 => Q z1_59 u_59)  nn34 t_34 y1_34 → zW D 116 (zce cy ad t_34) ad H → va_S (zA 116 ad) s.heap H locs → ∀ ls : Array Slot, lv_has ls 2 [(0, .ref (ad 0)), (1, .int y1_34)] → W p l e ({ frames := 8, cells := 0, slots := 0, locals := 177 } : Room) s m ([.ref (ad 0)] : List Value).toArray below meth c H locs 0 0 (MQ below (va_Qi Q (zB D 116 (zce cy ad) ad) (zA 116 ad)) ([.ref (ad 0)] : List Value).toArray s 0 0 (zA 116 ad)) (F0 m 34 ls []) := by
      intro nn34
      induction nn34 with
      | zero => intro _ _ _ _ h; exact h.elim
      | succ nn34 ih34 =>
        intro t_34 y1_34 H locs h hw hS ls hl
        simp only [wl_X6_runCommands_34, wb_X6_runCommands_34] at h
        refine lv_iload_n hx hb dX6_runCommands_34 rfl (lv_at hl 1 rfl) ?_
        refine lv_aload_n hx hb dX6_runCommands_35 rfl (lv_at hl 0 rfl) ?_
        refine zget hx hb hts inX6 hown hK hw 0 (by decide) rfl rfl 2 (by decide) lk0 (fun _ h9 => h9) rfl dX6_runCommands_36 ?_
        refine zgetN (own := RX6) (index := 164) (host := "TypeTrays") hx hb hts inX0 hown hK hw 3 (by decide) rfl rfl 5 (by decide) (by decide +kernel) (fun _ h9 => h9) rfl dX6_runCommands_39 ?_
        refine lv_icmp_ge (tgt := 59) hx hb dX6_runCommands_42 (by decide) (fun c2 => ?_) (fun c2 => ?_)
        · have h := h.1 c2
          exact k59_34 _ _ _ _ h hw hS _ (lv_sub hl [1] rfl)
        · have h := h.2 c2
          refine lv_aload_n hx hb dX6_runCommands_45 rfl (lv_at hl 0 rfl) ?_
          refine lv_iload_n hx hb dX6_runCommands_46 rfl (lv_at hl 1 rfl) ?_
          refine k_X6_carryOut (rest := []) hx hb hml hown hts gX6_runCommands_X6_carryOut ⟨Nat.le_of_ble_eq_true rfl, Nat.le_of_ble_eq_true rfl⟩ ⟨Nat.zero_le _, Nat.zero_le _⟩ hK hj hw hA hS hl.1 (Nat.le_of_ble_eq_true rfl) dX6_runCommands_47 h (fun r2 s3 H locs h hw hS => ?_)
          refine zif_eq (tgt := 59) hx hb dX6_runCommands_50 (by decide) (fun c3 => ?_) (fun c3 => ?_)
          · have h := h.1 c3
            exact k59_34 _ _ _ _ h hw hS _ (lv_sub hl [1] rfl)
          · have h := h.2 c3
            obtain ⟨x1, ex1⟩ : ∃ y : Int32, y = y1_34 + (jI 1) := ⟨_, rfl⟩
            have h := h x1 ex1
            refine lv_iinc (v := x1) (lv' := [(1, .int x1), (0, .ref (ad 0))]) hx hb dX6_runCommands_53 hl (k := 1) rfl (by rw [ex1]; rfl) (by decide) rfl (fun ls hl => ?_)
            refine lv_goto (tgt := 34) hx hb dX6_runCommands_56 (by decide) ?_
            exact ih34 _ _ _ _ h hw hS _ (lv_sub hl [1, 0] rfl)
    obtain ⟨nn34, h⟩ := h
    exact lp34 nn34 _ _ _ _ h hw hS _ (lv_sub hl [1, 0] rfl)
  · have h := h.1 c1
    refine lv_bipush (v := (jI (-10))) hx hb dX6_runCommands_10 (by decide +kernel) ?_
    refine lv_aload_n hx hb dX6_runCommands_12 rfl (lv_at hl 0 rfl) ?_
    refine zget hx hb hts inX6 hown hK hw 0 (by decide) rfl rfl 2 (by decide) lk0 (fun _ h9 => h9) rfl dX6_runCommands_13 ?_
    refine zgetN (own := RX6) (index := 161) (host := "TypeTrays") hx hb hts inX0 hown hK hw 3 (by decide) rfl rfl 2 (by decide) (by decide +kernel) (fun _ h9 => h9) rfl dX6_runCommands_16 ?_
    refine lv_isub hx hb dX6_runCommands_19 ?_
    exact W.iret (v := ((jI (-10)) - (s1.2 43))) hx hb hr (fun t ht hW => ⟨⟨_, _, rfl, h, zend hw ht⟩, hS.F ht⟩) hS.2.2 dX6_runCommands_20
theorem k_X6_runCommands {p : Program} {l : Launch} {e : Env} {R : Room} {s : State} {m : MethodId} {args : Array Value} {below : List Frame} {meth : Method} {c : Code} {H : Heap} {locs : List Loc} {cells slots : Nat} {QQ : State → Prop} {cc : ByteArray} {pc nL index : Nat} {ls : Array Slot} {rest : List Value} {D : va_G} {cy : cyT} {ad : Nat → Nat} {own : String} {Ts : List Cond} {AL : Nat → Prop} {aK aV : Nat → Nat} {σ : ST}  {Q : Int32 → ST → Prop} (hx : p.tables.exec = Jvm.exec) (hb : c.code = cc) (hml : c.maxLocals = nL) (hown : s.vm.findClass own = some m.cls) (hts : ∀ w ∈ Ts, w.before args s = true) (hG : GoodIn Ts (wsV own index RX6 yX6_runCommands wsX6_runCommands)) (hR : 8 + 1 ≤ R.frames ∧ 8 + (2 + 11) + 177 ≤ R.locals) (hcs : cells ≤ R.cells ∧ slots ≤ R.slots) (hK : zK D cy s) (hj : zI 116 ad) (hw : zW D 116 (zce cy ad σ) ad H) {A0 : Nat → Prop} (hZ : zStr AL aK aV s) (hAL : ∀ i, i < 116 → AL (ad i)) (hsub : ∀ q, A0 q → AL q) (hA : ∀ i, i < 116 → A0 (ad i)) (hS : va_S A0 s.heap H locs) (hsz : ls.size = nL) (hrest : (rest.map fun v => v.category).sum ≤ 8) (hdg : decode cc pc = .ok (.invokevirtual index, 3)) (h : wp_X6_runCommands σ  Q) (kk : ∀ (r : Int32) (σ : ST) (H : Heap) (locs : List Loc), Q r σ → zW D 116 (zce cy ad σ) ad H → va_S A0 s.heap H locs → W p l e R s m args below meth c H locs cells slots QQ (F0 m (pc + 3) ls (.int r :: rest))) : W p l e R s m args below meth c H locs cells slots QQ (F0 m pc ls (.ref (ad 0) :: rest)) :=
  zcalli (va_runV (As := []) (rest := rest) ⟨hx, hb, hml, hown, hts⟩ (c_X6_runCommands l D cy ad AL aK aV σ  h) (cwV 0 hts hG rfl rfl rfl (by decide +kernel) hR) (zpreVZ hj hK hw hZ hAL hsub hS _ (i := 0) (ci := 5) (by decide) rfl rfl) rfl rfl hsz rfl (lv_room hrest) hdg hcs) hA hS kk
theorem last_12 : True := trivial
