/-! printed by wip/whole/gen.py: contracts -/
set_option maxHeartbeats 4000000 in
set_option maxRecDepth 100000 in
theorem c_X4_cutSign (l : Launch) (D : va_G) (cy : cyT) (ad : Nat → Nat) (σ : ST) (p0 : Int32) (p1 : Int32) (p2 : Int32) {Q : Int32 → ST → Prop} (h : wp_X4_cutSign σ p0 p1 p2 Q) : Met l yX4_cutSign wsX4_cutSign ({ frames := 2, cells := 0, slots := 0, locals := 46 } : Room) (zPre D cy 116 (zce cy ad σ) ad [.ref (ad 5), .int p0, .int p1, .int p2]) (va_Qi Q (zB D 116 (zce cy ad) ad) (zA 116 ad)) 0 0 (zA 116 ad) := by
  refine Met.ofW (cc := cX4_cutSign) (maxL := 7) (ret := (some .int)) (by decide) rfl ?_
  intro p e s m args below meth c s₁ B hml hv
  obtain ⟨rfl, hj, hK, hw⟩ := hv
  have hx := B.exec
  have hb := B.bytes
  have hr := B.returns
  have hts := atoms_spec (ws := wsX4_cutSign) B.pre
  have hown : s.vm.findClass RX4 = some m.cls := findClass_of_methodNamed B.named
  have hlocks := B.notSynchronized
  have lk0 : Cond.fieldLink RX4 14 "TypeTrays$State" "signWidths" "LTypeTrays$Row;" ∈ wsX4_cutSign := List.mem_of_getElem? (i := 1) rfl
  have lk1 : Cond.fieldLink RX4 20 "TypeTrays$State" "signHeights" "LTypeTrays$Row;" ∈ wsX4_cutSign := List.mem_of_getElem? (i := 2) rfl
  have inX4 : ∀ w ∈ u_ws RX4 TX4 18, w ∈ wsX4_cutSign := zin_at 26 rfl
  have hS : va_S (zA 116 ad) s.heap s.heap [] := va_S.rf
  have hA : ∀ i, i < 116 → zA 116 ad (ad i) := fun i hi => ⟨i, hi, rfl⟩
  have hl := lv_entry ([.ref (ad 5), .int p0, .int p1, .int p2]) (n := 7) (Nat.le_of_ble_eq_true rfl)
  rw [lg_entry_eq]
  generalize (lg_sl ([.ref (ad 5), .int p0, .int p1, .int p2]) ++ List.replicate (7 - (lg_sl ([.ref (ad 5), .int p0, .int p1, .int p2])).length) Slot.unset).toArray = ls at hl ⊢
  have hl : lv_has ls 7 [(0, .ref (ad 5)), (1, .int p0), (2, .int p1), (3, .int p2)] := hl
  show W p l e ({ frames := 2, cells := 0, slots := 0, locals := 46 } : Room) s m ([.ref (ad 5), .int p0, .int p1, .int p2] : List Value).toArray below meth c s.heap [] 0 0 (MQ below (va_Qi Q (zB D 116 (zce cy ad) ad) (zA 116 ad)) ([.ref (ad 5), .int p0, .int p1, .int p2] : List Value).toArray s 0 0 (zA 116 ad)) (F0 m 0 ls [])
  unfold wp_X4_cutSign at h
  refine lv_aload_n hx hb dX4_cutSign_0 rfl (lv_at hl 0 rfl) ?_
  refine zget hx hb hts inX4 hown hK hw 5 (by decide) rfl rfl 0 (by decide) lk0 (fun _ h9 => h9) rfl dX4_cutSign_1 ?_
  refine lv_iload_n hx hb dX4_cutSign_4 rfl (lv_at hl 1 rfl) ?_
  refine zcall_get (rest := []) hx hb hml hown hts gX4_cutSign_X3_get ⟨Nat.le_of_ble_eq_true rfl, Nat.le_of_ble_eq_true rfl⟩ ⟨Nat.zero_le _, Nat.zero_le _⟩ hK hj hw hA hS 0 (by decide) hl.1 (Nat.le_of_ble_eq_true rfl) dX4_cutSign_5 (fun H locs hw hS => ?_)
  refine lv_topi (fun v1 ev1 => ?_)
  have h := h v1 ev1
  refine lv_iload_n hx hb dX4_cutSign_8 rfl (lv_at hl 2 rfl) ?_
  refine lv_icmp_ne (tgt := 26) hx hb dX4_cutSign_9 (by decide) (fun c1 => ?_) (fun c1 => ?_)
  · have h := h.2 c1
    refine lv_aload_n hx hb dX4_cutSign_26 rfl (lv_at hl 0 rfl) ?_
    refine zget hx hb hts inX4 hown hK hw 5 (by decide) rfl rfl 0 (by decide) lk0 (fun _ h9 => h9) rfl dX4_cutSign_27 ?_
    refine lv_iload_n hx hb dX4_cutSign_30 rfl (lv_at hl 1 rfl) ?_
    refine lv_iload_n hx hb dX4_cutSign_31 rfl (lv_at hl 2 rfl) ?_
    obtain ⟨s1, es1⟩ : ∃ y : ST, y = zrs σ 0 p0 p1 := ⟨_, rfl⟩
    have h := h s1 es1
    refine zcall_put (rest := []) hx hb hml hown hts gX4_cutSign_X3_put ⟨Nat.le_of_ble_eq_true rfl, Nat.le_of_ble_eq_true rfl⟩ ⟨Nat.zero_le _, Nat.zero_le _⟩ hK hj hw hA hS 0 (by decide) hl.1 (Nat.le_of_ble_eq_true rfl) dX4_cutSign_32 (fun H locs hw hS => ?_)
    rw [← es1] at hw
    refine lv_aload_n hx hb dX4_cutSign_35 rfl (lv_at hl 0 rfl) ?_
    refine zget hx hb hts inX4 hown hK hw 5 (by decide) rfl rfl 1 (by decide) lk1 (fun _ h9 => h9) rfl dX4_cutSign_36 ?_
    refine lv_iload_n hx hb dX4_cutSign_39 rfl (lv_at hl 1 rfl) ?_
    refine lv_iload_n hx hb dX4_cutSign_40 rfl (lv_at hl 3 rfl) ?_
    obtain ⟨s2, es2⟩ : ∃ y : ST, y = zrs s1 1 p0 p2 := ⟨_, rfl⟩
    have h := h s2 es2
    refine zcall_put (rest := []) hx hb hml hown hts gX4_cutSign_X3_put ⟨Nat.le_of_ble_eq_true rfl, Nat.le_of_ble_eq_true rfl⟩ ⟨Nat.zero_le _, Nat.zero_le _⟩ hK hj hw hA hS 1 (by decide) hl.1 (Nat.le_of_ble_eq_true rfl) dX4_cutSign_41 (fun H locs hw hS => ?_)
    rw [← es2] at hw
    refine lv_iload_n hx hb dX4_cutSign_44 rfl (lv_at hl 1 rfl) ?_
    refine lv_bipush (v := (jI 9)) hx hb dX4_cutSign_45 (by decide +kernel) ?_
    refine lv_imul hx hb dX4_cutSign_47 ?_
    refine lv_topi (fun x1 ex1 => ?_)
    have h := h x1 ex1
    refine lv_istore (lv' := [(4, .int x1), (0, .ref (ad 5)), (1, .int p0), (2, .int p1), (3, .int p2)]) hx hb dX4_cutSign_48 hl (by decide) rfl (fun ls hl => ?_)
    refine lv_iconst (v := (jI 0)) hx hb dX4_cutSign_50 rfl ?_
    refine lv_istore (lv' := [(5, .int (jI 0)), (4, .int x1), (0, .ref (ad 5)), (1, .int p0), (2, .int p1), (3, .int p2)]) hx hb dX4_cutSign_51 hl (by decide) rfl (fun ls hl => ?_)
    refine lv_iload hx hb dX4_cutSign_53 (lv_at hl 1 rfl) ?_
    refine lv_istore (lv' := [(6, .int x1), (5, .int (jI 0)), (4, .int x1), (0, .ref (ad 5)), (1, .int p0), (2, .int p1), (3, .int p2)]) hx hb dX4_cutSign_55 hl (by decide) rfl (fun ls hl => ?_)
    have k91_57 : ∀ (u_91 : ST) (z5_91 : Int32) (H : Heap) (locs : List Loc), Q z5_91 u_91 → zW D 116 (zce cy ad u_91) ad H → va_S (zA 116 ad) s.heap H locs → ∀ ls : Array Slot, lv_has ls 7 [(5, .int z5_91)] → W p l e ({ frames := 2, cells := 0, slots := 0, locals := 46 } : Room) s m ([.ref (ad 5), .int p0, .int p1, .int p2] : List Value).toArray below meth c H locs 0 0 (MQ below (va_Qi Q (zB D 116 (zce cy ad) ad) (zA 116 ad)) ([.ref (ad 5), .int p0, .int p1, .int p2] : List Value).toArray s 0 0 (zA 116 ad)) (F0 m 91 ls []) := by
      intro u_91 z5_91 H locs h hw hS ls hl
      refine lv_iload hx hb dX4_cutSign_91 (lv_at hl 0 rfl) ?_
      exact W.iret (v := z5_91) hx hb hr (fun t ht hW => ⟨⟨_, _, rfl, h, zend hw ht⟩, hS.F ht⟩) hS.2.2 dX4_cutSign_93
    have lp57 : ∀ (nn57 : Nat) (t_57 : ST) (y5_57 : Int32) (y6_57 : Int32) (H : Heap) (locs : List Loc), wl_X4_cutSign_57 (fun u_91 z5_91 => Q z5_91 u_91) x1 nn57 t_57 y5_57 y6_57 → zW D 116 (zce cy ad t_57) ad H → va_S (zA 116 ad) s.heap H locs → ∀ ls : Array Slot, lv_has ls 7 [(0, .ref (ad 5)), (4, .int x1), (5, .int y5_57), (6, .int y6_57)] → W p l e ({ frames := 2, cells := 0, slots := 0, locals := 46 } : Room) s m ([.ref (ad 5), .int p0, .int p1, .int p2] : List Value).toArray below meth c H locs 0 0 (MQ below (va_Qi Q (zB D 116 (zce cy ad) ad) (zA 116 ad)) ([.ref (ad 5), .int p0, .int p1, .int p2] : List Value).toArray s 0 0 (zA 116 ad)) (F0 m 57 ls []) := by
      intro nn57
      induction nn57 with
      | zero => intro _ _ _ _ _ h; exact h.elim
      | succ nn57 ih57 =>
        intro t_57 y5_57 y6_57 H locs h hw hS ls hl
        simp only [wl_X4_cutSign_57, wb_X4_cutSign_57] at h
        refine lv_iload hx hb dX4_cutSign_57 (lv_at hl 3 rfl) ?_
        refine lv_iload hx hb dX4_cutSign_59 (lv_at hl 1 rfl) ?_
        refine lv_bipush (v := (jI 9)) hx hb dX4_cutSign_61 (by decide +kernel) ?_
        refine lv_iadd hx hb dX4_cutSign_63 ?_
        refine lv_icmp_ge (tgt := 91) hx hb dX4_cutSign_64 (by decide) (fun c2 => ?_) (fun c2 => ?_)
        · have h := h.1 c2
          exact k91_57 _ _ _ _ h hw hS _ (lv_sub hl [2] rfl)
        · have h := h.2 c2
          refine lv_aload_n hx hb dX4_cutSign_67 rfl (lv_at hl 0 rfl) ?_
          refine lv_iload hx hb dX4_cutSign_68 (lv_at hl 3 rfl) ?_
          refine k_X4_isThere (rest := []) hx hb hml hown hts gX4_cutSign_X4_isThere ⟨Nat.le_of_ble_eq_true rfl, Nat.le_of_ble_eq_true rfl⟩ ⟨Nat.zero_le _, Nat.zero_le _⟩ hK hj hw hA hS hl.1 (Nat.le_of_ble_eq_true rfl) dX4_cutSign_70 h (fun r1 s3 H locs h hw hS => ?_)
          refine zif_eq (tgt := 85) hx hb dX4_cutSign_73 (by decide) (fun c3 => ?_) (fun c3 => ?_)
          · have h := h.1 c3
            obtain ⟨x2, ex2⟩ : ∃ y : Int32, y = y6_57 + (jI 1) := ⟨_, rfl⟩
            have h := h x2 ex2
            refine lv_iinc (v := x2) (lv' := [(6, .int x2), (0, .ref (ad 5)), (4, .int x1), (5, .int y5_57)]) hx hb dX4_cutSign_85 hl (k := 3) rfl (by rw [ex2]; rfl) (by decide) rfl (fun ls hl => ?_)
            refine lv_goto (tgt := 57) hx hb dX4_cutSign_88 (by decide) ?_
            exact ih57 _ _ _ _ _ h hw hS _ (lv_sub hl [1, 2, 3, 0] rfl)
          · have h := h.2 c3
            refine lv_aload_n hx hb dX4_cutSign_76 rfl (lv_at hl 0 rfl) ?_
            refine lv_iload hx hb dX4_cutSign_77 (lv_at hl 3 rfl) ?_
            refine k_X4_takeAway (rest := []) hx hb hml hown hts gX4_cutSign_X4_takeAway ⟨Nat.le_of_ble_eq_true rfl, Nat.le_of_ble_eq_true rfl⟩ ⟨Nat.zero_le _, Nat.zero_le _⟩ hK hj hw hA hS hl.1 (Nat.le_of_ble_eq_true rfl) dX4_cutSign_79 h (fun s4 H locs h hw hS => ?_)
            obtain ⟨x3, ex3⟩ : ∃ y : Int32, y = y5_57 + (jI 1) := ⟨_, rfl⟩
            have h := h x3 ex3
            refine lv_iinc (v := x3) (lv' := [(5, .int x3), (0, .ref (ad 5)), (4, .int x1), (6, .int y6_57)]) hx hb dX4_cutSign_82 hl (k := 2) rfl (by rw [ex3]; rfl) (by decide) rfl (fun ls hl => ?_)
            obtain ⟨x4, ex4⟩ : ∃ y : Int32, y = y6_57 + (jI 1) := ⟨_, rfl⟩
            have h := h x4 ex4
            refine lv_iinc (v := x4) (lv' := [(6, .int x4), (5, .int x3), (0, .ref (ad 5)), (4, .int x1)]) hx hb dX4_cutSign_85 hl (k := 3) rfl (by rw [ex4]; rfl) (by decide) rfl (fun ls hl => ?_)
            refine lv_goto (tgt := 57) hx hb dX4_cutSign_88 (by decide) ?_
            exact ih57 _ _ _ _ _ h hw hS _ (lv_sub hl [2, 3, 1, 0] rfl)
    obtain ⟨nn57, h⟩ := h
    exact lp57 nn57 _ _ _ _ _ h hw hS _ (lv_sub hl [3, 2, 1, 0] rfl)
  · have h := h.1 c1
    refine lv_aload_n hx hb dX4_cutSign_12 rfl (lv_at hl 0 rfl) ?_
    refine zget hx hb hts inX4 hown hK hw 5 (by decide) rfl rfl 1 (by decide) lk1 (fun _ h9 => h9) rfl dX4_cutSign_13 ?_
    refine lv_iload_n hx hb dX4_cutSign_16 rfl (lv_at hl 1 rfl) ?_
    refine zcall_get (rest := []) hx hb hml hown hts gX4_cutSign_X3_get ⟨Nat.le_of_ble_eq_true rfl, Nat.le_of_ble_eq_true rfl⟩ ⟨Nat.zero_le _, Nat.zero_le _⟩ hK hj hw hA hS 1 (by decide) hl.1 (Nat.le_of_ble_eq_true rfl) dX4_cutSign_17 (fun H locs hw hS => ?_)
    refine lv_topi (fun v2 ev2 => ?_)
    have h := h v2 ev2
    refine lv_iload_n hx hb dX4_cutSign_20 rfl (lv_at hl 3 rfl) ?_
    refine lv_icmp_ne (tgt := 26) hx hb dX4_cutSign_21 (by decide) (fun c4 => ?_) (fun c4 => ?_)
    · have h := h.2 c4
      refine lv_aload_n hx hb dX4_cutSign_26 rfl (lv_at hl 0 rfl) ?_
      refine zget hx hb hts inX4 hown hK hw 5 (by decide) rfl rfl 0 (by decide) lk0 (fun _ h9 => h9) rfl dX4_cutSign_27 ?_
      refine lv_iload_n hx hb dX4_cutSign_30 rfl (lv_at hl 1 rfl) ?_
      refine lv_iload_n hx hb dX4_cutSign_31 rfl (lv_at hl 2 rfl) ?_
      obtain ⟨s5, es5⟩ : ∃ y : ST, y = zrs σ 0 p0 p1 := ⟨_, rfl⟩
      have h := h s5 es5
      refine zcall_put (rest := []) hx hb hml hown hts gX4_cutSign_X3_put ⟨Nat.le_of_ble_eq_true rfl, Nat.le_of_ble_eq_true rfl⟩ ⟨Nat.zero_le _, Nat.zero_le _⟩ hK hj hw hA hS 0 (by decide) hl.1 (Nat.le_of_ble_eq_true rfl) dX4_cutSign_32 (fun H locs hw hS => ?_)
      rw [← es5] at hw
      refine lv_aload_n hx hb dX4_cutSign_35 rfl (lv_at hl 0 rfl) ?_
      refine zget hx hb hts inX4 hown hK hw 5 (by decide) rfl rfl 1 (by decide) lk1 (fun _ h9 => h9) rfl dX4_cutSign_36 ?_
      refine lv_iload_n hx hb dX4_cutSign_39 rfl (lv_at hl 1 rfl) ?_
      refine lv_iload_n hx hb dX4_cutSign_40 rfl (lv_at hl 3 rfl) ?_
      obtain ⟨s6, es6⟩ : ∃ y : ST, y = zrs s5 1 p0 p2 := ⟨_, rfl⟩
      have h := h s6 es6
      refine zcall_put (rest := []) hx hb hml hown hts gX4_cutSign_X3_put ⟨Nat.le_of_ble_eq_true rfl, Nat.le_of_ble_eq_true rfl⟩ ⟨Nat.zero_le _, Nat.zero_le _⟩ hK hj hw hA hS 1 (by decide) hl.1 (Nat.le_of_ble_eq_true rfl) dX4_cutSign_41 (fun H locs hw hS => ?_)
      rw [← es6] at hw
      refine lv_iload_n hx hb dX4_cutSign_44 rfl (lv_at hl 1 rfl) ?_
      refine lv_bipush (v := (jI 9)) hx hb dX4_cutSign_45 (by decide +kernel) ?_
      refine lv_imul hx hb dX4_cutSign_47 ?_
      refine lv_topi (fun x5 ex5 => ?_)
      have h := h x5 ex5
      refine lv_istore (lv' := [(4, .int x5), (0, .ref (ad 5)), (1, .int p0), (2, .int p1), (3, .int p2)]) hx hb dX4_cutSign_48 hl (by decide) rfl (fun ls hl => ?_)
      refine lv_iconst (v := (jI 0)) hx hb dX4_cutSign_50 rfl ?_
      refine lv_istore (lv' := [(5, .int (jI 0)), (4, .int x5), (0, .ref (ad 5)), (1, .int p0), (2, .int p1), (3, .int p2)]) hx hb dX4_cutSign_51 hl (by decide) rfl (fun ls hl => ?_)
      refine lv_iload hx hb dX4_cutSign_53 (lv_at hl 1 rfl) ?_
      refine lv_istore (lv' := [(6, .int x5), (5, .int (jI 0)), (4, .int x5), (0, .ref (ad 5)), (1, .int p0), (2, .int p1), (3, .int p2)]) hx hb dX4_cutSign_55 hl (by decide) rfl (fun ls hl => ?_)
      have k91_57 : ∀ (u_91 : ST) (z5_91 : Int32) (H : Heap) (locs : List Loc), Q z5_91 u_91 → zW D 116 (zce cy ad u_91) ad H → va_S (zA 116 ad) s.heap H locs → ∀ ls : Array Slot, lv_has ls 7 [(5, .int z5_91)] → W p l e ({ frames := 2, cells := 0, slots := 0, locals := 46 } : Room) s m ([.ref (ad 5), .int p0, .int p1, .int p2] : List Value).toArray below meth c H locs 0 0 (MQ below (va_Qi Q (zB D 116 (zce cy ad) ad) (zA 116 ad)) ([.ref (ad 5), .int p0, .int p1, .int p2] : List Value).toArray s 0 0 (zA 116 ad)) (F0 m 91 ls []) := by
        intro u_91 z5_91 H locs h hw hS ls hl
        refine lv_iload hx hb dX4_cutSign_91 (lv_at hl 0 rfl) ?_
        exact W.iret (v := z5_91) hx hb hr (fun t ht hW => ⟨⟨_, _, rfl, h, zend hw ht⟩, hS.F ht⟩) hS.2.2 dX4_cutSign_93
      have lp57 : ∀ (nn57 : Nat) (t_57 : ST) (y5_57 : Int32) (y6_57 : Int32) (H : Heap) (locs : List Loc), wl_X4_cutSign_57 (fun u_91 z5_91 => Q z5_91 u_91) x5 nn57 t_57 y5_57 y6_57 → zW D 116 (zce cy ad t_57) ad H → va_S (zA 116 ad) s.heap H locs → ∀ ls : Array Slot, lv_has ls 7 [(0, .ref (ad 5)), (4, .int x5), (5, .int y5_57), (6, .int y6_57)] → W p l e ({ frames := 2, cells := 0, slots := 0, locals := 46 } : Room) s m ([.ref (ad 5), .int p0, .int p1, .int p2] : List Value).toArray below meth c H locs 0 0 (MQ below (va_Qi Q (zB D 116 (zce cy ad) ad) (zA 116 ad)) ([.ref (ad 5), .int p0, .int p1, .int p2] : List Value).toArray s 0 0 (zA 116 ad)) (F0 m 57 ls []) := by
        intro nn57
        induction nn57 with
        | zero => intro _ _ _ _ _ h; exact h.elim
        | succ nn57 ih57 =>
          intro t_57 y5_57 y6_57 H locs h hw hS ls hl
          simp only [wl_X4_cutSign_57, wb_X4_cutSign_57] at h
          refine lv_iload hx hb dX4_cutSign_57 (lv_at hl 3 rfl) ?_
          refine lv_iload hx hb dX4_cutSign_59 (lv_at hl 1 rfl) ?_
          refine lv_bipush (v := (jI 9)) hx hb dX4_cutSign_61 (by decide +kernel) ?_
          refine lv_iadd hx hb dX4_cutSign_63 ?_
          refine lv_icmp_ge (tgt := 91) hx hb dX4_cutSign_64 (by decide) (fun c5 => ?_) (fun c5 => ?_)
          · have h := h.1 c5
            exact k91_57 _ _ _ _ h hw hS _ (lv_sub hl [2] rfl)
          · have h := h.2 c5
            refine lv_aload_n hx hb dX4_cutSign_67 rfl (lv_at hl 0 rfl) ?_
            refine lv_iload hx hb dX4_cutSign_68 (lv_at hl 3 rfl) ?_
            refine k_X4_isThere (rest := []) hx hb hml hown hts gX4_cutSign_X4_isThere ⟨Nat.le_of_ble_eq_true rfl, Nat.le_of_ble_eq_true rfl⟩ ⟨Nat.zero_le _, Nat.zero_le _⟩ hK hj hw hA hS hl.1 (Nat.le_of_ble_eq_true rfl) dX4_cutSign_70 h (fun r2 s7 H locs h hw hS => ?_)
            refine zif_eq (tgt := 85) hx hb dX4_cutSign_73 (by decide) (fun c6 => ?_) (fun c6 => ?_)
            · have h := h.1 c6
              obtain ⟨x6, ex6⟩ : ∃ y : Int32, y = y6_57 + (jI 1) := ⟨_, rfl⟩
              have h := h x6 ex6
              refine lv_iinc (v := x6) (lv' := [(6, .int x6), (0, .ref (ad 5)), (4, .int x5), (5, .int y5_57)]) hx hb dX4_cutSign_85 hl (k := 3) rfl (by rw [ex6]; rfl) (by decide) rfl (fun ls hl => ?_)
              refine lv_goto (tgt := 57) hx hb dX4_cutSign_88 (by decide) ?_
              exact ih57 _ _ _ _ _ h hw hS _ (lv_sub hl [1, 2, 3, 0] rfl)
            · have h := h.2 c6
              refine lv_aload_n hx hb dX4_cutSign_76 rfl (lv_at hl 0 rfl) ?_
              refine lv_iload hx hb dX4_cutSign_77 (lv_at hl 3 rfl) ?_
              refine k_X4_takeAway (rest := []) hx hb hml hown hts gX4_cutSign_X4_takeAway ⟨Nat.le_of_ble_eq_true rfl, Nat.le_of_ble_eq_true rfl⟩ ⟨Nat.zero_le _, Nat.zero_le _⟩ hK hj hw hA hS hl.1 (Nat.le_of_ble_eq_true rfl) dX4_cutSign_79 h (fun s8 H locs h hw hS => ?_)
              obtain ⟨x7, ex7⟩ : ∃ y : Int32, y = y5_57 + (jI 1) := ⟨_, rfl⟩
              have h := h x7 ex7
              refine lv_iinc (v := x7) (lv' := [(5, .int x7), (0, .ref (ad 5)), (4, .int x5), (6, .int y6_57)]) hx hb dX4_cutSign_82 hl (k := 2) rfl (by rw [ex7]; rfl) (by decide) rfl (fun ls hl => ?_)
              obtain ⟨x8, ex8⟩ : ∃ y : Int32, y = y6_57 + (jI 1) := ⟨_, rfl⟩
              have h := h x8 ex8
              refine lv_iinc (v := x8) (lv' := [(6, .int x8), (5, .int x7), (0, .ref (ad 5)), (4, .int x5)]) hx hb dX4_cutSign_85 hl (k := 3) rfl (by rw [ex8]; rfl) (by decide) rfl (fun ls hl => ?_)
              refine lv_goto (tgt := 57) hx hb dX4_cutSign_88 (by decide) ?_
              exact ih57 _ _ _ _ _ h hw hS _ (lv_sub hl [2, 3, 1, 0] rfl)
      obtain ⟨nn57, h⟩ := h
      exact lp57 nn57 _ _ _ _ _ h hw hS _ (lv_sub hl [3, 2, 1, 0] rfl)
    · have h := h.1 c4
      refine lv_iconst (v := (jI 0)) hx hb dX4_cutSign_24 rfl ?_
      exact W.iret (v := (jI 0)) hx hb hr (fun t ht hW => ⟨⟨_, _, rfl, h, zend hw ht⟩, hS.F ht⟩) hS.2.2 dX4_cutSign_25
theorem k_X4_cutSign {p : Program} {l : Launch} {e : Env} {R : Room} {s : State} {m : MethodId} {args : Array Value} {below : List Frame} {meth : Method} {c : Code} {H : Heap} {locs : List Loc} {cells slots : Nat} {QQ : State → Prop} {cc : ByteArray} {pc nL index : Nat} {ls : Array Slot} {rest : List Value} {D : va_G} {cy : cyT} {ad : Nat → Nat} {own : String} {Ts : List Cond} {H0 : Heap} {σ : ST} {p0 : Int32} {p1 : Int32} {p2 : Int32} {Q : Int32 → ST → Prop} (hx : p.tables.exec = Jvm.exec) (hb : c.code = cc) (hml : c.maxLocals = nL) (hown : s.vm.findClass own = some m.cls) (hts : ∀ w ∈ Ts, w.before args s = true) (hG : GoodIn Ts (wsV own index RX4 yX4_cutSign wsX4_cutSign)) (hR : 2 + 1 ≤ R.frames ∧ 8 + (7 + 11) + 46 ≤ R.locals) (hcs : cells ≤ R.cells ∧ slots ≤ R.slots) (hK : zK D cy s) (hj : zI 116 ad) (hw : zW D 116 (zce cy ad σ) ad H) {A0 : Nat → Prop} (hA : ∀ i, i < 116 → A0 (ad i)) (hS : va_S A0 H0 H locs) (hsz : ls.size = nL) (hrest : (rest.map fun v => v.category).sum ≤ 8) (hdg : decode cc pc = .ok (.invokevirtual index, 3)) (h : wp_X4_cutSign σ p0 p1 p2 Q) (kk : ∀ (r : Int32) (σ : ST) (H : Heap) (locs : List Loc), Q r σ → zW D 116 (zce cy ad σ) ad H → va_S A0 H0 H locs → W p l e R s m args below meth c H locs cells slots QQ (F0 m (pc + 3) ls (.int r :: rest))) : W p l e R s m args below meth c H locs cells slots QQ (F0 m pc ls (.int p2 :: .int p1 :: .int p0 :: .ref (ad 5) :: rest)) :=
  zcalli (va_runV (As := [.int p0, .int p1, .int p2]) (rest := rest) ⟨hx, hb, hml, hown, hts⟩ (c_X4_cutSign l D cy ad σ p0 p1 p2 h) (cwV 3 hts hG rfl rfl rfl (by decide +kernel) hR) (zpreV hj hK hw _ (i := 5) (ci := 3) (by decide) rfl rfl) rfl rfl hsz rfl (lv_room hrest) hdg hcs) hA hS kk
set_option maxHeartbeats 4000000 in
set_option maxRecDepth 100000 in
theorem c_X4_areaOf (l : Launch) (D : va_G) (cy : cyT) (ad : Nat → Nat) (σ : ST) (p0 : Int32) {Q : Int32 → ST → Prop} (h : wp_X4_areaOf σ p0 Q) : Met l yX4_areaOf wsX4_areaOf ({ frames := 2, cells := 0, slots := 0, locals := 42 } : Room) (zPre D cy 116 (zce cy ad σ) ad [.ref (ad 5), .int p0]) (va_Qi Q (zB D 116 (zce cy ad) ad) (zA 116 ad)) 0 0 (zA 116 ad) := by
  refine Met.ofW (cc := cX4_areaOf) (maxL := 2) (ret := (some .int)) (by decide) rfl ?_
  intro p e s m args below meth c s₁ B hml hv
  obtain ⟨rfl, hj, hK, hw⟩ := hv
  have hx := B.exec
  have hb := B.bytes
  have hr := B.returns
  have hts := atoms_spec (ws := wsX4_areaOf) B.pre
  have hown : s.vm.findClass RX4 = some m.cls := findClass_of_methodNamed B.named
  have hlocks := B.notSynchronized
  have hS : va_S (zA 116 ad) s.heap s.heap [] := va_S.rf
  have hA : ∀ i, i < 116 → zA 116 ad (ad i) := fun i hi => ⟨i, hi, rfl⟩
  have hl := lv_entry ([.ref (ad 5), .int p0]) (n := 2) (Nat.le_of_ble_eq_true rfl)
  rw [lg_entry_eq]
  generalize (lg_sl ([.ref (ad 5), .int p0]) ++ List.replicate (2 - (lg_sl ([.ref (ad 5), .int p0])).length) Slot.unset).toArray = ls at hl ⊢
  have hl : lv_has ls 2 [(0, .ref (ad 5)), (1, .int p0)] := hl
  show W p l e ({ frames := 2, cells := 0, slots := 0, locals := 42 } : Room) s m ([.ref (ad 5), .int p0] : List Value).toArray below meth c s.heap [] 0 0 (MQ below (va_Qi Q (zB D 116 (zce cy ad) ad) (zA 116 ad)) ([.ref (ad 5), .int p0] : List Value).toArray s 0 0 (zA 116 ad)) (F0 m 0 ls [])
  unfold wp_X4_areaOf at h
  refine lv_aload_n hx hb dX4_areaOf_0 rfl (lv_at hl 0 rfl) ?_
  refine lv_iload_n hx hb dX4_areaOf_1 rfl (lv_at hl 1 rfl) ?_
  refine k_X4_widthOf (rest := []) hx hb hml hown hts gX4_areaOf_X4_widthOf ⟨Nat.le_of_ble_eq_true rfl, Nat.le_of_ble_eq_true rfl⟩ ⟨Nat.zero_le _, Nat.zero_le _⟩ hK hj hw hA hS hl.1 (Nat.le_of_ble_eq_true rfl) dX4_areaOf_2 h (fun r1 s1 H locs h hw hS => ?_)
  refine lv_aload_n hx hb dX4_areaOf_5 rfl (lv_at hl 0 rfl) ?_
  refine lv_iload_n hx hb dX4_areaOf_6 rfl (lv_at hl 1 rfl) ?_
  refine k_X4_heightOf (rest := [.int r1]) hx hb hml hown hts gX4_areaOf_X4_heightOf ⟨Nat.le_of_ble_eq_true rfl, Nat.le_of_ble_eq_true rfl⟩ ⟨Nat.zero_le _, Nat.zero_le _⟩ hK hj hw hA hS hl.1 (Nat.le_of_ble_eq_true rfl) dX4_areaOf_7 h (fun r2 s2 H locs h hw hS => ?_)
  refine lv_imul hx hb dX4_areaOf_10 ?_
  exact W.iret (v := (r1 * r2)) hx hb hr (fun t ht hW => ⟨⟨_, _, rfl, h, zend hw ht⟩, hS.F ht⟩) hS.2.2 dX4_areaOf_11
theorem k_X4_areaOf {p : Program} {l : Launch} {e : Env} {R : Room} {s : State} {m : MethodId} {args : Array Value} {below : List Frame} {meth : Method} {c : Code} {H : Heap} {locs : List Loc} {cells slots : Nat} {QQ : State → Prop} {cc : ByteArray} {pc nL index : Nat} {ls : Array Slot} {rest : List Value} {D : va_G} {cy : cyT} {ad : Nat → Nat} {own : String} {Ts : List Cond} {H0 : Heap} {σ : ST} {p0 : Int32} {Q : Int32 → ST → Prop} (hx : p.tables.exec = Jvm.exec) (hb : c.code = cc) (hml : c.maxLocals = nL) (hown : s.vm.findClass own = some m.cls) (hts : ∀ w ∈ Ts, w.before args s = true) (hG : GoodIn Ts (wsV own index RX4 yX4_areaOf wsX4_areaOf)) (hR : 2 + 1 ≤ R.frames ∧ 8 + (2 + 11) + 42 ≤ R.locals) (hcs : cells ≤ R.cells ∧ slots ≤ R.slots) (hK : zK D cy s) (hj : zI 116 ad) (hw : zW D 116 (zce cy ad σ) ad H) {A0 : Nat → Prop} (hA : ∀ i, i < 116 → A0 (ad i)) (hS : va_S A0 H0 H locs) (hsz : ls.size = nL) (hrest : (rest.map fun v => v.category).sum ≤ 8) (hdg : decode cc pc = .ok (.invokevirtual index, 3)) (h : wp_X4_areaOf σ p0 Q) (kk : ∀ (r : Int32) (σ : ST) (H : Heap) (locs : List Loc), Q r σ → zW D 116 (zce cy ad σ) ad H → va_S A0 H0 H locs → W p l e R s m args below meth c H locs cells slots QQ (F0 m (pc + 3) ls (.int r :: rest))) : W p l e R s m args below meth c H locs cells slots QQ (F0 m pc ls (.int p0 :: .ref (ad 5) :: rest)) :=
  zcalli (va_runV (As := [.int p0]) (rest := rest) ⟨hx, hb, hml, hown, hts⟩ (c_X4_areaOf l D cy ad σ p0 h) (cwV 1 hts hG rfl rfl rfl (by decide +kernel) hR) (zpreV hj hK hw _ (i := 5) (ci := 3) (by decide) rfl rfl) rfl rfl hsz rfl (lv_room hrest) hdg hcs) hA hS kk
set_option maxHeartbeats 4000000 in
set_option maxRecDepth 100000 in
theorem c_X4_inkFor (l : Launch) (D : va_G) (cy : cyT) (ad : Nat → Nat) (σ : ST) (p0 : Int32) {Q : Int32 → ST → Prop} (h : wp_X4_inkFor σ p0 Q) : Met l yX4_inkFor wsX4_inkFor ({ frames := 3, cells := 0, slots := 0, locals := 63 } : Room) (zPre D cy 116 (zce cy ad σ) ad [.ref (ad 5), .int p0]) (va_Qi Q (zB D 116 (zce cy ad) ad) (zA 116 ad)) 0 0 (zA 116 ad) := by
  refine Met.ofW (cc := cX4_inkFor) (maxL := 4) (ret := (some .int)) (by decide) rfl ?_
  intro p e s m args below meth c s₁ B hml hv
  obtain ⟨rfl, hj, hK, hw⟩ := hv
  have hx := B.exec
  have hb := B.bytes
  have hr := B.returns
  have hts := atoms_spec (ws := wsX4_inkFor) B.pre
  have hown : s.vm.findClass RX4 = some m.cls := findClass_of_methodNamed B.named
  have hlocks := B.notSynchronized
  have lk0 : Cond.static yX6_blurOf ∈ wsX4_inkFor := List.mem_of_getElem? (i := 1) rfl
  have lk1 : Cond.initialized RX6 ∈ wsX4_inkFor := List.mem_of_getElem? (i := 2) rfl
  have hS : va_S (zA 116 ad) s.heap s.heap [] := va_S.rf
  have hA : ∀ i, i < 116 → zA 116 ad (ad i) := fun i hi => ⟨i, hi, rfl⟩
  have hl := lv_entry ([.ref (ad 5), .int p0]) (n := 4) (Nat.le_of_ble_eq_true rfl)
  rw [lg_entry_eq]
  generalize (lg_sl ([.ref (ad 5), .int p0]) ++ List.replicate (4 - (lg_sl ([.ref (ad 5), .int p0])).length) Slot.unset).toArray = ls at hl ⊢
  have hl : lv_has ls 4 [(0, .ref (ad 5)), (1, .int p0)] := hl
  show W p l e ({ frames := 3, cells := 0, slots := 0, locals := 63 } : Room) s m ([.ref (ad 5), .int p0] : List Value).toArray below meth c s.heap [] 0 0 (MQ below (va_Qi Q (zB D 116 (zce cy ad) ad) (zA 116 ad)) ([.ref (ad 5), .int p0] : List Value).toArray s 0 0 (zA 116 ad)) (F0 m 0 ls [])
  unfold wp_X4_inkFor at h
  refine lv_iload_n hx hb dX4_inkFor_0 rfl (lv_at hl 1 rfl) ?_
  refine lv_iload_n hx hb dX4_inkFor_1 rfl (lv_at hl 1 rfl) ?_
  refine k_X6_blurOf_n (rest := [.int p0]) (own := RX4) (index := 140) hx hb hml hown hts gX4_inkFor_X6_blurOf_n140 lk0 lk1 (by decide +kernel) ⟨Nat.le_of_ble_eq_true rfl, Nat.le_of_ble_eq_true rfl⟩ ⟨Nat.zero_le _, Nat.zero_le _⟩ hK hj hw hA hS hl.1 (Nat.le_of_ble_eq_true rfl) dX4_inkFor_2 h (fun r1 s1 H locs h hw hS => ?_)
  refine lv_isub hx hb dX4_inkFor_5 ?_
  refine lv_topi (fun x1 ex1 => ?_)
  have h := h x1 ex1
  refine lv_istore_n (lv' := [(2, .int x1), (0, .ref (ad 5)), (1, .int p0)]) hx hb dX4_inkFor_6 rfl hl (by decide) rfl (fun ls hl => ?_)
  refine lv_aload_n hx hb dX4_inkFor_7 rfl (lv_at hl 1 rfl) ?_
  refine lv_iload_n hx hb dX4_inkFor_8 rfl (lv_at hl 2 rfl) ?_
  refine k_X4_areaOf (rest := []) hx hb hml hown hts gX4_inkFor_X4_areaOf ⟨Nat.le_of_ble_eq_true rfl, Nat.le_of_ble_eq_true rfl⟩ ⟨Nat.zero_le _, Nat.zero_le _⟩ hK hj hw hA hS hl.1 (Nat.le_of_ble_eq_true rfl) dX4_inkFor_9 h (fun r2 s2 H locs h hw hS => ?_)
  refine lv_istore_n (lv' := [(3, .int r2), (2, .int x1), (0, .ref (ad 5)), (1, .int p0)]) hx hb dX4_inkFor_12 rfl hl (by decide) rfl (fun ls hl => ?_)
  refine lv_iload_n hx hb dX4_inkFor_13 rfl (lv_at hl 3 rfl) ?_
  refine lv_iload_n hx hb dX4_inkFor_14 rfl (lv_at hl 1 rfl) ?_
  refine lv_icmp_eq (tgt := 32) hx hb dX4_inkFor_15 (by decide) (fun c1 => ?_) (fun c1 => ?_)
  · have h := h.1 c1
    refine lv_iload_n hx hb dX4_inkFor_32 rfl (lv_at hl 0 rfl) ?_
    exact W.iret (v := r2) hx hb hr (fun t ht hW => ⟨⟨_, _, rfl, h, zend hw ht⟩, hS.F ht⟩) hS.2.2 dX4_inkFor_33
  · have h := h.2 c1
    refine lv_aload_n hx hb dX4_inkFor_18 rfl (lv_at hl 2 rfl) ?_
    refine lv_iload_n hx hb dX4_inkFor_19 rfl (lv_at hl 1 rfl) ?_
    refine k_X4_isThere (rest := []) hx hb hml hown hts gX4_inkFor_X4_isThere ⟨Nat.le_of_ble_eq_true rfl, Nat.le_of_ble_eq_true rfl⟩ ⟨Nat.zero_le _, Nat.zero_le _⟩ hK hj hw hA hS hl.1 (Nat.le_of_ble_eq_true rfl) dX4_inkFor_20 h (fun r3 s3 H locs h hw hS => ?_)
    refine zif_eq (tgt := 32) hx hb dX4_inkFor_23 (by decide) (fun c2 => ?_) (fun c2 => ?_)
    · have h := h.1 c2
      refine lv_iload_n hx hb dX4_inkFor_32 rfl (lv_at hl 0 rfl) ?_
      exact W.iret (v := r2) hx hb hr (fun t ht hW => ⟨⟨_, _, rfl, h, zend hw ht⟩, hS.F ht⟩) hS.2.2 dX4_inkFor_33
    · have h := h.2 c2
      refine lv_iload_n hx hb dX4_inkFor_26 rfl (lv_at hl 0 rfl) ?_
      refine lv_iconst (v := (jI 2)) hx hb dX4_inkFor_27 rfl ?_
      refine lv_idiv hx hb dX4_inkFor_28 (by decide +kernel) ?_
      refine lv_goto (tgt := 33) hx hb dX4_inkFor_29 (by decide) ?_
      exact W.iret (v := (r2 / (jI 2))) hx hb hr (fun t ht hW => ⟨⟨_, _, rfl, h, zend hw ht⟩, hS.F ht⟩) hS.2.2 dX4_inkFor_33
theorem k_X4_inkFor {p : Program} {l : Launch} {e : Env} {R : Room} {s : State} {m : MethodId} {args : Array Value} {below : List Frame} {meth : Method} {c : Code} {H : Heap} {locs : List Loc} {cells slots : Nat} {QQ : State → Prop} {cc : ByteArray} {pc nL index : Nat} {ls : Array Slot} {rest : List Value} {D : va_G} {cy : cyT} {ad : Nat → Nat} {own : String} {Ts : List Cond} {H0 : Heap} {σ : ST} {p0 : Int32} {Q : Int32 → ST → Prop} (hx : p.tables.exec = Jvm.exec) (hb : c.code = cc) (hml : c.maxLocals = nL) (hown : s.vm.findClass own = some m.cls) (hts : ∀ w ∈ Ts, w.before args s = true) (hG : GoodIn Ts (wsV own index RX4 yX4_inkFor wsX4_inkFor)) (hR : 3 + 1 ≤ R.frames ∧ 8 + (4 + 11) + 63 ≤ R.locals) (hcs : cells ≤ R.cells ∧ slots ≤ R.slots) (hK : zK D cy s) (hj : zI 116 ad) (hw : zW D 116 (zce cy ad σ) ad H) {A0 : Nat → Prop} (hA : ∀ i, i < 116 → A0 (ad i)) (hS : va_S A0 H0 H locs) (hsz : ls.size = nL) (hrest : (rest.map fun v => v.category).sum ≤ 8) (hdg : decode cc pc = .ok (.invokevirtual index, 3)) (h : wp_X4_inkFor σ p0 Q) (kk : ∀ (r : Int32) (σ : ST) (H : Heap) (locs : List Loc), Q r σ → zW D 116 (zce cy ad σ) ad H → va_S A0 H0 H locs → W p l e R s m args below meth c H locs cells slots QQ (F0 m (pc + 3) ls (.int r :: rest))) : W p l e R s m args below meth c H locs cells slots QQ (F0 m pc ls (.int p0 :: .ref (ad 5) :: rest)) :=
  zcalli (va_runV (As := [.int p0]) (rest := rest) ⟨hx, hb, hml, hown, hts⟩ (c_X4_inkFor l D cy ad σ p0 h) (cwV 1 hts hG rfl rfl rfl (by decide +kernel) hR) (zpreV hj hK hw _ (i := 5) (ci := 3) (by decide) rfl rfl) rfl rfl hsz rfl (lv_room hrest) hdg hcs) hA hS kk
set_option maxHeartbeats 4000000 in
set_option maxRecDepth 100000 in
theorem c_X4_emptyShelf (l : Launch) (D : va_G) (cy : cyT) (ad : Nat → Nat) (σ : ST) (p0 : Int32) {Q : ST → Prop} (h : wp_X4_emptyShelf σ p0 Q) : Met l yX4_emptyShelf wsX4_emptyShelf ({ frames := 2, cells := 0, slots := 0, locals := 46 } : Room) (zPre D cy 116 (zce cy ad σ) ad [.ref (ad 5), .int p0]) (va_Qv Q (zB D 116 (zce cy ad) ad) (zA 116 ad)) 0 0 (zA 116 ad) := by
  refine Met.ofW (cc := cX4_emptyShelf) (maxL := 4) (ret := none) (by decide) rfl ?_
  intro p e s m args below meth c s₁ B hml hv
  obtain ⟨rfl, hj, hK, hw⟩ := hv
  have hx := B.exec
  have hb := B.bytes
  have hr := B.returns
  have hts := atoms_spec (ws := wsX4_emptyShelf) B.pre
  have hown : s.vm.findClass RX4 = some m.cls := findClass_of_methodNamed B.named
  have hlocks := B.notSynchronized
  have lk0 : Cond.fieldLink RX4 47 "TypeTrays$State" "presentCount" "I" ∈ wsX4_emptyShelf := List.mem_of_getElem? (i := 1) rfl
  have lk1 : Cond.fieldLink RX4 44 "TypeTrays$State" "present" "LTypeTrays$Row;" ∈ wsX4_emptyShelf := List.mem_of_getElem? (i := 2) rfl
  have lk2 : Cond.fieldLink RX4 26 "TypeTrays$State" "slots" "LTypeTrays$Row;" ∈ wsX4_emptyShelf := List.mem_of_getElem? (i := 3) rfl
  have inX4 : ∀ w ∈ u_ws RX4 TX4 18, w ∈ wsX4_emptyShelf := zin_at 20 rfl
  have hS : va_S (zA 116 ad) s.heap s.heap [] := va_S.rf
  have hA : ∀ i, i < 116 → zA 116 ad (ad i) := fun i hi => ⟨i, hi, rfl⟩
  have hl := lv_entry ([.ref (ad 5), .int p0]) (n := 4) (Nat.le_of_ble_eq_true rfl)
  rw [lg_entry_eq]
  generalize (lg_sl ([.ref (ad 5), .int p0]) ++ List.replicate (4 - (lg_sl ([.ref (ad 5), .int p0])).length) Slot.unset).toArray = ls at hl ⊢
  have hl : lv_has ls 4 [(0, .ref (ad 5)), (1, .int p0)] := hl
  show W p l e ({ frames := 2, cells := 0, slots := 0, locals := 46 } : Room) s m ([.ref (ad 5), .int p0] : List Value).toArray below meth c s.heap [] 0 0 (MQ below (va_Qv Q (zB D 116 (zce cy ad) ad) (zA 116 ad)) ([.ref (ad 5), .int p0] : List Value).toArray s 0 0 (zA 116 ad)) (F0 m 0 ls [])
  unfold wp_X4_emptyShelf at h
  refine lv_aload_n hx hb dX4_emptyShelf_0 rfl (lv_at hl 0 rfl) ?_
  refine zget hx hb hts inX4 hown hK hw 5 (by decide) rfl rfl 10 (by decide) lk0 (fun _ h9 => h9) rfl dX4_emptyShelf_1 ?_
  refine lv_iconst (v := (jI 1)) hx hb dX4_emptyShelf_4 rfl ?_
  refine lv_isub hx hb dX4_emptyShelf_5 ?_
  refine lv_topi (fun x1 ex1 => ?_)
  have h := h x1 ex1
  refine lv_istore_n (lv' := [(2, .int x1), (0, .ref (ad 5)), (1, .int p0)]) hx hb dX4_emptyShelf_6 rfl hl (by decide) rfl (fun ls hl => ?_)
  have k43_7 : ∀ (u_43 : ST) (H : Heap) (locs : List Loc), Q u_43 → zW D 116 (zce cy ad u_43) ad H → va_S (zA 116 ad) s.heap H locs → ∀ ls : Array Slot, lv_has ls 4 [] → W p l e ({ frames := 2, cells := 0, slots := 0, locals := 46 } : Room) s m ([.ref (ad 5), .int p0] : List Value).toArray below meth c H locs 0 0 (MQ below (va_Qv Q (zB D 116 (zce cy ad) ad) (zA 116 ad)) ([.ref (ad 5), .int p0] : List Value).toArray s 0 0 (zA 116 ad)) (F0 m 43 ls []) := by
    intro u_43 H locs h hw hS ls hl
    exact W.vret hx hb hr (fun t ht hW => ⟨⟨_, rfl, h, zend hw ht⟩, hS.F ht⟩) hS.2.2 dX4_emptyShelf_43
  have lp7 : ∀ (nn7 : Nat) (t_7 : ST) (y2_7 : Int32) (H : Heap) (locs : List Loc), wl_X4_emptyShelf_7 (fun u_43 => Q u_43) p0 nn7 t_7 y2_7 → zW D 116 (zce cy ad t_7) ad H → va_S (zA 116 ad) s.heap H locs → ∀ ls : Array Slot, lv_has ls 4 [(0, .ref (ad 5)), (1, .int p0), (2, .int y2_7)] → W p l e ({ frames := 2, cells := 0, slots := 0, locals := 46 } : Room) s m ([.ref (ad 5), .int p0] : List Value).toArray below meth c H locs 0 0 (MQ below (va_Qv Q (zB D 116 (zce cy ad) ad) (zA 116 ad)) ([.ref (ad 5), .int p0] : List Value).toArray s 0 0 (zA 116 ad)) (F0 m 7 ls []) := by
    intro nn7
    induction nn7 with
    | zero => intro _ _ _ _ h; exact h.elim
    | succ nn7 ih7 =>
      intro t_7 y2_7 H locs h hw hS ls hl
      simp only [wl_X4_emptyShelf_7, wb_X4_emptyShelf_7] at h
      refine lv_iload_n hx hb dX4_emptyShelf_7 rfl (lv_at hl 2 rfl) ?_
      refine zif_lt (tgt := 43) hx hb dX4_emptyShelf_8 (by decide) (fun c1 => ?_) (fun c1 => ?_)
      · have h := h.1 c1
        exact k43_7 _ _ _ h hw hS _ (lv_sub hl [] rfl)
      · have h := h.2 c1
        refine lv_aload_n hx hb dX4_emptyShelf_11 rfl (lv_at hl 0 rfl) ?_
        refine zget hx hb hts inX4 hown hK hw 5 (by decide) rfl rfl 9 (by decide) lk1 (fun _ h9 => h9) rfl dX4_emptyShelf_12 ?_
        refine lv_iload_n hx hb dX4_emptyShelf_15 rfl (lv_at hl 2 rfl) ?_
        refine zcall_get (rest := []) hx hb hml hown hts gX4_emptyShelf_X3_get ⟨Nat.le_of_ble_eq_true rfl, Nat.le_of_ble_eq_true rfl⟩ ⟨Nat.zero_le _, Nat.zero_le _⟩ hK hj hw hA hS 9 (by decide) hl.1 (Nat.le_of_ble_eq_true rfl) dX4_emptyShelf_16 (fun H locs hw hS => ?_)
        refine lv_topi (fun v1 ev1 => ?_)
        have h := h v1 ev1
        refine lv_istore_n (lv' := [(3, .int v1), (0, .ref (ad 5)), (1, .int p0), (2, .int y2_7)]) hx hb dX4_emptyShelf_19 rfl hl (by decide) rfl (fun ls hl => ?_)
        refine lv_aload_n hx hb dX4_emptyShelf_20 rfl (lv_at hl 1 rfl) ?_
        refine zget hx hb hts inX4 hown hK hw 5 (by decide) rfl rfl 3 (by decide) lk2 (fun _ h9 => h9) rfl dX4_emptyShelf_21 ?_
        refine lv_iload_n hx hb dX4_emptyShelf_24 rfl (lv_at hl 0 rfl) ?_
        refine zcall_get (rest := []) hx hb hml hown hts gX4_emptyShelf_X3_get ⟨Nat.le_of_ble_eq_true rfl, Nat.le_of_ble_eq_true rfl⟩ ⟨Nat.zero_le _, Nat.zero_le _⟩ hK hj hw hA hS 3 (by decide) hl.1 (Nat.le_of_ble_eq_true rfl) dX4_emptyShelf_25 (fun H locs hw hS => ?_)
        refine lv_topi (fun v2 ev2 => ?_)
        have h := h v2 ev2
        refine lv_iload_n hx hb dX4_emptyShelf_28 rfl (lv_at hl 2 rfl) ?_
        refine lv_icmp_ne (tgt := 37) hx hb dX4_emptyShelf_29 (by decide) (fun c2 => ?_) (fun c2 => ?_)
        · have h := h.2 c2
          obtain ⟨x2, ex2⟩ : ∃ y : Int32, y = y2_7 + (jI (-1)) := ⟨_, rfl⟩
          have h := h x2 ex2
          refine lv_iinc (v := x2) (lv' := [(2, .int x2), (3, .int v1), (0, .ref (ad 5)), (1, .int p0)]) hx hb dX4_emptyShelf_37 hl (k := 3) rfl (by rw [ex2]; rfl) (by decide) rfl (fun ls hl => ?_)
          refine lv_goto (tgt := 7) hx hb dX4_emptyShelf_40 (by decide) ?_
          exact ih7 _ _ _ _ h hw hS _ (lv_sub hl [2, 3, 0] rfl)
        · have h := h.1 c2
          refine lv_aload_n hx hb dX4_emptyShelf_32 rfl (lv_at hl 1 rfl) ?_
          refine lv_iload_n hx hb dX4_emptyShelf_33 rfl (lv_at hl 0 rfl) ?_
          refine k_X4_takeAway (rest := []) hx hb hml hown hts gX4_emptyShelf_X4_takeAway ⟨Nat.le_of_ble_eq_true rfl, Nat.le_of_ble_eq_true rfl⟩ ⟨Nat.zero_le _, Nat.zero_le _⟩ hK hj hw hA hS hl.1 (Nat.le_of_ble_eq_true rfl) dX4_emptyShelf_34 h (fun s1 H locs h hw hS => ?_)
          obtain ⟨x3, ex3⟩ : ∃ y : Int32, y = y2_7 + (jI (-1)) := ⟨_, rfl⟩
          have h := h x3 ex3
          refine lv_iinc (v := x3) (lv' := [(2, .int x3), (3, .int v1), (0, .ref (ad 5)), (1, .int p0)]) hx hb dX4_emptyShelf_37 hl (k := 3) rfl (by rw [ex3]; rfl) (by decide) rfl (fun ls hl => ?_)
          refine lv_goto (tgt := 7) hx hb dX4_emptyShelf_40 (by decide) ?_
          exact ih7 _ _ _ _ h hw hS _ (lv_sub hl [2, 3, 0] rfl)
  obtain ⟨nn7, h⟩ := h
  exact lp7 nn7 _ _ _ _ h hw hS _ (lv_sub hl [1, 2, 0] rfl)
theorem k_X4_emptyShelf {p : Program} {l : Launch} {e : Env} {R : Room} {s : State} {m : MethodId} {args : Array Value} {below : List Frame} {meth : Method} {c : Code} {H : Heap} {locs : List Loc} {cells slots : Nat} {QQ : State → Prop} {cc : ByteArray} {pc nL index : Nat} {ls : Array Slot} {rest : List Value} {D : va_G} {cy : cyT} {ad : Nat → Nat} {own : String} {Ts : List Cond} {H0 : Heap} {σ : ST} {p0 : Int32} {Q : ST → Prop} (hx : p.tables.exec = Jvm.exec) (hb : c.code = cc) (hml : c.maxLocals = nL) (hown : s.vm.findClass own = some m.cls) (hts : ∀ w ∈ Ts, w.before args s = true) (hG : GoodIn Ts (wsV own index RX4 yX4_emptyShelf wsX4_emptyShelf)) (hR : 2 + 1 ≤ R.frames ∧ 8 + (4 + 11) + 46 ≤ R.locals) (hcs : cells ≤ R.cells ∧ slots ≤ R.slots) (hK : zK D cy s) (hj : zI 116 ad) (hw : zW D 116 (zce cy ad σ) ad H) {A0 : Nat → Prop} (hA : ∀ i, i < 116 → A0 (ad i)) (hS : va_S A0 H0 H locs) (hsz : ls.size = nL) (hrest : (rest.map fun v => v.category).sum ≤ 8) (hdg : decode cc pc = .ok (.invokevirtual index, 3)) (h : wp_X4_emptyShelf σ p0 Q) (kk : ∀ (σ : ST) (H : Heap) (locs : List Loc), Q σ → zW D 116 (zce cy ad σ) ad H → va_S A0 H0 H locs → W p l e R s m args below meth c H locs cells slots QQ (F0 m (pc + 3) ls rest)) : W p l e R s m args below meth c H locs cells slots QQ (F0 m pc ls (.int p0 :: .ref (ad 5) :: rest)) :=
  zcallv (va_runV (As := [.int p0]) (rest := rest) ⟨hx, hb, hml, hown, hts⟩ (c_X4_emptyShelf l D cy ad σ p0 h) (cwV 1 hts hG rfl rfl rfl (by decide +kernel) hR) (zpreV hj hK hw _ (i := 5) (ci := 3) (by decide) rfl rfl) rfl rfl hsz rfl (lv_room hrest) hdg hcs) hA hS kk
set_option maxHeartbeats 4000000 in
set_option maxRecDepth 100000 in
theorem c_X4_makeLetter (l : Launch) (D : va_G) (cy : cyT) (ad : Nat → Nat) (σ : ST) (p0 : Int32) {Q : ST → Prop} (h : wp_X4_makeLetter σ p0 Q) : Met l yX4_makeLetter wsX4_makeLetter ({ frames := 4, cells := 0, slots := 0, locals := 86 } : Room) (zPre D cy 116 (zce cy ad σ) ad [.ref (ad 5), .int p0, .ref (ad 4)]) (va_Qv Q (zB D 116 (zce cy ad) ad) (zA 116 ad)) 0 0 (zA 116 ad) := by
  refine Met.ofW (cc := cX4_makeLetter) (maxL := 3) (ret := none) (by decide) rfl ?_
  intro p e s m args below meth c s₁ B hml hv
  obtain ⟨rfl, hj, hK, hw⟩ := hv
  have hx := B.exec
  have hb := B.bytes
  have hr := B.returns
  have hts := atoms_spec (ws := wsX4_makeLetter) B.pre
  have hown : s.vm.findClass RX4 = some m.cls := findClass_of_methodNamed B.named
  have hlocks := B.notSynchronized
  have lk0 : Cond.fieldLink RX4 69 "TypeTrays$State" "inked" "I" ∈ wsX4_makeLetter := List.mem_of_getElem? (i := 1) rfl
  have lk1 : Cond.fieldLink RX4 63 "TypeTrays$State" "made" "I" ∈ wsX4_makeLetter := List.mem_of_getElem? (i := 2) rfl
  have lk2 : Cond.fieldLink RX4 26 "TypeTrays$State" "slots" "LTypeTrays$Row;" ∈ wsX4_makeLetter := List.mem_of_getElem? (i := 4) rfl
  have lk3 : Cond.fieldLink RX4 29 "TypeTrays$State" "lefts" "LTypeTrays$Row;" ∈ wsX4_makeLetter := List.mem_of_getElem? (i := 5) rfl
  have lk4 : Cond.fieldLink RX4 32 "TypeTrays$State" "rights" "LTypeTrays$Row;" ∈ wsX4_makeLetter := List.mem_of_getElem? (i := 6) rfl
  have lk5 : Cond.fieldLink RX4 41 "TypeTrays$State" "useCounts" "LTypeTrays$Row;" ∈ wsX4_makeLetter := List.mem_of_getElem? (i := 7) rfl
  have lk6 : Cond.fieldLink RX4 44 "TypeTrays$State" "present" "LTypeTrays$Row;" ∈ wsX4_makeLetter := List.mem_of_getElem? (i := 8) rfl
  have lk7 : Cond.fieldLink RX4 47 "TypeTrays$State" "presentCount" "I" ∈ wsX4_makeLetter := List.mem_of_getElem? (i := 9) rfl
  have lk8 : Cond.fieldLink RX4 23 "TypeTrays$State" "shelfHeights" "LTypeTrays$Row;" ∈ wsX4_makeLetter := List.mem_of_getElem? (i := 3) rfl
  have inX4 : ∀ w ∈ u_ws RX4 TX4 18, w ∈ wsX4_makeLetter := zin_at 59 rfl
  have inX2 : ∀ w ∈ u_ws RX2 TX2 5, w ∈ wsX4_makeLetter := zin_at 77 rfl
  have hS : va_S (zA 116 ad) s.heap s.heap [] := va_S.rf
  have hA : ∀ i, i < 116 → zA 116 ad (ad i) := fun i hi => ⟨i, hi, rfl⟩
  have hl := lv_entry ([.ref (ad 5), .int p0, .ref (ad 4)]) (n := 3) (Nat.le_of_ble_eq_true rfl)
  rw [lg_entry_eq]
  generalize (lg_sl ([.ref (ad 5), .int p0, .ref (ad 4)]) ++ List.replicate (3 - (lg_sl ([.ref (ad 5), .int p0, .ref (ad 4)])).length) Slot.unset).toArray = ls at hl ⊢
  have hl : lv_has ls 3 [(0, .ref (ad 5)), (1, .int p0), (2, .ref (ad 4))] := hl
  show W p l e ({ frames := 4, cells := 0, slots := 0, locals := 86 } : Room) s m ([.ref (ad 5), .int p0, .ref (ad 4)] : List Value).toArray below meth c s.heap [] 0 0 (MQ below (va_Qv Q (zB D 116 (zce cy ad) ad) (zA 116 ad)) ([.ref (ad 5), .int p0, .ref (ad 4)] : List Value).toArray s 0 0 (zA 116 ad)) (F0 m 0 ls [])
  unfold wp_X4_makeLetter at h
  refine lv_aload_n hx hb dX4_makeLetter_0 rfl (lv_at hl 0 rfl) ?_
  refine lv_dup hx hb dX4_makeLetter_1 rfl ?_
  refine zget hx hb hts inX4 hown hK hw 5 (by decide) rfl rfl 17 (by decide) lk0 (fun _ h9 => h9) rfl dX4_makeLetter_2 ?_
  refine lv_aload_n hx hb dX4_makeLetter_5 rfl (lv_at hl 0 rfl) ?_
  refine lv_iload_n hx hb dX4_makeLetter_6 rfl (lv_at hl 1 rfl) ?_
  refine k_X4_inkFor (rest := [.int (σ.2 7), .ref (ad 5)]) hx hb hml hown hts gX4_makeLetter_X4_inkFor ⟨Nat.le_of_ble_eq_true rfl, Nat.le_of_ble_eq_true rfl⟩ ⟨Nat.zero_le _, Nat.zero_le _⟩ hK hj hw hA hS hl.1 (Nat.le_of_ble_eq_true rfl) dX4_makeLetter_7 h (fun r1 s1 H locs h hw hS => ?_)
  refine lv_iadd hx hb dX4_makeLetter_10 ?_
  obtain ⟨s2, es2⟩ : ∃ y : ST, y = zsp s1 7 ((σ.2 7) + r1) := ⟨_, rfl⟩
  have h := h s2 es2
  refine zput (ty := .int) hx hb hts inX4 tyX4 tyX4_ok nmX4 hown hK hj hw hA hS 5 (by decide) rfl rfl 17 (by decide) lk0 (fun _ h9 => h9) rfl (by decide +kernel) rfl rfl (Nat.le_of_ble_eq_true rfl) dX4_makeLetter_11 (zce cy ad s2) (by rw [es2]; rfl) (fun j hj9 => by rw [es2]; exact zsp_off_C_7 j hj9) (fun H locs hw hS => ?_)
  refine lv_aload_n hx hb dX4_makeLetter_14 rfl (lv_at hl 0 rfl) ?_
  refine lv_dup hx hb dX4_makeLetter_15 rfl ?_
  refine zget hx hb hts inX4 hown hK hw 5 (by decide) rfl rfl 15 (by decide) lk1 (fun _ h9 => h9) rfl dX4_makeLetter_16 ?_
  refine lv_iconst (v := (jI 1)) hx hb dX4_makeLetter_19 rfl ?_
  refine lv_iadd hx hb dX4_makeLetter_20 ?_
  obtain ⟨s3, es3⟩ : ∃ y : ST, y = zsp s2 5 ((s2.2 5) + (jI 1)) := ⟨_, rfl⟩
  have h := h s3 es3
  refine zput (ty := .int) hx hb hts inX4 tyX4 tyX4_ok nmX4 hown hK hj hw hA hS 5 (by decide) rfl rfl 15 (by decide) lk1 (fun _ h9 => h9) rfl (by decide +kernel) rfl rfl (Nat.le_of_ble_eq_true rfl) dX4_makeLetter_21 (zce cy ad s3) (by rw [es3]; rfl) (fun j hj9 => by rw [es3]; exact zsp_off_C_5 j hj9) (fun H locs hw hS => ?_)
  refine lv_aload_n hx hb dX4_makeLetter_24 rfl (lv_at hl 2 rfl) ?_
  refine zgetN (own := RX4) (index := 94) (host := "TypeTrays") hx hb hts inX2 hown hK hw 4 (by decide) rfl rfl 0 (by decide) (by decide +kernel) (fun _ h9 => h9) rfl dX4_makeLetter_25 ?_
  refine lv_iconst (v := (jI 2)) hx hb dX4_makeLetter_28 rfl ?_
  refine lv_icmp_ne (tgt := 48) hx hb dX4_makeLetter_29 (by decide) (fun c1 => ?_) (fun c1 => ?_)
  · have h := h.2 c1
    refine lv_aload_n hx hb dX4_makeLetter_48 rfl (lv_at hl 2 rfl) ?_
    refine zgetN (own := RX4) (index := 94) (host := "TypeTrays") hx hb hts inX2 hown hK hw 4 (by decide) rfl rfl 0 (by decide) (by decide +kernel) (fun _ h9 => h9) rfl dX4_makeLetter_49 ?_
    refine lv_iconst (v := (jI 3)) hx hb dX4_makeLetter_52 rfl ?_
    refine lv_icmp_ne (tgt := 64) hx hb dX4_makeLetter_53 (by decide) (fun c2 => ?_) (fun c2 => ?_)
    · have h := h.2 c2
      refine lv_aload_n hx hb dX4_makeLetter_64 rfl (lv_at hl 2 rfl) ?_
      refine zgetN (own := RX4) (index := 115) (host := "TypeTrays") hx hb hts inX2 hown hK hw 4 (by decide) rfl rfl 4 (by decide) (by decide +kernel) (fun _ h9 => h9) rfl dX4_makeLetter_65 ?_
      refine lv_iconst (v := (jI (-1))) hx hb dX4_makeLetter_68 rfl ?_
      refine lv_icmp_eq (tgt := 80) hx hb dX4_makeLetter_69 (by decide) (fun c3 => ?_) (fun c3 => ?_)
      · have h := h.1 c3
        refine lv_aload_n hx hb dX4_makeLetter_80 rfl (lv_at hl 0 rfl) ?_
        refine zget hx hb hts inX4 hown hK hw 5 (by decide) rfl rfl 3 (by decide) lk2 (fun _ h9 => h9) rfl dX4_makeLetter_81 ?_
        refine lv_iload_n hx hb dX4_makeLetter_84 rfl (lv_at hl 1 rfl) ?_
        refine lv_aload_n hx hb dX4_makeLetter_85 rfl (lv_at hl 2 rfl) ?_
        refine zgetN (own := RX4) (index := 106) (host := "TypeTrays") hx hb hts inX2 hown hK hw 4 (by decide) rfl rfl 1 (by decide) (by decide +kernel) (fun _ h9 => h9) rfl dX4_makeLetter_86 ?_
        obtain ⟨s4, es4⟩ : ∃ y : ST, y = zrs s3 3 p0 (s3.2 46) := ⟨_, rfl⟩
        have h := h s4 es4
        refine zcall_put (rest := []) hx hb hml hown hts gX4_makeLetter_X3_put ⟨Nat.le_of_ble_eq_true rfl, Nat.le_of_ble_eq_true rfl⟩ ⟨Nat.zero_le _, Nat.zero_le _⟩ hK hj hw hA hS 3 (by decide) hl.1 (Nat.le_of_ble_eq_true rfl) dX4_makeLetter_89 (fun H locs hw hS => ?_)
        rw [← es4] at hw
        refine lv_aload_n hx hb dX4_makeLetter_92 rfl (lv_at hl 0 rfl) ?_
        refine zget hx hb hts inX4 hown hK hw 5 (by decide) rfl rfl 4 (by decide) lk3 (fun _ h9 => h9) rfl dX4_makeLetter_93 ?_
        refine lv_iload_n hx hb dX4_makeLetter_96 rfl (lv_at hl 1 rfl) ?_
        refine lv_aload_n hx hb dX4_makeLetter_97 rfl (lv_at hl 2 rfl) ?_
        refine zgetN (own := RX4) (index := 118) (host := "TypeTrays") hx hb hts inX2 hown hK hw 4 (by decide) rfl rfl 2 (by decide) (by decide +kernel) (fun _ h9 => h9) rfl dX4_makeLetter_98 ?_
        obtain ⟨s5, es5⟩ : ∃ y : ST, y = zrs s4 4 p0 (s4.2 47) := ⟨_, rfl⟩
        have h := h s5 es5
        refine zcall_put (rest := []) hx hb hml hown hts gX4_makeLetter_X3_put ⟨Nat.le_of_ble_eq_true rfl, Nat.le_of_ble_eq_true rfl⟩ ⟨Nat.zero_le _, Nat.zero_le _⟩ hK hj hw hA hS 4 (by decide) hl.1 (Nat.le_of_ble_eq_true rfl) dX4_makeLetter_101 (fun H locs hw hS => ?_)
        rw [← es5] at hw
        refine lv_aload_n hx hb dX4_makeLetter_104 rfl (lv_at hl 0 rfl) ?_
        refine zget hx hb hts inX4 hown hK hw 5 (by decide) rfl rfl 5 (by decide) lk4 (fun _ h9 => h9) rfl dX4_makeLetter_105 ?_
        refine lv_iload_n hx hb dX4_makeLetter_108 rfl (lv_at hl 1 rfl) ?_
        refine lv_aload_n hx hb dX4_makeLetter_109 rfl (lv_at hl 2 rfl) ?_
        refine zgetN (own := RX4) (index := 118) (host := "TypeTrays") hx hb hts inX2 hown hK hw 4 (by decide) rfl rfl 2 (by decide) (by decide +kernel) (fun _ h9 => h9) rfl dX4_makeLetter_110 ?_
        refine lv_aload_n hx hb dX4_makeLetter_113 rfl (lv_at hl 0 rfl) ?_
        refine lv_iload_n hx hb dX4_makeLetter_114 rfl (lv_at hl 1 rfl) ?_
        refine k_X4_widthOf (rest := [.int (s5.2 47), .int p0, .ref (ad 20)]) hx hb hml hown hts gX4_makeLetter_X4_widthOf ⟨Nat.le_of_ble_eq_true rfl, Nat.le_of_ble_eq_true rfl⟩ ⟨Nat.zero_le _, Nat.zero_le _⟩ hK hj hw hA hS hl.1 (Nat.le_of_ble_eq_true rfl) dX4_makeLetter_115 h (fun r2 s6 H locs h hw hS => ?_)
        refine lv_iadd hx hb dX4_makeLetter_118 ?_
        obtain ⟨s7, es7⟩ : ∃ y : ST, y = zrs s6 5 p0 ((s5.2 47) + r2) := ⟨_, rfl⟩
        have h := h s7 es7
        refine zcall_put (rest := []) hx hb hml hown hts gX4_makeLetter_X3_put ⟨Nat.le_of_ble_eq_true rfl, Nat.le_of_ble_eq_true rfl⟩ ⟨Nat.zero_le _, Nat.zero_le _⟩ hK hj hw hA hS 5 (by decide) hl.1 (Nat.le_of_ble_eq_true rfl) dX4_makeLetter_119 (fun H locs hw hS => ?_)
        rw [← es7] at hw
        refine lv_aload_n hx hb dX4_makeLetter_122 rfl (lv_at hl 0 rfl) ?_
        refine zget hx hb hts inX4 hown hK hw 5 (by decide) rfl rfl 8 (by decide) lk5 (fun _ h9 => h9) rfl dX4_makeLetter_123 ?_
        refine lv_iload_n hx hb dX4_makeLetter_126 rfl (lv_at hl 1 rfl) ?_
        refine lv_iconst (v := (jI 0)) hx hb dX4_makeLetter_127 rfl ?_
        obtain ⟨s8, es8⟩ : ∃ y : ST, y = zrs s7 8 p0 (jI 0) := ⟨_, rfl⟩
        have h := h s8 es8
        refine zcall_put (rest := []) hx hb hml hown hts gX4_makeLetter_X3_put ⟨Nat.le_of_ble_eq_true rfl, Nat.le_of_ble_eq_true rfl⟩ ⟨Nat.zero_le _, Nat.zero_le _⟩ hK hj hw hA hS 8 (by decide) hl.1 (Nat.le_of_ble_eq_true rfl) dX4_makeLetter_128 (fun H locs hw hS => ?_)
        rw [← es8] at hw
        refine lv_aload_n hx hb dX4_makeLetter_131 rfl (lv_at hl 0 rfl) ?_
        refine zget hx hb hts inX4 hown hK hw 5 (by decide) rfl rfl 9 (by decide) lk6 (fun _ h9 => h9) rfl dX4_makeLetter_132 ?_
        refine lv_aload_n hx hb dX4_makeLetter_135 rfl (lv_at hl 0 rfl) ?_
        refine zget hx hb hts inX4 hown hK hw 5 (by decide) rfl rfl 10 (by decide) lk7 (fun _ h9 => h9) rfl dX4_makeLetter_136 ?_
        refine lv_iload_n hx hb dX4_makeLetter_139 rfl (lv_at hl 1 rfl) ?_
        obtain ⟨s9, es9⟩ : ∃ y : ST, y = zrs s8 9 (s8.2 0) p0 := ⟨_, rfl⟩
        have h := h s9 es9
        refine zcall_put (rest := []) hx hb hml hown hts gX4_makeLetter_X3_put ⟨Nat.le_of_ble_eq_true rfl, Nat.le_of_ble_eq_true rfl⟩ ⟨Nat.zero_le _, Nat.zero_le _⟩ hK hj hw hA hS 9 (by decide) hl.1 (Nat.le_of_ble_eq_true rfl) dX4_makeLetter_140 (fun H locs hw hS => ?_)
        rw [← es9] at hw
        refine lv_aload_n hx hb dX4_makeLetter_143 rfl (lv_at hl 0 rfl) ?_
        refine lv_dup hx hb dX4_makeLetter_144 rfl ?_
        refine zget hx hb hts inX4 hown hK hw 5 (by decide) rfl rfl 10 (by decide) lk7 (fun _ h9 => h9) rfl dX4_makeLetter_145 ?_
        refine lv_iconst (v := (jI 1)) hx hb dX4_makeLetter_148 rfl ?_
        refine lv_iadd hx hb dX4_makeLetter_149 ?_
        obtain ⟨s10, es10⟩ : ∃ y : ST, y = zsp s9 0 ((s9.2 0) + (jI 1)) := ⟨_, rfl⟩
        have h := h s10 es10
        refine zput (ty := .int) hx hb hts inX4 tyX4 tyX4_ok nmX4 hown hK hj hw hA hS 5 (by decide) rfl rfl 10 (by decide) lk7 (fun _ h9 => h9) rfl (by decide +kernel) rfl rfl (Nat.le_of_ble_eq_true rfl) dX4_makeLetter_150 (zce cy ad s10) (by rw [es10]; rfl) (fun j hj9 => by rw [es10]; exact zsp_off_C_0 j hj9) (fun H locs hw hS => ?_)
        exact W.vret hx hb hr (fun t ht hW => ⟨⟨_, rfl, h, zend hw ht⟩, hS.F ht⟩) hS.2.2 dX4_makeLetter_153
      · have h := h.2 c3
        refine lv_aload_n hx hb dX4_makeLetter_72 rfl (lv_at hl 0 rfl) ?_
        refine lv_aload_n hx hb dX4_makeLetter_73 rfl (lv_at hl 2 rfl) ?_
        refine zgetN (own := RX4) (index := 115) (host := "TypeTrays") hx hb hts inX2 hown hK hw 4 (by decide) rfl rfl 4 (by decide) (by decide +kernel) (fun _ h9 => h9) rfl dX4_makeLetter_74 ?_
        refine k_X4_takeAway (rest := []) hx hb hml hown hts gX4_makeLetter_X4_takeAway ⟨Nat.le_of_ble_eq_true rfl, Nat.le_of_ble_eq_true rfl⟩ ⟨Nat.zero_le _, Nat.zero_le _⟩ hK hj hw hA hS hl.1 (Nat.le_of_ble_eq_true rfl) dX4_makeLetter_77 h (fun s11 H locs h hw hS => ?_)
        refine lv_aload_n hx hb dX4_makeLetter_80 rfl (lv_at hl 0 rfl) ?_
        refine zget hx hb hts inX4 hown hK hw 5 (by decide) rfl rfl 3 (by decide) lk2 (fun _ h9 => h9) rfl dX4_makeLetter_81 ?_
        refine lv_iload_n hx hb dX4_makeLetter_84 rfl (lv_at hl 1 rfl) ?_
        refine lv_aload_n hx hb dX4_makeLetter_85 rfl (lv_at hl 2 rfl) ?_
        refine zgetN (own := RX4) (index := 106) (host := "TypeTrays") hx hb hts inX2 hown hK hw 4 (by decide) rfl rfl 1 (by decide) (by decide +kernel) (fun _ h9 => h9) rfl dX4_makeLetter_86 ?_
        obtain ⟨s12, es12⟩ : ∃ y : ST, y = zrs s11 3 p0 (s11.2 46) := ⟨_, rfl⟩
        have h := h s12 es12
        refine zcall_put (rest := []) hx hb hml hown hts gX4_makeLetter_X3_put ⟨Nat.le_of_ble_eq_true rfl, Nat.le_of_ble_eq_true rfl⟩ ⟨Nat.zero_le _, Nat.zero_le _⟩ hK hj hw hA hS 3 (by decide) hl.1 (Nat.le_of_ble_eq_true rfl) dX4_makeLetter_89 (fun H locs hw hS => ?_)
        rw [← es12] at hw
        refine lv_aload_n hx hb dX4_makeLetter_92 rfl (lv_at hl 0 rfl) ?_
        refine zget hx hb hts inX4 hown hK hw 5 (by decide) rfl rfl 4 (by decide) lk3 (fun _ h9 => h9) rfl dX4_makeLetter_93 ?_
        refine lv_iload_n hx hb dX4_makeLetter_96 rfl (lv_at hl 1 rfl) ?_
        refine lv_aload_n hx hb dX4_makeLetter_97 rfl (lv_at hl 2 rfl) ?_
        refine zgetN (own := RX4) (index := 118) (host := "TypeTrays") hx hb hts inX2 hown hK hw 4 (by decide) rfl rfl 2 (by decide) (by decide +kernel) (fun _ h9 => h9) rfl dX4_makeLetter_98 ?_
        obtain ⟨s13, es13⟩ : ∃ y : ST, y = zrs s12 4 p0 (s12.2 47) := ⟨_, rfl⟩
        have h := h s13 es13
        refine zcall_put (rest := []) hx hb hml hown hts gX4_makeLetter_X3_put ⟨Nat.le_of_ble_eq_true rfl, Nat.le_of_ble_eq_true rfl⟩ ⟨Nat.zero_le _, Nat.zero_le _⟩ hK hj hw hA hS 4 (by decide) hl.1 (Nat.le_of_ble_eq_true rfl) dX4_makeLetter_101 (fun H locs hw hS => ?_)
        rw [← es13] at hw
        refine lv_aload_n hx hb dX4_makeLetter_104 rfl (lv_at hl 0 rfl) ?_
        refine zget hx hb hts inX4 hown hK hw 5 (by decide) rfl rfl 5 (by decide) lk4 (fun _ h9 => h9) rfl dX4_makeLetter_105 ?_
        refine lv_iload_n hx hb dX4_makeLetter_108 rfl (lv_at hl 1 rfl) ?_
        refine lv_aload_n hx hb dX4_makeLetter_109 rfl (lv_at hl 2 rfl) ?_
        refine zgetN (own := RX4) (index := 118) (host := "TypeTrays") hx hb hts inX2 hown hK hw 4 (by decide) rfl rfl 2 (by decide) (by decide +kernel) (fun _ h9 => h9) rfl dX4_makeLetter_110 ?_
        refine lv_aload_n hx hb dX4_makeLetter_113 rfl (lv_at hl 0 rfl) ?_
        refine lv_iload_n hx hb dX4_makeLetter_114 rfl (lv_at hl 1 rfl) ?_
        refine k_X4_widthOf (rest := [.int (s13.2 47), .int p0, .ref (ad 20)]) hx hb hml hown hts gX4_makeLetter_X4_widthOf ⟨Nat.le_of_ble_eq_true rfl, Nat.le_of_ble_eq_true rfl⟩ ⟨Nat.zero_le _, Nat.zero_le _⟩ hK hj hw hA hS hl.1 (Nat.le_of_ble_eq_true rfl) dX4_makeLetter_115 h (fun r3 s14 H locs h hw hS => ?_)
        refine lv_iadd hx hb dX4_makeLetter_118 ?_
        obtain ⟨s15, es15⟩ : ∃ y : ST, y = zrs s14 5 p0 ((s13.2 47) + r3) := ⟨_, rfl⟩
        have h := h s15 es15
        refine zcall_put (rest := []) hx hb hml hown hts gX4_makeLetter_X3_put ⟨Nat.le_of_ble_eq_true rfl, Nat.le_of_ble_eq_true rfl⟩ ⟨Nat.zero_le _, Nat.zero_le _⟩ hK hj hw hA hS 5 (by decide) hl.1 (Nat.le_of_ble_eq_true rfl) dX4_makeLetter_119 (fun H locs hw hS => ?_)
        rw [← es15] at hw
        refine lv_aload_n hx hb dX4_makeLetter_122 rfl (lv_at hl 0 rfl) ?_
        refine zget hx hb hts inX4 hown hK hw 5 (by decide) rfl rfl 8 (by decide) lk5 (fun _ h9 => h9) rfl dX4_makeLetter_123 ?_
        refine lv_iload_n hx hb dX4_makeLetter_126 rfl (lv_at hl 1 rfl) ?_
        refine lv_iconst (v := (jI 0)) hx hb dX4_makeLetter_127 rfl ?_
        obtain ⟨s16, es16⟩ : ∃ y : ST, y = zrs s15 8 p0 (jI 0) := ⟨_, rfl⟩
        have h := h s16 es16
        refine zcall_put (rest := []) hx hb hml hown hts gX4_makeLetter_X3_put ⟨Nat.le_of_ble_eq_true rfl, Nat.le_of_ble_eq_true rfl⟩ ⟨Nat.zero_le _, Nat.zero_le _⟩ hK hj hw hA hS 8 (by decide) hl.1 (Nat.le_of_ble_eq_true rfl) dX4_makeLetter_128 (fun H locs hw hS => ?_)
        rw [← es16] at hw
        refine lv_aload_n hx hb dX4_makeLetter_131 rfl (lv_at hl 0 rfl) ?_
        refine zget hx hb hts inX4 hown hK hw 5 (by decide) rfl rfl 9 (by decide) lk6 (fun _ h9 => h9) rfl dX4_makeLetter_132 ?_
        refine lv_aload_n hx hb dX4_makeLetter_135 rfl (lv_at hl 0 rfl) ?_
        refine zget hx hb hts inX4 hown hK hw 5 (by decide) rfl rfl 10 (by decide) lk7 (fun _ h9 => h9) rfl dX4_makeLetter_136 ?_
        refine lv_iload_n hx hb dX4_makeLetter_139 rfl (lv_at hl 1 rfl) ?_
        obtain ⟨s17, es17⟩ : ∃ y : ST, y = zrs s16 9 (s16.2 0) p0 := ⟨_, rfl⟩
        have h := h s17 es17
        refine zcall_put (rest := []) hx hb hml hown hts gX4_makeLetter_X3_put ⟨Nat.le_of_ble_eq_true rfl, Nat.le_of_ble_eq_true rfl⟩ ⟨Nat.zero_le _, Nat.zero_le _⟩ hK hj hw hA hS 9 (by decide) hl.1 (Nat.le_of_ble_eq_true rfl) dX4_makeLetter_140 (fun H locs hw hS => ?_)
        rw [← es17] at hw
        refine lv_aload_n hx hb dX4_makeLetter_143 rfl (lv_at hl 0 rfl) ?_
        refine lv_dup hx hb dX4_makeLetter_144 rfl ?_
        refine zget hx hb hts inX4 hown hK hw 5 (by decide) rfl rfl 10 (by decide) lk7 (fun _ h9 => h9) rfl dX4_makeLetter_145 ?_
        refine lv_iconst (v := (jI 1)) hx hb dX4_makeLetter_148 rfl ?_
        refine lv_iadd hx hb dX4_makeLetter_149 ?_
        obtain ⟨s18, es18⟩ : ∃ y : ST, y = zsp s17 0 ((s17.2 0) + (jI 1)) := ⟨_, rfl⟩
        have h := h s18 es18
        refine zput (ty := .int) hx hb hts inX4 tyX4 tyX4_ok nmX4 hown hK hj hw hA hS 5 (by decide) rfl rfl 10 (by decide) lk7 (fun _ h9 => h9) rfl (by decide +kernel) rfl rfl (Nat.le_of_ble_eq_true rfl) dX4_makeLetter_150 (zce cy ad s18) (by rw [es18]; rfl) (fun j hj9 => by rw [es18]; exact zsp_off_C_0 j hj9) (fun H locs hw hS => ?_)
        exact W.vret hx hb hr (fun t ht hW => ⟨⟨_, rfl, h, zend hw ht⟩, hS.F ht⟩) hS.2.2 dX4_makeLetter_153
    · have h := h.1 c2
      refine lv_aload_n hx hb dX4_makeLetter_56 rfl (lv_at hl 0 rfl) ?_
      refine lv_aload_n hx hb dX4_makeLetter_57 rfl (lv_at hl 2 rfl) ?_
      refine zgetN (own := RX4) (index := 106) (host := "TypeTrays") hx hb hts inX2 hown hK hw 4 (by decide) rfl rfl 1 (by decide) (by decide +kernel) (fun _ h9 => h9) rfl dX4_makeLetter_58 ?_
      refine k_X4_emptyShelf (rest := []) hx hb hml hown hts gX4_makeLetter_X4_emptyShelf ⟨Nat.le_of_ble_eq_true rfl, Nat.le_of_ble_eq_true rfl⟩ ⟨Nat.zero_le _, Nat.zero_le _⟩ hK hj hw hA hS hl.1 (Nat.le_of_ble_eq_true rfl) dX4_makeLetter_61 h (fun s19 H locs h hw hS => ?_)
      refine lv_aload_n hx hb dX4_makeLetter_64 rfl (lv_at hl 2 rfl) ?_
      refine zgetN (own := RX4) (index := 115) (host := "TypeTrays") hx hb hts inX2 hown hK hw 4 (by decide) rfl rfl 4 (by decide) (by decide +kernel) (fun _ h9 => h9) rfl dX4_makeLetter_65 ?_
      refine lv_iconst (v := (jI (-1))) hx hb dX4_makeLetter_68 rfl ?_
      refine lv_icmp_eq (tgt := 80) hx hb dX4_makeLetter_69 (by decide) (fun c4 => ?_) (fun c4 => ?_)
      · have h := h.1 c4
        refine lv_aload_n hx hb dX4_makeLetter_80 rfl (lv_at hl 0 rfl) ?_
        refine zget hx hb hts inX4 hown hK hw 5 (by decide) rfl rfl 3 (by decide) lk2 (fun _ h9 => h9) rfl dX4_makeLetter_81 ?_
        refine lv_iload_n hx hb dX4_makeLetter_84 rfl (lv_at hl 1 rfl) ?_
        refine lv_aload_n hx hb dX4_makeLetter_85 rfl (lv_at hl 2 rfl) ?_
        refine zgetN (own := RX4) (index := 106) (host := "TypeTrays") hx hb hts inX2 hown hK hw 4 (by decide) rfl rfl 1 (by decide) (by decide +kernel) (fun _ h9 => h9) rfl dX4_makeLetter_86 ?_
        obtain ⟨s20, es20⟩ : ∃ y : ST, y = zrs s19 3 p0 (s19.2 46) := ⟨_, rfl⟩
        have h := h s20 es20
        refine zcall_put (rest := []) hx hb hml hown hts gX4_makeLetter_X3_put ⟨Nat.le_of_ble_eq_true rfl, Nat.le_of_ble_eq_true rfl⟩ ⟨Nat.zero_le _, Nat.zero_le _⟩ hK hj hw hA hS 3 (by decide) hl.1 (Nat.le_of_ble_eq_true rfl) dX4_makeLetter_89 (fun H locs hw hS => ?_)
        rw [← es20] at hw
        refine lv_aload_n hx hb dX4_makeLetter_92 rfl (lv_at hl 0 rfl) ?_
        refine zget hx hb hts inX4 hown hK hw 5 (by decide) rfl rfl 4 (by decide) lk3 (fun _ h9 => h9) rfl dX4_makeLetter_93 ?_
        refine lv_iload_n hx hb dX4_makeLetter_96 rfl (lv_at hl 1 rfl) ?_
        refine lv_aload_n hx hb dX4_makeLetter_97 rfl (lv_at hl 2 rfl) ?_
        refine zgetN (own := RX4) (index := 118) (host := "TypeTrays") hx hb hts inX2 hown hK hw 4 (by decide) rfl rfl 2 (by decide) (by decide +kernel) (fun _ h9 => h9) rfl dX4_makeLetter_98 ?_
        obtain ⟨s21, es21⟩ : ∃ y : ST, y = zrs s20 4 p0 (s20.2 47) := ⟨_, rfl⟩
        have h := h s21 es21
        refine zcall_put (rest := []) hx hb hml hown hts gX4_makeLetter_X3_put ⟨Nat.le_of_ble_eq_true rfl, Nat.le_of_ble_eq_true rfl⟩ ⟨Nat.zero_le _, Nat.zero_le _⟩ hK hj hw hA hS 4 (by decide) hl.1 (Nat.le_of_ble_eq_true rfl) dX4_makeLetter_101 (fun H locs hw hS => ?_)
        rw [← es21] at hw
        refine lv_aload_n hx hb dX4_makeLetter_104 rfl (lv_at hl 0 rfl) ?_
        refine zget hx hb hts inX4 hown hK hw 5 (by decide) rfl rfl 5 (by decide) lk4 (fun _ h9 => h9) rfl dX4_makeLetter_105 ?_
        refine lv_iload_n hx hb dX4_makeLetter_108 rfl (lv_at hl 1 rfl) ?_
        refine lv_aload_n hx hb dX4_makeLetter_109 rfl (lv_at hl 2 rfl) ?_
        refine zgetN (own := RX4) (index := 118) (host := "TypeTrays") hx hb hts inX2 hown hK hw 4 (by decide) rfl rfl 2 (by decide) (by decide +kernel) (fun _ h9 => h9) rfl dX4_makeLetter_110 ?_
        refine lv_aload_n hx hb dX4_makeLetter_113 rfl (lv_at hl 0 rfl) ?_
        refine lv_iload_n hx hb dX4_makeLetter_114 rfl (lv_at hl 1 rfl) ?_
        refine k_X4_widthOf (rest := [.int (s21.2 47), .int p0, .ref (ad 20)]) hx hb hml hown hts gX4_makeLetter_X4_widthOf ⟨Nat.le_of_ble_eq_true rfl, Nat.le_of_ble_eq_true rfl⟩ ⟨Nat.zero_le _, Nat.zero_le _⟩ hK hj hw hA hS hl.1 (Nat.le_of_ble_eq_true rfl) dX4_makeLetter_115 h (fun r4 s22 H locs h hw hS => ?_)
        refine lv_iadd hx hb dX4_makeLetter_118 ?_
        obtain ⟨s23, es23⟩ : ∃ y : ST, y = zrs s22 5 p0 ((s21.2 47) + r4) := ⟨_, rfl⟩
        have h := h s23 es23
        refine zcall_put (rest := []) hx hb hml hown hts gX4_makeLetter_X3_put ⟨Nat.le_of_ble_eq_true rfl, Nat.le_of_ble_eq_true rfl⟩ ⟨Nat.zero_le _, Nat.zero_le _⟩ hK hj hw hA hS 5 (by decide) hl.1 (Nat.le_of_ble_eq_true rfl) dX4_makeLetter_119 (fun H locs hw hS => ?_)
        rw [← es23] at hw
        refine lv_aload_n hx hb dX4_makeLetter_122 rfl (lv_at hl 0 rfl) ?_
        refine zget hx hb hts inX4 hown hK hw 5 (by decide) rfl rfl 8 (by decide) lk5 (fun _ h9 => h9) rfl dX4_makeLetter_123 ?_
        refine lv_iload_n hx hb dX4_makeLetter_126 rfl (lv_at hl 1 rfl) ?_
        refine lv_iconst (v := (jI 0)) hx hb dX4_makeLetter_127 rfl ?_
        obtain ⟨s24, es24⟩ : ∃ y : ST, y = zrs s23 8 p0 (jI 0) := ⟨_, rfl⟩
        have h := h s24 es24
        refine zcall_put (rest := []) hx hb hml hown hts gX4_makeLetter_X3_put ⟨Nat.le_of_ble_eq_true rfl, Nat.le_of_ble_eq_true rfl⟩ ⟨Nat.zero_le _, Nat.zero_le _⟩ hK hj hw hA hS 8 (by decide) hl.1 (Nat.le_of_ble_eq_true rfl) dX4_makeLetter_128 (fun H locs hw hS => ?_)
        rw [← es24] at hw
        refine lv_aload_n hx hb dX4_makeLetter_131 rfl (lv_at hl 0 rfl) ?_
        refine zget hx hb hts inX4 hown hK hw 5 (by decide) rfl rfl 9 (by decide) lk6 (fun _ h9 => h9) rfl dX4_makeLetter_132 ?_
        refine lv_aload_n hx hb dX4_makeLetter_135 rfl (lv_at hl 0 rfl) ?_
        refine zget hx hb hts inX4 hown hK hw 5 (by decide) rfl rfl 10 (by decide) lk7 (fun _ h9 => h9) rfl dX4_makeLetter_136 ?_
        refine lv_iload_n hx hb dX4_makeLetter_139 rfl (lv_at hl 1 rfl) ?_
        obtain ⟨s25, es25⟩ : ∃ y : ST, y = zrs s24 9 (s24.2 0) p0 := ⟨_, rfl⟩
        have h := h s25 es25
        refine zcall_put (rest := []) hx hb hml hown hts gX4_makeLetter_X3_put ⟨Nat.le_of_ble_eq_true rfl, Nat.le_of_ble_eq_true rfl⟩ ⟨Nat.zero_le _, Nat.zero_le _⟩ hK hj hw hA hS 9 (by decide) hl.1 (Nat.le_of_ble_eq_true rfl) dX4_makeLetter_140 (fun H locs hw hS => ?_)
        rw [← es25] at hw
        refine lv_aload_n hx hb dX4_makeLetter_143 rfl (lv_at hl 0 rfl) ?_
        refine lv_dup hx hb dX4_makeLetter_144 rfl ?_
        refine zget hx hb hts inX4 hown hK hw 5 (by decide) rfl rfl 10 (by decide) lk7 (fun _ h9 => h9) rfl dX4_makeLetter_145 ?_
        refine lv_iconst (v := (jI 1)) hx hb dX4_makeLetter_148 rfl ?_
        refine lv_iadd hx hb dX4_makeLetter_149 ?_
        obtain ⟨s26, es26⟩ : ∃ y : ST, y = zsp s25 0 ((s25.2 0) + (jI 1)) := ⟨_, rfl⟩
        have h := h s26 es26
        refine zput (ty := .int) hx hb hts inX4 tyX4 tyX4_ok nmX4 hown hK hj hw hA hS 5 (by decide) rfl rfl 10 (by decide) lk7 (fun _ h9 => h9) rfl (by decide +kernel) rfl rfl (Nat.le_of_ble_eq_true rfl) dX4_makeLetter_150 (zce cy ad s26) (by rw [es26]; rfl) (fun j hj9 => by rw [es26]; exact zsp_off_C_0 j hj9) (fun H locs hw hS => ?_)
        exact W.vret hx hb hr (fun t ht hW => ⟨⟨_, rfl, h, zend hw ht⟩, hS.F ht⟩) hS.2.2 dX4_makeLetter_153
      · have h := h.2 c4
        refine lv_aload_n hx hb dX4_makeLetter_72 rfl (lv_at hl 0 rfl) ?_
        refine lv_aload_n hx hb dX4_makeLetter_73 rfl (lv_at hl 2 rfl) ?_
        refine zgetN (own := RX4) (index := 115) (host := "TypeTrays") hx hb hts inX2 hown hK hw 4 (by decide) rfl rfl 4 (by decide) (by decide +kernel) (fun _ h9 => h9) rfl dX4_makeLetter_74 ?_
        refine k_X4_takeAway (rest := []) hx hb hml hown hts gX4_makeLetter_X4_takeAway ⟨Nat.le_of_ble_eq_true rfl, Nat.le_of_ble_eq_true rfl⟩ ⟨Nat.zero_le _, Nat.zero_le _⟩ hK hj hw hA hS hl.1 (Nat.le_of_ble_eq_true rfl) dX4_makeLetter_77 h (fun s27 H locs h hw hS => ?_)
        refine lv_aload_n hx hb dX4_makeLetter_80 rfl (lv_at hl 0 rfl) ?_
        refine zget hx hb hts inX4 hown hK hw 5 (by decide) rfl rfl 3 (by decide) lk2 (fun _ h9 => h9) rfl dX4_makeLetter_81 ?_
        refine lv_iload_n hx hb dX4_makeLetter_84 rfl (lv_at hl 1 rfl) ?_
        refine lv_aload_n hx hb dX4_makeLetter_85 rfl (lv_at hl 2 rfl) ?_
        refine zgetN (own := RX4) (index := 106) (host := "TypeTrays") hx hb hts inX2 hown hK hw 4 (by decide) rfl rfl 1 (by decide) (by decide +kernel) (fun _ h9 => h9) rfl dX4_makeLetter_86 ?_
        obtain ⟨s28, es28⟩ : ∃ y : ST, y = zrs s27 3 p0 (s27.2 46) := ⟨_, rfl⟩
        have h := h s28 es28
        refine zcall_put (rest := []) hx hb hml hown hts gX4_makeLetter_X3_put ⟨Nat.le_of_ble_eq_true rfl, Nat.le_of_ble_eq_true rfl⟩ ⟨Nat.zero_le _, Nat.zero_le _⟩ hK hj hw hA hS 3 (by decide) hl.1 (Nat.le_of_ble_eq_true rfl) dX4_makeLetter_89 (fun H locs hw hS => ?_)
        rw [← es28] at hw
        refine lv_aload_n hx hb dX4_makeLetter_92 rfl (lv_at hl 0 rfl) ?_
        refine zget hx hb hts inX4 hown hK hw 5 (by decide) rfl rfl 4 (by decide) lk3 (fun _ h9 => h9) rfl dX4_makeLetter_93 ?_
        refine lv_iload_n hx hb dX4_makeLetter_96 rfl (lv_at hl 1 rfl) ?_
        refine lv_aload_n hx hb dX4_makeLetter_97 rfl (lv_at hl 2 rfl) ?_
        refine zgetN (own := RX4) (index := 118) (host := "TypeTrays") hx hb hts inX2 hown hK hw 4 (by decide) rfl rfl 2 (by decide) (by decide +kernel) (fun _ h9 => h9) rfl dX4_makeLetter_98 ?_
        obtain ⟨s29, es29⟩ : ∃ y : ST, y = zrs s28 4 p0 (s28.2 47) := ⟨_, rfl⟩
        have h := h s29 es29
        refine zcall_put (rest := []) hx hb hml hown hts gX4_makeLetter_X3_put ⟨Nat.le_of_ble_eq_true rfl, Nat.le_of_ble_eq_true rfl⟩ ⟨Nat.zero_le _, Nat.zero_le _⟩ hK hj hw hA hS 4 (by decide) hl.1 (Nat.le_of_ble_eq_true rfl) dX4_makeLetter_101 (fun H locs hw hS => ?_)
        rw [← es29] at hw
        refine lv_aload_n hx hb dX4_makeLetter_104 rfl (lv_at hl 0 rfl) ?_
        refine zget hx hb hts inX4 hown hK hw 5 (by decide) rfl rfl 5 (by decide) lk4 (fun _ h9 => h9) rfl dX4_makeLetter_105 ?_
        refine lv_iload_n hx hb dX4_makeLetter_108 rfl (lv_at hl 1 rfl) ?_
        refine lv_aload_n hx hb dX4_makeLetter_109 rfl (lv_at hl 2 rfl) ?_
        refine zgetN (own := RX4) (index := 118) (host := "TypeTrays") hx hb hts inX2 hown hK hw 4 (by decide) rfl rfl 2 (by decide) (by decide +kernel) (fun _ h9 => h9) rfl dX4_makeLetter_110 ?_
        refine lv_aload_n hx hb dX4_makeLetter_113 rfl (lv_at hl 0 rfl) ?_
        refine lv_iload_n hx hb dX4_makeLetter_114 rfl (lv_at hl 1 rfl) ?_
        refine k_X4_widthOf (rest := [.int (s29.2 47), .int p0, .ref (ad 20)]) hx hb hml hown hts gX4_makeLetter_X4_widthOf ⟨Nat.le_of_ble_eq_true rfl, Nat.le_of_ble_eq_true rfl⟩ ⟨Nat.zero_le _, Nat.zero_le _⟩ hK hj hw hA hS hl.1 (Nat.le_of_ble_eq_true rfl) dX4_makeLetter_115 h (fun r5 s30 H locs h hw hS => ?_)
        refine lv_iadd hx hb dX4_makeLetter_118 ?_
        obtain ⟨s31, es31⟩ : ∃ y : ST, y = zrs s30 5 p0 ((s29.2 47) + r5) := ⟨_, rfl⟩
        have h := h s31 es31
        refine zcall_put (rest := []) hx hb hml hown hts gX4_makeLetter_X3_put ⟨Nat.le_of_ble_eq_true rfl, Nat.le_of_ble_eq_true rfl⟩ ⟨Nat.zero_le _, Nat.zero_le _⟩ hK hj hw hA hS 5 (by decide) hl.1 (Nat.le_of_ble_eq_true rfl) dX4_makeLetter_119 (fun H locs hw hS => ?_)
        rw [← es31] at hw
        refine lv_aload_n hx hb dX4_makeLetter_122 rfl (lv_at hl 0 rfl) ?_
        refine zget hx hb hts inX4 hown hK hw 5 (by decide) rfl rfl 8 (by decide) lk5 (fun _ h9 => h9) rfl dX4_makeLetter_123 ?_
        refine lv_iload_n hx hb dX4_makeLetter_126 rfl (lv_at hl 1 rfl) ?_
        refine lv_iconst (v := (jI 0)) hx hb dX4_makeLetter_127 rfl ?_
        obtain ⟨s32, es32⟩ : ∃ y : ST, y = zrs s31 8 p0 (jI 0) := ⟨_, rfl⟩
        have h := h s32 es32
        refine zcall_put (rest := []) hx hb hml hown hts gX4_makeLetter_X3_put ⟨Nat.le_of_ble_eq_true rfl, Nat.le_of_ble_eq_true rfl⟩ ⟨Nat.zero_le _, Nat.zero_le _⟩ hK hj hw hA hS 8 (by decide) hl.1 (Nat.le_of_ble_eq_true rfl) dX4_makeLetter_128 (fun H locs hw hS => ?_)
        rw [← es32] at hw
        refine lv_aload_n hx hb dX4_makeLetter_131 rfl (lv_at hl 0 rfl) ?_
        refine zget hx hb hts inX4 hown hK hw 5 (by decide) rfl rfl 9 (by decide) lk6 (fun _ h9 => h9) rfl dX4_makeLetter_132 ?_
        refine lv_aload_n hx hb dX4_makeLetter_135 rfl (lv_at hl 0 rfl) ?_
        refine zget hx hb hts inX4 hown hK hw 5 (by decide) rfl rfl 10 (by decide) lk7 (fun _ h9 => h9) rfl dX4_makeLetter_136 ?_
        refine lv_iload_n hx hb dX4_makeLetter_139 rfl (lv_at hl 1 rfl) ?_
        obtain ⟨s33, es33⟩ : ∃ y : ST, y = zrs s32 9 (s32.2 0) p0 := ⟨_, rfl⟩
        have h := h s33 es33
        refine zcall_put (rest := []) hx hb hml hown hts gX4_makeLetter_X3_put ⟨Nat.le_of_ble_eq_true rfl, Nat.le_of_ble_eq_true rfl⟩ ⟨Nat.zero_le _, Nat.zero_le _⟩ hK hj hw hA hS 9 (by decide) hl.1 (Nat.le_of_ble_eq_true rfl) dX4_makeLetter_140 (fun H locs hw hS => ?_)
        rw [← es33] at hw
        refine lv_aload_n hx hb dX4_makeLetter_143 rfl (lv_at hl 0 rfl) ?_
        refine lv_dup hx hb dX4_makeLetter_144 rfl ?_
        refine zget hx hb hts inX4 hown hK hw 5 (by decide) rfl rfl 10 (by decide) lk7 (fun _ h9 => h9) rfl dX4_makeLetter_145 ?_
        refine lv_iconst (v := (jI 1)) hx hb dX4_makeLetter_148 rfl ?_
        refine lv_iadd hx hb dX4_makeLetter_149 ?_
        obtain ⟨s34, es34⟩ : ∃ y : ST, y = zsp s33 0 ((s33.2 0) + (jI 1)) := ⟨_, rfl⟩
        have h := h s34 es34
        refine zput (ty := .int) hx hb hts inX4 tyX4 tyX4_ok nmX4 hown hK hj hw hA hS 5 (by decide) rfl rfl 10 (by decide) lk7 (fun _ h9 => h9) rfl (by decide +kernel) rfl rfl (Nat.le_of_ble_eq_true rfl) dX4_makeLetter_150 (zce cy ad s34) (by rw [es34]; rfl) (fun j hj9 => by rw [es34]; exact zsp_off_C_0 j hj9) (fun H locs hw hS => ?_)
        exact W.vret hx hb hr (fun t ht hW => ⟨⟨_, rfl, h, zend hw ht⟩, hS.F ht⟩) hS.2.2 dX4_makeLetter_153
  · have h := h.1 c1
    refine lv_aload_n hx hb dX4_makeLetter_32 rfl (lv_at hl 0 rfl) ?_
    refine zget hx hb hts inX4 hown hK hw 5 (by decide) rfl rfl 2 (by decide) lk8 (fun _ h9 => h9) rfl dX4_makeLetter_33 ?_
    refine lv_aload_n hx hb dX4_makeLetter_36 rfl (lv_at hl 2 rfl) ?_
    refine zgetN (own := RX4) (index := 106) (host := "TypeTrays") hx hb hts inX2 hown hK hw 4 (by decide) rfl rfl 1 (by decide) (by decide +kernel) (fun _ h9 => h9) rfl dX4_makeLetter_37 ?_
    refine lv_aload_n hx hb dX4_makeLetter_40 rfl (lv_at hl 0 rfl) ?_
    refine lv_iload_n hx hb dX4_makeLetter_41 rfl (lv_at hl 1 rfl) ?_
    refine k_X4_heightOf (rest := [.int (s3.2 46), .ref (ad 14)]) hx hb hml hown hts gX4_makeLetter_X4_heightOf ⟨Nat.le_of_ble_eq_true rfl, Nat.le_of_ble_eq_true rfl⟩ ⟨Nat.zero_le _, Nat.zero_le _⟩ hK hj hw hA hS hl.1 (Nat.le_of_ble_eq_true rfl) dX4_makeLetter_42 h (fun r6 s35 H locs h hw hS => ?_)
    obtain ⟨s36, es36⟩ : ∃ y : ST, y = zrs s35 2 (s3.2 46) r6 := ⟨_, rfl⟩
    have h := h s36 es36
    refine zcall_put (rest := []) hx hb hml hown hts gX4_makeLetter_X3_put ⟨Nat.le_of_ble_eq_true rfl, Nat.le_of_ble_eq_true rfl⟩ ⟨Nat.zero_le _, Nat.zero_le _⟩ hK hj hw hA hS 2 (by decide) hl.1 (Nat.le_of_ble_eq_true rfl) dX4_makeLetter_45 (fun H locs hw hS => ?_)
    rw [← es36] at hw
    refine lv_aload_n hx hb dX4_makeLetter_48 rfl (lv_at hl 2 rfl) ?_
    refine zgetN (own := RX4) (index := 94) (host := "TypeTrays") hx hb hts inX2 hown hK hw 4 (by decide) rfl rfl 0 (by decide) (by decide +kernel) (fun _ h9 => h9) rfl dX4_makeLetter_49 ?_
    refine lv_iconst (v := (jI 3)) hx hb dX4_makeLetter_52 rfl ?_
    refine lv_icmp_ne (tgt := 64) hx hb dX4_makeLetter_53 (by decide) (fun c5 => ?_) (fun c5 => ?_)
    · have h := h.2 c5
      refine lv_aload_n hx hb dX4_makeLetter_64 rfl (lv_at hl 2 rfl) ?_
      refine zgetN (own := RX4) (index := 115) (host := "TypeTrays") hx hb hts inX2 hown hK hw 4 (by decide) rfl rfl 4 (by decide) (by decide +kernel) (fun _ h9 => h9) rfl dX4_makeLetter_65 ?_
      refine lv_iconst (v := (jI (-1))) hx hb dX4_makeLetter_68 rfl ?_
      refine lv_icmp_eq (tgt := 80) hx hb dX4_makeLetter_69 (by decide) (fun c6 => ?_) (fun c6 => ?_)
      · have h := h.1 c6
        refine lv_aload_n hx hb dX4_makeLetter_80 rfl (lv_at hl 0 rfl) ?_
        refine zget hx hb hts inX4 hown hK hw 5 (by decide) rfl rfl 3 (by decide) lk2 (fun _ h9 => h9) rfl dX4_makeLetter_81 ?_
        refine lv_iload_n hx hb dX4_makeLetter_84 rfl (lv_at hl 1 rfl) ?_
        refine lv_aload_n hx hb dX4_makeLetter_85 rfl (lv_at hl 2 rfl) ?_
        refine zgetN (own := RX4) (index := 106) (host := "TypeTrays") hx hb hts inX2 hown hK hw 4 (by decide) rfl rfl 1 (by decide) (by decide +kernel) (fun _ h9 => h9) rfl dX4_makeLetter_86 ?_
        obtain ⟨s37, es37⟩ : ∃ y : ST, y = zrs s36 3 p0 (s36.2 46) := ⟨_, rfl⟩
        have h := h s37 es37
        refine zcall_put (rest := []) hx hb hml hown hts gX4_makeLetter_X3_put ⟨Nat.le_of_ble_eq_true rfl, Nat.le_of_ble_eq_true rfl⟩ ⟨Nat.zero_le _, Nat.zero_le _⟩ hK hj hw hA hS 3 (by decide) hl.1 (Nat.le_of_ble_eq_true rfl) dX4_makeLetter_89 (fun H locs hw hS => ?_)
        rw [← es37] at hw
        refine lv_aload_n hx hb dX4_makeLetter_92 rfl (lv_at hl 0 rfl) ?_
        refine zget hx hb hts inX4 hown hK hw 5 (by decide) rfl rfl 4 (by decide) lk3 (fun _ h9 => h9) rfl dX4_makeLetter_93 ?_
        refine lv_iload_n hx hb dX4_makeLetter_96 rfl (lv_at hl 1 rfl) ?_
        refine lv_aload_n hx hb dX4_makeLetter_97 rfl (lv_at hl 2 rfl) ?_
        refine zgetN (own := RX4) (index := 118) (host := "TypeTrays") hx hb hts inX2 hown hK hw 4 (by decide) rfl rfl 2 (by decide) (by decide +kernel) (fun _ h9 => h9) rfl dX4_makeLetter_98 ?_
        obtain ⟨s38, es38⟩ : ∃ y : ST, y = zrs s37 4 p0 (s37.2 47) := ⟨_, rfl⟩
        have h := h s38 es38
        refine zcall_put (rest := []) hx hb hml hown hts gX4_makeLetter_X3_put ⟨Nat.le_of_ble_eq_true rfl, Nat.le_of_ble_eq_true rfl⟩ ⟨Nat.zero_le _, Nat.zero_le _⟩ hK hj hw hA hS 4 (by decide) hl.1 (Nat.le_of_ble_eq_true rfl) dX4_makeLetter_101 (fun H locs hw hS => ?_)
        rw [← es38] at hw
        refine lv_aload_n hx hb dX4_makeLetter_104 rfl (lv_at hl 0 rfl) ?_
        refine zget hx hb hts inX4 hown hK hw 5 (by decide) rfl rfl 5 (by decide) lk4 (fun _ h9 => h9) rfl dX4_makeLetter_105 ?_
        refine lv_iload_n hx hb dX4_makeLetter_108 rfl (lv_at hl 1 rfl) ?_
        refine lv_aload_n hx hb dX4_makeLetter_109 rfl (lv_at hl 2 rfl) ?_
        refine zgetN (own := RX4) (index := 118) (host := "TypeTrays") hx hb hts inX2 hown hK hw 4 (by decide) rfl rfl 2 (by decide) (by decide +kernel) (fun _ h9 => h9) rfl dX4_makeLetter_110 ?_
        refine lv_aload_n hx hb dX4_makeLetter_113 rfl (lv_at hl 0 rfl) ?_
        refine lv_iload_n hx hb dX4_makeLetter_114 rfl (lv_at hl 1 rfl) ?_
        refine k_X4_widthOf (rest := [.int (s38.2 47), .int p0, .ref (ad 20)]) hx hb hml hown hts gX4_makeLetter_X4_widthOf ⟨Nat.le_of_ble_eq_true rfl, Nat.le_of_ble_eq_true rfl⟩ ⟨Nat.zero_le _, Nat.zero_le _⟩ hK hj hw hA hS hl.1 (Nat.le_of_ble_eq_true rfl) dX4_makeLetter_115 h (fun r7 s39 H locs h hw hS => ?_)
        refine lv_iadd hx hb dX4_makeLetter_118 ?_
        obtain ⟨s40, es40⟩ : ∃ y : ST, y = zrs s39 5 p0 ((s38.2 47) + r7) := ⟨_, rfl⟩
        have h := h s40 es40
        refine zcall_put (rest := []) hx hb hml hown hts gX4_makeLetter_X3_put ⟨Nat.le_of_ble_eq_true rfl, Nat.le_of_ble_eq_true rfl⟩ ⟨Nat.zero_le _, Nat.zero_le _⟩ hK hj hw hA hS 5 (by decide) hl.1 (Nat.le_of_ble_eq_true rfl) dX4_makeLetter_119 (fun H locs hw hS => ?_)
        rw [← es40] at hw
        refine lv_aload_n hx hb dX4_makeLetter_122 rfl (lv_at hl 0 rfl) ?_
        refine zget hx hb hts inX4 hown hK hw 5 (by decide) rfl rfl 8 (by decide) lk5 (fun _ h9 => h9) rfl dX4_makeLetter_123 ?_
        refine lv_iload_n hx hb dX4_makeLetter_126 rfl (lv_at hl 1 rfl) ?_
        refine lv_iconst (v := (jI 0)) hx hb dX4_makeLetter_127 rfl ?_
        obtain ⟨s41, es41⟩ : ∃ y : ST, y = zrs s40 8 p0 (jI 0) := ⟨_, rfl⟩
        have h := h s41 es41
        refine zcall_put (rest := []) hx hb hml hown hts gX4_makeLetter_X3_put ⟨Nat.le_of_ble_eq_true rfl, Nat.le_of_ble_eq_true rfl⟩ ⟨Nat.zero_le _, Nat.zero_le _⟩ hK hj hw hA hS 8 (by decide) hl.1 (Nat.le_of_ble_eq_true rfl) dX4_makeLetter_128 (fun H locs hw hS => ?_)
        rw [← es41] at hw
        refine lv_aload_n hx hb dX4_makeLetter_131 rfl (lv_at hl 0 rfl) ?_
        refine zget hx hb hts inX4 hown hK hw 5 (by decide) rfl rfl 9 (by decide) lk6 (fun _ h9 => h9) rfl dX4_makeLetter_132 ?_
        refine lv_aload_n hx hb dX4_makeLetter_135 rfl (lv_at hl 0 rfl) ?_
        refine zget hx hb hts inX4 hown hK hw 5 (by decide) rfl rfl 10 (by decide) lk7 (fun _ h9 => h9) rfl dX4_makeLetter_136 ?_
        refine lv_iload_n hx hb dX4_makeLetter_139 rfl (lv_at hl 1 rfl) ?_
        obtain ⟨s42, es42⟩ : ∃ y : ST, y = zrs s41 9 (s41.2 0) p0 := ⟨_, rfl⟩
        have h := h s42 es42
        refine zcall_put (rest := []) hx hb hml hown hts gX4_makeLetter_X3_put ⟨Nat.le_of_ble_eq_true rfl, Nat.le_of_ble_eq_true rfl⟩ ⟨Nat.zero_le _, Nat.zero_le _⟩ hK hj hw hA hS 9 (by decide) hl.1 (Nat.le_of_ble_eq_true rfl) dX4_makeLetter_140 (fun H locs hw hS => ?_)
        rw [← es42] at hw
        refine lv_aload_n hx hb dX4_makeLetter_143 rfl (lv_at hl 0 rfl) ?_
        refine lv_dup hx hb dX4_makeLetter_144 rfl ?_
        refine zget hx hb hts inX4 hown hK hw 5 (by decide) rfl rfl 10 (by decide) lk7 (fun _ h9 => h9) rfl dX4_makeLetter_145 ?_
        refine lv_iconst (v := (jI 1)) hx hb dX4_makeLetter_148 rfl ?_
        refine lv_iadd hx hb dX4_makeLetter_149 ?_
        obtain ⟨s43, es43⟩ : ∃ y : ST, y = zsp s42 0 ((s42.2 0) + (jI 1)) := ⟨_, rfl⟩
        have h := h s43 es43
        refine zput (ty := .int) hx hb hts inX4 tyX4 tyX4_ok nmX4 hown hK hj hw hA hS 5 (by decide) rfl rfl 10 (by decide) lk7 (fun _ h9 => h9) rfl (by decide +kernel) rfl rfl (Nat.le_of_ble_eq_true rfl) dX4_makeLetter_150 (zce cy ad s43) (by rw [es43]; rfl) (fun j hj9 => by rw [es43]; exact zsp_off_C_0 j hj9) (fun H locs hw hS => ?_)
        exact W.vret hx hb hr (fun t ht hW => ⟨⟨_, rfl, h, zend hw ht⟩, hS.F ht⟩) hS.2.2 dX4_makeLetter_153
      · have h := h.2 c6
        refine lv_aload_n hx hb dX4_makeLetter_72 rfl (lv_at hl 0 rfl) ?_
        refine lv_aload_n hx hb dX4_makeLetter_73 rfl (lv_at hl 2 rfl) ?_
        refine zgetN (own := RX4) (index := 115) (host := "TypeTrays") hx hb hts inX2 hown hK hw 4 (by decide) rfl rfl 4 (by decide) (by decide +kernel) (fun _ h9 => h9) rfl dX4_makeLetter_74 ?_
        refine k_X4_takeAway (rest := []) hx hb hml hown hts gX4_makeLetter_X4_takeAway ⟨Nat.le_of_ble_eq_true rfl, Nat.le_of_ble_eq_true rfl⟩ ⟨Nat.zero_le _, Nat.zero_le _⟩ hK hj hw hA hS hl.1 (Nat.le_of_ble_eq_true rfl) dX4_makeLetter_77 h (fun s44 H locs h hw hS => ?_)
        refine lv_aload_n hx hb dX4_makeLetter_80 rfl (lv_at hl 0 rfl) ?_
        refine zget hx hb hts inX4 hown hK hw 5 (by decide) rfl rfl 3 (by decide) lk2 (fun _ h9 => h9) rfl dX4_makeLetter_81 ?_
        refine lv_iload_n hx hb dX4_makeLetter_84 rfl (lv_at hl 1 rfl) ?_
        refine lv_aload_n hx hb dX4_makeLetter_85 rfl (lv_at hl 2 rfl) ?_
        refine zgetN (own := RX4) (index := 106) (host := "TypeTrays") hx hb hts inX2 hown hK hw 4 (by decide) rfl rfl 1 (by decide) (by decide +kernel) (fun _ h9 => h9) rfl dX4_makeLetter_86 ?_
        obtain ⟨s45, es45⟩ : ∃ y : ST, y = zrs s44 3 p0 (s44.2 46) := ⟨_, rfl⟩
        have h := h s45 es45
        refine zcall_put (rest := []) hx hb hml hown hts gX4_makeLetter_X3_put ⟨Nat.le_of_ble_eq_true rfl, Nat.le_of_ble_eq_true rfl⟩ ⟨Nat.zero_le _, Nat.zero_le _⟩ hK hj hw hA hS 3 (by decide) hl.1 (Nat.le_of_ble_eq_true rfl) dX4_makeLetter_89 (fun H locs hw hS => ?_)
        rw [← es45] at hw
        refine lv_aload_n hx hb dX4_makeLetter_92 rfl (lv_at hl 0 rfl) ?_
        refine zget hx hb hts inX4 hown hK hw 5 (by decide) rfl rfl 4 (by decide) lk3 (fun _ h9 => h9) rfl dX4_makeLetter_93 ?_
        refine lv_iload_n hx hb dX4_makeLetter_96 rfl (lv_at hl 1 rfl) ?_
        refine lv_aload_n hx hb dX4_makeLetter_97 rfl (lv_at hl 2 rfl) ?_
        refine zgetN (own := RX4) (index := 118) (host := "TypeTrays") hx hb hts inX2 hown hK hw 4 (by decide) rfl rfl 2 (by decide) (by decide +kernel) (fun _ h9 => h9) rfl dX4_makeLetter_98 ?_
        obtain ⟨s46, es46⟩ : ∃ y : ST, y = zrs s45 4 p0 (s45.2 47) := ⟨_, rfl⟩
        have h := h s46 es46
        refine zcall_put (rest := []) hx hb hml hown hts gX4_makeLetter_X3_put ⟨Nat.le_of_ble_eq_true rfl, Nat.le_of_ble_eq_true rfl⟩ ⟨Nat.zero_le _, Nat.zero_le _⟩ hK hj hw hA hS 4 (by decide) hl.1 (Nat.le_of_ble_eq_true rfl) dX4_makeLetter_101 (fun H locs hw hS => ?_)
        rw [← es46] at hw
        refine lv_aload_n hx hb dX4_makeLetter_104 rfl (lv_at hl 0 rfl) ?_
        refine zget hx hb hts inX4 hown hK hw 5 (by decide) rfl rfl 5 (by decide) lk4 (fun _ h9 => h9) rfl dX4_makeLetter_105 ?_
        refine lv_iload_n hx hb dX4_makeLetter_108 rfl (lv_at hl 1 rfl) ?_
        refine lv_aload_n hx hb dX4_makeLetter_109 rfl (lv_at hl 2 rfl) ?_
        refine zgetN (own := RX4) (index := 118) (host := "TypeTrays") hx hb hts inX2 hown hK hw 4 (by decide) rfl rfl 2 (by decide) (by decide +kernel) (fun _ h9 => h9) rfl dX4_makeLetter_110 ?_
        refine lv_aload_n hx hb dX4_makeLetter_113 rfl (lv_at hl 0 rfl) ?_
        refine lv_iload_n hx hb dX4_makeLetter_114 rfl (lv_at hl 1 rfl) ?_
        refine k_X4_widthOf (rest := [.int (s46.2 47), .int p0, .ref (ad 20)]) hx hb hml hown hts gX4_makeLetter_X4_widthOf ⟨Nat.le_of_ble_eq_true rfl, Nat.le_of_ble_eq_true rfl⟩ ⟨Nat.zero_le _, Nat.zero_le _⟩ hK hj hw hA hS hl.1 (Nat.le_of_ble_eq_true rfl) dX4_makeLetter_115 h (fun r8 s47 H locs h hw hS => ?_)
        refine lv_iadd hx hb dX4_makeLetter_118 ?_
        obtain ⟨s48, es48⟩ : ∃ y : ST, y = zrs s47 5 p0 ((s46.2 47) + r8) := ⟨_, rfl⟩
        have h := h s48 es48
        refine zcall_put (rest := []) hx hb hml hown hts gX4_makeLetter_X3_put ⟨Nat.le_of_ble_eq_true rfl, Nat.le_of_ble_eq_true rfl⟩ ⟨Nat.zero_le _, Nat.zero_le _⟩ hK hj hw hA hS 5 (by decide) hl.1 (Nat.le_of_ble_eq_true rfl) dX4_makeLetter_119 (fun H locs hw hS => ?_)
        rw [← es48] at hw
        refine lv_aload_n hx hb dX4_makeLetter_122 rfl (lv_at hl 0 rfl) ?_
        refine zget hx hb hts inX4 hown hK hw 5 (by decide) rfl rfl 8 (by decide) lk5 (fun _ h9 => h9) rfl dX4_makeLetter_123 ?_
        refine lv_iload_n hx hb dX4_makeLetter_126 rfl (lv_at hl 1 rfl) ?_
        refine lv_iconst (v := (jI 0)) hx hb dX4_makeLetter_127 rfl ?_
        obtain ⟨s49, es49⟩ : ∃ y : ST, y = zrs s48 8 p0 (jI 0) := ⟨_, rfl⟩
        have h := h s49 es49
        refine zcall_put (rest := []) hx hb hml hown hts gX4_makeLetter_X3_put ⟨Nat.le_of_ble_eq_true rfl, Nat.le_of_ble_eq_true rfl⟩ ⟨Nat.zero_le _, Nat.zero_le _⟩ hK hj hw hA hS 8 (by decide) hl.1 (Nat.le_of_ble_eq_true rfl) dX4_makeLetter_128 (fun H locs hw hS => ?_)
        rw [← es49] at hw
        refine lv_aload_n hx hb dX4_makeLetter_131 rfl (lv_at hl 0 rfl) ?_
        refine zget hx hb hts inX4 hown hK hw 5 (by decide) rfl rfl 9 (by decide) lk6 (fun _ h9 => h9) rfl dX4_makeLetter_132 ?_
        refine lv_aload_n hx hb dX4_makeLetter_135 rfl (lv_at hl 0 rfl) ?_
        refine zget hx hb hts inX4 hown hK hw 5 (by decide) rfl rfl 10 (by decide) lk7 (fun _ h9 => h9) rfl dX4_makeLetter_136 ?_
        refine lv_iload_n hx hb dX4_makeLetter_139 rfl (lv_at hl 1 rfl) ?_
        obtain ⟨s50, es50⟩ : ∃ y : ST, y = zrs s49 9 (s49.2 0) p0 := ⟨_, rfl⟩
        have h := h s50 es50
        refine zcall_put (rest := []) hx hb hml hown hts gX4_makeLetter_X3_put ⟨Nat.le_of_ble_eq_true rfl, Nat.le_of_ble_eq_true rfl⟩ ⟨Nat.zero_le _, Nat.zero_le _⟩ hK hj hw hA hS 9 (by decide) hl.1 (Nat.le_of_ble_eq_true rfl) dX4_makeLetter_140 (fun H locs hw hS => ?_)
        rw [← es50] at hw
        refine lv_aload_n hx hb dX4_makeLetter_143 rfl (lv_at hl 0 rfl) ?_
        refine lv_dup hx hb dX4_makeLetter_144 rfl ?_
        refine zget hx hb hts inX4 hown hK hw 5 (by decide) rfl rfl 10 (by decide) lk7 (fun _ h9 => h9) rfl dX4_makeLetter_145 ?_
        refine lv_iconst (v := (jI 1)) hx hb dX4_makeLetter_148 rfl ?_
        refine lv_iadd hx hb dX4_makeLetter_149 ?_
        obtain ⟨s51, es51⟩ : ∃ y : ST, y = zsp s50 0 ((s50.2 0) + (jI 1)) := ⟨_, rfl⟩
        have h := h s51 es51
        refine zput (ty := .int) hx hb hts inX4 tyX4 tyX4_ok nmX4 hown hK hj hw hA hS 5 (by decide) rfl rfl 10 (by decide) lk7 (fun _ h9 => h9) rfl (by decide +kernel) rfl rfl (Nat.le_of_ble_eq_true rfl) dX4_makeLetter_150 (zce cy ad s51) (by rw [es51]; rfl) (fun j hj9 => by rw [es51]; exact zsp_off_C_0 j hj9) (fun H locs hw hS => ?_)
        exact W.vret hx hb hr (fun t ht hW => ⟨⟨_, rfl, h, zend hw ht⟩, hS.F ht⟩) hS.2.2 dX4_makeLetter_153
    · have h := h.1 c5
      refine lv_aload_n hx hb dX4_makeLetter_56 rfl (lv_at hl 0 rfl) ?_
      refine lv_aload_n hx hb dX4_makeLetter_57 rfl (lv_at hl 2 rfl) ?_
      refine zgetN (own := RX4) (index := 106) (host := "TypeTrays") hx hb hts inX2 hown hK hw 4 (by decide) rfl rfl 1 (by decide) (by decide +kernel) (fun _ h9 => h9) rfl dX4_makeLetter_58 ?_
      refine k_X4_emptyShelf (rest := []) hx hb hml hown hts gX4_makeLetter_X4_emptyShelf ⟨Nat.le_of_ble_eq_true rfl, Nat.le_of_ble_eq_true rfl⟩ ⟨Nat.zero_le _, Nat.zero_le _⟩ hK hj hw hA hS hl.1 (Nat.le_of_ble_eq_true rfl) dX4_makeLetter_61 h (fun s52 H locs h hw hS => ?_)
      refine lv_aload_n hx hb dX4_makeLetter_64 rfl (lv_at hl 2 rfl) ?_
      refine zgetN (own := RX4) (index := 115) (host := "TypeTrays") hx hb hts inX2 hown hK hw 4 (by decide) rfl rfl 4 (by decide) (by decide +kernel) (fun _ h9 => h9) rfl dX4_makeLetter_65 ?_
      refine lv_iconst (v := (jI (-1))) hx hb dX4_makeLetter_68 rfl ?_
      refine lv_icmp_eq (tgt := 80) hx hb dX4_makeLetter_69 (by decide) (fun c7 => ?_) (fun c7 => ?_)
      · have h := h.1 c7
        refine lv_aload_n hx hb dX4_makeLetter_80 rfl (lv_at hl 0 rfl) ?_
        refine zget hx hb hts inX4 hown hK hw 5 (by decide) rfl rfl 3 (by decide) lk2 (fun _ h9 => h9) rfl dX4_makeLetter_81 ?_
        refine lv_iload_n hx hb dX4_makeLetter_84 rfl (lv_at hl 1 rfl) ?_
        refine lv_aload_n hx hb dX4_makeLetter_85 rfl (lv_at hl 2 rfl) ?_
        refine zgetN (own := RX4) (index := 106) (host := "TypeTrays") hx hb hts inX2 hown hK hw 4 (by decide) rfl rfl 1 (by decide) (by decide +kernel) (fun _ h9 => h9) rfl dX4_makeLetter_86 ?_
        obtain ⟨s53, es53⟩ : ∃ y : ST, y = zrs s52 3 p0 (s52.2 46) := ⟨_, rfl⟩
        have h := h s53 es53
        refine zcall_put (rest := []) hx hb hml hown hts gX4_makeLetter_X3_put ⟨Nat.le_of_ble_eq_true rfl, Nat.le_of_ble_eq_true rfl⟩ ⟨Nat.zero_le _, Nat.zero_le _⟩ hK hj hw hA hS 3 (by decide) hl.1 (Nat.le_of_ble_eq_true rfl) dX4_makeLetter_89 (fun H locs hw hS => ?_)
        rw [← es53] at hw
        refine lv_aload_n hx hb dX4_makeLetter_92 rfl (lv_at hl 0 rfl) ?_
        refine zget hx hb hts inX4 hown hK hw 5 (by decide) rfl rfl 4 (by decide) lk3 (fun _ h9 => h9) rfl dX4_makeLetter_93 ?_
        refine lv_iload_n hx hb dX4_makeLetter_96 rfl (lv_at hl 1 rfl) ?_
        refine lv_aload_n hx hb dX4_makeLetter_97 rfl (lv_at hl 2 rfl) ?_
        refine zgetN (own := RX4) (index := 118) (host := "TypeTrays") hx hb hts inX2 hown hK hw 4 (by decide) rfl rfl 2 (by decide) (by decide +kernel) (fun _ h9 => h9) rfl dX4_makeLetter_98 ?_
        obtain ⟨s54, es54⟩ : ∃ y : ST, y = zrs s53 4 p0 (s53.2 47) := ⟨_, rfl⟩
        have h := h s54 es54
        refine zcall_put (rest := []) hx hb hml hown hts gX4_makeLetter_X3_put ⟨Nat.le_of_ble_eq_true rfl, Nat.le_of_ble_eq_true rfl⟩ ⟨Nat.zero_le _, Nat.zero_le _⟩ hK hj hw hA hS 4 (by decide) hl.1 (Nat.le_of_ble_eq_true rfl) dX4_makeLetter_101 (fun H locs hw hS => ?_)
        rw [← es54] at hw
        refine lv_aload_n hx hb dX4_makeLetter_104 rfl (lv_at hl 0 rfl) ?_
        refine zget hx hb hts inX4 hown hK hw 5 (by decide) rfl rfl 5 (by decide) lk4 (fun _ h9 => h9) rfl dX4_makeLetter_105 ?_
        refine lv_iload_n hx hb dX4_makeLetter_108 rfl (lv_at hl 1 rfl) ?_
        refine lv_aload_n hx hb dX4_makeLetter_109 rfl (lv_at hl 2 rfl) ?_
        refine zgetN (own := RX4) (index := 118) (host := "TypeTrays") hx hb hts inX2 hown hK hw 4 (by decide) rfl rfl 2 (by decide) (by decide +kernel) (fun _ h9 => h9) rfl dX4_makeLetter_110 ?_
        refine lv_aload_n hx hb dX4_makeLetter_113 rfl (lv_at hl 0 rfl) ?_
        refine lv_iload_n hx hb dX4_makeLetter_114 rfl (lv_at hl 1 rfl) ?_
        refine k_X4_widthOf (rest := [.int (s54.2 47), .int p0, .ref (ad 20)]) hx hb hml hown hts gX4_makeLetter_X4_widthOf ⟨Nat.le_of_ble_eq_true rfl, Nat.le_of_ble_eq_true rfl⟩ ⟨Nat.zero_le _, Nat.zero_le _⟩ hK hj hw hA hS hl.1 (Nat.le_of_ble_eq_true rfl) dX4_makeLetter_115 h (fun r9 s55 H locs h hw hS => ?_)
        refine lv_iadd hx hb dX4_makeLetter_118 ?_
        obtain ⟨s56, es56⟩ : ∃ y : ST, y = zrs s55 5 p0 ((s54.2 47) + r9) := ⟨_, rfl⟩
        have h := h s56 es56
        refine zcall_put (rest := []) hx hb hml hown hts gX4_makeLetter_X3_put ⟨Nat.le_of_ble_eq_true rfl, Nat.le_of_ble_eq_true rfl⟩ ⟨Nat.zero_le _, Nat.zero_le _⟩ hK hj hw hA hS 5 (by decide) hl.1 (Nat.le_of_ble_eq_true rfl) dX4_makeLetter_119 (fun H locs hw hS => ?_)
        rw [← es56] at hw
        refine lv_aload_n hx hb dX4_makeLetter_122 rfl (lv_at hl 0 rfl) ?_
        refine zget hx hb hts inX4 hown hK hw 5 (by decide) rfl rfl 8 (by decide) lk5 (fun _ h9 => h9) rfl dX4_makeLetter_123 ?_
        refine lv_iload_n hx hb dX4_makeLetter_126 rfl (lv_at hl 1 rfl) ?_
        refine lv_iconst (v := (jI 0)) hx hb dX4_makeLetter_127 rfl ?_
        obtain ⟨s57, es57⟩ : ∃ y : ST, y = zrs s56 8 p0 (jI 0) := ⟨_, rfl⟩
        have h := h s57 es57
        refine zcall_put (rest := []) hx hb hml hown hts gX4_makeLetter_X3_put ⟨Nat.le_of_ble_eq_true rfl, Nat.le_of_ble_eq_true rfl⟩ ⟨Nat.zero_le _, Nat.zero_le _⟩ hK hj hw hA hS 8 (by decide) hl.1 (Nat.le_of_ble_eq_true rfl) dX4_makeLetter_128 (fun H locs hw hS => ?_)
        rw [← es57] at hw
        refine lv_aload_n hx hb dX4_makeLetter_131 rfl (lv_at hl 0 rfl) ?_
        refine zget hx hb hts inX4 hown hK hw 5 (by decide) rfl rfl 9 (by decide) lk6 (fun _ h9 => h9) rfl dX4_makeLetter_132 ?_
        refine lv_aload_n hx hb dX4_makeLetter_135 rfl (lv_at hl 0 rfl) ?_
        refine zget hx hb hts inX4 hown hK hw 5 (by decide) rfl rfl 10 (by decide) lk7 (fun _ h9 => h9) rfl dX4_makeLetter_136 ?_
        refine lv_iload_n hx hb dX4_makeLetter_139 rfl (lv_at hl 1 rfl) ?_
        obtain ⟨s58, es58⟩ : ∃ y : ST, y = zrs s57 9 (s57.2 0) p0 := ⟨_, rfl⟩
        have h := h s58 es58
        refine zcall_put (rest := []) hx hb hml hown hts gX4_makeLetter_X3_put ⟨Nat.le_of_ble_eq_true rfl, Nat.le_of_ble_eq_true rfl⟩ ⟨Nat.zero_le _, Nat.zero_le _⟩ hK hj hw hA hS 9 (by decide) hl.1 (Nat.le_of_ble_eq_true rfl) dX4_makeLetter_140 (fun H locs hw hS => ?_)
        rw [← es58] at hw
        refine lv_aload_n hx hb dX4_makeLetter_143 rfl (lv_at hl 0 rfl) ?_
        refine lv_dup hx hb dX4_makeLetter_144 rfl ?_
        refine zget hx hb hts inX4 hown hK hw 5 (by decide) rfl rfl 10 (by decide) lk7 (fun _ h9 => h9) rfl dX4_makeLetter_145 ?_
        refine lv_iconst (v := (jI 1)) hx hb dX4_makeLetter_148 rfl ?_
        refine lv_iadd hx hb dX4_makeLetter_149 ?_
        obtain ⟨s59, es59⟩ : ∃ y : ST, y = zsp s58 0 ((s58.2 0) + (jI 1)) := ⟨_, rfl⟩
        have h := h s59 es59
        refine zput (ty := .int) hx hb hts inX4 tyX4 tyX4_ok nmX4 hown hK hj hw hA hS 5 (by decide) rfl rfl 10 (by decide) lk7 (fun _ h9 => h9) rfl (by decide +kernel) rfl rfl (Nat.le_of_ble_eq_true rfl) dX4_makeLetter_150 (zce cy ad s59) (by rw [es59]; rfl) (fun j hj9 => by rw [es59]; exact zsp_off_C_0 j hj9) (fun H locs hw hS => ?_)
        exact W.vret hx hb hr (fun t ht hW => ⟨⟨_, rfl, h, zend hw ht⟩, hS.F ht⟩) hS.2.2 dX4_makeLetter_153
      · have h := h.2 c7
        refine lv_aload_n hx hb dX4_makeLetter_72 rfl (lv_at hl 0 rfl) ?_
        refine lv_aload_n hx hb dX4_makeLetter_73 rfl (lv_at hl 2 rfl) ?_
        refine zgetN (own := RX4) (index := 115) (host := "TypeTrays") hx hb hts inX2 hown hK hw 4 (by decide) rfl rfl 4 (by decide) (by decide +kernel) (fun _ h9 => h9) rfl dX4_makeLetter_74 ?_
        refine k_X4_takeAway (rest := []) hx hb hml hown hts gX4_makeLetter_X4_takeAway ⟨Nat.le_of_ble_eq_true rfl, Nat.le_of_ble_eq_true rfl⟩ ⟨Nat.zero_le _, Nat.zero_le _⟩ hK hj hw hA hS hl.1 (Nat.le_of_ble_eq_true rfl) dX4_makeLetter_77 h (fun s60 H locs h hw hS => ?_)
        refine lv_aload_n hx hb dX4_makeLetter_80 rfl (lv_at hl 0 rfl) ?_
        refine zget hx hb hts inX4 hown hK hw 5 (by decide) rfl rfl 3 (by decide) lk2 (fun _ h9 => h9) rfl dX4_makeLetter_81 ?_
        refine lv_iload_n hx hb dX4_makeLetter_84 rfl (lv_at hl 1 rfl) ?_
        refine lv_aload_n hx hb dX4_makeLetter_85 rfl (lv_at hl 2 rfl) ?_
        refine zgetN (own := RX4) (index := 106) (host := "TypeTrays") hx hb hts inX2 hown hK hw 4 (by decide) rfl rfl 1 (by decide) (by decide +kernel) (fun _ h9 => h9) rfl dX4_makeLetter_86 ?_
        obtain ⟨s61, es61⟩ : ∃ y : ST, y = zrs s60 3 p0 (s60.2 46) := ⟨_, rfl⟩
        have h := h s61 es61
        refine zcall_put (rest := []) hx hb hml hown hts gX4_makeLetter_X3_put ⟨Nat.le_of_ble_eq_true rfl, Nat.le_of_ble_eq_true rfl⟩ ⟨Nat.zero_le _, Nat.zero_le _⟩ hK hj hw hA hS 3 (by decide) hl.1 (Nat.le_of_ble_eq_true rfl) dX4_makeLetter_89 (fun H locs hw hS => ?_)
        rw [← es61] at hw
        refine lv_aload_n hx hb dX4_makeLetter_92 rfl (lv_at hl 0 rfl) ?_
        refine zget hx hb hts inX4 hown hK hw 5 (by decide) rfl rfl 4 (by decide) lk3 (fun _ h9 => h9) rfl dX4_makeLetter_93 ?_
        refine lv_iload_n hx hb dX4_makeLetter_96 rfl (lv_at hl 1 rfl) ?_
        refine lv_aload_n hx hb dX4_makeLetter_97 rfl (lv_at hl 2 rfl) ?_
        refine zgetN (own := RX4) (index := 118) (host := "TypeTrays") hx hb hts inX2 hown hK hw 4 (by decide) rfl rfl 2 (by decide) (by decide +kernel) (fun _ h9 => h9) rfl dX4_makeLetter_98 ?_
        obtain ⟨s62, es62⟩ : ∃ y : ST, y = zrs s61 4 p0 (s61.2 47) := ⟨_, rfl⟩
        have h := h s62 es62
        refine zcall_put (rest := []) hx hb hml hown hts gX4_makeLetter_X3_put ⟨Nat.le_of_ble_eq_true rfl, Nat.le_of_ble_eq_true rfl⟩ ⟨Nat.zero_le _, Nat.zero_le _⟩ hK hj hw hA hS 4 (by decide) hl.1 (Nat.le_of_ble_eq_true rfl) dX4_makeLetter_101 (fun H locs hw hS => ?_)
        rw [← es62] at hw
        refine lv_aload_n hx hb dX4_makeLetter_104 rfl (lv_at hl 0 rfl) ?_
        refine zget hx hb hts inX4 hown hK hw 5 (by decide) rfl rfl 5 (by decide) lk4 (fun _ h9 => h9) rfl dX4_makeLetter_105 ?_
        refine lv_iload_n hx hb dX4_makeLetter_108 rfl (lv_at hl 1 rfl) ?_
        refine lv_aload_n hx hb dX4_makeLetter_109 rfl (lv_at hl 2 rfl) ?_
        refine zgetN (own := RX4) (index := 118) (host := "TypeTrays") hx hb hts inX2 hown hK hw 4 (by decide) rfl rfl 2 (by decide) (by decide +kernel) (fun _ h9 => h9) rfl dX4_makeLetter_110 ?_
        refine lv_aload_n hx hb dX4_makeLetter_113 rfl (lv_at hl 0 rfl) ?_
        refine lv_iload_n hx hb dX4_makeLetter_114 rfl (lv_at hl 1 rfl) ?_
        refine k_X4_widthOf (rest := [.int (s62.2 47), .int p0, .ref (ad 20)]) hx hb hml hown hts gX4_makeLetter_X4_widthOf ⟨Nat.le_of_ble_eq_true rfl, Nat.le_of_ble_eq_true rfl⟩ ⟨Nat.zero_le _, Nat.zero_le _⟩ hK hj hw hA hS hl.1 (Nat.le_of_ble_eq_true rfl) dX4_makeLetter_115 h (fun r10 s63 H locs h hw hS => ?_)
        refine lv_iadd hx hb dX4_makeLetter_118 ?_
        obtain ⟨s64, es64⟩ : ∃ y : ST, y = zrs s63 5 p0 ((s62.2 47) + r10) := ⟨_, rfl⟩
        have h := h s64 es64
        refine zcall_put (rest := []) hx hb hml hown hts gX4_makeLetter_X3_put ⟨Nat.le_of_ble_eq_true rfl, Nat.le_of_ble_eq_true rfl⟩ ⟨Nat.zero_le _, Nat.zero_le _⟩ hK hj hw hA hS 5 (by decide) hl.1 (Nat.le_of_ble_eq_true rfl) dX4_makeLetter_119 (fun H locs hw hS => ?_)
        rw [← es64] at hw
        refine lv_aload_n hx hb dX4_makeLetter_122 rfl (lv_at hl 0 rfl) ?_
        refine zget hx hb hts inX4 hown hK hw 5 (by decide) rfl rfl 8 (by decide) lk5 (fun _ h9 => h9) rfl dX4_makeLetter_123 ?_
        refine lv_iload_n hx hb dX4_makeLetter_126 rfl (lv_at hl 1 rfl) ?_
        refine lv_iconst (v := (jI 0)) hx hb dX4_makeLetter_127 rfl ?_
        obtain ⟨s65, es65⟩ : ∃ y : ST, y = zrs s64 8 p0 (jI 0) := ⟨_, rfl⟩
        have h := h s65 es65
        refine zcall_put (rest := []) hx hb hml hown hts gX4_makeLetter_X3_put ⟨Nat.le_of_ble_eq_true rfl, Nat.le_of_ble_eq_true rfl⟩ ⟨Nat.zero_le _, Nat.zero_le _⟩ hK hj hw hA hS 8 (by decide) hl.1 (Nat.le_of_ble_eq_true rfl) dX4_makeLetter_128 (fun H locs hw hS => ?_)
        rw [← es65] at hw
        refine lv_aload_n hx hb dX4_makeLetter_131 rfl (lv_at hl 0 rfl) ?_
        refine zget hx hb hts inX4 hown hK hw 5 (by decide) rfl rfl 9 (by decide) lk6 (fun _ h9 => h9) rfl dX4_makeLetter_132 ?_
        refine lv_aload_n hx hb dX4_makeLetter_135 rfl (lv_at hl 0 rfl) ?_
        refine zget hx hb hts inX4 hown hK hw 5 (by decide) rfl rfl 10 (by decide) lk7 (fun _ h9 => h9) rfl dX4_makeLetter_136 ?_
        refine lv_iload_n hx hb dX4_makeLetter_139 rfl (lv_at hl 1 rfl) ?_
        obtain ⟨s66, es66⟩ : ∃ y : ST, y = zrs s65 9 (s65.2 0) p0 := ⟨_, rfl⟩
        have h := h s66 es66
        refine zcall_put (rest := []) hx hb hml hown hts gX4_makeLetter_X3_put ⟨Nat.le_of_ble_eq_true rfl, Nat.le_of_ble_eq_true rfl⟩ ⟨Nat.zero_le _, Nat.zero_le _⟩ hK hj hw hA hS 9 (by decide) hl.1 (Nat.le_of_ble_eq_true rfl) dX4_makeLetter_140 (fun H locs hw hS => ?_)
        rw [← es66] at hw
        refine lv_aload_n hx hb dX4_makeLetter_143 rfl (lv_at hl 0 rfl) ?_
        refine lv_dup hx hb dX4_makeLetter_144 rfl ?_
        refine zget hx hb hts inX4 hown hK hw 5 (by decide) rfl rfl 10 (by decide) lk7 (fun _ h9 => h9) rfl dX4_makeLetter_145 ?_
        refine lv_iconst (v := (jI 1)) hx hb dX4_makeLetter_148 rfl ?_
        refine lv_iadd hx hb dX4_makeLetter_149 ?_
        obtain ⟨s67, es67⟩ : ∃ y : ST, y = zsp s66 0 ((s66.2 0) + (jI 1)) := ⟨_, rfl⟩
        have h := h s67 es67
        refine zput (ty := .int) hx hb hts inX4 tyX4 tyX4_ok nmX4 hown hK hj hw hA hS 5 (by decide) rfl rfl 10 (by decide) lk7 (fun _ h9 => h9) rfl (by decide +kernel) rfl rfl (Nat.le_of_ble_eq_true rfl) dX4_makeLetter_150 (zce cy ad s67) (by rw [es67]; rfl) (fun j hj9 => by rw [es67]; exact zsp_off_C_0 j hj9) (fun H locs hw hS => ?_)
        exact W.vret hx hb hr (fun t ht hW => ⟨⟨_, rfl, h, zend hw ht⟩, hS.F ht⟩) hS.2.2 dX4_makeLetter_153
theorem k_X4_makeLetter {p : Program} {l : Launch} {e : Env} {R : Room} {s : State} {m : MethodId} {args : Array Value} {below : List Frame} {meth : Method} {c : Code} {H : Heap} {locs : List Loc} {cells slots : Nat} {QQ : State → Prop} {cc : ByteArray} {pc nL index : Nat} {ls : Array Slot} {rest : List Value} {D : va_G} {cy : cyT} {ad : Nat → Nat} {own : String} {Ts : List Cond} {H0 : Heap} {σ : ST} {p0 : Int32} {Q : ST → Prop} (hx : p.tables.exec = Jvm.exec) (hb : c.code = cc) (hml : c.maxLocals = nL) (hown : s.vm.findClass own = some m.cls) (hts : ∀ w ∈ Ts, w.before args s = true) (hG : GoodIn Ts (wsV own index RX4 yX4_makeLetter wsX4_makeLetter)) (hR : 4 + 1 ≤ R.frames ∧ 8 + (3 + 11) + 86 ≤ R.locals) (hcs : cells ≤ R.cells ∧ slots ≤ R.slots) (hK : zK D cy s) (hj : zI 116 ad) (hw : zW D 116 (zce cy ad σ) ad H) {A0 : Nat → Prop} (hA : ∀ i, i < 116 → A0 (ad i)) (hS : va_S A0 H0 H locs) (hsz : ls.size = nL) (hrest : (rest.map fun v => v.category).sum ≤ 8) (hdg : decode cc pc = .ok (.invokevirtual index, 3)) (h : wp_X4_makeLetter σ p0 Q) (kk : ∀ (σ : ST) (H : Heap) (locs : List Loc), Q σ → zW D 116 (zce cy ad σ) ad H → va_S A0 H0 H locs → W p l e R s m args below meth c H locs cells slots QQ (F0 m (pc + 3) ls rest)) : W p l e R s m args below meth c H locs cells slots QQ (F0 m pc ls (.ref (ad 4) :: .int p0 :: .ref (ad 5) :: rest)) :=
  zcallv (va_runV (As := [.int p0, .ref (ad 4)]) (rest := rest) ⟨hx, hb, hml, hown, hts⟩ (c_X4_makeLetter l D cy ad σ p0 h) (cwV 2 hts hG rfl rfl rfl (by decide +kernel) hR) (zpreV hj hK hw _ (i := 5) (ci := 3) (by decide) rfl rfl) rfl rfl hsz rfl (lv_room hrest) hdg hcs) hA hS kk
set_option maxHeartbeats 4000000 in
set_option maxRecDepth 100000 in
theorem c_X4_useLetter (l : Launch) (D : va_G) (cy : cyT) (ad : Nat → Nat) (σ : ST) (p0 : Int32) {Q : ST → Prop} (h : wp_X4_useLetter σ p0 Q) : Met l yX4_useLetter wsX4_useLetter ({ frames := 5, cells := 0, slots := 0, locals := 108 } : Room) (zPre D cy 116 (zce cy ad σ) ad [.ref (ad 5), .int p0, .ref (ad 4)]) (va_Qv Q (zB D 116 (zce cy ad) ad) (zA 116 ad)) 0 0 (zA 116 ad) := by
  refine Met.ofW (cc := cX4_useLetter) (maxL := 3) (ret := none) (by decide) rfl ?_
  intro p e s m args below meth c s₁ B hml hv
  obtain ⟨rfl, hj, hK, hw⟩ := hv
  have hx := B.exec
  have hb := B.bytes
  have hr := B.returns
  have hts := atoms_spec (ws := wsX4_useLetter) B.pre
  have hown : s.vm.findClass RX4 = some m.cls := findClass_of_methodNamed B.named
  have hlocks := B.notSynchronized
  have lk0 : Cond.fieldLink RX4 57 "TypeTrays$State" "clock" "I" ∈ wsX4_useLetter := List.mem_of_getElem? (i := 2) rfl
  have lk1 : Cond.fieldLink RX4 35 "TypeTrays$State" "latestUses" "LTypeTrays$Row;" ∈ wsX4_useLetter := List.mem_of_getElem? (i := 3) rfl
  have lk2 : Cond.fieldLink RX4 38 "TypeTrays$State" "lines" "LTypeTrays$Row;" ∈ wsX4_useLetter := List.mem_of_getElem? (i := 4) rfl
  have lk3 : Cond.fieldLink RX4 54 "TypeTrays$State" "line" "I" ∈ wsX4_useLetter := List.mem_of_getElem? (i := 5) rfl
  have lk4 : Cond.fieldLink RX4 41 "TypeTrays$State" "useCounts" "LTypeTrays$Row;" ∈ wsX4_useLetter := List.mem_of_getElem? (i := 6) rfl
  have lk5 : Cond.fieldLink RX4 60 "TypeTrays$State" "hits" "I" ∈ wsX4_useLetter := List.mem_of_getElem? (i := 1) rfl
  have inX2 : ∀ w ∈ u_ws RX2 TX2 5, w ∈ wsX4_useLetter := zin_at 68 rfl
  have inX4 : ∀ w ∈ u_ws RX4 TX4 18, w ∈ wsX4_useLetter := zin_at 73 rfl
  have hS : va_S (zA 116 ad) s.heap s.heap [] := va_S.rf
  have hA : ∀ i, i < 116 → zA 116 ad (ad i) := fun i hi => ⟨i, hi, rfl⟩
  have hl := lv_entry ([.ref (ad 5), .int p0, .ref (ad 4)]) (n := 3) (Nat.le_of_ble_eq_true rfl)
  rw [lg_entry_eq]
  generalize (lg_sl ([.ref (ad 5), .int p0, .ref (ad 4)]) ++ List.replicate (3 - (lg_sl ([.ref (ad 5), .int p0, .ref (ad 4)])).length) Slot.unset).toArray = ls at hl ⊢
  have hl : lv_has ls 3 [(0, .ref (ad 5)), (1, .int p0), (2, .ref (ad 4))] := hl
  show W p l e ({ frames := 5, cells := 0, slots := 0, locals := 108 } : Room) s m ([.ref (ad 5), .int p0, .ref (ad 4)] : List Value).toArray below meth c s.heap [] 0 0 (MQ below (va_Qv Q (zB D 116 (zce cy ad) ad) (zA 116 ad)) ([.ref (ad 5), .int p0, .ref (ad 4)] : List Value).toArray s 0 0 (zA 116 ad)) (F0 m 0 ls [])
  unfold wp_X4_useLetter at h
  refine lv_aload_n hx hb dX4_useLetter_0 rfl (lv_at hl 2 rfl) ?_
  refine zgetN (own := RX4) (index := 94) (host := "TypeTrays") hx hb hts inX2 hown hK hw 4 (by decide) rfl rfl 0 (by decide) (by decide +kernel) (fun _ h9 => h9) rfl dX4_useLetter_1 ?_
  refine zif_ne (tgt := 20) hx hb dX4_useLetter_4 (by decide) (fun c1 => ?_) (fun c1 => ?_)
  · have h := h.2 c1
    refine lv_aload_n hx hb dX4_useLetter_20 rfl (lv_at hl 0 rfl) ?_
    refine lv_iload_n hx hb dX4_useLetter_21 rfl (lv_at hl 1 rfl) ?_
    refine lv_aload_n hx hb dX4_useLetter_22 rfl (lv_at hl 2 rfl) ?_
    refine k_X4_makeLetter (rest := []) hx hb hml hown hts gX4_useLetter_X4_makeLetter ⟨Nat.le_of_ble_eq_true rfl, Nat.le_of_ble_eq_true rfl⟩ ⟨Nat.zero_le _, Nat.zero_le _⟩ hK hj hw hA hS hl.1 (Nat.le_of_ble_eq_true rfl) dX4_useLetter_23 h (fun s1 H locs h hw hS => ?_)
    refine lv_aload_n hx hb dX4_useLetter_26 rfl (lv_at hl 0 rfl) ?_
    refine lv_dup hx hb dX4_useLetter_27 rfl ?_
    refine zget hx hb hts inX4 hown hK hw 5 (by decide) rfl rfl 13 (by decide) lk0 (fun _ h9 => h9) rfl dX4_useLetter_28 ?_
    refine lv_iconst (v := (jI 1)) hx hb dX4_useLetter_31 rfl ?_
    refine lv_iadd hx hb dX4_useLetter_32 ?_
    obtain ⟨s2, es2⟩ : ∃ y : ST, y = zsp s1 3 ((s1.2 3) + (jI 1)) := ⟨_, rfl⟩
    have h := h s2 es2
    refine zput (ty := .int) hx hb hts inX4 tyX4 tyX4_ok nmX4 hown hK hj hw hA hS 5 (by decide) rfl rfl 13 (by decide) lk0 (fun _ h9 => h9) rfl (by decide +kernel) rfl rfl (Nat.le_of_ble_eq_true rfl) dX4_useLetter_33 (zce cy ad s2) (by rw [es2]; rfl) (fun j hj9 => by rw [es2]; exact zsp_off_C_3 j hj9) (fun H locs hw hS => ?_)
    refine lv_aload_n hx hb dX4_useLetter_36 rfl (lv_at hl 0 rfl) ?_
    refine zget hx hb hts inX4 hown hK hw 5 (by decide) rfl rfl 6 (by decide) lk1 (fun _ h9 => h9) rfl dX4_useLetter_37 ?_
    refine lv_iload_n hx hb dX4_useLetter_40 rfl (lv_at hl 1 rfl) ?_
    refine lv_aload_n hx hb dX4_useLetter_41 rfl (lv_at hl 0 rfl) ?_
    refine zget hx hb hts inX4 hown hK hw 5 (by decide) rfl rfl 13 (by decide) lk0 (fun _ h9 => h9) rfl dX4_useLetter_42 ?_
    obtain ⟨s3, es3⟩ : ∃ y : ST, y = zrs s2 6 p0 (s2.2 3) := ⟨_, rfl⟩
    have h := h s3 es3
    refine zcall_put (rest := []) hx hb hml hown hts gX4_useLetter_X3_put ⟨Nat.le_of_ble_eq_true rfl, Nat.le_of_ble_eq_true rfl⟩ ⟨Nat.zero_le _, Nat.zero_le _⟩ hK hj hw hA hS 6 (by decide) hl.1 (Nat.le_of_ble_eq_true rfl) dX4_useLetter_45 (fun H locs hw hS => ?_)
    rw [← es3] at hw
    refine lv_aload_n hx hb dX4_useLetter_48 rfl (lv_at hl 0 rfl) ?_
    refine zget hx hb hts inX4 hown hK hw 5 (by decide) rfl rfl 7 (by decide) lk2 (fun _ h9 => h9) rfl dX4_useLetter_49 ?_
    refine lv_iload_n hx hb dX4_useLetter_52 rfl (lv_at hl 1 rfl) ?_
    refine lv_aload_n hx hb dX4_useLetter_53 rfl (lv_at hl 0 rfl) ?_
    refine zget hx hb hts inX4 hown hK hw 5 (by decide) rfl rfl 12 (by decide) lk3 (fun _ h9 => h9) rfl dX4_useLetter_54 ?_
    obtain ⟨s4, es4⟩ : ∃ y : ST, y = zrs s3 7 p0 (s3.2 2) := ⟨_, rfl⟩
    have h := h s4 es4
    refine zcall_put (rest := []) hx hb hml hown hts gX4_useLetter_X3_put ⟨Nat.le_of_ble_eq_true rfl, Nat.le_of_ble_eq_true rfl⟩ ⟨Nat.zero_le _, Nat.zero_le _⟩ hK hj hw hA hS 7 (by decide) hl.1 (Nat.le_of_ble_eq_true rfl) dX4_useLetter_57 (fun H locs hw hS => ?_)
    rw [← es4] at hw
    refine lv_aload_n hx hb dX4_useLetter_60 rfl (lv_at hl 0 rfl) ?_
    refine zget hx hb hts inX4 hown hK hw 5 (by decide) rfl rfl 8 (by decide) lk4 (fun _ h9 => h9) rfl dX4_useLetter_61 ?_
    refine lv_iload_n hx hb dX4_useLetter_64 rfl (lv_at hl 1 rfl) ?_
    refine lv_aload_n hx hb dX4_useLetter_65 rfl (lv_at hl 0 rfl) ?_
    refine zget hx hb hts inX4 hown hK hw 5 (by decide) rfl rfl 8 (by decide) lk4 (fun _ h9 => h9) rfl dX4_useLetter_66 ?_
    refine lv_iload_n hx hb dX4_useLetter_69 rfl (lv_at hl 1 rfl) ?_
    refine zcall_get (rest := [.int p0, .ref (ad 26)]) hx hb hml hown hts gX4_useLetter_X3_get ⟨Nat.le_of_ble_eq_true rfl, Nat.le_of_ble_eq_true rfl⟩ ⟨Nat.zero_le _, Nat.zero_le _⟩ hK hj hw hA hS 8 (by decide) hl.1 (Nat.le_of_ble_eq_true rfl) dX4_useLetter_70 (fun H locs hw hS => ?_)
    refine lv_topi (fun v1 ev1 => ?_)
    have h := h v1 ev1
    refine lv_iconst (v := (jI 1)) hx hb dX4_useLetter_73 rfl ?_
    refine lv_iadd hx hb dX4_useLetter_74 ?_
    obtain ⟨s5, es5⟩ : ∃ y : ST, y = zrs s4 8 p0 (v1 + (jI 1)) := ⟨_, rfl⟩
    have h := h s5 es5
    refine zcall_put (rest := []) hx hb hml hown hts gX4_useLetter_X3_put ⟨Nat.le_of_ble_eq_true rfl, Nat.le_of_ble_eq_true rfl⟩ ⟨Nat.zero_le _, Nat.zero_le _⟩ hK hj hw hA hS 8 (by decide) hl.1 (Nat.le_of_ble_eq_true rfl) dX4_useLetter_75 (fun H locs hw hS => ?_)
    rw [← es5] at hw
    exact W.vret hx hb hr (fun t ht hW => ⟨⟨_, rfl, h, zend hw ht⟩, hS.F ht⟩) hS.2.2 dX4_useLetter_78
  · have h := h.1 c1
    refine lv_aload_n hx hb dX4_useLetter_7 rfl (lv_at hl 0 rfl) ?_
    refine lv_dup hx hb dX4_useLetter_8 rfl ?_
    refine zget hx hb hts inX4 hown hK hw 5 (by decide) rfl rfl 14 (by decide) lk5 (fun _ h9 => h9) rfl dX4_useLetter_9 ?_
    refine lv_iconst (v := (jI 1)) hx hb dX4_useLetter_12 rfl ?_
    refine lv_iadd hx hb dX4_useLetter_13 ?_
    obtain ⟨s6, es6⟩ : ∃ y : ST, y = zsp σ 4 ((σ.2 4) + (jI 1)) := ⟨_, rfl⟩
    have h := h s6 es6
    refine zput (ty := .int) hx hb hts inX4 tyX4 tyX4_ok nmX4 hown hK hj hw hA hS 5 (by decide) rfl rfl 14 (by decide) lk5 (fun _ h9 => h9) rfl (by decide +kernel) rfl rfl (Nat.le_of_ble_eq_true rfl) dX4_useLetter_14 (zce cy ad s6) (by rw [es6]; rfl) (fun j hj9 => by rw [es6]; exact zsp_off_C_4 j hj9) (fun H locs hw hS => ?_)
    refine lv_goto (tgt := 26) hx hb dX4_useLetter_17 (by decide) ?_
    refine lv_aload_n hx hb dX4_useLetter_26 rfl (lv_at hl 0 rfl) ?_
    refine lv_dup hx hb dX4_useLetter_27 rfl ?_
    refine zget hx hb hts inX4 hown hK hw 5 (by decide) rfl rfl 13 (by decide) lk0 (fun _ h9 => h9) rfl dX4_useLetter_28 ?_
    refine lv_iconst (v := (jI 1)) hx hb dX4_useLetter_31 rfl ?_
    refine lv_iadd hx hb dX4_useLetter_32 ?_
    obtain ⟨s7, es7⟩ : ∃ y : ST, y = zsp s6 3 ((s6.2 3) + (jI 1)) := ⟨_, rfl⟩
    have h := h s7 es7
    refine zput (ty := .int) hx hb hts inX4 tyX4 tyX4_ok nmX4 hown hK hj hw hA hS 5 (by decide) rfl rfl 13 (by decide) lk0 (fun _ h9 => h9) rfl (by decide +kernel) rfl rfl (Nat.le_of_ble_eq_true rfl) dX4_useLetter_33 (zce cy ad s7) (by rw [es7]; rfl) (fun j hj9 => by rw [es7]; exact zsp_off_C_3 j hj9) (fun H locs hw hS => ?_)
    refine lv_aload_n hx hb dX4_useLetter_36 rfl (lv_at hl 0 rfl) ?_
    refine zget hx hb hts inX4 hown hK hw 5 (by decide) rfl rfl 6 (by decide) lk1 (fun _ h9 => h9) rfl dX4_useLetter_37 ?_
    refine lv_iload_n hx hb dX4_useLetter_40 rfl (lv_at hl 1 rfl) ?_
    refine lv_aload_n hx hb dX4_useLetter_41 rfl (lv_at hl 0 rfl) ?_
    refine zget hx hb hts inX4 hown hK hw 5 (by decide) rfl rfl 13 (by decide) lk0 (fun _ h9 => h9) rfl dX4_useLetter_42 ?_
    obtain ⟨s8, es8⟩ : ∃ y : ST, y = zrs s7 6 p0 (s7.2 3) := ⟨_, rfl⟩
    have h := h s8 es8
    refine zcall_put (rest := []) hx hb hml hown hts gX4_useLetter_X3_put ⟨Nat.le_of_ble_eq_true rfl, Nat.le_of_ble_eq_true rfl⟩ ⟨Nat.zero_le _, Nat.zero_le _⟩ hK hj hw hA hS 6 (by decide) hl.1 (Nat.le_of_ble_eq_true rfl) dX4_useLetter_45 (fun H locs hw hS => ?_)
    rw [← es8] at hw
    refine lv_aload_n hx hb dX4_useLetter_48 rfl (lv_at hl 0 rfl) ?_
    refine zget hx hb hts inX4 hown hK hw 5 (by decide) rfl rfl 7 (by decide) lk2 (fun _ h9 => h9) rfl dX4_useLetter_49 ?_
    refine lv_iload_n hx hb dX4_useLetter_52 rfl (lv_at hl 1 rfl) ?_
    refine lv_aload_n hx hb dX4_useLetter_53 rfl (lv_at hl 0 rfl) ?_
    refine zget hx hb hts inX4 hown hK hw 5 (by decide) rfl rfl 12 (by decide) lk3 (fun _ h9 => h9) rfl dX4_useLetter_54 ?_
    obtain ⟨s9, es9⟩ : ∃ y : ST, y = zrs s8 7 p0 (s8.2 2) := ⟨_, rfl⟩
    have h := h s9 es9
    refine zcall_put (rest := []) hx hb hml hown hts gX4_useLetter_X3_put ⟨Nat.le_of_ble_eq_true rfl, Nat.le_of_ble_eq_true rfl⟩ ⟨Nat.zero_le _, Nat.zero_le _⟩ hK hj hw hA hS 7 (by decide) hl.1 (Nat.le_of_ble_eq_true rfl) dX4_useLetter_57 (fun H locs hw hS => ?_)
    rw [← es9] at hw
    refine lv_aload_n hx hb dX4_useLetter_60 rfl (lv_at hl 0 rfl) ?_
    refine zget hx hb hts inX4 hown hK hw 5 (by decide) rfl rfl 8 (by decide) lk4 (fun _ h9 => h9) rfl dX4_useLetter_61 ?_
    refine lv_iload_n hx hb dX4_useLetter_64 rfl (lv_at hl 1 rfl) ?_
    refine lv_aload_n hx hb dX4_useLetter_65 rfl (lv_at hl 0 rfl) ?_
    refine zget hx hb hts inX4 hown hK hw 5 (by decide) rfl rfl 8 (by decide) lk4 (fun _ h9 => h9) rfl dX4_useLetter_66 ?_
    refine lv_iload_n hx hb dX4_useLetter_69 rfl (lv_at hl 1 rfl) ?_
    refine zcall_get (rest := [.int p0, .ref (ad 26)]) hx hb hml hown hts gX4_useLetter_X3_get ⟨Nat.le_of_ble_eq_true rfl, Nat.le_of_ble_eq_true rfl⟩ ⟨Nat.zero_le _, Nat.zero_le _⟩ hK hj hw hA hS 8 (by decide) hl.1 (Nat.le_of_ble_eq_true rfl) dX4_useLetter_70 (fun H locs hw hS => ?_)
    refine lv_topi (fun v2 ev2 => ?_)
    have h := h v2 ev2
    refine lv_iconst (v := (jI 1)) hx hb dX4_useLetter_73 rfl ?_
    refine lv_iadd hx hb dX4_useLetter_74 ?_
    obtain ⟨s10, es10⟩ : ∃ y : ST, y = zrs s9 8 p0 (v2 + (jI 1)) := ⟨_, rfl⟩
    have h := h s10 es10
    refine zcall_put (rest := []) hx hb hml hown hts gX4_useLetter_X3_put ⟨Nat.le_of_ble_eq_true rfl, Nat.le_of_ble_eq_true rfl⟩ ⟨Nat.zero_le _, Nat.zero_le _⟩ hK hj hw hA hS 8 (by decide) hl.1 (Nat.le_of_ble_eq_true rfl) dX4_useLetter_75 (fun H locs hw hS => ?_)
    rw [← es10] at hw
    exact W.vret hx hb hr (fun t ht hW => ⟨⟨_, rfl, h, zend hw ht⟩, hS.F ht⟩) hS.2.2 dX4_useLetter_78
theorem k_X4_useLetter {p : Program} {l : Launch} {e : Env} {R : Room} {s : State} {m : MethodId} {args : Array Value} {below : List Frame} {meth : Method} {c : Code} {H : Heap} {locs : List Loc} {cells slots : Nat} {QQ : State → Prop} {cc : ByteArray} {pc nL index : Nat} {ls : Array Slot} {rest : List Value} {D : va_G} {cy : cyT} {ad : Nat → Nat} {own : String} {Ts : List Cond} {H0 : Heap} {σ : ST} {p0 : Int32} {Q : ST → Prop} (hx : p.tables.exec = Jvm.exec) (hb : c.code = cc) (hml : c.maxLocals = nL) (hown : s.vm.findClass own = some m.cls) (hts : ∀ w ∈ Ts, w.before args s = true) (hG : GoodIn Ts (wsV own index RX4 yX4_useLetter wsX4_useLetter)) (hR : 5 + 1 ≤ R.frames ∧ 8 + (3 + 11) + 108 ≤ R.locals) (hcs : cells ≤ R.cells ∧ slots ≤ R.slots) (hK : zK D cy s) (hj : zI 116 ad) (hw : zW D 116 (zce cy ad σ) ad H) {A0 : Nat → Prop} (hA : ∀ i, i < 116 → A0 (ad i)) (hS : va_S A0 H0 H locs) (hsz : ls.size = nL) (hrest : (rest.map fun v => v.category).sum ≤ 8) (hdg : decode cc pc = .ok (.invokevirtual index, 3)) (h : wp_X4_useLetter σ p0 Q) (kk : ∀ (σ : ST) (H : Heap) (locs : List Loc), Q σ → zW D 116 (zce cy ad σ) ad H → va_S A0 H0 H locs → W p l e R s m args below meth c H locs cells slots QQ (F0 m (pc + 3) ls rest)) : W p l e R s m args below meth c H locs cells slots QQ (F0 m pc ls (.ref (ad 4) :: .int p0 :: .ref (ad 5) :: rest)) :=
  zcallv (va_runV (As := [.int p0, .ref (ad 4)]) (rest := rest) ⟨hx, hb, hml, hown, hts⟩ (c_X4_useLetter l D cy ad σ p0 h) (cwV 2 hts hG rfl rfl rfl (by decide +kernel) hR) (zpreV hj hK hw _ (i := 5) (ci := 3) (by decide) rfl rfl) rfl rfl hsz rfl (lv_room hrest) hdg hcs) hA hS kk
set_option maxHeartbeats 4000000 in
set_option maxRecDepth 100000 in
theorem c_X4_dropLetter (l : Launch) (D : va_G) (cy : cyT) (ad : Nat → Nat) (σ : ST) (p0 : Int32) {Q : Int32 → ST → Prop} (h : wp_X4_dropLetter σ p0 Q) : Met l yX4_dropLetter wsX4_dropLetter ({ frames := 2, cells := 0, slots := 0, locals := 46 } : Room) (zPre D cy 116 (zce cy ad σ) ad [.ref (ad 5), .int p0]) (va_Qi Q (zB D 116 (zce cy ad) ad) (zA 116 ad)) 0 0 (zA 116 ad) := by
  refine Met.ofW (cc := cX4_dropLetter) (maxL := 3) (ret := (some .int)) (by decide) rfl ?_
  intro p e s m args below meth c s₁ B hml hv
  obtain ⟨rfl, hj, hK, hw⟩ := hv
  have hx := B.exec
  have hb := B.bytes
  have hr := B.returns
  have hts := atoms_spec (ws := wsX4_dropLetter) B.pre
  have hown : s.vm.findClass RX4 = some m.cls := findClass_of_methodNamed B.named
  have hlocks := B.notSynchronized
  have lk0 : Cond.fieldLink RX4 41 "TypeTrays$State" "useCounts" "LTypeTrays$Row;" ∈ wsX4_dropLetter := List.mem_of_getElem? (i := 1) rfl
  have inX4 : ∀ w ∈ u_ws RX4 TX4 18, w ∈ wsX4_dropLetter := zin_at 21 rfl
  have hS : va_S (zA 116 ad) s.heap s.heap [] := va_S.rf
  have hA : ∀ i, i < 116 → zA 116 ad (ad i) := fun i hi => ⟨i, hi, rfl⟩
  have hl := lv_entry ([.ref (ad 5), .int p0]) (n := 3) (Nat.le_of_ble_eq_true rfl)
  rw [lg_entry_eq]
  generalize (lg_sl ([.ref (ad 5), .int p0]) ++ List.replicate (3 - (lg_sl ([.ref (ad 5), .int p0])).length) Slot.unset).toArray = ls at hl ⊢
  have hl : lv_has ls 3 [(0, .ref (ad 5)), (1, .int p0)] := hl
  show W p l e ({ frames := 2, cells := 0, slots := 0, locals := 46 } : Room) s m ([.ref (ad 5), .int p0] : List Value).toArray below meth c s.heap [] 0 0 (MQ below (va_Qi Q (zB D 116 (zce cy ad) ad) (zA 116 ad)) ([.ref (ad 5), .int p0] : List Value).toArray s 0 0 (zA 116 ad)) (F0 m 0 ls [])
  unfold wp_X4_dropLetter at h
  refine lv_aload_n hx hb dX4_dropLetter_0 rfl (lv_at hl 0 rfl) ?_
  refine zget hx hb hts inX4 hown hK hw 5 (by decide) rfl rfl 8 (by decide) lk0 (fun _ h9 => h9) rfl dX4_dropLetter_1 ?_
  refine lv_iload_n hx hb dX4_dropLetter_4 rfl (lv_at hl 1 rfl) ?_
  refine zcall_get (rest := []) hx hb hml hown hts gX4_dropLetter_X3_get ⟨Nat.le_of_ble_eq_true rfl, Nat.le_of_ble_eq_true rfl⟩ ⟨Nat.zero_le _, Nat.zero_le _⟩ hK hj hw hA hS 8 (by decide) hl.1 (Nat.le_of_ble_eq_true rfl) dX4_dropLetter_5 (fun H locs hw hS => ?_)
  refine lv_topi (fun v1 ev1 => ?_)
  have h := h v1 ev1
  refine lv_istore_n (lv' := [(2, .int v1), (0, .ref (ad 5)), (1, .int p0)]) hx hb dX4_dropLetter_8 rfl hl (by decide) rfl (fun ls hl => ?_)
  refine lv_aload_n hx hb dX4_dropLetter_9 rfl (lv_at hl 1 rfl) ?_
  refine lv_iload_n hx hb dX4_dropLetter_10 rfl (lv_at hl 2 rfl) ?_
  refine k_X4_takeAway (rest := []) hx hb hml hown hts gX4_dropLetter_X4_takeAway ⟨Nat.le_of_ble_eq_true rfl, Nat.le_of_ble_eq_true rfl⟩ ⟨Nat.zero_le _, Nat.zero_le _⟩ hK hj hw hA hS hl.1 (Nat.le_of_ble_eq_true rfl) dX4_dropLetter_11 h (fun s1 H locs h hw hS => ?_)
  refine lv_iload_n hx hb dX4_dropLetter_14 rfl (lv_at hl 0 rfl) ?_
  exact W.iret (v := v1) hx hb hr (fun t ht hW => ⟨⟨_, _, rfl, h, zend hw ht⟩, hS.F ht⟩) hS.2.2 dX4_dropLetter_15
theorem k_X4_dropLetter {p : Program} {l : Launch} {e : Env} {R : Room} {s : State} {m : MethodId} {args : Array Value} {below : List Frame} {meth : Method} {c : Code} {H : Heap} {locs : List Loc} {cells slots : Nat} {QQ : State → Prop} {cc : ByteArray} {pc nL index : Nat} {ls : Array Slot} {rest : List Value} {D : va_G} {cy : cyT} {ad : Nat → Nat} {own : String} {Ts : List Cond} {H0 : Heap} {σ : ST} {p0 : Int32} {Q : Int32 → ST → Prop} (hx : p.tables.exec = Jvm.exec) (hb : c.code = cc) (hml : c.maxLocals = nL) (hown : s.vm.findClass own = some m.cls) (hts : ∀ w ∈ Ts, w.before args s = true) (hG : GoodIn Ts (wsV own index RX4 yX4_dropLetter wsX4_dropLetter)) (hR : 2 + 1 ≤ R.frames ∧ 8 + (3 + 11) + 46 ≤ R.locals) (hcs : cells ≤ R.cells ∧ slots ≤ R.slots) (hK : zK D cy s) (hj : zI 116 ad) (hw : zW D 116 (zce cy ad σ) ad H) {A0 : Nat → Prop} (hA : ∀ i, i < 116 → A0 (ad i)) (hS : va_S A0 H0 H locs) (hsz : ls.size = nL) (hrest : (rest.map fun v => v.category).sum ≤ 8) (hdg : decode cc pc = .ok (.invokevirtual index, 3)) (h : wp_X4_dropLetter σ p0 Q) (kk : ∀ (r : Int32) (σ : ST) (H : Heap) (locs : List Loc), Q r σ → zW D 116 (zce cy ad σ) ad H → va_S A0 H0 H locs → W p l e R s m args below meth c H locs cells slots QQ (F0 m (pc + 3) ls (.int r :: rest))) : W p l e R s m args below meth c H locs cells slots QQ (F0 m pc ls (.int p0 :: .ref (ad 5) :: rest)) :=
  zcalli (va_runV (As := [.int p0]) (rest := rest) ⟨hx, hb, hml, hown, hts⟩ (c_X4_dropLetter l D cy ad σ p0 h) (cwV 1 hts hG rfl rfl rfl (by decide +kernel) hR) (zpreV hj hK hw _ (i := 5) (ci := 3) (by decide) rfl rfl) rfl rfl hsz rfl (lv_room hrest) hdg hcs) hA hS kk
set_option maxHeartbeats 4000000 in
set_option maxRecDepth 100000 in
theorem c_X4_countOfLine (l : Launch) (D : va_G) (cy : cyT) (ad : Nat → Nat) (σ : ST) {Q : Int32 → ST → Prop} (h : wp_X4_countOfLine σ Q) : Met l yX4_countOfLine wsX4_countOfLine ({ frames := 2, cells := 0, slots := 0, locals := 42 } : Room) (zPre D cy 116 (zce cy ad σ) ad [.ref (ad 5)]) (va_Qi Q (zB D 116 (zce cy ad) ad) (zA 116 ad)) 0 0 (zA 116 ad) := by
  refine Met.ofW (cc := cX4_countOfLine) (maxL := 3) (ret := (some .int)) (by decide) rfl ?_
  intro p e s m args below meth c s₁ B hml hv
  obtain ⟨rfl, hj, hK, hw⟩ := hv
  have hx := B.exec
  have hb := B.bytes
  have hr := B.returns
  have hts := atoms_spec (ws := wsX4_countOfLine) B.pre
  have hown : s.vm.findClass RX4 = some m.cls := findClass_of_methodNamed B.named
  have hlocks := B.notSynchronized
  have lk0 : Cond.fieldLink RX4 47 "TypeTrays$State" "presentCount" "I" ∈ wsX4_countOfLine := List.mem_of_getElem? (i := 1) rfl
  have lk1 : Cond.fieldLink RX4 44 "TypeTrays$State" "present" "LTypeTrays$Row;" ∈ wsX4_countOfLine := List.mem_of_getElem? (i := 2) rfl
  have inX4 : ∀ w ∈ u_ws RX4 TX4 18, w ∈ wsX4_countOfLine := zin_at 16 rfl
  have hS : va_S (zA 116 ad) s.heap s.heap [] := va_S.rf
  have hA : ∀ i, i < 116 → zA 116 ad (ad i) := fun i hi => ⟨i, hi, rfl⟩
  have hl := lv_entry ([.ref (ad 5)]) (n := 3) (Nat.le_of_ble_eq_true rfl)
  rw [lg_entry_eq]
  generalize (lg_sl ([.ref (ad 5)]) ++ List.replicate (3 - (lg_sl ([.ref (ad 5)])).length) Slot.unset).toArray = ls at hl ⊢
  have hl : lv_has ls 3 [(0, .ref (ad 5))] := hl
  show W p l e ({ frames := 2, cells := 0, slots := 0, locals := 42 } : Room) s m ([.ref (ad 5)] : List Value).toArray below meth c s.heap [] 0 0 (MQ below (va_Qi Q (zB D 116 (zce cy ad) ad) (zA 116 ad)) ([.ref (ad 5)] : List Value).toArray s 0 0 (zA 116 ad)) (F0 m 0 ls [])
  unfold wp_X4_countOfLine at h
  refine lv_iconst (v := (jI 0)) hx hb dX4_countOfLine_0 rfl ?_
  refine lv_istore_n (lv' := [(1, .int (jI 0)), (0, .ref (ad 5))]) hx hb dX4_countOfLine_1 rfl hl (by decide) rfl (fun ls hl => ?_)
  refine lv_iconst (v := (jI 0)) hx hb dX4_countOfLine_2 rfl ?_
  refine lv_istore_n (lv' := [(2, .int (jI 0)), (1, .int (jI 0)), (0, .ref (ad 5))]) hx hb dX4_countOfLine_3 rfl hl (by decide) rfl (fun ls hl => ?_)
  have k36_4 : ∀ (u_36 : ST) (z1_36 : Int32) (H : Heap) (locs : List Loc), Q z1_36 u_36 → zW D 116 (zce cy ad u_36) ad H → va_S (zA 116 ad) s.heap H locs → ∀ ls : Array Slot, lv_has ls 3 [(1, .int z1_36)] → W p l e ({ frames := 2, cells := 0, slots := 0, locals := 42 } : Room) s m ([.ref (ad 5)] : List Value).toArray below meth c H locs 0 0 (MQ below (va_Qi Q (zB D 116 (zce cy ad) ad) (zA 116 ad)) ([.ref (ad 5)] : List Value).toArray s 0 0 (zA 116 ad)) (F0 m 36 ls []) := by
    intro u_36 z1_36 H locs h hw hS ls hl
    refine lv_iload_n hx hb dX4_countOfLine_36 rfl (lv_at hl 0 rfl) ?_
    exact W.iret (v := z1_36) hx hb hr (fun t ht hW => ⟨⟨_, _, rfl, h, zend hw ht⟩, hS.F ht⟩) hS.2.2 dX4_countOfLine_37
  have lp4 : ∀ (nn4 : Nat) (t_4 : ST) (y1_4 : Int32) (y2_4 : Int32) (H : Heap) (locs : List Loc), wl_X4_countOfLine_4 (fun u_36 z1_36 => Q z1_36 u_36)  nn4 t_4 y1_4 y2_4 → zW D 116 (zce cy ad t_4) ad H → va_S (zA 116 ad) s.heap H locs → ∀ ls : Array Slot, lv_has ls 3 [(0, .ref (ad 5)), (1, .int y1_4), (2, .int y2_4)] → W p l e ({ frames := 2, cells := 0, slots := 0, locals := 42 } : Room) s m ([.ref (ad 5)] : List Value).toArray below meth c H locs 0 0 (MQ below (va_Qi Q (zB D 116 (zce cy ad) ad) (zA 116 ad)) ([.ref (ad 5)] : List Value).toArray s 0 0 (zA 116 ad)) (F0 m 4 ls []) := by
    intro nn4
    induction nn4 with
    | zero => intro _ _ _ _ _ h; exact h.elim
    | succ nn4 ih4 =>
      intro t_4 y1_4 y2_4 H locs h hw hS ls hl
      simp only [wl_X4_countOfLine_4, wb_X4_countOfLine_4] at h
      refine lv_iload_n hx hb dX4_countOfLine_4 rfl (lv_at hl 2 rfl) ?_
      refine lv_aload_n hx hb dX4_countOfLine_5 rfl (lv_at hl 0 rfl) ?_
      refine zget hx hb hts inX4 hown hK hw 5 (by decide) rfl rfl 10 (by decide) lk0 (fun _ h9 => h9) rfl dX4_countOfLine_6 ?_
      refine lv_icmp_ge (tgt := 36) hx hb dX4_countOfLine_9 (by decide) (fun c1 => ?_) (fun c1 => ?_)
      · have h := h.1 c1
        exact k36_4 _ _ _ _ h hw hS _ (lv_sub hl [1] rfl)
      · have h := h.2 c1
        refine lv_aload_n hx hb dX4_countOfLine_12 rfl (lv_at hl 0 rfl) ?_
        refine lv_aload_n hx hb dX4_countOfLine_13 rfl (lv_at hl 0 rfl) ?_
        refine zget hx hb hts inX4 hown hK hw 5 (by decide) rfl rfl 9 (by decide) lk1 (fun _ h9 => h9) rfl dX4_countOfLine_14 ?_
        refine lv_iload_n hx hb dX4_countOfLine_17 rfl (lv_at hl 2 rfl) ?_
        refine zcall_get (rest := [.ref (ad 5)]) hx hb hml hown hts gX4_countOfLine_X3_get ⟨Nat.le_of_ble_eq_true rfl, Nat.le_of_ble_eq_true rfl⟩ ⟨Nat.zero_le _, Nat.zero_le _⟩ hK hj hw hA hS 9 (by decide) hl.1 (Nat.le_of_ble_eq_true rfl) dX4_countOfLine_18 (fun H locs hw hS => ?_)
        refine lv_topi (fun v1 ev1 => ?_)
        have h := h v1 ev1
        refine k_X4_isOfLine (rest := []) hx hb hml hown hts gX4_countOfLine_X4_isOfLine ⟨Nat.le_of_ble_eq_true rfl, Nat.le_of_ble_eq_true rfl⟩ ⟨Nat.zero_le _, Nat.zero_le _⟩ hK hj hw hA hS hl.1 (Nat.le_of_ble_eq_true rfl) dX4_countOfLine_21 h (fun r1 s1 H locs h hw hS => ?_)
        refine zif_eq (tgt := 30) hx hb dX4_countOfLine_24 (by decide) (fun c2 => ?_) (fun c2 => ?_)
        · have h := h.1 c2
          obtain ⟨x1, ex1⟩ : ∃ y : Int32, y = y2_4 + (jI 1) := ⟨_, rfl⟩
          have h := h x1 ex1
          refine lv_iinc (v := x1) (lv' := [(2, .int x1), (0, .ref (ad 5)), (1, .int y1_4)]) hx hb dX4_countOfLine_30 hl (k := 2) rfl (by rw [ex1]; rfl) (by decide) rfl (fun ls hl => ?_)
          refine lv_goto (tgt := 4) hx hb dX4_countOfLine_33 (by decide) ?_
          exact ih4 _ _ _ _ _ h hw hS _ (lv_sub hl [1, 2, 0] rfl)
        · have h := h.2 c2
          obtain ⟨x2, ex2⟩ : ∃ y : Int32, y = y1_4 + (jI 1) := ⟨_, rfl⟩
          have h := h x2 ex2
          refine lv_iinc (v := x2) (lv' := [(1, .int x2), (0, .ref (ad 5)), (2, .int y2_4)]) hx hb dX4_countOfLine_27 hl (k := 1) rfl (by rw [ex2]; rfl) (by decide) rfl (fun ls hl => ?_)
          obtain ⟨x3, ex3⟩ : ∃ y : Int32, y = y2_4 + (jI 1) := ⟨_, rfl⟩
          have h := h x3 ex3
          refine lv_iinc (v := x3) (lv' := [(2, .int x3), (1, .int x2), (0, .ref (ad 5))]) hx hb dX4_countOfLine_30 hl (k := 2) rfl (by rw [ex3]; rfl) (by decide) rfl (fun ls hl => ?_)
          refine lv_goto (tgt := 4) hx hb dX4_countOfLine_33 (by decide) ?_
          exact ih4 _ _ _ _ _ h hw hS _ (lv_sub hl [2, 1, 0] rfl)
  obtain ⟨nn4, h⟩ := h
  exact lp4 nn4 _ _ _ _ _ h hw hS _ (lv_sub hl [2, 1, 0] rfl)
theorem k_X4_countOfLine {p : Program} {l : Launch} {e : Env} {R : Room} {s : State} {m : MethodId} {args : Array Value} {below : List Frame} {meth : Method} {c : Code} {H : Heap} {locs : List Loc} {cells slots : Nat} {QQ : State → Prop} {cc : ByteArray} {pc nL index : Nat} {ls : Array Slot} {rest : List Value} {D : va_G} {cy : cyT} {ad : Nat → Nat} {own : String} {Ts : List Cond} {H0 : Heap} {σ : ST}  {Q : Int32 → ST → Prop} (hx : p.tables.exec = Jvm.exec) (hb : c.code = cc) (hml : c.maxLocals = nL) (hown : s.vm.findClass own = some m.cls) (hts : ∀ w ∈ Ts, w.before args s = true) (hG : GoodIn Ts (wsV own index RX4 yX4_countOfLine wsX4_countOfLine)) (hR : 2 + 1 ≤ R.frames ∧ 8 + (3 + 11) + 42 ≤ R.locals) (hcs : cells ≤ R.cells ∧ slots ≤ R.slots) (hK : zK D cy s) (hj : zI 116 ad) (hw : zW D 116 (zce cy ad σ) ad H) {A0 : Nat → Prop} (hA : ∀ i, i < 116 → A0 (ad i)) (hS : va_S A0 H0 H locs) (hsz : ls.size = nL) (hrest : (rest.map fun v => v.category).sum ≤ 8) (hdg : decode cc pc = .ok (.invokevirtual index, 3)) (h : wp_X4_countOfLine σ  Q) (kk : ∀ (r : Int32) (σ : ST) (H : Heap) (locs : List Loc), Q r σ → zW D 116 (zce cy ad σ) ad H → va_S A0 H0 H locs → W p l e R s m args below meth c H locs cells slots QQ (F0 m (pc + 3) ls (.int r :: rest))) : W p l e R s m args below meth c H locs cells slots QQ (F0 m pc ls (.ref (ad 5) :: rest)) :=
  zcalli (va_runV (As := []) (rest := rest) ⟨hx, hb, hml, hown, hts⟩ (c_X4_countOfLine l D cy ad σ  h) (cwV 0 hts hG rfl rfl rfl (by decide +kernel) hR) (zpreV hj hK hw _ (i := 5) (ci := 3) (by decide) rfl rfl) rfl rfl hsz rfl (lv_room hrest) hdg hcs) hA hS kk
set_option maxHeartbeats 4000000 in
set_option maxRecDepth 100000 in
theorem c_X4_beginLine (l : Launch) (D : va_G) (cy : cyT) (ad : Nat → Nat) (σ : ST) {Q : Int32 → ST → Prop} (h : wp_X4_beginLine σ Q) : Met l yX4_beginLine wsX4_beginLine ({ frames := 3, cells := 0, slots := 0, locals := 64 } : Room) (zPre D cy 116 (zce cy ad σ) ad [.ref (ad 5)]) (va_Qi Q (zB D 116 (zce cy ad) ad) (zA 116 ad)) 0 0 (zA 116 ad) := by
  refine Met.ofW (cc := cX4_beginLine) (maxL := 2) (ret := (some .int)) (by decide) rfl ?_
  intro p e s m args below meth c s₁ B hml hv
  obtain ⟨rfl, hj, hK, hw⟩ := hv
  have hx := B.exec
  have hb := B.bytes
  have hr := B.returns
  have hts := atoms_spec (ws := wsX4_beginLine) B.pre
  have hown : s.vm.findClass RX4 = some m.cls := findClass_of_methodNamed B.named
  have hlocks := B.notSynchronized
  have lk0 : Cond.fieldLink RX4 54 "TypeTrays$State" "line" "I" ∈ wsX4_beginLine := List.mem_of_getElem? (i := 1) rfl
  have inX4 : ∀ w ∈ u_ws RX4 TX4 18, w ∈ wsX4_beginLine := zin_at 20 rfl
  have hS : va_S (zA 116 ad) s.heap s.heap [] := va_S.rf
  have hA : ∀ i, i < 116 → zA 116 ad (ad i) := fun i hi => ⟨i, hi, rfl⟩
  have hl := lv_entry ([.ref (ad 5)]) (n := 2) (Nat.le_of_ble_eq_true rfl)
  rw [lg_entry_eq]
  generalize (lg_sl ([.ref (ad 5)]) ++ List.replicate (2 - (lg_sl ([.ref (ad 5)])).length) Slot.unset).toArray = ls at hl ⊢
  have hl : lv_has ls 2 [(0, .ref (ad 5))] := hl
  show W p l e ({ frames := 3, cells := 0, slots := 0, locals := 64 } : Room) s m ([.ref (ad 5)] : List Value).toArray below meth c s.heap [] 0 0 (MQ below (va_Qi Q (zB D 116 (zce cy ad) ad) (zA 116 ad)) ([.ref (ad 5)] : List Value).toArray s 0 0 (zA 116 ad)) (F0 m 0 ls [])
  unfold wp_X4_beginLine at h
  refine lv_aload_n hx hb dX4_beginLine_0 rfl (lv_at hl 0 rfl) ?_
  refine k_X4_countOfLine (rest := []) hx hb hml hown hts gX4_beginLine_X4_countOfLine ⟨Nat.le_of_ble_eq_true rfl, Nat.le_of_ble_eq_true rfl⟩ ⟨Nat.zero_le _, Nat.zero_le _⟩ hK hj hw hA hS hl.1 (Nat.le_of_ble_eq_true rfl) dX4_beginLine_1 h (fun r1 s1 H locs h hw hS => ?_)
  refine lv_istore_n (lv' := [(1, .int r1), (0, .ref (ad 5))]) hx hb dX4_beginLine_4 rfl hl (by decide) rfl (fun ls hl => ?_)
  refine lv_aload_n hx hb dX4_beginLine_5 rfl (lv_at hl 1 rfl) ?_
  refine lv_dup hx hb dX4_beginLine_6 rfl ?_
  refine zget hx hb hts inX4 hown hK hw 5 (by decide) rfl rfl 12 (by decide) lk0 (fun _ h9 => h9) rfl dX4_beginLine_7 ?_
  refine lv_iconst (v := (jI 1)) hx hb dX4_beginLine_10 rfl ?_
  refine lv_iadd hx hb dX4_beginLine_11 ?_
  obtain ⟨s2, es2⟩ : ∃ y : ST, y = zsp s1 2 ((s1.2 2) + (jI 1)) := ⟨_, rfl⟩
  have h := h s2 es2
  refine zput (ty := .int) hx hb hts inX4 tyX4 tyX4_ok nmX4 hown hK hj hw hA hS 5 (by decide) rfl rfl 12 (by decide) lk0 (fun _ h9 => h9) rfl (by decide +kernel) rfl rfl (Nat.le_of_ble_eq_true rfl) dX4_beginLine_12 (zce cy ad s2) (by rw [es2]; rfl) (fun j hj9 => by rw [es2]; exact zsp_off_C_2 j hj9) (fun H locs hw hS => ?_)
  refine lv_iload_n hx hb dX4_beginLine_15 rfl (lv_at hl 0 rfl) ?_
  exact W.iret (v := r1) hx hb hr (fun t ht hW => ⟨⟨_, _, rfl, h, zend hw ht⟩, hS.F ht⟩) hS.2.2 dX4_beginLine_16
theorem k_X4_beginLine {p : Program} {l : Launch} {e : Env} {R : Room} {s : State} {m : MethodId} {args : Array Value} {below : List Frame} {meth : Method} {c : Code} {H : Heap} {locs : List Loc} {cells slots : Nat} {QQ : State → Prop} {cc : ByteArray} {pc nL index : Nat} {ls : Array Slot} {rest : List Value} {D : va_G} {cy : cyT} {ad : Nat → Nat} {own : String} {Ts : List Cond} {H0 : Heap} {σ : ST}  {Q : Int32 → ST → Prop} (hx : p.tables.exec = Jvm.exec) (hb : c.code = cc) (hml : c.maxLocals = nL) (hown : s.vm.findClass own = some m.cls) (hts : ∀ w ∈ Ts, w.before args s = true) (hG : GoodIn Ts (wsV own index RX4 yX4_beginLine wsX4_beginLine)) (hR : 3 + 1 ≤ R.frames ∧ 8 + (2 + 11) + 64 ≤ R.locals) (hcs : cells ≤ R.cells ∧ slots ≤ R.slots) (hK : zK D cy s) (hj : zI 116 ad) (hw : zW D 116 (zce cy ad σ) ad H) {A0 : Nat → Prop} (hA : ∀ i, i < 116 → A0 (ad i)) (hS : va_S A0 H0 H locs) (hsz : ls.size = nL) (hrest : (rest.map fun v => v.category).sum ≤ 8) (hdg : decode cc pc = .ok (.invokevirtual index, 3)) (h : wp_X4_beginLine σ  Q) (kk : ∀ (r : Int32) (σ : ST) (H : Heap) (locs : List Loc), Q r σ → zW D 116 (zce cy ad σ) ad H → va_S A0 H0 H locs → W p l e R s m args below meth c H locs cells slots QQ (F0 m (pc + 3) ls (.int r :: rest))) : W p l e R s m args below meth c H locs cells slots QQ (F0 m pc ls (.ref (ad 5) :: rest)) :=
  zcalli (va_runV (As := []) (rest := rest) ⟨hx, hb, hml, hown, hts⟩ (c_X4_beginLine l D cy ad σ  h) (cwV 0 hts hG rfl rfl rfl (by decide +kernel) hR) (zpreV hj hK hw _ (i := 5) (ci := 3) (by decide) rfl rfl) rfl rfl hsz rfl (lv_room hrest) hdg hcs) hA hS kk
set_option maxHeartbeats 4000000 in
set_option maxRecDepth 100000 in
theorem c_X4_openTray (l : Launch) (D : va_G) (cy : cyT) (ad : Nat → Nat) (σ : ST) {Q : Int32 → ST → Prop} (h : wp_X4_openTray σ Q) : Met l yX4_openTray wsX4_openTray ({ frames := 0, cells := 0, slots := 0, locals := 0 } : Room) (zPre D cy 116 (zce cy ad σ) ad [.ref (ad 5)]) (va_Qi Q (zB D 116 (zce cy ad) ad) (zA 116 ad)) 0 0 (zA 116 ad) := by
  refine Met.ofW (cc := cX4_openTray) (maxL := 1) (ret := (some .int)) (by decide) rfl ?_
  intro p e s m args below meth c s₁ B hml hv
  obtain ⟨rfl, hj, hK, hw⟩ := hv
  have hx := B.exec
  have hb := B.bytes
  have hr := B.returns
  have hts := atoms_spec (ws := wsX4_openTray) B.pre
  have hown : s.vm.findClass RX4 = some m.cls := findClass_of_methodNamed B.named
  have hlocks := B.notSynchronized
  have lk0 : Cond.fieldLink RX4 51 "TypeTrays$State" "trays" "I" ∈ wsX4_openTray := List.mem_of_getElem? (i := 1) rfl
  have inX4 : ∀ w ∈ u_ws RX4 TX4 18, w ∈ wsX4_openTray := zin_at 2 rfl
  have hS : va_S (zA 116 ad) s.heap s.heap [] := va_S.rf
  have hA : ∀ i, i < 116 → zA 116 ad (ad i) := fun i hi => ⟨i, hi, rfl⟩
  have hl := lv_entry ([.ref (ad 5)]) (n := 1) (Nat.le_of_ble_eq_true rfl)
  rw [lg_entry_eq]
  generalize (lg_sl ([.ref (ad 5)]) ++ List.replicate (1 - (lg_sl ([.ref (ad 5)])).length) Slot.unset).toArray = ls at hl ⊢
  have hl : lv_has ls 1 [(0, .ref (ad 5))] := hl
  show W p l e ({ frames := 0, cells := 0, slots := 0, locals := 0 } : Room) s m ([.ref (ad 5)] : List Value).toArray below meth c s.heap [] 0 0 (MQ below (va_Qi Q (zB D 116 (zce cy ad) ad) (zA 116 ad)) ([.ref (ad 5)] : List Value).toArray s 0 0 (zA 116 ad)) (F0 m 0 ls [])
  unfold wp_X4_openTray at h
  refine lv_aload_n hx hb dX4_openTray_0 rfl (lv_at hl 0 rfl) ?_
  refine lv_dup hx hb dX4_openTray_1 rfl ?_
  refine zget hx hb hts inX4 hown hK hw 5 (by decide) rfl rfl 11 (by decide) lk0 (fun _ h9 => h9) rfl dX4_openTray_2 ?_
  refine lv_iconst (v := (jI 1)) hx hb dX4_openTray_5 rfl ?_
  refine lv_iadd hx hb dX4_openTray_6 ?_
  obtain ⟨s1, es1⟩ : ∃ y : ST, y = zsp σ 1 ((σ.2 1) + (jI 1)) := ⟨_, rfl⟩
  have h := h s1 es1
  refine zput (ty := .int) hx hb hts inX4 tyX4 tyX4_ok nmX4 hown hK hj hw hA hS 5 (by decide) rfl rfl 11 (by decide) lk0 (fun _ h9 => h9) rfl (by decide +kernel) rfl rfl (Nat.le_of_ble_eq_true rfl) dX4_openTray_7 (zce cy ad s1) (by rw [es1]; rfl) (fun j hj9 => by rw [es1]; exact zsp_off_C_1 j hj9) (fun H locs hw hS => ?_)
  refine lv_aload_n hx hb dX4_openTray_10 rfl (lv_at hl 0 rfl) ?_
  refine zget hx hb hts inX4 hown hK hw 5 (by decide) rfl rfl 11 (by decide) lk0 (fun _ h9 => h9) rfl dX4_openTray_11 ?_
  refine lv_iconst (v := (jI 1)) hx hb dX4_openTray_14 rfl ?_
  refine lv_isub hx hb dX4_openTray_15 ?_
  exact W.iret (v := ((s1.2 1) - (jI 1))) hx hb hr (fun t ht hW => ⟨⟨_, _, rfl, h, zend hw ht⟩, hS.F ht⟩) hS.2.2 dX4_openTray_16
theorem k_X4_openTray {p : Program} {l : Launch} {e : Env} {R : Room} {s : State} {m : MethodId} {args : Array Value} {below : List Frame} {meth : Method} {c : Code} {H : Heap} {locs : List Loc} {cells slots : Nat} {QQ : State → Prop} {cc : ByteArray} {pc nL index : Nat} {ls : Array Slot} {rest : List Value} {D : va_G} {cy : cyT} {ad : Nat → Nat} {own : String} {Ts : List Cond} {H0 : Heap} {σ : ST}  {Q : Int32 → ST → Prop} (hx : p.tables.exec = Jvm.exec) (hb : c.code = cc) (hml : c.maxLocals = nL) (hown : s.vm.findClass own = some m.cls) (hts : ∀ w ∈ Ts, w.before args s = true) (hG : GoodIn Ts (wsV own index RX4 yX4_openTray wsX4_openTray)) (hR : 0 + 1 ≤ R.frames ∧ 8 + (1 + 11) + 0 ≤ R.locals) (hcs : cells ≤ R.cells ∧ slots ≤ R.slots) (hK : zK D cy s) (hj : zI 116 ad) (hw : zW D 116 (zce cy ad σ) ad H) {A0 : Nat → Prop} (hA : ∀ i, i < 116 → A0 (ad i)) (hS : va_S A0 H0 H locs) (hsz : ls.size = nL) (hrest : (rest.map fun v => v.category).sum ≤ 8) (hdg : decode cc pc = .ok (.invokevirtual index, 3)) (h : wp_X4_openTray σ  Q) (kk : ∀ (r : Int32) (σ : ST) (H : Heap) (locs : List Loc), Q r σ → zW D 116 (zce cy ad σ) ad H → va_S A0 H0 H locs → W p l e R s m args below meth c H locs cells slots QQ (F0 m (pc + 3) ls (.int r :: rest))) : W p l e R s m args below meth c H locs cells slots QQ (F0 m pc ls (.ref (ad 5) :: rest)) :=
  zcalli (va_runV (As := []) (rest := rest) ⟨hx, hb, hml, hown, hts⟩ (c_X4_openTray l D cy ad σ  h) (cwV 0 hts hG rfl rfl rfl (by decide +kernel) hR) (zpreV hj hK hw _ (i := 5) (ci := 3) (by decide) rfl rfl) rfl rfl hsz rfl (lv_room hrest) hdg hcs) hA hS kk
set_option maxHeartbeats 4000000 in
set_option maxRecDepth 100000 in
theorem c_X4_closeShelf (l : Launch) (D : va_G) (cy : cyT) (ad : Nat → Nat) (σ : ST) (p0 : Int32) {Q : ST → Prop} (h : wp_X4_closeShelf σ p0 Q) : Met l yX4_closeShelf wsX4_closeShelf ({ frames := 1, cells := 0, slots := 0, locals := 22 } : Room) (zPre D cy 116 (zce cy ad σ) ad [.ref (ad 5), .int p0]) (va_Qv Q (zB D 116 (zce cy ad) ad) (zA 116 ad)) 0 0 (zA 116 ad) := by
  refine Met.ofW (cc := cX4_closeShelf) (maxL := 6) (ret := none) (by decide) rfl ?_
  intro p e s m args below meth c s₁ B hml hv
  obtain ⟨rfl, hj, hK, hw⟩ := hv
  have hx := B.exec
  have hb := B.bytes
  have hr := B.returns
  have hts := atoms_spec (ws := wsX4_closeShelf) B.pre
  have hown : s.vm.findClass RX4 = some m.cls := findClass_of_methodNamed B.named
  have hlocks := B.notSynchronized
  have lk0 : Cond.fieldLink RX4 23 "TypeTrays$State" "shelfHeights" "LTypeTrays$Row;" ∈ wsX4_closeShelf := List.mem_of_getElem? (i := 1) rfl
  have lk1 : Cond.fieldLink RX4 47 "TypeTrays$State" "presentCount" "I" ∈ wsX4_closeShelf := List.mem_of_getElem? (i := 2) rfl
  have lk2 : Cond.fieldLink RX4 44 "TypeTrays$State" "present" "LTypeTrays$Row;" ∈ wsX4_closeShelf := List.mem_of_getElem? (i := 3) rfl
  have lk3 : Cond.fieldLink RX4 26 "TypeTrays$State" "slots" "LTypeTrays$Row;" ∈ wsX4_closeShelf := List.mem_of_getElem? (i := 4) rfl
  have inX4 : ∀ w ∈ u_ws RX4 TX4 18, w ∈ wsX4_closeShelf := zin_at 15 rfl
  have hS : va_S (zA 116 ad) s.heap s.heap [] := va_S.rf
  have hA : ∀ i, i < 116 → zA 116 ad (ad i) := fun i hi => ⟨i, hi, rfl⟩
  have hl := lv_entry ([.ref (ad 5), .int p0]) (n := 6) (Nat.le_of_ble_eq_true rfl)
  rw [lg_entry_eq]
  generalize (lg_sl ([.ref (ad 5), .int p0]) ++ List.replicate (6 - (lg_sl ([.ref (ad 5), .int p0])).length) Slot.unset).toArray = ls at hl ⊢
  have hl : lv_has ls 6 [(0, .ref (ad 5)), (1, .int p0)] := hl
  show W p l e ({ frames := 1, cells := 0, slots := 0, locals := 22 } : Room) s m ([.ref (ad 5), .int p0] : List Value).toArray below meth c s.heap [] 0 0 (MQ below (va_Qv Q (zB D 116 (zce cy ad) ad) (zA 116 ad)) ([.ref (ad 5), .int p0] : List Value).toArray s 0 0 (zA 116 ad)) (F0 m 0 ls [])
  unfold wp_X4_closeShelf at h
  refine lv_iload_n hx hb dX4_closeShelf_0 rfl (lv_at hl 1 rfl) ?_
  refine lv_bipush (v := (jI 24)) hx hb dX4_closeShelf_1 (by decide +kernel) ?_
  refine lv_idiv hx hb dX4_closeShelf_3 (by decide +kernel) ?_
  refine lv_bipush (v := (jI 24)) hx hb dX4_closeShelf_4 (by decide +kernel) ?_
  refine lv_imul hx hb dX4_closeShelf_6 ?_
  refine lv_bipush (v := (jI 24)) hx hb dX4_closeShelf_7 (by decide +kernel) ?_
  refine lv_iadd hx hb dX4_closeShelf_9 ?_
  refine lv_iconst (v := (jI 1)) hx hb dX4_closeShelf_10 rfl ?_
  refine lv_isub hx hb dX4_closeShelf_11 ?_
  refine lv_topi (fun x1 ex1 => ?_)
  have h := h x1 ex1
  refine lv_istore_n (lv' := [(2, .int x1), (0, .ref (ad 5)), (1, .int p0)]) hx hb dX4_closeShelf_12 rfl hl (by decide) rfl (fun ls hl => ?_)
  refine lv_iload_n hx hb dX4_closeShelf_13 rfl (lv_at hl 2 rfl) ?_
  refine lv_istore_n (lv' := [(3, .int p0), (2, .int x1), (0, .ref (ad 5)), (1, .int p0)]) hx hb dX4_closeShelf_14 rfl hl (by decide) rfl (fun ls hl => ?_)
  have k44_15 : ∀ (u_44 : ST) (H : Heap) (locs : List Loc), (∀ s2 : ST, s2 = zrs u_44 2 x1 (jI 0) → (∃ nn : Nat, wl_X4_closeShelf_55 (fun u_115 => Q u_115) p0 x1 nn s2 (jI 0))) → zW D 116 (zce cy ad u_44) ad H → va_S (zA 116 ad) s.heap H locs → ∀ ls : Array Slot, lv_has ls 6 [(0, .ref (ad 5)), (1, .int p0), (2, .int x1)] → W p l e ({ frames := 1, cells := 0, slots := 0, locals := 22 } : Room) s m ([.ref (ad 5), .int p0] : List Value).toArray below meth c H locs 0 0 (MQ below (va_Qv Q (zB D 116 (zce cy ad) ad) (zA 116 ad)) ([.ref (ad 5), .int p0] : List Value).toArray s 0 0 (zA 116 ad)) (F0 m 44 ls []) := by
    intro u_44 H locs h hw hS ls hl
    refine lv_aload_n hx hb dX4_closeShelf_44 rfl (lv_at hl 0 rfl) ?_
    refine zget hx hb hts inX4 hown hK hw 5 (by decide) rfl rfl 2 (by decide) lk0 (fun _ h9 => h9) rfl dX4_closeShelf_45 ?_
    refine lv_iload_n hx hb dX4_closeShelf_48 rfl (lv_at hl 2 rfl) ?_
    refine lv_iconst (v := (jI 0)) hx hb dX4_closeShelf_49 rfl ?_
    obtain ⟨s2, es2⟩ : ∃ y : ST, y = zrs u_44 2 x1 (jI 0) := ⟨_, rfl⟩
    have h := h s2 es2
    refine zcall_put (rest := []) hx hb hml hown hts gX4_closeShelf_X3_put ⟨Nat.le_of_ble_eq_true rfl, Nat.le_of_ble_eq_true rfl⟩ ⟨Nat.zero_le _, Nat.zero_le _⟩ hK hj hw hA hS 2 (by decide) hl.1 (Nat.le_of_ble_eq_true rfl) dX4_closeShelf_50 (fun H locs hw hS => ?_)
    rw [← es2] at hw
    refine lv_iconst (v := (jI 0)) hx hb dX4_closeShelf_53 rfl ?_
    refine lv_istore_n (lv' := [(3, .int (jI 0)), (0, .ref (ad 5)), (1, .int p0), (2, .int x1)]) hx hb dX4_closeShelf_54 rfl hl (by decide) rfl (fun ls hl => ?_)
    have k115_55 : ∀ (u_115 : ST) (H : Heap) (locs : List Loc), Q u_115 → zW D 116 (zce cy ad u_115) ad H → va_S (zA 116 ad) s.heap H locs → ∀ ls : Array Slot, lv_has ls 6 [] → W p l e ({ frames := 1, cells := 0, slots := 0, locals := 22 } : Room) s m ([.ref (ad 5), .int p0] : List Value).toArray below meth c H locs 0 0 (MQ below (va_Qv Q (zB D 116 (zce cy ad) ad) (zA 116 ad)) ([.ref (ad 5), .int p0] : List Value).toArray s 0 0 (zA 116 ad)) (F0 m 115 ls []) := by
      intro u_115 H locs h hw hS ls hl
      exact W.vret hx hb hr (fun t ht hW => ⟨⟨_, rfl, h, zend hw ht⟩, hS.F ht⟩) hS.2.2 dX4_closeShelf_115
    have lp55 : ∀ (nn55 : Nat) (t_55 : ST) (y3_55 : Int32) (H : Heap) (locs : List Loc), wl_X4_closeShelf_55 (fun u_115 => Q u_115) p0 x1 nn55 t_55 y3_55 → zW D 116 (zce cy ad t_55) ad H → va_S (zA 116 ad) s.heap H locs → ∀ ls : Array Slot, lv_has ls 6 [(0, .ref (ad 5)), (1, .int p0), (2, .int x1), (3, .int y3_55)] → W p l e ({ frames := 1, cells := 0, slots := 0, locals := 22 } : Room) s m ([.ref (ad 5), .int p0] : List Value).toArray below meth c H locs 0 0 (MQ below (va_Qv Q (zB D 116 (zce cy ad) ad) (zA 116 ad)) ([.ref (ad 5), .int p0] : List Value).toArray s 0 0 (zA 116 ad)) (F0 m 55 ls []) := by
      intro nn55
      induction nn55 with
      | zero => intro _ _ _ _ h; exact h.elim
      | succ nn55 ih55 =>
        intro t_55 y3_55 H locs h hw hS ls hl
        simp only [wl_X4_closeShelf_55, wb_X4_closeShelf_55] at h
        refine lv_iload_n hx hb dX4_closeShelf_55 rfl (lv_at hl 3 rfl) ?_
        refine lv_aload_n hx hb dX4_closeShelf_56 rfl (lv_at hl 0 rfl) ?_
        refine zget hx hb hts inX4 hown hK hw 5 (by decide) rfl rfl 10 (by decide) lk1 (fun _ h9 => h9) rfl dX4_closeShelf_57 ?_
        refine lv_icmp_ge (tgt := 115) hx hb dX4_closeShelf_60 (by decide) (fun c2 => ?_) (fun c2 => ?_)
        · have h := h.1 c2
          exact k115_55 _ _ _ h hw hS _ (lv_sub hl [] rfl)
        · have h := h.2 c2
          refine lv_aload_n hx hb dX4_closeShelf_63 rfl (lv_at hl 0 rfl) ?_
          refine zget hx hb hts inX4 hown hK hw 5 (by decide) rfl rfl 9 (by decide) lk2 (fun _ h9 => h9) rfl dX4_closeShelf_64 ?_
          refine lv_iload_n hx hb dX4_closeShelf_67 rfl (lv_at hl 3 rfl) ?_
          refine zcall_get (rest := []) hx hb hml hown hts gX4_closeShelf_X3_get ⟨Nat.le_of_ble_eq_true rfl, Nat.le_of_ble_eq_true rfl⟩ ⟨Nat.zero_le _, Nat.zero_le _⟩ hK hj hw hA hS 9 (by decide) hl.1 (Nat.le_of_ble_eq_true rfl) dX4_closeShelf_68 (fun H locs hw hS => ?_)
          refine lv_topi (fun v2 ev2 => ?_)
          have h := h v2 ev2
          refine lv_istore (lv' := [(4, .int v2), (0, .ref (ad 5)), (1, .int p0), (2, .int x1), (3, .int y3_55)]) hx hb dX4_closeShelf_71 hl (by decide) rfl (fun ls hl => ?_)
          refine lv_aload_n hx hb dX4_closeShelf_73 rfl (lv_at hl 1 rfl) ?_
          refine zget hx hb hts inX4 hown hK hw 5 (by decide) rfl rfl 3 (by decide) lk3 (fun _ h9 => h9) rfl dX4_closeShelf_74 ?_
          refine lv_iload hx hb dX4_closeShelf_77 (lv_at hl 0 rfl) ?_
          refine zcall_get (rest := []) hx hb hml hown hts gX4_closeShelf_X3_get ⟨Nat.le_of_ble_eq_true rfl, Nat.le_of_ble_eq_true rfl⟩ ⟨Nat.zero_le _, Nat.zero_le _⟩ hK hj hw hA hS 3 (by decide) hl.1 (Nat.le_of_ble_eq_true rfl) dX4_closeShelf_79 (fun H locs hw hS => ?_)
          refine lv_topi (fun v3 ev3 => ?_)
          have h := h v3 ev3
          refine lv_istore (lv' := [(5, .int v3), (4, .int v2), (0, .ref (ad 5)), (1, .int p0), (2, .int x1), (3, .int y3_55)]) hx hb dX4_closeShelf_82 hl (by decide) rfl (fun ls hl => ?_)
          refine lv_iload hx hb dX4_closeShelf_84 (lv_at hl 0 rfl) ?_
          refine lv_iload_n hx hb dX4_closeShelf_86 rfl (lv_at hl 3 rfl) ?_
          refine lv_icmp_le (tgt := 109) hx hb dX4_closeShelf_87 (by decide) (fun c3 => ?_) (fun c3 => ?_)
          · have h := h.1 c3
            obtain ⟨x3, ex3⟩ : ∃ y : Int32, y = y3_55 + (jI 1) := ⟨_, rfl⟩
            have h := h x3 ex3
            refine lv_iinc (v := x3) (lv' := [(3, .int x3), (5, .int v3), (4, .int v2), (0, .ref (ad 5)), (1, .int p0), (2, .int x1)]) hx hb dX4_closeShelf_109 hl (k := 5) rfl (by rw [ex3]; rfl) (by decide) rfl (fun ls hl => ?_)
            refine lv_goto (tgt := 55) hx hb dX4_closeShelf_112 (by decide) ?_
            exact ih55 _ _ _ _ h hw hS _ (lv_sub hl [3, 4, 5, 0] rfl)
          · have h := h.2 c3
            refine lv_iload hx hb dX4_closeShelf_90 (lv_at hl 0 rfl) ?_
            refine lv_iload_n hx hb dX4_closeShelf_92 rfl (lv_at hl 4 rfl) ?_
            refine lv_icmp_gt (tgt := 109) hx hb dX4_closeShelf_93 (by decide) (fun c4 => ?_) (fun c4 => ?_)
            · have h := h.1 c4
              obtain ⟨x4, ex4⟩ : ∃ y : Int32, y = y3_55 + (jI 1) := ⟨_, rfl⟩
              have h := h x4 ex4
              refine lv_iinc (v := x4) (lv' := [(3, .int x4), (5, .int v3), (4, .int v2), (0, .ref (ad 5)), (1, .int p0), (2, .int x1)]) hx hb dX4_closeShelf_109 hl (k := 5) rfl (by rw [ex4]; rfl) (by decide) rfl (fun ls hl => ?_)
              refine lv_goto (tgt := 55) hx hb dX4_closeShelf_112 (by decide) ?_
              exact ih55 _ _ _ _ h hw hS _ (lv_sub hl [3, 4, 5, 0] rfl)
            · have h := h.2 c4
              refine lv_aload_n hx hb dX4_closeShelf_96 rfl (lv_at hl 2 rfl) ?_
              refine zget hx hb hts inX4 hown hK hw 5 (by decide) rfl rfl 3 (by decide) lk3 (fun _ h9 => h9) rfl dX4_closeShelf_97 ?_
              refine lv_iload hx hb dX4_closeShelf_100 (lv_at hl 1 rfl) ?_
              refine lv_iload hx hb dX4_closeShelf_102 (lv_at hl 0 rfl) ?_
              refine lv_iconst (v := (jI 1)) hx hb dX4_closeShelf_104 rfl ?_
              refine lv_isub hx hb dX4_closeShelf_105 ?_
              obtain ⟨s3, es3⟩ : ∃ y : ST, y = zrs t_55 3 v2 (v3 - (jI 1)) := ⟨_, rfl⟩
              have h := h s3 es3
              refine zcall_put (rest := []) hx hb hml hown hts gX4_closeShelf_X3_put ⟨Nat.le_of_ble_eq_true rfl, Nat.le_of_ble_eq_true rfl⟩ ⟨Nat.zero_le _, Nat.zero_le _⟩ hK hj hw hA hS 3 (by decide) hl.1 (Nat.le_of_ble_eq_true rfl) dX4_closeShelf_106 (fun H locs hw hS => ?_)
              rw [← es3] at hw
              obtain ⟨x5, ex5⟩ : ∃ y : Int32, y = y3_55 + (jI 1) := ⟨_, rfl⟩
              have h := h x5 ex5
              refine lv_iinc (v := x5) (lv' := [(3, .int x5), (5, .int v3), (4, .int v2), (0, .ref (ad 5)), (1, .int p0), (2, .int x1)]) hx hb dX4_closeShelf_109 hl (k := 5) rfl (by rw [ex5]; rfl) (by decide) rfl (fun ls hl => ?_)
              refine lv_goto (tgt := 55) hx hb dX4_closeShelf_112 (by decide) ?_
              exact ih55 _ _ _ _ h hw hS _ (lv_sub hl [3, 4, 5, 0] rfl)
    obtain ⟨nn55, h⟩ := h
    exact lp55 nn55 _ _ _ _ h hw hS _ (lv_sub hl [1, 2, 3, 0] rfl)
  have lp15 : ∀ (nn15 : Nat) (t_15 : ST) (y3_15 : Int32) (H : Heap) (locs : List Loc), wl_X4_closeShelf_15 (fun u_44 => (∀ s2 : ST, s2 = zrs u_44 2 x1 (jI 0) → (∃ nn : Nat, wl_X4_closeShelf_55 (fun u_115 => Q u_115) p0 x1 nn s2 (jI 0)))) p0 x1 nn15 t_15 y3_15 → zW D 116 (zce cy ad t_15) ad H → va_S (zA 116 ad) s.heap H locs → ∀ ls : Array Slot, lv_has ls 6 [(0, .ref (ad 5)), (1, .int p0), (2, .int x1), (3, .int y3_15)] → W p l e ({ frames := 1, cells := 0, slots := 0, locals := 22 } : Room) s m ([.ref (ad 5), .int p0] : List Value).toArray below meth c H locs 0 0 (MQ below (va_Qv Q (zB D 116 (zce cy ad) ad) (zA 116 ad)) ([.ref (ad 5), .int p0] : List Value).toArray s 0 0 (zA 116 ad)) (F0 m 15 ls []) := by
    intro nn15
    induction nn15 with
    | zero => intro _ _ _ _ h; exact h.elim
    | succ nn15 ih15 =>
      intro t_15 y3_15 H locs h hw hS ls hl
      simp only [wl_X4_closeShelf_15, wb_X4_closeShelf_15] at h
      refine lv_iload_n hx hb dX4_closeShelf_15 rfl (lv_at hl 3 rfl) ?_
      refine lv_iload_n hx hb dX4_closeShelf_16 rfl (lv_at hl 2 rfl) ?_
      refine lv_icmp_ge (tgt := 44) hx hb dX4_closeShelf_17 (by decide) (fun c1 => ?_) (fun c1 => ?_)
      · have h := h.1 c1
        exact k44_15 _ _ _ h hw hS _ (lv_sub hl [0, 1, 2] rfl)
      · have h := h.2 c1
        refine lv_aload_n hx hb dX4_closeShelf_20 rfl (lv_at hl 0 rfl) ?_
        refine zget hx hb hts inX4 hown hK hw 5 (by decide) rfl rfl 2 (by decide) lk0 (fun _ h9 => h9) rfl dX4_closeShelf_21 ?_
        refine lv_iload_n hx hb dX4_closeShelf_24 rfl (lv_at hl 3 rfl) ?_
        refine lv_aload_n hx hb dX4_closeShelf_25 rfl (lv_at hl 0 rfl) ?_
        refine zget hx hb hts inX4 hown hK hw 5 (by decide) rfl rfl 2 (by decide) lk0 (fun _ h9 => h9) rfl dX4_closeShelf_26 ?_
        refine lv_iload_n hx hb dX4_closeShelf_29 rfl (lv_at hl 3 rfl) ?_
        refine lv_iconst (v := (jI 1)) hx hb dX4_closeShelf_30 rfl ?_
        refine lv_iadd hx hb dX4_closeShelf_31 ?_
        refine zcall_get (rest := [.int y3_15, .ref (ad 14)]) hx hb hml hown hts gX4_closeShelf_X3_get ⟨Nat.le_of_ble_eq_true rfl, Nat.le_of_ble_eq_true rfl⟩ ⟨Nat.zero_le _, Nat.zero_le _⟩ hK hj hw hA hS 2 (by decide) hl.1 (Nat.le_of_ble_eq_true rfl) dX4_closeShelf_32 (fun H locs hw hS => ?_)
        refine lv_topi (fun v1 ev1 => ?_)
        have h := h v1 ev1
        obtain ⟨s1, es1⟩ : ∃ y : ST, y = zrs t_15 2 y3_15 v1 := ⟨_, rfl⟩
        have h := h s1 es1
        refine zcall_put (rest := []) hx hb hml hown hts gX4_closeShelf_X3_put ⟨Nat.le_of_ble_eq_true rfl, Nat.le_of_ble_eq_true rfl⟩ ⟨Nat.zero_le _, Nat.zero_le _⟩ hK hj hw hA hS 2 (by decide) hl.1 (Nat.le_of_ble_eq_true rfl) dX4_closeShelf_35 (fun H locs hw hS => ?_)
        rw [← es1] at hw
        obtain ⟨x2, ex2⟩ : ∃ y : Int32, y = y3_15 + (jI 1) := ⟨_, rfl⟩
        have h := h x2 ex2
        refine lv_iinc (v := x2) (lv' := [(3, .int x2), (0, .ref (ad 5)), (1, .int p0), (2, .int x1)]) hx hb dX4_closeShelf_38 hl (k := 3) rfl (by rw [ex2]; rfl) (by decide) rfl (fun ls hl => ?_)
        refine lv_goto (tgt := 15) hx hb dX4_closeShelf_41 (by decide) ?_
        exact ih15 _ _ _ _ h hw hS _ (lv_sub hl [1, 2, 3, 0] rfl)
  obtain ⟨nn15, h⟩ := h
  exact lp15 nn15 _ _ _ _ h hw hS _ (lv_sub hl [2, 3, 1, 0] rfl)
theorem k_X4_closeShelf {p : Program} {l : Launch} {e : Env} {R : Room} {s : State} {m : MethodId} {args : Array Value} {below : List Frame} {meth : Method} {c : Code} {H : Heap} {locs : List Loc} {cells slots : Nat} {QQ : State → Prop} {cc : ByteArray} {pc nL index : Nat} {ls : Array Slot} {rest : List Value} {D : va_G} {cy : cyT} {ad : Nat → Nat} {own : String} {Ts : List Cond} {H0 : Heap} {σ : ST} {p0 : Int32} {Q : ST → Prop} (hx : p.tables.exec = Jvm.exec) (hb : c.code = cc) (hml : c.maxLocals = nL) (hown : s.vm.findClass own = some m.cls) (hts : ∀ w ∈ Ts, w.before args s = true) (hG : GoodIn Ts (wsV own index RX4 yX4_closeShelf wsX4_closeShelf)) (hR : 1 + 1 ≤ R.frames ∧ 8 + (6 + 11) + 22 ≤ R.locals) (hcs : cells ≤ R.cells ∧ slots ≤ R.slots) (hK : zK D cy s) (hj : zI 116 ad) (hw : zW D 116 (zce cy ad σ) ad H) {A0 : Nat → Prop} (hA : ∀ i, i < 116 → A0 (ad i)) (hS : va_S A0 H0 H locs) (hsz : ls.size = nL) (hrest : (rest.map fun v => v.category).sum ≤ 8) (hdg : decode cc pc = .ok (.invokevirtual index, 3)) (h : wp_X4_closeShelf σ p0 Q) (kk : ∀ (σ : ST) (H : Heap) (locs : List Loc), Q σ → zW D 116 (zce cy ad σ) ad H → va_S A0 H0 H locs → W p l e R s m args below meth c H locs cells slots QQ (F0 m (pc + 3) ls rest)) : W p l e R s m args below meth c H locs cells slots QQ (F0 m pc ls (.int p0 :: .ref (ad 5) :: rest)) :=
  zcallv (va_runV (As := [.int p0]) (rest := rest) ⟨hx, hb, hml, hown, hts⟩ (c_X4_closeShelf l D cy ad σ p0 h) (cwV 1 hts hG rfl rfl rfl (by decide +kernel) hR) (zpreV hj hK hw _ (i := 5) (ci := 3) (by decide) rfl rfl) rfl rfl hsz rfl (lv_room hrest) hdg hcs) hA hS kk
set_option maxHeartbeats 4000000 in
set_option maxRecDepth 100000 in
theorem c_X4_closeEmptyShelves (l : Launch) (D : va_G) (cy : cyT) (ad : Nat → Nat) (σ : ST) {Q : Int32 → ST → Prop} (h : wp_X4_closeEmptyShelves σ Q) : Met l yX4_closeEmptyShelves wsX4_closeEmptyShelves ({ frames := 2, cells := 0, slots := 0, locals := 47 } : Room) (zPre D cy 116 (zce cy ad σ) ad [.ref (ad 5)]) (va_Qi Q (zB D 116 (zce cy ad) ad) (zA 116 ad)) 0 0 (zA 116 ad) := by
  refine Met.ofW (cc := cX4_closeEmptyShelves) (maxL := 3) (ret := (some .int)) (by decide) rfl ?_
  intro p e s m args below meth c s₁ B hml hv
  obtain ⟨rfl, hj, hK, hw⟩ := hv
  have hx := B.exec
  have hb := B.bytes
  have hr := B.returns
  have hts := atoms_spec (ws := wsX4_closeEmptyShelves) B.pre
  have hown : s.vm.findClass RX4 = some m.cls := findClass_of_methodNamed B.named
  have hlocks := B.notSynchronized
  have lk0 : Cond.fieldLink RX4 23 "TypeTrays$State" "shelfHeights" "LTypeTrays$Row;" ∈ wsX4_closeEmptyShelves := List.mem_of_getElem? (i := 1) rfl
  have inX4 : ∀ w ∈ u_ws RX4 TX4 18, w ∈ wsX4_closeEmptyShelves := zin_at 24 rfl
  have hS : va_S (zA 116 ad) s.heap s.heap [] := va_S.rf
  have hA : ∀ i, i < 116 → zA 116 ad (ad i) := fun i hi => ⟨i, hi, rfl⟩
  have hl := lv_entry ([.ref (ad 5)]) (n := 3) (Nat.le_of_ble_eq_true rfl)
  rw [lg_entry_eq]
  generalize (lg_sl ([.ref (ad 5)]) ++ List.replicate (3 - (lg_sl ([.ref (ad 5)])).length) Slot.unset).toArray = ls at hl ⊢
  have hl : lv_has ls 3 [(0, .ref (ad 5))] := hl
  show W p l e ({ frames := 2, cells := 0, slots := 0, locals := 47 } : Room) s m ([.ref (ad 5)] : List Value).toArray below meth c s.heap [] 0 0 (MQ below (va_Qi Q (zB D 116 (zce cy ad) ad) (zA 116 ad)) ([.ref (ad 5)] : List Value).toArray s 0 0 (zA 116 ad)) (F0 m 0 ls [])
  unfold wp_X4_closeEmptyShelves at h
  refine lv_iconst (v := (jI 0)) hx hb dX4_closeEmptyShelves_0 rfl ?_
  refine lv_istore_n (lv' := [(1, .int (jI 0)), (0, .ref (ad 5))]) hx hb dX4_closeEmptyShelves_1 rfl hl (by decide) rfl (fun ls hl => ?_)
  refine lv_bipush (v := (jI 71)) hx hb dX4_closeEmptyShelves_2 (by decide +kernel) ?_
  refine lv_istore_n (lv' := [(2, .int (jI 71)), (1, .int (jI 0)), (0, .ref (ad 5))]) hx hb dX4_closeEmptyShelves_4 rfl hl (by decide) rfl (fun ls hl => ?_)
  have k42_5 : ∀ (u_42 : ST) (z1_42 : Int32) (H : Heap) (locs : List Loc), Q z1_42 u_42 → zW D 116 (zce cy ad u_42) ad H → va_S (zA 116 ad) s.heap H locs → ∀ ls : Array Slot, lv_has ls 3 [(1, .int z1_42)] → W p l e ({ frames := 2, cells := 0, slots := 0, locals := 47 } : Room) s m ([.ref (ad 5)] : List Value).toArray below meth c H locs 0 0 (MQ below (va_Qi Q (zB D 116 (zce cy ad) ad) (zA 116 ad)) ([.ref (ad 5)] : List Value).toArray s 0 0 (zA 116 ad)) (F0 m 42 ls []) := by
    intro u_42 z1_42 H locs h hw hS ls hl
    refine lv_iload_n hx hb dX4_closeEmptyShelves_42 rfl (lv_at hl 0 rfl) ?_
    exact W.iret (v := z1_42) hx hb hr (fun t ht hW => ⟨⟨_, _, rfl, h, zend hw ht⟩, hS.F ht⟩) hS.2.2 dX4_closeEmptyShelves_43
  have lp5 : ∀ (nn5 : Nat) (t_5 : ST) (y1_5 : Int32) (y2_5 : Int32) (H : Heap) (locs : List Loc), wl_X4_closeEmptyShelves_5 (fun u_42 z1_42 => Q z1_42 u_42)  nn5 t_5 y1_5 y2_5 → zW D 116 (zce cy ad t_5) ad H → va_S (zA 116 ad) s.heap H locs → ∀ ls : Array Slot, lv_has ls 3 [(0, .ref (ad 5)), (1, .int y1_5), (2, .int y2_5)] → W p l e ({ frames := 2, cells := 0, slots := 0, locals := 47 } : Room) s m ([.ref (ad 5)] : List Value).toArray below meth c H locs 0 0 (MQ below (va_Qi Q (zB D 116 (zce cy ad) ad) (zA 116 ad)) ([.ref (ad 5)] : List Value).toArray s 0 0 (zA 116 ad)) (F0 m 5 ls []) := by
    intro nn5
    induction nn5 with
    | zero => intro _ _ _ _ _ h; exact h.elim
    | succ nn5 ih5 =>
      intro t_5 y1_5 y2_5 H locs h hw hS ls hl
      simp only [wl_X4_closeEmptyShelves_5, wb_X4_closeEmptyShelves_5] at h
      refine lv_iload_n hx hb dX4_closeEmptyShelves_5 rfl (lv_at hl 2 rfl) ?_
      refine zif_lt (tgt := 42) hx hb dX4_closeEmptyShelves_6 (by decide) (fun c1 => ?_) (fun c1 => ?_)
      · have h := h.1 c1
        exact k42_5 _ _ _ _ h hw hS _ (lv_sub hl [1] rfl)
      · have h := h.2 c1
        refine lv_aload_n hx hb dX4_closeEmptyShelves_9 rfl (lv_at hl 0 rfl) ?_
        refine zget hx hb hts inX4 hown hK hw 5 (by decide) rfl rfl 2 (by decide) lk0 (fun _ h9 => h9) rfl dX4_closeEmptyShelves_10 ?_
        refine lv_iload_n hx hb dX4_closeEmptyShelves_13 rfl (lv_at hl 2 rfl) ?_
        refine zcall_get (rest := []) hx hb hml hown hts gX4_closeEmptyShelves_X3_get ⟨Nat.le_of_ble_eq_true rfl, Nat.le_of_ble_eq_true rfl⟩ ⟨Nat.zero_le _, Nat.zero_le _⟩ hK hj hw hA hS 2 (by decide) hl.1 (Nat.le_of_ble_eq_true rfl) dX4_closeEmptyShelves_14 (fun H locs hw hS => ?_)
        refine lv_topi (fun v1 ev1 => ?_)
        have h := h v1 ev1
        refine zif_le (tgt := 36) hx hb dX4_closeEmptyShelves_17 (by decide) (fun c2 => ?_) (fun c2 => ?_)
        · have h := h.1 c2
          obtain ⟨x1, ex1⟩ : ∃ y : Int32, y = y2_5 + (jI (-1)) := ⟨_, rfl⟩
          have h := h x1 ex1
          refine lv_iinc (v := x1) (lv' := [(2, .int x1), (0, .ref (ad 5)), (1, .int y1_5)]) hx hb dX4_closeEmptyShelves_36 hl (k := 2) rfl (by rw [ex1]; rfl) (by decide) rfl (fun ls hl => ?_)
          refine lv_goto (tgt := 5) hx hb dX4_closeEmptyShelves_39 (by decide) ?_
          exact ih5 _ _ _ _ _ h hw hS _ (lv_sub hl [1, 2, 0] rfl)
        · have h := h.2 c2
          refine lv_aload_n hx hb dX4_closeEmptyShelves_20 rfl (lv_at hl 0 rfl) ?_
          refine lv_iload_n hx hb dX4_closeEmptyShelves_21 rfl (lv_at hl 2 rfl) ?_
          refine k_X4_countOnShelf (rest := []) hx hb hml hown hts gX4_closeEmptyShelves_X4_countOnShelf ⟨Nat.le_of_ble_eq_true rfl, Nat.le_of_ble_eq_true rfl⟩ ⟨Nat.zero_le _, Nat.zero_le _⟩ hK hj hw hA hS hl.1 (Nat.le_of_ble_eq_true rfl) dX4_closeEmptyShelves_22 h (fun r1 s1 H locs h hw hS => ?_)
          refine zif_ne (tgt := 36) hx hb dX4_closeEmptyShelves_25 (by decide) (fun c3 => ?_) (fun c3 => ?_)
          · have h := h.2 c3
            obtain ⟨x2, ex2⟩ : ∃ y : Int32, y = y2_5 + (jI (-1)) := ⟨_, rfl⟩
            have h := h x2 ex2
            refine lv_iinc (v := x2) (lv' := [(2, .int x2), (0, .ref (ad 5)), (1, .int y1_5)]) hx hb dX4_closeEmptyShelves_36 hl (k := 2) rfl (by rw [ex2]; rfl) (by decide) rfl (fun ls hl => ?_)
            refine lv_goto (tgt := 5) hx hb dX4_closeEmptyShelves_39 (by decide) ?_
            exact ih5 _ _ _ _ _ h hw hS _ (lv_sub hl [1, 2, 0] rfl)
          · have h := h.1 c3
            refine lv_aload_n hx hb dX4_closeEmptyShelves_28 rfl (lv_at hl 0 rfl) ?_
            refine lv_iload_n hx hb dX4_closeEmptyShelves_29 rfl (lv_at hl 2 rfl) ?_
            refine k_X4_closeShelf (rest := []) hx hb hml hown hts gX4_closeEmptyShelves_X4_closeShelf ⟨Nat.le_of_ble_eq_true rfl, Nat.le_of_ble_eq_true rfl⟩ ⟨Nat.zero_le _, Nat.zero_le _⟩ hK hj hw hA hS hl.1 (Nat.le_of_ble_eq_true rfl) dX4_closeEmptyShelves_30 h (fun s2 H locs h hw hS => ?_)
            obtain ⟨x3, ex3⟩ : ∃ y : Int32, y = y1_5 + (jI 1) := ⟨_, rfl⟩
            have h := h x3 ex3
            refine lv_iinc (v := x3) (lv' := [(1, .int x3), (0, .ref (ad 5)), (2, .int y2_5)]) hx hb dX4_closeEmptyShelves_33 hl (k := 1) rfl (by rw [ex3]; rfl) (by decide) rfl (fun ls hl => ?_)
            obtain ⟨x4, ex4⟩ : ∃ y : Int32, y = y2_5 + (jI (-1)) := ⟨_, rfl⟩
            have h := h x4 ex4
            refine lv_iinc (v := x4) (lv' := [(2, .int x4), (1, .int x3), (0, .ref (ad 5))]) hx hb dX4_closeEmptyShelves_36 hl (k := 2) rfl (by rw [ex4]; rfl) (by decide) rfl (fun ls hl => ?_)
            refine lv_goto (tgt := 5) hx hb dX4_closeEmptyShelves_39 (by decide) ?_
            exact ih5 _ _ _ _ _ h hw hS _ (lv_sub hl [2, 1, 0] rfl)
  obtain ⟨nn5, h⟩ := h
  exact lp5 nn5 _ _ _ _ _ h hw hS _ (lv_sub hl [2, 1, 0] rfl)
theorem k_X4_closeEmptyShelves {p : Program} {l : Launch} {e : Env} {R : Room} {s : State} {m : MethodId} {args : Array Value} {below : List Frame} {meth : Method} {c : Code} {H : Heap} {locs : List Loc} {cells slots : Nat} {QQ : State → Prop} {cc : ByteArray} {pc nL index : Nat} {ls : Array Slot} {rest : List Value} {D : va_G} {cy : cyT} {ad : Nat → Nat} {own : String} {Ts : List Cond} {H0 : Heap} {σ : ST}  {Q : Int32 → ST → Prop} (hx : p.tables.exec = Jvm.exec) (hb : c.code = cc) (hml : c.maxLocals = nL) (hown : s.vm.findClass own = some m.cls) (hts : ∀ w ∈ Ts, w.before args s = true) (hG : GoodIn Ts (wsV own index RX4 yX4_closeEmptyShelves wsX4_closeEmptyShelves)) (hR : 2 + 1 ≤ R.frames ∧ 8 + (3 + 11) + 47 ≤ R.locals) (hcs : cells ≤ R.cells ∧ slots ≤ R.slots) (hK : zK D cy s) (hj : zI 116 ad) (hw : zW D 116 (zce cy ad σ) ad H) {A0 : Nat → Prop} (hA : ∀ i, i < 116 → A0 (ad i)) (hS : va_S A0 H0 H locs) (hsz : ls.size = nL) (hrest : (rest.map fun v => v.category).sum ≤ 8) (hdg : decode cc pc = .ok (.invokevirtual index, 3)) (h : wp_X4_closeEmptyShelves σ  Q) (kk : ∀ (r : Int32) (σ : ST) (H : Heap) (locs : List Loc), Q r σ → zW D 116 (zce cy ad σ) ad H → va_S A0 H0 H locs → W p l e R s m args below meth c H locs cells slots QQ (F0 m (pc + 3) ls (.int r :: rest))) : W p l e R s m args below meth c H locs cells slots QQ (F0 m pc ls (.ref (ad 5) :: rest)) :=
  zcalli (va_runV (As := []) (rest := rest) ⟨hx, hb, hml, hown, hts⟩ (c_X4_closeEmptyShelves l D cy ad σ  h) (cwV 0 hts hG rfl rfl rfl (by decide +kernel) hR) (zpreV hj hK hw _ (i := 5) (ci := 3) (by decide) rfl rfl) rfl rfl hsz rfl (lv_room hrest) hdg hcs) hA hS kk
set_option maxHeartbeats 4000000 in
set_option maxRecDepth 100000 in
theorem c_X4_isLaid (l : Launch) (D : va_G) (cy : cyT) (ad : Nat → Nat) (σ : ST) (p0 : Int32) {Q : Int32 → ST → Prop} (h : wp_X4_isLaid σ p0 Q) : Met l yX4_isLaid wsX4_isLaid ({ frames := 1, cells := 0, slots := 0, locals := 21 } : Room) (zPre D cy 116 (zce cy ad σ) ad [.ref (ad 5), .int p0]) (va_Qi Q (zB D 116 (zce cy ad) ad) (zA 116 ad)) 0 0 (zA 116 ad) := by
  refine Met.ofW (cc := cX4_isLaid) (maxL := 2) (ret := (some .boolean)) (by decide) rfl ?_
  intro p e s m args below meth c s₁ B hml hv
  obtain ⟨rfl, hj, hK, hw⟩ := hv
  have hx := B.exec
  have hb := B.bytes
  have hr := B.returns
  have hts := atoms_spec (ws := wsX4_isLaid) B.pre
  have hown : s.vm.findClass RX4 = some m.cls := findClass_of_methodNamed B.named
  have hlocks := B.notSynchronized
  have lk0 : Cond.fieldLink RX4 26 "TypeTrays$State" "slots" "LTypeTrays$Row;" ∈ wsX4_isLaid := List.mem_of_getElem? (i := 1) rfl
  have inX4 : ∀ w ∈ u_ws RX4 TX4 18, w ∈ wsX4_isLaid := zin_at 8 rfl
  have hS : va_S (zA 116 ad) s.heap s.heap [] := va_S.rf
  have hA : ∀ i, i < 116 → zA 116 ad (ad i) := fun i hi => ⟨i, hi, rfl⟩
  have hl := lv_entry ([.ref (ad 5), .int p0]) (n := 2) (Nat.le_of_ble_eq_true rfl)
  rw [lg_entry_eq]
  generalize (lg_sl ([.ref (ad 5), .int p0]) ++ List.replicate (2 - (lg_sl ([.ref (ad 5), .int p0])).length) Slot.unset).toArray = ls at hl ⊢
  have hl : lv_has ls 2 [(0, .ref (ad 5)), (1, .int p0)] := hl
  show W p l e ({ frames := 1, cells := 0, slots := 0, locals := 21 } : Room) s m ([.ref (ad 5), .int p0] : List Value).toArray below meth c s.heap [] 0 0 (MQ below (va_Qi Q (zB D 116 (zce cy ad) ad) (zA 116 ad)) ([.ref (ad 5), .int p0] : List Value).toArray s 0 0 (zA 116 ad)) (F0 m 0 ls [])
  unfold wp_X4_isLaid at h
  refine lv_aload_n hx hb dX4_isLaid_0 rfl (lv_at hl 0 rfl) ?_
  refine zget hx hb hts inX4 hown hK hw 5 (by decide) rfl rfl 3 (by decide) lk0 (fun _ h9 => h9) rfl dX4_isLaid_1 ?_
  refine lv_iload_n hx hb dX4_isLaid_4 rfl (lv_at hl 1 rfl) ?_
  refine zcall_get (rest := []) hx hb hml hown hts gX4_isLaid_X3_get ⟨Nat.le_of_ble_eq_true rfl, Nat.le_of_ble_eq_true rfl⟩ ⟨Nat.zero_le _, Nat.zero_le _⟩ hK hj hw hA hS 3 (by decide) hl.1 (Nat.le_of_ble_eq_true rfl) dX4_isLaid_5 (fun H locs hw hS => ?_)
  refine lv_topi (fun v1 ev1 => ?_)
  have h := h v1 ev1
  refine zif_lt (tgt := 15) hx hb dX4_isLaid_8 (by decide) (fun c1 => ?_) (fun c1 => ?_)
  · have h := h.1 c1
    refine lv_iconst (v := (jI 0)) hx hb dX4_isLaid_15 rfl ?_
    exact W.zret (v := (jI 0)) (ty := .boolean) hx hb hr (by decide +kernel) (fun t ht hW => ⟨⟨_, _, rfl, h, zend hw ht⟩, hS.F ht⟩) hS.2.2 dX4_isLaid_16
  · have h := h.2 c1
    refine lv_iconst (v := (jI 1)) hx hb dX4_isLaid_11 rfl ?_
    refine lv_goto (tgt := 16) hx hb dX4_isLaid_12 (by decide) ?_
    exact W.zret (v := (jI 1)) (ty := .boolean) hx hb hr (by decide +kernel) (fun t ht hW => ⟨⟨_, _, rfl, h, zend hw ht⟩, hS.F ht⟩) hS.2.2 dX4_isLaid_16
theorem k_X4_isLaid {p : Program} {l : Launch} {e : Env} {R : Room} {s : State} {m : MethodId} {args : Array Value} {below : List Frame} {meth : Method} {c : Code} {H : Heap} {locs : List Loc} {cells slots : Nat} {QQ : State → Prop} {cc : ByteArray} {pc nL index : Nat} {ls : Array Slot} {rest : List Value} {D : va_G} {cy : cyT} {ad : Nat → Nat} {own : String} {Ts : List Cond} {H0 : Heap} {σ : ST} {p0 : Int32} {Q : Int32 → ST → Prop} (hx : p.tables.exec = Jvm.exec) (hb : c.code = cc) (hml : c.maxLocals = nL) (hown : s.vm.findClass own = some m.cls) (hts : ∀ w ∈ Ts, w.before args s = true) (hG : GoodIn Ts (wsV own index RX4 yX4_isLaid wsX4_isLaid)) (hR : 1 + 1 ≤ R.frames ∧ 8 + (2 + 11) + 21 ≤ R.locals) (hcs : cells ≤ R.cells ∧ slots ≤ R.slots) (hK : zK D cy s) (hj : zI 116 ad) (hw : zW D 116 (zce cy ad σ) ad H) {A0 : Nat → Prop} (hA : ∀ i, i < 116 → A0 (ad i)) (hS : va_S A0 H0 H locs) (hsz : ls.size = nL) (hrest : (rest.map fun v => v.category).sum ≤ 8) (hdg : decode cc pc = .ok (.invokevirtual index, 3)) (h : wp_X4_isLaid σ p0 Q) (kk : ∀ (r : Int32) (σ : ST) (H : Heap) (locs : List Loc), Q r σ → zW D 116 (zce cy ad σ) ad H → va_S A0 H0 H locs → W p l e R s m args below meth c H locs cells slots QQ (F0 m (pc + 3) ls (.int r :: rest))) : W p l e R s m args below meth c H locs cells slots QQ (F0 m pc ls (.int p0 :: .ref (ad 5) :: rest)) :=
  zcalli (va_runV (As := [.int p0]) (rest := rest) ⟨hx, hb, hml, hown, hts⟩ (c_X4_isLaid l D cy ad σ p0 h) (cwV 1 hts hG rfl rfl rfl (by decide +kernel) hR) (zpreV hj hK hw _ (i := 5) (ci := 3) (by decide) rfl rfl) rfl rfl hsz rfl (lv_room hrest) hdg hcs) hA hS kk
set_option maxHeartbeats 4000000 in
set_option maxRecDepth 100000 in
theorem c_X4_topOf (l : Launch) (D : va_G) (cy : cyT) (ad : Nat → Nat) (σ : ST) (p0 : Int32) {Q : Int32 → ST → Prop} (h : wp_X4_topOf σ p0 Q) : Met l yX4_topOf wsX4_topOf ({ frames := 1, cells := 0, slots := 0, locals := 21 } : Room) (zPre D cy 116 (zce cy ad σ) ad [.ref (ad 5), .int p0]) (va_Qi Q (zB D 116 (zce cy ad) ad) (zA 116 ad)) 0 0 (zA 116 ad) := by
  refine Met.ofW (cc := cX4_topOf) (maxL := 4) (ret := (some .int)) (by decide) rfl ?_
  intro p e s m args below meth c s₁ B hml hv
  obtain ⟨rfl, hj, hK, hw⟩ := hv
  have hx := B.exec
  have hb := B.bytes
  have hr := B.returns
  have hts := atoms_spec (ws := wsX4_topOf) B.pre
  have hown : s.vm.findClass RX4 = some m.cls := findClass_of_methodNamed B.named
  have hlocks := B.notSynchronized
  have lk0 : Cond.fieldLink RX4 23 "TypeTrays$State" "shelfHeights" "LTypeTrays$Row;" ∈ wsX4_topOf := List.mem_of_getElem? (i := 1) rfl
  have inX4 : ∀ w ∈ u_ws RX4 TX4 18, w ∈ wsX4_topOf := zin_at 8 rfl
  have hS : va_S (zA 116 ad) s.heap s.heap [] := va_S.rf
  have hA : ∀ i, i < 116 → zA 116 ad (ad i) := fun i hi => ⟨i, hi, rfl⟩
  have hl := lv_entry ([.ref (ad 5), .int p0]) (n := 4) (Nat.le_of_ble_eq_true rfl)
  rw [lg_entry_eq]
  generalize (lg_sl ([.ref (ad 5), .int p0]) ++ List.replicate (4 - (lg_sl ([.ref (ad 5), .int p0])).length) Slot.unset).toArray = ls at hl ⊢
  have hl : lv_has ls 4 [(0, .ref (ad 5)), (1, .int p0)] := hl
  show W p l e ({ frames := 1, cells := 0, slots := 0, locals := 21 } : Room) s m ([.ref (ad 5), .int p0] : List Value).toArray below meth c s.heap [] 0 0 (MQ below (va_Qi Q (zB D 116 (zce cy ad) ad) (zA 116 ad)) ([.ref (ad 5), .int p0] : List Value).toArray s 0 0 (zA 116 ad)) (F0 m 0 ls [])
  unfold wp_X4_topOf at h
  refine lv_iconst (v := (jI 0)) hx hb dX4_topOf_0 rfl ?_
  refine lv_istore_n (lv' := [(2, .int (jI 0)), (0, .ref (ad 5)), (1, .int p0)]) hx hb dX4_topOf_1 rfl hl (by decide) rfl (fun ls hl => ?_)
  refine lv_iload_n hx hb dX4_topOf_2 rfl (lv_at hl 2 rfl) ?_
  refine lv_bipush (v := (jI 24)) hx hb dX4_topOf_3 (by decide +kernel) ?_
  refine lv_idiv hx hb dX4_topOf_5 (by decide +kernel) ?_
  refine lv_bipush (v := (jI 24)) hx hb dX4_topOf_6 (by decide +kernel) ?_
  refine lv_imul hx hb dX4_topOf_8 ?_
  refine lv_topi (fun x1 ex1 => ?_)
  have h := h x1 ex1
  refine lv_istore_n (lv' := [(3, .int x1), (2, .int (jI 0)), (0, .ref (ad 5)), (1, .int p0)]) hx hb dX4_topOf_9 rfl hl (by decide) rfl (fun ls hl => ?_)
  have k32_10 : ∀ (u_32 : ST) (z2_32 : Int32) (H : Heap) (locs : List Loc), Q z2_32 u_32 → zW D 116 (zce cy ad u_32) ad H → va_S (zA 116 ad) s.heap H locs → ∀ ls : Array Slot, lv_has ls 4 [(2, .int z2_32)] → W p l e ({ frames := 1, cells := 0, slots := 0, locals := 21 } : Room) s m ([.ref (ad 5), .int p0] : List Value).toArray below meth c H locs 0 0 (MQ below (va_Qi Q (zB D 116 (zce cy ad) ad) (zA 116 ad)) ([.ref (ad 5), .int p0] : List Value).toArray s 0 0 (zA 116 ad)) (F0 m 32 ls []) := by
    intro u_32 z2_32 H locs h hw hS ls hl
    refine lv_iload_n hx hb dX4_topOf_32 rfl (lv_at hl 0 rfl) ?_
    exact W.iret (v := z2_32) hx hb hr (fun t ht hW => ⟨⟨_, _, rfl, h, zend hw ht⟩, hS.F ht⟩) hS.2.2 dX4_topOf_33
  have lp10 : ∀ (nn10 : Nat) (t_10 : ST) (y2_10 : Int32) (y3_10 : Int32) (H : Heap) (locs : List Loc), wl_X4_topOf_10 (fun u_32 z2_32 => Q z2_32 u_32) p0 nn10 t_10 y2_10 y3_10 → zW D 116 (zce cy ad t_10) ad H → va_S (zA 116 ad) s.heap H locs → ∀ ls : Array Slot, lv_has ls 4 [(0, .ref (ad 5)), (1, .int p0), (2, .int y2_10), (3, .int y3_10)] → W p l e ({ frames := 1, cells := 0, slots := 0, locals := 21 } : Room) s m ([.ref (ad 5), .int p0] : List Value).toArray below meth c H locs 0 0 (MQ below (va_Qi Q (zB D 116 (zce cy ad) ad) (zA 116 ad)) ([.ref (ad 5), .int p0] : List Value).toArray s 0 0 (zA 116 ad)) (F0 m 10 ls []) := by
    intro nn10
    induction nn10 with
    | zero => intro _ _ _ _ _ h; exact h.elim
    | succ nn10 ih10 =>
      intro t_10 y2_10 y3_10 H locs h hw hS ls hl
      simp only [wl_X4_topOf_10, wb_X4_topOf_10] at h
      refine lv_iload_n hx hb dX4_topOf_10 rfl (lv_at hl 3 rfl) ?_
      refine lv_iload_n hx hb dX4_topOf_11 rfl (lv_at hl 1 rfl) ?_
      refine lv_icmp_ge (tgt := 32) hx hb dX4_topOf_12 (by decide) (fun c1 => ?_) (fun c1 => ?_)
      · have h := h.1 c1
        exact k32_10 _ _ _ _ h hw hS _ (lv_sub hl [2] rfl)
      · have h := h.2 c1
        refine lv_iload_n hx hb dX4_topOf_15 rfl (lv_at hl 2 rfl) ?_
        refine lv_aload_n hx hb dX4_topOf_16 rfl (lv_at hl 0 rfl) ?_
        refine zget hx hb hts inX4 hown hK hw 5 (by decide) rfl rfl 2 (by decide) lk0 (fun _ h9 => h9) rfl dX4_topOf_17 ?_
        refine lv_iload_n hx hb dX4_topOf_20 rfl (lv_at hl 3 rfl) ?_
        refine zcall_get (rest := [.int y2_10]) hx hb hml hown hts gX4_topOf_X3_get ⟨Nat.le_of_ble_eq_true rfl, Nat.le_of_ble_eq_true rfl⟩ ⟨Nat.zero_le _, Nat.zero_le _⟩ hK hj hw hA hS 2 (by decide) hl.1 (Nat.le_of_ble_eq_true rfl) dX4_topOf_21 (fun H locs hw hS => ?_)
        refine lv_topi (fun v1 ev1 => ?_)
        have h := h v1 ev1
        refine lv_iadd hx hb dX4_topOf_24 ?_
        refine lv_topi (fun x2 ex2 => ?_)
        have h := h x2 ex2
        refine lv_istore_n (lv' := [(2, .int x2), (0, .ref (ad 5)), (1, .int p0), (3, .int y3_10)]) hx hb dX4_topOf_25 rfl hl (by decide) rfl (fun ls hl => ?_)
        obtain ⟨x3, ex3⟩ : ∃ y : Int32, y = y3_10 + (jI 1) := ⟨_, rfl⟩
        have h := h x3 ex3
        refine lv_iinc (v := x3) (lv' := [(3, .int x3), (2, .int x2), (0, .ref (ad 5)), (1, .int p0)]) hx hb dX4_topOf_26 hl (k := 3) rfl (by rw [ex3]; rfl) (by decide) rfl (fun ls hl => ?_)
        refine lv_goto (tgt := 10) hx hb dX4_topOf_29 (by decide) ?_
        exact ih10 _ _ _ _ _ h hw hS _ (lv_sub hl [2, 3, 1, 0] rfl)
  obtain ⟨nn10, h⟩ := h
  exact lp10 nn10 _ _ _ _ _ h hw hS _ (lv_sub hl [2, 3, 1, 0] rfl)
theorem k_X4_topOf {p : Program} {l : Launch} {e : Env} {R : Room} {s : State} {m : MethodId} {args : Array Value} {below : List Frame} {meth : Method} {c : Code} {H : Heap} {locs : List Loc} {cells slots : Nat} {QQ : State → Prop} {cc : ByteArray} {pc nL index : Nat} {ls : Array Slot} {rest : List Value} {D : va_G} {cy : cyT} {ad : Nat → Nat} {own : String} {Ts : List Cond} {H0 : Heap} {σ : ST} {p0 : Int32} {Q : Int32 → ST → Prop} (hx : p.tables.exec = Jvm.exec) (hb : c.code = cc) (hml : c.maxLocals = nL) (hown : s.vm.findClass own = some m.cls) (hts : ∀ w ∈ Ts, w.before args s = true) (hG : GoodIn Ts (wsV own index RX4 yX4_topOf wsX4_topOf)) (hR : 1 + 1 ≤ R.frames ∧ 8 + (4 + 11) + 21 ≤ R.locals) (hcs : cells ≤ R.cells ∧ slots ≤ R.slots) (hK : zK D cy s) (hj : zI 116 ad) (hw : zW D 116 (zce cy ad σ) ad H) {A0 : Nat → Prop} (hA : ∀ i, i < 116 → A0 (ad i)) (hS : va_S A0 H0 H locs) (hsz : ls.size = nL) (hrest : (rest.map fun v => v.category).sum ≤ 8) (hdg : decode cc pc = .ok (.invokevirtual index, 3)) (h : wp_X4_topOf σ p0 Q) (kk : ∀ (r : Int32) (σ : ST) (H : Heap) (locs : List Loc), Q r σ → zW D 116 (zce cy ad σ) ad H → va_S A0 H0 H locs → W p l e R s m args below meth c H locs cells slots QQ (F0 m (pc + 3) ls (.int r :: rest))) : W p l e R s m args below meth c H locs cells slots QQ (F0 m pc ls (.int p0 :: .ref (ad 5) :: rest)) :=
  zcalli (va_runV (As := [.int p0]) (rest := rest) ⟨hx, hb, hml, hown, hts⟩ (c_X4_topOf l D cy ad σ p0 h) (cwV 1 hts hG rfl rfl rfl (by decide +kernel) hR) (zpreV hj hK hw _ (i := 5) (ci := 3) (by decide) rfl rfl) rfl rfl hsz rfl (lv_room hrest) hdg hcs) hA hS kk
set_option maxHeartbeats 4000000 in
set_option maxRecDepth 100000 in
theorem c_X4_covers (l : Launch) (D : va_G) (cy : cyT) (ad : Nat → Nat) (σ : ST) (p0 : Int32) (p1 : Int32) (p2 : Int32) {Q : Int32 → ST → Prop} (h : wp_X4_covers σ p0 p1 p2 Q) : Met l yX4_covers wsX4_covers ({ frames := 2, cells := 0, slots := 0, locals := 44 } : Room) (zPre D cy 116 (zce cy ad σ) ad [.ref (ad 5), .int p0, .int p1, .int p2]) (va_Qi Q (zB D 116 (zce cy ad) ad) (zA 116 ad)) 0 0 (zA 116 ad) := by
  refine Met.ofW (cc := cX4_covers) (maxL := 5) (ret := (some .boolean)) (by decide) rfl ?_
  intro p e s m args below meth c s₁ B hml hv
  obtain ⟨rfl, hj, hK, hw⟩ := hv
  have hx := B.exec
  have hb := B.bytes
  have hr := B.returns
  have hts := atoms_spec (ws := wsX4_covers) B.pre
  have hown : s.vm.findClass RX4 = some m.cls := findClass_of_methodNamed B.named
  have hlocks := B.notSynchronized
  have lk0 : Cond.fieldLink RX4 26 "TypeTrays$State" "slots" "LTypeTrays$Row;" ∈ wsX4_covers := List.mem_of_getElem? (i := 1) rfl
  have lk1 : Cond.fieldLink RX4 29 "TypeTrays$State" "lefts" "LTypeTrays$Row;" ∈ wsX4_covers := List.mem_of_getElem? (i := 2) rfl
  have lk2 : Cond.fieldLink RX4 32 "TypeTrays$State" "rights" "LTypeTrays$Row;" ∈ wsX4_covers := List.mem_of_getElem? (i := 3) rfl
  have inX4 : ∀ w ∈ u_ws RX4 TX4 18, w ∈ wsX4_covers := zin_at 28 rfl
  have hS : va_S (zA 116 ad) s.heap s.heap [] := va_S.rf
  have hA : ∀ i, i < 116 → zA 116 ad (ad i) := fun i hi => ⟨i, hi, rfl⟩
  have hl := lv_entry ([.ref (ad 5), .int p0, .int p1, .int p2]) (n := 5) (Nat.le_of_ble_eq_true rfl)
  rw [lg_entry_eq]
  generalize (lg_sl ([.ref (ad 5), .int p0, .int p1, .int p2]) ++ List.replicate (5 - (lg_sl ([.ref (ad 5), .int p0, .int p1, .int p2])).length) Slot.unset).toArray = ls at hl ⊢
  have hl : lv_has ls 5 [(0, .ref (ad 5)), (1, .int p0), (2, .int p1), (3, .int p2)] := hl
  show W p l e ({ frames := 2, cells := 0, slots := 0, locals := 44 } : Room) s m ([.ref (ad 5), .int p0, .int p1, .int p2] : List Value).toArray below meth c s.heap [] 0 0 (MQ below (va_Qi Q (zB D 116 (zce cy ad) ad) (zA 116 ad)) ([.ref (ad 5), .int p0, .int p1, .int p2] : List Value).toArray s 0 0 (zA 116 ad)) (F0 m 0 ls [])
  unfold wp_X4_covers at h
  refine lv_aload_n hx hb dX4_covers_0 rfl (lv_at hl 0 rfl) ?_
  refine lv_aload_n hx hb dX4_covers_1 rfl (lv_at hl 0 rfl) ?_
  refine zget hx hb hts inX4 hown hK hw 5 (by decide) rfl rfl 3 (by decide) lk0 (fun _ h9 => h9) rfl dX4_covers_2 ?_
  refine lv_iload_n hx hb dX4_covers_5 rfl (lv_at hl 1 rfl) ?_
  refine zcall_get (rest := [.ref (ad 5)]) hx hb hml hown hts gX4_covers_X3_get ⟨Nat.le_of_ble_eq_true rfl, Nat.le_of_ble_eq_true rfl⟩ ⟨Nat.zero_le _, Nat.zero_le _⟩ hK hj hw hA hS 3 (by decide) hl.1 (Nat.le_of_ble_eq_true rfl) dX4_covers_6 (fun H locs hw hS => ?_)
  refine lv_topi (fun v1 ev1 => ?_)
  have h := h v1 ev1
  refine k_X4_topOf (rest := []) hx hb hml hown hts gX4_covers_X4_topOf ⟨Nat.le_of_ble_eq_true rfl, Nat.le_of_ble_eq_true rfl⟩ ⟨Nat.zero_le _, Nat.zero_le _⟩ hK hj hw hA hS hl.1 (Nat.le_of_ble_eq_true rfl) dX4_covers_9 h (fun r1 s1 H locs h hw hS => ?_)
  refine lv_istore (lv' := [(4, .int r1), (0, .ref (ad 5)), (1, .int p0), (2, .int p1), (3, .int p2)]) hx hb dX4_covers_12 hl (by decide) rfl (fun ls hl => ?_)
  refine lv_iload_n hx hb dX4_covers_14 rfl (lv_at hl 3 rfl) ?_
  refine lv_aload_n hx hb dX4_covers_15 rfl (lv_at hl 1 rfl) ?_
  refine zget hx hb hts inX4 hown hK hw 5 (by decide) rfl rfl 4 (by decide) lk1 (fun _ h9 => h9) rfl dX4_covers_16 ?_
  refine lv_iload_n hx hb dX4_covers_19 rfl (lv_at hl 2 rfl) ?_
  refine zcall_get (rest := [.int p1]) hx hb hml hown hts gX4_covers_X3_get ⟨Nat.le_of_ble_eq_true rfl, Nat.le_of_ble_eq_true rfl⟩ ⟨Nat.zero_le _, Nat.zero_le _⟩ hK hj hw hA hS 4 (by decide) hl.1 (Nat.le_of_ble_eq_true rfl) dX4_covers_20 (fun H locs hw hS => ?_)
  refine lv_topi (fun v2 ev2 => ?_)
  have h := h v2 ev2
  refine lv_icmp_lt (tgt := 60) hx hb dX4_covers_23 (by decide) (fun c1 => ?_) (fun c1 => ?_)
  · have h := h.1 c1
    refine lv_iconst (v := (jI 0)) hx hb dX4_covers_60 rfl ?_
    exact W.zret (v := (jI 0)) (ty := .boolean) hx hb hr (by decide +kernel) (fun t ht hW => ⟨⟨_, _, rfl, h, zend hw ht⟩, hS.F ht⟩) hS.2.2 dX4_covers_61
  · have h := h.2 c1
    refine lv_iload_n hx hb dX4_covers_26 rfl (lv_at hl 3 rfl) ?_
    refine lv_aload_n hx hb dX4_covers_27 rfl (lv_at hl 1 rfl) ?_
    refine zget hx hb hts inX4 hown hK hw 5 (by decide) rfl rfl 5 (by decide) lk2 (fun _ h9 => h9) rfl dX4_covers_28 ?_
    refine lv_iload_n hx hb dX4_covers_31 rfl (lv_at hl 2 rfl) ?_
    refine zcall_get (rest := [.int p1]) hx hb hml hown hts gX4_covers_X3_get ⟨Nat.le_of_ble_eq_true rfl, Nat.le_of_ble_eq_true rfl⟩ ⟨Nat.zero_le _, Nat.zero_le _⟩ hK hj hw hA hS 5 (by decide) hl.1 (Nat.le_of_ble_eq_true rfl) dX4_covers_32 (fun H locs hw hS => ?_)
    refine lv_topi (fun v3 ev3 => ?_)
    have h := h v3 ev3
    refine lv_icmp_ge (tgt := 60) hx hb dX4_covers_35 (by decide) (fun c2 => ?_) (fun c2 => ?_)
    · have h := h.1 c2
      refine lv_iconst (v := (jI 0)) hx hb dX4_covers_60 rfl ?_
      exact W.zret (v := (jI 0)) (ty := .boolean) hx hb hr (by decide +kernel) (fun t ht hW => ⟨⟨_, _, rfl, h, zend hw ht⟩, hS.F ht⟩) hS.2.2 dX4_covers_61
    · have h := h.2 c2
      refine lv_iload_n hx hb dX4_covers_38 rfl (lv_at hl 4 rfl) ?_
      refine lv_iload hx hb dX4_covers_39 (lv_at hl 0 rfl) ?_
      refine lv_icmp_lt (tgt := 60) hx hb dX4_covers_41 (by decide) (fun c3 => ?_) (fun c3 => ?_)
      · have h := h.1 c3
        refine lv_iconst (v := (jI 0)) hx hb dX4_covers_60 rfl ?_
        exact W.zret (v := (jI 0)) (ty := .boolean) hx hb hr (by decide +kernel) (fun t ht hW => ⟨⟨_, _, rfl, h, zend hw ht⟩, hS.F ht⟩) hS.2.2 dX4_covers_61
      · have h := h.2 c3
        refine lv_iload_n hx hb dX4_covers_44 rfl (lv_at hl 4 rfl) ?_
        refine lv_iload hx hb dX4_covers_45 (lv_at hl 0 rfl) ?_
        refine lv_aload_n hx hb dX4_covers_47 rfl (lv_at hl 1 rfl) ?_
        refine lv_iload_n hx hb dX4_covers_48 rfl (lv_at hl 2 rfl) ?_
        refine k_X4_heightOf (rest := [.int r1, .int p2]) hx hb hml hown hts gX4_covers_X4_heightOf ⟨Nat.le_of_ble_eq_true rfl, Nat.le_of_ble_eq_true rfl⟩ ⟨Nat.zero_le _, Nat.zero_le _⟩ hK hj hw hA hS hl.1 (Nat.le_of_ble_eq_true rfl) dX4_covers_49 h (fun r2 s2 H locs h hw hS => ?_)
        refine lv_iadd hx hb dX4_covers_52 ?_
        refine lv_icmp_ge (tgt := 60) hx hb dX4_covers_53 (by decide) (fun c4 => ?_) (fun c4 => ?_)
        · have h := h.1 c4
          refine lv_iconst (v := (jI 0)) hx hb dX4_covers_60 rfl ?_
          exact W.zret (v := (jI 0)) (ty := .boolean) hx hb hr (by decide +kernel) (fun t ht hW => ⟨⟨_, _, rfl, h, zend hw ht⟩, hS.F ht⟩) hS.2.2 dX4_covers_61
        · have h := h.2 c4
          refine lv_iconst (v := (jI 1)) hx hb dX4_covers_56 rfl ?_
          refine lv_goto (tgt := 61) hx hb dX4_covers_57 (by decide) ?_
          exact W.zret (v := (jI 1)) (ty := .boolean) hx hb hr (by decide +kernel) (fun t ht hW => ⟨⟨_, _, rfl, h, zend hw ht⟩, hS.F ht⟩) hS.2.2 dX4_covers_61
theorem k_X4_covers {p : Program} {l : Launch} {e : Env} {R : Room} {s : State} {m : MethodId} {args : Array Value} {below : List Frame} {meth : Method} {c : Code} {H : Heap} {locs : List Loc} {cells slots : Nat} {QQ : State → Prop} {cc : ByteArray} {pc nL index : Nat} {ls : Array Slot} {rest : List Value} {D : va_G} {cy : cyT} {ad : Nat → Nat} {own : String} {Ts : List Cond} {H0 : Heap} {σ : ST} {p0 : Int32} {p1 : Int32} {p2 : Int32} {Q : Int32 → ST → Prop} (hx : p.tables.exec = Jvm.exec) (hb : c.code = cc) (hml : c.maxLocals = nL) (hown : s.vm.findClass own = some m.cls) (hts : ∀ w ∈ Ts, w.before args s = true) (hG : GoodIn Ts (wsV own index RX4 yX4_covers wsX4_covers)) (hR : 2 + 1 ≤ R.frames ∧ 8 + (5 + 11) + 44 ≤ R.locals) (hcs : cells ≤ R.cells ∧ slots ≤ R.slots) (hK : zK D cy s) (hj : zI 116 ad) (hw : zW D 116 (zce cy ad σ) ad H) {A0 : Nat → Prop} (hA : ∀ i, i < 116 → A0 (ad i)) (hS : va_S A0 H0 H locs) (hsz : ls.size = nL) (hrest : (rest.map fun v => v.category).sum ≤ 8) (hdg : decode cc pc = .ok (.invokevirtual index, 3)) (h : wp_X4_covers σ p0 p1 p2 Q) (kk : ∀ (r : Int32) (σ : ST) (H : Heap) (locs : List Loc), Q r σ → zW D 116 (zce cy ad σ) ad H → va_S A0 H0 H locs → W p l e R s m args below meth c H locs cells slots QQ (F0 m (pc + 3) ls (.int r :: rest))) : W p l e R s m args below meth c H locs cells slots QQ (F0 m pc ls (.int p2 :: .int p1 :: .int p0 :: .ref (ad 5) :: rest)) :=
  zcalli (va_runV (As := [.int p0, .int p1, .int p2]) (rest := rest) ⟨hx, hb, hml, hown, hts⟩ (c_X4_covers l D cy ad σ p0 p1 p2 h) (cwV 3 hts hG rfl rfl rfl (by decide +kernel) hR) (zpreV hj hK hw _ (i := 5) (ci := 3) (by decide) rfl rfl) rfl rfl hsz rfl (lv_room hrest) hdg hcs) hA hS kk
set_option maxHeartbeats 4000000 in
set_option maxRecDepth 100000 in
theorem c_X4_placeValue (l : Launch) (D : va_G) (cy : cyT) (ad : Nat → Nat) (σ : ST) (p0 : Int32) (p1 : Int32) {Q : Int32 → ST → Prop} (h : wp_X4_placeValue σ p0 p1 Q) : Met l yX4_placeValue wsX4_placeValue ({ frames := 2, cells := 0, slots := 0, locals := 44 } : Room) (zPre D cy 116 (zce cy ad σ) ad [.ref (ad 5), .int p0, .int p1]) (va_Qi Q (zB D 116 (zce cy ad) ad) (zA 116 ad)) 0 0 (zA 116 ad) := by
  refine Met.ofW (cc := cX4_placeValue) (maxL := 4) (ret := (some .int)) (by decide) rfl ?_
  intro p e s m args below meth c s₁ B hml hv
  obtain ⟨rfl, hj, hK, hw⟩ := hv
  have hx := B.exec
  have hb := B.bytes
  have hr := B.returns
  have hts := atoms_spec (ws := wsX4_placeValue) B.pre
  have hown : s.vm.findClass RX4 = some m.cls := findClass_of_methodNamed B.named
  have hlocks := B.notSynchronized
  have lk0 : Cond.fieldLink RX4 26 "TypeTrays$State" "slots" "LTypeTrays$Row;" ∈ wsX4_placeValue := List.mem_of_getElem? (i := 1) rfl
  have lk1 : Cond.fieldLink RX4 29 "TypeTrays$State" "lefts" "LTypeTrays$Row;" ∈ wsX4_placeValue := List.mem_of_getElem? (i := 2) rfl
  have inX4 : ∀ w ∈ u_ws RX4 TX4 18, w ∈ wsX4_placeValue := zin_at 15 rfl
  have hS : va_S (zA 116 ad) s.heap s.heap [] := va_S.rf
  have hA : ∀ i, i < 116 → zA 116 ad (ad i) := fun i hi => ⟨i, hi, rfl⟩
  have hl := lv_entry ([.ref (ad 5), .int p0, .int p1]) (n := 4) (Nat.le_of_ble_eq_true rfl)
  rw [lg_entry_eq]
  generalize (lg_sl ([.ref (ad 5), .int p0, .int p1]) ++ List.replicate (4 - (lg_sl ([.ref (ad 5), .int p0, .int p1])).length) Slot.unset).toArray = ls at hl ⊢
  have hl : lv_has ls 4 [(0, .ref (ad 5)), (1, .int p0), (2, .int p1)] := hl
  show W p l e ({ frames := 2, cells := 0, slots := 0, locals := 44 } : Room) s m ([.ref (ad 5), .int p0, .int p1] : List Value).toArray below meth c s.heap [] 0 0 (MQ below (va_Qi Q (zB D 116 (zce cy ad) ad) (zA 116 ad)) ([.ref (ad 5), .int p0, .int p1] : List Value).toArray s 0 0 (zA 116 ad)) (F0 m 0 ls [])
  unfold wp_X4_placeValue at h
  refine lv_aload_n hx hb dX4_placeValue_0 rfl (lv_at hl 0 rfl) ?_
  refine zget hx hb hts inX4 hown hK hw 5 (by decide) rfl rfl 3 (by decide) lk0 (fun _ h9 => h9) rfl dX4_placeValue_1 ?_
  refine lv_iload_n hx hb dX4_placeValue_4 rfl (lv_at hl 1 rfl) ?_
  refine zcall_get (rest := []) hx hb hml hown hts gX4_placeValue_X3_get ⟨Nat.le_of_ble_eq_true rfl, Nat.le_of_ble_eq_true rfl⟩ ⟨Nat.zero_le _, Nat.zero_le _⟩ hK hj hw hA hS 3 (by decide) hl.1 (Nat.le_of_ble_eq_true rfl) dX4_placeValue_5 (fun H locs hw hS => ?_)
  refine lv_topi (fun v1 ev1 => ?_)
  have h := h v1 ev1
  refine lv_istore_n (lv' := [(3, .int v1), (0, .ref (ad 5)), (1, .int p0), (2, .int p1)]) hx hb dX4_placeValue_8 rfl hl (by decide) rfl (fun ls hl => ?_)
  refine lv_iload_n hx hb dX4_placeValue_9 rfl (lv_at hl 3 rfl) ?_
  rcases Classical.em (p1 = (jI 0)) with c1 | c1
  · have h := h.1 c1
    refine lv_tableIn (tgt := 36) (off := 26) hx hb dX4_placeValue_10 (by rw [c1]; decide +kernel) (by rw [c1]; decide +kernel) (by rw [c1]; decide +kernel) (by decide) ?_
    refine lv_iload_n hx hb dX4_placeValue_36 rfl (lv_at hl 0 rfl) ?_
    refine lv_bipush (v := (jI 24)) hx hb dX4_placeValue_37 (by decide +kernel) ?_
    refine lv_idiv hx hb dX4_placeValue_39 (by decide +kernel) ?_
    exact W.iret (v := (v1 / (jI 24))) hx hb hr (fun t ht hW => ⟨⟨_, _, rfl, h, zend hw ht⟩, hS.F ht⟩) hS.2.2 dX4_placeValue_40
  have h := h.2 c1
  rcases Classical.em (p1 = (jI 1)) with c2 | c2
  · have h := h.1 c2
    refine lv_tableIn (tgt := 41) (off := 31) hx hb dX4_placeValue_10 (by rw [c2]; decide +kernel) (by rw [c2]; decide +kernel) (by rw [c2]; decide +kernel) (by decide) ?_
    refine lv_aload_n hx hb dX4_placeValue_41 rfl (lv_at hl 1 rfl) ?_
    refine zget hx hb hts inX4 hown hK hw 5 (by decide) rfl rfl 4 (by decide) lk1 (fun _ h9 => h9) rfl dX4_placeValue_42 ?_
    refine lv_iload_n hx hb dX4_placeValue_45 rfl (lv_at hl 2 rfl) ?_
    refine zcall_get (rest := []) hx hb hml hown hts gX4_placeValue_X3_get ⟨Nat.le_of_ble_eq_true rfl, Nat.le_of_ble_eq_true rfl⟩ ⟨Nat.zero_le _, Nat.zero_le _⟩ hK hj hw hA hS 4 (by decide) hl.1 (Nat.le_of_ble_eq_true rfl) dX4_placeValue_46 (fun H locs hw hS => ?_)
    refine lv_topi (fun v2 ev2 => ?_)
    have h := h v2 ev2
    exact W.iret (v := v2) hx hb hr (fun t ht hW => ⟨⟨_, _, rfl, h, zend hw ht⟩, hS.F ht⟩) hS.2.2 dX4_placeValue_49
  have h := h.2 c2
  rcases Classical.em (p1 = (jI 2)) with c3 | c3
  · have h := h.1 c3
    refine lv_tableIn (tgt := 50) (off := 40) hx hb dX4_placeValue_10 (by rw [c3]; decide +kernel) (by rw [c3]; decide +kernel) (by rw [c3]; decide +kernel) (by decide) ?_
    refine lv_aload_n hx hb dX4_placeValue_50 rfl (lv_at hl 1 rfl) ?_
    refine lv_iload_n hx hb dX4_placeValue_51 rfl (lv_at hl 0 rfl) ?_
    refine k_X4_topOf (rest := []) hx hb hml hown hts gX4_placeValue_X4_topOf ⟨Nat.le_of_ble_eq_true rfl, Nat.le_of_ble_eq_true rfl⟩ ⟨Nat.zero_le _, Nat.zero_le _⟩ hK hj hw hA hS hl.1 (Nat.le_of_ble_eq_true rfl) dX4_placeValue_52 h (fun r1 s1 H locs h hw hS => ?_)
    exact W.iret (v := r1) hx hb hr (fun t ht hW => ⟨⟨_, _, rfl, h, zend hw ht⟩, hS.F ht⟩) hS.2.2 dX4_placeValue_55
  have h := h.2 c3
  have hsw1 := zsw_out (x := p1) (0) 3 (fun k hk => by
    match k, hk with
    | 0, _ => exact c1
    | 1, _ => exact c2
    | 2, _ => exact c3
    | k + 3, hk => exact absurd hk (by omega))
  refine lv_tableOut (tgt := 56) hx hb dX4_placeValue_10 hsw1 (by decide) ?_
  refine lv_iload_n hx hb dX4_placeValue_56 rfl (lv_at hl 0 rfl) ?_
  refine lv_bipush (v := (jI 24)) hx hb dX4_placeValue_57 (by decide +kernel) ?_
  refine lv_irem hx hb dX4_placeValue_59 (by decide +kernel) ?_
  exact W.iret (v := (v1 - v1 / (jI 24) * (jI 24))) hx hb hr (fun t ht hW => ⟨⟨_, _, rfl, h, zend hw ht⟩, hS.F ht⟩) hS.2.2 dX4_placeValue_60
theorem k_X4_placeValue {p : Program} {l : Launch} {e : Env} {R : Room} {s : State} {m : MethodId} {args : Array Value} {below : List Frame} {meth : Method} {c : Code} {H : Heap} {locs : List Loc} {cells slots : Nat} {QQ : State → Prop} {cc : ByteArray} {pc nL index : Nat} {ls : Array Slot} {rest : List Value} {D : va_G} {cy : cyT} {ad : Nat → Nat} {own : String} {Ts : List Cond} {H0 : Heap} {σ : ST} {p0 : Int32} {p1 : Int32} {Q : Int32 → ST → Prop} (hx : p.tables.exec = Jvm.exec) (hb : c.code = cc) (hml : c.maxLocals = nL) (hown : s.vm.findClass own = some m.cls) (hts : ∀ w ∈ Ts, w.before args s = true) (hG : GoodIn Ts (wsV own index RX4 yX4_placeValue wsX4_placeValue)) (hR : 2 + 1 ≤ R.frames ∧ 8 + (4 + 11) + 44 ≤ R.locals) (hcs : cells ≤ R.cells ∧ slots ≤ R.slots) (hK : zK D cy s) (hj : zI 116 ad) (hw : zW D 116 (zce cy ad σ) ad H) {A0 : Nat → Prop} (hA : ∀ i, i < 116 → A0 (ad i)) (hS : va_S A0 H0 H locs) (hsz : ls.size = nL) (hrest : (rest.map fun v => v.category).sum ≤ 8) (hdg : decode cc pc = .ok (.invokevirtual index, 3)) (h : wp_X4_placeValue σ p0 p1 Q) (kk : ∀ (r : Int32) (σ : ST) (H : Heap) (locs : List Loc), Q r σ → zW D 116 (zce cy ad σ) ad H → va_S A0 H0 H locs → W p l e R s m args below meth c H locs cells slots QQ (F0 m (pc + 3) ls (.int r :: rest))) : W p l e R s m args below meth c H locs cells slots QQ (F0 m pc ls (.int p1 :: .int p0 :: .ref (ad 5) :: rest)) :=
  zcalli (va_runV (As := [.int p0, .int p1]) (rest := rest) ⟨hx, hb, hml, hown, hts⟩ (c_X4_placeValue l D cy ad σ p0 p1 h) (cwV 2 hts hG rfl rfl rfl (by decide +kernel) hR) (zpreV hj hK hw _ (i := 5) (ci := 3) (by decide) rfl rfl) rfl rfl hsz rfl (lv_room hrest) hdg hcs) hA hS kk
set_option maxHeartbeats 4000000 in
set_option maxRecDepth 100000 in
theorem c_X4_letterValue (l : Launch) (D : va_G) (cy : cyT) (ad : Nat → Nat) (σ : ST) (p0 : Int32) (p1 : Int32) {Q : Int32 → ST → Prop} (h : wp_X4_letterValue σ p0 p1 Q) : Met l yX4_letterValue wsX4_letterValue ({ frames := 3, cells := 0, slots := 0, locals := 67 } : Room) (zPre D cy 116 (zce cy ad σ) ad [.ref (ad 5), .int p0, .int p1]) (va_Qi Q (zB D 116 (zce cy ad) ad) (zA 116 ad)) 0 0 (zA 116 ad) := by
  refine Met.ofW (cc := cX4_letterValue) (maxL := 3) (ret := (some .int)) (by decide) rfl ?_
  intro p e s m args below meth c s₁ B hml hv
  obtain ⟨rfl, hj, hK, hw⟩ := hv
  have hx := B.exec
  have hb := B.bytes
  have hr := B.returns
  have hts := atoms_spec (ws := wsX4_letterValue) B.pre
  have hown : s.vm.findClass RX4 = some m.cls := findClass_of_methodNamed B.named
  have hlocks := B.notSynchronized
  have lk0 : Cond.fieldLink RX4 35 "TypeTrays$State" "latestUses" "LTypeTrays$Row;" ∈ wsX4_letterValue := List.mem_of_getElem? (i := 1) rfl
  have lk1 : Cond.fieldLink RX4 38 "TypeTrays$State" "lines" "LTypeTrays$Row;" ∈ wsX4_letterValue := List.mem_of_getElem? (i := 2) rfl
  have lk2 : Cond.fieldLink RX4 41 "TypeTrays$State" "useCounts" "LTypeTrays$Row;" ∈ wsX4_letterValue := List.mem_of_getElem? (i := 3) rfl
  have inX4 : ∀ w ∈ u_ws RX4 TX4 18, w ∈ wsX4_letterValue := zin_at 47 rfl
  have hS : va_S (zA 116 ad) s.heap s.heap [] := va_S.rf
  have hA : ∀ i, i < 116 → zA 116 ad (ad i) := fun i hi => ⟨i, hi, rfl⟩
  have hl := lv_entry ([.ref (ad 5), .int p0, .int p1]) (n := 3) (Nat.le_of_ble_eq_true rfl)
  rw [lg_entry_eq]
  generalize (lg_sl ([.ref (ad 5), .int p0, .int p1]) ++ List.replicate (3 - (lg_sl ([.ref (ad 5), .int p0, .int p1])).length) Slot.unset).toArray = ls at hl ⊢
  have hl : lv_has ls 3 [(0, .ref (ad 5)), (1, .int p0), (2, .int p1)] := hl
  show W p l e ({ frames := 3, cells := 0, slots := 0, locals := 67 } : Room) s m ([.ref (ad 5), .int p0, .int p1] : List Value).toArray below meth c s.heap [] 0 0 (MQ below (va_Qi Q (zB D 116 (zce cy ad) ad) (zA 116 ad)) ([.ref (ad 5), .int p0, .int p1] : List Value).toArray s 0 0 (zA 116 ad)) (F0 m 0 ls [])
  unfold wp_X4_letterValue at h
  refine lv_iload_n hx hb dX4_letterValue_0 rfl (lv_at hl 2 rfl) ?_
  refine lv_iconst (v := (jI 3)) hx hb dX4_letterValue_1 rfl ?_
  refine lv_icmp_ne (tgt := 11) hx hb dX4_letterValue_2 (by decide) (fun c1 => ?_) (fun c1 => ?_)
  · have h := h.2 c1
    refine lv_iload_n hx hb dX4_letterValue_11 rfl (lv_at hl 2 rfl) ?_
    refine lv_iconst (v := (jI 4)) hx hb dX4_letterValue_12 rfl ?_
    refine lv_icmp_ne (tgt := 22) hx hb dX4_letterValue_13 (by decide) (fun c2 => ?_) (fun c2 => ?_)
    · have h := h.2 c2
      refine lv_aload_n hx hb dX4_letterValue_22 rfl (lv_at hl 0 rfl) ?_
      refine lv_iload_n hx hb dX4_letterValue_23 rfl (lv_at hl 1 rfl) ?_
      refine k_X4_isThere (rest := []) hx hb hml hown hts gX4_letterValue_X4_isThere ⟨Nat.le_of_ble_eq_true rfl, Nat.le_of_ble_eq_true rfl⟩ ⟨Nat.zero_le _, Nat.zero_le _⟩ hK hj hw hA hS hl.1 (Nat.le_of_ble_eq_true rfl) dX4_letterValue_24 h (fun r1 s1 H locs h hw hS => ?_)
      refine zif_ne (tgt := 32) hx hb dX4_letterValue_27 (by decide) (fun c3 => ?_) (fun c3 => ?_)
      · have h := h.2 c3
        refine lv_iload_n hx hb dX4_letterValue_32 rfl (lv_at hl 2 rfl) ?_
        rcases Classical.em (p1 = (jI 5)) with c4 | c4
        · have h := h.1 c4
          refine lv_tableIn (tgt := 60) (off := 27) hx hb dX4_letterValue_33 (by rw [c4]; decide +kernel) (by rw [c4]; decide +kernel) (by rw [c4]; decide +kernel) (by decide) ?_
          refine lv_aload_n hx hb dX4_letterValue_60 rfl (lv_at hl 0 rfl) ?_
          refine zget hx hb hts inX4 hown hK hw 5 (by decide) rfl rfl 6 (by decide) lk0 (fun _ h9 => h9) rfl dX4_letterValue_61 ?_
          refine lv_iload_n hx hb dX4_letterValue_64 rfl (lv_at hl 1 rfl) ?_
          refine zcall_get (rest := []) hx hb hml hown hts gX4_letterValue_X3_get ⟨Nat.le_of_ble_eq_true rfl, Nat.le_of_ble_eq_true rfl⟩ ⟨Nat.zero_le _, Nat.zero_le _⟩ hK hj hw hA hS 6 (by decide) hl.1 (Nat.le_of_ble_eq_true rfl) dX4_letterValue_65 (fun H locs hw hS => ?_)
          refine lv_topi (fun v1 ev1 => ?_)
          have h := h v1 ev1
          exact W.iret (v := v1) hx hb hr (fun t ht hW => ⟨⟨_, _, rfl, h, zend hw ht⟩, hS.F ht⟩) hS.2.2 dX4_letterValue_68
        have h := h.2 c4
        rcases Classical.em (p1 = (jI 6)) with c5 | c5
        · have h := h.1 c5
          refine lv_tableIn (tgt := 69) (off := 36) hx hb dX4_letterValue_33 (by rw [c5]; decide +kernel) (by rw [c5]; decide +kernel) (by rw [c5]; decide +kernel) (by decide) ?_
          refine lv_aload_n hx hb dX4_letterValue_69 rfl (lv_at hl 0 rfl) ?_
          refine zget hx hb hts inX4 hown hK hw 5 (by decide) rfl rfl 7 (by decide) lk1 (fun _ h9 => h9) rfl dX4_letterValue_70 ?_
          refine lv_iload_n hx hb dX4_letterValue_73 rfl (lv_at hl 1 rfl) ?_
          refine zcall_get (rest := []) hx hb hml hown hts gX4_letterValue_X3_get ⟨Nat.le_of_ble_eq_true rfl, Nat.le_of_ble_eq_true rfl⟩ ⟨Nat.zero_le _, Nat.zero_le _⟩ hK hj hw hA hS 7 (by decide) hl.1 (Nat.le_of_ble_eq_true rfl) dX4_letterValue_74 (fun H locs hw hS => ?_)
          refine lv_topi (fun v2 ev2 => ?_)
          have h := h v2 ev2
          exact W.iret (v := v2) hx hb hr (fun t ht hW => ⟨⟨_, _, rfl, h, zend hw ht⟩, hS.F ht⟩) hS.2.2 dX4_letterValue_77
        have h := h.2 c5
        rcases Classical.em (p1 = (jI 7)) with c6 | c6
        · have h := h.1 c6
          refine lv_tableIn (tgt := 78) (off := 45) hx hb dX4_letterValue_33 (by rw [c6]; decide +kernel) (by rw [c6]; decide +kernel) (by rw [c6]; decide +kernel) (by decide) ?_
          refine lv_aload_n hx hb dX4_letterValue_78 rfl (lv_at hl 0 rfl) ?_
          refine zget hx hb hts inX4 hown hK hw 5 (by decide) rfl rfl 8 (by decide) lk2 (fun _ h9 => h9) rfl dX4_letterValue_79 ?_
          refine lv_iload_n hx hb dX4_letterValue_82 rfl (lv_at hl 1 rfl) ?_
          refine zcall_get (rest := []) hx hb hml hown hts gX4_letterValue_X3_get ⟨Nat.le_of_ble_eq_true rfl, Nat.le_of_ble_eq_true rfl⟩ ⟨Nat.zero_le _, Nat.zero_le _⟩ hK hj hw hA hS 8 (by decide) hl.1 (Nat.le_of_ble_eq_true rfl) dX4_letterValue_83 (fun H locs hw hS => ?_)
          refine lv_topi (fun v3 ev3 => ?_)
          have h := h v3 ev3
          exact W.iret (v := v3) hx hb hr (fun t ht hW => ⟨⟨_, _, rfl, h, zend hw ht⟩, hS.F ht⟩) hS.2.2 dX4_letterValue_86
        have h := h.2 c6
        have hsw1 := zsw_out (x := p1) (5) 3 (fun k hk => by
          match k, hk with
          | 0, _ => exact c4
          | 1, _ => exact c5
          | 2, _ => exact c6
          | k + 3, hk => exact absurd hk (by omega))
        refine lv_tableOut (tgt := 87) hx hb dX4_letterValue_33 hsw1 (by decide) ?_
        refine lv_aload_n hx hb dX4_letterValue_87 rfl (lv_at hl 0 rfl) ?_
        refine lv_iload_n hx hb dX4_letterValue_88 rfl (lv_at hl 1 rfl) ?_
        refine k_X4_isLaid (rest := []) hx hb hml hown hts gX4_letterValue_X4_isLaid ⟨Nat.le_of_ble_eq_true rfl, Nat.le_of_ble_eq_true rfl⟩ ⟨Nat.zero_le _, Nat.zero_le _⟩ hK hj hw hA hS hl.1 (Nat.le_of_ble_eq_true rfl) dX4_letterValue_89 h (fun r2 s2 H locs h hw hS => ?_)
        refine zif_eq (tgt := 104) hx hb dX4_letterValue_92 (by decide) (fun c7 => ?_) (fun c7 => ?_)
        · have h := h.1 c7
          refine lv_iconst (v := (jI (-1))) hx hb dX4_letterValue_104 rfl ?_
          exact W.iret (v := (jI (-1))) hx hb hr (fun t ht hW => ⟨⟨_, _, rfl, h, zend hw ht⟩, hS.F ht⟩) hS.2.2 dX4_letterValue_105
        · have h := h.2 c7
          refine lv_aload_n hx hb dX4_letterValue_95 rfl (lv_at hl 0 rfl) ?_
          refine lv_iload_n hx hb dX4_letterValue_96 rfl (lv_at hl 1 rfl) ?_
          refine lv_iload_n hx hb dX4_letterValue_97 rfl (lv_at hl 2 rfl) ?_
          refine k_X4_placeValue (rest := []) hx hb hml hown hts gX4_letterValue_X4_placeValue ⟨Nat.le_of_ble_eq_true rfl, Nat.le_of_ble_eq_true rfl⟩ ⟨Nat.zero_le _, Nat.zero_le _⟩ hK hj hw hA hS hl.1 (Nat.le_of_ble_eq_true rfl) dX4_letterValue_98 h (fun r3 s3 H locs h hw hS => ?_)
          refine lv_goto (tgt := 105) hx hb dX4_letterValue_101 (by decide) ?_
          exact W.iret (v := r3) hx hb hr (fun t ht hW => ⟨⟨_, _, rfl, h, zend hw ht⟩, hS.F ht⟩) hS.2.2 dX4_letterValue_105
      · have h := h.1 c3
        refine lv_iconst (v := (jI (-1))) hx hb dX4_letterValue_30 rfl ?_
        exact W.iret (v := (jI (-1))) hx hb hr (fun t ht hW => ⟨⟨_, _, rfl, h, zend hw ht⟩, hS.F ht⟩) hS.2.2 dX4_letterValue_31
    · have h := h.1 c2
      refine lv_aload_n hx hb dX4_letterValue_16 rfl (lv_at hl 0 rfl) ?_
      refine lv_iload_n hx hb dX4_letterValue_17 rfl (lv_at hl 1 rfl) ?_
      refine k_X4_heightOf (rest := []) hx hb hml hown hts gX4_letterValue_X4_heightOf ⟨Nat.le_of_ble_eq_true rfl, Nat.le_of_ble_eq_true rfl⟩ ⟨Nat.zero_le _, Nat.zero_le _⟩ hK hj hw hA hS hl.1 (Nat.le_of_ble_eq_true rfl) dX4_letterValue_18 h (fun r4 s4 H locs h hw hS => ?_)
      exact W.iret (v := r4) hx hb hr (fun t ht hW => ⟨⟨_, _, rfl, h, zend hw ht⟩, hS.F ht⟩) hS.2.2 dX4_letterValue_21
  · have h := h.1 c1
    refine lv_aload_n hx hb dX4_letterValue_5 rfl (lv_at hl 0 rfl) ?_
    refine lv_iload_n hx hb dX4_letterValue_6 rfl (lv_at hl 1 rfl) ?_
    refine k_X4_widthOf (rest := []) hx hb hml hown hts gX4_letterValue_X4_widthOf ⟨Nat.le_of_ble_eq_true rfl, Nat.le_of_ble_eq_true rfl⟩ ⟨Nat.zero_le _, Nat.zero_le _⟩ hK hj hw hA hS hl.1 (Nat.le_of_ble_eq_true rfl) dX4_letterValue_7 h (fun r5 s5 H locs h hw hS => ?_)
    exact W.iret (v := r5) hx hb hr (fun t ht hW => ⟨⟨_, _, rfl, h, zend hw ht⟩, hS.F ht⟩) hS.2.2 dX4_letterValue_10
theorem k_X4_letterValue {p : Program} {l : Launch} {e : Env} {R : Room} {s : State} {m : MethodId} {args : Array Value} {below : List Frame} {meth : Method} {c : Code} {H : Heap} {locs : List Loc} {cells slots : Nat} {QQ : State → Prop} {cc : ByteArray} {pc nL index : Nat} {ls : Array Slot} {rest : List Value} {D : va_G} {cy : cyT} {ad : Nat → Nat} {own : String} {Ts : List Cond} {H0 : Heap} {σ : ST} {p0 : Int32} {p1 : Int32} {Q : Int32 → ST → Prop} (hx : p.tables.exec = Jvm.exec) (hb : c.code = cc) (hml : c.maxLocals = nL) (hown : s.vm.findClass own = some m.cls) (hts : ∀ w ∈ Ts, w.before args s = true) (hG : GoodIn Ts (wsV own index RX4 yX4_letterValue wsX4_letterValue)) (hR : 3 + 1 ≤ R.frames ∧ 8 + (3 + 11) + 67 ≤ R.locals) (hcs : cells ≤ R.cells ∧ slots ≤ R.slots) (hK : zK D cy s) (hj : zI 116 ad) (hw : zW D 116 (zce cy ad σ) ad H) {A0 : Nat → Prop} (hA : ∀ i, i < 116 → A0 (ad i)) (hS : va_S A0 H0 H locs) (hsz : ls.size = nL) (hrest : (rest.map fun v => v.category).sum ≤ 8) (hdg : decode cc pc = .ok (.invokevirtual index, 3)) (h : wp_X4_letterValue σ p0 p1 Q) (kk : ∀ (r : Int32) (σ : ST) (H : Heap) (locs : List Loc), Q r σ → zW D 116 (zce cy ad σ) ad H → va_S A0 H0 H locs → W p l e R s m args below meth c H locs cells slots QQ (F0 m (pc + 3) ls (.int r :: rest))) : W p l e R s m args below meth c H locs cells slots QQ (F0 m pc ls (.int p1 :: .int p0 :: .ref (ad 5) :: rest)) :=
  zcalli (va_runV (As := [.int p0, .int p1]) (rest := rest) ⟨hx, hb, hml, hown, hts⟩ (c_X4_letterValue l D cy ad σ p0 p1 h) (cwV 2 hts hG rfl rfl rfl (by decide +kernel) hR) (zpreV hj hK hw _ (i := 5) (ci := 3) (by decide) rfl rfl) rfl rfl hsz rfl (lv_room hrest) hdg hcs) hA hS kk
set_option maxHeartbeats 4000000 in
set_option maxRecDepth 100000 in
theorem c_X4_countLaidOfSign (l : Launch) (D : va_G) (cy : cyT) (ad : Nat → Nat) (σ : ST) (p0 : Int32) {Q : Int32 → ST → Prop} (h : wp_X4_countLaidOfSign σ p0 Q) : Met l yX4_countLaidOfSign wsX4_countLaidOfSign ({ frames := 2, cells := 0, slots := 0, locals := 42 } : Room) (zPre D cy 116 (zce cy ad σ) ad [.ref (ad 5), .int p0]) (va_Qi Q (zB D 116 (zce cy ad) ad) (zA 116 ad)) 0 0 (zA 116 ad) := by
  refine Met.ofW (cc := cX4_countLaidOfSign) (maxL := 5) (ret := (some .int)) (by decide) rfl ?_
  intro p e s m args below meth c s₁ B hml hv
  obtain ⟨rfl, hj, hK, hw⟩ := hv
  have hx := B.exec
  have hb := B.bytes
  have hr := B.returns
  have hts := atoms_spec (ws := wsX4_countLaidOfSign) B.pre
  have hown : s.vm.findClass RX4 = some m.cls := findClass_of_methodNamed B.named
  have hlocks := B.notSynchronized
  have lk0 : Cond.fieldLink RX4 47 "TypeTrays$State" "presentCount" "I" ∈ wsX4_countLaidOfSign := List.mem_of_getElem? (i := 1) rfl
  have lk1 : Cond.fieldLink RX4 44 "TypeTrays$State" "present" "LTypeTrays$Row;" ∈ wsX4_countLaidOfSign := List.mem_of_getElem? (i := 2) rfl
  have lk2 : Cond.static yX6_signOf ∈ wsX4_countLaidOfSign := List.mem_of_getElem? (i := 9) rfl
  have lk3 : Cond.initialized RX6 ∈ wsX4_countLaidOfSign := List.mem_of_getElem? (i := 10) rfl
  have inX4 : ∀ w ∈ u_ws RX4 TX4 18, w ∈ wsX4_countLaidOfSign := zin_at 18 rfl
  have hS : va_S (zA 116 ad) s.heap s.heap [] := va_S.rf
  have hA : ∀ i, i < 116 → zA 116 ad (ad i) := fun i hi => ⟨i, hi, rfl⟩
  have hl := lv_entry ([.ref (ad 5), .int p0]) (n := 5) (Nat.le_of_ble_eq_true rfl)
  rw [lg_entry_eq]
  generalize (lg_sl ([.ref (ad 5), .int p0]) ++ List.replicate (5 - (lg_sl ([.ref (ad 5), .int p0])).length) Slot.unset).toArray = ls at hl ⊢
  have hl : lv_has ls 5 [(0, .ref (ad 5)), (1, .int p0)] := hl
  show W p l e ({ frames := 2, cells := 0, slots := 0, locals := 42 } : Room) s m ([.ref (ad 5), .int p0] : List Value).toArray below meth c s.heap [] 0 0 (MQ below (va_Qi Q (zB D 116 (zce cy ad) ad) (zA 116 ad)) ([.ref (ad 5), .int p0] : List Value).toArray s 0 0 (zA 116 ad)) (F0 m 0 ls [])
  unfold wp_X4_countLaidOfSign at h
  refine lv_iconst (v := (jI 0)) hx hb dX4_countLaidOfSign_0 rfl ?_
  refine lv_istore_n (lv' := [(2, .int (jI 0)), (0, .ref (ad 5)), (1, .int p0)]) hx hb dX4_countLaidOfSign_1 rfl hl (by decide) rfl (fun ls hl => ?_)
  refine lv_iconst (v := (jI 0)) hx hb dX4_countLaidOfSign_2 rfl ?_
  refine lv_istore_n (lv' := [(3, .int (jI 0)), (2, .int (jI 0)), (0, .ref (ad 5)), (1, .int p0)]) hx hb dX4_countLaidOfSign_3 rfl hl (by decide) rfl (fun ls hl => ?_)
  have k49_4 : ∀ (u_49 : ST) (z2_49 : Int32) (H : Heap) (locs : List Loc), Q z2_49 u_49 → zW D 116 (zce cy ad u_49) ad H → va_S (zA 116 ad) s.heap H locs → ∀ ls : Array Slot, lv_has ls 5 [(2, .int z2_49)] → W p l e ({ frames := 2, cells := 0, slots := 0, locals := 42 } : Room) s m ([.ref (ad 5), .int p0] : List Value).toArray below meth c H locs 0 0 (MQ below (va_Qi Q (zB D 116 (zce cy ad) ad) (zA 116 ad)) ([.ref (ad 5), .int p0] : List Value).toArray s 0 0 (zA 116 ad)) (F0 m 49 ls []) := by
    intro u_49 z2_49 H locs h hw hS ls hl
    refine lv_iload_n hx hb dX4_countLaidOfSign_49 rfl (lv_at hl 0 rfl) ?_
    exact W.iret (v := z2_49) hx hb hr (fun t ht hW => ⟨⟨_, _, rfl, h, zend hw ht⟩, hS.F ht⟩) hS.2.2 dX4_countLaidOfSign_50
  have lp4 : ∀ (nn4 : Nat) (t_4 : ST) (y2_4 : Int32) (y3_4 : Int32) (H : Heap) (locs : List Loc), wl_X4_countLaidOfSign_4 (fun u_49 z2_49 => Q z2_49 u_49) p0 nn4 t_4 y2_4 y3_4 → zW D 116 (zce cy ad t_4) ad H → va_S (zA 116 ad) s.heap H locs → ∀ ls : Array Slot, lv_has ls 5 [(0, .ref (ad 5)), (1, .int p0), (2, .int y2_4), (3, .int y3_4)] → W p l e ({ frames := 2, cells := 0, slots := 0, locals := 42 } : Room) s m ([.ref (ad 5), .int p0] : List Value).toArray below meth c H locs 0 0 (MQ below (va_Qi Q (zB D 116 (zce cy ad) ad) (zA 116 ad)) ([.ref (ad 5), .int p0] : List Value).toArray s 0 0 (zA 116 ad)) (F0 m 4 ls []) := by
    intro nn4
    induction nn4 with
    | zero => intro _ _ _ _ _ h; exact h.elim
    | succ nn4 ih4 =>
      intro t_4 y2_4 y3_4 H locs h hw hS ls hl
      simp only [wl_X4_countLaidOfSign_4, wb_X4_countLaidOfSign_4] at h
      refine lv_iload_n hx hb dX4_countLaidOfSign_4 rfl (lv_at hl 3 rfl) ?_
      refine lv_aload_n hx hb dX4_countLaidOfSign_5 rfl (lv_at hl 0 rfl) ?_
      refine zget hx hb hts inX4 hown hK hw 5 (by decide) rfl rfl 10 (by decide) lk0 (fun _ h9 => h9) rfl dX4_countLaidOfSign_6 ?_
      refine lv_icmp_ge (tgt := 49) hx hb dX4_countLaidOfSign_9 (by decide) (fun c1 => ?_) (fun c1 => ?_)
      · have h := h.1 c1
        exact k49_4 _ _ _ _ h hw hS _ (lv_sub hl [2] rfl)
      · have h := h.2 c1
        refine lv_aload_n hx hb dX4_countLaidOfSign_12 rfl (lv_at hl 0 rfl) ?_
        refine zget hx hb hts inX4 hown hK hw 5 (by decide) rfl rfl 9 (by decide) lk1 (fun _ h9 => h9) rfl dX4_countLaidOfSign_13 ?_
        refine lv_iload_n hx hb dX4_countLaidOfSign_16 rfl (lv_at hl 3 rfl) ?_
        refine zcall_get (rest := []) hx hb hml hown hts gX4_countLaidOfSign_X3_get ⟨Nat.le_of_ble_eq_true rfl, Nat.le_of_ble_eq_true rfl⟩ ⟨Nat.zero_le _, Nat.zero_le _⟩ hK hj hw hA hS 9 (by decide) hl.1 (Nat.le_of_ble_eq_true rfl) dX4_countLaidOfSign_17 (fun H locs hw hS => ?_)
        refine lv_topi (fun v1 ev1 => ?_)
        have h := h v1 ev1
        refine lv_istore (lv' := [(4, .int v1), (0, .ref (ad 5)), (1, .int p0), (2, .int y2_4), (3, .int y3_4)]) hx hb dX4_countLaidOfSign_20 hl (by decide) rfl (fun ls hl => ?_)
        refine lv_iload hx hb dX4_countLaidOfSign_22 (lv_at hl 0 rfl) ?_
        refine k_X6_signOf_n (rest := []) (own := RX4) (index := 134) hx hb hml hown hts gX4_countLaidOfSign_X6_signOf_n134 lk2 lk3 (by decide +kernel) ⟨Nat.le_of_ble_eq_true rfl, Nat.le_of_ble_eq_true rfl⟩ ⟨Nat.zero_le _, Nat.zero_le _⟩ hK hj hw hA hS hl.1 (Nat.le_of_ble_eq_true rfl) dX4_countLaidOfSign_24 h (fun r1 s1 H locs h hw hS => ?_)
        refine lv_iload_n hx hb dX4_countLaidOfSign_27 rfl (lv_at hl 2 rfl) ?_
        refine lv_icmp_ne (tgt := 43) hx hb dX4_countLaidOfSign_28 (by decide) (fun c2 => ?_) (fun c2 => ?_)
        · have h := h.2 c2
          obtain ⟨x1, ex1⟩ : ∃ y : Int32, y = y3_4 + (jI 1) := ⟨_, rfl⟩
          have h := h x1 ex1
          refine lv_iinc (v := x1) (lv' := [(3, .int x1), (4, .int v1), (0, .ref (ad 5)), (1, .int p0), (2, .int y2_4)]) hx hb dX4_countLaidOfSign_43 hl (k := 4) rfl (by rw [ex1]; rfl) (by decide) rfl (fun ls hl => ?_)
          refine lv_goto (tgt := 4) hx hb dX4_countLaidOfSign_46 (by decide) ?_
          exact ih4 _ _ _ _ _ h hw hS _ (lv_sub hl [2, 3, 4, 0] rfl)
        · have h := h.1 c2
          refine lv_aload_n hx hb dX4_countLaidOfSign_31 rfl (lv_at hl 1 rfl) ?_
          refine lv_iload hx hb dX4_countLaidOfSign_32 (lv_at hl 0 rfl) ?_
          refine k_X4_isLaid (rest := []) hx hb hml hown hts gX4_countLaidOfSign_X4_isLaid ⟨Nat.le_of_ble_eq_true rfl, Nat.le_of_ble_eq_true rfl⟩ ⟨Nat.zero_le _, Nat.zero_le _⟩ hK hj hw hA hS hl.1 (Nat.le_of_ble_eq_true rfl) dX4_countLaidOfSign_34 h (fun r2 s2 H locs h hw hS => ?_)
          refine zif_eq (tgt := 43) hx hb dX4_countLaidOfSign_37 (by decide) (fun c3 => ?_) (fun c3 => ?_)
          · have h := h.1 c3
            obtain ⟨x2, ex2⟩ : ∃ y : Int32, y = y3_4 + (jI 1) := ⟨_, rfl⟩
            have h := h x2 ex2
            refine lv_iinc (v := x2) (lv' := [(3, .int x2), (4, .int v1), (0, .ref (ad 5)), (1, .int p0), (2, .int y2_4)]) hx hb dX4_countLaidOfSign_43 hl (k := 4) rfl (by rw [ex2]; rfl) (by decide) rfl (fun ls hl => ?_)
            refine lv_goto (tgt := 4) hx hb dX4_countLaidOfSign_46 (by decide) ?_
            exact ih4 _ _ _ _ _ h hw hS _ (lv_sub hl [2, 3, 4, 0] rfl)
          · have h := h.2 c3
            obtain ⟨x3, ex3⟩ : ∃ y : Int32, y = y2_4 + (jI 1) := ⟨_, rfl⟩
            have h := h x3 ex3
            refine lv_iinc (v := x3) (lv' := [(2, .int x3), (4, .int v1), (0, .ref (ad 5)), (1, .int p0), (3, .int y3_4)]) hx hb dX4_countLaidOfSign_40 hl (k := 3) rfl (by rw [ex3]; rfl) (by decide) rfl (fun ls hl => ?_)
            obtain ⟨x4, ex4⟩ : ∃ y : Int32, y = y3_4 + (jI 1) := ⟨_, rfl⟩
            have h := h x4 ex4
            refine lv_iinc (v := x4) (lv' := [(3, .int x4), (2, .int x3), (4, .int v1), (0, .ref (ad 5)), (1, .int p0)]) hx hb dX4_countLaidOfSign_43 hl (k := 4) rfl (by rw [ex4]; rfl) (by decide) rfl (fun ls hl => ?_)
            refine lv_goto (tgt := 4) hx hb dX4_countLaidOfSign_46 (by decide) ?_
            exact ih4 _ _ _ _ _ h hw hS _ (lv_sub hl [3, 4, 1, 0] rfl)
  obtain ⟨nn4, h⟩ := h
  exact lp4 nn4 _ _ _ _ _ h hw hS _ (lv_sub hl [2, 3, 1, 0] rfl)
theorem k_X4_countLaidOfSign {p : Program} {l : Launch} {e : Env} {R : Room} {s : State} {m : MethodId} {args : Array Value} {below : List Frame} {meth : Method} {c : Code} {H : Heap} {locs : List Loc} {cells slots : Nat} {QQ : State → Prop} {cc : ByteArray} {pc nL index : Nat} {ls : Array Slot} {rest : List Value} {D : va_G} {cy : cyT} {ad : Nat → Nat} {own : String} {Ts : List Cond} {H0 : Heap} {σ : ST} {p0 : Int32} {Q : Int32 → ST → Prop} (hx : p.tables.exec = Jvm.exec) (hb : c.code = cc) (hml : c.maxLocals = nL) (hown : s.vm.findClass own = some m.cls) (hts : ∀ w ∈ Ts, w.before args s = true) (hG : GoodIn Ts (wsV own index RX4 yX4_countLaidOfSign wsX4_countLaidOfSign)) (hR : 2 + 1 ≤ R.frames ∧ 8 + (5 + 11) + 42 ≤ R.locals) (hcs : cells ≤ R.cells ∧ slots ≤ R.slots) (hK : zK D cy s) (hj : zI 116 ad) (hw : zW D 116 (zce cy ad σ) ad H) {A0 : Nat → Prop} (hA : ∀ i, i < 116 → A0 (ad i)) (hS : va_S A0 H0 H locs) (hsz : ls.size = nL) (hrest : (rest.map fun v => v.category).sum ≤ 8) (hdg : decode cc pc = .ok (.invokevirtual index, 3)) (h : wp_X4_countLaidOfSign σ p0 Q) (kk : ∀ (r : Int32) (σ : ST) (H : Heap) (locs : List Loc), Q r σ → zW D 116 (zce cy ad σ) ad H → va_S A0 H0 H locs → W p l e R s m args below meth c H locs cells slots QQ (F0 m (pc + 3) ls (.int r :: rest))) : W p l e R s m args below meth c H locs cells slots QQ (F0 m pc ls (.int p0 :: .ref (ad 5) :: rest)) :=
  zcalli (va_runV (As := [.int p0]) (rest := rest) ⟨hx, hb, hml, hown, hts⟩ (c_X4_countLaidOfSign l D cy ad σ p0 h) (cwV 1 hts hG rfl rfl rfl (by decide +kernel) hR) (zpreV hj hK hw _ (i := 5) (ci := 3) (by decide) rfl rfl) rfl rfl hsz rfl (lv_room hrest) hdg hcs) hA hS kk
set_option maxHeartbeats 4000000 in
set_option maxRecDepth 100000 in
theorem c_X4_countInStreetOfSign (l : Launch) (D : va_G) (cy : cyT) (ad : Nat → Nat) (σ : ST) (p0 : Int32) {Q : Int32 → ST → Prop} (h : wp_X4_countInStreetOfSign σ p0 Q) : Met l yX4_countInStreetOfSign wsX4_countInStreetOfSign ({ frames := 2, cells := 0, slots := 0, locals := 42 } : Room) (zPre D cy 116 (zce cy ad σ) ad [.ref (ad 5), .int p0]) (va_Qi Q (zB D 116 (zce cy ad) ad) (zA 116 ad)) 0 0 (zA 116 ad) := by
  refine Met.ofW (cc := cX4_countInStreetOfSign) (maxL := 5) (ret := (some .int)) (by decide) rfl ?_
  intro p e s m args below meth c s₁ B hml hv
  obtain ⟨rfl, hj, hK, hw⟩ := hv
  have hx := B.exec
  have hb := B.bytes
  have hr := B.returns
  have hts := atoms_spec (ws := wsX4_countInStreetOfSign) B.pre
  have hown : s.vm.findClass RX4 = some m.cls := findClass_of_methodNamed B.named
  have hlocks := B.notSynchronized
  have lk0 : Cond.fieldLink RX4 47 "TypeTrays$State" "presentCount" "I" ∈ wsX4_countInStreetOfSign := List.mem_of_getElem? (i := 1) rfl
  have lk1 : Cond.fieldLink RX4 44 "TypeTrays$State" "present" "LTypeTrays$Row;" ∈ wsX4_countInStreetOfSign := List.mem_of_getElem? (i := 2) rfl
  have lk2 : Cond.static yX6_signOf ∈ wsX4_countInStreetOfSign := List.mem_of_getElem? (i := 9) rfl
  have lk3 : Cond.initialized RX6 ∈ wsX4_countInStreetOfSign := List.mem_of_getElem? (i := 10) rfl
  have inX4 : ∀ w ∈ u_ws RX4 TX4 18, w ∈ wsX4_countInStreetOfSign := zin_at 18 rfl
  have hS : va_S (zA 116 ad) s.heap s.heap [] := va_S.rf
  have hA : ∀ i, i < 116 → zA 116 ad (ad i) := fun i hi => ⟨i, hi, rfl⟩
  have hl := lv_entry ([.ref (ad 5), .int p0]) (n := 5) (Nat.le_of_ble_eq_true rfl)
  rw [lg_entry_eq]
  generalize (lg_sl ([.ref (ad 5), .int p0]) ++ List.replicate (5 - (lg_sl ([.ref (ad 5), .int p0])).length) Slot.unset).toArray = ls at hl ⊢
  have hl : lv_has ls 5 [(0, .ref (ad 5)), (1, .int p0)] := hl
  show W p l e ({ frames := 2, cells := 0, slots := 0, locals := 42 } : Room) s m ([.ref (ad 5), .int p0] : List Value).toArray below meth c s.heap [] 0 0 (MQ below (va_Qi Q (zB D 116 (zce cy ad) ad) (zA 116 ad)) ([.ref (ad 5), .int p0] : List Value).toArray s 0 0 (zA 116 ad)) (F0 m 0 ls [])
  unfold wp_X4_countInStreetOfSign at h
  refine lv_iconst (v := (jI 0)) hx hb dX4_countInStreetOfSign_0 rfl ?_
  refine lv_istore_n (lv' := [(2, .int (jI 0)), (0, .ref (ad 5)), (1, .int p0)]) hx hb dX4_countInStreetOfSign_1 rfl hl (by decide) rfl (fun ls hl => ?_)
  refine lv_iconst (v := (jI 0)) hx hb dX4_countInStreetOfSign_2 rfl ?_
  refine lv_istore_n (lv' := [(3, .int (jI 0)), (2, .int (jI 0)), (0, .ref (ad 5)), (1, .int p0)]) hx hb dX4_countInStreetOfSign_3 rfl hl (by decide) rfl (fun ls hl => ?_)
  have k49_4 : ∀ (u_49 : ST) (z2_49 : Int32) (H : Heap) (locs : List Loc), Q z2_49 u_49 → zW D 116 (zce cy ad u_49) ad H → va_S (zA 116 ad) s.heap H locs → ∀ ls : Array Slot, lv_has ls 5 [(2, .int z2_49)] → W p l e ({ frames := 2, cells := 0, slots := 0, locals := 42 } : Room) s m ([.ref (ad 5), .int p0] : List Value).toArray below meth c H locs 0 0 (MQ below (va_Qi Q (zB D 116 (zce cy ad) ad) (zA 116 ad)) ([.ref (ad 5), .int p0] : List Value).toArray s 0 0 (zA 116 ad)) (F0 m 49 ls []) := by
    intro u_49 z2_49 H locs h hw hS ls hl
    refine lv_iload_n hx hb dX4_countInStreetOfSign_49 rfl (lv_at hl 0 rfl) ?_
    exact W.iret (v := z2_49) hx hb hr (fun t ht hW => ⟨⟨_, _, rfl, h, zend hw ht⟩, hS.F ht⟩) hS.2.2 dX4_countInStreetOfSign_50
  have lp4 : ∀ (nn4 : Nat) (t_4 : ST) (y2_4 : Int32) (y3_4 : Int32) (H : Heap) (locs : List Loc), wl_X4_countInStreetOfSign_4 (fun u_49 z2_49 => Q z2_49 u_49) p0 nn4 t_4 y2_4 y3_4 → zW D 116 (zce cy ad t_4) ad H → va_S (zA 116 ad) s.heap H locs → ∀ ls : Array Slot, lv_has ls 5 [(0, .ref (ad 5)), (1, .int p0), (2, .int y2_4), (3, .int y3_4)] → W p l e ({ frames := 2, cells := 0, slots := 0, locals := 42 } : Room) s m ([.ref (ad 5), .int p0] : List Value).toArray below meth c H locs 0 0 (MQ below (va_Qi Q (zB D 116 (zce cy ad) ad) (zA 116 ad)) ([.ref (ad 5), .int p0] : List Value).toArray s 0 0 (zA 116 ad)) (F0 m 4 ls []) := by
    intro nn4
    induction nn4 with
    | zero => intro _ _ _ _ _ h; exact h.elim
    | succ nn4 ih4 =>
      intro t_4 y2_4 y3_4 H locs h hw hS ls hl
      simp only [wl_X4_countInStreetOfSign_4, wb_X4_countInStreetOfSign_4] at h
      refine lv_iload_n hx hb dX4_countInStreetOfSign_4 rfl (lv_at hl 3 rfl) ?_
      refine lv_aload_n hx hb dX4_countInStreetOfSign_5 rfl (lv_at hl 0 rfl) ?_
      refine zget hx hb hts inX4 hown hK hw 5 (by decide) rfl rfl 10 (by decide) lk0 (fun _ h9 => h9) rfl dX4_countInStreetOfSign_6 ?_
      refine lv_icmp_ge (tgt := 49) hx hb dX4_countInStreetOfSign_9 (by decide) (fun c1 => ?_) (fun c1 => ?_)
      · have h := h.1 c1
        exact k49_4 _ _ _ _ h hw hS _ (lv_sub hl [2] rfl)
      · have h := h.2 c1
        refine lv_aload_n hx hb dX4_countInStreetOfSign_12 rfl (lv_at hl 0 rfl) ?_
        refine zget hx hb hts inX4 hown hK hw 5 (by decide) rfl rfl 9 (by decide) lk1 (fun _ h9 => h9) rfl dX4_countInStreetOfSign_13 ?_
        refine lv_iload_n hx hb dX4_countInStreetOfSign_16 rfl (lv_at hl 3 rfl) ?_
        refine zcall_get (rest := []) hx hb hml hown hts gX4_countInStreetOfSign_X3_get ⟨Nat.le_of_ble_eq_true rfl, Nat.le_of_ble_eq_true rfl⟩ ⟨Nat.zero_le _, Nat.zero_le _⟩ hK hj hw hA hS 9 (by decide) hl.1 (Nat.le_of_ble_eq_true rfl) dX4_countInStreetOfSign_17 (fun H locs hw hS => ?_)
        refine lv_topi (fun v1 ev1 => ?_)
        have h := h v1 ev1
        refine lv_istore (lv' := [(4, .int v1), (0, .ref (ad 5)), (1, .int p0), (2, .int y2_4), (3, .int y3_4)]) hx hb dX4_countInStreetOfSign_20 hl (by decide) rfl (fun ls hl => ?_)
        refine lv_iload hx hb dX4_countInStreetOfSign_22 (lv_at hl 0 rfl) ?_
        refine k_X6_signOf_n (rest := []) (own := RX4) (index := 134) hx hb hml hown hts gX4_countInStreetOfSign_X6_signOf_n134 lk2 lk3 (by decide +kernel) ⟨Nat.le_of_ble_eq_true rfl, Nat.le_of_ble_eq_true rfl⟩ ⟨Nat.zero_le _, Nat.zero_le _⟩ hK hj hw hA hS hl.1 (Nat.le_of_ble_eq_true rfl) dX4_countInStreetOfSign_24 h (fun r1 s1 H locs h hw hS => ?_)
        refine lv_iload_n hx hb dX4_countInStreetOfSign_27 rfl (lv_at hl 2 rfl) ?_
        refine lv_icmp_ne (tgt := 43) hx hb dX4_countInStreetOfSign_28 (by decide) (fun c2 => ?_) (fun c2 => ?_)
        · have h := h.2 c2
          obtain ⟨x1, ex1⟩ : ∃ y : Int32, y = y3_4 + (jI 1) := ⟨_, rfl⟩
          have h := h x1 ex1
          refine lv_iinc (v := x1) (lv' := [(3, .int x1), (4, .int v1), (0, .ref (ad 5)), (1, .int p0), (2, .int y2_4)]) hx hb dX4_countInStreetOfSign_43 hl (k := 4) rfl (by rw [ex1]; rfl) (by decide) rfl (fun ls hl => ?_)
          refine lv_goto (tgt := 4) hx hb dX4_countInStreetOfSign_46 (by decide) ?_
          exact ih4 _ _ _ _ _ h hw hS _ (lv_sub hl [2, 3, 4, 0] rfl)
        · have h := h.1 c2
          refine lv_aload_n hx hb dX4_countInStreetOfSign_31 rfl (lv_at hl 1 rfl) ?_
          refine lv_iload hx hb dX4_countInStreetOfSign_32 (lv_at hl 0 rfl) ?_
          refine k_X4_isInStreet (rest := []) hx hb hml hown hts gX4_countInStreetOfSign_X4_isInStreet ⟨Nat.le_of_ble_eq_true rfl, Nat.le_of_ble_eq_true rfl⟩ ⟨Nat.zero_le _, Nat.zero_le _⟩ hK hj hw hA hS hl.1 (Nat.le_of_ble_eq_true rfl) dX4_countInStreetOfSign_34 h (fun r2 s2 H locs h hw hS => ?_)
          refine zif_eq (tgt := 43) hx hb dX4_countInStreetOfSign_37 (by decide) (fun c3 => ?_) (fun c3 => ?_)
          · have h := h.1 c3
            obtain ⟨x2, ex2⟩ : ∃ y : Int32, y = y3_4 + (jI 1) := ⟨_, rfl⟩
            have h := h x2 ex2
            refine lv_iinc (v := x2) (lv' := [(3, .int x2), (4, .int v1), (0, .ref (ad 5)), (1, .int p0), (2, .int y2_4)]) hx hb dX4_countInStreetOfSign_43 hl (k := 4) rfl (by rw [ex2]; rfl) (by decide) rfl (fun ls hl => ?_)
            refine lv_goto (tgt := 4) hx hb dX4_countInStreetOfSign_46 (by decide) ?_
            exact ih4 _ _ _ _ _ h hw hS _ (lv_sub hl [2, 3, 4, 0] rfl)
          · have h := h.2 c3
            obtain ⟨x3, ex3⟩ : ∃ y : Int32, y = y2_4 + (jI 1) := ⟨_, rfl⟩
            have h := h x3 ex3
            refine lv_iinc (v := x3) (lv' := [(2, .int x3), (4, .int v1), (0, .ref (ad 5)), (1, .int p0), (3, .int y3_4)]) hx hb dX4_countInStreetOfSign_40 hl (k := 3) rfl (by rw [ex3]; rfl) (by decide) rfl (fun ls hl => ?_)
            obtain ⟨x4, ex4⟩ : ∃ y : Int32, y = y3_4 + (jI 1) := ⟨_, rfl⟩
            have h := h x4 ex4
            refine lv_iinc (v := x4) (lv' := [(3, .int x4), (2, .int x3), (4, .int v1), (0, .ref (ad 5)), (1, .int p0)]) hx hb dX4_countInStreetOfSign_43 hl (k := 4) rfl (by rw [ex4]; rfl) (by decide) rfl (fun ls hl => ?_)
            refine lv_goto (tgt := 4) hx hb dX4_countInStreetOfSign_46 (by decide) ?_
            exact ih4 _ _ _ _ _ h hw hS _ (lv_sub hl [3, 4, 1, 0] rfl)
  obtain ⟨nn4, h⟩ := h
  exact lp4 nn4 _ _ _ _ _ h hw hS _ (lv_sub hl [2, 3, 1, 0] rfl)
theorem k_X4_countInStreetOfSign {p : Program} {l : Launch} {e : Env} {R : Room} {s : State} {m : MethodId} {args : Array Value} {below : List Frame} {meth : Method} {c : Code} {H : Heap} {locs : List Loc} {cells slots : Nat} {QQ : State → Prop} {cc : ByteArray} {pc nL index : Nat} {ls : Array Slot} {rest : List Value} {D : va_G} {cy : cyT} {ad : Nat → Nat} {own : String} {Ts : List Cond} {H0 : Heap} {σ : ST} {p0 : Int32} {Q : Int32 → ST → Prop} (hx : p.tables.exec = Jvm.exec) (hb : c.code = cc) (hml : c.maxLocals = nL) (hown : s.vm.findClass own = some m.cls) (hts : ∀ w ∈ Ts, w.before args s = true) (hG : GoodIn Ts (wsV own index RX4 yX4_countInStreetOfSign wsX4_countInStreetOfSign)) (hR : 2 + 1 ≤ R.frames ∧ 8 + (5 + 11) + 42 ≤ R.locals) (hcs : cells ≤ R.cells ∧ slots ≤ R.slots) (hK : zK D cy s) (hj : zI 116 ad) (hw : zW D 116 (zce cy ad σ) ad H) {A0 : Nat → Prop} (hA : ∀ i, i < 116 → A0 (ad i)) (hS : va_S A0 H0 H locs) (hsz : ls.size = nL) (hrest : (rest.map fun v => v.category).sum ≤ 8) (hdg : decode cc pc = .ok (.invokevirtual index, 3)) (h : wp_X4_countInStreetOfSign σ p0 Q) (kk : ∀ (r : Int32) (σ : ST) (H : Heap) (locs : List Loc), Q r σ → zW D 116 (zce cy ad σ) ad H → va_S A0 H0 H locs → W p l e R s m args below meth c H locs cells slots QQ (F0 m (pc + 3) ls (.int r :: rest))) : W p l e R s m args below meth c H locs cells slots QQ (F0 m pc ls (.int p0 :: .ref (ad 5) :: rest)) :=
  zcalli (va_runV (As := [.int p0]) (rest := rest) ⟨hx, hb, hml, hown, hts⟩ (c_X4_countInStreetOfSign l D cy ad σ p0 h) (cwV 1 hts hG rfl rfl rfl (by decide +kernel) hR) (zpreV hj hK hw _ (i := 5) (ci := 3) (by decide) rfl rfl) rfl rfl hsz rfl (lv_room hrest) hdg hcs) hA hS kk
set_option maxHeartbeats 4000000 in
set_option maxRecDepth 100000 in
theorem c_X4_signValue (l : Launch) (D : va_G) (cy : cyT) (ad : Nat → Nat) (σ : ST) (p0 : Int32) (p1 : Int32) {Q : Int32 → ST → Prop} (h : wp_X4_signValue σ p0 p1 Q) : Met l yX4_signValue wsX4_signValue ({ frames := 3, cells := 0, slots := 0, locals := 66 } : Room) (zPre D cy 116 (zce cy ad σ) ad [.ref (ad 5), .int p0, .int p1]) (va_Qi Q (zB D 116 (zce cy ad) ad) (zA 116 ad)) 0 0 (zA 116 ad) := by
  refine Met.ofW (cc := cX4_signValue) (maxL := 3) (ret := (some .int)) (by decide) rfl ?_
  intro p e s m args below meth c s₁ B hml hv
  obtain ⟨rfl, hj, hK, hw⟩ := hv
  have hx := B.exec
  have hb := B.bytes
  have hr := B.returns
  have hts := atoms_spec (ws := wsX4_signValue) B.pre
  have hown : s.vm.findClass RX4 = some m.cls := findClass_of_methodNamed B.named
  have hlocks := B.notSynchronized
  have lk0 : Cond.fieldLink RX4 14 "TypeTrays$State" "signWidths" "LTypeTrays$Row;" ∈ wsX4_signValue := List.mem_of_getElem? (i := 1) rfl
  have lk1 : Cond.fieldLink RX4 20 "TypeTrays$State" "signHeights" "LTypeTrays$Row;" ∈ wsX4_signValue := List.mem_of_getElem? (i := 2) rfl
  have inX4 : ∀ w ∈ u_ws RX4 TX4 18, w ∈ wsX4_signValue := zin_at 32 rfl
  have hS : va_S (zA 116 ad) s.heap s.heap [] := va_S.rf
  have hA : ∀ i, i < 116 → zA 116 ad (ad i) := fun i hi => ⟨i, hi, rfl⟩
  have hl := lv_entry ([.ref (ad 5), .int p0, .int p1]) (n := 3) (Nat.le_of_ble_eq_true rfl)
  rw [lg_entry_eq]
  generalize (lg_sl ([.ref (ad 5), .int p0, .int p1]) ++ List.replicate (3 - (lg_sl ([.ref (ad 5), .int p0, .int p1])).length) Slot.unset).toArray = ls at hl ⊢
  have hl : lv_has ls 3 [(0, .ref (ad 5)), (1, .int p0), (2, .int p1)] := hl
  show W p l e ({ frames := 3, cells := 0, slots := 0, locals := 66 } : Room) s m ([.ref (ad 5), .int p0, .int p1] : List Value).toArray below meth c s.heap [] 0 0 (MQ below (va_Qi Q (zB D 116 (zce cy ad) ad) (zA 116 ad)) ([.ref (ad 5), .int p0, .int p1] : List Value).toArray s 0 0 (zA 116 ad)) (F0 m 0 ls [])
  unfold wp_X4_signValue at h
  refine lv_iload_n hx hb dX4_signValue_0 rfl (lv_at hl 2 rfl) ?_
  rcases Classical.em (p1 = (jI 0)) with c1 | c1
  · have h := h.1 c1
    refine lv_tableIn (tgt := 28) (off := 27) hx hb dX4_signValue_1 (by rw [c1]; decide +kernel) (by rw [c1]; decide +kernel) (by rw [c1]; decide +kernel) (by decide) ?_
    refine lv_aload_n hx hb dX4_signValue_28 rfl (lv_at hl 0 rfl) ?_
    refine zget hx hb hts inX4 hown hK hw 5 (by decide) rfl rfl 0 (by decide) lk0 (fun _ h9 => h9) rfl dX4_signValue_29 ?_
    refine lv_iload_n hx hb dX4_signValue_32 rfl (lv_at hl 1 rfl) ?_
    refine zcall_get (rest := []) hx hb hml hown hts gX4_signValue_X3_get ⟨Nat.le_of_ble_eq_true rfl, Nat.le_of_ble_eq_true rfl⟩ ⟨Nat.zero_le _, Nat.zero_le _⟩ hK hj hw hA hS 0 (by decide) hl.1 (Nat.le_of_ble_eq_true rfl) dX4_signValue_33 (fun H locs hw hS => ?_)
    refine lv_topi (fun v1 ev1 => ?_)
    have h := h v1 ev1
    exact W.iret (v := v1) hx hb hr (fun t ht hW => ⟨⟨_, _, rfl, h, zend hw ht⟩, hS.F ht⟩) hS.2.2 dX4_signValue_36
  have h := h.2 c1
  rcases Classical.em (p1 = (jI 1)) with c2 | c2
  · have h := h.1 c2
    refine lv_tableIn (tgt := 37) (off := 36) hx hb dX4_signValue_1 (by rw [c2]; decide +kernel) (by rw [c2]; decide +kernel) (by rw [c2]; decide +kernel) (by decide) ?_
    refine lv_aload_n hx hb dX4_signValue_37 rfl (lv_at hl 0 rfl) ?_
    refine zget hx hb hts inX4 hown hK hw 5 (by decide) rfl rfl 1 (by decide) lk1 (fun _ h9 => h9) rfl dX4_signValue_38 ?_
    refine lv_iload_n hx hb dX4_signValue_41 rfl (lv_at hl 1 rfl) ?_
    refine zcall_get (rest := []) hx hb hml hown hts gX4_signValue_X3_get ⟨Nat.le_of_ble_eq_true rfl, Nat.le_of_ble_eq_true rfl⟩ ⟨Nat.zero_le _, Nat.zero_le _⟩ hK hj hw hA hS 1 (by decide) hl.1 (Nat.le_of_ble_eq_true rfl) dX4_signValue_42 (fun H locs hw hS => ?_)
    refine lv_topi (fun v2 ev2 => ?_)
    have h := h v2 ev2
    exact W.iret (v := v2) hx hb hr (fun t ht hW => ⟨⟨_, _, rfl, h, zend hw ht⟩, hS.F ht⟩) hS.2.2 dX4_signValue_45
  have h := h.2 c2
  rcases Classical.em (p1 = (jI 2)) with c3 | c3
  · have h := h.1 c3
    refine lv_tableIn (tgt := 46) (off := 45) hx hb dX4_signValue_1 (by rw [c3]; decide +kernel) (by rw [c3]; decide +kernel) (by rw [c3]; decide +kernel) (by decide) ?_
    refine lv_aload_n hx hb dX4_signValue_46 rfl (lv_at hl 0 rfl) ?_
    refine lv_iload_n hx hb dX4_signValue_47 rfl (lv_at hl 1 rfl) ?_
    refine k_X4_countLaidOfSign (rest := []) hx hb hml hown hts gX4_signValue_X4_countLaidOfSign ⟨Nat.le_of_ble_eq_true rfl, Nat.le_of_ble_eq_true rfl⟩ ⟨Nat.zero_le _, Nat.zero_le _⟩ hK hj hw hA hS hl.1 (Nat.le_of_ble_eq_true rfl) dX4_signValue_48 h (fun r1 s1 H locs h hw hS => ?_)
    exact W.iret (v := r1) hx hb hr (fun t ht hW => ⟨⟨_, _, rfl, h, zend hw ht⟩, hS.F ht⟩) hS.2.2 dX4_signValue_51
  have h := h.2 c3
  have hsw1 := zsw_out (x := p1) (0) 3 (fun k hk => by
    match k, hk with
    | 0, _ => exact c1
    | 1, _ => exact c2
    | 2, _ => exact c3
    | k + 3, hk => exact absurd hk (by omega))
  refine lv_tableOut (tgt := 52) hx hb dX4_signValue_1 hsw1 (by decide) ?_
  refine lv_aload_n hx hb dX4_signValue_52 rfl (lv_at hl 0 rfl) ?_
  refine lv_iload_n hx hb dX4_signValue_53 rfl (lv_at hl 1 rfl) ?_
  refine k_X4_countInStreetOfSign (rest := []) hx hb hml hown hts gX4_signValue_X4_countInStreetOfSign ⟨Nat.le_of_ble_eq_true rfl, Nat.le_of_ble_eq_true rfl⟩ ⟨Nat.zero_le _, Nat.zero_le _⟩ hK hj hw hA hS hl.1 (Nat.le_of_ble_eq_true rfl) dX4_signValue_54 h (fun r2 s2 H locs h hw hS => ?_)
  exact W.iret (v := r2) hx hb hr (fun t ht hW => ⟨⟨_, _, rfl, h, zend hw ht⟩, hS.F ht⟩) hS.2.2 dX4_signValue_57
theorem k_X4_signValue {p : Program} {l : Launch} {e : Env} {R : Room} {s : State} {m : MethodId} {args : Array Value} {below : List Frame} {meth : Method} {c : Code} {H : Heap} {locs : List Loc} {cells slots : Nat} {QQ : State → Prop} {cc : ByteArray} {pc nL index : Nat} {ls : Array Slot} {rest : List Value} {D : va_G} {cy : cyT} {ad : Nat → Nat} {own : String} {Ts : List Cond} {H0 : Heap} {σ : ST} {p0 : Int32} {p1 : Int32} {Q : Int32 → ST → Prop} (hx : p.tables.exec = Jvm.exec) (hb : c.code = cc) (hml : c.maxLocals = nL) (hown : s.vm.findClass own = some m.cls) (hts : ∀ w ∈ Ts, w.before args s = true) (hG : GoodIn Ts (wsV own index RX4 yX4_signValue wsX4_signValue)) (hR : 3 + 1 ≤ R.frames ∧ 8 + (3 + 11) + 66 ≤ R.locals) (hcs : cells ≤ R.cells ∧ slots ≤ R.slots) (hK : zK D cy s) (hj : zI 116 ad) (hw : zW D 116 (zce cy ad σ) ad H) {A0 : Nat → Prop} (hA : ∀ i, i < 116 → A0 (ad i)) (hS : va_S A0 H0 H locs) (hsz : ls.size = nL) (hrest : (rest.map fun v => v.category).sum ≤ 8) (hdg : decode cc pc = .ok (.invokevirtual index, 3)) (h : wp_X4_signValue σ p0 p1 Q) (kk : ∀ (r : Int32) (σ : ST) (H : Heap) (locs : List Loc), Q r σ → zW D 116 (zce cy ad σ) ad H → va_S A0 H0 H locs → W p l e R s m args below meth c H locs cells slots QQ (F0 m (pc + 3) ls (.int r :: rest))) : W p l e R s m args below meth c H locs cells slots QQ (F0 m pc ls (.int p1 :: .int p0 :: .ref (ad 5) :: rest)) :=
  zcalli (va_runV (As := [.int p0, .int p1]) (rest := rest) ⟨hx, hb, hml, hown, hts⟩ (c_X4_signValue l D cy ad σ p0 p1 h) (cwV 2 hts hG rfl rfl rfl (by decide +kernel) hR) (zpreV hj hK hw _ (i := 5) (ci := 3) (by decide) rfl rfl) rfl rfl hsz rfl (lv_room hrest) hdg hcs) hA hS kk
set_option maxHeartbeats 4000000 in
set_option maxRecDepth 100000 in
theorem c_X4_isInTray (l : Launch) (D : va_G) (cy : cyT) (ad : Nat → Nat) (σ : ST) (p0 : Int32) (p1 : Int32) {Q : Int32 → ST → Prop} (h : wp_X4_isInTray σ p0 p1 Q) : Met l yX4_isInTray wsX4_isInTray ({ frames := 2, cells := 0, slots := 0, locals := 42 } : Room) (zPre D cy 116 (zce cy ad σ) ad [.ref (ad 5), .int p0, .int p1]) (va_Qi Q (zB D 116 (zce cy ad) ad) (zA 116 ad)) 0 0 (zA 116 ad) := by
  refine Met.ofW (cc := cX4_isInTray) (maxL := 3) (ret := (some .boolean)) (by decide) rfl ?_
  intro p e s m args below meth c s₁ B hml hv
  obtain ⟨rfl, hj, hK, hw⟩ := hv
  have hx := B.exec
  have hb := B.bytes
  have hr := B.returns
  have hts := atoms_spec (ws := wsX4_isInTray) B.pre
  have hown : s.vm.findClass RX4 = some m.cls := findClass_of_methodNamed B.named
  have hlocks := B.notSynchronized
  have lk0 : Cond.fieldLink RX4 26 "TypeTrays$State" "slots" "LTypeTrays$Row;" ∈ wsX4_isInTray := List.mem_of_getElem? (i := 1) rfl
  have inX4 : ∀ w ∈ u_ws RX4 TX4 18, w ∈ wsX4_isInTray := zin_at 13 rfl
  have hS : va_S (zA 116 ad) s.heap s.heap [] := va_S.rf
  have hA : ∀ i, i < 116 → zA 116 ad (ad i) := fun i hi => ⟨i, hi, rfl⟩
  have hl := lv_entry ([.ref (ad 5), .int p0, .int p1]) (n := 3) (Nat.le_of_ble_eq_true rfl)
  rw [lg_entry_eq]
  generalize (lg_sl ([.ref (ad 5), .int p0, .int p1]) ++ List.replicate (3 - (lg_sl ([.ref (ad 5), .int p0, .int p1])).length) Slot.unset).toArray = ls at hl ⊢
  have hl : lv_has ls 3 [(0, .ref (ad 5)), (1, .int p0), (2, .int p1)] := hl
  show W p l e ({ frames := 2, cells := 0, slots := 0, locals := 42 } : Room) s m ([.ref (ad 5), .int p0, .int p1] : List Value).toArray below meth c s.heap [] 0 0 (MQ below (va_Qi Q (zB D 116 (zce cy ad) ad) (zA 116 ad)) ([.ref (ad 5), .int p0, .int p1] : List Value).toArray s 0 0 (zA 116 ad)) (F0 m 0 ls [])
  unfold wp_X4_isInTray at h
  refine lv_aload_n hx hb dX4_isInTray_0 rfl (lv_at hl 0 rfl) ?_
  refine lv_iload_n hx hb dX4_isInTray_1 rfl (lv_at hl 1 rfl) ?_
  refine k_X4_isLaid (rest := []) hx hb hml hown hts gX4_isInTray_X4_isLaid ⟨Nat.le_of_ble_eq_true rfl, Nat.le_of_ble_eq_true rfl⟩ ⟨Nat.zero_le _, Nat.zero_le _⟩ hK hj hw hA hS hl.1 (Nat.le_of_ble_eq_true rfl) dX4_isInTray_2 h (fun r1 s1 H locs h hw hS => ?_)
  refine zif_eq (tgt := 27) hx hb dX4_isInTray_5 (by decide) (fun c1 => ?_) (fun c1 => ?_)
  · have h := h.1 c1
    refine lv_iconst (v := (jI 0)) hx hb dX4_isInTray_27 rfl ?_
    exact W.zret (v := (jI 0)) (ty := .boolean) hx hb hr (by decide +kernel) (fun t ht hW => ⟨⟨_, _, rfl, h, zend hw ht⟩, hS.F ht⟩) hS.2.2 dX4_isInTray_28
  · have h := h.2 c1
    refine lv_aload_n hx hb dX4_isInTray_8 rfl (lv_at hl 0 rfl) ?_
    refine zget hx hb hts inX4 hown hK hw 5 (by decide) rfl rfl 3 (by decide) lk0 (fun _ h9 => h9) rfl dX4_isInTray_9 ?_
    refine lv_iload_n hx hb dX4_isInTray_12 rfl (lv_at hl 1 rfl) ?_
    refine zcall_get (rest := []) hx hb hml hown hts gX4_isInTray_X3_get ⟨Nat.le_of_ble_eq_true rfl, Nat.le_of_ble_eq_true rfl⟩ ⟨Nat.zero_le _, Nat.zero_le _⟩ hK hj hw hA hS 3 (by decide) hl.1 (Nat.le_of_ble_eq_true rfl) dX4_isInTray_13 (fun H locs hw hS => ?_)
    refine lv_topi (fun v1 ev1 => ?_)
    have h := h v1 ev1
    refine lv_bipush (v := (jI 24)) hx hb dX4_isInTray_16 (by decide +kernel) ?_
    refine lv_idiv hx hb dX4_isInTray_18 (by decide +kernel) ?_
    refine lv_iload_n hx hb dX4_isInTray_19 rfl (lv_at hl 2 rfl) ?_
    refine lv_icmp_ne (tgt := 27) hx hb dX4_isInTray_20 (by decide) (fun c2 => ?_) (fun c2 => ?_)
    · have h := h.2 c2
      refine lv_iconst (v := (jI 0)) hx hb dX4_isInTray_27 rfl ?_
      exact W.zret (v := (jI 0)) (ty := .boolean) hx hb hr (by decide +kernel) (fun t ht hW => ⟨⟨_, _, rfl, h, zend hw ht⟩, hS.F ht⟩) hS.2.2 dX4_isInTray_28
    · have h := h.1 c2
      refine lv_iconst (v := (jI 1)) hx hb dX4_isInTray_23 rfl ?_
      refine lv_goto (tgt := 28) hx hb dX4_isInTray_24 (by decide) ?_
      exact W.zret (v := (jI 1)) (ty := .boolean) hx hb hr (by decide +kernel) (fun t ht hW => ⟨⟨_, _, rfl, h, zend hw ht⟩, hS.F ht⟩) hS.2.2 dX4_isInTray_28
theorem k_X4_isInTray {p : Program} {l : Launch} {e : Env} {R : Room} {s : State} {m : MethodId} {args : Array Value} {below : List Frame} {meth : Method} {c : Code} {H : Heap} {locs : List Loc} {cells slots : Nat} {QQ : State → Prop} {cc : ByteArray} {pc nL index : Nat} {ls : Array Slot} {rest : List Value} {D : va_G} {cy : cyT} {ad : Nat → Nat} {own : String} {Ts : List Cond} {H0 : Heap} {σ : ST} {p0 : Int32} {p1 : Int32} {Q : Int32 → ST → Prop} (hx : p.tables.exec = Jvm.exec) (hb : c.code = cc) (hml : c.maxLocals = nL) (hown : s.vm.findClass own = some m.cls) (hts : ∀ w ∈ Ts, w.before args s = true) (hG : GoodIn Ts (wsV own index RX4 yX4_isInTray wsX4_isInTray)) (hR : 2 + 1 ≤ R.frames ∧ 8 + (3 + 11) + 42 ≤ R.locals) (hcs : cells ≤ R.cells ∧ slots ≤ R.slots) (hK : zK D cy s) (hj : zI 116 ad) (hw : zW D 116 (zce cy ad σ) ad H) {A0 : Nat → Prop} (hA : ∀ i, i < 116 → A0 (ad i)) (hS : va_S A0 H0 H locs) (hsz : ls.size = nL) (hrest : (rest.map fun v => v.category).sum ≤ 8) (hdg : decode cc pc = .ok (.invokevirtual index, 3)) (h : wp_X4_isInTray σ p0 p1 Q) (kk : ∀ (r : Int32) (σ : ST) (H : Heap) (locs : List Loc), Q r σ → zW D 116 (zce cy ad σ) ad H → va_S A0 H0 H locs → W p l e R s m args below meth c H locs cells slots QQ (F0 m (pc + 3) ls (.int r :: rest))) : W p l e R s m args below meth c H locs cells slots QQ (F0 m pc ls (.int p1 :: .int p0 :: .ref (ad 5) :: rest)) :=
  zcalli (va_runV (As := [.int p0, .int p1]) (rest := rest) ⟨hx, hb, hml, hown, hts⟩ (c_X4_isInTray l D cy ad σ p0 p1 h) (cwV 2 hts hG rfl rfl rfl (by decide +kernel) hR) (zpreV hj hK hw _ (i := 5) (ci := 3) (by decide) rfl rfl) rfl rfl hsz rfl (lv_room hrest) hdg hcs) hA hS kk
set_option maxHeartbeats 4000000 in
set_option maxRecDepth 100000 in
theorem c_X4_countInTray (l : Launch) (D : va_G) (cy : cyT) (ad : Nat → Nat) (σ : ST) (p0 : Int32) {Q : Int32 → ST → Prop} (h : wp_X4_countInTray σ p0 Q) : Met l yX4_countInTray wsX4_countInTray ({ frames := 3, cells := 0, slots := 0, locals := 64 } : Room) (zPre D cy 116 (zce cy ad σ) ad [.ref (ad 5), .int p0]) (va_Qi Q (zB D 116 (zce cy ad) ad) (zA 116 ad)) 0 0 (zA 116 ad) := by
  refine Met.ofW (cc := cX4_countInTray) (maxL := 4) (ret := (some .int)) (by decide) rfl ?_
  intro p e s m args below meth c s₁ B hml hv
  obtain ⟨rfl, hj, hK, hw⟩ := hv
  have hx := B.exec
  have hb := B.bytes
  have hr := B.returns
  have hts := atoms_spec (ws := wsX4_countInTray) B.pre
  have hown : s.vm.findClass RX4 = some m.cls := findClass_of_methodNamed B.named
  have hlocks := B.notSynchronized
  have lk0 : Cond.fieldLink RX4 47 "TypeTrays$State" "presentCount" "I" ∈ wsX4_countInTray := List.mem_of_getElem? (i := 1) rfl
  have lk1 : Cond.fieldLink RX4 44 "TypeTrays$State" "present" "LTypeTrays$Row;" ∈ wsX4_countInTray := List.mem_of_getElem? (i := 2) rfl
  have inX4 : ∀ w ∈ u_ws RX4 TX4 18, w ∈ wsX4_countInTray := zin_at 19 rfl
  have hS : va_S (zA 116 ad) s.heap s.heap [] := va_S.rf
  have hA : ∀ i, i < 116 → zA 116 ad (ad i) := fun i hi => ⟨i, hi, rfl⟩
  have hl := lv_entry ([.ref (ad 5), .int p0]) (n := 4) (Nat.le_of_ble_eq_true rfl)
  rw [lg_entry_eq]
  generalize (lg_sl ([.ref (ad 5), .int p0]) ++ List.replicate (4 - (lg_sl ([.ref (ad 5), .int p0])).length) Slot.unset).toArray = ls at hl ⊢
  have hl : lv_has ls 4 [(0, .ref (ad 5)), (1, .int p0)] := hl
  show W p l e ({ frames := 3, cells := 0, slots := 0, locals := 64 } : Room) s m ([.ref (ad 5), .int p0] : List Value).toArray below meth c s.heap [] 0 0 (MQ below (va_Qi Q (zB D 116 (zce cy ad) ad) (zA 116 ad)) ([.ref (ad 5), .int p0] : List Value).toArray s 0 0 (zA 116 ad)) (F0 m 0 ls [])
  unfold wp_X4_countInTray at h
  refine lv_iconst (v := (jI 0)) hx hb dX4_countInTray_0 rfl ?_
  refine lv_istore_n (lv' := [(2, .int (jI 0)), (0, .ref (ad 5)), (1, .int p0)]) hx hb dX4_countInTray_1 rfl hl (by decide) rfl (fun ls hl => ?_)
  refine lv_iconst (v := (jI 0)) hx hb dX4_countInTray_2 rfl ?_
  refine lv_istore_n (lv' := [(3, .int (jI 0)), (2, .int (jI 0)), (0, .ref (ad 5)), (1, .int p0)]) hx hb dX4_countInTray_3 rfl hl (by decide) rfl (fun ls hl => ?_)
  have k37_4 : ∀ (u_37 : ST) (z2_37 : Int32) (H : Heap) (locs : List Loc), Q z2_37 u_37 → zW D 116 (zce cy ad u_37) ad H → va_S (zA 116 ad) s.heap H locs → ∀ ls : Array Slot, lv_has ls 4 [(2, .int z2_37)] → W p l e ({ frames := 3, cells := 0, slots := 0, locals := 64 } : Room) s m ([.ref (ad 5), .int p0] : List Value).toArray below meth c H locs 0 0 (MQ below (va_Qi Q (zB D 116 (zce cy ad) ad) (zA 116 ad)) ([.ref (ad 5), .int p0] : List Value).toArray s 0 0 (zA 116 ad)) (F0 m 37 ls []) := by
    intro u_37 z2_37 H locs h hw hS ls hl
    refine lv_iload_n hx hb dX4_countInTray_37 rfl (lv_at hl 0 rfl) ?_
    exact W.iret (v := z2_37) hx hb hr (fun t ht hW => ⟨⟨_, _, rfl, h, zend hw ht⟩, hS.F ht⟩) hS.2.2 dX4_countInTray_38
  have lp4 : ∀ (nn4 : Nat) (t_4 : ST) (y2_4 : Int32) (y3_4 : Int32) (H : Heap) (locs : List Loc), wl_X4_countInTray_4 (fun u_37 z2_37 => Q z2_37 u_37) p0 nn4 t_4 y2_4 y3_4 → zW D 116 (zce cy ad t_4) ad H → va_S (zA 116 ad) s.heap H locs → ∀ ls : Array Slot, lv_has ls 4 [(0, .ref (ad 5)), (1, .int p0), (2, .int y2_4), (3, .int y3_4)] → W p l e ({ frames := 3, cells := 0, slots := 0, locals := 64 } : Room) s m ([.ref (ad 5), .int p0] : List Value).toArray below meth c H locs 0 0 (MQ below (va_Qi Q (zB D 116 (zce cy ad) ad) (zA 116 ad)) ([.ref (ad 5), .int p0] : List Value).toArray s 0 0 (zA 116 ad)) (F0 m 4 ls []) := by
    intro nn4
    induction nn4 with
    | zero => intro _ _ _ _ _ h; exact h.elim
    | succ nn4 ih4 =>
      intro t_4 y2_4 y3_4 H locs h hw hS ls hl
      simp only [wl_X4_countInTray_4, wb_X4_countInTray_4] at h
      refine lv_iload_n hx hb dX4_countInTray_4 rfl (lv_at hl 3 rfl) ?_
      refine lv_aload_n hx hb dX4_countInTray_5 rfl (lv_at hl 0 rfl) ?_
      refine zget hx hb hts inX4 hown hK hw 5 (by decide) rfl rfl 10 (by decide) lk0 (fun _ h9 => h9) rfl dX4_countInTray_6 ?_
      refine lv_icmp_ge (tgt := 37) hx hb dX4_countInTray_9 (by decide) (fun c1 => ?_) (fun c1 => ?_)
      · have h := h.1 c1
        exact k37_4 _ _ _ _ h hw hS _ (lv_sub hl [2] rfl)
      · have h := h.2 c1
        refine lv_aload_n hx hb dX4_countInTray_12 rfl (lv_at hl 0 rfl) ?_
        refine lv_aload_n hx hb dX4_countInTray_13 rfl (lv_at hl 0 rfl) ?_
        refine zget hx hb hts inX4 hown hK hw 5 (by decide) rfl rfl 9 (by decide) lk1 (fun _ h9 => h9) rfl dX4_countInTray_14 ?_
        refine lv_iload_n hx hb dX4_countInTray_17 rfl (lv_at hl 3 rfl) ?_
        refine zcall_get (rest := [.ref (ad 5)]) hx hb hml hown hts gX4_countInTray_X3_get ⟨Nat.le_of_ble_eq_true rfl, Nat.le_of_ble_eq_true rfl⟩ ⟨Nat.zero_le _, Nat.zero_le _⟩ hK hj hw hA hS 9 (by decide) hl.1 (Nat.le_of_ble_eq_true rfl) dX4_countInTray_18 (fun H locs hw hS => ?_)
        refine lv_topi (fun v1 ev1 => ?_)
        have h := h v1 ev1
        refine lv_iload_n hx hb dX4_countInTray_21 rfl (lv_at hl 1 rfl) ?_
        refine k_X4_isInTray (rest := []) hx hb hml hown hts gX4_countInTray_X4_isInTray ⟨Nat.le_of_ble_eq_true rfl, Nat.le_of_ble_eq_true rfl⟩ ⟨Nat.zero_le _, Nat.zero_le _⟩ hK hj hw hA hS hl.1 (Nat.le_of_ble_eq_true rfl) dX4_countInTray_22 h (fun r1 s1 H locs h hw hS => ?_)
        refine zif_eq (tgt := 31) hx hb dX4_countInTray_25 (by decide) (fun c2 => ?_) (fun c2 => ?_)
        · have h := h.1 c2
          obtain ⟨x1, ex1⟩ : ∃ y : Int32, y = y3_4 + (jI 1) := ⟨_, rfl⟩
          have h := h x1 ex1
          refine lv_iinc (v := x1) (lv' := [(3, .int x1), (0, .ref (ad 5)), (1, .int p0), (2, .int y2_4)]) hx hb dX4_countInTray_31 hl (k := 3) rfl (by rw [ex1]; rfl) (by decide) rfl (fun ls hl => ?_)
          refine lv_goto (tgt := 4) hx hb dX4_countInTray_34 (by decide) ?_
          exact ih4 _ _ _ _ _ h hw hS _ (lv_sub hl [1, 2, 3, 0] rfl)
        · have h := h.2 c2
          obtain ⟨x2, ex2⟩ : ∃ y : Int32, y = y2_4 + (jI 1) := ⟨_, rfl⟩
          have h := h x2 ex2
          refine lv_iinc (v := x2) (lv' := [(2, .int x2), (0, .ref (ad 5)), (1, .int p0), (3, .int y3_4)]) hx hb dX4_countInTray_28 hl (k := 2) rfl (by rw [ex2]; rfl) (by decide) rfl (fun ls hl => ?_)
          obtain ⟨x3, ex3⟩ : ∃ y : Int32, y = y3_4 + (jI 1) := ⟨_, rfl⟩
          have h := h x3 ex3
          refine lv_iinc (v := x3) (lv' := [(3, .int x3), (2, .int x2), (0, .ref (ad 5)), (1, .int p0)]) hx hb dX4_countInTray_31 hl (k := 3) rfl (by rw [ex3]; rfl) (by decide) rfl (fun ls hl => ?_)
          refine lv_goto (tgt := 4) hx hb dX4_countInTray_34 (by decide) ?_
          exact ih4 _ _ _ _ _ h hw hS _ (lv_sub hl [2, 3, 1, 0] rfl)
  obtain ⟨nn4, h⟩ := h
  exact lp4 nn4 _ _ _ _ _ h hw hS _ (lv_sub hl [2, 3, 1, 0] rfl)
theorem k_X4_countInTray {p : Program} {l : Launch} {e : Env} {R : Room} {s : State} {m : MethodId} {args : Array Value} {below : List Frame} {meth : Method} {c : Code} {H : Heap} {locs : List Loc} {cells slots : Nat} {QQ : State → Prop} {cc : ByteArray} {pc nL index : Nat} {ls : Array Slot} {rest : List Value} {D : va_G} {cy : cyT} {ad : Nat → Nat} {own : String} {Ts : List Cond} {H0 : Heap} {σ : ST} {p0 : Int32} {Q : Int32 → ST → Prop} (hx : p.tables.exec = Jvm.exec) (hb : c.code = cc) (hml : c.maxLocals = nL) (hown : s.vm.findClass own = some m.cls) (hts : ∀ w ∈ Ts, w.before args s = true) (hG : GoodIn Ts (wsV own index RX4 yX4_countInTray wsX4_countInTray)) (hR : 3 + 1 ≤ R.frames ∧ 8 + (4 + 11) + 64 ≤ R.locals) (hcs : cells ≤ R.cells ∧ slots ≤ R.slots) (hK : zK D cy s) (hj : zI 116 ad) (hw : zW D 116 (zce cy ad σ) ad H) {A0 : Nat → Prop} (hA : ∀ i, i < 116 → A0 (ad i)) (hS : va_S A0 H0 H locs) (hsz : ls.size = nL) (hrest : (rest.map fun v => v.category).sum ≤ 8) (hdg : decode cc pc = .ok (.invokevirtual index, 3)) (h : wp_X4_countInTray σ p0 Q) (kk : ∀ (r : Int32) (σ : ST) (H : Heap) (locs : List Loc), Q r σ → zW D 116 (zce cy ad σ) ad H → va_S A0 H0 H locs → W p l e R s m args below meth c H locs cells slots QQ (F0 m (pc + 3) ls (.int r :: rest))) : W p l e R s m args below meth c H locs cells slots QQ (F0 m pc ls (.int p0 :: .ref (ad 5) :: rest)) :=
  zcalli (va_runV (As := [.int p0]) (rest := rest) ⟨hx, hb, hml, hown, hts⟩ (c_X4_countInTray l D cy ad σ p0 h) (cwV 1 hts hG rfl rfl rfl (by decide +kernel) hR) (zpreV hj hK hw _ (i := 5) (ci := 3) (by decide) rfl rfl) rfl rfl hsz rfl (lv_room hrest) hdg hcs) hA hS kk
set_option maxHeartbeats 4000000 in
set_option maxRecDepth 100000 in
theorem c_X4_areaInTray (l : Launch) (D : va_G) (cy : cyT) (ad : Nat → Nat) (σ : ST) (p0 : Int32) {Q : Int32 → ST → Prop} (h : wp_X4_areaInTray σ p0 Q) : Met l yX4_areaInTray wsX4_areaInTray ({ frames := 3, cells := 0, slots := 0, locals := 64 } : Room) (zPre D cy 116 (zce cy ad σ) ad [.ref (ad 5), .int p0]) (va_Qi Q (zB D 116 (zce cy ad) ad) (zA 116 ad)) 0 0 (zA 116 ad) := by
  refine Met.ofW (cc := cX4_areaInTray) (maxL := 5) (ret := (some .int)) (by decide) rfl ?_
  intro p e s m args below meth c s₁ B hml hv
  obtain ⟨rfl, hj, hK, hw⟩ := hv
  have hx := B.exec
  have hb := B.bytes
  have hr := B.returns
  have hts := atoms_spec (ws := wsX4_areaInTray) B.pre
  have hown : s.vm.findClass RX4 = some m.cls := findClass_of_methodNamed B.named
  have hlocks := B.notSynchronized
  have lk0 : Cond.fieldLink RX4 47 "TypeTrays$State" "presentCount" "I" ∈ wsX4_areaInTray := List.mem_of_getElem? (i := 1) rfl
  have lk1 : Cond.fieldLink RX4 44 "TypeTrays$State" "present" "LTypeTrays$Row;" ∈ wsX4_areaInTray := List.mem_of_getElem? (i := 2) rfl
  have inX4 : ∀ w ∈ u_ws RX4 TX4 18, w ∈ wsX4_areaInTray := zin_at 40 rfl
  have hS : va_S (zA 116 ad) s.heap s.heap [] := va_S.rf
  have hA : ∀ i, i < 116 → zA 116 ad (ad i) := fun i hi => ⟨i, hi, rfl⟩
  have hl := lv_entry ([.ref (ad 5), .int p0]) (n := 5) (Nat.le_of_ble_eq_true rfl)
  rw [lg_entry_eq]
  generalize (lg_sl ([.ref (ad 5), .int p0]) ++ List.replicate (5 - (lg_sl ([.ref (ad 5), .int p0])).length) Slot.unset).toArray = ls at hl ⊢
  have hl : lv_has ls 5 [(0, .ref (ad 5)), (1, .int p0)] := hl
  show W p l e ({ frames := 3, cells := 0, slots := 0, locals := 64 } : Room) s m ([.ref (ad 5), .int p0] : List Value).toArray below meth c s.heap [] 0 0 (MQ below (va_Qi Q (zB D 116 (zce cy ad) ad) (zA 116 ad)) ([.ref (ad 5), .int p0] : List Value).toArray s 0 0 (zA 116 ad)) (F0 m 0 ls [])
  unfold wp_X4_areaInTray at h
  refine lv_iconst (v := (jI 0)) hx hb dX4_areaInTray_0 rfl ?_
  refine lv_istore_n (lv' := [(2, .int (jI 0)), (0, .ref (ad 5)), (1, .int p0)]) hx hb dX4_areaInTray_1 rfl hl (by decide) rfl (fun ls hl => ?_)
  refine lv_iconst (v := (jI 0)) hx hb dX4_areaInTray_2 rfl ?_
  refine lv_istore_n (lv' := [(3, .int (jI 0)), (2, .int (jI 0)), (0, .ref (ad 5)), (1, .int p0)]) hx hb dX4_areaInTray_3 rfl hl (by decide) rfl (fun ls hl => ?_)
  have k47_4 : ∀ (u_47 : ST) (z2_47 : Int32) (H : Heap) (locs : List Loc), Q z2_47 u_47 → zW D 116 (zce cy ad u_47) ad H → va_S (zA 116 ad) s.heap H locs → ∀ ls : Array Slot, lv_has ls 5 [(2, .int z2_47)] → W p l e ({ frames := 3, cells := 0, slots := 0, locals := 64 } : Room) s m ([.ref (ad 5), .int p0] : List Value).toArray below meth c H locs 0 0 (MQ below (va_Qi Q (zB D 116 (zce cy ad) ad) (zA 116 ad)) ([.ref (ad 5), .int p0] : List Value).toArray s 0 0 (zA 116 ad)) (F0 m 47 ls []) := by
    intro u_47 z2_47 H locs h hw hS ls hl
    refine lv_iload_n hx hb dX4_areaInTray_47 rfl (lv_at hl 0 rfl) ?_
    exact W.iret (v := z2_47) hx hb hr (fun t ht hW => ⟨⟨_, _, rfl, h, zend hw ht⟩, hS.F ht⟩) hS.2.2 dX4_areaInTray_48
  have lp4 : ∀ (nn4 : Nat) (t_4 : ST) (y2_4 : Int32) (y3_4 : Int32) (H : Heap) (locs : List Loc), wl_X4_areaInTray_4 (fun u_47 z2_47 => Q z2_47 u_47) p0 nn4 t_4 y2_4 y3_4 → zW D 116 (zce cy ad t_4) ad H → va_S (zA 116 ad) s.heap H locs → ∀ ls : Array Slot, lv_has ls 5 [(0, .ref (ad 5)), (1, .int p0), (2, .int y2_4), (3, .int y3_4)] → W p l e ({ frames := 3, cells := 0, slots := 0, locals := 64 } : Room) s m ([.ref (ad 5), .int p0] : List Value).toArray below meth c H locs 0 0 (MQ below (va_Qi Q (zB D 116 (zce cy ad) ad) (zA 116 ad)) ([.ref (ad 5), .int p0] : List Value).toArray s 0 0 (zA 116 ad)) (F0 m 4 ls []) := by
    intro nn4
    induction nn4 with
    | zero => intro _ _ _ _ _ h; exact h.elim
    | succ nn4 ih4 =>
      intro t_4 y2_4 y3_4 H locs h hw hS ls hl
      simp only [wl_X4_areaInTray_4, wb_X4_areaInTray_4] at h
      refine lv_iload_n hx hb dX4_areaInTray_4 rfl (lv_at hl 3 rfl) ?_
      refine lv_aload_n hx hb dX4_areaInTray_5 rfl (lv_at hl 0 rfl) ?_
      refine zget hx hb hts inX4 hown hK hw 5 (by decide) rfl rfl 10 (by decide) lk0 (fun _ h9 => h9) rfl dX4_areaInTray_6 ?_
      refine lv_icmp_ge (tgt := 47) hx hb dX4_areaInTray_9 (by decide) (fun c1 => ?_) (fun c1 => ?_)
      · have h := h.1 c1
        exact k47_4 _ _ _ _ h hw hS _ (lv_sub hl [2] rfl)
      · have h := h.2 c1
        refine lv_aload_n hx hb dX4_areaInTray_12 rfl (lv_at hl 0 rfl) ?_
        refine zget hx hb hts inX4 hown hK hw 5 (by decide) rfl rfl 9 (by decide) lk1 (fun _ h9 => h9) rfl dX4_areaInTray_13 ?_
        refine lv_iload_n hx hb dX4_areaInTray_16 rfl (lv_at hl 3 rfl) ?_
        refine zcall_get (rest := []) hx hb hml hown hts gX4_areaInTray_X3_get ⟨Nat.le_of_ble_eq_true rfl, Nat.le_of_ble_eq_true rfl⟩ ⟨Nat.zero_le _, Nat.zero_le _⟩ hK hj hw hA hS 9 (by decide) hl.1 (Nat.le_of_ble_eq_true rfl) dX4_areaInTray_17 (fun H locs hw hS => ?_)
        refine lv_topi (fun v1 ev1 => ?_)
        have h := h v1 ev1
        refine lv_istore (lv' := [(4, .int v1), (0, .ref (ad 5)), (1, .int p0), (2, .int y2_4), (3, .int y3_4)]) hx hb dX4_areaInTray_20 hl (by decide) rfl (fun ls hl => ?_)
        refine lv_aload_n hx hb dX4_areaInTray_22 rfl (lv_at hl 1 rfl) ?_
        refine lv_iload hx hb dX4_areaInTray_23 (lv_at hl 0 rfl) ?_
        refine lv_iload_n hx hb dX4_areaInTray_25 rfl (lv_at hl 2 rfl) ?_
        refine k_X4_isInTray (rest := []) hx hb hml hown hts gX4_areaInTray_X4_isInTray ⟨Nat.le_of_ble_eq_true rfl, Nat.le_of_ble_eq_true rfl⟩ ⟨Nat.zero_le _, Nat.zero_le _⟩ hK hj hw hA hS hl.1 (Nat.le_of_ble_eq_true rfl) dX4_areaInTray_26 h (fun r1 s1 H locs h hw hS => ?_)
        refine zif_eq (tgt := 41) hx hb dX4_areaInTray_29 (by decide) (fun c2 => ?_) (fun c2 => ?_)
        · have h := h.1 c2
          obtain ⟨x1, ex1⟩ : ∃ y : Int32, y = y3_4 + (jI 1) := ⟨_, rfl⟩
          have h := h x1 ex1
          refine lv_iinc (v := x1) (lv' := [(3, .int x1), (4, .int v1), (0, .ref (ad 5)), (1, .int p0), (2, .int y2_4)]) hx hb dX4_areaInTray_41 hl (k := 4) rfl (by rw [ex1]; rfl) (by decide) rfl (fun ls hl => ?_)
          refine lv_goto (tgt := 4) hx hb dX4_areaInTray_44 (by decide) ?_
          exact ih4 _ _ _ _ _ h hw hS _ (lv_sub hl [2, 3, 4, 0] rfl)
        · have h := h.2 c2
          refine lv_iload_n hx hb dX4_areaInTray_32 rfl (lv_at hl 3 rfl) ?_
          refine lv_aload_n hx hb dX4_areaInTray_33 rfl (lv_at hl 1 rfl) ?_
          refine lv_iload hx hb dX4_areaInTray_34 (lv_at hl 0 rfl) ?_
          refine k_X4_areaOf (rest := [.int y2_4]) hx hb hml hown hts gX4_areaInTray_X4_areaOf ⟨Nat.le_of_ble_eq_true rfl, Nat.le_of_ble_eq_true rfl⟩ ⟨Nat.zero_le _, Nat.zero_le _⟩ hK hj hw hA hS hl.1 (Nat.le_of_ble_eq_true rfl) dX4_areaInTray_36 h (fun r2 s2 H locs h hw hS => ?_)
          refine lv_iadd hx hb dX4_areaInTray_39 ?_
          refine lv_topi (fun x2 ex2 => ?_)
          have h := h x2 ex2
          refine lv_istore_n (lv' := [(2, .int x2), (4, .int v1), (0, .ref (ad 5)), (1, .int p0), (3, .int y3_4)]) hx hb dX4_areaInTray_40 rfl hl (by decide) rfl (fun ls hl => ?_)
          obtain ⟨x3, ex3⟩ : ∃ y : Int32, y = y3_4 + (jI 1) := ⟨_, rfl⟩
          have h := h x3 ex3
          refine lv_iinc (v := x3) (lv' := [(3, .int x3), (2, .int x2), (4, .int v1), (0, .ref (ad 5)), (1, .int p0)]) hx hb dX4_areaInTray_41 hl (k := 4) rfl (by rw [ex3]; rfl) (by decide) rfl (fun ls hl => ?_)
          refine lv_goto (tgt := 4) hx hb dX4_areaInTray_44 (by decide) ?_
          exact ih4 _ _ _ _ _ h hw hS _ (lv_sub hl [3, 4, 1, 0] rfl)
  obtain ⟨nn4, h⟩ := h
  exact lp4 nn4 _ _ _ _ _ h hw hS _ (lv_sub hl [2, 3, 1, 0] rfl)
theorem k_X4_areaInTray {p : Program} {l : Launch} {e : Env} {R : Room} {s : State} {m : MethodId} {args : Array Value} {below : List Frame} {meth : Method} {c : Code} {H : Heap} {locs : List Loc} {cells slots : Nat} {QQ : State → Prop} {cc : ByteArray} {pc nL index : Nat} {ls : Array Slot} {rest : List Value} {D : va_G} {cy : cyT} {ad : Nat → Nat} {own : String} {Ts : List Cond} {H0 : Heap} {σ : ST} {p0 : Int32} {Q : Int32 → ST → Prop} (hx : p.tables.exec = Jvm.exec) (hb : c.code = cc) (hml : c.maxLocals = nL) (hown : s.vm.findClass own = some m.cls) (hts : ∀ w ∈ Ts, w.before args s = true) (hG : GoodIn Ts (wsV own index RX4 yX4_areaInTray wsX4_areaInTray)) (hR : 3 + 1 ≤ R.frames ∧ 8 + (5 + 11) + 64 ≤ R.locals) (hcs : cells ≤ R.cells ∧ slots ≤ R.slots) (hK : zK D cy s) (hj : zI 116 ad) (hw : zW D 116 (zce cy ad σ) ad H) {A0 : Nat → Prop} (hA : ∀ i, i < 116 → A0 (ad i)) (hS : va_S A0 H0 H locs) (hsz : ls.size = nL) (hrest : (rest.map fun v => v.category).sum ≤ 8) (hdg : decode cc pc = .ok (.invokevirtual index, 3)) (h : wp_X4_areaInTray σ p0 Q) (kk : ∀ (r : Int32) (σ : ST) (H : Heap) (locs : List Loc), Q r σ → zW D 116 (zce cy ad σ) ad H → va_S A0 H0 H locs → W p l e R s m args below meth c H locs cells slots QQ (F0 m (pc + 3) ls (.int r :: rest))) : W p l e R s m args below meth c H locs cells slots QQ (F0 m pc ls (.int p0 :: .ref (ad 5) :: rest)) :=
  zcalli (va_runV (As := [.int p0]) (rest := rest) ⟨hx, hb, hml, hown, hts⟩ (c_X4_areaInTray l D cy ad σ p0 h) (cwV 1 hts hG rfl rfl rfl (by decide +kernel) hR) (zpreV hj hK hw _ (i := 5) (ci := 3) (by decide) rfl rfl) rfl rfl hsz rfl (lv_room hrest) hdg hcs) hA hS kk
set_option maxHeartbeats 4000000 in
set_option maxRecDepth 100000 in
theorem c_X4_trayValue (l : Launch) (D : va_G) (cy : cyT) (ad : Nat → Nat) (σ : ST) (p0 : Int32) (p1 : Int32) {Q : Int32 → ST → Prop} (h : wp_X4_trayValue σ p0 p1 Q) : Met l yX4_trayValue wsX4_trayValue ({ frames := 4, cells := 0, slots := 0, locals := 88 } : Room) (zPre D cy 116 (zce cy ad σ) ad [.ref (ad 5), .int p0, .int p1]) (va_Qi Q (zB D 116 (zce cy ad) ad) (zA 116 ad)) 0 0 (zA 116 ad) := by
  refine Met.ofW (cc := cX4_trayValue) (maxL := 3) (ret := (some .int)) (by decide) rfl ?_
  intro p e s m args below meth c s₁ B hml hv
  obtain ⟨rfl, hj, hK, hw⟩ := hv
  have hx := B.exec
  have hb := B.bytes
  have hr := B.returns
  have hts := atoms_spec (ws := wsX4_trayValue) B.pre
  have hown : s.vm.findClass RX4 = some m.cls := findClass_of_methodNamed B.named
  have hlocks := B.notSynchronized
  have hS : va_S (zA 116 ad) s.heap s.heap [] := va_S.rf
  have hA : ∀ i, i < 116 → zA 116 ad (ad i) := fun i hi => ⟨i, hi, rfl⟩
  have hl := lv_entry ([.ref (ad 5), .int p0, .int p1]) (n := 3) (Nat.le_of_ble_eq_true rfl)
  rw [lg_entry_eq]
  generalize (lg_sl ([.ref (ad 5), .int p0, .int p1]) ++ List.replicate (3 - (lg_sl ([.ref (ad 5), .int p0, .int p1])).length) Slot.unset).toArray = ls at hl ⊢
  have hl : lv_has ls 3 [(0, .ref (ad 5)), (1, .int p0), (2, .int p1)] := hl
  show W p l e ({ frames := 4, cells := 0, slots := 0, locals := 88 } : Room) s m ([.ref (ad 5), .int p0, .int p1] : List Value).toArray below meth c s.heap [] 0 0 (MQ below (va_Qi Q (zB D 116 (zce cy ad) ad) (zA 116 ad)) ([.ref (ad 5), .int p0, .int p1] : List Value).toArray s 0 0 (zA 116 ad)) (F0 m 0 ls [])
  unfold wp_X4_trayValue at h
  refine lv_iload_n hx hb dX4_trayValue_0 rfl (lv_at hl 2 rfl) ?_
  rcases Classical.em (p1 = (jI 0)) with c1 | c1
  · have h := h.1 c1
    refine lv_tableIn (tgt := 28) (off := 27) hx hb dX4_trayValue_1 (by rw [c1]; decide +kernel) (by rw [c1]; decide +kernel) (by rw [c1]; decide +kernel) (by decide) ?_
    refine lv_aload_n hx hb dX4_trayValue_28 rfl (lv_at hl 0 rfl) ?_
    refine lv_iload_n hx hb dX4_trayValue_29 rfl (lv_at hl 1 rfl) ?_
    refine k_X4_countShelves (rest := []) hx hb hml hown hts gX4_trayValue_X4_countShelves ⟨Nat.le_of_ble_eq_true rfl, Nat.le_of_ble_eq_true rfl⟩ ⟨Nat.zero_le _, Nat.zero_le _⟩ hK hj hw hA hS hl.1 (Nat.le_of_ble_eq_true rfl) dX4_trayValue_30 h (fun r1 s1 H locs h hw hS => ?_)
    exact W.iret (v := r1) hx hb hr (fun t ht hW => ⟨⟨_, _, rfl, h, zend hw ht⟩, hS.F ht⟩) hS.2.2 dX4_trayValue_33
  have h := h.2 c1
  rcases Classical.em (p1 = (jI 1)) with c2 | c2
  · have h := h.1 c2
    refine lv_tableIn (tgt := 34) (off := 33) hx hb dX4_trayValue_1 (by rw [c2]; decide +kernel) (by rw [c2]; decide +kernel) (by rw [c2]; decide +kernel) (by decide) ?_
    refine lv_aload_n hx hb dX4_trayValue_34 rfl (lv_at hl 0 rfl) ?_
    refine lv_iload_n hx hb dX4_trayValue_35 rfl (lv_at hl 1 rfl) ?_
    refine k_X4_heightOfShelves (rest := []) hx hb hml hown hts gX4_trayValue_X4_heightOfShelves ⟨Nat.le_of_ble_eq_true rfl, Nat.le_of_ble_eq_true rfl⟩ ⟨Nat.zero_le _, Nat.zero_le _⟩ hK hj hw hA hS hl.1 (Nat.le_of_ble_eq_true rfl) dX4_trayValue_36 h (fun r2 s2 H locs h hw hS => ?_)
    exact W.iret (v := r2) hx hb hr (fun t ht hW => ⟨⟨_, _, rfl, h, zend hw ht⟩, hS.F ht⟩) hS.2.2 dX4_trayValue_39
  have h := h.2 c2
  rcases Classical.em (p1 = (jI 2)) with c3 | c3
  · have h := h.1 c3
    refine lv_tableIn (tgt := 40) (off := 39) hx hb dX4_trayValue_1 (by rw [c3]; decide +kernel) (by rw [c3]; decide +kernel) (by rw [c3]; decide +kernel) (by decide) ?_
    refine lv_aload_n hx hb dX4_trayValue_40 rfl (lv_at hl 0 rfl) ?_
    refine lv_iload_n hx hb dX4_trayValue_41 rfl (lv_at hl 1 rfl) ?_
    refine k_X4_countInTray (rest := []) hx hb hml hown hts gX4_trayValue_X4_countInTray ⟨Nat.le_of_ble_eq_true rfl, Nat.le_of_ble_eq_true rfl⟩ ⟨Nat.zero_le _, Nat.zero_le _⟩ hK hj hw hA hS hl.1 (Nat.le_of_ble_eq_true rfl) dX4_trayValue_42 h (fun r3 s3 H locs h hw hS => ?_)
    exact W.iret (v := r3) hx hb hr (fun t ht hW => ⟨⟨_, _, rfl, h, zend hw ht⟩, hS.F ht⟩) hS.2.2 dX4_trayValue_45
  have h := h.2 c3
  have hsw1 := zsw_out (x := p1) (0) 3 (fun k hk => by
    match k, hk with
    | 0, _ => exact c1
    | 1, _ => exact c2
    | 2, _ => exact c3
    | k + 3, hk => exact absurd hk (by omega))
  refine lv_tableOut (tgt := 46) hx hb dX4_trayValue_1 hsw1 (by decide) ?_
  refine lv_aload_n hx hb dX4_trayValue_46 rfl (lv_at hl 0 rfl) ?_
  refine lv_iload_n hx hb dX4_trayValue_47 rfl (lv_at hl 1 rfl) ?_
  refine k_X4_areaInTray (rest := []) hx hb hml hown hts gX4_trayValue_X4_areaInTray ⟨Nat.le_of_ble_eq_true rfl, Nat.le_of_ble_eq_true rfl⟩ ⟨Nat.zero_le _, Nat.zero_le _⟩ hK hj hw hA hS hl.1 (Nat.le_of_ble_eq_true rfl) dX4_trayValue_48 h (fun r4 s4 H locs h hw hS => ?_)
  exact W.iret (v := r4) hx hb hr (fun t ht hW => ⟨⟨_, _, rfl, h, zend hw ht⟩, hS.F ht⟩) hS.2.2 dX4_trayValue_51
theorem k_X4_trayValue {p : Program} {l : Launch} {e : Env} {R : Room} {s : State} {m : MethodId} {args : Array Value} {below : List Frame} {meth : Method} {c : Code} {H : Heap} {locs : List Loc} {cells slots : Nat} {QQ : State → Prop} {cc : ByteArray} {pc nL index : Nat} {ls : Array Slot} {rest : List Value} {D : va_G} {cy : cyT} {ad : Nat → Nat} {own : String} {Ts : List Cond} {H0 : Heap} {σ : ST} {p0 : Int32} {p1 : Int32} {Q : Int32 → ST → Prop} (hx : p.tables.exec = Jvm.exec) (hb : c.code = cc) (hml : c.maxLocals = nL) (hown : s.vm.findClass own = some m.cls) (hts : ∀ w ∈ Ts, w.before args s = true) (hG : GoodIn Ts (wsV own index RX4 yX4_trayValue wsX4_trayValue)) (hR : 4 + 1 ≤ R.frames ∧ 8 + (3 + 11) + 88 ≤ R.locals) (hcs : cells ≤ R.cells ∧ slots ≤ R.slots) (hK : zK D cy s) (hj : zI 116 ad) (hw : zW D 116 (zce cy ad σ) ad H) {A0 : Nat → Prop} (hA : ∀ i, i < 116 → A0 (ad i)) (hS : va_S A0 H0 H locs) (hsz : ls.size = nL) (hrest : (rest.map fun v => v.category).sum ≤ 8) (hdg : decode cc pc = .ok (.invokevirtual index, 3)) (h : wp_X4_trayValue σ p0 p1 Q) (kk : ∀ (r : Int32) (σ : ST) (H : Heap) (locs : List Loc), Q r σ → zW D 116 (zce cy ad σ) ad H → va_S A0 H0 H locs → W p l e R s m args below meth c H locs cells slots QQ (F0 m (pc + 3) ls (.int r :: rest))) : W p l e R s m args below meth c H locs cells slots QQ (F0 m pc ls (.int p1 :: .int p0 :: .ref (ad 5) :: rest)) :=
  zcalli (va_runV (As := [.int p0, .int p1]) (rest := rest) ⟨hx, hb, hml, hown, hts⟩ (c_X4_trayValue l D cy ad σ p0 p1 h) (cwV 2 hts hG rfl rfl rfl (by decide +kernel) hR) (zpreV hj hK hw _ (i := 5) (ci := 3) (by decide) rfl rfl) rfl rfl hsz rfl (lv_room hrest) hdg hcs) hA hS kk
set_option maxHeartbeats 4000000 in
set_option maxRecDepth 100000 in
theorem c_X4_letterAt (l : Launch) (D : va_G) (cy : cyT) (ad : Nat → Nat) (σ : ST) (p0 : Int32) (p1 : Int32) (p2 : Int32) {Q : Int32 → ST → Prop} (h : wp_X4_letterAt σ p0 p1 p2 Q) : Met l yX4_letterAt wsX4_letterAt ({ frames := 3, cells := 0, slots := 0, locals := 68 } : Room) (zPre D cy 116 (zce cy ad σ) ad [.ref (ad 5), .int p0, .int p1, .int p2]) (va_Qi Q (zB D 116 (zce cy ad) ad) (zA 116 ad)) 0 0 (zA 116 ad) := by
  refine Met.ofW (cc := cX4_letterAt) (maxL := 6) (ret := (some .int)) (by decide) rfl ?_
  intro p e s m args below meth c s₁ B hml hv
  obtain ⟨rfl, hj, hK, hw⟩ := hv
  have hx := B.exec
  have hb := B.bytes
  have hr := B.returns
  have hts := atoms_spec (ws := wsX4_letterAt) B.pre
  have hown : s.vm.findClass RX4 = some m.cls := findClass_of_methodNamed B.named
  have hlocks := B.notSynchronized
  have lk0 : Cond.fieldLink RX4 47 "TypeTrays$State" "presentCount" "I" ∈ wsX4_letterAt := List.mem_of_getElem? (i := 1) rfl
  have lk1 : Cond.fieldLink RX4 44 "TypeTrays$State" "present" "LTypeTrays$Row;" ∈ wsX4_letterAt := List.mem_of_getElem? (i := 2) rfl
  have inX4 : ∀ w ∈ u_ws RX4 TX4 18, w ∈ wsX4_letterAt := zin_at 42 rfl
  have hS : va_S (zA 116 ad) s.heap s.heap [] := va_S.rf
  have hA : ∀ i, i < 116 → zA 116 ad (ad i) := fun i hi => ⟨i, hi, rfl⟩
  have hl := lv_entry ([.ref (ad 5), .int p0, .int p1, .int p2]) (n := 6) (Nat.le_of_ble_eq_true rfl)
  rw [lg_entry_eq]
  generalize (lg_sl ([.ref (ad 5), .int p0, .int p1, .int p2]) ++ List.replicate (6 - (lg_sl ([.ref (ad 5), .int p0, .int p1, .int p2])).length) Slot.unset).toArray = ls at hl ⊢
  have hl : lv_has ls 6 [(0, .ref (ad 5)), (1, .int p0), (2, .int p1), (3, .int p2)] := hl
  show W p l e ({ frames := 3, cells := 0, slots := 0, locals := 68 } : Room) s m ([.ref (ad 5), .int p0, .int p1, .int p2] : List Value).toArray below meth c s.heap [] 0 0 (MQ below (va_Qi Q (zB D 116 (zce cy ad) ad) (zA 116 ad)) ([.ref (ad 5), .int p0, .int p1, .int p2] : List Value).toArray s 0 0 (zA 116 ad)) (F0 m 0 ls [])
  unfold wp_X4_letterAt at h
  refine lv_iconst (v := (jI 0)) hx hb dX4_letterAt_0 rfl ?_
  refine lv_istore (lv' := [(4, .int (jI 0)), (0, .ref (ad 5)), (1, .int p0), (2, .int p1), (3, .int p2)]) hx hb dX4_letterAt_1 hl (by decide) rfl (fun ls hl => ?_)
  have k44_3 : ∀ (u_44 : ST) (z5_44 : Int32) (H : Heap) (locs : List Loc), Q z5_44 u_44 → zW D 116 (zce cy ad u_44) ad H → va_S (zA 116 ad) s.heap H locs → ∀ ls : Array Slot, lv_has ls 6 [(5, .int z5_44)] → W p l e ({ frames := 3, cells := 0, slots := 0, locals := 68 } : Room) s m ([.ref (ad 5), .int p0, .int p1, .int p2] : List Value).toArray below meth c H locs 0 0 (MQ below (va_Qi Q (zB D 116 (zce cy ad) ad) (zA 116 ad)) ([.ref (ad 5), .int p0, .int p1, .int p2] : List Value).toArray s 0 0 (zA 116 ad)) (F0 m 44 ls []) := by
    intro u_44 z5_44 H locs h hw hS ls hl
    refine lv_iload hx hb dX4_letterAt_44 (lv_at hl 0 rfl) ?_
    exact W.iret (v := z5_44) hx hb hr (fun t ht hW => ⟨⟨_, _, rfl, h, zend hw ht⟩, hS.F ht⟩) hS.2.2 dX4_letterAt_46
  have k53_3 : ∀ (u_53 : ST) (H : Heap) (locs : List Loc), Q (jI (-1)) u_53 → zW D 116 (zce cy ad u_53) ad H → va_S (zA 116 ad) s.heap H locs → ∀ ls : Array Slot, lv_has ls 6 [] → W p l e ({ frames := 3, cells := 0, slots := 0, locals := 68 } : Room) s m ([.ref (ad 5), .int p0, .int p1, .int p2] : List Value).toArray below meth c H locs 0 0 (MQ below (va_Qi Q (zB D 116 (zce cy ad) ad) (zA 116 ad)) ([.ref (ad 5), .int p0, .int p1, .int p2] : List Value).toArray s 0 0 (zA 116 ad)) (F0 m 53 ls []) := by
    intro u_53 H locs h hw hS ls hl
    refine lv_iconst (v := (jI (-1))) hx hb dX4_letterAt_53 rfl ?_
    exact W.iret (v := (jI (-1))) hx hb hr (fun t ht hW => ⟨⟨_, _, rfl, h, zend hw ht⟩, hS.F ht⟩) hS.2.2 dX4_letterAt_54
  have lp3 : ∀ (nn3 : Nat) (t_3 : ST) (y4_3 : Int32) (H : Heap) (locs : List Loc), wl_X4_letterAt_3 (fun u_44 z5_44 => Q z5_44 u_44) (fun u_53 => Q (jI (-1)) u_53) p0 p1 p2 nn3 t_3 y4_3 → zW D 116 (zce cy ad t_3) ad H → va_S (zA 116 ad) s.heap H locs → ∀ ls : Array Slot, lv_has ls 6 [(0, .ref (ad 5)), (1, .int p0), (2, .int p1), (3, .int p2), (4, .int y4_3)] → W p l e ({ frames := 3, cells := 0, slots := 0, locals := 68 } : Room) s m ([.ref (ad 5), .int p0, .int p1, .int p2] : List Value).toArray below meth c H locs 0 0 (MQ below (va_Qi Q (zB D 116 (zce cy ad) ad) (zA 116 ad)) ([.ref (ad 5), .int p0, .int p1, .int p2] : List Value).toArray s 0 0 (zA 116 ad)) (F0 m 3 ls []) := by
    intro nn3
    induction nn3 with
    | zero => intro _ _ _ _ h; exact h.elim
    | succ nn3 ih3 =>
      intro t_3 y4_3 H locs h hw hS ls hl
      simp only [wl_X4_letterAt_3, wb_X4_letterAt_3] at h
      refine lv_iload hx hb dX4_letterAt_3 (lv_at hl 4 rfl) ?_
      refine lv_aload_n hx hb dX4_letterAt_5 rfl (lv_at hl 0 rfl) ?_
      refine zget hx hb hts inX4 hown hK hw 5 (by decide) rfl rfl 10 (by decide) lk0 (fun _ h9 => h9) rfl dX4_letterAt_6 ?_
      refine lv_icmp_ge (tgt := 53) hx hb dX4_letterAt_9 (by decide) (fun c1 => ?_) (fun c1 => ?_)
      · have h := h.1 c1
        exact k53_3 _ _ _ h hw hS _ (lv_sub hl [] rfl)
      · have h := h.2 c1
        refine lv_aload_n hx hb dX4_letterAt_12 rfl (lv_at hl 0 rfl) ?_
        refine zget hx hb hts inX4 hown hK hw 5 (by decide) rfl rfl 9 (by decide) lk1 (fun _ h9 => h9) rfl dX4_letterAt_13 ?_
        refine lv_iload hx hb dX4_letterAt_16 (lv_at hl 4 rfl) ?_
        refine zcall_get (rest := []) hx hb hml hown hts gX4_letterAt_X3_get ⟨Nat.le_of_ble_eq_true rfl, Nat.le_of_ble_eq_true rfl⟩ ⟨Nat.zero_le _, Nat.zero_le _⟩ hK hj hw hA hS 9 (by decide) hl.1 (Nat.le_of_ble_eq_true rfl) dX4_letterAt_18 (fun H locs hw hS => ?_)
        refine lv_topi (fun v1 ev1 => ?_)
        have h := h v1 ev1
        refine lv_istore (lv' := [(5, .int v1), (0, .ref (ad 5)), (1, .int p0), (2, .int p1), (3, .int p2), (4, .int y4_3)]) hx hb dX4_letterAt_21 hl (by decide) rfl (fun ls hl => ?_)
        refine lv_aload_n hx hb dX4_letterAt_23 rfl (lv_at hl 1 rfl) ?_
        refine lv_iload hx hb dX4_letterAt_24 (lv_at hl 0 rfl) ?_
        refine lv_iload_n hx hb dX4_letterAt_26 rfl (lv_at hl 2 rfl) ?_
        refine k_X4_isInTray (rest := []) hx hb hml hown hts gX4_letterAt_X4_isInTray ⟨Nat.le_of_ble_eq_true rfl, Nat.le_of_ble_eq_true rfl⟩ ⟨Nat.zero_le _, Nat.zero_le _⟩ hK hj hw hA hS hl.1 (Nat.le_of_ble_eq_true rfl) dX4_letterAt_27 h (fun r1 s1 H locs h hw hS => ?_)
        refine zif_eq (tgt := 47) hx hb dX4_letterAt_30 (by decide) (fun c2 => ?_) (fun c2 => ?_)
        · have h := h.1 c2
          obtain ⟨x1, ex1⟩ : ∃ y : Int32, y = y4_3 + (jI 1) := ⟨_, rfl⟩
          have h := h x1 ex1
          refine lv_iinc (v := x1) (lv' := [(4, .int x1), (5, .int v1), (0, .ref (ad 5)), (1, .int p0), (2, .int p1), (3, .int p2)]) hx hb dX4_letterAt_47 hl (k := 5) rfl (by rw [ex1]; rfl) (by decide) rfl (fun ls hl => ?_)
          refine lv_goto (tgt := 3) hx hb dX4_letterAt_50 (by decide) ?_
          exact ih3 _ _ _ _ h hw hS _ (lv_sub hl [2, 3, 4, 5, 0] rfl)
        · have h := h.2 c2
          refine lv_aload_n hx hb dX4_letterAt_33 rfl (lv_at hl 1 rfl) ?_
          refine lv_iload hx hb dX4_letterAt_34 (lv_at hl 0 rfl) ?_
          refine lv_iload_n hx hb dX4_letterAt_36 rfl (lv_at hl 3 rfl) ?_
          refine lv_iload_n hx hb dX4_letterAt_37 rfl (lv_at hl 4 rfl) ?_
          refine k_X4_covers (rest := []) hx hb hml hown hts gX4_letterAt_X4_covers ⟨Nat.le_of_ble_eq_true rfl, Nat.le_of_ble_eq_true rfl⟩ ⟨Nat.zero_le _, Nat.zero_le _⟩ hK hj hw hA hS hl.1 (Nat.le_of_ble_eq_true rfl) dX4_letterAt_38 h (fun r2 s2 H locs h hw hS => ?_)
          refine zif_eq (tgt := 47) hx hb dX4_letterAt_41 (by decide) (fun c3 => ?_) (fun c3 => ?_)
          · have h := h.1 c3
            obtain ⟨x2, ex2⟩ : ∃ y : Int32, y = y4_3 + (jI 1) := ⟨_, rfl⟩
            have h := h x2 ex2
            refine lv_iinc (v := x2) (lv' := [(4, .int x2), (5, .int v1), (0, .ref (ad 5)), (1, .int p0), (2, .int p1), (3, .int p2)]) hx hb dX4_letterAt_47 hl (k := 5) rfl (by rw [ex2]; rfl) (by decide) rfl (fun ls hl => ?_)
            refine lv_goto (tgt := 3) hx hb dX4_letterAt_50 (by decide) ?_
            exact ih3 _ _ _ _ h hw hS _ (lv_sub hl [2, 3, 4, 5, 0] rfl)
          · have h := h.2 c3
            exact k44_3 _ _ _ _ h hw hS _ (lv_sub hl [0] rfl)
  obtain ⟨nn3, h⟩ := h
  exact lp3 nn3 _ _ _ _ h hw hS _ (lv_sub hl [1, 2, 3, 4, 0] rfl)
theorem k_X4_letterAt {p : Program} {l : Launch} {e : Env} {R : Room} {s : State} {m : MethodId} {args : Array Value} {below : List Frame} {meth : Method} {c : Code} {H : Heap} {locs : List Loc} {cells slots : Nat} {QQ : State → Prop} {cc : ByteArray} {pc nL index : Nat} {ls : Array Slot} {rest : List Value} {D : va_G} {cy : cyT} {ad : Nat → Nat} {own : String} {Ts : List Cond} {H0 : Heap} {σ : ST} {p0 : Int32} {p1 : Int32} {p2 : Int32} {Q : Int32 → ST → Prop} (hx : p.tables.exec = Jvm.exec) (hb : c.code = cc) (hml : c.maxLocals = nL) (hown : s.vm.findClass own = some m.cls) (hts : ∀ w ∈ Ts, w.before args s = true) (hG : GoodIn Ts (wsV own index RX4 yX4_letterAt wsX4_letterAt)) (hR : 3 + 1 ≤ R.frames ∧ 8 + (6 + 11) + 68 ≤ R.locals) (hcs : cells ≤ R.cells ∧ slots ≤ R.slots) (hK : zK D cy s) (hj : zI 116 ad) (hw : zW D 116 (zce cy ad σ) ad H) {A0 : Nat → Prop} (hA : ∀ i, i < 116 → A0 (ad i)) (hS : va_S A0 H0 H locs) (hsz : ls.size = nL) (hrest : (rest.map fun v => v.category).sum ≤ 8) (hdg : decode cc pc = .ok (.invokevirtual index, 3)) (h : wp_X4_letterAt σ p0 p1 p2 Q) (kk : ∀ (r : Int32) (σ : ST) (H : Heap) (locs : List Loc), Q r σ → zW D 116 (zce cy ad σ) ad H → va_S A0 H0 H locs → W p l e R s m args below meth c H locs cells slots QQ (F0 m (pc + 3) ls (.int r :: rest))) : W p l e R s m args below meth c H locs cells slots QQ (F0 m pc ls (.int p2 :: .int p1 :: .int p0 :: .ref (ad 5) :: rest)) :=
  zcalli (va_runV (As := [.int p0, .int p1, .int p2]) (rest := rest) ⟨hx, hb, hml, hown, hts⟩ (c_X4_letterAt l D cy ad σ p0 p1 p2 h) (cwV 3 hts hG rfl rfl rfl (by decide +kernel) hR) (zpreV hj hK hw _ (i := 5) (ci := 3) (by decide) rfl rfl) rfl rfl hsz rfl (lv_room hrest) hdg hcs) hA hS kk
set_option maxHeartbeats 4000000 in
set_option maxRecDepth 100000 in
theorem c_X4_shelfValue (l : Launch) (D : va_G) (cy : cyT) (ad : Nat → Nat) (σ : ST) (p0 : Int32) (p1 : Int32) {Q : Int32 → ST → Prop} (h : wp_X4_shelfValue σ p0 p1 Q) : Met l yX4_shelfValue wsX4_shelfValue ({ frames := 3, cells := 0, slots := 0, locals := 65 } : Room) (zPre D cy 116 (zce cy ad σ) ad [.ref (ad 5), .int p0, .int p1]) (va_Qi Q (zB D 116 (zce cy ad) ad) (zA 116 ad)) 0 0 (zA 116 ad) := by
  refine Met.ofW (cc := cX4_shelfValue) (maxL := 3) (ret := (some .int)) (by decide) rfl ?_
  intro p e s m args below meth c s₁ B hml hv
  obtain ⟨rfl, hj, hK, hw⟩ := hv
  have hx := B.exec
  have hb := B.bytes
  have hr := B.returns
  have hts := atoms_spec (ws := wsX4_shelfValue) B.pre
  have hown : s.vm.findClass RX4 = some m.cls := findClass_of_methodNamed B.named
  have hlocks := B.notSynchronized
  have lk0 : Cond.fieldLink RX4 23 "TypeTrays$State" "shelfHeights" "LTypeTrays$Row;" ∈ wsX4_shelfValue := List.mem_of_getElem? (i := 1) rfl
  have inX4 : ∀ w ∈ u_ws RX4 TX4 18, w ∈ wsX4_shelfValue := zin_at 56 rfl
  have hS : va_S (zA 116 ad) s.heap s.heap [] := va_S.rf
  have hA : ∀ i, i < 116 → zA 116 ad (ad i) := fun i hi => ⟨i, hi, rfl⟩
  have hl := lv_entry ([.ref (ad 5), .int p0, .int p1]) (n := 3) (Nat.le_of_ble_eq_true rfl)
  rw [lg_entry_eq]
  generalize (lg_sl ([.ref (ad 5), .int p0, .int p1]) ++ List.replicate (3 - (lg_sl ([.ref (ad 5), .int p0, .int p1])).length) Slot.unset).toArray = ls at hl ⊢
  have hl : lv_has ls 3 [(0, .ref (ad 5)), (1, .int p0), (2, .int p1)] := hl
  show W p l e ({ frames := 3, cells := 0, slots := 0, locals := 65 } : Room) s m ([.ref (ad 5), .int p0, .int p1] : List Value).toArray below meth c s.heap [] 0 0 (MQ below (va_Qi Q (zB D 116 (zce cy ad) ad) (zA 116 ad)) ([.ref (ad 5), .int p0, .int p1] : List Value).toArray s 0 0 (zA 116 ad)) (F0 m 0 ls [])
  unfold wp_X4_shelfValue at h
  refine lv_iload_n hx hb dX4_shelfValue_0 rfl (lv_at hl 2 rfl) ?_
  rcases Classical.em (p1 = (jI 0)) with c1 | c1
  · have h := h.1 c1
    refine lv_tableIn (tgt := 40) (off := 39) hx hb dX4_shelfValue_1 (by rw [c1]; decide +kernel) (by rw [c1]; decide +kernel) (by rw [c1]; decide +kernel) (by decide) ?_
    refine lv_aload_n hx hb dX4_shelfValue_40 rfl (lv_at hl 0 rfl) ?_
    refine lv_iload_n hx hb dX4_shelfValue_41 rfl (lv_at hl 1 rfl) ?_
    refine k_X4_topOf (rest := []) hx hb hml hown hts gX4_shelfValue_X4_topOf ⟨Nat.le_of_ble_eq_true rfl, Nat.le_of_ble_eq_true rfl⟩ ⟨Nat.zero_le _, Nat.zero_le _⟩ hK hj hw hA hS hl.1 (Nat.le_of_ble_eq_true rfl) dX4_shelfValue_42 h (fun r1 s1 H locs h hw hS => ?_)
    exact W.iret (v := r1) hx hb hr (fun t ht hW => ⟨⟨_, _, rfl, h, zend hw ht⟩, hS.F ht⟩) hS.2.2 dX4_shelfValue_45
  have h := h.2 c1
  rcases Classical.em (p1 = (jI 1)) with c2 | c2
  · have h := h.1 c2
    refine lv_tableIn (tgt := 46) (off := 45) hx hb dX4_shelfValue_1 (by rw [c2]; decide +kernel) (by rw [c2]; decide +kernel) (by rw [c2]; decide +kernel) (by decide) ?_
    refine lv_aload_n hx hb dX4_shelfValue_46 rfl (lv_at hl 0 rfl) ?_
    refine zget hx hb hts inX4 hown hK hw 5 (by decide) rfl rfl 2 (by decide) lk0 (fun _ h9 => h9) rfl dX4_shelfValue_47 ?_
    refine lv_iload_n hx hb dX4_shelfValue_50 rfl (lv_at hl 1 rfl) ?_
    refine zcall_get (rest := []) hx hb hml hown hts gX4_shelfValue_X3_get ⟨Nat.le_of_ble_eq_true rfl, Nat.le_of_ble_eq_true rfl⟩ ⟨Nat.zero_le _, Nat.zero_le _⟩ hK hj hw hA hS 2 (by decide) hl.1 (Nat.le_of_ble_eq_true rfl) dX4_shelfValue_51 (fun H locs hw hS => ?_)
    refine lv_topi (fun v1 ev1 => ?_)
    have h := h v1 ev1
    exact W.iret (v := v1) hx hb hr (fun t ht hW => ⟨⟨_, _, rfl, h, zend hw ht⟩, hS.F ht⟩) hS.2.2 dX4_shelfValue_54
  have h := h.2 c2
  rcases Classical.em (p1 = (jI 2)) with c3 | c3
  · have h := h.1 c3
    refine lv_tableIn (tgt := 55) (off := 54) hx hb dX4_shelfValue_1 (by rw [c3]; decide +kernel) (by rw [c3]; decide +kernel) (by rw [c3]; decide +kernel) (by decide) ?_
    refine lv_aload_n hx hb dX4_shelfValue_55 rfl (lv_at hl 0 rfl) ?_
    refine lv_iload_n hx hb dX4_shelfValue_56 rfl (lv_at hl 1 rfl) ?_
    refine k_X4_countOnShelf (rest := []) hx hb hml hown hts gX4_shelfValue_X4_countOnShelf ⟨Nat.le_of_ble_eq_true rfl, Nat.le_of_ble_eq_true rfl⟩ ⟨Nat.zero_le _, Nat.zero_le _⟩ hK hj hw hA hS hl.1 (Nat.le_of_ble_eq_true rfl) dX4_shelfValue_57 h (fun r2 s2 H locs h hw hS => ?_)
    exact W.iret (v := r2) hx hb hr (fun t ht hW => ⟨⟨_, _, rfl, h, zend hw ht⟩, hS.F ht⟩) hS.2.2 dX4_shelfValue_60
  have h := h.2 c3
  rcases Classical.em (p1 = (jI 3)) with c4 | c4
  · have h := h.1 c4
    refine lv_tableIn (tgt := 61) (off := 60) hx hb dX4_shelfValue_1 (by rw [c4]; decide +kernel) (by rw [c4]; decide +kernel) (by rw [c4]; decide +kernel) (by decide) ?_
    refine lv_aload_n hx hb dX4_shelfValue_61 rfl (lv_at hl 0 rfl) ?_
    refine lv_iload_n hx hb dX4_shelfValue_62 rfl (lv_at hl 1 rfl) ?_
    refine k_X4_coverOf (rest := []) hx hb hml hown hts gX4_shelfValue_X4_coverOf ⟨Nat.le_of_ble_eq_true rfl, Nat.le_of_ble_eq_true rfl⟩ ⟨Nat.zero_le _, Nat.zero_le _⟩ hK hj hw hA hS hl.1 (Nat.le_of_ble_eq_true rfl) dX4_shelfValue_63 h (fun r3 s3 H locs h hw hS => ?_)
    refine k_X1_count (rest := []) hx hb hml hown hts gX4_shelfValue_X1_count ⟨Nat.le_of_ble_eq_true rfl, Nat.le_of_ble_eq_true rfl⟩ ⟨Nat.zero_le _, Nat.zero_le _⟩ hK hj hw hA hS hl.1 (Nat.le_of_ble_eq_true rfl) dX4_shelfValue_66 h (fun r4 s4 H locs h hw hS => ?_)
    exact W.iret (v := r4) hx hb hr (fun t ht hW => ⟨⟨_, _, rfl, h, zend hw ht⟩, hS.F ht⟩) hS.2.2 dX4_shelfValue_69
  have h := h.2 c4
  rcases Classical.em (p1 = (jI 4)) with c5 | c5
  · have h := h.1 c5
    refine lv_tableIn (tgt := 70) (off := 69) hx hb dX4_shelfValue_1 (by rw [c5]; decide +kernel) (by rw [c5]; decide +kernel) (by rw [c5]; decide +kernel) (by decide) ?_
    refine lv_aload_n hx hb dX4_shelfValue_70 rfl (lv_at hl 0 rfl) ?_
    refine lv_iload_n hx hb dX4_shelfValue_71 rfl (lv_at hl 1 rfl) ?_
    refine k_X4_coverOf (rest := []) hx hb hml hown hts gX4_shelfValue_X4_coverOf ⟨Nat.le_of_ble_eq_true rfl, Nat.le_of_ble_eq_true rfl⟩ ⟨Nat.zero_le _, Nat.zero_le _⟩ hK hj hw hA hS hl.1 (Nat.le_of_ble_eq_true rfl) dX4_shelfValue_72 h (fun r5 s5 H locs h hw hS => ?_)
    refine k_X1_widest (rest := []) hx hb hml hown hts gX4_shelfValue_X1_widest ⟨Nat.le_of_ble_eq_true rfl, Nat.le_of_ble_eq_true rfl⟩ ⟨Nat.zero_le _, Nat.zero_le _⟩ hK hj hw hA hS hl.1 (Nat.le_of_ble_eq_true rfl) dX4_shelfValue_75 h (fun r6 s6 H locs h hw hS => ?_)
    exact W.iret (v := r6) hx hb hr (fun t ht hW => ⟨⟨_, _, rfl, h, zend hw ht⟩, hS.F ht⟩) hS.2.2 dX4_shelfValue_78
  have h := h.2 c5
  rcases Classical.em (p1 = (jI 5)) with c6 | c6
  · have h := h.1 c6
    refine lv_tableIn (tgt := 79) (off := 78) hx hb dX4_shelfValue_1 (by rw [c6]; decide +kernel) (by rw [c6]; decide +kernel) (by rw [c6]; decide +kernel) (by decide) ?_
    refine lv_aload_n hx hb dX4_shelfValue_79 rfl (lv_at hl 0 rfl) ?_
    refine lv_iload_n hx hb dX4_shelfValue_80 rfl (lv_at hl 1 rfl) ?_
    refine k_X4_latestUseOnShelf (rest := []) hx hb hml hown hts gX4_shelfValue_X4_latestUseOnShelf ⟨Nat.le_of_ble_eq_true rfl, Nat.le_of_ble_eq_true rfl⟩ ⟨Nat.zero_le _, Nat.zero_le _⟩ hK hj hw hA hS hl.1 (Nat.le_of_ble_eq_true rfl) dX4_shelfValue_81 h (fun r7 s7 H locs h hw hS => ?_)
    exact W.iret (v := r7) hx hb hr (fun t ht hW => ⟨⟨_, _, rfl, h, zend hw ht⟩, hS.F ht⟩) hS.2.2 dX4_shelfValue_84
  have h := h.2 c6
  have hsw1 := zsw_out (x := p1) (0) 6 (fun k hk => by
    match k, hk with
    | 0, _ => exact c1
    | 1, _ => exact c2
    | 2, _ => exact c3
    | 3, _ => exact c4
    | 4, _ => exact c5
    | 5, _ => exact c6
    | k + 6, hk => exact absurd hk (by omega))
  refine lv_tableOut (tgt := 85) hx hb dX4_shelfValue_1 hsw1 (by decide) ?_
  refine lv_aload_n hx hb dX4_shelfValue_85 rfl (lv_at hl 0 rfl) ?_
  refine lv_iload_n hx hb dX4_shelfValue_86 rfl (lv_at hl 1 rfl) ?_
  refine k_X4_hasLetterOfLine (rest := []) hx hb hml hown hts gX4_shelfValue_X4_hasLetterOfLine ⟨Nat.le_of_ble_eq_true rfl, Nat.le_of_ble_eq_true rfl⟩ ⟨Nat.zero_le _, Nat.zero_le _⟩ hK hj hw hA hS hl.1 (Nat.le_of_ble_eq_true rfl) dX4_shelfValue_87 h (fun r8 s8 H locs h hw hS => ?_)
  refine zif_eq (tgt := 97) hx hb dX4_shelfValue_90 (by decide) (fun c7 => ?_) (fun c7 => ?_)
  · have h := h.1 c7
    refine lv_iconst (v := (jI 0)) hx hb dX4_shelfValue_97 rfl ?_
    exact W.iret (v := (jI 0)) hx hb hr (fun t ht hW => ⟨⟨_, _, rfl, h, zend hw ht⟩, hS.F ht⟩) hS.2.2 dX4_shelfValue_98
  · have h := h.2 c7
    refine lv_iconst (v := (jI 1)) hx hb dX4_shelfValue_93 rfl ?_
    refine lv_goto (tgt := 98) hx hb dX4_shelfValue_94 (by decide) ?_
    exact W.iret (v := (jI 1)) hx hb hr (fun t ht hW => ⟨⟨_, _, rfl, h, zend hw ht⟩, hS.F ht⟩) hS.2.2 dX4_shelfValue_98
theorem k_X4_shelfValue {p : Program} {l : Launch} {e : Env} {R : Room} {s : State} {m : MethodId} {args : Array Value} {below : List Frame} {meth : Method} {c : Code} {H : Heap} {locs : List Loc} {cells slots : Nat} {QQ : State → Prop} {cc : ByteArray} {pc nL index : Nat} {ls : Array Slot} {rest : List Value} {D : va_G} {cy : cyT} {ad : Nat → Nat} {own : String} {Ts : List Cond} {H0 : Heap} {σ : ST} {p0 : Int32} {p1 : Int32} {Q : Int32 → ST → Prop} (hx : p.tables.exec = Jvm.exec) (hb : c.code = cc) (hml : c.maxLocals = nL) (hown : s.vm.findClass own = some m.cls) (hts : ∀ w ∈ Ts, w.before args s = true) (hG : GoodIn Ts (wsV own index RX4 yX4_shelfValue wsX4_shelfValue)) (hR : 3 + 1 ≤ R.frames ∧ 8 + (3 + 11) + 65 ≤ R.locals) (hcs : cells ≤ R.cells ∧ slots ≤ R.slots) (hK : zK D cy s) (hj : zI 116 ad) (hw : zW D 116 (zce cy ad σ) ad H) {A0 : Nat → Prop} (hA : ∀ i, i < 116 → A0 (ad i)) (hS : va_S A0 H0 H locs) (hsz : ls.size = nL) (hrest : (rest.map fun v => v.category).sum ≤ 8) (hdg : decode cc pc = .ok (.invokevirtual index, 3)) (h : wp_X4_shelfValue σ p0 p1 Q) (kk : ∀ (r : Int32) (σ : ST) (H : Heap) (locs : List Loc), Q r σ → zW D 116 (zce cy ad σ) ad H → va_S A0 H0 H locs → W p l e R s m args below meth c H locs cells slots QQ (F0 m (pc + 3) ls (.int r :: rest))) : W p l e R s m args below meth c H locs cells slots QQ (F0 m pc ls (.int p1 :: .int p0 :: .ref (ad 5) :: rest)) :=
  zcalli (va_runV (As := [.int p0, .int p1]) (rest := rest) ⟨hx, hb, hml, hown, hts⟩ (c_X4_shelfValue l D cy ad σ p0 p1 h) (cwV 2 hts hG rfl rfl rfl (by decide +kernel) hR) (zpreV hj hK hw _ (i := 5) (ci := 3) (by decide) rfl rfl) rfl rfl hsz rfl (lv_room hrest) hdg hcs) hA hS kk
set_option maxHeartbeats 4000000 in
set_option maxRecDepth 100000 in
theorem c_X4_letterOfStreet (l : Launch) (D : va_G) (cy : cyT) (ad : Nat → Nat) (σ : ST) (p0 : Int32) {Q : Int32 → ST → Prop} (h : wp_X4_letterOfStreet σ p0 Q) : Met l yX4_letterOfStreet wsX4_letterOfStreet ({ frames := 2, cells := 0, slots := 0, locals := 42 } : Room) (zPre D cy 116 (zce cy ad σ) ad [.ref (ad 5), .int p0]) (va_Qi Q (zB D 116 (zce cy ad) ad) (zA 116 ad)) 0 0 (zA 116 ad) := by
  refine Met.ofW (cc := cX4_letterOfStreet) (maxL := 5) (ret := (some .int)) (by decide) rfl ?_
  intro p e s m args below meth c s₁ B hml hv
  obtain ⟨rfl, hj, hK, hw⟩ := hv
  have hx := B.exec
  have hb := B.bytes
  have hr := B.returns
  have hts := atoms_spec (ws := wsX4_letterOfStreet) B.pre
  have hown : s.vm.findClass RX4 = some m.cls := findClass_of_methodNamed B.named
  have hlocks := B.notSynchronized
  have lk0 : Cond.fieldLink RX4 47 "TypeTrays$State" "presentCount" "I" ∈ wsX4_letterOfStreet := List.mem_of_getElem? (i := 1) rfl
  have lk1 : Cond.fieldLink RX4 44 "TypeTrays$State" "present" "LTypeTrays$Row;" ∈ wsX4_letterOfStreet := List.mem_of_getElem? (i := 2) rfl
  have inX4 : ∀ w ∈ u_ws RX4 TX4 18, w ∈ wsX4_letterOfStreet := zin_at 15 rfl
  have hS : va_S (zA 116 ad) s.heap s.heap [] := va_S.rf
  have hA : ∀ i, i < 116 → zA 116 ad (ad i) := fun i hi => ⟨i, hi, rfl⟩
  have hl := lv_entry ([.ref (ad 5), .int p0]) (n := 5) (Nat.le_of_ble_eq_true rfl)
  rw [lg_entry_eq]
  generalize (lg_sl ([.ref (ad 5), .int p0]) ++ List.replicate (5 - (lg_sl ([.ref (ad 5), .int p0])).length) Slot.unset).toArray = ls at hl ⊢
  have hl : lv_has ls 5 [(0, .ref (ad 5)), (1, .int p0)] := hl
  show W p l e ({ frames := 2, cells := 0, slots := 0, locals := 42 } : Room) s m ([.ref (ad 5), .int p0] : List Value).toArray below meth c s.heap [] 0 0 (MQ below (va_Qi Q (zB D 116 (zce cy ad) ad) (zA 116 ad)) ([.ref (ad 5), .int p0] : List Value).toArray s 0 0 (zA 116 ad)) (F0 m 0 ls [])
  unfold wp_X4_letterOfStreet at h
  refine lv_iconst (v := (jI 0)) hx hb dX4_letterOfStreet_0 rfl ?_
  refine lv_istore_n (lv' := [(2, .int (jI 0)), (0, .ref (ad 5)), (1, .int p0)]) hx hb dX4_letterOfStreet_1 rfl hl (by decide) rfl (fun ls hl => ?_)
  refine lv_iconst (v := (jI 0)) hx hb dX4_letterOfStreet_2 rfl ?_
  refine lv_istore_n (lv' := [(3, .int (jI 0)), (2, .int (jI 0)), (0, .ref (ad 5)), (1, .int p0)]) hx hb dX4_letterOfStreet_3 rfl hl (by decide) rfl (fun ls hl => ?_)
  have k36_4 : ∀ (u_36 : ST) (z4_36 : Int32) (H : Heap) (locs : List Loc), Q z4_36 u_36 → zW D 116 (zce cy ad u_36) ad H → va_S (zA 116 ad) s.heap H locs → ∀ ls : Array Slot, lv_has ls 5 [(4, .int z4_36)] → W p l e ({ frames := 2, cells := 0, slots := 0, locals := 42 } : Room) s m ([.ref (ad 5), .int p0] : List Value).toArray below meth c H locs 0 0 (MQ below (va_Qi Q (zB D 116 (zce cy ad) ad) (zA 116 ad)) ([.ref (ad 5), .int p0] : List Value).toArray s 0 0 (zA 116 ad)) (F0 m 36 ls []) := by
    intro u_36 z4_36 H locs h hw hS ls hl
    refine lv_iload hx hb dX4_letterOfStreet_36 (lv_at hl 0 rfl) ?_
    exact W.iret (v := z4_36) hx hb hr (fun t ht hW => ⟨⟨_, _, rfl, h, zend hw ht⟩, hS.F ht⟩) hS.2.2 dX4_letterOfStreet_38
  have k48_4 : ∀ (u_48 : ST) (H : Heap) (locs : List Loc), Q (jI (-1)) u_48 → zW D 116 (zce cy ad u_48) ad H → va_S (zA 116 ad) s.heap H locs → ∀ ls : Array Slot, lv_has ls 5 [] → W p l e ({ frames := 2, cells := 0, slots := 0, locals := 42 } : Room) s m ([.ref (ad 5), .int p0] : List Value).toArray below meth c H locs 0 0 (MQ below (va_Qi Q (zB D 116 (zce cy ad) ad) (zA 116 ad)) ([.ref (ad 5), .int p0] : List Value).toArray s 0 0 (zA 116 ad)) (F0 m 48 ls []) := by
    intro u_48 H locs h hw hS ls hl
    refine lv_iconst (v := (jI (-1))) hx hb dX4_letterOfStreet_48 rfl ?_
    exact W.iret (v := (jI (-1))) hx hb hr (fun t ht hW => ⟨⟨_, _, rfl, h, zend hw ht⟩, hS.F ht⟩) hS.2.2 dX4_letterOfStreet_49
  have lp4 : ∀ (nn4 : Nat) (t_4 : ST) (y2_4 : Int32) (y3_4 : Int32) (H : Heap) (locs : List Loc), wl_X4_letterOfStreet_4 (fun u_36 z4_36 => Q z4_36 u_36) (fun u_48 => Q (jI (-1)) u_48) p0 nn4 t_4 y2_4 y3_4 → zW D 116 (zce cy ad t_4) ad H → va_S (zA 116 ad) s.heap H locs → ∀ ls : Array Slot, lv_has ls 5 [(0, .ref (ad 5)), (1, .int p0), (2, .int y2_4), (3, .int y3_4)] → W p l e ({ frames := 2, cells := 0, slots := 0, locals := 42 } : Room) s m ([.ref (ad 5), .int p0] : List Value).toArray below meth c H locs 0 0 (MQ below (va_Qi Q (zB D 116 (zce cy ad) ad) (zA 116 ad)) ([.ref (ad 5), .int p0] : List Value).toArray s 0 0 (zA 116 ad)) (F0 m 4 ls []) := by
    intro nn4
    induction nn4 with
    | zero => intro _ _ _ _ _ h; exact h.elim
    | succ nn4 ih4 =>
      intro t_4 y2_4 y3_4 H locs h hw hS ls hl
      simp only [wl_X4_letterOfStreet_4, wb_X4_letterOfStreet_4] at h
      refine lv_iload_n hx hb dX4_letterOfStreet_4 rfl (lv_at hl 3 rfl) ?_
      refine lv_aload_n hx hb dX4_letterOfStreet_5 rfl (lv_at hl 0 rfl) ?_
      refine zget hx hb hts inX4 hown hK hw 5 (by decide) rfl rfl 10 (by decide) lk0 (fun _ h9 => h9) rfl dX4_letterOfStreet_6 ?_
      refine lv_icmp_ge (tgt := 48) hx hb dX4_letterOfStreet_9 (by decide) (fun c1 => ?_) (fun c1 => ?_)
      · have h := h.1 c1
        exact k48_4 _ _ _ h hw hS _ (lv_sub hl [] rfl)
      · have h := h.2 c1
        refine lv_aload_n hx hb dX4_letterOfStreet_12 rfl (lv_at hl 0 rfl) ?_
        refine zget hx hb hts inX4 hown hK hw 5 (by decide) rfl rfl 9 (by decide) lk1 (fun _ h9 => h9) rfl dX4_letterOfStreet_13 ?_
        refine lv_iload_n hx hb dX4_letterOfStreet_16 rfl (lv_at hl 3 rfl) ?_
        refine zcall_get (rest := []) hx hb hml hown hts gX4_letterOfStreet_X3_get ⟨Nat.le_of_ble_eq_true rfl, Nat.le_of_ble_eq_true rfl⟩ ⟨Nat.zero_le _, Nat.zero_le _⟩ hK hj hw hA hS 9 (by decide) hl.1 (Nat.le_of_ble_eq_true rfl) dX4_letterOfStreet_17 (fun H locs hw hS => ?_)
        refine lv_topi (fun v1 ev1 => ?_)
        have h := h v1 ev1
        refine lv_istore (lv' := [(4, .int v1), (0, .ref (ad 5)), (1, .int p0), (2, .int y2_4), (3, .int y3_4)]) hx hb dX4_letterOfStreet_20 hl (by decide) rfl (fun ls hl => ?_)
        refine lv_aload_n hx hb dX4_letterOfStreet_22 rfl (lv_at hl 1 rfl) ?_
        refine lv_iload hx hb dX4_letterOfStreet_23 (lv_at hl 0 rfl) ?_
        refine k_X4_isInStreet (rest := []) hx hb hml hown hts gX4_letterOfStreet_X4_isInStreet ⟨Nat.le_of_ble_eq_true rfl, Nat.le_of_ble_eq_true rfl⟩ ⟨Nat.zero_le _, Nat.zero_le _⟩ hK hj hw hA hS hl.1 (Nat.le_of_ble_eq_true rfl) dX4_letterOfStreet_25 h (fun r1 s1 H locs h hw hS => ?_)
        refine zif_eq (tgt := 42) hx hb dX4_letterOfStreet_28 (by decide) (fun c2 => ?_) (fun c2 => ?_)
        · have h := h.1 c2
          obtain ⟨x1, ex1⟩ : ∃ y : Int32, y = y3_4 + (jI 1) := ⟨_, rfl⟩
          have h := h x1 ex1
          refine lv_iinc (v := x1) (lv' := [(3, .int x1), (4, .int v1), (0, .ref (ad 5)), (1, .int p0), (2, .int y2_4)]) hx hb dX4_letterOfStreet_42 hl (k := 4) rfl (by rw [ex1]; rfl) (by decide) rfl (fun ls hl => ?_)
          refine lv_goto (tgt := 4) hx hb dX4_letterOfStreet_45 (by decide) ?_
          exact ih4 _ _ _ _ _ h hw hS _ (lv_sub hl [2, 3, 4, 0] rfl)
        · have h := h.2 c2
          refine lv_iload_n hx hb dX4_letterOfStreet_31 rfl (lv_at hl 3 rfl) ?_
          refine lv_iload_n hx hb dX4_letterOfStreet_32 rfl (lv_at hl 2 rfl) ?_
          refine lv_icmp_ne (tgt := 39) hx hb dX4_letterOfStreet_33 (by decide) (fun c3 => ?_) (fun c3 => ?_)
          · have h := h.2 c3
            obtain ⟨x2, ex2⟩ : ∃ y : Int32, y = y2_4 + (jI 1) := ⟨_, rfl⟩
            have h := h x2 ex2
            refine lv_iinc (v := x2) (lv' := [(2, .int x2), (4, .int v1), (0, .ref (ad 5)), (1, .int p0), (3, .int y3_4)]) hx hb dX4_letterOfStreet_39 hl (k := 3) rfl (by rw [ex2]; rfl) (by decide) rfl (fun ls hl => ?_)
            obtain ⟨x3, ex3⟩ : ∃ y : Int32, y = y3_4 + (jI 1) := ⟨_, rfl⟩
            have h := h x3 ex3
            refine lv_iinc (v := x3) (lv' := [(3, .int x3), (2, .int x2), (4, .int v1), (0, .ref (ad 5)), (1, .int p0)]) hx hb dX4_letterOfStreet_42 hl (k := 4) rfl (by rw [ex3]; rfl) (by decide) rfl (fun ls hl => ?_)
            refine lv_goto (tgt := 4) hx hb dX4_letterOfStreet_45 (by decide) ?_
            exact ih4 _ _ _ _ _ h hw hS _ (lv_sub hl [3, 4, 1, 0] rfl)
          · have h := h.1 c3
            exact k36_4 _ _ _ _ h hw hS _ (lv_sub hl [0] rfl)
  obtain ⟨nn4, h⟩ := h
  exact lp4 nn4 _ _ _ _ _ h hw hS _ (lv_sub hl [2, 3, 1, 0] rfl)
theorem k_X4_letterOfStreet {p : Program} {l : Launch} {e : Env} {R : Room} {s : State} {m : MethodId} {args : Array Value} {below : List Frame} {meth : Method} {c : Code} {H : Heap} {locs : List Loc} {cells slots : Nat} {QQ : State → Prop} {cc : ByteArray} {pc nL index : Nat} {ls : Array Slot} {rest : List Value} {D : va_G} {cy : cyT} {ad : Nat → Nat} {own : String} {Ts : List Cond} {H0 : Heap} {σ : ST} {p0 : Int32} {Q : Int32 → ST → Prop} (hx : p.tables.exec = Jvm.exec) (hb : c.code = cc) (hml : c.maxLocals = nL) (hown : s.vm.findClass own = some m.cls) (hts : ∀ w ∈ Ts, w.before args s = true) (hG : GoodIn Ts (wsV own index RX4 yX4_letterOfStreet wsX4_letterOfStreet)) (hR : 2 + 1 ≤ R.frames ∧ 8 + (5 + 11) + 42 ≤ R.locals) (hcs : cells ≤ R.cells ∧ slots ≤ R.slots) (hK : zK D cy s) (hj : zI 116 ad) (hw : zW D 116 (zce cy ad σ) ad H) {A0 : Nat → Prop} (hA : ∀ i, i < 116 → A0 (ad i)) (hS : va_S A0 H0 H locs) (hsz : ls.size = nL) (hrest : (rest.map fun v => v.category).sum ≤ 8) (hdg : decode cc pc = .ok (.invokevirtual index, 3)) (h : wp_X4_letterOfStreet σ p0 Q) (kk : ∀ (r : Int32) (σ : ST) (H : Heap) (locs : List Loc), Q r σ → zW D 116 (zce cy ad σ) ad H → va_S A0 H0 H locs → W p l e R s m args below meth c H locs cells slots QQ (F0 m (pc + 3) ls (.int r :: rest))) : W p l e R s m args below meth c H locs cells slots QQ (F0 m pc ls (.int p0 :: .ref (ad 5) :: rest)) :=
  zcalli (va_runV (As := [.int p0]) (rest := rest) ⟨hx, hb, hml, hown, hts⟩ (c_X4_letterOfStreet l D cy ad σ p0 h) (cwV 1 hts hG rfl rfl rfl (by decide +kernel) hR) (zpreV hj hK hw _ (i := 5) (ci := 3) (by decide) rfl rfl) rfl rfl hsz rfl (lv_room hrest) hdg hcs) hA hS kk
set_option maxHeartbeats 4000000 in
set_option maxRecDepth 100000 in
theorem c_X4_countAllShelves (l : Launch) (D : va_G) (cy : cyT) (ad : Nat → Nat) (σ : ST) {Q : Int32 → ST → Prop} (h : wp_X4_countAllShelves σ Q) : Met l yX4_countAllShelves wsX4_countAllShelves ({ frames := 2, cells := 0, slots := 0, locals := 44 } : Room) (zPre D cy 116 (zce cy ad σ) ad [.ref (ad 5)]) (va_Qi Q (zB D 116 (zce cy ad) ad) (zA 116 ad)) 0 0 (zA 116 ad) := by
  refine Met.ofW (cc := cX4_countAllShelves) (maxL := 3) (ret := (some .int)) (by decide) rfl ?_
  intro p e s m args below meth c s₁ B hml hv
  obtain ⟨rfl, hj, hK, hw⟩ := hv
  have hx := B.exec
  have hb := B.bytes
  have hr := B.returns
  have hts := atoms_spec (ws := wsX4_countAllShelves) B.pre
  have hown : s.vm.findClass RX4 = some m.cls := findClass_of_methodNamed B.named
  have hlocks := B.notSynchronized
  have lk0 : Cond.fieldLink RX4 51 "TypeTrays$State" "trays" "I" ∈ wsX4_countAllShelves := List.mem_of_getElem? (i := 1) rfl
  have inX4 : ∀ w ∈ u_ws RX4 TX4 18, w ∈ wsX4_countAllShelves := zin_at 14 rfl
  have hS : va_S (zA 116 ad) s.heap s.heap [] := va_S.rf
  have hA : ∀ i, i < 116 → zA 116 ad (ad i) := fun i hi => ⟨i, hi, rfl⟩
  have hl := lv_entry ([.ref (ad 5)]) (n := 3) (Nat.le_of_ble_eq_true rfl)
  rw [lg_entry_eq]
  generalize (lg_sl ([.ref (ad 5)]) ++ List.replicate (3 - (lg_sl ([.ref (ad 5)])).length) Slot.unset).toArray = ls at hl ⊢
  have hl : lv_has ls 3 [(0, .ref (ad 5))] := hl
  show W p l e ({ frames := 2, cells := 0, slots := 0, locals := 44 } : Room) s m ([.ref (ad 5)] : List Value).toArray below meth c s.heap [] 0 0 (MQ below (va_Qi Q (zB D 116 (zce cy ad) ad) (zA 116 ad)) ([.ref (ad 5)] : List Value).toArray s 0 0 (zA 116 ad)) (F0 m 0 ls [])
  unfold wp_X4_countAllShelves at h
  refine lv_iconst (v := (jI 0)) hx hb dX4_countAllShelves_0 rfl ?_
  refine lv_istore_n (lv' := [(1, .int (jI 0)), (0, .ref (ad 5))]) hx hb dX4_countAllShelves_1 rfl hl (by decide) rfl (fun ls hl => ?_)
  refine lv_iconst (v := (jI 0)) hx hb dX4_countAllShelves_2 rfl ?_
  refine lv_istore_n (lv' := [(2, .int (jI 0)), (1, .int (jI 0)), (0, .ref (ad 5))]) hx hb dX4_countAllShelves_3 rfl hl (by decide) rfl (fun ls hl => ?_)
  have k26_4 : ∀ (u_26 : ST) (z1_26 : Int32) (H : Heap) (locs : List Loc), Q z1_26 u_26 → zW D 116 (zce cy ad u_26) ad H → va_S (zA 116 ad) s.heap H locs → ∀ ls : Array Slot, lv_has ls 3 [(1, .int z1_26)] → W p l e ({ frames := 2, cells := 0, slots := 0, locals := 44 } : Room) s m ([.ref (ad 5)] : List Value).toArray below meth c H locs 0 0 (MQ below (va_Qi Q (zB D 116 (zce cy ad) ad) (zA 116 ad)) ([.ref (ad 5)] : List Value).toArray s 0 0 (zA 116 ad)) (F0 m 26 ls []) := by
    intro u_26 z1_26 H locs h hw hS ls hl
    refine lv_iload_n hx hb dX4_countAllShelves_26 rfl (lv_at hl 0 rfl) ?_
    exact W.iret (v := z1_26) hx hb hr (fun t ht hW => ⟨⟨_, _, rfl, h, zend hw ht⟩, hS.F ht⟩) hS.2.2 dX4_countAllShelves_27
  have lp4 : ∀ (nn4 : Nat) (t_4 : ST) (y1_4 : Int32) (y2_4 : Int32) (H : Heap) (locs : List Loc), wl_X4_countAllShelves_4 (fun u_26 z1_26 => Q z1_26 u_26)  nn4 t_4 y1_4 y2_4 → zW D 116 (zce cy ad t_4) ad H → va_S (zA 116 ad) s.heap H locs → ∀ ls : Array Slot, lv_has ls 3 [(0, .ref (ad 5)), (1, .int y1_4), (2, .int y2_4)] → W p l e ({ frames := 2, cells := 0, slots := 0, locals := 44 } : Room) s m ([.ref (ad 5)] : List Value).toArray below meth c H locs 0 0 (MQ below (va_Qi Q (zB D 116 (zce cy ad) ad) (zA 116 ad)) ([.ref (ad 5)] : List Value).toArray s 0 0 (zA 116 ad)) (F0 m 4 ls []) := by
    intro nn4
    induction nn4 with
    | zero => intro _ _ _ _ _ h; exact h.elim
    | succ nn4 ih4 =>
      intro t_4 y1_4 y2_4 H locs h hw hS ls hl
      simp only [wl_X4_countAllShelves_4, wb_X4_countAllShelves_4] at h
      refine lv_iload_n hx hb dX4_countAllShelves_4 rfl (lv_at hl 2 rfl) ?_
      refine lv_aload_n hx hb dX4_countAllShelves_5 rfl (lv_at hl 0 rfl) ?_
      refine zget hx hb hts inX4 hown hK hw 5 (by decide) rfl rfl 11 (by decide) lk0 (fun _ h9 => h9) rfl dX4_countAllShelves_6 ?_
      refine lv_icmp_ge (tgt := 26) hx hb dX4_countAllShelves_9 (by decide) (fun c1 => ?_) (fun c1 => ?_)
      · have h := h.1 c1
        exact k26_4 _ _ _ _ h hw hS _ (lv_sub hl [1] rfl)
      · have h := h.2 c1
        refine lv_iload_n hx hb dX4_countAllShelves_12 rfl (lv_at hl 1 rfl) ?_
        refine lv_aload_n hx hb dX4_countAllShelves_13 rfl (lv_at hl 0 rfl) ?_
        refine lv_iload_n hx hb dX4_countAllShelves_14 rfl (lv_at hl 2 rfl) ?_
        refine k_X4_countShelves (rest := [.int y1_4]) hx hb hml hown hts gX4_countAllShelves_X4_countShelves ⟨Nat.le_of_ble_eq_true rfl, Nat.le_of_ble_eq_true rfl⟩ ⟨Nat.zero_le _, Nat.zero_le _⟩ hK hj hw hA hS hl.1 (Nat.le_of_ble_eq_true rfl) dX4_countAllShelves_15 h (fun r1 s1 H locs h hw hS => ?_)
        refine lv_iadd hx hb dX4_countAllShelves_18 ?_
        refine lv_topi (fun x1 ex1 => ?_)
        have h := h x1 ex1
        refine lv_istore_n (lv' := [(1, .int x1), (0, .ref (ad 5)), (2, .int y2_4)]) hx hb dX4_countAllShelves_19 rfl hl (by decide) rfl (fun ls hl => ?_)
        obtain ⟨x2, ex2⟩ : ∃ y : Int32, y = y2_4 + (jI 1) := ⟨_, rfl⟩
        have h := h x2 ex2
        refine lv_iinc (v := x2) (lv' := [(2, .int x2), (1, .int x1), (0, .ref (ad 5))]) hx hb dX4_countAllShelves_20 hl (k := 2) rfl (by rw [ex2]; rfl) (by decide) rfl (fun ls hl => ?_)
        refine lv_goto (tgt := 4) hx hb dX4_countAllShelves_23 (by decide) ?_
        exact ih4 _ _ _ _ _ h hw hS _ (lv_sub hl [2, 1, 0] rfl)
  obtain ⟨nn4, h⟩ := h
  exact lp4 nn4 _ _ _ _ _ h hw hS _ (lv_sub hl [2, 1, 0] rfl)
theorem k_X4_countAllShelves {p : Program} {l : Launch} {e : Env} {R : Room} {s : State} {m : MethodId} {args : Array Value} {below : List Frame} {meth : Method} {c : Code} {H : Heap} {locs : List Loc} {cells slots : Nat} {QQ : State → Prop} {cc : ByteArray} {pc nL index : Nat} {ls : Array Slot} {rest : List Value} {D : va_G} {cy : cyT} {ad : Nat → Nat} {own : String} {Ts : List Cond} {H0 : Heap} {σ : ST}  {Q : Int32 → ST → Prop} (hx : p.tables.exec = Jvm.exec) (hb : c.code = cc) (hml : c.maxLocals = nL) (hown : s.vm.findClass own = some m.cls) (hts : ∀ w ∈ Ts, w.before args s = true) (hG : GoodIn Ts (wsV own index RX4 yX4_countAllShelves wsX4_countAllShelves)) (hR : 2 + 1 ≤ R.frames ∧ 8 + (3 + 11) + 44 ≤ R.locals) (hcs : cells ≤ R.cells ∧ slots ≤ R.slots) (hK : zK D cy s) (hj : zI 116 ad) (hw : zW D 116 (zce cy ad σ) ad H) {A0 : Nat → Prop} (hA : ∀ i, i < 116 → A0 (ad i)) (hS : va_S A0 H0 H locs) (hsz : ls.size = nL) (hrest : (rest.map fun v => v.category).sum ≤ 8) (hdg : decode cc pc = .ok (.invokevirtual index, 3)) (h : wp_X4_countAllShelves σ  Q) (kk : ∀ (r : Int32) (σ : ST) (H : Heap) (locs : List Loc), Q r σ → zW D 116 (zce cy ad σ) ad H → va_S A0 H0 H locs → W p l e R s m args below meth c H locs cells slots QQ (F0 m (pc + 3) ls (.int r :: rest))) : W p l e R s m args below meth c H locs cells slots QQ (F0 m pc ls (.ref (ad 5) :: rest)) :=
  zcalli (va_runV (As := []) (rest := rest) ⟨hx, hb, hml, hown, hts⟩ (c_X4_countAllShelves l D cy ad σ  h) (cwV 0 hts hG rfl rfl rfl (by decide +kernel) hR) (zpreV hj hK hw _ (i := 5) (ci := 3) (by decide) rfl rfl) rfl rfl hsz rfl (lv_room hrest) hdg hcs) hA hS kk
set_option maxHeartbeats 4000000 in
set_option maxRecDepth 100000 in
theorem c_X4_areaLaid (l : Launch) (D : va_G) (cy : cyT) (ad : Nat → Nat) (σ : ST) {Q : Int32 → ST → Prop} (h : wp_X4_areaLaid σ Q) : Met l yX4_areaLaid wsX4_areaLaid ({ frames := 3, cells := 0, slots := 0, locals := 63 } : Room) (zPre D cy 116 (zce cy ad σ) ad [.ref (ad 5)]) (va_Qi Q (zB D 116 (zce cy ad) ad) (zA 116 ad)) 0 0 (zA 116 ad) := by
  refine Met.ofW (cc := cX4_areaLaid) (maxL := 4) (ret := (some .int)) (by decide) rfl ?_
  intro p e s m args below meth c s₁ B hml hv
  obtain ⟨rfl, hj, hK, hw⟩ := hv
  have hx := B.exec
  have hb := B.bytes
  have hr := B.returns
  have hts := atoms_spec (ws := wsX4_areaLaid) B.pre
  have hown : s.vm.findClass RX4 = some m.cls := findClass_of_methodNamed B.named
  have hlocks := B.notSynchronized
  have lk0 : Cond.fieldLink RX4 47 "TypeTrays$State" "presentCount" "I" ∈ wsX4_areaLaid := List.mem_of_getElem? (i := 1) rfl
  have lk1 : Cond.fieldLink RX4 44 "TypeTrays$State" "present" "LTypeTrays$Row;" ∈ wsX4_areaLaid := List.mem_of_getElem? (i := 2) rfl
  have inX4 : ∀ w ∈ u_ws RX4 TX4 18, w ∈ wsX4_areaLaid := zin_at 36 rfl
  have hS : va_S (zA 116 ad) s.heap s.heap [] := va_S.rf
  have hA : ∀ i, i < 116 → zA 116 ad (ad i) := fun i hi => ⟨i, hi, rfl⟩
  have hl := lv_entry ([.ref (ad 5)]) (n := 4) (Nat.le_of_ble_eq_true rfl)
  rw [lg_entry_eq]
  generalize (lg_sl ([.ref (ad 5)]) ++ List.replicate (4 - (lg_sl ([.ref (ad 5)])).length) Slot.unset).toArray = ls at hl ⊢
  have hl : lv_has ls 4 [(0, .ref (ad 5))] := hl
  show W p l e ({ frames := 3, cells := 0, slots := 0, locals := 63 } : Room) s m ([.ref (ad 5)] : List Value).toArray below meth c s.heap [] 0 0 (MQ below (va_Qi Q (zB D 116 (zce cy ad) ad) (zA 116 ad)) ([.ref (ad 5)] : List Value).toArray s 0 0 (zA 116 ad)) (F0 m 0 ls [])
  unfold wp_X4_areaLaid at h
  refine lv_iconst (v := (jI 0)) hx hb dX4_areaLaid_0 rfl ?_
  refine lv_istore_n (lv' := [(1, .int (jI 0)), (0, .ref (ad 5))]) hx hb dX4_areaLaid_1 rfl hl (by decide) rfl (fun ls hl => ?_)
  refine lv_iconst (v := (jI 0)) hx hb dX4_areaLaid_2 rfl ?_
  refine lv_istore_n (lv' := [(2, .int (jI 0)), (1, .int (jI 0)), (0, .ref (ad 5))]) hx hb dX4_areaLaid_3 rfl hl (by decide) rfl (fun ls hl => ?_)
  have k43_4 : ∀ (u_43 : ST) (z1_43 : Int32) (H : Heap) (locs : List Loc), Q z1_43 u_43 → zW D 116 (zce cy ad u_43) ad H → va_S (zA 116 ad) s.heap H locs → ∀ ls : Array Slot, lv_has ls 4 [(1, .int z1_43)] → W p l e ({ frames := 3, cells := 0, slots := 0, locals := 63 } : Room) s m ([.ref (ad 5)] : List Value).toArray below meth c H locs 0 0 (MQ below (va_Qi Q (zB D 116 (zce cy ad) ad) (zA 116 ad)) ([.ref (ad 5)] : List Value).toArray s 0 0 (zA 116 ad)) (F0 m 43 ls []) := by
    intro u_43 z1_43 H locs h hw hS ls hl
    refine lv_iload_n hx hb dX4_areaLaid_43 rfl (lv_at hl 0 rfl) ?_
    exact W.iret (v := z1_43) hx hb hr (fun t ht hW => ⟨⟨_, _, rfl, h, zend hw ht⟩, hS.F ht⟩) hS.2.2 dX4_areaLaid_44
  have lp4 : ∀ (nn4 : Nat) (t_4 : ST) (y1_4 : Int32) (y2_4 : Int32) (H : Heap) (locs : List Loc), wl_X4_areaLaid_4 (fun u_43 z1_43 => Q z1_43 u_43)  nn4 t_4 y1_4 y2_4 → zW D 116 (zce cy ad t_4) ad H → va_S (zA 116 ad) s.heap H locs → ∀ ls : Array Slot, lv_has ls 4 [(0, .ref (ad 5)), (1, .int y1_4), (2, .int y2_4)] → W p l e ({ frames := 3, cells := 0, slots := 0, locals := 63 } : Room) s m ([.ref (ad 5)] : List Value).toArray below meth c H locs 0 0 (MQ below (va_Qi Q (zB D 116 (zce cy ad) ad) (zA 116 ad)) ([.ref (ad 5)] : List Value).toArray s 0 0 (zA 116 ad)) (F0 m 4 ls []) := by
    intro nn4
    induction nn4 with
    | zero => intro _ _ _ _ _ h; exact h.elim
    | succ nn4 ih4 =>
      intro t_4 y1_4 y2_4 H locs h hw hS ls hl
      simp only [wl_X4_areaLaid_4, wb_X4_areaLaid_4] at h
      refine lv_iload_n hx hb dX4_areaLaid_4 rfl (lv_at hl 2 rfl) ?_
      refine lv_aload_n hx hb dX4_areaLaid_5 rfl (lv_at hl 0 rfl) ?_
      refine zget hx hb hts inX4 hown hK hw 5 (by decide) rfl rfl 10 (by decide) lk0 (fun _ h9 => h9) rfl dX4_areaLaid_6 ?_
      refine lv_icmp_ge (tgt := 43) hx hb dX4_areaLaid_9 (by decide) (fun c1 => ?_) (fun c1 => ?_)
      · have h := h.1 c1
        exact k43_4 _ _ _ _ h hw hS _ (lv_sub hl [1] rfl)
      · have h := h.2 c1
        refine lv_aload_n hx hb dX4_areaLaid_12 rfl (lv_at hl 0 rfl) ?_
        refine zget hx hb hts inX4 hown hK hw 5 (by decide) rfl rfl 9 (by decide) lk1 (fun _ h9 => h9) rfl dX4_areaLaid_13 ?_
        refine lv_iload_n hx hb dX4_areaLaid_16 rfl (lv_at hl 2 rfl) ?_
        refine zcall_get (rest := []) hx hb hml hown hts gX4_areaLaid_X3_get ⟨Nat.le_of_ble_eq_true rfl, Nat.le_of_ble_eq_true rfl⟩ ⟨Nat.zero_le _, Nat.zero_le _⟩ hK hj hw hA hS 9 (by decide) hl.1 (Nat.le_of_ble_eq_true rfl) dX4_areaLaid_17 (fun H locs hw hS => ?_)
        refine lv_topi (fun v1 ev1 => ?_)
        have h := h v1 ev1
        refine lv_istore_n (lv' := [(3, .int v1), (0, .ref (ad 5)), (1, .int y1_4), (2, .int y2_4)]) hx hb dX4_areaLaid_20 rfl hl (by decide) rfl (fun ls hl => ?_)
        refine lv_aload_n hx hb dX4_areaLaid_21 rfl (lv_at hl 1 rfl) ?_
        refine lv_iload_n hx hb dX4_areaLaid_22 rfl (lv_at hl 0 rfl) ?_
        refine k_X4_isLaid (rest := []) hx hb hml hown hts gX4_areaLaid_X4_isLaid ⟨Nat.le_of_ble_eq_true rfl, Nat.le_of_ble_eq_true rfl⟩ ⟨Nat.zero_le _, Nat.zero_le _⟩ hK hj hw hA hS hl.1 (Nat.le_of_ble_eq_true rfl) dX4_areaLaid_23 h (fun r1 s1 H locs h hw hS => ?_)
        refine zif_eq (tgt := 37) hx hb dX4_areaLaid_26 (by decide) (fun c2 => ?_) (fun c2 => ?_)
        · have h := h.1 c2
          obtain ⟨x1, ex1⟩ : ∃ y : Int32, y = y2_4 + (jI 1) := ⟨_, rfl⟩
          have h := h x1 ex1
          refine lv_iinc (v := x1) (lv' := [(2, .int x1), (3, .int v1), (0, .ref (ad 5)), (1, .int y1_4)]) hx hb dX4_areaLaid_37 hl (k := 3) rfl (by rw [ex1]; rfl) (by decide) rfl (fun ls hl => ?_)
          refine lv_goto (tgt := 4) hx hb dX4_areaLaid_40 (by decide) ?_
          exact ih4 _ _ _ _ _ h hw hS _ (lv_sub hl [2, 3, 0] rfl)
        · have h := h.2 c2
          refine lv_iload_n hx hb dX4_areaLaid_29 rfl (lv_at hl 2 rfl) ?_
          refine lv_aload_n hx hb dX4_areaLaid_30 rfl (lv_at hl 1 rfl) ?_
          refine lv_iload_n hx hb dX4_areaLaid_31 rfl (lv_at hl 0 rfl) ?_
          refine k_X4_areaOf (rest := [.int y1_4]) hx hb hml hown hts gX4_areaLaid_X4_areaOf ⟨Nat.le_of_ble_eq_true rfl, Nat.le_of_ble_eq_true rfl⟩ ⟨Nat.zero_le _, Nat.zero_le _⟩ hK hj hw hA hS hl.1 (Nat.le_of_ble_eq_true rfl) dX4_areaLaid_32 h (fun r2 s2 H locs h hw hS => ?_)
          refine lv_iadd hx hb dX4_areaLaid_35 ?_
          refine lv_topi (fun x2 ex2 => ?_)
          have h := h x2 ex2
          refine lv_istore_n (lv' := [(1, .int x2), (3, .int v1), (0, .ref (ad 5)), (2, .int y2_4)]) hx hb dX4_areaLaid_36 rfl hl (by decide) rfl (fun ls hl => ?_)
          obtain ⟨x3, ex3⟩ : ∃ y : Int32, y = y2_4 + (jI 1) := ⟨_, rfl⟩
          have h := h x3 ex3
          refine lv_iinc (v := x3) (lv' := [(2, .int x3), (1, .int x2), (3, .int v1), (0, .ref (ad 5))]) hx hb dX4_areaLaid_37 hl (k := 3) rfl (by rw [ex3]; rfl) (by decide) rfl (fun ls hl => ?_)
          refine lv_goto (tgt := 4) hx hb dX4_areaLaid_40 (by decide) ?_
          exact ih4 _ _ _ _ _ h hw hS _ (lv_sub hl [3, 1, 0] rfl)
  obtain ⟨nn4, h⟩ := h
  exact lp4 nn4 _ _ _ _ _ h hw hS _ (lv_sub hl [2, 1, 0] rfl)
theorem k_X4_areaLaid {p : Program} {l : Launch} {e : Env} {R : Room} {s : State} {m : MethodId} {args : Array Value} {below : List Frame} {meth : Method} {c : Code} {H : Heap} {locs : List Loc} {cells slots : Nat} {QQ : State → Prop} {cc : ByteArray} {pc nL index : Nat} {ls : Array Slot} {rest : List Value} {D : va_G} {cy : cyT} {ad : Nat → Nat} {own : String} {Ts : List Cond} {H0 : Heap} {σ : ST}  {Q : Int32 → ST → Prop} (hx : p.tables.exec = Jvm.exec) (hb : c.code = cc) (hml : c.maxLocals = nL) (hown : s.vm.findClass own = some m.cls) (hts : ∀ w ∈ Ts, w.before args s = true) (hG : GoodIn Ts (wsV own index RX4 yX4_areaLaid wsX4_areaLaid)) (hR : 3 + 1 ≤ R.frames ∧ 8 + (4 + 11) + 63 ≤ R.locals) (hcs : cells ≤ R.cells ∧ slots ≤ R.slots) (hK : zK D cy s) (hj : zI 116 ad) (hw : zW D 116 (zce cy ad σ) ad H) {A0 : Nat → Prop} (hA : ∀ i, i < 116 → A0 (ad i)) (hS : va_S A0 H0 H locs) (hsz : ls.size = nL) (hrest : (rest.map fun v => v.category).sum ≤ 8) (hdg : decode cc pc = .ok (.invokevirtual index, 3)) (h : wp_X4_areaLaid σ  Q) (kk : ∀ (r : Int32) (σ : ST) (H : Heap) (locs : List Loc), Q r σ → zW D 116 (zce cy ad σ) ad H → va_S A0 H0 H locs → W p l e R s m args below meth c H locs cells slots QQ (F0 m (pc + 3) ls (.int r :: rest))) : W p l e R s m args below meth c H locs cells slots QQ (F0 m pc ls (.ref (ad 5) :: rest)) :=
  zcalli (va_runV (As := []) (rest := rest) ⟨hx, hb, hml, hown, hts⟩ (c_X4_areaLaid l D cy ad σ  h) (cwV 0 hts hG rfl rfl rfl (by decide +kernel) hR) (zpreV hj hK hw _ (i := 5) (ci := 3) (by decide) rfl rfl) rfl rfl hsz rfl (lv_room hrest) hdg hcs) hA hS kk
theorem last_06b : True := trivial
