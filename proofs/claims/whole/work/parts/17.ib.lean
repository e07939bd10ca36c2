/-! printed by wip/whole/gen4.py: the constructors -/
def lP (cy : cyT) (ad : Nat → Nat) : List va_E := ([.inr (1, [.int (jI (-1)), .int (jI (-2)), .int (jI (-1)), .int (jI 0), .int (jI (-1))])] : List va_E)
set_option maxHeartbeats 4000000 in
set_option maxRecDepth 100000 in
theorem c_X2_init (l : Launch) (D : va_G) (cy : cyT) (b sz : Nat) : Met l yX2_init wsX2_init ({ frames := 1, cells := 0, slots := 0, locals := 12 } : Room) (iPre D cy zNo b sz 1 [.int 0, .int 0, .int 0, .int 0, .int 0] []) (iQ D 0 (lP cy) b sz) 0 0 (zAb b sz) := by
  refine Met.ofW (cc := cX2_init) (maxL := 1) (ret := none) (by decide) rfl ?_
  intro p e s m args below meth c s₁ B hml hv
  obtain ⟨rfl, hsz, hbs, hK, hkK, hat⟩ := hv
  have hx := B.exec
  have hb := B.bytes
  have hr := B.returns
  have hts := atoms_spec (ws := wsX2_init) B.pre
  have hown : s.vm.findClass RX2 = some m.cls := findClass_of_methodNamed B.named
  have hlocks := B.notSynchronized
  have hin : meth.name = "<init>" := (name_of_methodNamed B.named B.method).1
  have inX2 : ∀ w ∈ u_ws RX2 TX2 5, w ∈ wsX2_init := zin_at 9 rfl
  subst hsz
  have hS : va_S (zAb b s.heap.size) s.heap s.heap [] := va_S.rf
  have hA0 : ∀ i, zAb b s.heap.size (adB b s.heap.size i) := fun i => by cases i with | zero => exact Or.inl rfl | succ i => exact Or.inr (Nat.le_add_right _ _)
  have hj0 : ∀ n, zI n (adB b s.heap.size) := adB_inj hbs
  have hadk0 : ∀ k, adB b s.heap.size (k + 1) = s.heap.size + k := fun _ => rfl
  have hb0 : b = adB b s.heap.size 0 := rfl
  generalize had : adB b s.heap.size = ad at hA0 hj0 hadk0 hb0
  have hA := hA0
  have hj := hj0
  have hadk := hadk0
  obtain ⟨H, hH0⟩ : ∃ H, H = s.heap := ⟨_, rfl⟩
  rw [← hH0] at hat
  have hz : H.size = s.heap.size + 0 := by rw [hH0]; rfl
  have hw : zV D [.inr (1, [.int 0, .int 0, .int 0, .int 0, .int 0])] ad H := fun i x hx9 => by
    have hi := (List.getElem?_eq_some_iff.mp hx9).1
    have e0 : i = 0 := by simp at hi; omega
    subst e0
    cases hx9
    show va_at D vwCl (ad 0, _) H
    rw [← hb0]
    exact hat
  have hl := lv_entry ([.ref b]) (n := 1) (Nat.le_of_ble_eq_true rfl)
  rw [lg_entry_eq]
  generalize (lg_sl ([.ref b]) ++ List.replicate (1 - (lg_sl ([.ref b])).length) Slot.unset).toArray = ls at hl ⊢
  have hl : lv_has ls 1 [(0, .ref b)] := hl
  have hl : lv_has ls 1 [(0, .ref (ad 0))] := by rw [← hb0]; exact hl
  show W p l e ({ frames := 1, cells := 0, slots := 0, locals := 12 } : Room) s m ([.ref b] : List Value).toArray below meth c s.heap [] 0 0 (MQ below (iQ D 0 (lP cy) b s.heap.size) ([.ref b] : List Value).toArray s 0 0 (zAb b s.heap.size)) (F0 m 0 ls [])
  have hS : va_S (zAb b s.heap.size) s.heap H [] := by rw [hH0]; exact hS
  suffices hG9 : W p l e ({ frames := 1, cells := 0, slots := 0, locals := 12 } : Room) s m ([.ref b] : List Value).toArray below meth c H [] 0 0 (MQ below (iQ D 0 (lP cy) b s.heap.size) ([.ref b] : List Value).toArray s 0 0 (zAb b s.heap.size)) (F0 m 0 ls []) by
    rw [hH0] at hG9
    exact hG9
  refine lv_aload_n hx hb dX2_init_0 rfl (lv_at hl 0 rfl) ?_
  refine W.objInit hx hb hown (hts (.methodLink RX2 3 objectInit) (List.mem_of_getElem? (i := 1) rfl)) (hts (.instanceMethod objectInit) (List.mem_of_getElem? (i := 2) rfl)) (hts (.code objectInit ⟨#[0xb1]⟩ 1 none) (List.mem_of_getElem? (i := 3) rfl)) rfl (by rw [hml]; exact hl.1) rfl dX2_init_1 (Nat.le_of_ble_eq_true rfl) (Nat.le_of_ble_eq_true rfl) ?_
  refine W.eq (g2 := F0 m 4 ls []) rfl ?_
  refine lv_aload_n hx hb dX2_init_4 rfl (lv_at hl 0 rfl) ?_
  refine lv_iconst (v := (jI (-1))) hx hb dX2_init_5 (by decide +kernel) ?_
  refine vput (es := ([.inr (1, [.int 0, .int 0, .int 0, .int 0, .int 0])] : List va_E)) (C := RX2) (T := TX2) (N := 5) (ci := 1) (v := .int (jI (-1))) (ty := .int) hx hb hts inX2 tyX2 tyX2_ok nmX2 hown hK (by exact hj 1) hw hS 0 (hA 0) rfl rfl 0 (by decide) (List.mem_of_getElem? (i := 4) rfl) (fun _ h9 => h9) rfl (by decide +kernel) rfl rfl (Nat.le_of_ble_eq_true rfl) dX2_init_6 (fun H locs hz1 hw hS => ?_)
  have hz : H.size = s.heap.size + 0 := by omega
  have hw : zV D ([.inr (1, [.int (jI (-1)), .int 0, .int 0, .int 0, .int 0])] : List va_E) ad H := hw
  refine lv_aload_n hx hb dX2_init_9 rfl (lv_at hl 0 rfl) ?_
  refine lv_bipush (v := (jI (-2))) hx hb dX2_init_10 (by decide +kernel) ?_
  refine vput (es := ([.inr (1, [.int (jI (-1)), .int 0, .int 0, .int 0, .int 0])] : List va_E)) (C := RX2) (T := TX2) (N := 5) (ci := 1) (v := .int (jI (-2))) (ty := .int) hx hb hts inX2 tyX2 tyX2_ok nmX2 hown hK (by exact hj 1) hw hS 0 (hA 0) rfl rfl 1 (by decide) (List.mem_of_getElem? (i := 5) rfl) (fun _ h9 => h9) rfl (by decide +kernel) rfl rfl (Nat.le_of_ble_eq_true rfl) dX2_init_12 (fun H locs hz1 hw hS => ?_)
  have hz : H.size = s.heap.size + 0 := by omega
  have hw : zV D ([.inr (1, [.int (jI (-1)), .int (jI (-2)), .int 0, .int 0, .int 0])] : List va_E) ad H := hw
  refine lv_aload_n hx hb dX2_init_15 rfl (lv_at hl 0 rfl) ?_
  refine lv_iconst (v := (jI (-1))) hx hb dX2_init_16 (by decide +kernel) ?_
  refine vput (es := ([.inr (1, [.int (jI (-1)), .int (jI (-2)), .int 0, .int 0, .int 0])] : List va_E)) (C := RX2) (T := TX2) (N := 5) (ci := 1) (v := .int (jI (-1))) (ty := .int) hx hb hts inX2 tyX2 tyX2_ok nmX2 hown hK (by exact hj 1) hw hS 0 (hA 0) rfl rfl 2 (by decide) (List.mem_of_getElem? (i := 6) rfl) (fun _ h9 => h9) rfl (by decide +kernel) rfl rfl (Nat.le_of_ble_eq_true rfl) dX2_init_17 (fun H locs hz1 hw hS => ?_)
  have hz : H.size = s.heap.size + 0 := by omega
  have hw : zV D ([.inr (1, [.int (jI (-1)), .int (jI (-2)), .int (jI (-1)), .int 0, .int 0])] : List va_E) ad H := hw
  refine lv_aload_n hx hb dX2_init_20 rfl (lv_at hl 0 rfl) ?_
  refine lv_iconst (v := (jI 0)) hx hb dX2_init_21 (by decide +kernel) ?_
  refine vput (es := ([.inr (1, [.int (jI (-1)), .int (jI (-2)), .int (jI (-1)), .int 0, .int 0])] : List va_E)) (C := RX2) (T := TX2) (N := 5) (ci := 1) (v := .int (jI 0)) (ty := .int) hx hb hts inX2 tyX2 tyX2_ok nmX2 hown hK (by exact hj 1) hw hS 0 (hA 0) rfl rfl 3 (by decide) (List.mem_of_getElem? (i := 7) rfl) (fun _ h9 => h9) rfl (by decide +kernel) rfl rfl (Nat.le_of_ble_eq_true rfl) dX2_init_22 (fun H locs hz1 hw hS => ?_)
  have hz : H.size = s.heap.size + 0 := by omega
  have hw : zV D ([.inr (1, [.int (jI (-1)), .int (jI (-2)), .int (jI (-1)), .int (jI 0), .int 0])] : List va_E) ad H := hw
  refine lv_aload_n hx hb dX2_init_25 rfl (lv_at hl 0 rfl) ?_
  refine lv_iconst (v := (jI (-1))) hx hb dX2_init_26 (by decide +kernel) ?_
  refine vput (es := ([.inr (1, [.int (jI (-1)), .int (jI (-2)), .int (jI (-1)), .int (jI 0), .int 0])] : List va_E)) (C := RX2) (T := TX2) (N := 5) (ci := 1) (v := .int (jI (-1))) (ty := .int) hx hb hts inX2 tyX2 tyX2_ok nmX2 hown hK (by exact hj 1) hw hS 0 (hA 0) rfl rfl 4 (by decide) (List.mem_of_getElem? (i := 8) rfl) (fun _ h9 => h9) rfl (by decide +kernel) rfl rfl (Nat.le_of_ble_eq_true rfl) dX2_init_27 (fun H locs hz1 hw hS => ?_)
  have hz : H.size = s.heap.size + 0 := by omega
  have hw : zV D ([.inr (1, [.int (jI (-1)), .int (jI (-2)), .int (jI (-1)), .int (jI 0), .int (jI (-1))])] : List va_E) ad H := hw
  refine W.widen (k := 0) (n := 0) (Nat.le_of_ble_eq_true rfl) (Nat.le_of_ble_eq_true rfl) ?_
  exact W.vret hx hb hr (fun t ht hW => ⟨⟨(), rfl, trivial, by rw [ht, hz], by rw [ht, had]; exact hw⟩, hS.F ht⟩) hS.2.2 dX2_init_30
def lC (cy : cyT) (ad : Nat → Nat) : List va_E := ([.inr (0, [.ref (ad 1), .int (jI 0), .int (jI 0), .ref (ad 3), .ref (ad 5), .int (jI 0)]), .inr (2, [.ref (ad 2)]), .inl (cy.1, 150, .inl (fun _ => 0)), .inr (2, [.ref (ad 4)]), .inl (cy.1, 30, .inl (fun _ => 0)), .inr (2, [.ref (ad 6)]), .inl (cy.1, 90, .inl (fun _ => 0))] : List va_E)
set_option maxHeartbeats 4000000 in
set_option maxRecDepth 100000 in
theorem c_X0_init (l : Launch) (D : va_G) (cy : cyT) (b sz : Nat) : Met l yX0_init wsX0_init ({ frames := 2, cells := 6, slots := 273, locals := 33 } : Room) (iPre D cy zNo b sz 0 [.null, .int 0, .int 0, .null, .null, .int 0] []) (iQ D 6 (lC cy) b sz) 6 273 (zAb b sz) := by
  refine Met.ofW (cc := cX0_init) (maxL := 1) (ret := none) (by decide) rfl ?_
  intro p e s m args below meth c s₁ B hml hv
  obtain ⟨rfl, hsz, hbs, hK, hkK, hat⟩ := hv
  have hx := B.exec
  have hb := B.bytes
  have hr := B.returns
  have hts := atoms_spec (ws := wsX0_init) B.pre
  have hown : s.vm.findClass RX0 = some m.cls := findClass_of_methodNamed B.named
  have hlocks := B.notSynchronized
  have hin : meth.name = "<init>" := (name_of_methodNamed B.named B.method).1
  have inX3 : ∀ w ∈ u_ws RX3 TX3 1, w ∈ wsX0_init := zin_at 19 rfl
  have inX0 : ∀ w ∈ u_ws RX0 TX0 6, w ∈ wsX0_init := zin_at 20 rfl
  subst hsz
  have hS : va_S (zAb b s.heap.size) s.heap s.heap [] := va_S.rf
  have hA0 : ∀ i, zAb b s.heap.size (adB b s.heap.size i) := fun i => by cases i with | zero => exact Or.inl rfl | succ i => exact Or.inr (Nat.le_add_right _ _)
  have hj0 : ∀ n, zI n (adB b s.heap.size) := adB_inj hbs
  have hadk0 : ∀ k, adB b s.heap.size (k + 1) = s.heap.size + k := fun _ => rfl
  have hb0 : b = adB b s.heap.size 0 := rfl
  generalize had : adB b s.heap.size = ad at hA0 hj0 hadk0 hb0
  have hA := hA0
  have hj := hj0
  have hadk := hadk0
  obtain ⟨H, hH0⟩ : ∃ H, H = s.heap := ⟨_, rfl⟩
  rw [← hH0] at hat
  have hz : H.size = s.heap.size + 0 := by rw [hH0]; rfl
  have hw : zV D [.inr (0, [.null, .int 0, .int 0, .null, .null, .int 0])] ad H := fun i x hx9 => by
    have hi := (List.getElem?_eq_some_iff.mp hx9).1
    have e0 : i = 0 := by simp at hi; omega
    subst e0
    cases hx9
    show va_at D vwCl (ad 0, _) H
    rw [← hb0]
    exact hat
  have hl := lv_entry ([.ref b]) (n := 1) (Nat.le_of_ble_eq_true rfl)
  rw [lg_entry_eq]
  generalize (lg_sl ([.ref b]) ++ List.replicate (1 - (lg_sl ([.ref b])).length) Slot.unset).toArray = ls at hl ⊢
  have hl : lv_has ls 1 [(0, .ref b)] := hl
  have hl : lv_has ls 1 [(0, .ref (ad 0))] := by rw [← hb0]; exact hl
  show W p l e ({ frames := 2, cells := 6, slots := 273, locals := 33 } : Room) s m ([.ref b] : List Value).toArray below meth c s.heap [] 0 0 (MQ below (iQ D 6 (lC cy) b s.heap.size) ([.ref b] : List Value).toArray s 6 273 (zAb b s.heap.size)) (F0 m 0 ls [])
  have hS : va_S (zAb b s.heap.size) s.heap H [] := by rw [hH0]; exact hS
  suffices hG9 : W p l e ({ frames := 2, cells := 6, slots := 273, locals := 33 } : Room) s m ([.ref b] : List Value).toArray below meth c H [] 0 0 (MQ below (iQ D 6 (lC cy) b s.heap.size) ([.ref b] : List Value).toArray s 6 273 (zAb b s.heap.size)) (F0 m 0 ls []) by
    rw [hH0] at hG9
    exact hG9
  refine lv_aload_n hx hb dX0_init_0 rfl (lv_at hl 0 rfl) ?_
  refine W.objInit hx hb hown (hts (.methodLink RX0 3 objectInit) (List.mem_of_getElem? (i := 1) rfl)) (hts (.instanceMethod objectInit) (List.mem_of_getElem? (i := 2) rfl)) (hts (.code objectInit ⟨#[0xb1]⟩ 1 none) (List.mem_of_getElem? (i := 3) rfl)) rfl (by rw [hml]; exact hl.1) rfl dX0_init_1 (Nat.le_of_ble_eq_true rfl) (Nat.le_of_ble_eq_true rfl) ?_
  refine W.eq (g2 := F0 m 4 ls []) rfl ?_
  refine lv_aload_n hx hb dX0_init_4 rfl (lv_at hl 0 rfl) ?_
  refine vnew (es := ([.inr (0, [.null, .int 0, .int 0, .null, .null, .int 0])] : List va_E)) (C := RX3) (T := TX3) (N := 1) (ci := 2) hx hb hts inX3 tyX3 tyX3_ok hown (List.mem_of_getElem? (i := 4) rfl) (List.mem_of_getElem? (i := 5) rfl) (List.mem_of_getElem? (i := 6) rfl) hK hw 1 rfl (by rw [hz]; exact hadk 0) hS rfl [.null] dfX3 (Nat.le_of_ble_eq_true rfl) (Nat.le_of_ble_eq_true rfl) dX0_init_5 (fun H hz1 hw hS => ?_)
  have hz : H.size = s.heap.size + 1 := by omega
  have hw : zV D ([.inr (0, [.null, .int 0, .int 0, .null, .null, .int 0]), .inr (2, [.null])] : List va_E) ad H := hw
  refine lv_dup hx hb dX0_init_8 rfl ?_
  refine lv_sipush (v := (jI ((150 : Nat) : Int))) hx hb dX0_init_9 (by decide +kernel) ?_
  refine icall (es0 := ([.inr (0, [.null, .int 0, .int 0, .null, .null, .int 0])] : List va_E)) (e0 := .inr (2, [.null])) (lX := lR cy 150 (fun _ => 0)) (k := 1) (kX := 1) rfl hw (fun j => by rw [hz, show j + 1 + 1 = (j + 1) + 1 by omega, hadk]; omega) (hj 2) (va_runI (As := [.int (jI ((150 : Nat) : Int))]) (rest := [.ref (ad 1), .ref (ad 0)]) ⟨hx, hb, hml, hown, hts⟩ (c_X3_init l D cy (ad 1) H.size 150 (by decide) (by decide)) (cwI 1 hts gX0_init_X3_init rfl rfl rfl (hts (.initialized RX3) (List.mem_of_getElem? (i := 6) rfl)) (hts (.methodLink RX0 11 yX3_init) (List.mem_of_getElem? (i := 13) rfl)) (hts (.instanceMethod yX3_init) (List.mem_of_getElem? (i := 14) rfl)) rfl (by decide +kernel) ⟨(Nat.le_of_ble_eq_true rfl), (Nat.le_of_ble_eq_true rfl)⟩) (ipre zKeep_no (hw 1 _ rfl).lt hK trivial (hw 1 _ rfl)) rfl rfl hl.1 rfl (lv_room (Nat.le_of_ble_eq_true rfl)) dX0_init_12 ⟨(Nat.le_of_ble_eq_true rfl), (Nat.le_of_ble_eq_true rfl)⟩) hS (fun q h => h.elim (fun z => z ▸ hA 1) (fun z => Or.inr (Nat.le_trans hS.1 z))) (fun H locs hz1 hw hS => ?_)
  have hz : H.size = s.heap.size + 2 := by omega
  have hw : zV D ([.inr (0, [.null, .int 0, .int 0, .null, .null, .int 0]), .inr (2, [.ref (ad 2)]), .inl (cy.1, 150, .inl (fun _ => 0))] : List va_E) ad H := hw
  refine vputF (es := ([.inr (0, [.null, .int 0, .int 0, .null, .null, .int 0]), .inr (2, [.ref (ad 2)]), .inl (cy.1, 150, .inl (fun _ => 0))] : List va_E)) (C := RX0) (T := TX0) (N := 6) (ci := 0) (v := .ref (ad 1)) (ty := (.object "TypeTrays$Row")) hx hb hts inX0 tyX0 tyX0_ok nmX0 hown hK (by exact hj 3) hw hS 0 (hA 0) rfl rfl 0 (by decide) (List.mem_of_getElem? (i := 7) rfl) (fun _ h9 => h9) rfl hin rfl (by decide +kernel) rfl rfl (Nat.le_of_ble_eq_true rfl) dX0_init_15 (fun H locs hz1 hw hS => ?_)
  have hz : H.size = s.heap.size + 2 := by omega
  have hw : zV D ([.inr (0, [.ref (ad 1), .int 0, .int 0, .null, .null, .int 0]), .inr (2, [.ref (ad 2)]), .inl (cy.1, 150, .inl (fun _ => 0))] : List va_E) ad H := hw
  refine lv_aload_n hx hb dX0_init_18 rfl (lv_at hl 0 rfl) ?_
  refine lv_iconst (v := (jI 0)) hx hb dX0_init_19 (by decide +kernel) ?_
  refine vput (es := ([.inr (0, [.ref (ad 1), .int 0, .int 0, .null, .null, .int 0]), .inr (2, [.ref (ad 2)]), .inl (cy.1, 150, .inl (fun _ => 0))] : List va_E)) (C := RX0) (T := TX0) (N := 6) (ci := 0) (v := .int (jI 0)) (ty := .int) hx hb hts inX0 tyX0 tyX0_ok nmX0 hown hK (by exact hj 3) hw hS 0 (hA 0) rfl rfl 1 (by decide) (List.mem_of_getElem? (i := 8) rfl) (fun _ h9 => h9) rfl (by decide +kernel) rfl rfl (Nat.le_of_ble_eq_true rfl) dX0_init_20 (fun H locs hz1 hw hS => ?_)
  have hz : H.size = s.heap.size + 2 := by omega
  have hw : zV D ([.inr (0, [.ref (ad 1), .int (jI 0), .int 0, .null, .null, .int 0]), .inr (2, [.ref (ad 2)]), .inl (cy.1, 150, .inl (fun _ => 0))] : List va_E) ad H := hw
  refine lv_aload_n hx hb dX0_init_23 rfl (lv_at hl 0 rfl) ?_
  refine lv_iconst (v := (jI 0)) hx hb dX0_init_24 (by decide +kernel) ?_
  refine vput (es := ([.inr (0, [.ref (ad 1), .int (jI 0), .int 0, .null, .null, .int 0]), .inr (2, [.ref (ad 2)]), .inl (cy.1, 150, .inl (fun _ => 0))] : List va_E)) (C := RX0) (T := TX0) (N := 6) (ci := 0) (v := .int (jI 0)) (ty := .int) hx hb hts inX0 tyX0 tyX0_ok nmX0 hown hK (by exact hj 3) hw hS 0 (hA 0) rfl rfl 2 (by decide) (List.mem_of_getElem? (i := 9) rfl) (fun _ h9 => h9) rfl (by decide +kernel) rfl rfl (Nat.le_of_ble_eq_true rfl) dX0_init_25 (fun H locs hz1 hw hS => ?_)
  have hz : H.size = s.heap.size + 2 := by omega
  have hw : zV D ([.inr (0, [.ref (ad 1), .int (jI 0), .int (jI 0), .null, .null, .int 0]), .inr (2, [.ref (ad 2)]), .inl (cy.1, 150, .inl (fun _ => 0))] : List va_E) ad H := hw
  refine lv_aload_n hx hb dX0_init_28 rfl (lv_at hl 0 rfl) ?_
  refine vnew (es := ([.inr (0, [.ref (ad 1), .int (jI 0), .int (jI 0), .null, .null, .int 0]), .inr (2, [.ref (ad 2)]), .inl (cy.1, 150, .inl (fun _ => 0))] : List va_E)) (C := RX3) (T := TX3) (N := 1) (ci := 2) hx hb hts inX3 tyX3 tyX3_ok hown (List.mem_of_getElem? (i := 4) rfl) (List.mem_of_getElem? (i := 5) rfl) (List.mem_of_getElem? (i := 6) rfl) hK hw 3 rfl (by rw [hz]; exact hadk 2) hS rfl [.null] dfX3 (Nat.le_of_ble_eq_true rfl) (Nat.le_of_ble_eq_true rfl) dX0_init_29 (fun H hz1 hw hS => ?_)
  have hz : H.size = s.heap.size + 3 := by omega
  have hw : zV D ([.inr (0, [.ref (ad 1), .int (jI 0), .int (jI 0), .null, .null, .int 0]), .inr (2, [.ref (ad 2)]), .inl (cy.1, 150, .inl (fun _ => 0)), .inr (2, [.null])] : List va_E) ad H := hw
  refine lv_dup hx hb dX0_init_32 rfl ?_
  refine lv_bipush (v := (jI ((30 : Nat) : Int))) hx hb dX0_init_33 (by decide +kernel) ?_
  refine icall (es0 := ([.inr (0, [.ref (ad 1), .int (jI 0), .int (jI 0), .null, .null, .int 0]), .inr (2, [.ref (ad 2)]), .inl (cy.1, 150, .inl (fun _ => 0))] : List va_E)) (e0 := .inr (2, [.null])) (lX := lR cy 30 (fun _ => 0)) (k := 3) (kX := 1) rfl hw (fun j => by rw [hz, show j + 1 + 3 = (j + 3) + 1 by omega, hadk]; omega) (hj 4) (va_runI (As := [.int (jI ((30 : Nat) : Int))]) (rest := [.ref (ad 3), .ref (ad 0)]) ⟨hx, hb, hml, hown, hts⟩ (c_X3_init l D cy (ad 3) H.size 30 (by decide) (by decide)) (cwI 1 hts gX0_init_X3_init rfl rfl rfl (hts (.initialized RX3) (List.mem_of_getElem? (i := 6) rfl)) (hts (.methodLink RX0 11 yX3_init) (List.mem_of_getElem? (i := 13) rfl)) (hts (.instanceMethod yX3_init) (List.mem_of_getElem? (i := 14) rfl)) rfl (by decide +kernel) ⟨(Nat.le_of_ble_eq_true rfl), (Nat.le_of_ble_eq_true rfl)⟩) (ipre zKeep_no (hw 3 _ rfl).lt hK trivial (hw 3 _ rfl)) rfl rfl hl.1 rfl (lv_room (Nat.le_of_ble_eq_true rfl)) dX0_init_35 ⟨(Nat.le_of_ble_eq_true rfl), (Nat.le_of_ble_eq_true rfl)⟩) hS (fun q h => h.elim (fun z => z ▸ hA 3) (fun z => Or.inr (Nat.le_trans hS.1 z))) (fun H locs hz1 hw hS => ?_)
  have hz : H.size = s.heap.size + 4 := by omega
  have hw : zV D ([.inr (0, [.ref (ad 1), .int (jI 0), .int (jI 0), .null, .null, .int 0]), .inr (2, [.ref (ad 2)]), .inl (cy.1, 150, .inl (fun _ => 0)), .inr (2, [.ref (ad 4)]), .inl (cy.1, 30, .inl (fun _ => 0))] : List va_E) ad H := hw
  refine vputF (es := ([.inr (0, [.ref (ad 1), .int (jI 0), .int (jI 0), .null, .null, .int 0]), .inr (2, [.ref (ad 2)]), .inl (cy.1, 150, .inl (fun _ => 0)), .inr (2, [.ref (ad 4)]), .inl (cy.1, 30, .inl (fun _ => 0))] : List va_E)) (C := RX0) (T := TX0) (N := 6) (ci := 0) (v := .ref (ad 3)) (ty := (.object "TypeTrays$Row")) hx hb hts inX0 tyX0 tyX0_ok nmX0 hown hK (by exact hj 5) hw hS 0 (hA 0) rfl rfl 3 (by decide) (List.mem_of_getElem? (i := 10) rfl) (fun _ h9 => h9) rfl hin rfl (by decide +kernel) rfl rfl (Nat.le_of_ble_eq_true rfl) dX0_init_38 (fun H locs hz1 hw hS => ?_)
  have hz : H.size = s.heap.size + 4 := by omega
  have hw : zV D ([.inr (0, [.ref (ad 1), .int (jI 0), .int (jI 0), .ref (ad 3), .null, .int 0]), .inr (2, [.ref (ad 2)]), .inl (cy.1, 150, .inl (fun _ => 0)), .inr (2, [.ref (ad 4)]), .inl (cy.1, 30, .inl (fun _ => 0))] : List va_E) ad H := hw
  refine lv_aload_n hx hb dX0_init_41 rfl (lv_at hl 0 rfl) ?_
  refine vnew (es := ([.inr (0, [.ref (ad 1), .int (jI 0), .int (jI 0), .ref (ad 3), .null, .int 0]), .inr (2, [.ref (ad 2)]), .inl (cy.1, 150, .inl (fun _ => 0)), .inr (2, [.ref (ad 4)]), .inl (cy.1, 30, .inl (fun _ => 0))] : List va_E)) (C := RX3) (T := TX3) (N := 1) (ci := 2) hx hb hts inX3 tyX3 tyX3_ok hown (List.mem_of_getElem? (i := 4) rfl) (List.mem_of_getElem? (i := 5) rfl) (List.mem_of_getElem? (i := 6) rfl) hK hw 5 rfl (by rw [hz]; exact hadk 4) hS rfl [.null] dfX3 (Nat.le_of_ble_eq_true rfl) (Nat.le_of_ble_eq_true rfl) dX0_init_42 (fun H hz1 hw hS => ?_)
  have hz : H.size = s.heap.size + 5 := by omega
  have hw : zV D ([.inr (0, [.ref (ad 1), .int (jI 0), .int (jI 0), .ref (ad 3), .null, .int 0]), .inr (2, [.ref (ad 2)]), .inl (cy.1, 150, .inl (fun _ => 0)), .inr (2, [.ref (ad 4)]), .inl (cy.1, 30, .inl (fun _ => 0)), .inr (2, [.null])] : List va_E) ad H := hw
  refine lv_dup hx hb dX0_init_45 rfl ?_
  refine lv_bipush (v := (jI ((90 : Nat) : Int))) hx hb dX0_init_46 (by decide +kernel) ?_
  refine icall (es0 := ([.inr (0, [.ref (ad 1), .int (jI 0), .int (jI 0), .ref (ad 3), .null, .int 0]), .inr (2, [.ref (ad 2)]), .inl (cy.1, 150, .inl (fun _ => 0)), .inr (2, [.ref (ad 4)]), .inl (cy.1, 30, .inl (fun _ => 0))] : List va_E)) (e0 := .inr (2, [.null])) (lX := lR cy 90 (fun _ => 0)) (k := 5) (kX := 1) rfl hw (fun j => by rw [hz, show j + 1 + 5 = (j + 5) + 1 by omega, hadk]; omega) (hj 6) (va_runI (As := [.int (jI ((90 : Nat) : Int))]) (rest := [.ref (ad 5), .ref (ad 0)]) ⟨hx, hb, hml, hown, hts⟩ (c_X3_init l D cy (ad 5) H.size 90 (by decide) (by decide)) (cwI 1 hts gX0_init_X3_init rfl rfl rfl (hts (.initialized RX3) (List.mem_of_getElem? (i := 6) rfl)) (hts (.methodLink RX0 11 yX3_init) (List.mem_of_getElem? (i := 13) rfl)) (hts (.instanceMethod yX3_init) (List.mem_of_getElem? (i := 14) rfl)) rfl (by decide +kernel) ⟨(Nat.le_of_ble_eq_true rfl), (Nat.le_of_ble_eq_true rfl)⟩) (ipre zKeep_no (hw 5 _ rfl).lt hK trivial (hw 5 _ rfl)) rfl rfl hl.1 rfl (lv_room (Nat.le_of_ble_eq_true rfl)) dX0_init_48 ⟨(Nat.le_of_ble_eq_true rfl), (Nat.le_of_ble_eq_true rfl)⟩) hS (fun q h => h.elim (fun z => z ▸ hA 5) (fun z => Or.inr (Nat.le_trans hS.1 z))) (fun H locs hz1 hw hS => ?_)
  have hz : H.size = s.heap.size + 6 := by omega
  have hw : zV D ([.inr (0, [.ref (ad 1), .int (jI 0), .int (jI 0), .ref (ad 3), .null, .int 0]), .inr (2, [.ref (ad 2)]), .inl (cy.1, 150, .inl (fun _ => 0)), .inr (2, [.ref (ad 4)]), .inl (cy.1, 30, .inl (fun _ => 0)), .inr (2, [.ref (ad 6)]), .inl (cy.1, 90, .inl (fun _ => 0))] : List va_E) ad H := hw
  refine vputF (es := ([.inr (0, [.ref (ad 1), .int (jI 0), .int (jI 0), .ref (ad 3), .null, .int 0]), .inr (2, [.ref (ad 2)]), .inl (cy.1, 150, .inl (fun _ => 0)), .inr (2, [.ref (ad 4)]), .inl (cy.1, 30, .inl (fun _ => 0)), .inr (2, [.ref (ad 6)]), .inl (cy.1, 90, .inl (fun _ => 0))] : List va_E)) (C := RX0) (T := TX0) (N := 6) (ci := 0) (v := .ref (ad 5)) (ty := (.object "TypeTrays$Row")) hx hb hts inX0 tyX0 tyX0_ok nmX0 hown hK (by exact hj 7) hw hS 0 (hA 0) rfl rfl 4 (by decide) (List.mem_of_getElem? (i := 11) rfl) (fun _ h9 => h9) rfl hin rfl (by decide +kernel) rfl rfl (Nat.le_of_ble_eq_true rfl) dX0_init_51 (fun H locs hz1 hw hS => ?_)
  have hz : H.size = s.heap.size + 6 := by omega
  have hw : zV D ([.inr (0, [.ref (ad 1), .int (jI 0), .int (jI 0), .ref (ad 3), .ref (ad 5), .int 0]), .inr (2, [.ref (ad 2)]), .inl (cy.1, 150, .inl (fun _ => 0)), .inr (2, [.ref (ad 4)]), .inl (cy.1, 30, .inl (fun _ => 0)), .inr (2, [.ref (ad 6)]), .inl (cy.1, 90, .inl (fun _ => 0))] : List va_E) ad H := hw
  refine lv_aload_n hx hb dX0_init_54 rfl (lv_at hl 0 rfl) ?_
  refine lv_iconst (v := (jI 0)) hx hb dX0_init_55 (by decide +kernel) ?_
  refine vput (es := ([.inr (0, [.ref (ad 1), .int (jI 0), .int (jI 0), .ref (ad 3), .ref (ad 5), .int 0]), .inr (2, [.ref (ad 2)]), .inl (cy.1, 150, .inl (fun _ => 0)), .inr (2, [.ref (ad 4)]), .inl (cy.1, 30, .inl (fun _ => 0)), .inr (2, [.ref (ad 6)]), .inl (cy.1, 90, .inl (fun _ => 0))] : List va_E)) (C := RX0) (T := TX0) (N := 6) (ci := 0) (v := .int (jI 0)) (ty := .int) hx hb hts inX0 tyX0 tyX0_ok nmX0 hown hK (by exact hj 7) hw hS 0 (hA 0) rfl rfl 5 (by decide) (List.mem_of_getElem? (i := 12) rfl) (fun _ h9 => h9) rfl (by decide +kernel) rfl rfl (Nat.le_of_ble_eq_true rfl) dX0_init_56 (fun H locs hz1 hw hS => ?_)
  have hz : H.size = s.heap.size + 6 := by omega
  have hw : zV D ([.inr (0, [.ref (ad 1), .int (jI 0), .int (jI 0), .ref (ad 3), .ref (ad 5), .int (jI 0)]), .inr (2, [.ref (ad 2)]), .inl (cy.1, 150, .inl (fun _ => 0)), .inr (2, [.ref (ad 4)]), .inl (cy.1, 30, .inl (fun _ => 0)), .inr (2, [.ref (ad 6)]), .inl (cy.1, 90, .inl (fun _ => 0))] : List va_E) ad H := hw
  refine W.widen (k := 6) (n := 273) (Nat.le_of_ble_eq_true rfl) (Nat.le_of_ble_eq_true rfl) ?_
  exact W.vret hx hb hr (fun t ht hW => ⟨⟨(), rfl, trivial, by rw [ht, hz], by rw [ht, had]; exact hw⟩, hS.F ht⟩) hS.2.2 dX0_init_59
def lU (cy : cyT) (ad : Nat → Nat) : List va_E := ([.inr (4, [.ref (ad 1), .int (jI 0), .int (jI 0)]), .inl (cy.2.2, 4, .inr (.inr (.inr (.inr (va_up (va_up (va_up (va_up (fun _ => none) 0 (some (ad 2))) 1 (some (ad 23))) 2 (some (ad 44))) 3 (some (ad 65)))))))] ++ lS cy (fun j => ad (j + 2)) ++ lS cy (fun j => ad (j + 23)) ++ lS cy (fun j => ad (j + 44)) ++ lS cy (fun j => ad (j + 65)) : List va_E)
set_option maxHeartbeats 4000000 in
set_option maxRecDepth 100000 in
theorem c_X5_init (l : Launch) (D : va_G) (cy : cyT) (b sz : Nat) : Met l yX5_init wsX5_init ({ frames := 3, cells := 85, slots := 4564, locals := 53 } : Room) (iPre D cy zAO b sz 4 [.null, .int 0, .int 0] []) (iQ D 85 (lU cy) b sz) 85 4564 (zAb b sz) := by
  refine Met.ofW (cc := cX5_init) (maxL := 2) (ret := none) (by decide) rfl ?_
  intro p e s m args below meth c s₁ B hml hv
  obtain ⟨rfl, hsz, hbs, hK, hkK, hat⟩ := hv
  have hx := B.exec
  have hb := B.bytes
  have hr := B.returns
  have hts := atoms_spec (ws := wsX5_init) B.pre
  have hown : s.vm.findClass RX5 = some m.cls := findClass_of_methodNamed B.named
  have hlocks := B.notSynchronized
  have hin : meth.name = "<init>" := (name_of_methodNamed B.named B.method).1
  have inX5 : ∀ w ∈ u_ws RX5 TX5 3, w ∈ wsX5_init := zin_at 45 rfl
  have inX4 : ∀ w ∈ u_ws RX4 TX4 18, w ∈ wsX5_init := zin_at 48 rfl
  subst hsz
  have hS : va_S (zAb b s.heap.size) s.heap s.heap [] := va_S.rf
  have hA0 : ∀ i, zAb b s.heap.size (adB b s.heap.size i) := fun i => by cases i with | zero => exact Or.inl rfl | succ i => exact Or.inr (Nat.le_add_right _ _)
  have hj0 : ∀ n, zI n (adB b s.heap.size) := adB_inj hbs
  have hadk0 : ∀ k, adB b s.heap.size (k + 1) = s.heap.size + k := fun _ => rfl
  have hb0 : b = adB b s.heap.size 0 := rfl
  generalize had : adB b s.heap.size = ad at hA0 hj0 hadk0 hb0
  have hA := hA0
  have hj := hj0
  have hadk := hadk0
  obtain ⟨H, hH0⟩ : ∃ H, H = s.heap := ⟨_, rfl⟩
  rw [← hH0] at hat
  have hz : H.size = s.heap.size + 0 := by rw [hH0]; rfl
  have hw : zV D [.inr (4, [.null, .int 0, .int 0])] ad H := fun i x hx9 => by
    have hi := (List.getElem?_eq_some_iff.mp hx9).1
    have e0 : i = 0 := by simp at hi; omega
    subst e0
    cases hx9
    show va_at D vwCl (ad 0, _) H
    rw [← hb0]
    exact hat
  have hl := lv_entry ([.ref b]) (n := 2) (Nat.le_of_ble_eq_true rfl)
  rw [lg_entry_eq]
  generalize (lg_sl ([.ref b]) ++ List.replicate (2 - (lg_sl ([.ref b])).length) Slot.unset).toArray = ls at hl ⊢
  have hl : lv_has ls 2 [(0, .ref b)] := hl
  have hl : lv_has ls 2 [(0, .ref (ad 0))] := by rw [← hb0]; exact hl
  show W p l e ({ frames := 3, cells := 85, slots := 4564, locals := 53 } : Room) s m ([.ref b] : List Value).toArray below meth c s.heap [] 0 0 (MQ below (iQ D 85 (lU cy) b s.heap.size) ([.ref b] : List Value).toArray s 85 4564 (zAb b s.heap.size)) (F0 m 0 ls [])
  have hS : va_S (zAb b s.heap.size) s.heap H [] := by rw [hH0]; exact hS
  suffices hG9 : W p l e ({ frames := 3, cells := 85, slots := 4564, locals := 53 } : Room) s m ([.ref b] : List Value).toArray below meth c H [] 0 0 (MQ below (iQ D 85 (lU cy) b s.heap.size) ([.ref b] : List Value).toArray s 85 4564 (zAb b s.heap.size)) (F0 m 0 ls []) by
    rw [hH0] at hG9
    exact hG9
  refine lv_aload_n hx hb dX5_init_0 rfl (lv_at hl 0 rfl) ?_
  refine W.objInit hx hb hown (hts (.methodLink RX5 3 objectInit) (List.mem_of_getElem? (i := 1) rfl)) (hts (.instanceMethod objectInit) (List.mem_of_getElem? (i := 2) rfl)) (hts (.code objectInit ⟨#[0xb1]⟩ 1 none) (List.mem_of_getElem? (i := 3) rfl)) rfl (by rw [hml]; exact hl.1) rfl dX5_init_1 (Nat.le_of_ble_eq_true rfl) (Nat.le_of_ble_eq_true rfl) ?_
  refine W.eq (g2 := F0 m 4 ls []) rfl ?_
  refine lv_aload_n hx hb dX5_init_4 rfl (lv_at hl 0 rfl) ?_
  refine lv_iconst (v := (jI 4)) hx hb dX5_init_5 (by decide +kernel) ?_
  refine vnewq (es := ([.inr (4, [.null, .int 0, .int 0])] : List va_E)) hx hb hts hown (List.mem_of_getElem? (i := 4) rfl) hkK hK hw 1 rfl (by rw [hz]; exact hadk 0) hS 4 (by decide +kernel) (by decide +kernel) (by decide) (Nat.le_of_ble_eq_true rfl) (Nat.le_of_ble_eq_true rfl) dX5_init_6 (fun H hz1 hw hS => ?_)
  have hz : H.size = s.heap.size + 1 := by omega
  have hw : zV D ([.inr (4, [.null, .int 0, .int 0]), .inl (cy.2.2, 4, .inr (.inr (.inr (.inr (fun _ => none)))))] : List va_E) ad H := hw
  refine vputF (es := ([.inr (4, [.null, .int 0, .int 0]), .inl (cy.2.2, 4, .inr (.inr (.inr (.inr (fun _ => none)))))] : List va_E)) (C := RX5) (T := TX5) (N := 3) (ci := 4) (v := .ref (ad 1)) (ty := (.array (.object "TypeTrays$State"))) hx hb hts inX5 tyX5 tyX5_ok nmX5 hown hK (by exact hj 2) hw hS 0 (hA 0) rfl rfl 0 (by decide) (List.mem_of_getElem? (i := 5) rfl) (fun _ h9 => h9) rfl hin rfl (by decide +kernel) rfl rfl (Nat.le_of_ble_eq_true rfl) dX5_init_9 (fun H locs hz1 hw hS => ?_)
  have hz : H.size = s.heap.size + 1 := by omega
  have hw : zV D ([.inr (4, [.ref (ad 1), .int 0, .int 0]), .inl (cy.2.2, 4, .inr (.inr (.inr (.inr (fun _ => none)))))] : List va_E) ad H := hw
  refine lv_aload_n hx hb dX5_init_12 rfl (lv_at hl 0 rfl) ?_
  refine lv_iconst (v := (jI 0)) hx hb dX5_init_13 (by decide +kernel) ?_
  refine vput (es := ([.inr (4, [.ref (ad 1), .int 0, .int 0]), .inl (cy.2.2, 4, .inr (.inr (.inr (.inr (fun _ => none)))))] : List va_E)) (C := RX5) (T := TX5) (N := 3) (ci := 4) (v := .int (jI 0)) (ty := .int) hx hb hts inX5 tyX5 tyX5_ok nmX5 hown hK (by exact hj 2) hw hS 0 (hA 0) rfl rfl 1 (by decide) (List.mem_of_getElem? (i := 6) rfl) (fun _ h9 => h9) rfl (by decide +kernel) rfl rfl (Nat.le_of_ble_eq_true rfl) dX5_init_14 (fun H locs hz1 hw hS => ?_)
  have hz : H.size = s.heap.size + 1 := by omega
  have hw : zV D ([.inr (4, [.ref (ad 1), .int (jI 0), .int 0]), .inl (cy.2.2, 4, .inr (.inr (.inr (.inr (fun _ => none)))))] : List va_E) ad H := hw
  refine lv_aload_n hx hb dX5_init_17 rfl (lv_at hl 0 rfl) ?_
  refine lv_iconst (v := (jI 0)) hx hb dX5_init_18 (by decide +kernel) ?_
  refine vput (es := ([.inr (4, [.ref (ad 1), .int (jI 0), .int 0]), .inl (cy.2.2, 4, .inr (.inr (.inr (.inr (fun _ => none)))))] : List va_E)) (C := RX5) (T := TX5) (N := 3) (ci := 4) (v := .int (jI 0)) (ty := .int) hx hb hts inX5 tyX5 tyX5_ok nmX5 hown hK (by exact hj 2) hw hS 0 (hA 0) rfl rfl 2 (by decide) (List.mem_of_getElem? (i := 7) rfl) (fun _ h9 => h9) rfl (by decide +kernel) rfl rfl (Nat.le_of_ble_eq_true rfl) dX5_init_19 (fun H locs hz1 hw hS => ?_)
  have hz : H.size = s.heap.size + 1 := by omega
  have hw : zV D ([.inr (4, [.ref (ad 1), .int (jI 0), .int (jI 0)]), .inl (cy.2.2, 4, .inr (.inr (.inr (.inr (fun _ => none)))))] : List va_E) ad H := hw
  refine lv_iconst (v := (jI 0)) hx hb dX5_init_22 (by decide +kernel) ?_
  refine lv_istore_n (lv' := [(1, .int (jI 0)), (0, .ref (ad 0))]) hx hb dX5_init_23 rfl hl (by decide) rfl (fun ls hl => ?_)
  refine lv_iload_n hx hb dX5_init_24 rfl (lv_at hl 0 rfl) ?_
  refine lv_aload_n hx hb dX5_init_25 rfl (lv_at hl 1 rfl) ?_
  refine vget (es := ([.inr (4, [.ref (ad 1), .int (jI 0), .int (jI 0)]), .inl (cy.2.2, 4, .inr (.inr (.inr (.inr (fun _ => none)))))] : List va_E)) hx hb hts inX5 hown hK hw 0 rfl rfl 0 (by decide) (List.mem_of_getElem? (i := 5) rfl) (fun _ h9 => h9) rfl dX5_init_26 ?_
  refine valen (es := ([.inr (4, [.ref (ad 1), .int (jI 0), .int (jI 0)]), .inl (cy.2.2, 4, .inr (.inr (.inr (.inr (fun _ => none)))))] : List va_E)) (t0 := 2) (v := (jI 4)) hx hb hK hw 1 rfl rfl (by exact (by decide +kernel : Int32.ofNat 4 = (jI 4))) dX5_init_29 ?_
  refine lv_icmp_ge (tgt := 52) hx hb dX5_init_30 (by decide) (fun c9 => absurd c9 (by decide +kernel)) (fun _ => ?_)
  refine lv_aload_n hx hb dX5_init_33 rfl (lv_at hl 1 rfl) ?_
  refine vget (es := ([.inr (4, [.ref (ad 1), .int (jI 0), .int (jI 0)]), .inl (cy.2.2, 4, .inr (.inr (.inr (.inr (fun _ => none)))))] : List va_E)) hx hb hts inX5 hown hK hw 0 rfl rfl 0 (by decide) (List.mem_of_getElem? (i := 5) rfl) (fun _ h9 => h9) rfl dX5_init_34 ?_
  refine lv_iload_n hx hb dX5_init_37 rfl (lv_at hl 0 rfl) ?_
  refine vnew (es := ([.inr (4, [.ref (ad 1), .int (jI 0), .int (jI 0)]), .inl (cy.2.2, 4, .inr (.inr (.inr (.inr (fun _ => none)))))] : List va_E)) (C := RX4) (T := TX4) (N := 18) (ci := 3) hx hb hts inX4 tyX4 tyX4_ok hown (List.mem_of_getElem? (i := 4) rfl) (List.mem_of_getElem? (i := 8) rfl) (List.mem_of_getElem? (i := 9) rfl) hK hw 2 rfl (by rw [hz]; exact hadk 1) hS rfl [.null, .null, .null, .null, .null, .null, .null, .null, .null, .null, .int 0, .int 0, .int 0, .int 0, .int 0, .int 0, .int 0, .int 0] dfX4 (Nat.le_of_ble_eq_true rfl) (Nat.le_of_ble_eq_true rfl) dX5_init_38 (fun H hz1 hw hS => ?_)
  have hz : H.size = s.heap.size + 2 := by omega
  have hw : zV D ([.inr (4, [.ref (ad 1), .int (jI 0), .int (jI 0)]), .inl (cy.2.2, 4, .inr (.inr (.inr (.inr (fun _ => none))))), .inr (3, [.null, .null, .null, .null, .null, .null, .null, .null, .null, .null, .int 0, .int 0, .int 0, .int 0, .int 0, .int 0, .int 0, .int 0])] : List va_E) ad H := hw
  refine lv_dup hx hb dX5_init_41 rfl ?_
  refine icall (es0 := ([.inr (4, [.ref (ad 1), .int (jI 0), .int (jI 0)]), .inl (cy.2.2, 4, .inr (.inr (.inr (.inr (fun _ => none)))))] : List va_E)) (e0 := .inr (3, [.null, .null, .null, .null, .null, .null, .null, .null, .null, .null, .int 0, .int 0, .int 0, .int 0, .int 0, .int 0, .int 0, .int 0])) (lX := lS cy) (k := 2) (kX := 20) rfl hw (fun j => by rw [hz, show j + 1 + 2 = (j + 2) + 1 by omega, hadk]; omega) (hj 3) (va_runI (As := []) (rest := [.ref (ad 2), .int (jI 0), .ref (ad 1)]) ⟨hx, hb, hml, hown, hts⟩ (c_X4_init l D cy (ad 2) H.size) (cwI 0 hts gX5_init_X4_init rfl rfl rfl (hts (.initialized RX4) (List.mem_of_getElem? (i := 9) rfl)) (hts (.methodLink RX5 24 yX4_init) (List.mem_of_getElem? (i := 10) rfl)) (hts (.instanceMethod yX4_init) (List.mem_of_getElem? (i := 11) rfl)) rfl (by decide +kernel) ⟨(Nat.le_of_ble_eq_true rfl), (Nat.le_of_ble_eq_true rfl)⟩) (ipre zKeep_no (hw 2 _ rfl).lt hK trivial (hw 2 _ rfl)) rfl rfl hl.1 rfl (lv_room (Nat.le_of_ble_eq_true rfl)) dX5_init_42 ⟨(Nat.le_of_ble_eq_true rfl), (Nat.le_of_ble_eq_true rfl)⟩) hS (fun q h => h.elim (fun z => z ▸ hA 2) (fun z => Or.inr (Nat.le_trans hS.1 z))) (fun H locs hz1 hw hS => ?_)
  have hz : H.size = s.heap.size + 22 := by omega
  have hw : zV D ([.inr (4, [.ref (ad 1), .int (jI 0), .int (jI 0)]), .inl (cy.2.2, 4, .inr (.inr (.inr (.inr (fun _ => none)))))] ++ lS cy (fun j => ad (j + 2)) : List va_E) ad H := hw
  refine vaast (es := ([.inr (4, [.ref (ad 1), .int (jI 0), .int (jI 0)]), .inl (cy.2.2, 4, .inr (.inr (.inr (.inr (fun _ => none)))))] ++ lS cy (fun j => ad (j + 2)) : List va_E)) hx hb hK (by exact hj 23) hw hS 1 (hA 1) rfl (jI_in (a := 0) (by decide) (by decide) (by decide)) 2 rfl dX5_init_45 (fun H locs hz1 hw hS => ?_)
  have hz : H.size = s.heap.size + 22 := by omega
  rw [show (jI 0).toNatClampNeg = 0 from by decide +kernel] at hw
  have hw : zV D ([.inr (4, [.ref (ad 1), .int (jI 0), .int (jI 0)]), .inl (cy.2.2, 4, .inr (.inr (.inr (.inr (va_up (fun _ => none) 0 (some (ad 2)))))))] ++ lS cy (fun j => ad (j + 2)) : List va_E) ad H := hw
  refine lv_iinc (v := (jI 1)) (lv' := [(1, .int (jI 1)), (0, .ref (ad 0))]) hx hb dX5_init_46 hl (k := 0) rfl (by decide +kernel) (by decide) rfl (fun ls hl => ?_)
  refine lv_goto (tgt := 24) hx hb dX5_init_49 (by decide) ?_
  refine lv_iload_n hx hb dX5_init_24 rfl (lv_at hl 0 rfl) ?_
  refine lv_aload_n hx hb dX5_init_25 rfl (lv_at hl 1 rfl) ?_
  refine vget (es := ([.inr (4, [.ref (ad 1), .int (jI 0), .int (jI 0)]), .inl (cy.2.2, 4, .inr (.inr (.inr (.inr (va_up (fun _ => none) 0 (some (ad 2)))))))] ++ lS cy (fun j => ad (j + 2)) : List va_E)) hx hb hts inX5 hown hK hw 0 rfl rfl 0 (by decide) (List.mem_of_getElem? (i := 5) rfl) (fun _ h9 => h9) rfl dX5_init_26 ?_
  refine valen (es := ([.inr (4, [.ref (ad 1), .int (jI 0), .int (jI 0)]), .inl (cy.2.2, 4, .inr (.inr (.inr (.inr (va_up (fun _ => none) 0 (some (ad 2)))))))] ++ lS cy (fun j => ad (j + 2)) : List va_E)) (t0 := 2) (v := (jI 4)) hx hb hK hw 1 rfl rfl (by exact (by decide +kernel : Int32.ofNat 4 = (jI 4))) dX5_init_29 ?_
  refine lv_icmp_ge (tgt := 52) hx hb dX5_init_30 (by decide) (fun c9 => absurd c9 (by decide +kernel)) (fun _ => ?_)
  refine lv_aload_n hx hb dX5_init_33 rfl (lv_at hl 1 rfl) ?_
  refine vget (es := ([.inr (4, [.ref (ad 1), .int (jI 0), .int (jI 0)]), .inl (cy.2.2, 4, .inr (.inr (.inr (.inr (va_up (fun _ => none) 0 (some (ad 2)))))))] ++ lS cy (fun j => ad (j + 2)) : List va_E)) hx hb hts inX5 hown hK hw 0 rfl rfl 0 (by decide) (List.mem_of_getElem? (i := 5) rfl) (fun _ h9 => h9) rfl dX5_init_34 ?_
  refine lv_iload_n hx hb dX5_init_37 rfl (lv_at hl 0 rfl) ?_
  refine vnew (es := ([.inr (4, [.ref (ad 1), .int (jI 0), .int (jI 0)]), .inl (cy.2.2, 4, .inr (.inr (.inr (.inr (va_up (fun _ => none) 0 (some (ad 2)))))))] ++ lS cy (fun j => ad (j + 2)) : List va_E)) (C := RX4) (T := TX4) (N := 18) (ci := 3) hx hb hts inX4 tyX4 tyX4_ok hown (List.mem_of_getElem? (i := 4) rfl) (List.mem_of_getElem? (i := 8) rfl) (List.mem_of_getElem? (i := 9) rfl) hK hw 23 rfl (by rw [hz]; exact hadk 22) hS rfl [.null, .null, .null, .null, .null, .null, .null, .null, .null, .null, .int 0, .int 0, .int 0, .int 0, .int 0, .int 0, .int 0, .int 0] dfX4 (Nat.le_of_ble_eq_true rfl) (Nat.le_of_ble_eq_true rfl) dX5_init_38 (fun H hz1 hw hS => ?_)
  have hz : H.size = s.heap.size + 23 := by omega
  have hw : zV D ([.inr (4, [.ref (ad 1), .int (jI 0), .int (jI 0)]), .inl (cy.2.2, 4, .inr (.inr (.inr (.inr (va_up (fun _ => none) 0 (some (ad 2)))))))] ++ lS cy (fun j => ad (j + 2)) ++ [.inr (3, [.null, .null, .null, .null, .null, .null, .null, .null, .null, .null, .int 0, .int 0, .int 0, .int 0, .int 0, .int 0, .int 0, .int 0])] : List va_E) ad H := hw
  refine lv_dup hx hb dX5_init_41 rfl ?_
  refine icall (es0 := ([.inr (4, [.ref (ad 1), .int (jI 0), .int (jI 0)]), .inl (cy.2.2, 4, .inr (.inr (.inr (.inr (va_up (fun _ => none) 0 (some (ad 2)))))))] ++ lS cy (fun j => ad (j + 2)) : List va_E)) (e0 := .inr (3, [.null, .null, .null, .null, .null, .null, .null, .null, .null, .null, .int 0, .int 0, .int 0, .int 0, .int 0, .int 0, .int 0, .int 0])) (lX := lS cy) (k := 23) (kX := 20) rfl hw (fun j => by rw [hz, show j + 1 + 23 = (j + 23) + 1 by omega, hadk]; omega) (hj 24) (va_runI (As := []) (rest := [.ref (ad 23), .int (jI 1), .ref (ad 1)]) ⟨hx, hb, hml, hown, hts⟩ (c_X4_init l D cy (ad 23) H.size) (cwI 0 hts gX5_init_X4_init rfl rfl rfl (hts (.initialized RX4) (List.mem_of_getElem? (i := 9) rfl)) (hts (.methodLink RX5 24 yX4_init) (List.mem_of_getElem? (i := 10) rfl)) (hts (.instanceMethod yX4_init) (List.mem_of_getElem? (i := 11) rfl)) rfl (by decide +kernel) ⟨(Nat.le_of_ble_eq_true rfl), (Nat.le_of_ble_eq_true rfl)⟩) (ipre zKeep_no (hw 23 _ rfl).lt hK trivial (hw 23 _ rfl)) rfl rfl hl.1 rfl (lv_room (Nat.le_of_ble_eq_true rfl)) dX5_init_42 ⟨(Nat.le_of_ble_eq_true rfl), (Nat.le_of_ble_eq_true rfl)⟩) hS (fun q h => h.elim (fun z => z ▸ hA 23) (fun z => Or.inr (Nat.le_trans hS.1 z))) (fun H locs hz1 hw hS => ?_)
  have hz : H.size = s.heap.size + 43 := by omega
  have hw : zV D ([.inr (4, [.ref (ad 1), .int (jI 0), .int (jI 0)]), .inl (cy.2.2, 4, .inr (.inr (.inr (.inr (va_up (fun _ => none) 0 (some (ad 2)))))))] ++ lS cy (fun j => ad (j + 2)) ++ lS cy (fun j => ad (j + 23)) : List va_E) ad H := hw
  refine vaast (es := ([.inr (4, [.ref (ad 1), .int (jI 0), .int (jI 0)]), .inl (cy.2.2, 4, .inr (.inr (.inr (.inr (va_up (fun _ => none) 0 (some (ad 2)))))))] ++ lS cy (fun j => ad (j + 2)) ++ lS cy (fun j => ad (j + 23)) : List va_E)) hx hb hK (by exact hj 44) hw hS 1 (hA 1) rfl (jI_in (a := 1) (by decide) (by decide) (by decide)) 23 rfl dX5_init_45 (fun H locs hz1 hw hS => ?_)
  have hz : H.size = s.heap.size + 43 := by omega
  rw [show (jI 1).toNatClampNeg = 1 from by decide +kernel] at hw
  have hw : zV D ([.inr (4, [.ref (ad 1), .int (jI 0), .int (jI 0)]), .inl (cy.2.2, 4, .inr (.inr (.inr (.inr (va_up (va_up (fun _ => none) 0 (some (ad 2))) 1 (some (ad 23)))))))] ++ lS cy (fun j => ad (j + 2)) ++ lS cy (fun j => ad (j + 23)) : List va_E) ad H := hw
  refine lv_iinc (v := (jI 2)) (lv' := [(1, .int (jI 2)), (0, .ref (ad 0))]) hx hb dX5_init_46 hl (k := 0) rfl (by decide +kernel) (by decide) rfl (fun ls hl => ?_)
  refine lv_goto (tgt := 24) hx hb dX5_init_49 (by decide) ?_
  refine lv_iload_n hx hb dX5_init_24 rfl (lv_at hl 0 rfl) ?_
  refine lv_aload_n hx hb dX5_init_25 rfl (lv_at hl 1 rfl) ?_
  refine vget (es := ([.inr (4, [.ref (ad 1), .int (jI 0), .int (jI 0)]), .inl (cy.2.2, 4, .inr (.inr (.inr (.inr (va_up (va_up (fun _ => none) 0 (some (ad 2))) 1 (some (ad 23)))))))] ++ lS cy (fun j => ad (j + 2)) ++ lS cy (fun j => ad (j + 23)) : List va_E)) hx hb hts inX5 hown hK hw 0 rfl rfl 0 (by decide) (List.mem_of_getElem? (i := 5) rfl) (fun _ h9 => h9) rfl dX5_init_26 ?_
  refine valen (es := ([.inr (4, [.ref (ad 1), .int (jI 0), .int (jI 0)]), .inl (cy.2.2, 4, .inr (.inr (.inr (.inr (va_up (va_up (fun _ => none) 0 (some (ad 2))) 1 (some (ad 23)))))))] ++ lS cy (fun j => ad (j + 2)) ++ lS cy (fun j => ad (j + 23)) : List va_E)) (t0 := 2) (v := (jI 4)) hx hb hK hw 1 rfl rfl (by exact (by decide +kernel : Int32.ofNat 4 = (jI 4))) dX5_init_29 ?_
  refine lv_icmp_ge (tgt := 52) hx hb dX5_init_30 (by decide) (fun c9 => absurd c9 (by decide +kernel)) (fun _ => ?_)
  refine lv_aload_n hx hb dX5_init_33 rfl (lv_at hl 1 rfl) ?_
  refine vget (es := ([.inr (4, [.ref (ad 1), .int (jI 0), .int (jI 0)]), .inl (cy.2.2, 4, .inr (.inr (.inr (.inr (va_up (va_up (fun _ => none) 0 (some (ad 2))) 1 (some (ad 23)))))))] ++ lS cy (fun j => ad (j + 2)) ++ lS cy (fun j => ad (j + 23)) : List va_E)) hx hb hts inX5 hown hK hw 0 rfl rfl 0 (by decide) (List.mem_of_getElem? (i := 5) rfl) (fun _ h9 => h9) rfl dX5_init_34 ?_
  refine lv_iload_n hx hb dX5_init_37 rfl (lv_at hl 0 rfl) ?_
  refine vnew (es := ([.inr (4, [.ref (ad 1), .int (jI 0), .int (jI 0)]), .inl (cy.2.2, 4, .inr (.inr (.inr (.inr (va_up (va_up (fun _ => none) 0 (some (ad 2))) 1 (some (ad 23)))))))] ++ lS cy (fun j => ad (j + 2)) ++ lS cy (fun j => ad (j + 23)) : List va_E)) (C := RX4) (T := TX4) (N := 18) (ci := 3) hx hb hts inX4 tyX4 tyX4_ok hown (List.mem_of_getElem? (i := 4) rfl) (List.mem_of_getElem? (i := 8) rfl) (List.mem_of_getElem? (i := 9) rfl) hK hw 44 rfl (by rw [hz]; exact hadk 43) hS rfl [.null, .null, .null, .null, .null, .null, .null, .null, .null, .null, .int 0, .int 0, .int 0, .int 0, .int 0, .int 0, .int 0, .int 0] dfX4 (Nat.le_of_ble_eq_true rfl) (Nat.le_of_ble_eq_true rfl) dX5_init_38 (fun H hz1 hw hS => ?_)
  have hz : H.size = s.heap.size + 44 := by omega
  have hw : zV D ([.inr (4, [.ref (ad 1), .int (jI 0), .int (jI 0)]), .inl (cy.2.2, 4, .inr (.inr (.inr (.inr (va_up (va_up (fun _ => none) 0 (some (ad 2))) 1 (some (ad 23)))))))] ++ lS cy (fun j => ad (j + 2)) ++ lS cy (fun j => ad (j + 23)) ++ [.inr (3, [.null, .null, .null, .null, .null, .null, .null, .null, .null, .null, .int 0, .int 0, .int 0, .int 0, .int 0, .int 0, .int 0, .int 0])] : List va_E) ad H := hw
  refine lv_dup hx hb dX5_init_41 rfl ?_
  refine icall (es0 := ([.inr (4, [.ref (ad 1), .int (jI 0), .int (jI 0)]), .inl (cy.2.2, 4, .inr (.inr (.inr (.inr (va_up (va_up (fun _ => none) 0 (some (ad 2))) 1 (some (ad 23)))))))] ++ lS cy (fun j => ad (j + 2)) ++ lS cy (fun j => ad (j + 23)) : List va_E)) (e0 := .inr (3, [.null, .null, .null, .null, .null, .null, .null, .null, .null, .null, .int 0, .int 0, .int 0, .int 0, .int 0, .int 0, .int 0, .int 0])) (lX := lS cy) (k := 44) (kX := 20) rfl hw (fun j => by rw [hz, show j + 1 + 44 = (j + 44) + 1 by omega, hadk]; omega) (hj 45) (va_runI (As := []) (rest := [.ref (ad 44), .int (jI 2), .ref (ad 1)]) ⟨hx, hb, hml, hown, hts⟩ (c_X4_init l D cy (ad 44) H.size) (cwI 0 hts gX5_init_X4_init rfl rfl rfl (hts (.initialized RX4) (List.mem_of_getElem? (i := 9) rfl)) (hts (.methodLink RX5 24 yX4_init) (List.mem_of_getElem? (i := 10) rfl)) (hts (.instanceMethod yX4_init) (List.mem_of_getElem? (i := 11) rfl)) rfl (by decide +kernel) ⟨(Nat.le_of_ble_eq_true rfl), (Nat.le_of_ble_eq_true rfl)⟩) (ipre zKeep_no (hw 44 _ rfl).lt hK trivial (hw 44 _ rfl)) rfl rfl hl.1 rfl (lv_room (Nat.le_of_ble_eq_true rfl)) dX5_init_42 ⟨(Nat.le_of_ble_eq_true rfl), (Nat.le_of_ble_eq_true rfl)⟩) hS (fun q h => h.elim (fun z => z ▸ hA 44) (fun z => Or.inr (Nat.le_trans hS.1 z))) (fun H locs hz1 hw hS => ?_)
  have hz : H.size = s.heap.size + 64 := by omega
  have hw : zV D ([.inr (4, [.ref (ad 1), .int (jI 0), .int (jI 0)]), .inl (cy.2.2, 4, .inr (.inr (.inr (.inr (va_up (va_up (fun _ => none) 0 (some (ad 2))) 1 (some (ad 23)))))))] ++ lS cy (fun j => ad (j + 2)) ++ lS cy (fun j => ad (j + 23)) ++ lS cy (fun j => ad (j + 44)) : List va_E) ad H := hw
  refine vaast (es := ([.inr (4, [.ref (ad 1), .int (jI 0), .int (jI 0)]), .inl (cy.2.2, 4, .inr (.inr (.inr (.inr (va_up (va_up (fun _ => none) 0 (some (ad 2))) 1 (some (ad 23)))))))] ++ lS cy (fun j => ad (j + 2)) ++ lS cy (fun j => ad (j + 23)) ++ lS cy (fun j => ad (j + 44)) : List va_E)) hx hb hK (by exact hj 65) hw hS 1 (hA 1) rfl (jI_in (a := 2) (by decide) (by decide) (by decide)) 44 rfl dX5_init_45 (fun H locs hz1 hw hS => ?_)
  have hz : H.size = s.heap.size + 64 := by omega
  rw [show (jI 2).toNatClampNeg = 2 from by decide +kernel] at hw
  have hw : zV D ([.inr (4, [.ref (ad 1), .int (jI 0), .int (jI 0)]), .inl (cy.2.2, 4, .inr (.inr (.inr (.inr (va_up (va_up (va_up (fun _ => none) 0 (some (ad 2))) 1 (some (ad 23))) 2 (some (ad 44)))))))] ++ lS cy (fun j => ad (j + 2)) ++ lS cy (fun j => ad (j + 23)) ++ lS cy (fun j => ad (j + 44)) : List va_E) ad H := hw
  refine lv_iinc (v := (jI 3)) (lv' := [(1, .int (jI 3)), (0, .ref (ad 0))]) hx hb dX5_init_46 hl (k := 0) rfl (by decide +kernel) (by decide) rfl (fun ls hl => ?_)
  refine lv_goto (tgt := 24) hx hb dX5_init_49 (by decide) ?_
  refine lv_iload_n hx hb dX5_init_24 rfl (lv_at hl 0 rfl) ?_
  refine lv_aload_n hx hb dX5_init_25 rfl (lv_at hl 1 rfl) ?_
  refine vget (es := ([.inr (4, [.ref (ad 1), .int (jI 0), .int (jI 0)]), .inl (cy.2.2, 4, .inr (.inr (.inr (.inr (va_up (va_up (va_up (fun _ => none) 0 (some (ad 2))) 1 (some (ad 23))) 2 (some (ad 44)))))))] ++ lS cy (fun j => ad (j + 2)) ++ lS cy (fun j => ad (j + 23)) ++ lS cy (fun j => ad (j + 44)) : List va_E)) hx hb hts inX5 hown hK hw 0 rfl rfl 0 (by decide) (List.mem_of_getElem? (i := 5) rfl) (fun _ h9 => h9) rfl dX5_init_26 ?_
  refine valen (es := ([.inr (4, [.ref (ad 1), .int (jI 0), .int (jI 0)]), .inl (cy.2.2, 4, .inr (.inr (.inr (.inr (va_up (va_up (va_up (fun _ => none) 0 (some (ad 2))) 1 (some (ad 23))) 2 (some (ad 44)))))))] ++ lS cy (fun j => ad (j + 2)) ++ lS cy (fun j => ad (j + 23)) ++ lS cy (fun j => ad (j + 44)) : List va_E)) (t0 := 2) (v := (jI 4)) hx hb hK hw 1 rfl rfl (by exact (by decide +kernel : Int32.ofNat 4 = (jI 4))) dX5_init_29 ?_
  refine lv_icmp_ge (tgt := 52) hx hb dX5_init_30 (by decide) (fun c9 => absurd c9 (by decide +kernel)) (fun _ => ?_)
  refine lv_aload_n hx hb dX5_init_33 rfl (lv_at hl 1 rfl) ?_
  refine vget (es := ([.inr (4, [.ref (ad 1), .int (jI 0), .int (jI 0)]), .inl (cy.2.2, 4, .inr (.inr (.inr (.inr (va_up (va_up (va_up (fun _ => none) 0 (some (ad 2))) 1 (some (ad 23))) 2 (some (ad 44)))))))] ++ lS cy (fun j => ad (j + 2)) ++ lS cy (fun j => ad (j + 23)) ++ lS cy (fun j => ad (j + 44)) : List va_E)) hx hb hts inX5 hown hK hw 0 rfl rfl 0 (by decide) (List.mem_of_getElem? (i := 5) rfl) (fun _ h9 => h9) rfl dX5_init_34 ?_
  refine lv_iload_n hx hb dX5_init_37 rfl (lv_at hl 0 rfl) ?_
  refine vnew (es := ([.inr (4, [.ref (ad 1), .int (jI 0), .int (jI 0)]), .inl (cy.2.2, 4, .inr (.inr (.inr (.inr (va_up (va_up (va_up (fun _ => none) 0 (some (ad 2))) 1 (some (ad 23))) 2 (some (ad 44)))))))] ++ lS cy (fun j => ad (j + 2)) ++ lS cy (fun j => ad (j + 23)) ++ lS cy (fun j => ad (j + 44)) : List va_E)) (C := RX4) (T := TX4) (N := 18) (ci := 3) hx hb hts inX4 tyX4 tyX4_ok hown (List.mem_of_getElem? (i := 4) rfl) (List.mem_of_getElem? (i := 8) rfl) (List.mem_of_getElem? (i := 9) rfl) hK hw 65 rfl (by rw [hz]; exact hadk 64) hS rfl [.null, .null, .null, .null, .null, .null, .null, .null, .null, .null, .int 0, .int 0, .int 0, .int 0, .int 0, .int 0, .int 0, .int 0] dfX4 (Nat.le_of_ble_eq_true rfl) (Nat.le_of_ble_eq_true rfl) dX5_init_38 (fun H hz1 hw hS => ?_)
  have hz : H.size = s.heap.size + 65 := by omega
  have hw : zV D ([.inr (4, [.ref (ad 1), .int (jI 0), .int (jI 0)]), .inl (cy.2.2, 4, .inr (.inr (.inr (.inr (va_up (va_up (va_up (fun _ => none) 0 (some (ad 2))) 1 (some (ad 23))) 2 (some (ad 44)))))))] ++ lS cy (fun j => ad (j + 2)) ++ lS cy (fun j => ad (j + 23)) ++ lS cy (fun j => ad (j + 44)) ++ [.inr (3, [.null, .null, .null, .null, .null, .null, .null, .null, .null, .null, .int 0, .int 0, .int 0, .int 0, .int 0, .int 0, .int 0, .int 0])] : List va_E) ad H := hw
  refine lv_dup hx hb dX5_init_41 rfl ?_
  refine icall (es0 := ([.inr (4, [.ref (ad 1), .int (jI 0), .int (jI 0)]), .inl (cy.2.2, 4, .inr (.inr (.inr (.inr (va_up (va_up (va_up (fun _ => none) 0 (some (ad 2))) 1 (some (ad 23))) 2 (some (ad 44)))))))] ++ lS cy (fun j => ad (j + 2)) ++ lS cy (fun j => ad (j + 23)) ++ lS cy (fun j => ad (j + 44)) : List va_E)) (e0 := .inr (3, [.null, .null, .null, .null, .null, .null, .null, .null, .null, .null, .int 0, .int 0, .int 0, .int 0, .int 0, .int 0, .int 0, .int 0])) (lX := lS cy) (k := 65) (kX := 20) rfl hw (fun j => by rw [hz, show j + 1 + 65 = (j + 65) + 1 by omega, hadk]; omega) (hj 66) (va_runI (As := []) (rest := [.ref (ad 65), .int (jI 3), .ref (ad 1)]) ⟨hx, hb, hml, hown, hts⟩ (c_X4_init l D cy (ad 65) H.size) (cwI 0 hts gX5_init_X4_init rfl rfl rfl (hts (.initialized RX4) (List.mem_of_getElem? (i := 9) rfl)) (hts (.methodLink RX5 24 yX4_init) (List.mem_of_getElem? (i := 10) rfl)) (hts (.instanceMethod yX4_init) (List.mem_of_getElem? (i := 11) rfl)) rfl (by decide +kernel) ⟨(Nat.le_of_ble_eq_true rfl), (Nat.le_of_ble_eq_true rfl)⟩) (ipre zKeep_no (hw 65 _ rfl).lt hK trivial (hw 65 _ rfl)) rfl rfl hl.1 rfl (lv_room (Nat.le_of_ble_eq_true rfl)) dX5_init_42 ⟨(Nat.le_of_ble_eq_true rfl), (Nat.le_of_ble_eq_true rfl)⟩) hS (fun q h => h.elim (fun z => z ▸ hA 65) (fun z => Or.inr (Nat.le_trans hS.1 z))) (fun H locs hz1 hw hS => ?_)
  have hz : H.size = s.heap.size + 85 := by omega
  have hw : zV D ([.inr (4, [.ref (ad 1), .int (jI 0), .int (jI 0)]), .inl (cy.2.2, 4, .inr (.inr (.inr (.inr (va_up (va_up (va_up (fun _ => none) 0 (some (ad 2))) 1 (some (ad 23))) 2 (some (ad 44)))))))] ++ lS cy (fun j => ad (j + 2)) ++ lS cy (fun j => ad (j + 23)) ++ lS cy (fun j => ad (j + 44)) ++ lS cy (fun j => ad (j + 65)) : List va_E) ad H := hw
  refine vaast (es := ([.inr (4, [.ref (ad 1), .int (jI 0), .int (jI 0)]), .inl (cy.2.2, 4, .inr (.inr (.inr (.inr (va_up (va_up (va_up (fun _ => none) 0 (some (ad 2))) 1 (some (ad 23))) 2 (some (ad 44)))))))] ++ lS cy (fun j => ad (j + 2)) ++ lS cy (fun j => ad (j + 23)) ++ lS cy (fun j => ad (j + 44)) ++ lS cy (fun j => ad (j + 65)) : List va_E)) hx hb hK (by exact hj 86) hw hS 1 (hA 1) rfl (jI_in (a := 3) (by decide) (by decide) (by decide)) 65 rfl dX5_init_45 (fun H locs hz1 hw hS => ?_)
  have hz : H.size = s.heap.size + 85 := by omega
  rw [show (jI 3).toNatClampNeg = 3 from by decide +kernel] at hw
  have hw : zV D ([.inr (4, [.ref (ad 1), .int (jI 0), .int (jI 0)]), .inl (cy.2.2, 4, .inr (.inr (.inr (.inr (va_up (va_up (va_up (va_up (fun _ => none) 0 (some (ad 2))) 1 (some (ad 23))) 2 (some (ad 44))) 3 (some (ad 65)))))))] ++ lS cy (fun j => ad (j + 2)) ++ lS cy (fun j => ad (j + 23)) ++ lS cy (fun j => ad (j + 44)) ++ lS cy (fun j => ad (j + 65)) : List va_E) ad H := hw
  refine lv_iinc (v := (jI 4)) (lv' := [(1, .int (jI 4)), (0, .ref (ad 0))]) hx hb dX5_init_46 hl (k := 0) rfl (by decide +kernel) (by decide) rfl (fun ls hl => ?_)
  refine lv_goto (tgt := 24) hx hb dX5_init_49 (by decide) ?_
  refine lv_iload_n hx hb dX5_init_24 rfl (lv_at hl 0 rfl) ?_
  refine lv_aload_n hx hb dX5_init_25 rfl (lv_at hl 1 rfl) ?_
  refine vget (es := ([.inr (4, [.ref (ad 1), .int (jI 0), .int (jI 0)]), .inl (cy.2.2, 4, .inr (.inr (.inr (.inr (va_up (va_up (va_up (va_up (fun _ => none) 0 (some (ad 2))) 1 (some (ad 23))) 2 (some (ad 44))) 3 (some (ad 65)))))))] ++ lS cy (fun j => ad (j + 2)) ++ lS cy (fun j => ad (j + 23)) ++ lS cy (fun j => ad (j + 44)) ++ lS cy (fun j => ad (j + 65)) : List va_E)) hx hb hts inX5 hown hK hw 0 rfl rfl 0 (by decide) (List.mem_of_getElem? (i := 5) rfl) (fun _ h9 => h9) rfl dX5_init_26 ?_
  refine valen (es := ([.inr (4, [.ref (ad 1), .int (jI 0), .int (jI 0)]), .inl (cy.2.2, 4, .inr (.inr (.inr (.inr (va_up (va_up (va_up (va_up (fun _ => none) 0 (some (ad 2))) 1 (some (ad 23))) 2 (some (ad 44))) 3 (some (ad 65)))))))] ++ lS cy (fun j => ad (j + 2)) ++ lS cy (fun j => ad (j + 23)) ++ lS cy (fun j => ad (j + 44)) ++ lS cy (fun j => ad (j + 65)) : List va_E)) (t0 := 2) (v := (jI 4)) hx hb hK hw 1 rfl rfl (by exact (by decide +kernel : Int32.ofNat 4 = (jI 4))) dX5_init_29 ?_
  refine lv_icmp_ge (tgt := 52) hx hb dX5_init_30 (by decide) (fun _ => ?_) (fun c9 => absurd (by decide +kernel) c9)
  refine W.widen (k := 85) (n := 4564) (Nat.le_of_ble_eq_true rfl) (Nat.le_of_ble_eq_true rfl) ?_
  exact W.vret hx hb hr (fun t ht hW => ⟨⟨(), rfl, trivial, by rw [ht, hz], by rw [ht, had]; exact hw⟩, hS.F ht⟩) hS.2.2 dX5_init_52
theorem last_17 : True := trivial
