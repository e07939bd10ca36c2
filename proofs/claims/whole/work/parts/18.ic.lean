/-! printed by wip/whole/gen4.py: the constructors -/
def lT (cy : cyT) (ad : Nat → Nat) : List va_E := ([.inr (5, [.ref (ad 1), .ref (ad 22), .ref (ad 108), .ref (ad 115)])] ++ lS cy (fun j => ad (j + 1)) ++ lU cy (fun j => ad (j + 22)) ++ lC cy (fun j => ad (j + 108)) ++ lP cy (fun j => ad (j + 115)) : List va_E)
set_option maxHeartbeats 4000000 in
set_option maxRecDepth 100000 in
theorem c_X6_init (l : Launch) (D : va_G) (cy : cyT) (b sz : Nat) : Met l yX6_init wsX6_init ({ frames := 4, cells := 115, slots := 5991, locals := 74 } : Room) (iPre D cy zAO b sz 5 [.null, .null, .null, .null] []) (iQ D 115 (lT cy) b sz) 115 5991 (zAb b sz) := by
  refine Met.ofW (cc := cX6_init) (maxL := 1) (ret := none) (by decide) rfl ?_
  intro p e s m args below meth c s₁ B hml hv
  obtain ⟨rfl, hsz, hbs, hK, hkK, hat⟩ := hv
  have hx := B.exec
  have hb := B.bytes
  have hr := B.returns
  have hts := atoms_spec (ws := wsX6_init) B.pre
  have hown : s.vm.findClass RX6 = some m.cls := findClass_of_methodNamed B.named
  have hlocks := B.notSynchronized
  have hin : meth.name = "<init>" := (name_of_methodNamed B.named B.method).1
  have inX4 : ∀ w ∈ u_ws RX4 TX4 18, w ∈ wsX6_init := zin_at 83 rfl
  have inX6 : ∀ w ∈ u_ws RX6 TX6 4, w ∈ wsX6_init := zin_at 101 rfl
  have inX5 : ∀ w ∈ u_ws RX5 TX5 3, w ∈ wsX6_init := zin_at 105 rfl
  have inX0 : ∀ w ∈ u_ws RX0 TX0 6, w ∈ wsX6_init := zin_at 108 rfl
  have inX2 : ∀ w ∈ u_ws RX2 TX2 5, w ∈ wsX6_init := zin_at 114 rfl
  subst hsz
  have hS : va_S (zAb b s.heap.size) s.heap s.heap [] := va_S.rf
  have hA0 : ∀ i, zAb b s.heap.size (adB b s.heap.size i) := fun i => by cases i with | zero => exact Or.inl rfl | succ i => exact Or.inr (Nat.le_add_right _ _)
  have hj0 : ∀ n, zI n (adB b s.heap.size) := adB_inj hbs
  have hadk0 : ∀ k, adB b s.heap.size (k + 1) = s.heap.size + k := fun _ => rfl
  have hb0 : b = adB b s.heap.size 0 := rfl
  generalize had : adB b s.heap.size = ad at hA0 hj0 hadk0 hb0
  have hA := hA0
  have hj := hj0
  have hadk := hadk0
  obtain ⟨H, hH0⟩ : ∃ H, H = s.heap := ⟨_, rfl⟩
  rw [← hH0] at hat
  have hz : H.size = s.heap.size + 0 := by rw [hH0]; rfl
  have hw : zV D [.inr (5, [.null, .null, .null, .null])] ad H := fun i x hx9 => by
    have hi := (List.getElem?_eq_some_iff.mp hx9).1
    have e0 : i = 0 := by simp at hi; omega
    subst e0
    cases hx9
    show va_at D vwCl (ad 0, _) H
    rw [← hb0]
    exact hat
  have hl := lv_entry ([.ref b]) (n := 1) (Nat.le_of_ble_eq_true rfl)
  rw [lg_entry_eq]
  generalize (lg_sl ([.ref b]) ++ List.replicate (1 - (lg_sl ([.ref b])).length) Slot.unset).toArray = ls at hl ⊢
  have hl : lv_has ls 1 [(0, .ref b)] := hl
  have hl : lv_has ls 1 [(0, .ref (ad 0))] := by rw [← hb0]; exact hl
  show W p l e ({ frames := 4, cells := 115, slots := 5991, locals := 74 } : Room) s m ([.ref b] : List Value).toArray below meth c s.heap [] 0 0 (MQ below (iQ D 115 (lT cy) b s.heap.size) ([.ref b] : List Value).toArray s 115 5991 (zAb b s.heap.size)) (F0 m 0 ls [])
  have hS : va_S (zAb b s.heap.size) s.heap H [] := by rw [hH0]; exact hS
  suffices hG9 : W p l e ({ frames := 4, cells := 115, slots := 5991, locals := 74 } : Room) s m ([.ref b] : List Value).toArray below meth c H [] 0 0 (MQ below (iQ D 115 (lT cy) b s.heap.size) ([.ref b] : List Value).toArray s 115 5991 (zAb b s.heap.size)) (F0 m 0 ls []) by
    rw [hH0] at hG9
    exact hG9
  refine lv_aload_n hx hb dX6_init_0 rfl (lv_at hl 0 rfl) ?_
  refine W.objInit hx hb hown (hts (.methodLink RX6 3 objectInit) (List.mem_of_getElem? (i := 1) rfl)) (hts (.instanceMethod objectInit) (List.mem_of_getElem? (i := 2) rfl)) (hts (.code objectInit ⟨#[0xb1]⟩ 1 none) (List.mem_of_getElem? (i := 3) rfl)) rfl (by rw [hml]; exact hl.1) rfl dX6_init_1 (Nat.le_of_ble_eq_true rfl) (Nat.le_of_ble_eq_true rfl) ?_
  refine W.eq (g2 := F0 m 4 ls []) rfl ?_
  refine lv_aload_n hx hb dX6_init_4 rfl (lv_at hl 0 rfl) ?_
  refine vnew (es := ([.inr (5, [.null, .null, .null, .null])] : List va_E)) (C := RX4) (T := TX4) (N := 18) (ci := 3) hx hb hts inX4 tyX4 tyX4_ok hown (List.mem_of_getElem? (i := 4) rfl) (List.mem_of_getElem? (i := 5) rfl) (List.mem_of_getElem? (i := 6) rfl) hK hw 1 rfl (by rw [hz]; exact hadk 0) hS rfl [.null, .null, .null, .null, .null, .null, .null, .null, .null, .null, .int 0, .int 0, .int 0, .int 0, .int 0, .int 0, .int 0, .int 0] dfX4 (Nat.le_of_ble_eq_true rfl) (Nat.le_of_ble_eq_true rfl) dX6_init_5 (fun H hz1 hw hS => ?_)
  have hz : H.size = s.heap.size + 1 := by omega
  have hw : zV D ([.inr (5, [.null, .null, .null, .null]), .inr (3, [.null, .null, .null, .null, .null, .null, .null, .null, .null, .null, .int 0, .int 0, .int 0, .int 0, .int 0, .int 0, .int 0, .int 0])] : List va_E) ad H := hw
  refine lv_dup hx hb dX6_init_8 rfl ?_
  refine icall (es0 := ([.inr (5, [.null, .null, .null, .null])] : List va_E)) (e0 := .inr (3, [.null, .null, .null, .null, .null, .null, .null, .null, .null, .null, .int 0, .int 0, .int 0, .int 0, .int 0, .int 0, .int 0, .int 0])) (lX := lS cy) (k := 1) (kX := 20) rfl hw (fun j => by rw [hz, show j + 1 + 1 = (j + 1) + 1 by omega, hadk]; omega) (hj 2) (va_runI (As := []) (rest := [.ref (ad 1), .ref (ad 0)]) ⟨hx, hb, hml, hown, hts⟩ (c_X4_init l D cy (ad 1) H.size) (cwI 0 hts gX6_init_X4_init rfl rfl rfl (hts (.initialized RX4) (List.mem_of_getElem? (i := 6) rfl)) (hts (.methodLink RX6 11 yX4_init) (List.mem_of_getElem? (i := 20) rfl)) (hts (.instanceMethod yX4_init) (List.mem_of_getElem? (i := 21) rfl)) rfl (by decide +kernel) ⟨(Nat.le_of_ble_eq_true rfl), (Nat.le_of_ble_eq_true rfl)⟩) (ipre zKeep_no (hw 1 _ rfl).lt hK trivial (hw 1 _ rfl)) rfl rfl hl.1 rfl (lv_room (Nat.le_of_ble_eq_true rfl)) dX6_init_9 ⟨(Nat.le_of_ble_eq_true rfl), (Nat.le_of_ble_eq_true rfl)⟩) hS (fun q h => h.elim (fun z => z ▸ hA 1) (fun z => Or.inr (Nat.le_trans hS.1 z))) (fun H locs hz1 hw hS => ?_)
  have hz : H.size = s.heap.size + 21 := by omega
  have hw : zV D ([.inr (5, [.null, .null, .null, .null])] ++ lS cy (fun j => ad (j + 1)) : List va_E) ad H := hw
  refine vputF (es := ([.inr (5, [.null, .null, .null, .null])] ++ lS cy (fun j => ad (j + 1)) : List va_E)) (C := RX6) (T := TX6) (N := 4) (ci := 5) (v := .ref (ad 1)) (ty := (.object "TypeTrays$State")) hx hb hts inX6 tyX6 tyX6_ok nmX6 hown hK (by exact hj 22) hw hS 0 (hA 0) rfl rfl 0 (by decide) (List.mem_of_getElem? (i := 7) rfl) (fun _ h9 => h9) rfl hin rfl (by decide +kernel) rfl rfl (Nat.le_of_ble_eq_true rfl) dX6_init_12 (fun H locs hz1 hw hS => ?_)
  have hz : H.size = s.heap.size + 21 := by omega
  have hw : zV D ([.inr (5, [.ref (ad 1), .null, .null, .null])] ++ lS cy (fun j => ad (j + 1)) : List va_E) ad H := hw
  refine lv_aload_n hx hb dX6_init_15 rfl (lv_at hl 0 rfl) ?_
  refine vnew (es := ([.inr (5, [.ref (ad 1), .null, .null, .null])] ++ lS cy (fun j => ad (j + 1)) : List va_E)) (C := RX5) (T := TX5) (N := 3) (ci := 4) hx hb hts inX5 tyX5 tyX5_ok hown (List.mem_of_getElem? (i := 8) rfl) (List.mem_of_getElem? (i := 9) rfl) (List.mem_of_getElem? (i := 10) rfl) hK hw 22 rfl (by rw [hz]; exact hadk 21) hS rfl [.null, .int 0, .int 0] dfX5 (Nat.le_of_ble_eq_true rfl) (Nat.le_of_ble_eq_true rfl) dX6_init_16 (fun H hz1 hw hS => ?_)
  have hz : H.size = s.heap.size + 22 := by omega
  have hw : zV D ([.inr (5, [.ref (ad 1), .null, .null, .null])] ++ lS cy (fun j => ad (j + 1)) ++ [.inr (4, [.null, .int 0, .int 0])] : List va_E) ad H := hw
  refine lv_dup hx hb dX6_init_19 rfl ?_
  refine icall (es0 := ([.inr (5, [.ref (ad 1), .null, .null, .null])] ++ lS cy (fun j => ad (j + 1)) : List va_E)) (e0 := .inr (4, [.null, .int 0, .int 0])) (lX := lU cy) (k := 22) (kX := 85) rfl hw (fun j => by rw [hz, show j + 1 + 22 = (j + 22) + 1 by omega, hadk]; omega) (hj 23) (va_runI (As := []) (rest := [.ref (ad 22), .ref (ad 0)]) ⟨hx, hb, hml, hown, hts⟩ (c_X5_init l D cy (ad 22) H.size) (cwI 0 hts gX6_init_X5_init rfl rfl rfl (hts (.initialized RX5) (List.mem_of_getElem? (i := 10) rfl)) (hts (.methodLink RX6 18 yX5_init) (List.mem_of_getElem? (i := 55) rfl)) (hts (.instanceMethod yX5_init) (List.mem_of_getElem? (i := 56) rfl)) rfl (by decide +kernel) ⟨(Nat.le_of_ble_eq_true rfl), (Nat.le_of_ble_eq_true rfl)⟩) (ipre zKeep_ao (hw 22 _ rfl).lt hK hkK (hw 22 _ rfl)) rfl rfl hl.1 rfl (lv_room (Nat.le_of_ble_eq_true rfl)) dX6_init_20 ⟨(Nat.le_of_ble_eq_true rfl), (Nat.le_of_ble_eq_true rfl)⟩) hS (fun q h => h.elim (fun z => z ▸ hA 22) (fun z => Or.inr (Nat.le_trans hS.1 z))) (fun H locs hz1 hw hS => ?_)
  have hz : H.size = s.heap.size + 107 := by omega
  have hw : zV D ([.inr (5, [.ref (ad 1), .null, .null, .null])] ++ lS cy (fun j => ad (j + 1)) ++ lU cy (fun j => ad (j + 22)) : List va_E) ad H := hw
  refine vputF (es := ([.inr (5, [.ref (ad 1), .null, .null, .null])] ++ lS cy (fun j => ad (j + 1)) ++ lU cy (fun j => ad (j + 22)) : List va_E)) (C := RX6) (T := TX6) (N := 4) (ci := 5) (v := .ref (ad 22)) (ty := (.object "TypeTrays$UndoStack")) hx hb hts inX6 tyX6 tyX6_ok nmX6 hown hK (by exact hj 108) hw hS 0 (hA 0) rfl rfl 1 (by decide) (List.mem_of_getElem? (i := 11) rfl) (fun _ h9 => h9) rfl hin rfl (by decide +kernel) rfl rfl (Nat.le_of_ble_eq_true rfl) dX6_init_23 (fun H locs hz1 hw hS => ?_)
  have hz : H.size = s.heap.size + 107 := by omega
  have hw : zV D ([.inr (5, [.ref (ad 1), .ref (ad 22), .null, .null])] ++ lS cy (fun j => ad (j + 1)) ++ lU cy (fun j => ad (j + 22)) : List va_E) ad H := hw
  refine lv_aload_n hx hb dX6_init_26 rfl (lv_at hl 0 rfl) ?_
  refine vnew (es := ([.inr (5, [.ref (ad 1), .ref (ad 22), .null, .null])] ++ lS cy (fun j => ad (j + 1)) ++ lU cy (fun j => ad (j + 22)) : List va_E)) (C := RX0) (T := TX0) (N := 6) (ci := 0) hx hb hts inX0 tyX0 tyX0_ok hown (List.mem_of_getElem? (i := 12) rfl) (List.mem_of_getElem? (i := 13) rfl) (List.mem_of_getElem? (i := 14) rfl) hK hw 108 rfl (by rw [hz]; exact hadk 107) hS rfl [.null, .int 0, .int 0, .null, .null, .int 0] dfX0 (Nat.le_of_ble_eq_true rfl) (Nat.le_of_ble_eq_true rfl) dX6_init_27 (fun H hz1 hw hS => ?_)
  have hz : H.size = s.heap.size + 108 := by omega
  have hw : zV D ([.inr (5, [.ref (ad 1), .ref (ad 22), .null, .null])] ++ lS cy (fun j => ad (j + 1)) ++ lU cy (fun j => ad (j + 22)) ++ [.inr (0, [.null, .int 0, .int 0, .null, .null, .int 0])] : List va_E) ad H := hw
  refine lv_dup hx hb dX6_init_30 rfl ?_
  refine icall (es0 := ([.inr (5, [.ref (ad 1), .ref (ad 22), .null, .null])] ++ lS cy (fun j => ad (j + 1)) ++ lU cy (fun j => ad (j + 22)) : List va_E)) (e0 := .inr (0, [.null, .int 0, .int 0, .null, .null, .int 0])) (lX := lC cy) (k := 108) (kX := 6) rfl hw (fun j => by rw [hz, show j + 1 + 108 = (j + 108) + 1 by omega, hadk]; omega) (hj 109) (va_runIN (As := []) (rest := [.ref (ad 108), .ref (ad 0)]) ⟨hx, hb, hml, hown, hts⟩ (c_X0_init l D cy (ad 108) H.size) ⟨va_cnB 0 hts gX6_init_X0_init_n25 rfl rfl rfl (hK.2 (.methodLinkNest RX6 25 yX0_init "TypeTrays") (List.mem_of_getElem? (i := 12) rfl)) (hts (.initialized RX0) (List.mem_of_getElem? (i := 14) rfl)) (by decide +kernel) ⟨(Nat.le_of_ble_eq_true rfl), (Nat.le_of_ble_eq_true rfl)⟩, rfl, hts (.instanceMethod yX0_init) (List.mem_of_getElem? (i := 64) rfl)⟩ (ipre zKeep_no (hw 108 _ rfl).lt hK trivial (hw 108 _ rfl)) rfl rfl hl.1 rfl (lv_room (Nat.le_of_ble_eq_true rfl)) dX6_init_31 ⟨(Nat.le_of_ble_eq_true rfl), (Nat.le_of_ble_eq_true rfl)⟩) hS (fun q h => h.elim (fun z => z ▸ hA 108) (fun z => Or.inr (Nat.le_trans hS.1 z))) (fun H locs hz1 hw hS => ?_)
  have hz : H.size = s.heap.size + 114 := by omega
  have hw : zV D ([.inr (5, [.ref (ad 1), .ref (ad 22), .null, .null])] ++ lS cy (fun j => ad (j + 1)) ++ lU cy (fun j => ad (j + 22)) ++ lC cy (fun j => ad (j + 108)) : List va_E) ad H := hw
  refine vputF (es := ([.inr (5, [.ref (ad 1), .ref (ad 22), .null, .null])] ++ lS cy (fun j => ad (j + 1)) ++ lU cy (fun j => ad (j + 22)) ++ lC cy (fun j => ad (j + 108)) : List va_E)) (C := RX6) (T := TX6) (N := 4) (ci := 5) (v := .ref (ad 108)) (ty := (.object "TypeTrays$Commands")) hx hb hts inX6 tyX6 tyX6_ok nmX6 hown hK (by exact hj 115) hw hS 0 (hA 0) rfl rfl 2 (by decide) (List.mem_of_getElem? (i := 15) rfl) (fun _ h9 => h9) rfl hin rfl (by decide +kernel) rfl rfl (Nat.le_of_ble_eq_true rfl) dX6_init_34 (fun H locs hz1 hw hS => ?_)
  have hz : H.size = s.heap.size + 114 := by omega
  have hw : zV D ([.inr (5, [.ref (ad 1), .ref (ad 22), .ref (ad 108), .null])] ++ lS cy (fun j => ad (j + 1)) ++ lU cy (fun j => ad (j + 22)) ++ lC cy (fun j => ad (j + 108)) : List va_E) ad H := hw
  refine lv_aload_n hx hb dX6_init_37 rfl (lv_at hl 0 rfl) ?_
  refine vnew (es := ([.inr (5, [.ref (ad 1), .ref (ad 22), .ref (ad 108), .null])] ++ lS cy (fun j => ad (j + 1)) ++ lU cy (fun j => ad (j + 22)) ++ lC cy (fun j => ad (j + 108)) : List va_E)) (C := RX2) (T := TX2) (N := 5) (ci := 1) hx hb hts inX2 tyX2 tyX2_ok hown (List.mem_of_getElem? (i := 16) rfl) (List.mem_of_getElem? (i := 17) rfl) (List.mem_of_getElem? (i := 18) rfl) hK hw 115 rfl (by rw [hz]; exact hadk 114) hS rfl [.int 0, .int 0, .int 0, .int 0, .int 0] dfX2 (Nat.le_of_ble_eq_true rfl) (Nat.le_of_ble_eq_true rfl) dX6_init_38 (fun H hz1 hw hS => ?_)
  have hz : H.size = s.heap.size + 115 := by omega
  have hw : zV D ([.inr (5, [.ref (ad 1), .ref (ad 22), .ref (ad 108), .null])] ++ lS cy (fun j => ad (j + 1)) ++ lU cy (fun j => ad (j + 22)) ++ lC cy (fun j => ad (j + 108)) ++ [.inr (1, [.int 0, .int 0, .int 0, .int 0, .int 0])] : List va_E) ad H := hw
  refine lv_dup hx hb dX6_init_41 rfl ?_
  refine icall (es0 := ([.inr (5, [.ref (ad 1), .ref (ad 22), .ref (ad 108), .null])] ++ lS cy (fun j => ad (j + 1)) ++ lU cy (fun j => ad (j + 22)) ++ lC cy (fun j => ad (j + 108)) : List va_E)) (e0 := .inr (1, [.int 0, .int 0, .int 0, .int 0, .int 0])) (lX := lP cy) (k := 115) (kX := 0) rfl hw (fun j => by rw [hz, show j + 1 + 115 = (j + 115) + 1 by omega, hadk]; omega) (hj 116) (va_runIN (As := []) (rest := [.ref (ad 115), .ref (ad 0)]) ⟨hx, hb, hml, hown, hts⟩ (c_X2_init l D cy (ad 115) H.size) ⟨va_cnB 0 hts gX6_init_X2_init_n32 rfl rfl rfl (hK.2 (.methodLinkNest RX6 32 yX2_init "TypeTrays") (List.mem_of_getElem? (i := 13) rfl)) (hts (.initialized RX2) (List.mem_of_getElem? (i := 18) rfl)) (by decide +kernel) ⟨(Nat.le_of_ble_eq_true rfl), (Nat.le_of_ble_eq_true rfl)⟩, rfl, hts (.instanceMethod yX2_init) (List.mem_of_getElem? (i := 75) rfl)⟩ (ipre zKeep_no (hw 115 _ rfl).lt hK trivial (hw 115 _ rfl)) rfl rfl hl.1 rfl (lv_room (Nat.le_of_ble_eq_true rfl)) dX6_init_42 ⟨(Nat.le_of_ble_eq_true rfl), (Nat.le_of_ble_eq_true rfl)⟩) hS (fun q h => h.elim (fun z => z ▸ hA 115) (fun z => Or.inr (Nat.le_trans hS.1 z))) (fun H locs hz1 hw hS => ?_)
  have hz : H.size = s.heap.size + 115 := by omega
  have hw : zV D ([.inr (5, [.ref (ad 1), .ref (ad 22), .ref (ad 108), .null])] ++ lS cy (fun j => ad (j + 1)) ++ lU cy (fun j => ad (j + 22)) ++ lC cy (fun j => ad (j + 108)) ++ lP cy (fun j => ad (j + 115)) : List va_E) ad H := hw
  refine vputF (es := ([.inr (5, [.ref (ad 1), .ref (ad 22), .ref (ad 108), .null])] ++ lS cy (fun j => ad (j + 1)) ++ lU cy (fun j => ad (j + 22)) ++ lC cy (fun j => ad (j + 108)) ++ lP cy (fun j => ad (j + 115)) : List va_E)) (C := RX6) (T := TX6) (N := 4) (ci := 5) (v := .ref (ad 115)) (ty := (.object "TypeTrays$Place")) hx hb hts inX6 tyX6 tyX6_ok nmX6 hown hK (by exact hj 116) hw hS 0 (hA 0) rfl rfl 3 (by decide) (List.mem_of_getElem? (i := 19) rfl) (fun _ h9 => h9) rfl hin rfl (by decide +kernel) rfl rfl (Nat.le_of_ble_eq_true rfl) dX6_init_45 (fun H locs hz1 hw hS => ?_)
  have hz : H.size = s.heap.size + 115 := by omega
  have hw : zV D ([.inr (5, [.ref (ad 1), .ref (ad 22), .ref (ad 108), .ref (ad 115)])] ++ lS cy (fun j => ad (j + 1)) ++ lU cy (fun j => ad (j + 22)) ++ lC cy (fun j => ad (j + 108)) ++ lP cy (fun j => ad (j + 115)) : List va_E) ad H := hw
  refine W.widen (k := 115) (n := 5991) (Nat.le_of_ble_eq_true rfl) (Nat.le_of_ble_eq_true rfl) ?_
  exact W.vret hx hb hr (fun t ht hW => ⟨⟨(), rfl, trivial, by rw [ht, hz], by rw [ht, had]; exact hw⟩, hS.F ht⟩) hS.2.2 dX6_init_48
theorem last_18 : True := trivial
