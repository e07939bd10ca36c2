/-! printed by wip/whole/gen4.py: the constructors -/
def g1 (k : Nat) : Nat → Int32 := fun i => if i = 0 then jI 1 else if 12 ≤ i ∧ i < 12 + k then jI 2 else 0
def g2 (k : Nat) : Nat → Int32 := fun i => if 119 ≤ i ∧ i < 119 + 6 * k ∧ (i - 119) % 6 = 0 then jI (-1) else g1 32 i
def lM (cy : cyT) (g : Nat → Int32) (ad : Nat → Nat) : List va_E := [.inr (6, [.ref (ad 1), .ref (ad 2), .int 0, .int 0, .ref (ad 3), .int 0, .int 0, .int 0, .int 0, .int 0, .int 0, .ref (ad 4), .int 0, .int 0, .ref (ad 5), .int 0]), .inl (cy.1, 983, .inl g), .inl (cy.1, 3932, .inl (fun _ => 0)), .inl (cy.2.1, 25, .inl (fun _ => 0)), .inl (cy.1, 150, .inl (fun _ => 0)), .inl (cy.1, 200, .inl (fun _ => 0))]
theorem g1_0 : g1 0 = upd (fun _ => 0) 0 (jI 1) := by
  funext i
  unfold g1 upd
  by_cases h : i = 0
  · simp [h]
  · simp [h, show ¬ (12 ≤ i ∧ i < 12 + 0) by omega]
theorem g1_next (k : Nat) : upd (g1 k) (12 + (k : Int)).toNat (jI 2) = g1 (k + 1) := by
  have e : (12 + (k : Int)).toNat = 12 + k := by omega
  rw [e]
  funext i
  unfold g1 upd
  by_cases h : i = 12 + k
  · subst h
    simp
  · by_cases h0 : i = 0
    · rw [if_neg h]; dsimp only; rw [if_pos h0, if_pos h0]
    · by_cases h1 : 12 ≤ i ∧ i < 12 + k
      · rw [if_neg h]; dsimp only; rw [if_neg h0, if_neg h0, if_pos h1, if_pos (by omega)]
      · rw [if_neg h]; dsimp only; rw [if_neg h0, if_neg h0, if_neg h1, if_neg (by omega)]
theorem g2_0 : g2 0 = g1 32 := by
  funext i
  exact if_neg (by omega)
theorem g2_next (k : Nat) (hk : k < 144) : upd (g2 k) (119 + 6 * (k : Int)).toNat (jI (-1)) = g2 (k + 1) := by
  have e : (119 + 6 * (k : Int)).toNat = 119 + 6 * k := by omega
  rw [e]
  funext i
  unfold g2 upd
  by_cases h : i = 119 + 6 * k
  · subst h
    rw [if_pos rfl, if_pos ⟨by omega, by omega, by omega⟩]
  · by_cases h1 : 119 ≤ i ∧ i < 119 + 6 * k ∧ (i - 119) % 6 = 0
    · rw [if_neg h]; dsimp only; rw [if_pos h1, if_pos ⟨by omega, by omega, by omega⟩]
    · rw [if_neg h]; dsimp only; rw [if_neg h1, if_neg (by omega)]
set_option maxHeartbeats 4000000 in
set_option maxRecDepth 100000 in
theorem c_X7_init (l : Launch) (D : va_G) (cy : cyT) (b sz : Nat) : Met l yX7_init wsX7_init ({ frames := 1, cells := 5, slots := 5290, locals := 12 } : Room) (iPre D cy zNo b sz 6 [.null, .null, .int 0, .int 0, .null, .int 0, .int 0, .int 0, .int 0, .int 0, .int 0, .null, .int 0, .int 0, .null, .int 0] []) (iQ D 5 (lM cy (g2 144)) b sz) 5 5290 (zAb b sz) := by
  refine Met.ofW (cc := cX7_init) (maxL := 2) (ret := none) (by decide) rfl ?_
  intro p e s m args below meth c s₁ B hml hv
  obtain ⟨rfl, hsz, hbs, hK, hkK, hat⟩ := hv
  have hx := B.exec
  have hb := B.bytes
  have hr := B.returns
  have hts := atoms_spec (ws := wsX7_init) B.pre
  have hown : s.vm.findClass RX7 = some m.cls := findClass_of_methodNamed B.named
  have hlocks := B.notSynchronized
  have hin : meth.name = "<init>" := (name_of_methodNamed B.named B.method).1
  have inX7 : ∀ w ∈ u_ws RX7 TX7 16, w ∈ wsX7_init := zin_at 11 rfl
  subst hsz
  have hS : va_S (zAb b s.heap.size) s.heap s.heap [] := va_S.rf
  have hA0 : ∀ i, zAb b s.heap.size (adB b s.heap.size i) := fun i => by cases i with | zero => exact Or.inl rfl | succ i => exact Or.inr (Nat.le_add_right _ _)
  have hj0 : ∀ n, zI n (adB b s.heap.size) := adB_inj hbs
  have hadk0 : ∀ k, adB b s.heap.size (k + 1) = s.heap.size + k := fun _ => rfl
  have hb0 : b = adB b s.heap.size 0 := rfl
  generalize had : adB b s.heap.size = ad at hA0 hj0 hadk0 hb0
  have hA := hA0
  have hj := hj0
  have hadk := hadk0
  obtain ⟨H, hH0⟩ : ∃ H, H = s.heap := ⟨_, rfl⟩
  rw [← hH0] at hat
  have hz : H.size = s.heap.size + 0 := by rw [hH0]; rfl
  have hw : zV D [.inr (6, [.null, .null, .int 0, .int 0, .null, .int 0, .int 0, .int 0, .int 0, .int 0, .int 0, .null, .int 0, .int 0, .null, .int 0])] ad H := fun i x hx9 => by
    have hi := (List.getElem?_eq_some_iff.mp hx9).1
    have e0 : i = 0 := by simp at hi; omega
    subst e0
    cases hx9
    show va_at D vwCl (ad 0, _) H
    rw [← hb0]
    exact hat
  have hl := lv_entry ([.ref b]) (n := 2) (Nat.le_of_ble_eq_true rfl)
  rw [lg_entry_eq]
  generalize (lg_sl ([.ref b]) ++ List.replicate (2 - (lg_sl ([.ref b])).length) Slot.unset).toArray = ls at hl ⊢
  have hl : lv_has ls 2 [(0, .ref b)] := hl
  have hl : lv_has ls 2 [(0, .ref (ad 0))] := by rw [← hb0]; exact hl
  show W p l e ({ frames := 1, cells := 5, slots := 5290, locals := 12 } : Room) s m ([.ref b] : List Value).toArray below meth c s.heap [] 0 0 (MQ below (iQ D 5 (lM cy (g2 144)) b s.heap.size) ([.ref b] : List Value).toArray s 5 5290 (zAb b s.heap.size)) (F0 m 0 ls [])
  have hS : va_S (zAb b s.heap.size) s.heap H [] := by rw [hH0]; exact hS
  suffices hG9 : W p l e ({ frames := 1, cells := 5, slots := 5290, locals := 12 } : Room) s m ([.ref b] : List Value).toArray below meth c H [] 0 0 (MQ below (iQ D 5 (lM cy (g2 144)) b s.heap.size) ([.ref b] : List Value).toArray s 5 5290 (zAb b s.heap.size)) (F0 m 0 ls []) by
    rw [hH0] at hG9
    exact hG9
  refine lv_aload_n hx hb dX7_init_0 rfl (lv_at hl 0 rfl) ?_
  refine W.objInit hx hb hown (hts (.methodLink RX7 1 objectInit) (List.mem_of_getElem? (i := 1) rfl)) (hts (.instanceMethod objectInit) (List.mem_of_getElem? (i := 2) rfl)) (hts (.code objectInit ⟨#[0xb1]⟩ 1 none) (List.mem_of_getElem? (i := 3) rfl)) rfl (by rw [hml]; exact hl.1) rfl dX7_init_1 (Nat.le_of_ble_eq_true rfl) (Nat.le_of_ble_eq_true rfl) ?_
  refine W.eq (g2 := F0 m 4 ls []) rfl ?_
  refine lv_aload_n hx hb dX7_init_4 rfl (lv_at hl 0 rfl) ?_
  refine lv_sipush (v := (jI 983)) hx hb dX7_init_5 (by decide +kernel) ?_
  refine vnewa (es := ([.inr (6, [.null, .null, .int 0, .int 0, .null, .int 0, .int 0, .int 0, .int 0, .int 0, .int 0, .null, .int 0, .int 0, .null, .int 0])] : List va_E)) (atype := .int) hx hb hts (List.mem_of_getElem? (i := 4) rfl) (zK_int hK) rfl hw 1 rfl (by rw [hz]; exact hadk 0) hS 983 (by decide +kernel) (by decide +kernel) (by decide) (Nat.le_of_ble_eq_true rfl) (Nat.le_of_ble_eq_true rfl) dX7_init_8 (fun H hz1 hw hS => ?_)
  have hz : H.size = s.heap.size + 1 := by omega
  have hw : zV D ([.inr (6, [.null, .null, .int 0, .int 0, .null, .int 0, .int 0, .int 0, .int 0, .int 0, .int 0, .null, .int 0, .int 0, .null, .int 0]), .inl (cy.1, 983, .inl (fun _ => 0))] : List va_E) ad H := hw
  refine vputF (es := ([.inr (6, [.null, .null, .int 0, .int 0, .null, .int 0, .int 0, .int 0, .int 0, .int 0, .int 0, .null, .int 0, .int 0, .null, .int 0]), .inl (cy.1, 983, .inl (fun _ => 0))] : List va_E)) (C := RX7) (T := TX7) (N := 16) (ci := 6) (v := .ref (ad 1)) (ty := (.array .int)) hx hb hts inX7 tyX7 tyX7_ok nmX7 hown hK (by exact hj 2) hw hS 0 (hA 0) rfl rfl 0 (by decide) (List.mem_of_getElem? (i := 5) rfl) (fun _ h9 => h9) rfl hin rfl (by decide +kernel) rfl rfl (Nat.le_of_ble_eq_true rfl) dX7_init_10 (fun H locs hz1 hw hS => ?_)
  have hz : H.size = s.heap.size + 1 := by omega
  have hw : zV D ([.inr (6, [.ref (ad 1), .null, .int 0, .int 0, .null, .int 0, .int 0, .int 0, .int 0, .int 0, .int 0, .null, .int 0, .int 0, .null, .int 0]), .inl (cy.1, 983, .inl (fun _ => 0))] : List va_E) ad H := hw
  refine lv_aload_n hx hb dX7_init_13 rfl (lv_at hl 0 rfl) ?_
  refine lv_sipush (v := (jI 3932)) hx hb dX7_init_14 (by decide +kernel) ?_
  refine vnewa (es := ([.inr (6, [.ref (ad 1), .null, .int 0, .int 0, .null, .int 0, .int 0, .int 0, .int 0, .int 0, .int 0, .null, .int 0, .int 0, .null, .int 0]), .inl (cy.1, 983, .inl (fun _ => 0))] : List va_E)) (atype := .int) hx hb hts (List.mem_of_getElem? (i := 4) rfl) (zK_int hK) rfl hw 2 rfl (by rw [hz]; exact hadk 1) hS 3932 (by decide +kernel) (by decide +kernel) (by decide) (Nat.le_of_ble_eq_true rfl) (Nat.le_of_ble_eq_true rfl) dX7_init_17 (fun H hz1 hw hS => ?_)
  have hz : H.size = s.heap.size + 2 := by omega
  have hw : zV D ([.inr (6, [.ref (ad 1), .null, .int 0, .int 0, .null, .int 0, .int 0, .int 0, .int 0, .int 0, .int 0, .null, .int 0, .int 0, .null, .int 0]), .inl (cy.1, 983, .inl (fun _ => 0)), .inl (cy.1, 3932, .inl (fun _ => 0))] : List va_E) ad H := hw
  refine vputF (es := ([.inr (6, [.ref (ad 1), .null, .int 0, .int 0, .null, .int 0, .int 0, .int 0, .int 0, .int 0, .int 0, .null, .int 0, .int 0, .null, .int 0]), .inl (cy.1, 983, .inl (fun _ => 0)), .inl (cy.1, 3932, .inl (fun _ => 0))] : List va_E)) (C := RX7) (T := TX7) (N := 16) (ci := 6) (v := .ref (ad 2)) (ty := (.array .int)) hx hb hts inX7 tyX7 tyX7_ok nmX7 hown hK (by exact hj 3) hw hS 0 (hA 0) rfl rfl 1 (by decide) (List.mem_of_getElem? (i := 6) rfl) (fun _ h9 => h9) rfl hin rfl (by decide +kernel) rfl rfl (Nat.le_of_ble_eq_true rfl) dX7_init_19 (fun H locs hz1 hw hS => ?_)
  have hz : H.size = s.heap.size + 2 := by omega
  have hw : zV D ([.inr (6, [.ref (ad 1), .ref (ad 2), .int 0, .int 0, .null, .int 0, .int 0, .int 0, .int 0, .int 0, .int 0, .null, .int 0, .int 0, .null, .int 0]), .inl (cy.1, 983, .inl (fun _ => 0)), .inl (cy.1, 3932, .inl (fun _ => 0))] : List va_E) ad H := hw
  refine lv_aload_n hx hb dX7_init_22 rfl (lv_at hl 0 rfl) ?_
  refine lv_bipush (v := (jI 25)) hx hb dX7_init_23 (by decide +kernel) ?_
  refine vnewa (es := ([.inr (6, [.ref (ad 1), .ref (ad 2), .int 0, .int 0, .null, .int 0, .int 0, .int 0, .int 0, .int 0, .int 0, .null, .int 0, .int 0, .null, .int 0]), .inl (cy.1, 983, .inl (fun _ => 0)), .inl (cy.1, 3932, .inl (fun _ => 0))] : List va_E)) (atype := .boolean) hx hb hts (List.mem_of_getElem? (i := 7) rfl) (zK_boo hK) rfl hw 3 rfl (by rw [hz]; exact hadk 2) hS 25 (by decide +kernel) (by decide +kernel) (by decide) (Nat.le_of_ble_eq_true rfl) (Nat.le_of_ble_eq_true rfl) dX7_init_25 (fun H hz1 hw hS => ?_)
  have hz : H.size = s.heap.size + 3 := by omega
  have hw : zV D ([.inr (6, [.ref (ad 1), .ref (ad 2), .int 0, .int 0, .null, .int 0, .int 0, .int 0, .int 0, .int 0, .int 0, .null, .int 0, .int 0, .null, .int 0]), .inl (cy.1, 983, .inl (fun _ => 0)), .inl (cy.1, 3932, .inl (fun _ => 0)), .inl (cy.2.1, 25, .inl (fun _ => 0))] : List va_E) ad H := hw
  refine vputF (es := ([.inr (6, [.ref (ad 1), .ref (ad 2), .int 0, .int 0, .null, .int 0, .int 0, .int 0, .int 0, .int 0, .int 0, .null, .int 0, .int 0, .null, .int 0]), .inl (cy.1, 983, .inl (fun _ => 0)), .inl (cy.1, 3932, .inl (fun _ => 0)), .inl (cy.2.1, 25, .inl (fun _ => 0))] : List va_E)) (C := RX7) (T := TX7) (N := 16) (ci := 6) (v := .ref (ad 3)) (ty := (.array .boolean)) hx hb hts inX7 tyX7 tyX7_ok nmX7 hown hK (by exact hj 4) hw hS 0 (hA 0) rfl rfl 4 (by decide) (List.mem_of_getElem? (i := 8) rfl) (fun _ h9 => h9) rfl hin rfl (by decide +kernel) rfl rfl (Nat.le_of_ble_eq_true rfl) dX7_init_27 (fun H locs hz1 hw hS => ?_)
  have hz : H.size = s.heap.size + 3 := by omega
  have hw : zV D ([.inr (6, [.ref (ad 1), .ref (ad 2), .int 0, .int 0, .ref (ad 3), .int 0, .int 0, .int 0, .int 0, .int 0, .int 0, .null, .int 0, .int 0, .null, .int 0]), .inl (cy.1, 983, .inl (fun _ => 0)), .inl (cy.1, 3932, .inl (fun _ => 0)), .inl (cy.2.1, 25, .inl (fun _ => 0))] : List va_E) ad H := hw
  refine lv_aload_n hx hb dX7_init_30 rfl (lv_at hl 0 rfl) ?_
  refine lv_sipush (v := (jI 150)) hx hb dX7_init_31 (by decide +kernel) ?_
  refine vnewa (es := ([.inr (6, [.ref (ad 1), .ref (ad 2), .int 0, .int 0, .ref (ad 3), .int 0, .int 0, .int 0, .int 0, .int 0, .int 0, .null, .int 0, .int 0, .null, .int 0]), .inl (cy.1, 983, .inl (fun _ => 0)), .inl (cy.1, 3932, .inl (fun _ => 0)), .inl (cy.2.1, 25, .inl (fun _ => 0))] : List va_E)) (atype := .int) hx hb hts (List.mem_of_getElem? (i := 4) rfl) (zK_int hK) rfl hw 4 rfl (by rw [hz]; exact hadk 3) hS 150 (by decide +kernel) (by decide +kernel) (by decide) (Nat.le_of_ble_eq_true rfl) (Nat.le_of_ble_eq_true rfl) dX7_init_34 (fun H hz1 hw hS => ?_)
  have hz : H.size = s.heap.size + 4 := by omega
  have hw : zV D ([.inr (6, [.ref (ad 1), .ref (ad 2), .int 0, .int 0, .ref (ad 3), .int 0, .int 0, .int 0, .int 0, .int 0, .int 0, .null, .int 0, .int 0, .null, .int 0]), .inl (cy.1, 983, .inl (fun _ => 0)), .inl (cy.1, 3932, .inl (fun _ => 0)), .inl (cy.2.1, 25, .inl (fun _ => 0)), .inl (cy.1, 150, .inl (fun _ => 0))] : List va_E) ad H := hw
  refine vputF (es := ([.inr (6, [.ref (ad 1), .ref (ad 2), .int 0, .int 0, .ref (ad 3), .int 0, .int 0, .int 0, .int 0, .int 0, .int 0, .null, .int 0, .int 0, .null, .int 0]), .inl (cy.1, 983, .inl (fun _ => 0)), .inl (cy.1, 3932, .inl (fun _ => 0)), .inl (cy.2.1, 25, .inl (fun _ => 0)), .inl (cy.1, 150, .inl (fun _ => 0))] : List va_E)) (C := RX7) (T := TX7) (N := 16) (ci := 6) (v := .ref (ad 4)) (ty := (.array .int)) hx hb hts inX7 tyX7 tyX7_ok nmX7 hown hK (by exact hj 5) hw hS 0 (hA 0) rfl rfl 11 (by decide) (List.mem_of_getElem? (i := 9) rfl) (fun _ h9 => h9) rfl hin rfl (by decide +kernel) rfl rfl (Nat.le_of_ble_eq_true rfl) dX7_init_36 (fun H locs hz1 hw hS => ?_)
  have hz : H.size = s.heap.size + 4 := by omega
  have hw : zV D ([.inr (6, [.ref (ad 1), .ref (ad 2), .int 0, .int 0, .ref (ad 3), .int 0, .int 0, .int 0, .int 0, .int 0, .int 0, .ref (ad 4), .int 0, .int 0, .null, .int 0]), .inl (cy.1, 983, .inl (fun _ => 0)), .inl (cy.1, 3932, .inl (fun _ => 0)), .inl (cy.2.1, 25, .inl (fun _ => 0)), .inl (cy.1, 150, .inl (fun _ => 0))] : List va_E) ad H := hw
  refine lv_aload_n hx hb dX7_init_39 rfl (lv_at hl 0 rfl) ?_
  refine lv_sipush (v := (jI 200)) hx hb dX7_init_40 (by decide +kernel) ?_
  refine vnewa (es := ([.inr (6, [.ref (ad 1), .ref (ad 2), .int 0, .int 0, .ref (ad 3), .int 0, .int 0, .int 0, .int 0, .int 0, .int 0, .ref (ad 4), .int 0, .int 0, .null, .int 0]), .inl (cy.1, 983, .inl (fun _ => 0)), .inl (cy.1, 3932, .inl (fun _ => 0)), .inl (cy.2.1, 25, .inl (fun _ => 0)), .inl (cy.1, 150, .inl (fun _ => 0))] : List va_E)) (atype := .int) hx hb hts (List.mem_of_getElem? (i := 4) rfl) (zK_int hK) rfl hw 5 rfl (by rw [hz]; exact hadk 4) hS 200 (by decide +kernel) (by decide +kernel) (by decide) (Nat.le_of_ble_eq_true rfl) (Nat.le_of_ble_eq_true rfl) dX7_init_43 (fun H hz1 hw hS => ?_)
  have hz : H.size = s.heap.size + 5 := by omega
  have hw : zV D ([.inr (6, [.ref (ad 1), .ref (ad 2), .int 0, .int 0, .ref (ad 3), .int 0, .int 0, .int 0, .int 0, .int 0, .int 0, .ref (ad 4), .int 0, .int 0, .null, .int 0]), .inl (cy.1, 983, .inl (fun _ => 0)), .inl (cy.1, 3932, .inl (fun _ => 0)), .inl (cy.2.1, 25, .inl (fun _ => 0)), .inl (cy.1, 150, .inl (fun _ => 0)), .inl (cy.1, 200, .inl (fun _ => 0))] : List va_E) ad H := hw
  refine vputF (es := ([.inr (6, [.ref (ad 1), .ref (ad 2), .int 0, .int 0, .ref (ad 3), .int 0, .int 0, .int 0, .int 0, .int 0, .int 0, .ref (ad 4), .int 0, .int 0, .null, .int 0]), .inl (cy.1, 983, .inl (fun _ => 0)), .inl (cy.1, 3932, .inl (fun _ => 0)), .inl (cy.2.1, 25, .inl (fun _ => 0)), .inl (cy.1, 150, .inl (fun _ => 0)), .inl (cy.1, 200, .inl (fun _ => 0))] : List va_E)) (C := RX7) (T := TX7) (N := 16) (ci := 6) (v := .ref (ad 5)) (ty := (.array .int)) hx hb hts inX7 tyX7 tyX7_ok nmX7 hown hK (by exact hj 6) hw hS 0 (hA 0) rfl rfl 14 (by decide) (List.mem_of_getElem? (i := 10) rfl) (fun _ h9 => h9) rfl hin rfl (by decide +kernel) rfl rfl (Nat.le_of_ble_eq_true rfl) dX7_init_45 (fun H locs hz1 hw hS => ?_)
  have hz : H.size = s.heap.size + 5 := by omega
  have hw : zV D ([.inr (6, [.ref (ad 1), .ref (ad 2), .int 0, .int 0, .ref (ad 3), .int 0, .int 0, .int 0, .int 0, .int 0, .int 0, .ref (ad 4), .int 0, .int 0, .ref (ad 5), .int 0]), .inl (cy.1, 983, .inl (fun _ => 0)), .inl (cy.1, 3932, .inl (fun _ => 0)), .inl (cy.2.1, 25, .inl (fun _ => 0)), .inl (cy.1, 150, .inl (fun _ => 0)), .inl (cy.1, 200, .inl (fun _ => 0))] : List va_E) ad H := hw
  refine lv_aload_n hx hb dX7_init_48 rfl (lv_at hl 0 rfl) ?_
  refine vget (es := ([.inr (6, [.ref (ad 1), .ref (ad 2), .int 0, .int 0, .ref (ad 3), .int 0, .int 0, .int 0, .int 0, .int 0, .int 0, .ref (ad 4), .int 0, .int 0, .ref (ad 5), .int 0]), .inl (cy.1, 983, .inl (fun _ => 0)), .inl (cy.1, 3932, .inl (fun _ => 0)), .inl (cy.2.1, 25, .inl (fun _ => 0)), .inl (cy.1, 150, .inl (fun _ => 0)), .inl (cy.1, 200, .inl (fun _ => 0))] : List va_E)) hx hb hts inX7 hown hK hw 0 rfl rfl 0 (by decide) (List.mem_of_getElem? (i := 5) rfl) (fun _ h9 => h9) rfl dX7_init_49 ?_
  refine lv_iconst (v := (jI 0)) hx hb dX7_init_52 (by decide +kernel) ?_
  refine lv_iconst (v := (jI 1)) hx hb dX7_init_53 (by decide +kernel) ?_
  refine vaist (es := ([.inr (6, [.ref (ad 1), .ref (ad 2), .int 0, .int 0, .ref (ad 3), .int 0, .int 0, .int 0, .int 0, .int 0, .int 0, .ref (ad 4), .int 0, .int 0, .ref (ad 5), .int 0]), .inl (cy.1, 983, .inl (fun _ => 0)), .inl (cy.1, 3932, .inl (fun _ => 0)), .inl (cy.2.1, 25, .inl (fun _ => 0)), .inl (cy.1, 150, .inl (fun _ => 0)), .inl (cy.1, 200, .inl (fun _ => 0))] : List va_E)) hx hb hK (by exact hj 6) hw hS 1 (hA 1) rfl (jI_in (a := 0) (by decide) (by decide) (by decide)) dX7_init_54 (fun H locs hz1 hw hS => ?_)
  have hz : H.size = s.heap.size + 5 := by omega
  rw [show (jI 0).toNatClampNeg = 0 from by decide +kernel] at hw
  have hw : zV D ([.inr (6, [.ref (ad 1), .ref (ad 2), .int 0, .int 0, .ref (ad 3), .int 0, .int 0, .int 0, .int 0, .int 0, .int 0, .ref (ad 4), .int 0, .int 0, .ref (ad 5), .int 0]), .inl (cy.1, 983, .inl (upd (fun _ => 0) 0 (jI 1))), .inl (cy.1, 3932, .inl (fun _ => 0)), .inl (cy.2.1, 25, .inl (fun _ => 0)), .inl (cy.1, 150, .inl (fun _ => 0)), .inl (cy.1, 200, .inl (fun _ => 0))] : List va_E) ad H := hw
  refine W.widen (k := 5) (n := 5290) (Nat.le_of_ble_eq_true rfl) (Nat.le_of_ble_eq_true rfl) ?_
  have hw : zV D (lM cy (g1 0) ad) ad H := by rw [← g1_0] at hw; exact hw
  have lp2 : ∀ (k i : Nat), i + k = 144 → ∀ (H : Heap) (locs : List Loc), H.size = s.heap.size + 5 → zV D (lM cy (g2 i) ad) ad H → va_S (zAb b s.heap.size) s.heap H locs → ∀ ls : Array Slot, lv_has ls 2 [(1, .int (jI i)), (0, .ref (ad 0))] → W p l e ({ frames := 1, cells := 5, slots := 5290, locals := 12 } : Room) s m ([.ref b] : List Value).toArray below meth c H locs 5 5290 (MQ below (iQ D 5 (lM cy (g2 144)) b s.heap.size) ([.ref b] : List Value).toArray s 5 5290 (zAb b s.heap.size)) (F0 m 81 ls []) := by
    intro k
    induction k with
    | zero =>
      intro i hi H locs hz hw hS ls hl
      have e : i = 144 := by omega
      subst e
      refine lv_iload_n hx hb dX7_init_81 rfl (lv_at hl 0 rfl) ?_
      refine lv_sipush (v := jI 144) hx hb dX7_init_82 (by decide +kernel) ?_
      refine lv_icmp_ge (tgt := 107) hx hb dX7_init_85 (by decide) (fun _ => ?_) (fun c => absurd ((jI_le (by omega) (by omega) (by omega) (by omega)).mpr (Int.le_refl _)) c)
      exact W.vret hx hb hr (fun t ht hW => ⟨⟨(), rfl, trivial, by rw [ht, hz], by rw [ht, had]; exact hw⟩, hS.F ht⟩) hS.2.2 dX7_init_107
    | succ k ih =>
      intro i hi H locs hz hw hS ls hl
      refine lv_iload_n hx hb dX7_init_81 rfl (lv_at hl 0 rfl) ?_
      refine lv_sipush (v := jI 144) hx hb dX7_init_82 (by decide +kernel) ?_
      refine lv_icmp_ge (tgt := 107) hx hb dX7_init_85 (by decide) (fun c => absurd ((jI_le (by omega) (by omega) (by omega) (by omega)).mp c) (by omega)) (fun _ => ?_)
      refine lv_aload_n hx hb dX7_init_88 rfl (lv_at hl 1 rfl) ?_
      refine vget (es := lM cy (g2 i) ad) hx hb hts inX7 hown hK hw 0 rfl rfl 0 (by decide) (List.mem_of_getElem? (i := 5) rfl) (fun _ h9 => h9) rfl dX7_init_89 ?_
      refine lv_bipush (v := jI 119) hx hb dX7_init_92 (by decide +kernel) ?_
      refine lv_bipush (v := jI 6) hx hb dX7_init_94 (by decide +kernel) ?_
      refine lv_iload_n hx hb dX7_init_96 rfl (lv_at hl 0 rfl) ?_
      refine lv_imul hx hb dX7_init_97 ?_
      refine lv_iadd hx hb dX7_init_98 ?_
      refine lv_topi (fun x ex => ?_)
      rw [jI_mul, jI_add] at ex
      subst ex
      refine lv_iconst (v := jI (-1)) hx hb dX7_init_99 (by decide +kernel) ?_
      refine vaist (es := lM cy (g2 i) ad) hx hb hK (by exact hj 6) hw hS 1 (hA 1) rfl (jI_in (a := 119 + 6 * (i : Int)) (by omega) (by omega) (by omega)) dX7_init_100 (fun H locs hz2 hw hS => ?_)
      rw [jI_cl (by omega) (by omega), g2_next i (by omega)] at hw
      refine lv_iinc (v := jI ((i + 1 : Nat) : Int)) (lv' := [(1, .int (jI ((i + 1 : Nat) : Int))), (0, .ref (ad 0))]) hx hb dX7_init_101 hl (k := 0) rfl (jI_add i 1) (by decide) rfl (fun ls hl => ?_)
      refine lv_goto (tgt := 81) hx hb dX7_init_104 (by decide) ?_
      exact ih (i + 1) (by omega) H locs (hz2.trans hz) hw hS ls hl
  have lp1 : ∀ (k i : Nat), i + k = 32 → ∀ (H : Heap) (locs : List Loc), H.size = s.heap.size + 5 → zV D (lM cy (g1 i) ad) ad H → va_S (zAb b s.heap.size) s.heap H locs → ∀ ls : Array Slot, lv_has ls 2 [(1, .int (jI i)), (0, .ref (ad 0))] → W p l e ({ frames := 1, cells := 5, slots := 5290, locals := 12 } : Room) s m ([.ref b] : List Value).toArray below meth c H locs 5 5290 (MQ below (iQ D 5 (lM cy (g2 144)) b s.heap.size) ([.ref b] : List Value).toArray s 5 5290 (zAb b s.heap.size)) (F0 m 57 ls []) := by
    intro k
    induction k with
    | zero =>
      intro i hi H locs hz hw hS ls hl
      have e : i = 32 := by omega
      subst e
      refine lv_iload_n hx hb dX7_init_57 rfl (lv_at hl 0 rfl) ?_
      refine lv_bipush (v := jI 32) hx hb dX7_init_58 (by decide +kernel) ?_
      refine lv_icmp_ge (tgt := 79) hx hb dX7_init_60 (by decide) (fun _ => ?_) (fun c => absurd ((jI_le (by omega) (by omega) (by omega) (by omega)).mpr (Int.le_refl _)) c)
      refine lv_iconst (v := jI 0) hx hb dX7_init_79 (by decide +kernel) ?_
      refine lv_istore_n (lv' := [(1, .int (jI 0)), (0, .ref (ad 0))]) hx hb dX7_init_80 rfl hl (by decide) rfl (fun ls hl => ?_)
      rw [← g2_0] at hw
      exact lp2 144 0 rfl H locs hz hw hS ls hl
    | succ k ih =>
      intro i hi H locs hz hw hS ls hl
      refine lv_iload_n hx hb dX7_init_57 rfl (lv_at hl 0 rfl) ?_
      refine lv_bipush (v := jI 32) hx hb dX7_init_58 (by decide +kernel) ?_
      refine lv_icmp_ge (tgt := 79) hx hb dX7_init_60 (by decide) (fun c => absurd ((jI_le (by omega) (by omega) (by omega) (by omega)).mp c) (by omega)) (fun _ => ?_)
      refine lv_aload_n hx hb dX7_init_63 rfl (lv_at hl 1 rfl) ?_
      refine vget (es := lM cy (g1 i) ad) hx hb hts inX7 hown hK hw 0 rfl rfl 0 (by decide) (List.mem_of_getElem? (i := 5) rfl) (fun _ h9 => h9) rfl dX7_init_64 ?_
      refine lv_bipush (v := jI 12) hx hb dX7_init_67 (by decide +kernel) ?_
      refine lv_iload_n hx hb dX7_init_69 rfl (lv_at hl 0 rfl) ?_
      refine lv_iadd hx hb dX7_init_70 ?_
      refine lv_topi (fun x ex => ?_)
      rw [jI_add] at ex
      subst ex
      refine lv_iconst (v := jI 2) hx hb dX7_init_71 (by decide +kernel) ?_
      refine vaist (es := lM cy (g1 i) ad) hx hb hK (by exact hj 6) hw hS 1 (hA 1) rfl (jI_in (a := 12 + (i : Int)) (by omega) (by omega) (by omega)) dX7_init_72 (fun H locs hz2 hw hS => ?_)
      rw [jI_cl (by omega) (by omega), g1_next] at hw
      refine lv_iinc (v := jI ((i + 1 : Nat) : Int)) (lv' := [(1, .int (jI ((i + 1 : Nat) : Int))), (0, .ref (ad 0))]) hx hb dX7_init_73 hl (k := 0) rfl (jI_add i 1) (by decide) rfl (fun ls hl => ?_)
      refine lv_goto (tgt := 57) hx hb dX7_init_76 (by decide) ?_
      exact ih (i + 1) (by omega) H locs (hz2.trans hz) hw hS ls hl
  refine lv_iconst (v := jI 0) hx hb dX7_init_55 (by decide +kernel) ?_
  refine lv_istore_n (lv' := [(1, .int (jI 0)), (0, .ref (ad 0))]) hx hb dX7_init_56 rfl hl (by decide) rfl (fun ls hl => ?_)
  exact lp1 32 0 rfl H _ hz hw hS ls hl
theorem last_19 : True := trivial
