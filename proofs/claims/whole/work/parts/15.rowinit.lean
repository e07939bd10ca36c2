/-! Row's constructor and Row.fill -/
def lR (cy : cyT) (n : Nat) (g : Nat → Int32) (ad : Nat → Nat) : List va_E := [.inr (2, [.ref (ad 1)]), .inl (cy.1, n, .inl g)]
set_option maxHeartbeats 4000000 in
set_option maxRecDepth 100000 in
theorem c_X3_init (l : Launch) (D : va_G) (cy : cyT) (b sz n : Nat) (h0 : 0 < n) (hn : n ≤ 1000) : Met l yX3_init wsX3_init ({ frames := 1, cells := 1, slots := n, locals := 12 } : Room) (iPre D cy zNo b sz 2 [.null] [.int (jI n)]) (iQ D 1 (lR cy n (fun _ => 0)) b sz) 1 n (zAb b sz) := by
  refine Met.ofW (cc := cX3_init) (maxL := 2) (ret := none) (by decide) rfl ?_
  intro p e s m args below meth c s₁ B hml hv
  obtain ⟨rfl, hsz, hbs, hK, -, hat⟩ := hv
  have hx := B.exec
  have hb := B.bytes
  have hr := B.returns
  have hts := atoms_spec (ws := wsX3_init) B.pre
  have hown : s.vm.findClass RX3 = some m.cls := findClass_of_methodNamed B.named
  have hlocks := B.notSynchronized
  have hin : meth.name = "<init>" := (name_of_methodNamed B.named B.method).1
  have inX3 : ∀ w ∈ u_ws RX3 TX3 1, w ∈ wsX3_init := zin_at 6 rfl
  subst hsz
  have hS : va_S (zAb b s.heap.size) s.heap s.heap [] := va_S.rf
  have hw : zV D [.inr (2, [.null])] (adB b s.heap.size) s.heap := fun i x hx => by
    have hi := (List.getElem?_eq_some_iff.mp hx).1
    have e0 : i = 0 := by simp at hi; omega
    subst e0
    cases hx
    exact hat
  have hj := adB_inj hbs 2
  have hl := lv_entry ([.ref b, .int (jI n)]) (n := 2) (Nat.le_of_ble_eq_true rfl)
  rw [lg_entry_eq]
  generalize (lg_sl ([.ref b, .int (jI n)]) ++ List.replicate (2 - (lg_sl ([.ref b, .int (jI n)])).length) Slot.unset).toArray = ls at hl ⊢
  have hl : lv_has ls 2 [(0, .ref b), (1, .int (jI n))] := hl
  refine lv_aload_n hx hb dX3_init_0 rfl (lv_at hl 0 rfl) ?_
  refine W.objInit hx hb hown (hts (.methodLink RX3 1 objectInit) (List.mem_of_getElem? (i := 1) rfl)) (hts (.instanceMethod objectInit) (List.mem_of_getElem? (i := 2) rfl)) (hts (.code objectInit ⟨#[0xb1]⟩ 1 none) (List.mem_of_getElem? (i := 3) rfl)) rfl (by rw [hml]; exact hl.1) rfl dX3_init_1 (Nat.le_of_ble_eq_true rfl) (Nat.le_of_ble_eq_true rfl) ?_
  refine W.eq (g2 := F0 m 4 ls []) rfl ?_
  refine lv_aload_n hx hb dX3_init_4 rfl (lv_at hl 0 rfl) ?_
  refine lv_iload_n hx hb dX3_init_5 rfl (lv_at hl 1 rfl) ?_
  refine zif_le (tgt := 13) hx hb dX3_init_6 (by decide) (fun c1 => absurd ((jI_le (by omega) (by omega) (by omega) (by omega)).mp c1) (by omega)) (fun _ => ?_)
  refine lv_iload_n hx hb dX3_init_9 rfl (lv_at hl 1 rfl) ?_
  refine lv_goto (tgt := 14) hx hb dX3_init_10 (by decide) ?_
  refine vnewa (ad := adB b s.heap.size) (atype := .int) hx hb hts (List.mem_of_getElem? (i := 4) rfl) (zK_int hK) rfl hw 1 rfl rfl hS n (fun q => absurd ((jI_lt (a := n) (b := 0) (by omega) (by omega) (by omega) (by omega)).mp (z0 ▸ q)) (by omega)) (by rw [jI_cl (by omega) (by omega)]; omega) (by show n * 4 ≤ _; omega) (Nat.le_of_ble_eq_true rfl) (by show 0 + n ≤ n; omega) dX3_init_14 (fun H hz hw hS => ?_)
  refine vputF (es := [.inr (2, [.null]), .inl (cy.1, n, .inl (fun _ => 0))]) (C := RX3) (T := TX3) (N := 1) (ci := 2) (fs := [.null]) (v := .ref (adB b s.heap.size 1)) (ty := .array .int) hx hb hts inX3 tyX3 tyX3_ok nmX3 hown hK hj hw hS 0 (Or.inl rfl) rfl rfl 0 (by decide) (List.mem_of_getElem? (i := 5) rfl) (fun _ h9 => h9) rfl hin rfl (by decide +kernel) rfl rfl (Nat.le_of_ble_eq_true rfl) dX3_init_16 (fun H locs hz2 hw hS => ?_)
  have hw : zV D (lR cy n (fun _ => 0) (adB b s.heap.size)) (adB b s.heap.size) H := hw
  refine W.widen (k := 1) (n := n) (Nat.le_of_ble_eq_true rfl) (by omega) ?_
  exact W.vret hx hb hr (fun t ht hW => ⟨⟨(), rfl, trivial, by rw [ht, hz2, hz], by rw [ht]; exact hw⟩, hS.F ht⟩) hS.2.2 dX3_init_19
/-- Row.fill over its object and its array -/
def fPre (D : va_G) (cy : cyT) (b a sz n : Nat) (g : Nat → Int32) (v : Int32) : Array Value → State → Prop := va_Pc [.ref b, .int v] (fun U => U.heap.size = sz ∧ b ≠ a ∧ zK D cy U ∧ zV D (lR cy n g (adB b a)) (adB b a) U.heap)
def fB (D : va_G) (cy : cyT) (b a sz n : Nat) (g : Nat → Int32) : Unit → State → Prop := fun _ t => t.heap.size = sz ∧ zV D (lR cy n g (adB b a)) (adB b a) t.heap
def gfill (k : Nat) (v : Int32) (g : Nat → Int32) : Nat → Int32 := fun i => if i < k then v else g i
theorem gfill_next (k : Nat) (v : Int32) (g : Nat → Int32) : upd (gfill k v g) k v = gfill (k + 1) v g := by
  funext i
  unfold gfill upd
  by_cases h : i = k
  · subst h
    simp
  · by_cases h2 : i < k
    · simp [h, h2, Nat.lt_succ_of_lt h2]
    · simp [h, h2, show ¬ i < k + 1 by omega]
theorem zI_two {b a : Nat} (h : b ≠ a) : zI 2 (adB b a) := by
  intro i j hi hj e
  rcases i with _ | _ | i
  · rcases j with _ | _ | j
    · rfl
    · exact absurd (show b = a from e) h
    · omega
  · rcases j with _ | _ | j
    · exact absurd (show b = a from e.symm) h
    · rfl
    · omega
  · omega
set_option maxHeartbeats 4000000 in
set_option maxRecDepth 100000 in
theorem c_X3_fill (l : Launch) (D : va_G) (cy : cyT) (b a sz n : Nat) (hn : n ≤ 1000) (g : Nat → Int32) (v : Int32) : Met l yX3_fill wsX3_fill ({ frames := 0, cells := 0, slots := 0, locals := 0 } : Room) (fPre D cy b a sz n g v) (va_Qv (fun _ : Unit => True) (fB D cy b a sz n (gfill n v g)) (fun q => q = a)) 0 0 (fun q => q = a) := by
  refine Met.ofW (cc := cX3_fill) (maxL := 3) (ret := none) (by decide) rfl ?_
  intro p e s m args below meth c s₁ B hml hv
  obtain ⟨rfl, hsz, hba, hK, hw⟩ := hv
  have hx := B.exec
  have hb := B.bytes
  have hr := B.returns
  have hts := atoms_spec (ws := wsX3_fill) B.pre
  have hown : s.vm.findClass RX3 = some m.cls := findClass_of_methodNamed B.named
  have hlocks := B.notSynchronized
  have lk0 : Cond.fieldLink RX3 7 "TypeTrays$Row" "cells" "[I" ∈ wsX3_fill := List.mem_of_getElem? (i := 1) rfl
  have inX3 : ∀ w ∈ u_ws RX3 TX3 1, w ∈ wsX3_fill := zin_at 2 rfl
  have hj := zI_two hba
  have hS : va_S (fun q => q = a) s.heap s.heap [] := va_S.rf
  have hl := lv_entry ([.ref b, .int v]) (n := 3) (Nat.le_of_ble_eq_true rfl)
  rw [lg_entry_eq]
  generalize (lg_sl ([.ref b, .int v]) ++ List.replicate (3 - (lg_sl ([.ref b, .int v])).length) Slot.unset).toArray = ls at hl ⊢
  have hl : lv_has ls 3 [(0, .ref b), (1, .int v)] := hl
  refine lv_iconst (v := jI 0) hx hb dX3_fill_0 (by decide +kernel) ?_
  refine lv_istore_n (lv' := [(2, .int (jI 0)), (0, .ref b), (1, .int v)]) hx hb dX3_fill_1 rfl hl (by decide) rfl (fun ls hl => ?_)
  have lp : ∀ (k i : Nat), i + k = n → ∀ (H : Heap) (locs : List Loc), H.size = sz → zV D (lR cy n (gfill i v g) (adB b a)) (adB b a) H → va_S (fun q => q = a) s.heap H locs → ∀ ls : Array Slot, lv_has ls 3 [(2, .int (jI i)), (0, .ref b), (1, .int v)] → W p l e ({ frames := 0, cells := 0, slots := 0, locals := 0 } : Room) s m ([.ref b, .int v] : List Value).toArray below meth c H locs 0 0 (MQ below (va_Qv (fun _ : Unit => True) (fB D cy b a sz n (gfill n v g)) (fun q => q = a)) ([.ref b, .int v] : List Value).toArray s 0 0 (fun q => q = a)) (F0 m 2 ls []) := by
    intro k
    induction k with
    | zero =>
      intro i hi H locs hz hw hS ls hl
      have e : i = n := by omega
      subst e
      refine lv_iload_n hx hb dX3_fill_2 rfl (lv_at hl 0 rfl) ?_
      refine lv_aload_n hx hb dX3_fill_3 rfl (lv_at hl 1 rfl) ?_
      refine vget (ad := adB b a) hx hb hts inX3 hown hK hw 0 rfl rfl 0 (by decide) lk0 (fun _ h9 => h9) rfl dX3_fill_4 ?_
      refine valen (ad := adB b a) (t0 := 0) (v := jI i) hx hb hK hw 1 rfl rfl (jI_nI i) dX3_fill_7 ?_
      refine lv_icmp_ge (tgt := 24) hx hb dX3_fill_8 (by decide) (fun _ => ?_) (fun c => absurd ((jI_le (by omega) (by omega) (by omega) (by omega)).mpr (Int.le_refl _)) c)
      exact W.vret hx hb hr (fun t ht hW => ⟨⟨(), rfl, trivial, by rw [ht, hz], by rw [ht]; exact hw⟩, hS.F ht⟩) hS.2.2 dX3_fill_24
    | succ k ih =>
      intro i hi H locs hz hw hS ls hl
      refine lv_iload_n hx hb dX3_fill_2 rfl (lv_at hl 0 rfl) ?_
      refine lv_aload_n hx hb dX3_fill_3 rfl (lv_at hl 1 rfl) ?_
      refine vget (ad := adB b a) hx hb hts inX3 hown hK hw 0 rfl rfl 0 (by decide) lk0 (fun _ h9 => h9) rfl dX3_fill_4 ?_
      refine valen (ad := adB b a) (t0 := 0) (v := jI n) hx hb hK hw 1 rfl rfl (jI_nI n) dX3_fill_7 ?_
      refine lv_icmp_ge (tgt := 24) hx hb dX3_fill_8 (by decide) (fun c => absurd ((jI_le (by omega) (by omega) (by omega) (by omega)).mp c) (by omega)) (fun _ => ?_)
      refine lv_aload_n hx hb dX3_fill_11 rfl (lv_at hl 1 rfl) ?_
      refine vget (ad := adB b a) hx hb hts inX3 hown hK hw 0 rfl rfl 0 (by decide) lk0 (fun _ h9 => h9) rfl dX3_fill_12 ?_
      refine lv_iload_n hx hb dX3_fill_15 rfl (lv_at hl 0 rfl) ?_
      refine lv_iload_n hx hb dX3_fill_16 rfl (lv_at hl 2 rfl) ?_
      refine vaist (es := lR cy n (gfill i v g) (adB b a)) (ad := adB b a) hx hb hK hj hw hS 1 rfl rfl (jI_in (a := i) (by omega) (by omega) (by omega)) dX3_fill_17 (fun H locs hz2 hw hS => ?_)
      rw [jI_cl (by omega) (by omega), Int.toNat_natCast, gfill_next] at hw
      refine lv_iinc (v := jI ((i + 1 : Nat) : Int)) (lv' := [(2, .int (jI ((i + 1 : Nat) : Int))), (0, .ref b), (1, .int v)]) hx hb dX3_fill_18 hl (k := 0) rfl (jI_add i 1) (by decide) rfl (fun ls hl => ?_)
      refine lv_goto (tgt := 2) hx hb dX3_fill_21 (by decide) ?_
      exact ih (i + 1) (by omega) H locs (hz2.trans hz) hw hS ls hl
  have e0 : gfill 0 v g = g := by
    funext i
    exact if_neg (Nat.not_lt_zero i)
  exact lp n 0 (by omega) s.heap [] hsz (by rw [e0]; exact hw) hS ls hl
theorem last_15 : True := trivial
