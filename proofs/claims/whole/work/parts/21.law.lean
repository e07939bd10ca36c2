/-! printed by wip/whole/gen6.py: the law's own methods, which catch -/
def zE3 : List String := ["java/lang/IndexOutOfBoundsException", "java/lang/IllegalArgumentException", "java/lang/IllegalStateException"]
def zCa (U : State) : Prop := (∀ a ∈ zE3, va_Nw (.castable a a) U) ∧ ∀ a ∈ zE3, ∀ b ∈ zE3, a ≠ b → va_Nc a b U
theorem zCa.moved {s U : State} (hW : s.WarmedH U.vm) (h : zCa s) : zCa U := ⟨fun a ha => va_Nw.warmC hW (h.1 a ha), fun a ha b hb n => va_Nc.moved hW.alike (h.2 a ha b hb n)⟩
theorem zCa.same {s U : State} (hv : s.vm = U.vm) (h : zCa s) : zCa U := zCa.moved (by rw [← hv]; exact State.WarmedH.refl s) h
def zO (cL : ClassId) (v : Int64) (o : Nat) (H : Heap) : Prop := H[o]? = some (vp_cell cL (1, .inr (.inl (fun _ => v))))
theorem zO_lt {cL : ClassId} {v : Int64} {o : Nat} {H : Heap} (h : zO cL v o H) : o < H.size := (Array.getElem?_eq_some_iff.mp h).1
theorem zO_kept {cL : ClassId} {v : Int64} {o : Nat} {H H1 : Heap} (h : zO cL v o H) (hq : H1[o]? = H[o]?) : zO cL v o H1 := hq.trans h
def lA (ad : Nat → Nat) (sz o : Nat) : Nat → Prop := fun q => zAn 116 ad sz q ∨ q = o
def lB (D : va_G) (cy : cyT) (cL : ClassId) (ad : Nat → Nat) (o : Nat) : ST × Int64 → State → Prop := fun u t => zW D 116 (zce cy ad u.1) ad t.heap ∧ zO cL u.2 o t.heap
def lPre (D : va_G) (cy : cyT) (cL : ClassId) (ad : Nat → Nat) (AL : Nat → Prop) (sa : Nat → Nat) (sz : Nat) (σ : ST) (v : Int64) (o : Nat) (As : List Value) : Array Value → State → Prop := va_Pc As (fun U => U.heap.size = sz ∧ zI 116 ad ∧ zK D cy U ∧ zW D 116 (zce cy ad σ) ad U.heap ∧ zX AL sa U ∧ zAL AL 116 ad U.heap.size ∧ ArrOfT U cL .long ∧ zCa U ∧ zO cL v o U.heap ∧ ∀ i, i < 116 → ad i ≠ o)
theorem lblind {D : va_G} {cy : cyT} {cL : ClassId} {ad : Nat → Nat} {AL : Nat → Prop} {sa : Nat → Nat} {sz : Nat} {σ : ST} {v : Int64} {o : Nat} {As : List Value} : FrameBlind (lPre D cy cL ad AL sa sz σ v o As) := fun _ U _ _ h => by
  obtain ⟨h1, h2, h3, h4, h5, h6, h7, h8, h9, h10, h11⟩ := h
  exact ⟨h1, h2, h3, zK.same (s := U) rfl h4, h5, zX.same (s := U) rfl rfl h6, h7, arrOfT_moved (Vm.Alike.refl U.vm) h8, zCa.same (s := U) rfl h9, h10, h11⟩
theorem xpreV {D : va_G} {cy : cyT} {ad : Nat → Nat} {AL : Nat → Prop} {sa : Nat → Nat} {s : State} {σ : ST} (hj : zI 116 ad) (hK : zK D cy s) (hw : zW D 116 (zce cy ad σ) ad s.heap) (hX : zX AL sa s) (hAL : zAL AL 116 ad s.heap.size) (As : List Value) : PreV s s.heap RX6 (ad 0) (xPre D cy 116 (zce cy ad σ) ad AL sa s.heap.size (.ref (ad 0) :: As)) As :=
  ⟨xblind, va_recv (cl := vwCl) hK.1 (hw.one (i := 0) (by decide) rfl) (q := (RX6, TX6, 4)) rfl (q0 := 0) rfl, fun U hU hW => ⟨rfl, by rw [hU], hj, hK.moved hW, by rw [hU]; exact hw, zX.moved hW (fun a _ _ => by rw [hU]) hX, hAL.1, fun q hq => hAL.2 q (by rw [← hU]; exact hq)⟩⟩
theorem zlast {p : Program} {l : Launch} {e : Env} {R : Room} {s : State} {m : MethodId} {args : Array Value} {below : List Frame} {meth : Method} {c : Code} {H : Heap} {locs : List Loc} {cells slots : Nat} {Q : State → Prop} {cc : ByteArray} {pc : Nat} {ls : Array Slot} {rest : List Value} {A0 : Nat → Prop} {H0 : Heap} {cL : ClassId} {v x : Int64} {o : Nat} (hx : p.tables.exec = Jvm.exec) (hb : c.code = cc) (hLo : ArrOfT s cL .long) (hO : zO cL v o H) (hS : va_S A0 H0 H locs) (hA : A0 o) (hdg : decode cc pc = .ok (.lastore, 1))
    (kk : ∀ (H1 : Heap) (locs : List Loc), H1.size = H.size → zO cL x o H1 → (∀ q : Nat, q ≠ o → H1[q]? = H[q]?) → va_S A0 H0 H1 locs → W p l e R s m args below meth c H1 locs cells slots Q (F0 m (pc + 1) ls rest)) : W p l e R s m args below meth c H locs cells slots Q (F0 m pc ls (.long x :: .int (jI 0) :: .ref o :: rest)) := by
  have hin : vp_in (jI 0) 1 := jI_in (by decide) (by decide) (by decide)
  refine W.last hx hb hO (hLo 1 (fun j => .long v)) (fun q => by cases q) (by show ¬ (jI 0 < 0 ∨ (arrV _ _ _).slots.size ≤ _); rw [arrV_size]; exact hin) rfl rfl hdg fun H1 e z oq => ?_
  refine kk H1 _ z ?_ oq (hS.put z oq hA)
  show H1[o]? = some (vp_cell _ _)
  rw [e]
  rw [vp_cell_l, vp_cell_l, arrV_store]
  congr 1
def wL_cut (σ : ST) (p0 : Int32) (p1 : Int32) (p2 : Int32) (v : Int64) (Q : Int32 → Int64 → ST → Prop) : Prop :=
  wx_X6_cut σ p0 p1 p2 (fun x τ => Q (jI 0) x.toInt64 τ) (fun e τ => match e with | 1 => Q (jI 1) v τ | 2 => Q (jI 2) v τ | 3 => False | _ => False)
def wL_use (σ : ST) (p0 : Int32) (p1 : Int32) (p2 : Int32) (v : Int64) (Q : Int32 → Int64 → ST → Prop) : Prop :=
  wx_X6_use σ p0 p1 p2 (fun x τ => Q (jI 0) x.toInt64 τ) (fun e τ => match e with | 1 => Q (jI 1) v τ | 2 => Q (jI 2) v τ | 3 => Q (jI 3) v τ | _ => False)
def wL_drop (σ : ST) (p0 : Int32) (p1 : Int32) (p2 : Int32) (v : Int64) (Q : Int32 → Int64 → ST → Prop) : Prop :=
  wx_X6_drop σ p0 p1 p2 (fun x τ => Q (jI 0) x.toInt64 τ) (fun e τ => match e with | 1 => Q (jI 1) v τ | 2 => Q (jI 2) v τ | 3 => Q (jI 3) v τ | _ => False)
def wL_addTray (σ : ST) (v : Int64) (Q : Int32 → Int64 → ST → Prop) : Prop :=
  wx_X6_addTray σ (fun x τ => Q (jI 0) x.toInt64 τ) (fun e τ => match e with | 1 => False | 2 => False | 3 => Q (jI 1) v τ | _ => False)
def wL_letter (σ : ST) (p0 : Int32) (p1 : Int32) (p2 : Int32) (p3 : Int32) (v : Int64) (Q : Int32 → Int64 → ST → Prop) : Prop :=
  wx_X6_letter σ p0 p1 p2 p3 (fun x τ => Q (jI 0) x.toInt64 τ) (fun e τ => match e with | 1 => Q (jI 1) v τ | 2 => Q (jI 2) v τ | 3 => False | _ => False)
def wL_sign (σ : ST) (p0 : Int32) (p1 : Int32) (v : Int64) (Q : Int32 → Int64 → ST → Prop) : Prop :=
  wx_X6_sign σ p0 p1 (fun x τ => Q (jI 0) x.toInt64 τ) (fun e τ => match e with | 1 => Q (jI 1) v τ | 2 => Q (jI 2) v τ | 3 => False | _ => False)
def wL_tray (σ : ST) (p0 : Int32) (p1 : Int32) (v : Int64) (Q : Int32 → Int64 → ST → Prop) : Prop :=
  wx_X6_tray σ p0 p1 (fun x τ => Q (jI 0) x.toInt64 τ) (fun e τ => match e with | 1 => Q (jI 1) v τ | 2 => Q (jI 2) v τ | 3 => False | _ => False)
def wL_shelf (σ : ST) (p0 : Int32) (p1 : Int32) (p2 : Int32) (v : Int64) (Q : Int32 → Int64 → ST → Prop) : Prop :=
  wx_X6_shelf σ p0 p1 p2 (fun x τ => Q (jI 0) x.toInt64 τ) (fun e τ => match e with | 1 => Q (jI 1) v τ | 2 => Q (jI 2) v τ | 3 => False | _ => False)
def wL_at (σ : ST) (p0 : Int32) (p1 : Int32) (p2 : Int32) (v : Int64) (Q : Int32 → Int64 → ST → Prop) : Prop :=
  wx_X6_at σ p0 p1 p2 (fun x τ => Q (jI 0) x.toInt64 τ) (fun e τ => match e with | 1 => Q (jI 1) v τ | 2 => Q (jI 2) v τ | 3 => False | _ => False)
def wL_street (σ : ST) (p0 : Int32) (v : Int64) (Q : Int32 → Int64 → ST → Prop) : Prop :=
  wx_X6_street σ p0 (fun x τ => Q (jI 0) x.toInt64 τ) (fun e τ => match e with | 1 => False | 2 => Q (jI 1) v τ | 3 => False | _ => False)
def wL_whole (σ : ST) (p0 : Int32) (v : Int64) (Q : Int32 → Int64 → ST → Prop) : Prop :=
  wx_X6_whole σ p0 (fun x τ => Q (jI 0) x.toInt64 τ) (fun e τ => match e with | 1 => False | 2 => Q (jI 1) v τ | 3 => False | _ => False)
def wL_rule (σ : ST) (p0 : Int32) (p1 : Int32) (p2 : Int32) (v : Int64) (Q : Int32 → Int64 → ST → Prop) : Prop :=
  wx_X6_rule σ p0 p1 p2 (fun x τ => Q (jI 0) x.toInt64 τ) (fun e τ => match e with | 1 => Q (jI 1) v τ | 2 => Q (jI 2) v τ | 3 => False | _ => False)
def wL_takenBy (σ : ST) (p0 : Int32) (p1 : Int32) (p2 : Int32) (v : Int64) (Q : Int32 → Int64 → ST → Prop) : Prop :=
  wx_X6_takenBy σ p0 p1 p2 (fun x τ => Q (jI 0) x.toInt64 τ) (fun e τ => match e with | 1 => Q (jI 1) v τ | 2 => Q (jI 2) v τ | 3 => False | _ => False)
def wL_costOf (σ : ST) (p0 : Int32) (p1 : Int32) (p2 : Int32) (v : Int64) (Q : Int32 → Int64 → ST → Prop) : Prop :=
  wx_X6_costOf σ p0 p1 p2 (fun x τ => Q (jI 0) x.toInt64 τ) (fun e τ => match e with | 1 => Q (jI 1) v τ | 2 => Q (jI 2) v τ | 3 => False | _ => False)
def wL_type (σ : ST) (p0 : Int32) (v : Int64) (Q : Int32 → Int64 → ST → Prop) : Prop :=
  wx_X6_type σ p0 (fun x τ => Q (jI 0) x.toInt64 τ) (fun e τ => match e with | 1 => False | 2 => Q (jI 1) v τ | 3 => Q (jI 2) v τ | _ => False)
def wL_undo (σ : ST) (v : Int64) (Q : Int32 → Int64 → ST → Prop) : Prop :=
  wx_X6_undo σ (fun x τ => Q (jI 0) x.toInt64 τ) (fun e τ => match e with | 1 => False | 2 => False | 3 => Q (jI 1) v τ | _ => False)
set_option maxHeartbeats 4000000 in
set_option maxRecDepth 100000 in
theorem c_L_cut (l : Launch) (hlt : l.stackTraces = false) (D : va_G) (cy : cyT) (cL : ClassId) (ad : Nat → Nat) (AL : Nat → Prop) (sa : Nat → Nat) (sz : Nat) (σ : ST) (p0 : Int32) (p1 : Int32) (p2 : Int32) (v : Int64) (o : Nat) {Q : Int32 → Int64 → ST → Prop} (h : wL_cut σ p0 p1 p2 v Q) : Met l yL_cut wsL_cut ({ frames := 8, cells := 1, slots := 6, locals := 133 } : Room) (lPre D cy cL ad AL sa sz σ v o [.ref (ad 0), .int p0, .int p1, .int p2, .ref o]) (va_Qi (fun r (u : ST × Int64) => Q r u.2 u.1) (lB D cy cL ad o) (lA ad sz o)) 1 6 (lA ad sz o) := by
  refine va_MetW (hh := [(0, 12, 15, 13), (0, 12, 19, 15)]) (cc := cL_cut) (maxL := 6) (ret := some .int) (by decide) rfl ?_
  intro p e s m args below meth c s₁ B hml hv
  obtain ⟨rfl, hsz, hj, hK, hw, hX, hAL, hLo, hCa, hO, hno⟩ := hv
  subst hsz
  have hx := B.exec
  have hb := B.bytes
  have hr := B.returns
  have hts := atoms_spec (ws := wsL_cut) B.pre
  have hown : s.vm.findClass RL = some m.cls := findClass_of_methodNamed B.named
  have htb : c.exceptionTable.toList = tableOf [(0, 12, 15, 13), (0, 12, 19, 15)] := vx_table (x := yL_cut) (maxL' := 6) (ret' := some .int) (bytes := cL_cut) (y := yL_cut) B (hts _ (List.mem_of_getElem? (i := 0) rfl))
  have hoz : o < s.heap.size := zO_lt hO
  have hS : va_S (lA ad s.heap.size o) s.heap s.heap [] := va_S.rf
  have hl := lv_entry ([.ref (ad 0), .int p0, .int p1, .int p2, .ref o]) (n := 6) (Nat.le_of_ble_eq_true rfl)
  rw [lg_entry_eq]
  generalize (lg_sl ([.ref (ad 0), .int p0, .int p1, .int p2, .ref o]) ++ List.replicate (6 - (lg_sl ([.ref (ad 0), .int p0, .int p1, .int p2, .ref o])).length) Slot.unset).toArray = ls at hl ⊢
  have hl : lv_has ls 6 [(0, .ref (ad 0)), (1, .int p0), (2, .int p1), (3, .int p2), (4, .ref o)] := hl
  show W p l e ({ frames := 8, cells := 1, slots := 6, locals := 133 } : Room) s m ([.ref (ad 0), .int p0, .int p1, .int p2, .ref o] : List Value).toArray below meth c s.heap [] 0 0 (MQ below (va_Qi (fun r (u : ST × Int64) => Q r u.2 u.1) (lB D cy cL ad o) (lA ad s.heap.size o)) ([.ref (ad 0), .int p0, .int p1, .int p2, .ref o] : List Value).toArray s 1 6 (lA ad s.heap.size o)) (F0 m 0 ls [])
  refine lv_aload hx hb dL_cut_0 (lv_at hl 4 rfl) ?_
  refine lv_iconst (v := jI 0) hx hb dL_cut_2 (by decide +kernel) ?_
  refine lv_aload_n hx hb dL_cut_3 rfl (lv_at hl 0 rfl) ?_
  refine lv_iload_n hx hb dL_cut_4 rfl (lv_at hl 1 rfl) ?_
  refine lv_iload_n hx hb dL_cut_5 rfl (lv_at hl 2 rfl) ?_
  refine lv_iload_n hx hb dL_cut_6 rfl (lv_at hl 3 rfl) ?_
  refine vx_calli (vx_runV (As := [.int p0, .int p1, .int p2]) (rest := [.int (jI 0), .ref o]) ⟨hx, hb, hml, hown, hts⟩ (t_X6_cut l hlt D cy ad AL sa s.heap.size σ p0 p1 p2 h) (cwV 3 hts gL_cut_X6_cut rfl rfl rfl (by decide +kernel) ⟨(Nat.le_of_ble_eq_true rfl), (Nat.le_of_ble_eq_true rfl)⟩) (xpreV hj hK hw hX hAL _) rfl rfl hl.1 rfl (lv_room (Nat.le_of_ble_eq_true rfl)) dL_cut_7 ⟨(Nat.le_of_ble_eq_true rfl), (Nat.le_of_ble_eq_true rfl)⟩) hS (fun q _ hq => Or.inl hq) (fun q hq => Or.inl hq) (fun q _ hq => Or.inl hq) (fun E ce q9 u t H locs ht hal hpu hBX hz hk hS hcell hvm hcl => ?_) (fun r u t H locs ht hal hp hB hz hk hS => ?_)
  · have hO1 : zO cL v o H := zO_kept hO (hk o hoz (fun q => q.elim (fun ⟨i, hi, z⟩ => hno i hi z.symm) (fun z => absurd hoz (Nat.not_lt.mpr z))))
    obtain ⟨n9, τ⟩ := u
    rcases n9 with _ | _ | _ | _ | n9
    · exact hpu.elim
    · obtain ⟨hE, hw1⟩ := hBX
      have hE : E = "java/lang/IndexOutOfBoundsException" := hE
      subst hE
      refine vx_catch (name := "java/lang/IndexOutOfBoundsException") hown [] ⟨0, 12, 15, 13⟩ [⟨0, 12, 19, 15⟩] (htb.trans rfl) (fun z hz9 => absurd hz9 List.not_mem_nil) (by decide) (by decide) (hts _ (List.mem_of_getElem? (i := 1) rfl)) (va_Nw.use rfl (hCa.1 _ (by decide +kernel))) hcell hvm hcl ?_
      refine lv_astore (lv' := [(5, .ref q9), (0, .ref (ad 0)), (1, .int p0), (2, .int p1), (3, .int p2), (4, .ref o)]) hx hb dL_cut_15 hl (by decide) rfl (fun ls hl => ?_)
      refine lv_iconst (v := jI 1) hx hb dL_cut_17 (by decide +kernel) ?_
      refine W.widen (k := 1) (n := 6) (Nat.le_of_ble_eq_true rfl) (Nat.le_of_ble_eq_true rfl) ?_
      exact W.iret (v := jI 1) hx hb hr (fun t2 ht2 hW => ⟨⟨_, (τ, v), rfl, hpu, by rw [ht2, ← ht]; exact hw1, by rw [ht2]; exact hO1⟩, hS.F ht2⟩) hS.2.2 dL_cut_18
    · obtain ⟨hE, hw1⟩ := hBX
      have hE : E = "java/lang/IllegalArgumentException" := hE
      subst hE
      refine vx_catch (name := "java/lang/IllegalArgumentException") hown [⟨0, 12, 15, 13⟩] ⟨0, 12, 19, 15⟩ [] (htb.trans rfl) (fun z hz9 => by
      cases List.mem_singleton.mp hz9
      exact Or.inr ⟨by decide, "java/lang/IndexOutOfBoundsException", hts _ (List.mem_of_getElem? (i := 1) rfl), hCa.2 _ (by decide +kernel) _ (by decide +kernel) (by decide +kernel)⟩) (by decide) (by decide) (hts _ (List.mem_of_getElem? (i := 2) rfl)) (va_Nw.use rfl (hCa.1 _ (by decide +kernel))) hcell hvm hcl ?_
      refine lv_astore (lv' := [(5, .ref q9), (0, .ref (ad 0)), (1, .int p0), (2, .int p1), (3, .int p2), (4, .ref o)]) hx hb dL_cut_19 hl (by decide) rfl (fun ls hl => ?_)
      refine lv_iconst (v := jI 2) hx hb dL_cut_21 (by decide +kernel) ?_
      refine W.widen (k := 1) (n := 6) (Nat.le_of_ble_eq_true rfl) (Nat.le_of_ble_eq_true rfl) ?_
      exact W.iret (v := jI 2) hx hb hr (fun t2 ht2 hW => ⟨⟨_, (τ, v), rfl, hpu, by rw [ht2, ← ht]; exact hw1, by rw [ht2]; exact hO1⟩, hS.F ht2⟩) hS.2.2 dL_cut_22
    · exact hpu.elim
    · exact hpu.elim
  · have hO1 : zO cL v o H := zO_kept hO (hk o hoz (fun q => q.elim (fun ⟨i, hi, z⟩ => hno i hi z.symm) (fun z => absurd hoz (Nat.not_lt.mpr z))))
    refine lv_i2l (v := r.toInt64) hx hb dL_cut_10 rfl ?_
    have hw1 : zW D 116 (zce cy ad u) ad H := by rw [← ht]; exact hB
    refine zlast hx hb hLo hO1 hS (Or.inr rfl) dL_cut_11 (fun H2 locs hz2 hO2 hq2 hS => ?_)
    have hw2 : zW D 116 (zce cy ad u) ad H2 := fun i hi => (hw1 i hi).kept (hq2 _ (hno i hi))
    refine lv_goto (tgt := 23) hx hb dL_cut_12 (by decide) ?_
    refine lv_iconst (v := jI 0) hx hb dL_cut_23 (by decide +kernel) ?_
    refine W.widen (k := 1) (n := 6) (Nat.le_of_ble_eq_true rfl) (Nat.le_of_ble_eq_true rfl) ?_
    exact W.iret (v := jI 0) hx hb hr (fun t2 ht2 hW => ⟨⟨_, (u, r.toInt64), rfl, hp, by rw [ht2]; exact hw2, by rw [ht2]; exact hO2⟩, hS.F ht2⟩) hS.2.2 dL_cut_24
set_option maxHeartbeats 4000000 in
set_option maxRecDepth 100000 in
theorem c_L_use (l : Launch) (hlt : l.stackTraces = false) (D : va_G) (cy : cyT) (cL : ClassId) (ad : Nat → Nat) (AL : Nat → Prop) (sa : Nat → Nat) (sz : Nat) (σ : ST) (p0 : Int32) (p1 : Int32) (p2 : Int32) (v : Int64) (o : Nat) {Q : Int32 → Int64 → ST → Prop} (h : wL_use σ p0 p1 p2 v Q) : Met l yL_use wsL_use ({ frames := 8, cells := 1, slots := 6, locals := 160 } : Room) (lPre D cy cL ad AL sa sz σ v o [.ref (ad 0), .int p0, .int p1, .int p2, .ref o]) (va_Qi (fun r (u : ST × Int64) => Q r u.2 u.1) (lB D cy cL ad o) (lA ad sz o)) 1 6 (lA ad sz o) := by
  refine va_MetW (hh := [(0, 12, 15, 13), (0, 12, 19, 15), (0, 12, 23, 20)]) (cc := cL_use) (maxL := 6) (ret := some .int) (by decide) rfl ?_
  intro p e s m args below meth c s₁ B hml hv
  obtain ⟨rfl, hsz, hj, hK, hw, hX, hAL, hLo, hCa, hO, hno⟩ := hv
  subst hsz
  have hx := B.exec
  have hb := B.bytes
  have hr := B.returns
  have hts := atoms_spec (ws := wsL_use) B.pre
  have hown : s.vm.findClass RL = some m.cls := findClass_of_methodNamed B.named
  have htb : c.exceptionTable.toList = tableOf [(0, 12, 15, 13), (0, 12, 19, 15), (0, 12, 23, 20)] := vx_table (x := yL_use) (maxL' := 6) (ret' := some .int) (bytes := cL_use) (y := yL_use) B (hts _ (List.mem_of_getElem? (i := 0) rfl))
  have hoz : o < s.heap.size := zO_lt hO
  have hS : va_S (lA ad s.heap.size o) s.heap s.heap [] := va_S.rf
  have hl := lv_entry ([.ref (ad 0), .int p0, .int p1, .int p2, .ref o]) (n := 6) (Nat.le_of_ble_eq_true rfl)
  rw [lg_entry_eq]
  generalize (lg_sl ([.ref (ad 0), .int p0, .int p1, .int p2, .ref o]) ++ List.replicate (6 - (lg_sl ([.ref (ad 0), .int p0, .int p1, .int p2, .ref o])).length) Slot.unset).toArray = ls at hl ⊢
  have hl : lv_has ls 6 [(0, .ref (ad 0)), (1, .int p0), (2, .int p1), (3, .int p2), (4, .ref o)] := hl
  show W p l e ({ frames := 8, cells := 1, slots := 6, locals := 160 } : Room) s m ([.ref (ad 0), .int p0, .int p1, .int p2, .ref o] : List Value).toArray below meth c s.heap [] 0 0 (MQ below (va_Qi (fun r (u : ST × Int64) => Q r u.2 u.1) (lB D cy cL ad o) (lA ad s.heap.size o)) ([.ref (ad 0), .int p0, .int p1, .int p2, .ref o] : List Value).toArray s 1 6 (lA ad s.heap.size o)) (F0 m 0 ls [])
  refine lv_aload hx hb dL_use_0 (lv_at hl 4 rfl) ?_
  refine lv_iconst (v := jI 0) hx hb dL_use_2 (by decide +kernel) ?_
  refine lv_aload_n hx hb dL_use_3 rfl (lv_at hl 0 rfl) ?_
  refine lv_iload_n hx hb dL_use_4 rfl (lv_at hl 1 rfl) ?_
  refine lv_iload_n hx hb dL_use_5 rfl (lv_at hl 2 rfl) ?_
  refine lv_iload_n hx hb dL_use_6 rfl (lv_at hl 3 rfl) ?_
  refine vx_calli (vx_runV (As := [.int p0, .int p1, .int p2]) (rest := [.int (jI 0), .ref o]) ⟨hx, hb, hml, hown, hts⟩ (t_X6_use l hlt D cy ad AL sa s.heap.size σ p0 p1 p2 h) (cwV 3 hts gL_use_X6_use rfl rfl rfl (by decide +kernel) ⟨(Nat.le_of_ble_eq_true rfl), (Nat.le_of_ble_eq_true rfl)⟩) (xpreV hj hK hw hX hAL _) rfl rfl hl.1 rfl (lv_room (Nat.le_of_ble_eq_true rfl)) dL_use_7 ⟨(Nat.le_of_ble_eq_true rfl), (Nat.le_of_ble_eq_true rfl)⟩) hS (fun q _ hq => Or.inl hq) (fun q hq => Or.inl hq) (fun q _ hq => Or.inl hq) (fun E ce q9 u t H locs ht hal hpu hBX hz hk hS hcell hvm hcl => ?_) (fun r u t H locs ht hal hp hB hz hk hS => ?_)
  · have hO1 : zO cL v o H := zO_kept hO (hk o hoz (fun q => q.elim (fun ⟨i, hi, z⟩ => hno i hi z.symm) (fun z => absurd hoz (Nat.not_lt.mpr z))))
    obtain ⟨n9, τ⟩ := u
    rcases n9 with _ | _ | _ | _ | n9
    · exact hpu.elim
    · obtain ⟨hE, hw1⟩ := hBX
      have hE : E = "java/lang/IndexOutOfBoundsException" := hE
      subst hE
      refine vx_catch (name := "java/lang/IndexOutOfBoundsException") hown [] ⟨0, 12, 15, 13⟩ [⟨0, 12, 19, 15⟩, ⟨0, 12, 23, 20⟩] (htb.trans rfl) (fun z hz9 => absurd hz9 List.not_mem_nil) (by decide) (by decide) (hts _ (List.mem_of_getElem? (i := 1) rfl)) (va_Nw.use rfl (hCa.1 _ (by decide +kernel))) hcell hvm hcl ?_
      refine lv_astore (lv' := [(5, .ref q9), (0, .ref (ad 0)), (1, .int p0), (2, .int p1), (3, .int p2), (4, .ref o)]) hx hb dL_use_15 hl (by decide) rfl (fun ls hl => ?_)
      refine lv_iconst (v := jI 1) hx hb dL_use_17 (by decide +kernel) ?_
      refine W.widen (k := 1) (n := 6) (Nat.le_of_ble_eq_true rfl) (Nat.le_of_ble_eq_true rfl) ?_
      exact W.iret (v := jI 1) hx hb hr (fun t2 ht2 hW => ⟨⟨_, (τ, v), rfl, hpu, by rw [ht2, ← ht]; exact hw1, by rw [ht2]; exact hO1⟩, hS.F ht2⟩) hS.2.2 dL_use_18
    · obtain ⟨hE, hw1⟩ := hBX
      have hE : E = "java/lang/IllegalArgumentException" := hE
      subst hE
      refine vx_catch (name := "java/lang/IllegalArgumentException") hown [⟨0, 12, 15, 13⟩] ⟨0, 12, 19, 15⟩ [⟨0, 12, 23, 20⟩] (htb.trans rfl) (fun z hz9 => by
      cases List.mem_singleton.mp hz9
      exact Or.inr ⟨by decide, "java/lang/IndexOutOfBoundsException", hts _ (List.mem_of_getElem? (i := 1) rfl), hCa.2 _ (by decide +kernel) _ (by decide +kernel) (by decide +kernel)⟩) (by decide) (by decide) (hts _ (List.mem_of_getElem? (i := 2) rfl)) (va_Nw.use rfl (hCa.1 _ (by decide +kernel))) hcell hvm hcl ?_
      refine lv_astore (lv' := [(5, .ref q9), (0, .ref (ad 0)), (1, .int p0), (2, .int p1), (3, .int p2), (4, .ref o)]) hx hb dL_use_19 hl (by decide) rfl (fun ls hl => ?_)
      refine lv_iconst (v := jI 2) hx hb dL_use_21 (by decide +kernel) ?_
      refine W.widen (k := 1) (n := 6) (Nat.le_of_ble_eq_true rfl) (Nat.le_of_ble_eq_true rfl) ?_
      exact W.iret (v := jI 2) hx hb hr (fun t2 ht2 hW => ⟨⟨_, (τ, v), rfl, hpu, by rw [ht2, ← ht]; exact hw1, by rw [ht2]; exact hO1⟩, hS.F ht2⟩) hS.2.2 dL_use_22
    · obtain ⟨hE, hw1⟩ := hBX
      have hE : E = "java/lang/IllegalStateException" := hE
      subst hE
      refine vx_catch (name := "java/lang/IllegalStateException") hown [⟨0, 12, 15, 13⟩, ⟨0, 12, 19, 15⟩] ⟨0, 12, 23, 20⟩ [] (htb.trans rfl) (fun z hz9 => by
      rcases List.mem_cons.mp hz9 with rfl | hz9
      · exact Or.inr ⟨by decide, "java/lang/IndexOutOfBoundsException", hts _ (List.mem_of_getElem? (i := 1) rfl), hCa.2 _ (by decide +kernel) _ (by decide +kernel) (by decide +kernel)⟩
      · cases List.mem_singleton.mp hz9
        exact Or.inr ⟨by decide, "java/lang/IllegalArgumentException", hts _ (List.mem_of_getElem? (i := 2) rfl), hCa.2 _ (by decide +kernel) _ (by decide +kernel) (by decide +kernel)⟩) (by decide) (by decide) (hts _ (List.mem_of_getElem? (i := 3) rfl)) (va_Nw.use rfl (hCa.1 _ (by decide +kernel))) hcell hvm hcl ?_
      refine lv_astore (lv' := [(5, .ref q9), (0, .ref (ad 0)), (1, .int p0), (2, .int p1), (3, .int p2), (4, .ref o)]) hx hb dL_use_23 hl (by decide) rfl (fun ls hl => ?_)
      refine lv_iconst (v := jI 3) hx hb dL_use_25 (by decide +kernel) ?_
      refine W.widen (k := 1) (n := 6) (Nat.le_of_ble_eq_true rfl) (Nat.le_of_ble_eq_true rfl) ?_
      exact W.iret (v := jI 3) hx hb hr (fun t2 ht2 hW => ⟨⟨_, (τ, v), rfl, hpu, by rw [ht2, ← ht]; exact hw1, by rw [ht2]; exact hO1⟩, hS.F ht2⟩) hS.2.2 dL_use_26
    · exact hpu.elim
  · have hO1 : zO cL v o H := zO_kept hO (hk o hoz (fun q => q.elim (fun ⟨i, hi, z⟩ => hno i hi z.symm) (fun z => absurd hoz (Nat.not_lt.mpr z))))
    refine lv_i2l (v := r.toInt64) hx hb dL_use_10 rfl ?_
    have hw1 : zW D 116 (zce cy ad u) ad H := by rw [← ht]; exact hB
    refine zlast hx hb hLo hO1 hS (Or.inr rfl) dL_use_11 (fun H2 locs hz2 hO2 hq2 hS => ?_)
    have hw2 : zW D 116 (zce cy ad u) ad H2 := fun i hi => (hw1 i hi).kept (hq2 _ (hno i hi))
    refine lv_goto (tgt := 27) hx hb dL_use_12 (by decide) ?_
    refine lv_iconst (v := jI 0) hx hb dL_use_27 (by decide +kernel) ?_
    refine W.widen (k := 1) (n := 6) (Nat.le_of_ble_eq_true rfl) (Nat.le_of_ble_eq_true rfl) ?_
    exact W.iret (v := jI 0) hx hb hr (fun t2 ht2 hW => ⟨⟨_, (u, r.toInt64), rfl, hp, by rw [ht2]; exact hw2, by rw [ht2]; exact hO2⟩, hS.F ht2⟩) hS.2.2 dL_use_28
set_option maxHeartbeats 4000000 in
set_option maxRecDepth 100000 in
theorem c_L_drop (l : Launch) (hlt : l.stackTraces = false) (D : va_G) (cy : cyT) (cL : ClassId) (ad : Nat → Nat) (AL : Nat → Prop) (sa : Nat → Nat) (sz : Nat) (σ : ST) (p0 : Int32) (p1 : Int32) (p2 : Int32) (v : Int64) (o : Nat) {Q : Int32 → Int64 → ST → Prop} (h : wL_drop σ p0 p1 p2 v Q) : Met l yL_drop wsL_drop ({ frames := 8, cells := 1, slots := 6, locals := 133 } : Room) (lPre D cy cL ad AL sa sz σ v o [.ref (ad 0), .int p0, .int p1, .int p2, .ref o]) (va_Qi (fun r (u : ST × Int64) => Q r u.2 u.1) (lB D cy cL ad o) (lA ad sz o)) 1 6 (lA ad sz o) := by
  refine va_MetW (hh := [(0, 12, 15, 13), (0, 12, 19, 15), (0, 12, 23, 20)]) (cc := cL_drop) (maxL := 6) (ret := some .int) (by decide) rfl ?_
  intro p e s m args below meth c s₁ B hml hv
  obtain ⟨rfl, hsz, hj, hK, hw, hX, hAL, hLo, hCa, hO, hno⟩ := hv
  subst hsz
  have hx := B.exec
  have hb := B.bytes
  have hr := B.returns
  have hts := atoms_spec (ws := wsL_drop) B.pre
  have hown : s.vm.findClass RL = some m.cls := findClass_of_methodNamed B.named
  have htb : c.exceptionTable.toList = tableOf [(0, 12, 15, 13), (0, 12, 19, 15), (0, 12, 23, 20)] := vx_table (x := yL_drop) (maxL' := 6) (ret' := some .int) (bytes := cL_drop) (y := yL_drop) B (hts _ (List.mem_of_getElem? (i := 0) rfl))
  have hoz : o < s.heap.size := zO_lt hO
  have hS : va_S (lA ad s.heap.size o) s.heap s.heap [] := va_S.rf
  have hl := lv_entry ([.ref (ad 0), .int p0, .int p1, .int p2, .ref o]) (n := 6) (Nat.le_of_ble_eq_true rfl)
  rw [lg_entry_eq]
  generalize (lg_sl ([.ref (ad 0), .int p0, .int p1, .int p2, .ref o]) ++ List.replicate (6 - (lg_sl ([.ref (ad 0), .int p0, .int p1, .int p2, .ref o])).length) Slot.unset).toArray = ls at hl ⊢
  have hl : lv_has ls 6 [(0, .ref (ad 0)), (1, .int p0), (2, .int p1), (3, .int p2), (4, .ref o)] := hl
  show W p l e ({ frames := 8, cells := 1, slots := 6, locals := 133 } : Room) s m ([.ref (ad 0), .int p0, .int p1, .int p2, .ref o] : List Value).toArray below meth c s.heap [] 0 0 (MQ below (va_Qi (fun r (u : ST × Int64) => Q r u.2 u.1) (lB D cy cL ad o) (lA ad s.heap.size o)) ([.ref (ad 0), .int p0, .int p1, .int p2, .ref o] : List Value).toArray s 1 6 (lA ad s.heap.size o)) (F0 m 0 ls [])
  refine lv_aload hx hb dL_drop_0 (lv_at hl 4 rfl) ?_
  refine lv_iconst (v := jI 0) hx hb dL_drop_2 (by decide +kernel) ?_
  refine lv_aload_n hx hb dL_drop_3 rfl (lv_at hl 0 rfl) ?_
  refine lv_iload_n hx hb dL_drop_4 rfl (lv_at hl 1 rfl) ?_
  refine lv_iload_n hx hb dL_drop_5 rfl (lv_at hl 2 rfl) ?_
  refine lv_iload_n hx hb dL_drop_6 rfl (lv_at hl 3 rfl) ?_
  refine vx_calli (vx_runV (As := [.int p0, .int p1, .int p2]) (rest := [.int (jI 0), .ref o]) ⟨hx, hb, hml, hown, hts⟩ (t_X6_drop l hlt D cy ad AL sa s.heap.size σ p0 p1 p2 h) (cwV 3 hts gL_drop_X6_drop rfl rfl rfl (by decide +kernel) ⟨(Nat.le_of_ble_eq_true rfl), (Nat.le_of_ble_eq_true rfl)⟩) (xpreV hj hK hw hX hAL _) rfl rfl hl.1 rfl (lv_room (Nat.le_of_ble_eq_true rfl)) dL_drop_7 ⟨(Nat.le_of_ble_eq_true rfl), (Nat.le_of_ble_eq_true rfl)⟩) hS (fun q _ hq => Or.inl hq) (fun q hq => Or.inl hq) (fun q _ hq => Or.inl hq) (fun E ce q9 u t H locs ht hal hpu hBX hz hk hS hcell hvm hcl => ?_) (fun r u t H locs ht hal hp hB hz hk hS => ?_)
  · have hO1 : zO cL v o H := zO_kept hO (hk o hoz (fun q => q.elim (fun ⟨i, hi, z⟩ => hno i hi z.symm) (fun z => absurd hoz (Nat.not_lt.mpr z))))
    obtain ⟨n9, τ⟩ := u
    rcases n9 with _ | _ | _ | _ | n9
    · exact hpu.elim
    · obtain ⟨hE, hw1⟩ := hBX
      have hE : E = "java/lang/IndexOutOfBoundsException" := hE
      subst hE
      refine vx_catch (name := "java/lang/IndexOutOfBoundsException") hown [] ⟨0, 12, 15, 13⟩ [⟨0, 12, 19, 15⟩, ⟨0, 12, 23, 20⟩] (htb.trans rfl) (fun z hz9 => absurd hz9 List.not_mem_nil) (by decide) (by decide) (hts _ (List.mem_of_getElem? (i := 1) rfl)) (va_Nw.use rfl (hCa.1 _ (by decide +kernel))) hcell hvm hcl ?_
      refine lv_astore (lv' := [(5, .ref q9), (0, .ref (ad 0)), (1, .int p0), (2, .int p1), (3, .int p2), (4, .ref o)]) hx hb dL_drop_15 hl (by decide) rfl (fun ls hl => ?_)
      refine lv_iconst (v := jI 1) hx hb dL_drop_17 (by decide +kernel) ?_
      refine W.widen (k := 1) (n := 6) (Nat.le_of_ble_eq_true rfl) (Nat.le_of_ble_eq_true rfl) ?_
      exact W.iret (v := jI 1) hx hb hr (fun t2 ht2 hW => ⟨⟨_, (τ, v), rfl, hpu, by rw [ht2, ← ht]; exact hw1, by rw [ht2]; exact hO1⟩, hS.F ht2⟩) hS.2.2 dL_drop_18
    · obtain ⟨hE, hw1⟩ := hBX
      have hE : E = "java/lang/IllegalArgumentException" := hE
      subst hE
      refine vx_catch (name := "java/lang/IllegalArgumentException") hown [⟨0, 12, 15, 13⟩] ⟨0, 12, 19, 15⟩ [⟨0, 12, 23, 20⟩] (htb.trans rfl) (fun z hz9 => by
      cases List.mem_singleton.mp hz9
      exact Or.inr ⟨by decide, "java/lang/IndexOutOfBoundsException", hts _ (List.mem_of_getElem? (i := 1) rfl), hCa.2 _ (by decide +kernel) _ (by decide +kernel) (by decide +kernel)⟩) (by decide) (by decide) (hts _ (List.mem_of_getElem? (i := 2) rfl)) (va_Nw.use rfl (hCa.1 _ (by decide +kernel))) hcell hvm hcl ?_
      refine lv_astore (lv' := [(5, .ref q9), (0, .ref (ad 0)), (1, .int p0), (2, .int p1), (3, .int p2), (4, .ref o)]) hx hb dL_drop_19 hl (by decide) rfl (fun ls hl => ?_)
      refine lv_iconst (v := jI 2) hx hb dL_drop_21 (by decide +kernel) ?_
      refine W.widen (k := 1) (n := 6) (Nat.le_of_ble_eq_true rfl) (Nat.le_of_ble_eq_true rfl) ?_
      exact W.iret (v := jI 2) hx hb hr (fun t2 ht2 hW => ⟨⟨_, (τ, v), rfl, hpu, by rw [ht2, ← ht]; exact hw1, by rw [ht2]; exact hO1⟩, hS.F ht2⟩) hS.2.2 dL_drop_22
    · obtain ⟨hE, hw1⟩ := hBX
      have hE : E = "java/lang/IllegalStateException" := hE
      subst hE
      refine vx_catch (name := "java/lang/IllegalStateException") hown [⟨0, 12, 15, 13⟩, ⟨0, 12, 19, 15⟩] ⟨0, 12, 23, 20⟩ [] (htb.trans rfl) (fun z hz9 => by
      rcases List.mem_cons.mp hz9 with rfl | hz9
      · exact Or.inr ⟨by decide, "java/lang/IndexOutOfBoundsException", hts _ (List.mem_of_getElem? (i := 1) rfl), hCa.2 _ (by decide +kernel) _ (by decide +kernel) (by decide +kernel)⟩
      · cases List.mem_singleton.mp hz9
        exact Or.inr ⟨by decide, "java/lang/IllegalArgumentException", hts _ (List.mem_of_getElem? (i := 2) rfl), hCa.2 _ (by decide +kernel) _ (by decide +kernel) (by decide +kernel)⟩) (by decide) (by decide) (hts _ (List.mem_of_getElem? (i := 3) rfl)) (va_Nw.use rfl (hCa.1 _ (by decide +kernel))) hcell hvm hcl ?_
      refine lv_astore (lv' := [(5, .ref q9), (0, .ref (ad 0)), (1, .int p0), (2, .int p1), (3, .int p2), (4, .ref o)]) hx hb dL_drop_23 hl (by decide) rfl (fun ls hl => ?_)
      refine lv_iconst (v := jI 3) hx hb dL_drop_25 (by decide +kernel) ?_
      refine W.widen (k := 1) (n := 6) (Nat.le_of_ble_eq_true rfl) (Nat.le_of_ble_eq_true rfl) ?_
      exact W.iret (v := jI 3) hx hb hr (fun t2 ht2 hW => ⟨⟨_, (τ, v), rfl, hpu, by rw [ht2, ← ht]; exact hw1, by rw [ht2]; exact hO1⟩, hS.F ht2⟩) hS.2.2 dL_drop_26
    · exact hpu.elim
  · have hO1 : zO cL v o H := zO_kept hO (hk o hoz (fun q => q.elim (fun ⟨i, hi, z⟩ => hno i hi z.symm) (fun z => absurd hoz (Nat.not_lt.mpr z))))
    refine lv_i2l (v := r.toInt64) hx hb dL_drop_10 rfl ?_
    have hw1 : zW D 116 (zce cy ad u) ad H := by rw [← ht]; exact hB
    refine zlast hx hb hLo hO1 hS (Or.inr rfl) dL_drop_11 (fun H2 locs hz2 hO2 hq2 hS => ?_)
    have hw2 : zW D 116 (zce cy ad u) ad H2 := fun i hi => (hw1 i hi).kept (hq2 _ (hno i hi))
    refine lv_goto (tgt := 27) hx hb dL_drop_12 (by decide) ?_
    refine lv_iconst (v := jI 0) hx hb dL_drop_27 (by decide +kernel) ?_
    refine W.widen (k := 1) (n := 6) (Nat.le_of_ble_eq_true rfl) (Nat.le_of_ble_eq_true rfl) ?_
    exact W.iret (v := jI 0) hx hb hr (fun t2 ht2 hW => ⟨⟨_, (u, r.toInt64), rfl, hp, by rw [ht2]; exact hw2, by rw [ht2]; exact hO2⟩, hS.F ht2⟩) hS.2.2 dL_drop_28
set_option maxHeartbeats 4000000 in
set_option maxRecDepth 100000 in
theorem c_L_addTray (l : Launch) (hlt : l.stackTraces = false) (D : va_G) (cy : cyT) (cL : ClassId) (ad : Nat → Nat) (AL : Nat → Prop) (sa : Nat → Nat) (sz : Nat) (σ : ST) (v : Int64) (o : Nat) {Q : Int32 → Int64 → ST → Prop} (h : wL_addTray σ v Q) : Met l yL_addTray wsL_addTray ({ frames := 8, cells := 1, slots := 6, locals := 130 } : Room) (lPre D cy cL ad AL sa sz σ v o [.ref (ad 0), .ref o]) (va_Qi (fun r (u : ST × Int64) => Q r u.2 u.1) (lB D cy cL ad o) (lA ad sz o)) 1 6 (lA ad sz o) := by
  refine va_MetW (hh := [(0, 8, 11, 20)]) (cc := cL_addTray) (maxL := 3) (ret := some .int) (by decide) rfl ?_
  intro p e s m args below meth c s₁ B hml hv
  obtain ⟨rfl, hsz, hj, hK, hw, hX, hAL, hLo, hCa, hO, hno⟩ := hv
  subst hsz
  have hx := B.exec
  have hb := B.bytes
  have hr := B.returns
  have hts := atoms_spec (ws := wsL_addTray) B.pre
  have hown : s.vm.findClass RL = some m.cls := findClass_of_methodNamed B.named
  have htb : c.exceptionTable.toList = tableOf [(0, 8, 11, 20)] := vx_table (x := yL_addTray) (maxL' := 3) (ret' := some .int) (bytes := cL_addTray) (y := yL_addTray) B (hts _ (List.mem_of_getElem? (i := 0) rfl))
  have hoz : o < s.heap.size := zO_lt hO
  have hS : va_S (lA ad s.heap.size o) s.heap s.heap [] := va_S.rf
  have hl := lv_entry ([.ref (ad 0), .ref o]) (n := 3) (Nat.le_of_ble_eq_true rfl)
  rw [lg_entry_eq]
  generalize (lg_sl ([.ref (ad 0), .ref o]) ++ List.replicate (3 - (lg_sl ([.ref (ad 0), .ref o])).length) Slot.unset).toArray = ls at hl ⊢
  have hl : lv_has ls 3 [(0, .ref (ad 0)), (1, .ref o)] := hl
  show W p l e ({ frames := 8, cells := 1, slots := 6, locals := 130 } : Room) s m ([.ref (ad 0), .ref o] : List Value).toArray below meth c s.heap [] 0 0 (MQ below (va_Qi (fun r (u : ST × Int64) => Q r u.2 u.1) (lB D cy cL ad o) (lA ad s.heap.size o)) ([.ref (ad 0), .ref o] : List Value).toArray s 1 6 (lA ad s.heap.size o)) (F0 m 0 ls [])
  refine lv_aload_n hx hb dL_addTray_0 rfl (lv_at hl 1 rfl) ?_
  refine lv_iconst (v := jI 0) hx hb dL_addTray_1 (by decide +kernel) ?_
  refine lv_aload_n hx hb dL_addTray_2 rfl (lv_at hl 0 rfl) ?_
  refine vx_calli (vx_runV (As := []) (rest := [.int (jI 0), .ref o]) ⟨hx, hb, hml, hown, hts⟩ (t_X6_addTray l hlt D cy ad AL sa s.heap.size σ  h) (cwV 0 hts gL_addTray_X6_addTray rfl rfl rfl (by decide +kernel) ⟨(Nat.le_of_ble_eq_true rfl), (Nat.le_of_ble_eq_true rfl)⟩) (xpreV hj hK hw hX hAL _) rfl rfl hl.1 rfl (lv_room (Nat.le_of_ble_eq_true rfl)) dL_addTray_3 ⟨(Nat.le_of_ble_eq_true rfl), (Nat.le_of_ble_eq_true rfl)⟩) hS (fun q _ hq => Or.inl hq) (fun q hq => Or.inl hq) (fun q _ hq => Or.inl hq) (fun E ce q9 u t H locs ht hal hpu hBX hz hk hS hcell hvm hcl => ?_) (fun r u t H locs ht hal hp hB hz hk hS => ?_)
  · have hO1 : zO cL v o H := zO_kept hO (hk o hoz (fun q => q.elim (fun ⟨i, hi, z⟩ => hno i hi z.symm) (fun z => absurd hoz (Nat.not_lt.mpr z))))
    obtain ⟨n9, τ⟩ := u
    rcases n9 with _ | _ | _ | _ | n9
    · exact hpu.elim
    · exact hpu.elim
    · exact hpu.elim
    · obtain ⟨hE, hw1⟩ := hBX
      have hE : E = "java/lang/IllegalStateException" := hE
      subst hE
      refine vx_catch (name := "java/lang/IllegalStateException") hown [] ⟨0, 8, 11, 20⟩ [] (htb.trans rfl) (fun z hz9 => absurd hz9 List.not_mem_nil) (by decide) (by decide) (hts _ (List.mem_of_getElem? (i := 1) rfl)) (va_Nw.use rfl (hCa.1 _ (by decide +kernel))) hcell hvm hcl ?_
      refine lv_astore_n (lv' := [(2, .ref q9), (0, .ref (ad 0)), (1, .ref o)]) hx hb dL_addTray_11 rfl hl (by decide) rfl (fun ls hl => ?_)
      refine lv_iconst (v := jI 1) hx hb dL_addTray_12 (by decide +kernel) ?_
      refine W.widen (k := 1) (n := 6) (Nat.le_of_ble_eq_true rfl) (Nat.le_of_ble_eq_true rfl) ?_
      exact W.iret (v := jI 1) hx hb hr (fun t2 ht2 hW => ⟨⟨_, (τ, v), rfl, hpu, by rw [ht2, ← ht]; exact hw1, by rw [ht2]; exact hO1⟩, hS.F ht2⟩) hS.2.2 dL_addTray_13
    · exact hpu.elim
  · have hO1 : zO cL v o H := zO_kept hO (hk o hoz (fun q => q.elim (fun ⟨i, hi, z⟩ => hno i hi z.symm) (fun z => absurd hoz (Nat.not_lt.mpr z))))
    refine lv_i2l (v := r.toInt64) hx hb dL_addTray_6 rfl ?_
    have hw1 : zW D 116 (zce cy ad u) ad H := by rw [← ht]; exact hB
    refine zlast hx hb hLo hO1 hS (Or.inr rfl) dL_addTray_7 (fun H2 locs hz2 hO2 hq2 hS => ?_)
    have hw2 : zW D 116 (zce cy ad u) ad H2 := fun i hi => (hw1 i hi).kept (hq2 _ (hno i hi))
    refine lv_goto (tgt := 14) hx hb dL_addTray_8 (by decide) ?_
    refine lv_iconst (v := jI 0) hx hb dL_addTray_14 (by decide +kernel) ?_
    refine W.widen (k := 1) (n := 6) (Nat.le_of_ble_eq_true rfl) (Nat.le_of_ble_eq_true rfl) ?_
    exact W.iret (v := jI 0) hx hb hr (fun t2 ht2 hW => ⟨⟨_, (u, r.toInt64), rfl, hp, by rw [ht2]; exact hw2, by rw [ht2]; exact hO2⟩, hS.F ht2⟩) hS.2.2 dL_addTray_15
set_option maxHeartbeats 4000000 in
set_option maxRecDepth 100000 in
theorem c_L_letter (l : Launch) (hlt : l.stackTraces = false) (D : va_G) (cy : cyT) (cL : ClassId) (ad : Nat → Nat) (AL : Nat → Prop) (sa : Nat → Nat) (sz : Nat) (σ : ST) (p0 : Int32) (p1 : Int32) (p2 : Int32) (p3 : Int32) (v : Int64) (o : Nat) {Q : Int32 → Int64 → ST → Prop} (h : wL_letter σ p0 p1 p2 p3 v Q) : Met l yL_letter wsL_letter ({ frames := 8, cells := 2, slots := 12, locals := 134 } : Room) (lPre D cy cL ad AL sa sz σ v o [.ref (ad 0), .int p0, .int p1, .int p2, .int p3, .ref o]) (va_Qi (fun r (u : ST × Int64) => Q r u.2 u.1) (lB D cy cL ad o) (lA ad sz o)) 2 12 (lA ad sz o) := by
  refine va_MetW (hh := [(0, 14, 17, 13), (0, 14, 21, 15)]) (cc := cL_letter) (maxL := 7) (ret := some .int) (by decide) rfl ?_
  intro p e s m args below meth c s₁ B hml hv
  obtain ⟨rfl, hsz, hj, hK, hw, hX, hAL, hLo, hCa, hO, hno⟩ := hv
  subst hsz
  have hx := B.exec
  have hb := B.bytes
  have hr := B.returns
  have hts := atoms_spec (ws := wsL_letter) B.pre
  have hown : s.vm.findClass RL = some m.cls := findClass_of_methodNamed B.named
  have htb : c.exceptionTable.toList = tableOf [(0, 14, 17, 13), (0, 14, 21, 15)] := vx_table (x := yL_letter) (maxL' := 7) (ret' := some .int) (bytes := cL_letter) (y := yL_letter) B (hts _ (List.mem_of_getElem? (i := 0) rfl))
  have hoz : o < s.heap.size := zO_lt hO
  have hS : va_S (lA ad s.heap.size o) s.heap s.heap [] := va_S.rf
  have hl := lv_entry ([.ref (ad 0), .int p0, .int p1, .int p2, .int p3, .ref o]) (n := 7) (Nat.le_of_ble_eq_true rfl)
  rw [lg_entry_eq]
  generalize (lg_sl ([.ref (ad 0), .int p0, .int p1, .int p2, .int p3, .ref o]) ++ List.replicate (7 - (lg_sl ([.ref (ad 0), .int p0, .int p1, .int p2, .int p3, .ref o])).length) Slot.unset).toArray = ls at hl ⊢
  have hl : lv_has ls 7 [(0, .ref (ad 0)), (1, .int p0), (2, .int p1), (3, .int p2), (4, .int p3), (5, .ref o)] := hl
  show W p l e ({ frames := 8, cells := 2, slots := 12, locals := 134 } : Room) s m ([.ref (ad 0), .int p0, .int p1, .int p2, .int p3, .ref o] : List Value).toArray below meth c s.heap [] 0 0 (MQ below (va_Qi (fun r (u : ST × Int64) => Q r u.2 u.1) (lB D cy cL ad o) (lA ad s.heap.size o)) ([.ref (ad 0), .int p0, .int p1, .int p2, .int p3, .ref o] : List Value).toArray s 2 12 (lA ad s.heap.size o)) (F0 m 0 ls [])
  refine lv_aload hx hb dL_letter_0 (lv_at hl 5 rfl) ?_
  refine lv_iconst (v := jI 0) hx hb dL_letter_2 (by decide +kernel) ?_
  refine lv_aload_n hx hb dL_letter_3 rfl (lv_at hl 0 rfl) ?_
  refine lv_iload_n hx hb dL_letter_4 rfl (lv_at hl 1 rfl) ?_
  refine lv_iload_n hx hb dL_letter_5 rfl (lv_at hl 2 rfl) ?_
  refine lv_iload_n hx hb dL_letter_6 rfl (lv_at hl 3 rfl) ?_
  refine lv_iload hx hb dL_letter_7 (lv_at hl 4 rfl) ?_
  refine vx_calli (vx_runV (As := [.int p0, .int p1, .int p2, .int p3]) (rest := [.int (jI 0), .ref o]) ⟨hx, hb, hml, hown, hts⟩ (t_X6_letter l hlt D cy ad AL sa s.heap.size σ p0 p1 p2 p3 h) (cwV 4 hts gL_letter_X6_letter rfl rfl rfl (by decide +kernel) ⟨(Nat.le_of_ble_eq_true rfl), (Nat.le_of_ble_eq_true rfl)⟩) (xpreV hj hK hw hX hAL _) rfl rfl hl.1 rfl (lv_room (Nat.le_of_ble_eq_true rfl)) dL_letter_9 ⟨(Nat.le_of_ble_eq_true rfl), (Nat.le_of_ble_eq_true rfl)⟩) hS (fun q _ hq => Or.inl hq) (fun q hq => Or.inl hq) (fun q _ hq => Or.inl hq) (fun E ce q9 u t H locs ht hal hpu hBX hz hk hS hcell hvm hcl => ?_) (fun r u t H locs ht hal hp hB hz hk hS => ?_)
  · have hO1 : zO cL v o H := zO_kept hO (hk o hoz (fun q => q.elim (fun ⟨i, hi, z⟩ => hno i hi z.symm) (fun z => absurd hoz (Nat.not_lt.mpr z))))
    obtain ⟨n9, τ⟩ := u
    rcases n9 with _ | _ | _ | _ | n9
    · exact hpu.elim
    · obtain ⟨hE, hw1⟩ := hBX
      have hE : E = "java/lang/IndexOutOfBoundsException" := hE
      subst hE
      refine vx_catch (name := "java/lang/IndexOutOfBoundsException") hown [] ⟨0, 14, 17, 13⟩ [⟨0, 14, 21, 15⟩] (htb.trans rfl) (fun z hz9 => absurd hz9 List.not_mem_nil) (by decide) (by decide) (hts _ (List.mem_of_getElem? (i := 1) rfl)) (va_Nw.use rfl (hCa.1 _ (by decide +kernel))) hcell hvm hcl ?_
      refine lv_astore (lv' := [(6, .ref q9), (0, .ref (ad 0)), (1, .int p0), (2, .int p1), (3, .int p2), (4, .int p3), (5, .ref o)]) hx hb dL_letter_17 hl (by decide) rfl (fun ls hl => ?_)
      refine lv_iconst (v := jI 1) hx hb dL_letter_19 (by decide +kernel) ?_
      refine W.widen (k := 2) (n := 12) (Nat.le_of_ble_eq_true rfl) (Nat.le_of_ble_eq_true rfl) ?_
      exact W.iret (v := jI 1) hx hb hr (fun t2 ht2 hW => ⟨⟨_, (τ, v), rfl, hpu, by rw [ht2, ← ht]; exact hw1, by rw [ht2]; exact hO1⟩, hS.F ht2⟩) hS.2.2 dL_letter_20
    · obtain ⟨hE, hw1⟩ := hBX
      have hE : E = "java/lang/IllegalArgumentException" := hE
      subst hE
      refine vx_catch (name := "java/lang/IllegalArgumentException") hown [⟨0, 14, 17, 13⟩] ⟨0, 14, 21, 15⟩ [] (htb.trans rfl) (fun z hz9 => by
      cases List.mem_singleton.mp hz9
      exact Or.inr ⟨by decide, "java/lang/IndexOutOfBoundsException", hts _ (List.mem_of_getElem? (i := 1) rfl), hCa.2 _ (by decide +kernel) _ (by decide +kernel) (by decide +kernel)⟩) (by decide) (by decide) (hts _ (List.mem_of_getElem? (i := 2) rfl)) (va_Nw.use rfl (hCa.1 _ (by decide +kernel))) hcell hvm hcl ?_
      refine lv_astore (lv' := [(6, .ref q9), (0, .ref (ad 0)), (1, .int p0), (2, .int p1), (3, .int p2), (4, .int p3), (5, .ref o)]) hx hb dL_letter_21 hl (by decide) rfl (fun ls hl => ?_)
      refine lv_iconst (v := jI 2) hx hb dL_letter_23 (by decide +kernel) ?_
      refine W.widen (k := 2) (n := 12) (Nat.le_of_ble_eq_true rfl) (Nat.le_of_ble_eq_true rfl) ?_
      exact W.iret (v := jI 2) hx hb hr (fun t2 ht2 hW => ⟨⟨_, (τ, v), rfl, hpu, by rw [ht2, ← ht]; exact hw1, by rw [ht2]; exact hO1⟩, hS.F ht2⟩) hS.2.2 dL_letter_24
    · exact hpu.elim
    · exact hpu.elim
  · have hO1 : zO cL v o H := zO_kept hO (hk o hoz (fun q => q.elim (fun ⟨i, hi, z⟩ => hno i hi z.symm) (fun z => absurd hoz (Nat.not_lt.mpr z))))
    refine lv_i2l (v := r.toInt64) hx hb dL_letter_12 rfl ?_
    have hw1 : zW D 116 (zce cy ad u) ad H := by rw [← ht]; exact hB
    refine zlast hx hb hLo hO1 hS (Or.inr rfl) dL_letter_13 (fun H2 locs hz2 hO2 hq2 hS => ?_)
    have hw2 : zW D 116 (zce cy ad u) ad H2 := fun i hi => (hw1 i hi).kept (hq2 _ (hno i hi))
    refine lv_goto (tgt := 25) hx hb dL_letter_14 (by decide) ?_
    refine lv_iconst (v := jI 0) hx hb dL_letter_25 (by decide +kernel) ?_
    refine W.widen (k := 2) (n := 12) (Nat.le_of_ble_eq_true rfl) (Nat.le_of_ble_eq_true rfl) ?_
    exact W.iret (v := jI 0) hx hb hr (fun t2 ht2 hW => ⟨⟨_, (u, r.toInt64), rfl, hp, by rw [ht2]; exact hw2, by rw [ht2]; exact hO2⟩, hS.F ht2⟩) hS.2.2 dL_letter_26
set_option maxHeartbeats 4000000 in
set_option maxRecDepth 100000 in
theorem c_L_sign (l : Launch) (hlt : l.stackTraces = false) (D : va_G) (cy : cyT) (cL : ClassId) (ad : Nat → Nat) (AL : Nat → Prop) (sa : Nat → Nat) (sz : Nat) (σ : ST) (p0 : Int32) (p1 : Int32) (v : Int64) (o : Nat) {Q : Int32 → Int64 → ST → Prop} (h : wL_sign σ p0 p1 v Q) : Met l yL_sign wsL_sign ({ frames := 8, cells := 2, slots := 12, locals := 132 } : Room) (lPre D cy cL ad AL sa sz σ v o [.ref (ad 0), .int p0, .int p1, .ref o]) (va_Qi (fun r (u : ST × Int64) => Q r u.2 u.1) (lB D cy cL ad o) (lA ad sz o)) 2 12 (lA ad sz o) := by
  refine va_MetW (hh := [(0, 10, 13, 13), (0, 10, 17, 15)]) (cc := cL_sign) (maxL := 5) (ret := some .int) (by decide) rfl ?_
  intro p e s m args below meth c s₁ B hml hv
  obtain ⟨rfl, hsz, hj, hK, hw, hX, hAL, hLo, hCa, hO, hno⟩ := hv
  subst hsz
  have hx := B.exec
  have hb := B.bytes
  have hr := B.returns
  have hts := atoms_spec (ws := wsL_sign) B.pre
  have hown : s.vm.findClass RL = some m.cls := findClass_of_methodNamed B.named
  have htb : c.exceptionTable.toList = tableOf [(0, 10, 13, 13), (0, 10, 17, 15)] := vx_table (x := yL_sign) (maxL' := 5) (ret' := some .int) (bytes := cL_sign) (y := yL_sign) B (hts _ (List.mem_of_getElem? (i := 0) rfl))
  have hoz : o < s.heap.size := zO_lt hO
  have hS : va_S (lA ad s.heap.size o) s.heap s.heap [] := va_S.rf
  have hl := lv_entry ([.ref (ad 0), .int p0, .int p1, .ref o]) (n := 5) (Nat.le_of_ble_eq_true rfl)
  rw [lg_entry_eq]
  generalize (lg_sl ([.ref (ad 0), .int p0, .int p1, .ref o]) ++ List.replicate (5 - (lg_sl ([.ref (ad 0), .int p0, .int p1, .ref o])).length) Slot.unset).toArray = ls at hl ⊢
  have hl : lv_has ls 5 [(0, .ref (ad 0)), (1, .int p0), (2, .int p1), (3, .ref o)] := hl
  show W p l e ({ frames := 8, cells := 2, slots := 12, locals := 132 } : Room) s m ([.ref (ad 0), .int p0, .int p1, .ref o] : List Value).toArray below meth c s.heap [] 0 0 (MQ below (va_Qi (fun r (u : ST × Int64) => Q r u.2 u.1) (lB D cy cL ad o) (lA ad s.heap.size o)) ([.ref (ad 0), .int p0, .int p1, .ref o] : List Value).toArray s 2 12 (lA ad s.heap.size o)) (F0 m 0 ls [])
  refine lv_aload_n hx hb dL_sign_0 rfl (lv_at hl 3 rfl) ?_
  refine lv_iconst (v := jI 0) hx hb dL_sign_1 (by decide +kernel) ?_
  refine lv_aload_n hx hb dL_sign_2 rfl (lv_at hl 0 rfl) ?_
  refine lv_iload_n hx hb dL_sign_3 rfl (lv_at hl 1 rfl) ?_
  refine lv_iload_n hx hb dL_sign_4 rfl (lv_at hl 2 rfl) ?_
  refine vx_calli (vx_runV (As := [.int p0, .int p1]) (rest := [.int (jI 0), .ref o]) ⟨hx, hb, hml, hown, hts⟩ (t_X6_sign l hlt D cy ad AL sa s.heap.size σ p0 p1 h) (cwV 2 hts gL_sign_X6_sign rfl rfl rfl (by decide +kernel) ⟨(Nat.le_of_ble_eq_true rfl), (Nat.le_of_ble_eq_true rfl)⟩) (xpreV hj hK hw hX hAL _) rfl rfl hl.1 rfl (lv_room (Nat.le_of_ble_eq_true rfl)) dL_sign_5 ⟨(Nat.le_of_ble_eq_true rfl), (Nat.le_of_ble_eq_true rfl)⟩) hS (fun q _ hq => Or.inl hq) (fun q hq => Or.inl hq) (fun q _ hq => Or.inl hq) (fun E ce q9 u t H locs ht hal hpu hBX hz hk hS hcell hvm hcl => ?_) (fun r u t H locs ht hal hp hB hz hk hS => ?_)
  · have hO1 : zO cL v o H := zO_kept hO (hk o hoz (fun q => q.elim (fun ⟨i, hi, z⟩ => hno i hi z.symm) (fun z => absurd hoz (Nat.not_lt.mpr z))))
    obtain ⟨n9, τ⟩ := u
    rcases n9 with _ | _ | _ | _ | n9
    · exact hpu.elim
    · obtain ⟨hE, hw1⟩ := hBX
      have hE : E = "java/lang/IndexOutOfBoundsException" := hE
      subst hE
      refine vx_catch (name := "java/lang/IndexOutOfBoundsException") hown [] ⟨0, 10, 13, 13⟩ [⟨0, 10, 17, 15⟩] (htb.trans rfl) (fun z hz9 => absurd hz9 List.not_mem_nil) (by decide) (by decide) (hts _ (List.mem_of_getElem? (i := 1) rfl)) (va_Nw.use rfl (hCa.1 _ (by decide +kernel))) hcell hvm hcl ?_
      refine lv_astore (lv' := [(4, .ref q9), (0, .ref (ad 0)), (1, .int p0), (2, .int p1), (3, .ref o)]) hx hb dL_sign_13 hl (by decide) rfl (fun ls hl => ?_)
      refine lv_iconst (v := jI 1) hx hb dL_sign_15 (by decide +kernel) ?_
      refine W.widen (k := 2) (n := 12) (Nat.le_of_ble_eq_true rfl) (Nat.le_of_ble_eq_true rfl) ?_
      exact W.iret (v := jI 1) hx hb hr (fun t2 ht2 hW => ⟨⟨_, (τ, v), rfl, hpu, by rw [ht2, ← ht]; exact hw1, by rw [ht2]; exact hO1⟩, hS.F ht2⟩) hS.2.2 dL_sign_16
    · obtain ⟨hE, hw1⟩ := hBX
      have hE : E = "java/lang/IllegalArgumentException" := hE
      subst hE
      refine vx_catch (name := "java/lang/IllegalArgumentException") hown [⟨0, 10, 13, 13⟩] ⟨0, 10, 17, 15⟩ [] (htb.trans rfl) (fun z hz9 => by
      cases List.mem_singleton.mp hz9
      exact Or.inr ⟨by decide, "java/lang/IndexOutOfBoundsException", hts _ (List.mem_of_getElem? (i := 1) rfl), hCa.2 _ (by decide +kernel) _ (by decide +kernel) (by decide +kernel)⟩) (by decide) (by decide) (hts _ (List.mem_of_getElem? (i := 2) rfl)) (va_Nw.use rfl (hCa.1 _ (by decide +kernel))) hcell hvm hcl ?_
      refine lv_astore (lv' := [(4, .ref q9), (0, .ref (ad 0)), (1, .int p0), (2, .int p1), (3, .ref o)]) hx hb dL_sign_17 hl (by decide) rfl (fun ls hl => ?_)
      refine lv_iconst (v := jI 2) hx hb dL_sign_19 (by decide +kernel) ?_
      refine W.widen (k := 2) (n := 12) (Nat.le_of_ble_eq_true rfl) (Nat.le_of_ble_eq_true rfl) ?_
      exact W.iret (v := jI 2) hx hb hr (fun t2 ht2 hW => ⟨⟨_, (τ, v), rfl, hpu, by rw [ht2, ← ht]; exact hw1, by rw [ht2]; exact hO1⟩, hS.F ht2⟩) hS.2.2 dL_sign_20
    · exact hpu.elim
    · exact hpu.elim
  · have hO1 : zO cL v o H := zO_kept hO (hk o hoz (fun q => q.elim (fun ⟨i, hi, z⟩ => hno i hi z.symm) (fun z => absurd hoz (Nat.not_lt.mpr z))))
    refine lv_i2l (v := r.toInt64) hx hb dL_sign_8 rfl ?_
    have hw1 : zW D 116 (zce cy ad u) ad H := by rw [← ht]; exact hB
    refine zlast hx hb hLo hO1 hS (Or.inr rfl) dL_sign_9 (fun H2 locs hz2 hO2 hq2 hS => ?_)
    have hw2 : zW D 116 (zce cy ad u) ad H2 := fun i hi => (hw1 i hi).kept (hq2 _ (hno i hi))
    refine lv_goto (tgt := 21) hx hb dL_sign_10 (by decide) ?_
    refine lv_iconst (v := jI 0) hx hb dL_sign_21 (by decide +kernel) ?_
    refine W.widen (k := 2) (n := 12) (Nat.le_of_ble_eq_true rfl) (Nat.le_of_ble_eq_true rfl) ?_
    exact W.iret (v := jI 0) hx hb hr (fun t2 ht2 hW => ⟨⟨_, (u, r.toInt64), rfl, hp, by rw [ht2]; exact hw2, by rw [ht2]; exact hO2⟩, hS.F ht2⟩) hS.2.2 dL_sign_22
set_option maxHeartbeats 4000000 in
set_option maxRecDepth 100000 in
theorem c_L_tray (l : Launch) (hlt : l.stackTraces = false) (D : va_G) (cy : cyT) (cL : ClassId) (ad : Nat → Nat) (AL : Nat → Prop) (sa : Nat → Nat) (sz : Nat) (σ : ST) (p0 : Int32) (p1 : Int32) (v : Int64) (o : Nat) {Q : Int32 → Int64 → ST → Prop} (h : wL_tray σ p0 p1 v Q) : Met l yL_tray wsL_tray ({ frames := 8, cells := 2, slots := 12, locals := 132 } : Room) (lPre D cy cL ad AL sa sz σ v o [.ref (ad 0), .int p0, .int p1, .ref o]) (va_Qi (fun r (u : ST × Int64) => Q r u.2 u.1) (lB D cy cL ad o) (lA ad sz o)) 2 12 (lA ad sz o) := by
  refine va_MetW (hh := [(0, 10, 13, 13), (0, 10, 17, 15)]) (cc := cL_tray) (maxL := 5) (ret := some .int) (by decide) rfl ?_
  intro p e s m args below meth c s₁ B hml hv
  obtain ⟨rfl, hsz, hj, hK, hw, hX, hAL, hLo, hCa, hO, hno⟩ := hv
  subst hsz
  have hx := B.exec
  have hb := B.bytes
  have hr := B.returns
  have hts := atoms_spec (ws := wsL_tray) B.pre
  have hown : s.vm.findClass RL = some m.cls := findClass_of_methodNamed B.named
  have htb : c.exceptionTable.toList = tableOf [(0, 10, 13, 13), (0, 10, 17, 15)] := vx_table (x := yL_tray) (maxL' := 5) (ret' := some .int) (bytes := cL_tray) (y := yL_tray) B (hts _ (List.mem_of_getElem? (i := 0) rfl))
  have hoz : o < s.heap.size := zO_lt hO
  have hS : va_S (lA ad s.heap.size o) s.heap s.heap [] := va_S.rf
  have hl := lv_entry ([.ref (ad 0), .int p0, .int p1, .ref o]) (n := 5) (Nat.le_of_ble_eq_true rfl)
  rw [lg_entry_eq]
  generalize (lg_sl ([.ref (ad 0), .int p0, .int p1, .ref o]) ++ List.replicate (5 - (lg_sl ([.ref (ad 0), .int p0, .int p1, .ref o])).length) Slot.unset).toArray = ls at hl ⊢
  have hl : lv_has ls 5 [(0, .ref (ad 0)), (1, .int p0), (2, .int p1), (3, .ref o)] := hl
  show W p l e ({ frames := 8, cells := 2, slots := 12, locals := 132 } : Room) s m ([.ref (ad 0), .int p0, .int p1, .ref o] : List Value).toArray below meth c s.heap [] 0 0 (MQ below (va_Qi (fun r (u : ST × Int64) => Q r u.2 u.1) (lB D cy cL ad o) (lA ad s.heap.size o)) ([.ref (ad 0), .int p0, .int p1, .ref o] : List Value).toArray s 2 12 (lA ad s.heap.size o)) (F0 m 0 ls [])
  refine lv_aload_n hx hb dL_tray_0 rfl (lv_at hl 3 rfl) ?_
  refine lv_iconst (v := jI 0) hx hb dL_tray_1 (by decide +kernel) ?_
  refine lv_aload_n hx hb dL_tray_2 rfl (lv_at hl 0 rfl) ?_
  refine lv_iload_n hx hb dL_tray_3 rfl (lv_at hl 1 rfl) ?_
  refine lv_iload_n hx hb dL_tray_4 rfl (lv_at hl 2 rfl) ?_
  refine vx_calli (vx_runV (As := [.int p0, .int p1]) (rest := [.int (jI 0), .ref o]) ⟨hx, hb, hml, hown, hts⟩ (t_X6_tray l hlt D cy ad AL sa s.heap.size σ p0 p1 h) (cwV 2 hts gL_tray_X6_tray rfl rfl rfl (by decide +kernel) ⟨(Nat.le_of_ble_eq_true rfl), (Nat.le_of_ble_eq_true rfl)⟩) (xpreV hj hK hw hX hAL _) rfl rfl hl.1 rfl (lv_room (Nat.le_of_ble_eq_true rfl)) dL_tray_5 ⟨(Nat.le_of_ble_eq_true rfl), (Nat.le_of_ble_eq_true rfl)⟩) hS (fun q _ hq => Or.inl hq) (fun q hq => Or.inl hq) (fun q _ hq => Or.inl hq) (fun E ce q9 u t H locs ht hal hpu hBX hz hk hS hcell hvm hcl => ?_) (fun r u t H locs ht hal hp hB hz hk hS => ?_)
  · have hO1 : zO cL v o H := zO_kept hO (hk o hoz (fun q => q.elim (fun ⟨i, hi, z⟩ => hno i hi z.symm) (fun z => absurd hoz (Nat.not_lt.mpr z))))
    obtain ⟨n9, τ⟩ := u
    rcases n9 with _ | _ | _ | _ | n9
    · exact hpu.elim
    · obtain ⟨hE, hw1⟩ := hBX
      have hE : E = "java/lang/IndexOutOfBoundsException" := hE
      subst hE
      refine vx_catch (name := "java/lang/IndexOutOfBoundsException") hown [] ⟨0, 10, 13, 13⟩ [⟨0, 10, 17, 15⟩] (htb.trans rfl) (fun z hz9 => absurd hz9 List.not_mem_nil) (by decide) (by decide) (hts _ (List.mem_of_getElem? (i := 1) rfl)) (va_Nw.use rfl (hCa.1 _ (by decide +kernel))) hcell hvm hcl ?_
      refine lv_astore (lv' := [(4, .ref q9), (0, .ref (ad 0)), (1, .int p0), (2, .int p1), (3, .ref o)]) hx hb dL_tray_13 hl (by decide) rfl (fun ls hl => ?_)
      refine lv_iconst (v := jI 1) hx hb dL_tray_15 (by decide +kernel) ?_
      refine W.widen (k := 2) (n := 12) (Nat.le_of_ble_eq_true rfl) (Nat.le_of_ble_eq_true rfl) ?_
      exact W.iret (v := jI 1) hx hb hr (fun t2 ht2 hW => ⟨⟨_, (τ, v), rfl, hpu, by rw [ht2, ← ht]; exact hw1, by rw [ht2]; exact hO1⟩, hS.F ht2⟩) hS.2.2 dL_tray_16
    · obtain ⟨hE, hw1⟩ := hBX
      have hE : E = "java/lang/IllegalArgumentException" := hE
      subst hE
      refine vx_catch (name := "java/lang/IllegalArgumentException") hown [⟨0, 10, 13, 13⟩] ⟨0, 10, 17, 15⟩ [] (htb.trans rfl) (fun z hz9 => by
      cases List.mem_singleton.mp hz9
      exact Or.inr ⟨by decide, "java/lang/IndexOutOfBoundsException", hts _ (List.mem_of_getElem? (i := 1) rfl), hCa.2 _ (by decide +kernel) _ (by decide +kernel) (by decide +kernel)⟩) (by decide) (by decide) (hts _ (List.mem_of_getElem? (i := 2) rfl)) (va_Nw.use rfl (hCa.1 _ (by decide +kernel))) hcell hvm hcl ?_
      refine lv_astore (lv' := [(4, .ref q9), (0, .ref (ad 0)), (1, .int p0), (2, .int p1), (3, .ref o)]) hx hb dL_tray_17 hl (by decide) rfl (fun ls hl => ?_)
      refine lv_iconst (v := jI 2) hx hb dL_tray_19 (by decide +kernel) ?_
      refine W.widen (k := 2) (n := 12) (Nat.le_of_ble_eq_true rfl) (Nat.le_of_ble_eq_true rfl) ?_
      exact W.iret (v := jI 2) hx hb hr (fun t2 ht2 hW => ⟨⟨_, (τ, v), rfl, hpu, by rw [ht2, ← ht]; exact hw1, by rw [ht2]; exact hO1⟩, hS.F ht2⟩) hS.2.2 dL_tray_20
    · exact hpu.elim
    · exact hpu.elim
  · have hO1 : zO cL v o H := zO_kept hO (hk o hoz (fun q => q.elim (fun ⟨i, hi, z⟩ => hno i hi z.symm) (fun z => absurd hoz (Nat.not_lt.mpr z))))
    refine lv_i2l (v := r.toInt64) hx hb dL_tray_8 rfl ?_
    have hw1 : zW D 116 (zce cy ad u) ad H := by rw [← ht]; exact hB
    refine zlast hx hb hLo hO1 hS (Or.inr rfl) dL_tray_9 (fun H2 locs hz2 hO2 hq2 hS => ?_)
    have hw2 : zW D 116 (zce cy ad u) ad H2 := fun i hi => (hw1 i hi).kept (hq2 _ (hno i hi))
    refine lv_goto (tgt := 21) hx hb dL_tray_10 (by decide) ?_
    refine lv_iconst (v := jI 0) hx hb dL_tray_21 (by decide +kernel) ?_
    refine W.widen (k := 2) (n := 12) (Nat.le_of_ble_eq_true rfl) (Nat.le_of_ble_eq_true rfl) ?_
    exact W.iret (v := jI 0) hx hb hr (fun t2 ht2 hW => ⟨⟨_, (u, r.toInt64), rfl, hp, by rw [ht2]; exact hw2, by rw [ht2]; exact hO2⟩, hS.F ht2⟩) hS.2.2 dL_tray_22
set_option maxHeartbeats 4000000 in
set_option maxRecDepth 100000 in
theorem c_L_shelf (l : Launch) (hlt : l.stackTraces = false) (D : va_G) (cy : cyT) (cL : ClassId) (ad : Nat → Nat) (AL : Nat → Prop) (sa : Nat → Nat) (sz : Nat) (σ : ST) (p0 : Int32) (p1 : Int32) (p2 : Int32) (v : Int64) (o : Nat) {Q : Int32 → Int64 → ST → Prop} (h : wL_shelf σ p0 p1 p2 v Q) : Met l yL_shelf wsL_shelf ({ frames := 8, cells := 2, slots := 12, locals := 133 } : Room) (lPre D cy cL ad AL sa sz σ v o [.ref (ad 0), .int p0, .int p1, .int p2, .ref o]) (va_Qi (fun r (u : ST × Int64) => Q r u.2 u.1) (lB D cy cL ad o) (lA ad sz o)) 2 12 (lA ad sz o) := by
  refine va_MetW (hh := [(0, 12, 15, 13), (0, 12, 19, 15)]) (cc := cL_shelf) (maxL := 6) (ret := some .int) (by decide) rfl ?_
  intro p e s m args below meth c s₁ B hml hv
  obtain ⟨rfl, hsz, hj, hK, hw, hX, hAL, hLo, hCa, hO, hno⟩ := hv
  subst hsz
  have hx := B.exec
  have hb := B.bytes
  have hr := B.returns
  have hts := atoms_spec (ws := wsL_shelf) B.pre
  have hown : s.vm.findClass RL = some m.cls := findClass_of_methodNamed B.named
  have htb : c.exceptionTable.toList = tableOf [(0, 12, 15, 13), (0, 12, 19, 15)] := vx_table (x := yL_shelf) (maxL' := 6) (ret' := some .int) (bytes := cL_shelf) (y := yL_shelf) B (hts _ (List.mem_of_getElem? (i := 0) rfl))
  have hoz : o < s.heap.size := zO_lt hO
  have hS : va_S (lA ad s.heap.size o) s.heap s.heap [] := va_S.rf
  have hl := lv_entry ([.ref (ad 0), .int p0, .int p1, .int p2, .ref o]) (n := 6) (Nat.le_of_ble_eq_true rfl)
  rw [lg_entry_eq]
  generalize (lg_sl ([.ref (ad 0), .int p0, .int p1, .int p2, .ref o]) ++ List.replicate (6 - (lg_sl ([.ref (ad 0), .int p0, .int p1, .int p2, .ref o])).length) Slot.unset).toArray = ls at hl ⊢
  have hl : lv_has ls 6 [(0, .ref (ad 0)), (1, .int p0), (2, .int p1), (3, .int p2), (4, .ref o)] := hl
  show W p l e ({ frames := 8, cells := 2, slots := 12, locals := 133 } : Room) s m ([.ref (ad 0), .int p0, .int p1, .int p2, .ref o] : List Value).toArray below meth c s.heap [] 0 0 (MQ below (va_Qi (fun r (u : ST × Int64) => Q r u.2 u.1) (lB D cy cL ad o) (lA ad s.heap.size o)) ([.ref (ad 0), .int p0, .int p1, .int p2, .ref o] : List Value).toArray s 2 12 (lA ad s.heap.size o)) (F0 m 0 ls [])
  refine lv_aload hx hb dL_shelf_0 (lv_at hl 4 rfl) ?_
  refine lv_iconst (v := jI 0) hx hb dL_shelf_2 (by decide +kernel) ?_
  refine lv_aload_n hx hb dL_shelf_3 rfl (lv_at hl 0 rfl) ?_
  refine lv_iload_n hx hb dL_shelf_4 rfl (lv_at hl 1 rfl) ?_
  refine lv_iload_n hx hb dL_shelf_5 rfl (lv_at hl 2 rfl) ?_
  refine lv_iload_n hx hb dL_shelf_6 rfl (lv_at hl 3 rfl) ?_
  refine vx_calli (vx_runV (As := [.int p0, .int p1, .int p2]) (rest := [.int (jI 0), .ref o]) ⟨hx, hb, hml, hown, hts⟩ (t_X6_shelf l hlt D cy ad AL sa s.heap.size σ p0 p1 p2 h) (cwV 3 hts gL_shelf_X6_shelf rfl rfl rfl (by decide +kernel) ⟨(Nat.le_of_ble_eq_true rfl), (Nat.le_of_ble_eq_true rfl)⟩) (xpreV hj hK hw hX hAL _) rfl rfl hl.1 rfl (lv_room (Nat.le_of_ble_eq_true rfl)) dL_shelf_7 ⟨(Nat.le_of_ble_eq_true rfl), (Nat.le_of_ble_eq_true rfl)⟩) hS (fun q _ hq => Or.inl hq) (fun q hq => Or.inl hq) (fun q _ hq => Or.inl hq) (fun E ce q9 u t H locs ht hal hpu hBX hz hk hS hcell hvm hcl => ?_) (fun r u t H locs ht hal hp hB hz hk hS => ?_)
  · have hO1 : zO cL v o H := zO_kept hO (hk o hoz (fun q => q.elim (fun ⟨i, hi, z⟩ => hno i hi z.symm) (fun z => absurd hoz (Nat.not_lt.mpr z))))
    obtain ⟨n9, τ⟩ := u
    rcases n9 with _ | _ | _ | _ | n9
    · exact hpu.elim
    · obtain ⟨hE, hw1⟩ := hBX
      have hE : E = "java/lang/IndexOutOfBoundsException" := hE
      subst hE
      refine vx_catch (name := "java/lang/IndexOutOfBoundsException") hown [] ⟨0, 12, 15, 13⟩ [⟨0, 12, 19, 15⟩] (htb.trans rfl) (fun z hz9 => absurd hz9 List.not_mem_nil) (by decide) (by decide) (hts _ (List.mem_of_getElem? (i := 1) rfl)) (va_Nw.use rfl (hCa.1 _ (by decide +kernel))) hcell hvm hcl ?_
      refine lv_astore (lv' := [(5, .ref q9), (0, .ref (ad 0)), (1, .int p0), (2, .int p1), (3, .int p2), (4, .ref o)]) hx hb dL_shelf_15 hl (by decide) rfl (fun ls hl => ?_)
      refine lv_iconst (v := jI 1) hx hb dL_shelf_17 (by decide +kernel) ?_
      refine W.widen (k := 2) (n := 12) (Nat.le_of_ble_eq_true rfl) (Nat.le_of_ble_eq_true rfl) ?_
      exact W.iret (v := jI 1) hx hb hr (fun t2 ht2 hW => ⟨⟨_, (τ, v), rfl, hpu, by rw [ht2, ← ht]; exact hw1, by rw [ht2]; exact hO1⟩, hS.F ht2⟩) hS.2.2 dL_shelf_18
    · obtain ⟨hE, hw1⟩ := hBX
      have hE : E = "java/lang/IllegalArgumentException" := hE
      subst hE
      refine vx_catch (name := "java/lang/IllegalArgumentException") hown [⟨0, 12, 15, 13⟩] ⟨0, 12, 19, 15⟩ [] (htb.trans rfl) (fun z hz9 => by
      cases List.mem_singleton.mp hz9
      exact Or.inr ⟨by decide, "java/lang/IndexOutOfBoundsException", hts _ (List.mem_of_getElem? (i := 1) rfl), hCa.2 _ (by decide +kernel) _ (by decide +kernel) (by decide +kernel)⟩) (by decide) (by decide) (hts _ (List.mem_of_getElem? (i := 2) rfl)) (va_Nw.use rfl (hCa.1 _ (by decide +kernel))) hcell hvm hcl ?_
      refine lv_astore (lv' := [(5, .ref q9), (0, .ref (ad 0)), (1, .int p0), (2, .int p1), (3, .int p2), (4, .ref o)]) hx hb dL_shelf_19 hl (by decide) rfl (fun ls hl => ?_)
      refine lv_iconst (v := jI 2) hx hb dL_shelf_21 (by decide +kernel) ?_
      refine W.widen (k := 2) (n := 12) (Nat.le_of_ble_eq_true rfl) (Nat.le_of_ble_eq_true rfl) ?_
      exact W.iret (v := jI 2) hx hb hr (fun t2 ht2 hW => ⟨⟨_, (τ, v), rfl, hpu, by rw [ht2, ← ht]; exact hw1, by rw [ht2]; exact hO1⟩, hS.F ht2⟩) hS.2.2 dL_shelf_22
    · exact hpu.elim
    · exact hpu.elim
  · have hO1 : zO cL v o H := zO_kept hO (hk o hoz (fun q => q.elim (fun ⟨i, hi, z⟩ => hno i hi z.symm) (fun z => absurd hoz (Nat.not_lt.mpr z))))
    refine lv_i2l (v := r.toInt64) hx hb dL_shelf_10 rfl ?_
    have hw1 : zW D 116 (zce cy ad u) ad H := by rw [← ht]; exact hB
    refine zlast hx hb hLo hO1 hS (Or.inr rfl) dL_shelf_11 (fun H2 locs hz2 hO2 hq2 hS => ?_)
    have hw2 : zW D 116 (zce cy ad u) ad H2 := fun i hi => (hw1 i hi).kept (hq2 _ (hno i hi))
    refine lv_goto (tgt := 23) hx hb dL_shelf_12 (by decide) ?_
    refine lv_iconst (v := jI 0) hx hb dL_shelf_23 (by decide +kernel) ?_
    refine W.widen (k := 2) (n := 12) (Nat.le_of_ble_eq_true rfl) (Nat.le_of_ble_eq_true rfl) ?_
    exact W.iret (v := jI 0) hx hb hr (fun t2 ht2 hW => ⟨⟨_, (u, r.toInt64), rfl, hp, by rw [ht2]; exact hw2, by rw [ht2]; exact hO2⟩, hS.F ht2⟩) hS.2.2 dL_shelf_24
set_option maxHeartbeats 4000000 in
set_option maxRecDepth 100000 in
theorem c_L_at (l : Launch) (hlt : l.stackTraces = false) (D : va_G) (cy : cyT) (cL : ClassId) (ad : Nat → Nat) (AL : Nat → Prop) (sa : Nat → Nat) (sz : Nat) (σ : ST) (p0 : Int32) (p1 : Int32) (p2 : Int32) (v : Int64) (o : Nat) {Q : Int32 → Int64 → ST → Prop} (h : wL_at σ p0 p1 p2 v Q) : Met l yL_at wsL_at ({ frames := 8, cells := 2, slots := 12, locals := 133 } : Room) (lPre D cy cL ad AL sa sz σ v o [.ref (ad 0), .int p0, .int p1, .int p2, .ref o]) (va_Qi (fun r (u : ST × Int64) => Q r u.2 u.1) (lB D cy cL ad o) (lA ad sz o)) 2 12 (lA ad sz o) := by
  refine va_MetW (hh := [(0, 12, 15, 13), (0, 12, 19, 15)]) (cc := cL_at) (maxL := 6) (ret := some .int) (by decide) rfl ?_
  intro p e s m args below meth c s₁ B hml hv
  obtain ⟨rfl, hsz, hj, hK, hw, hX, hAL, hLo, hCa, hO, hno⟩ := hv
  subst hsz
  have hx := B.exec
  have hb := B.bytes
  have hr := B.returns
  have hts := atoms_spec (ws := wsL_at) B.pre
  have hown : s.vm.findClass RL = some m.cls := findClass_of_methodNamed B.named
  have htb : c.exceptionTable.toList = tableOf [(0, 12, 15, 13), (0, 12, 19, 15)] := vx_table (x := yL_at) (maxL' := 6) (ret' := some .int) (bytes := cL_at) (y := yL_at) B (hts _ (List.mem_of_getElem? (i := 0) rfl))
  have hoz : o < s.heap.size := zO_lt hO
  have hS : va_S (lA ad s.heap.size o) s.heap s.heap [] := va_S.rf
  have hl := lv_entry ([.ref (ad 0), .int p0, .int p1, .int p2, .ref o]) (n := 6) (Nat.le_of_ble_eq_true rfl)
  rw [lg_entry_eq]
  generalize (lg_sl ([.ref (ad 0), .int p0, .int p1, .int p2, .ref o]) ++ List.replicate (6 - (lg_sl ([.ref (ad 0), .int p0, .int p1, .int p2, .ref o])).length) Slot.unset).toArray = ls at hl ⊢
  have hl : lv_has ls 6 [(0, .ref (ad 0)), (1, .int p0), (2, .int p1), (3, .int p2), (4, .ref o)] := hl
  show W p l e ({ frames := 8, cells := 2, slots := 12, locals := 133 } : Room) s m ([.ref (ad 0), .int p0, .int p1, .int p2, .ref o] : List Value).toArray below meth c s.heap [] 0 0 (MQ below (va_Qi (fun r (u : ST × Int64) => Q r u.2 u.1) (lB D cy cL ad o) (lA ad s.heap.size o)) ([.ref (ad 0), .int p0, .int p1, .int p2, .ref o] : List Value).toArray s 2 12 (lA ad s.heap.size o)) (F0 m 0 ls [])
  refine lv_aload hx hb dL_at_0 (lv_at hl 4 rfl) ?_
  refine lv_iconst (v := jI 0) hx hb dL_at_2 (by decide +kernel) ?_
  refine lv_aload_n hx hb dL_at_3 rfl (lv_at hl 0 rfl) ?_
  refine lv_iload_n hx hb dL_at_4 rfl (lv_at hl 1 rfl) ?_
  refine lv_iload_n hx hb dL_at_5 rfl (lv_at hl 2 rfl) ?_
  refine lv_iload_n hx hb dL_at_6 rfl (lv_at hl 3 rfl) ?_
  refine vx_calli (vx_runV (As := [.int p0, .int p1, .int p2]) (rest := [.int (jI 0), .ref o]) ⟨hx, hb, hml, hown, hts⟩ (t_X6_at l hlt D cy ad AL sa s.heap.size σ p0 p1 p2 h) (cwV 3 hts gL_at_X6_at rfl rfl rfl (by decide +kernel) ⟨(Nat.le_of_ble_eq_true rfl), (Nat.le_of_ble_eq_true rfl)⟩) (xpreV hj hK hw hX hAL _) rfl rfl hl.1 rfl (lv_room (Nat.le_of_ble_eq_true rfl)) dL_at_7 ⟨(Nat.le_of_ble_eq_true rfl), (Nat.le_of_ble_eq_true rfl)⟩) hS (fun q _ hq => Or.inl hq) (fun q hq => Or.inl hq) (fun q _ hq => Or.inl hq) (fun E ce q9 u t H locs ht hal hpu hBX hz hk hS hcell hvm hcl => ?_) (fun r u t H locs ht hal hp hB hz hk hS => ?_)
  · have hO1 : zO cL v o H := zO_kept hO (hk o hoz (fun q => q.elim (fun ⟨i, hi, z⟩ => hno i hi z.symm) (fun z => absurd hoz (Nat.not_lt.mpr z))))
    obtain ⟨n9, τ⟩ := u
    rcases n9 with _ | _ | _ | _ | n9
    · exact hpu.elim
    · obtain ⟨hE, hw1⟩ := hBX
      have hE : E = "java/lang/IndexOutOfBoundsException" := hE
      subst hE
      refine vx_catch (name := "java/lang/IndexOutOfBoundsException") hown [] ⟨0, 12, 15, 13⟩ [⟨0, 12, 19, 15⟩] (htb.trans rfl) (fun z hz9 => absurd hz9 List.not_mem_nil) (by decide) (by decide) (hts _ (List.mem_of_getElem? (i := 1) rfl)) (va_Nw.use rfl (hCa.1 _ (by decide +kernel))) hcell hvm hcl ?_
      refine lv_astore (lv' := [(5, .ref q9), (0, .ref (ad 0)), (1, .int p0), (2, .int p1), (3, .int p2), (4, .ref o)]) hx hb dL_at_15 hl (by decide) rfl (fun ls hl => ?_)
      refine lv_iconst (v := jI 1) hx hb dL_at_17 (by decide +kernel) ?_
      refine W.widen (k := 2) (n := 12) (Nat.le_of_ble_eq_true rfl) (Nat.le_of_ble_eq_true rfl) ?_
      exact W.iret (v := jI 1) hx hb hr (fun t2 ht2 hW => ⟨⟨_, (τ, v), rfl, hpu, by rw [ht2, ← ht]; exact hw1, by rw [ht2]; exact hO1⟩, hS.F ht2⟩) hS.2.2 dL_at_18
    · obtain ⟨hE, hw1⟩ := hBX
      have hE : E = "java/lang/IllegalArgumentException" := hE
      subst hE
      refine vx_catch (name := "java/lang/IllegalArgumentException") hown [⟨0, 12, 15, 13⟩] ⟨0, 12, 19, 15⟩ [] (htb.trans rfl) (fun z hz9 => by
      cases List.mem_singleton.mp hz9
      exact Or.inr ⟨by decide, "java/lang/IndexOutOfBoundsException", hts _ (List.mem_of_getElem? (i := 1) rfl), hCa.2 _ (by decide +kernel) _ (by decide +kernel) (by decide +kernel)⟩) (by decide) (by decide) (hts _ (List.mem_of_getElem? (i := 2) rfl)) (va_Nw.use rfl (hCa.1 _ (by decide +kernel))) hcell hvm hcl ?_
      refine lv_astore (lv' := [(5, .ref q9), (0, .ref (ad 0)), (1, .int p0), (2, .int p1), (3, .int p2), (4, .ref o)]) hx hb dL_at_19 hl (by decide) rfl (fun ls hl => ?_)
      refine lv_iconst (v := jI 2) hx hb dL_at_21 (by decide +kernel) ?_
      refine W.widen (k := 2) (n := 12) (Nat.le_of_ble_eq_true rfl) (Nat.le_of_ble_eq_true rfl) ?_
      exact W.iret (v := jI 2) hx hb hr (fun t2 ht2 hW => ⟨⟨_, (τ, v), rfl, hpu, by rw [ht2, ← ht]; exact hw1, by rw [ht2]; exact hO1⟩, hS.F ht2⟩) hS.2.2 dL_at_22
    · exact hpu.elim
    · exact hpu.elim
  · have hO1 : zO cL v o H := zO_kept hO (hk o hoz (fun q => q.elim (fun ⟨i, hi, z⟩ => hno i hi z.symm) (fun z => absurd hoz (Nat.not_lt.mpr z))))
    refine lv_i2l (v := r.toInt64) hx hb dL_at_10 rfl ?_
    have hw1 : zW D 116 (zce cy ad u) ad H := by rw [← ht]; exact hB
    refine zlast hx hb hLo hO1 hS (Or.inr rfl) dL_at_11 (fun H2 locs hz2 hO2 hq2 hS => ?_)
    have hw2 : zW D 116 (zce cy ad u) ad H2 := fun i hi => (hw1 i hi).kept (hq2 _ (hno i hi))
    refine lv_goto (tgt := 23) hx hb dL_at_12 (by decide) ?_
    refine lv_iconst (v := jI 0) hx hb dL_at_23 (by decide +kernel) ?_
    refine W.widen (k := 2) (n := 12) (Nat.le_of_ble_eq_true rfl) (Nat.le_of_ble_eq_true rfl) ?_
    exact W.iret (v := jI 0) hx hb hr (fun t2 ht2 hW => ⟨⟨_, (u, r.toInt64), rfl, hp, by rw [ht2]; exact hw2, by rw [ht2]; exact hO2⟩, hS.F ht2⟩) hS.2.2 dL_at_24
set_option maxHeartbeats 4000000 in
set_option maxRecDepth 100000 in
theorem c_L_street (l : Launch) (hlt : l.stackTraces = false) (D : va_G) (cy : cyT) (cL : ClassId) (ad : Nat → Nat) (AL : Nat → Prop) (sa : Nat → Nat) (sz : Nat) (σ : ST) (p0 : Int32) (v : Int64) (o : Nat) {Q : Int32 → Int64 → ST → Prop} (h : wL_street σ p0 v Q) : Met l yL_street wsL_street ({ frames := 8, cells := 1, slots := 6, locals := 131 } : Room) (lPre D cy cL ad AL sa sz σ v o [.ref (ad 0), .int p0, .ref o]) (va_Qi (fun r (u : ST × Int64) => Q r u.2 u.1) (lB D cy cL ad o) (lA ad sz o)) 1 6 (lA ad sz o) := by
  refine va_MetW (hh := [(0, 9, 12, 15)]) (cc := cL_street) (maxL := 4) (ret := some .int) (by decide) rfl ?_
  intro p e s m args below meth c s₁ B hml hv
  obtain ⟨rfl, hsz, hj, hK, hw, hX, hAL, hLo, hCa, hO, hno⟩ := hv
  subst hsz
  have hx := B.exec
  have hb := B.bytes
  have hr := B.returns
  have hts := atoms_spec (ws := wsL_street) B.pre
  have hown : s.vm.findClass RL = some m.cls := findClass_of_methodNamed B.named
  have htb : c.exceptionTable.toList = tableOf [(0, 9, 12, 15)] := vx_table (x := yL_street) (maxL' := 4) (ret' := some .int) (bytes := cL_street) (y := yL_street) B (hts _ (List.mem_of_getElem? (i := 0) rfl))
  have hoz : o < s.heap.size := zO_lt hO
  have hS : va_S (lA ad s.heap.size o) s.heap s.heap [] := va_S.rf
  have hl := lv_entry ([.ref (ad 0), .int p0, .ref o]) (n := 4) (Nat.le_of_ble_eq_true rfl)
  rw [lg_entry_eq]
  generalize (lg_sl ([.ref (ad 0), .int p0, .ref o]) ++ List.replicate (4 - (lg_sl ([.ref (ad 0), .int p0, .ref o])).length) Slot.unset).toArray = ls at hl ⊢
  have hl : lv_has ls 4 [(0, .ref (ad 0)), (1, .int p0), (2, .ref o)] := hl
  show W p l e ({ frames := 8, cells := 1, slots := 6, locals := 131 } : Room) s m ([.ref (ad 0), .int p0, .ref o] : List Value).toArray below meth c s.heap [] 0 0 (MQ below (va_Qi (fun r (u : ST × Int64) => Q r u.2 u.1) (lB D cy cL ad o) (lA ad s.heap.size o)) ([.ref (ad 0), .int p0, .ref o] : List Value).toArray s 1 6 (lA ad s.heap.size o)) (F0 m 0 ls [])
  refine lv_aload_n hx hb dL_street_0 rfl (lv_at hl 2 rfl) ?_
  refine lv_iconst (v := jI 0) hx hb dL_street_1 (by decide +kernel) ?_
  refine lv_aload_n hx hb dL_street_2 rfl (lv_at hl 0 rfl) ?_
  refine lv_iload_n hx hb dL_street_3 rfl (lv_at hl 1 rfl) ?_
  refine vx_calli (vx_runV (As := [.int p0]) (rest := [.int (jI 0), .ref o]) ⟨hx, hb, hml, hown, hts⟩ (t_X6_street l hlt D cy ad AL sa s.heap.size σ p0 h) (cwV 1 hts gL_street_X6_street rfl rfl rfl (by decide +kernel) ⟨(Nat.le_of_ble_eq_true rfl), (Nat.le_of_ble_eq_true rfl)⟩) (xpreV hj hK hw hX hAL _) rfl rfl hl.1 rfl (lv_room (Nat.le_of_ble_eq_true rfl)) dL_street_4 ⟨(Nat.le_of_ble_eq_true rfl), (Nat.le_of_ble_eq_true rfl)⟩) hS (fun q _ hq => Or.inl hq) (fun q hq => Or.inl hq) (fun q _ hq => Or.inl hq) (fun E ce q9 u t H locs ht hal hpu hBX hz hk hS hcell hvm hcl => ?_) (fun r u t H locs ht hal hp hB hz hk hS => ?_)
  · have hO1 : zO cL v o H := zO_kept hO (hk o hoz (fun q => q.elim (fun ⟨i, hi, z⟩ => hno i hi z.symm) (fun z => absurd hoz (Nat.not_lt.mpr z))))
    obtain ⟨n9, τ⟩ := u
    rcases n9 with _ | _ | _ | _ | n9
    · exact hpu.elim
    · exact hpu.elim
    · obtain ⟨hE, hw1⟩ := hBX
      have hE : E = "java/lang/IllegalArgumentException" := hE
      subst hE
      refine vx_catch (name := "java/lang/IllegalArgumentException") hown [] ⟨0, 9, 12, 15⟩ [] (htb.trans rfl) (fun z hz9 => absurd hz9 List.not_mem_nil) (by decide) (by decide) (hts _ (List.mem_of_getElem? (i := 1) rfl)) (va_Nw.use rfl (hCa.1 _ (by decide +kernel))) hcell hvm hcl ?_
      refine lv_astore_n (lv' := [(3, .ref q9), (0, .ref (ad 0)), (1, .int p0), (2, .ref o)]) hx hb dL_street_12 rfl hl (by decide) rfl (fun ls hl => ?_)
      refine lv_iconst (v := jI 1) hx hb dL_street_13 (by decide +kernel) ?_
      refine W.widen (k := 1) (n := 6) (Nat.le_of_ble_eq_true rfl) (Nat.le_of_ble_eq_true rfl) ?_
      exact W.iret (v := jI 1) hx hb hr (fun t2 ht2 hW => ⟨⟨_, (τ, v), rfl, hpu, by rw [ht2, ← ht]; exact hw1, by rw [ht2]; exact hO1⟩, hS.F ht2⟩) hS.2.2 dL_street_14
    · exact hpu.elim
    · exact hpu.elim
  · have hO1 : zO cL v o H := zO_kept hO (hk o hoz (fun q => q.elim (fun ⟨i, hi, z⟩ => hno i hi z.symm) (fun z => absurd hoz (Nat.not_lt.mpr z))))
    refine lv_i2l (v := r.toInt64) hx hb dL_street_7 rfl ?_
    have hw1 : zW D 116 (zce cy ad u) ad H := by rw [← ht]; exact hB
    refine zlast hx hb hLo hO1 hS (Or.inr rfl) dL_street_8 (fun H2 locs hz2 hO2 hq2 hS => ?_)
    have hw2 : zW D 116 (zce cy ad u) ad H2 := fun i hi => (hw1 i hi).kept (hq2 _ (hno i hi))
    refine lv_goto (tgt := 15) hx hb dL_street_9 (by decide) ?_
    refine lv_iconst (v := jI 0) hx hb dL_street_15 (by decide +kernel) ?_
    refine W.widen (k := 1) (n := 6) (Nat.le_of_ble_eq_true rfl) (Nat.le_of_ble_eq_true rfl) ?_
    exact W.iret (v := jI 0) hx hb hr (fun t2 ht2 hW => ⟨⟨_, (u, r.toInt64), rfl, hp, by rw [ht2]; exact hw2, by rw [ht2]; exact hO2⟩, hS.F ht2⟩) hS.2.2 dL_street_16
set_option maxHeartbeats 4000000 in
set_option maxRecDepth 100000 in
theorem c_L_whole (l : Launch) (hlt : l.stackTraces = false) (D : va_G) (cy : cyT) (cL : ClassId) (ad : Nat → Nat) (AL : Nat → Prop) (sa : Nat → Nat) (sz : Nat) (σ : ST) (p0 : Int32) (v : Int64) (o : Nat) {Q : Int32 → Int64 → ST → Prop} (h : wL_whole σ p0 v Q) : Met l yL_whole wsL_whole ({ frames := 8, cells := 1, slots := 6, locals := 131 } : Room) (lPre D cy cL ad AL sa sz σ v o [.ref (ad 0), .int p0, .ref o]) (va_Qi (fun r (u : ST × Int64) => Q r u.2 u.1) (lB D cy cL ad o) (lA ad sz o)) 1 6 (lA ad sz o) := by
  refine va_MetW (hh := [(0, 9, 12, 15)]) (cc := cL_whole) (maxL := 4) (ret := some .int) (by decide) rfl ?_
  intro p e s m args below meth c s₁ B hml hv
  obtain ⟨rfl, hsz, hj, hK, hw, hX, hAL, hLo, hCa, hO, hno⟩ := hv
  subst hsz
  have hx := B.exec
  have hb := B.bytes
  have hr := B.returns
  have hts := atoms_spec (ws := wsL_whole) B.pre
  have hown : s.vm.findClass RL = some m.cls := findClass_of_methodNamed B.named
  have htb : c.exceptionTable.toList = tableOf [(0, 9, 12, 15)] := vx_table (x := yL_whole) (maxL' := 4) (ret' := some .int) (bytes := cL_whole) (y := yL_whole) B (hts _ (List.mem_of_getElem? (i := 0) rfl))
  have hoz : o < s.heap.size := zO_lt hO
  have hS : va_S (lA ad s.heap.size o) s.heap s.heap [] := va_S.rf
  have hl := lv_entry ([.ref (ad 0), .int p0, .ref o]) (n := 4) (Nat.le_of_ble_eq_true rfl)
  rw [lg_entry_eq]
  generalize (lg_sl ([.ref (ad 0), .int p0, .ref o]) ++ List.replicate (4 - (lg_sl ([.ref (ad 0), .int p0, .ref o])).length) Slot.unset).toArray = ls at hl ⊢
  have hl : lv_has ls 4 [(0, .ref (ad 0)), (1, .int p0), (2, .ref o)] := hl
  show W p l e ({ frames := 8, cells := 1, slots := 6, locals := 131 } : Room) s m ([.ref (ad 0), .int p0, .ref o] : List Value).toArray below meth c s.heap [] 0 0 (MQ below (va_Qi (fun r (u : ST × Int64) => Q r u.2 u.1) (lB D cy cL ad o) (lA ad s.heap.size o)) ([.ref (ad 0), .int p0, .ref o] : List Value).toArray s 1 6 (lA ad s.heap.size o)) (F0 m 0 ls [])
  refine lv_aload_n hx hb dL_whole_0 rfl (lv_at hl 2 rfl) ?_
  refine lv_iconst (v := jI 0) hx hb dL_whole_1 (by decide +kernel) ?_
  refine lv_aload_n hx hb dL_whole_2 rfl (lv_at hl 0 rfl) ?_
  refine lv_iload_n hx hb dL_whole_3 rfl (lv_at hl 1 rfl) ?_
  refine vx_calli (vx_runV (As := [.int p0]) (rest := [.int (jI 0), .ref o]) ⟨hx, hb, hml, hown, hts⟩ (t_X6_whole l hlt D cy ad AL sa s.heap.size σ p0 h) (cwV 1 hts gL_whole_X6_whole rfl rfl rfl (by decide +kernel) ⟨(Nat.le_of_ble_eq_true rfl), (Nat.le_of_ble_eq_true rfl)⟩) (xpreV hj hK hw hX hAL _) rfl rfl hl.1 rfl (lv_room (Nat.le_of_ble_eq_true rfl)) dL_whole_4 ⟨(Nat.le_of_ble_eq_true rfl), (Nat.le_of_ble_eq_true rfl)⟩) hS (fun q _ hq => Or.inl hq) (fun q hq => Or.inl hq) (fun q _ hq => Or.inl hq) (fun E ce q9 u t H locs ht hal hpu hBX hz hk hS hcell hvm hcl => ?_) (fun r u t H locs ht hal hp hB hz hk hS => ?_)
  · have hO1 : zO cL v o H := zO_kept hO (hk o hoz (fun q => q.elim (fun ⟨i, hi, z⟩ => hno i hi z.symm) (fun z => absurd hoz (Nat.not_lt.mpr z))))
    obtain ⟨n9, τ⟩ := u
    rcases n9 with _ | _ | _ | _ | n9
    · exact hpu.elim
    · exact hpu.elim
    · obtain ⟨hE, hw1⟩ := hBX
      have hE : E = "java/lang/IllegalArgumentException" := hE
      subst hE
      refine vx_catch (name := "java/lang/IllegalArgumentException") hown [] ⟨0, 9, 12, 15⟩ [] (htb.trans rfl) (fun z hz9 => absurd hz9 List.not_mem_nil) (by decide) (by decide) (hts _ (List.mem_of_getElem? (i := 1) rfl)) (va_Nw.use rfl (hCa.1 _ (by decide +kernel))) hcell hvm hcl ?_
      refine lv_astore_n (lv' := [(3, .ref q9), (0, .ref (ad 0)), (1, .int p0), (2, .ref o)]) hx hb dL_whole_12 rfl hl (by decide) rfl (fun ls hl => ?_)
      refine lv_iconst (v := jI 1) hx hb dL_whole_13 (by decide +kernel) ?_
      refine W.widen (k := 1) (n := 6) (Nat.le_of_ble_eq_true rfl) (Nat.le_of_ble_eq_true rfl) ?_
      exact W.iret (v := jI 1) hx hb hr (fun t2 ht2 hW => ⟨⟨_, (τ, v), rfl, hpu, by rw [ht2, ← ht]; exact hw1, by rw [ht2]; exact hO1⟩, hS.F ht2⟩) hS.2.2 dL_whole_14
    · exact hpu.elim
    · exact hpu.elim
  · have hO1 : zO cL v o H := zO_kept hO (hk o hoz (fun q => q.elim (fun ⟨i, hi, z⟩ => hno i hi z.symm) (fun z => absurd hoz (Nat.not_lt.mpr z))))
    refine lv_i2l (v := r.toInt64) hx hb dL_whole_7 rfl ?_
    have hw1 : zW D 116 (zce cy ad u) ad H := by rw [← ht]; exact hB
    refine zlast hx hb hLo hO1 hS (Or.inr rfl) dL_whole_8 (fun H2 locs hz2 hO2 hq2 hS => ?_)
    have hw2 : zW D 116 (zce cy ad u) ad H2 := fun i hi => (hw1 i hi).kept (hq2 _ (hno i hi))
    refine lv_goto (tgt := 15) hx hb dL_whole_9 (by decide) ?_
    refine lv_iconst (v := jI 0) hx hb dL_whole_15 (by decide +kernel) ?_
    refine W.widen (k := 1) (n := 6) (Nat.le_of_ble_eq_true rfl) (Nat.le_of_ble_eq_true rfl) ?_
    exact W.iret (v := jI 0) hx hb hr (fun t2 ht2 hW => ⟨⟨_, (u, r.toInt64), rfl, hp, by rw [ht2]; exact hw2, by rw [ht2]; exact hO2⟩, hS.F ht2⟩) hS.2.2 dL_whole_16
set_option maxHeartbeats 4000000 in
set_option maxRecDepth 100000 in
theorem c_L_rule (l : Launch) (hlt : l.stackTraces = false) (D : va_G) (cy : cyT) (cL : ClassId) (ad : Nat → Nat) (AL : Nat → Prop) (sa : Nat → Nat) (sz : Nat) (σ : ST) (p0 : Int32) (p1 : Int32) (p2 : Int32) (v : Int64) (o : Nat) {Q : Int32 → Int64 → ST → Prop} (h : wL_rule σ p0 p1 p2 v Q) : Met l yL_rule wsL_rule ({ frames := 8, cells := 1, slots := 6, locals := 136 } : Room) (lPre D cy cL ad AL sa sz σ v o [.ref (ad 0), .int p0, .int p1, .int p2, .ref o]) (va_Qi (fun r (u : ST × Int64) => Q r u.2 u.1) (lB D cy cL ad o) (lA ad sz o)) 1 6 (lA ad sz o) := by
  refine va_MetW (hh := [(0, 12, 15, 13), (0, 12, 19, 15)]) (cc := cL_rule) (maxL := 6) (ret := some .int) (by decide) rfl ?_
  intro p e s m args below meth c s₁ B hml hv
  obtain ⟨rfl, hsz, hj, hK, hw, hX, hAL, hLo, hCa, hO, hno⟩ := hv
  subst hsz
  have hx := B.exec
  have hb := B.bytes
  have hr := B.returns
  have hts := atoms_spec (ws := wsL_rule) B.pre
  have hown : s.vm.findClass RL = some m.cls := findClass_of_methodNamed B.named
  have htb : c.exceptionTable.toList = tableOf [(0, 12, 15, 13), (0, 12, 19, 15)] := vx_table (x := yL_rule) (maxL' := 6) (ret' := some .int) (bytes := cL_rule) (y := yL_rule) B (hts _ (List.mem_of_getElem? (i := 0) rfl))
  have hoz : o < s.heap.size := zO_lt hO
  have hS : va_S (lA ad s.heap.size o) s.heap s.heap [] := va_S.rf
  have hl := lv_entry ([.ref (ad 0), .int p0, .int p1, .int p2, .ref o]) (n := 6) (Nat.le_of_ble_eq_true rfl)
  rw [lg_entry_eq]
  generalize (lg_sl ([.ref (ad 0), .int p0, .int p1, .int p2, .ref o]) ++ List.replicate (6 - (lg_sl ([.ref (ad 0), .int p0, .int p1, .int p2, .ref o])).length) Slot.unset).toArray = ls at hl ⊢
  have hl : lv_has ls 6 [(0, .ref (ad 0)), (1, .int p0), (2, .int p1), (3, .int p2), (4, .ref o)] := hl
  show W p l e ({ frames := 8, cells := 1, slots := 6, locals := 136 } : Room) s m ([.ref (ad 0), .int p0, .int p1, .int p2, .ref o] : List Value).toArray below meth c s.heap [] 0 0 (MQ below (va_Qi (fun r (u : ST × Int64) => Q r u.2 u.1) (lB D cy cL ad o) (lA ad s.heap.size o)) ([.ref (ad 0), .int p0, .int p1, .int p2, .ref o] : List Value).toArray s 1 6 (lA ad s.heap.size o)) (F0 m 0 ls [])
  refine lv_aload hx hb dL_rule_0 (lv_at hl 4 rfl) ?_
  refine lv_iconst (v := jI 0) hx hb dL_rule_2 (by decide +kernel) ?_
  refine lv_aload_n hx hb dL_rule_3 rfl (lv_at hl 0 rfl) ?_
  refine lv_iload_n hx hb dL_rule_4 rfl (lv_at hl 1 rfl) ?_
  refine lv_iload_n hx hb dL_rule_5 rfl (lv_at hl 2 rfl) ?_
  refine lv_iload_n hx hb dL_rule_6 rfl (lv_at hl 3 rfl) ?_
  refine vx_calli (vx_runV (As := [.int p0, .int p1, .int p2]) (rest := [.int (jI 0), .ref o]) ⟨hx, hb, hml, hown, hts⟩ (t_X6_rule l hlt D cy ad AL sa s.heap.size σ p0 p1 p2 h) (cwV 3 hts gL_rule_X6_rule rfl rfl rfl (by decide +kernel) ⟨(Nat.le_of_ble_eq_true rfl), (Nat.le_of_ble_eq_true rfl)⟩) (xpreV hj hK hw hX hAL _) rfl rfl hl.1 rfl (lv_room (Nat.le_of_ble_eq_true rfl)) dL_rule_7 ⟨(Nat.le_of_ble_eq_true rfl), (Nat.le_of_ble_eq_true rfl)⟩) hS (fun q _ hq => Or.inl hq) (fun q hq => Or.inl hq) (fun q _ hq => Or.inl hq) (fun E ce q9 u t H locs ht hal hpu hBX hz hk hS hcell hvm hcl => ?_) (fun r u t H locs ht hal hp hB hz hk hS => ?_)
  · have hO1 : zO cL v o H := zO_kept hO (hk o hoz (fun q => q.elim (fun ⟨i, hi, z⟩ => hno i hi z.symm) (fun z => absurd hoz (Nat.not_lt.mpr z))))
    obtain ⟨n9, τ⟩ := u
    rcases n9 with _ | _ | _ | _ | n9
    · exact hpu.elim
    · obtain ⟨hE, hw1⟩ := hBX
      have hE : E = "java/lang/IndexOutOfBoundsException" := hE
      subst hE
      refine vx_catch (name := "java/lang/IndexOutOfBoundsException") hown [] ⟨0, 12, 15, 13⟩ [⟨0, 12, 19, 15⟩] (htb.trans rfl) (fun z hz9 => absurd hz9 List.not_mem_nil) (by decide) (by decide) (hts _ (List.mem_of_getElem? (i := 1) rfl)) (va_Nw.use rfl (hCa.1 _ (by decide +kernel))) hcell hvm hcl ?_
      refine lv_astore (lv' := [(5, .ref q9), (0, .ref (ad 0)), (1, .int p0), (2, .int p1), (3, .int p2), (4, .ref o)]) hx hb dL_rule_15 hl (by decide) rfl (fun ls hl => ?_)
      refine lv_iconst (v := jI 1) hx hb dL_rule_17 (by decide +kernel) ?_
      refine W.widen (k := 1) (n := 6) (Nat.le_of_ble_eq_true rfl) (Nat.le_of_ble_eq_true rfl) ?_
      exact W.iret (v := jI 1) hx hb hr (fun t2 ht2 hW => ⟨⟨_, (τ, v), rfl, hpu, by rw [ht2, ← ht]; exact hw1, by rw [ht2]; exact hO1⟩, hS.F ht2⟩) hS.2.2 dL_rule_18
    · obtain ⟨hE, hw1⟩ := hBX
      have hE : E = "java/lang/IllegalArgumentException" := hE
      subst hE
      refine vx_catch (name := "java/lang/IllegalArgumentException") hown [⟨0, 12, 15, 13⟩] ⟨0, 12, 19, 15⟩ [] (htb.trans rfl) (fun z hz9 => by
      cases List.mem_singleton.mp hz9
      exact Or.inr ⟨by decide, "java/lang/IndexOutOfBoundsException", hts _ (List.mem_of_getElem? (i := 1) rfl), hCa.2 _ (by decide +kernel) _ (by decide +kernel) (by decide +kernel)⟩) (by decide) (by decide) (hts _ (List.mem_of_getElem? (i := 2) rfl)) (va_Nw.use rfl (hCa.1 _ (by decide +kernel))) hcell hvm hcl ?_
      refine lv_astore (lv' := [(5, .ref q9), (0, .ref (ad 0)), (1, .int p0), (2, .int p1), (3, .int p2), (4, .ref o)]) hx hb dL_rule_19 hl (by decide) rfl (fun ls hl => ?_)
      refine lv_iconst (v := jI 2) hx hb dL_rule_21 (by decide +kernel) ?_
      refine W.widen (k := 1) (n := 6) (Nat.le_of_ble_eq_true rfl) (Nat.le_of_ble_eq_true rfl) ?_
      exact W.iret (v := jI 2) hx hb hr (fun t2 ht2 hW => ⟨⟨_, (τ, v), rfl, hpu, by rw [ht2, ← ht]; exact hw1, by rw [ht2]; exact hO1⟩, hS.F ht2⟩) hS.2.2 dL_rule_22
    · exact hpu.elim
    · exact hpu.elim
  · have hO1 : zO cL v o H := zO_kept hO (hk o hoz (fun q => q.elim (fun ⟨i, hi, z⟩ => hno i hi z.symm) (fun z => absurd hoz (Nat.not_lt.mpr z))))
    refine lv_i2l (v := r.toInt64) hx hb dL_rule_10 rfl ?_
    have hw1 : zW D 116 (zce cy ad u) ad H := by rw [← ht]; exact hB
    refine zlast hx hb hLo hO1 hS (Or.inr rfl) dL_rule_11 (fun H2 locs hz2 hO2 hq2 hS => ?_)
    have hw2 : zW D 116 (zce cy ad u) ad H2 := fun i hi => (hw1 i hi).kept (hq2 _ (hno i hi))
    refine lv_goto (tgt := 23) hx hb dL_rule_12 (by decide) ?_
    refine lv_iconst (v := jI 0) hx hb dL_rule_23 (by decide +kernel) ?_
    refine W.widen (k := 1) (n := 6) (Nat.le_of_ble_eq_true rfl) (Nat.le_of_ble_eq_true rfl) ?_
    exact W.iret (v := jI 0) hx hb hr (fun t2 ht2 hW => ⟨⟨_, (u, r.toInt64), rfl, hp, by rw [ht2]; exact hw2, by rw [ht2]; exact hO2⟩, hS.F ht2⟩) hS.2.2 dL_rule_24
set_option maxHeartbeats 4000000 in
set_option maxRecDepth 100000 in
theorem c_L_takenBy (l : Launch) (hlt : l.stackTraces = false) (D : va_G) (cy : cyT) (cL : ClassId) (ad : Nat → Nat) (AL : Nat → Prop) (sa : Nat → Nat) (sz : Nat) (σ : ST) (p0 : Int32) (p1 : Int32) (p2 : Int32) (v : Int64) (o : Nat) {Q : Int32 → Int64 → ST → Prop} (h : wL_takenBy σ p0 p1 p2 v Q) : Met l yL_takenBy wsL_takenBy ({ frames := 8, cells := 1, slots := 6, locals := 136 } : Room) (lPre D cy cL ad AL sa sz σ v o [.ref (ad 0), .int p0, .int p1, .int p2, .ref o]) (va_Qi (fun r (u : ST × Int64) => Q r u.2 u.1) (lB D cy cL ad o) (lA ad sz o)) 1 6 (lA ad sz o) := by
  refine va_MetW (hh := [(0, 12, 15, 13), (0, 12, 19, 15)]) (cc := cL_takenBy) (maxL := 6) (ret := some .int) (by decide) rfl ?_
  intro p e s m args below meth c s₁ B hml hv
  obtain ⟨rfl, hsz, hj, hK, hw, hX, hAL, hLo, hCa, hO, hno⟩ := hv
  subst hsz
  have hx := B.exec
  have hb := B.bytes
  have hr := B.returns
  have hts := atoms_spec (ws := wsL_takenBy) B.pre
  have hown : s.vm.findClass RL = some m.cls := findClass_of_methodNamed B.named
  have htb : c.exceptionTable.toList = tableOf [(0, 12, 15, 13), (0, 12, 19, 15)] := vx_table (x := yL_takenBy) (maxL' := 6) (ret' := some .int) (bytes := cL_takenBy) (y := yL_takenBy) B (hts _ (List.mem_of_getElem? (i := 0) rfl))
  have hoz : o < s.heap.size := zO_lt hO
  have hS : va_S (lA ad s.heap.size o) s.heap s.heap [] := va_S.rf
  have hl := lv_entry ([.ref (ad 0), .int p0, .int p1, .int p2, .ref o]) (n := 6) (Nat.le_of_ble_eq_true rfl)
  rw [lg_entry_eq]
  generalize (lg_sl ([.ref (ad 0), .int p0, .int p1, .int p2, .ref o]) ++ List.replicate (6 - (lg_sl ([.ref (ad 0), .int p0, .int p1, .int p2, .ref o])).length) Slot.unset).toArray = ls at hl ⊢
  have hl : lv_has ls 6 [(0, .ref (ad 0)), (1, .int p0), (2, .int p1), (3, .int p2), (4, .ref o)] := hl
  show W p l e ({ frames := 8, cells := 1, slots := 6, locals := 136 } : Room) s m ([.ref (ad 0), .int p0, .int p1, .int p2, .ref o] : List Value).toArray below meth c s.heap [] 0 0 (MQ below (va_Qi (fun r (u : ST × Int64) => Q r u.2 u.1) (lB D cy cL ad o) (lA ad s.heap.size o)) ([.ref (ad 0), .int p0, .int p1, .int p2, .ref o] : List Value).toArray s 1 6 (lA ad s.heap.size o)) (F0 m 0 ls [])
  refine lv_aload hx hb dL_takenBy_0 (lv_at hl 4 rfl) ?_
  refine lv_iconst (v := jI 0) hx hb dL_takenBy_2 (by decide +kernel) ?_
  refine lv_aload_n hx hb dL_takenBy_3 rfl (lv_at hl 0 rfl) ?_
  refine lv_iload_n hx hb dL_takenBy_4 rfl (lv_at hl 1 rfl) ?_
  refine lv_iload_n hx hb dL_takenBy_5 rfl (lv_at hl 2 rfl) ?_
  refine lv_iload_n hx hb dL_takenBy_6 rfl (lv_at hl 3 rfl) ?_
  refine vx_calli (vx_runV (As := [.int p0, .int p1, .int p2]) (rest := [.int (jI 0), .ref o]) ⟨hx, hb, hml, hown, hts⟩ (t_X6_takenBy l hlt D cy ad AL sa s.heap.size σ p0 p1 p2 h) (cwV 3 hts gL_takenBy_X6_takenBy rfl rfl rfl (by decide +kernel) ⟨(Nat.le_of_ble_eq_true rfl), (Nat.le_of_ble_eq_true rfl)⟩) (xpreV hj hK hw hX hAL _) rfl rfl hl.1 rfl (lv_room (Nat.le_of_ble_eq_true rfl)) dL_takenBy_7 ⟨(Nat.le_of_ble_eq_true rfl), (Nat.le_of_ble_eq_true rfl)⟩) hS (fun q _ hq => Or.inl hq) (fun q hq => Or.inl hq) (fun q _ hq => Or.inl hq) (fun E ce q9 u t H locs ht hal hpu hBX hz hk hS hcell hvm hcl => ?_) (fun r u t H locs ht hal hp hB hz hk hS => ?_)
  · have hO1 : zO cL v o H := zO_kept hO (hk o hoz (fun q => q.elim (fun ⟨i, hi, z⟩ => hno i hi z.symm) (fun z => absurd hoz (Nat.not_lt.mpr z))))
    obtain ⟨n9, τ⟩ := u
    rcases n9 with _ | _ | _ | _ | n9
    · exact hpu.elim
    · obtain ⟨hE, hw1⟩ := hBX
      have hE : E = "java/lang/IndexOutOfBoundsException" := hE
      subst hE
      refine vx_catch (name := "java/lang/IndexOutOfBoundsException") hown [] ⟨0, 12, 15, 13⟩ [⟨0, 12, 19, 15⟩] (htb.trans rfl) (fun z hz9 => absurd hz9 List.not_mem_nil) (by decide) (by decide) (hts _ (List.mem_of_getElem? (i := 1) rfl)) (va_Nw.use rfl (hCa.1 _ (by decide +kernel))) hcell hvm hcl ?_
      refine lv_astore (lv' := [(5, .ref q9), (0, .ref (ad 0)), (1, .int p0), (2, .int p1), (3, .int p2), (4, .ref o)]) hx hb dL_takenBy_15 hl (by decide) rfl (fun ls hl => ?_)
      refine lv_iconst (v := jI 1) hx hb dL_takenBy_17 (by decide +kernel) ?_
      refine W.widen (k := 1) (n := 6) (Nat.le_of_ble_eq_true rfl) (Nat.le_of_ble_eq_true rfl) ?_
      exact W.iret (v := jI 1) hx hb hr (fun t2 ht2 hW => ⟨⟨_, (τ, v), rfl, hpu, by rw [ht2, ← ht]; exact hw1, by rw [ht2]; exact hO1⟩, hS.F ht2⟩) hS.2.2 dL_takenBy_18
    · obtain ⟨hE, hw1⟩ := hBX
      have hE : E = "java/lang/IllegalArgumentException" := hE
      subst hE
      refine vx_catch (name := "java/lang/IllegalArgumentException") hown [⟨0, 12, 15, 13⟩] ⟨0, 12, 19, 15⟩ [] (htb.trans rfl) (fun z hz9 => by
      cases List.mem_singleton.mp hz9
      exact Or.inr ⟨by decide, "java/lang/IndexOutOfBoundsException", hts _ (List.mem_of_getElem? (i := 1) rfl), hCa.2 _ (by decide +kernel) _ (by decide +kernel) (by decide +kernel)⟩) (by decide) (by decide) (hts _ (List.mem_of_getElem? (i := 2) rfl)) (va_Nw.use rfl (hCa.1 _ (by decide +kernel))) hcell hvm hcl ?_
      refine lv_astore (lv' := [(5, .ref q9), (0, .ref (ad 0)), (1, .int p0), (2, .int p1), (3, .int p2), (4, .ref o)]) hx hb dL_takenBy_19 hl (by decide) rfl (fun ls hl => ?_)
      refine lv_iconst (v := jI 2) hx hb dL_takenBy_21 (by decide +kernel) ?_
      refine W.widen (k := 1) (n := 6) (Nat.le_of_ble_eq_true rfl) (Nat.le_of_ble_eq_true rfl) ?_
      exact W.iret (v := jI 2) hx hb hr (fun t2 ht2 hW => ⟨⟨_, (τ, v), rfl, hpu, by rw [ht2, ← ht]; exact hw1, by rw [ht2]; exact hO1⟩, hS.F ht2⟩) hS.2.2 dL_takenBy_22
    · exact hpu.elim
    · exact hpu.elim
  · have hO1 : zO cL v o H := zO_kept hO (hk o hoz (fun q => q.elim (fun ⟨i, hi, z⟩ => hno i hi z.symm) (fun z => absurd hoz (Nat.not_lt.mpr z))))
    refine lv_i2l (v := r.toInt64) hx hb dL_takenBy_10 rfl ?_
    have hw1 : zW D 116 (zce cy ad u) ad H := by rw [← ht]; exact hB
    refine zlast hx hb hLo hO1 hS (Or.inr rfl) dL_takenBy_11 (fun H2 locs hz2 hO2 hq2 hS => ?_)
    have hw2 : zW D 116 (zce cy ad u) ad H2 := fun i hi => (hw1 i hi).kept (hq2 _ (hno i hi))
    refine lv_goto (tgt := 23) hx hb dL_takenBy_12 (by decide) ?_
    refine lv_iconst (v := jI 0) hx hb dL_takenBy_23 (by decide +kernel) ?_
    refine W.widen (k := 1) (n := 6) (Nat.le_of_ble_eq_true rfl) (Nat.le_of_ble_eq_true rfl) ?_
    exact W.iret (v := jI 0) hx hb hr (fun t2 ht2 hW => ⟨⟨_, (u, r.toInt64), rfl, hp, by rw [ht2]; exact hw2, by rw [ht2]; exact hO2⟩, hS.F ht2⟩) hS.2.2 dL_takenBy_24
set_option maxHeartbeats 4000000 in
set_option maxRecDepth 100000 in
theorem c_L_costOf (l : Launch) (hlt : l.stackTraces = false) (D : va_G) (cy : cyT) (cL : ClassId) (ad : Nat → Nat) (AL : Nat → Prop) (sa : Nat → Nat) (sz : Nat) (σ : ST) (p0 : Int32) (p1 : Int32) (p2 : Int32) (v : Int64) (o : Nat) {Q : Int32 → Int64 → ST → Prop} (h : wL_costOf σ p0 p1 p2 v Q) : Met l yL_costOf wsL_costOf ({ frames := 8, cells := 1, slots := 6, locals := 137 } : Room) (lPre D cy cL ad AL sa sz σ v o [.ref (ad 0), .int p0, .int p1, .int p2, .ref o]) (va_Qi (fun r (u : ST × Int64) => Q r u.2 u.1) (lB D cy cL ad o) (lA ad sz o)) 1 6 (lA ad sz o) := by
  refine va_MetW (hh := [(0, 12, 15, 13), (0, 12, 19, 15)]) (cc := cL_costOf) (maxL := 6) (ret := some .int) (by decide) rfl ?_
  intro p e s m args below meth c s₁ B hml hv
  obtain ⟨rfl, hsz, hj, hK, hw, hX, hAL, hLo, hCa, hO, hno⟩ := hv
  subst hsz
  have hx := B.exec
  have hb := B.bytes
  have hr := B.returns
  have hts := atoms_spec (ws := wsL_costOf) B.pre
  have hown : s.vm.findClass RL = some m.cls := findClass_of_methodNamed B.named
  have htb : c.exceptionTable.toList = tableOf [(0, 12, 15, 13), (0, 12, 19, 15)] := vx_table (x := yL_costOf) (maxL' := 6) (ret' := some .int) (bytes := cL_costOf) (y := yL_costOf) B (hts _ (List.mem_of_getElem? (i := 0) rfl))
  have hoz : o < s.heap.size := zO_lt hO
  have hS : va_S (lA ad s.heap.size o) s.heap s.heap [] := va_S.rf
  have hl := lv_entry ([.ref (ad 0), .int p0, .int p1, .int p2, .ref o]) (n := 6) (Nat.le_of_ble_eq_true rfl)
  rw [lg_entry_eq]
  generalize (lg_sl ([.ref (ad 0), .int p0, .int p1, .int p2, .ref o]) ++ List.replicate (6 - (lg_sl ([.ref (ad 0), .int p0, .int p1, .int p2, .ref o])).length) Slot.unset).toArray = ls at hl ⊢
  have hl : lv_has ls 6 [(0, .ref (ad 0)), (1, .int p0), (2, .int p1), (3, .int p2), (4, .ref o)] := hl
  show W p l e ({ frames := 8, cells := 1, slots := 6, locals := 137 } : Room) s m ([.ref (ad 0), .int p0, .int p1, .int p2, .ref o] : List Value).toArray below meth c s.heap [] 0 0 (MQ below (va_Qi (fun r (u : ST × Int64) => Q r u.2 u.1) (lB D cy cL ad o) (lA ad s.heap.size o)) ([.ref (ad 0), .int p0, .int p1, .int p2, .ref o] : List Value).toArray s 1 6 (lA ad s.heap.size o)) (F0 m 0 ls [])
  refine lv_aload hx hb dL_costOf_0 (lv_at hl 4 rfl) ?_
  refine lv_iconst (v := jI 0) hx hb dL_costOf_2 (by decide +kernel) ?_
  refine lv_aload_n hx hb dL_costOf_3 rfl (lv_at hl 0 rfl) ?_
  refine lv_iload_n hx hb dL_costOf_4 rfl (lv_at hl 1 rfl) ?_
  refine lv_iload_n hx hb dL_costOf_5 rfl (lv_at hl 2 rfl) ?_
  refine lv_iload_n hx hb dL_costOf_6 rfl (lv_at hl 3 rfl) ?_
  refine vx_calli (vx_runV (As := [.int p0, .int p1, .int p2]) (rest := [.int (jI 0), .ref o]) ⟨hx, hb, hml, hown, hts⟩ (t_X6_costOf l hlt D cy ad AL sa s.heap.size σ p0 p1 p2 h) (cwV 3 hts gL_costOf_X6_costOf rfl rfl rfl (by decide +kernel) ⟨(Nat.le_of_ble_eq_true rfl), (Nat.le_of_ble_eq_true rfl)⟩) (xpreV hj hK hw hX hAL _) rfl rfl hl.1 rfl (lv_room (Nat.le_of_ble_eq_true rfl)) dL_costOf_7 ⟨(Nat.le_of_ble_eq_true rfl), (Nat.le_of_ble_eq_true rfl)⟩) hS (fun q _ hq => Or.inl hq) (fun q hq => Or.inl hq) (fun q _ hq => Or.inl hq) (fun E ce q9 u t H locs ht hal hpu hBX hz hk hS hcell hvm hcl => ?_) (fun r u t H locs ht hal hp hB hz hk hS => ?_)
  · have hO1 : zO cL v o H := zO_kept hO (hk o hoz (fun q => q.elim (fun ⟨i, hi, z⟩ => hno i hi z.symm) (fun z => absurd hoz (Nat.not_lt.mpr z))))
    obtain ⟨n9, τ⟩ := u
    rcases n9 with _ | _ | _ | _ | n9
    · exact hpu.elim
    · obtain ⟨hE, hw1⟩ := hBX
      have hE : E = "java/lang/IndexOutOfBoundsException" := hE
      subst hE
      refine vx_catch (name := "java/lang/IndexOutOfBoundsException") hown [] ⟨0, 12, 15, 13⟩ [⟨0, 12, 19, 15⟩] (htb.trans rfl) (fun z hz9 => absurd hz9 List.not_mem_nil) (by decide) (by decide) (hts _ (List.mem_of_getElem? (i := 1) rfl)) (va_Nw.use rfl (hCa.1 _ (by decide +kernel))) hcell hvm hcl ?_
      refine lv_astore (lv' := [(5, .ref q9), (0, .ref (ad 0)), (1, .int p0), (2, .int p1), (3, .int p2), (4, .ref o)]) hx hb dL_costOf_15 hl (by decide) rfl (fun ls hl => ?_)
      refine lv_iconst (v := jI 1) hx hb dL_costOf_17 (by decide +kernel) ?_
      refine W.widen (k := 1) (n := 6) (Nat.le_of_ble_eq_true rfl) (Nat.le_of_ble_eq_true rfl) ?_
      exact W.iret (v := jI 1) hx hb hr (fun t2 ht2 hW => ⟨⟨_, (τ, v), rfl, hpu, by rw [ht2, ← ht]; exact hw1, by rw [ht2]; exact hO1⟩, hS.F ht2⟩) hS.2.2 dL_costOf_18
    · obtain ⟨hE, hw1⟩ := hBX
      have hE : E = "java/lang/IllegalArgumentException" := hE
      subst hE
      refine vx_catch (name := "java/lang/IllegalArgumentException") hown [⟨0, 12, 15, 13⟩] ⟨0, 12, 19, 15⟩ [] (htb.trans rfl) (fun z hz9 => by
      cases List.mem_singleton.mp hz9
      exact Or.inr ⟨by decide, "java/lang/IndexOutOfBoundsException", hts _ (List.mem_of_getElem? (i := 1) rfl), hCa.2 _ (by decide +kernel) _ (by decide +kernel) (by decide +kernel)⟩) (by decide) (by decide) (hts _ (List.mem_of_getElem? (i := 2) rfl)) (va_Nw.use rfl (hCa.1 _ (by decide +kernel))) hcell hvm hcl ?_
      refine lv_astore (lv' := [(5, .ref q9), (0, .ref (ad 0)), (1, .int p0), (2, .int p1), (3, .int p2), (4, .ref o)]) hx hb dL_costOf_19 hl (by decide) rfl (fun ls hl => ?_)
      refine lv_iconst (v := jI 2) hx hb dL_costOf_21 (by decide +kernel) ?_
      refine W.widen (k := 1) (n := 6) (Nat.le_of_ble_eq_true rfl) (Nat.le_of_ble_eq_true rfl) ?_
      exact W.iret (v := jI 2) hx hb hr (fun t2 ht2 hW => ⟨⟨_, (τ, v), rfl, hpu, by rw [ht2, ← ht]; exact hw1, by rw [ht2]; exact hO1⟩, hS.F ht2⟩) hS.2.2 dL_costOf_22
    · exact hpu.elim
    · exact hpu.elim
  · have hO1 : zO cL v o H := zO_kept hO (hk o hoz (fun q => q.elim (fun ⟨i, hi, z⟩ => hno i hi z.symm) (fun z => absurd hoz (Nat.not_lt.mpr z))))
    refine lv_i2l (v := r.toInt64) hx hb dL_costOf_10 rfl ?_
    have hw1 : zW D 116 (zce cy ad u) ad H := by rw [← ht]; exact hB
    refine zlast hx hb hLo hO1 hS (Or.inr rfl) dL_costOf_11 (fun H2 locs hz2 hO2 hq2 hS => ?_)
    have hw2 : zW D 116 (zce cy ad u) ad H2 := fun i hi => (hw1 i hi).kept (hq2 _ (hno i hi))
    refine lv_goto (tgt := 23) hx hb dL_costOf_12 (by decide) ?_
    refine lv_iconst (v := jI 0) hx hb dL_costOf_23 (by decide +kernel) ?_
    refine W.widen (k := 1) (n := 6) (Nat.le_of_ble_eq_true rfl) (Nat.le_of_ble_eq_true rfl) ?_
    exact W.iret (v := jI 0) hx hb hr (fun t2 ht2 hW => ⟨⟨_, (u, r.toInt64), rfl, hp, by rw [ht2]; exact hw2, by rw [ht2]; exact hO2⟩, hS.F ht2⟩) hS.2.2 dL_costOf_24
set_option maxHeartbeats 4000000 in
set_option maxRecDepth 100000 in
theorem c_L_type (l : Launch) (hlt : l.stackTraces = false) (D : va_G) (cy : cyT) (cL : ClassId) (ad : Nat → Nat) (AL : Nat → Prop) (sa : Nat → Nat) (sz : Nat) (σ : ST) (p0 : Int32) (v : Int64) (o : Nat) {Q : Int32 → Int64 → ST → Prop} (h : wL_type σ p0 v Q) : Met l yL_type wsL_type ({ frames := 8, cells := 2, slots := 12, locals := 131 } : Room) (lPre D cy cL ad AL sa sz σ v o [.ref (ad 0), .int p0, .ref o]) (va_Qi (fun r (u : ST × Int64) => Q r u.2 u.1) (lB D cy cL ad o) (lA ad sz o)) 2 12 (lA ad sz o) := by
  refine va_MetW (hh := [(0, 9, 12, 15), (0, 9, 15, 20)]) (cc := cL_type) (maxL := 4) (ret := some .int) (by decide) rfl ?_
  intro p e s m args below meth c s₁ B hml hv
  obtain ⟨rfl, hsz, hj, hK, hw, hX, hAL, hLo, hCa, hO, hno⟩ := hv
  subst hsz
  have hx := B.exec
  have hb := B.bytes
  have hr := B.returns
  have hts := atoms_spec (ws := wsL_type) B.pre
  have hown : s.vm.findClass RL = some m.cls := findClass_of_methodNamed B.named
  have htb : c.exceptionTable.toList = tableOf [(0, 9, 12, 15), (0, 9, 15, 20)] := vx_table (x := yL_type) (maxL' := 4) (ret' := some .int) (bytes := cL_type) (y := yL_type) B (hts _ (List.mem_of_getElem? (i := 0) rfl))
  have hoz : o < s.heap.size := zO_lt hO
  have hS : va_S (lA ad s.heap.size o) s.heap s.heap [] := va_S.rf
  have hl := lv_entry ([.ref (ad 0), .int p0, .ref o]) (n := 4) (Nat.le_of_ble_eq_true rfl)
  rw [lg_entry_eq]
  generalize (lg_sl ([.ref (ad 0), .int p0, .ref o]) ++ List.replicate (4 - (lg_sl ([.ref (ad 0), .int p0, .ref o])).length) Slot.unset).toArray = ls at hl ⊢
  have hl : lv_has ls 4 [(0, .ref (ad 0)), (1, .int p0), (2, .ref o)] := hl
  show W p l e ({ frames := 8, cells := 2, slots := 12, locals := 131 } : Room) s m ([.ref (ad 0), .int p0, .ref o] : List Value).toArray below meth c s.heap [] 0 0 (MQ below (va_Qi (fun r (u : ST × Int64) => Q r u.2 u.1) (lB D cy cL ad o) (lA ad s.heap.size o)) ([.ref (ad 0), .int p0, .ref o] : List Value).toArray s 2 12 (lA ad s.heap.size o)) (F0 m 0 ls [])
  refine lv_aload_n hx hb dL_type_0 rfl (lv_at hl 2 rfl) ?_
  refine lv_iconst (v := jI 0) hx hb dL_type_1 (by decide +kernel) ?_
  refine lv_aload_n hx hb dL_type_2 rfl (lv_at hl 0 rfl) ?_
  refine lv_iload_n hx hb dL_type_3 rfl (lv_at hl 1 rfl) ?_
  refine vx_calli (vx_runV (As := [.int p0]) (rest := [.int (jI 0), .ref o]) ⟨hx, hb, hml, hown, hts⟩ (t_X6_type l hlt D cy ad AL sa s.heap.size σ p0 h) (cwV 1 hts gL_type_X6_type rfl rfl rfl (by decide +kernel) ⟨(Nat.le_of_ble_eq_true rfl), (Nat.le_of_ble_eq_true rfl)⟩) (xpreV hj hK hw hX hAL _) rfl rfl hl.1 rfl (lv_room (Nat.le_of_ble_eq_true rfl)) dL_type_4 ⟨(Nat.le_of_ble_eq_true rfl), (Nat.le_of_ble_eq_true rfl)⟩) hS (fun q _ hq => Or.inl hq) (fun q hq => Or.inl hq) (fun q _ hq => Or.inl hq) (fun E ce q9 u t H locs ht hal hpu hBX hz hk hS hcell hvm hcl => ?_) (fun r u t H locs ht hal hp hB hz hk hS => ?_)
  · have hO1 : zO cL v o H := zO_kept hO (hk o hoz (fun q => q.elim (fun ⟨i, hi, z⟩ => hno i hi z.symm) (fun z => absurd hoz (Nat.not_lt.mpr z))))
    obtain ⟨n9, τ⟩ := u
    rcases n9 with _ | _ | _ | _ | n9
    · exact hpu.elim
    · exact hpu.elim
    · obtain ⟨hE, hw1⟩ := hBX
      have hE : E = "java/lang/IllegalArgumentException" := hE
      subst hE
      refine vx_catch (name := "java/lang/IllegalArgumentException") hown [] ⟨0, 9, 12, 15⟩ [⟨0, 9, 15, 20⟩] (htb.trans rfl) (fun z hz9 => absurd hz9 List.not_mem_nil) (by decide) (by decide) (hts _ (List.mem_of_getElem? (i := 1) rfl)) (va_Nw.use rfl (hCa.1 _ (by decide +kernel))) hcell hvm hcl ?_
      refine lv_astore_n (lv' := [(3, .ref q9), (0, .ref (ad 0)), (1, .int p0), (2, .ref o)]) hx hb dL_type_12 rfl hl (by decide) rfl (fun ls hl => ?_)
      refine lv_iconst (v := jI 1) hx hb dL_type_13 (by decide +kernel) ?_
      refine W.widen (k := 2) (n := 12) (Nat.le_of_ble_eq_true rfl) (Nat.le_of_ble_eq_true rfl) ?_
      exact W.iret (v := jI 1) hx hb hr (fun t2 ht2 hW => ⟨⟨_, (τ, v), rfl, hpu, by rw [ht2, ← ht]; exact hw1, by rw [ht2]; exact hO1⟩, hS.F ht2⟩) hS.2.2 dL_type_14
    · obtain ⟨hE, hw1⟩ := hBX
      have hE : E = "java/lang/IllegalStateException" := hE
      subst hE
      refine vx_catch (name := "java/lang/IllegalStateException") hown [⟨0, 9, 12, 15⟩] ⟨0, 9, 15, 20⟩ [] (htb.trans rfl) (fun z hz9 => by
      cases List.mem_singleton.mp hz9
      exact Or.inr ⟨by decide, "java/lang/IllegalArgumentException", hts _ (List.mem_of_getElem? (i := 1) rfl), hCa.2 _ (by decide +kernel) _ (by decide +kernel) (by decide +kernel)⟩) (by decide) (by decide) (hts _ (List.mem_of_getElem? (i := 2) rfl)) (va_Nw.use rfl (hCa.1 _ (by decide +kernel))) hcell hvm hcl ?_
      refine lv_astore_n (lv' := [(3, .ref q9), (0, .ref (ad 0)), (1, .int p0), (2, .ref o)]) hx hb dL_type_15 rfl hl (by decide) rfl (fun ls hl => ?_)
      refine lv_iconst (v := jI 2) hx hb dL_type_16 (by decide +kernel) ?_
      refine W.widen (k := 2) (n := 12) (Nat.le_of_ble_eq_true rfl) (Nat.le_of_ble_eq_true rfl) ?_
      exact W.iret (v := jI 2) hx hb hr (fun t2 ht2 hW => ⟨⟨_, (τ, v), rfl, hpu, by rw [ht2, ← ht]; exact hw1, by rw [ht2]; exact hO1⟩, hS.F ht2⟩) hS.2.2 dL_type_17
    · exact hpu.elim
  · have hO1 : zO cL v o H := zO_kept hO (hk o hoz (fun q => q.elim (fun ⟨i, hi, z⟩ => hno i hi z.symm) (fun z => absurd hoz (Nat.not_lt.mpr z))))
    refine lv_i2l (v := r.toInt64) hx hb dL_type_7 rfl ?_
    have hw1 : zW D 116 (zce cy ad u) ad H := by rw [← ht]; exact hB
    refine zlast hx hb hLo hO1 hS (Or.inr rfl) dL_type_8 (fun H2 locs hz2 hO2 hq2 hS => ?_)
    have hw2 : zW D 116 (zce cy ad u) ad H2 := fun i hi => (hw1 i hi).kept (hq2 _ (hno i hi))
    refine lv_goto (tgt := 18) hx hb dL_type_9 (by decide) ?_
    refine lv_iconst (v := jI 0) hx hb dL_type_18 (by decide +kernel) ?_
    refine W.widen (k := 2) (n := 12) (Nat.le_of_ble_eq_true rfl) (Nat.le_of_ble_eq_true rfl) ?_
    exact W.iret (v := jI 0) hx hb hr (fun t2 ht2 hW => ⟨⟨_, (u, r.toInt64), rfl, hp, by rw [ht2]; exact hw2, by rw [ht2]; exact hO2⟩, hS.F ht2⟩) hS.2.2 dL_type_19
set_option maxHeartbeats 4000000 in
set_option maxRecDepth 100000 in
theorem c_L_undo (l : Launch) (hlt : l.stackTraces = false) (D : va_G) (cy : cyT) (cL : ClassId) (ad : Nat → Nat) (AL : Nat → Prop) (sa : Nat → Nat) (sz : Nat) (σ : ST) (v : Int64) (o : Nat) {Q : Int32 → Int64 → ST → Prop} (h : wL_undo σ v Q) : Met l yL_undo wsL_undo ({ frames := 8, cells := 1, slots := 6, locals := 130 } : Room) (lPre D cy cL ad AL sa sz σ v o [.ref (ad 0), .ref o]) (va_Qi (fun r (u : ST × Int64) => Q r u.2 u.1) (lB D cy cL ad o) (lA ad sz o)) 1 6 (lA ad sz o) := by
  refine va_MetW (hh := [(0, 8, 11, 20)]) (cc := cL_undo) (maxL := 3) (ret := some .int) (by decide) rfl ?_
  intro p e s m args below meth c s₁ B hml hv
  obtain ⟨rfl, hsz, hj, hK, hw, hX, hAL, hLo, hCa, hO, hno⟩ := hv
  subst hsz
  have hx := B.exec
  have hb := B.bytes
  have hr := B.returns
  have hts := atoms_spec (ws := wsL_undo) B.pre
  have hown : s.vm.findClass RL = some m.cls := findClass_of_methodNamed B.named
  have htb : c.exceptionTable.toList = tableOf [(0, 8, 11, 20)] := vx_table (x := yL_undo) (maxL' := 3) (ret' := some .int) (bytes := cL_undo) (y := yL_undo) B (hts _ (List.mem_of_getElem? (i := 0) rfl))
  have hoz : o < s.heap.size := zO_lt hO
  have hS : va_S (lA ad s.heap.size o) s.heap s.heap [] := va_S.rf
  have hl := lv_entry ([.ref (ad 0), .ref o]) (n := 3) (Nat.le_of_ble_eq_true rfl)
  rw [lg_entry_eq]
  generalize (lg_sl ([.ref (ad 0), .ref o]) ++ List.replicate (3 - (lg_sl ([.ref (ad 0), .ref o])).length) Slot.unset).toArray = ls at hl ⊢
  have hl : lv_has ls 3 [(0, .ref (ad 0)), (1, .ref o)] := hl
  show W p l e ({ frames := 8, cells := 1, slots := 6, locals := 130 } : Room) s m ([.ref (ad 0), .ref o] : List Value).toArray below meth c s.heap [] 0 0 (MQ below (va_Qi (fun r (u : ST × Int64) => Q r u.2 u.1) (lB D cy cL ad o) (lA ad s.heap.size o)) ([.ref (ad 0), .ref o] : List Value).toArray s 1 6 (lA ad s.heap.size o)) (F0 m 0 ls [])
  refine lv_aload_n hx hb dL_undo_0 rfl (lv_at hl 1 rfl) ?_
  refine lv_iconst (v := jI 0) hx hb dL_undo_1 (by decide +kernel) ?_
  refine lv_aload_n hx hb dL_undo_2 rfl (lv_at hl 0 rfl) ?_
  refine vx_calli (vx_runV (As := []) (rest := [.int (jI 0), .ref o]) ⟨hx, hb, hml, hown, hts⟩ (t_X6_undo l hlt D cy ad AL sa s.heap.size σ  h) (cwV 0 hts gL_undo_X6_undo rfl rfl rfl (by decide +kernel) ⟨(Nat.le_of_ble_eq_true rfl), (Nat.le_of_ble_eq_true rfl)⟩) (xpreV hj hK hw hX hAL _) rfl rfl hl.1 rfl (lv_room (Nat.le_of_ble_eq_true rfl)) dL_undo_3 ⟨(Nat.le_of_ble_eq_true rfl), (Nat.le_of_ble_eq_true rfl)⟩) hS (fun q _ hq => Or.inl hq) (fun q hq => Or.inl hq) (fun q _ hq => Or.inl hq) (fun E ce q9 u t H locs ht hal hpu hBX hz hk hS hcell hvm hcl => ?_) (fun r u t H locs ht hal hp hB hz hk hS => ?_)
  · have hO1 : zO cL v o H := zO_kept hO (hk o hoz (fun q => q.elim (fun ⟨i, hi, z⟩ => hno i hi z.symm) (fun z => absurd hoz (Nat.not_lt.mpr z))))
    obtain ⟨n9, τ⟩ := u
    rcases n9 with _ | _ | _ | _ | n9
    · exact hpu.elim
    · exact hpu.elim
    · exact hpu.elim
    · obtain ⟨hE, hw1⟩ := hBX
      have hE : E = "java/lang/IllegalStateException" := hE
      subst hE
      refine vx_catch (name := "java/lang/IllegalStateException") hown [] ⟨0, 8, 11, 20⟩ [] (htb.trans rfl) (fun z hz9 => absurd hz9 List.not_mem_nil) (by decide) (by decide) (hts _ (List.mem_of_getElem? (i := 1) rfl)) (va_Nw.use rfl (hCa.1 _ (by decide +kernel))) hcell hvm hcl ?_
      refine lv_astore_n (lv' := [(2, .ref q9), (0, .ref (ad 0)), (1, .ref o)]) hx hb dL_undo_11 rfl hl (by decide) rfl (fun ls hl => ?_)
      refine lv_iconst (v := jI 1) hx hb dL_undo_12 (by decide +kernel) ?_
      refine W.widen (k := 1) (n := 6) (Nat.le_of_ble_eq_true rfl) (Nat.le_of_ble_eq_true rfl) ?_
      exact W.iret (v := jI 1) hx hb hr (fun t2 ht2 hW => ⟨⟨_, (τ, v), rfl, hpu, by rw [ht2, ← ht]; exact hw1, by rw [ht2]; exact hO1⟩, hS.F ht2⟩) hS.2.2 dL_undo_13
    · exact hpu.elim
  · have hO1 : zO cL v o H := zO_kept hO (hk o hoz (fun q => q.elim (fun ⟨i, hi, z⟩ => hno i hi z.symm) (fun z => absurd hoz (Nat.not_lt.mpr z))))
    refine lv_i2l (v := r.toInt64) hx hb dL_undo_6 rfl ?_
    have hw1 : zW D 116 (zce cy ad u) ad H := by rw [← ht]; exact hB
    refine zlast hx hb hLo hO1 hS (Or.inr rfl) dL_undo_7 (fun H2 locs hz2 hO2 hq2 hS => ?_)
    have hw2 : zW D 116 (zce cy ad u) ad H2 := fun i hi => (hw1 i hi).kept (hq2 _ (hno i hi))
    refine lv_goto (tgt := 14) hx hb dL_undo_8 (by decide) ?_
    refine lv_iconst (v := jI 0) hx hb dL_undo_14 (by decide +kernel) ?_
    refine W.widen (k := 1) (n := 6) (Nat.le_of_ble_eq_true rfl) (Nat.le_of_ble_eq_true rfl) ?_
    exact W.iret (v := jI 0) hx hb hr (fun t2 ht2 hW => ⟨⟨_, (u, r.toInt64), rfl, hp, by rw [ht2]; exact hw2, by rw [ht2]; exact hO2⟩, hS.F ht2⟩) hS.2.2 dL_undo_15
theorem last_21 : True := trivial
