/-! the texts of commands: constants of the class, never written -/
def zbyt : List (List Int32) := [[99, 117, 116], [117, 115, 101], [100, 114, 111, 112], [108, 105, 110, 101], [116, 114, 97, 121], [99, 108, 111, 115, 101]]
def zln : List Nat := [3, 3, 4, 4, 4, 5]
def zch (i k : Nat) : Int32 := (zbyt.getD i []).getD k 0
def zStr (AL : Nat → Prop) (aK aV : Nat → Nat) (U : State) : Prop :=
  (vk_R RX0 91 "cut" (aK 0) U ∧ vk_R RX0 93 "use" (aK 1) U ∧ vk_R RX0 95 "drop" (aK 2) U ∧ vk_R RX0 97 "line" (aK 3) U ∧ vk_R RX0 99 "tray" (aK 4) U ∧ vk_R RX0 101 "close" (aK 5) U) ∧ vk_S 6 zln zbyt aK aV AL U U.heap ∧ va_Z "java/lang/String" "COMPACT_STRINGS" "Z" (.int 1) AL U U.heap ∧ va_Zq "jdk/internal/util/Preconditions" "SIOOBE_FORMATTER" "Ljava/util/function/BiFunction;" AL U U.heap
theorem zStr.moved {AL : Nat → Prop} {aK aV : Nat → Nat} {s U : State} (hW : s.WarmedH U.vm) (hq : ∀ a : Nat, a < s.heap.size → ¬ AL a → U.heap[a]? = s.heap[a]?) (h : zStr AL aK aV s) : zStr AL aK aV U := by
  obtain ⟨⟨h0, h1, h2, h3, h4, h5⟩, h6, h7, h8⟩ := h
  exact ⟨⟨vk_R.warm hW h0, vk_R.warm hW h1, vk_R.warm hW h2, vk_R.warm hW h3, vk_R.warm hW h4, vk_R.warm hW h5⟩, vk_S.kept (vk_S.moved hW.alike h6) hq, va_Z.kept (va_Z.moved hW.alike h7) hq, va_Zq.kept (va_Zq.moved hW.alike h8) hq⟩
theorem zStr.same {AL : Nat → Prop} {aK aV : Nat → Nat} {s U : State} (hv : s.vm = U.vm) (hh : U.heap = s.heap) (h : zStr AL aK aV s) : zStr AL aK aV U := by
  have hW : s.WarmedH U.vm := by rw [← hv]; exact State.WarmedH.refl s
  exact zStr.moved hW (fun a _ _ => by rw [hh]) h
/-- a method that reads constants alone -/
def zPc (AL : Nat → Prop) (aK aV : Nat → Nat) (As : List Value) : Array Value → State → Prop := va_Pc As (zStr AL aK aV)
def zQp (v : Option Value) : Array Value → State → Outcome → State → Prop := fun _ st oc t => oc = .returned v ∧ t.heap = st.heap
def zno : Nat → Prop := fun _ => False
theorem zpblind {AL : Nat → Prop} {aK aV : Nat → Nat} {As : List Value} : FrameBlind (zPc AL aK aV As) := fun _ U _ _ h => ⟨h.1, zStr.same (s := U) rfl rfl h.2⟩
theorem zcallp {p : Program} {l : Launch} {e : Env} {R : Room} {s : State} {m : MethodId} {args : Array Value} {below : List Frame} {meth : Method} {c : Code} {H : Heap} {locs : List Loc} {cells slots : Nat} {Q : State → Prop} {pc : Nat} {ls : Array Slot} {rest st0 : List Value} {v : Option Value} {a : Array Value} (hr : va_Run p l e R s m args below meth c H locs cells slots 0 0 (F0 m pc ls st0) rest (zQp v a) zno) (kk : W p l e R s m args below meth c H locs cells slots Q (F0 m (pc + 3) ls (v.toList ++ rest))) : W p l e R s m args below meth c H locs cells slots Q (F0 m pc ls st0) := by
  intro T hT X
  obtain ⟨v', st₀, t, T', L, h0, X', hL, e1, e2, ⟨hv, hh⟩, st⟩ := hr T hT X
  have hLn : L = [] := List.eq_nil_iff_forall_not_mem.mpr (fun q hq => (hL q hq).elim)
  subst hLn
  rw [List.append_nil] at X'
  cases hv
  obtain ⟨t2, a1, b1⟩ := kk T' (by rw [e1, hh, h0]) X'
  exact ⟨t2, st t2 a1, b1⟩
theorem zprepV {AL : Nat → Prop} {aK aV : Nat → Nat} {s : State} {H : Heap} {locs : List Loc} (hZ : zStr AL aK aV s) (hS : va_S AL s.heap H locs) {i : Nat} (hi : i < 6) (As : List Value) : PreV s H "java/lang/String" (aK i) (zPc AL aK aV (.ref (aK i) :: As)) As :=
  ⟨zpblind, vk_recv hZ.2.1 hi hS, fun U hU hW => ⟨rfl, zStr.moved hW (fun a ha hn => by rw [hU]; exact hS.2.1 a ha hn) hZ⟩⟩
theorem zprepS {AL : Nat → Prop} {aK aV : Nat → Nat} {s : State} {H : Heap} {locs : List Loc} (hZ : zStr AL aK aV s) (hS : va_S AL s.heap H locs) (As : List Value) : PreS s H (zPc AL aK aV As) As :=
  ⟨zpblind, fun U hU hW => ⟨rfl, zStr.moved hW (fun a ha hn => by rw [hU]; exact hS.2.1 a ha hn) hZ⟩⟩
theorem zch_all : ∀ i, i < 6 → ∀ k, k < zln.getD i 0 → ((zch i k &&& jI 255).toUInt32 % 65536).toInt32 = zch i k ∧ narrow .char (.int (zch i k)) = .int (zch i k) := by decide +kernel
theorem zln_lt : ∀ i, i < 6 → zln.getD i 0 < 6 := by decide +kernel
theorem sc_shr0' (x : Int32) : x >>> ((0 : Int32) &&& 31) = x := by
  rw [← Int32.toBitVec_inj]
  simp
set_option maxHeartbeats 4000000 in
set_option maxRecDepth 100000 in
theorem c_J0_coder_7d493 (l : Launch) (AL : Nat → Prop) (aK aV : Nat → Nat) (i : Nat) (hi : i < 6) : Met l yJ0_coder_7d493 wsJ0_coder_7d493 ({ frames := 0, cells := 0, slots := 0, locals := 0 } : Room) (zPc AL aK aV [.ref (aK i)]) (zQp (some (.int 0))) 0 0 zno := by
  refine Met.ofW (cc := cJ0_coder_7d493) (maxL := 1) (ret := (some .byte)) (by decide) rfl ?_
  intro p e s m args below meth c s₁ B hml hv
  obtain ⟨rfl, hZ⟩ := hv
  have hx := B.exec
  have hb := B.bytes
  have hr := B.returns
  have hts := atoms_spec (ws := wsJ0_coder_7d493) B.pre
  have hown : s.vm.findClass RJ0 = some m.cls := findClass_of_methodNamed B.named
  have hlocks := B.notSynchronized
  have lkS : Cond.fieldLink RJ0 38 "java/lang/String" "COMPACT_STRINGS" "Z" ∈ wsJ0_coder_7d493 := List.mem_of_getElem? (i := 1) rfl
  have lkC : Cond.fieldLink RJ0 15 "java/lang/String" "coder" "B" ∈ wsJ0_coder_7d493 := List.mem_of_getElem? (i := 2) rfl
  have hS : va_S AL s.heap s.heap [] := va_S.rf
  have hl := lv_entry ([.ref (aK i)]) (n := 1) (Nat.le_of_ble_eq_true rfl)
  rw [lg_entry_eq]
  generalize (lg_sl ([.ref (aK i)]) ++ List.replicate (1 - (lg_sl ([.ref (aK i)])).length) Slot.unset).toArray = ls at hl ⊢
  have hl : lv_has ls 1 [(0, .ref (aK i))] := hl
  refine va_gets hx hb hZ.2.2.1 hS hown (hts _ lkS) (fun _ h9 => h9) dJ0_coder_7d493_0 ?_
  refine lv_if_eq (tgt := 13) hx hb dJ0_coder_7d493_3 (by decide) (fun c1 => absurd c1 (by decide)) (fun c1 => ?_)
  refine lv_aload_n hx hb dJ0_coder_7d493_6 rfl (lv_at hl 0 rfl) ?_
  refine vk_getf hx hb (hZ.2.1.1 i hi).2.1 hS hown (hts _ lkC) (fun _ h9 => h9) dJ0_coder_7d493_7 ?_
  refine lv_goto (tgt := 14) hx hb dJ0_coder_7d493_10 (by decide) ?_
  exact W.zret (v := 0) (ty := .byte) hx hb hr (by decide +kernel) (fun t ht hW => ⟨rfl, ht⟩) (fun q hq => nomatch hq) dJ0_coder_7d493_14
set_option maxHeartbeats 4000000 in
set_option maxRecDepth 100000 in
theorem c_J0_isLatin1_aae02 (l : Launch) (AL : Nat → Prop) (aK aV : Nat → Nat) (i : Nat) (hi : i < 6) : Met l yJ0_isLatin1_aae02 wsJ0_isLatin1_aae02 ({ frames := 0, cells := 0, slots := 0, locals := 0 } : Room) (zPc AL aK aV [.ref (aK i)]) (zQp (some (.int 1))) 0 0 zno := by
  refine Met.ofW (cc := cJ0_isLatin1_aae02) (maxL := 1) (ret := (some .boolean)) (by decide) rfl ?_
  intro p e s m args below meth c s₁ B hml hv
  obtain ⟨rfl, hZ⟩ := hv
  have hx := B.exec
  have hb := B.bytes
  have hr := B.returns
  have hts := atoms_spec (ws := wsJ0_isLatin1_aae02) B.pre
  have hown : s.vm.findClass RJ0 = some m.cls := findClass_of_methodNamed B.named
  have hlocks := B.notSynchronized
  have lkS : Cond.fieldLink RJ0 38 "java/lang/String" "COMPACT_STRINGS" "Z" ∈ wsJ0_isLatin1_aae02 := List.mem_of_getElem? (i := 1) rfl
  have lkC : Cond.fieldLink RJ0 15 "java/lang/String" "coder" "B" ∈ wsJ0_isLatin1_aae02 := List.mem_of_getElem? (i := 2) rfl
  have hS : va_S AL s.heap s.heap [] := va_S.rf
  have hl := lv_entry ([.ref (aK i)]) (n := 1) (Nat.le_of_ble_eq_true rfl)
  rw [lg_entry_eq]
  generalize (lg_sl ([.ref (aK i)]) ++ List.replicate (1 - (lg_sl ([.ref (aK i)])).length) Slot.unset).toArray = ls at hl ⊢
  have hl : lv_has ls 1 [(0, .ref (aK i))] := hl
  refine va_gets hx hb hZ.2.2.1 hS hown (hts _ lkS) (fun _ h9 => h9) dJ0_isLatin1_aae02_0 ?_
  refine lv_if_eq (tgt := 17) hx hb dJ0_isLatin1_aae02_3 (by decide) (fun c1 => absurd c1 (by decide)) (fun c1 => ?_)
  refine lv_aload_n hx hb dJ0_isLatin1_aae02_6 rfl (lv_at hl 0 rfl) ?_
  refine vk_getf hx hb (hZ.2.1.1 i hi).2.1 hS hown (hts _ lkC) (fun _ h9 => h9) dJ0_isLatin1_aae02_7 ?_
  refine lv_if_ne (tgt := 17) hx hb dJ0_isLatin1_aae02_10 (by decide) (fun c2 => absurd rfl c2) (fun c2 => ?_)
  refine lv_iconst (v := 1) hx hb dJ0_isLatin1_aae02_13 (by decide +kernel) ?_
  refine lv_goto (tgt := 18) hx hb dJ0_isLatin1_aae02_14 (by decide) ?_
  exact W.zret (v := 1) (ty := .boolean) hx hb hr (by decide +kernel) (fun t ht hW => ⟨rfl, ht⟩) (fun q hq => nomatch hq) dJ0_isLatin1_aae02_18
set_option maxHeartbeats 4000000 in
set_option maxRecDepth 100000 in
theorem c_J0_length_8abf5 (l : Launch) (AL : Nat → Prop) (aK aV : Nat → Nat) (i : Nat) (hi : i < 6) : Met l yJ0_length_8abf5 wsJ0_length_8abf5 ({ frames := 1, cells := 0, slots := 0, locals := 20 } : Room) (zPc AL aK aV [.ref (aK i)]) (zQp (some (.int (jI (zln.getD i 0 : Nat))))) 0 0 zno := by
  refine Met.ofW (cc := cJ0_length_8abf5) (maxL := 1) (ret := (some .int)) (by decide) rfl ?_
  intro p e s m args below meth c s₁ B hml hv
  obtain ⟨rfl, hZ⟩ := hv
  have hx := B.exec
  have hb := B.bytes
  have hr := B.returns
  have hts := atoms_spec (ws := wsJ0_length_8abf5) B.pre
  have hown : s.vm.findClass RJ0 = some m.cls := findClass_of_methodNamed B.named
  have hlocks := B.notSynchronized
  have lkV : Cond.fieldLink RJ0 9 "java/lang/String" "value" "[B" ∈ wsJ0_length_8abf5 := List.mem_of_getElem? (i := 1) rfl
  have hS : va_S AL s.heap s.heap [] := va_S.rf
  have hl := lv_entry ([.ref (aK i)]) (n := 1) (Nat.le_of_ble_eq_true rfl)
  rw [lg_entry_eq]
  generalize (lg_sl ([.ref (aK i)]) ++ List.replicate (1 - (lg_sl ([.ref (aK i)])).length) Slot.unset).toArray = ls at hl ⊢
  have hl : lv_has ls 1 [(0, .ref (aK i))] := hl
  refine lv_aload_n hx hb dJ0_length_8abf5_0 rfl (lv_at hl 0 rfl) ?_
  refine vk_getf hx hb (hZ.2.1.1 i hi).2.2.1 hS hown (hts _ lkV) (fun _ h9 => h9) dJ0_length_8abf5_1 ?_
  refine va_tlen hx hb (hZ.2.1.1 i hi).2.2.2 hS (v := jI (zln.getD i 0 : Nat)) Int32.ofInt_eq_ofNat.symm dJ0_length_8abf5_4 ?_
  refine lv_aload_n hx hb dJ0_length_8abf5_5 rfl (lv_at hl 0 rfl) ?_
  refine zcallp (va_runV (As := []) (rest := [.int (jI (zln.getD i 0 : Nat))]) ⟨hx, hb, hml, hown, hts⟩ (c_J0_coder_7d493 l AL aK aV i hi) (cwV 0 hts gJ0_length_8abf5_J0_coder_7d493 rfl rfl rfl (by decide +kernel) ⟨Nat.le_of_ble_eq_true rfl, Nat.le_of_ble_eq_true rfl⟩) (zprepV hZ hS hi _) rfl rfl hl.1 rfl (lv_room (Nat.le_of_ble_eq_true rfl)) dJ0_length_8abf5_6 ⟨Nat.zero_le _, Nat.zero_le _⟩) ?_
  refine lv_ishr hx hb dJ0_length_8abf5_9 ?_
  rw [sc_shr0' _]
  exact W.iret (v := jI (zln.getD i 0 : Nat)) hx hb hr (fun t ht hW => ⟨rfl, ht⟩) (fun q hq => nomatch hq) dJ0_length_8abf5_10
set_option maxHeartbeats 4000000 in
set_option maxRecDepth 100000 in
theorem c_J3_checkIndex_8e157_n (l : Launch) (AL : Nat → Prop) (aK aV : Nat → Nat) (x : Int32) (n : Nat) (hn : n < 100) (hin : vp_in x n) : Met l yJ3_checkIndex_8e157 wsJ3_checkIndex_8e157 ({ frames := 0, cells := 0, slots := 0, locals := 0 } : Room) (zPc AL aK aV [.int x, .int (jI (n : Nat)), .null]) (zQp (some (.int x))) 0 0 zno := by
  refine Met.ofW (cc := cJ3_checkIndex_8e157) (maxL := 3) (ret := (some .int)) (by decide) rfl ?_
  intro p e s m args below meth c s₁ B hml hv
  obtain ⟨rfl, hZ⟩ := hv
  have hx := B.exec
  have hb := B.bytes
  have hr := B.returns
  have hts := atoms_spec (ws := wsJ3_checkIndex_8e157) B.pre
  have hown : s.vm.findClass RJ3 = some m.cls := findClass_of_methodNamed B.named
  have hlocks := B.notSynchronized
  have hS : va_S AL s.heap s.heap [] := va_S.rf
  have hl := lv_entry ([.int x, .int (jI (n : Nat)), .null]) (n := 3) (Nat.le_of_ble_eq_true rfl)
  rw [lg_entry_eq]
  generalize (lg_sl ([.int x, .int (jI (n : Nat)), .null]) ++ List.replicate (3 - (lg_sl ([.int x, .int (jI (n : Nat)), .null])).length) Slot.unset).toArray = ls at hl ⊢
  have hl : lv_has ls 3 [(0, .int x), (1, .int (jI (n : Nat))), (2, .null)] := hl
  have h1 := vp_in_iff.mp hin
  refine lv_iload_n hx hb dJ3_checkIndex_8e157_0 rfl (lv_at hl 0 rfl) ?_
  refine zif_lt (tgt := 9) hx hb dJ3_checkIndex_8e157_1 (by decide) (fun c1 => absurd c1 (by rw [Int32.lt_iff_toInt_lt, show (jI 0).toInt = 0 from rfl]; omega)) (fun c1 => ?_)
  refine lv_iload_n hx hb dJ3_checkIndex_8e157_4 rfl (lv_at hl 0 rfl) ?_
  refine lv_iload_n hx hb dJ3_checkIndex_8e157_5 rfl (lv_at hl 1 rfl) ?_
  refine lv_icmp_lt (tgt := 16) hx hb dJ3_checkIndex_8e157_6 (by decide) (fun c2 => ?_) (fun c2 => absurd (by rw [Int32.lt_iff_toInt_lt, show (jI (n : Nat)).toInt = n from Int32.toInt_ofInt_of_le (by omega) (by omega)]; omega) c2)
  refine lv_iload_n hx hb dJ3_checkIndex_8e157_16 rfl (lv_at hl 0 rfl) ?_
  exact W.iret (v := x) hx hb hr (fun t ht hW => ⟨rfl, ht⟩) (fun q hq => nomatch hq) dJ3_checkIndex_8e157_17
set_option maxHeartbeats 4000000 in
set_option maxRecDepth 100000 in
theorem c_J3_checkIndex_8e157_r (l : Launch) (AL : Nat → Prop) (aK aV : Nat → Nat) (x : Int32) (n : Nat) (q : Nat) (hn : n < 100) (hin : vp_in x n) : Met l yJ3_checkIndex_8e157 wsJ3_checkIndex_8e157 ({ frames := 0, cells := 0, slots := 0, locals := 0 } : Room) (zPc AL aK aV [.int x, .int (jI (n : Nat)), .ref q]) (zQp (some (.int x))) 0 0 zno := by
  refine Met.ofW (cc := cJ3_checkIndex_8e157) (maxL := 3) (ret := (some .int)) (by decide) rfl ?_
  intro p e s m args below meth c s₁ B hml hv
  obtain ⟨rfl, hZ⟩ := hv
  have hx := B.exec
  have hb := B.bytes
  have hr := B.returns
  have hts := atoms_spec (ws := wsJ3_checkIndex_8e157) B.pre
  have hown : s.vm.findClass RJ3 = some m.cls := findClass_of_methodNamed B.named
  have hlocks := B.notSynchronized
  have hS : va_S AL s.heap s.heap [] := va_S.rf
  have hl := lv_entry ([.int x, .int (jI (n : Nat)), .ref q]) (n := 3) (Nat.le_of_ble_eq_true rfl)
  rw [lg_entry_eq]
  generalize (lg_sl ([.int x, .int (jI (n : Nat)), .ref q]) ++ List.replicate (3 - (lg_sl ([.int x, .int (jI (n : Nat)), .ref q])).length) Slot.unset).toArray = ls at hl ⊢
  have hl : lv_has ls 3 [(0, .int x), (1, .int (jI (n : Nat))), (2, .ref q)] := hl
  have h1 := vp_in_iff.mp hin
  refine lv_iload_n hx hb dJ3_checkIndex_8e157_0 rfl (lv_at hl 0 rfl) ?_
  refine zif_lt (tgt := 9) hx hb dJ3_checkIndex_8e157_1 (by decide) (fun c1 => absurd c1 (by rw [Int32.lt_iff_toInt_lt, show (jI 0).toInt = 0 from rfl]; omega)) (fun c1 => ?_)
  refine lv_iload_n hx hb dJ3_checkIndex_8e157_4 rfl (lv_at hl 0 rfl) ?_
  refine lv_iload_n hx hb dJ3_checkIndex_8e157_5 rfl (lv_at hl 1 rfl) ?_
  refine lv_icmp_lt (tgt := 16) hx hb dJ3_checkIndex_8e157_6 (by decide) (fun c2 => ?_) (fun c2 => absurd (by rw [Int32.lt_iff_toInt_lt, show (jI (n : Nat)).toInt = n from Int32.toInt_ofInt_of_le (by omega) (by omega)]; omega) c2)
  refine lv_iload_n hx hb dJ3_checkIndex_8e157_16 rfl (lv_at hl 0 rfl) ?_
  exact W.iret (v := x) hx hb hr (fun t ht hW => ⟨rfl, ht⟩) (fun q hq => nomatch hq) dJ3_checkIndex_8e157_17
set_option maxHeartbeats 4000000 in
set_option maxRecDepth 100000 in
theorem c_J0_checkIndex_df160 (l : Launch) (AL : Nat → Prop) (aK aV : Nat → Nat) (x : Int32) (n : Nat) (hn : n < 100) (hin : vp_in x n) : Met l yJ0_checkIndex_df160 wsJ0_checkIndex_df160 ({ frames := 1, cells := 0, slots := 0, locals := 22 } : Room) (zPc AL aK aV [.int x, .int (jI (n : Nat))]) (zQp none) 0 0 zno := by
  refine Met.ofW (cc := cJ0_checkIndex_df160) (maxL := 2) (ret := none) (by decide) rfl ?_
  intro p e s m args below meth c s₁ B hml hv
  obtain ⟨rfl, hZ⟩ := hv
  have hx := B.exec
  have hb := B.bytes
  have hr := B.returns
  have hts := atoms_spec (ws := wsJ0_checkIndex_df160) B.pre
  have hown : s.vm.findClass RJ0 = some m.cls := findClass_of_methodNamed B.named
  have hlocks := B.notSynchronized
  have lkF : Cond.fieldLink RJ0 1053 "jdk/internal/util/Preconditions" "SIOOBE_FORMATTER" "Ljava/util/function/BiFunction;" ∈ wsJ0_checkIndex_df160 := List.mem_of_getElem? (i := 1) rfl
  have hS : va_S AL s.heap s.heap [] := va_S.rf
  have hl := lv_entry ([.int x, .int (jI (n : Nat))]) (n := 2) (Nat.le_of_ble_eq_true rfl)
  rw [lg_entry_eq]
  generalize (lg_sl ([.int x, .int (jI (n : Nat))]) ++ List.replicate (2 - (lg_sl ([.int x, .int (jI (n : Nat))])).length) Slot.unset).toArray = ls at hl ⊢
  have hl : lv_has ls 2 [(0, .int x), (1, .int (jI (n : Nat)))] := hl
  refine lv_iload_n hx hb dJ0_checkIndex_df160_0 rfl (lv_at hl 0 rfl) ?_
  refine lv_iload_n hx hb dJ0_checkIndex_df160_1 rfl (lv_at hl 1 rfl) ?_
  rcases hZ.2.2.2 with hq | ⟨q, hq⟩
  · refine va_gets hx hb hq hS hown (hts _ lkF) (fun _ h9 => h9) dJ0_checkIndex_df160_2 ?_
    refine zcallp (va_runS (As := [.int x, .int (jI (n : Nat)), .null]) (rest := []) ⟨hx, hb, hml, hown, hts⟩ (c_J3_checkIndex_8e157_n l AL aK aV x n hn hin) (va_cwS 3 hts gJ0_checkIndex_df160_J3_checkIndex_8e157 rfl rfl rfl (by decide +kernel) ⟨Nat.le_of_ble_eq_true rfl, Nat.le_of_ble_eq_true rfl⟩) (zprepS hZ hS _) rfl rfl hl.1 rfl (lv_room (Nat.le_of_ble_eq_true rfl)) dJ0_checkIndex_df160_5 ⟨Nat.zero_le _, Nat.zero_le _⟩) ?_
    refine lv_pop hx hb dJ0_checkIndex_df160_8 rfl ?_
    exact W.vret hx hb hr (fun t ht hW => ⟨rfl, ht⟩) (fun q hq => nomatch hq) dJ0_checkIndex_df160_9
  · refine va_gets hx hb hq hS hown (hts _ lkF) (fun _ h9 => h9) dJ0_checkIndex_df160_2 ?_
    refine zcallp (va_runS (As := [.int x, .int (jI (n : Nat)), .ref q]) (rest := []) ⟨hx, hb, hml, hown, hts⟩ (c_J3_checkIndex_8e157_r l AL aK aV x n q hn hin) (va_cwS 3 hts gJ0_checkIndex_df160_J3_checkIndex_8e157 rfl rfl rfl (by decide +kernel) ⟨Nat.le_of_ble_eq_true rfl, Nat.le_of_ble_eq_true rfl⟩) (zprepS hZ hS _) rfl rfl hl.1 rfl (lv_room (Nat.le_of_ble_eq_true rfl)) dJ0_checkIndex_df160_5 ⟨Nat.zero_le _, Nat.zero_le _⟩) ?_
    refine lv_pop hx hb dJ0_checkIndex_df160_8 rfl ?_
    exact W.vret hx hb hr (fun t ht hW => ⟨rfl, ht⟩) (fun q hq => nomatch hq) dJ0_checkIndex_df160_9
set_option maxHeartbeats 4000000 in
set_option maxRecDepth 100000 in
theorem c_J1_charAt_3b067 (l : Launch) (AL : Nat → Prop) (aK aV : Nat → Nat) (i : Nat) (hi : i < 6) (x : Int32) (hin : vp_in x (zln.getD i 0)) : Met l yJ1_charAt_3b067 wsJ1_charAt_3b067 ({ frames := 2, cells := 0, slots := 0, locals := 43 } : Room) (zPc AL aK aV [.ref (aV i), .int x]) (zQp (some (.int (zch i x.toNatClampNeg)))) 0 0 zno := by
  refine Met.ofW (cc := cJ1_charAt_3b067) (maxL := 2) (ret := (some .char)) (by decide) rfl ?_
  intro p e s m args below meth c s₁ B hml hv
  obtain ⟨rfl, hZ⟩ := hv
  have hx := B.exec
  have hb := B.bytes
  have hr := B.returns
  have hts := atoms_spec (ws := wsJ1_charAt_3b067) B.pre
  have hown : s.vm.findClass RJ1 = some m.cls := findClass_of_methodNamed B.named
  have hlocks := B.notSynchronized
  have hS : va_S AL s.heap s.heap [] := va_S.rf
  have hl := lv_entry ([.ref (aV i), .int x]) (n := 2) (Nat.le_of_ble_eq_true rfl)
  rw [lg_entry_eq]
  generalize (lg_sl ([.ref (aV i), .int x]) ++ List.replicate (2 - (lg_sl ([.ref (aV i), .int x])).length) Slot.unset).toArray = ls at hl ⊢
  have hl : lv_has ls 2 [(0, .ref (aV i)), (1, .int x)] := hl
  have hx2 : x.toNatClampNeg < zln.getD i 0 := Nat.not_le.mp fun q => hin (Or.inr q)
  refine lv_iload_n hx hb dJ1_charAt_3b067_0 rfl (lv_at hl 1 rfl) ?_
  refine lv_aload_n hx hb dJ1_charAt_3b067_1 rfl (lv_at hl 0 rfl) ?_
  refine va_tlen hx hb (hZ.2.1.1 i hi).2.2.2 hS (v := jI (zln.getD i 0 : Nat)) Int32.ofInt_eq_ofNat.symm dJ1_charAt_3b067_2 ?_
  refine zcallp (va_runS (As := [.int x, .int (jI (zln.getD i 0 : Nat))]) (rest := []) ⟨hx, hb, hml, hown, hts⟩ (c_J0_checkIndex_df160 l AL aK aV x (zln.getD i 0) (by have := zln_lt i hi; omega) hin) (va_cwS 2 hts gJ1_charAt_3b067_J0_checkIndex_df160 rfl rfl rfl (by decide +kernel) ⟨Nat.le_of_ble_eq_true rfl, Nat.le_of_ble_eq_true rfl⟩) (zprepS hZ hS _) rfl rfl hl.1 rfl (lv_room (Nat.le_of_ble_eq_true rfl)) dJ1_charAt_3b067_3 ⟨Nat.zero_le _, Nat.zero_le _⟩) ?_
  refine lv_aload_n hx hb dJ1_charAt_3b067_6 rfl (lv_at hl 0 rfl) ?_
  refine lv_iload_n hx hb dJ1_charAt_3b067_7 rfl (lv_at hl 1 rfl) ?_
  refine va_tb hx hb (hZ.2.1.1 i hi).2.2.2 hS hin (v := .int (zch i x.toNatClampNeg)) rfl dJ1_charAt_3b067_8 ?_
  refine lv_sipush (v := jI 255) hx hb dJ1_charAt_3b067_9 (by decide +kernel) ?_
  refine lv_iand hx hb dJ1_charAt_3b067_12 ?_
  refine lv_i2c (v := zch i x.toNatClampNeg) hx hb dJ1_charAt_3b067_13 (zch_all i hi _ hx2).1 ?_
  exact W.zret (v := zch i x.toNatClampNeg) (ty := .char) hx hb hr (zch_all i hi _ hx2).2 (fun t ht hW => ⟨rfl, ht⟩) (fun q hq => nomatch hq) dJ1_charAt_3b067_14
set_option maxHeartbeats 4000000 in
set_option maxRecDepth 100000 in
theorem c_J0_charAt_5068e (l : Launch) (AL : Nat → Prop) (aK aV : Nat → Nat) (i : Nat) (hi : i < 6) (x : Int32) (hin : vp_in x (zln.getD i 0)) : Met l yJ0_charAt_5068e wsJ0_charAt_5068e ({ frames := 3, cells := 0, slots := 0, locals := 64 } : Room) (zPc AL aK aV [.ref (aK i), .int x]) (zQp (some (.int (zch i x.toNatClampNeg)))) 0 0 zno := by
  refine Met.ofW (cc := cJ0_charAt_5068e) (maxL := 2) (ret := (some .char)) (by decide) rfl ?_
  intro p e s m args below meth c s₁ B hml hv
  obtain ⟨rfl, hZ⟩ := hv
  have hx := B.exec
  have hb := B.bytes
  have hr := B.returns
  have hts := atoms_spec (ws := wsJ0_charAt_5068e) B.pre
  have hown : s.vm.findClass RJ0 = some m.cls := findClass_of_methodNamed B.named
  have hlocks := B.notSynchronized
  have lkV : Cond.fieldLink RJ0 9 "java/lang/String" "value" "[B" ∈ wsJ0_charAt_5068e := List.mem_of_getElem? (i := 1) rfl
  have hS : va_S AL s.heap s.heap [] := va_S.rf
  have hl := lv_entry ([.ref (aK i), .int x]) (n := 2) (Nat.le_of_ble_eq_true rfl)
  rw [lg_entry_eq]
  generalize (lg_sl ([.ref (aK i), .int x]) ++ List.replicate (2 - (lg_sl ([.ref (aK i), .int x])).length) Slot.unset).toArray = ls at hl ⊢
  have hl : lv_has ls 2 [(0, .ref (aK i)), (1, .int x)] := hl
  have hx2 : x.toNatClampNeg < zln.getD i 0 := Nat.not_le.mp fun q => hin (Or.inr q)
  refine lv_aload_n hx hb dJ0_charAt_5068e_0 rfl (lv_at hl 0 rfl) ?_
  refine zcallp (va_runV (As := []) (rest := []) ⟨hx, hb, hml, hown, hts⟩ (c_J0_isLatin1_aae02 l AL aK aV i hi) (cwV 0 hts gJ0_charAt_5068e_J0_isLatin1_aae02 rfl rfl rfl (by decide +kernel) ⟨Nat.le_of_ble_eq_true rfl, Nat.le_of_ble_eq_true rfl⟩) (zprepV hZ hS hi _) rfl rfl hl.1 rfl (lv_room (Nat.le_of_ble_eq_true rfl)) dJ0_charAt_5068e_1 ⟨Nat.zero_le _, Nat.zero_le _⟩) ?_
  refine lv_if_eq (tgt := 16) hx hb dJ0_charAt_5068e_4 (by decide) (fun c1 => absurd c1 (by decide)) (fun c1 => ?_)
  refine lv_aload_n hx hb dJ0_charAt_5068e_7 rfl (lv_at hl 0 rfl) ?_
  refine vk_getf hx hb (hZ.2.1.1 i hi).2.2.1 hS hown (hts _ lkV) (fun _ h9 => h9) dJ0_charAt_5068e_8 ?_
  refine lv_iload_n hx hb dJ0_charAt_5068e_11 rfl (lv_at hl 1 rfl) ?_
  refine zcallp (va_runS (As := [.ref (aV i), .int x]) (rest := []) ⟨hx, hb, hml, hown, hts⟩ (c_J1_charAt_3b067 l AL aK aV i hi x hin) (va_cwS 2 hts gJ0_charAt_5068e_J1_charAt_3b067 rfl rfl rfl (by decide +kernel) ⟨Nat.le_of_ble_eq_true rfl, Nat.le_of_ble_eq_true rfl⟩) (zprepS hZ hS _) rfl rfl hl.1 rfl (lv_room (Nat.le_of_ble_eq_true rfl)) dJ0_charAt_5068e_12 ⟨Nat.zero_le _, Nat.zero_le _⟩) ?_
  exact W.zret (v := zch i x.toNatClampNeg) (ty := .char) hx hb hr (zch_all i hi _ hx2).2 (fun t ht hW => ⟨rfl, ht⟩) (fun q hq => nomatch hq) dJ0_charAt_5068e_15
set_option maxHeartbeats 4000000 in
set_option maxRecDepth 100000 in
theorem c_X0_spellingOf (l : Launch) (AL : Nat → Prop) (aK aV : Nat → Nat) (i : Nat) (hi : i < 6) : Met l yX0_spellingOf wsX0_spellingOf ({ frames := 0, cells := 0, slots := 0, locals := 0 } : Room) (zPc AL aK aV [.int (jI (i : Nat))]) (zQp (some (.ref (aK i)))) 0 0 zno := by
  refine Met.ofW (cc := cX0_spellingOf) (maxL := 1) (ret := (some (.object "java/lang/String"))) (by decide) rfl ?_
  intro p e s m args below meth c s₁ B hml hv
  obtain ⟨rfl, hZ⟩ := hv
  have hx := B.exec
  have hb := B.bytes
  have hr := B.returns
  have hts := atoms_spec (ws := wsX0_spellingOf) B.pre
  have hown : s.vm.findClass RX0 = some m.cls := findClass_of_methodNamed B.named
  have hlocks := B.notSynchronized
  have hS : va_S AL s.heap s.heap [] := va_S.rf
  have hl := lv_entry ([.int (jI (i : Nat))]) (n := 1) (Nat.le_of_ble_eq_true rfl)
  rw [lg_entry_eq]
  generalize (lg_sl ([.int (jI (i : Nat))]) ++ List.replicate (1 - (lg_sl ([.int (jI (i : Nat))])).length) Slot.unset).toArray = ls at hl ⊢
  have hl : lv_has ls 1 [(0, .int (jI (i : Nat)))] := hl
  obtain ⟨r0, r1, r2, r3, r4, r5⟩ := hZ.1
  refine lv_iload_n hx hb dX0_spellingOf_0 rfl (lv_at hl 0 rfl) ?_
  match i, hi with
  | 0, _ =>
    refine lv_tableIn (tgt := 40) (off := 39) hx hb dX0_spellingOf_1 (by decide +kernel) (by decide +kernel) (by decide +kernel) (by decide) ?_
    refine va_ldcS hx hb hown r0 dX0_spellingOf_40 ?_
    exact W.aret (rt := .object "java/lang/String") (v := .ref (aK 0)) hx hb hr (Or.inl ⟨_, rfl⟩) (Or.inr ⟨_, rfl⟩) (fun t ht hW => ⟨rfl, ht⟩) (fun q hq => nomatch hq) dX0_spellingOf_42
  | 1, _ =>
    refine lv_tableIn (tgt := 43) (off := 42) hx hb dX0_spellingOf_1 (by decide +kernel) (by decide +kernel) (by decide +kernel) (by decide) ?_
    refine va_ldcS hx hb hown r1 dX0_spellingOf_43 ?_
    exact W.aret (rt := .object "java/lang/String") (v := .ref (aK 1)) hx hb hr (Or.inl ⟨_, rfl⟩) (Or.inr ⟨_, rfl⟩) (fun t ht hW => ⟨rfl, ht⟩) (fun q hq => nomatch hq) dX0_spellingOf_45
  | 2, _ =>
    refine lv_tableIn (tgt := 46) (off := 45) hx hb dX0_spellingOf_1 (by decide +kernel) (by decide +kernel) (by decide +kernel) (by decide) ?_
    refine va_ldcS hx hb hown r2 dX0_spellingOf_46 ?_
    exact W.aret (rt := .object "java/lang/String") (v := .ref (aK 2)) hx hb hr (Or.inl ⟨_, rfl⟩) (Or.inr ⟨_, rfl⟩) (fun t ht hW => ⟨rfl, ht⟩) (fun q hq => nomatch hq) dX0_spellingOf_48
  | 3, _ =>
    refine lv_tableIn (tgt := 49) (off := 48) hx hb dX0_spellingOf_1 (by decide +kernel) (by decide +kernel) (by decide +kernel) (by decide) ?_
    refine va_ldcS hx hb hown r3 dX0_spellingOf_49 ?_
    exact W.aret (rt := .object "java/lang/String") (v := .ref (aK 3)) hx hb hr (Or.inl ⟨_, rfl⟩) (Or.inr ⟨_, rfl⟩) (fun t ht hW => ⟨rfl, ht⟩) (fun q hq => nomatch hq) dX0_spellingOf_51
  | 4, _ =>
    refine lv_tableIn (tgt := 52) (off := 51) hx hb dX0_spellingOf_1 (by decide +kernel) (by decide +kernel) (by decide +kernel) (by decide) ?_
    refine va_ldcS hx hb hown r4 dX0_spellingOf_52 ?_
    exact W.aret (rt := .object "java/lang/String") (v := .ref (aK 4)) hx hb hr (Or.inl ⟨_, rfl⟩) (Or.inr ⟨_, rfl⟩) (fun t ht hW => ⟨rfl, ht⟩) (fun q hq => nomatch hq) dX0_spellingOf_54
  | 5, _ =>
    refine lv_tableIn (tgt := 55) (off := 54) hx hb dX0_spellingOf_1 (by decide +kernel) (by decide +kernel) (by decide +kernel) (by decide) ?_
    refine va_ldcS hx hb hown r5 dX0_spellingOf_55 ?_
    exact W.aret (rt := .object "java/lang/String") (v := .ref (aK 5)) hx hb hr (Or.inl ⟨_, rfl⟩) (Or.inr ⟨_, rfl⟩) (fun t ht hW => ⟨rfl, ht⟩) (fun q hq => nomatch hq) dX0_spellingOf_57
  | k + 6, hi => exact absurd hi (by omega)
theorem c_X0_spellingOf_w (l : Launch) (AL : Nat → Prop) (aK aV : Nat → Nat) (w : Int32) (i : Nat) (hi : i < 6) (e : w = jI (i : Nat)) : Met l yX0_spellingOf wsX0_spellingOf ({ frames := 0, cells := 0, slots := 0, locals := 0 } : Room) (zPc AL aK aV [.int w]) (zQp (some (.ref (aK i)))) 0 0 zno := by
  subst e
  exact c_X0_spellingOf l AL aK aV i hi
theorem zSweak {A B : Nat → Prop} {H0 H : Heap} {locs : List Loc} (h : va_S A H0 H locs) (hsub : ∀ q, A q → B q) : va_S B H0 H locs := ⟨h.1, fun q h1 h2 => h.2.1 q h1 (fun z => h2 (hsub q z)), fun l hl => hsub _ (h.2.2 l hl)⟩
def zPreZ (D : va_G) (cy : cyT) (n : Nat) (f : Nat → va_E) (ad : Nat → Nat) (AL : Nat → Prop) (aK aV : Nat → Nat) (As : List Value) : Array Value → State → Prop := va_Pc As (fun U => zI n ad ∧ zK D cy U ∧ zW D n f ad U.heap ∧ zStr AL aK aV U ∧ ∀ i, i < n → AL (ad i))
theorem zblindZ {D : va_G} {cy : cyT} {n : Nat} {f : Nat → va_E} {ad : Nat → Nat} {AL : Nat → Prop} {aK aV : Nat → Nat} {As : List Value} : FrameBlind (zPreZ D cy n f ad AL aK aV As) := fun _ U _ _ h => ⟨h.1, h.2.1, zK.same (s := U) rfl h.2.2.1, h.2.2.2.1, zStr.same (s := U) rfl rfl h.2.2.2.2.1, h.2.2.2.2.2⟩
theorem zpreVZ {D : va_G} {cy : cyT} {n : Nat} {f : Nat → va_E} {ad : Nat → Nat} {AL A0 : Nat → Prop} {aK aV : Nat → Nat} {s : State} {H : Heap} {locs : List Loc} (hj : zI n ad) (hK : zK D cy s) (hw : zW D n f ad H) (hZ : zStr AL aK aV s) (hAL : ∀ i, i < n → AL (ad i)) (hsub : ∀ q, A0 q → AL q) (hS : va_S A0 s.heap H locs) (As : List Value) {i ci : Nat} (hi : i < n) {fs : List Value} (he : f i = .inr (ci, fs)) {q : vw_C} (hc : vwCl[ci]? = some q) : PreV s H q.1 (ad i) (zPreZ D cy n f ad AL aK aV (.ref (ad i) :: As)) As :=
  ⟨zblindZ, va_recv hK.1 (hw.one hi he) hc (q0 := 0) rfl, fun U hU hW => ⟨rfl, hj, hK.moved hW, by rw [hU]; exact hw, zStr.moved hW (fun a ha hn => by rw [hU]; exact hS.2.1 a ha (fun z => hn (hsub a z))) hZ, hAL⟩⟩
theorem last_11 : True := trivial
