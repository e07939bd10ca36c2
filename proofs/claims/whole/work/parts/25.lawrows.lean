/-! rows of the law's own body: both worlds, the array out, the script -/
def LA (ad am : Nat → Nat) (o sz : Nat) : Prop := zI 116 ad ∧ zI 6 am ∧ (∀ i, i < 116 → sz ≤ ad i) ∧ (∀ j, j < 6 → sz ≤ am j) ∧ sz ≤ o ∧ (∀ i, i < 116 → ad i ≠ o) ∧ (∀ j, j < 6 → am j ≠ o) ∧ ∀ i, i < 116 → ∀ j, j < 6 → ad i ≠ am j
def LW (D : va_G) (cy : cyT) (cL : ClassId) (ad am : Nat → Nat) (o : Nat) (H0 : Heap) (σ μ : ST) (v : Int64) (H : Heap) : Prop := va_S (fun q => H0.size ≤ q) H0 H [] ∧ zW D 116 (zce cy ad σ) ad H ∧ zW D 6 (zme cy am μ) am H ∧ zO cL v o H
section LAWROWS
variable {p : Program} {l : Launch} {e : Env} {R : Room} {s : State} {m : MethodId} {args : Array Value} {below : List Frame} {meth : Method} {c : Code} {H : Heap} {cells slots : Nat} {QQ : State → Prop}
variable {cc : ByteArray} {pc : Nat} {ls : Array Slot} {rest st0 : List Value} {D : va_G} {cy : cyT} {cL : ClassId} {ad am : Nat → Nat} {o : Nat} {σ μ : ST} {v : Int64} {a : Array Value} {mc ms : Nat}
theorem lpreS {sa : Nat → Nat} (hA : LA ad am o s.heap.size) (hW : LW D cy cL ad am o s.heap σ μ v H) (hK : zK D cy s) (hZX : zX (fun q => s.heap.size ≤ q) sa s) (hLo : ArrOfT s cL .long) (hCa : zCa s) (As : List Value) : PreS s H (lPre D cy cL ad (fun q => s.heap.size ≤ q) sa H.size σ v o As) As := by
  obtain ⟨hjC, hjM, hAC, hAM, hAo, hco, hmo, hcm⟩ := hA
  obtain ⟨hS, hwC, hwM, hO⟩ := hW
  exact ⟨lblind, fun U hU hWm => ⟨rfl, by rw [hU], hjC, hK.moved hWm, by rw [hU]; exact hwC, zX.moved hWm (fun a ha hn => by rw [hU]; exact hS.2.1 a ha hn) hZX, ⟨hAC, fun q hq => Nat.le_trans hS.1 (by rw [← hU]; exact hq)⟩, arrOfT_moved hWm.alike hLo, zCa.moved hWm hCa, by rw [hU]; exact hO, hco⟩⟩
theorem lcallL {Q : Int32 → Int64 → ST → Prop} (hA : LA ad am o s.heap.size) (hW : LW D cy cL ad am o s.heap σ μ v H) (hr : va_Run p l e R s m args below meth c H [] cells slots mc ms (F0 m pc ls st0) rest (va_Qi (fun r (u : ST × Int64) => Q r u.2 u.1) (lB D cy cL ad o) (lA ad H.size o) a) (lA ad H.size o))
    (kk : ∀ (r : Int32) (σ' : ST) (v' : Int64) (H1 : Heap), Q r v' σ' → LW D cy cL ad am o s.heap σ' μ v' H1 → W p l e R s m args below meth c H1 [] (cells + mc) (slots + ms) QQ (F0 m (pc + 3) ls (.int r :: rest))) : W p l e R s m args below meth c H [] cells slots QQ (F0 m pc ls st0) := by
  obtain ⟨hjC, hjM, hAC, hAM, hAo, hco, hmo, hcm⟩ := hA
  obtain ⟨hS, hwC, hwM, hO⟩ := hW
  have hsub : ∀ q, lA ad H.size o q → s.heap.size ≤ q := fun q hq => by
    rcases hq with (⟨i, hi, rfl⟩ | hq) | rfl
    · exact hAC i hi
    · exact Nat.le_trans hS.1 hq
    · exact hAo
  refine va_calli hr hS (fun q _ hq => hsub q hq) hsub (fun r u t H1 locs1 ht hal hp hB hz hk hS1 => ?_)
  refine va_forget hS1.2.2 (kk r u.1 u.2 H1 hp ⟨⟨hS1.1, hS1.2.1, fun _ h => nomatch h⟩, by rw [← ht]; exact hB.1, fun j hj => (hwM j hj).kept (hk _ (hwM j hj).lt ?_), by rw [← ht]; exact hB.2⟩)
  intro h
  rcases h with (⟨i, hi, e9⟩ | h) | h
  · exact hcm i hi j hj e9.symm
  · exact absurd (hwM j hj).lt (Nat.not_lt.mpr h)
  · exact hmo j hj h
theorem lkeepC {σ' : ST} {H1 : Heap} {locs1 : List Loc} (hA : LA ad am o s.heap.size) (hW : LW D cy cL ad am o s.heap σ μ v H) (hB : zW D 116 (zce cy ad σ') ad H1) (hk : ∀ q : Nat, q < H.size → ¬ zA 116 ad q → H1[q]? = H[q]?) (hS1 : va_S (fun q => s.heap.size ≤ q) s.heap H1 locs1) : LW D cy cL ad am o s.heap σ' μ v H1 := by
  obtain ⟨hjC, hjM, hAC, hAM, hAo, hco, hmo, hcm⟩ := hA
  obtain ⟨hS, hwC, hwM, hO⟩ := hW
  refine ⟨⟨hS1.1, hS1.2.1, fun _ h => nomatch h⟩, hB, fun j hj => (hwM j hj).kept (hk _ (hwM j hj).lt ?_), zO_kept hO (hk _ (zO_lt hO) ?_)⟩
  · intro ⟨i, hi, e9⟩
    exact hcm i hi j hj e9.symm
  · intro ⟨i, hi, e9⟩
    exact hco i hi e9.symm
theorem lkeepM {μ' : ST} {H1 : Heap} {locs1 : List Loc} (hA : LA ad am o s.heap.size) (hW : LW D cy cL ad am o s.heap σ μ v H) (hB : zW D 6 (zme cy am μ') am H1) (hk : ∀ q : Nat, q < H.size → ¬ zA 6 am q → H1[q]? = H[q]?) (hS1 : va_S (fun q => s.heap.size ≤ q) s.heap H1 locs1) : LW D cy cL ad am o s.heap σ μ' v H1 := by
  obtain ⟨hjC, hjM, hAC, hAM, hAo, hco, hmo, hcm⟩ := hA
  obtain ⟨hS, hwC, hwM, hO⟩ := hW
  refine ⟨⟨hS1.1, hS1.2.1, fun _ h => nomatch h⟩, fun i hi => (hwC i hi).kept (hk _ (hwC i hi).lt ?_), hB, zO_kept hO (hk _ (zO_lt hO) ?_)⟩
  · intro ⟨j, hj, e9⟩
    exact hcm i hi j hj e9
  · intro ⟨j, hj, e9⟩
    exact hmo j hj e9.symm
theorem lsubC (hA : LA ad am o s.heap.size) : ∀ q, zA 116 ad q → s.heap.size ≤ q := fun q hq => by
  obtain ⟨i, hi, rfl⟩ := hq
  exact hA.2.2.1 i hi
theorem lsubM (hA : LA ad am o s.heap.size) : ∀ q, zA 6 am q → s.heap.size ≤ q := fun q hq => by
  obtain ⟨i, hi, rfl⟩ := hq
  exact hA.2.2.2.1 i hi
theorem lcallC {Q : Int32 → ST → Prop} (hA : LA ad am o s.heap.size) (hW : LW D cy cL ad am o s.heap σ μ v H) (hr : va_Run p l e R s m args below meth c H [] cells slots 0 0 (F0 m pc ls st0) rest (va_Qi Q (zB D 116 (zce cy ad) ad) (zA 116 ad) a) (zA 116 ad))
    (kk : ∀ (r : Int32) (σ' : ST) (H1 : Heap), Q r σ' → LW D cy cL ad am o s.heap σ' μ v H1 → W p l e R s m args below meth c H1 [] cells slots QQ (F0 m (pc + 3) ls (.int r :: rest))) : W p l e R s m args below meth c H [] cells slots QQ (F0 m pc ls st0) :=
  va_calli hr hW.1 (fun q _ hq => lsubC hA q hq) (lsubC hA) (fun r u t H1 locs1 ht hal hp hB hz hk hS1 => va_forget hS1.2.2 (kk r u H1 hp (lkeepC hA hW (by rw [← ht]; exact hB) hk hS1)))
theorem lcallCl {Q : Int64 → ST → Prop} (hA : LA ad am o s.heap.size) (hW : LW D cy cL ad am o s.heap σ μ v H) (hr : va_Run p l e R s m args below meth c H [] cells slots 0 0 (F0 m pc ls st0) rest (va_Ql Q (zB D 116 (zce cy ad) ad) (zA 116 ad) a) (zA 116 ad))
    (kk : ∀ (r : Int64) (σ' : ST) (H1 : Heap), Q r σ' → LW D cy cL ad am o s.heap σ' μ v H1 → W p l e R s m args below meth c H1 [] cells slots QQ (F0 m (pc + 3) ls (.long r :: rest))) : W p l e R s m args below meth c H [] cells slots QQ (F0 m pc ls st0) :=
  va_calll hr hW.1 (fun q _ hq => lsubC hA q hq) (lsubC hA) (fun r u t H1 locs1 ht hal hp hB hz hk hS1 => va_forget hS1.2.2 (kk r u H1 hp (lkeepC hA hW (by rw [← ht]; exact hB) hk hS1)))
theorem lcallM {Q : Int32 → ST → Prop} (hA : LA ad am o s.heap.size) (hW : LW D cy cL ad am o s.heap σ μ v H) (hr : va_Run p l e R s m args below meth c H [] cells slots 0 0 (F0 m pc ls st0) rest (va_Qi Q (zB D 6 (zme cy am) am) (zA 6 am) a) (zA 6 am))
    (kk : ∀ (r : Int32) (μ' : ST) (H1 : Heap), Q r μ' → LW D cy cL ad am o s.heap σ μ' v H1 → W p l e R s m args below meth c H1 [] cells slots QQ (F0 m (pc + 3) ls (.int r :: rest))) : W p l e R s m args below meth c H [] cells slots QQ (F0 m pc ls st0) :=
  va_calli hr hW.1 (fun q _ hq => lsubM hA q hq) (lsubM hA) (fun r u t H1 locs1 ht hal hp hB hz hk hS1 => va_forget hS1.2.2 (kk r u H1 hp (lkeepM hA hW (by rw [← ht]; exact hB) hk hS1)))
theorem lcallMl {Q : Int64 → ST → Prop} (hA : LA ad am o s.heap.size) (hW : LW D cy cL ad am o s.heap σ μ v H) (hr : va_Run p l e R s m args below meth c H [] cells slots 0 0 (F0 m pc ls st0) rest (va_Ql Q (zB D 6 (zme cy am) am) (zA 6 am) a) (zA 6 am))
    (kk : ∀ (r : Int64) (μ' : ST) (H1 : Heap), Q r μ' → LW D cy cL ad am o s.heap σ μ' v H1 → W p l e R s m args below meth c H1 [] cells slots QQ (F0 m (pc + 3) ls (.long r :: rest))) : W p l e R s m args below meth c H [] cells slots QQ (F0 m pc ls st0) :=
  va_calll hr hW.1 (fun q _ hq => lsubM hA q hq) (lsubM hA) (fun r u t H1 locs1 ht hal hp hB hz hk hS1 => va_forget hS1.2.2 (kk r u H1 hp (lkeepM hA hW (by rw [← ht]; exact hB) hk hS1)))
theorem lpreZ {aK aV : Nat → Nat} (hA : LA ad am o s.heap.size) (hW : LW D cy cL ad am o s.heap σ μ v H) (hK : zK D cy s) (hZ : zStr (fun q => s.heap.size ≤ q) aK aV s) (As : List Value) : PreV s H RX6 (ad 0) (zPreZ D cy 116 (zce cy ad σ) ad (fun q => s.heap.size ≤ q) aK aV (.ref (ad 0) :: As)) As :=
  zpreVZ hA.1 hK hW.2.1 hZ hA.2.2.1 (fun _ h => h) hW.1 As (i := 0) (ci := 5) (by decide) rfl (q := (RX6, TX6, 4)) rfl
theorem zlald (hx : p.tables.exec = Jvm.exec) (hb : c.code = cc) {locs : List Loc} (hLo : ArrOfT s cL .long) (hO : zO cL v o H) (hdg : decode cc pc = .ok (.laload, 1))
    (kk : W p l e R s m args below meth c H locs cells slots QQ (F0 m (pc + 1) ls (.long v :: rest))) : W p l e R s m args below meth c H locs cells slots QQ (F0 m pc ls (.int (jI 0) :: .ref o :: rest)) := by
  have hin : vp_in (jI 0) 1 := jI_in (by decide) (by decide) (by decide)
  have hlt : (jI 0).toNatClampNeg < 1 := Nat.not_le.mp fun q => hin (Or.inr q)
  exact W.lald (v := .long v) hx hb hO (hLo 1 (fun _ => .long v)) (fun q => by cases q) (by show ¬ (jI 0 < 0 ∨ (arrV _ _ _).slots.size ≤ _); rw [arrV_size]; exact hin) (by show (arrV _ _ _).slots[_]? = _; rw [arrV_read _ _ hlt]) rfl rfl hdg kk
theorem lgc0 (x : Int64) : lg_cmp x x = jI 0 := by
  rw [← z0]
  simp [lg_cmp]
/-- a number of the script -/
theorem zscr (hx : p.tables.exec = Jvm.exec) (hb : c.code = cc) {b L n : Nat} {xs : Nat → Int32} {y : Nat → Int32} (hX : va_X b L xs s s.heap) (hbl : b < s.heap.size) (hS : va_S (fun q => s.heap.size ≤ q) s.heap H []) (hL : L ≤ 2560) (hn : 5 * n + 5 ≤ L) (hy : ∀ j : Nat, j < 5 → xs (jI (5 * n + j)).toNatClampNeg = y j) {lv : List (Nat × Value)} (hl : lv_has ls 7 lv) (k0 k4 : Nat) (h0 : lv[k0]? = some (0, .ref b)) (h4 : lv[k4]? = some (4, .int (jI (5 * n)))) (j : Nat) (hj : j < 5) (d1 : decode cc pc = .ok (.aload_n 0, 1)) (d2 : decode cc (pc + 1) = .ok (.iload 4, 2)) (d3 : decode cc (pc + 3) = .ok (.iconst (j : Int), 1)) (d4 : decode cc (pc + 4) = .ok (.iadd, 1)) (d5 : decode cc (pc + 5) = .ok (.iaload, 1))
    (kk : W p l e R s m args below meth c H [] cells slots QQ (F0 m (pc + 6) ls (.int (y j) :: rest))) : W p l e R s m args below meth c H [] cells slots QQ (F0 m pc ls rest) := by
  refine lv_aload_n hx hb d1 rfl (lv_at hl k0 h0) ?_
  refine lv_iload hx hb d2 (lv_at hl k4 h4) ?_
  refine lv_iconst (v := jI j) hx hb d3 rfl ?_
  refine lv_iadd hx hb d4 ?_
  rw [jI_add]
  refine va_sld hx hb hX hbl (Nat.not_le.mpr hbl) hS (jI_in (by omega) (by omega) (by omega)) d5 ?_
  rw [hy j hj]
  exact kk
end LAWROWS
theorem last_25 : True := trivial
