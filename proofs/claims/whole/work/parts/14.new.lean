/-! New cells at addresses that follow each other; Row's constructor, Row.fill -/
def zl (es : List va_E) : Nat → va_E := fun i => es.getD i (.inr (0, []))
def zV (D : va_G) (es : List va_E) (ad : Nat → Nat) (H : Heap) : Prop := ∀ (i : Nat) (e : va_E), es[i]? = some e → va_at D vwCl (ad i, e) H
theorem zl_get {es : List va_E} {i : Nat} {e : va_E} (h : es[i]? = some e) : zl es i = e := by
  unfold zl
  rw [List.getD_eq_getElem?_getD, h]
  rfl
theorem zV.W {D : va_G} {es : List va_E} {ad : Nat → Nat} {H : Heap} (h : zV D es ad H) : zW D es.length (zl es) ad H := fun i hi => by
  have e := List.getElem?_eq_getElem hi
  rw [zl_get e]
  exact h i _ e
theorem zV.of {D : va_G} {es : List va_E} {ad : Nat → Nat} {H : Heap} (h : zW D es.length (zl es) ad H) : zV D es ad H := fun i e he => by
  have hi := (List.getElem?_eq_some_iff.mp he).1
  have := h i hi
  rw [zl_get he] at this
  exact this
theorem zV.kept {D : va_G} {es : List va_E} {ad : Nat → Nat} {H H1 : Heap} (h : zV D es ad H) (oq : ∀ i, i < es.length → H1[ad i]? = H[ad i]?) : zV D es ad H1 := fun i e he => (h i e he).kept (oq i (List.getElem?_eq_some_iff.mp he).1)
theorem zV.lt {D : va_G} {es : List va_E} {ad : Nat → Nat} {H : Heap} (h : zV D es ad H) {i : Nat} (hi : i < es.length) : ad i < H.size := (h i _ (List.getElem?_eq_getElem hi)).lt
theorem zV.put {D : va_G} {es : List va_E} {ad : Nat → Nat} {H H1 : Heap} (hw : zV D es ad H) (hj : zI es.length ad) {i : Nat} (hi : i < es.length) {e : va_E} (he : va_at D vwCl (ad i, e) H1) (oq : ∀ q : Nat, q ≠ ad i → H1[q]? = H[q]?) : zV D (es.set i e) ad H1 := by
  intro j x hx
  by_cases hji : j = i
  · subst hji
    rw [List.getElem?_set_self hi] at hx
    cases hx
    exact he
  · rw [List.getElem?_set_ne (fun z => hji z.symm)] at hx
    have hjn := (List.getElem?_eq_some_iff.mp hx).1
    exact (hw j x hx).kept (oq (ad j) (fun z => hji (hj j i hjn hi z)))
theorem zV.push {D : va_G} {es : List va_E} {ad : Nat → Nat} {H H1 : Heap} (hw : zV D es ad H) {e : va_E} (he : va_at D vwCl (ad es.length, e) H1) (oq : ∀ q : Nat, q < H.size → H1[q]? = H[q]?) : zV D (es ++ [e]) ad H1 := by
  intro j x hx
  by_cases hji : j < es.length
  · rw [List.getElem?_append_left hji] at hx
    exact (hw j x hx).kept (oq _ (hw j x hx).lt)
  · have hjn := (List.getElem?_eq_some_iff.mp hx).1
    rw [List.length_append] at hjn
    have e2 : j = es.length := by simp at hjn; omega
    subst e2
    rw [List.getElem?_append_right (Nat.le_refl _), Nat.sub_self] at hx
    cases hx
    exact he
def adB (b sz : Nat) : Nat → Nat
  | 0 => b
  | n + 1 => sz + n
theorem adB_inj {b sz : Nat} (h : b < sz) (n : Nat) : zI n (adB b sz) := by
  intro i j _ _ e
  cases i with
  | zero =>
    cases j with
    | zero => rfl
    | succ j => exact absurd (show b = sz + j from e) (by omega)
  | succ i =>
    cases j with
    | zero => exact absurd (show sz + i = b from e) (by omega)
    | succ j =>
      have h1 : sz + i = sz + j := e
      omega
theorem zI.le {n n' : Nat} {ad : Nat → Nat} (h : zI n ad) (hn : n' ≤ n) : zI n' ad := fun i j hi hj => h i j (Nat.lt_of_lt_of_le hi hn) (Nat.lt_of_lt_of_le hj hn)
def zAb (b sz : Nat) : Nat → Prop := fun q => q = b ∨ sz ≤ q
/-- behind a constructor: kX cells more, from the object's on as lX says -/
def iB (D : va_G) (kX : Nat) (lX : (Nat → Nat) → List va_E) (b sz : Nat) : Unit → State → Prop := fun _ t => t.heap.size = sz + kX ∧ zV D (lX (adB b sz)) (adB b sz) t.heap
def iPre (D : va_G) (cy : cyT) (K : State → Prop) (b sz ci : Nat) (fs : List Value) (As : List Value) : Array Value → State → Prop := va_Pc (.ref b :: As) (fun U => U.heap.size = sz ∧ b < sz ∧ zK D cy U ∧ K U ∧ va_at D vwCl (b, .inr (ci, fs)) U.heap)
abbrev iQ (D : va_G) (kX : Nat) (lX : (Nat → Nat) → List va_E) (b sz : Nat) : Array Value → State → Outcome → State → Prop := va_Qv (fun _ : Unit => True) (iB D kX lX b sz) (zAb b sz)
def zNo : State → Prop := fun _ => True
/-- what a condition on the tables keeps -/
def zKeep (K : State → Prop) : Prop := ∀ s U : State, s.vm.Alike U.vm → K s → K U
theorem zKeep_no : zKeep zNo := fun _ _ _ _ => trivial
def zAO : State → Prop := va_AO "TypeTrays$State"
theorem zKeep_ao : zKeep zAO := fun _ _ h k => va_AO.moved h k
theorem iblind {D : va_G} {cy : cyT} {K : State → Prop} (hKK : zKeep K) {b sz ci : Nat} {fs As : List Value} : FrameBlind (iPre D cy K b sz ci fs As) := fun _ U _ _ h => ⟨h.1, h.2.1, h.2.2.1, zK.same (s := U) rfl h.2.2.2.1, hKK U _ (Vm.Alike.refl U.vm) h.2.2.2.2.1, h.2.2.2.2.2⟩
theorem ipre {D : va_G} {cy : cyT} {K : State → Prop} (hKK : zKeep K) {b ci : Nat} {fs As : List Value} {s : State} {H : Heap} (hb : b < H.size) (hK : zK D cy s) (hk : K s) (hat : va_at D vwCl (b, .inr (ci, fs)) H) : PreS s H (iPre D cy K b H.size ci fs As) (.ref b :: As) :=
  ⟨iblind hKK, fun U hU hW => ⟨rfl, by rw [hU], hb, hK.moved hW, hKK s U hW.alike hk, by rw [hU]; exact hat⟩⟩
section ZNEW
variable {p : Program} {l : Launch} {e : Env} {R : Room} {s : State} {m : MethodId} {args : Array Value} {below : List Frame} {meth : Method} {c : Code} {H : Heap} {locs : List Loc} {cells slots : Nat} {Q : State → Prop}
variable {cc : ByteArray} {pc : Nat} {ls : Array Slot} {rest : List Value} {D : va_G} {cy : cyT} {es : List va_E} {ad : Nat → Nat} {H0 : Heap} {A0 : Nat → Prop}
theorem vnew (hx : p.tables.exec = Jvm.exec) (hb : c.code = cc) {own C : String} {T : u_T} {N ci index : Nat} {Ts : List Cond} (hts : ∀ w ∈ Ts, w.before args s = true) (hin : ∀ w ∈ u_ws C T N, w ∈ Ts) (ty : Nat → FieldType) (hty : ∀ k, k < N → parseFieldDescriptor (T k).2.2.1 = some (ty k)) (hown : s.vm.findClass own = some m.cls) (hcl : Cond.classLink own index C ∈ Ts) (hinst : Cond.instantiable C N ∈ Ts) (hini : Cond.initialized C ∈ Ts) (hK : zK D cy s) (hw : zV D es ad H) (k : Nat) (hk : es.length = k) (had : ad k = H.size) (hS : va_S A0 H0 H locs) (hc : vwCl[ci]? = some (C, T, N)) (fs : List Value) (hfs : ∀ j, j < N → defaultValue (ty j) = vp_V fs j) (hcells : cells + 1 ≤ R.cells) (hslots : slots + N ≤ R.slots) (hdg : decode cc pc = .ok (.new index, 3))
    (kk : ∀ H1 : Heap, H1.size = H.size + 1 → zV D (es ++ [.inr (ci, fs)]) ad H1 → va_S A0 H0 H1 locs → W p l e R s m args below meth c H1 locs (cells + 1) (slots + N) Q (F0 m (pc + 3) ls (.ref (ad k) :: rest))) : W p l e R s m args below meth c H locs cells slots Q (F0 m pc ls rest) := by
  have hKn := hK.1.1 ci _ hc
  refine W.newcK hx hb hown (hts _ hcl) (hts _ hinst) (hts _ hini) rfl hdg hcells hslots hKn.2.1 rfl fun H1 kC hkC e1 z1 o1 => ?_
  subst hk
  show W p l e R s m args below meth c H1 locs (cells + 1) (slots + N) Q (F0 m (pc + 3) ls (.ref H.size :: rest))
  rw [← had]
  refine kk H1 z1 (hw.push ?_ o1) ⟨Nat.le_trans hS.1 (by omega), fun x h1 h2 => (o1 x (Nat.lt_of_lt_of_le h1 hS.1)).trans (hS.2.1 x h1 h2), hS.2.2⟩
  rw [had]
  exact ⟨_, hc, (u_born ty hts hin hKn hkC e1 hty).to hfs⟩
theorem vnewa (hx : p.tables.exec = Jvm.exec) (hb : c.code = cc) {atype : ArrayType} {Ts : List Cond} (hts : ∀ w ∈ Ts, w.before args s = true) (harr : Cond.arrayClass (newarray.typeOf atype) ∈ Ts) {cA0 : ClassId} (hcA : s.vm.findClass ("[" ++ (newarray.typeOf atype).toString) = some cA0) (hd : defaultValue (newarray.typeOf atype) = .int 0) (hw : zV D es ad H) (k : Nat) (hk : es.length = k) (had : ad k = H.size) (hS : va_S A0 H0 H locs) {n : Int32} (N : Nat) (hn : ¬ n < 0) (hN : n.toNatClampNeg = N) (hbytes : N * componentBytes (newarray.typeOf atype) ≤ 536870912) (hcells : cells + 1 ≤ R.cells) (hslots : slots + N ≤ R.slots) (hdg : decode cc pc = .ok (.newarray atype, 2))
    (kk : ∀ H1 : Heap, H1.size = H.size + 1 → zV D (es ++ [.inl (cA0, N, .inl (fun _ => 0))]) ad H1 → va_S A0 H0 H1 locs → W p l e R s m args below meth c H1 locs (cells + 1) (slots + N) Q (F0 m (pc + 2) ls (.ref (ad k) :: rest))) : W p l e R s m args below meth c H locs cells slots Q (F0 m pc ls (.int n :: rest)) := by
  refine va_newaK hx hb (hts _ harr) rfl hdg rfl hn hN hbytes hcells hslots rfl fun H1 cA e1 z1 o1 _ hNm => ?_
  subst hk
  cases hcA.symm.trans hNm
  show W p l e R s m args below meth c H1 locs (cells + 1) (slots + N) Q (F0 m (pc + 2) ls (.ref H.size :: rest))
  rw [← had]
  refine kk H1 z1 (hw.push ?_ o1) ⟨Nat.le_trans hS.1 (by omega), fun x h1 h2 => (o1 x (Nat.lt_of_lt_of_le h1 hS.1)).trans (hS.2.1 x h1 h2), hS.2.2⟩
  rw [had]
  show H1[H.size]? = some (vp_cell _ _)
  rw [e1, vp_cell_i, hd]
theorem vnewq (hx : p.tables.exec = Jvm.exec) (hb : c.code = cc) {own : String} {index : Nat} {Ts : List Cond} (hts : ∀ w ∈ Ts, w.before args s = true) (hown : s.vm.findClass own = some m.cls) (hcl : Cond.classLink own index "TypeTrays$State" ∈ Ts) (hover : zAO s) (hK : zK D cy s) (hw : zV D es ad H) (k : Nat) (hk : es.length = k) (had : ad k = H.size) (hS : va_S A0 H0 H locs) {n : Int32} (N : Nat) (hn : ¬ n < 0) (hN : n.toNatClampNeg = N) (hbytes : N * 4 ≤ 536870912) (hcells : cells + 1 ≤ R.cells) (hslots : slots + N ≤ R.slots) (hdg : decode cc pc = .ok (.anewarray index, 3))
    (kk : ∀ H1 : Heap, H1.size = H.size + 1 → zV D (es ++ [.inl (cy.2.2, N, .inr (.inr (.inr (.inr (fun _ => none)))))]) ad H1 → va_S A0 H0 H1 locs → W p l e R s m args below meth c H1 locs (cells + 1) (slots + N) Q (F0 m (pc + 3) ls (.ref (ad k) :: rest))) : W p l e R s m args below meth c H locs cells slots Q (F0 m pc ls (.int n :: rest)) := by
  subst hN
  refine W.anew hx hb hown (hts _ hcl) (va_AO.use hover) rfl hdg rfl hn hbytes hcells hslots fun cA kA comp f1 f2 f3 f4 => ?_
  obtain ⟨kA2, comp2, g1, g2, g3, g4⟩ := (hK.1.2 2 _ rfl).2
  cases g4.symm.trans f1
  generalize hH1 : H.push ({ cls := cy.2.2, slots := Array.replicate n.toNatClampNeg .null, vm := .none } : Cell) = H1
  have z1 : H1.size = H.size + 1 := by rw [← hH1, Array.size_push]
  have e1 : H1[H.size]? = some (arrV cy.2.2 n.toNatClampNeg (fun _ => .null)) := by rw [← hH1, Array.getElem?_push_size, ← arrV_new]
  have o1 : ∀ q : Nat, q < H.size → H1[q]? = H[q]? := fun q hq => by rw [← hH1, Array.getElem?_push, if_neg (Nat.ne_of_lt hq)]
  subst hk
  show W p l e R s m args below meth c H1 locs (cells + 1) (slots + n.toNatClampNeg) Q (F0 m (pc + 3) ls (.ref H.size :: rest))
  rw [← had]
  refine kk H1 z1 (hw.push ?_ o1) ⟨Nat.le_trans hS.1 (by omega), fun x h1 h2 => (o1 x (Nat.lt_of_lt_of_le h1 hS.1)).trans (hS.2.1 x h1 h2), hS.2.2⟩
  rw [had]
  show H1[H.size]? = some (vp_cell _ _)
  rw [e1, vp_cell_q]
  rfl
theorem vput (hx : p.tables.exec = Jvm.exec) (hb : c.code = cc) {own ref C : String} {T : u_T} {N ci index : Nat} {Ts : List Cond} (hts : ∀ w ∈ Ts, w.before args s = true) (hin : ∀ w ∈ u_ws C T N, w ∈ Ts) (ty0 : Nat → FieldType) (hty : ∀ k, k < N → parseFieldDescriptor (T k).2.2.1 = some (ty0 k)) (hnm : ∀ a, a < N → ∀ b, b < N → a ≠ b → (T a).2.1 ≠ (T b).2.1) (hown : s.vm.findClass own = some m.cls) (hK : zK D cy s) (hj : zI es.length ad) (hw : zV D es ad H) (hS : va_S A0 H0 H locs) (i : Nat) (hA : A0 (ad i)) {fs : List Value} (he : es[i]? = some (.inr (ci, fs))) (hc : vwCl[ci]? = some (C, T, N)) (k : Nat) (hk : k < N) (hlink : Cond.fieldLink own index ref (T k).2.1 (T k).2.2.1 ∈ Ts) (hsame : ∀ x, s.fieldFound? (T k).1 (T k).2.1 (T k).2.2.1 = some x → s.fieldFound? ref (T k).2.1 (T k).2.2.1 = some x) (hfin : (T k).2.2.2 = false) {ty : FieldType} {v : Value} (hd : parseFieldDescriptor (T k).2.2.1 = some ty) (hn : narrow ty v = v) (hfit : fits ty v = true) (hl : k < fs.length)
    (hdg : decode cc pc = .ok (.putfield index, 3))
    (kk : ∀ (H1 : Heap) (locs : List Loc), H1.size = H.size → zV D (es.set i (.inr (ci, fs.set k v))) ad H1 → va_S A0 H0 H1 locs → W p l e R s m args below meth c H1 locs cells slots Q (F0 m (pc + 3) ls rest)) : W p l e R s m args below meth c H locs cells slots Q (F0 m pc ls (v :: .ref (ad i) :: rest)) := by
  have hK1 := hK.1
  have hap := va_apart (own := own) hts hin ty0 hty hnm hK1 hc
  obtain ⟨r, h3, cell, q1, q2, q3, q4⟩ := hw i _ he
  have hr : r = (C, T, N) := Option.some.inj (h3.symm.trans hc)
  subst hr
  obtain ⟨hSl, hfc, kC, hkC, hkind⟩ := hK1.1 ci _ hc
  obtain ⟨cf, kf, fi, fd, hif, hsl⟩ := hSl k hk
  have hlay := hts _ (hin _ (u_in_lay hk))
  unfold u_lay at hlay
  rw [if_neg (by rw [hfin]; decide)] at hlay
  have hst := (u_facts hfc hkC (u_lays hts hin hk) hif).1
  have h6 := u_store hfc hkC hkind hlay hif hd hn hfit
  refine W.putK hx hb (f := fd) ⟨hown, hts _ hlink, ⟨_, _, _, hsame _ hif⟩, hst⟩ (by rw [q2]; exact h6) q1 q3 (by rw [hsl]; exact k2_hasslot (q4 k hk)) rfl rfl hdg fun H' e1 e2 e3 => ?_
  rw [hsl] at e1 ⊢
  refine kk H' _ e2 (hw.put hj (List.getElem?_eq_some_iff.mp he).1 ?_ e3) (hS.put e2 e3 hA)
  exact ⟨_, hc, t_OB.to (V := updV (vp_V fs) k v) ⟨_, e1, q2, q3, t_set q4 hap hk v⟩ (fun j _ => vp_updV_set hl v j)⟩
theorem vputF (hx : p.tables.exec = Jvm.exec) (hb : c.code = cc) {own ref C : String} {T : u_T} {N ci index : Nat} {Ts : List Cond} (hts : ∀ w ∈ Ts, w.before args s = true) (hin : ∀ w ∈ u_ws C T N, w ∈ Ts) (ty0 : Nat → FieldType) (hty : ∀ k, k < N → parseFieldDescriptor (T k).2.2.1 = some (ty0 k)) (hnm : ∀ a, a < N → ∀ b, b < N → a ≠ b → (T a).2.1 ≠ (T b).2.1) (hown : s.vm.findClass own = some m.cls) (hK : zK D cy s) (hj : zI es.length ad) (hw : zV D es ad H) (hS : va_S A0 H0 H locs) (i : Nat) (hA : A0 (ad i)) {fs : List Value} (he : es[i]? = some (.inr (ci, fs))) (hc : vwCl[ci]? = some (C, T, N)) (k : Nat) (hk : k < N) (hlink : Cond.fieldLink own index ref (T k).2.1 (T k).2.2.1 ∈ Ts) (hsame : ∀ x, s.fieldFound? (T k).1 (T k).2.1 (T k).2.2.1 = some x → s.fieldFound? ref (T k).2.1 (T k).2.2.1 = some x) (hfin : (T k).2.2.2 = true) (hin2 : meth.name = "<init>") (hdecl : (T k).1 = own) {ty : FieldType} {v : Value} (hd : parseFieldDescriptor (T k).2.2.1 = some ty) (hn : narrow ty v = v) (hfit : fits ty v = true) (hl : k < fs.length)
    (hdg : decode cc pc = .ok (.putfield index, 3))
    (kk : ∀ (H1 : Heap) (locs : List Loc), H1.size = H.size → zV D (es.set i (.inr (ci, fs.set k v))) ad H1 → va_S A0 H0 H1 locs → W p l e R s m args below meth c H1 locs cells slots Q (F0 m (pc + 3) ls rest)) : W p l e R s m args below meth c H locs cells slots Q (F0 m pc ls (v :: .ref (ad i) :: rest)) := by
  have hK1 := hK.1
  have hap := va_apart (own := own) hts hin ty0 hty hnm hK1 hc
  obtain ⟨r, h3, cell, q1, q2, q3, q4⟩ := hw i _ he
  have hr : r = (C, T, N) := Option.some.inj (h3.symm.trans hc)
  subst hr
  obtain ⟨hSl, hfc, kC, hkC, hkind⟩ := hK1.1 ci _ hc
  obtain ⟨cf, kf, fi, f, hi, hsl⟩ := hSl k hk
  have hlay := hts _ (hin _ (u_in_lay hk))
  unfold u_lay at hlay
  rw [if_pos hfin] at hlay
  have hst := (u_facts hfc hkC (u_lays hts hin hk) hi).1
  have hcf : m.cls = cf := by
    obtain ⟨_, _, c', _, _, _, -, -, hf', -, -, -, hown2, -⟩ := Cond.laysFinal_spec hlay
    have e1 : c' = cf := by have := hi.symm.trans hf'; simp at this; exact this.1.symm
    rw [hdecl] at hown2
    rw [← e1]; exact Option.some.inj (hown.symm.trans hown2)
  have h6 := u_fits hfc hkC hkind (Or.inr hlay) hi hd hn hfit
  refine W.putFinK hx hb hown (hts _ hlink) (hsame _ hi) hst hcf hin2 (by rw [q2]; exact h6) q1 q3 (by rw [hsl]; exact k2_hasslot (q4 k hk)) rfl rfl hdg fun H' e1 e2 e3 => ?_
  rw [hsl] at e1 ⊢
  refine kk H' _ e2 (hw.put hj (List.getElem?_eq_some_iff.mp he).1 ?_ e3) (hS.put e2 e3 hA)
  exact ⟨_, hc, t_OB.to (V := updV (vp_V fs) k v) ⟨_, e1, q2, q3, t_set q4 hap hk v⟩ (fun j _ => vp_updV_set hl v j)⟩
theorem vget (hx : p.tables.exec = Jvm.exec) (hb : c.code = cc) {own ref C : String} {T : u_T} {N ci index : Nat} {Ts : List Cond} (hts : ∀ w ∈ Ts, w.before args s = true) (hin : ∀ w ∈ u_ws C T N, w ∈ Ts) (hown : s.vm.findClass own = some m.cls) (hK : zK D cy s) (hw : zV D es ad H) (i : Nat) {fs : List Value} (he : es[i]? = some (.inr (ci, fs))) (hc : vwCl[ci]? = some (C, T, N)) (k : Nat) (hk : k < N) (hlink : Cond.fieldLink own index ref (T k).2.1 (T k).2.2.1 ∈ Ts) (hsame : ∀ x, s.fieldFound? (T k).1 (T k).2.1 (T k).2.2.1 = some x → s.fieldFound? ref (T k).2.1 (T k).2.2.1 = some x) {v : Value} (hv : fs[k]? = some v) (hdg : decode cc pc = .ok (.getfield index, 3))
    (kk : W p l e R s m args below meth c H locs cells slots Q (F0 m (pc + 3) ls (v :: rest))) : W p l e R s m args below meth c H locs cells slots Q (F0 m pc ls (.ref (ad i) :: rest)) :=
  zget hx hb hts hin hown hK hw.W i (List.getElem?_eq_some_iff.mp he).1 (zl_get he) hc k hk hlink hsame hv hdg kk
theorem valen (hx : p.tables.exec = Jvm.exec) (hb : c.code = cc) (hK : zK D cy s) (hw : zV D es ad H) (i : Nat) {t0 : Nat} {cA : ClassId} {x : vp_A} (he : es[i]? = some (.inl (cA, x))) {ty : FieldType} (ht : (zTy cy)[t0]? = some (cA, ty)) {v : Int32} (hv : Int32.ofNat x.1 = v) (hdg : decode cc pc = .ok (.arraylength, 1))
    (kk : W p l e R s m args below meth c H locs cells slots Q (F0 m (pc + 1) ls (.int v :: rest))) : W p l e R s m args below meth c H locs cells slots Q (F0 m pc ls (.ref (ad i) :: rest)) :=
  va_alen hx hb hK.1 (hw.W.one (List.getElem?_eq_some_iff.mp he).1 (zl_get he)) 0 t0 rfl ht hv hdg kk
theorem vaist (hx : p.tables.exec = Jvm.exec) (hb : c.code = cc) (hK : zK D cy s) (hj : zI es.length ad) (hw : zV D es ad H) (hS : va_S A0 H0 H locs) (i : Nat) (hA : A0 (ad i)) {k : Nat} {g : Nat → Int32} (he : es[i]? = some (.inl (cy.1, k, .inl g))) {j x : Int32} (hin : vp_in j k) (hdg : decode cc pc = .ok (.iastore, 1))
    (kk : ∀ (H1 : Heap) (locs : List Loc), H1.size = H.size → zV D (es.set i (.inl (cy.1, k, .inl (upd g j.toNatClampNeg x)))) ad H1 → va_S A0 H0 H1 locs → W p l e R s m args below meth c H1 locs cells slots Q (F0 m (pc + 1) ls rest)) : W p l e R s m args below meth c H locs cells slots Q (F0 m pc ls (.int x :: .int j :: .ref (ad i) :: rest)) := by
  have hi := (List.getElem?_eq_some_iff.mp he).1
  refine W.iast hx hb (hw i _ he) ((hK.1.2 0 _ rfl).1 k (fun q => .int (g q))) (fun q => by cases q) (by show ¬ (j < 0 ∨ (arrV _ _ _).slots.size ≤ _); rw [arrV_size]; exact hin) rfl rfl hdg fun H1 e z oq => ?_
  refine kk H1 _ z (hw.put hj hi ?_ oq) (hS.put z oq hA)
  show H1[ad i]? = some (vp_cell _ _)
  rw [e, vp_cell_i, vp_cell_i, arrV_store]
  congr 2
  funext q
  by_cases hq : q = j.toNatClampNeg
  · subst hq
    simp [updV, upd]
  · simp [updV, upd, hq]
theorem vaast (hx : p.tables.exec = Jvm.exec) (hb : c.code = cc) (hK : zK D cy s) (hj : zI es.length ad) (hw : zV D es ad H) (hS : va_S A0 H0 H locs) (i : Nat) (hA : A0 (ad i)) {n : Nat} {f : Nat → Option Nat} (he : es[i]? = some (.inl (cy.2.2, n, .inr (.inr (.inr (.inr f)))))) {j : Int32} (hin : vp_in j n) (i2 : Nat) {fs : List Value} (hv : es[i2]? = some (.inr (3, fs))) (hdg : decode cc pc = .ok (.aastore, 1))
    (kk : ∀ (H1 : Heap) (locs : List Loc), H1.size = H.size → zV D (es.set i (.inl (cy.2.2, n, .inr (.inr (.inr (.inr (va_up f j.toNatClampNeg (some (ad i2)))))))) ) ad H1 → va_S A0 H0 H1 locs → W p l e R s m args below meth c H1 locs cells slots Q (F0 m (pc + 1) ls rest)) : W p l e R s m args below meth c H locs cells slots Q (F0 m pc ls (.ref (ad i2) :: .int j :: .ref (ad i) :: rest)) := by
  have hi := (List.getElem?_eq_some_iff.mp he).1
  have hlt : j.toNatClampNeg < n := Nat.not_le.mp fun q => hin (Or.inr q)
  have h0 : ¬ j < 0 := fun q => hin (Or.inl q)
  obtain ⟨r', hr', cellV, g1, g2, g3, -⟩ := hw i2 _ hv
  have hcls := (hK.1.1 3 _ rfl).2
  obtain ⟨kA, comp, k1, k2, k3, -⟩ := (hK.1.2 2 _ rfl).2
  have hcomp : comp = D.1 3 := Option.some.inj (k3.symm.trans hcls.1)
  subst hcomp
  obtain ⟨kC, hkC, -⟩ := hcls.2
  refine W.aast hx hb (hw i _ he) (fun q h => by cases h) (fun h => by cases h) k1 k2 rfl hkC ⟨h0, by show _ < (arrV _ _ _).slots.size; rw [arrV_size]; exact hlt⟩ g1 (fun q h => by rw [g3] at h; cases h) (by rw [g2]; exact hkC) (by rw [g2]; exact va_assign hcls) rfl rfl hdg fun H1 e z oq => ?_
  refine kk H1 _ z (hw.put hj hi ?_ oq) (hS.put z oq hA)
  show H1[ad i]? = some (vp_cell _ _)
  rw [e, vp_cell_q, vp_cell_q, arrV_store]
  congr 2
  funext q
  by_cases hq : q = j.toNatClampNeg
  · subst hq
    simp [updV, va_up, va_rf]
  · simp [updV, va_up, hq]
variable {st0 : List Value} {a : Array Value} {mc ms : Nat}
theorem icall {es0 : List va_E} {e0 : va_E} {lX : (Nat → Nat) → List va_E} {k kX : Nat} (hk : es0.length = k) (hw : zV D (es0 ++ [e0]) ad H) (had : ∀ j, ad (j + 1 + k) = H.size + j) (hj : zI (k + 1) ad) (hr : va_Run p l e R s m args below meth c H locs cells slots mc ms (F0 m pc ls st0) rest (iQ D kX lX (ad k) H.size a) (zAb (ad k) H.size)) (hS : va_S A0 H0 H locs) (hA : ∀ q, zAb (ad k) H.size q → A0 q)
    (kk : ∀ (H1 : Heap) (locs1 : List Loc), H1.size = H.size + kX → zV D (es0 ++ lX (fun j => ad (j + k))) ad H1 → va_S A0 H0 H1 locs1 → W p l e R s m args below meth c H1 locs1 (cells + mc) (slots + ms) Q (F0 m (pc + 3) ls rest)) : W p l e R s m args below meth c H locs cells slots Q (F0 m pc ls st0) := by
  have hfun : adB (ad k) H.size = fun j => ad (j + k) := by
    funext j
    cases j with
    | zero => show ad k = ad (0 + k); rw [Nat.zero_add]
    | succ j => exact (had j).symm
  refine va_callv hr hS (fun q _ h => hA q h) hA (fun u t H1 locs1 ht hvm hp hB hz hq hS1 => kk H1 locs1 (by rw [← ht]; exact hB.1) ?_ hS1)
  have hB2 := hB.2
  rw [hfun, ht] at hB2
  intro i x hx
  by_cases hi : i < es0.length
  · rw [List.getElem?_append_left hi] at hx
    have hx0 : (es0 ++ [e0])[i]? = some x := by rw [List.getElem?_append_left hi]; exact hx
    have hlt := (hw i x hx0).lt
    refine (hw i x hx0).kept (hq _ hlt ?_)
    intro h
    rcases h with h | h
    · have := hj i k (by omega) (by omega) h
      omega
    · exact absurd hlt (Nat.not_lt.mpr h)
  · rw [List.getElem?_append_right (by omega)] at hx
    have h9 := hB2 _ x hx
    have e9 : i - es0.length + k = i := by omega
    show va_at D vwCl (ad i, x) H1
    have h10 : va_at D vwCl (ad (i - es0.length + k), x) H1 := h9
    rw [e9] at h10
    exact h10
end ZNEW
theorem zK_int {D : va_G} {cy : cyT} {s : State} (hK : zK D cy s) : s.vm.findClass ("[" ++ FieldType.int.toString) = some cy.1 := (hK.1.2 0 _ rfl).2
theorem zK_boo {D : va_G} {cy : cyT} {s : State} (hK : zK D cy s) : s.vm.findClass ("[" ++ FieldType.boolean.toString) = some cy.2.1 := (hK.1.2 1 _ rfl).2
theorem last_14 : True := trivial
