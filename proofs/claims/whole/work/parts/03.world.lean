/-! The worlds: the class's cells (116 places) and the reference's (6 places), at addresses ad; what they hold is read off a pair of functions: the rows of numbers, the single numbers. -/

abbrev vwCl : List vw_C := [(RX0, TX0, 6), (RX2, TX2, 5), (RX3, TX3, 1), (RX4, TX4, 18), (RX5, TX5, 3), (RX6, TX6, 4), (RX7, TX7, 16)]
def jI (z : Int) : Int32 := Int32.ofInt z
abbrev ST : Type := (Nat → Nat → Int32) × (Nat → Int32)
abbrev cyT : Type := ClassId × ClassId × ClassId
def zsp (σ : ST) (k : Nat) (v : Int32) : ST := (σ.1, fun j => if j = k then v else σ.2 j)
def zrp (σ : ST) (r i : Nat) (v : Int32) : ST := (fun q => if q = r then upd (σ.1 r) i v else σ.1 q, σ.2)
def zlen (r : Nat) : Nat := if r = 50 then 150 else if r = 51 then 30 else if r = 52 then 90 else if r % 10 < 2 then 16 else if r % 10 = 2 then 72 else 144
/-- the k-th State: 0 the class's own, 1 to 4 the saved ones -/
def zcS (ad : Nat → Nat) (σ : ST) (k : Nat) : va_E := .inr (3, [.ref (ad (2 * (10 * k + 0) + 10)), .ref (ad (2 * (10 * k + 1) + 10)), .ref (ad (2 * (10 * k + 2) + 10)), .ref (ad (2 * (10 * k + 3) + 10)), .ref (ad (2 * (10 * k + 4) + 10)), .ref (ad (2 * (10 * k + 5) + 10)), .ref (ad (2 * (10 * k + 6) + 10)), .ref (ad (2 * (10 * k + 7) + 10)), .ref (ad (2 * (10 * k + 8) + 10)), .ref (ad (2 * (10 * k + 9) + 10)), .int (σ.2 (8 * k)), .int (σ.2 (8 * k + 1)), .int (σ.2 (8 * k + 2)), .int (σ.2 (8 * k + 3)), .int (σ.2 (8 * k + 4)), .int (σ.2 (8 * k + 5)), .int (σ.2 (8 * k + 6)), .int (σ.2 (8 * k + 7))])
def zce (cy : cyT) (ad : Nat → Nat) (σ : ST) : Nat → va_E
  | 0 => .inr (5, [.ref (ad 5), .ref (ad 1), .ref (ad 3), .ref (ad 4)])
  | 1 => .inr (4, [.ref (ad 2), .int (σ.2 40), .int (σ.2 41)])
  | 2 => .inl (cy.2.2, 4, .inr (.inr (.inr (.inr (fun i => some (ad (6 + i)))))))
  | 3 => .inr (0, [.ref (ad 110), .int (σ.2 42), .int (σ.2 43), .ref (ad 112), .ref (ad 114), .int (σ.2 44)])
  | 4 => .inr (1, [.int (σ.2 45), .int (σ.2 46), .int (σ.2 47), .int (σ.2 48), .int (σ.2 49)])
  | 5 => zcS ad σ 0
  | 6 => zcS ad σ 1
  | 7 => zcS ad σ 2
  | 8 => zcS ad σ 3
  | 9 => zcS ad σ 4
  | n + 10 => if n % 2 = 0 then .inr (2, [.ref (ad (n + 11))]) else .inl (cy.1, zlen (n / 2), .inl (σ.1 (n / 2)))
def zme (cy : cyT) (ad : Nat → Nat) (σ : ST) : Nat → va_E
  | 0 => .inr (6, [.ref (ad 1), .ref (ad 2), .int (σ.2 0), .int (σ.2 1), .ref (ad 3), .int (σ.2 2), .int (σ.2 3), .int (σ.2 4), .int (σ.2 5), .int (σ.2 6), .int (σ.2 7), .ref (ad 4), .int (σ.2 8), .int (σ.2 9), .ref (ad 5), .int (σ.2 10)])
  | 1 => .inl (cy.1, 983, .inl (σ.1 0))
  | 2 => .inl (cy.1, 3932, .inl (σ.1 1))
  | 3 => .inl (cy.2.1, 25, .inl (σ.1 2))
  | 4 => .inl (cy.1, 150, .inl (σ.1 3))
  | 5 => .inl (cy.1, 200, .inl (σ.1 4))
  | _ => .inr (0, [])
def zW (D : va_G) (n : Nat) (f : Nat → va_E) (ad : Nat → Nat) (H : Heap) : Prop := ∀ i, i < n → va_at D vwCl (ad i, f i) H
def zI (n : Nat) (ad : Nat → Nat) : Prop := ∀ i j, i < n → j < n → ad i = ad j → i = j
def zA (n : Nat) (ad : Nat → Nat) : Nat → Prop := fun q => ∃ i, i < n ∧ q = ad i
def zNest : List Cond := [
  .fieldLinkNest RX2 70 "TypeTrays$State" "trays" "I" "TypeTrays",
  .fieldLinkNest RX6 187 "TypeTrays$State" "trays" "I" "TypeTrays",
  .fieldLinkNest RX6 170 "TypeTrays$UndoStack" "count" "I" "TypeTrays",
  .fieldLinkNest RX6 129 "TypeTrays$Commands" "length" "I" "TypeTrays",
  .fieldLinkNest RX6 161 "TypeTrays$Commands" "position" "I" "TypeTrays",
  .fieldLinkNest RX6 164 "TypeTrays$Commands" "count" "I" "TypeTrays",
  .fieldLinkNest RX6 62 "TypeTrays$Place" "rule" "I" "TypeTrays",
  .fieldLinkNest RX4 94 "TypeTrays$Place" "rule" "I" "TypeTrays",
  .fieldLinkNest RX4 106 "TypeTrays$Place" "slot" "I" "TypeTrays",
  .fieldLinkNest RX4 118 "TypeTrays$Place" "left" "I" "TypeTrays",
  .fieldLinkNest RX6 139 "TypeTrays$Place" "taken" "I" "TypeTrays",
  .fieldLinkNest RX4 115 "TypeTrays$Place" "leaver" "I" "TypeTrays",
  .methodLinkNest RX6 25 yX0_init "TypeTrays",
  .methodLinkNest RX6 32 yX2_init "TypeTrays",
  .methodLinkNest RX4 134 yX6_signOf "TypeTrays",
  .methodLinkNest RX4 137 yX6_sizeOf "TypeTrays",
  .methodLinkNest RX4 140 yX6_blurOf "TypeTrays"]
abbrev zTy (cy : cyT) : List (ClassId × FieldType) := [(cy.1, .int), (cy.2.1, .boolean), (cy.2.2, .object "TypeTrays$State")]
def zK (D : va_G) (cy : cyT) (U : State) : Prop := va_K D vwCl (zTy cy) U ∧ ∀ w ∈ zNest, va_Nw w U
theorem zNw_warm {s U : State} (hW : s.WarmedH U.vm) : ∀ w ∈ zNest, va_Nw w s → va_Nw w U := by
  intro w hw h
  simp only [zNest, List.mem_cons, List.not_mem_nil, or_false] at hw
  rcases hw with rfl | rfl | rfl | rfl | rfl | rfl | rfl | rfl | rfl | rfl | rfl | rfl | rfl | rfl | rfl | rfl | rfl <;> first | exact va_Nw.warmF hW h | exact va_Nw.warmM hW h
theorem zNw_tab : ∀ w ∈ zNest, w.onTables = true := by decide +kernel
theorem zK.moved {D : va_G} {cy : cyT} {s U : State} (hW : s.WarmedH U.vm) (h : zK D cy s) : zK D cy U := ⟨va_K.moved hW.alike h.1, fun w hw => zNw_warm hW w hw (h.2 w hw)⟩
theorem zK.same {D : va_G} {cy : cyT} {s U : State} (hv : s.vm = U.vm) (h : zK D cy s) : zK D cy U := ⟨va_K.moved (by rw [hv]; exact Vm.Alike.refl U.vm) h.1, fun w hw => va_Nw.same (zNw_tab w hw) hv (h.2 w hw)⟩
/-- what a method over a world asks -/
def zPre (D : va_G) (cy : cyT) (n : Nat) (f : Nat → va_E) (ad : Nat → Nat) (As : List Value) : Array Value → State → Prop := va_Pc As (fun U => zI n ad ∧ zK D cy U ∧ zW D n f ad U.heap)
/-- and what the world is behind it -/
def zB (D : va_G) (n : Nat) (E : ST → Nat → va_E) (ad : Nat → Nat) : ST → State → Prop := fun σ t => zW D n (E σ) ad t.heap
theorem zW.one {D : va_G} {n : Nat} {f : Nat → va_E} {ad : Nat → Nat} {H : Heap} (hw : zW D n f ad H) {i : Nat} (hi : i < n) {e : va_E} (he : f i = e) : va_P D vwCl [(ad i, e)] H := by
  intro k q hk
  cases k with
  | zero => cases hk; rw [← he]; exact hw i hi
  | succ k => simp at hk
theorem zW.put {D : va_G} {n : Nat} {f f' : Nat → va_E} {ad : Nat → Nat} {H H1 : Heap} (hw : zW D n f ad H) (hj : zI n ad) {i : Nat} (hi : i < n) {e : va_E} (he : va_at D vwCl (ad i, e) H1) (oq : ∀ q : Nat, q ≠ ad i → H1[q]? = H[q]?) (h1 : f' i = e) (h2 : ∀ j, j ≠ i → f' j = f j) : zW D n f' ad H1 := by
  intro j hjn
  by_cases hji : j = i
  · subst hji
    rw [h1]
    exact he
  · rw [h2 j hji]
    exact (hw j hjn).kept (oq (ad j) (fun z => hji (hj j i hjn hi z)))
theorem z0 : (0 : Int32) = jI 0 := by decide +kernel
section ZIF
variable {p : Program} {l : Launch} {e : Env} {R : Room} {s : State} {m : MethodId} {args : Array Value} {below : List Frame} {meth : Method} {c : Code} {H : Heap} {locs : List Loc} {cells slots : Nat} {Q : State → Prop} {cc : ByteArray} {pc : Nat} {ls : Array Slot} {rest : List Value}
theorem zif_eq (hx : p.tables.exec = Jvm.exec) (hb : c.code = cc) {x : Int32} {off : Int} {tgt : Nat} (hdg : decode cc pc = .ok (.ifCond .eq off, 3)) (ht : (pc : Int) + off = (tgt : Int)) (kt : x = jI 0 → W p l e R s m args below meth c H locs cells slots Q (F0 m tgt ls rest)) (kf : ¬ x = jI 0 → W p l e R s m args below meth c H locs cells slots Q (F0 m (pc + 3) ls rest)) : W p l e R s m args below meth c H locs cells slots Q (F0 m pc ls (.int x :: rest)) :=
  lv_if_eq hx hb hdg ht (fun q => kt (z0 ▸ q)) (fun q => kf (z0 ▸ q))
theorem zif_ne (hx : p.tables.exec = Jvm.exec) (hb : c.code = cc) {x : Int32} {off : Int} {tgt : Nat} (hdg : decode cc pc = .ok (.ifCond .ne off, 3)) (ht : (pc : Int) + off = (tgt : Int)) (kt : ¬ x = jI 0 → W p l e R s m args below meth c H locs cells slots Q (F0 m tgt ls rest)) (kf : x = jI 0 → W p l e R s m args below meth c H locs cells slots Q (F0 m (pc + 3) ls rest)) : W p l e R s m args below meth c H locs cells slots Q (F0 m pc ls (.int x :: rest)) :=
  lv_if_ne hx hb hdg ht (fun q => kt (z0 ▸ q)) (fun q => kf (z0 ▸ q))
theorem zif_lt (hx : p.tables.exec = Jvm.exec) (hb : c.code = cc) {x : Int32} {off : Int} {tgt : Nat} (hdg : decode cc pc = .ok (.ifCond .lt off, 3)) (ht : (pc : Int) + off = (tgt : Int)) (kt : x < jI 0 → W p l e R s m args below meth c H locs cells slots Q (F0 m tgt ls rest)) (kf : ¬ x < jI 0 → W p l e R s m args below meth c H locs cells slots Q (F0 m (pc + 3) ls rest)) : W p l e R s m args below meth c H locs cells slots Q (F0 m pc ls (.int x :: rest)) :=
  lv_if_lt hx hb hdg ht (fun q => kt (z0 ▸ q)) (fun q => kf (z0 ▸ q))
theorem zif_ge (hx : p.tables.exec = Jvm.exec) (hb : c.code = cc) {x : Int32} {off : Int} {tgt : Nat} (hdg : decode cc pc = .ok (.ifCond .ge off, 3)) (ht : (pc : Int) + off = (tgt : Int)) (kt : jI 0 ≤ x → W p l e R s m args below meth c H locs cells slots Q (F0 m tgt ls rest)) (kf : ¬ jI 0 ≤ x → W p l e R s m args below meth c H locs cells slots Q (F0 m (pc + 3) ls rest)) : W p l e R s m args below meth c H locs cells slots Q (F0 m pc ls (.int x :: rest)) :=
  lv_if_ge hx hb hdg ht (fun q => kt (z0 ▸ q)) (fun q => kf (z0 ▸ q))
theorem zif_gt (hx : p.tables.exec = Jvm.exec) (hb : c.code = cc) {x : Int32} {off : Int} {tgt : Nat} (hdg : decode cc pc = .ok (.ifCond .gt off, 3)) (ht : (pc : Int) + off = (tgt : Int)) (kt : jI 0 < x → W p l e R s m args below meth c H locs cells slots Q (F0 m tgt ls rest)) (kf : ¬ jI 0 < x → W p l e R s m args below meth c H locs cells slots Q (F0 m (pc + 3) ls rest)) : W p l e R s m args below meth c H locs cells slots Q (F0 m pc ls (.int x :: rest)) :=
  lv_if_gt hx hb hdg ht (fun q => kt (z0 ▸ q)) (fun q => kf (z0 ▸ q))
theorem zif_le (hx : p.tables.exec = Jvm.exec) (hb : c.code = cc) {x : Int32} {off : Int} {tgt : Nat} (hdg : decode cc pc = .ok (.ifCond .le off, 3)) (ht : (pc : Int) + off = (tgt : Int)) (kt : x ≤ jI 0 → W p l e R s m args below meth c H locs cells slots Q (F0 m tgt ls rest)) (kf : ¬ x ≤ jI 0 → W p l e R s m args below meth c H locs cells slots Q (F0 m (pc + 3) ls rest)) : W p l e R s m args below meth c H locs cells slots Q (F0 m pc ls (.int x :: rest)) :=
  lv_if_le hx hb hdg ht (fun q => kt (z0 ▸ q)) (fun q => kf (z0 ▸ q))
end ZIF
section ZROWS
variable {p : Program} {l : Launch} {e : Env} {R : Room} {s : State} {m : MethodId} {args : Array Value} {below : List Frame} {meth : Method} {c : Code} {H : Heap} {locs : List Loc} {cells slots : Nat} {Q : State → Prop}
variable {cc : ByteArray} {pc : Nat} {ls : Array Slot} {rest : List Value} {D : va_G} {cy : cyT} {n : Nat} {f : Nat → va_E} {ad : Nat → Nat} {H0 : Heap}
theorem zget (hx : p.tables.exec = Jvm.exec) (hb : c.code = cc) {own ref C : String} {T : u_T} {N ci index : Nat} {Ts : List Cond} (hts : ∀ w ∈ Ts, w.before args s = true) (hin : ∀ w ∈ u_ws C T N, w ∈ Ts) (hown : s.vm.findClass own = some m.cls) (hK : zK D cy s) (hw : zW D n f ad H) (i : Nat) (hi : i < n) {fs : List Value} (he : f i = .inr (ci, fs)) (hc : vwCl[ci]? = some (C, T, N)) (k : Nat) (hk : k < N) (hlink : Cond.fieldLink own index ref (T k).2.1 (T k).2.2.1 ∈ Ts) (hsame : ∀ x, s.fieldFound? (T k).1 (T k).2.1 (T k).2.2.1 = some x → s.fieldFound? ref (T k).2.1 (T k).2.2.1 = some x) {v : Value} (hv : fs[k]? = some v) (hdg : decode cc pc = .ok (.getfield index, 3))
    (kk : W p l e R s m args below meth c H locs cells slots Q (F0 m (pc + 3) ls (v :: rest))) : W p l e R s m args below meth c H locs cells slots Q (F0 m pc ls (.ref (ad i) :: rest)) :=
  va_get hx hb hts hin hown hK.1 (hw.one hi he) 0 rfl hc k hk (hts _ hlink) hsame hv hdg kk
theorem zgetN (hx : p.tables.exec = Jvm.exec) (hb : c.code = cc) {own ref C host : String} {T : u_T} {N ci index : Nat} {Ts : List Cond} (hts : ∀ w ∈ Ts, w.before args s = true) (hin : ∀ w ∈ u_ws C T N, w ∈ Ts) (hown : s.vm.findClass own = some m.cls) (hK : zK D cy s) (hw : zW D n f ad H) (i : Nat) (hi : i < n) {fs : List Value} (he : f i = .inr (ci, fs)) (hc : vwCl[ci]? = some (C, T, N)) (k : Nat) (hk : k < N) (hlink : Cond.fieldLinkNest own index ref (T k).2.1 (T k).2.2.1 host ∈ zNest) (hsame : ∀ x, s.fieldFound? (T k).1 (T k).2.1 (T k).2.2.1 = some x → s.fieldFound? ref (T k).2.1 (T k).2.2.1 = some x) {v : Value} (hv : fs[k]? = some v) (hdg : decode cc pc = .ok (.getfield index, 3))
    (kk : W p l e R s m args below meth c H locs cells slots Q (F0 m (pc + 3) ls (v :: rest))) : W p l e R s m args below meth c H locs cells slots Q (F0 m pc ls (.ref (ad i) :: rest)) :=
  va_getN hx hb hts hin hown hK.1 (hw.one hi he) 0 rfl hc k hk (va_Nw.use (zNw_tab _ hlink) (hK.2 _ hlink)) hsame hv hdg kk
theorem zput (hx : p.tables.exec = Jvm.exec) (hb : c.code = cc) {own ref C : String} {T : u_T} {N ci index : Nat} {Ts : List Cond} (hts : ∀ w ∈ Ts, w.before args s = true) (hin : ∀ w ∈ u_ws C T N, w ∈ Ts) (ty0 : Nat → FieldType) (hty : ∀ k, k < N → parseFieldDescriptor (T k).2.2.1 = some (ty0 k)) (hnm : ∀ a, a < N → ∀ b, b < N → a ≠ b → (T a).2.1 ≠ (T b).2.1) (hown : s.vm.findClass own = some m.cls) (hK : zK D cy s) (hj : zI n ad) (hw : zW D n f ad H) {A0 : Nat → Prop} (hA : ∀ i, i < n → A0 (ad i)) (hS : va_S A0 H0 H locs) (i : Nat) (hi : i < n) {fs : List Value} (he : f i = .inr (ci, fs)) (hc : vwCl[ci]? = some (C, T, N)) (k : Nat) (hk : k < N) (hlink : Cond.fieldLink own index ref (T k).2.1 (T k).2.2.1 ∈ Ts) (hsame : ∀ x, s.fieldFound? (T k).1 (T k).2.1 (T k).2.2.1 = some x → s.fieldFound? ref (T k).2.1 (T k).2.2.1 = some x) (hfin : (T k).2.2.2 = false) {ty : FieldType} {v : Value} (hd : parseFieldDescriptor (T k).2.2.1 = some ty) (hn : narrow ty v = v) (hfit : fits ty v = true) (hl : k < fs.length)
    (hdg : decode cc pc = .ok (.putfield index, 3)) (f' : Nat → va_E) (h1 : f' i = .inr (ci, fs.set k v)) (h2 : ∀ j, j ≠ i → f' j = f j)
    (kk : ∀ (H : Heap) (locs : List Loc), zW D n f' ad H → va_S A0 H0 H locs → W p l e R s m args below meth c H locs cells slots Q (F0 m (pc + 3) ls rest)) : W p l e R s m args below meth c H locs cells slots Q (F0 m pc ls (v :: .ref (ad i) :: rest)) := by
  have hK1 := hK.1
  have hap := va_apart (own := own) hts hin ty0 hty hnm hK1 hc
  have hat := hw i hi
  rw [he] at hat
  obtain ⟨r, h3, cell, q1, q2, q3, q4⟩ := hat
  have hr : r = (C, T, N) := Option.some.inj (h3.symm.trans hc)
  subst hr
  obtain ⟨hSl, hfc, kC, hkC, hkind⟩ := hK1.1 ci _ hc
  obtain ⟨cf, kf, fi, fd, hif, hsl⟩ := hSl k hk
  have hlay := hts _ (hin _ (u_in_lay hk))
  unfold u_lay at hlay
  rw [if_neg (by rw [hfin]; decide)] at hlay
  have hst := (u_facts hfc hkC (u_lays hts hin hk) hif).1
  have h6 := u_store hfc hkC hkind hlay hif hd hn hfit
  refine W.putK hx hb (f := fd) ⟨hown, hts _ hlink, ⟨_, _, _, hsame _ hif⟩, hst⟩ (by rw [q2]; exact h6) q1 q3 (by rw [hsl]; exact k2_hasslot (q4 k hk)) rfl rfl hdg fun H' e1 e2 e3 => ?_
  rw [hsl] at e1 ⊢
  refine kk H' _ (hw.put hj hi (e := .inr (ci, fs.set k v)) ?_ e3 h1 h2) (hS.put e2 e3 (hA i hi))
  exact ⟨_, hc, t_OB.to (V := updV (vp_V fs) k v) ⟨_, e1, q2, q3, t_set q4 hap hk v⟩ (fun j _ => vp_updV_set hl v j)⟩
theorem ziald (hx : p.tables.exec = Jvm.exec) (hb : c.code = cc) (hK : zK D cy s) (hw : zW D n f ad H) (j : Nat) (hj : j < n) {k : Nat} {g : Nat → Int32} (he : f j = .inl (cy.1, k, .inl g)) {i : Int32} (hin : vp_in i k) (hdg : decode cc pc = .ok (.iaload, 1))
    (kk : W p l e R s m args below meth c H locs cells slots Q (F0 m (pc + 1) ls (.int (g i.toNatClampNeg) :: rest))) : W p l e R s m args below meth c H locs cells slots Q (F0 m pc ls (.int i :: .ref (ad j) :: rest)) :=
  va_iald hx hb hK.1 (hw.one hj he) 0 0 rfl rfl hin hdg kk
theorem zzald (hx : p.tables.exec = Jvm.exec) (hb : c.code = cc) (hK : zK D cy s) (hw : zW D n f ad H) (j : Nat) (hj : j < n) {k : Nat} {g : Nat → Int32} (he : f j = .inl (cy.2.1, k, .inl g)) {i : Int32} (hin : vp_in i k) (hdg : decode cc pc = .ok (.baload, 1))
    (kk : W p l e R s m args below meth c H locs cells slots Q (F0 m (pc + 1) ls (.int (g i.toNatClampNeg) :: rest))) : W p l e R s m args below meth c H locs cells slots Q (F0 m pc ls (.int i :: .ref (ad j) :: rest)) :=
  va_zald hx hb hK.1 (hw.one hj he) 0 1 rfl rfl hin hdg kk
theorem zalen (hx : p.tables.exec = Jvm.exec) (hb : c.code = cc) (hK : zK D cy s) (hw : zW D n f ad H) (j : Nat) (hj : j < n) {k : Nat} {g : Nat → Int32} (he : f j = .inl (cy.1, k, .inl g)) {v : Int32} (hv : Int32.ofNat k = v) (hdg : decode cc pc = .ok (.arraylength, 1))
    (kk : W p l e R s m args below meth c H locs cells slots Q (F0 m (pc + 1) ls (.int v :: rest))) : W p l e R s m args below meth c H locs cells slots Q (F0 m pc ls (.ref (ad j) :: rest)) :=
  va_alen hx hb hK.1 (hw.one hj he) 0 0 rfl rfl hv hdg kk
theorem ziast (hx : p.tables.exec = Jvm.exec) (hb : c.code = cc) (hK : zK D cy s) (hj : zI n ad) (hw : zW D n f ad H) {A0 : Nat → Prop} (hA : ∀ i, i < n → A0 (ad i)) (hS : va_S A0 H0 H locs) (j : Nat) (hjn : j < n) {k : Nat} {g : Nat → Int32} (he : f j = .inl (cy.1, k, .inl g)) {i x : Int32} (hin : vp_in i k) (hdg : decode cc pc = .ok (.iastore, 1)) (f' : Nat → va_E) (h1 : f' j = .inl (cy.1, k, .inl (upd g i.toNatClampNeg x))) (h2 : ∀ q, q ≠ j → f' q = f q)
    (kk : ∀ (H : Heap) (locs : List Loc), zW D n f' ad H → va_S A0 H0 H locs → W p l e R s m args below meth c H locs cells slots Q (F0 m (pc + 1) ls rest)) : W p l e R s m args below meth c H locs cells slots Q (F0 m pc ls (.int x :: .int i :: .ref (ad j) :: rest)) := by
  have hat := hw j hjn
  rw [he] at hat
  refine W.iast hx hb hat ((hK.1.2 0 _ rfl).1 k (fun q => .int (g q))) (fun q => by cases q) (by show ¬ (i < 0 ∨ (arrV _ _ _).slots.size ≤ _); rw [arrV_size]; exact hin) rfl rfl hdg fun H1 e z oq => ?_
  refine kk H1 _ (hw.put hj hjn (e := .inl (cy.1, k, .inl (upd g i.toNatClampNeg x))) ?_ oq h1 h2) (hS.put z oq (hA j hjn))
  show H1[ad j]? = some (vp_cell _ _)
  rw [e, vp_cell_i, vp_cell_i, arrV_store]
  congr 2
  funext q
  by_cases hq : q = i.toNatClampNeg
  · subst hq
    simp [updV, upd]
  · simp [updV, upd, hq]
theorem zzast (hx : p.tables.exec = Jvm.exec) (hb : c.code = cc) (hK : zK D cy s) (hj : zI n ad) (hw : zW D n f ad H) {A0 : Nat → Prop} (hA : ∀ i, i < n → A0 (ad i)) (hS : va_S A0 H0 H locs) (j : Nat) (hjn : j < n) {k : Nat} {g : Nat → Int32} (he : f j = .inl (cy.2.1, k, .inl g)) {i x : Int32} (hin : vp_in i k) (hdg : decode cc pc = .ok (.bastore, 1)) (hnar : vp_nar .boolean x = x) (f' : Nat → va_E) (h1 : f' j = .inl (cy.2.1, k, .inl (upd g i.toNatClampNeg x))) (h2 : ∀ q, q ≠ j → f' q = f q)
    (kk : ∀ (H : Heap) (locs : List Loc), zW D n f' ad H → va_S A0 H0 H locs → W p l e R s m args below meth c H locs cells slots Q (F0 m (pc + 1) ls rest)) : W p l e R s m args below meth c H locs cells slots Q (F0 m pc ls (.int x :: .int i :: .ref (ad j) :: rest)) := by
  have hat := hw j hjn
  rw [he] at hat
  refine W.zast hx hb hat ((hK.1.2 1 _ rfl).1 k (fun q => .int (g q))) (fun q => by cases q) (by show ¬ (i < 0 ∨ (arrV _ _ _).slots.size ≤ _); rw [arrV_size]; exact hin) rfl rfl hdg fun H1 e z oq => ?_
  refine kk H1 _ (hw.put hj hjn (e := .inl (cy.2.1, k, .inl (upd g i.toNatClampNeg (vp_nar .boolean x)))) ?_ oq (by rw [hnar]; exact h1) h2) (hS.put z oq (hA j hjn))
  show H1[ad j]? = some (vp_cell _ _)
  rw [e, vp_cell_i, vp_cell_i, arrV_store]
  congr 2
  funext q
  by_cases hq : q = i.toNatClampNeg
  · subst hq
    simp [updV, upd, vp_nar]
    try rfl
  · simp [updV, upd, hq]
end ZROWS
theorem zblind {D : va_G} {cy : cyT} {n : Nat} {f : Nat → va_E} {ad : Nat → Nat} {As : List Value} : FrameBlind (zPre D cy n f ad As) := fun _ U _ _ h => ⟨h.1, h.2.1, zK.same (s := U) rfl h.2.2.1, h.2.2.2⟩
theorem zpreV {D : va_G} {cy : cyT} {n : Nat} {f : Nat → va_E} {ad : Nat → Nat} {s : State} {H : Heap} (hj : zI n ad) (hK : zK D cy s) (hw : zW D n f ad H) (As : List Value) {i ci : Nat} (hi : i < n) {fs : List Value} (he : f i = .inr (ci, fs)) {q : vw_C} (hc : vwCl[ci]? = some q) : PreV s H q.1 (ad i) (zPre D cy n f ad (.ref (ad i) :: As)) As :=
  ⟨zblind, va_recv hK.1 (hw.one hi he) hc (q0 := 0) rfl, fun U hU hW => ⟨rfl, hj, hK.moved hW, by rw [hU]; exact hw⟩⟩
theorem zpreS {D : va_G} {cy : cyT} {n : Nat} {f : Nat → va_E} {ad : Nat → Nat} {s : State} {H : Heap} (hj : zI n ad) (hK : zK D cy s) (hw : zW D n f ad H) (As : List Value) : PreS s H (zPre D cy n f ad As) As :=
  ⟨zblind, fun U hU hW => ⟨rfl, hj, hK.moved hW, by rw [hU]; exact hw⟩⟩
theorem zend {D : va_G} {n : Nat} {E : ST → Nat → va_E} {ad : Nat → Nat} {H : Heap} {σ : ST} {t : State} (hw : zW D n (E σ) ad H) (ht : t.heap = H) : zB D n E ad σ t := by
  show zW D n (E σ) ad t.heap
  rw [ht]
  exact hw
section ZCALLS
variable {p : Program} {l : Launch} {e : Env} {R : Room} {s : State} {m : MethodId} {args : Array Value} {below : List Frame} {meth : Method} {c : Code} {H : Heap} {locs : List Loc} {cells slots : Nat} {Q : State → Prop}
variable {pc : Nat} {ls : Array Slot} {rest st0 : List Value} {D : va_G} {n : Nat} {E : ST → Nat → va_E} {ad : Nat → Nat} {H0 : Heap} {a : Array Value}
theorem zcallv {Q1 : ST → Prop} (hr : va_Run p l e R s m args below meth c H locs cells slots 0 0 (F0 m pc ls st0) rest (va_Qv Q1 (zB D n E ad) (zA n ad) a) (zA n ad)) {A0 : Nat → Prop} (hA : ∀ i, i < n → A0 (ad i)) (hS : va_S A0 H0 H locs)
    (kk : ∀ (σ : ST) (H : Heap) (locs : List Loc), Q1 σ → zW D n (E σ) ad H → va_S A0 H0 H locs → W p l e R s m args below meth c H locs cells slots Q (F0 m (pc + 3) ls rest)) : W p l e R s m args below meth c H locs cells slots Q (F0 m pc ls st0) :=
  va_callv hr hS (fun q _ h => by obtain ⟨i, hi, rfl⟩ := h; exact hA i hi) (fun q h => by obtain ⟨i, hi, rfl⟩ := h; exact hA i hi) (fun u t H1 locs1 ht _ hp hb _ _ hS1 => kk u H1 locs1 hp (by rw [← ht]; exact hb) hS1)
theorem zcalli {Q1 : Int32 → ST → Prop} (hr : va_Run p l e R s m args below meth c H locs cells slots 0 0 (F0 m pc ls st0) rest (va_Qi Q1 (zB D n E ad) (zA n ad) a) (zA n ad)) {A0 : Nat → Prop} (hA : ∀ i, i < n → A0 (ad i)) (hS : va_S A0 H0 H locs)
    (kk : ∀ (r : Int32) (σ : ST) (H : Heap) (locs : List Loc), Q1 r σ → zW D n (E σ) ad H → va_S A0 H0 H locs → W p l e R s m args below meth c H locs cells slots Q (F0 m (pc + 3) ls (.int r :: rest))) : W p l e R s m args below meth c H locs cells slots Q (F0 m pc ls st0) :=
  va_calli hr hS (fun q _ h => by obtain ⟨i, hi, rfl⟩ := h; exact hA i hi) (fun q h => by obtain ⟨i, hi, rfl⟩ := h; exact hA i hi) (fun r u t H1 locs1 ht _ hp hb _ _ hS1 => kk r u H1 locs1 hp (by rw [← ht]; exact hb) hS1)
theorem zcalll {Q1 : Int64 → ST → Prop} (hr : va_Run p l e R s m args below meth c H locs cells slots 0 0 (F0 m pc ls st0) rest (va_Ql Q1 (zB D n E ad) (zA n ad) a) (zA n ad)) {A0 : Nat → Prop} (hA : ∀ i, i < n → A0 (ad i)) (hS : va_S A0 H0 H locs)
    (kk : ∀ (r : Int64) (σ : ST) (H : Heap) (locs : List Loc), Q1 r σ → zW D n (E σ) ad H → va_S A0 H0 H locs → W p l e R s m args below meth c H locs cells slots Q (F0 m (pc + 3) ls (.long r :: rest))) : W p l e R s m args below meth c H locs cells slots Q (F0 m pc ls st0) :=
  va_calll hr hS (fun q _ h => by obtain ⟨i, hi, rfl⟩ := h; exact hA i hi) (fun q h => by obtain ⟨i, hi, rfl⟩ := h; exact hA i hi) (fun r u t H1 locs1 ht _ hp hb _ _ hS1 => kk r u H1 locs1 hp (by rw [← ht]; exact hb) hS1)
/-- of n cases, counted from lo, x is none -/
theorem zsw_out {x : Int32} (lo : Int) (n : Nat) (h : ∀ k : Nat, k < n → ¬ x = Int32.ofInt (lo + k)) : x.toInt < lo ∨ lo + n - 1 < x.toInt := by
  rcases Int.lt_or_le x.toInt lo with h1 | h1
  · exact Or.inl h1
  · rcases Int.lt_or_le (lo + n - 1) x.toInt with h2 | h2
    · exact Or.inr h2
    · exfalso
      refine h (x.toInt - lo).toNat (by omega) ?_
      have e : lo + ((x.toInt - lo).toNat : Int) = x.toInt := by omega
      rw [e]
      exact (Int32.ofInt_toInt x).symm
end ZCALLS
theorem zin_at {C : String} {T : u_T} {N : Nat} {ws : List Cond} (i : Nat) (h : (ws.drop i).take N = u_ws C T N) : ∀ w ∈ u_ws C T N, w ∈ ws := by
  intro w hw
  rw [← h] at hw
  exact List.mem_of_mem_drop (List.mem_of_mem_take hw)
theorem zce_row {cy : cyT} {ad : Nat → Nat} {σ : ST} (r : Nat) : zce cy ad σ (2 * r + 10) = .inr (2, [.ref (ad (2 * r + 11))]) := by
  show (if (2 * r) % 2 = 0 then _ else _) = _
  rw [if_pos (by omega)]
theorem zce_arr {cy : cyT} {ad : Nat → Nat} {σ : ST} (r : Nat) : zce cy ad σ (2 * r + 11) = .inl (cy.1, zlen r, .inl (σ.1 r)) := by
  show (if (2 * r + 1) % 2 = 0 then _ else (Sum.inl (cy.1, zlen ((2 * r + 1) / 2), .inl (σ.1 ((2 * r + 1) / 2))) : va_E)) = _
  rw [if_neg (by omega), show (2 * r + 1) / 2 = r by omega]
theorem zsp_off_C_0 {cy : cyT} {ad : Nat → Nat} {σ : ST} {v : Int32} (j : Nat) (h : j ≠ 5) : zce cy ad (zsp σ 0 v) j = zce cy ad σ j := by
  match j, h with
  | 0, _ => rfl
  | 1, _ => rfl
  | 2, _ => rfl
  | 3, _ => rfl
  | 4, _ => rfl
  | 5, h => exact absurd rfl h
  | 6, _ => rfl
  | 7, _ => rfl
  | 8, _ => rfl
  | 9, _ => rfl
  | n + 10, _ => rfl
theorem zsp_off_C_1 {cy : cyT} {ad : Nat → Nat} {σ : ST} {v : Int32} (j : Nat) (h : j ≠ 5) : zce cy ad (zsp σ 1 v) j = zce cy ad σ j := by
  match j, h with
  | 0, _ => rfl
  | 1, _ => rfl
  | 2, _ => rfl
  | 3, _ => rfl
  | 4, _ => rfl
  | 5, h => exact absurd rfl h
  | 6, _ => rfl
  | 7, _ => rfl
  | 8, _ => rfl
  | 9, _ => rfl
  | n + 10, _ => rfl
theorem zsp_off_C_2 {cy : cyT} {ad : Nat → Nat} {σ : ST} {v : Int32} (j : Nat) (h : j ≠ 5) : zce cy ad (zsp σ 2 v) j = zce cy ad σ j := by
  match j, h with
  | 0, _ => rfl
  | 1, _ => rfl
  | 2, _ => rfl
  | 3, _ => rfl
  | 4, _ => rfl
  | 5, h => exact absurd rfl h
  | 6, _ => rfl
  | 7, _ => rfl
  | 8, _ => rfl
  | 9, _ => rfl
  | n + 10, _ => rfl
theorem zsp_off_C_3 {cy : cyT} {ad : Nat → Nat} {σ : ST} {v : Int32} (j : Nat) (h : j ≠ 5) : zce cy ad (zsp σ 3 v) j = zce cy ad σ j := by
  match j, h with
  | 0, _ => rfl
  | 1, _ => rfl
  | 2, _ => rfl
  | 3, _ => rfl
  | 4, _ => rfl
  | 5, h => exact absurd rfl h
  | 6, _ => rfl
  | 7, _ => rfl
  | 8, _ => rfl
  | 9, _ => rfl
  | n + 10, _ => rfl
theorem zsp_off_C_4 {cy : cyT} {ad : Nat → Nat} {σ : ST} {v : Int32} (j : Nat) (h : j ≠ 5) : zce cy ad (zsp σ 4 v) j = zce cy ad σ j := by
  match j, h with
  | 0, _ => rfl
  | 1, _ => rfl
  | 2, _ => rfl
  | 3, _ => rfl
  | 4, _ => rfl
  | 5, h => exact absurd rfl h
  | 6, _ => rfl
  | 7, _ => rfl
  | 8, _ => rfl
  | 9, _ => rfl
  | n + 10, _ => rfl
theorem zsp_off_C_5 {cy : cyT} {ad : Nat → Nat} {σ : ST} {v : Int32} (j : Nat) (h : j ≠ 5) : zce cy ad (zsp σ 5 v) j = zce cy ad σ j := by
  match j, h with
  | 0, _ => rfl
  | 1, _ => rfl
  | 2, _ => rfl
  | 3, _ => rfl
  | 4, _ => rfl
  | 5, h => exact absurd rfl h
  | 6, _ => rfl
  | 7, _ => rfl
  | 8, _ => rfl
  | 9, _ => rfl
  | n + 10, _ => rfl
theorem zsp_off_C_6 {cy : cyT} {ad : Nat → Nat} {σ : ST} {v : Int32} (j : Nat) (h : j ≠ 5) : zce cy ad (zsp σ 6 v) j = zce cy ad σ j := by
  match j, h with
  | 0, _ => rfl
  | 1, _ => rfl
  | 2, _ => rfl
  | 3, _ => rfl
  | 4, _ => rfl
  | 5, h => exact absurd rfl h
  | 6, _ => rfl
  | 7, _ => rfl
  | 8, _ => rfl
  | 9, _ => rfl
  | n + 10, _ => rfl
theorem zsp_off_C_7 {cy : cyT} {ad : Nat → Nat} {σ : ST} {v : Int32} (j : Nat) (h : j ≠ 5) : zce cy ad (zsp σ 7 v) j = zce cy ad σ j := by
  match j, h with
  | 0, _ => rfl
  | 1, _ => rfl
  | 2, _ => rfl
  | 3, _ => rfl
  | 4, _ => rfl
  | 5, h => exact absurd rfl h
  | 6, _ => rfl
  | 7, _ => rfl
  | 8, _ => rfl
  | 9, _ => rfl
  | n + 10, _ => rfl
theorem zsp_off_C_40 {cy : cyT} {ad : Nat → Nat} {σ : ST} {v : Int32} (j : Nat) (h : j ≠ 1) : zce cy ad (zsp σ 40 v) j = zce cy ad σ j := by
  match j, h with
  | 0, _ => rfl
  | 1, h => exact absurd rfl h
  | 2, _ => rfl
  | 3, _ => rfl
  | 4, _ => rfl
  | 5, _ => rfl
  | 6, _ => rfl
  | 7, _ => rfl
  | 8, _ => rfl
  | 9, _ => rfl
  | n + 10, _ => rfl
theorem zsp_off_C_41 {cy : cyT} {ad : Nat → Nat} {σ : ST} {v : Int32} (j : Nat) (h : j ≠ 1) : zce cy ad (zsp σ 41 v) j = zce cy ad σ j := by
  match j, h with
  | 0, _ => rfl
  | 1, h => exact absurd rfl h
  | 2, _ => rfl
  | 3, _ => rfl
  | 4, _ => rfl
  | 5, _ => rfl
  | 6, _ => rfl
  | 7, _ => rfl
  | 8, _ => rfl
  | 9, _ => rfl
  | n + 10, _ => rfl
theorem zsp_off_C_42 {cy : cyT} {ad : Nat → Nat} {σ : ST} {v : Int32} (j : Nat) (h : j ≠ 3) : zce cy ad (zsp σ 42 v) j = zce cy ad σ j := by
  match j, h with
  | 0, _ => rfl
  | 1, _ => rfl
  | 2, _ => rfl
  | 3, h => exact absurd rfl h
  | 4, _ => rfl
  | 5, _ => rfl
  | 6, _ => rfl
  | 7, _ => rfl
  | 8, _ => rfl
  | 9, _ => rfl
  | n + 10, _ => rfl
theorem zsp_off_C_43 {cy : cyT} {ad : Nat → Nat} {σ : ST} {v : Int32} (j : Nat) (h : j ≠ 3) : zce cy ad (zsp σ 43 v) j = zce cy ad σ j := by
  match j, h with
  | 0, _ => rfl
  | 1, _ => rfl
  | 2, _ => rfl
  | 3, h => exact absurd rfl h
  | 4, _ => rfl
  | 5, _ => rfl
  | 6, _ => rfl
  | 7, _ => rfl
  | 8, _ => rfl
  | 9, _ => rfl
  | n + 10, _ => rfl
theorem zsp_off_C_44 {cy : cyT} {ad : Nat → Nat} {σ : ST} {v : Int32} (j : Nat) (h : j ≠ 3) : zce cy ad (zsp σ 44 v) j = zce cy ad σ j := by
  match j, h with
  | 0, _ => rfl
  | 1, _ => rfl
  | 2, _ => rfl
  | 3, h => exact absurd rfl h
  | 4, _ => rfl
  | 5, _ => rfl
  | 6, _ => rfl
  | 7, _ => rfl
  | 8, _ => rfl
  | 9, _ => rfl
  | n + 10, _ => rfl
theorem zsp_off_C_45 {cy : cyT} {ad : Nat → Nat} {σ : ST} {v : Int32} (j : Nat) (h : j ≠ 4) : zce cy ad (zsp σ 45 v) j = zce cy ad σ j := by
  match j, h with
  | 0, _ => rfl
  | 1, _ => rfl
  | 2, _ => rfl
  | 3, _ => rfl
  | 4, h => exact absurd rfl h
  | 5, _ => rfl
  | 6, _ => rfl
  | 7, _ => rfl
  | 8, _ => rfl
  | 9, _ => rfl
  | n + 10, _ => rfl
theorem zsp_off_C_46 {cy : cyT} {ad : Nat → Nat} {σ : ST} {v : Int32} (j : Nat) (h : j ≠ 4) : zce cy ad (zsp σ 46 v) j = zce cy ad σ j := by
  match j, h with
  | 0, _ => rfl
  | 1, _ => rfl
  | 2, _ => rfl
  | 3, _ => rfl
  | 4, h => exact absurd rfl h
  | 5, _ => rfl
  | 6, _ => rfl
  | 7, _ => rfl
  | 8, _ => rfl
  | 9, _ => rfl
  | n + 10, _ => rfl
theorem zsp_off_C_47 {cy : cyT} {ad : Nat → Nat} {σ : ST} {v : Int32} (j : Nat) (h : j ≠ 4) : zce cy ad (zsp σ 47 v) j = zce cy ad σ j := by
  match j, h with
  | 0, _ => rfl
  | 1, _ => rfl
  | 2, _ => rfl
  | 3, _ => rfl
  | 4, h => exact absurd rfl h
  | 5, _ => rfl
  | 6, _ => rfl
  | 7, _ => rfl
  | 8, _ => rfl
  | 9, _ => rfl
  | n + 10, _ => rfl
theorem zsp_off_C_48 {cy : cyT} {ad : Nat → Nat} {σ : ST} {v : Int32} (j : Nat) (h : j ≠ 4) : zce cy ad (zsp σ 48 v) j = zce cy ad σ j := by
  match j, h with
  | 0, _ => rfl
  | 1, _ => rfl
  | 2, _ => rfl
  | 3, _ => rfl
  | 4, h => exact absurd rfl h
  | 5, _ => rfl
  | 6, _ => rfl
  | 7, _ => rfl
  | 8, _ => rfl
  | 9, _ => rfl
  | n + 10, _ => rfl
theorem zsp_off_C_49 {cy : cyT} {ad : Nat → Nat} {σ : ST} {v : Int32} (j : Nat) (h : j ≠ 4) : zce cy ad (zsp σ 49 v) j = zce cy ad σ j := by
  match j, h with
  | 0, _ => rfl
  | 1, _ => rfl
  | 2, _ => rfl
  | 3, _ => rfl
  | 4, h => exact absurd rfl h
  | 5, _ => rfl
  | 6, _ => rfl
  | 7, _ => rfl
  | 8, _ => rfl
  | 9, _ => rfl
  | n + 10, _ => rfl
theorem zsp_off_M_0 {cy : cyT} {ad : Nat → Nat} {σ : ST} {v : Int32} (j : Nat) (h : j ≠ 0) : zme cy ad (zsp σ 0 v) j = zme cy ad σ j := by
  match j, h with
  | 0, h => exact absurd rfl h
  | 1, _ => rfl
  | 2, _ => rfl
  | 3, _ => rfl
  | 4, _ => rfl
  | 5, _ => rfl
  | n + 6, _ => rfl
theorem zsp_off_M_1 {cy : cyT} {ad : Nat → Nat} {σ : ST} {v : Int32} (j : Nat) (h : j ≠ 0) : zme cy ad (zsp σ 1 v) j = zme cy ad σ j := by
  match j, h with
  | 0, h => exact absurd rfl h
  | 1, _ => rfl
  | 2, _ => rfl
  | 3, _ => rfl
  | 4, _ => rfl
  | 5, _ => rfl
  | n + 6, _ => rfl
theorem zsp_off_M_2 {cy : cyT} {ad : Nat → Nat} {σ : ST} {v : Int32} (j : Nat) (h : j ≠ 0) : zme cy ad (zsp σ 2 v) j = zme cy ad σ j := by
  match j, h with
  | 0, h => exact absurd rfl h
  | 1, _ => rfl
  | 2, _ => rfl
  | 3, _ => rfl
  | 4, _ => rfl
  | 5, _ => rfl
  | n + 6, _ => rfl
theorem zsp_off_M_3 {cy : cyT} {ad : Nat → Nat} {σ : ST} {v : Int32} (j : Nat) (h : j ≠ 0) : zme cy ad (zsp σ 3 v) j = zme cy ad σ j := by
  match j, h with
  | 0, h => exact absurd rfl h
  | 1, _ => rfl
  | 2, _ => rfl
  | 3, _ => rfl
  | 4, _ => rfl
  | 5, _ => rfl
  | n + 6, _ => rfl
theorem zsp_off_M_4 {cy : cyT} {ad : Nat → Nat} {σ : ST} {v : Int32} (j : Nat) (h : j ≠ 0) : zme cy ad (zsp σ 4 v) j = zme cy ad σ j := by
  match j, h with
  | 0, h => exact absurd rfl h
  | 1, _ => rfl
  | 2, _ => rfl
  | 3, _ => rfl
  | 4, _ => rfl
  | 5, _ => rfl
  | n + 6, _ => rfl
theorem zsp_off_M_5 {cy : cyT} {ad : Nat → Nat} {σ : ST} {v : Int32} (j : Nat) (h : j ≠ 0) : zme cy ad (zsp σ 5 v) j = zme cy ad σ j := by
  match j, h with
  | 0, h => exact absurd rfl h
  | 1, _ => rfl
  | 2, _ => rfl
  | 3, _ => rfl
  | 4, _ => rfl
  | 5, _ => rfl
  | n + 6, _ => rfl
theorem zsp_off_M_6 {cy : cyT} {ad : Nat → Nat} {σ : ST} {v : Int32} (j : Nat) (h : j ≠ 0) : zme cy ad (zsp σ 6 v) j = zme cy ad σ j := by
  match j, h with
  | 0, h => exact absurd rfl h
  | 1, _ => rfl
  | 2, _ => rfl
  | 3, _ => rfl
  | 4, _ => rfl
  | 5, _ => rfl
  | n + 6, _ => rfl
theorem zsp_off_M_7 {cy : cyT} {ad : Nat → Nat} {σ : ST} {v : Int32} (j : Nat) (h : j ≠ 0) : zme cy ad (zsp σ 7 v) j = zme cy ad σ j := by
  match j, h with
  | 0, h => exact absurd rfl h
  | 1, _ => rfl
  | 2, _ => rfl
  | 3, _ => rfl
  | 4, _ => rfl
  | 5, _ => rfl
  | n + 6, _ => rfl
theorem zsp_off_M_8 {cy : cyT} {ad : Nat → Nat} {σ : ST} {v : Int32} (j : Nat) (h : j ≠ 0) : zme cy ad (zsp σ 8 v) j = zme cy ad σ j := by
  match j, h with
  | 0, h => exact absurd rfl h
  | 1, _ => rfl
  | 2, _ => rfl
  | 3, _ => rfl
  | 4, _ => rfl
  | 5, _ => rfl
  | n + 6, _ => rfl
theorem zsp_off_M_9 {cy : cyT} {ad : Nat → Nat} {σ : ST} {v : Int32} (j : Nat) (h : j ≠ 0) : zme cy ad (zsp σ 9 v) j = zme cy ad σ j := by
  match j, h with
  | 0, h => exact absurd rfl h
  | 1, _ => rfl
  | 2, _ => rfl
  | 3, _ => rfl
  | 4, _ => rfl
  | 5, _ => rfl
  | n + 6, _ => rfl
theorem zsp_off_M_10 {cy : cyT} {ad : Nat → Nat} {σ : ST} {v : Int32} (j : Nat) (h : j ≠ 0) : zme cy ad (zsp σ 10 v) j = zme cy ad σ j := by
  match j, h with
  | 0, h => exact absurd rfl h
  | 1, _ => rfl
  | 2, _ => rfl
  | 3, _ => rfl
  | 4, _ => rfl
  | 5, _ => rfl
  | n + 6, _ => rfl
theorem zrp_on_M_0 {cy : cyT} {ad : Nat → Nat} {σ : ST} {i : Nat} {v : Int32} : zme cy ad (zrp σ 0 i v) 1 = .inl (cy.1, 983, .inl (upd (σ.1 0) i v)) := rfl
theorem zrp_off_M_0 {cy : cyT} {ad : Nat → Nat} {σ : ST} {i : Nat} {v : Int32} (j : Nat) (h : j ≠ 1) : zme cy ad (zrp σ 0 i v) j = zme cy ad σ j := by
  match j, h with
  | 0, _ => rfl
  | 1, h => exact absurd rfl h
  | 2, _ => rfl
  | 3, _ => rfl
  | 4, _ => rfl
  | 5, _ => rfl
  | n + 6, _ => rfl
theorem zrp_on_M_1 {cy : cyT} {ad : Nat → Nat} {σ : ST} {i : Nat} {v : Int32} : zme cy ad (zrp σ 1 i v) 2 = .inl (cy.1, 3932, .inl (upd (σ.1 1) i v)) := rfl
theorem zrp_off_M_1 {cy : cyT} {ad : Nat → Nat} {σ : ST} {i : Nat} {v : Int32} (j : Nat) (h : j ≠ 2) : zme cy ad (zrp σ 1 i v) j = zme cy ad σ j := by
  match j, h with
  | 0, _ => rfl
  | 1, _ => rfl
  | 2, h => exact absurd rfl h
  | 3, _ => rfl
  | 4, _ => rfl
  | 5, _ => rfl
  | n + 6, _ => rfl
theorem zrp_on_M_2 {cy : cyT} {ad : Nat → Nat} {σ : ST} {i : Nat} {v : Int32} : zme cy ad (zrp σ 2 i v) 3 = .inl (cy.2.1, 25, .inl (upd (σ.1 2) i v)) := rfl
theorem zrp_off_M_2 {cy : cyT} {ad : Nat → Nat} {σ : ST} {i : Nat} {v : Int32} (j : Nat) (h : j ≠ 3) : zme cy ad (zrp σ 2 i v) j = zme cy ad σ j := by
  match j, h with
  | 0, _ => rfl
  | 1, _ => rfl
  | 2, _ => rfl
  | 3, h => exact absurd rfl h
  | 4, _ => rfl
  | 5, _ => rfl
  | n + 6, _ => rfl
theorem zrp_on_M_3 {cy : cyT} {ad : Nat → Nat} {σ : ST} {i : Nat} {v : Int32} : zme cy ad (zrp σ 3 i v) 4 = .inl (cy.1, 150, .inl (upd (σ.1 3) i v)) := rfl
theorem zrp_off_M_3 {cy : cyT} {ad : Nat → Nat} {σ : ST} {i : Nat} {v : Int32} (j : Nat) (h : j ≠ 4) : zme cy ad (zrp σ 3 i v) j = zme cy ad σ j := by
  match j, h with
  | 0, _ => rfl
  | 1, _ => rfl
  | 2, _ => rfl
  | 3, _ => rfl
  | 4, h => exact absurd rfl h
  | 5, _ => rfl
  | n + 6, _ => rfl
theorem zrp_on_M_4 {cy : cyT} {ad : Nat → Nat} {σ : ST} {i : Nat} {v : Int32} : zme cy ad (zrp σ 4 i v) 5 = .inl (cy.1, 200, .inl (upd (σ.1 4) i v)) := rfl
theorem zrp_off_M_4 {cy : cyT} {ad : Nat → Nat} {σ : ST} {i : Nat} {v : Int32} (j : Nat) (h : j ≠ 5) : zme cy ad (zrp σ 4 i v) j = zme cy ad σ j := by
  match j, h with
  | 0, _ => rfl
  | 1, _ => rfl
  | 2, _ => rfl
  | 3, _ => rfl
  | 4, _ => rfl
  | 5, h => exact absurd rfl h
  | n + 6, _ => rfl
theorem zrp_on_C {cy : cyT} {ad : Nat → Nat} {σ : ST} (r i : Nat) (v : Int32) : zce cy ad (zrp σ r i v) (2 * r + 11) = .inl (cy.1, zlen r, .inl (upd (σ.1 r) i v)) := by
  rw [zce_arr]
  simp [zrp]
theorem zrp_off_C {cy : cyT} {ad : Nat → Nat} {σ : ST} {r i : Nat} {v : Int32} (j : Nat) (h : j ≠ 2 * r + 11) : zce cy ad (zrp σ r i v) j = zce cy ad σ j := by
  match j, h with
  | 0, _ => rfl
  | 1, _ => rfl
  | 2, _ => rfl
  | 3, _ => rfl
  | 4, _ => rfl
  | 5, _ => rfl
  | 6, _ => rfl
  | 7, _ => rfl
  | 8, _ => rfl
  | 9, _ => rfl
  | n + 10, h =>
    show (if n % 2 = 0 then _ else _) = (if n % 2 = 0 then _ else _)
    by_cases hn : n % 2 = 0
    · rw [if_pos hn, if_pos hn]
    · rw [if_neg hn, if_neg hn]
      have h1 : n / 2 ≠ r := by omega
      simp [zrp, h1]
theorem zin_of {x : Int32} {n : Nat} (hn : n < 2147483648) (h1 : ¬ x < 0) (h2 : ¬ Int32.ofNat n ≤ x) : vp_in x n := by
  refine vp_in_iff.mpr ⟨?_, ?_⟩
  · have h3 := Int32.lt_iff_toInt_lt (x := x) (y := 0)
    rw [Int32.toInt_zero] at h3
    have h4 : ¬ x.toInt < 0 := fun q => h1 (h3.mpr q)
    omega
  · have h3 := Int32.le_iff_toInt_le (x := Int32.ofNat n) (y := x)
    have h5 : (Int32.ofNat n).toInt = (n : Int) := nI_toInt (n := n) hn
    rw [h5] at h3
    have h4 : ¬ (n : Int) ≤ x.toInt := fun q => h2 (h3.mpr q)
    omega
theorem zlen_lt (r : Nat) : zlen r < 2147483648 := by
  unfold zlen
  split
  · decide
  · split
    · decide
    · split
      · decide
      · split
        · decide
        · split <;> decide
/-- a row's number at an index, 0 outside of it; and a number put there -/
def zrg (σ : ST) (r : Nat) (x : Int32) : Int32 := if 0 ≤ x.toInt ∧ x.toInt < (zlen r : Int) then σ.1 r x.toNatClampNeg else 0
def zrs (σ : ST) (r : Nat) (x v : Int32) : ST := if 0 ≤ x.toInt ∧ x.toInt < (zlen r : Int) then zrp σ r x.toNatClampNeg v else σ
theorem zrg_in {σ : ST} {r : Nat} {x : Int32} (h : vp_in x (zlen r)) : zrg σ r x = σ.1 r x.toNatClampNeg := if_pos (vp_in_iff.mp h)
theorem zrs_in {σ : ST} {r : Nat} {x v : Int32} (h : vp_in x (zlen r)) : zrs σ r x v = zrp σ r x.toNatClampNeg v := if_pos (vp_in_iff.mp h)
theorem zlt0 {x : Int32} {n : Nat} (h : x < 0) : ¬ (0 ≤ x.toInt ∧ x.toInt < (n : Int)) := by
  have h3 := Int32.lt_iff_toInt_lt.mp h
  rw [Int32.toInt_zero] at h3
  omega
theorem zge0 {x : Int32} {n : Nat} (hn : n < 2147483648) (h : Int32.ofNat n ≤ x) : ¬ (0 ≤ x.toInt ∧ x.toInt < (n : Int)) := by
  have h3 := Int32.le_iff_toInt_le.mp h
  have h5 : (Int32.ofNat n).toInt = (n : Int) := nI_toInt (n := n) hn
  rw [h5] at h3
  omega
theorem last_03 : True := trivial
