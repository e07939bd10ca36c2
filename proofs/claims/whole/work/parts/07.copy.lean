/-! copies: a row over a row, a state over a state; the stack of saved states -/
def zL (n : Nat) (f : Nat → va_E) (ad : Nat → Nat) : va_W := (List.range n).map (fun i => (ad i, f i))
theorem zL_get {n : Nat} {f : Nat → va_E} {ad : Nat → Nat} {i : Nat} (hi : i < n) : (zL n f ad)[i]? = some (ad i, f i) := by simp [zL, hi]
theorem zL_inv {n : Nat} {f : Nat → va_E} {ad : Nat → Nat} {i : Nat} {q : Nat × va_E} (h : (zL n f ad)[i]? = some q) : i < n ∧ q = (ad i, f i) := by
  have hl : i < (zL n f ad).length := (List.getElem?_eq_some_iff.mp h).1
  have hn : i < n := by simpa [zL] using hl
  rw [zL_get hn] at h
  exact ⟨hn, (Option.some.inj h).symm⟩
theorem zW.toP {D : va_G} {n : Nat} {f : Nat → va_E} {ad : Nat → Nat} {H : Heap} (hw : zW D n f ad H) : va_P D vwCl (zL n f ad) H := fun k q hk => by
  obtain ⟨h1, rfl⟩ := zL_inv hk
  exact hw k h1
theorem zW.ofP {D : va_G} {n : Nat} {f : Nat → va_E} {ad : Nat → Nat} {H : Heap} (h : va_P D vwCl (zL n f ad) H) : zW D n f ad H := fun i hi => h i _ (zL_get hi)
theorem zL_D {A : Nat → Prop} {n : Nat} {f : Nat → va_E} {ad : Nat → Nat} (hj : zI n ad) (hA : ∀ i, i < n → A (ad i)) : va_D A (zL n f ad) := by
  refine ⟨fun i j x y hx hy hxy => ?_, fun k q hk => ?_⟩
  · obtain ⟨h1, rfl⟩ := zL_inv hx
    obtain ⟨h2, rfl⟩ := zL_inv hy
    exact hj i j h1 h2 hxy
  · obtain ⟨h1, rfl⟩ := zL_inv hk
    exact hA k h1
theorem zL_set {n : Nat} {f f' : Nat → va_E} {ad : Nat → Nat} {i : Nat} (hi : i < n) {e : va_E} (h1 : f' i = e) (h2 : ∀ j, j ≠ i → f' j = f j) : (zL n f ad).set i (ad i, e) = zL n f' ad := by
  apply List.ext_getElem?
  intro k
  by_cases hk : k = i
  · subst hk
    rw [List.getElem?_set_self (by simpa [zL] using hi), zL_get hi, h1]
  · rw [List.getElem?_set_ne (Ne.symm hk)]
    by_cases hn : k < n
    · rw [zL_get hn, zL_get hn, h2 k hk]
    · have e1 : (zL n f ad)[k]? = none := by simp [zL]; omega
      have e2 : (zL n f' ad)[k]? = none := by simp [zL]; omega
      rw [e1, e2]
def zcr (σ : ST) (r1 r2 : Nat) : ST := (fun q => if q = r1 then va_cpy (σ.1 r2) (σ.1 r1) 0 0 (zlen r1) else σ.1 q, σ.2)
theorem zcr_on {cy : cyT} {ad : Nat → Nat} {σ : ST} (r1 r2 : Nat) : zce cy ad (zcr σ r1 r2) (2 * r1 + 11) = .inl (cy.1, zlen r1, .inl (va_cpy (σ.1 r2) (σ.1 r1) 0 0 (zlen r1))) := by
  rw [zce_arr]
  simp [zcr]
theorem zcr_off {cy : cyT} {ad : Nat → Nat} {σ : ST} {r1 r2 : Nat} (j : Nat) (h : j ≠ 2 * r1 + 11) : zce cy ad (zcr σ r1 r2) j = zce cy ad σ j := by
  match j, h with
  | 0, _ => rfl
  | 1, _ => rfl
  | 2, _ => rfl
  | 3, _ => rfl
  | 4, _ => rfl
  | 5, _ => rfl
  | 6, _ => rfl
  | 7, _ => rfl
  | 8, _ => rfl
  | 9, _ => rfl
  | n + 10, h =>
    show (if n % 2 = 0 then _ else _) = (if n % 2 = 0 then _ else _)
    by_cases hn : n % 2 = 0
    · rw [if_pos hn, if_pos hn]
    · rw [if_neg hn, if_neg hn]
      have h1 : n / 2 ≠ r1 := by omega
      simp [zcr, h1]
theorem zce_S {cy : cyT} {ad : Nat → Nat} {σ : ST} (k : Nat) (hk : k < 5) : zce cy ad σ (k + 5) = zcS ad σ k := by
  match k, hk with
  | 0, _ => rfl
  | 1, _ => rfl
  | 2, _ => rfl
  | 3, _ => rfl
  | 4, _ => rfl
  | k + 5, hk => exact absurd hk (by omega)
theorem zsp_ne {σ : ST} {i j : Nat} {v : Int32} (h : j ≠ i) : (zsp σ i v).2 j = σ.2 j := if_neg h
theorem zcS_off {ad : Nat → Nat} {σ : ST} {i : Nat} {v : Int32} {k : Nat} (h : ∀ j, j < 8 → 8 * k + j ≠ i) : zcS ad (zsp σ i v) k = zcS ad σ k := by
  unfold zcS
  rw [show (zsp σ i v).2 (8 * k) = σ.2 (8 * k) from zsp_ne (h 0 (by omega)), zsp_ne (h 1 (by omega)), zsp_ne (h 2 (by omega)), zsp_ne (h 3 (by omega)), zsp_ne (h 4 (by omega)), zsp_ne (h 5 (by omega)), zsp_ne (h 6 (by omega)), zsp_ne (h 7 (by omega))]
theorem zsp_off_S {cy : cyT} {ad : Nat → Nat} {σ : ST} {v : Int32} (k j0 : Nat) (hk : k < 5) (hj0 : j0 < 8) (j : Nat) (h : j ≠ k + 5) : zce cy ad (zsp σ (8 * k + j0) v) j = zce cy ad σ j := by
  have e : ∀ q, 40 ≤ q → (zsp σ (8 * k + j0) v).2 q = σ.2 q := fun q hq => zsp_ne (by omega)
  match j, h with
  | 0, _ => rfl
  | 1, _ => simp only [zce, e 40 (by omega), e 41 (by omega)]
  | 2, _ => rfl
  | 3, _ => simp only [zce, e 42 (by omega), e 43 (by omega), e 44 (by omega)]
  | 4, _ => simp only [zce, e 45 (by omega), e 46 (by omega), e 47 (by omega), e 48 (by omega), e 49 (by omega)]
  | 5, h => exact zcS_off (k := 0) (fun q hq => by omega)
  | 6, h => exact zcS_off (k := 1) (fun q hq => by omega)
  | 7, h => exact zcS_off (k := 2) (fun q hq => by omega)
  | 8, h => exact zcS_off (k := 3) (fun q hq => by omega)
  | 9, h => exact zcS_off (k := 4) (fun q hq => by omega)
  | n + 10, _ => rfl
set_option maxHeartbeats 4000000 in
set_option maxRecDepth 100000 in
theorem c_X3_copyFrom (l : Launch) (D : va_G) (cy : cyT) (ad : Nat → Nat) (σ : ST) (r1 r2 : Nat) (h1 : r1 < 53) (h2 : r2 < 53) (hlen : zlen r2 = zlen r1) : Met l yX3_copyFrom wsX3_copyFrom ({ frames := 1, cells := 0, slots := 0, locals := 40 } : Room) (zPre D cy 116 (zce cy ad σ) ad [.ref (ad (2 * r1 + 10)), .ref (ad (2 * r2 + 10))]) (va_Qv (fun τ => τ = zcr σ r1 r2) (zB D 116 (zce cy ad) ad) (zA 116 ad)) 0 0 (zA 116 ad) := by
  refine Met.ofW (cc := cX3_copyFrom) (maxL := 2) (ret := none) (by decide) rfl ?_
  intro p e s m args below meth c s₁ B hml hv
  obtain ⟨rfl, hj, hK, hw⟩ := hv
  have hx := B.exec
  have hb := B.bytes
  have hr := B.returns
  have hts := atoms_spec (ws := wsX3_copyFrom) B.pre
  have hown : s.vm.findClass RX3 = some m.cls := findClass_of_methodNamed B.named
  have hlocks := B.notSynchronized
  have lk0 : Cond.fieldLink RX3 7 "TypeTrays$Row" "cells" "[I" ∈ wsX3_copyFrom := List.mem_of_getElem? (i := 1) rfl
  have l1 : Cond.methodLink RX3 13 Lib.Math.min.name ∈ wsX3_copyFrom := List.mem_of_getElem? (i := 2) rfl
  have l2 : Cond.static Lib.Math.min.name ∈ wsX3_copyFrom := List.mem_of_getElem? (i := 3) rfl
  have l3 : Cond.initialized "java/lang/Math" ∈ wsX3_copyFrom := List.mem_of_getElem? (i := 4) rfl
  have l4 : Cond.code Lib.Math.min.name Lib.Math.min.code 2 (some .int) ∈ wsX3_copyFrom := List.mem_of_getElem? (i := 5) rfl
  have m1 : Cond.methodLink RX3 19 arraycopyName ∈ wsX3_copyFrom := List.mem_of_getElem? (i := 6) rfl
  have m2 : Cond.native arraycopyName ∈ wsX3_copyFrom := List.mem_of_getElem? (i := 7) rfl
  have m3 : Cond.static arraycopyName ∈ wsX3_copyFrom := List.mem_of_getElem? (i := 8) rfl
  have m4 : Cond.initialized "java/lang/System" ∈ wsX3_copyFrom := List.mem_of_getElem? (i := 9) rfl
  have inX3 : ∀ w ∈ u_ws RX3 TX3 1, w ∈ wsX3_copyFrom := zin_at 10 rfl
  have hS : va_S (zA 116 ad) s.heap s.heap [] := va_S.rf
  have hA : ∀ i, i < 116 → zA 116 ad (ad i) := fun i hi => ⟨i, hi, rfl⟩
  have hl := lv_entry ([.ref (ad (2 * r1 + 10)), .ref (ad (2 * r2 + 10))]) (n := 2) (Nat.le_of_ble_eq_true rfl)
  rw [lg_entry_eq]
  generalize (lg_sl ([.ref (ad (2 * r1 + 10)), .ref (ad (2 * r2 + 10))]) ++ List.replicate (2 - (lg_sl ([.ref (ad (2 * r1 + 10)), .ref (ad (2 * r2 + 10))])).length) Slot.unset).toArray = ls at hl ⊢
  have hl : lv_has ls 2 [(0, .ref (ad (2 * r1 + 10))), (1, .ref (ad (2 * r2 + 10)))] := hl
  refine lv_aload_n hx hb dX3_copyFrom_0 rfl (lv_at hl 1 rfl) ?_
  refine zget hx hb hts inX3 hown hK hw (2 * r2 + 10) (by omega) (zce_row r2) rfl 0 (by decide) lk0 (fun _ h9 => h9) rfl dX3_copyFrom_1 ?_
  refine lv_iconst (v := jI 0) hx hb dX3_copyFrom_4 rfl ?_
  refine lv_aload_n hx hb dX3_copyFrom_5 rfl (lv_at hl 0 rfl) ?_
  refine zget hx hb hts inX3 hown hK hw (2 * r1 + 10) (by omega) (zce_row r1) rfl 0 (by decide) lk0 (fun _ h9 => h9) rfl dX3_copyFrom_6 ?_
  refine lv_iconst (v := jI 0) hx hb dX3_copyFrom_9 rfl ?_
  refine lv_aload_n hx hb dX3_copyFrom_10 rfl (lv_at hl 0 rfl) ?_
  refine zget hx hb hts inX3 hown hK hw (2 * r1 + 10) (by omega) (zce_row r1) rfl 0 (by decide) lk0 (fun _ h9 => h9) rfl dX3_copyFrom_11 ?_
  refine zalen hx hb hK hw (2 * r1 + 11) (by omega) (zce_arr r1) rfl dX3_copyFrom_14 ?_
  refine lv_aload_n hx hb dX3_copyFrom_15 rfl (lv_at hl 1 rfl) ?_
  refine zget hx hb hts inX3 hown hK hw (2 * r2 + 10) (by omega) (zce_row r2) rfl 0 (by decide) lk0 (fun _ h9 => h9) rfl dX3_copyFrom_16 ?_
  refine zalen hx hb hK hw (2 * r2 + 11) (by omega) (zce_arr r2) rfl dX3_copyFrom_19 ?_
  rw [hlen]
  refine va_mmin hx hb (by rw [hml]; exact hl.1.symm) hown (hts _ l1) (hts _ l2) (hts _ l3) (hts _ l4) (Nat.le_of_ble_eq_true rfl) (Nat.le_of_ble_eq_true rfl) (Nat.zero_le _) (Nat.zero_le _) dX3_copyFrom_20 ?_
  rw [ite_self]
  have hz : (jI 0).toNatClampNeg = 0 := by decide +kernel
  have hn : (Int32.ofNat (zlen r1)).toNatClampNeg = zlen r1 := nI_clamp (n := zlen r1) (zlen_lt r1)
  refine va_copyi hx hb (by rw [hml]; exact hl.1.symm) hown (hts _ m1) (hts _ m2) (hts _ m3) (hts _ m4) hK.1 hw.toP (zL_D hj hA) hS (2 * r2 + 11) (2 * r1 + 11) 0 0 (ha0 := (zL_get (by omega)).trans (by rw [zce_arr])) (ha1 := (zL_get (by omega)).trans (by rw [zce_arr])) (ty := .int) rfl rfl rfl (by decide +kernel) (by decide +kernel) (nI_pos (n := zlen r1) (zlen_lt r1)) (by rw [hz, hn, hlen]; omega) (by rw [hz, hn]; omega) (fun _ _ => rfl) (Nat.le_of_ble_eq_true rfl) (Nat.le_of_ble_eq_true rfl) dX3_copyFrom_23 (fun H locs hP hD hS => ?_)
  rw [hz, hn, zL_set (f' := zce cy ad (zcr σ r1 r2)) (by omega) (zcr_on r1 r2) (fun j hj9 => zcr_off j hj9)] at hP
  have hw := zW.ofP hP
  exact W.vret hx hb hr (fun t ht hW => ⟨⟨_, rfl, rfl, zend hw ht⟩, hS.F ht⟩) hS.2.2 dX3_copyFrom_26
theorem k_X3_copyFrom {p : Program} {l : Launch} {e : Env} {R : Room} {s : State} {m : MethodId} {args : Array Value} {below : List Frame} {meth : Method} {c : Code} {H : Heap} {locs : List Loc} {cells slots : Nat} {QQ : State → Prop} {cc : ByteArray} {pc nL index : Nat} {ls : Array Slot} {rest : List Value} {D : va_G} {cy : cyT} {ad : Nat → Nat} {own : String} {Ts : List Cond} {H0 : Heap} {σ : ST} (hx : p.tables.exec = Jvm.exec) (hb : c.code = cc) (hml : c.maxLocals = nL) (hown : s.vm.findClass own = some m.cls) (hts : ∀ w ∈ Ts, w.before args s = true) (hG : GoodIn Ts (wsV own index RX3 yX3_copyFrom wsX3_copyFrom)) (hR : 1 + 1 ≤ R.frames ∧ 8 + (2 + 11) + 40 ≤ R.locals) (hcs : cells ≤ R.cells ∧ slots ≤ R.slots) (hK : zK D cy s) (hj : zI 116 ad) (hw : zW D 116 (zce cy ad σ) ad H) {A0 : Nat → Prop} (hA : ∀ i, i < 116 → A0 (ad i)) (hS : va_S A0 H0 H locs) (hsz : ls.size = nL) (hrest : (rest.map fun v => v.category).sum ≤ 8) (r1 r2 : Nat) (h1 : r1 < 53) (h2 : r2 < 53) (hlen : zlen r2 = zlen r1) (hdg : decode cc pc = .ok (.invokevirtual index, 3)) (kk : ∀ (H : Heap) (locs : List Loc), zW D 116 (zce cy ad (zcr σ r1 r2)) ad H → va_S A0 H0 H locs → W p l e R s m args below meth c H locs cells slots QQ (F0 m (pc + 3) ls rest)) : W p l e R s m args below meth c H locs cells slots QQ (F0 m pc ls (.ref (ad (2 * r2 + 10)) :: .ref (ad (2 * r1 + 10)) :: rest)) :=
  zcallv (va_runV (As := [.ref (ad (2 * r2 + 10))]) (rest := rest) ⟨hx, hb, hml, hown, hts⟩ (c_X3_copyFrom l D cy ad σ r1 r2 h1 h2 hlen) (cwV 1 hts hG rfl rfl rfl (by decide +kernel) hR) (zpreV hj hK hw _ (i := 2 * r1 + 10) (ci := 2) (by omega) (zce_row r1) rfl) rfl rfl hsz rfl (lv_room hrest) hdg hcs) hA hS (fun τ H1 locs1 h hw1 hS1 => by
    rw [h] at hw1
    exact kk H1 locs1 hw1 hS1)
theorem zsp_eq {σ : ST} {i : Nat} {v : Int32} : (zsp σ i v).2 i = v := if_pos rfl
theorem zcS_put0 {ad : Nat → Nat} {σ : ST} {v : Int32} {fs : List Value} (k : Nat) (h : zcS ad σ k = .inr (3, fs)) : zcS ad (zsp σ (8 * k + 0) v) k = .inr (3, fs.set 10 (.int v)) := by
  have e : fs = (match zcS ad σ k with | .inr o => o.2 | .inl _ => []) := by rw [h]
  subst e
  unfold zcS
  rw [show (zsp σ (8 * k + 0) v).2 (8 * k) = v from zsp_eq, show (zsp σ (8 * k + 0) v).2 (8 * k + 1) = σ.2 (8 * k + 1) from zsp_ne (by omega), show (zsp σ (8 * k + 0) v).2 (8 * k + 2) = σ.2 (8 * k + 2) from zsp_ne (by omega), show (zsp σ (8 * k + 0) v).2 (8 * k + 3) = σ.2 (8 * k + 3) from zsp_ne (by omega), show (zsp σ (8 * k + 0) v).2 (8 * k + 4) = σ.2 (8 * k + 4) from zsp_ne (by omega), show (zsp σ (8 * k + 0) v).2 (8 * k + 5) = σ.2 (8 * k + 5) from zsp_ne (by omega), show (zsp σ (8 * k + 0) v).2 (8 * k + 6) = σ.2 (8 * k + 6) from zsp_ne (by omega), show (zsp σ (8 * k + 0) v).2 (8 * k + 7) = σ.2 (8 * k + 7) from zsp_ne (by omega)]
  rfl
theorem zcS_put1 {ad : Nat → Nat} {σ : ST} {v : Int32} {fs : List Value} (k : Nat) (h : zcS ad σ k = .inr (3, fs)) : zcS ad (zsp σ (8 * k + 1) v) k = .inr (3, fs.set 11 (.int v)) := by
  have e : fs = (match zcS ad σ k with | .inr o => o.2 | .inl _ => []) := by rw [h]
  subst e
  unfold zcS
  rw [show (zsp σ (8 * k + 1) v).2 (8 * k) = σ.2 (8 * k) from zsp_ne (by omega), show (zsp σ (8 * k + 1) v).2 (8 * k + 1) = v from zsp_eq, show (zsp σ (8 * k + 1) v).2 (8 * k + 2) = σ.2 (8 * k + 2) from zsp_ne (by omega), show (zsp σ (8 * k + 1) v).2 (8 * k + 3) = σ.2 (8 * k + 3) from zsp_ne (by omega), show (zsp σ (8 * k + 1) v).2 (8 * k + 4) = σ.2 (8 * k + 4) from zsp_ne (by omega), show (zsp σ (8 * k + 1) v).2 (8 * k + 5) = σ.2 (8 * k + 5) from zsp_ne (by omega), show (zsp σ (8 * k + 1) v).2 (8 * k + 6) = σ.2 (8 * k + 6) from zsp_ne (by omega), show (zsp σ (8 * k + 1) v).2 (8 * k + 7) = σ.2 (8 * k + 7) from zsp_ne (by omega)]
  rfl
theorem zcS_put2 {ad : Nat → Nat} {σ : ST} {v : Int32} {fs : List Value} (k : Nat) (h : zcS ad σ k = .inr (3, fs)) : zcS ad (zsp σ (8 * k + 2) v) k = .inr (3, fs.set 12 (.int v)) := by
  have e : fs = (match zcS ad σ k with | .inr o => o.2 | .inl _ => []) := by rw [h]
  subst e
  unfold zcS
  rw [show (zsp σ (8 * k + 2) v).2 (8 * k) = σ.2 (8 * k) from zsp_ne (by omega), show (zsp σ (8 * k + 2) v).2 (8 * k + 1) = σ.2 (8 * k + 1) from zsp_ne (by omega), show (zsp σ (8 * k + 2) v).2 (8 * k + 2) = v from zsp_eq, show (zsp σ (8 * k + 2) v).2 (8 * k + 3) = σ.2 (8 * k + 3) from zsp_ne (by omega), show (zsp σ (8 * k + 2) v).2 (8 * k + 4) = σ.2 (8 * k + 4) from zsp_ne (by omega), show (zsp σ (8 * k + 2) v).2 (8 * k + 5) = σ.2 (8 * k + 5) from zsp_ne (by omega), show (zsp σ (8 * k + 2) v).2 (8 * k + 6) = σ.2 (8 * k + 6) from zsp_ne (by omega), show (zsp σ (8 * k + 2) v).2 (8 * k + 7) = σ.2 (8 * k + 7) from zsp_ne (by omega)]
  rfl
theorem zcS_put3 {ad : Nat → Nat} {σ : ST} {v : Int32} {fs : List Value} (k : Nat) (h : zcS ad σ k = .inr (3, fs)) : zcS ad (zsp σ (8 * k + 3) v) k = .inr (3, fs.set 13 (.int v)) := by
  have e : fs = (match zcS ad σ k with | .inr o => o.2 | .inl _ => []) := by rw [h]
  subst e
  unfold zcS
  rw [show (zsp σ (8 * k + 3) v).2 (8 * k) = σ.2 (8 * k) from zsp_ne (by omega), show (zsp σ (8 * k + 3) v).2 (8 * k + 1) = σ.2 (8 * k + 1) from zsp_ne (by omega), show (zsp σ (8 * k + 3) v).2 (8 * k + 2) = σ.2 (8 * k + 2) from zsp_ne (by omega), show (zsp σ (8 * k + 3) v).2 (8 * k + 3) = v from zsp_eq, show (zsp σ (8 * k + 3) v).2 (8 * k + 4) = σ.2 (8 * k + 4) from zsp_ne (by omega), show (zsp σ (8 * k + 3) v).2 (8 * k + 5) = σ.2 (8 * k + 5) from zsp_ne (by omega), show (zsp σ (8 * k + 3) v).2 (8 * k + 6) = σ.2 (8 * k + 6) from zsp_ne (by omega), show (zsp σ (8 * k + 3) v).2 (8 * k + 7) = σ.2 (8 * k + 7) from zsp_ne (by omega)]
  rfl
theorem zcS_put4 {ad : Nat → Nat} {σ : ST} {v : Int32} {fs : List Value} (k : Nat) (h : zcS ad σ k = .inr (3, fs)) : zcS ad (zsp σ (8 * k + 4) v) k = .inr (3, fs.set 14 (.int v)) := by
  have e : fs = (match zcS ad σ k with | .inr o => o.2 | .inl _ => []) := by rw [h]
  subst e
  unfold zcS
  rw [show (zsp σ (8 * k + 4) v).2 (8 * k) = σ.2 (8 * k) from zsp_ne (by omega), show (zsp σ (8 * k + 4) v).2 (8 * k + 1) = σ.2 (8 * k + 1) from zsp_ne (by omega), show (zsp σ (8 * k + 4) v).2 (8 * k + 2) = σ.2 (8 * k + 2) from zsp_ne (by omega), show (zsp σ (8 * k + 4) v).2 (8 * k + 3) = σ.2 (8 * k + 3) from zsp_ne (by omega), show (zsp σ (8 * k + 4) v).2 (8 * k + 4) = v from zsp_eq, show (zsp σ (8 * k + 4) v).2 (8 * k + 5) = σ.2 (8 * k + 5) from zsp_ne (by omega), show (zsp σ (8 * k + 4) v).2 (8 * k + 6) = σ.2 (8 * k + 6) from zsp_ne (by omega), show (zsp σ (8 * k + 4) v).2 (8 * k + 7) = σ.2 (8 * k + 7) from zsp_ne (by omega)]
  rfl
theorem zcS_put5 {ad : Nat → Nat} {σ : ST} {v : Int32} {fs : List Value} (k : Nat) (h : zcS ad σ k = .inr (3, fs)) : zcS ad (zsp σ (8 * k + 5) v) k = .inr (3, fs.set 15 (.int v)) := by
  have e : fs = (match zcS ad σ k with | .inr o => o.2 | .inl _ => []) := by rw [h]
  subst e
  unfold zcS
  rw [show (zsp σ (8 * k + 5) v).2 (8 * k) = σ.2 (8 * k) from zsp_ne (by omega), show (zsp σ (8 * k + 5) v).2 (8 * k + 1) = σ.2 (8 * k + 1) from zsp_ne (by omega), show (zsp σ (8 * k + 5) v).2 (8 * k + 2) = σ.2 (8 * k + 2) from zsp_ne (by omega), show (zsp σ (8 * k + 5) v).2 (8 * k + 3) = σ.2 (8 * k + 3) from zsp_ne (by omega), show (zsp σ (8 * k + 5) v).2 (8 * k + 4) = σ.2 (8 * k + 4) from zsp_ne (by omega), show (zsp σ (8 * k + 5) v).2 (8 * k + 5) = v from zsp_eq, show (zsp σ (8 * k + 5) v).2 (8 * k + 6) = σ.2 (8 * k + 6) from zsp_ne (by omega), show (zsp σ (8 * k + 5) v).2 (8 * k + 7) = σ.2 (8 * k + 7) from zsp_ne (by omega)]
  rfl
theorem zcS_put6 {ad : Nat → Nat} {σ : ST} {v : Int32} {fs : List Value} (k : Nat) (h : zcS ad σ k = .inr (3, fs)) : zcS ad (zsp σ (8 * k + 6) v) k = .inr (3, fs.set 16 (.int v)) := by
  have e : fs = (match zcS ad σ k with | .inr o => o.2 | .inl _ => []) := by rw [h]
  subst e
  unfold zcS
  rw [show (zsp σ (8 * k + 6) v).2 (8 * k) = σ.2 (8 * k) from zsp_ne (by omega), show (zsp σ (8 * k + 6) v).2 (8 * k + 1) = σ.2 (8 * k + 1) from zsp_ne (by omega), show (zsp σ (8 * k + 6) v).2 (8 * k + 2) = σ.2 (8 * k + 2) from zsp_ne (by omega), show (zsp σ (8 * k + 6) v).2 (8 * k + 3) = σ.2 (8 * k + 3) from zsp_ne (by omega), show (zsp σ (8 * k + 6) v).2 (8 * k + 4) = σ.2 (8 * k + 4) from zsp_ne (by omega), show (zsp σ (8 * k + 6) v).2 (8 * k + 5) = σ.2 (8 * k + 5) from zsp_ne (by omega), show (zsp σ (8 * k + 6) v).2 (8 * k + 6) = v from zsp_eq, show (zsp σ (8 * k + 6) v).2 (8 * k + 7) = σ.2 (8 * k + 7) from zsp_ne (by omega)]
  rfl
theorem zcS_put7 {ad : Nat → Nat} {σ : ST} {v : Int32} {fs : List Value} (k : Nat) (h : zcS ad σ k = .inr (3, fs)) : zcS ad (zsp σ (8 * k + 7) v) k = .inr (3, fs.set 17 (.int v)) := by
  have e : fs = (match zcS ad σ k with | .inr o => o.2 | .inl _ => []) := by rw [h]
  subst e
  unfold zcS
  rw [show (zsp σ (8 * k + 7) v).2 (8 * k) = σ.2 (8 * k) from zsp_ne (by omega), show (zsp σ (8 * k + 7) v).2 (8 * k + 1) = σ.2 (8 * k + 1) from zsp_ne (by omega), show (zsp σ (8 * k + 7) v).2 (8 * k + 2) = σ.2 (8 * k + 2) from zsp_ne (by omega), show (zsp σ (8 * k + 7) v).2 (8 * k + 3) = σ.2 (8 * k + 3) from zsp_ne (by omega), show (zsp σ (8 * k + 7) v).2 (8 * k + 4) = σ.2 (8 * k + 4) from zsp_ne (by omega), show (zsp σ (8 * k + 7) v).2 (8 * k + 5) = σ.2 (8 * k + 5) from zsp_ne (by omega), show (zsp σ (8 * k + 7) v).2 (8 * k + 6) = σ.2 (8 * k + 6) from zsp_ne (by omega), show (zsp σ (8 * k + 7) v).2 (8 * k + 7) = v from zsp_eq]
  rfl
def wp_X4_copyFrom (σ : ST) (k1 k2 : Nat) (Q : ST → Prop) : Prop :=
  (∀ s1 : ST, s1 = zcr σ (10 * k1 + 0) (10 * k2 + 0) → (∀ s2 : ST, s2 = zcr s1 (10 * k1 + 1) (10 * k2 + 1) → (∀ s3 : ST, s3 = zcr s2 (10 * k1 + 2) (10 * k2 + 2) → (∀ s4 : ST, s4 = zcr s3 (10 * k1 + 3) (10 * k2 + 3) → (∀ s5 : ST, s5 = zcr s4 (10 * k1 + 4) (10 * k2 + 4) → (∀ s6 : ST, s6 = zcr s5 (10 * k1 + 5) (10 * k2 + 5) → (∀ s7 : ST, s7 = zcr s6 (10 * k1 + 6) (10 * k2 + 6) → (∀ s8 : ST, s8 = zcr s7 (10 * k1 + 7) (10 * k2 + 7) → (∀ s9 : ST, s9 = zcr s8 (10 * k1 + 8) (10 * k2 + 8) → (∀ s10 : ST, s10 = zcr s9 (10 * k1 + 9) (10 * k2 + 9) → (∀ s11 : ST, s11 = zsp s10 (8 * k1 + 0) (s10.2 (8 * k2 + 0)) → (∀ s12 : ST, s12 = zsp s11 (8 * k1 + 1) (s11.2 (8 * k2 + 1)) → (∀ s13 : ST, s13 = zsp s12 (8 * k1 + 2) (s12.2 (8 * k2 + 2)) → (∀ s14 : ST, s14 = zsp s13 (8 * k1 + 3) (s13.2 (8 * k2 + 3)) → (∀ s15 : ST, s15 = zsp s14 (8 * k1 + 4) (s14.2 (8 * k2 + 4)) → (∀ s16 : ST, s16 = zsp s15 (8 * k1 + 5) (s15.2 (8 * k2 + 5)) → (∀ s17 : ST, s17 = zsp s16 (8 * k1 + 6) (s16.2 (8 * k2 + 6)) → (∀ s18 : ST, s18 = zsp s17 (8 * k1 + 7) (s17.2 (8 * k2 + 7)) → Q s18))))))))))))))))))
theorem zlen_st (k1 k2 j : Nat) (h1 : k1 < 5) (h2 : k2 < 5) (hj : j < 10) : zlen (10 * k2 + j) = zlen (10 * k1 + j) := by
  unfold zlen
  rw [if_neg (show ¬ 10 * k2 + j = 50 by omega), if_neg (show ¬ 10 * k2 + j = 51 by omega), if_neg (show ¬ 10 * k2 + j = 52 by omega), if_neg (show ¬ 10 * k1 + j = 50 by omega), if_neg (show ¬ 10 * k1 + j = 51 by omega), if_neg (show ¬ 10 * k1 + j = 52 by omega), show (10 * k2 + j) % 10 = (10 * k1 + j) % 10 by omega]
set_option maxHeartbeats 4000000 in
set_option maxRecDepth 100000 in
theorem c_X4_copyFrom (l : Launch) (D : va_G) (cy : cyT) (ad : Nat → Nat) (σ : ST) (k1 k2 : Nat) (h1 : k1 < 5) (h2 : k2 < 5) {Q : ST → Prop} (h : wp_X4_copyFrom σ k1 k2 Q) : Met l yX4_copyFrom wsX4_copyFrom ({ frames := 2, cells := 0, slots := 0, locals := 61 } : Room) (zPre D cy 116 (zce cy ad σ) ad [.ref (ad (k1 + 5)), .ref (ad (k2 + 5))]) (va_Qv Q (zB D 116 (zce cy ad) ad) (zA 116 ad)) 0 0 (zA 116 ad) := by
  refine Met.ofW (cc := cX4_copyFrom) (maxL := 2) (ret := none) (by decide) rfl ?_
  intro p e s m args below meth c s₁ B hml hv
  obtain ⟨rfl, hj, hK, hw⟩ := hv
  have hx := B.exec
  have hb := B.bytes
  have hr := B.returns
  have hts := atoms_spec (ws := wsX4_copyFrom) B.pre
  have hown : s.vm.findClass RX4 = some m.cls := findClass_of_methodNamed B.named
  have hlocks := B.notSynchronized
  have lk0 : Cond.fieldLink RX4 14 "TypeTrays$State" "signWidths" "LTypeTrays$Row;" ∈ wsX4_copyFrom := List.mem_of_getElem? (i := 1) rfl
  have lk1 : Cond.fieldLink RX4 20 "TypeTrays$State" "signHeights" "LTypeTrays$Row;" ∈ wsX4_copyFrom := List.mem_of_getElem? (i := 2) rfl
  have lk2 : Cond.fieldLink RX4 23 "TypeTrays$State" "shelfHeights" "LTypeTrays$Row;" ∈ wsX4_copyFrom := List.mem_of_getElem? (i := 3) rfl
  have lk3 : Cond.fieldLink RX4 26 "TypeTrays$State" "slots" "LTypeTrays$Row;" ∈ wsX4_copyFrom := List.mem_of_getElem? (i := 4) rfl
  have lk4 : Cond.fieldLink RX4 29 "TypeTrays$State" "lefts" "LTypeTrays$Row;" ∈ wsX4_copyFrom := List.mem_of_getElem? (i := 5) rfl
  have lk5 : Cond.fieldLink RX4 32 "TypeTrays$State" "rights" "LTypeTrays$Row;" ∈ wsX4_copyFrom := List.mem_of_getElem? (i := 6) rfl
  have lk6 : Cond.fieldLink RX4 35 "TypeTrays$State" "latestUses" "LTypeTrays$Row;" ∈ wsX4_copyFrom := List.mem_of_getElem? (i := 7) rfl
  have lk7 : Cond.fieldLink RX4 38 "TypeTrays$State" "lines" "LTypeTrays$Row;" ∈ wsX4_copyFrom := List.mem_of_getElem? (i := 8) rfl
  have lk8 : Cond.fieldLink RX4 41 "TypeTrays$State" "useCounts" "LTypeTrays$Row;" ∈ wsX4_copyFrom := List.mem_of_getElem? (i := 9) rfl
  have lk9 : Cond.fieldLink RX4 44 "TypeTrays$State" "present" "LTypeTrays$Row;" ∈ wsX4_copyFrom := List.mem_of_getElem? (i := 10) rfl
  have lk10 : Cond.fieldLink RX4 47 "TypeTrays$State" "presentCount" "I" ∈ wsX4_copyFrom := List.mem_of_getElem? (i := 11) rfl
  have lk11 : Cond.fieldLink RX4 51 "TypeTrays$State" "trays" "I" ∈ wsX4_copyFrom := List.mem_of_getElem? (i := 12) rfl
  have lk12 : Cond.fieldLink RX4 54 "TypeTrays$State" "line" "I" ∈ wsX4_copyFrom := List.mem_of_getElem? (i := 13) rfl
  have lk13 : Cond.fieldLink RX4 57 "TypeTrays$State" "clock" "I" ∈ wsX4_copyFrom := List.mem_of_getElem? (i := 14) rfl
  have lk14 : Cond.fieldLink RX4 60 "TypeTrays$State" "hits" "I" ∈ wsX4_copyFrom := List.mem_of_getElem? (i := 15) rfl
  have lk15 : Cond.fieldLink RX4 63 "TypeTrays$State" "made" "I" ∈ wsX4_copyFrom := List.mem_of_getElem? (i := 16) rfl
  have lk16 : Cond.fieldLink RX4 66 "TypeTrays$State" "taken" "I" ∈ wsX4_copyFrom := List.mem_of_getElem? (i := 17) rfl
  have lk17 : Cond.fieldLink RX4 69 "TypeTrays$State" "inked" "I" ∈ wsX4_copyFrom := List.mem_of_getElem? (i := 18) rfl
  have inX4 : ∀ w ∈ u_ws RX4 TX4 18, w ∈ wsX4_copyFrom := zin_at 33 rfl
  have hS : va_S (zA 116 ad) s.heap s.heap [] := va_S.rf
  have hA : ∀ i, i < 116 → zA 116 ad (ad i) := fun i hi => ⟨i, hi, rfl⟩
  have hl := lv_entry ([.ref (ad (k1 + 5)), .ref (ad (k2 + 5))]) (n := 2) (Nat.le_of_ble_eq_true rfl)
  rw [lg_entry_eq]
  generalize (lg_sl ([.ref (ad (k1 + 5)), .ref (ad (k2 + 5))]) ++ List.replicate (2 - (lg_sl ([.ref (ad (k1 + 5)), .ref (ad (k2 + 5))])).length) Slot.unset).toArray = ls at hl ⊢
  have hl : lv_has ls 2 [(0, .ref (ad (k1 + 5))), (1, .ref (ad (k2 + 5)))] := hl
  unfold wp_X4_copyFrom at h
  refine lv_aload_n hx hb dX4_copyFrom_0 rfl (lv_at hl 0 rfl) ?_
  refine zget hx hb hts inX4 hown hK hw (k1 + 5) (by omega) (zce_S k1 h1) rfl 0 (by decide) lk0 (fun _ h9 => h9) rfl dX4_copyFrom_1 ?_
  refine lv_aload_n hx hb dX4_copyFrom_4 rfl (lv_at hl 1 rfl) ?_
  refine zget hx hb hts inX4 hown hK hw (k2 + 5) (by omega) (zce_S k2 h2) rfl 0 (by decide) lk0 (fun _ h9 => h9) rfl dX4_copyFrom_5 ?_
  obtain ⟨s1, es1⟩ : ∃ y : ST, y = zcr σ (10 * k1 + 0) (10 * k2 + 0) := ⟨_, rfl⟩
  have h := h s1 es1
  refine k_X3_copyFrom (rest := []) hx hb hml hown hts gX4_copyFrom_X3_copyFrom ⟨Nat.le_of_ble_eq_true rfl, Nat.le_of_ble_eq_true rfl⟩ ⟨Nat.zero_le _, Nat.zero_le _⟩ hK hj hw hA hS hl.1 (Nat.le_of_ble_eq_true rfl) (10 * k1 + 0) (10 * k2 + 0) (by omega) (by omega) (zlen_st k1 k2 0 h1 h2 (by omega)) dX4_copyFrom_8 (fun H locs hw hS => ?_)
  rw [← es1] at hw
  refine lv_aload_n hx hb dX4_copyFrom_11 rfl (lv_at hl 0 rfl) ?_
  refine zget hx hb hts inX4 hown hK hw (k1 + 5) (by omega) (zce_S k1 h1) rfl 1 (by decide) lk1 (fun _ h9 => h9) rfl dX4_copyFrom_12 ?_
  refine lv_aload_n hx hb dX4_copyFrom_15 rfl (lv_at hl 1 rfl) ?_
  refine zget hx hb hts inX4 hown hK hw (k2 + 5) (by omega) (zce_S k2 h2) rfl 1 (by decide) lk1 (fun _ h9 => h9) rfl dX4_copyFrom_16 ?_
  obtain ⟨s2, es2⟩ : ∃ y : ST, y = zcr s1 (10 * k1 + 1) (10 * k2 + 1) := ⟨_, rfl⟩
  have h := h s2 es2
  refine k_X3_copyFrom (rest := []) hx hb hml hown hts gX4_copyFrom_X3_copyFrom ⟨Nat.le_of_ble_eq_true rfl, Nat.le_of_ble_eq_true rfl⟩ ⟨Nat.zero_le _, Nat.zero_le _⟩ hK hj hw hA hS hl.1 (Nat.le_of_ble_eq_true rfl) (10 * k1 + 1) (10 * k2 + 1) (by omega) (by omega) (zlen_st k1 k2 1 h1 h2 (by omega)) dX4_copyFrom_19 (fun H locs hw hS => ?_)
  rw [← es2] at hw
  refine lv_aload_n hx hb dX4_copyFrom_22 rfl (lv_at hl 0 rfl) ?_
  refine zget hx hb hts inX4 hown hK hw (k1 + 5) (by omega) (zce_S k1 h1) rfl 2 (by decide) lk2 (fun _ h9 => h9) rfl dX4_copyFrom_23 ?_
  refine lv_aload_n hx hb dX4_copyFrom_26 rfl (lv_at hl 1 rfl) ?_
  refine zget hx hb hts inX4 hown hK hw (k2 + 5) (by omega) (zce_S k2 h2) rfl 2 (by decide) lk2 (fun _ h9 => h9) rfl dX4_copyFrom_27 ?_
  obtain ⟨s3, es3⟩ : ∃ y : ST, y = zcr s2 (10 * k1 + 2) (10 * k2 + 2) := ⟨_, rfl⟩
  have h := h s3 es3
  refine k_X3_copyFrom (rest := []) hx hb hml hown hts gX4_copyFrom_X3_copyFrom ⟨Nat.le_of_ble_eq_true rfl, Nat.le_of_ble_eq_true rfl⟩ ⟨Nat.zero_le _, Nat.zero_le _⟩ hK hj hw hA hS hl.1 (Nat.le_of_ble_eq_true rfl) (10 * k1 + 2) (10 * k2 + 2) (by omega) (by omega) (zlen_st k1 k2 2 h1 h2 (by omega)) dX4_copyFrom_30 (fun H locs hw hS => ?_)
  rw [← es3] at hw
  refine lv_aload_n hx hb dX4_copyFrom_33 rfl (lv_at hl 0 rfl) ?_
  refine zget hx hb hts inX4 hown hK hw (k1 + 5) (by omega) (zce_S k1 h1) rfl 3 (by decide) lk3 (fun _ h9 => h9) rfl dX4_copyFrom_34 ?_
  refine lv_aload_n hx hb dX4_copyFrom_37 rfl (lv_at hl 1 rfl) ?_
  refine zget hx hb hts inX4 hown hK hw (k2 + 5) (by omega) (zce_S k2 h2) rfl 3 (by decide) lk3 (fun _ h9 => h9) rfl dX4_copyFrom_38 ?_
  obtain ⟨s4, es4⟩ : ∃ y : ST, y = zcr s3 (10 * k1 + 3) (10 * k2 + 3) := ⟨_, rfl⟩
  have h := h s4 es4
  refine k_X3_copyFrom (rest := []) hx hb hml hown hts gX4_copyFrom_X3_copyFrom ⟨Nat.le_of_ble_eq_true rfl, Nat.le_of_ble_eq_true rfl⟩ ⟨Nat.zero_le _, Nat.zero_le _⟩ hK hj hw hA hS hl.1 (Nat.le_of_ble_eq_true rfl) (10 * k1 + 3) (10 * k2 + 3) (by omega) (by omega) (zlen_st k1 k2 3 h1 h2 (by omega)) dX4_copyFrom_41 (fun H locs hw hS => ?_)
  rw [← es4] at hw
  refine lv_aload_n hx hb dX4_copyFrom_44 rfl (lv_at hl 0 rfl) ?_
  refine zget hx hb hts inX4 hown hK hw (k1 + 5) (by omega) (zce_S k1 h1) rfl 4 (by decide) lk4 (fun _ h9 => h9) rfl dX4_copyFrom_45 ?_
  refine lv_aload_n hx hb dX4_copyFrom_48 rfl (lv_at hl 1 rfl) ?_
  refine zget hx hb hts inX4 hown hK hw (k2 + 5) (by omega) (zce_S k2 h2) rfl 4 (by decide) lk4 (fun _ h9 => h9) rfl dX4_copyFrom_49 ?_
  obtain ⟨s5, es5⟩ : ∃ y : ST, y = zcr s4 (10 * k1 + 4) (10 * k2 + 4) := ⟨_, rfl⟩
  have h := h s5 es5
  refine k_X3_copyFrom (rest := []) hx hb hml hown hts gX4_copyFrom_X3_copyFrom ⟨Nat.le_of_ble_eq_true rfl, Nat.le_of_ble_eq_true rfl⟩ ⟨Nat.zero_le _, Nat.zero_le _⟩ hK hj hw hA hS hl.1 (Nat.le_of_ble_eq_true rfl) (10 * k1 + 4) (10 * k2 + 4) (by omega) (by omega) (zlen_st k1 k2 4 h1 h2 (by omega)) dX4_copyFrom_52 (fun H locs hw hS => ?_)
  rw [← es5] at hw
  refine lv_aload_n hx hb dX4_copyFrom_55 rfl (lv_at hl 0 rfl) ?_
  refine zget hx hb hts inX4 hown hK hw (k1 + 5) (by omega) (zce_S k1 h1) rfl 5 (by decide) lk5 (fun _ h9 => h9) rfl dX4_copyFrom_56 ?_
  refine lv_aload_n hx hb dX4_copyFrom_59 rfl (lv_at hl 1 rfl) ?_
  refine zget hx hb hts inX4 hown hK hw (k2 + 5) (by omega) (zce_S k2 h2) rfl 5 (by decide) lk5 (fun _ h9 => h9) rfl dX4_copyFrom_60 ?_
  obtain ⟨s6, es6⟩ : ∃ y : ST, y = zcr s5 (10 * k1 + 5) (10 * k2 + 5) := ⟨_, rfl⟩
  have h := h s6 es6
  refine k_X3_copyFrom (rest := []) hx hb hml hown hts gX4_copyFrom_X3_copyFrom ⟨Nat.le_of_ble_eq_true rfl, Nat.le_of_ble_eq_true rfl⟩ ⟨Nat.zero_le _, Nat.zero_le _⟩ hK hj hw hA hS hl.1 (Nat.le_of_ble_eq_true rfl) (10 * k1 + 5) (10 * k2 + 5) (by omega) (by omega) (zlen_st k1 k2 5 h1 h2 (by omega)) dX4_copyFrom_63 (fun H locs hw hS => ?_)
  rw [← es6] at hw
  refine lv_aload_n hx hb dX4_copyFrom_66 rfl (lv_at hl 0 rfl) ?_
  refine zget hx hb hts inX4 hown hK hw (k1 + 5) (by omega) (zce_S k1 h1) rfl 6 (by decide) lk6 (fun _ h9 => h9) rfl dX4_copyFrom_67 ?_
  refine lv_aload_n hx hb dX4_copyFrom_70 rfl (lv_at hl 1 rfl) ?_
  refine zget hx hb hts inX4 hown hK hw (k2 + 5) (by omega) (zce_S k2 h2) rfl 6 (by decide) lk6 (fun _ h9 => h9) rfl dX4_copyFrom_71 ?_
  obtain ⟨s7, es7⟩ : ∃ y : ST, y = zcr s6 (10 * k1 + 6) (10 * k2 + 6) := ⟨_, rfl⟩
  have h := h s7 es7
  refine k_X3_copyFrom (rest := []) hx hb hml hown hts gX4_copyFrom_X3_copyFrom ⟨Nat.le_of_ble_eq_true rfl, Nat.le_of_ble_eq_true rfl⟩ ⟨Nat.zero_le _, Nat.zero_le _⟩ hK hj hw hA hS hl.1 (Nat.le_of_ble_eq_true rfl) (10 * k1 + 6) (10 * k2 + 6) (by omega) (by omega) (zlen_st k1 k2 6 h1 h2 (by omega)) dX4_copyFrom_74 (fun H locs hw hS => ?_)
  rw [← es7] at hw
  refine lv_aload_n hx hb dX4_copyFrom_77 rfl (lv_at hl 0 rfl) ?_
  refine zget hx hb hts inX4 hown hK hw (k1 + 5) (by omega) (zce_S k1 h1) rfl 7 (by decide) lk7 (fun _ h9 => h9) rfl dX4_copyFrom_78 ?_
  refine lv_aload_n hx hb dX4_copyFrom_81 rfl (lv_at hl 1 rfl) ?_
  refine zget hx hb hts inX4 hown hK hw (k2 + 5) (by omega) (zce_S k2 h2) rfl 7 (by decide) lk7 (fun _ h9 => h9) rfl dX4_copyFrom_82 ?_
  obtain ⟨s8, es8⟩ : ∃ y : ST, y = zcr s7 (10 * k1 + 7) (10 * k2 + 7) := ⟨_, rfl⟩
  have h := h s8 es8
  refine k_X3_copyFrom (rest := []) hx hb hml hown hts gX4_copyFrom_X3_copyFrom ⟨Nat.le_of_ble_eq_true rfl, Nat.le_of_ble_eq_true rfl⟩ ⟨Nat.zero_le _, Nat.zero_le _⟩ hK hj hw hA hS hl.1 (Nat.le_of_ble_eq_true rfl) (10 * k1 + 7) (10 * k2 + 7) (by omega) (by omega) (zlen_st k1 k2 7 h1 h2 (by omega)) dX4_copyFrom_85 (fun H locs hw hS => ?_)
  rw [← es8] at hw
  refine lv_aload_n hx hb dX4_copyFrom_88 rfl (lv_at hl 0 rfl) ?_
  refine zget hx hb hts inX4 hown hK hw (k1 + 5) (by omega) (zce_S k1 h1) rfl 8 (by decide) lk8 (fun _ h9 => h9) rfl dX4_copyFrom_89 ?_
  refine lv_aload_n hx hb dX4_copyFrom_92 rfl (lv_at hl 1 rfl) ?_
  refine zget hx hb hts inX4 hown hK hw (k2 + 5) (by omega) (zce_S k2 h2) rfl 8 (by decide) lk8 (fun _ h9 => h9) rfl dX4_copyFrom_93 ?_
  obtain ⟨s9, es9⟩ : ∃ y : ST, y = zcr s8 (10 * k1 + 8) (10 * k2 + 8) := ⟨_, rfl⟩
  have h := h s9 es9
  refine k_X3_copyFrom (rest := []) hx hb hml hown hts gX4_copyFrom_X3_copyFrom ⟨Nat.le_of_ble_eq_true rfl, Nat.le_of_ble_eq_true rfl⟩ ⟨Nat.zero_le _, Nat.zero_le _⟩ hK hj hw hA hS hl.1 (Nat.le_of_ble_eq_true rfl) (10 * k1 + 8) (10 * k2 + 8) (by omega) (by omega) (zlen_st k1 k2 8 h1 h2 (by omega)) dX4_copyFrom_96 (fun H locs hw hS => ?_)
  rw [← es9] at hw
  refine lv_aload_n hx hb dX4_copyFrom_99 rfl (lv_at hl 0 rfl) ?_
  refine zget hx hb hts inX4 hown hK hw (k1 + 5) (by omega) (zce_S k1 h1) rfl 9 (by decide) lk9 (fun _ h9 => h9) rfl dX4_copyFrom_100 ?_
  refine lv_aload_n hx hb dX4_copyFrom_103 rfl (lv_at hl 1 rfl) ?_
  refine zget hx hb hts inX4 hown hK hw (k2 + 5) (by omega) (zce_S k2 h2) rfl 9 (by decide) lk9 (fun _ h9 => h9) rfl dX4_copyFrom_104 ?_
  obtain ⟨s10, es10⟩ : ∃ y : ST, y = zcr s9 (10 * k1 + 9) (10 * k2 + 9) := ⟨_, rfl⟩
  have h := h s10 es10
  refine k_X3_copyFrom (rest := []) hx hb hml hown hts gX4_copyFrom_X3_copyFrom ⟨Nat.le_of_ble_eq_true rfl, Nat.le_of_ble_eq_true rfl⟩ ⟨Nat.zero_le _, Nat.zero_le _⟩ hK hj hw hA hS hl.1 (Nat.le_of_ble_eq_true rfl) (10 * k1 + 9) (10 * k2 + 9) (by omega) (by omega) (zlen_st k1 k2 9 h1 h2 (by omega)) dX4_copyFrom_107 (fun H locs hw hS => ?_)
  rw [← es10] at hw
  refine lv_aload_n hx hb dX4_copyFrom_110 rfl (lv_at hl 0 rfl) ?_
  refine lv_aload_n hx hb dX4_copyFrom_111 rfl (lv_at hl 1 rfl) ?_
  refine zget hx hb hts inX4 hown hK hw (k2 + 5) (by omega) (zce_S k2 h2) rfl 10 (by decide) lk10 (fun _ h9 => h9) (v := .int (s10.2 (8 * k2 + 0))) rfl dX4_copyFrom_112 ?_
  obtain ⟨s11, es11⟩ : ∃ y : ST, y = zsp s10 (8 * k1 + 0) (s10.2 (8 * k2 + 0)) := ⟨_, rfl⟩
  have h := h s11 es11
  refine zput (ty := .int) hx hb hts inX4 tyX4 tyX4_ok nmX4 hown hK hj hw hA hS (k1 + 5) (by omega) (zce_S k1 h1) rfl 10 (by decide) lk10 (fun _ h9 => h9) rfl (by decide +kernel) rfl rfl (Nat.le_of_ble_eq_true rfl) dX4_copyFrom_115 (zce cy ad s11) (by rw [es11, zce_S k1 h1]; exact zcS_put0 k1 rfl) (fun j hj9 => by rw [es11]; exact zsp_off_S k1 0 h1 (by omega) j hj9) (fun H locs hw hS => ?_)
  refine lv_aload_n hx hb dX4_copyFrom_118 rfl (lv_at hl 0 rfl) ?_
  refine lv_aload_n hx hb dX4_copyFrom_119 rfl (lv_at hl 1 rfl) ?_
  refine zget hx hb hts inX4 hown hK hw (k2 + 5) (by omega) (zce_S k2 h2) rfl 11 (by decide) lk11 (fun _ h9 => h9) (v := .int (s11.2 (8 * k2 + 1))) rfl dX4_copyFrom_120 ?_
  obtain ⟨s12, es12⟩ : ∃ y : ST, y = zsp s11 (8 * k1 + 1) (s11.2 (8 * k2 + 1)) := ⟨_, rfl⟩
  have h := h s12 es12
  refine zput (ty := .int) hx hb hts inX4 tyX4 tyX4_ok nmX4 hown hK hj hw hA hS (k1 + 5) (by omega) (zce_S k1 h1) rfl 11 (by decide) lk11 (fun _ h9 => h9) rfl (by decide +kernel) rfl rfl (Nat.le_of_ble_eq_true rfl) dX4_copyFrom_123 (zce cy ad s12) (by rw [es12, zce_S k1 h1]; exact zcS_put1 k1 rfl) (fun j hj9 => by rw [es12]; exact zsp_off_S k1 1 h1 (by omega) j hj9) (fun H locs hw hS => ?_)
  refine lv_aload_n hx hb dX4_copyFrom_126 rfl (lv_at hl 0 rfl) ?_
  refine lv_aload_n hx hb dX4_copyFrom_127 rfl (lv_at hl 1 rfl) ?_
  refine zget hx hb hts inX4 hown hK hw (k2 + 5) (by omega) (zce_S k2 h2) rfl 12 (by decide) lk12 (fun _ h9 => h9) (v := .int (s12.2 (8 * k2 + 2))) rfl dX4_copyFrom_128 ?_
  obtain ⟨s13, es13⟩ : ∃ y : ST, y = zsp s12 (8 * k1 + 2) (s12.2 (8 * k2 + 2)) := ⟨_, rfl⟩
  have h := h s13 es13
  refine zput (ty := .int) hx hb hts inX4 tyX4 tyX4_ok nmX4 hown hK hj hw hA hS (k1 + 5) (by omega) (zce_S k1 h1) rfl 12 (by decide) lk12 (fun _ h9 => h9) rfl (by decide +kernel) rfl rfl (Nat.le_of_ble_eq_true rfl) dX4_copyFrom_131 (zce cy ad s13) (by rw [es13, zce_S k1 h1]; exact zcS_put2 k1 rfl) (fun j hj9 => by rw [es13]; exact zsp_off_S k1 2 h1 (by omega) j hj9) (fun H locs hw hS => ?_)
  refine lv_aload_n hx hb dX4_copyFrom_134 rfl (lv_at hl 0 rfl) ?_
  refine lv_aload_n hx hb dX4_copyFrom_135 rfl (lv_at hl 1 rfl) ?_
  refine zget hx hb hts inX4 hown hK hw (k2 + 5) (by omega) (zce_S k2 h2) rfl 13 (by decide) lk13 (fun _ h9 => h9) (v := .int (s13.2 (8 * k2 + 3))) rfl dX4_copyFrom_136 ?_
  obtain ⟨s14, es14⟩ : ∃ y : ST, y = zsp s13 (8 * k1 + 3) (s13.2 (8 * k2 + 3)) := ⟨_, rfl⟩
  have h := h s14 es14
  refine zput (ty := .int) hx hb hts inX4 tyX4 tyX4_ok nmX4 hown hK hj hw hA hS (k1 + 5) (by omega) (zce_S k1 h1) rfl 13 (by decide) lk13 (fun _ h9 => h9) rfl (by decide +kernel) rfl rfl (Nat.le_of_ble_eq_true rfl) dX4_copyFrom_139 (zce cy ad s14) (by rw [es14, zce_S k1 h1]; exact zcS_put3 k1 rfl) (fun j hj9 => by rw [es14]; exact zsp_off_S k1 3 h1 (by omega) j hj9) (fun H locs hw hS => ?_)
  refine lv_aload_n hx hb dX4_copyFrom_142 rfl (lv_at hl 0 rfl) ?_
  refine lv_aload_n hx hb dX4_copyFrom_143 rfl (lv_at hl 1 rfl) ?_
  refine zget hx hb hts inX4 hown hK hw (k2 + 5) (by omega) (zce_S k2 h2) rfl 14 (by decide) lk14 (fun _ h9 => h9) (v := .int (s14.2 (8 * k2 + 4))) rfl dX4_copyFrom_144 ?_
  obtain ⟨s15, es15⟩ : ∃ y : ST, y = zsp s14 (8 * k1 + 4) (s14.2 (8 * k2 + 4)) := ⟨_, rfl⟩
  have h := h s15 es15
  refine zput (ty := .int) hx hb hts inX4 tyX4 tyX4_ok nmX4 hown hK hj hw hA hS (k1 + 5) (by omega) (zce_S k1 h1) rfl 14 (by decide) lk14 (fun _ h9 => h9) rfl (by decide +kernel) rfl rfl (Nat.le_of_ble_eq_true rfl) dX4_copyFrom_147 (zce cy ad s15) (by rw [es15, zce_S k1 h1]; exact zcS_put4 k1 rfl) (fun j hj9 => by rw [es15]; exact zsp_off_S k1 4 h1 (by omega) j hj9) (fun H locs hw hS => ?_)
  refine lv_aload_n hx hb dX4_copyFrom_150 rfl (lv_at hl 0 rfl) ?_
  refine lv_aload_n hx hb dX4_copyFrom_151 rfl (lv_at hl 1 rfl) ?_
  refine zget hx hb hts inX4 hown hK hw (k2 + 5) (by omega) (zce_S k2 h2) rfl 15 (by decide) lk15 (fun _ h9 => h9) (v := .int (s15.2 (8 * k2 + 5))) rfl dX4_copyFrom_152 ?_
  obtain ⟨s16, es16⟩ : ∃ y : ST, y = zsp s15 (8 * k1 + 5) (s15.2 (8 * k2 + 5)) := ⟨_, rfl⟩
  have h := h s16 es16
  refine zput (ty := .int) hx hb hts inX4 tyX4 tyX4_ok nmX4 hown hK hj hw hA hS (k1 + 5) (by omega) (zce_S k1 h1) rfl 15 (by decide) lk15 (fun _ h9 => h9) rfl (by decide +kernel) rfl rfl (Nat.le_of_ble_eq_true rfl) dX4_copyFrom_155 (zce cy ad s16) (by rw [es16, zce_S k1 h1]; exact zcS_put5 k1 rfl) (fun j hj9 => by rw [es16]; exact zsp_off_S k1 5 h1 (by omega) j hj9) (fun H locs hw hS => ?_)
  refine lv_aload_n hx hb dX4_copyFrom_158 rfl (lv_at hl 0 rfl) ?_
  refine lv_aload_n hx hb dX4_copyFrom_159 rfl (lv_at hl 1 rfl) ?_
  refine zget hx hb hts inX4 hown hK hw (k2 + 5) (by omega) (zce_S k2 h2) rfl 16 (by decide) lk16 (fun _ h9 => h9) (v := .int (s16.2 (8 * k2 + 6))) rfl dX4_copyFrom_160 ?_
  obtain ⟨s17, es17⟩ : ∃ y : ST, y = zsp s16 (8 * k1 + 6) (s16.2 (8 * k2 + 6)) := ⟨_, rfl⟩
  have h := h s17 es17
  refine zput (ty := .int) hx hb hts inX4 tyX4 tyX4_ok nmX4 hown hK hj hw hA hS (k1 + 5) (by omega) (zce_S k1 h1) rfl 16 (by decide) lk16 (fun _ h9 => h9) rfl (by decide +kernel) rfl rfl (Nat.le_of_ble_eq_true rfl) dX4_copyFrom_163 (zce cy ad s17) (by rw [es17, zce_S k1 h1]; exact zcS_put6 k1 rfl) (fun j hj9 => by rw [es17]; exact zsp_off_S k1 6 h1 (by omega) j hj9) (fun H locs hw hS => ?_)
  refine lv_aload_n hx hb dX4_copyFrom_166 rfl (lv_at hl 0 rfl) ?_
  refine lv_aload_n hx hb dX4_copyFrom_167 rfl (lv_at hl 1 rfl) ?_
  refine zget hx hb hts inX4 hown hK hw (k2 + 5) (by omega) (zce_S k2 h2) rfl 17 (by decide) lk17 (fun _ h9 => h9) (v := .int (s17.2 (8 * k2 + 7))) rfl dX4_copyFrom_168 ?_
  obtain ⟨s18, es18⟩ : ∃ y : ST, y = zsp s17 (8 * k1 + 7) (s17.2 (8 * k2 + 7)) := ⟨_, rfl⟩
  have h := h s18 es18
  refine zput (ty := .int) hx hb hts inX4 tyX4 tyX4_ok nmX4 hown hK hj hw hA hS (k1 + 5) (by omega) (zce_S k1 h1) rfl 17 (by decide) lk17 (fun _ h9 => h9) rfl (by decide +kernel) rfl rfl (Nat.le_of_ble_eq_true rfl) dX4_copyFrom_171 (zce cy ad s18) (by rw [es18, zce_S k1 h1]; exact zcS_put7 k1 rfl) (fun j hj9 => by rw [es18]; exact zsp_off_S k1 7 h1 (by omega) j hj9) (fun H locs hw hS => ?_)
  exact W.vret hx hb hr (fun t ht hW => ⟨⟨_, rfl, h, zend hw ht⟩, hS.F ht⟩) hS.2.2 dX4_copyFrom_174
theorem k_X4_copyFrom {p : Program} {l : Launch} {e : Env} {R : Room} {s : State} {m : MethodId} {args : Array Value} {below : List Frame} {meth : Method} {c : Code} {H : Heap} {locs : List Loc} {cells slots : Nat} {QQ : State → Prop} {cc : ByteArray} {pc nL index : Nat} {ls : Array Slot} {rest : List Value} {D : va_G} {cy : cyT} {ad : Nat → Nat} {own : String} {Ts : List Cond} {H0 : Heap} {σ : ST} {Q : ST → Prop} (hx : p.tables.exec = Jvm.exec) (hb : c.code = cc) (hml : c.maxLocals = nL) (hown : s.vm.findClass own = some m.cls) (hts : ∀ w ∈ Ts, w.before args s = true) (hG : GoodIn Ts (wsV own index RX4 yX4_copyFrom wsX4_copyFrom)) (hR : 2 + 1 ≤ R.frames ∧ 8 + (2 + 11) + 61 ≤ R.locals) (hcs : cells ≤ R.cells ∧ slots ≤ R.slots) (hK : zK D cy s) (hj : zI 116 ad) (hw : zW D 116 (zce cy ad σ) ad H) {A0 : Nat → Prop} (hA : ∀ i, i < 116 → A0 (ad i)) (hS : va_S A0 H0 H locs) (hsz : ls.size = nL) (hrest : (rest.map fun v => v.category).sum ≤ 8) (k1 k2 : Nat) (h1 : k1 < 5) (h2 : k2 < 5) (hdg : decode cc pc = .ok (.invokevirtual index, 3)) (h : wp_X4_copyFrom σ k1 k2 Q) (kk : ∀ (σ : ST) (H : Heap) (locs : List Loc), Q σ → zW D 116 (zce cy ad σ) ad H → va_S A0 H0 H locs → W p l e R s m args below meth c H locs cells slots QQ (F0 m (pc + 3) ls rest)) : W p l e R s m args below meth c H locs cells slots QQ (F0 m pc ls (.ref (ad (k2 + 5)) :: .ref (ad (k1 + 5)) :: rest)) :=
  zcallv (va_runV (As := [.ref (ad (k2 + 5))]) (rest := rest) ⟨hx, hb, hml, hown, hts⟩ (c_X4_copyFrom l D cy ad σ k1 k2 h1 h2 h) (cwV 1 hts hG rfl rfl rfl (by decide +kernel) hR) (zpreV hj hK hw _ (i := k1 + 5) (ci := 3) (by omega) (zce_S k1 h1) rfl) rfl rfl hsz rfl (lv_room hrest) hdg hcs) hA hS kk
set_option maxHeartbeats 4000000 in
set_option maxRecDepth 100000 in
theorem c_X5_savedAt (l : Launch) (D : va_G) (cy : cyT) (ad : Nat → Nat) (σ : ST) (p0 : Int32) (i : Nat) (hi : i < 4) (hp : p0 - p0 / jI 4 * jI 4 = jI i) : Met l yX5_savedAt wsX5_savedAt ({ frames := 0, cells := 0, slots := 0, locals := 0 } : Room) (zPre D cy 116 (zce cy ad σ) ad [.ref (ad 1), .int p0]) (va_Qr (fun τ => τ = σ) (fun τ a t => a = ad (i + 6) ∧ zB D 116 (zce cy ad) ad τ t) (zA 116 ad)) 0 0 (zA 116 ad) := by
  refine Met.ofW (cc := cX5_savedAt) (maxL := 3) (ret := (some (.object "TypeTrays$State"))) (by decide) rfl ?_
  intro p e s m args below meth c s₁ B hml hv
  obtain ⟨rfl, hj, hK, hw⟩ := hv
  have hx := B.exec
  have hb := B.bytes
  have hr := B.returns
  have hts := atoms_spec (ws := wsX5_savedAt) B.pre
  have hown : s.vm.findClass RX5 = some m.cls := findClass_of_methodNamed B.named
  have hlocks := B.notSynchronized
  have lk0 : Cond.fieldLink RX5 11 "TypeTrays$UndoStack" "states" "[LTypeTrays$State;" ∈ wsX5_savedAt := List.mem_of_getElem? (i := 1) rfl
  have inX5 : ∀ w ∈ u_ws RX5 TX5 3, w ∈ wsX5_savedAt := zin_at 2 rfl
  have hS : va_S (zA 116 ad) s.heap s.heap [] := va_S.rf
  have hA : ∀ i, i < 116 → zA 116 ad (ad i) := fun i hi => ⟨i, hi, rfl⟩
  have hl := lv_entry ([.ref (ad 1), .int p0]) (n := 3) (Nat.le_of_ble_eq_true rfl)
  rw [lg_entry_eq]
  generalize (lg_sl ([.ref (ad 1), .int p0]) ++ List.replicate (3 - (lg_sl ([.ref (ad 1), .int p0])).length) Slot.unset).toArray = ls at hl ⊢
  have hl : lv_has ls 3 [(0, .ref (ad 1)), (1, .int p0)] := hl
  have hi0 : ¬ jI i < jI 0 := by
    rw [Int32.lt_iff_toInt_lt, show (jI (i : Int)).toInt = i from Int32.toInt_ofInt_of_le (by omega) (by omega), show (jI 0).toInt = 0 from rfl]
    omega
  have hi4 : ¬ Int32.ofNat 4 ≤ jI i := by
    rw [Int32.le_iff_toInt_le, show (jI (i : Int)).toInt = i from Int32.toInt_ofInt_of_le (by omega) (by omega), show (Int32.ofNat 4).toInt = 4 from rfl]
    omega
  have hic : (jI i).toNatClampNeg = i := by
    show (jI (i : Int)).toInt.toNat = i
    rw [show (jI (i : Int)).toInt = i from Int32.toInt_ofInt_of_le (by omega) (by omega)]
    omega
  have hin : vp_in (jI i) 4 := by
    rw [vp_in_iff, show (jI (i : Int)).toInt = i from Int32.toInt_ofInt_of_le (by omega) (by omega)]
    omega
  refine lv_iload_n hx hb dX5_savedAt_0 rfl (lv_at hl 1 rfl) ?_
  refine lv_iconst (v := jI 4) hx hb dX5_savedAt_1 rfl ?_
  refine lv_irem hx hb dX5_savedAt_2 (by decide +kernel) ?_
  rw [hp]
  refine lv_istore_n (lv' := [(2, .int (jI i)), (0, .ref (ad 1)), (1, .int p0)]) hx hb dX5_savedAt_3 rfl hl (by decide) rfl (fun ls hl => ?_)
  refine lv_iload_n hx hb dX5_savedAt_4 rfl (lv_at hl 0 rfl) ?_
  refine zif_lt (tgt := 26) hx hb dX5_savedAt_5 (by decide) (fun c1 => absurd c1 hi0) (fun c1 => ?_)
  refine lv_iload_n hx hb dX5_savedAt_8 rfl (lv_at hl 0 rfl) ?_
  refine lv_aload_n hx hb dX5_savedAt_9 rfl (lv_at hl 1 rfl) ?_
  refine zget hx hb hts inX5 hown hK hw 1 (by decide) rfl rfl 0 (by decide) lk0 (fun _ h9 => h9) rfl dX5_savedAt_10 ?_
  refine va_alen hx hb hK.1 (hw.one (i := 2) (by decide) rfl) 0 2 rfl rfl rfl dX5_savedAt_13 ?_
  refine lv_icmp_ge (tgt := 26) hx hb dX5_savedAt_14 (by decide) (fun c2 => absurd c2 hi4) (fun c2 => ?_)
  refine lv_aload_n hx hb dX5_savedAt_17 rfl (lv_at hl 1 rfl) ?_
  refine zget hx hb hts inX5 hown hK hw 1 (by decide) rfl rfl 0 (by decide) lk0 (fun _ h9 => h9) rfl dX5_savedAt_18 ?_
  refine lv_iload_n hx hb dX5_savedAt_21 rfl (lv_at hl 0 rfl) ?_
  refine va_aldq hx hb hK.1 (hw.one (i := 2) (by decide) rfl) 0 2 rfl rfl hin dX5_savedAt_22 ?_
  rw [hic]
  refine lv_goto (tgt := 27) hx hb dX5_savedAt_23 (by decide) ?_
  exact W.aret (rt := .object "TypeTrays$State") (v := .ref (ad (6 + i))) hx hb hr (Or.inl ⟨_, rfl⟩) (Or.inr ⟨_, rfl⟩) (fun t ht hW => ⟨⟨σ, ad (6 + i), rfl, rfl, by rw [Nat.add_comm], zend hw ht⟩, hS.F ht⟩) hS.2.2 dX5_savedAt_27
theorem k_X5_savedAt {p : Program} {l : Launch} {e : Env} {R : Room} {s : State} {m : MethodId} {args : Array Value} {below : List Frame} {meth : Method} {c : Code} {H : Heap} {locs : List Loc} {cells slots : Nat} {QQ : State → Prop} {cc : ByteArray} {pc nL index : Nat} {ls : Array Slot} {rest : List Value} {D : va_G} {cy : cyT} {ad : Nat → Nat} {own : String} {Ts : List Cond} {H0 : Heap} {σ : ST} {p0 : Int32} (hx : p.tables.exec = Jvm.exec) (hb : c.code = cc) (hml : c.maxLocals = nL) (hown : s.vm.findClass own = some m.cls) (hts : ∀ w ∈ Ts, w.before args s = true) (hG : GoodIn Ts (wsV own index RX5 yX5_savedAt wsX5_savedAt)) (hR : 0 + 1 ≤ R.frames ∧ 8 + (3 + 11) + 0 ≤ R.locals) (hcs : cells ≤ R.cells ∧ slots ≤ R.slots) (hK : zK D cy s) (hj : zI 116 ad) (hw : zW D 116 (zce cy ad σ) ad H) {A0 : Nat → Prop} (hA : ∀ i, i < 116 → A0 (ad i)) (hS : va_S A0 H0 H locs) (hsz : ls.size = nL) (hrest : (rest.map fun v => v.category).sum ≤ 8) (i : Nat) (hi : i < 4) (hp : p0 - p0 / jI 4 * jI 4 = jI i) (hdg : decode cc pc = .ok (.invokevirtual index, 3)) (kk : ∀ (H : Heap) (locs : List Loc), zW D 116 (zce cy ad σ) ad H → va_S A0 H0 H locs → W p l e R s m args below meth c H locs cells slots QQ (F0 m (pc + 3) ls (.ref (ad (i + 6)) :: rest))) : W p l e R s m args below meth c H locs cells slots QQ (F0 m pc ls (.int p0 :: .ref (ad 1) :: rest)) :=
  va_callr (va_runV (As := [.int p0]) (rest := rest) ⟨hx, hb, hml, hown, hts⟩ (c_X5_savedAt l D cy ad σ p0 i hi hp) (cwV 1 hts hG rfl rfl rfl (by decide +kernel) hR) (zpreV hj hK hw _ (i := 1) (ci := 4) (by decide) rfl rfl) rfl rfl hsz rfl (lv_room hrest) hdg hcs) hS (fun q _ h => by obtain ⟨i, hi, rfl⟩ := h; exact hA i hi) (fun q h => by obtain ⟨i, hi, rfl⟩ := h; exact hA i hi) (fun u ra t H1 locs1 ht _ hp hb _ _ hS1 => by
    obtain ⟨e1, hb⟩ := hb
    rw [hp] at hb
    rw [e1]
    exact kk H1 locs1 (by rw [← ht]; exact hb) hS1)
def wp_X5_push (σ : ST) (Q : ST → Prop) : Prop :=
  ∃ i : Nat, i < 4 ∧ (σ.2 40 + σ.2 41) - (σ.2 40 + σ.2 41) / jI 4 * jI 4 = jI i ∧ wp_X4_copyFrom σ (i + 1) 0 (fun s1 => (jI 4 ≤ s1.2 41 → (∀ s2 : ST, s2 = zsp s1 40 ((s1.2 40 + jI 1) - (s1.2 40 + jI 1) / jI 4 * jI 4) → Q s2)) ∧ (¬ jI 4 ≤ s1.2 41 → (∀ s2 : ST, s2 = zsp s1 41 (s1.2 41 + jI 1) → Q s2)))
def wp_X5_popInto (σ : ST) (Q : ST → Prop) : Prop :=
  ∃ i : Nat, i < 4 ∧ ((σ.2 40 + σ.2 41) - jI 1) - ((σ.2 40 + σ.2 41) - jI 1) / jI 4 * jI 4 = jI i ∧ ¬ σ.2 41 = jI 0 ∧ wp_X4_copyFrom σ 0 (i + 1) (fun s1 => (∀ s2 : ST, s2 = zsp s1 41 (s1.2 41 - jI 1) → Q s2))
set_option maxHeartbeats 4000000 in
set_option maxRecDepth 100000 in
theorem c_X5_push (l : Launch) (D : va_G) (cy : cyT) (ad : Nat → Nat) (σ : ST) {Q : ST → Prop} (h : wp_X5_push σ Q) : Met l yX5_push wsX5_push ({ frames := 3, cells := 0, slots := 0, locals := 82 } : Room) (zPre D cy 116 (zce cy ad σ) ad [.ref (ad 1), .ref (ad 5)]) (va_Qv Q (zB D 116 (zce cy ad) ad) (zA 116 ad)) 0 0 (zA 116 ad) := by
  refine Met.ofW (cc := cX5_push) (maxL := 3) (ret := none) (by decide) rfl ?_
  intro p e s m args below meth c s₁ B hml hv
  obtain ⟨rfl, hj, hK, hw⟩ := hv
  have hx := B.exec
  have hb := B.bytes
  have hr := B.returns
  have hts := atoms_spec (ws := wsX5_push) B.pre
  have hown : s.vm.findClass RX5 = some m.cls := findClass_of_methodNamed B.named
  have hlocks := B.notSynchronized
  have lkF : Cond.fieldLink RX5 17 "TypeTrays$UndoStack" "first" "I" ∈ wsX5_push := List.mem_of_getElem? (i := 1) rfl
  have lkC : Cond.fieldLink RX5 21 "TypeTrays$UndoStack" "count" "I" ∈ wsX5_push := List.mem_of_getElem? (i := 2) rfl
  have inX5 : ∀ w ∈ u_ws RX5 TX5 3, w ∈ wsX5_push := zin_at 46 rfl
  have hS : va_S (zA 116 ad) s.heap s.heap [] := va_S.rf
  have hA : ∀ i, i < 116 → zA 116 ad (ad i) := fun i hi => ⟨i, hi, rfl⟩
  have hl := lv_entry ([.ref (ad 1), .ref (ad 5)]) (n := 3) (Nat.le_of_ble_eq_true rfl)
  rw [lg_entry_eq]
  generalize (lg_sl ([.ref (ad 1), .ref (ad 5)]) ++ List.replicate (3 - (lg_sl ([.ref (ad 1), .ref (ad 5)])).length) Slot.unset).toArray = ls at hl ⊢
  have hl : lv_has ls 3 [(0, .ref (ad 1)), (1, .ref (ad 5))] := hl
  obtain ⟨i, hi, hp, h⟩ := h
  refine lv_aload_n hx hb dX5_push_0 rfl (lv_at hl 0 rfl) ?_
  refine lv_aload_n hx hb dX5_push_1 rfl (lv_at hl 0 rfl) ?_
  refine zget hx hb hts inX5 hown hK hw 1 (by decide) rfl rfl 1 (by decide) lkF (fun _ h9 => h9) rfl dX5_push_2 ?_
  refine lv_aload_n hx hb dX5_push_5 rfl (lv_at hl 0 rfl) ?_
  refine zget hx hb hts inX5 hown hK hw 1 (by decide) rfl rfl 2 (by decide) lkC (fun _ h9 => h9) rfl dX5_push_6 ?_
  refine lv_iadd hx hb dX5_push_9 ?_
  refine k_X5_savedAt (rest := []) hx hb hml hown hts gX5_push_X5_savedAt ⟨Nat.le_of_ble_eq_true rfl, Nat.le_of_ble_eq_true rfl⟩ ⟨Nat.zero_le _, Nat.zero_le _⟩ hK hj hw hA hS hl.1 (Nat.le_of_ble_eq_true rfl) i hi hp dX5_push_10 (fun H locs hw hS => ?_)
  refine lv_astore_n (lv' := [(2, .ref (ad (i + 6))), (0, .ref (ad 1)), (1, .ref (ad 5))]) hx hb dX5_push_13 rfl hl (by decide) rfl (fun ls hl => ?_)
  refine lv_aload_n hx hb dX5_push_14 rfl (lv_at hl 0 rfl) ?_
  refine lv_ifnonnull (tgt := 19) hx hb dX5_push_15 (by decide) ?_
  refine lv_aload_n hx hb dX5_push_19 rfl (lv_at hl 0 rfl) ?_
  refine lv_aload_n hx hb dX5_push_20 rfl (lv_at hl 2 rfl) ?_
  refine k_X4_copyFrom (rest := []) hx hb hml hown hts gX5_push_X4_copyFrom ⟨Nat.le_of_ble_eq_true rfl, Nat.le_of_ble_eq_true rfl⟩ ⟨Nat.zero_le _, Nat.zero_le _⟩ hK hj hw hA hS hl.1 (Nat.le_of_ble_eq_true rfl) (i + 1) 0 (by omega) (by omega) dX5_push_21 h (fun s1 H locs h hw hS => ?_)
  refine lv_aload_n hx hb dX5_push_24 rfl (lv_at hl 1 rfl) ?_
  refine zget hx hb hts inX5 hown hK hw 1 (by decide) rfl rfl 2 (by decide) lkC (fun _ h9 => h9) rfl dX5_push_25 ?_
  refine lv_iconst (v := jI 4) hx hb dX5_push_28 rfl ?_
  refine lv_icmp_ge (tgt := 45) hx hb dX5_push_29 (by decide) (fun c1 => ?_) (fun c1 => ?_)
  · have h := h.1 c1
    refine lv_aload_n hx hb dX5_push_45 rfl (lv_at hl 1 rfl) ?_
    refine lv_aload_n hx hb dX5_push_46 rfl (lv_at hl 1 rfl) ?_
    refine zget hx hb hts inX5 hown hK hw 1 (by decide) rfl rfl 1 (by decide) lkF (fun _ h9 => h9) rfl dX5_push_47 ?_
    refine lv_iconst (v := jI 1) hx hb dX5_push_50 rfl ?_
    refine lv_iadd hx hb dX5_push_51 ?_
    refine lv_iconst (v := jI 4) hx hb dX5_push_52 rfl ?_
    refine lv_irem hx hb dX5_push_53 (by decide +kernel) ?_
    obtain ⟨s2, es2⟩ : ∃ y : ST, y = zsp s1 40 ((s1.2 40 + jI 1) - (s1.2 40 + jI 1) / jI 4 * jI 4) := ⟨_, rfl⟩
    have h := h s2 es2
    refine zput (ty := .int) hx hb hts inX5 tyX5 tyX5_ok nmX5 hown hK hj hw hA hS 1 (by decide) rfl rfl 1 (by decide) lkF (fun _ h9 => h9) rfl (by decide +kernel) rfl rfl (Nat.le_of_ble_eq_true rfl) dX5_push_54 (zce cy ad s2) (by rw [es2]; rfl) (fun j hj9 => by rw [es2]; exact zsp_off_C_40 j hj9) (fun H locs hw hS => ?_)
    exact W.vret hx hb hr (fun t ht hW => ⟨⟨_, rfl, h, zend hw ht⟩, hS.F ht⟩) hS.2.2 dX5_push_57
  · have h := h.2 c1
    refine lv_aload_n hx hb dX5_push_32 rfl (lv_at hl 1 rfl) ?_
    refine lv_dup hx hb dX5_push_33 rfl ?_
    refine zget hx hb hts inX5 hown hK hw 1 (by decide) rfl rfl 2 (by decide) lkC (fun _ h9 => h9) rfl dX5_push_34 ?_
    refine lv_iconst (v := jI 1) hx hb dX5_push_37 rfl ?_
    refine lv_iadd hx hb dX5_push_38 ?_
    obtain ⟨s2, es2⟩ : ∃ y : ST, y = zsp s1 41 (s1.2 41 + jI 1) := ⟨_, rfl⟩
    have h := h s2 es2
    refine zput (ty := .int) hx hb hts inX5 tyX5 tyX5_ok nmX5 hown hK hj hw hA hS 1 (by decide) rfl rfl 2 (by decide) lkC (fun _ h9 => h9) rfl (by decide +kernel) rfl rfl (Nat.le_of_ble_eq_true rfl) dX5_push_39 (zce cy ad s2) (by rw [es2]; rfl) (fun j hj9 => by rw [es2]; exact zsp_off_C_41 j hj9) (fun H locs hw hS => ?_)
    refine lv_goto (tgt := 57) hx hb dX5_push_42 (by decide) ?_
    exact W.vret hx hb hr (fun t ht hW => ⟨⟨_, rfl, h, zend hw ht⟩, hS.F ht⟩) hS.2.2 dX5_push_57
theorem k_X5_push {p : Program} {l : Launch} {e : Env} {R : Room} {s : State} {m : MethodId} {args : Array Value} {below : List Frame} {meth : Method} {c : Code} {H : Heap} {locs : List Loc} {cells slots : Nat} {QQ : State → Prop} {cc : ByteArray} {pc nL index : Nat} {ls : Array Slot} {rest : List Value} {D : va_G} {cy : cyT} {ad : Nat → Nat} {own : String} {Ts : List Cond} {H0 : Heap} {σ : ST} {Q : ST → Prop} (hx : p.tables.exec = Jvm.exec) (hb : c.code = cc) (hml : c.maxLocals = nL) (hown : s.vm.findClass own = some m.cls) (hts : ∀ w ∈ Ts, w.before args s = true) (hG : GoodIn Ts (wsV own index RX5 yX5_push wsX5_push)) (hR : 3 + 1 ≤ R.frames ∧ 8 + (3 + 11) + 82 ≤ R.locals) (hcs : cells ≤ R.cells ∧ slots ≤ R.slots) (hK : zK D cy s) (hj : zI 116 ad) (hw : zW D 116 (zce cy ad σ) ad H) {A0 : Nat → Prop} (hA : ∀ i, i < 116 → A0 (ad i)) (hS : va_S A0 H0 H locs) (hsz : ls.size = nL) (hrest : (rest.map fun v => v.category).sum ≤ 8) (hdg : decode cc pc = .ok (.invokevirtual index, 3)) (h : wp_X5_push σ Q) (kk : ∀ (σ : ST) (H : Heap) (locs : List Loc), Q σ → zW D 116 (zce cy ad σ) ad H → va_S A0 H0 H locs → W p l e R s m args below meth c H locs cells slots QQ (F0 m (pc + 3) ls rest)) : W p l e R s m args below meth c H locs cells slots QQ (F0 m pc ls (.ref (ad 5) :: .ref (ad 1) :: rest)) :=
  zcallv (va_runV (As := [.ref (ad 5)]) (rest := rest) ⟨hx, hb, hml, hown, hts⟩ (c_X5_push l D cy ad σ h) (cwV 1 hts hG rfl rfl rfl (by decide +kernel) hR) (zpreV hj hK hw _ (i := 1) (ci := 4) (by decide) rfl rfl) rfl rfl hsz rfl (lv_room hrest) hdg hcs) hA hS kk
set_option maxHeartbeats 4000000 in
set_option maxRecDepth 100000 in
theorem c_X5_popInto (l : Launch) (D : va_G) (cy : cyT) (ad : Nat → Nat) (σ : ST) {Q : ST → Prop} (h : wp_X5_popInto σ Q) : Met l yX5_popInto wsX5_popInto ({ frames := 3, cells := 0, slots := 0, locals := 82 } : Room) (zPre D cy 116 (zce cy ad σ) ad [.ref (ad 1), .ref (ad 5)]) (va_Qv Q (zB D 116 (zce cy ad) ad) (zA 116 ad)) 0 0 (zA 116 ad) := by
  refine Met.ofW (cc := cX5_popInto) (maxL := 3) (ret := none) (by decide) rfl ?_
  intro p e s m args below meth c s₁ B hml hv
  obtain ⟨rfl, hj, hK, hw⟩ := hv
  have hx := B.exec
  have hb := B.bytes
  have hr := B.returns
  have hts := atoms_spec (ws := wsX5_popInto) B.pre
  have hown : s.vm.findClass RX5 = some m.cls := findClass_of_methodNamed B.named
  have hlocks := B.notSynchronized
  have lkF : Cond.fieldLink RX5 17 "TypeTrays$UndoStack" "first" "I" ∈ wsX5_popInto := List.mem_of_getElem? (i := 1) rfl
  have lkC : Cond.fieldLink RX5 21 "TypeTrays$UndoStack" "count" "I" ∈ wsX5_popInto := List.mem_of_getElem? (i := 2) rfl
  have inX5 : ∀ w ∈ u_ws RX5 TX5 3, w ∈ wsX5_popInto := zin_at 46 rfl
  have hS : va_S (zA 116 ad) s.heap s.heap [] := va_S.rf
  have hA : ∀ i, i < 116 → zA 116 ad (ad i) := fun i hi => ⟨i, hi, rfl⟩
  have hl := lv_entry ([.ref (ad 1), .ref (ad 5)]) (n := 3) (Nat.le_of_ble_eq_true rfl)
  rw [lg_entry_eq]
  generalize (lg_sl ([.ref (ad 1), .ref (ad 5)]) ++ List.replicate (3 - (lg_sl ([.ref (ad 1), .ref (ad 5)])).length) Slot.unset).toArray = ls at hl ⊢
  have hl : lv_has ls 3 [(0, .ref (ad 1)), (1, .ref (ad 5))] := hl
  obtain ⟨i, hi, hp, hc0, h⟩ := h
  refine lv_aload_n hx hb dX5_popInto_0 rfl (lv_at hl 0 rfl) ?_
  refine lv_aload_n hx hb dX5_popInto_1 rfl (lv_at hl 0 rfl) ?_
  refine zget hx hb hts inX5 hown hK hw 1 (by decide) rfl rfl 1 (by decide) lkF (fun _ h9 => h9) rfl dX5_popInto_2 ?_
  refine lv_aload_n hx hb dX5_popInto_5 rfl (lv_at hl 0 rfl) ?_
  refine zget hx hb hts inX5 hown hK hw 1 (by decide) rfl rfl 2 (by decide) lkC (fun _ h9 => h9) rfl dX5_popInto_6 ?_
  refine lv_iadd hx hb dX5_popInto_9 ?_
  refine lv_iconst (v := jI 1) hx hb dX5_popInto_10 rfl ?_
  refine lv_isub hx hb dX5_popInto_11 ?_
  refine k_X5_savedAt (rest := []) hx hb hml hown hts gX5_popInto_X5_savedAt ⟨Nat.le_of_ble_eq_true rfl, Nat.le_of_ble_eq_true rfl⟩ ⟨Nat.zero_le _, Nat.zero_le _⟩ hK hj hw hA hS hl.1 (Nat.le_of_ble_eq_true rfl) i hi hp dX5_popInto_12 (fun H locs hw hS => ?_)
  refine lv_astore_n (lv' := [(2, .ref (ad (i + 6))), (0, .ref (ad 1)), (1, .ref (ad 5))]) hx hb dX5_popInto_15 rfl hl (by decide) rfl (fun ls hl => ?_)
  refine lv_aload_n hx hb dX5_popInto_16 rfl (lv_at hl 0 rfl) ?_
  refine lv_ifnull hx hb dX5_popInto_17 ?_
  refine lv_aload_n hx hb dX5_popInto_20 rfl (lv_at hl 1 rfl) ?_
  refine zget hx hb hts inX5 hown hK hw 1 (by decide) rfl rfl 2 (by decide) lkC (fun _ h9 => h9) rfl dX5_popInto_21 ?_
  refine zif_ne (tgt := 28) hx hb dX5_popInto_24 (by decide) (fun c1 => ?_) (fun c1 => absurd c1 hc0)
  refine lv_aload_n hx hb dX5_popInto_28 rfl (lv_at hl 2 rfl) ?_
  refine lv_aload_n hx hb dX5_popInto_29 rfl (lv_at hl 0 rfl) ?_
  refine k_X4_copyFrom (rest := []) hx hb hml hown hts gX5_popInto_X4_copyFrom ⟨Nat.le_of_ble_eq_true rfl, Nat.le_of_ble_eq_true rfl⟩ ⟨Nat.zero_le _, Nat.zero_le _⟩ hK hj hw hA hS hl.1 (Nat.le_of_ble_eq_true rfl) 0 (i + 1) (by omega) (by omega) dX5_popInto_30 h (fun s1 H locs h hw hS => ?_)
  refine lv_aload_n hx hb dX5_popInto_33 rfl (lv_at hl 1 rfl) ?_
  refine lv_dup hx hb dX5_popInto_34 rfl ?_
  refine zget hx hb hts inX5 hown hK hw 1 (by decide) rfl rfl 2 (by decide) lkC (fun _ h9 => h9) rfl dX5_popInto_35 ?_
  refine lv_iconst (v := jI 1) hx hb dX5_popInto_38 rfl ?_
  refine lv_isub hx hb dX5_popInto_39 ?_
  obtain ⟨s2, es2⟩ : ∃ y : ST, y = zsp s1 41 (s1.2 41 - jI 1) := ⟨_, rfl⟩
  have h := h s2 es2
  refine zput (ty := .int) hx hb hts inX5 tyX5 tyX5_ok nmX5 hown hK hj hw hA hS 1 (by decide) rfl rfl 2 (by decide) lkC (fun _ h9 => h9) rfl (by decide +kernel) rfl rfl (Nat.le_of_ble_eq_true rfl) dX5_popInto_40 (zce cy ad s2) (by rw [es2]; rfl) (fun j hj9 => by rw [es2]; exact zsp_off_C_41 j hj9) (fun H locs hw hS => ?_)
  exact W.vret hx hb hr (fun t ht hW => ⟨⟨_, rfl, h, zend hw ht⟩, hS.F ht⟩) hS.2.2 dX5_popInto_43
theorem k_X5_popInto {p : Program} {l : Launch} {e : Env} {R : Room} {s : State} {m : MethodId} {args : Array Value} {below : List Frame} {meth : Method} {c : Code} {H : Heap} {locs : List Loc} {cells slots : Nat} {QQ : State → Prop} {cc : ByteArray} {pc nL index : Nat} {ls : Array Slot} {rest : List Value} {D : va_G} {cy : cyT} {ad : Nat → Nat} {own : String} {Ts : List Cond} {H0 : Heap} {σ : ST} {Q : ST → Prop} (hx : p.tables.exec = Jvm.exec) (hb : c.code = cc) (hml : c.maxLocals = nL) (hown : s.vm.findClass own = some m.cls) (hts : ∀ w ∈ Ts, w.before args s = true) (hG : GoodIn Ts (wsV own index RX5 yX5_popInto wsX5_popInto)) (hR : 3 + 1 ≤ R.frames ∧ 8 + (3 + 11) + 82 ≤ R.locals) (hcs : cells ≤ R.cells ∧ slots ≤ R.slots) (hK : zK D cy s) (hj : zI 116 ad) (hw : zW D 116 (zce cy ad σ) ad H) {A0 : Nat → Prop} (hA : ∀ i, i < 116 → A0 (ad i)) (hS : va_S A0 H0 H locs) (hsz : ls.size = nL) (hrest : (rest.map fun v => v.category).sum ≤ 8) (hdg : decode cc pc = .ok (.invokevirtual index, 3)) (h : wp_X5_popInto σ Q) (kk : ∀ (σ : ST) (H : Heap) (locs : List Loc), Q σ → zW D 116 (zce cy ad σ) ad H → va_S A0 H0 H locs → W p l e R s m args below meth c H locs cells slots QQ (F0 m (pc + 3) ls rest)) : W p l e R s m args below meth c H locs cells slots QQ (F0 m pc ls (.ref (ad 5) :: .ref (ad 1) :: rest)) :=
  zcallv (va_runV (As := [.ref (ad 5)]) (rest := rest) ⟨hx, hb, hml, hown, hts⟩ (c_X5_popInto l D cy ad σ h) (cwV 1 hts hG rfl rfl rfl (by decide +kernel) hR) (zpreV hj hK hw _ (i := 1) (ci := 4) (by decide) rfl rfl) rfl rfl hsz rfl (lv_room hrest) hdg hcs) hA hS kk
theorem last_07 : True := trivial
