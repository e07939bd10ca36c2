/-! the law from its entry to its end, out of what the two sides owe -/
theorem dfX7 : ∀ j, j < 16 → defaultValue (tyX7 j) = vp_V [.null, .null, .int 0, .int 0, .null, .int 0, .int 0, .int 0, .int 0, .int 0, .int 0, .null, .int 0, .int 0, .null, .int 0] j := by
  intro j hj9
  rcases j with _ | _ | _ | _ | _ | _ | _ | _ | _ | _ | _ | _ | _ | _ | _ | _ | j <;> first | rfl | omega
set_option maxHeartbeats 4000000 in
set_option maxRecDepth 100000 in
theorem law_start {p : Program} {e : Env} {s : State} {m : MethodId} {below : List Frame} {meth : Method} {c : Code} (l : Launch) (hflags : l.flags = flags0) {b L : Nat} {xs : Nat → Int32} (hL : L ≤ 2560) (C0 : lw_At p s m meth c b L xs) (I : Nat → ST → ST → Prop) (h0 : I 0 sC0 sM0) (hI : Sims I) : W p l e room_1 s m #[Value.ref b] below meth c s.heap [] 0 0 (lw_Z below #[Value.ref b] s) (entryFrame m ([Value.ref b] : List Value).toArray 7) := by
  have hlt : l.stackTraces = false := by
    show (!l.flags.contains noTraceFlag) = false
    rw [hflags]
    decide +kernel
  obtain ⟨hx, hb, hr, hml, hown, hts0, hX, hbl, hlocks, hgv⟩ := C0
  have hown : s.vm.findClass RL = some m.cls := hown
  have hts : ∀ w ∈ wsL_law, w.before #[Value.ref b] s = true := fun w h => hts0 w (wsL_law_in w h)
  obtain ⟨D, cy, hK, hkK⟩ := lf_K hts0
  obtain ⟨cL, hLo, hLf⟩ := lf_L hts0
  have hCa := lf_C hts0 hgv
  obtain ⟨aK, aV, hZ⟩ := lf_S hts0 hgv
  obtain ⟨sa, hZX⟩ := lf_X hts0 hgv
  obtain ⟨ad, hadk⟩ : ∃ ad : Nat → Nat, ∀ k, ad k = s.heap.size + k := ⟨fun k => s.heap.size + k, fun _ => rfl⟩
  have hj : ∀ n, zI n ad := fun n i j _ _ h => by rw [hadk, hadk] at h; omega
  have hA : ∀ i, s.heap.size ≤ ad i := fun i => by rw [hadk]; omega
  have hS : va_S (fun q => s.heap.size ≤ q) s.heap s.heap [] := va_S.rf
  have hl := lv_entry ([.ref b]) (n := 7) (Nat.le_of_ble_eq_true rfl)
  rw [lg_entry_eq]
  generalize (lg_sl ([.ref b]) ++ List.replicate (7 - (lg_sl ([.ref b])).length) Slot.unset).toArray = ls at hl ⊢
  have hl : lv_has ls 7 [(0, .ref b)] := hl
  have hw : zV D [] ad s.heap := fun i e h => by simp at h
  refine vnew (es := []) (ad := ad) (C := RX6) (T := TX6) (N := 4) (ci := 5) hx hb hts0 inX6 tyX6 tyX6_ok hown (by decide +kernel) (by decide +kernel) (by decide +kernel) hK hw 0 rfl (hadk 0) hS rfl [.null, .null, .null, .null] dfX6 (Nat.le_of_ble_eq_true rfl) (Nat.le_of_ble_eq_true rfl) dL_law_0 (fun H hz1 hw hS => ?_)
  have hz : H.size = s.heap.size + 1 := hz1
  refine lv_dup hx hb dL_law_3 rfl ?_
  refine icall (es0 := []) (e0 := .inr (5, [.null, .null, .null, .null])) (lX := lT cy) (k := 0) (kX := 115) rfl hw (fun j => by rw [hz, hadk]; omega) (hj 1) (va_runI (As := []) (rest := [.ref (ad 0)]) ⟨hx, hb, hml, hown, hts⟩ (c_X6_init l D cy (ad 0) H.size) (cwI 0 hts gL_law_X6_init rfl rfl rfl (hts0 (.initialized RX6) (by decide +kernel)) (hts0 (.methodLink RL 68 yX6_init) (by decide +kernel)) (hts0 (.instanceMethod yX6_init) (by decide +kernel)) rfl (by decide +kernel) ⟨(Nat.le_of_ble_eq_true rfl), (Nat.le_of_ble_eq_true rfl)⟩) (ipre zKeep_ao (hw 0 _ rfl).lt hK hkK (hw 0 _ rfl)) rfl rfl hl.1 rfl (lv_room (Nat.le_of_ble_eq_true rfl)) dL_law_4 ⟨(Nat.le_of_ble_eq_true rfl), (Nat.le_of_ble_eq_true rfl)⟩) hS (fun q h => h.elim (fun z => z ▸ hA 0) (fun z => Nat.le_trans hS.1 z)) (fun H locs hz1 hw hS => ?_)
  have hz : H.size = s.heap.size + 116 := by omega
  have hw : zV D (lT cy ad) ad H := hw
  refine lv_astore_n (lv' := [(1, .ref (ad 0)), (0, .ref b)]) hx hb dL_law_7 rfl hl (by decide) rfl (fun ls hl => ?_)
  refine vnew (es := lT cy ad) (ad := ad) (C := RX7) (T := TX7) (N := 16) (ci := 6) hx hb hts0 inX7 tyX7 tyX7_ok hown (by decide +kernel) (by decide +kernel) (by decide +kernel) hK hw 116 rfl (by rw [hz]; exact hadk 116) hS rfl [.null, .null, .int 0, .int 0, .null, .int 0, .int 0, .int 0, .int 0, .int 0, .int 0, .null, .int 0, .int 0, .null, .int 0] dfX7 (Nat.le_of_ble_eq_true rfl) (Nat.le_of_ble_eq_true rfl) dL_law_8 (fun H hz1 hw hS => ?_)
  have hz : H.size = s.heap.size + 117 := by omega
  refine lv_dup hx hb dL_law_11 rfl ?_
  refine icall (es0 := lT cy ad) (e0 := .inr (6, [.null, .null, .int 0, .int 0, .null, .int 0, .int 0, .int 0, .int 0, .int 0, .int 0, .null, .int 0, .int 0, .null, .int 0])) (lX := lM cy (g2 144)) (k := 116) (kX := 5) rfl hw (fun j => by rw [hz, hadk]; omega) (hj 117) (va_runI (As := []) (rest := [.ref (ad 116)]) ⟨hx, hb, hml, hown, hts⟩ (c_X7_init l D cy (ad 116) H.size) (cwI 0 hts gL_law_X7_init rfl rfl rfl (hts0 (.initialized RX7) (by decide +kernel)) (hts0 (.methodLink RL 71 yX7_init) (by decide +kernel)) (hts0 (.instanceMethod yX7_init) (by decide +kernel)) rfl (by decide +kernel) ⟨(Nat.le_of_ble_eq_true rfl), (Nat.le_of_ble_eq_true rfl)⟩) (ipre zKeep_no (hw 116 _ rfl).lt hK trivial (hw 116 _ rfl)) rfl rfl hl.1 rfl (lv_room (Nat.le_of_ble_eq_true rfl)) dL_law_12 ⟨(Nat.le_of_ble_eq_true rfl), (Nat.le_of_ble_eq_true rfl)⟩) hS (fun q h => h.elim (fun z => z ▸ hA 116) (fun z => Nat.le_trans hS.1 z)) (fun H locs hz1 hw hS => ?_)
  have hz : H.size = s.heap.size + 122 := by omega
  refine lv_astore_n (lv' := [(2, .ref (ad 116)), (1, .ref (ad 0)), (0, .ref b)]) hx hb dL_law_15 rfl hl (by decide) rfl (fun ls hl => ?_)
  refine lv_iconst (v := jI 1) hx hb dL_law_16 rfl ?_
  refine va_newaK hx hb (hts0 _ (by decide +kernel)) rfl dL_law_17 rfl (by decide +kernel) (N := 1) (by decide +kernel) (by decide) (Nat.le_of_ble_eq_true rfl) (Nat.le_of_ble_eq_true rfl) rfl (fun H1 cA e1 z1 o1 _ hNm => ?_)
  cases hLf.symm.trans hNm
  have hz2 : H1.size = s.heap.size + 123 := by omega
  have hwT : zV D (lT cy ad) ad H1 := fun i x hx9 => by
    have hi := (List.getElem?_eq_some_iff.mp hx9).1
    have h9 := hw i x (by rw [List.getElem?_append_left hi]; exact hx9)
    exact h9.kept (o1 _ h9.lt)
  have hwM : zV D (lM cy (g2 144) (fun j => ad (j + 116))) (fun j => ad (j + 116)) H1 := fun i x hx9 => by
    have e9 : (lT cy ad ++ lM cy (g2 144) (fun j => ad (j + 116)))[i + 116]? = some x := by
      have hlen : (lT cy ad).length = 116 := rfl
      rw [List.getElem?_append_right (by rw [hlen]; omega), hlen, Nat.add_sub_cancel]
      exact hx9
    have h9 := hw (i + 116) x e9
    exact h9.kept (o1 _ h9.lt)
  have hS1 : va_S (fun q => s.heap.size ≤ q) s.heap H1 locs := ⟨by omega, fun x h1 h2 => (o1 x (Nat.lt_of_lt_of_le h1 hS.1)).trans (hS.2.1 x h1 h2), hS.2.2⟩
  refine va_forget hS1.2.2 ?_
  have hO : zO cL 0 (ad 122) H1 := by
    show H1[ad 122]? = some (vp_cell _ _)
    rw [show ad 122 = H.size by rw [hz]; exact hadk 122, e1, vp_cell_l]
    rfl
  have hLA : LA (adT ad) (fun j => ad (j + 116)) (ad 122) s.heap.size := by
    refine ⟨zI.perm (hj 116), fun i j hi hj2 e9 => ?_, fun i _ => hA _, fun j _ => hA _, hA _, fun i hi e9 => ?_, fun j hj2 e9 => ?_, fun i hi j hj2 e9 => ?_⟩
    · dsimp only at e9
      rw [hadk, hadk] at e9; omega
    · have := permT_lt i hi
      unfold adT at e9
      try dsimp only at e9
      rw [hadk, hadk] at e9; omega
    · dsimp only at e9
      rw [hadk, hadk] at e9; omega
    · have := permT_lt i hi
      unfold adT at e9
      try dsimp only at e9
      rw [hadk, hadk] at e9; omega
  have hLW : LW D cy cL (adT ad) (fun j => ad (j + 116)) (ad 122) s.heap sC0 sM0 0 H1 := ⟨⟨hS1.1, hS1.2.1, fun _ h => nomatch h⟩, zW_T hwT, zW_M hwM, hO⟩
  have hg9 : ∀ ls : Array Slot, lv_has ls 7 [(2, .ref (ad 116)), (1, .ref (ad 0)), (0, .ref b)] → W p l e room_1 s m #[Value.ref b] below meth c H1 [] 123 11302 (lw_Z below #[Value.ref b] s) (F0 m 19 ls [.ref (ad 122)]) := by
    intro ls hl
    refine lv_astore_n (lv' := [(3, .ref (ad 122)), (2, .ref (ad 116)), (1, .ref (ad 0)), (0, .ref b)]) hx hb dL_law_19 rfl hl (by decide) rfl (fun ls hl => ?_)
    refine lv_iconst (v := jI 0) hx hb dL_law_20 rfl ?_
    refine lv_istore (lv' := [(4, .int (jI 0)), (3, .ref (ad 122)), (2, .ref (ad 116)), (1, .ref (ad 0)), (0, .ref b)]) hx hb dL_law_21 hl (by decide) rfl (fun ls hl => ?_)
    have e0 : jI 0 = jI (5 * ((0 : Nat) : Int)) := by decide +kernel
    rw [e0] at hl
    exact law_loop hr hlocks ⟨hx, hb, hml, hown, hts, hX, hbl, hL, hK, hZX, hZ, hLo, hCa, hLA, hlt⟩ I hI 512 0 rfl sC0 sM0 0 H1 ls h0 hLW (lv_sub hl [0, 4, 3, 2, 1] rfl)
  refine W.widen (k := 123) (n := 11302) (Nat.le_of_ble_eq_true rfl) (Nat.le_of_ble_eq_true rfl) ?_
  have e122 : H.size = ad 122 := by rw [hz]; exact (hadk 122).symm
  rw [e122]
  exact hg9 ls hl
theorem last_31 : True := trivial
