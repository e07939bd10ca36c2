/-! printed by wip/whole/gen7.py -/
set_option maxHeartbeats 4000000 in
set_option maxRecDepth 100000 in
theorem law_loop {p : Program} {l : Launch} {e : Env} {s : State} {m : MethodId} {below : List Frame} {meth : Method} {c : Code} {b L : Nat} {xs : Nat → Int32} {D : va_G} {cy : cyT} {cL : ClassId} {sa aK aV ad am : Nat → Nat} {o : Nat} (hr : meth.sig.returnType = ret) (hlocks : meth.locks = false) (C : LX p l s m #[Value.ref b] c b L xs D cy cL sa aK aV ad am o) (I : Nat → ST → ST → Prop) (hI : Sims I) : ∀ (k n : Nat), n + k = 512 → ∀ (σ μ : ST) (v : Int64) (H : Heap) (ls : Array Slot), I n σ μ → LW D cy cL ad am o s.heap σ μ v H → lv_has ls 7 [(4, .int (jI (5 * (n : Int)))), (0, .ref b), (1, .ref (ad 0)), (2, .ref (am 0)), (3, .ref o)] → W p l e room_1 s m #[Value.ref b] below meth c H [] (123 + 2 * n) (11302 + 12 * n) (lw_Z below #[Value.ref b] s) (F0 m 23 ls []) := by
  have hC := C
  obtain ⟨hx, hb, hml, hown, hts, hX, hbl, hL, hK, hZX, hZ, hLo, hCa, hA, hlt⟩ := hC
  intro k
  induction k with
  | zero =>
    intro n hn σ μ v H ls hi hW hl
    refine lv_iload hx hb dL_law_23 (lv_at hl 0 rfl) ?_
    refine lv_aload_n hx hb dL_law_25 rfl (lv_at hl 1 rfl) ?_
    refine va_slen hx hb hX hbl (Nat.not_le.mpr hbl) hW.1 dL_law_26 ?_
    rw [show Int32.ofNat L = jI L from jI_nI L]
    refine lv_iconst (v := jI 5) hx hb dL_law_27 rfl ?_
    refine lv_isub hx hb dL_law_28 ?_
    rw [jI_sub]
    refine lv_icmp_gt (tgt := 1366) hx hb dL_law_29 (by decide) (fun _ => ?_) (fun c9 => absurd ((jI_lt (by omega) (by omega) (by omega) (by omega)).mpr (by omega)) c9)
    refine lv_iconst (v := 1) hx hb dL_law_1366 rfl ?_
    refine W.widen (k := 601024) (n := 7293034) (by omega) (by omega) ?_
    exact lw_ret hx hb hr hlocks dL_law_1367
  | succ k ih =>
    intro n hn σ μ v H ls hi hW hl
    refine lv_iload hx hb dL_law_23 (lv_at hl 0 rfl) ?_
    refine lv_aload_n hx hb dL_law_25 rfl (lv_at hl 1 rfl) ?_
    refine va_slen hx hb hX hbl (Nat.not_le.mpr hbl) hW.1 dL_law_26 ?_
    rw [show Int32.ofNat L = jI L from jI_nI L]
    refine lv_iconst (v := jI 5) hx hb dL_law_27 rfl ?_
    refine lv_isub hx hb dL_law_28 ?_
    rw [jI_sub]
    refine lv_icmp_gt (tgt := 1366) hx hb dL_law_29 (by decide) (fun _ => ?_) (fun c9 => ?_)
    · refine lv_iconst (v := 1) hx hb dL_law_1366 rfl ?_
      refine W.widen (k := 601024) (n := 7293034) (by omega) (by omega) ?_
      exact lw_ret hx hb hr hlocks dL_law_1367
    · have hn5 : 5 * n + 5 ≤ L := by
        have h9 : ¬ ((L : Int) - 5 < 5 * (n : Int)) := fun q => c9 ((jI_lt (a := (L : Int) - 5) (b := 5 * (n : Int)) (by omega) (by omega) (by omega) (by omega)).mpr q)
        omega
      obtain ⟨y, hy⟩ : ∃ y : Nat → Int32, ∀ j : Nat, j < 5 → xs (jI (5 * n + j)).toNatClampNeg = y j := ⟨fun j => xs (jI (5 * n + j)).toNatClampNeg, fun _ _ => rfl⟩
      have kk : ∀ (σ' μ' : ST) (v' : Int64) (H1 : Heap) (ls : Array Slot), I (n + 1) σ' μ' → LW D cy cL ad am o s.heap σ' μ' v' H1 → lv_has ls 7 [(4, .int (jI (5 * (n : Int)))), (0, .ref b), (1, .ref (ad 0)), (2, .ref (am 0)), (3, .ref o)] → W p l e room_1 s m #[Value.ref b] below meth c H1 [] (123 + 2 * n + 2) (11302 + 12 * n + 12) (lw_Z below #[Value.ref b] s) (F0 m 1360 ls []) := by
        intro σ' μ' v' H1 ls hi1 hW1 hl1
        refine lv_iinc (v := jI (5 * ((n + 1 : Nat) : Int))) (lv' := [(4, .int (jI (5 * ((n + 1 : Nat) : Int)))), (0, .ref b), (1, .ref (ad 0)), (2, .ref (am 0)), (3, .ref o)]) hx hb dL_law_1360 hl1 (k := 0) rfl (by rw [show Int32.ofInt 5 = jI 5 from rfl, jI_add]; exact congrArg jI (by omega)) (by decide) rfl (fun ls hl => ?_)
        refine lv_goto (tgt := 23) hx hb dL_law_1363 (by decide) ?_
        exact ih (n + 1) (by omega) σ' μ' v' H1 ls hi1 hW1 hl
      have hc : 123 + 2 * n + 2 ≤ 601024 := by omega
      have hs : 11302 + 12 * n + 12 ≤ 7293034 := by omega
      refine lv_aload_n hx hb dL_law_32 rfl (lv_at hl 1 rfl) ?_
      refine lv_iload hx hb dL_law_33 (lv_at hl 0 rfl) ?_
      refine va_sld hx hb hX hbl (Nat.not_le.mpr hbl) hW.1 (jI_in (by omega) (by omega) (by omega)) dL_law_35 ?_
      refine lv_bipush (v := jI 31) hx hb dL_law_36 (by decide +kernel) ?_
      refine lv_iand hx hb dL_law_38 ?_
      refine lv_topi (fun x ex => ?_)
      rcases Classical.em (x = jI 0) with c0 | c0
      · refine lv_tableIn (tgt := 144) (off := 105) hx hb dL_law_39 (by rw [c0]; decide +kernel) (by rw [c0]; decide +kernel) (by rw [c0]; decide +kernel) (by decide) ?_
        exact lb_cut C hn5 hy hc hs hl hW (I (n + 1)) (hI.1 n σ μ v (y 1) (y 2) (y 3) (by omega) hi) kk
      rcases Classical.em (x = jI 1) with c1 | c1
      · refine lv_tableIn (tgt := 224) (off := 185) hx hb dL_law_39 (by rw [c1]; decide +kernel) (by rw [c1]; decide +kernel) (by rw [c1]; decide +kernel) (by decide) ?_
        exact lb_use C hn5 hy hc hs hl hW (I (n + 1)) (hI.2.1 n σ μ v (y 1) (y 2) (y 3) (by omega) hi) kk
      rcases Classical.em (x = jI 2) with c2 | c2
      · refine lv_tableIn (tgt := 304) (off := 265) hx hb dL_law_39 (by rw [c2]; decide +kernel) (by rw [c2]; decide +kernel) (by rw [c2]; decide +kernel) (by decide) ?_
        exact lb_drop C hn5 hy hc hs hl hW (I (n + 1)) (hI.2.2.1 n σ μ v (y 1) (y 2) (y 3) (by omega) hi) kk
      rcases Classical.em (x = jI 3) with c3 | c3
      · refine lv_tableIn (tgt := 384) (off := 345) hx hb dL_law_39 (by rw [c3]; decide +kernel) (by rw [c3]; decide +kernel) (by rw [c3]; decide +kernel) (by decide) ?_
        exact lb_newLine C hn5 hy hc hs hl hW (I (n + 1)) (hI.2.2.2.1 n σ μ (by omega) hi) kk
      rcases Classical.em (x = jI 4) with c4 | c4
      · refine lv_tableIn (tgt := 397) (off := 358) hx hb dL_law_39 (by rw [c4]; decide +kernel) (by rw [c4]; decide +kernel) (by rw [c4]; decide +kernel) (by decide) ?_
        exact lb_addTray C hn5 hy hc hs hl hW (I (n + 1)) (hI.2.2.2.2.1 n σ μ v (by omega) hi) kk
      rcases Classical.em (x = jI 5) with c5 | c5
      · refine lv_tableIn (tgt := 441) (off := 402) hx hb dL_law_39 (by rw [c5]; decide +kernel) (by rw [c5]; decide +kernel) (by rw [c5]; decide +kernel) (by decide) ?_
        exact lb_closeShelves C hn5 hy hc hs hl hW (I (n + 1)) (hI.2.2.2.2.2.1 n σ μ (by omega) hi) kk
      rcases Classical.em (x = jI 6) with c6 | c6
      · refine lv_tableIn (tgt := 454) (off := 415) hx hb dL_law_39 (by rw [c6]; decide +kernel) (by rw [c6]; decide +kernel) (by rw [c6]; decide +kernel) (by decide) ?_
        exact lb_letter C hn5 hy hc hs hl hW (I (n + 1)) (hI.2.2.2.2.2.2.1 n σ μ v (y 1) (y 2) (y 3) (y 4) (by omega) hi) kk
      rcases Classical.em (x = jI 7) with c7 | c7
      · refine lv_tableIn (tgt := 546) (off := 507) hx hb dL_law_39 (by rw [c7]; decide +kernel) (by rw [c7]; decide +kernel) (by rw [c7]; decide +kernel) (by decide) ?_
        exact lb_sign C hn5 hy hc hs hl hW (I (n + 1)) (hI.2.2.2.2.2.2.2.1 n σ μ v (y 1) (y 2) (by omega) hi) kk
      rcases Classical.em (x = jI 8) with c8 | c8
      · refine lv_tableIn (tgt := 614) (off := 575) hx hb dL_law_39 (by rw [c8]; decide +kernel) (by rw [c8]; decide +kernel) (by rw [c8]; decide +kernel) (by decide) ?_
        exact lb_tray C hn5 hy hc hs hl hW (I (n + 1)) (hI.2.2.2.2.2.2.2.2.1 n σ μ v (y 1) (y 2) (by omega) hi) kk
      rcases Classical.em (x = jI 9) with c9 | c9
      · refine lv_tableIn (tgt := 682) (off := 643) hx hb dL_law_39 (by rw [c9]; decide +kernel) (by rw [c9]; decide +kernel) (by rw [c9]; decide +kernel) (by decide) ?_
        exact lb_shelf C hn5 hy hc hs hl hW (I (n + 1)) (hI.2.2.2.2.2.2.2.2.2.1 n σ μ v (y 1) (y 2) (y 3) (by omega) hi) kk
      rcases Classical.em (x = jI 10) with c10 | c10
      · refine lv_tableIn (tgt := 762) (off := 723) hx hb dL_law_39 (by rw [c10]; decide +kernel) (by rw [c10]; decide +kernel) (by rw [c10]; decide +kernel) (by decide) ?_
        exact lb_at C hn5 hy hc hs hl hW (I (n + 1)) (hI.2.2.2.2.2.2.2.2.2.2.1 n σ μ v (y 1) (y 2) (y 3) (by omega) hi) kk
      rcases Classical.em (x = jI 11) with c11 | c11
      · refine lv_tableIn (tgt := 842) (off := 803) hx hb dL_law_39 (by rw [c11]; decide +kernel) (by rw [c11]; decide +kernel) (by rw [c11]; decide +kernel) (by decide) ?_
        exact lb_street C hn5 hy hc hs hl hW (I (n + 1)) (hI.2.2.2.2.2.2.2.2.2.2.2.1 n σ μ v (y 1) (by omega) hi) kk
      rcases Classical.em (x = jI 12) with c12 | c12
      · refine lv_tableIn (tgt := 898) (off := 859) hx hb dL_law_39 (by rw [c12]; decide +kernel) (by rw [c12]; decide +kernel) (by rw [c12]; decide +kernel) (by decide) ?_
        exact lb_whole C hn5 hy hc hs hl hW (I (n + 1)) (hI.2.2.2.2.2.2.2.2.2.2.2.2.1 n σ μ v (y 1) (by omega) hi) kk
      rcases Classical.em (x = jI 13) with c13 | c13
      · refine lv_tableIn (tgt := 954) (off := 915) hx hb dL_law_39 (by rw [c13]; decide +kernel) (by rw [c13]; decide +kernel) (by rw [c13]; decide +kernel) (by decide) ?_
        exact lb_rule C hn5 hy hc hs hl hW (I (n + 1)) (hI.2.2.2.2.2.2.2.2.2.2.2.2.2.1 n σ μ v (y 1) (y 2) (y 3) (by omega) hi) kk
      rcases Classical.em (x = jI 14) with c14 | c14
      · refine lv_tableIn (tgt := 1034) (off := 995) hx hb dL_law_39 (by rw [c14]; decide +kernel) (by rw [c14]; decide +kernel) (by rw [c14]; decide +kernel) (by decide) ?_
        exact lb_takenBy C hn5 hy hc hs hl hW (I (n + 1)) (hI.2.2.2.2.2.2.2.2.2.2.2.2.2.2.1 n σ μ v (y 1) (y 2) (y 3) (by omega) hi) kk
      rcases Classical.em (x = jI 15) with c15 | c15
      · refine lv_tableIn (tgt := 1114) (off := 1075) hx hb dL_law_39 (by rw [c15]; decide +kernel) (by rw [c15]; decide +kernel) (by rw [c15]; decide +kernel) (by decide) ?_
        exact lb_costOf C hn5 hy hc hs hl hW (I (n + 1)) (hI.2.2.2.2.2.2.2.2.2.2.2.2.2.2.2.1 n σ μ v (y 1) (y 2) (y 3) (by omega) hi) kk
      rcases Classical.em (x = jI 16) with c16 | c16
      · refine lv_tableIn (tgt := 1194) (off := 1155) hx hb dL_law_39 (by rw [c16]; decide +kernel) (by rw [c16]; decide +kernel) (by rw [c16]; decide +kernel) (by decide) ?_
        exact lb_oldest C hn5 hy hc hs hl hW (I (n + 1)) (hI.2.2.2.2.2.2.2.2.2.2.2.2.2.2.2.2.1 n σ μ (by omega) hi) kk
      rcases Classical.em (x = jI 17) with c17 | c17
      · refine lv_tableIn (tgt := 1207) (off := 1168) hx hb dL_law_39 (by rw [c17]; decide +kernel) (by rw [c17]; decide +kernel) (by rw [c17]; decide +kernel) (by decide) ?_
        exact lb_greatestGap C hn5 hy hc hs hl hW (I (n + 1)) (hI.2.2.2.2.2.2.2.2.2.2.2.2.2.2.2.2.2.1 n σ μ (by omega) hi) kk
      rcases Classical.em (x = jI 18) with c18 | c18
      · refine lv_tableIn (tgt := 1220) (off := 1181) hx hb dL_law_39 (by rw [c18]; decide +kernel) (by rw [c18]; decide +kernel) (by rw [c18]; decide +kernel) (by decide) ?_
        exact lb_type C hn5 hy hc hs hl hW (I (n + 1)) (hI.2.2.2.2.2.2.2.2.2.2.2.2.2.2.2.2.2.2.1 n σ μ v (y 1) (by omega) hi) kk
      rcases Classical.em (x = jI 19) with c19 | c19
      · refine lv_tableIn (tgt := 1276) (off := 1237) hx hb dL_law_39 (by rw [c19]; decide +kernel) (by rw [c19]; decide +kernel) (by rw [c19]; decide +kernel) (by decide) ?_
        exact lb_clearCommands C hn5 hy hc hs hl hW (I (n + 1)) (hI.2.2.2.2.2.2.2.2.2.2.2.2.2.2.2.2.2.2.2.1 n σ μ (by omega) hi) kk
      rcases Classical.em (x = jI 20) with c20 | c20
      · refine lv_tableIn (tgt := 1289) (off := 1250) hx hb dL_law_39 (by rw [c20]; decide +kernel) (by rw [c20]; decide +kernel) (by rw [c20]; decide +kernel) (by decide) ?_
        exact lb_runCommands C hn5 hy hc hs hl hW (I (n + 1)) (hI.2.2.2.2.2.2.2.2.2.2.2.2.2.2.2.2.2.2.2.2.1 n σ μ (by omega) hi) kk
      rcases Classical.em (x = jI 21) with c21 | c21
      · refine lv_tableIn (tgt := 1302) (off := 1263) hx hb dL_law_39 (by rw [c21]; decide +kernel) (by rw [c21]; decide +kernel) (by rw [c21]; decide +kernel) (by decide) ?_
        exact lb_undo C hn5 hy hc hs hl hW (I (n + 1)) (hI.2.2.2.2.2.2.2.2.2.2.2.2.2.2.2.2.2.2.2.2.2.1 n σ μ v (by omega) hi) kk
      rcases Classical.em (x = jI 22) with c22 | c22
      · refine lv_tableIn (tgt := 1346) (off := 1307) hx hb dL_law_39 (by rw [c22]; decide +kernel) (by rw [c22]; decide +kernel) (by rw [c22]; decide +kernel) (by decide) ?_
        exact lb_digest C hn5 hy hc hs hl hW (I (n + 1)) (hI.2.2.2.2.2.2.2.2.2.2.2.2.2.2.2.2.2.2.2.2.2.2.1 n σ μ (by omega) hi) kk
      have hsw := zsw_out (x := x) 0 23 (fun k hk => by
        match k, hk with
        | 0, _ => exact c0
        | 1, _ => exact c1
        | 2, _ => exact c2
        | 3, _ => exact c3
        | 4, _ => exact c4
        | 5, _ => exact c5
        | 6, _ => exact c6
        | 7, _ => exact c7
        | 8, _ => exact c8
        | 9, _ => exact c9
        | 10, _ => exact c10
        | 11, _ => exact c11
        | 12, _ => exact c12
        | 13, _ => exact c13
        | 14, _ => exact c14
        | 15, _ => exact c15
        | 16, _ => exact c16
        | 17, _ => exact c17
        | 18, _ => exact c18
        | 19, _ => exact c19
        | 20, _ => exact c20
        | 21, _ => exact c21
        | 22, _ => exact c22
        | k + 23, hk => exact absurd hk (by omega))
      refine lv_tableOut (tgt := 1360) hx hb dL_law_39 hsw (by decide) ?_
      refine W.widen (k := 123 + 2 * n + 2) (n := 11302 + 12 * n + 12) (by omega) (by omega) ?_
      exact kk _ _ _ _ _ (hI.2.2.2.2.2.2.2.2.2.2.2.2.2.2.2.2.2.2.2.2.2.2.2 n σ μ (by omega) hi) hW hl
theorem last_29 : True := trivial
