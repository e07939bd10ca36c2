/-! printed by wip/whole/gen7.py -/
set_option maxHeartbeats 4000000 in
set_option maxRecDepth 100000 in
theorem lb_whole {p : Program} {l : Launch} {e : Env} {s : State} {m : MethodId} {args : Array Value} {below : List Frame} {meth : Method} {c : Code} {H : Heap} {cells slots : Nat} {QQ : State → Prop} {ls : Array Slot} {b L n : Nat} {xs y : Nat → Int32} {D : va_G} {cy : cyT} {cL : ClassId} {sa aK aV ad am : Nat → Nat} {o : Nat} {σ μ : ST} {v : Int64} (C : LX p l s m args c b L xs D cy cL sa aK aV ad am o) (hn : 5 * n + 5 ≤ L) (hy : ∀ j : Nat, j < 5 → xs (jI (5 * n + j)).toNatClampNeg = y j) (hc : cells + 2 ≤ 601024) (hs : slots + 12 ≤ 7293034) (hl : lv_has ls 7 [(4, .int (jI (5 * (n : Int)))), (0, .ref b), (1, .ref (ad 0)), (2, .ref (am 0)), (3, .ref o)]) (hW : LW D cy cL ad am o s.heap σ μ v H) (Q9 : ST → ST → Prop) (h : wL_whole σ (y 1) v (fun k w σ' => wp_X7_whole μ (y 1) (fun r μ1 => wp_X7_thrown μ1 (fun th μ2 => th = k ∧ (k = jI 0 → w = r.toInt64) ∧ Q9 σ' μ2)))) (kk : ∀ (σ' μ' : ST) (v' : Int64) (H1 : Heap) (ls : Array Slot), Q9 σ' μ' → LW D cy cL ad am o s.heap σ' μ' v' H1 → lv_has ls 7 [(4, .int (jI (5 * (n : Int)))), (0, .ref b), (1, .ref (ad 0)), (2, .ref (am 0)), (3, .ref o)] → W p l e room_1 s m args below meth c H1 [] (cells + 2) (slots + 12) QQ (F0 m 1360 ls [])) : W p l e room_1 s m args below meth c H [] cells slots QQ (F0 m 898 ls []) := by
  obtain ⟨hx, hb, hml, hown, hts, hX, hbl, hL, hK, hZX, hZ, hLo, hCa, hA, hlt⟩ := C
  refine lv_aload_n hx hb dL_law_898 rfl (lv_at hl 2 rfl) ?_
  refine zscr hx hb hX hbl hW.1 hL hn hy hl 1 0 rfl rfl 1 (by decide) dL_law_899 dL_law_900 dL_law_902 dL_law_903 dL_law_904 ?_
  refine lv_aload_n hx hb dL_law_905 rfl (lv_at hl 4 rfl) ?_
  refine lcallL hA hW (vx_runSW (As := [.ref (ad 0), .int (y 1), .ref o]) (rest := []) ⟨hx, hb, hml, hown, hts⟩ (c_L_whole l hlt D cy cL ad (fun q => s.heap.size ≤ q) sa H.size σ (y 1) v o h) (vx_cwSW 3 hts gL_law_L_whole rfl rfl rfl (by decide +kernel) ⟨(Nat.le_of_ble_eq_true rfl), (Nat.le_of_ble_eq_true rfl)⟩) (lpreS hA hW hK hZX hLo hCa _) rfl rfl hl.1 rfl (lv_room (Nat.le_of_ble_eq_true rfl)) dL_law_906 ⟨by show cells + 1 ≤ 601024; omega, by show slots + 6 ≤ 7293034; omega⟩) (fun k1 σ v H h hW => ?_)
  refine lv_istore (lv' := [(5, .int k1), (4, .int (jI (5 * (n : Int)))), (0, .ref b), (1, .ref (ad 0)), (2, .ref (am 0)), (3, .ref o)]) hx hb dL_law_909 hl (by decide) rfl (fun ls hl => ?_)
  refine lv_aload_n hx hb dL_law_911 rfl (lv_at hl 4 rfl) ?_
  refine zscr hx hb hX hbl hW.1 hL hn hy hl 2 1 rfl rfl 1 (by decide) dL_law_912 dL_law_913 dL_law_915 dL_law_916 dL_law_917 ?_
  refine lcallM hA hW (va_runV (As := [.int (y 1)]) (rest := []) ⟨hx, hb, hml, hown, hts⟩ (c_X7_whole l D cy am μ (y 1) h) (cwV 1 hts gL_law_X7_whole rfl rfl rfl (by decide +kernel) ⟨(Nat.le_of_ble_eq_true rfl), (Nat.le_of_ble_eq_true rfl)⟩) (zpreV hA.2.1 hK hW.2.2.1 _ (i := 0) (ci := 6) (by decide) rfl rfl) rfl rfl hl.1 rfl (lv_room (Nat.le_of_ble_eq_true rfl)) dL_law_918 ⟨by show cells + 1 + 0 ≤ 601024; omega, by show slots + 6 + 0 ≤ 7293034; omega⟩) (fun r1 μ H h hW => ?_)
  refine lv_istore (lv' := [(6, .int r1), (5, .int k1), (4, .int (jI (5 * (n : Int)))), (0, .ref b), (1, .ref (ad 0)), (2, .ref (am 0)), (3, .ref o)]) hx hb dL_law_921 hl (by decide) rfl (fun ls hl => ?_)
  refine lv_aload_n hx hb dL_law_923 rfl (lv_at hl 5 rfl) ?_
  refine lcallM hA hW (va_runV (As := []) (rest := []) ⟨hx, hb, hml, hown, hts⟩ (c_X7_thrown l D cy am μ  h) (cwV 0 hts gL_law_X7_thrown rfl rfl rfl (by decide +kernel) ⟨(Nat.le_of_ble_eq_true rfl), (Nat.le_of_ble_eq_true rfl)⟩) (zpreV hA.2.1 hK hW.2.2.1 _ (i := 0) (ci := 6) (by decide) rfl rfl) rfl rfl hl.1 rfl (lv_room (Nat.le_of_ble_eq_true rfl)) dL_law_924 ⟨by show cells + 1 + 0 ≤ 601024; omega, by show slots + 6 + 0 ≤ 7293034; omega⟩) (fun t1 μ H h hW => ?_)
  obtain ⟨e1, e2, hQ⟩ := h
  refine lv_iload hx hb dL_law_927 (lv_at hl 1 rfl) ?_
  refine lv_icmp_eq (tgt := 934) hx hb dL_law_929 (by decide) (fun _ => ?_) (fun c9 => absurd e1 c9)
  refine lv_iload hx hb dL_law_934 (lv_at hl 1 rfl) ?_
  refine zif_ne (tgt := 951) hx hb dL_law_936 (by decide) (fun c1 => ?_) (fun c1 => ?_)
  · skip
    refine lv_goto (tgt := 1360) hx hb dL_law_951 (by decide) ?_
    refine W.widen (k := cells + 2) (n := slots + 12) (by omega) (by omega) ?_
    exact kk _ _ _ _ _ hQ hW (lv_sub hl [2, 3, 4, 5, 6] rfl)
  · skip
    refine lv_aload_n hx hb dL_law_939 rfl (lv_at hl 6 rfl) ?_
    refine lv_iconst (v := jI 0) hx hb dL_law_940 rfl ?_
    refine zlald hx hb hLo hW.2.2.2 dL_law_941 ?_
    refine lv_iload hx hb dL_law_942 (lv_at hl 0 rfl) ?_
    refine lv_i2l (v := r1.toInt64) hx hb dL_law_944 rfl ?_
    refine W.lcmp hx hb dL_law_945 ?_
    rw [e2 c1, lgc0]
    refine zif_eq (tgt := 951) hx hb dL_law_946 (by decide) (fun _ => ?_) (fun c9 => absurd rfl c9)
    refine lv_goto (tgt := 1360) hx hb dL_law_951 (by decide) ?_
    refine W.widen (k := cells + 2) (n := slots + 12) (by omega) (by omega) ?_
    exact kk _ _ _ _ _ hQ hW (lv_sub hl [2, 3, 4, 5, 6] rfl)
set_option maxHeartbeats 4000000 in
set_option maxRecDepth 100000 in
theorem lb_rule {p : Program} {l : Launch} {e : Env} {s : State} {m : MethodId} {args : Array Value} {below : List Frame} {meth : Method} {c : Code} {H : Heap} {cells slots : Nat} {QQ : State → Prop} {ls : Array Slot} {b L n : Nat} {xs y : Nat → Int32} {D : va_G} {cy : cyT} {cL : ClassId} {sa aK aV ad am : Nat → Nat} {o : Nat} {σ μ : ST} {v : Int64} (C : LX p l s m args c b L xs D cy cL sa aK aV ad am o) (hn : 5 * n + 5 ≤ L) (hy : ∀ j : Nat, j < 5 → xs (jI (5 * n + j)).toNatClampNeg = y j) (hc : cells + 2 ≤ 601024) (hs : slots + 12 ≤ 7293034) (hl : lv_has ls 7 [(4, .int (jI (5 * (n : Int)))), (0, .ref b), (1, .ref (ad 0)), (2, .ref (am 0)), (3, .ref o)]) (hW : LW D cy cL ad am o s.heap σ μ v H) (Q9 : ST → ST → Prop) (h : wL_rule σ (y 1) (y 2) (y 3) v (fun k w σ' => wp_X7_rule μ (y 1) (y 2) (y 3) (fun r μ1 => wp_X7_thrown μ1 (fun th μ2 => th = k ∧ (k = jI 0 → w = r.toInt64) ∧ Q9 σ' μ2)))) (kk : ∀ (σ' μ' : ST) (v' : Int64) (H1 : Heap) (ls : Array Slot), Q9 σ' μ' → LW D cy cL ad am o s.heap σ' μ' v' H1 → lv_has ls 7 [(4, .int (jI (5 * (n : Int)))), (0, .ref b), (1, .ref (ad 0)), (2, .ref (am 0)), (3, .ref o)] → W p l e room_1 s m args below meth c H1 [] (cells + 2) (slots + 12) QQ (F0 m 1360 ls [])) : W p l e room_1 s m args below meth c H [] cells slots QQ (F0 m 954 ls []) := by
  obtain ⟨hx, hb, hml, hown, hts, hX, hbl, hL, hK, hZX, hZ, hLo, hCa, hA, hlt⟩ := C
  refine lv_aload_n hx hb dL_law_954 rfl (lv_at hl 2 rfl) ?_
  refine zscr hx hb hX hbl hW.1 hL hn hy hl 1 0 rfl rfl 1 (by decide) dL_law_955 dL_law_956 dL_law_958 dL_law_959 dL_law_960 ?_
  refine zscr hx hb hX hbl hW.1 hL hn hy hl 1 0 rfl rfl 2 (by decide) dL_law_961 dL_law_962 dL_law_964 dL_law_965 dL_law_966 ?_
  refine zscr hx hb hX hbl hW.1 hL hn hy hl 1 0 rfl rfl 3 (by decide) dL_law_967 dL_law_968 dL_law_970 dL_law_971 dL_law_972 ?_
  refine lv_aload_n hx hb dL_law_973 rfl (lv_at hl 4 rfl) ?_
  refine lcallL hA hW (vx_runSW (As := [.ref (ad 0), .int (y 1), .int (y 2), .int (y 3), .ref o]) (rest := []) ⟨hx, hb, hml, hown, hts⟩ (c_L_rule l hlt D cy cL ad (fun q => s.heap.size ≤ q) sa H.size σ (y 1) (y 2) (y 3) v o h) (vx_cwSW 5 hts gL_law_L_rule rfl rfl rfl (by decide +kernel) ⟨(Nat.le_of_ble_eq_true rfl), (Nat.le_of_ble_eq_true rfl)⟩) (lpreS hA hW hK hZX hLo hCa _) rfl rfl hl.1 rfl (lv_room (Nat.le_of_ble_eq_true rfl)) dL_law_974 ⟨by show cells + 1 ≤ 601024; omega, by show slots + 6 ≤ 7293034; omega⟩) (fun k1 σ v H h hW => ?_)
  refine lv_istore (lv' := [(5, .int k1), (4, .int (jI (5 * (n : Int)))), (0, .ref b), (1, .ref (ad 0)), (2, .ref (am 0)), (3, .ref o)]) hx hb dL_law_977 hl (by decide) rfl (fun ls hl => ?_)
  refine lv_aload_n hx hb dL_law_979 rfl (lv_at hl 4 rfl) ?_
  refine zscr hx hb hX hbl hW.1 hL hn hy hl 2 1 rfl rfl 1 (by decide) dL_law_980 dL_law_981 dL_law_983 dL_law_984 dL_law_985 ?_
  refine zscr hx hb hX hbl hW.1 hL hn hy hl 2 1 rfl rfl 2 (by decide) dL_law_986 dL_law_987 dL_law_989 dL_law_990 dL_law_991 ?_
  refine zscr hx hb hX hbl hW.1 hL hn hy hl 2 1 rfl rfl 3 (by decide) dL_law_992 dL_law_993 dL_law_995 dL_law_996 dL_law_997 ?_
  refine lcallM hA hW (va_runV (As := [.int (y 1), .int (y 2), .int (y 3)]) (rest := []) ⟨hx, hb, hml, hown, hts⟩ (c_X7_rule l D cy am μ (y 1) (y 2) (y 3) h) (cwV 3 hts gL_law_X7_rule rfl rfl rfl (by decide +kernel) ⟨(Nat.le_of_ble_eq_true rfl), (Nat.le_of_ble_eq_true rfl)⟩) (zpreV hA.2.1 hK hW.2.2.1 _ (i := 0) (ci := 6) (by decide) rfl rfl) rfl rfl hl.1 rfl (lv_room (Nat.le_of_ble_eq_true rfl)) dL_law_998 ⟨by show cells + 1 + 0 ≤ 601024; omega, by show slots + 6 + 0 ≤ 7293034; omega⟩) (fun r1 μ H h hW => ?_)
  refine lv_istore (lv' := [(6, .int r1), (5, .int k1), (4, .int (jI (5 * (n : Int)))), (0, .ref b), (1, .ref (ad 0)), (2, .ref (am 0)), (3, .ref o)]) hx hb dL_law_1001 hl (by decide) rfl (fun ls hl => ?_)
  refine lv_aload_n hx hb dL_law_1003 rfl (lv_at hl 5 rfl) ?_
  refine lcallM hA hW (va_runV (As := []) (rest := []) ⟨hx, hb, hml, hown, hts⟩ (c_X7_thrown l D cy am μ  h) (cwV 0 hts gL_law_X7_thrown rfl rfl rfl (by decide +kernel) ⟨(Nat.le_of_ble_eq_true rfl), (Nat.le_of_ble_eq_true rfl)⟩) (zpreV hA.2.1 hK hW.2.2.1 _ (i := 0) (ci := 6) (by decide) rfl rfl) rfl rfl hl.1 rfl (lv_room (Nat.le_of_ble_eq_true rfl)) dL_law_1004 ⟨by show cells + 1 + 0 ≤ 601024; omega, by show slots + 6 + 0 ≤ 7293034; omega⟩) (fun t1 μ H h hW => ?_)
  obtain ⟨e1, e2, hQ⟩ := h
  refine lv_iload hx hb dL_law_1007 (lv_at hl 1 rfl) ?_
  refine lv_icmp_eq (tgt := 1014) hx hb dL_law_1009 (by decide) (fun _ => ?_) (fun c9 => absurd e1 c9)
  refine lv_iload hx hb dL_law_1014 (lv_at hl 1 rfl) ?_
  refine zif_ne (tgt := 1031) hx hb dL_law_1016 (by decide) (fun c1 => ?_) (fun c1 => ?_)
  · skip
    refine lv_goto (tgt := 1360) hx hb dL_law_1031 (by decide) ?_
    refine W.widen (k := cells + 2) (n := slots + 12) (by omega) (by omega) ?_
    exact kk _ _ _ _ _ hQ hW (lv_sub hl [2, 3, 4, 5, 6] rfl)
  · skip
    refine lv_aload_n hx hb dL_law_1019 rfl (lv_at hl 6 rfl) ?_
    refine lv_iconst (v := jI 0) hx hb dL_law_1020 rfl ?_
    refine zlald hx hb hLo hW.2.2.2 dL_law_1021 ?_
    refine lv_iload hx hb dL_law_1022 (lv_at hl 0 rfl) ?_
    refine lv_i2l (v := r1.toInt64) hx hb dL_law_1024 rfl ?_
    refine W.lcmp hx hb dL_law_1025 ?_
    rw [e2 c1, lgc0]
    refine zif_eq (tgt := 1031) hx hb dL_law_1026 (by decide) (fun _ => ?_) (fun c9 => absurd rfl c9)
    refine lv_goto (tgt := 1360) hx hb dL_law_1031 (by decide) ?_
    refine W.widen (k := cells + 2) (n := slots + 12) (by omega) (by omega) ?_
    exact kk _ _ _ _ _ hQ hW (lv_sub hl [2, 3, 4, 5, 6] rfl)
set_option maxHeartbeats 4000000 in
set_option maxRecDepth 100000 in
theorem lb_takenBy {p : Program} {l : Launch} {e : Env} {s : State} {m : MethodId} {args : Array Value} {below : List Frame} {meth : Method} {c : Code} {H : Heap} {cells slots : Nat} {QQ : State → Prop} {ls : Array Slot} {b L n : Nat} {xs y : Nat → Int32} {D : va_G} {cy : cyT} {cL : ClassId} {sa aK aV ad am : Nat → Nat} {o : Nat} {σ μ : ST} {v : Int64} (C : LX p l s m args c b L xs D cy cL sa aK aV ad am o) (hn : 5 * n + 5 ≤ L) (hy : ∀ j : Nat, j < 5 → xs (jI (5 * n + j)).toNatClampNeg = y j) (hc : cells + 2 ≤ 601024) (hs : slots + 12 ≤ 7293034) (hl : lv_has ls 7 [(4, .int (jI (5 * (n : Int)))), (0, .ref b), (1, .ref (ad 0)), (2, .ref (am 0)), (3, .ref o)]) (hW : LW D cy cL ad am o s.heap σ μ v H) (Q9 : ST → ST → Prop) (h : wL_takenBy σ (y 1) (y 2) (y 3) v (fun k w σ' => wp_X7_takenBy μ (y 1) (y 2) (y 3) (fun r μ1 => wp_X7_thrown μ1 (fun th μ2 => th = k ∧ (k = jI 0 → w = r.toInt64) ∧ Q9 σ' μ2)))) (kk : ∀ (σ' μ' : ST) (v' : Int64) (H1 : Heap) (ls : Array Slot), Q9 σ' μ' → LW D cy cL ad am o s.heap σ' μ' v' H1 → lv_has ls 7 [(4, .int (jI (5 * (n : Int)))), (0, .ref b), (1, .ref (ad 0)), (2, .ref (am 0)), (3, .ref o)] → W p l e room_1 s m args below meth c H1 [] (cells + 2) (slots + 12) QQ (F0 m 1360 ls [])) : W p l e room_1 s m args below meth c H [] cells slots QQ (F0 m 1034 ls []) := by
  obtain ⟨hx, hb, hml, hown, hts, hX, hbl, hL, hK, hZX, hZ, hLo, hCa, hA, hlt⟩ := C
  refine lv_aload_n hx hb dL_law_1034 rfl (lv_at hl 2 rfl) ?_
  refine zscr hx hb hX hbl hW.1 hL hn hy hl 1 0 rfl rfl 1 (by decide) dL_law_1035 dL_law_1036 dL_law_1038 dL_law_1039 dL_law_1040 ?_
  refine zscr hx hb hX hbl hW.1 hL hn hy hl 1 0 rfl rfl 2 (by decide) dL_law_1041 dL_law_1042 dL_law_1044 dL_law_1045 dL_law_1046 ?_
  refine zscr hx hb hX hbl hW.1 hL hn hy hl 1 0 rfl rfl 3 (by decide) dL_law_1047 dL_law_1048 dL_law_1050 dL_law_1051 dL_law_1052 ?_
  refine lv_aload_n hx hb dL_law_1053 rfl (lv_at hl 4 rfl) ?_
  refine lcallL hA hW (vx_runSW (As := [.ref (ad 0), .int (y 1), .int (y 2), .int (y 3), .ref o]) (rest := []) ⟨hx, hb, hml, hown, hts⟩ (c_L_takenBy l hlt D cy cL ad (fun q => s.heap.size ≤ q) sa H.size σ (y 1) (y 2) (y 3) v o h) (vx_cwSW 5 hts gL_law_L_takenBy rfl rfl rfl (by decide +kernel) ⟨(Nat.le_of_ble_eq_true rfl), (Nat.le_of_ble_eq_true rfl)⟩) (lpreS hA hW hK hZX hLo hCa _) rfl rfl hl.1 rfl (lv_room (Nat.le_of_ble_eq_true rfl)) dL_law_1054 ⟨by show cells + 1 ≤ 601024; omega, by show slots + 6 ≤ 7293034; omega⟩) (fun k1 σ v H h hW => ?_)
  refine lv_istore (lv' := [(5, .int k1), (4, .int (jI (5 * (n : Int)))), (0, .ref b), (1, .ref (ad 0)), (2, .ref (am 0)), (3, .ref o)]) hx hb dL_law_1057 hl (by decide) rfl (fun ls hl => ?_)
  refine lv_aload_n hx hb dL_law_1059 rfl (lv_at hl 4 rfl) ?_
  refine zscr hx hb hX hbl hW.1 hL hn hy hl 2 1 rfl rfl 1 (by decide) dL_law_1060 dL_law_1061 dL_law_1063 dL_law_1064 dL_law_1065 ?_
  refine zscr hx hb hX hbl hW.1 hL hn hy hl 2 1 rfl rfl 2 (by decide) dL_law_1066 dL_law_1067 dL_law_1069 dL_law_1070 dL_law_1071 ?_
  refine zscr hx hb hX hbl hW.1 hL hn hy hl 2 1 rfl rfl 3 (by decide) dL_law_1072 dL_law_1073 dL_law_1075 dL_law_1076 dL_law_1077 ?_
  refine lcallM hA hW (va_runV (As := [.int (y 1), .int (y 2), .int (y 3)]) (rest := []) ⟨hx, hb, hml, hown, hts⟩ (c_X7_takenBy l D cy am μ (y 1) (y 2) (y 3) h) (cwV 3 hts gL_law_X7_takenBy rfl rfl rfl (by decide +kernel) ⟨(Nat.le_of_ble_eq_true rfl), (Nat.le_of_ble_eq_true rfl)⟩) (zpreV hA.2.1 hK hW.2.2.1 _ (i := 0) (ci := 6) (by decide) rfl rfl) rfl rfl hl.1 rfl (lv_room (Nat.le_of_ble_eq_true rfl)) dL_law_1078 ⟨by show cells + 1 + 0 ≤ 601024; omega, by show slots + 6 + 0 ≤ 7293034; omega⟩) (fun r1 μ H h hW => ?_)
  refine lv_istore (lv' := [(6, .int r1), (5, .int k1), (4, .int (jI (5 * (n : Int)))), (0, .ref b), (1, .ref (ad 0)), (2, .ref (am 0)), (3, .ref o)]) hx hb dL_law_1081 hl (by decide) rfl (fun ls hl => ?_)
  refine lv_aload_n hx hb dL_law_1083 rfl (lv_at hl 5 rfl) ?_
  refine lcallM hA hW (va_runV (As := []) (rest := []) ⟨hx, hb, hml, hown, hts⟩ (c_X7_thrown l D cy am μ  h) (cwV 0 hts gL_law_X7_thrown rfl rfl rfl (by decide +kernel) ⟨(Nat.le_of_ble_eq_true rfl), (Nat.le_of_ble_eq_true rfl)⟩) (zpreV hA.2.1 hK hW.2.2.1 _ (i := 0) (ci := 6) (by decide) rfl rfl) rfl rfl hl.1 rfl (lv_room (Nat.le_of_ble_eq_true rfl)) dL_law_1084 ⟨by show cells + 1 + 0 ≤ 601024; omega, by show slots + 6 + 0 ≤ 7293034; omega⟩) (fun t1 μ H h hW => ?_)
  obtain ⟨e1, e2, hQ⟩ := h
  refine lv_iload hx hb dL_law_1087 (lv_at hl 1 rfl) ?_
  refine lv_icmp_eq (tgt := 1094) hx hb dL_law_1089 (by decide) (fun _ => ?_) (fun c9 => absurd e1 c9)
  refine lv_iload hx hb dL_law_1094 (lv_at hl 1 rfl) ?_
  refine zif_ne (tgt := 1111) hx hb dL_law_1096 (by decide) (fun c1 => ?_) (fun c1 => ?_)
  · skip
    refine lv_goto (tgt := 1360) hx hb dL_law_1111 (by decide) ?_
    refine W.widen (k := cells + 2) (n := slots + 12) (by omega) (by omega) ?_
    exact kk _ _ _ _ _ hQ hW (lv_sub hl [2, 3, 4, 5, 6] rfl)
  · skip
    refine lv_aload_n hx hb dL_law_1099 rfl (lv_at hl 6 rfl) ?_
    refine lv_iconst (v := jI 0) hx hb dL_law_1100 rfl ?_
    refine zlald hx hb hLo hW.2.2.2 dL_law_1101 ?_
    refine lv_iload hx hb dL_law_1102 (lv_at hl 0 rfl) ?_
    refine lv_i2l (v := r1.toInt64) hx hb dL_law_1104 rfl ?_
    refine W.lcmp hx hb dL_law_1105 ?_
    rw [e2 c1, lgc0]
    refine zif_eq (tgt := 1111) hx hb dL_law_1106 (by decide) (fun _ => ?_) (fun c9 => absurd rfl c9)
    refine lv_goto (tgt := 1360) hx hb dL_law_1111 (by decide) ?_
    refine W.widen (k := cells + 2) (n := slots + 12) (by omega) (by omega) ?_
    exact kk _ _ _ _ _ hQ hW (lv_sub hl [2, 3, 4, 5, 6] rfl)
set_option maxHeartbeats 4000000 in
set_option maxRecDepth 100000 in
theorem lb_costOf {p : Program} {l : Launch} {e : Env} {s : State} {m : MethodId} {args : Array Value} {below : List Frame} {meth : Method} {c : Code} {H : Heap} {cells slots : Nat} {QQ : State → Prop} {ls : Array Slot} {b L n : Nat} {xs y : Nat → Int32} {D : va_G} {cy : cyT} {cL : ClassId} {sa aK aV ad am : Nat → Nat} {o : Nat} {σ μ : ST} {v : Int64} (C : LX p l s m args c b L xs D cy cL sa aK aV ad am o) (hn : 5 * n + 5 ≤ L) (hy : ∀ j : Nat, j < 5 → xs (jI (5 * n + j)).toNatClampNeg = y j) (hc : cells + 2 ≤ 601024) (hs : slots + 12 ≤ 7293034) (hl : lv_has ls 7 [(4, .int (jI (5 * (n : Int)))), (0, .ref b), (1, .ref (ad 0)), (2, .ref (am 0)), (3, .ref o)]) (hW : LW D cy cL ad am o s.heap σ μ v H) (Q9 : ST → ST → Prop) (h : wL_costOf σ (y 1) (y 2) (y 3) v (fun k w σ' => wp_X7_costOf μ (y 1) (y 2) (y 3) (fun r μ1 => wp_X7_thrown μ1 (fun th μ2 => th = k ∧ (k = jI 0 → w = r.toInt64) ∧ Q9 σ' μ2)))) (kk : ∀ (σ' μ' : ST) (v' : Int64) (H1 : Heap) (ls : Array Slot), Q9 σ' μ' → LW D cy cL ad am o s.heap σ' μ' v' H1 → lv_has ls 7 [(4, .int (jI (5 * (n : Int)))), (0, .ref b), (1, .ref (ad 0)), (2, .ref (am 0)), (3, .ref o)] → W p l e room_1 s m args below meth c H1 [] (cells + 2) (slots + 12) QQ (F0 m 1360 ls [])) : W p l e room_1 s m args below meth c H [] cells slots QQ (F0 m 1114 ls []) := by
  obtain ⟨hx, hb, hml, hown, hts, hX, hbl, hL, hK, hZX, hZ, hLo, hCa, hA, hlt⟩ := C
  refine lv_aload_n hx hb dL_law_1114 rfl (lv_at hl 2 rfl) ?_
  refine zscr hx hb hX hbl hW.1 hL hn hy hl 1 0 rfl rfl 1 (by decide) dL_law_1115 dL_law_1116 dL_law_1118 dL_law_1119 dL_law_1120 ?_
  refine zscr hx hb hX hbl hW.1 hL hn hy hl 1 0 rfl rfl 2 (by decide) dL_law_1121 dL_law_1122 dL_law_1124 dL_law_1125 dL_law_1126 ?_
  refine zscr hx hb hX hbl hW.1 hL hn hy hl 1 0 rfl rfl 3 (by decide) dL_law_1127 dL_law_1128 dL_law_1130 dL_law_1131 dL_law_1132 ?_
  refine lv_aload_n hx hb dL_law_1133 rfl (lv_at hl 4 rfl) ?_
  refine lcallL hA hW (vx_runSW (As := [.ref (ad 0), .int (y 1), .int (y 2), .int (y 3), .ref o]) (rest := []) ⟨hx, hb, hml, hown, hts⟩ (c_L_costOf l hlt D cy cL ad (fun q => s.heap.size ≤ q) sa H.size σ (y 1) (y 2) (y 3) v o h) (vx_cwSW 5 hts gL_law_L_costOf rfl rfl rfl (by decide +kernel) ⟨(Nat.le_of_ble_eq_true rfl), (Nat.le_of_ble_eq_true rfl)⟩) (lpreS hA hW hK hZX hLo hCa _) rfl rfl hl.1 rfl (lv_room (Nat.le_of_ble_eq_true rfl)) dL_law_1134 ⟨by show cells + 1 ≤ 601024; omega, by show slots + 6 ≤ 7293034; omega⟩) (fun k1 σ v H h hW => ?_)
  refine lv_istore (lv' := [(5, .int k1), (4, .int (jI (5 * (n : Int)))), (0, .ref b), (1, .ref (ad 0)), (2, .ref (am 0)), (3, .ref o)]) hx hb dL_law_1137 hl (by decide) rfl (fun ls hl => ?_)
  refine lv_aload_n hx hb dL_law_1139 rfl (lv_at hl 4 rfl) ?_
  refine zscr hx hb hX hbl hW.1 hL hn hy hl 2 1 rfl rfl 1 (by decide) dL_law_1140 dL_law_1141 dL_law_1143 dL_law_1144 dL_law_1145 ?_
  refine zscr hx hb hX hbl hW.1 hL hn hy hl 2 1 rfl rfl 2 (by decide) dL_law_1146 dL_law_1147 dL_law_1149 dL_law_1150 dL_law_1151 ?_
  refine zscr hx hb hX hbl hW.1 hL hn hy hl 2 1 rfl rfl 3 (by decide) dL_law_1152 dL_law_1153 dL_law_1155 dL_law_1156 dL_law_1157 ?_
  refine lcallM hA hW (va_runV (As := [.int (y 1), .int (y 2), .int (y 3)]) (rest := []) ⟨hx, hb, hml, hown, hts⟩ (c_X7_costOf l D cy am μ (y 1) (y 2) (y 3) h) (cwV 3 hts gL_law_X7_costOf rfl rfl rfl (by decide +kernel) ⟨(Nat.le_of_ble_eq_true rfl), (Nat.le_of_ble_eq_true rfl)⟩) (zpreV hA.2.1 hK hW.2.2.1 _ (i := 0) (ci := 6) (by decide) rfl rfl) rfl rfl hl.1 rfl (lv_room (Nat.le_of_ble_eq_true rfl)) dL_law_1158 ⟨by show cells + 1 + 0 ≤ 601024; omega, by show slots + 6 + 0 ≤ 7293034; omega⟩) (fun r1 μ H h hW => ?_)
  refine lv_istore (lv' := [(6, .int r1), (5, .int k1), (4, .int (jI (5 * (n : Int)))), (0, .ref b), (1, .ref (ad 0)), (2, .ref (am 0)), (3, .ref o)]) hx hb dL_law_1161 hl (by decide) rfl (fun ls hl => ?_)
  refine lv_aload_n hx hb dL_law_1163 rfl (lv_at hl 5 rfl) ?_
  refine lcallM hA hW (va_runV (As := []) (rest := []) ⟨hx, hb, hml, hown, hts⟩ (c_X7_thrown l D cy am μ  h) (cwV 0 hts gL_law_X7_thrown rfl rfl rfl (by decide +kernel) ⟨(Nat.le_of_ble_eq_true rfl), (Nat.le_of_ble_eq_true rfl)⟩) (zpreV hA.2.1 hK hW.2.2.1 _ (i := 0) (ci := 6) (by decide) rfl rfl) rfl rfl hl.1 rfl (lv_room (Nat.le_of_ble_eq_true rfl)) dL_law_1164 ⟨by show cells + 1 + 0 ≤ 601024; omega, by show slots + 6 + 0 ≤ 7293034; omega⟩) (fun t1 μ H h hW => ?_)
  obtain ⟨e1, e2, hQ⟩ := h
  refine lv_iload hx hb dL_law_1167 (lv_at hl 1 rfl) ?_
  refine lv_icmp_eq (tgt := 1174) hx hb dL_law_1169 (by decide) (fun _ => ?_) (fun c9 => absurd e1 c9)
  refine lv_iload hx hb dL_law_1174 (lv_at hl 1 rfl) ?_
  refine zif_ne (tgt := 1191) hx hb dL_law_1176 (by decide) (fun c1 => ?_) (fun c1 => ?_)
  · skip
    refine lv_goto (tgt := 1360) hx hb dL_law_1191 (by decide) ?_
    refine W.widen (k := cells + 2) (n := slots + 12) (by omega) (by omega) ?_
    exact kk _ _ _ _ _ hQ hW (lv_sub hl [2, 3, 4, 5, 6] rfl)
  · skip
    refine lv_aload_n hx hb dL_law_1179 rfl (lv_at hl 6 rfl) ?_
    refine lv_iconst (v := jI 0) hx hb dL_law_1180 rfl ?_
    refine zlald hx hb hLo hW.2.2.2 dL_law_1181 ?_
    refine lv_iload hx hb dL_law_1182 (lv_at hl 0 rfl) ?_
    refine lv_i2l (v := r1.toInt64) hx hb dL_law_1184 rfl ?_
    refine W.lcmp hx hb dL_law_1185 ?_
    rw [e2 c1, lgc0]
    refine zif_eq (tgt := 1191) hx hb dL_law_1186 (by decide) (fun _ => ?_) (fun c9 => absurd rfl c9)
    refine lv_goto (tgt := 1360) hx hb dL_law_1191 (by decide) ?_
    refine W.widen (k := cells + 2) (n := slots + 12) (by omega) (by omega) ?_
    exact kk _ _ _ _ _ hQ hW (lv_sub hl [2, 3, 4, 5, 6] rfl)
set_option maxHeartbeats 4000000 in
set_option maxRecDepth 100000 in
theorem lb_oldest {p : Program} {l : Launch} {e : Env} {s : State} {m : MethodId} {args : Array Value} {below : List Frame} {meth : Method} {c : Code} {H : Heap} {cells slots : Nat} {QQ : State → Prop} {ls : Array Slot} {b L n : Nat} {xs y : Nat → Int32} {D : va_G} {cy : cyT} {cL : ClassId} {sa aK aV ad am : Nat → Nat} {o : Nat} {σ μ : ST} {v : Int64} (C : LX p l s m args c b L xs D cy cL sa aK aV ad am o) (hn : 5 * n + 5 ≤ L) (hy : ∀ j : Nat, j < 5 → xs (jI (5 * n + j)).toNatClampNeg = y j) (hc : cells + 2 ≤ 601024) (hs : slots + 12 ≤ 7293034) (hl : lv_has ls 7 [(4, .int (jI (5 * (n : Int)))), (0, .ref b), (1, .ref (ad 0)), (2, .ref (am 0)), (3, .ref o)]) (hW : LW D cy cL ad am o s.heap σ μ v H) (Q9 : ST → ST → Prop) (h : wp_X6_oldest σ (fun r σ' => wp_X7_oldest μ (fun r2 μ2 => r = r2 ∧ Q9 σ' μ2))) (kk : ∀ (σ' μ' : ST) (v' : Int64) (H1 : Heap) (ls : Array Slot), Q9 σ' μ' → LW D cy cL ad am o s.heap σ' μ' v' H1 → lv_has ls 7 [(4, .int (jI (5 * (n : Int)))), (0, .ref b), (1, .ref (ad 0)), (2, .ref (am 0)), (3, .ref o)] → W p l e room_1 s m args below meth c H1 [] (cells + 2) (slots + 12) QQ (F0 m 1360 ls [])) : W p l e room_1 s m args below meth c H [] cells slots QQ (F0 m 1194 ls []) := by
  obtain ⟨hx, hb, hml, hown, hts, hX, hbl, hL, hK, hZX, hZ, hLo, hCa, hA, hlt⟩ := C
  refine lv_aload_n hx hb dL_law_1194 rfl (lv_at hl 2 rfl) ?_
  refine lcallC hA hW (va_runV (As := []) (rest := []) ⟨hx, hb, hml, hown, hts⟩ (c_X6_oldest l D cy ad σ h) (cwV 0 hts gL_law_X6_oldest rfl rfl rfl (by decide +kernel) ⟨(Nat.le_of_ble_eq_true rfl), (Nat.le_of_ble_eq_true rfl)⟩) (zpreV hA.1 hK hW.2.1 _ (i := 0) (ci := 5) (by decide) rfl rfl) rfl rfl hl.1 rfl (lv_room (Nat.le_of_ble_eq_true rfl)) dL_law_1195 ⟨by show cells + 0 ≤ 601024; omega, by show slots + 0 ≤ 7293034; omega⟩) (fun r1 σ H h hW => ?_)
  refine lv_aload_n hx hb dL_law_1198 rfl (lv_at hl 3 rfl) ?_
  refine lcallM hA hW (va_runV (As := []) (rest := [.int r1]) ⟨hx, hb, hml, hown, hts⟩ (c_X7_oldest l D cy am μ h) (cwV 0 hts gL_law_X7_oldest rfl rfl rfl (by decide +kernel) ⟨(Nat.le_of_ble_eq_true rfl), (Nat.le_of_ble_eq_true rfl)⟩) (zpreV hA.2.1 hK hW.2.2.1 _ (i := 0) (ci := 6) (by decide) rfl rfl) rfl rfl hl.1 rfl (lv_room (Nat.le_of_ble_eq_true rfl)) dL_law_1199 ⟨by show cells + 0 ≤ 601024; omega, by show slots + 0 ≤ 7293034; omega⟩) (fun r2 μ H h hW => ?_)
  obtain ⟨e1, hQ⟩ := h
  refine lv_icmp_eq (tgt := 1360) hx hb dL_law_1202 (by decide) (fun _ => ?_) (fun c9 => absurd e1 c9)
  refine W.widen (k := cells + 2) (n := slots + 12) (by omega) (by omega) ?_
  exact kk _ _ _ _ _ hQ hW hl
set_option maxHeartbeats 4000000 in
set_option maxRecDepth 100000 in
theorem lb_greatestGap {p : Program} {l : Launch} {e : Env} {s : State} {m : MethodId} {args : Array Value} {below : List Frame} {meth : Method} {c : Code} {H : Heap} {cells slots : Nat} {QQ : State → Prop} {ls : Array Slot} {b L n : Nat} {xs y : Nat → Int32} {D : va_G} {cy : cyT} {cL : ClassId} {sa aK aV ad am : Nat → Nat} {o : Nat} {σ μ : ST} {v : Int64} (C : LX p l s m args c b L xs D cy cL sa aK aV ad am o) (hn : 5 * n + 5 ≤ L) (hy : ∀ j : Nat, j < 5 → xs (jI (5 * n + j)).toNatClampNeg = y j) (hc : cells + 2 ≤ 601024) (hs : slots + 12 ≤ 7293034) (hl : lv_has ls 7 [(4, .int (jI (5 * (n : Int)))), (0, .ref b), (1, .ref (ad 0)), (2, .ref (am 0)), (3, .ref o)]) (hW : LW D cy cL ad am o s.heap σ μ v H) (Q9 : ST → ST → Prop) (h : wp_X6_greatestGap σ (fun r σ' => wp_X7_greatestGap μ (fun r2 μ2 => r = r2 ∧ Q9 σ' μ2))) (kk : ∀ (σ' μ' : ST) (v' : Int64) (H1 : Heap) (ls : Array Slot), Q9 σ' μ' → LW D cy cL ad am o s.heap σ' μ' v' H1 → lv_has ls 7 [(4, .int (jI (5 * (n : Int)))), (0, .ref b), (1, .ref (ad 0)), (2, .ref (am 0)), (3, .ref o)] → W p l e room_1 s m args below meth c H1 [] (cells + 2) (slots + 12) QQ (F0 m 1360 ls [])) : W p l e room_1 s m args below meth c H [] cells slots QQ (F0 m 1207 ls []) := by
  obtain ⟨hx, hb, hml, hown, hts, hX, hbl, hL, hK, hZX, hZ, hLo, hCa, hA, hlt⟩ := C
  refine lv_aload_n hx hb dL_law_1207 rfl (lv_at hl 2 rfl) ?_
  refine lcallC hA hW (va_runV (As := []) (rest := []) ⟨hx, hb, hml, hown, hts⟩ (c_X6_greatestGap l D cy ad σ h) (cwV 0 hts gL_law_X6_greatestGap rfl rfl rfl (by decide +kernel) ⟨(Nat.le_of_ble_eq_true rfl), (Nat.le_of_ble_eq_true rfl)⟩) (zpreV hA.1 hK hW.2.1 _ (i := 0) (ci := 5) (by decide) rfl rfl) rfl rfl hl.1 rfl (lv_room (Nat.le_of_ble_eq_true rfl)) dL_law_1208 ⟨by show cells + 0 ≤ 601024; omega, by show slots + 0 ≤ 7293034; omega⟩) (fun r1 σ H h hW => ?_)
  refine lv_aload_n hx hb dL_law_1211 rfl (lv_at hl 3 rfl) ?_
  refine lcallM hA hW (va_runV (As := []) (rest := [.int r1]) ⟨hx, hb, hml, hown, hts⟩ (c_X7_greatestGap l D cy am μ h) (cwV 0 hts gL_law_X7_greatestGap rfl rfl rfl (by decide +kernel) ⟨(Nat.le_of_ble_eq_true rfl), (Nat.le_of_ble_eq_true rfl)⟩) (zpreV hA.2.1 hK hW.2.2.1 _ (i := 0) (ci := 6) (by decide) rfl rfl) rfl rfl hl.1 rfl (lv_room (Nat.le_of_ble_eq_true rfl)) dL_law_1212 ⟨by show cells + 0 ≤ 601024; omega, by show slots + 0 ≤ 7293034; omega⟩) (fun r2 μ H h hW => ?_)
  obtain ⟨e1, hQ⟩ := h
  refine lv_icmp_eq (tgt := 1360) hx hb dL_law_1215 (by decide) (fun _ => ?_) (fun c9 => absurd e1 c9)
  refine W.widen (k := cells + 2) (n := slots + 12) (by omega) (by omega) ?_
  exact kk _ _ _ _ _ hQ hW hl
set_option maxHeartbeats 4000000 in
set_option maxRecDepth 100000 in
theorem lb_type {p : Program} {l : Launch} {e : Env} {s : State} {m : MethodId} {args : Array Value} {below : List Frame} {meth : Method} {c : Code} {H : Heap} {cells slots : Nat} {QQ : State → Prop} {ls : Array Slot} {b L n : Nat} {xs y : Nat → Int32} {D : va_G} {cy : cyT} {cL : ClassId} {sa aK aV ad am : Nat → Nat} {o : Nat} {σ μ : ST} {v : Int64} (C : LX p l s m args c b L xs D cy cL sa aK aV ad am o) (hn : 5 * n + 5 ≤ L) (hy : ∀ j : Nat, j < 5 → xs (jI (5 * n + j)).toNatClampNeg = y j) (hc : cells + 2 ≤ 601024) (hs : slots + 12 ≤ 7293034) (hl : lv_has ls 7 [(4, .int (jI (5 * (n : Int)))), (0, .ref b), (1, .ref (ad 0)), (2, .ref (am 0)), (3, .ref o)]) (hW : LW D cy cL ad am o s.heap σ μ v H) (Q9 : ST → ST → Prop) (h : wL_type σ (y 1) v (fun k w σ' => wp_X7_type μ (y 1) (fun r μ1 => wp_X7_thrown μ1 (fun th μ2 => th = k ∧ (k = jI 0 → w = r.toInt64) ∧ Q9 σ' μ2)))) (kk : ∀ (σ' μ' : ST) (v' : Int64) (H1 : Heap) (ls : Array Slot), Q9 σ' μ' → LW D cy cL ad am o s.heap σ' μ' v' H1 → lv_has ls 7 [(4, .int (jI (5 * (n : Int)))), (0, .ref b), (1, .ref (ad 0)), (2, .ref (am 0)), (3, .ref o)] → W p l e room_1 s m args below meth c H1 [] (cells + 2) (slots + 12) QQ (F0 m 1360 ls [])) : W p l e room_1 s m args below meth c H [] cells slots QQ (F0 m 1220 ls []) := by
  obtain ⟨hx, hb, hml, hown, hts, hX, hbl, hL, hK, hZX, hZ, hLo, hCa, hA, hlt⟩ := C
  refine lv_aload_n hx hb dL_law_1220 rfl (lv_at hl 2 rfl) ?_
  refine zscr hx hb hX hbl hW.1 hL hn hy hl 1 0 rfl rfl 1 (by decide) dL_law_1221 dL_law_1222 dL_law_1224 dL_law_1225 dL_law_1226 ?_
  refine lv_aload_n hx hb dL_law_1227 rfl (lv_at hl 4 rfl) ?_
  refine lcallL hA hW (vx_runSW (As := [.ref (ad 0), .int (y 1), .ref o]) (rest := []) ⟨hx, hb, hml, hown, hts⟩ (c_L_type l hlt D cy cL ad (fun q => s.heap.size ≤ q) sa H.size σ (y 1) v o h) (vx_cwSW 3 hts gL_law_L_type rfl rfl rfl (by decide +kernel) ⟨(Nat.le_of_ble_eq_true rfl), (Nat.le_of_ble_eq_true rfl)⟩) (lpreS hA hW hK hZX hLo hCa _) rfl rfl hl.1 rfl (lv_room (Nat.le_of_ble_eq_true rfl)) dL_law_1228 ⟨by show cells + 2 ≤ 601024; omega, by show slots + 12 ≤ 7293034; omega⟩) (fun k1 σ v H h hW => ?_)
  refine lv_istore (lv' := [(5, .int k1), (4, .int (jI (5 * (n : Int)))), (0, .ref b), (1, .ref (ad 0)), (2, .ref (am 0)), (3, .ref o)]) hx hb dL_law_1231 hl (by decide) rfl (fun ls hl => ?_)
  refine lv_aload_n hx hb dL_law_1233 rfl (lv_at hl 4 rfl) ?_
  refine zscr hx hb hX hbl hW.1 hL hn hy hl 2 1 rfl rfl 1 (by decide) dL_law_1234 dL_law_1235 dL_law_1237 dL_law_1238 dL_law_1239 ?_
  refine lcallM hA hW (va_runV (As := [.int (y 1)]) (rest := []) ⟨hx, hb, hml, hown, hts⟩ (c_X7_type l D cy am μ (y 1) h) (cwV 1 hts gL_law_X7_type rfl rfl rfl (by decide +kernel) ⟨(Nat.le_of_ble_eq_true rfl), (Nat.le_of_ble_eq_true rfl)⟩) (zpreV hA.2.1 hK hW.2.2.1 _ (i := 0) (ci := 6) (by decide) rfl rfl) rfl rfl hl.1 rfl (lv_room (Nat.le_of_ble_eq_true rfl)) dL_law_1240 ⟨by show cells + 2 + 0 ≤ 601024; omega, by show slots + 12 + 0 ≤ 7293034; omega⟩) (fun r1 μ H h hW => ?_)
  refine lv_istore (lv' := [(6, .int r1), (5, .int k1), (4, .int (jI (5 * (n : Int)))), (0, .ref b), (1, .ref (ad 0)), (2, .ref (am 0)), (3, .ref o)]) hx hb dL_law_1243 hl (by decide) rfl (fun ls hl => ?_)
  refine lv_aload_n hx hb dL_law_1245 rfl (lv_at hl 5 rfl) ?_
  refine lcallM hA hW (va_runV (As := []) (rest := []) ⟨hx, hb, hml, hown, hts⟩ (c_X7_thrown l D cy am μ  h) (cwV 0 hts gL_law_X7_thrown rfl rfl rfl (by decide +kernel) ⟨(Nat.le_of_ble_eq_true rfl), (Nat.le_of_ble_eq_true rfl)⟩) (zpreV hA.2.1 hK hW.2.2.1 _ (i := 0) (ci := 6) (by decide) rfl rfl) rfl rfl hl.1 rfl (lv_room (Nat.le_of_ble_eq_true rfl)) dL_law_1246 ⟨by show cells + 2 + 0 ≤ 601024; omega, by show slots + 12 + 0 ≤ 7293034; omega⟩) (fun t1 μ H h hW => ?_)
  obtain ⟨e1, e2, hQ⟩ := h
  refine lv_iload hx hb dL_law_1249 (lv_at hl 1 rfl) ?_
  refine lv_icmp_eq (tgt := 1256) hx hb dL_law_1251 (by decide) (fun _ => ?_) (fun c9 => absurd e1 c9)
  refine lv_iload hx hb dL_law_1256 (lv_at hl 1 rfl) ?_
  refine zif_ne (tgt := 1273) hx hb dL_law_1258 (by decide) (fun c1 => ?_) (fun c1 => ?_)
  · skip
    refine lv_goto (tgt := 1360) hx hb dL_law_1273 (by decide) ?_
    refine W.widen (k := cells + 2) (n := slots + 12) (by omega) (by omega) ?_
    exact kk _ _ _ _ _ hQ hW (lv_sub hl [2, 3, 4, 5, 6] rfl)
  · skip
    refine lv_aload_n hx hb dL_law_1261 rfl (lv_at hl 6 rfl) ?_
    refine lv_iconst (v := jI 0) hx hb dL_law_1262 rfl ?_
    refine zlald hx hb hLo hW.2.2.2 dL_law_1263 ?_
    refine lv_iload hx hb dL_law_1264 (lv_at hl 0 rfl) ?_
    refine lv_i2l (v := r1.toInt64) hx hb dL_law_1266 rfl ?_
    refine W.lcmp hx hb dL_law_1267 ?_
    rw [e2 c1, lgc0]
    refine zif_eq (tgt := 1273) hx hb dL_law_1268 (by decide) (fun _ => ?_) (fun c9 => absurd rfl c9)
    refine lv_goto (tgt := 1360) hx hb dL_law_1273 (by decide) ?_
    refine W.widen (k := cells + 2) (n := slots + 12) (by omega) (by omega) ?_
    exact kk _ _ _ _ _ hQ hW (lv_sub hl [2, 3, 4, 5, 6] rfl)
set_option maxHeartbeats 4000000 in
set_option maxRecDepth 100000 in
theorem lb_clearCommands {p : Program} {l : Launch} {e : Env} {s : State} {m : MethodId} {args : Array Value} {below : List Frame} {meth : Method} {c : Code} {H : Heap} {cells slots : Nat} {QQ : State → Prop} {ls : Array Slot} {b L n : Nat} {xs y : Nat → Int32} {D : va_G} {cy : cyT} {cL : ClassId} {sa aK aV ad am : Nat → Nat} {o : Nat} {σ μ : ST} {v : Int64} (C : LX p l s m args c b L xs D cy cL sa aK aV ad am o) (hn : 5 * n + 5 ≤ L) (hy : ∀ j : Nat, j < 5 → xs (jI (5 * n + j)).toNatClampNeg = y j) (hc : cells + 2 ≤ 601024) (hs : slots + 12 ≤ 7293034) (hl : lv_has ls 7 [(4, .int (jI (5 * (n : Int)))), (0, .ref b), (1, .ref (ad 0)), (2, .ref (am 0)), (3, .ref o)]) (hW : LW D cy cL ad am o s.heap σ μ v H) (Q9 : ST → ST → Prop) (h : wp_X6_clearCommands σ (fun r σ' => wp_X7_clearCommands μ (fun r2 μ2 => r = r2 ∧ Q9 σ' μ2))) (kk : ∀ (σ' μ' : ST) (v' : Int64) (H1 : Heap) (ls : Array Slot), Q9 σ' μ' → LW D cy cL ad am o s.heap σ' μ' v' H1 → lv_has ls 7 [(4, .int (jI (5 * (n : Int)))), (0, .ref b), (1, .ref (ad 0)), (2, .ref (am 0)), (3, .ref o)] → W p l e room_1 s m args below meth c H1 [] (cells + 2) (slots + 12) QQ (F0 m 1360 ls [])) : W p l e room_1 s m args below meth c H [] cells slots QQ (F0 m 1276 ls []) := by
  obtain ⟨hx, hb, hml, hown, hts, hX, hbl, hL, hK, hZX, hZ, hLo, hCa, hA, hlt⟩ := C
  refine lv_aload_n hx hb dL_law_1276 rfl (lv_at hl 2 rfl) ?_
  refine lcallC hA hW (va_runV (As := []) (rest := []) ⟨hx, hb, hml, hown, hts⟩ (c_X6_clearCommands l D cy ad σ h) (cwV 0 hts gL_law_X6_clearCommands rfl rfl rfl (by decide +kernel) ⟨(Nat.le_of_ble_eq_true rfl), (Nat.le_of_ble_eq_true rfl)⟩) (zpreV hA.1 hK hW.2.1 _ (i := 0) (ci := 5) (by decide) rfl rfl) rfl rfl hl.1 rfl (lv_room (Nat.le_of_ble_eq_true rfl)) dL_law_1277 ⟨by show cells + 0 ≤ 601024; omega, by show slots + 0 ≤ 7293034; omega⟩) (fun r1 σ H h hW => ?_)
  refine lv_aload_n hx hb dL_law_1280 rfl (lv_at hl 3 rfl) ?_
  refine lcallM hA hW (va_runV (As := []) (rest := [.int r1]) ⟨hx, hb, hml, hown, hts⟩ (c_X7_clearCommands l D cy am μ h) (cwV 0 hts gL_law_X7_clearCommands rfl rfl rfl (by decide +kernel) ⟨(Nat.le_of_ble_eq_true rfl), (Nat.le_of_ble_eq_true rfl)⟩) (zpreV hA.2.1 hK hW.2.2.1 _ (i := 0) (ci := 6) (by decide) rfl rfl) rfl rfl hl.1 rfl (lv_room (Nat.le_of_ble_eq_true rfl)) dL_law_1281 ⟨by show cells + 0 ≤ 601024; omega, by show slots + 0 ≤ 7293034; omega⟩) (fun r2 μ H h hW => ?_)
  obtain ⟨e1, hQ⟩ := h
  refine lv_icmp_eq (tgt := 1360) hx hb dL_law_1284 (by decide) (fun _ => ?_) (fun c9 => absurd e1 c9)
  refine W.widen (k := cells + 2) (n := slots + 12) (by omega) (by omega) ?_
  exact kk _ _ _ _ _ hQ hW hl
set_option maxHeartbeats 4000000 in
set_option maxRecDepth 100000 in
theorem lb_runCommands {p : Program} {l : Launch} {e : Env} {s : State} {m : MethodId} {args : Array Value} {below : List Frame} {meth : Method} {c : Code} {H : Heap} {cells slots : Nat} {QQ : State → Prop} {ls : Array Slot} {b L n : Nat} {xs y : Nat → Int32} {D : va_G} {cy : cyT} {cL : ClassId} {sa aK aV ad am : Nat → Nat} {o : Nat} {σ μ : ST} {v : Int64} (C : LX p l s m args c b L xs D cy cL sa aK aV ad am o) (hn : 5 * n + 5 ≤ L) (hy : ∀ j : Nat, j < 5 → xs (jI (5 * n + j)).toNatClampNeg = y j) (hc : cells + 2 ≤ 601024) (hs : slots + 12 ≤ 7293034) (hl : lv_has ls 7 [(4, .int (jI (5 * (n : Int)))), (0, .ref b), (1, .ref (ad 0)), (2, .ref (am 0)), (3, .ref o)]) (hW : LW D cy cL ad am o s.heap σ μ v H) (Q9 : ST → ST → Prop) (h : wp_X6_runCommands σ (fun r σ' => wp_X7_runCommands μ (fun r2 μ2 => r = r2 ∧ Q9 σ' μ2))) (kk : ∀ (σ' μ' : ST) (v' : Int64) (H1 : Heap) (ls : Array Slot), Q9 σ' μ' → LW D cy cL ad am o s.heap σ' μ' v' H1 → lv_has ls 7 [(4, .int (jI (5 * (n : Int)))), (0, .ref b), (1, .ref (ad 0)), (2, .ref (am 0)), (3, .ref o)] → W p l e room_1 s m args below meth c H1 [] (cells + 2) (slots + 12) QQ (F0 m 1360 ls [])) : W p l e room_1 s m args below meth c H [] cells slots QQ (F0 m 1289 ls []) := by
  obtain ⟨hx, hb, hml, hown, hts, hX, hbl, hL, hK, hZX, hZ, hLo, hCa, hA, hlt⟩ := C
  refine lv_aload_n hx hb dL_law_1289 rfl (lv_at hl 2 rfl) ?_
  refine lcallC hA hW (va_runV (As := []) (rest := []) ⟨hx, hb, hml, hown, hts⟩ (c_X6_runCommands l D cy ad (fun q => s.heap.size ≤ q) aK aV σ h) (cwV 0 hts gL_law_X6_runCommands rfl rfl rfl (by decide +kernel) ⟨(Nat.le_of_ble_eq_true rfl), (Nat.le_of_ble_eq_true rfl)⟩) (lpreZ hA hW hK hZ _) rfl rfl hl.1 rfl (lv_room (Nat.le_of_ble_eq_true rfl)) dL_law_1290 ⟨by show cells + 0 ≤ 601024; omega, by show slots + 0 ≤ 7293034; omega⟩) (fun r1 σ H h hW => ?_)
  refine lv_aload_n hx hb dL_law_1293 rfl (lv_at hl 3 rfl) ?_
  refine lcallM hA hW (va_runV (As := []) (rest := [.int r1]) ⟨hx, hb, hml, hown, hts⟩ (c_X7_runCommands l D cy am μ h) (cwV 0 hts gL_law_X7_runCommands rfl rfl rfl (by decide +kernel) ⟨(Nat.le_of_ble_eq_true rfl), (Nat.le_of_ble_eq_true rfl)⟩) (zpreV hA.2.1 hK hW.2.2.1 _ (i := 0) (ci := 6) (by decide) rfl rfl) rfl rfl hl.1 rfl (lv_room (Nat.le_of_ble_eq_true rfl)) dL_law_1294 ⟨by show cells + 0 ≤ 601024; omega, by show slots + 0 ≤ 7293034; omega⟩) (fun r2 μ H h hW => ?_)
  obtain ⟨e1, hQ⟩ := h
  refine lv_icmp_eq (tgt := 1360) hx hb dL_law_1297 (by decide) (fun _ => ?_) (fun c9 => absurd e1 c9)
  refine W.widen (k := cells + 2) (n := slots + 12) (by omega) (by omega) ?_
  exact kk _ _ _ _ _ hQ hW hl
set_option maxHeartbeats 4000000 in
set_option maxRecDepth 100000 in
theorem lb_undo {p : Program} {l : Launch} {e : Env} {s : State} {m : MethodId} {args : Array Value} {below : List Frame} {meth : Method} {c : Code} {H : Heap} {cells slots : Nat} {QQ : State → Prop} {ls : Array Slot} {b L n : Nat} {xs y : Nat → Int32} {D : va_G} {cy : cyT} {cL : ClassId} {sa aK aV ad am : Nat → Nat} {o : Nat} {σ μ : ST} {v : Int64} (C : LX p l s m args c b L xs D cy cL sa aK aV ad am o) (hn : 5 * n + 5 ≤ L) (hy : ∀ j : Nat, j < 5 → xs (jI (5 * n + j)).toNatClampNeg = y j) (hc : cells + 2 ≤ 601024) (hs : slots + 12 ≤ 7293034) (hl : lv_has ls 7 [(4, .int (jI (5 * (n : Int)))), (0, .ref b), (1, .ref (ad 0)), (2, .ref (am 0)), (3, .ref o)]) (hW : LW D cy cL ad am o s.heap σ μ v H) (Q9 : ST → ST → Prop) (h : wL_undo σ  v (fun k w σ' => wp_X7_undo μ  (fun r μ1 => wp_X7_thrown μ1 (fun th μ2 => th = k ∧ (k = jI 0 → w = r.toInt64) ∧ Q9 σ' μ2)))) (kk : ∀ (σ' μ' : ST) (v' : Int64) (H1 : Heap) (ls : Array Slot), Q9 σ' μ' → LW D cy cL ad am o s.heap σ' μ' v' H1 → lv_has ls 7 [(4, .int (jI (5 * (n : Int)))), (0, .ref b), (1, .ref (ad 0)), (2, .ref (am 0)), (3, .ref o)] → W p l e room_1 s m args below meth c H1 [] (cells + 2) (slots + 12) QQ (F0 m 1360 ls [])) : W p l e room_1 s m args below meth c H [] cells slots QQ (F0 m 1302 ls []) := by
  obtain ⟨hx, hb, hml, hown, hts, hX, hbl, hL, hK, hZX, hZ, hLo, hCa, hA, hlt⟩ := C
  refine lv_aload_n hx hb dL_law_1302 rfl (lv_at hl 2 rfl) ?_
  refine lv_aload_n hx hb dL_law_1303 rfl (lv_at hl 4 rfl) ?_
  refine lcallL hA hW (vx_runSW (As := [.ref (ad 0), .ref o]) (rest := []) ⟨hx, hb, hml, hown, hts⟩ (c_L_undo l hlt D cy cL ad (fun q => s.heap.size ≤ q) sa H.size σ  v o h) (vx_cwSW 2 hts gL_law_L_undo rfl rfl rfl (by decide +kernel) ⟨(Nat.le_of_ble_eq_true rfl), (Nat.le_of_ble_eq_true rfl)⟩) (lpreS hA hW hK hZX hLo hCa _) rfl rfl hl.1 rfl (lv_room (Nat.le_of_ble_eq_true rfl)) dL_law_1304 ⟨by show cells + 1 ≤ 601024; omega, by show slots + 6 ≤ 7293034; omega⟩) (fun k1 σ v H h hW => ?_)
  refine lv_istore (lv' := [(5, .int k1), (4, .int (jI (5 * (n : Int)))), (0, .ref b), (1, .ref (ad 0)), (2, .ref (am 0)), (3, .ref o)]) hx hb dL_law_1307 hl (by decide) rfl (fun ls hl => ?_)
  refine lv_aload_n hx hb dL_law_1309 rfl (lv_at hl 4 rfl) ?_
  refine lcallM hA hW (va_runV (As := []) (rest := []) ⟨hx, hb, hml, hown, hts⟩ (c_X7_undo l D cy am μ  h) (cwV 0 hts gL_law_X7_undo rfl rfl rfl (by decide +kernel) ⟨(Nat.le_of_ble_eq_true rfl), (Nat.le_of_ble_eq_true rfl)⟩) (zpreV hA.2.1 hK hW.2.2.1 _ (i := 0) (ci := 6) (by decide) rfl rfl) rfl rfl hl.1 rfl (lv_room (Nat.le_of_ble_eq_true rfl)) dL_law_1310 ⟨by show cells + 1 + 0 ≤ 601024; omega, by show slots + 6 + 0 ≤ 7293034; omega⟩) (fun r1 μ H h hW => ?_)
  refine lv_istore (lv' := [(6, .int r1), (5, .int k1), (4, .int (jI (5 * (n : Int)))), (0, .ref b), (1, .ref (ad 0)), (2, .ref (am 0)), (3, .ref o)]) hx hb dL_law_1313 hl (by decide) rfl (fun ls hl => ?_)
  refine lv_aload_n hx hb dL_law_1315 rfl (lv_at hl 5 rfl) ?_
  refine lcallM hA hW (va_runV (As := []) (rest := []) ⟨hx, hb, hml, hown, hts⟩ (c_X7_thrown l D cy am μ  h) (cwV 0 hts gL_law_X7_thrown rfl rfl rfl (by decide +kernel) ⟨(Nat.le_of_ble_eq_true rfl), (Nat.le_of_ble_eq_true rfl)⟩) (zpreV hA.2.1 hK hW.2.2.1 _ (i := 0) (ci := 6) (by decide) rfl rfl) rfl rfl hl.1 rfl (lv_room (Nat.le_of_ble_eq_true rfl)) dL_law_1316 ⟨by show cells + 1 + 0 ≤ 601024; omega, by show slots + 6 + 0 ≤ 7293034; omega⟩) (fun t1 μ H h hW => ?_)
  obtain ⟨e1, e2, hQ⟩ := h
  refine lv_iload hx hb dL_law_1319 (lv_at hl 1 rfl) ?_
  refine lv_icmp_eq (tgt := 1326) hx hb dL_law_1321 (by decide) (fun _ => ?_) (fun c9 => absurd e1 c9)
  refine lv_iload hx hb dL_law_1326 (lv_at hl 1 rfl) ?_
  refine zif_ne (tgt := 1343) hx hb dL_law_1328 (by decide) (fun c1 => ?_) (fun c1 => ?_)
  · skip
    refine lv_goto (tgt := 1360) hx hb dL_law_1343 (by decide) ?_
    refine W.widen (k := cells + 2) (n := slots + 12) (by omega) (by omega) ?_
    exact kk _ _ _ _ _ hQ hW (lv_sub hl [2, 3, 4, 5, 6] rfl)
  · skip
    refine lv_aload_n hx hb dL_law_1331 rfl (lv_at hl 6 rfl) ?_
    refine lv_iconst (v := jI 0) hx hb dL_law_1332 rfl ?_
    refine zlald hx hb hLo hW.2.2.2 dL_law_1333 ?_
    refine lv_iload hx hb dL_law_1334 (lv_at hl 0 rfl) ?_
    refine lv_i2l (v := r1.toInt64) hx hb dL_law_1336 rfl ?_
    refine W.lcmp hx hb dL_law_1337 ?_
    rw [e2 c1, lgc0]
    refine zif_eq (tgt := 1343) hx hb dL_law_1338 (by decide) (fun _ => ?_) (fun c9 => absurd rfl c9)
    refine lv_goto (tgt := 1360) hx hb dL_law_1343 (by decide) ?_
    refine W.widen (k := cells + 2) (n := slots + 12) (by omega) (by omega) ?_
    exact kk _ _ _ _ _ hQ hW (lv_sub hl [2, 3, 4, 5, 6] rfl)
set_option maxHeartbeats 4000000 in
set_option maxRecDepth 100000 in
theorem lb_digest {p : Program} {l : Launch} {e : Env} {s : State} {m : MethodId} {args : Array Value} {below : List Frame} {meth : Method} {c : Code} {H : Heap} {cells slots : Nat} {QQ : State → Prop} {ls : Array Slot} {b L n : Nat} {xs y : Nat → Int32} {D : va_G} {cy : cyT} {cL : ClassId} {sa aK aV ad am : Nat → Nat} {o : Nat} {σ μ : ST} {v : Int64} (C : LX p l s m args c b L xs D cy cL sa aK aV ad am o) (hn : 5 * n + 5 ≤ L) (hy : ∀ j : Nat, j < 5 → xs (jI (5 * n + j)).toNatClampNeg = y j) (hc : cells + 2 ≤ 601024) (hs : slots + 12 ≤ 7293034) (hl : lv_has ls 7 [(4, .int (jI (5 * (n : Int)))), (0, .ref b), (1, .ref (ad 0)), (2, .ref (am 0)), (3, .ref o)]) (hW : LW D cy cL ad am o s.heap σ μ v H) (Q9 : ST → ST → Prop) (h : wp_X6_digest σ (fun r σ' => wp_X7_digest μ (fun r2 μ2 => r = r2 ∧ Q9 σ' μ2))) (kk : ∀ (σ' μ' : ST) (v' : Int64) (H1 : Heap) (ls : Array Slot), Q9 σ' μ' → LW D cy cL ad am o s.heap σ' μ' v' H1 → lv_has ls 7 [(4, .int (jI (5 * (n : Int)))), (0, .ref b), (1, .ref (ad 0)), (2, .ref (am 0)), (3, .ref o)] → W p l e room_1 s m args below meth c H1 [] (cells + 2) (slots + 12) QQ (F0 m 1360 ls [])) : W p l e room_1 s m args below meth c H [] cells slots QQ (F0 m 1346 ls []) := by
  obtain ⟨hx, hb, hml, hown, hts, hX, hbl, hL, hK, hZX, hZ, hLo, hCa, hA, hlt⟩ := C
  refine lv_aload_n hx hb dL_law_1346 rfl (lv_at hl 2 rfl) ?_
  refine lcallCl hA hW (va_runV (As := []) (rest := []) ⟨hx, hb, hml, hown, hts⟩ (c_X6_digest l D cy ad σ h) (cwV 0 hts gL_law_X6_digest rfl rfl rfl (by decide +kernel) ⟨(Nat.le_of_ble_eq_true rfl), (Nat.le_of_ble_eq_true rfl)⟩) (zpreV hA.1 hK hW.2.1 _ (i := 0) (ci := 5) (by decide) rfl rfl) rfl rfl hl.1 rfl (lv_room (Nat.le_of_ble_eq_true rfl)) dL_law_1347 ⟨by show cells + 0 ≤ 601024; omega, by show slots + 0 ≤ 7293034; omega⟩) (fun r1 σ H h hW => ?_)
  refine lv_aload_n hx hb dL_law_1350 rfl (lv_at hl 3 rfl) ?_
  refine lcallMl hA hW (va_runV (As := []) (rest := [.long r1]) ⟨hx, hb, hml, hown, hts⟩ (c_X7_digest l D cy am μ h) (cwV 0 hts gL_law_X7_digest rfl rfl rfl (by decide +kernel) ⟨(Nat.le_of_ble_eq_true rfl), (Nat.le_of_ble_eq_true rfl)⟩) (zpreV hA.2.1 hK hW.2.2.1 _ (i := 0) (ci := 6) (by decide) rfl rfl) rfl rfl hl.1 rfl (lv_room (Nat.le_of_ble_eq_true rfl)) dL_law_1351 ⟨by show cells + 0 ≤ 601024; omega, by show slots + 0 ≤ 7293034; omega⟩) (fun r2 μ H h hW => ?_)
  obtain ⟨e1, hQ⟩ := h
  refine W.lcmp hx hb dL_law_1354 ?_
  rw [e1, lgc0]
  refine zif_eq (tgt := 1360) hx hb dL_law_1355 (by decide) (fun _ => ?_) (fun c9 => absurd rfl c9)
  refine W.widen (k := cells + 2) (n := slots + 12) (by omega) (by omega) ?_
  exact kk _ _ _ _ _ hQ hW hl
theorem last_28 : True := trivial
