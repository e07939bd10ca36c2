/-! printed by wip/whole/gen7.py: the law's loop -/
def LX (p : Program) (l : Launch) (s : State) (m : MethodId) (args : Array Value) (c : Code) (b L : Nat) (xs : Nat → Int32) (D : va_G) (cy : cyT) (cL : ClassId) (sa aK aV ad am : Nat → Nat) (o : Nat) : Prop :=
  p.tables.exec = Jvm.exec ∧ c.code = cL_law ∧ c.maxLocals = 7 ∧ s.vm.findClass RL = some m.cls ∧ (∀ w ∈ wsL_law, w.before args s = true) ∧ va_X b L xs s s.heap ∧ b < s.heap.size ∧ L ≤ 2560 ∧ zK D cy s ∧ zX (fun q => s.heap.size ≤ q) sa s ∧ zStr (fun q => s.heap.size ≤ q) aK aV s ∧ ArrOfT s cL .long ∧ zCa s ∧ LA ad am o s.heap.size ∧ l.stackTraces = false
def st_cut (I : Nat → ST → ST → Prop) : Prop := ∀ (n : Nat) (σ μ : ST) (v : Int64) (p1 : Int32) (p2 : Int32) (p3 : Int32), n < 512 → I n σ μ → wL_cut σ p1 p2 p3 v (fun k w σ' => wp_X7_cut μ p1 p2 p3 (fun r μ1 => wp_X7_thrown μ1 (fun th μ2 => th = k ∧ (k = jI 0 → w = r.toInt64) ∧ I (n + 1) σ' μ2)))
def st_use (I : Nat → ST → ST → Prop) : Prop := ∀ (n : Nat) (σ μ : ST) (v : Int64) (p1 : Int32) (p2 : Int32) (p3 : Int32), n < 512 → I n σ μ → wL_use σ p1 p2 p3 v (fun k w σ' => wp_X7_use μ p1 p2 p3 (fun r μ1 => wp_X7_thrown μ1 (fun th μ2 => th = k ∧ (k = jI 0 → w = r.toInt64) ∧ I (n + 1) σ' μ2)))
def st_drop (I : Nat → ST → ST → Prop) : Prop := ∀ (n : Nat) (σ μ : ST) (v : Int64) (p1 : Int32) (p2 : Int32) (p3 : Int32), n < 512 → I n σ μ → wL_drop σ p1 p2 p3 v (fun k w σ' => wp_X7_drop μ p1 p2 p3 (fun r μ1 => wp_X7_thrown μ1 (fun th μ2 => th = k ∧ (k = jI 0 → w = r.toInt64) ∧ I (n + 1) σ' μ2)))
def st_newLine (I : Nat → ST → ST → Prop) : Prop := ∀ (n : Nat) (σ μ : ST), n < 512 → I n σ μ → wp_X6_newLine σ (fun r σ' => wp_X7_newLine μ (fun r2 μ2 => r = r2 ∧ I (n + 1) σ' μ2))
def st_addTray (I : Nat → ST → ST → Prop) : Prop := ∀ (n : Nat) (σ μ : ST) (v : Int64) , n < 512 → I n σ μ → wL_addTray σ  v (fun k w σ' => wp_X7_addTray μ  (fun r μ1 => wp_X7_thrown μ1 (fun th μ2 => th = k ∧ (k = jI 0 → w = r.toInt64) ∧ I (n + 1) σ' μ2)))
def st_closeShelves (I : Nat → ST → ST → Prop) : Prop := ∀ (n : Nat) (σ μ : ST), n < 512 → I n σ μ → wp_X6_closeShelves σ (fun r σ' => wp_X7_closeShelves μ (fun r2 μ2 => r = r2 ∧ I (n + 1) σ' μ2))
def st_letter (I : Nat → ST → ST → Prop) : Prop := ∀ (n : Nat) (σ μ : ST) (v : Int64) (p1 : Int32) (p2 : Int32) (p3 : Int32) (p4 : Int32), n < 512 → I n σ μ → wL_letter σ p1 p2 p3 p4 v (fun k w σ' => wp_X7_letter μ p1 p2 p3 p4 (fun r μ1 => wp_X7_thrown μ1 (fun th μ2 => th = k ∧ (k = jI 0 → w = r.toInt64) ∧ I (n + 1) σ' μ2)))
def st_sign (I : Nat → ST → ST → Prop) : Prop := ∀ (n : Nat) (σ μ : ST) (v : Int64) (p1 : Int32) (p2 : Int32), n < 512 → I n σ μ → wL_sign σ p1 p2 v (fun k w σ' => wp_X7_sign μ p1 p2 (fun r μ1 => wp_X7_thrown μ1 (fun th μ2 => th = k ∧ (k = jI 0 → w = r.toInt64) ∧ I (n + 1) σ' μ2)))
def st_tray (I : Nat → ST → ST → Prop) : Prop := ∀ (n : Nat) (σ μ : ST) (v : Int64) (p1 : Int32) (p2 : Int32), n < 512 → I n σ μ → wL_tray σ p1 p2 v (fun k w σ' => wp_X7_tray μ p1 p2 (fun r μ1 => wp_X7_thrown μ1 (fun th μ2 => th = k ∧ (k = jI 0 → w = r.toInt64) ∧ I (n + 1) σ' μ2)))
def st_shelf (I : Nat → ST → ST → Prop) : Prop := ∀ (n : Nat) (σ μ : ST) (v : Int64) (p1 : Int32) (p2 : Int32) (p3 : Int32), n < 512 → I n σ μ → wL_shelf σ p1 p2 p3 v (fun k w σ' => wp_X7_shelf μ p1 p2 p3 (fun r μ1 => wp_X7_thrown μ1 (fun th μ2 => th = k ∧ (k = jI 0 → w = r.toInt64) ∧ I (n + 1) σ' μ2)))
def st_at (I : Nat → ST → ST → Prop) : Prop := ∀ (n : Nat) (σ μ : ST) (v : Int64) (p1 : Int32) (p2 : Int32) (p3 : Int32), n < 512 → I n σ μ → wL_at σ p1 p2 p3 v (fun k w σ' => wp_X7_at μ p1 p2 p3 (fun r μ1 => wp_X7_thrown μ1 (fun th μ2 => th = k ∧ (k = jI 0 → w = r.toInt64) ∧ I (n + 1) σ' μ2)))
def st_street (I : Nat → ST → ST → Prop) : Prop := ∀ (n : Nat) (σ μ : ST) (v : Int64) (p1 : Int32), n < 512 → I n σ μ → wL_street σ p1 v (fun k w σ' => wp_X7_street μ p1 (fun r μ1 => wp_X7_thrown μ1 (fun th μ2 => th = k ∧ (k = jI 0 → w = r.toInt64) ∧ I (n + 1) σ' μ2)))
def st_whole (I : Nat → ST → ST → Prop) : Prop := ∀ (n : Nat) (σ μ : ST) (v : Int64) (p1 : Int32), n < 512 → I n σ μ → wL_whole σ p1 v (fun k w σ' => wp_X7_whole μ p1 (fun r μ1 => wp_X7_thrown μ1 (fun th μ2 => th = k ∧ (k = jI 0 → w = r.toInt64) ∧ I (n + 1) σ' μ2)))
def st_rule (I : Nat → ST → ST → Prop) : Prop := ∀ (n : Nat) (σ μ : ST) (v : Int64) (p1 : Int32) (p2 : Int32) (p3 : Int32), n < 512 → I n σ μ → wL_rule σ p1 p2 p3 v (fun k w σ' => wp_X7_rule μ p1 p2 p3 (fun r μ1 => wp_X7_thrown μ1 (fun th μ2 => th = k ∧ (k = jI 0 → w = r.toInt64) ∧ I (n + 1) σ' μ2)))
def st_takenBy (I : Nat → ST → ST → Prop) : Prop := ∀ (n : Nat) (σ μ : ST) (v : Int64) (p1 : Int32) (p2 : Int32) (p3 : Int32), n < 512 → I n σ μ → wL_takenBy σ p1 p2 p3 v (fun k w σ' => wp_X7_takenBy μ p1 p2 p3 (fun r μ1 => wp_X7_thrown μ1 (fun th μ2 => th = k ∧ (k = jI 0 → w = r.toInt64) ∧ I (n + 1) σ' μ2)))
def st_costOf (I : Nat → ST → ST → Prop) : Prop := ∀ (n : Nat) (σ μ : ST) (v : Int64) (p1 : Int32) (p2 : Int32) (p3 : Int32), n < 512 → I n σ μ → wL_costOf σ p1 p2 p3 v (fun k w σ' => wp_X7_costOf μ p1 p2 p3 (fun r μ1 => wp_X7_thrown μ1 (fun th μ2 => th = k ∧ (k = jI 0 → w = r.toInt64) ∧ I (n + 1) σ' μ2)))
def st_oldest (I : Nat → ST → ST → Prop) : Prop := ∀ (n : Nat) (σ μ : ST), n < 512 → I n σ μ → wp_X6_oldest σ (fun r σ' => wp_X7_oldest μ (fun r2 μ2 => r = r2 ∧ I (n + 1) σ' μ2))
def st_greatestGap (I : Nat → ST → ST → Prop) : Prop := ∀ (n : Nat) (σ μ : ST), n < 512 → I n σ μ → wp_X6_greatestGap σ (fun r σ' => wp_X7_greatestGap μ (fun r2 μ2 => r = r2 ∧ I (n + 1) σ' μ2))
def st_type (I : Nat → ST → ST → Prop) : Prop := ∀ (n : Nat) (σ μ : ST) (v : Int64) (p1 : Int32), n < 512 → I n σ μ → wL_type σ p1 v (fun k w σ' => wp_X7_type μ p1 (fun r μ1 => wp_X7_thrown μ1 (fun th μ2 => th = k ∧ (k = jI 0 → w = r.toInt64) ∧ I (n + 1) σ' μ2)))
def st_clearCommands (I : Nat → ST → ST → Prop) : Prop := ∀ (n : Nat) (σ μ : ST), n < 512 → I n σ μ → wp_X6_clearCommands σ (fun r σ' => wp_X7_clearCommands μ (fun r2 μ2 => r = r2 ∧ I (n + 1) σ' μ2))
def st_runCommands (I : Nat → ST → ST → Prop) : Prop := ∀ (n : Nat) (σ μ : ST), n < 512 → I n σ μ → wp_X6_runCommands σ (fun r σ' => wp_X7_runCommands μ (fun r2 μ2 => r = r2 ∧ I (n + 1) σ' μ2))
def st_undo (I : Nat → ST → ST → Prop) : Prop := ∀ (n : Nat) (σ μ : ST) (v : Int64) , n < 512 → I n σ μ → wL_undo σ  v (fun k w σ' => wp_X7_undo μ  (fun r μ1 => wp_X7_thrown μ1 (fun th μ2 => th = k ∧ (k = jI 0 → w = r.toInt64) ∧ I (n + 1) σ' μ2)))
def st_digest (I : Nat → ST → ST → Prop) : Prop := ∀ (n : Nat) (σ μ : ST), n < 512 → I n σ μ → wp_X6_digest σ (fun r σ' => wp_X7_digest μ (fun r2 μ2 => r = r2 ∧ I (n + 1) σ' μ2))
def Sims (I : Nat → ST → ST → Prop) : Prop :=
  st_cut I ∧ st_use I ∧ st_drop I ∧ st_newLine I ∧ st_addTray I ∧ st_closeShelves I ∧ st_letter I ∧ st_sign I ∧ st_tray I ∧ st_shelf I ∧ st_at I ∧ st_street I ∧ st_whole I ∧ st_rule I ∧ st_takenBy I ∧ st_costOf I ∧ st_oldest I ∧ st_greatestGap I ∧ st_type I ∧ st_clearCommands I ∧ st_runCommands I ∧ st_undo I ∧ st_digest I ∧ ∀ (n : Nat) (σ μ : ST), n < 512 → I n σ μ → I (n + 1) σ μ
set_option maxHeartbeats 4000000 in
set_option maxRecDepth 100000 in
theorem lb_cut {p : Program} {l : Launch} {e : Env} {s : State} {m : MethodId} {args : Array Value} {below : List Frame} {meth : Method} {c : Code} {H : Heap} {cells slots : Nat} {QQ : State → Prop} {ls : Array Slot} {b L n : Nat} {xs y : Nat → Int32} {D : va_G} {cy : cyT} {cL : ClassId} {sa aK aV ad am : Nat → Nat} {o : Nat} {σ μ : ST} {v : Int64} (C : LX p l s m args c b L xs D cy cL sa aK aV ad am o) (hn : 5 * n + 5 ≤ L) (hy : ∀ j : Nat, j < 5 → xs (jI (5 * n + j)).toNatClampNeg = y j) (hc : cells + 2 ≤ 601024) (hs : slots + 12 ≤ 7293034) (hl : lv_has ls 7 [(4, .int (jI (5 * (n : Int)))), (0, .ref b), (1, .ref (ad 0)), (2, .ref (am 0)), (3, .ref o)]) (hW : LW D cy cL ad am o s.heap σ μ v H) (Q9 : ST → ST → Prop) (h : wL_cut σ (y 1) (y 2) (y 3) v (fun k w σ' => wp_X7_cut μ (y 1) (y 2) (y 3) (fun r μ1 => wp_X7_thrown μ1 (fun th μ2 => th = k ∧ (k = jI 0 → w = r.toInt64) ∧ Q9 σ' μ2)))) (kk : ∀ (σ' μ' : ST) (v' : Int64) (H1 : Heap) (ls : Array Slot), Q9 σ' μ' → LW D cy cL ad am o s.heap σ' μ' v' H1 → lv_has ls 7 [(4, .int (jI (5 * (n : Int)))), (0, .ref b), (1, .ref (ad 0)), (2, .ref (am 0)), (3, .ref o)] → W p l e room_1 s m args below meth c H1 [] (cells + 2) (slots + 12) QQ (F0 m 1360 ls [])) : W p l e room_1 s m args below meth c H [] cells slots QQ (F0 m 144 ls []) := by
  obtain ⟨hx, hb, hml, hown, hts, hX, hbl, hL, hK, hZX, hZ, hLo, hCa, hA, hlt⟩ := C
  refine lv_aload_n hx hb dL_law_144 rfl (lv_at hl 2 rfl) ?_
  refine zscr hx hb hX hbl hW.1 hL hn hy hl 1 0 rfl rfl 1 (by decide) dL_law_145 dL_law_146 dL_law_148 dL_law_149 dL_law_150 ?_
  refine zscr hx hb hX hbl hW.1 hL hn hy hl 1 0 rfl rfl 2 (by decide) dL_law_151 dL_law_152 dL_law_154 dL_law_155 dL_law_156 ?_
  refine zscr hx hb hX hbl hW.1 hL hn hy hl 1 0 rfl rfl 3 (by decide) dL_law_157 dL_law_158 dL_law_160 dL_law_161 dL_law_162 ?_
  refine lv_aload_n hx hb dL_law_163 rfl (lv_at hl 4 rfl) ?_
  refine lcallL hA hW (vx_runSW (As := [.ref (ad 0), .int (y 1), .int (y 2), .int (y 3), .ref o]) (rest := []) ⟨hx, hb, hml, hown, hts⟩ (c_L_cut l hlt D cy cL ad (fun q => s.heap.size ≤ q) sa H.size σ (y 1) (y 2) (y 3) v o h) (vx_cwSW 5 hts gL_law_L_cut rfl rfl rfl (by decide +kernel) ⟨(Nat.le_of_ble_eq_true rfl), (Nat.le_of_ble_eq_true rfl)⟩) (lpreS hA hW hK hZX hLo hCa _) rfl rfl hl.1 rfl (lv_room (Nat.le_of_ble_eq_true rfl)) dL_law_164 ⟨by show cells + 1 ≤ 601024; omega, by show slots + 6 ≤ 7293034; omega⟩) (fun k1 σ v H h hW => ?_)
  refine lv_istore (lv' := [(5, .int k1), (4, .int (jI (5 * (n : Int)))), (0, .ref b), (1, .ref (ad 0)), (2, .ref (am 0)), (3, .ref o)]) hx hb dL_law_167 hl (by decide) rfl (fun ls hl => ?_)
  refine lv_aload_n hx hb dL_law_169 rfl (lv_at hl 4 rfl) ?_
  refine zscr hx hb hX hbl hW.1 hL hn hy hl 2 1 rfl rfl 1 (by decide) dL_law_170 dL_law_171 dL_law_173 dL_law_174 dL_law_175 ?_
  refine zscr hx hb hX hbl hW.1 hL hn hy hl 2 1 rfl rfl 2 (by decide) dL_law_176 dL_law_177 dL_law_179 dL_law_180 dL_law_181 ?_
  refine zscr hx hb hX hbl hW.1 hL hn hy hl 2 1 rfl rfl 3 (by decide) dL_law_182 dL_law_183 dL_law_185 dL_law_186 dL_law_187 ?_
  refine lcallM hA hW (va_runV (As := [.int (y 1), .int (y 2), .int (y 3)]) (rest := []) ⟨hx, hb, hml, hown, hts⟩ (c_X7_cut l D cy am μ (y 1) (y 2) (y 3) h) (cwV 3 hts gL_law_X7_cut rfl rfl rfl (by decide +kernel) ⟨(Nat.le_of_ble_eq_true rfl), (Nat.le_of_ble_eq_true rfl)⟩) (zpreV hA.2.1 hK hW.2.2.1 _ (i := 0) (ci := 6) (by decide) rfl rfl) rfl rfl hl.1 rfl (lv_room (Nat.le_of_ble_eq_true rfl)) dL_law_188 ⟨by show cells + 1 + 0 ≤ 601024; omega, by show slots + 6 + 0 ≤ 7293034; omega⟩) (fun r1 μ H h hW => ?_)
  refine lv_istore (lv' := [(6, .int r1), (5, .int k1), (4, .int (jI (5 * (n : Int)))), (0, .ref b), (1, .ref (ad 0)), (2, .ref (am 0)), (3, .ref o)]) hx hb dL_law_191 hl (by decide) rfl (fun ls hl => ?_)
  refine lv_aload_n hx hb dL_law_193 rfl (lv_at hl 5 rfl) ?_
  refine lcallM hA hW (va_runV (As := []) (rest := []) ⟨hx, hb, hml, hown, hts⟩ (c_X7_thrown l D cy am μ  h) (cwV 0 hts gL_law_X7_thrown rfl rfl rfl (by decide +kernel) ⟨(Nat.le_of_ble_eq_true rfl), (Nat.le_of_ble_eq_true rfl)⟩) (zpreV hA.2.1 hK hW.2.2.1 _ (i := 0) (ci := 6) (by decide) rfl rfl) rfl rfl hl.1 rfl (lv_room (Nat.le_of_ble_eq_true rfl)) dL_law_194 ⟨by show cells + 1 + 0 ≤ 601024; omega, by show slots + 6 + 0 ≤ 7293034; omega⟩) (fun t1 μ H h hW => ?_)
  obtain ⟨e1, e2, hQ⟩ := h
  refine lv_iload hx hb dL_law_197 (lv_at hl 1 rfl) ?_
  refine lv_icmp_eq (tgt := 204) hx hb dL_law_199 (by decide) (fun _ => ?_) (fun c9 => absurd e1 c9)
  refine lv_iload hx hb dL_law_204 (lv_at hl 1 rfl) ?_
  refine zif_ne (tgt := 221) hx hb dL_law_206 (by decide) (fun c1 => ?_) (fun c1 => ?_)
  · skip
    refine lv_goto (tgt := 1360) hx hb dL_law_221 (by decide) ?_
    refine W.widen (k := cells + 2) (n := slots + 12) (by omega) (by omega) ?_
    exact kk _ _ _ _ _ hQ hW (lv_sub hl [2, 3, 4, 5, 6] rfl)
  · skip
    refine lv_aload_n hx hb dL_law_209 rfl (lv_at hl 6 rfl) ?_
    refine lv_iconst (v := jI 0) hx hb dL_law_210 rfl ?_
    refine zlald hx hb hLo hW.2.2.2 dL_law_211 ?_
    refine lv_iload hx hb dL_law_212 (lv_at hl 0 rfl) ?_
    refine lv_i2l (v := r1.toInt64) hx hb dL_law_214 rfl ?_
    refine W.lcmp hx hb dL_law_215 ?_
    rw [e2 c1, lgc0]
    refine zif_eq (tgt := 221) hx hb dL_law_216 (by decide) (fun _ => ?_) (fun c9 => absurd rfl c9)
    refine lv_goto (tgt := 1360) hx hb dL_law_221 (by decide) ?_
    refine W.widen (k := cells + 2) (n := slots + 12) (by omega) (by omega) ?_
    exact kk _ _ _ _ _ hQ hW (lv_sub hl [2, 3, 4, 5, 6] rfl)
set_option maxHeartbeats 4000000 in
set_option maxRecDepth 100000 in
theorem lb_use {p : Program} {l : Launch} {e : Env} {s : State} {m : MethodId} {args : Array Value} {below : List Frame} {meth : Method} {c : Code} {H : Heap} {cells slots : Nat} {QQ : State → Prop} {ls : Array Slot} {b L n : Nat} {xs y : Nat → Int32} {D : va_G} {cy : cyT} {cL : ClassId} {sa aK aV ad am : Nat → Nat} {o : Nat} {σ μ : ST} {v : Int64} (C : LX p l s m args c b L xs D cy cL sa aK aV ad am o) (hn : 5 * n + 5 ≤ L) (hy : ∀ j : Nat, j < 5 → xs (jI (5 * n + j)).toNatClampNeg = y j) (hc : cells + 2 ≤ 601024) (hs : slots + 12 ≤ 7293034) (hl : lv_has ls 7 [(4, .int (jI (5 * (n : Int)))), (0, .ref b), (1, .ref (ad 0)), (2, .ref (am 0)), (3, .ref o)]) (hW : LW D cy cL ad am o s.heap σ μ v H) (Q9 : ST → ST → Prop) (h : wL_use σ (y 1) (y 2) (y 3) v (fun k w σ' => wp_X7_use μ (y 1) (y 2) (y 3) (fun r μ1 => wp_X7_thrown μ1 (fun th μ2 => th = k ∧ (k = jI 0 → w = r.toInt64) ∧ Q9 σ' μ2)))) (kk : ∀ (σ' μ' : ST) (v' : Int64) (H1 : Heap) (ls : Array Slot), Q9 σ' μ' → LW D cy cL ad am o s.heap σ' μ' v' H1 → lv_has ls 7 [(4, .int (jI (5 * (n : Int)))), (0, .ref b), (1, .ref (ad 0)), (2, .ref (am 0)), (3, .ref o)] → W p l e room_1 s m args below meth c H1 [] (cells + 2) (slots + 12) QQ (F0 m 1360 ls [])) : W p l e room_1 s m args below meth c H [] cells slots QQ (F0 m 224 ls []) := by
  obtain ⟨hx, hb, hml, hown, hts, hX, hbl, hL, hK, hZX, hZ, hLo, hCa, hA, hlt⟩ := C
  refine lv_aload_n hx hb dL_law_224 rfl (lv_at hl 2 rfl) ?_
  refine zscr hx hb hX hbl hW.1 hL hn hy hl 1 0 rfl rfl 1 (by decide) dL_law_225 dL_law_226 dL_law_228 dL_law_229 dL_law_230 ?_
  refine zscr hx hb hX hbl hW.1 hL hn hy hl 1 0 rfl rfl 2 (by decide) dL_law_231 dL_law_232 dL_law_234 dL_law_235 dL_law_236 ?_
  refine zscr hx hb hX hbl hW.1 hL hn hy hl 1 0 rfl rfl 3 (by decide) dL_law_237 dL_law_238 dL_law_240 dL_law_241 dL_law_242 ?_
  refine lv_aload_n hx hb dL_law_243 rfl (lv_at hl 4 rfl) ?_
  refine lcallL hA hW (vx_runSW (As := [.ref (ad 0), .int (y 1), .int (y 2), .int (y 3), .ref o]) (rest := []) ⟨hx, hb, hml, hown, hts⟩ (c_L_use l hlt D cy cL ad (fun q => s.heap.size ≤ q) sa H.size σ (y 1) (y 2) (y 3) v o h) (vx_cwSW 5 hts gL_law_L_use rfl rfl rfl (by decide +kernel) ⟨(Nat.le_of_ble_eq_true rfl), (Nat.le_of_ble_eq_true rfl)⟩) (lpreS hA hW hK hZX hLo hCa _) rfl rfl hl.1 rfl (lv_room (Nat.le_of_ble_eq_true rfl)) dL_law_244 ⟨by show cells + 1 ≤ 601024; omega, by show slots + 6 ≤ 7293034; omega⟩) (fun k1 σ v H h hW => ?_)
  refine lv_istore (lv' := [(5, .int k1), (4, .int (jI (5 * (n : Int)))), (0, .ref b), (1, .ref (ad 0)), (2, .ref (am 0)), (3, .ref o)]) hx hb dL_law_247 hl (by decide) rfl (fun ls hl => ?_)
  refine lv_aload_n hx hb dL_law_249 rfl (lv_at hl 4 rfl) ?_
  refine zscr hx hb hX hbl hW.1 hL hn hy hl 2 1 rfl rfl 1 (by decide) dL_law_250 dL_law_251 dL_law_253 dL_law_254 dL_law_255 ?_
  refine zscr hx hb hX hbl hW.1 hL hn hy hl 2 1 rfl rfl 2 (by decide) dL_law_256 dL_law_257 dL_law_259 dL_law_260 dL_law_261 ?_
  refine zscr hx hb hX hbl hW.1 hL hn hy hl 2 1 rfl rfl 3 (by decide) dL_law_262 dL_law_263 dL_law_265 dL_law_266 dL_law_267 ?_
  refine lcallM hA hW (va_runV (As := [.int (y 1), .int (y 2), .int (y 3)]) (rest := []) ⟨hx, hb, hml, hown, hts⟩ (c_X7_use l D cy am μ (y 1) (y 2) (y 3) h) (cwV 3 hts gL_law_X7_use rfl rfl rfl (by decide +kernel) ⟨(Nat.le_of_ble_eq_true rfl), (Nat.le_of_ble_eq_true rfl)⟩) (zpreV hA.2.1 hK hW.2.2.1 _ (i := 0) (ci := 6) (by decide) rfl rfl) rfl rfl hl.1 rfl (lv_room (Nat.le_of_ble_eq_true rfl)) dL_law_268 ⟨by show cells + 1 + 0 ≤ 601024; omega, by show slots + 6 + 0 ≤ 7293034; omega⟩) (fun r1 μ H h hW => ?_)
  refine lv_istore (lv' := [(6, .int r1), (5, .int k1), (4, .int (jI (5 * (n : Int)))), (0, .ref b), (1, .ref (ad 0)), (2, .ref (am 0)), (3, .ref o)]) hx hb dL_law_271 hl (by decide) rfl (fun ls hl => ?_)
  refine lv_aload_n hx hb dL_law_273 rfl (lv_at hl 5 rfl) ?_
  refine lcallM hA hW (va_runV (As := []) (rest := []) ⟨hx, hb, hml, hown, hts⟩ (c_X7_thrown l D cy am μ  h) (cwV 0 hts gL_law_X7_thrown rfl rfl rfl (by decide +kernel) ⟨(Nat.le_of_ble_eq_true rfl), (Nat.le_of_ble_eq_true rfl)⟩) (zpreV hA.2.1 hK hW.2.2.1 _ (i := 0) (ci := 6) (by decide) rfl rfl) rfl rfl hl.1 rfl (lv_room (Nat.le_of_ble_eq_true rfl)) dL_law_274 ⟨by show cells + 1 + 0 ≤ 601024; omega, by show slots + 6 + 0 ≤ 7293034; omega⟩) (fun t1 μ H h hW => ?_)
  obtain ⟨e1, e2, hQ⟩ := h
  refine lv_iload hx hb dL_law_277 (lv_at hl 1 rfl) ?_
  refine lv_icmp_eq (tgt := 284) hx hb dL_law_279 (by decide) (fun _ => ?_) (fun c9 => absurd e1 c9)
  refine lv_iload hx hb dL_law_284 (lv_at hl 1 rfl) ?_
  refine zif_ne (tgt := 301) hx hb dL_law_286 (by decide) (fun c1 => ?_) (fun c1 => ?_)
  · skip
    refine lv_goto (tgt := 1360) hx hb dL_law_301 (by decide) ?_
    refine W.widen (k := cells + 2) (n := slots + 12) (by omega) (by omega) ?_
    exact kk _ _ _ _ _ hQ hW (lv_sub hl [2, 3, 4, 5, 6] rfl)
  · skip
    refine lv_aload_n hx hb dL_law_289 rfl (lv_at hl 6 rfl) ?_
    refine lv_iconst (v := jI 0) hx hb dL_law_290 rfl ?_
    refine zlald hx hb hLo hW.2.2.2 dL_law_291 ?_
    refine lv_iload hx hb dL_law_292 (lv_at hl 0 rfl) ?_
    refine lv_i2l (v := r1.toInt64) hx hb dL_law_294 rfl ?_
    refine W.lcmp hx hb dL_law_295 ?_
    rw [e2 c1, lgc0]
    refine zif_eq (tgt := 301) hx hb dL_law_296 (by decide) (fun _ => ?_) (fun c9 => absurd rfl c9)
    refine lv_goto (tgt := 1360) hx hb dL_law_301 (by decide) ?_
    refine W.widen (k := cells + 2) (n := slots + 12) (by omega) (by omega) ?_
    exact kk _ _ _ _ _ hQ hW (lv_sub hl [2, 3, 4, 5, 6] rfl)
set_option maxHeartbeats 4000000 in
set_option maxRecDepth 100000 in
theorem lb_drop {p : Program} {l : Launch} {e : Env} {s : State} {m : MethodId} {args : Array Value} {below : List Frame} {meth : Method} {c : Code} {H : Heap} {cells slots : Nat} {QQ : State → Prop} {ls : Array Slot} {b L n : Nat} {xs y : Nat → Int32} {D : va_G} {cy : cyT} {cL : ClassId} {sa aK aV ad am : Nat → Nat} {o : Nat} {σ μ : ST} {v : Int64} (C : LX p l s m args c b L xs D cy cL sa aK aV ad am o) (hn : 5 * n + 5 ≤ L) (hy : ∀ j : Nat, j < 5 → xs (jI (5 * n + j)).toNatClampNeg = y j) (hc : cells + 2 ≤ 601024) (hs : slots + 12 ≤ 7293034) (hl : lv_has ls 7 [(4, .int (jI (5 * (n : Int)))), (0, .ref b), (1, .ref (ad 0)), (2, .ref (am 0)), (3, .ref o)]) (hW : LW D cy cL ad am o s.heap σ μ v H) (Q9 : ST → ST → Prop) (h : wL_drop σ (y 1) (y 2) (y 3) v (fun k w σ' => wp_X7_drop μ (y 1) (y 2) (y 3) (fun r μ1 => wp_X7_thrown μ1 (fun th μ2 => th = k ∧ (k = jI 0 → w = r.toInt64) ∧ Q9 σ' μ2)))) (kk : ∀ (σ' μ' : ST) (v' : Int64) (H1 : Heap) (ls : Array Slot), Q9 σ' μ' → LW D cy cL ad am o s.heap σ' μ' v' H1 → lv_has ls 7 [(4, .int (jI (5 * (n : Int)))), (0, .ref b), (1, .ref (ad 0)), (2, .ref (am 0)), (3, .ref o)] → W p l e room_1 s m args below meth c H1 [] (cells + 2) (slots + 12) QQ (F0 m 1360 ls [])) : W p l e room_1 s m args below meth c H [] cells slots QQ (F0 m 304 ls []) := by
  obtain ⟨hx, hb, hml, hown, hts, hX, hbl, hL, hK, hZX, hZ, hLo, hCa, hA, hlt⟩ := C
  refine lv_aload_n hx hb dL_law_304 rfl (lv_at hl 2 rfl) ?_
  refine zscr hx hb hX hbl hW.1 hL hn hy hl 1 0 rfl rfl 1 (by decide) dL_law_305 dL_law_306 dL_law_308 dL_law_309 dL_law_310 ?_
  refine zscr hx hb hX hbl hW.1 hL hn hy hl 1 0 rfl rfl 2 (by decide) dL_law_311 dL_law_312 dL_law_314 dL_law_315 dL_law_316 ?_
  refine zscr hx hb hX hbl hW.1 hL hn hy hl 1 0 rfl rfl 3 (by decide) dL_law_317 dL_law_318 dL_law_320 dL_law_321 dL_law_322 ?_
  refine lv_aload_n hx hb dL_law_323 rfl (lv_at hl 4 rfl) ?_
  refine lcallL hA hW (vx_runSW (As := [.ref (ad 0), .int (y 1), .int (y 2), .int (y 3), .ref o]) (rest := []) ⟨hx, hb, hml, hown, hts⟩ (c_L_drop l hlt D cy cL ad (fun q => s.heap.size ≤ q) sa H.size σ (y 1) (y 2) (y 3) v o h) (vx_cwSW 5 hts gL_law_L_drop rfl rfl rfl (by decide +kernel) ⟨(Nat.le_of_ble_eq_true rfl), (Nat.le_of_ble_eq_true rfl)⟩) (lpreS hA hW hK hZX hLo hCa _) rfl rfl hl.1 rfl (lv_room (Nat.le_of_ble_eq_true rfl)) dL_law_324 ⟨by show cells + 1 ≤ 601024; omega, by show slots + 6 ≤ 7293034; omega⟩) (fun k1 σ v H h hW => ?_)
  refine lv_istore (lv' := [(5, .int k1), (4, .int (jI (5 * (n : Int)))), (0, .ref b), (1, .ref (ad 0)), (2, .ref (am 0)), (3, .ref o)]) hx hb dL_law_327 hl (by decide) rfl (fun ls hl => ?_)
  refine lv_aload_n hx hb dL_law_329 rfl (lv_at hl 4 rfl) ?_
  refine zscr hx hb hX hbl hW.1 hL hn hy hl 2 1 rfl rfl 1 (by decide) dL_law_330 dL_law_331 dL_law_333 dL_law_334 dL_law_335 ?_
  refine zscr hx hb hX hbl hW.1 hL hn hy hl 2 1 rfl rfl 2 (by decide) dL_law_336 dL_law_337 dL_law_339 dL_law_340 dL_law_341 ?_
  refine zscr hx hb hX hbl hW.1 hL hn hy hl 2 1 rfl rfl 3 (by decide) dL_law_342 dL_law_343 dL_law_345 dL_law_346 dL_law_347 ?_
  refine lcallM hA hW (va_runV (As := [.int (y 1), .int (y 2), .int (y 3)]) (rest := []) ⟨hx, hb, hml, hown, hts⟩ (c_X7_drop l D cy am μ (y 1) (y 2) (y 3) h) (cwV 3 hts gL_law_X7_drop rfl rfl rfl (by decide +kernel) ⟨(Nat.le_of_ble_eq_true rfl), (Nat.le_of_ble_eq_true rfl)⟩) (zpreV hA.2.1 hK hW.2.2.1 _ (i := 0) (ci := 6) (by decide) rfl rfl) rfl rfl hl.1 rfl (lv_room (Nat.le_of_ble_eq_true rfl)) dL_law_348 ⟨by show cells + 1 + 0 ≤ 601024; omega, by show slots + 6 + 0 ≤ 7293034; omega⟩) (fun r1 μ H h hW => ?_)
  refine lv_istore (lv' := [(6, .int r1), (5, .int k1), (4, .int (jI (5 * (n : Int)))), (0, .ref b), (1, .ref (ad 0)), (2, .ref (am 0)), (3, .ref o)]) hx hb dL_law_351 hl (by decide) rfl (fun ls hl => ?_)
  refine lv_aload_n hx hb dL_law_353 rfl (lv_at hl 5 rfl) ?_
  refine lcallM hA hW (va_runV (As := []) (rest := []) ⟨hx, hb, hml, hown, hts⟩ (c_X7_thrown l D cy am μ  h) (cwV 0 hts gL_law_X7_thrown rfl rfl rfl (by decide +kernel) ⟨(Nat.le_of_ble_eq_true rfl), (Nat.le_of_ble_eq_true rfl)⟩) (zpreV hA.2.1 hK hW.2.2.1 _ (i := 0) (ci := 6) (by decide) rfl rfl) rfl rfl hl.1 rfl (lv_room (Nat.le_of_ble_eq_true rfl)) dL_law_354 ⟨by show cells + 1 + 0 ≤ 601024; omega, by show slots + 6 + 0 ≤ 7293034; omega⟩) (fun t1 μ H h hW => ?_)
  obtain ⟨e1, e2, hQ⟩ := h
  refine lv_iload hx hb dL_law_357 (lv_at hl 1 rfl) ?_
  refine lv_icmp_eq (tgt := 364) hx hb dL_law_359 (by decide) (fun _ => ?_) (fun c9 => absurd e1 c9)
  refine lv_iload hx hb dL_law_364 (lv_at hl 1 rfl) ?_
  refine zif_ne (tgt := 381) hx hb dL_law_366 (by decide) (fun c1 => ?_) (fun c1 => ?_)
  · skip
    refine lv_goto (tgt := 1360) hx hb dL_law_381 (by decide) ?_
    refine W.widen (k := cells + 2) (n := slots + 12) (by omega) (by omega) ?_
    exact kk _ _ _ _ _ hQ hW (lv_sub hl [2, 3, 4, 5, 6] rfl)
  · skip
    refine lv_aload_n hx hb dL_law_369 rfl (lv_at hl 6 rfl) ?_
    refine lv_iconst (v := jI 0) hx hb dL_law_370 rfl ?_
    refine zlald hx hb hLo hW.2.2.2 dL_law_371 ?_
    refine lv_iload hx hb dL_law_372 (lv_at hl 0 rfl) ?_
    refine lv_i2l (v := r1.toInt64) hx hb dL_law_374 rfl ?_
    refine W.lcmp hx hb dL_law_375 ?_
    rw [e2 c1, lgc0]
    refine zif_eq (tgt := 381) hx hb dL_law_376 (by decide) (fun _ => ?_) (fun c9 => absurd rfl c9)
    refine lv_goto (tgt := 1360) hx hb dL_law_381 (by decide) ?_
    refine W.widen (k := cells + 2) (n := slots + 12) (by omega) (by omega) ?_
    exact kk _ _ _ _ _ hQ hW (lv_sub hl [2, 3, 4, 5, 6] rfl)
set_option maxHeartbeats 4000000 in
set_option maxRecDepth 100000 in
theorem lb_newLine {p : Program} {l : Launch} {e : Env} {s : State} {m : MethodId} {args : Array Value} {below : List Frame} {meth : Method} {c : Code} {H : Heap} {cells slots : Nat} {QQ : State → Prop} {ls : Array Slot} {b L n : Nat} {xs y : Nat → Int32} {D : va_G} {cy : cyT} {cL : ClassId} {sa aK aV ad am : Nat → Nat} {o : Nat} {σ μ : ST} {v : Int64} (C : LX p l s m args c b L xs D cy cL sa aK aV ad am o) (hn : 5 * n + 5 ≤ L) (hy : ∀ j : Nat, j < 5 → xs (jI (5 * n + j)).toNatClampNeg = y j) (hc : cells + 2 ≤ 601024) (hs : slots + 12 ≤ 7293034) (hl : lv_has ls 7 [(4, .int (jI (5 * (n : Int)))), (0, .ref b), (1, .ref (ad 0)), (2, .ref (am 0)), (3, .ref o)]) (hW : LW D cy cL ad am o s.heap σ μ v H) (Q9 : ST → ST → Prop) (h : wp_X6_newLine σ (fun r σ' => wp_X7_newLine μ (fun r2 μ2 => r = r2 ∧ Q9 σ' μ2))) (kk : ∀ (σ' μ' : ST) (v' : Int64) (H1 : Heap) (ls : Array Slot), Q9 σ' μ' → LW D cy cL ad am o s.heap σ' μ' v' H1 → lv_has ls 7 [(4, .int (jI (5 * (n : Int)))), (0, .ref b), (1, .ref (ad 0)), (2, .ref (am 0)), (3, .ref o)] → W p l e room_1 s m args below meth c H1 [] (cells + 2) (slots + 12) QQ (F0 m 1360 ls [])) : W p l e room_1 s m args below meth c H [] cells slots QQ (F0 m 384 ls []) := by
  obtain ⟨hx, hb, hml, hown, hts, hX, hbl, hL, hK, hZX, hZ, hLo, hCa, hA, hlt⟩ := C
  refine lv_aload_n hx hb dL_law_384 rfl (lv_at hl 2 rfl) ?_
  refine lcallC hA hW (va_runV (As := []) (rest := []) ⟨hx, hb, hml, hown, hts⟩ (c_X6_newLine l D cy ad σ h) (cwV 0 hts gL_law_X6_newLine rfl rfl rfl (by decide +kernel) ⟨(Nat.le_of_ble_eq_true rfl), (Nat.le_of_ble_eq_true rfl)⟩) (zpreV hA.1 hK hW.2.1 _ (i := 0) (ci := 5) (by decide) rfl rfl) rfl rfl hl.1 rfl (lv_room (Nat.le_of_ble_eq_true rfl)) dL_law_385 ⟨by show cells + 0 ≤ 601024; omega, by show slots + 0 ≤ 7293034; omega⟩) (fun r1 σ H h hW => ?_)
  refine lv_aload_n hx hb dL_law_388 rfl (lv_at hl 3 rfl) ?_
  refine lcallM hA hW (va_runV (As := []) (rest := [.int r1]) ⟨hx, hb, hml, hown, hts⟩ (c_X7_newLine l D cy am μ h) (cwV 0 hts gL_law_X7_newLine rfl rfl rfl (by decide +kernel) ⟨(Nat.le_of_ble_eq_true rfl), (Nat.le_of_ble_eq_true rfl)⟩) (zpreV hA.2.1 hK hW.2.2.1 _ (i := 0) (ci := 6) (by decide) rfl rfl) rfl rfl hl.1 rfl (lv_room (Nat.le_of_ble_eq_true rfl)) dL_law_389 ⟨by show cells + 0 ≤ 601024; omega, by show slots + 0 ≤ 7293034; omega⟩) (fun r2 μ H h hW => ?_)
  obtain ⟨e1, hQ⟩ := h
  refine lv_icmp_eq (tgt := 1360) hx hb dL_law_392 (by decide) (fun _ => ?_) (fun c9 => absurd e1 c9)
  refine W.widen (k := cells + 2) (n := slots + 12) (by omega) (by omega) ?_
  exact kk _ _ _ _ _ hQ hW hl
set_option maxHeartbeats 4000000 in
set_option maxRecDepth 100000 in
theorem lb_addTray {p : Program} {l : Launch} {e : Env} {s : State} {m : MethodId} {args : Array Value} {below : List Frame} {meth : Method} {c : Code} {H : Heap} {cells slots : Nat} {QQ : State → Prop} {ls : Array Slot} {b L n : Nat} {xs y : Nat → Int32} {D : va_G} {cy : cyT} {cL : ClassId} {sa aK aV ad am : Nat → Nat} {o : Nat} {σ μ : ST} {v : Int64} (C : LX p l s m args c b L xs D cy cL sa aK aV ad am o) (hn : 5 * n + 5 ≤ L) (hy : ∀ j : Nat, j < 5 → xs (jI (5 * n + j)).toNatClampNeg = y j) (hc : cells + 2 ≤ 601024) (hs : slots + 12 ≤ 7293034) (hl : lv_has ls 7 [(4, .int (jI (5 * (n : Int)))), (0, .ref b), (1, .ref (ad 0)), (2, .ref (am 0)), (3, .ref o)]) (hW : LW D cy cL ad am o s.heap σ μ v H) (Q9 : ST → ST → Prop) (h : wL_addTray σ  v (fun k w σ' => wp_X7_addTray μ  (fun r μ1 => wp_X7_thrown μ1 (fun th μ2 => th = k ∧ (k = jI 0 → w = r.toInt64) ∧ Q9 σ' μ2)))) (kk : ∀ (σ' μ' : ST) (v' : Int64) (H1 : Heap) (ls : Array Slot), Q9 σ' μ' → LW D cy cL ad am o s.heap σ' μ' v' H1 → lv_has ls 7 [(4, .int (jI (5 * (n : Int)))), (0, .ref b), (1, .ref (ad 0)), (2, .ref (am 0)), (3, .ref o)] → W p l e room_1 s m args below meth c H1 [] (cells + 2) (slots + 12) QQ (F0 m 1360 ls [])) : W p l e room_1 s m args below meth c H [] cells slots QQ (F0 m 397 ls []) := by
  obtain ⟨hx, hb, hml, hown, hts, hX, hbl, hL, hK, hZX, hZ, hLo, hCa, hA, hlt⟩ := C
  refine lv_aload_n hx hb dL_law_397 rfl (lv_at hl 2 rfl) ?_
  refine lv_aload_n hx hb dL_law_398 rfl (lv_at hl 4 rfl) ?_
  refine lcallL hA hW (vx_runSW (As := [.ref (ad 0), .ref o]) (rest := []) ⟨hx, hb, hml, hown, hts⟩ (c_L_addTray l hlt D cy cL ad (fun q => s.heap.size ≤ q) sa H.size σ  v o h) (vx_cwSW 2 hts gL_law_L_addTray rfl rfl rfl (by decide +kernel) ⟨(Nat.le_of_ble_eq_true rfl), (Nat.le_of_ble_eq_true rfl)⟩) (lpreS hA hW hK hZX hLo hCa _) rfl rfl hl.1 rfl (lv_room (Nat.le_of_ble_eq_true rfl)) dL_law_399 ⟨by show cells + 1 ≤ 601024; omega, by show slots + 6 ≤ 7293034; omega⟩) (fun k1 σ v H h hW => ?_)
  refine lv_istore (lv' := [(5, .int k1), (4, .int (jI (5 * (n : Int)))), (0, .ref b), (1, .ref (ad 0)), (2, .ref (am 0)), (3, .ref o)]) hx hb dL_law_402 hl (by decide) rfl (fun ls hl => ?_)
  refine lv_aload_n hx hb dL_law_404 rfl (lv_at hl 4 rfl) ?_
  refine lcallM hA hW (va_runV (As := []) (rest := []) ⟨hx, hb, hml, hown, hts⟩ (c_X7_addTray l D cy am μ  h) (cwV 0 hts gL_law_X7_addTray rfl rfl rfl (by decide +kernel) ⟨(Nat.le_of_ble_eq_true rfl), (Nat.le_of_ble_eq_true rfl)⟩) (zpreV hA.2.1 hK hW.2.2.1 _ (i := 0) (ci := 6) (by decide) rfl rfl) rfl rfl hl.1 rfl (lv_room (Nat.le_of_ble_eq_true rfl)) dL_law_405 ⟨by show cells + 1 + 0 ≤ 601024; omega, by show slots + 6 + 0 ≤ 7293034; omega⟩) (fun r1 μ H h hW => ?_)
  refine lv_istore (lv' := [(6, .int r1), (5, .int k1), (4, .int (jI (5 * (n : Int)))), (0, .ref b), (1, .ref (ad 0)), (2, .ref (am 0)), (3, .ref o)]) hx hb dL_law_408 hl (by decide) rfl (fun ls hl => ?_)
  refine lv_aload_n hx hb dL_law_410 rfl (lv_at hl 5 rfl) ?_
  refine lcallM hA hW (va_runV (As := []) (rest := []) ⟨hx, hb, hml, hown, hts⟩ (c_X7_thrown l D cy am μ  h) (cwV 0 hts gL_law_X7_thrown rfl rfl rfl (by decide +kernel) ⟨(Nat.le_of_ble_eq_true rfl), (Nat.le_of_ble_eq_true rfl)⟩) (zpreV hA.2.1 hK hW.2.2.1 _ (i := 0) (ci := 6) (by decide) rfl rfl) rfl rfl hl.1 rfl (lv_room (Nat.le_of_ble_eq_true rfl)) dL_law_411 ⟨by show cells + 1 + 0 ≤ 601024; omega, by show slots + 6 + 0 ≤ 7293034; omega⟩) (fun t1 μ H h hW => ?_)
  obtain ⟨e1, e2, hQ⟩ := h
  refine lv_iload hx hb dL_law_414 (lv_at hl 1 rfl) ?_
  refine lv_icmp_eq (tgt := 421) hx hb dL_law_416 (by decide) (fun _ => ?_) (fun c9 => absurd e1 c9)
  refine lv_iload hx hb dL_law_421 (lv_at hl 1 rfl) ?_
  refine zif_ne (tgt := 438) hx hb dL_law_423 (by decide) (fun c1 => ?_) (fun c1 => ?_)
  · skip
    refine lv_goto (tgt := 1360) hx hb dL_law_438 (by decide) ?_
    refine W.widen (k := cells + 2) (n := slots + 12) (by omega) (by omega) ?_
    exact kk _ _ _ _ _ hQ hW (lv_sub hl [2, 3, 4, 5, 6] rfl)
  · skip
    refine lv_aload_n hx hb dL_law_426 rfl (lv_at hl 6 rfl) ?_
    refine lv_iconst (v := jI 0) hx hb dL_law_427 rfl ?_
    refine zlald hx hb hLo hW.2.2.2 dL_law_428 ?_
    refine lv_iload hx hb dL_law_429 (lv_at hl 0 rfl) ?_
    refine lv_i2l (v := r1.toInt64) hx hb dL_law_431 rfl ?_
    refine W.lcmp hx hb dL_law_432 ?_
    rw [e2 c1, lgc0]
    refine zif_eq (tgt := 438) hx hb dL_law_433 (by decide) (fun _ => ?_) (fun c9 => absurd rfl c9)
    refine lv_goto (tgt := 1360) hx hb dL_law_438 (by decide) ?_
    refine W.widen (k := cells + 2) (n := slots + 12) (by omega) (by omega) ?_
    exact kk _ _ _ _ _ hQ hW (lv_sub hl [2, 3, 4, 5, 6] rfl)
set_option maxHeartbeats 4000000 in
set_option maxRecDepth 100000 in
theorem lb_closeShelves {p : Program} {l : Launch} {e : Env} {s : State} {m : MethodId} {args : Array Value} {below : List Frame} {meth : Method} {c : Code} {H : Heap} {cells slots : Nat} {QQ : State → Prop} {ls : Array Slot} {b L n : Nat} {xs y : Nat → Int32} {D : va_G} {cy : cyT} {cL : ClassId} {sa aK aV ad am : Nat → Nat} {o : Nat} {σ μ : ST} {v : Int64} (C : LX p l s m args c b L xs D cy cL sa aK aV ad am o) (hn : 5 * n + 5 ≤ L) (hy : ∀ j : Nat, j < 5 → xs (jI (5 * n + j)).toNatClampNeg = y j) (hc : cells + 2 ≤ 601024) (hs : slots + 12 ≤ 7293034) (hl : lv_has ls 7 [(4, .int (jI (5 * (n : Int)))), (0, .ref b), (1, .ref (ad 0)), (2, .ref (am 0)), (3, .ref o)]) (hW : LW D cy cL ad am o s.heap σ μ v H) (Q9 : ST → ST → Prop) (h : wp_X6_closeShelves σ (fun r σ' => wp_X7_closeShelves μ (fun r2 μ2 => r = r2 ∧ Q9 σ' μ2))) (kk : ∀ (σ' μ' : ST) (v' : Int64) (H1 : Heap) (ls : Array Slot), Q9 σ' μ' → LW D cy cL ad am o s.heap σ' μ' v' H1 → lv_has ls 7 [(4, .int (jI (5 * (n : Int)))), (0, .ref b), (1, .ref (ad 0)), (2, .ref (am 0)), (3, .ref o)] → W p l e room_1 s m args below meth c H1 [] (cells + 2) (slots + 12) QQ (F0 m 1360 ls [])) : W p l e room_1 s m args below meth c H [] cells slots QQ (F0 m 441 ls []) := by
  obtain ⟨hx, hb, hml, hown, hts, hX, hbl, hL, hK, hZX, hZ, hLo, hCa, hA, hlt⟩ := C
  refine lv_aload_n hx hb dL_law_441 rfl (lv_at hl 2 rfl) ?_
  refine lcallC hA hW (va_runV (As := []) (rest := []) ⟨hx, hb, hml, hown, hts⟩ (c_X6_closeShelves l D cy ad σ h) (cwV 0 hts gL_law_X6_closeShelves rfl rfl rfl (by decide +kernel) ⟨(Nat.le_of_ble_eq_true rfl), (Nat.le_of_ble_eq_true rfl)⟩) (zpreV hA.1 hK hW.2.1 _ (i := 0) (ci := 5) (by decide) rfl rfl) rfl rfl hl.1 rfl (lv_room (Nat.le_of_ble_eq_true rfl)) dL_law_442 ⟨by show cells + 0 ≤ 601024; omega, by show slots + 0 ≤ 7293034; omega⟩) (fun r1 σ H h hW => ?_)
  refine lv_aload_n hx hb dL_law_445 rfl (lv_at hl 3 rfl) ?_
  refine lcallM hA hW (va_runV (As := []) (rest := [.int r1]) ⟨hx, hb, hml, hown, hts⟩ (c_X7_closeShelves l D cy am μ h) (cwV 0 hts gL_law_X7_closeShelves rfl rfl rfl (by decide +kernel) ⟨(Nat.le_of_ble_eq_true rfl), (Nat.le_of_ble_eq_true rfl)⟩) (zpreV hA.2.1 hK hW.2.2.1 _ (i := 0) (ci := 6) (by decide) rfl rfl) rfl rfl hl.1 rfl (lv_room (Nat.le_of_ble_eq_true rfl)) dL_law_446 ⟨by show cells + 0 ≤ 601024; omega, by show slots + 0 ≤ 7293034; omega⟩) (fun r2 μ H h hW => ?_)
  obtain ⟨e1, hQ⟩ := h
  refine lv_icmp_eq (tgt := 1360) hx hb dL_law_449 (by decide) (fun _ => ?_) (fun c9 => absurd e1 c9)
  refine W.widen (k := cells + 2) (n := slots + 12) (by omega) (by omega) ?_
  exact kk _ _ _ _ _ hQ hW hl
set_option maxHeartbeats 4000000 in
set_option maxRecDepth 100000 in
theorem lb_letter {p : Program} {l : Launch} {e : Env} {s : State} {m : MethodId} {args : Array Value} {below : List Frame} {meth : Method} {c : Code} {H : Heap} {cells slots : Nat} {QQ : State → Prop} {ls : Array Slot} {b L n : Nat} {xs y : Nat → Int32} {D : va_G} {cy : cyT} {cL : ClassId} {sa aK aV ad am : Nat → Nat} {o : Nat} {σ μ : ST} {v : Int64} (C : LX p l s m args c b L xs D cy cL sa aK aV ad am o) (hn : 5 * n + 5 ≤ L) (hy : ∀ j : Nat, j < 5 → xs (jI (5 * n + j)).toNatClampNeg = y j) (hc : cells + 2 ≤ 601024) (hs : slots + 12 ≤ 7293034) (hl : lv_has ls 7 [(4, .int (jI (5 * (n : Int)))), (0, .ref b), (1, .ref (ad 0)), (2, .ref (am 0)), (3, .ref o)]) (hW : LW D cy cL ad am o s.heap σ μ v H) (Q9 : ST → ST → Prop) (h : wL_letter σ (y 1) (y 2) (y 3) (y 4) v (fun k w σ' => wp_X7_letter μ (y 1) (y 2) (y 3) (y 4) (fun r μ1 => wp_X7_thrown μ1 (fun th μ2 => th = k ∧ (k = jI 0 → w = r.toInt64) ∧ Q9 σ' μ2)))) (kk : ∀ (σ' μ' : ST) (v' : Int64) (H1 : Heap) (ls : Array Slot), Q9 σ' μ' → LW D cy cL ad am o s.heap σ' μ' v' H1 → lv_has ls 7 [(4, .int (jI (5 * (n : Int)))), (0, .ref b), (1, .ref (ad 0)), (2, .ref (am 0)), (3, .ref o)] → W p l e room_1 s m args below meth c H1 [] (cells + 2) (slots + 12) QQ (F0 m 1360 ls [])) : W p l e room_1 s m args below meth c H [] cells slots QQ (F0 m 454 ls []) := by
  obtain ⟨hx, hb, hml, hown, hts, hX, hbl, hL, hK, hZX, hZ, hLo, hCa, hA, hlt⟩ := C
  refine lv_aload_n hx hb dL_law_454 rfl (lv_at hl 2 rfl) ?_
  refine zscr hx hb hX hbl hW.1 hL hn hy hl 1 0 rfl rfl 1 (by decide) dL_law_455 dL_law_456 dL_law_458 dL_law_459 dL_law_460 ?_
  refine zscr hx hb hX hbl hW.1 hL hn hy hl 1 0 rfl rfl 2 (by decide) dL_law_461 dL_law_462 dL_law_464 dL_law_465 dL_law_466 ?_
  refine zscr hx hb hX hbl hW.1 hL hn hy hl 1 0 rfl rfl 3 (by decide) dL_law_467 dL_law_468 dL_law_470 dL_law_471 dL_law_472 ?_
  refine zscr hx hb hX hbl hW.1 hL hn hy hl 1 0 rfl rfl 4 (by decide) dL_law_473 dL_law_474 dL_law_476 dL_law_477 dL_law_478 ?_
  refine lv_aload_n hx hb dL_law_479 rfl (lv_at hl 4 rfl) ?_
  refine lcallL hA hW (vx_runSW (As := [.ref (ad 0), .int (y 1), .int (y 2), .int (y 3), .int (y 4), .ref o]) (rest := []) ⟨hx, hb, hml, hown, hts⟩ (c_L_letter l hlt D cy cL ad (fun q => s.heap.size ≤ q) sa H.size σ (y 1) (y 2) (y 3) (y 4) v o h) (vx_cwSW 6 hts gL_law_L_letter rfl rfl rfl (by decide +kernel) ⟨(Nat.le_of_ble_eq_true rfl), (Nat.le_of_ble_eq_true rfl)⟩) (lpreS hA hW hK hZX hLo hCa _) rfl rfl hl.1 rfl (lv_room (Nat.le_of_ble_eq_true rfl)) dL_law_480 ⟨by show cells + 2 ≤ 601024; omega, by show slots + 12 ≤ 7293034; omega⟩) (fun k1 σ v H h hW => ?_)
  refine lv_istore (lv' := [(5, .int k1), (4, .int (jI (5 * (n : Int)))), (0, .ref b), (1, .ref (ad 0)), (2, .ref (am 0)), (3, .ref o)]) hx hb dL_law_483 hl (by decide) rfl (fun ls hl => ?_)
  refine lv_aload_n hx hb dL_law_485 rfl (lv_at hl 4 rfl) ?_
  refine zscr hx hb hX hbl hW.1 hL hn hy hl 2 1 rfl rfl 1 (by decide) dL_law_486 dL_law_487 dL_law_489 dL_law_490 dL_law_491 ?_
  refine zscr hx hb hX hbl hW.1 hL hn hy hl 2 1 rfl rfl 2 (by decide) dL_law_492 dL_law_493 dL_law_495 dL_law_496 dL_law_497 ?_
  refine zscr hx hb hX hbl hW.1 hL hn hy hl 2 1 rfl rfl 3 (by decide) dL_law_498 dL_law_499 dL_law_501 dL_law_502 dL_law_503 ?_
  refine zscr hx hb hX hbl hW.1 hL hn hy hl 2 1 rfl rfl 4 (by decide) dL_law_504 dL_law_505 dL_law_507 dL_law_508 dL_law_509 ?_
  refine lcallM hA hW (va_runV (As := [.int (y 1), .int (y 2), .int (y 3), .int (y 4)]) (rest := []) ⟨hx, hb, hml, hown, hts⟩ (c_X7_letter l D cy am μ (y 1) (y 2) (y 3) (y 4) h) (cwV 4 hts gL_law_X7_letter rfl rfl rfl (by decide +kernel) ⟨(Nat.le_of_ble_eq_true rfl), (Nat.le_of_ble_eq_true rfl)⟩) (zpreV hA.2.1 hK hW.2.2.1 _ (i := 0) (ci := 6) (by decide) rfl rfl) rfl rfl hl.1 rfl (lv_room (Nat.le_of_ble_eq_true rfl)) dL_law_510 ⟨by show cells + 2 + 0 ≤ 601024; omega, by show slots + 12 + 0 ≤ 7293034; omega⟩) (fun r1 μ H h hW => ?_)
  refine lv_istore (lv' := [(6, .int r1), (5, .int k1), (4, .int (jI (5 * (n : Int)))), (0, .ref b), (1, .ref (ad 0)), (2, .ref (am 0)), (3, .ref o)]) hx hb dL_law_513 hl (by decide) rfl (fun ls hl => ?_)
  refine lv_aload_n hx hb dL_law_515 rfl (lv_at hl 5 rfl) ?_
  refine lcallM hA hW (va_runV (As := []) (rest := []) ⟨hx, hb, hml, hown, hts⟩ (c_X7_thrown l D cy am μ  h) (cwV 0 hts gL_law_X7_thrown rfl rfl rfl (by decide +kernel) ⟨(Nat.le_of_ble_eq_true rfl), (Nat.le_of_ble_eq_true rfl)⟩) (zpreV hA.2.1 hK hW.2.2.1 _ (i := 0) (ci := 6) (by decide) rfl rfl) rfl rfl hl.1 rfl (lv_room (Nat.le_of_ble_eq_true rfl)) dL_law_516 ⟨by show cells + 2 + 0 ≤ 601024; omega, by show slots + 12 + 0 ≤ 7293034; omega⟩) (fun t1 μ H h hW => ?_)
  obtain ⟨e1, e2, hQ⟩ := h
  refine lv_iload hx hb dL_law_519 (lv_at hl 1 rfl) ?_
  refine lv_icmp_eq (tgt := 526) hx hb dL_law_521 (by decide) (fun _ => ?_) (fun c9 => absurd e1 c9)
  refine lv_iload hx hb dL_law_526 (lv_at hl 1 rfl) ?_
  refine zif_ne (tgt := 543) hx hb dL_law_528 (by decide) (fun c1 => ?_) (fun c1 => ?_)
  · skip
    refine lv_goto (tgt := 1360) hx hb dL_law_543 (by decide) ?_
    refine W.widen (k := cells + 2) (n := slots + 12) (by omega) (by omega) ?_
    exact kk _ _ _ _ _ hQ hW (lv_sub hl [2, 3, 4, 5, 6] rfl)
  · skip
    refine lv_aload_n hx hb dL_law_531 rfl (lv_at hl 6 rfl) ?_
    refine lv_iconst (v := jI 0) hx hb dL_law_532 rfl ?_
    refine zlald hx hb hLo hW.2.2.2 dL_law_533 ?_
    refine lv_iload hx hb dL_law_534 (lv_at hl 0 rfl) ?_
    refine lv_i2l (v := r1.toInt64) hx hb dL_law_536 rfl ?_
    refine W.lcmp hx hb dL_law_537 ?_
    rw [e2 c1, lgc0]
    refine zif_eq (tgt := 543) hx hb dL_law_538 (by decide) (fun _ => ?_) (fun c9 => absurd rfl c9)
    refine lv_goto (tgt := 1360) hx hb dL_law_543 (by decide) ?_
    refine W.widen (k := cells + 2) (n := slots + 12) (by omega) (by omega) ?_
    exact kk _ _ _ _ _ hQ hW (lv_sub hl [2, 3, 4, 5, 6] rfl)
set_option maxHeartbeats 4000000 in
set_option maxRecDepth 100000 in
theorem lb_sign {p : Program} {l : Launch} {e : Env} {s : State} {m : MethodId} {args : Array Value} {below : List Frame} {meth : Method} {c : Code} {H : Heap} {cells slots : Nat} {QQ : State → Prop} {ls : Array Slot} {b L n : Nat} {xs y : Nat → Int32} {D : va_G} {cy : cyT} {cL : ClassId} {sa aK aV ad am : Nat → Nat} {o : Nat} {σ μ : ST} {v : Int64} (C : LX p l s m args c b L xs D cy cL sa aK aV ad am o) (hn : 5 * n + 5 ≤ L) (hy : ∀ j : Nat, j < 5 → xs (jI (5 * n + j)).toNatClampNeg = y j) (hc : cells + 2 ≤ 601024) (hs : slots + 12 ≤ 7293034) (hl : lv_has ls 7 [(4, .int (jI (5 * (n : Int)))), (0, .ref b), (1, .ref (ad 0)), (2, .ref (am 0)), (3, .ref o)]) (hW : LW D cy cL ad am o s.heap σ μ v H) (Q9 : ST → ST → Prop) (h : wL_sign σ (y 1) (y 2) v (fun k w σ' => wp_X7_sign μ (y 1) (y 2) (fun r μ1 => wp_X7_thrown μ1 (fun th μ2 => th = k ∧ (k = jI 0 → w = r.toInt64) ∧ Q9 σ' μ2)))) (kk : ∀ (σ' μ' : ST) (v' : Int64) (H1 : Heap) (ls : Array Slot), Q9 σ' μ' → LW D cy cL ad am o s.heap σ' μ' v' H1 → lv_has ls 7 [(4, .int (jI (5 * (n : Int)))), (0, .ref b), (1, .ref (ad 0)), (2, .ref (am 0)), (3, .ref o)] → W p l e room_1 s m args below meth c H1 [] (cells + 2) (slots + 12) QQ (F0 m 1360 ls [])) : W p l e room_1 s m args below meth c H [] cells slots QQ (F0 m 546 ls []) := by
  obtain ⟨hx, hb, hml, hown, hts, hX, hbl, hL, hK, hZX, hZ, hLo, hCa, hA, hlt⟩ := C
  refine lv_aload_n hx hb dL_law_546 rfl (lv_at hl 2 rfl) ?_
  refine zscr hx hb hX hbl hW.1 hL hn hy hl 1 0 rfl rfl 1 (by decide) dL_law_547 dL_law_548 dL_law_550 dL_law_551 dL_law_552 ?_
  refine zscr hx hb hX hbl hW.1 hL hn hy hl 1 0 rfl rfl 2 (by decide) dL_law_553 dL_law_554 dL_law_556 dL_law_557 dL_law_558 ?_
  refine lv_aload_n hx hb dL_law_559 rfl (lv_at hl 4 rfl) ?_
  refine lcallL hA hW (vx_runSW (As := [.ref (ad 0), .int (y 1), .int (y 2), .ref o]) (rest := []) ⟨hx, hb, hml, hown, hts⟩ (c_L_sign l hlt D cy cL ad (fun q => s.heap.size ≤ q) sa H.size σ (y 1) (y 2) v o h) (vx_cwSW 4 hts gL_law_L_sign rfl rfl rfl (by decide +kernel) ⟨(Nat.le_of_ble_eq_true rfl), (Nat.le_of_ble_eq_true rfl)⟩) (lpreS hA hW hK hZX hLo hCa _) rfl rfl hl.1 rfl (lv_room (Nat.le_of_ble_eq_true rfl)) dL_law_560 ⟨by show cells + 2 ≤ 601024; omega, by show slots + 12 ≤ 7293034; omega⟩) (fun k1 σ v H h hW => ?_)
  refine lv_istore (lv' := [(5, .int k1), (4, .int (jI (5 * (n : Int)))), (0, .ref b), (1, .ref (ad 0)), (2, .ref (am 0)), (3, .ref o)]) hx hb dL_law_563 hl (by decide) rfl (fun ls hl => ?_)
  refine lv_aload_n hx hb dL_law_565 rfl (lv_at hl 4 rfl) ?_
  refine zscr hx hb hX hbl hW.1 hL hn hy hl 2 1 rfl rfl 1 (by decide) dL_law_566 dL_law_567 dL_law_569 dL_law_570 dL_law_571 ?_
  refine zscr hx hb hX hbl hW.1 hL hn hy hl 2 1 rfl rfl 2 (by decide) dL_law_572 dL_law_573 dL_law_575 dL_law_576 dL_law_577 ?_
  refine lcallM hA hW (va_runV (As := [.int (y 1), .int (y 2)]) (rest := []) ⟨hx, hb, hml, hown, hts⟩ (c_X7_sign l D cy am μ (y 1) (y 2) h) (cwV 2 hts gL_law_X7_sign rfl rfl rfl (by decide +kernel) ⟨(Nat.le_of_ble_eq_true rfl), (Nat.le_of_ble_eq_true rfl)⟩) (zpreV hA.2.1 hK hW.2.2.1 _ (i := 0) (ci := 6) (by decide) rfl rfl) rfl rfl hl.1 rfl (lv_room (Nat.le_of_ble_eq_true rfl)) dL_law_578 ⟨by show cells + 2 + 0 ≤ 601024; omega, by show slots + 12 + 0 ≤ 7293034; omega⟩) (fun r1 μ H h hW => ?_)
  refine lv_istore (lv' := [(6, .int r1), (5, .int k1), (4, .int (jI (5 * (n : Int)))), (0, .ref b), (1, .ref (ad 0)), (2, .ref (am 0)), (3, .ref o)]) hx hb dL_law_581 hl (by decide) rfl (fun ls hl => ?_)
  refine lv_aload_n hx hb dL_law_583 rfl (lv_at hl 5 rfl) ?_
  refine lcallM hA hW (va_runV (As := []) (rest := []) ⟨hx, hb, hml, hown, hts⟩ (c_X7_thrown l D cy am μ  h) (cwV 0 hts gL_law_X7_thrown rfl rfl rfl (by decide +kernel) ⟨(Nat.le_of_ble_eq_true rfl), (Nat.le_of_ble_eq_true rfl)⟩) (zpreV hA.2.1 hK hW.2.2.1 _ (i := 0) (ci := 6) (by decide) rfl rfl) rfl rfl hl.1 rfl (lv_room (Nat.le_of_ble_eq_true rfl)) dL_law_584 ⟨by show cells + 2 + 0 ≤ 601024; omega, by show slots + 12 + 0 ≤ 7293034; omega⟩) (fun t1 μ H h hW => ?_)
  obtain ⟨e1, e2, hQ⟩ := h
  refine lv_iload hx hb dL_law_587 (lv_at hl 1 rfl) ?_
  refine lv_icmp_eq (tgt := 594) hx hb dL_law_589 (by decide) (fun _ => ?_) (fun c9 => absurd e1 c9)
  refine lv_iload hx hb dL_law_594 (lv_at hl 1 rfl) ?_
  refine zif_ne (tgt := 611) hx hb dL_law_596 (by decide) (fun c1 => ?_) (fun c1 => ?_)
  · skip
    refine lv_goto (tgt := 1360) hx hb dL_law_611 (by decide) ?_
    refine W.widen (k := cells + 2) (n := slots + 12) (by omega) (by omega) ?_
    exact kk _ _ _ _ _ hQ hW (lv_sub hl [2, 3, 4, 5, 6] rfl)
  · skip
    refine lv_aload_n hx hb dL_law_599 rfl (lv_at hl 6 rfl) ?_
    refine lv_iconst (v := jI 0) hx hb dL_law_600 rfl ?_
    refine zlald hx hb hLo hW.2.2.2 dL_law_601 ?_
    refine lv_iload hx hb dL_law_602 (lv_at hl 0 rfl) ?_
    refine lv_i2l (v := r1.toInt64) hx hb dL_law_604 rfl ?_
    refine W.lcmp hx hb dL_law_605 ?_
    rw [e2 c1, lgc0]
    refine zif_eq (tgt := 611) hx hb dL_law_606 (by decide) (fun _ => ?_) (fun c9 => absurd rfl c9)
    refine lv_goto (tgt := 1360) hx hb dL_law_611 (by decide) ?_
    refine W.widen (k := cells + 2) (n := slots + 12) (by omega) (by omega) ?_
    exact kk _ _ _ _ _ hQ hW (lv_sub hl [2, 3, 4, 5, 6] rfl)
set_option maxHeartbeats 4000000 in
set_option maxRecDepth 100000 in
theorem lb_tray {p : Program} {l : Launch} {e : Env} {s : State} {m : MethodId} {args : Array Value} {below : List Frame} {meth : Method} {c : Code} {H : Heap} {cells slots : Nat} {QQ : State → Prop} {ls : Array Slot} {b L n : Nat} {xs y : Nat → Int32} {D : va_G} {cy : cyT} {cL : ClassId} {sa aK aV ad am : Nat → Nat} {o : Nat} {σ μ : ST} {v : Int64} (C : LX p l s m args c b L xs D cy cL sa aK aV ad am o) (hn : 5 * n + 5 ≤ L) (hy : ∀ j : Nat, j < 5 → xs (jI (5 * n + j)).toNatClampNeg = y j) (hc : cells + 2 ≤ 601024) (hs : slots + 12 ≤ 7293034) (hl : lv_has ls 7 [(4, .int (jI (5 * (n : Int)))), (0, .ref b), (1, .ref (ad 0)), (2, .ref (am 0)), (3, .ref o)]) (hW : LW D cy cL ad am o s.heap σ μ v H) (Q9 : ST → ST → Prop) (h : wL_tray σ (y 1) (y 2) v (fun k w σ' => wp_X7_tray μ (y 1) (y 2) (fun r μ1 => wp_X7_thrown μ1 (fun th μ2 => th = k ∧ (k = jI 0 → w = r.toInt64) ∧ Q9 σ' μ2)))) (kk : ∀ (σ' μ' : ST) (v' : Int64) (H1 : Heap) (ls : Array Slot), Q9 σ' μ' → LW D cy cL ad am o s.heap σ' μ' v' H1 → lv_has ls 7 [(4, .int (jI (5 * (n : Int)))), (0, .ref b), (1, .ref (ad 0)), (2, .ref (am 0)), (3, .ref o)] → W p l e room_1 s m args below meth c H1 [] (cells + 2) (slots + 12) QQ (F0 m 1360 ls [])) : W p l e room_1 s m args below meth c H [] cells slots QQ (F0 m 614 ls []) := by
  obtain ⟨hx, hb, hml, hown, hts, hX, hbl, hL, hK, hZX, hZ, hLo, hCa, hA, hlt⟩ := C
  refine lv_aload_n hx hb dL_law_614 rfl (lv_at hl 2 rfl) ?_
  refine zscr hx hb hX hbl hW.1 hL hn hy hl 1 0 rfl rfl 1 (by decide) dL_law_615 dL_law_616 dL_law_618 dL_law_619 dL_law_620 ?_
  refine zscr hx hb hX hbl hW.1 hL hn hy hl 1 0 rfl rfl 2 (by decide) dL_law_621 dL_law_622 dL_law_624 dL_law_625 dL_law_626 ?_
  refine lv_aload_n hx hb dL_law_627 rfl (lv_at hl 4 rfl) ?_
  refine lcallL hA hW (vx_runSW (As := [.ref (ad 0), .int (y 1), .int (y 2), .ref o]) (rest := []) ⟨hx, hb, hml, hown, hts⟩ (c_L_tray l hlt D cy cL ad (fun q => s.heap.size ≤ q) sa H.size σ (y 1) (y 2) v o h) (vx_cwSW 4 hts gL_law_L_tray rfl rfl rfl (by decide +kernel) ⟨(Nat.le_of_ble_eq_true rfl), (Nat.le_of_ble_eq_true rfl)⟩) (lpreS hA hW hK hZX hLo hCa _) rfl rfl hl.1 rfl (lv_room (Nat.le_of_ble_eq_true rfl)) dL_law_628 ⟨by show cells + 2 ≤ 601024; omega, by show slots + 12 ≤ 7293034; omega⟩) (fun k1 σ v H h hW => ?_)
  refine lv_istore (lv' := [(5, .int k1), (4, .int (jI (5 * (n : Int)))), (0, .ref b), (1, .ref (ad 0)), (2, .ref (am 0)), (3, .ref o)]) hx hb dL_law_631 hl (by decide) rfl (fun ls hl => ?_)
  refine lv_aload_n hx hb dL_law_633 rfl (lv_at hl 4 rfl) ?_
  refine zscr hx hb hX hbl hW.1 hL hn hy hl 2 1 rfl rfl 1 (by decide) dL_law_634 dL_law_635 dL_law_637 dL_law_638 dL_law_639 ?_
  refine zscr hx hb hX hbl hW.1 hL hn hy hl 2 1 rfl rfl 2 (by decide) dL_law_640 dL_law_641 dL_law_643 dL_law_644 dL_law_645 ?_
  refine lcallM hA hW (va_runV (As := [.int (y 1), .int (y 2)]) (rest := []) ⟨hx, hb, hml, hown, hts⟩ (c_X7_tray l D cy am μ (y 1) (y 2) h) (cwV 2 hts gL_law_X7_tray rfl rfl rfl (by decide +kernel) ⟨(Nat.le_of_ble_eq_true rfl), (Nat.le_of_ble_eq_true rfl)⟩) (zpreV hA.2.1 hK hW.2.2.1 _ (i := 0) (ci := 6) (by decide) rfl rfl) rfl rfl hl.1 rfl (lv_room (Nat.le_of_ble_eq_true rfl)) dL_law_646 ⟨by show cells + 2 + 0 ≤ 601024; omega, by show slots + 12 + 0 ≤ 7293034; omega⟩) (fun r1 μ H h hW => ?_)
  refine lv_istore (lv' := [(6, .int r1), (5, .int k1), (4, .int (jI (5 * (n : Int)))), (0, .ref b), (1, .ref (ad 0)), (2, .ref (am 0)), (3, .ref o)]) hx hb dL_law_649 hl (by decide) rfl (fun ls hl => ?_)
  refine lv_aload_n hx hb dL_law_651 rfl (lv_at hl 5 rfl) ?_
  refine lcallM hA hW (va_runV (As := []) (rest := []) ⟨hx, hb, hml, hown, hts⟩ (c_X7_thrown l D cy am μ  h) (cwV 0 hts gL_law_X7_thrown rfl rfl rfl (by decide +kernel) ⟨(Nat.le_of_ble_eq_true rfl), (Nat.le_of_ble_eq_true rfl)⟩) (zpreV hA.2.1 hK hW.2.2.1 _ (i := 0) (ci := 6) (by decide) rfl rfl) rfl rfl hl.1 rfl (lv_room (Nat.le_of_ble_eq_true rfl)) dL_law_652 ⟨by show cells + 2 + 0 ≤ 601024; omega, by show slots + 12 + 0 ≤ 7293034; omega⟩) (fun t1 μ H h hW => ?_)
  obtain ⟨e1, e2, hQ⟩ := h
  refine lv_iload hx hb dL_law_655 (lv_at hl 1 rfl) ?_
  refine lv_icmp_eq (tgt := 662) hx hb dL_law_657 (by decide) (fun _ => ?_) (fun c9 => absurd e1 c9)
  refine lv_iload hx hb dL_law_662 (lv_at hl 1 rfl) ?_
  refine zif_ne (tgt := 679) hx hb dL_law_664 (by decide) (fun c1 => ?_) (fun c1 => ?_)
  · skip
    refine lv_goto (tgt := 1360) hx hb dL_law_679 (by decide) ?_
    refine W.widen (k := cells + 2) (n := slots + 12) (by omega) (by omega) ?_
    exact kk _ _ _ _ _ hQ hW (lv_sub hl [2, 3, 4, 5, 6] rfl)
  · skip
    refine lv_aload_n hx hb dL_law_667 rfl (lv_at hl 6 rfl) ?_
    refine lv_iconst (v := jI 0) hx hb dL_law_668 rfl ?_
    refine zlald hx hb hLo hW.2.2.2 dL_law_669 ?_
    refine lv_iload hx hb dL_law_670 (lv_at hl 0 rfl) ?_
    refine lv_i2l (v := r1.toInt64) hx hb dL_law_672 rfl ?_
    refine W.lcmp hx hb dL_law_673 ?_
    rw [e2 c1, lgc0]
    refine zif_eq (tgt := 679) hx hb dL_law_674 (by decide) (fun _ => ?_) (fun c9 => absurd rfl c9)
    refine lv_goto (tgt := 1360) hx hb dL_law_679 (by decide) ?_
    refine W.widen (k := cells + 2) (n := slots + 12) (by omega) (by omega) ?_
    exact kk _ _ _ _ _ hQ hW (lv_sub hl [2, 3, 4, 5, 6] rfl)
set_option maxHeartbeats 4000000 in
set_option maxRecDepth 100000 in
theorem lb_shelf {p : Program} {l : Launch} {e : Env} {s : State} {m : MethodId} {args : Array Value} {below : List Frame} {meth : Method} {c : Code} {H : Heap} {cells slots : Nat} {QQ : State → Prop} {ls : Array Slot} {b L n : Nat} {xs y : Nat → Int32} {D : va_G} {cy : cyT} {cL : ClassId} {sa aK aV ad am : Nat → Nat} {o : Nat} {σ μ : ST} {v : Int64} (C : LX p l s m args c b L xs D cy cL sa aK aV ad am o) (hn : 5 * n + 5 ≤ L) (hy : ∀ j : Nat, j < 5 → xs (jI (5 * n + j)).toNatClampNeg = y j) (hc : cells + 2 ≤ 601024) (hs : slots + 12 ≤ 7293034) (hl : lv_has ls 7 [(4, .int (jI (5 * (n : Int)))), (0, .ref b), (1, .ref (ad 0)), (2, .ref (am 0)), (3, .ref o)]) (hW : LW D cy cL ad am o s.heap σ μ v H) (Q9 : ST → ST → Prop) (h : wL_shelf σ (y 1) (y 2) (y 3) v (fun k w σ' => wp_X7_shelf μ (y 1) (y 2) (y 3) (fun r μ1 => wp_X7_thrown μ1 (fun th μ2 => th = k ∧ (k = jI 0 → w = r.toInt64) ∧ Q9 σ' μ2)))) (kk : ∀ (σ' μ' : ST) (v' : Int64) (H1 : Heap) (ls : Array Slot), Q9 σ' μ' → LW D cy cL ad am o s.heap σ' μ' v' H1 → lv_has ls 7 [(4, .int (jI (5 * (n : Int)))), (0, .ref b), (1, .ref (ad 0)), (2, .ref (am 0)), (3, .ref o)] → W p l e room_1 s m args below meth c H1 [] (cells + 2) (slots + 12) QQ (F0 m 1360 ls [])) : W p l e room_1 s m args below meth c H [] cells slots QQ (F0 m 682 ls []) := by
  obtain ⟨hx, hb, hml, hown, hts, hX, hbl, hL, hK, hZX, hZ, hLo, hCa, hA, hlt⟩ := C
  refine lv_aload_n hx hb dL_law_682 rfl (lv_at hl 2 rfl) ?_
  refine zscr hx hb hX hbl hW.1 hL hn hy hl 1 0 rfl rfl 1 (by decide) dL_law_683 dL_law_684 dL_law_686 dL_law_687 dL_law_688 ?_
  refine zscr hx hb hX hbl hW.1 hL hn hy hl 1 0 rfl rfl 2 (by decide) dL_law_689 dL_law_690 dL_law_692 dL_law_693 dL_law_694 ?_
  refine zscr hx hb hX hbl hW.1 hL hn hy hl 1 0 rfl rfl 3 (by decide) dL_law_695 dL_law_696 dL_law_698 dL_law_699 dL_law_700 ?_
  refine lv_aload_n hx hb dL_law_701 rfl (lv_at hl 4 rfl) ?_
  refine lcallL hA hW (vx_runSW (As := [.ref (ad 0), .int (y 1), .int (y 2), .int (y 3), .ref o]) (rest := []) ⟨hx, hb, hml, hown, hts⟩ (c_L_shelf l hlt D cy cL ad (fun q => s.heap.size ≤ q) sa H.size σ (y 1) (y 2) (y 3) v o h) (vx_cwSW 5 hts gL_law_L_shelf rfl rfl rfl (by decide +kernel) ⟨(Nat.le_of_ble_eq_true rfl), (Nat.le_of_ble_eq_true rfl)⟩) (lpreS hA hW hK hZX hLo hCa _) rfl rfl hl.1 rfl (lv_room (Nat.le_of_ble_eq_true rfl)) dL_law_702 ⟨by show cells + 2 ≤ 601024; omega, by show slots + 12 ≤ 7293034; omega⟩) (fun k1 σ v H h hW => ?_)
  refine lv_istore (lv' := [(5, .int k1), (4, .int (jI (5 * (n : Int)))), (0, .ref b), (1, .ref (ad 0)), (2, .ref (am 0)), (3, .ref o)]) hx hb dL_law_705 hl (by decide) rfl (fun ls hl => ?_)
  refine lv_aload_n hx hb dL_law_707 rfl (lv_at hl 4 rfl) ?_
  refine zscr hx hb hX hbl hW.1 hL hn hy hl 2 1 rfl rfl 1 (by decide) dL_law_708 dL_law_709 dL_law_711 dL_law_712 dL_law_713 ?_
  refine zscr hx hb hX hbl hW.1 hL hn hy hl 2 1 rfl rfl 2 (by decide) dL_law_714 dL_law_715 dL_law_717 dL_law_718 dL_law_719 ?_
  refine zscr hx hb hX hbl hW.1 hL hn hy hl 2 1 rfl rfl 3 (by decide) dL_law_720 dL_law_721 dL_law_723 dL_law_724 dL_law_725 ?_
  refine lcallM hA hW (va_runV (As := [.int (y 1), .int (y 2), .int (y 3)]) (rest := []) ⟨hx, hb, hml, hown, hts⟩ (c_X7_shelf l D cy am μ (y 1) (y 2) (y 3) h) (cwV 3 hts gL_law_X7_shelf rfl rfl rfl (by decide +kernel) ⟨(Nat.le_of_ble_eq_true rfl), (Nat.le_of_ble_eq_true rfl)⟩) (zpreV hA.2.1 hK hW.2.2.1 _ (i := 0) (ci := 6) (by decide) rfl rfl) rfl rfl hl.1 rfl (lv_room (Nat.le_of_ble_eq_true rfl)) dL_law_726 ⟨by show cells + 2 + 0 ≤ 601024; omega, by show slots + 12 + 0 ≤ 7293034; omega⟩) (fun r1 μ H h hW => ?_)
  refine lv_istore (lv' := [(6, .int r1), (5, .int k1), (4, .int (jI (5 * (n : Int)))), (0, .ref b), (1, .ref (ad 0)), (2, .ref (am 0)), (3, .ref o)]) hx hb dL_law_729 hl (by decide) rfl (fun ls hl => ?_)
  refine lv_aload_n hx hb dL_law_731 rfl (lv_at hl 5 rfl) ?_
  refine lcallM hA hW (va_runV (As := []) (rest := []) ⟨hx, hb, hml, hown, hts⟩ (c_X7_thrown l D cy am μ  h) (cwV 0 hts gL_law_X7_thrown rfl rfl rfl (by decide +kernel) ⟨(Nat.le_of_ble_eq_true rfl), (Nat.le_of_ble_eq_true rfl)⟩) (zpreV hA.2.1 hK hW.2.2.1 _ (i := 0) (ci := 6) (by decide) rfl rfl) rfl rfl hl.1 rfl (lv_room (Nat.le_of_ble_eq_true rfl)) dL_law_732 ⟨by show cells + 2 + 0 ≤ 601024; omega, by show slots + 12 + 0 ≤ 7293034; omega⟩) (fun t1 μ H h hW => ?_)
  obtain ⟨e1, e2, hQ⟩ := h
  refine lv_iload hx hb dL_law_735 (lv_at hl 1 rfl) ?_
  refine lv_icmp_eq (tgt := 742) hx hb dL_law_737 (by decide) (fun _ => ?_) (fun c9 => absurd e1 c9)
  refine lv_iload hx hb dL_law_742 (lv_at hl 1 rfl) ?_
  refine zif_ne (tgt := 759) hx hb dL_law_744 (by decide) (fun c1 => ?_) (fun c1 => ?_)
  · skip
    refine lv_goto (tgt := 1360) hx hb dL_law_759 (by decide) ?_
    refine W.widen (k := cells + 2) (n := slots + 12) (by omega) (by omega) ?_
    exact kk _ _ _ _ _ hQ hW (lv_sub hl [2, 3, 4, 5, 6] rfl)
  · skip
    refine lv_aload_n hx hb dL_law_747 rfl (lv_at hl 6 rfl) ?_
    refine lv_iconst (v := jI 0) hx hb dL_law_748 rfl ?_
    refine zlald hx hb hLo hW.2.2.2 dL_law_749 ?_
    refine lv_iload hx hb dL_law_750 (lv_at hl 0 rfl) ?_
    refine lv_i2l (v := r1.toInt64) hx hb dL_law_752 rfl ?_
    refine W.lcmp hx hb dL_law_753 ?_
    rw [e2 c1, lgc0]
    refine zif_eq (tgt := 759) hx hb dL_law_754 (by decide) (fun _ => ?_) (fun c9 => absurd rfl c9)
    refine lv_goto (tgt := 1360) hx hb dL_law_759 (by decide) ?_
    refine W.widen (k := cells + 2) (n := slots + 12) (by omega) (by omega) ?_
    exact kk _ _ _ _ _ hQ hW (lv_sub hl [2, 3, 4, 5, 6] rfl)
set_option maxHeartbeats 4000000 in
set_option maxRecDepth 100000 in
theorem lb_at {p : Program} {l : Launch} {e : Env} {s : State} {m : MethodId} {args : Array Value} {below : List Frame} {meth : Method} {c : Code} {H : Heap} {cells slots : Nat} {QQ : State → Prop} {ls : Array Slot} {b L n : Nat} {xs y : Nat → Int32} {D : va_G} {cy : cyT} {cL : ClassId} {sa aK aV ad am : Nat → Nat} {o : Nat} {σ μ : ST} {v : Int64} (C : LX p l s m args c b L xs D cy cL sa aK aV ad am o) (hn : 5 * n + 5 ≤ L) (hy : ∀ j : Nat, j < 5 → xs (jI (5 * n + j)).toNatClampNeg = y j) (hc : cells + 2 ≤ 601024) (hs : slots + 12 ≤ 7293034) (hl : lv_has ls 7 [(4, .int (jI (5 * (n : Int)))), (0, .ref b), (1, .ref (ad 0)), (2, .ref (am 0)), (3, .ref o)]) (hW : LW D cy cL ad am o s.heap σ μ v H) (Q9 : ST → ST → Prop) (h : wL_at σ (y 1) (y 2) (y 3) v (fun k w σ' => wp_X7_at μ (y 1) (y 2) (y 3) (fun r μ1 => wp_X7_thrown μ1 (fun th μ2 => th = k ∧ (k = jI 0 → w = r.toInt64) ∧ Q9 σ' μ2)))) (kk : ∀ (σ' μ' : ST) (v' : Int64) (H1 : Heap) (ls : Array Slot), Q9 σ' μ' → LW D cy cL ad am o s.heap σ' μ' v' H1 → lv_has ls 7 [(4, .int (jI (5 * (n : Int)))), (0, .ref b), (1, .ref (ad 0)), (2, .ref (am 0)), (3, .ref o)] → W p l e room_1 s m args below meth c H1 [] (cells + 2) (slots + 12) QQ (F0 m 1360 ls [])) : W p l e room_1 s m args below meth c H [] cells slots QQ (F0 m 762 ls []) := by
  obtain ⟨hx, hb, hml, hown, hts, hX, hbl, hL, hK, hZX, hZ, hLo, hCa, hA, hlt⟩ := C
  refine lv_aload_n hx hb dL_law_762 rfl (lv_at hl 2 rfl) ?_
  refine zscr hx hb hX hbl hW.1 hL hn hy hl 1 0 rfl rfl 1 (by decide) dL_law_763 dL_law_764 dL_law_766 dL_law_767 dL_law_768 ?_
  refine zscr hx hb hX hbl hW.1 hL hn hy hl 1 0 rfl rfl 2 (by decide) dL_law_769 dL_law_770 dL_law_772 dL_law_773 dL_law_774 ?_
  refine zscr hx hb hX hbl hW.1 hL hn hy hl 1 0 rfl rfl 3 (by decide) dL_law_775 dL_law_776 dL_law_778 dL_law_779 dL_law_780 ?_
  refine lv_aload_n hx hb dL_law_781 rfl (lv_at hl 4 rfl) ?_
  refine lcallL hA hW (vx_runSW (As := [.ref (ad 0), .int (y 1), .int (y 2), .int (y 3), .ref o]) (rest := []) ⟨hx, hb, hml, hown, hts⟩ (c_L_at l hlt D cy cL ad (fun q => s.heap.size ≤ q) sa H.size σ (y 1) (y 2) (y 3) v o h) (vx_cwSW 5 hts gL_law_L_at rfl rfl rfl (by decide +kernel) ⟨(Nat.le_of_ble_eq_true rfl), (Nat.le_of_ble_eq_true rfl)⟩) (lpreS hA hW hK hZX hLo hCa _) rfl rfl hl.1 rfl (lv_room (Nat.le_of_ble_eq_true rfl)) dL_law_782 ⟨by show cells + 2 ≤ 601024; omega, by show slots + 12 ≤ 7293034; omega⟩) (fun k1 σ v H h hW => ?_)
  refine lv_istore (lv' := [(5, .int k1), (4, .int (jI (5 * (n : Int)))), (0, .ref b), (1, .ref (ad 0)), (2, .ref (am 0)), (3, .ref o)]) hx hb dL_law_785 hl (by decide) rfl (fun ls hl => ?_)
  refine lv_aload_n hx hb dL_law_787 rfl (lv_at hl 4 rfl) ?_
  refine zscr hx hb hX hbl hW.1 hL hn hy hl 2 1 rfl rfl 1 (by decide) dL_law_788 dL_law_789 dL_law_791 dL_law_792 dL_law_793 ?_
  refine zscr hx hb hX hbl hW.1 hL hn hy hl 2 1 rfl rfl 2 (by decide) dL_law_794 dL_law_795 dL_law_797 dL_law_798 dL_law_799 ?_
  refine zscr hx hb hX hbl hW.1 hL hn hy hl 2 1 rfl rfl 3 (by decide) dL_law_800 dL_law_801 dL_law_803 dL_law_804 dL_law_805 ?_
  refine lcallM hA hW (va_runV (As := [.int (y 1), .int (y 2), .int (y 3)]) (rest := []) ⟨hx, hb, hml, hown, hts⟩ (c_X7_at l D cy am μ (y 1) (y 2) (y 3) h) (cwV 3 hts gL_law_X7_at rfl rfl rfl (by decide +kernel) ⟨(Nat.le_of_ble_eq_true rfl), (Nat.le_of_ble_eq_true rfl)⟩) (zpreV hA.2.1 hK hW.2.2.1 _ (i := 0) (ci := 6) (by decide) rfl rfl) rfl rfl hl.1 rfl (lv_room (Nat.le_of_ble_eq_true rfl)) dL_law_806 ⟨by show cells + 2 + 0 ≤ 601024; omega, by show slots + 12 + 0 ≤ 7293034; omega⟩) (fun r1 μ H h hW => ?_)
  refine lv_istore (lv' := [(6, .int r1), (5, .int k1), (4, .int (jI (5 * (n : Int)))), (0, .ref b), (1, .ref (ad 0)), (2, .ref (am 0)), (3, .ref o)]) hx hb dL_law_809 hl (by decide) rfl (fun ls hl => ?_)
  refine lv_aload_n hx hb dL_law_811 rfl (lv_at hl 5 rfl) ?_
  refine lcallM hA hW (va_runV (As := []) (rest := []) ⟨hx, hb, hml, hown, hts⟩ (c_X7_thrown l D cy am μ  h) (cwV 0 hts gL_law_X7_thrown rfl rfl rfl (by decide +kernel) ⟨(Nat.le_of_ble_eq_true rfl), (Nat.le_of_ble_eq_true rfl)⟩) (zpreV hA.2.1 hK hW.2.2.1 _ (i := 0) (ci := 6) (by decide) rfl rfl) rfl rfl hl.1 rfl (lv_room (Nat.le_of_ble_eq_true rfl)) dL_law_812 ⟨by show cells + 2 + 0 ≤ 601024; omega, by show slots + 12 + 0 ≤ 7293034; omega⟩) (fun t1 μ H h hW => ?_)
  obtain ⟨e1, e2, hQ⟩ := h
  refine lv_iload hx hb dL_law_815 (lv_at hl 1 rfl) ?_
  refine lv_icmp_eq (tgt := 822) hx hb dL_law_817 (by decide) (fun _ => ?_) (fun c9 => absurd e1 c9)
  refine lv_iload hx hb dL_law_822 (lv_at hl 1 rfl) ?_
  refine zif_ne (tgt := 839) hx hb dL_law_824 (by decide) (fun c1 => ?_) (fun c1 => ?_)
  · skip
    refine lv_goto (tgt := 1360) hx hb dL_law_839 (by decide) ?_
    refine W.widen (k := cells + 2) (n := slots + 12) (by omega) (by omega) ?_
    exact kk _ _ _ _ _ hQ hW (lv_sub hl [2, 3, 4, 5, 6] rfl)
  · skip
    refine lv_aload_n hx hb dL_law_827 rfl (lv_at hl 6 rfl) ?_
    refine lv_iconst (v := jI 0) hx hb dL_law_828 rfl ?_
    refine zlald hx hb hLo hW.2.2.2 dL_law_829 ?_
    refine lv_iload hx hb dL_law_830 (lv_at hl 0 rfl) ?_
    refine lv_i2l (v := r1.toInt64) hx hb dL_law_832 rfl ?_
    refine W.lcmp hx hb dL_law_833 ?_
    rw [e2 c1, lgc0]
    refine zif_eq (tgt := 839) hx hb dL_law_834 (by decide) (fun _ => ?_) (fun c9 => absurd rfl c9)
    refine lv_goto (tgt := 1360) hx hb dL_law_839 (by decide) ?_
    refine W.widen (k := cells + 2) (n := slots + 12) (by omega) (by omega) ?_
    exact kk _ _ _ _ _ hQ hW (lv_sub hl [2, 3, 4, 5, 6] rfl)
set_option maxHeartbeats 4000000 in
set_option maxRecDepth 100000 in
theorem lb_street {p : Program} {l : Launch} {e : Env} {s : State} {m : MethodId} {args : Array Value} {below : List Frame} {meth : Method} {c : Code} {H : Heap} {cells slots : Nat} {QQ : State → Prop} {ls : Array Slot} {b L n : Nat} {xs y : Nat → Int32} {D : va_G} {cy : cyT} {cL : ClassId} {sa aK aV ad am : Nat → Nat} {o : Nat} {σ μ : ST} {v : Int64} (C : LX p l s m args c b L xs D cy cL sa aK aV ad am o) (hn : 5 * n + 5 ≤ L) (hy : ∀ j : Nat, j < 5 → xs (jI (5 * n + j)).toNatClampNeg = y j) (hc : cells + 2 ≤ 601024) (hs : slots + 12 ≤ 7293034) (hl : lv_has ls 7 [(4, .int (jI (5 * (n : Int)))), (0, .ref b), (1, .ref (ad 0)), (2, .ref (am 0)), (3, .ref o)]) (hW : LW D cy cL ad am o s.heap σ μ v H) (Q9 : ST → ST → Prop) (h : wL_street σ (y 1) v (fun k w σ' => wp_X7_street μ (y 1) (fun r μ1 => wp_X7_thrown μ1 (fun th μ2 => th = k ∧ (k = jI 0 → w = r.toInt64) ∧ Q9 σ' μ2)))) (kk : ∀ (σ' μ' : ST) (v' : Int64) (H1 : Heap) (ls : Array Slot), Q9 σ' μ' → LW D cy cL ad am o s.heap σ' μ' v' H1 → lv_has ls 7 [(4, .int (jI (5 * (n : Int)))), (0, .ref b), (1, .ref (ad 0)), (2, .ref (am 0)), (3, .ref o)] → W p l e room_1 s m args below meth c H1 [] (cells + 2) (slots + 12) QQ (F0 m 1360 ls [])) : W p l e room_1 s m args below meth c H [] cells slots QQ (F0 m 842 ls []) := by
  obtain ⟨hx, hb, hml, hown, hts, hX, hbl, hL, hK, hZX, hZ, hLo, hCa, hA, hlt⟩ := C
  refine lv_aload_n hx hb dL_law_842 rfl (lv_at hl 2 rfl) ?_
  refine zscr hx hb hX hbl hW.1 hL hn hy hl 1 0 rfl rfl 1 (by decide) dL_law_843 dL_law_844 dL_law_846 dL_law_847 dL_law_848 ?_
  refine lv_aload_n hx hb dL_law_849 rfl (lv_at hl 4 rfl) ?_
  refine lcallL hA hW (vx_runSW (As := [.ref (ad 0), .int (y 1), .ref o]) (rest := []) ⟨hx, hb, hml, hown, hts⟩ (c_L_street l hlt D cy cL ad (fun q => s.heap.size ≤ q) sa H.size σ (y 1) v o h) (vx_cwSW 3 hts gL_law_L_street rfl rfl rfl (by decide +kernel) ⟨(Nat.le_of_ble_eq_true rfl), (Nat.le_of_ble_eq_true rfl)⟩) (lpreS hA hW hK hZX hLo hCa _) rfl rfl hl.1 rfl (lv_room (Nat.le_of_ble_eq_true rfl)) dL_law_850 ⟨by show cells + 1 ≤ 601024; omega, by show slots + 6 ≤ 7293034; omega⟩) (fun k1 σ v H h hW => ?_)
  refine lv_istore (lv' := [(5, .int k1), (4, .int (jI (5 * (n : Int)))), (0, .ref b), (1, .ref (ad 0)), (2, .ref (am 0)), (3, .ref o)]) hx hb dL_law_853 hl (by decide) rfl (fun ls hl => ?_)
  refine lv_aload_n hx hb dL_law_855 rfl (lv_at hl 4 rfl) ?_
  refine zscr hx hb hX hbl hW.1 hL hn hy hl 2 1 rfl rfl 1 (by decide) dL_law_856 dL_law_857 dL_law_859 dL_law_860 dL_law_861 ?_
  refine lcallM hA hW (va_runV (As := [.int (y 1)]) (rest := []) ⟨hx, hb, hml, hown, hts⟩ (c_X7_street l D cy am μ (y 1) h) (cwV 1 hts gL_law_X7_street rfl rfl rfl (by decide +kernel) ⟨(Nat.le_of_ble_eq_true rfl), (Nat.le_of_ble_eq_true rfl)⟩) (zpreV hA.2.1 hK hW.2.2.1 _ (i := 0) (ci := 6) (by decide) rfl rfl) rfl rfl hl.1 rfl (lv_room (Nat.le_of_ble_eq_true rfl)) dL_law_862 ⟨by show cells + 1 + 0 ≤ 601024; omega, by show slots + 6 + 0 ≤ 7293034; omega⟩) (fun r1 μ H h hW => ?_)
  refine lv_istore (lv' := [(6, .int r1), (5, .int k1), (4, .int (jI (5 * (n : Int)))), (0, .ref b), (1, .ref (ad 0)), (2, .ref (am 0)), (3, .ref o)]) hx hb dL_law_865 hl (by decide) rfl (fun ls hl => ?_)
  refine lv_aload_n hx hb dL_law_867 rfl (lv_at hl 5 rfl) ?_
  refine lcallM hA hW (va_runV (As := []) (rest := []) ⟨hx, hb, hml, hown, hts⟩ (c_X7_thrown l D cy am μ  h) (cwV 0 hts gL_law_X7_thrown rfl rfl rfl (by decide +kernel) ⟨(Nat.le_of_ble_eq_true rfl), (Nat.le_of_ble_eq_true rfl)⟩) (zpreV hA.2.1 hK hW.2.2.1 _ (i := 0) (ci := 6) (by decide) rfl rfl) rfl rfl hl.1 rfl (lv_room (Nat.le_of_ble_eq_true rfl)) dL_law_868 ⟨by show cells + 1 + 0 ≤ 601024; omega, by show slots + 6 + 0 ≤ 7293034; omega⟩) (fun t1 μ H h hW => ?_)
  obtain ⟨e1, e2, hQ⟩ := h
  refine lv_iload hx hb dL_law_871 (lv_at hl 1 rfl) ?_
  refine lv_icmp_eq (tgt := 878) hx hb dL_law_873 (by decide) (fun _ => ?_) (fun c9 => absurd e1 c9)
  refine lv_iload hx hb dL_law_878 (lv_at hl 1 rfl) ?_
  refine zif_ne (tgt := 895) hx hb dL_law_880 (by decide) (fun c1 => ?_) (fun c1 => ?_)
  · skip
    refine lv_goto (tgt := 1360) hx hb dL_law_895 (by decide) ?_
    refine W.widen (k := cells + 2) (n := slots + 12) (by omega) (by omega) ?_
    exact kk _ _ _ _ _ hQ hW (lv_sub hl [2, 3, 4, 5, 6] rfl)
  · skip
    refine lv_aload_n hx hb dL_law_883 rfl (lv_at hl 6 rfl) ?_
    refine lv_iconst (v := jI 0) hx hb dL_law_884 rfl ?_
    refine zlald hx hb hLo hW.2.2.2 dL_law_885 ?_
    refine lv_iload hx hb dL_law_886 (lv_at hl 0 rfl) ?_
    refine lv_i2l (v := r1.toInt64) hx hb dL_law_888 rfl ?_
    refine W.lcmp hx hb dL_law_889 ?_
    rw [e2 c1, lgc0]
    refine zif_eq (tgt := 895) hx hb dL_law_890 (by decide) (fun _ => ?_) (fun c9 => absurd rfl c9)
    refine lv_goto (tgt := 1360) hx hb dL_law_895 (by decide) ?_
    refine W.widen (k := cells + 2) (n := slots + 12) (by omega) (by omega) ?_
    exact kk _ _ _ _ _ hQ hW (lv_sub hl [2, 3, 4, 5, 6] rfl)
theorem last_27 : True := trivial
