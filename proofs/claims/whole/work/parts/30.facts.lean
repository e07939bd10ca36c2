/-! what the start gives: classes, constants, texts -/
theorem zNest_in : ∀ w ∈ zNest, w ∈ lw_tbl := by decide +kernel
theorem zThr_in : ∀ w ∈ zThr, w ∈ lw_tbl := by decide +kernel
theorem lf_K {b : Nat} {s : State} (hts : ∀ w ∈ lw_tbl, w.before #[Value.ref b] s = true) : ∃ (D : va_G) (cy : cyT), zK D cy s ∧ zAO s := by
  obtain ⟨c0, i0, h0⟩ := u_known (C := RX0) (T := TX0) (N := 6) hts inX0 (hts (.instantiable RX0 6) (by decide +kernel))
  obtain ⟨c1, i1, h1⟩ := u_known (C := RX2) (T := TX2) (N := 5) hts inX2 (hts (.instantiable RX2 5) (by decide +kernel))
  obtain ⟨c2, i2, h2⟩ := u_known (C := RX3) (T := TX3) (N := 1) hts inX3 (hts (.instantiable RX3 1) (by decide +kernel))
  obtain ⟨c3, i3, h3⟩ := u_known (C := RX4) (T := TX4) (N := 18) hts inX4 (hts (.instantiable RX4 18) (by decide +kernel))
  obtain ⟨c4, i4, h4⟩ := u_known (C := RX5) (T := TX5) (N := 3) hts inX5 (hts (.instantiable RX5 3) (by decide +kernel))
  obtain ⟨c5, i5, h5⟩ := u_known (C := RX6) (T := TX6) (N := 4) hts inX6 (hts (.instantiable RX6 4) (by decide +kernel))
  obtain ⟨c6, i6, h6⟩ := u_known (C := RX7) (T := TX7) (N := 16) hts inX7 (hts (.instantiable RX7 16) (by decide +kernel))
  obtain ⟨cI, kI, oI, a1, a2, a3⟩ := Cond.arrayClass_spec (hts (.arrayClass .int) (by decide +kernel))
  obtain ⟨cB, kB, oB, b1, b2, b3⟩ := Cond.arrayClass_spec (hts (.arrayClass .boolean) (by decide +kernel))
  have hao : zAO s := va_AO.of (hts (.arrayOver (.object "TypeTrays$State")) (by decide +kernel))
  obtain ⟨oS, cS, kS, f1, f2, f3, f4, f5⟩ := Cond.arrayOver_spec hao
  refine ⟨((fun c => match c with | 0 => c0 | 1 => c1 | 2 => c2 | 3 => c3 | 4 => c4 | 5 => c5 | _ => c6), (fun c => match c with | 0 => i0 | 1 => i1 | 2 => i2 | 3 => i3 | 4 => i4 | 5 => i5 | _ => i6)), (cI, cB, cS), ⟨⟨?_, ?_⟩, fun w hw => va_Nw.of (zNw_tab w hw) (hts w (zNest_in w hw))⟩, hao⟩
  · intro c q hq
    rcases c with _ | _ | _ | _ | _ | _ | _ | c
    · cases hq; exact h0
    · cases hq; exact h1
    · cases hq; exact h2
    · cases hq; exact h3
    · cases hq; exact h4
    · cases hq; exact h5
    · cases hq; exact h6
    · simp [vwCl] at hq
  · intro k q hq
    rcases k with _ | _ | _ | k
    · cases hq
      exact ⟨fun N z => ⟨fun k h => (by cases h), kI, a2, oI, a3⟩, a1⟩
    · cases hq
      exact ⟨fun N z => ⟨fun k h => (by cases h), kB, b2, oB, b3⟩, b1⟩
    · cases hq
      exact ⟨fun N z => ⟨fun k h => (by cases h), kS, f3, oS, f4⟩, kS, oS, f3, f4, f1, f5⟩
    · simp [zTy] at hq
theorem lf_L {b : Nat} {s : State} (hts : ∀ w ∈ lw_tbl, w.before #[Value.ref b] s = true) : ∃ cL : ClassId, ArrOfT s cL .long ∧ s.vm.findClass ("[" ++ FieldType.long.toString) = some cL := by
  obtain ⟨cI, kI, oI, a1, a2, a3⟩ := Cond.arrayClass_spec (hts (.arrayClass .long) (by decide +kernel))
  exact ⟨cI, fun N z => ⟨fun k h => (by cases h), kI, a2, oI, a3⟩, a1⟩
theorem lf_nc1 : ∀ a ∈ zE3, ∀ b ∈ zE3, a ≠ b → Cond.not (.castable a b) ∈ flatC (Jvm.Cond.and given_1 narrow_1) := by decide +kernel
theorem lf_nc2 : ∀ a ∈ zE3, Cond.castable a a ∈ lw_tbl := by decide +kernel
theorem lf_C {b : Nat} {s : State} (hts : ∀ w ∈ lw_tbl, w.before #[Value.ref b] s = true) (hgv : (Jvm.Cond.and given_1 narrow_1).before #[Value.ref b] s = true) : zCa s := by
  have hs := flat_of_before _ hgv
  exact ⟨fun a ha => va_Nw.of rfl (hts _ (lf_nc2 a ha)), fun a ha c hc n => va_Nc.of (hs _ (lf_nc1 a ha c hc n))⟩
def zki : Nat → Nat
  | 0 => 91
  | 1 => 93
  | 2 => 95
  | 3 => 97
  | 4 => 99
  | _ => 101
abbrev ztm (i : Nat) : Term := .string RX0 (zki i)
abbrev zfl : List Cond := flatC (Jvm.Cond.and given_1 narrow_1)
theorem lf_s1 : ∀ i, i < 6 → Cond.exactly (ztm i) "java/lang/String" ∈ zfl := by decide +kernel
theorem lf_s2 : ∀ i, i < 6 → Cond.eq (.field (ztm i) "java/lang/String" "coder" "B") (.int 0) ∈ zfl := by decide +kernel
theorem lf_s3 : ∀ i, i < 6 → Cond.arrayOf (.field (ztm i) "java/lang/String" "value" "[B") .byte ∈ zfl := by decide +kernel
theorem lf_s4 : ∀ i, i < 6 → Cond.eq (.length (.field (ztm i) "java/lang/String" "value" "[B")) (.int (Int32.ofNat (zln.getD i 0))) ∈ zfl := by decide +kernel
theorem lf_s5 : ∀ i, i < 6 → ∀ j, j < zln.getD i 0 → Cond.eq (.elem (.field (ztm i) "java/lang/String" "value" "[B") (.int (Int32.ofNat j))) (.int ((zbyt.getD i []).getD j 0)) ∈ zfl := by decide +kernel
theorem lf_s6 : ∀ i, i < 6 → ∀ j, j < 6 → i ≠ j → Cond.not (Cond.eq (ztm i) (ztm j)) ∈ zfl ∨ Cond.not (Cond.eq (ztm j) (ztm i)) ∈ zfl := by decide +kernel
theorem lf_s0 : ∀ i, i < 6 → zln.getD i 0 < 2 ^ 31 := by decide +kernel
theorem lf_s7 : Cond.eq (.static "java/lang/String" "COMPACT_STRINGS" "Z") (.int 1) ∈ zfl := by decide +kernel
theorem lf_s8 : Cond.isRef (.static "jdk/internal/util/Preconditions" "SIOOBE_FORMATTER" "Ljava/util/function/BiFunction;") ∈ zfl := by decide +kernel
theorem lf_S {b : Nat} {s : State} (hts : ∀ w ∈ lw_tbl, w.before #[Value.ref b] s = true) (hgv : (Jvm.Cond.and given_1 narrow_1).before #[Value.ref b] s = true) : ∃ aK aV : Nat → Nat, zStr (fun q => s.heap.size ≤ q) aK aV s := by
  have hs : ∀ w ∈ zfl, w.before #[Value.ref b] s = true := flat_of_before _ hgv
  obtain ⟨aK, aV, h1, h2⟩ := vk_Sof (tm := ztm) (len := zln) (byt := zbyt) (A := fun q => s.heap.size ≤ q) (N := 6) lf_s0 (fun i hi => hs _ (lf_s1 i hi)) (fun i hi => hs _ (lf_s2 i hi)) (fun i hi => hs _ (lf_s3 i hi)) (fun i hi => hs _ (lf_s4 i hi)) (fun i hi j hj => hs _ (lf_s5 i hi j hj)) (fun i j hi hj n => (lf_s6 i hi j hj n).imp (hs _) (hs _)) (fun a h => Nat.not_le.mpr h)
  exact ⟨aK, aV, ⟨vk_R.of (hts _ (by decide +kernel)) (h2 0 (by decide)), vk_R.of (hts _ (by decide +kernel)) (h2 1 (by decide)), vk_R.of (hts _ (by decide +kernel)) (h2 2 (by decide)), vk_R.of (hts _ (by decide +kernel)) (h2 3 (by decide)), vk_R.of (hts _ (by decide +kernel)) (h2 4 (by decide)), vk_R.of (hts _ (by decide +kernel)) (h2 5 (by decide))⟩, h1, va_Zof (hts _ (by decide +kernel)) (hts _ (by decide +kernel)) (va_eqt (hs _ lf_s7)) (fun a h => Nat.not_le.mpr h), va_Zqof (hts _ (by decide +kernel)) (hts _ (by decide +kernel)) (hs _ lf_s8) (fun a h => Nat.not_le.mpr h)⟩
theorem lf_x1 : ∀ i ∈ [219, 226, 231], Cond.exactly (.string RX6 i) "java/lang/String" ∈ zfl := by decide +kernel
theorem lf_x2 : Cond.isRef (.static Bundle.tN "UNASSIGNED_STACK" Bundle.steD) ∈ zfl := by decide +kernel
theorem lf_x3 : Cond.isRef (.static Bundle.tN "SUPPRESSED_SENTINEL" Bundle.listD) ∈ zfl := by decide +kernel
theorem lf_X {b : Nat} {s : State} (hts : ∀ w ∈ lw_tbl, w.before #[Value.ref b] s = true) (hgv : (Jvm.Cond.and given_1 narrow_1).before #[Value.ref b] s = true) : ∃ sa : Nat → Nat, zX (fun q => s.heap.size ≤ q) sa s := by
  have hs : ∀ w ∈ zfl, w.before #[Value.ref b] s = true := flat_of_before _ hgv
  obtain ⟨a0, _, _, _, q0, -⟩ := Cond.exactly_spec (hs _ (lf_x1 219 (by decide)))
  obtain ⟨a1, _, _, _, q1, -⟩ := Cond.exactly_spec (hs _ (lf_x1 226 (by decide)))
  obtain ⟨a2, _, _, _, q2, -⟩ := Cond.exactly_spec (hs _ (lf_x1 231 (by decide)))
  refine ⟨fun i => match i with | 0 => a0 | 1 => a1 | _ => a2, vk_R.of (hts _ (by decide +kernel)) q0, vk_R.of (hts _ (by decide +kernel)) q1, vk_R.of (hts _ (by decide +kernel)) q2, vx_Zqof (hts _ (by decide +kernel)) (hts _ (by decide +kernel)) (hs _ lf_x2) (fun a h => Nat.not_le.mpr h), vx_Zqof (hts _ (by decide +kernel)) (hts _ (by decide +kernel)) (hs _ lf_x3) (fun a h => Nat.not_le.mpr h), fun w hw => vx_ot_at (State.WarmedH.refl s) rfl (zThr_ot w hw) (hts w (zThr_in w hw))⟩
theorem last_30 : True := trivial
