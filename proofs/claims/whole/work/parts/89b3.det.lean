/-! the reference's methods that commands use: each has one end (4) -/
theorem d_X7_look (σ : ST) : DT ptI (wp_X7_look σ) := by
  show DT ptI (fun Q => wp_X7_look σ Q)
  unfold wp_X7_look
  repeat' first
    | with_reducible exact dt_leafI _ _
    | with_reducible refine dt_if ?_ ?_
    | with_reducible refine dt_all _ ?_
    | with_reducible refine dt_and ?_
theorem d_wl_X7_skips_2 : ∀ (nn : Nat) (t : ST) (y0 : Int32), DT ptK (fun K => wl_X7_skips_2 K nn t y0) := by
  intro nn
  induction nn with
  | zero => intro t y0; exact dt_false
  | succ nn ih =>
    intro t y0
    show DT ptK (fun K => wb_X7_skips_2 K (wl_X7_skips_2 K nn) t y0)
    unfold wb_X7_skips_2
    repeat' first
      | with_reducible exact ih _ _
      | with_reducible exact dt_leafK _ _
      | with_reducible refine dt_if ?_ ?_
      | with_reducible refine dt_all _ ?_
      | with_reducible refine dt_callI (d_X7_look _) (fun _ _ => ?_)
      | with_reducible refine dt_and ?_
theorem d_X7_skips (σ : ST) : DT ptI (wp_X7_skips σ) := by
  show DT ptI (fun Q => wp_X7_skips σ Q)
  unfold wp_X7_skips
  repeat' first
    | with_reducible exact dt_leafI _ _
    | with_reducible refine dt_if ?_ ?_
    | with_reducible refine dt_all _ ?_
    | with_reducible refine dt_exK (W := fun nn K => wl_X7_skips_2 K nn _ _) (fun nn => d_wl_X7_skips_2 nn _ _) (fun _ _ => ?_)
    | with_reducible refine dt_and ?_
theorem d_wl_X7_readsWord_4 : ∀ (nn : Nat) (t : ST) (y0 : Int32) (y1 : Int32), DT ptL (fun K => wl_X7_readsWord_4 K nn t y0 y1) := by
  intro nn
  induction nn with
  | zero => intro t y0 y1; exact dt_false
  | succ nn ih =>
    intro t y0 y1
    show DT ptL (fun K => wb_X7_readsWord_4 K (wl_X7_readsWord_4 K nn) t y0 y1)
    unfold wb_X7_readsWord_4
    repeat' first
      | with_reducible exact ih _ _ _
      | with_reducible exact dt_leafL _ _ _
      | with_reducible refine dt_if ?_ ?_
      | with_reducible refine dt_all _ ?_
      | with_reducible refine dt_callI (d_X7_look _) (fun _ _ => ?_)
      | with_reducible refine dt_callI (d_X7_in _ _ _ _) (fun _ _ => ?_)
      | with_reducible refine dt_and ?_
theorem d_X7_readsWord (σ : ST) : DT ptI (wp_X7_readsWord σ) := by
  show DT ptI (fun Q => wp_X7_readsWord σ Q)
  unfold wp_X7_readsWord
  repeat' first
    | with_reducible exact dt_leafI _ _
    | with_reducible refine dt_if ?_ ?_
    | with_reducible refine dt_all _ ?_
    | with_reducible refine dt_exL (W := fun nn K => wl_X7_readsWord_4 K nn _ _ _) (fun nn => d_wl_X7_readsWord_4 nn _ _ _) (fun _ _ _ => ?_)
    | with_reducible refine dt_and ?_
theorem d_X7_wordOf (σ : ST) (p0 : Int32) (p1 : Int32) (p2 : Int32) (p3 : Int32) (p4 : Int32) : DT ptI (wp_X7_wordOf σ p0 p1 p2 p3 p4) := by
  show DT ptI (fun Q => wp_X7_wordOf σ p0 p1 p2 p3 p4 Q)
  unfold wp_X7_wordOf
  repeat' first
    | with_reducible exact dt_leafI _ _
    | with_reducible refine dt_if ?_ ?_
    | with_reducible refine dt_all _ ?_
    | with_reducible refine dt_and ?_
theorem d_X7_kindOf (σ : ST) (p0 : Int32) : DT ptI (wp_X7_kindOf σ p0) := by
  show DT ptI (fun Q => wp_X7_kindOf σ p0 Q)
  unfold wp_X7_kindOf
  repeat' first
    | with_reducible exact dt_leafI _ _
    | with_reducible refine dt_if ?_ ?_
    | with_reducible refine dt_all _ ?_
    | with_reducible refine dt_callI (d_X7_wordOf _ _ _ _ _ _) (fun _ _ => ?_)
    | with_reducible refine dt_and ?_
theorem d_wl_X7_readsNumber_27 (f1_27 : Int32) : ∀ (nn : Nat) (t : ST) (y0 : Int32) (y1 : Int32), DT ptK (fun K => wl_X7_readsNumber_27 K f1_27 nn t y0 y1) := by
  intro nn
  induction nn with
  | zero => intro t y0 y1; exact dt_false
  | succ nn ih =>
    intro t y0 y1
    show DT ptK (fun K => wb_X7_readsNumber_27 K (wl_X7_readsNumber_27 K f1_27 nn) f1_27 t y0 y1)
    unfold wb_X7_readsNumber_27
    repeat' first
      | with_reducible exact ih _ _ _
      | with_reducible exact dt_leafK _ _
      | with_reducible refine dt_if ?_ ?_
      | with_reducible refine dt_all _ ?_
      | with_reducible refine dt_callI (d_X7_look _) (fun _ _ => ?_)
      | with_reducible refine dt_callI (d_X7_in _ _ _ _) (fun _ _ => ?_)
      | with_reducible refine dt_and ?_
theorem d_X7_readsNumber (σ : ST) (p0 : Int32) : DT ptI (wp_X7_readsNumber σ p0) := by
  show DT ptI (fun Q => wp_X7_readsNumber σ p0 Q)
  unfold wp_X7_readsNumber
  repeat' first
    | with_reducible exact dt_leafI _ _
    | with_reducible refine dt_if ?_ ?_
    | with_reducible refine dt_all _ ?_
    | with_reducible refine dt_callI (d_X7_skips _) (fun _ _ => ?_)
    | with_reducible refine dt_callI (d_X7_look _) (fun _ _ => ?_)
    | with_reducible refine dt_callI (d_X7_in _ _ _ _) (fun _ _ => ?_)
    | with_reducible refine dt_exK (W := fun nn K => wl_X7_readsNumber_27 K _ nn _ _ _) (fun nn => d_wl_X7_readsNumber_27 _ nn _ _ _) (fun _ _ => ?_)
    | with_reducible refine dt_and ?_
theorem d_wl_X7_readsCommand_38 (f : Int32) : ∀ (nn : Nat) (t : ST) (y : Int32), DT2 (fun K1 K2 => wl_X7_readsCommand_38 K1 K2 f nn t y) := by
  intro nn
  induction nn with
  | zero => intro t y K1 K2 h; exact absurd h (fun q => q)
  | succ nn ih =>
    intro t y K1 K2 h
    have h : wb_X7_readsCommand_38 K1 K2 (wl_X7_readsCommand_38 K1 K2 f nn) f t y := h
    unfold wb_X7_readsCommand_38 at h
    by_cases c1 : jI 4 ≤ y
    · refine Or.inr ⟨t, h.1 c1, fun K1' K2' h' => ?_⟩
      show wb_X7_readsCommand_38 K1' K2' _ f t y
      unfold wb_X7_readsCommand_38
      exact qt c1 h'
    · have h := h.2 c1
      by_cases c2 : jI 4 ≤ f
      · refine Or.inr ⟨t, h.1 c2, fun K1' K2' h' => ?_⟩
        show wb_X7_readsCommand_38 K1' K2' _ f t y
        unfold wb_X7_readsCommand_38
        exact qf c1 (qt c2 h')
      · have h := h.2 c2
        obtain ⟨⟨r, s⟩, h1, h2⟩ := d_X7_readsNumber t y _ h
        by_cases c3 : r = jI 0
        · refine Or.inl ⟨s, h1.1 c3, fun K1' K2' h' => ?_⟩
          show wb_X7_readsCommand_38 K1' K2' _ f t y
          unfold wb_X7_readsCommand_38
          exact qf c1 (qf c2 (h2 _ (qt c3 h')))
        · have h1 := h1.2 c3 _ rfl
          rcases ih s _ K1 K2 h1 with ⟨x, g1, g2⟩ | ⟨x, g1, g2⟩
          · refine Or.inl ⟨x, g1, fun K1' K2' h' => ?_⟩
            show wb_X7_readsCommand_38 K1' K2' _ f t y
            unfold wb_X7_readsCommand_38
            exact qf c1 (qf c2 (h2 _ (qf c3 (al (g2 K1' K2' h')))))
          · refine Or.inr ⟨x, g1, fun K1' K2' h' => ?_⟩
            show wb_X7_readsCommand_38 K1' K2' _ f t y
            unfold wb_X7_readsCommand_38
            exact qf c1 (qf c2 (h2 _ (qf c3 (al (g2 K1' K2' h')))))
theorem d_X7_readsCommand (σ : ST) : DT ptI (wp_X7_readsCommand σ) := by
  show DT ptI (fun Q => wp_X7_readsCommand σ Q)
  unfold wp_X7_readsCommand
  repeat' first
    | with_reducible exact dt_leafI _ _
    | with_reducible refine dt_if ?_ ?_
    | with_reducible refine dt_all _ ?_
    | with_reducible refine dt_callI (d_X7_readsWord _) (fun _ _ => ?_)
    | with_reducible refine dt_callI (d_X7_kindOf _ _) (fun _ _ => ?_)
    | with_reducible refine dt_ex2 (W := fun nn K1 K2 => wl_X7_readsCommand_38 K1 K2 _ nn _ _) (fun nn => d_wl_X7_readsCommand_38 _ nn _ _) (fun _ => ?_) (fun _ => ?_)
    | with_reducible refine dt_callI (d_X7_skips _) (fun _ _ => ?_)
    | with_reducible refine dt_callI (d_X7_look _) (fun _ _ => ?_)
    | with_reducible refine dt_and ?_
theorem d_wl_X7_reads_17 : ∀ (nn : Nat) (t : ST) (y0 : Int32), DT ptK (fun K => wl_X7_reads_17 K nn t y0) := by
  intro nn
  induction nn with
  | zero => intro t y0; exact dt_false
  | succ nn ih =>
    intro t y0
    show DT ptK (fun K => wb_X7_reads_17 K (wl_X7_reads_17 K nn) t y0)
    unfold wb_X7_reads_17
    repeat' first
      | with_reducible exact ih _ _
      | with_reducible exact dt_leafK _ _
      | with_reducible refine dt_if ?_ ?_
      | with_reducible refine dt_all _ ?_
      | with_reducible refine dt_callI (d_X7_readsCommand _) (fun _ _ => ?_)
      | with_reducible refine dt_callI (d_X7_skips _) (fun _ _ => ?_)
      | with_reducible refine dt_and ?_
theorem d_X7_reads (σ : ST) : DT ptI (wp_X7_reads σ) := by
  show DT ptI (fun Q => wp_X7_reads σ Q)
  unfold wp_X7_reads
  repeat' first
    | with_reducible exact dt_leafI _ _
    | with_reducible refine dt_if ?_ ?_
    | with_reducible refine dt_all _ ?_
    | with_reducible refine dt_callI (d_X7_skips _) (fun _ _ => ?_)
    | with_reducible refine dt_exK (W := fun nn K => wl_X7_reads_17 K nn _ _) (fun nn => d_wl_X7_reads_17 nn _ _) (fun _ _ => ?_)
    | with_reducible refine dt_and ?_
theorem last_89b3 : True := trivial
