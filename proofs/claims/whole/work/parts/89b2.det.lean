/-! the reference's methods that commands use: each has one end (3) -/
theorem d_wl_X7_cuts_37 (f1_37 : Int32) (f2_37 : Int32) (f3_37 : Int32) : ∀ (nn : Nat) (t : ST) (y0 : Int32) (y1 : Int32), DT ptK (fun K => wl_X7_cuts_37 K f1_37 f2_37 f3_37 nn t y0 y1) := by
  intro nn
  induction nn with
  | zero => intro t y0 y1; exact dt_false
  | succ nn ih =>
    intro t y0 y1
    show DT ptK (fun K => wb_X7_cuts_37 K (wl_X7_cuts_37 K f1_37 f2_37 f3_37 nn) f1_37 f2_37 f3_37 t y0 y1)
    unfold wb_X7_cuts_37
    repeat' first
      | with_reducible exact ih _ _ _
      | with_reducible exact dt_leafK _ _
      | with_reducible refine dt_if ?_ ?_
      | with_reducible refine dt_all _ ?_
      | with_reducible refine dt_callI (d_X7_is _ _) (fun _ _ => ?_)
      | with_reducible refine dt_callV (d_X7_goes _ _) (fun _ => ?_)
      | with_reducible refine dt_and ?_
theorem d_X7_cuts (σ : ST) (p0 : Int32) (p1 : Int32) (p2 : Int32) : DT ptI (wp_X7_cuts σ p0 p1 p2) := by
  show DT ptI (fun Q => wp_X7_cuts σ p0 p1 p2 Q)
  unfold wp_X7_cuts
  repeat' first
    | with_reducible exact dt_leafI _ _
    | with_reducible refine dt_if ?_ ?_
    | with_reducible refine dt_all _ ?_
    | with_reducible refine dt_exK (W := fun nn K => wl_X7_cuts_37 K _ _ _ nn _ _ _) (fun nn => d_wl_X7_cuts_37 _ _ _ nn _ _ _) (fun _ _ => ?_)
    | with_reducible refine dt_and ?_
theorem d_X7_cutBars (σ : ST) (p0 : Int32) (p1 : Int32) (p2 : Int32) : DT ptI (wp_X7_cutBars σ p0 p1 p2) := by
  show DT ptI (fun Q => wp_X7_cutBars σ p0 p1 p2 Q)
  unfold wp_X7_cutBars
  repeat' first
    | with_reducible exact dt_leafI _ _
    | with_reducible refine dt_if ?_ ?_
    | with_reducible refine dt_all _ ?_
    | with_reducible refine dt_callI (d_X7_in _ _ _ _) (fun _ _ => ?_)
    | with_reducible refine dt_and ?_
theorem d_X7_addsTray (σ : ST) : DT ptI (wp_X7_addsTray σ) := by
  show DT ptI (fun Q => wp_X7_addsTray σ Q)
  unfold wp_X7_addsTray
  repeat' first
    | with_reducible exact dt_leafI _ _
    | with_reducible refine dt_if ?_ ?_
    | with_reducible refine dt_all _ ?_
    | with_reducible refine dt_and ?_
theorem d_wl_X7_closes_53 (f1_53 : Int32) (f2_53 : Int32) (f3_53 : Int32) (f4_53 : Int32) (f5_53 : Int32) : ∀ (nn : Nat) (t : ST) (y0 : Int32), DT ptV (fun K => wl_X7_closes_53 K f1_53 f2_53 f3_53 f4_53 f5_53 nn t y0) := by
  intro nn
  induction nn with
  | zero => intro t y0; exact dt_false
  | succ nn ih =>
    intro t y0
    show DT ptV (fun K => wb_X7_closes_53 K (wl_X7_closes_53 K f1_53 f2_53 f3_53 f4_53 f5_53 nn) f1_53 f2_53 f3_53 f4_53 f5_53 t y0)
    unfold wb_X7_closes_53
    repeat' first
      | with_reducible exact ih _ _
      | with_reducible exact dt_leafV _
      | with_reducible refine dt_if ?_ ?_
      | with_reducible refine dt_all _ ?_
      | with_reducible refine dt_callI (d_X7_isOn _ _ _ _) (fun _ _ => ?_)
      | with_reducible refine dt_callI (d_X7_of _ _ _) (fun _ _ => ?_)
      | with_reducible refine dt_and ?_
theorem d_wl_X7_closes_19 (f2_19 : Int32) : ∀ (nn : Nat) (t : ST) (y0 : Int32) (y1 : Int32) (y2 : Int32), DT ptL (fun K => wl_X7_closes_19 K f2_19 nn t y0 y1 y2) := by
  intro nn
  induction nn with
  | zero => intro t y0 y1 y2; exact dt_false
  | succ nn ih =>
    intro t y0 y1 y2
    show DT ptL (fun K => wb_X7_closes_19 K (wl_X7_closes_19 K f2_19 nn) f2_19 t y0 y1 y2)
    unfold wb_X7_closes_19
    repeat' first
      | with_reducible exact ih _ _ _ _
      | with_reducible exact dt_leafL _ _ _
      | with_reducible refine dt_if ?_ ?_
      | with_reducible refine dt_all _ ?_
      | with_reducible refine dt_callI (d_X7_lettersOn _ _ _) (fun _ _ => ?_)
      | with_reducible refine dt_exV (W := fun nn K => wl_X7_closes_53 K _ _ _ _ _ nn _ _) (fun nn => d_wl_X7_closes_53 _ _ _ _ _ nn _ _) (fun _ => ?_)
      | with_reducible refine dt_callI (d_X7_tall _ _ _) (fun _ _ => ?_)
      | with_reducible refine dt_and ?_
theorem d_wl_X7_closes_4 : ∀ (nn : Nat) (t : ST) (y0 : Int32) (y1 : Int32), DT ptK (fun K => wl_X7_closes_4 K nn t y0 y1) := by
  intro nn
  induction nn with
  | zero => intro t y0 y1; exact dt_false
  | succ nn ih =>
    intro t y0 y1
    show DT ptK (fun K => wb_X7_closes_4 K (wl_X7_closes_4 K nn) t y0 y1)
    unfold wb_X7_closes_4
    repeat' first
      | with_reducible exact ih _ _ _
      | with_reducible exact dt_leafK _ _
      | with_reducible refine dt_if ?_ ?_
      | with_reducible refine dt_all _ ?_
      | with_reducible refine dt_exL (W := fun nn K => wl_X7_closes_19 K _ nn _ _ _ _) (fun nn => d_wl_X7_closes_19 _ nn _ _ _ _) (fun _ _ _ => ?_)
      | with_reducible refine dt_and ?_
theorem d_X7_closes (σ : ST) : DT ptI (wp_X7_closes σ) := by
  show DT ptI (fun Q => wp_X7_closes σ Q)
  unfold wp_X7_closes
  repeat' first
    | with_reducible exact dt_leafI _ _
    | with_reducible refine dt_if ?_ ?_
    | with_reducible refine dt_all _ ?_
    | with_reducible refine dt_exK (W := fun nn K => wl_X7_closes_4 K nn _ _ _) (fun nn => d_wl_X7_closes_4 nn _ _ _) (fun _ _ => ?_)
    | with_reducible refine dt_and ?_
theorem last_89b2 : True := trivial
