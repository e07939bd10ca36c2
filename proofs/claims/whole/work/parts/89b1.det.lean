/-! the reference's methods that commands use: each has one end (2) -/
theorem d_X7_looks (σ : ST) (p0 : Int32) : DT ptV (wp_X7_looks σ p0) := by
  show DT ptV (fun Q => wp_X7_looks σ p0 Q)
  unfold wp_X7_looks
  repeat' first
    | with_reducible exact dt_leafV _
    | with_reducible refine dt_if ?_ ?_
    | with_reducible refine dt_all _ ?_
    | with_reducible refine dt_callI (d_X7_is _ _) (fun _ _ => ?_)
    | with_reducible refine dt_callV (d_X7_looksAtGaps _ _) (fun _ => ?_)
    | with_reducible refine dt_callV (d_X7_looksAtTrays _ _) (fun _ => ?_)
    | with_reducible refine dt_callV (d_X7_looksAtShelves _ _) (fun _ => ?_)
    | with_reducible refine dt_callV (d_X7_looksAtStreet _) (fun _ => ?_)
    | with_reducible refine dt_and ?_
theorem d_X7_inks (σ : ST) (p0 : Int32) : DT ptI (wp_X7_inks σ p0) := by
  show DT ptI (fun Q => wp_X7_inks σ p0 Q)
  unfold wp_X7_inks
  repeat' first
    | with_reducible exact dt_leafI _ _
    | with_reducible refine dt_if ?_ ?_
    | with_reducible refine dt_all _ ?_
    | with_reducible refine dt_callI (d_X7_areaOf _ _) (fun _ _ => ?_)
    | with_reducible refine dt_callI (d_X7_is _ _) (fun _ _ => ?_)
    | with_reducible refine dt_and ?_
theorem d_wl_X7_lays_116 (f1_116 : Int32) : ∀ (nn : Nat) (t : ST) (y0 : Int32), DT ptV (fun K => wl_X7_lays_116 K f1_116 nn t y0) := by
  intro nn
  induction nn with
  | zero => intro t y0; exact dt_false
  | succ nn ih =>
    intro t y0
    show DT ptV (fun K => wb_X7_lays_116 K (wl_X7_lays_116 K f1_116 nn) f1_116 t y0)
    unfold wb_X7_lays_116
    repeat' first
      | with_reducible exact ih _ _
      | with_reducible exact dt_leafV _
      | with_reducible refine dt_if ?_ ?_
      | with_reducible refine dt_all _ ?_
      | with_reducible refine dt_callI (d_X7_isOn _ _ _ _) (fun _ _ => ?_)
      | with_reducible refine dt_callV (d_X7_goes _ _) (fun _ => ?_)
      | with_reducible refine dt_and ?_
theorem d_X7_lays (σ : ST) (p0 : Int32) : DT ptV (wp_X7_lays σ p0) := by
  show DT ptV (fun Q => wp_X7_lays σ p0 Q)
  unfold wp_X7_lays
  repeat' first
    | with_reducible exact dt_leafV _
    | with_reducible refine dt_if ?_ ?_
    | with_reducible refine dt_all _ ?_
    | with_reducible refine dt_callV (d_X7_goes _ _) (fun _ => ?_)
    | with_reducible refine dt_callI (d_X7_heightOf _ _) (fun _ _ => ?_)
    | with_reducible refine dt_exV (W := fun nn K => wl_X7_lays_116 K _ nn _ _) (fun nn => d_wl_X7_lays_116 _ nn _ _) (fun _ => ?_)
    | with_reducible refine dt_and ?_
theorem d_X7_uses (σ : ST) (p0 : Int32) : DT ptI (wp_X7_uses σ p0) := by
  show DT ptI (fun Q => wp_X7_uses σ p0 Q)
  unfold wp_X7_uses
  repeat' first
    | with_reducible exact dt_leafI _ _
    | with_reducible refine dt_if ?_ ?_
    | with_reducible refine dt_all _ ?_
    | with_reducible refine dt_callV (d_X7_looks _ _) (fun _ => ?_)
    | with_reducible refine dt_callI (d_X7_inks _ _) (fun _ _ => ?_)
    | with_reducible refine dt_callV (d_X7_lays _ _) (fun _ => ?_)
    | with_reducible refine dt_and ?_
theorem last_89b1 : True := trivial
