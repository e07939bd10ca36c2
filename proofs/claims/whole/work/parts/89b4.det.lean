/-! the reference's methods that commands use: each has one end (5) -/
theorem d_X7_does (σ : ST) (p0 : Int32) : DT ptI (wp_X7_does σ p0) := by
  show DT ptI (fun Q => wp_X7_does σ p0 Q)
  unfold wp_X7_does
  repeat' first
    | with_reducible exact dt_leafI _ _
    | with_reducible refine dt_if ?_ ?_
    | with_reducible refine dt_all _ ?_
    | with_reducible refine dt_callI (d_X7_cutBars _ _ _ _) (fun _ _ => ?_)
    | with_reducible refine dt_callI (d_X7_cuts _ _ _ _) (fun _ _ => ?_)
    | with_reducible refine dt_callI (d_X7_bars _ _ _ _) (fun _ _ => ?_)
    | with_reducible refine dt_callI (d_X7_number _ _ _ _) (fun _ _ => ?_)
    | with_reducible refine dt_callI (d_X7_uses _ _) (fun _ _ => ?_)
    | with_reducible refine dt_callI (d_X7_is _ _) (fun _ _ => ?_)
    | with_reducible refine dt_callV (d_X7_goes _ _) (fun _ => ?_)
    | with_reducible refine dt_callI (d_X7_addsTray _) (fun _ _ => ?_)
    | with_reducible refine dt_callI (d_X7_closes _) (fun _ _ => ?_)
    | with_reducible refine dt_and ?_
theorem last_89b4 : True := trivial
