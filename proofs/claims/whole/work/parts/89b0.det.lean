/-! the reference's methods that commands use: each has one end -/
def ptV (s : ST) (Q : ST → Prop) : Prop := Q s
def ptI (x : Int32 × ST) (Q : Int32 → ST → Prop) : Prop := Q x.1 x.2
def ptK (x : ST × Int32) (Q : ST → Int32 → Prop) : Prop := Q x.1 x.2
def ptL (x : ST × Int32 × Int32) (Q : ST → Int32 → Int32 → Prop) : Prop := Q x.1 x.2.1 x.2.2
def DT {π γ : Type} (pt : π → γ → Prop) (P : γ → Prop) : Prop := ∀ Q : γ, P Q → ∃ x : π, pt x Q ∧ ∀ Q' : γ, pt x Q' → P Q'
def DT2 (W : (ST → Prop) → (ST → Prop) → Prop) : Prop := ∀ K1 K2 : ST → Prop, W K1 K2 → (∃ s : ST, K1 s ∧ ∀ K1' K2' : ST → Prop, K1' s → W K1' K2') ∨ ∃ s : ST, K2 s ∧ ∀ K1' K2' : ST → Prop, K2' s → W K1' K2'
section DTS
variable {π γ : Type} {pt : π → γ → Prop}
theorem dt_leafV (s : ST) : DT ptV (fun Q => Q s) := fun _ h => ⟨s, h, fun _ h' => h'⟩
theorem dt_leafI (r : Int32) (s : ST) : DT ptI (fun Q => Q r s) := fun _ h => ⟨(r, s), h, fun _ h' => h'⟩
theorem dt_leafK (s : ST) (r : Int32) : DT ptK (fun Q => Q s r) := fun _ h => ⟨(s, r), h, fun _ h' => h'⟩
theorem dt_leafL (s : ST) (r r2 : Int32) : DT ptL (fun Q => Q s r r2) := fun _ h => ⟨(s, r, r2), h, fun _ h' => h'⟩
theorem dt_false : DT pt (fun _ => False) := fun _ h => absurd h (fun q => q)
theorem dt_all {β : Type} (e : β) {P : β → γ → Prop} (h : DT pt (P e)) : DT pt (fun Q => ∀ v : β, v = e → P v Q) := fun Q hq => by
  obtain ⟨x, h1, h2⟩ := h Q (hq e rfl)
  exact ⟨x, h1, fun Q' h' v ev => by rw [ev]; exact h2 Q' h'⟩
theorem dt_and {c : Prop} {P : γ → Prop} (h : DT pt P) : DT pt (fun Q => c ∧ P Q) := fun Q hq => by
  obtain ⟨x, h1, h2⟩ := h Q hq.2
  exact ⟨x, h1, fun Q' h' => ⟨hq.1, h2 Q' h'⟩⟩
theorem dt_if {c : Prop} {P1 P2 : γ → Prop} (h1 : DT pt P1) (h2 : DT pt P2) : DT pt (fun Q => (c → P1 Q) ∧ (¬ c → P2 Q)) := fun Q hq => by
  by_cases hc : c
  · obtain ⟨x, g1, g2⟩ := h1 Q (hq.1 hc)
    exact ⟨x, g1, fun Q' h' => ⟨fun _ => g2 Q' h', fun n => absurd hc n⟩⟩
  · obtain ⟨x, g1, g2⟩ := h2 Q (hq.2 hc)
    exact ⟨x, g1, fun Q' h' => ⟨fun q => absurd q hc, fun _ => g2 Q' h'⟩⟩
theorem dt_callV {W : (ST → Prop) → Prop} {P : ST → γ → Prop} (hW : DT ptV W) (hP : ∀ s, DT pt (P s)) : DT pt (fun Q => W (fun s => P s Q)) := fun Q hq => by
  obtain ⟨x, h1, h2⟩ := hW _ hq
  obtain ⟨y, g1, g2⟩ := hP x Q h1
  exact ⟨y, g1, fun Q' h' => h2 _ (g2 Q' h')⟩
theorem dt_callI {W : (Int32 → ST → Prop) → Prop} {P : Int32 → ST → γ → Prop} (hW : DT ptI W) (hP : ∀ r s, DT pt (P r s)) : DT pt (fun Q => W (fun r s => P r s Q)) := fun Q hq => by
  obtain ⟨x, h1, h2⟩ := hW _ hq
  obtain ⟨y, g1, g2⟩ := hP x.1 x.2 Q h1
  exact ⟨y, g1, fun Q' h' => h2 _ (g2 Q' h')⟩
theorem dt_exV {W : Nat → (ST → Prop) → Prop} {P : ST → γ → Prop} (hW : ∀ n, DT ptV (W n)) (hP : ∀ s, DT pt (P s)) : DT pt (fun Q => ∃ n : Nat, W n (fun s => P s Q)) := fun Q hq => by
  obtain ⟨n, hq⟩ := hq
  obtain ⟨x, h1, h2⟩ := hW n _ hq
  obtain ⟨y, g1, g2⟩ := hP x Q h1
  exact ⟨y, g1, fun Q' h' => ⟨n, h2 _ (g2 Q' h')⟩⟩
theorem dt_exK {W : Nat → (ST → Int32 → Prop) → Prop} {P : ST → Int32 → γ → Prop} (hW : ∀ n, DT ptK (W n)) (hP : ∀ s r, DT pt (P s r)) : DT pt (fun Q => ∃ n : Nat, W n (fun s r => P s r Q)) := fun Q hq => by
  obtain ⟨n, hq⟩ := hq
  obtain ⟨x, h1, h2⟩ := hW n _ hq
  obtain ⟨y, g1, g2⟩ := hP x.1 x.2 Q h1
  exact ⟨y, g1, fun Q' h' => ⟨n, h2 _ (g2 Q' h')⟩⟩
theorem dt_exL {W : Nat → (ST → Int32 → Int32 → Prop) → Prop} {P : ST → Int32 → Int32 → γ → Prop} (hW : ∀ n, DT ptL (W n)) (hP : ∀ s r r2, DT pt (P s r r2)) : DT pt (fun Q => ∃ n : Nat, W n (fun s r r2 => P s r r2 Q)) := fun Q hq => by
  obtain ⟨n, hq⟩ := hq
  obtain ⟨x, h1, h2⟩ := hW n _ hq
  obtain ⟨y, g1, g2⟩ := hP x.1 x.2.1 x.2.2 Q h1
  exact ⟨y, g1, fun Q' h' => ⟨n, h2 _ (g2 Q' h')⟩⟩
theorem dt_ex2 {W : Nat → (ST → Prop) → (ST → Prop) → Prop} {P1 P2 : ST → γ → Prop} (hW : ∀ n, DT2 (W n)) (h1 : ∀ s, DT pt (P1 s)) (h2 : ∀ s, DT pt (P2 s)) : DT pt (fun Q => ∃ n : Nat, W n (fun s => P1 s Q) (fun s => P2 s Q)) := fun Q hq => by
  obtain ⟨n, hq⟩ := hq
  rcases hW n _ _ hq with ⟨x, g1, g2⟩ | ⟨x, g1, g2⟩
  · obtain ⟨y, g3, g4⟩ := h1 x Q g1
    exact ⟨y, g3, fun Q' h' => ⟨n, g2 _ _ (g4 Q' h')⟩⟩
  · obtain ⟨y, g3, g4⟩ := h2 x Q g1
    exact ⟨y, g3, fun Q' h' => ⟨n, g2 _ _ (g4 Q' h')⟩⟩
end DTS
theorem d_X7_in (σ : ST) (p0 : Int32) (p1 : Int32) (p2 : Int32) : DT ptI (wp_X7_in σ p0 p1 p2) := by
  show DT ptI (fun Q => wp_X7_in σ p0 p1 p2 Q)
  unfold wp_X7_in
  repeat' first
    | with_reducible exact dt_leafI _ _
    | with_reducible refine dt_if ?_ ?_
    | with_reducible refine dt_all _ ?_
    | with_reducible refine dt_and ?_
theorem d_wl_X7_saves_51 : ∀ (nn : Nat) (t : ST) (y0 : Int32), DT ptV (fun K => wl_X7_saves_51 K nn t y0) := by
  intro nn
  induction nn with
  | zero => intro t y0; exact dt_false
  | succ nn ih =>
    intro t y0
    show DT ptV (fun K => wb_X7_saves_51 K (wl_X7_saves_51 K nn) t y0)
    unfold wb_X7_saves_51
    repeat' first
      | with_reducible exact ih _ _
      | with_reducible exact dt_leafV _
      | with_reducible refine dt_if ?_ ?_
      | with_reducible refine dt_all _ ?_
      | with_reducible refine dt_and ?_
theorem d_wl_X7_saves_10 : ∀ (nn : Nat) (t : ST) (y0 : Int32), DT ptV (fun K => wl_X7_saves_10 K nn t y0) := by
  intro nn
  induction nn with
  | zero => intro t y0; exact dt_false
  | succ nn ih =>
    intro t y0
    show DT ptV (fun K => wb_X7_saves_10 K (wl_X7_saves_10 K nn) t y0)
    unfold wb_X7_saves_10
    repeat' first
      | with_reducible exact ih _ _
      | with_reducible exact dt_leafV _
      | with_reducible refine dt_if ?_ ?_
      | with_reducible refine dt_all _ ?_
      | with_reducible refine dt_and ?_
theorem d_X7_saves (σ : ST) : DT ptV (wp_X7_saves σ) := by
  show DT ptV (fun Q => wp_X7_saves σ Q)
  unfold wp_X7_saves
  repeat' first
    | with_reducible exact dt_leafV _
    | with_reducible refine dt_if ?_ ?_
    | with_reducible refine dt_all _ ?_
    | with_reducible refine dt_exV (W := fun nn K => wl_X7_saves_10 K nn _ _) (fun nn => d_wl_X7_saves_10 nn _ _) (fun _ => ?_)
    | with_reducible refine dt_exV (W := fun nn K => wl_X7_saves_51 K nn _ _) (fun nn => d_wl_X7_saves_51 nn _ _) (fun _ => ?_)
    | with_reducible refine dt_and ?_
theorem d_X7_number (σ : ST) (p0 : Int32) (p1 : Int32) (p2 : Int32) : DT ptI (wp_X7_number σ p0 p1 p2) := by
  show DT ptI (fun Q => wp_X7_number σ p0 p1 p2 Q)
  unfold wp_X7_number
  repeat' first
    | with_reducible exact dt_leafI _ _
    | with_reducible refine dt_if ?_ ?_
    | with_reducible refine dt_all _ ?_
    | with_reducible refine dt_and ?_
theorem d_X7_of (σ : ST) (p0 : Int32) (p1 : Int32) : DT ptI (wp_X7_of σ p0 p1) := by
  show DT ptI (fun Q => wp_X7_of σ p0 p1 Q)
  unfold wp_X7_of
  repeat' first
    | with_reducible exact dt_leafI _ _
    | with_reducible refine dt_if ?_ ?_
    | with_reducible refine dt_all _ ?_
    | with_reducible refine dt_and ?_
theorem d_X7_widthOf (σ : ST) (p0 : Int32) : DT ptI (wp_X7_widthOf σ p0) := by
  show DT ptI (fun Q => wp_X7_widthOf σ p0 Q)
  unfold wp_X7_widthOf
  repeat' first
    | with_reducible exact dt_leafI _ _
    | with_reducible refine dt_if ?_ ?_
    | with_reducible refine dt_all _ ?_
    | with_reducible refine dt_and ?_
theorem d_X7_heightOf (σ : ST) (p0 : Int32) : DT ptI (wp_X7_heightOf σ p0) := by
  show DT ptI (fun Q => wp_X7_heightOf σ p0 Q)
  unfold wp_X7_heightOf
  repeat' first
    | with_reducible exact dt_leafI _ _
    | with_reducible refine dt_if ?_ ?_
    | with_reducible refine dt_all _ ?_
    | with_reducible refine dt_and ?_
theorem d_X7_areaOf (σ : ST) (p0 : Int32) : DT ptI (wp_X7_areaOf σ p0) := by
  show DT ptI (fun Q => wp_X7_areaOf σ p0 Q)
  unfold wp_X7_areaOf
  repeat' first
    | with_reducible exact dt_leafI _ _
    | with_reducible refine dt_if ?_ ?_
    | with_reducible refine dt_all _ ?_
    | with_reducible refine dt_callI (d_X7_widthOf _ _) (fun _ _ => ?_)
    | with_reducible refine dt_callI (d_X7_heightOf _ _) (fun _ _ => ?_)
    | with_reducible refine dt_and ?_
theorem d_X7_is (σ : ST) (p0 : Int32) : DT ptI (wp_X7_is σ p0) := by
  show DT ptI (fun Q => wp_X7_is σ p0 Q)
  unfold wp_X7_is
  repeat' first
    | with_reducible exact dt_leafI _ _
    | with_reducible refine dt_if ?_ ?_
    | with_reducible refine dt_all _ ?_
    | with_reducible refine dt_callI (d_X7_of _ _ _) (fun _ _ => ?_)
    | with_reducible refine dt_and ?_
theorem d_X7_isNow (σ : ST) (p0 : Int32) : DT ptI (wp_X7_isNow σ p0) := by
  show DT ptI (fun Q => wp_X7_isNow σ p0 Q)
  unfold wp_X7_isNow
  repeat' first
    | with_reducible exact dt_leafI _ _
    | with_reducible refine dt_if ?_ ?_
    | with_reducible refine dt_all _ ?_
    | with_reducible refine dt_callI (d_X7_is _ _) (fun _ _ => ?_)
    | with_reducible refine dt_callI (d_X7_of _ _ _) (fun _ _ => ?_)
    | with_reducible refine dt_and ?_
theorem d_X7_isOn (σ : ST) (p0 : Int32) (p1 : Int32) (p2 : Int32) : DT ptI (wp_X7_isOn σ p0 p1 p2) := by
  show DT ptI (fun Q => wp_X7_isOn σ p0 p1 p2 Q)
  unfold wp_X7_isOn
  repeat' first
    | with_reducible exact dt_leafI _ _
    | with_reducible refine dt_if ?_ ?_
    | with_reducible refine dt_all _ ?_
    | with_reducible refine dt_callI (d_X7_of _ _ _) (fun _ _ => ?_)
    | with_reducible refine dt_and ?_
theorem d_wl_X7_goes_14 (f1_14 : Int32) : ∀ (nn : Nat) (t : ST) (y0 : Int32) (y1 : Int32), DT ptK (fun K => wl_X7_goes_14 K f1_14 nn t y0 y1) := by
  intro nn
  induction nn with
  | zero => intro t y0 y1; exact dt_false
  | succ nn ih =>
    intro t y0 y1
    show DT ptK (fun K => wb_X7_goes_14 K (wl_X7_goes_14 K f1_14 nn) f1_14 t y0 y1)
    unfold wb_X7_goes_14
    repeat' first
      | with_reducible exact ih _ _ _
      | with_reducible exact dt_leafK _ _
      | with_reducible refine dt_if ?_ ?_
      | with_reducible refine dt_all _ ?_
      | with_reducible refine dt_and ?_
theorem d_X7_goes (σ : ST) (p0 : Int32) : DT ptV (wp_X7_goes σ p0) := by
  show DT ptV (fun Q => wp_X7_goes σ p0 Q)
  unfold wp_X7_goes
  repeat' first
    | with_reducible exact dt_leafV _
    | with_reducible refine dt_if ?_ ?_
    | with_reducible refine dt_all _ ?_
    | with_reducible refine dt_callI (d_X7_of _ _ _) (fun _ _ => ?_)
    | with_reducible refine dt_exK (W := fun nn K => wl_X7_goes_14 K _ nn _ _ _) (fun nn => d_wl_X7_goes_14 _ nn _ _ _) (fun _ _ => ?_)
    | with_reducible refine dt_and ?_
theorem d_X7_bars (σ : ST) (p0 : Int32) (p1 : Int32) (p2 : Int32) : DT ptI (wp_X7_bars σ p0 p1 p2) := by
  show DT ptI (fun Q => wp_X7_bars σ p0 p1 p2 Q)
  unfold wp_X7_bars
  repeat' first
    | with_reducible exact dt_leafI _ _
    | with_reducible refine dt_if ?_ ?_
    | with_reducible refine dt_all _ ?_
    | with_reducible refine dt_callI (d_X7_in _ _ _ _) (fun _ _ => ?_)
    | with_reducible refine dt_and ?_
theorem d_X7_tall (σ : ST) (p0 : Int32) (p1 : Int32) : DT ptI (wp_X7_tall σ p0 p1) := by
  show DT ptI (fun Q => wp_X7_tall σ p0 p1 Q)
  unfold wp_X7_tall
  repeat' first
    | with_reducible exact dt_leafI _ _
    | with_reducible refine dt_if ?_ ?_
    | with_reducible refine dt_all _ ?_
    | with_reducible refine dt_and ?_
theorem d_wl_X7_top_5 (f1_5 : Int32) (f2_5 : Int32) : ∀ (nn : Nat) (t : ST) (y0 : Int32) (y1 : Int32), DT ptK (fun K => wl_X7_top_5 K f1_5 f2_5 nn t y0 y1) := by
  intro nn
  induction nn with
  | zero => intro t y0 y1; exact dt_false
  | succ nn ih =>
    intro t y0 y1
    show DT ptK (fun K => wb_X7_top_5 K (wl_X7_top_5 K f1_5 f2_5 nn) f1_5 f2_5 t y0 y1)
    unfold wb_X7_top_5
    repeat' first
      | with_reducible exact ih _ _ _
      | with_reducible exact dt_leafK _ _
      | with_reducible refine dt_if ?_ ?_
      | with_reducible refine dt_all _ ?_
      | with_reducible refine dt_callI (d_X7_tall _ _ _) (fun _ _ => ?_)
      | with_reducible refine dt_and ?_
theorem d_X7_top (σ : ST) (p0 : Int32) (p1 : Int32) : DT ptI (wp_X7_top σ p0 p1) := by
  show DT ptI (fun Q => wp_X7_top σ p0 p1 Q)
  unfold wp_X7_top
  repeat' first
    | with_reducible exact dt_leafI _ _
    | with_reducible refine dt_if ?_ ?_
    | with_reducible refine dt_all _ ?_
    | with_reducible refine dt_exK (W := fun nn K => wl_X7_top_5 K _ _ nn _ _ _) (fun nn => d_wl_X7_top_5 _ _ nn _ _ _) (fun _ _ => ?_)
    | with_reducible refine dt_and ?_
theorem d_wl_X7_covers_2 (f1_2 : Int32) (f2_2 : Int32) : ∀ (nn : Nat) (t : ST) (y0 : Int32), DT ptV (fun K => wl_X7_covers_2 K f1_2 f2_2 nn t y0) := by
  intro nn
  induction nn with
  | zero => intro t y0; exact dt_false
  | succ nn ih =>
    intro t y0
    show DT ptV (fun K => wb_X7_covers_2 K (wl_X7_covers_2 K f1_2 f2_2 nn) f1_2 f2_2 t y0)
    unfold wb_X7_covers_2
    repeat' first
      | with_reducible exact ih _ _
      | with_reducible exact dt_leafV _
      | with_reducible refine dt_if ?_ ?_
      | with_reducible refine dt_all _ ?_
      | with_reducible refine dt_and ?_
theorem d_wl_X7_covers_41 (f1_41 : Int32) (f2_41 : Int32) (f3_41 : Int32) : ∀ (nn : Nat) (t : ST) (y0 : Int32), DT ptV (fun K => wl_X7_covers_41 K f1_41 f2_41 f3_41 nn t y0) := by
  intro nn
  induction nn with
  | zero => intro t y0; exact dt_false
  | succ nn ih =>
    intro t y0
    show DT ptV (fun K => wb_X7_covers_41 K (wl_X7_covers_41 K f1_41 f2_41 f3_41 nn) f1_41 f2_41 f3_41 t y0)
    unfold wb_X7_covers_41
    repeat' first
      | with_reducible exact ih _ _
      | with_reducible exact dt_leafV _
      | with_reducible refine dt_if ?_ ?_
      | with_reducible refine dt_all _ ?_
      | with_reducible refine dt_callI (d_X7_widthOf _ _) (fun _ _ => ?_)
      | with_reducible refine dt_callI (d_X7_isOn _ _ _ _) (fun _ _ => ?_)
      | with_reducible refine dt_callI (d_X7_of _ _ _) (fun _ _ => ?_)
      | with_reducible refine dt_and ?_
theorem d_wl_X7_covers_31 (f1_31 : Int32) (f2_31 : Int32) : ∀ (nn : Nat) (t : ST) (y0 : Int32), DT ptV (fun K => wl_X7_covers_31 K f1_31 f2_31 nn t y0) := by
  intro nn
  induction nn with
  | zero => intro t y0; exact dt_false
  | succ nn ih =>
    intro t y0
    show DT ptV (fun K => wb_X7_covers_31 K (wl_X7_covers_31 K f1_31 f2_31 nn) f1_31 f2_31 t y0)
    unfold wb_X7_covers_31
    repeat' first
      | with_reducible exact ih _ _
      | with_reducible exact dt_leafV _
      | with_reducible refine dt_if ?_ ?_
      | with_reducible refine dt_all _ ?_
      | with_reducible refine dt_exV (W := fun nn K => wl_X7_covers_41 K _ _ _ nn _ _) (fun nn => d_wl_X7_covers_41 _ _ _ nn _ _) (fun _ => ?_)
      | with_reducible refine dt_and ?_
theorem d_X7_covers (σ : ST) (p0 : Int32) (p1 : Int32) : DT ptV (wp_X7_covers σ p0 p1) := by
  show DT ptV (fun Q => wp_X7_covers σ p0 p1 Q)
  unfold wp_X7_covers
  repeat' first
    | with_reducible exact dt_leafV _
    | with_reducible refine dt_if ?_ ?_
    | with_reducible refine dt_all _ ?_
    | with_reducible refine dt_exV (W := fun nn K => wl_X7_covers_2 K _ _ nn _ _) (fun nn => d_wl_X7_covers_2 _ _ nn _ _) (fun _ => ?_)
    | with_reducible refine dt_exV (W := fun nn K => wl_X7_covers_31 K _ _ nn _ _) (fun nn => d_wl_X7_covers_31 _ _ nn _ _) (fun _ => ?_)
    | with_reducible refine dt_and ?_
theorem d_wl_X7_endOf_2 (f1_2 : Int32) : ∀ (nn : Nat) (t : ST) (y0 : Int32), DT ptK (fun K => wl_X7_endOf_2 K f1_2 nn t y0) := by
  intro nn
  induction nn with
  | zero => intro t y0; exact dt_false
  | succ nn ih =>
    intro t y0
    show DT ptK (fun K => wb_X7_endOf_2 K (wl_X7_endOf_2 K f1_2 nn) f1_2 t y0)
    unfold wb_X7_endOf_2
    repeat' first
      | with_reducible exact ih _ _
      | with_reducible exact dt_leafK _ _
      | with_reducible refine dt_if ?_ ?_
      | with_reducible refine dt_all _ ?_
      | with_reducible refine dt_and ?_
theorem d_X7_endOf (σ : ST) (p0 : Int32) : DT ptI (wp_X7_endOf σ p0) := by
  show DT ptI (fun Q => wp_X7_endOf σ p0 Q)
  unfold wp_X7_endOf
  repeat' first
    | with_reducible exact dt_leafI _ _
    | with_reducible refine dt_if ?_ ?_
    | with_reducible refine dt_all _ ?_
    | with_reducible refine dt_exK (W := fun nn K => wl_X7_endOf_2 K _ nn _ _) (fun nn => d_wl_X7_endOf_2 _ nn _ _) (fun _ _ => ?_)
    | with_reducible refine dt_and ?_
theorem d_wl_X7_lettersOn_5 (f1_5 : Int32) (f2_5 : Int32) : ∀ (nn : Nat) (t : ST) (y0 : Int32) (y1 : Int32), DT ptK (fun K => wl_X7_lettersOn_5 K f1_5 f2_5 nn t y0 y1) := by
  intro nn
  induction nn with
  | zero => intro t y0 y1; exact dt_false
  | succ nn ih =>
    intro t y0 y1
    show DT ptK (fun K => wb_X7_lettersOn_5 K (wl_X7_lettersOn_5 K f1_5 f2_5 nn) f1_5 f2_5 t y0 y1)
    unfold wb_X7_lettersOn_5
    repeat' first
      | with_reducible exact ih _ _ _
      | with_reducible exact dt_leafK _ _
      | with_reducible refine dt_if ?_ ?_
      | with_reducible refine dt_all _ ?_
      | with_reducible refine dt_callI (d_X7_isOn _ _ _ _) (fun _ _ => ?_)
      | with_reducible refine dt_and ?_
theorem d_X7_lettersOn (σ : ST) (p0 : Int32) (p1 : Int32) : DT ptI (wp_X7_lettersOn σ p0 p1) := by
  show DT ptI (fun Q => wp_X7_lettersOn σ p0 p1 Q)
  unfold wp_X7_lettersOn
  repeat' first
    | with_reducible exact dt_leafI _ _
    | with_reducible refine dt_if ?_ ?_
    | with_reducible refine dt_all _ ?_
    | with_reducible refine dt_exK (W := fun nn K => wl_X7_lettersOn_5 K _ _ nn _ _ _) (fun nn => d_wl_X7_lettersOn_5 _ _ nn _ _ _) (fun _ _ => ?_)
    | with_reducible refine dt_and ?_
theorem d_wl_X7_latestOn_5 (f1_5 : Int32) (f2_5 : Int32) : ∀ (nn : Nat) (t : ST) (y0 : Int32) (y1 : Int32), DT ptK (fun K => wl_X7_latestOn_5 K f1_5 f2_5 nn t y0 y1) := by
  intro nn
  induction nn with
  | zero => intro t y0 y1; exact dt_false
  | succ nn ih =>
    intro t y0 y1
    show DT ptK (fun K => wb_X7_latestOn_5 K (wl_X7_latestOn_5 K f1_5 f2_5 nn) f1_5 f2_5 t y0 y1)
    unfold wb_X7_latestOn_5
    repeat' first
      | with_reducible exact ih _ _ _
      | with_reducible exact dt_leafK _ _
      | with_reducible refine dt_if ?_ ?_
      | with_reducible refine dt_all _ ?_
      | with_reducible refine dt_callI (d_X7_isOn _ _ _ _) (fun _ _ => ?_)
      | with_reducible refine dt_callI (d_X7_of _ _ _) (fun _ _ => ?_)
      | with_reducible refine dt_and ?_
theorem d_X7_latestOn (σ : ST) (p0 : Int32) (p1 : Int32) : DT ptI (wp_X7_latestOn σ p0 p1) := by
  show DT ptI (fun Q => wp_X7_latestOn σ p0 p1 Q)
  unfold wp_X7_latestOn
  repeat' first
    | with_reducible exact dt_leafI _ _
    | with_reducible refine dt_if ?_ ?_
    | with_reducible refine dt_all _ ?_
    | with_reducible refine dt_exK (W := fun nn K => wl_X7_latestOn_5 K _ _ nn _ _ _) (fun nn => d_wl_X7_latestOn_5 _ _ nn _ _ _) (fun _ _ => ?_)
    | with_reducible refine dt_and ?_
theorem d_wl_X7_isNowOn_5 (f1_5 : Int32) (f2_5 : Int32) : ∀ (nn : Nat) (t : ST) (y0 : Int32) (y1 : Int32), DT ptK (fun K => wl_X7_isNowOn_5 K f1_5 f2_5 nn t y0 y1) := by
  intro nn
  induction nn with
  | zero => intro t y0 y1; exact dt_false
  | succ nn ih =>
    intro t y0 y1
    show DT ptK (fun K => wb_X7_isNowOn_5 K (wl_X7_isNowOn_5 K f1_5 f2_5 nn) f1_5 f2_5 t y0 y1)
    unfold wb_X7_isNowOn_5
    repeat' first
      | with_reducible exact ih _ _ _
      | with_reducible exact dt_leafK _ _
      | with_reducible refine dt_if ?_ ?_
      | with_reducible refine dt_all _ ?_
      | with_reducible refine dt_callI (d_X7_isOn _ _ _ _) (fun _ _ => ?_)
      | with_reducible refine dt_callI (d_X7_isNow _ _) (fun _ _ => ?_)
      | with_reducible refine dt_and ?_
theorem d_X7_isNowOn (σ : ST) (p0 : Int32) (p1 : Int32) : DT ptI (wp_X7_isNowOn σ p0 p1) := by
  show DT ptI (fun Q => wp_X7_isNowOn σ p0 p1 Q)
  unfold wp_X7_isNowOn
  repeat' first
    | with_reducible exact dt_leafI _ _
    | with_reducible refine dt_if ?_ ?_
    | with_reducible refine dt_all _ ?_
    | with_reducible refine dt_exK (W := fun nn K => wl_X7_isNowOn_5 K _ _ nn _ _ _) (fun nn => d_wl_X7_isNowOn_5 _ _ nn _ _ _) (fun _ _ => ?_)
    | with_reducible refine dt_and ?_
theorem d_wl_X7_looksAtGaps_57 (f1_57 : Int32) (f3_57 : Int32) (f4_57 : Int32) (f5_57 : Int32) : ∀ (nn : Nat) (t : ST) (y0 : Int32) (y1 : Int32), DT ptK (fun K => wl_X7_looksAtGaps_57 K f1_57 f3_57 f4_57 f5_57 nn t y0 y1) := by
  intro nn
  induction nn with
  | zero => intro t y0 y1; exact dt_false
  | succ nn ih =>
    intro t y0 y1
    show DT ptK (fun K => wb_X7_looksAtGaps_57 K (wl_X7_looksAtGaps_57 K f1_57 f3_57 f4_57 f5_57 nn) f1_57 f3_57 f4_57 f5_57 t y0 y1)
    unfold wb_X7_looksAtGaps_57
    repeat' first
      | with_reducible exact ih _ _ _
      | with_reducible exact dt_leafK _ _
      | with_reducible refine dt_if ?_ ?_
      | with_reducible refine dt_all _ ?_
      | with_reducible refine dt_callI (d_X7_endOf _ _) (fun _ _ => ?_)
      | with_reducible refine dt_callI (d_X7_widthOf _ _) (fun _ _ => ?_)
      | with_reducible refine dt_and ?_
theorem d_wl_X7_looksAtGaps_18 (f1_18 : Int32) (f3_18 : Int32) : ∀ (nn : Nat) (t : ST) (y0 : Int32) (y1 : Int32), DT ptK (fun K => wl_X7_looksAtGaps_18 K f1_18 f3_18 nn t y0 y1) := by
  intro nn
  induction nn with
  | zero => intro t y0 y1; exact dt_false
  | succ nn ih =>
    intro t y0 y1
    show DT ptK (fun K => wb_X7_looksAtGaps_18 K (wl_X7_looksAtGaps_18 K f1_18 f3_18 nn) f1_18 f3_18 t y0 y1)
    unfold wb_X7_looksAtGaps_18
    repeat' first
      | with_reducible exact ih _ _ _
      | with_reducible exact dt_leafK _ _
      | with_reducible refine dt_if ?_ ?_
      | with_reducible refine dt_all _ ?_
      | with_reducible refine dt_callI (d_X7_tall _ _ _) (fun _ _ => ?_)
      | with_reducible refine dt_callI (d_X7_heightOf _ _) (fun _ _ => ?_)
      | with_reducible refine dt_callV (d_X7_covers _ _ _) (fun _ => ?_)
      | with_reducible refine dt_exK (W := fun nn K => wl_X7_looksAtGaps_57 K _ _ _ _ nn _ _ _) (fun nn => d_wl_X7_looksAtGaps_57 _ _ _ _ nn _ _ _) (fun _ _ => ?_)
      | with_reducible refine dt_and ?_
theorem d_wl_X7_looksAtGaps_5 (f1_5 : Int32) : ∀ (nn : Nat) (t : ST) (y0 : Int32) (y1 : Int32), DT ptV (fun K => wl_X7_looksAtGaps_5 K f1_5 nn t y0 y1) := by
  intro nn
  induction nn with
  | zero => intro t y0 y1; exact dt_false
  | succ nn ih =>
    intro t y0 y1
    show DT ptV (fun K => wb_X7_looksAtGaps_5 K (wl_X7_looksAtGaps_5 K f1_5 nn) f1_5 t y0 y1)
    unfold wb_X7_looksAtGaps_5
    repeat' first
      | with_reducible exact ih _ _ _
      | with_reducible exact dt_leafV _
      | with_reducible refine dt_if ?_ ?_
      | with_reducible refine dt_all _ ?_
      | with_reducible refine dt_exK (W := fun nn K => wl_X7_looksAtGaps_18 K _ _ nn _ _ _) (fun nn => d_wl_X7_looksAtGaps_18 _ _ nn _ _ _) (fun _ _ => ?_)
      | with_reducible refine dt_and ?_
theorem d_X7_looksAtGaps (σ : ST) (p0 : Int32) : DT ptV (wp_X7_looksAtGaps σ p0) := by
  show DT ptV (fun Q => wp_X7_looksAtGaps σ p0 Q)
  unfold wp_X7_looksAtGaps
  repeat' first
    | with_reducible exact dt_leafV _
    | with_reducible refine dt_if ?_ ?_
    | with_reducible refine dt_all _ ?_
    | with_reducible refine dt_exV (W := fun nn K => wl_X7_looksAtGaps_5 K _ nn _ _ _) (fun nn => d_wl_X7_looksAtGaps_5 _ nn _ _ _) (fun _ => ?_)
    | with_reducible refine dt_and ?_
theorem d_wl_X7_looksAtTrays_9 (f1_9 : Int32) : ∀ (nn : Nat) (t : ST) (y0 : Int32), DT ptV (fun K => wl_X7_looksAtTrays_9 K f1_9 nn t y0) := by
  intro nn
  induction nn with
  | zero => intro t y0; exact dt_false
  | succ nn ih =>
    intro t y0
    show DT ptV (fun K => wb_X7_looksAtTrays_9 K (wl_X7_looksAtTrays_9 K f1_9 nn) f1_9 t y0)
    unfold wb_X7_looksAtTrays_9
    repeat' first
      | with_reducible exact ih _ _
      | with_reducible exact dt_leafV _
      | with_reducible refine dt_if ?_ ?_
      | with_reducible refine dt_all _ ?_
      | with_reducible refine dt_callI (d_X7_top _ _ _) (fun _ _ => ?_)
      | with_reducible refine dt_callI (d_X7_heightOf _ _) (fun _ _ => ?_)
      | with_reducible refine dt_and ?_
theorem d_X7_looksAtTrays (σ : ST) (p0 : Int32) : DT ptV (wp_X7_looksAtTrays σ p0) := by
  show DT ptV (fun Q => wp_X7_looksAtTrays σ p0 Q)
  unfold wp_X7_looksAtTrays
  repeat' first
    | with_reducible exact dt_leafV _
    | with_reducible refine dt_if ?_ ?_
    | with_reducible refine dt_all _ ?_
    | with_reducible refine dt_exV (W := fun nn K => wl_X7_looksAtTrays_9 K _ nn _ _) (fun nn => d_wl_X7_looksAtTrays_9 _ nn _ _) (fun _ => ?_)
    | with_reducible refine dt_and ?_
theorem d_wl_X7_looksAtShelves_17 (f1_17 : Int32) (f3_17 : Int32) : ∀ (nn : Nat) (t : ST) (y0 : Int32) (y1 : Int32), DT ptK (fun K => wl_X7_looksAtShelves_17 K f1_17 f3_17 nn t y0 y1) := by
  intro nn
  induction nn with
  | zero => intro t y0 y1; exact dt_false
  | succ nn ih =>
    intro t y0 y1
    show DT ptK (fun K => wb_X7_looksAtShelves_17 K (wl_X7_looksAtShelves_17 K f1_17 f3_17 nn) f1_17 f3_17 t y0 y1)
    unfold wb_X7_looksAtShelves_17
    repeat' first
      | with_reducible exact ih _ _ _
      | with_reducible exact dt_leafK _ _
      | with_reducible refine dt_if ?_ ?_
      | with_reducible refine dt_all _ ?_
      | with_reducible refine dt_callI (d_X7_latestOn _ _ _) (fun _ _ => ?_)
      | with_reducible refine dt_callI (d_X7_tall _ _ _) (fun _ _ => ?_)
      | with_reducible refine dt_callI (d_X7_heightOf _ _) (fun _ _ => ?_)
      | with_reducible refine dt_callI (d_X7_isNowOn _ _ _) (fun _ _ => ?_)
      | with_reducible refine dt_callI (d_X7_lettersOn _ _ _) (fun _ _ => ?_)
      | with_reducible refine dt_and ?_
theorem d_wl_X7_looksAtShelves_4 (f1_4 : Int32) : ∀ (nn : Nat) (t : ST) (y0 : Int32) (y1 : Int32), DT ptV (fun K => wl_X7_looksAtShelves_4 K f1_4 nn t y0 y1) := by
  intro nn
  induction nn with
  | zero => intro t y0 y1; exact dt_false
  | succ nn ih =>
    intro t y0 y1
    show DT ptV (fun K => wb_X7_looksAtShelves_4 K (wl_X7_looksAtShelves_4 K f1_4 nn) f1_4 t y0 y1)
    unfold wb_X7_looksAtShelves_4
    repeat' first
      | with_reducible exact ih _ _ _
      | with_reducible exact dt_leafV _
      | with_reducible refine dt_if ?_ ?_
      | with_reducible refine dt_all _ ?_
      | with_reducible refine dt_exK (W := fun nn K => wl_X7_looksAtShelves_17 K _ _ nn _ _ _) (fun nn => d_wl_X7_looksAtShelves_17 _ _ nn _ _ _) (fun _ _ => ?_)
      | with_reducible refine dt_and ?_
theorem d_X7_looksAtShelves (σ : ST) (p0 : Int32) : DT ptV (wp_X7_looksAtShelves σ p0) := by
  show DT ptV (fun Q => wp_X7_looksAtShelves σ p0 Q)
  unfold wp_X7_looksAtShelves
  repeat' first
    | with_reducible exact dt_leafV _
    | with_reducible refine dt_if ?_ ?_
    | with_reducible refine dt_all _ ?_
    | with_reducible refine dt_exV (W := fun nn K => wl_X7_looksAtShelves_4 K _ nn _ _ _) (fun nn => d_wl_X7_looksAtShelves_4 _ nn _ _ _) (fun _ => ?_)
    | with_reducible refine dt_and ?_
theorem d_wl_X7_looksAtStreet_19 : ∀ (nn : Nat) (t : ST) (y0 : Int32), DT ptV (fun K => wl_X7_looksAtStreet_19 K nn t y0) := by
  intro nn
  induction nn with
  | zero => intro t y0; exact dt_false
  | succ nn ih =>
    intro t y0
    show DT ptV (fun K => wb_X7_looksAtStreet_19 K (wl_X7_looksAtStreet_19 K nn) t y0)
    unfold wb_X7_looksAtStreet_19
    repeat' first
      | with_reducible exact ih _ _
      | with_reducible exact dt_leafV _
      | with_reducible refine dt_if ?_ ?_
      | with_reducible refine dt_all _ ?_
      | with_reducible refine dt_callI (d_X7_isNow _ _) (fun _ _ => ?_)
      | with_reducible refine dt_callI (d_X7_of _ _ _) (fun _ _ => ?_)
      | with_reducible refine dt_and ?_
theorem d_X7_looksAtStreet (σ : ST) : DT ptV (wp_X7_looksAtStreet σ) := by
  show DT ptV (fun Q => wp_X7_looksAtStreet σ Q)
  unfold wp_X7_looksAtStreet
  repeat' first
    | with_reducible exact dt_leafV _
    | with_reducible refine dt_if ?_ ?_
    | with_reducible refine dt_all _ ?_
    | with_reducible refine dt_exV (W := fun nn K => wl_X7_looksAtStreet_19 K nn _ _) (fun nn => d_wl_X7_looksAtStreet_19 nn _ _) (fun _ => ?_)
    | with_reducible refine dt_and ?_
theorem last_89b0 : True := trivial
