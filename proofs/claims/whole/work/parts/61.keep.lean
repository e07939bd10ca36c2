/-! what a push leaves -/
theorem Pushed.keep {σ σ' : ST} {f m : Nat} (hp : Pushed σ σ' f m) : (∀ r, r < 10 ∨ 50 ≤ r → σ'.1 r = σ.1 r) ∧ ∀ c, c < 8 ∨ 42 ≤ c → σ'.2 c = σ.2 c := by
  obtain ⟨s, hc, p1, p2, -, -⟩ := hp
  exact ⟨fun r hr => (p1 r).trans (hc.2.2.1 r (fun j hj => by omega)), fun c hc9 => (p2 c (by omega) (by omega)).trans (hc.2.2.2 c (fun j hj => by omega))⟩
theorem Pushed.keepR {σ σ' : ST} {f m : Nat} {w : Wd} {l : List Nat} (hp : Pushed σ σ' f m) (hR : RC σ.1 σ.2 w l) : RC σ'.1 σ'.2 w l := RC_congr hR (fun j hj => hp.keep.1 j (by omega)) (fun j hj => hp.keep.2 j (by omega))
theorem TX_save {σ σ' μ μ' : ST} {f m : Nat} (hp : Pushed σ σ' f m) (hs : Saved μ μ' m) (h : TX σ μ) : TX σ' μ' := by
  obtain ⟨k, b1, b2, b3, b4⟩ := h
  exact ⟨k, b1, (hp.keep.2 42 (by decide)).trans b2, (hs.2.1 8 (by decide)).trans b3, fun i hi => by rw [hs.1 3 (by decide), hp.keep.1 50 (by decide)]; exact b4 i hi⟩
theorem last_61 : True := trivial
