/-! both sides have saved -/
theorem RC_pt {r r' : Nat → Nat → Int32} {c c' : Nat → Int32} {w : Wd} {l : List Nat} (h : RC r c w l) (hr : ∀ j p : Nat, j < 10 → p < zlen j → r' j p = r j p) (hc : ∀ j, j < 8 → c' j = c j) : RC r' c' w l := by
  have hlen := h.2.2.1.len
  obtain ⟨⟨a1, a2, a3⟩, hb, ⟨l1, l2, l3, l4⟩, ⟨c0, c1, c2, c3, c4, c5, c6, c7⟩⟩ := h
  refine ⟨⟨fun s hs => (hr 0 s (by decide) hs).trans (a1 s hs), fun s hs => (hr 1 s (by decide) hs).trans (a2 s hs), fun t s ht hs => (hr 2 (24 * t + s) (by decide) (by show 24 * t + s < 72; omega)).trans (a3 t s ht hs)⟩, fun k hk => ?_, ⟨fun i k hi => ?_, l2, l3, l4⟩, ⟨(hc 0 (by decide)).trans c0, (hc 1 (by decide)).trans c1, (hc 2 (by decide)).trans c2, (hc 3 (by decide)).trans c3, (hc 4 (by decide)).trans c4, (hc 5 (by decide)).trans c5, (hc 6 (by decide)).trans c6, (hc 7 (by decide)).trans c7⟩⟩
  · obtain ⟨b1, b2, b3⟩ := hb k hk
    rw [hr 3 k (by decide) hk, hr 4 k (by decide) hk, hr 5 k (by decide) hk, hr 6 k (by decide) hk, hr 7 k (by decide) hk, hr 8 k (by decide) hk]
    exact ⟨b1, b2, b3⟩
  · have := (List.getElem?_eq_some_iff.mp hi).1
    rw [hr 9 i (by decide) (by show i < 144; omega)]
    exact l1 i k hi
theorem zlen_q (q j : Nat) (hq : q < 5) (hj : j < 10) : zlen (10 * q + j) = zlen j := by
  have h := zlen_st 0 q j (by decide) hq hj
  rw [show 10 * 0 + j = j by omega] at h
  exact h
theorem UN_save {n : Nat} {σ μ σ' μ' : ST} {f m : Nat} {l : List Nat} (hW : WF (μ.1 0)) (hcl : 0 ≤ gw (μ.1 0) 2 ∧ gw (μ.1 0) 2 ≤ 40 * n) (hR : RK σ (μ.1 0) l) (hf : f < 4) (hm : m ≤ 4) (hu : ∀ i : Nat, i < m → WF (fun j => μ.1 1 (983 * i + j)) ∧ (0 ≤ gw (fun j => μ.1 1 (983 * i + j)) 2 ∧ gw (fun j => μ.1 1 (983 * i + j)) 2 ≤ 40 * n) ∧ ∃ l : List Nat, RC (fun r => σ.1 (10 * ((f + i) % 4 + 1) + r)) (fun c => σ.2 (8 * ((f + i) % 4 + 1) + c)) (fun j => μ.1 1 (983 * i + j)) l) (hp : Pushed σ σ' f m) (hs : Saved μ μ' m) : UN n σ' μ' := by
  obtain ⟨s, hc, p1, p2, p3, p4⟩ := hp
  obtain ⟨q1, q2, q3, q4, q5⟩ := hs
  refine ⟨if m < 4 then f else (f + 1) % 4, min (m + 1) 4, by split <;> omega, by omega, p3, p4, q3, fun i hi => ?_⟩
  by_cases h : i < min m 3
  · obtain ⟨u1, u2, l', u3⟩ := hu (i + (m - min m 3)) (by omega)
    have e : eqW (fun j => μ.1 1 (983 * (i + (m - min m 3)) + j)) (fun j => μ'.1 1 (983 * i + j)) := fun j hj => q4 i j h hj
    have eb : ((if m < 4 then f else (f + 1) % 4) + i) % 4 = (f + (i + (m - min m 3))) % 4 := by split <;> omega
    rw [eb]
    refine ⟨WF.congr e u1, by rw [e.g (by decide)]; exact u2, l', RC.congrW e u1 (RC_congr u3 (fun j hj => ?_) (fun j hj => ?_))⟩
    · rw [p1]
      exact hc.2.2.1 _ (fun x hx => by omega)
    · rw [p2 _ (by omega) (by omega)]
      exact hc.2.2.2 _ (fun x hx => by omega)
  · have ei : i = min m 3 := by omega
    subst ei
    have e : eqW (μ.1 0) (fun j => μ'.1 1 (983 * min m 3 + j)) := fun j hj => q5 j hj
    have eb : ((if m < 4 then f else (f + 1) % 4) + min m 3) % 4 = (f + m) % 4 := by split <;> omega
    rw [eb]
    refine ⟨WF.congr e hW, by rw [e.g (by decide)]; exact hcl, l, RC.congrW e hW (RC_pt hR (fun j p hj hp => ?_) (fun j hj => ?_))⟩
    · rw [p1]
      have := hc.1 j p hj (by rw [zlen_q _ _ (by omega) hj]; exact hp)
      rw [this]
      exact congrArg (fun x => σ.1 x p) (by omega)
    · rw [p2 _ (by omega) (by omega)]
      rw [hc.2.1 j hj]
      exact congrArg σ.2 (by omega)
theorem last_60 : True := trivial
