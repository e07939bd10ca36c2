/-! the invariant of the law's loop; the first cases -/
theorem zsp_at {σ : ST} {k : Nat} {v : Int32} : (zsp σ k v).2 k = v := if_pos rfl
theorem zsp_nq {σ : ST} {k j : Nat} {v : Int32} (h : j ≠ k) : (zsp σ k v).2 j = σ.2 j := if_neg h
def UN (n : Nat) (σ μ : ST) : Prop := ∃ f m : Nat, f < 4 ∧ m ≤ 4 ∧ σ.2 40 = jI f ∧ σ.2 41 = jI m ∧ μ.2 0 = jI m ∧ ∀ i : Nat, i < m → WF (fun j => μ.1 1 (983 * i + j)) ∧ (0 ≤ gw (fun j => μ.1 1 (983 * i + j)) 2 ∧ gw (fun j => μ.1 1 (983 * i + j)) 2 ≤ 40 * n) ∧ ∃ l : List Nat, RC (fun r => σ.1 (10 * ((f + i) % 4 + 1) + r)) (fun c => σ.2 (8 * ((f + i) % 4 + 1) + c)) (fun j => μ.1 1 (983 * i + j)) l
def TX (σ μ : ST) : Prop := ∃ n : Nat, n ≤ 150 ∧ σ.2 42 = jI n ∧ μ.2 8 = jI n ∧ ∀ i : Nat, i < n → σ.1 50 i = μ.1 3 i ∧ 0 ≤ (μ.1 3 i).toInt ∧ (μ.1 3 i).toInt ≤ 127
def Inv (n : Nat) (σ μ : ST) : Prop := WF (μ.1 0) ∧ (0 ≤ gw (μ.1 0) 2 ∧ gw (μ.1 0) 2 ≤ 40 * n) ∧ (∃ l : List Nat, RK σ (μ.1 0) l) ∧ UN n σ μ ∧ TX σ μ
def same (σ σ' : ST) : Prop := (∀ r : Nat, r ≤ 50 → σ'.1 r = σ.1 r) ∧ ∀ c : Nat, c ≤ 42 → σ'.2 c = σ.2 c
def sameM (μ μ' : ST) : Prop := μ'.1 0 = μ.1 0 ∧ μ'.1 1 = μ.1 1 ∧ μ'.1 3 = μ.1 3 ∧ μ'.2 0 = μ.2 0 ∧ μ'.2 8 = μ.2 8
theorem same_rf (σ : ST) : same σ σ := ⟨fun _ _ => rfl, fun _ _ => rfl⟩
theorem sameM_th (μ : ST) (k : Nat) (v : Int32) (h0 : k ≠ 0) (h8 : k ≠ 8) : sameM μ (zsp μ k v) := ⟨rfl, rfl, rfl, zsp_nq (Ne.symm h0), zsp_nq (Ne.symm h8)⟩
theorem sameM.trans {a b c : ST} (h1 : sameM a b) (h2 : sameM b c) : sameM a c := ⟨h2.1.trans h1.1, h2.2.1.trans h1.2.1, h2.2.2.1.trans h1.2.2.1, h2.2.2.2.1.trans h1.2.2.2.1, h2.2.2.2.2.trans h1.2.2.2.2⟩
theorem same.trans {a b c : ST} (h1 : same a b) (h2 : same b c) : same a c := ⟨fun r hr => (h2.1 r hr).trans (h1.1 r hr), fun k hk => (h2.2 k hk).trans (h1.2 k hk)⟩
theorem RC_congr {r r' : Nat → Nat → Int32} {c c' : Nat → Int32} {w : Wd} {l : List Nat} (h : RC r c w l) (hr : ∀ j, j ≤ 9 → r' j = r j) (hc : ∀ j, j ≤ 7 → c' j = c j) : RC r' c' w l := by
  unfold RC RCa RCb RCl RCs at *
  rw [hr 0 (by decide), hr 1 (by decide), hr 2 (by decide), hr 3 (by decide), hr 4 (by decide), hr 5 (by decide), hr 6 (by decide), hr 7 (by decide), hr 8 (by decide), hr 9 (by decide), hc 0 (by decide), hc 1 (by decide), hc 2 (by decide), hc 3 (by decide), hc 4 (by decide), hc 5 (by decide), hc 6 (by decide), hc 7 (by decide)]
  exact h
theorem Inv.next {n : Nat} {σ μ σ' μ' : ST} (h : Inv n σ μ) (hs : same σ σ') (hm : sameM μ μ') : Inv (n + 1) σ' μ' := by
  obtain ⟨h1, h2, ⟨l, h3⟩, ⟨f, m, a1, a2, a3, a4, a5, a6⟩, ⟨k, b1, b2, b3, b4⟩⟩ := h
  obtain ⟨m1, m2, m3, m4, m5⟩ := hm
  refine ⟨by rw [m1]; exact h1, by rw [m1]; push_cast; omega, ⟨l, by rw [m1]; exact RC_congr h3 (fun j hj => hs.1 j (by omega)) (fun j hj => hs.2 j (by omega))⟩, ⟨f, m, a1, a2, (hs.2 40 (by decide)).trans a3, (hs.2 41 (by decide)).trans a4, m4.trans a5, fun i hi => ?_⟩, ⟨k, b1, (hs.2 42 (by decide)).trans b2, m5.trans b3, fun i hi => ?_⟩⟩
  · rw [m2]
    obtain ⟨c1, c2, l', c3⟩ := a6 i hi
    exact ⟨c1, by push_cast; omega, l', RC_congr c3 (fun j hj => hs.1 _ (by omega)) (fun j hj => hs.2 _ (by omega))⟩
  · rw [m3, hs.1 50 (by decide)]
    exact b4 i hi
def flt (a b c : Int) : Int := if 0 ≤ a ∧ a ≤ 15 then (if (1 ≤ b ∧ b ≤ 3) ∧ (0 ≤ c ∧ c ≤ 2) then 0 else 2) else 1
theorem flt_b (a b c : Int) : 0 ≤ flt a b c ∧ flt a b c ≤ 3 := by
  unfold flt
  split
  · split <;> omega
  · omega
def ltn (a b c : Int) : Nat := (9 * a + 3 * (b - 1) + c).toNat
section FLT
variable {σ : ST} {Q : Int32 → ST → Prop} {a b c : Int}
theorem n_faultOfLetter (h1 : -2147483648 ≤ a) (h2 : a < 2147483648) (h3 : -2147483648 ≤ b) (h4 : b < 2147483648) (h5 : -2147483648 ≤ c) (h6 : c < 2147483648) (h : Q (jI (flt a b c)) σ) : wp_X6_faultOfLetter σ (jI a) (jI b) (jI c) Q := by
  unfold wp_X6_faultOfLetter wp_X6_isSign
  unfold flt at h
  refine c_in h1 h2 (by decide) (by decide) (by decide) (by decide) ⟨nar_b _, qb (fun c1 => ?_) (fun c1 => ?_)⟩
  · rw [if_neg (of_decide_eq_false c1)] at h
    exact h
  rw [if_pos (of_decide_eq_true c1)] at h
  refine c_in h3 h4 (by decide) (by decide) (by decide) (by decide) (qb (fun c2 => ?_) (fun c2 => ?_))
  · rw [if_neg (fun q => of_decide_eq_false c2 q.1)] at h
    exact h
  refine c_in h5 h6 (by decide) (by decide) (by decide) (by decide) (qb (fun c3 => ?_) (fun c3 => ?_))
  · rw [if_neg (fun q => of_decide_eq_false c3 q.2)] at h
    exact h
  rw [if_pos ⟨of_decide_eq_true c2, of_decide_eq_true c3⟩] at h
  exact h
theorem m_bars (h1 : -2147483648 ≤ a) (h2 : a < 2147483648) (h3 : -2147483648 ≤ b) (h4 : b < 2147483648) (h5 : -2147483648 ≤ c) (h6 : c < 2147483648) (h : Q (jI (flt a b c)) σ) : wp_X7_bars σ (jI a) (jI b) (jI c) Q := by
  unfold wp_X7_bars
  unfold flt at h
  refine m_in h1 h2 (by decide) (by decide) (by decide) (by decide) (qb (fun c1 => ?_) (fun c1 => ?_))
  · rw [if_neg (of_decide_eq_false c1)] at h
    exact h
  rw [if_pos (of_decide_eq_true c1)] at h
  refine m_in h3 h4 (by decide) (by decide) (by decide) (by decide) (qb (fun c2 => ?_) (fun c2 => ?_))
  · rw [if_neg (fun q => of_decide_eq_false c2 q.1)] at h
    exact h
  refine m_in h5 h6 (by decide) (by decide) (by decide) (by decide) (qb (fun c3 => ?_) (fun c3 => ?_))
  · rw [if_neg (fun q => of_decide_eq_false c3 q.2)] at h
    exact h
  rw [if_pos ⟨of_decide_eq_true c2, of_decide_eq_true c3⟩] at h
  exact h
theorem flt_0 (h : flt a b c = 0) : (0 ≤ a ∧ a ≤ 15) ∧ (1 ≤ b ∧ b ≤ 3) ∧ (0 ≤ c ∧ c ≤ 2) := by
  unfold flt at h
  by_cases h1 : 0 ≤ a ∧ a ≤ 15
  · rw [if_pos h1] at h
    by_cases h2 : (1 ≤ b ∧ b ≤ 3) ∧ (0 ≤ c ∧ c ≤ 2)
    · exact ⟨h1, h2⟩
    · rw [if_neg h2] at h
      omega
  · rw [if_neg h1] at h
    omega
theorem ltn_lt (h : flt a b c = 0) : ltn a b c < 144 := by
  have := flt_0 h
  unfold ltn
  omega
theorem n_letterNumber (h : flt a b c = 0) (hq : Q (jI (ltn a b c : Nat)) σ) : wp_X6_letterNumber σ (jI a) (jI b) (jI c) Q := by
  have := flt_0 h
  unfold wp_X6_letterNumber
  rw [jI_mul, jI_add, jI_sub, jI_mul, jI_add]
  rw [show (a * 3 + b - 1) * 3 + c = ((ltn a b c : Nat) : Int) by unfold ltn; omega]
  exact hq
theorem m_number (h : flt a b c = 0) (hq : Q (jI (ltn a b c : Nat)) σ) : wp_X7_number σ (jI a) (jI b) (jI c) Q := by
  have := flt_0 h
  unfold wp_X7_number
  rw [jI_mul, jI_sub, jI_mul, jI_add, jI_add]
  rw [show 9 * a + 3 * (b - 1) + c = ((ltn a b c : Nat) : Int) by unfold ltn; omega]
  exact hq
theorem x_throw {e : Int} {P : ST → Prop} {X : Nat → ST → Prop} (hb : 0 ≤ e ∧ e ≤ 3) (h1 : e = 1 → X 1 σ) (h2 : e = 2 → X 2 σ) (h3 : e = 3 → X 3 σ) (h0 : e = 0 → P σ) : wx_X6_throwFor σ (jI e) P X := by
  unfold wx_X6_throwFor
  refine qeq (by omega) (by omega) (by decide) (by decide) h1 (fun c1 => ?_)
  refine qeq (by omega) (by omega) (by decide) (by decide) h2 (fun c2 => ?_)
  exact qeq (by omega) (by omega) (by decide) (by decide) h3 (fun c3 => h0 (by omega))
theorem n_what (h1 : -2147483648 ≤ a) (h2 : a < 2147483648) {x : Int} (hx : 1 ≤ x) (hx2 : x ≤ 100) (h : Q (jI (if 0 ≤ a ∧ a ≤ x - 1 then 0 else 2)) σ) : wp_X6_faultOfWhat σ (jI a) (jI x) Q := by
  unfold wp_X6_faultOfWhat
  rw [jI_sub]
  refine c_in h1 h2 (by decide) (by decide) (by omega) (by omega) (qb (fun c1 => ?_) (fun c1 => ?_))
  · rw [if_neg (of_decide_eq_false c1)] at h
    exact h
  · rw [if_pos (of_decide_eq_true c1)] at h
    exact h
end FLT
set_option maxHeartbeats 1000000 in
theorem s_letter : st_letter Inv := by
  intro n σ μ v p1 p2 p3 p4 hn hI
  obtain ⟨a, rfl, a1, a2⟩ := jI_ex p1
  obtain ⟨b, rfl, b1, b2⟩ := jI_ex p2
  obtain ⟨c, rfl, c1, c2⟩ := jI_ex p3
  obtain ⟨x, rfl, x1, x2⟩ := jI_ex p4
  have hI' := hI
  obtain ⟨hW, hcl, ⟨l, hR⟩, -⟩ := hI'
  have hf := flt_b a b c
  unfold wL_letter wx_X6_letter
  -- the reference, where something is thrown
  have hth : ∀ e : Int, (e = 1 ∨ e = 2) → (flt a b c = e ∨ (flt a b c = 0 ∧ ¬ (0 ≤ x ∧ x ≤ 8) ∧ e = 2)) → wp_X7_letter μ (jI a) (jI b) (jI c) (jI x) (fun r μ1 => wp_X7_thrown μ1 (fun th μ2 => th = jI e ∧ (jI e = jI 0 → v = r.toInt64) ∧ Inv (n + 1) σ μ2)) := by
    intro e he hc
    unfold wp_X7_letter
    refine m_bars a1 a2 b1 b2 c1 c2 (al ?_)
    rw [zsp_at]
    refine qeq (by omega) (by omega) (by decide) (by decide) (fun d => ?_) (fun d => ?_)
    · refine m_in x1 x2 (by decide) (by decide) (by decide) (by decide) (qb (fun d1 => ?_) (fun d1 => ?_))
      · have d1 := of_decide_eq_false d1
        have e2 : e = 2 := by omega
        subst e2
        refine al ?_
        rw [zsp_at]
        refine qf (jnle (by decide) (by decide) (by decide)) ?_
        unfold wp_X7_thrown
        exact ⟨zsp_at, fun q => absurd q (jne (by decide) (by decide) (by decide) (by decide) (by decide)), hI.next (same_rf σ) ((sameM_th μ 1 _ (by decide) (by decide)).trans (sameM_th _ 1 _ (by decide) (by decide)))⟩
      · have d1 := of_decide_eq_true d1
        exfalso
        omega
    · have e2 : flt a b c = e := by omega
      rw [e2]
      refine al ?_
      rw [zsp_at]
      refine qf (jnle (by omega)) ?_
      unfold wp_X7_thrown
      exact ⟨zsp_at, fun q => absurd q (jne (by omega)), hI.next (same_rf σ) ((sameM_th μ 1 _ (by decide) (by decide)).trans (sameM_th _ 1 _ (by decide) (by decide)))⟩
  refine n_faultOfLetter a1 a2 b1 b2 c1 c2 (x_throw hf (fun e => hth 1 (Or.inl rfl) (Or.inl e)) (fun e => hth 2 (Or.inr rfl) (Or.inl e)) (fun e => ?_) (fun e => ?_))
  · exfalso
    unfold flt at e
    split at e
    · split at e <;> omega
    · omega
  refine n_what x1 x2 (by decide) (by decide) ?_
  by_cases hx : 0 ≤ x ∧ x ≤ 8
  · rw [if_pos (by omega)]
    refine x_throw (by decide) (fun q => absurd q (by decide)) (fun q => absurd q (by decide)) (fun q => absurd q (by decide)) (fun _ => ?_)
    have hk := ltn_lt e
    obtain ⟨y, rfl⟩ : ∃ y : Nat, x = y := ⟨x.toNat, by omega⟩
    refine n_letterNumber e (n_letterValue hR hW hk (by omega) ?_)
    unfold wp_X7_letter
    refine m_bars a1 a2 b1 b2 c1 c2 (al ?_)
    rw [zsp_at]
    refine qt (jeq e) (m_in x1 x2 (by decide) (by decide) (by decide) (by decide) ?_)
    rw [show decide (0 ≤ (y : Int) ∧ (y : Int) ≤ 8) = true from bo_t hx]
    refine qf (jne (a := 1) (b := 0) (by decide)) (al ?_)
    rw [zsp_at, zsp_at, e]
    refine qt (jle (by decide) (by decide) (by decide)) (m_number e (m_letterBy (σ := zsp (zsp μ 1 (jI 0)) 1 (jI 0)) (k := ltn a b c) (x := y) (by exact hW) hk (by omega) ?_))
    unfold wp_X7_thrown
    exact ⟨zsp_at, fun _ => rfl, hI.next (same_rf σ) ((sameM_th μ 1 _ (by decide) (by decide)).trans (sameM_th _ 1 _ (by decide) (by decide)))⟩
  · rw [if_neg (by omega)]
    exact x_throw (by decide) (fun q => absurd q (by decide)) (fun _ => hth 2 (Or.inr rfl) (Or.inr ⟨e, hx, rfl⟩)) (fun q => absurd q (by decide)) (fun q => absurd q (by decide))
theorem last_49 : True := trivial
