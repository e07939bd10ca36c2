/-! texts of commands: what is read, and the small readers -/
def bya (B : Nat → Int) (n i : Nat) : Int := if i < n then B i else -1
def rsp (B : Nat → Int) (n p : Nat) : Nat := glen (fun x => decide (B x = 32)) (n - p) p
def rlt (B : Nat → Int) (n p : Nat) : Nat := glen (fun x => decide (97 ≤ B x ∧ B x ≤ 122)) (n - p) p
def wm (B : Nat → Int) (n p : Nat) : Nat → Bool
  | 0 => decide (rlt B n p = 3 ∧ B p = 99 ∧ B (p + 1) = 117 ∧ B (p + 2) = 116)
  | 1 => decide (rlt B n p = 3 ∧ B p = 117 ∧ B (p + 1) = 115 ∧ B (p + 2) = 101)
  | 2 => decide (rlt B n p = 4 ∧ B p = 100 ∧ B (p + 1) = 114 ∧ B (p + 2) = 111 ∧ B (p + 3) = 112)
  | 3 => decide (rlt B n p = 4 ∧ B p = 108 ∧ B (p + 1) = 105 ∧ B (p + 2) = 110 ∧ B (p + 3) = 101)
  | 4 => decide (rlt B n p = 4 ∧ B p = 116 ∧ B (p + 1) = 114 ∧ B (p + 2) = 97 ∧ B (p + 3) = 121)
  | 5 => decide (rlt B n p = 5 ∧ B p = 99 ∧ B (p + 1) = 108 ∧ B (p + 2) = 111 ∧ B (p + 3) = 115 ∧ B (p + 4) = 101)
  | _ => false
def kd (B : Nat → Int) (n p : Nat) : Nat := if wm B n p 0 then 1 else if wm B n p 1 then 2 else if wm B n p 2 then 3 else if wm B n p 3 then 4 else if wm B n p 4 then 5 else if wm B n p 5 then 6 else 0
def dg (B : Nat → Int) (n i : Nat) : Bool := decide (48 ≤ bya B n i ∧ bya B n i ≤ 57)
def nok (B : Nat → Int) (n p : Nat) : Bool := decide (rsp B n p ≠ 0) && dg B n (p + rsp B n p)
def npos (B : Nat → Int) (n p : Nat) : Nat := if nok B n p then (if dg B n (p + rsp B n p + 1) then p + rsp B n p + 2 else p + rsp B n p + 1) else p + rsp B n p
def nval (B : Nat → Int) (n p : Nat) : Int := if dg B n (p + rsp B n p + 1) then 10 * (bya B n (p + rsp B n p) - 48) + (bya B n (p + rsp B n p + 1) - 48) else bya B n (p + rsp B n p) - 48
def nq (B : Nat → Int) (n q : Nat) : Nat → Nat
  | 0 => q
  | j + 1 => npos B n (nq B n q j)
def nrun (B : Nat → Int) (n : Nat) : Nat → Nat → Bool × Nat
  | 0, q => (true, q)
  | m + 1, q => if nok B n q then nrun B n m (npos B n q) else (false, npos B n q)
def cend (B : Nat → Int) (n q : Nat) : Bool × Nat := if bya B n (q + rsp B n q) = 59 then (true, q + rsp B n q + 1) else (false, q + rsp B n q)
def cmd (B : Nat → Int) (n p : Nat) : Bool × Nat := if kd B n p = 0 then (false, p) else if (nrun B n (if kd B n p ≤ 3 then 3 else 0) (p + rlt B n p)).1 then cend B n (nrun B n (if kd B n p ≤ 3 then 3 else 0) (p + rlt B n p)).2 else (false, (nrun B n (if kd B n p ≤ 3 then 3 else 0) (p + rlt B n p)).2)
def nv (B : Nat → Int) (n p j : Nat) : Int := nval B n (nq B n (p + rlt B n p) j)
def ps (B : Nat → Int) (n : Nat) : Nat → Nat
  | 0 => rsp B n 0
  | i + 1 => (cmd B n (ps B n i)).2 + rsp B n (cmd B n (ps B n i)).2
theorem zsp_zsp (u : ST) (k : Nat) (a b : Int32) : zsp (zsp u k a) k b = zsp u k b := by
  refine Prod.ext rfl (funext fun j => ?_)
  show (if j = k then b else (zsp u k a).2 j) = if j = k then b else u.2 j
  by_cases h : j = k
  · rw [if_pos h, if_pos h]
  · rw [if_neg h, if_neg h]
    exact zsp_nq h
def stC (u : ST) (p : Nat) : ST := zsp u 43 (jI (p : Nat))
def stM (v : ST) (p : Nat) : ST := zsp v 9 (jI (p : Nat))
def TC (B : Nat → Int) (n : Nat) (u : ST) : Prop := u.2 42 = jI (n : Nat) ∧ ∀ i : Nat, i < n → u.1 50 i = jI (B i)
def TM (B : Nat → Int) (n : Nat) (v : ST) : Prop := v.2 8 = jI (n : Nat) ∧ ∀ i : Nat, i < n → v.1 3 i = jI (B i)
def TB (B : Nat → Int) (n : Nat) : Prop := n ≤ 150 ∧ ∀ i : Nat, i < n → 0 ≤ B i ∧ B i ≤ 127
section TXT
variable {B : Nat → Int} {n p : Nat} {u v : ST}
theorem TC.st (h : TC B n u) : TC B n (stC u p) := ⟨(zsp_nq (by decide)).trans h.1, h.2⟩
theorem TM.st (h : TM B n v) : TM B n (stM v p) := ⟨(zsp_nq (by decide)).trans h.1, h.2⟩
theorem stC_43 : (stC u p).2 43 = jI (p : Nat) := zsp_at
theorem stM_9 : (stM v p).2 9 = jI (p : Nat) := zsp_at
theorem stC_nx (q : Nat) : zsp (stC u p) 43 (jI (q : Nat)) = stC u q := zsp_zsp _ _ _ _
theorem stM_nx (q : Nat) : zsp (stM v p) 9 (jI (q : Nat)) = stM v q := zsp_zsp _ _ _ _
theorem bya_b (hB : TB B n) (i : Nat) : -1 ≤ bya B n i ∧ bya B n i ≤ 127 := by
  unfold bya
  split
  · next h =>
    have := hB.2 i h
    omega
  · omega
theorem rsp_le : p + rsp B n p ≤ max p n := by
  have := glen_le (fun x => decide (B x = 32)) (n - p) p
  unfold rsp
  omega
theorem rlt_le : p + rlt B n p ≤ max p n := by
  have := glen_le (fun x => decide (97 ≤ B x ∧ B x ≤ 122)) (n - p) p
  unfold rlt
  omega
theorem n_byteAt {Q : Int32 → ST → Prop} {i : Nat} (hB : TB B n) (hT : TC B n u) (hi : i < 100000) (h : Q (jI (bya B n i)) u) : wp_X0_byteAt u (jI (i : Nat)) Q := by
  have hn := hB.1
  unfold wp_X0_byteAt
  rw [hT.1]
  unfold bya at h
  refine qle (by omega) (by omega) (by omega) (by omega) (fun c => ?_) (fun c => ?_)
  · rw [if_neg (by omega)] at h
    exact h
  · rw [if_pos (by omega)] at h
    exact alE ((cg u 50 i (by show i < 150; omega)).trans (hT.2 i (by omega))) h
theorem n_skipSp {K : ST → Prop} (hB : TB B n) (hT : TC B n u) (hp : p ≤ 1000) (h : K (stC u (p + rsp B n p))) : wp_X0_skipSpaces (stC u p) K := by
  have hn := hB.1
  have hle := rsp_le (B := B) (n := n) (p := p)
  unfold wp_X0_skipSpaces
  have key : ∀ K' : ST → Prop, K' (stC u (p + rsp B n p)) → ∃ nn, wl_X0_skipSpaces_0 K' nn (stC u (p + 0)) := fun K' hK => by
    refine lp_det (α := ST) (L := fun nn a => wl_X0_skipSpaces_0 K' nn a) (B := fun LL a => wb_X0_skipSpaces_0 K' LL a) (fun _ _ => rfl) (fun i => stC u (p + i)) (rsp B n p) (fun i hi LL hLL => ?_)
    unfold wb_X0_skipSpaces_0
    rw [hT.st.1, stC_43]
    refine qle (by omega) (by omega) (by omega) (by omega) (fun c => ?_) (fun c => ?_)
    · have e : i = rsp B n p := by
        by_cases h9 : i < rsp B n p
        · have := (glen_t _ _ _ i h9).1
          omega
        · omega
      rw [e]
      exact hK
    · refine n_byteAt hB hT.st (by omega) ?_
      have hbb := bya_b hB (p + i)
      have eb : bya B n (p + i) = B (p + i) := if_pos (by omega)
      refine qeq (by omega) (by omega) (by decide) (by decide) (fun d => ?_) (fun d => ?_)
      · have h9 : i < rsp B n p := by
          by_cases h9 : i < rsp B n p
          · exact h9
          · have := glen_e (fun x => decide (B x = 32)) (n - p) p (by unfold rsp at *; omega)
            rw [show p + glen (fun x => decide (B x = 32)) (n - p) p = p + i by unfold rsp at *; omega] at this
            have := of_decide_eq_false this
            omega
        rw [stC_43, jI_add, show ((p + i : Nat) : Int) + 1 = ((p + (i + 1) : Nat) : Int) by omega, stC_nx]
        exact al (hLL h9)
      · have e : i = rsp B n p := by
          by_cases h9 : i < rsp B n p
          · have := of_decide_eq_true (glen_t _ _ _ i h9).2
            omega
          · omega
        rw [e]
        exact hK
  exact key K h
theorem n_skipLt {K : ST → Prop} (hB : TB B n) (hT : TC B n u) (hp : p ≤ 1000) (h : K (stC u (p + rlt B n p))) : wp_X0_skipLetters (stC u p) K := by
  have hn := hB.1
  have hle := rlt_le (B := B) (n := n) (p := p)
  unfold wp_X0_skipLetters
  have key : ∀ K' : ST → Prop, K' (stC u (p + rlt B n p)) → ∃ nn, wl_X0_skipLetters_0 K' nn (stC u (p + 0)) := fun K' hK => by
    refine lp_det (α := ST) (L := fun nn a => wl_X0_skipLetters_0 K' nn a) (B := fun LL a => wb_X0_skipLetters_0 K' LL a) (fun _ _ => rfl) (fun i => stC u (p + i)) (rlt B n p) (fun i hi LL hLL => ?_)
    unfold wb_X0_skipLetters_0
    rw [hT.st.1, stC_43]
    refine qle (by omega) (by omega) (by omega) (by omega) (fun c => ?_) (fun c => ?_)
    · have e : i = rlt B n p := by
        by_cases h9 : i < rlt B n p
        · have := (glen_t _ _ _ i h9).1
          omega
        · omega
      rw [e]
      exact hK
    · refine n_byteAt hB hT.st (by omega) ?_
      have hbb := bya_b hB (p + i)
      have eb : bya B n (p + i) = B (p + i) := if_pos (by omega)
      have hend : ¬ (97 ≤ B (p + i) ∧ B (p + i) ≤ 122) → K' (stC u (p + i)) := fun d => by
        have e : i = rlt B n p := by
          by_cases h9 : i < rlt B n p
          · have := of_decide_eq_true (glen_t _ _ _ i h9).2
            omega
          · omega
        rw [e]
        exact hK
      unfold wp_X0_isLetter
      refine qlt (by omega) (by omega) (by decide) (by decide) (fun d => qt rfl (hend (by omega))) (fun d => ?_)
      refine qlt (by decide) (by decide) (by omega) (by omega) (fun d2 => qt rfl (hend (by omega))) (fun d2 => ?_)
      refine qf (jne (a := 1) (b := 0) (by decide)) ?_
      have h9 : i < rlt B n p := by
        by_cases h9 : i < rlt B n p
        · exact h9
        · have := glen_e (fun x => decide (97 ≤ B x ∧ B x ≤ 122)) (n - p) p (by unfold rlt at *; omega)
          rw [show p + glen (fun x => decide (97 ≤ B x ∧ B x ≤ 122)) (n - p) p = p + i by unfold rlt at *; omega] at this
          have := of_decide_eq_false this
          omega
      rw [stC_43, jI_add, show ((p + i : Nat) : Int) + 1 = ((p + (i + 1) : Nat) : Int) by omega, stC_nx]
      exact al (hLL h9)
  exact key K h
theorem n_isDigit {Q : Int32 → ST → Prop} {i : Nat} (hB : TB B n) (h : Q (jI (bI (dg B n i))) u) : wp_X0_isDigit u (jI (bya B n i)) Q := by
  have hb := bya_b hB i
  unfold wp_X0_isDigit
  unfold dg at h
  refine qlt (by omega) (by omega) (by decide) (by decide) (fun d => ?_) (fun d => ?_)
  · rw [bo_f (by omega)] at h
    exact h
  refine qlt (by decide) (by decide) (by omega) (by omega) (fun d2 => ?_) (fun d2 => ?_)
  · rw [bo_f (by omega)] at h
    exact h
  · rw [bo_t ⟨d, d2⟩] at h
    exact h
theorem zrp_st (r i : Nat) (x : Int32) : zrp (stC u p) r i x = stC (zrp u r i x) p := rfl
theorem zrp_stM (r i : Nat) (x : Int32) : zrp (stM v p) r i x = stM (zrp v r i x) p := rfl
theorem n_number {Q : Int32 → ST → Prop} {c j : Nat} (hB : TB B n) (hT : TC B n u) (hp : p ≤ 500) (h44 : u.2 44 = jI (c : Nat)) (hc : 3 * c + j < 90) (hf : nok B n p = false → Q (jI 0) (stC u (npos B n p))) (ht : nok B n p = true → Q (jI 1) (stC (zrp u 52 (3 * c + j) (jI (nval B n p))) (npos B n p))) : wp_X0_readNumber (stC u p) (jI (j : Nat)) Q := by
  have hn := hB.1
  have hle := rsp_le (B := B) (n := n) (p := p)
  have hb0 := bya_b hB p
  unfold wp_X0_readNumber
  rw [stC_43]
  refine n_byteAt hB hT.st (by omega) ?_
  have hsp : bya B n p = 32 ↔ rsp B n p ≠ 0 := by
    unfold bya rsp
    by_cases hpn : p < n
    · rw [if_pos hpn, show n - p = (n - p - 1) + 1 by omega]
      unfold glen
      by_cases h32 : B p = 32
      · rw [if_pos (bo_t h32)]
        constructor <;> intro _ <;> omega
      · rw [if_neg (by rw [bo_f h32]; decide)]
        constructor <;> intro q <;> omega
    · rw [if_neg hpn, show n - p = 0 by omega]
      unfold glen
      constructor <;> intro q <;> omega
  refine qeq (by omega) (by omega) (by decide) (by decide) (fun d => ?_) (fun d => ?_)
  · have hr := hsp.mp d
    refine n_skipSp hB hT (by omega) ?_
    rw [stC_43]
    refine n_byteAt hB hT.st (by omega) (n_isDigit hB ?_)
    refine qb (fun e => ?_) (fun e => ?_)
    · have hno : nok B n p = false := by unfold nok; rw [e, Bool.and_false]
      have h9 := hf hno
      unfold npos at h9
      rw [hno, if_neg (by decide)] at h9
      exact h9
    · have hyes : nok B n p = true := by unfold nok; rw [e, bo_t hr]; rfl
      have h9 := ht hyes
      unfold npos nval at h9
      rw [hyes, if_pos rfl] at h9
      rw [stC_43]
      refine n_byteAt hB hT.st (by omega) (al ?_)
      rw [jI_sub, stC_43, jI_add, show ((p + rsp B n p : Nat) : Int) + 1 = ((p + rsp B n p + 1 : Nat) : Int) by omega, stC_nx]
      refine al ?_
      rw [stC_43]
      refine n_byteAt hB hT.st (by omega) (n_isDigit hB ?_)
      have e44 : ∀ q : Nat, (stC u q).2 44 = jI (c : Nat) := fun q => (zsp_nq (by decide)).trans h44
      refine qb (fun f => ?_) (fun f => ?_)
      · rw [f, if_neg (by decide), if_neg (by decide)] at h9
        rw [e44, jI_mul, jI_add, show (c : Int) * 3 + (j : Int) = ((3 * c + j : Nat) : Int) by omega, cs _ 52 (3 * c + j) _ (by show 3 * c + j < 90; omega)]
        exact al h9
      · rw [f, if_pos rfl, if_pos rfl] at h9
        rw [stC_43]
        refine n_byteAt hB hT.st (by omega) (al ?_)
        rw [jI_mul, jI_add, jI_sub, stC_43, jI_add, show ((p + rsp B n p + 1 : Nat) : Int) + 1 = ((p + rsp B n p + 2 : Nat) : Int) by omega, stC_nx]
        refine al ?_
        rw [e44, jI_mul, jI_add, show (c : Int) * 3 + (j : Int) = ((3 * c + j : Nat) : Int) by omega, cs _ 52 (3 * c + j) _ (by show 3 * c + j < 90; omega), show 10 * (bya B n (p + rsp B n p) - 48) + bya B n (p + rsp B n p + 1) - 48 = 10 * (bya B n (p + rsp B n p) - 48) + (bya B n (p + rsp B n p + 1) - 48) by omega]
        exact al h9
  · have hr : rsp B n p = 0 := by
      by_cases h9 : rsp B n p = 0
      · exact h9
      · exact absurd (hsp.mpr h9) d
    have hno : nok B n p = false := by unfold nok; rw [bo_f (fun q => q hr)]; rfl
    have h9 := hf hno
    unfold npos at h9
    rw [hno, if_neg (by decide), hr, Nat.add_zero] at h9
    exact h9
end TXT
theorem last_89c : True := trivial
