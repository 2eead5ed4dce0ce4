/-! runs in their order, and sequences of them -/
def flat : List (List Nat) → List Nat
  | [] => []
  | R :: rest => flat rest ++ R.reverse
def LFn (V : List (List Nat)) (j : Nat) : Nat := (flat V).getD j 0
def runAt : List (List Nat) → Nat → List Nat
  | [], _ => []
  | R :: rest, r => if r = rest.length then R.reverse else runAt rest r
def off : List (List Nat) → Nat → Nat
  | [], _ => 0
  | R :: rest, r => if r = rest.length then tot rest else off rest r
def rof : List (List Nat) → Nat → Nat
  | [], _ => 0
  | R :: rest, q => if q ∈ R then rest.length else rof rest q
theorem flat_len : ∀ V, (flat V).length = tot V
  | [] => rfl
  | R :: rest => by simp only [flat, tot, List.length_append, List.length_reverse, flat_len rest]
theorem rrel_flat {lf rb re ro : Nat → Int32} : ∀ {V : List (List Nat)}, rrel lf rb re ro V → ∀ j, j < tot V → lf j = nI (LFn V j)
  | [], _, j, h => absurd h (Nat.not_lt_zero j)
  | R :: rest, h, j, hj => by
    simp only [tot] at hj
    unfold LFn
    simp only [flat, List.getD_eq_getElem?_getD]
    rcases Nat.lt_or_ge j (tot rest) with q | q
    · rw [List.getElem?_append_left (by rw [flat_len]; exact q), rrel_flat h.2.2.2.2 j q]
      unfold LFn
      rw [List.getD_eq_getElem?_getD]
    · rw [List.getElem?_append_right (by rw [flat_len]; exact q), flat_len]
      have := h.2.2.1 (j - tot rest) (by omega)
      rw [show tot rest + (j - tot rest) = j by omega] at this
      rw [this, List.getD_eq_getElem?_getD]
theorem rrel_at {lf rb re ro : Nat → Int32} : ∀ {V : List (List Nat)}, rrel lf rb re ro V → ∀ r, r < V.length → rb r = nI (off V r) ∧ re r = nI (off V r + (runAt V r).length)
  | [], _, r, h => absurd h (Nat.not_lt_zero r)
  | R :: rest, h, r, hr => by
    simp only [List.length_cons] at hr
    simp only [off, runAt]
    by_cases q : r = rest.length
    · rw [if_pos q, if_pos q, q, List.length_reverse]; exact ⟨h.1, h.2.1⟩
    · rw [if_neg q, if_neg q]; exact rrel_at h.2.2.2.2 r (by omega)
theorem rrel_of {lf rb re ro : Nat → Int32} : ∀ {V : List (List Nat)}, rrel lf rb re ro V → ∀ q, q ∈ flat V → ro q = nI (rof V q)
  | [], _, q, h => absurd h List.not_mem_nil
  | R :: rest, h, q, hq => by
    simp only [rof]
    by_cases z : q ∈ R
    · rw [if_pos z]; exact h.2.2.2.1 q z
    · rw [if_neg z]
      refine rrel_of h.2.2.2.2 q ?_
      rcases List.mem_append.mp hq with w | w
      · exact w
      · exact absurd (List.mem_reverse.mp w) z
theorem runAt_flat : ∀ {V : List (List Nat)} {r t : Nat}, r < V.length → t < (runAt V r).length → LFn V (off V r + t) = (runAt V r).getD t 0 ∧ off V r + (runAt V r).length ≤ tot V
  | [], r, t, h, _ => absurd h (Nat.not_lt_zero r)
  | R :: rest, r, t, hr, ht => by
    simp only [List.length_cons] at hr
    unfold LFn
    simp only [off, runAt, tot, flat] at *
    by_cases q : r = rest.length
    · rw [if_pos q] at ht
      rw [if_pos q, if_pos q]
      refine ⟨?_, by rw [List.length_reverse]; omega⟩
      simp only [List.getD_eq_getElem?_getD]
      rw [List.getElem?_append_right (by rw [flat_len]; omega), flat_len, show tot rest + t - tot rest = t by omega]
    · rw [if_neg q] at ht
      rw [if_neg q, if_neg q]
      have ih := runAt_flat (V := rest) (r := r) (t := t) (by omega) ht
      refine ⟨?_, by omega⟩
      simp only [List.getD_eq_getElem?_getD]
      rw [List.getElem?_append_left (by rw [flat_len]; omega), ← List.getD_eq_getElem?_getD, ← List.getD_eq_getElem?_getD]
      exact ih.1
theorem runAt_pos {n : Nat} : ∀ {V : List (List Nat)} {r : Nat}, vlt n V → r < V.length → 0 < (runAt V r).length
  | [], r, _, h => absurd h (Nat.not_lt_zero r)
  | R :: rest, r, hv, hr => by
    simp only [List.length_cons] at hr
    simp only [runAt]
    by_cases q : r = rest.length
    · rw [if_pos q, List.length_reverse]; exact List.length_pos_iff.mpr hv.1
    · rw [if_neg q]; exact runAt_pos hv.2.2 (by omega)
theorem off_next : ∀ {V : List (List Nat)} {r r2 : Nat}, r < r2 → r2 < V.length → off V r + (runAt V r).length ≤ off V r2
  | [], r, r2, _, h => absurd h (Nat.not_lt_zero r2)
  | R :: rest, r, r2, h1, h2 => by
    simp only [List.length_cons] at h2
    simp only [off, runAt]
    rw [if_neg (show ¬ r = rest.length by omega), if_neg (show ¬ r = rest.length by omega)]
    by_cases q : r2 = rest.length
    · rw [if_pos q]
      rcases Nat.eq_zero_or_pos (runAt rest r).length with z | z
      · rw [z]
        have : ∀ {W : List (List Nat)} {s : Nat}, s < W.length → off W s ≤ tot W := by
          intro W
          induction W with
          | nil => intro s hs; exact absurd hs (Nat.not_lt_zero s)
          | cons A B ih =>
            intro s hs
            simp only [List.length_cons] at hs
            simp only [off, tot]
            by_cases w : s = B.length
            · rw [if_pos w]; omega
            · rw [if_neg w]; have := ih (s := s) (by omega); omega
        have := this (W := rest) (s := r) (by omega)
        omega
      · exact (runAt_flat (V := rest) (r := r) (t := 0) (by omega) z).2
    · rw [if_neg q]; exact off_next h1 (by omega)
theorem vlt_flat {n : Nat} : ∀ {V : List (List Nat)}, vlt n V → ∀ q ∈ flat V, q < n
  | [], _, q, h => absurd h List.not_mem_nil
  | R :: rest, hv, q, hq => by
    rcases List.mem_append.mp hq with w | w
    · exact vlt_flat hv.2.2 q w
    · exact hv.2.1 q (List.mem_reverse.mp w)
theorem LFn_mem {V : List (List Nat)} {j : Nat} (h : j < tot V) : LFn V j ∈ flat V := by
  unfold LFn
  rw [← flat_len] at h
  rw [List.getD_eq_getElem?_getD, List.getElem?_eq_getElem h]
  exact List.getElem_mem h
/-- the last position of a run; whether its sequence goes on, and where -/
def lastP (V : List (List Nat)) (r : Nat) : Nat := LFn V (off V r + (runAt V r).length - 1)
abbrev goes (V : List (List Nat)) (fst mt : Nat → Int32) (r : Nat) : Prop := isol (fst (lastP V r)) ∧ mt (lastP V r) ≠ -1
def nextR (V : List (List Nat)) (mt : Nat → Int32) (r : Nat) : Nat := rof V (mt (lastP V r)).toNatClampNeg
def sqL (V : List (List Nat)) (fst mt : Nat → Int32) : Nat → Nat → List Nat
  | 0, _ => []
  | f + 1, r => runAt V r ++ (if goes V fst mt r then sqL V fst mt f (nextR V mt r) else [])
def lsR (V : List (List Nat)) (fst mt : Nat → Int32) : Nat → Nat → Nat
  | 0, r => r
  | f + 1, r => if goes V fst mt r then lsR V fst mt f (nextR V mt r) else r
/-- a sequence goes on to later runs alone -/
def incR (V : List (List Nat)) (fst mt : Nat → Int32) : Prop := ∀ r, r < V.length → goes V fst mt r → r < nextR V mt r ∧ nextR V mt r < V.length
theorem sqL_f {V : List (List Nat)} {fst mt : Nat → Int32} (hi : incR V fst mt) : ∀ f f' r, r < V.length → V.length ≤ r + f → V.length ≤ r + f' → sqL V fst mt f r = sqL V fst mt f' r
  | 0, f', r, h, h1, _ => absurd h (by omega)
  | f + 1, 0, r, h, _, h2 => absurd h (by omega)
  | f + 1, f' + 1, r, h, h1, h2 => by
    simp only [sqL]
    by_cases q : goes V fst mt r
    · have := hi r h q
      rw [if_pos q, if_pos q, sqL_f hi f f' (nextR V mt r) this.2 (by omega) (by omega)]
    · rw [if_neg q, if_neg q]
theorem lsR_f {V : List (List Nat)} {fst mt : Nat → Int32} (hi : incR V fst mt) : ∀ f f' r, r < V.length → V.length ≤ r + f → V.length ≤ r + f' → lsR V fst mt f r = lsR V fst mt f' r
  | 0, f', r, h, h1, _ => absurd h (by omega)
  | f + 1, 0, r, h, _, h2 => absurd h (by omega)
  | f + 1, f' + 1, r, h, h1, h2 => by
    simp only [lsR]
    by_cases q : goes V fst mt r
    · have := hi r h q
      rw [if_pos q, if_pos q, lsR_f hi f f' (nextR V mt r) this.2 (by omega) (by omega)]
    · rw [if_neg q, if_neg q]
def SQ (V : List (List Nat)) (fst mt : Nat → Int32) (r : Nat) : List Nat := sqL V fst mt (V.length - r) r
def LR (V : List (List Nat)) (fst mt : Nat → Int32) (r : Nat) : Nat := lsR V fst mt (V.length - r) r
theorem SQ_eq {V : List (List Nat)} {fst mt : Nat → Int32} (hi : incR V fst mt) {r : Nat} (h : r < V.length) : SQ V fst mt r = runAt V r ++ (if goes V fst mt r then SQ V fst mt (nextR V mt r) else []) := by
  unfold SQ
  rw [show V.length - r = (V.length - r - 1) + 1 by omega]
  simp only [sqL]
  by_cases q : goes V fst mt r
  · have := hi r h q
    rw [if_pos q, if_pos q, sqL_f hi (V.length - r - 1) (V.length - nextR V mt r) _ this.2 (by omega) (by omega)]
  · rw [if_neg q, if_neg q]
theorem LR_eq {V : List (List Nat)} {fst mt : Nat → Int32} (hi : incR V fst mt) {r : Nat} (h : r < V.length) : LR V fst mt r = if goes V fst mt r then LR V fst mt (nextR V mt r) else r := by
  unfold LR
  rw [show V.length - r = (V.length - r - 1) + 1 by omega]
  simp only [lsR]
  by_cases q : goes V fst mt r
  · have := hi r h q
    rw [if_pos q, if_pos q, lsR_f hi (V.length - r - 1) (V.length - nextR V mt r) _ this.2 (by omega) (by omega)]
  · rw [if_neg q, if_neg q]
def lvB (V : List (List Nat)) (fst : Nat → Int32) (L : Nat → Nat) (x base : Nat) : Nat := if x < tot V ∧ ¬ isol (fst (LFn V (x - 1))) then L (LFn V x) else base
def lvA (V : List (List Nat)) (L : Nat → Nat) (x base : Nat) : Nat := if 0 < x then L (LFn V (x - 1)) else base
/-- the sequence's rows hold its positions and their classes -/
def sR (a k kinds : Nat → Int32) (acc : List Nat) : Prop := ∀ j, j < acc.length → a j = nI (acc.getD j 0) ∧ k j = kinds (acc.getD j 0)
theorem sR_push {a k kinds : Nat → Int32} {acc : List Nat} {q : Nat} (h : sR a k kinds acc) : sR (upd a acc.length (nI q)) (upd k acc.length (kinds q)) kinds (acc ++ [q]) := by
  intro j hj
  simp only [List.length_append, List.length_singleton] at hj
  simp only [List.getD_eq_getElem?_getD]
  by_cases z : j = acc.length
  · subst z; rw [pk_us, pk_us]; simp
  · rw [pk_un z, pk_un z, List.getElem?_append_left (by omega), ← List.getD_eq_getElem?_getD]
    exact h j (by omega)
theorem take_step {l : List Nat} {t : Nat} (h : t < l.length) : l.take (t + 1) = l.take t ++ [l.getD t 0] := by
  rw [List.take_succ_eq_append_getElem h, List.getD_eq_getElem?_getD, List.getElem?_eq_getElem h]; rfl
