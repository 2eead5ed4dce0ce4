theorem pre_ext {b i : Nat} {f f0 : Nat → Int32} (hb : b ≤ i) (h : ∀ j, b ≤ j → j < i → f0 j = f j) : pre b f f0 = pre i f f0 := by
  funext j
  simp only [pre]
  by_cases h1 : j < b
  · rw [if_pos h1, if_pos (by omega)]
  · by_cases h2 : j < i
    · rw [if_neg h1, if_pos h2]; exact h j (by omega) h2
    · rw [if_neg h1, if_neg h2]
theorem w5_ne {n j : Nat} {k : Nat → Int32} (h : k j ≠ 5) : w5 n k j = k j := by
  unfold w5
  rw [if_neg (fun q => h q.1)]
theorem w5_row_y {n b i : Nat} {k : Nat → Int32} (hi : i ≤ n) (hrow : ∀ j, b ≤ j → j < i → k j = 5) (hEN : (i < n ∧ k i = 3) ∨ (0 < b ∧ k (b - 1) = 3)) {j : Nat} (h1 : b ≤ j) (h2 : j < i) : w5 n k j = 3 := by
  unfold w5
  refine if_pos ⟨hrow j h1 h2, ?_⟩
  rcases hEN with q | q
  · exact Or.inr ⟨i, h2, q.1, q.2, fun c e1 e2 => hrow c (by omega) e2⟩
  · exact Or.inl ⟨b - 1, by omega, q.2, fun c e1 e2 => hrow c (by omega) (by omega)⟩
theorem w5_row_n {n b i : Nat} {k : Nat → Int32} (hi : i ≤ n) (hrow : ∀ j, b ≤ j → j < i → k j = 5) (hst : b = 0 ∨ k (b - 1) ≠ 5) (hen : i < n → k i ≠ 5) (hEN : ¬ ((i < n ∧ k i = 3) ∨ (0 < b ∧ k (b - 1) = 3))) {j : Nat} (h1 : b ≤ j) (h2 : j < i) : w5 n k j = 5 := by
  unfold w5
  rw [if_neg]
  · exact hrow j h1 h2
  · rintro ⟨-, ⟨a, ha, e3, hall⟩ | ⟨a, ha, han, e3, hall⟩⟩
    · rcases Nat.lt_or_ge a b with q | q
      · rcases Nat.lt_or_ge a (b - 1) with q2 | q2
        · exact hst.elim (fun z => by omega) (fun z => z (hall (b - 1) q2 (by omega)))
        · have e : a = b - 1 := by omega
          exact hEN (Or.inr ⟨by omega, e ▸ e3⟩)
      · have := hrow a q (by omega)
        rw [e3] at this
        exact absurd this (by decide)
    · rcases Nat.lt_or_ge i a with q | q
      · exact hen (by omega) (hall i h2 q)
      · rcases Nat.lt_or_ge a i with q2 | q2
        · have := hrow a (by omega) q2
          rw [e3] at this
          exact absurd this (by decide)
        · have e : a = i := by omega
          exact hEN (Or.inl ⟨by omega, e ▸ e3⟩)
theorem pre_step {n i : Nat} {f f0 : Nat → Int32} (hi : i ≤ n) (h : i < n → f0 i = f i) : pre i f f0 = pre (min (i + 1) n) f f0 := by
  rcases Nat.lt_or_ge i n with q | q
  · rw [show min (i + 1) n = i + 1 by omega]; exact pre_same (h q)
  · rw [show min (i + 1) n = i by omega]
def wk1 (n : Nat) (h : Int32) (fst k : Nat → Int32) : Nat → Int32 := pre n (w1 h fst k) k
def wk2 (n : Nat) (h : Int32) (k : Nat → Int32) : Nat → Int32 := pre n (w2 h k) k
def wk3 (n : Nat) (k : Nat → Int32) : Nat → Int32 := pre n (w3 k) k
noncomputable def wk4 (n : Nat) (k : Nat → Int32) : Nat → Int32 := pre n (w4 n k) k
noncomputable def wk5 (n : Nat) (k : Nat → Int32) : Nat → Int32 := pre n (w5 n k) k
def wk6 (n : Nat) (k : Nat → Int32) : Nat → Int32 := pre n (w6 k) k
def wk7 (n : Nat) (h : Int32) (k : Nat → Int32) : Nat → Int32 := pre n (w7 h k) k
noncomputable def weak (n : Nat) (h : Int32) (fst k : Nat → Int32) : Nat → Int32 := wk7 n h (wk6 n (wk5 n (wk4 n (wk3 n (wk2 n h (wk1 n h fst k))))))
/-- N1, N2 -/
def nxS (t : Int32) (k : Nat → Int32) : Nat → Nat → Int32
  | 0, _ => t
  | m + 1, j => if sd (k j) = -1 then nxS t k m (j + 1) else sd (k j)
def nextS (n : Nat) (t : Int32) (k : Nat → Int32) (j : Nat) : Int32 := nxS t k (n - j) j
def n12 (n : Nat) (h t d : Int32) (k : Nat → Int32) (j : Nat) : Int32 := if sd (k j) = -1 then (if prevS h k j = nextS n t k j then prevS h k j else d) else k j
def sideN (n : Nat) (t : Int32) (k : Nat → Int32) (i : Nat) : Int32 := if n ≤ i then t else sd (k i)
def sideB (h : Int32) (k : Nat → Int32) (b : Nat) : Int32 := if b = 0 then h else sd (k (b - 1))
theorem prevS_row {b i : Nat} {h : Int32} {k : Nat → Int32} (hrow : ∀ j, b ≤ j → j < i → sd (k j) = -1) (hst : b = 0 ∨ sd (k (b - 1)) ≠ -1) : ∀ j, b ≤ j → j ≤ i → prevS h k j = sideB h k b := by
  intro j
  induction j with
  | zero => intro h1 _; have : b = 0 := by omega
            subst this; rfl
  | succ j ih =>
    intro h1 h2
    rcases Nat.lt_or_ge j b with q | q
    · have e : b = j + 1 := by omega
      subst e
      simp only [prevS, sideB]
      have hne : sd (k j) ≠ -1 := hst.elim (fun z => absurd z (by omega)) id
      rw [if_neg hne, if_neg (by omega)]
      rfl
    · simp only [prevS]
      rw [if_pos (hrow j q (by omega))]
      exact ih q (by omega)
theorem nextS_row {n b i : Nat} {t : Int32} {k : Nat → Int32} (hi : i ≤ n) (hrow : ∀ j, b ≤ j → j < i → sd (k j) = -1) (hen : i < n → sd (k i) ≠ -1) : ∀ m j, b ≤ j → j ≤ i → i - j = m → nextS n t k j = sideN n t k i := by
  intro m
  induction m with
  | zero =>
    intro j h1 h2 h3
    have e : j = i := by omega
    subst e
    unfold nextS sideN
    rcases Nat.lt_or_ge j n with q | q
    · rw [if_neg (by omega), show n - j = (n - j - 1) + 1 by omega]
      simp only [nxS]
      rw [if_neg (hen q)]
    · rw [if_pos q, show n - j = 0 by omega]
      rfl
  | succ m ih =>
    intro j h1 h2 h3
    have hj := hrow j h1 (by omega)
    have := ih (j + 1) (by omega) (by omega) (by omega)
    rw [← this]
    unfold nextS
    rw [show n - j = (n - (j + 1)) + 1 by omega]
    simp only [nxS]
    rw [if_pos hj]
theorem n12_ne {n j : Nat} {h t d : Int32} {k : Nat → Int32} (q : sd (k j) ≠ -1) : n12 n h t d k j = k j := by
  unfold n12; rw [if_neg q]
theorem n12_row {n b i : Nat} {h t d : Int32} {k : Nat → Int32} (hi : i ≤ n) (hrow : ∀ j, b ≤ j → j < i → sd (k j) = -1) (hst : b = 0 ∨ sd (k (b - 1)) ≠ -1) (hen : i < n → sd (k i) ≠ -1) {j : Nat} (h1 : b ≤ j) (h2 : j < i) : n12 n h t d k j = if sideB h k b = sideN n t k i then sideN n t k i else d := by
  unfold n12
  rw [if_pos (hrow j h1 h2), prevS_row hrow hst j h1 (by omega), nextS_row hi hrow hen _ j h1 (by omega) rfl]
  by_cases q : sideB h k b = sideN n t k i
  · rw [if_pos q, if_pos q, q]
  · rw [if_neg q, if_neg q]
def wrt (P : Nat → Nat) (now f0 : Nat → Int32) : Nat → Nat → Int32
  | 0 => f0
  | i + 1 => upd (wrt P now f0 i) (P i) (now i)
