theorem pre_ext {b i : Nat} {f f0 : Nat → Int32} (hb : b ≤ i) (h : ∀ j, b ≤ j → j < i → f0 j = f j) : pre b f f0 = pre i f f0 := by
  funext j
  simp only [pre]
  by_cases h1 : j < b
  · rw [if_pos h1, if_pos (by omega)]
  · by_cases h2 : j < i
    · rw [if_neg h1, if_pos h2]; exact h j (by omega) h2
    · rw [if_neg h1, if_neg h2]
theorem w5_ne {n j : Nat} {k : Nat → Int32} (h : k j ≠ 5) : w5 n k j = k j := by
  unfold w5
  rw [if_neg (fun q => h q.1)]
theorem w5_row_y {n b i : Nat} {k : Nat → Int32} (hi : i ≤ n) (hrow : ∀ j, b ≤ j → j < i → k j = 5) (hEN : (i < n ∧ k i = 3) ∨ (0 < b ∧ k (b - 1) = 3)) {j : Nat} (h1 : b ≤ j) (h2 : j < i) : w5 n k j = 3 := by
  unfold w5
  refine if_pos ⟨hrow j h1 h2, ?_⟩
  rcases hEN with q | q
  · exact Or.inr ⟨i, h2, q.1, q.2, fun c e1 e2 => hrow c (by omega) e2⟩
  · exact Or.inl ⟨b - 1, by omega, q.2, fun c e1 e2 => hrow c (by omega) (by omega)⟩
theorem w5_row_n {n b i : Nat} {k : Nat → Int32} (hi : i ≤ n) (hrow : ∀ j, b ≤ j → j < i → k j = 5) (hst : b = 0 ∨ k (b - 1) ≠ 5) (hen : i < n → k i ≠ 5) (hEN : ¬ ((i < n ∧ k i = 3) ∨ (0 < b ∧ k (b - 1) = 3))) {j : Nat} (h1 : b ≤ j) (h2 : j < i) : w5 n k j = 5 := by
  unfold w5
  rw [if_neg]
  · exact hrow j h1 h2
  · rintro ⟨-, ⟨a, ha, e3, hall⟩ | ⟨a, ha, han, e3, hall⟩⟩
    · rcases Nat.lt_or_ge a b with q | q
      · rcases Nat.lt_or_ge a (b - 1) with q2 | q2
        · exact hst.elim (fun z => by omega) (fun z => z (hall (b - 1) q2 (by omega)))
        · have e : a = b - 1 := by omega
          exact hEN (Or.inr ⟨by omega, e ▸ e3⟩)
      · have := hrow a q (by omega)
        rw [e3] at this
        exact absurd this (by decide)
    · rcases Nat.lt_or_ge i a with q | q
      · exact hen (by omega) (hall i h2 q)
      · rcases Nat.lt_or_ge a i with q2 | q2
        · have := hrow a (by omega) q2
          rw [e3] at this
          exact absurd this (by decide)
        · have e : a = i := by omega
          exact hEN (Or.inl ⟨by omega, e ▸ e3⟩)
theorem pre_step {n i : Nat} {f f0 : Nat → Int32} (hi : i ≤ n) (h : i < n → f0 i = f i) : pre i f f0 = pre (min (i + 1) n) f f0 := by
  rcases Nat.lt_or_ge i n with q | q
  · rw [show min (i + 1) n = i + 1 by omega]; exact pre_same (h q)
  · rw [show min (i + 1) n = i by omega]
