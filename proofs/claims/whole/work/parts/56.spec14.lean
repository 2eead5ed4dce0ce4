/-! the model's weak rules are in place: what it reads while it works is what the rules mean -/
theorem lastS_w2 {h : Int32} {K : Nat → Int32} : ∀ i m, i ≤ m → lastS h (pre m (w2 h K) K) i = lastS h K i
  | 0, _, _ => rfl
  | i + 1, m, hm => by
    have ih := lastS_w2 (h := h) (K := K) i m (by omega)
    simp only [lastS]
    rw [ih, pre_lo (show i < m by omega)]
    unfold w2
    by_cases q : K i = 3 ∧ lastS h K i = 2
    · rw [if_pos q, if_neg (by decide), if_neg (by rw [q.1]; decide)]
    · rw [if_neg q]
theorem w4_first {n : Nat} {K : Nat → Int32} : pre 1 (w4 n K) K = K := by
  rw [← pre_same (i := 0) (f := w4 n K) (f0 := K) rfl, pre_0]
theorem w4_last {n i : Nat} {K : Nat → Int32} (h : n ≤ i + 1) (hi : i ≤ n) : pre i (w4 n K) K = pre n (w4 n K) K := by
  refine pre_ext hi (fun j h1 h2 => ?_)
  rw [w4_eq]
  unfold w4s
  rw [if_neg (fun q => by have := q.2.2.2.1; omega), if_neg (fun q => by have := q.2.2.2.1; omega)]
theorem nexE_row {n a i : Nat} {K : Nat → Int32} (ha : a < i) (h5 : ∀ b, a ≤ b → b ≤ i → K b = 5) (h : nexE n K a) : nexE n K i := by
  rcases h with ⟨c, e1, e2, e3⟩ | ⟨c, e1, e2, e3, e4⟩
  · refine Or.inl ⟨c, by omega, e2, fun b x1 x2 => ?_⟩
    rcases Nat.lt_or_ge b a with q | q
    · exact e3 b x1 q
    · exact h5 b q (by omega)
  · refine Or.inr ⟨c, ?_, e2, e3, fun b x1 x2 => e4 b (by omega) x2⟩
    rcases Nat.lt_or_ge i c with q | q
    · exact q
    · have := h5 c (by omega) q
      rw [e3] at this
      exact absurd this (by decide)
theorem nexE_pre {n i : Nat} {K : Nat → Int32} (hi : i < n) (h5 : K i = 5) : nexE n (pre i (w5 n K) K) i ↔ nexE n K i := by
  have hv : ∀ b, b < i → pre i (w5 n K) K b = w5 n K b := fun b hb => pre_lo hb
  have hu : ∀ b, i ≤ b → pre i (w5 n K) K b = K b := fun b hb => pre_hi hb
  have h55 : ∀ b, w5 n K b = 5 → K b = 5 := fun b e => by
    unfold w5 at e
    split at e
    · exact absurd e (by decide)
    · exact e
  constructor
  · rintro (⟨a, e1, e2, e3⟩ | ⟨a, e1, e2, e3, e4⟩)
    · have hb : ∀ b, a < b → b < i → K b = 5 := fun b x1 x2 => h55 b (by rw [← hv b x2]; exact e3 b x1 x2)
      rw [hv a e1] at e2
      unfold w5 at e2
      split at e2
      · rename_i hq
        refine nexE_row e1 (fun b x1 x2 => ?_) hq.2
        rcases Nat.eq_or_lt_of_le x1 with q | q
        · rw [← q]; exact hq.1
        · rcases Nat.lt_or_ge b i with w | w
          · exact hb b q w
          · rw [show b = i by omega]; exact h5
      · exact Or.inl ⟨a, e1, e2, hb⟩
    · exact Or.inr ⟨a, e1, e2, by rw [← hu a (by omega)]; exact e3, fun b x1 x2 => by rw [← hu b (by omega)]; exact e4 b x1 x2⟩
  · rintro (⟨a, e1, e2, e3⟩ | ⟨a, e1, e2, e3, e4⟩)
    · rcases Nat.lt_or_ge a (i - 1) with q | q
      · refine Or.inl ⟨i - 1, by omega, ?_, fun b x1 x2 => absurd x2 (by omega)⟩
        rw [hv (i - 1) (by omega)]
        unfold w5
        exact if_pos ⟨e3 (i - 1) q (by omega), Or.inl ⟨a, q, e2, fun b x1 x2 => e3 b x1 (by omega)⟩⟩
      · refine Or.inl ⟨a, e1, ?_, fun b x1 x2 => absurd x2 (by omega)⟩
        rw [hv a e1, w5_ne (by rw [e2]; decide)]
        exact e2
    · exact Or.inr ⟨a, e1, e2, by rw [hu a (by omega)]; exact e3, fun b x1 x2 => by rw [hu b (by omega)]; exact e4 b x1 x2⟩
theorem lastS_w7 {h : Int32} {K : Nat → Int32} {n : Nat} (h2 : ∀ j, j < n → ¬ K j = 2) : ∀ i m, i ≤ m → i ≤ n → lastS h (pre m (w7 h K) K) i = lastD h K i
  | 0, _, _, _ => rfl
  | i + 1, m, hm, hn => by
    have ih := lastS_w7 (h := h) h2 i m (by omega) (by omega)
    simp only [lastS, lastD]
    rw [ih, pre_lo (show i < m by omega)]
    unfold w7
    by_cases q : K i = 3 ∧ lastD h K i = 0
    · rw [if_pos q, if_pos (Or.inl rfl), if_neg (by rw [q.1]; decide), q.2]
    · rw [if_neg q]
      by_cases z : K i = 0 ∨ K i = 1
      · rw [if_pos z, if_pos (z.elim Or.inl (fun y => Or.inr (Or.inl y)))]
      · rw [if_neg z, if_neg (fun y => y.elim (fun w => z (Or.inl w)) (fun y => y.elim (fun w => z (Or.inr w)) (h2 i (by omega))))]
/-- no AL is left behind W3 -/
theorem no2_3 {n : Nat} {K : Nat → Int32} : ∀ j, j < n → ¬ wk3 n K j = 2 := fun j hj => by
  unfold wk3
  rw [pre_lo hj]
  unfold w3
  split
  · decide
  · assumption
theorem no2_4 {n : Nat} {K : Nat → Int32} (h : ∀ j, j < n → ¬ K j = 2) : ∀ j, j < n → ¬ wk4 n K j = 2 := fun j hj => by
  unfold wk4
  rw [pre_lo hj, w4_eq]
  unfold w4s
  split
  · decide
  · split
    · decide
    · exact h j hj
theorem no2_5 {n : Nat} {K : Nat → Int32} (h : ∀ j, j < n → ¬ K j = 2) : ∀ j, j < n → ¬ wk5 n K j = 2 := fun j hj => by
  unfold wk5
  rw [pre_lo hj]
  unfold w5
  split
  · decide
  · exact h j hj
theorem no2_6 {n : Nat} {K : Nat → Int32} (h : ∀ j, j < n → ¬ K j = 2) : ∀ j, j < n → ¬ wk6 n K j = 2 := fun j hj => by
  unfold wk6
  rw [pre_lo hj]
  unfold w6
  split
  · decide
  · exact h j hj
