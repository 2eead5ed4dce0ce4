/-! which classes are left behind the weak rules and N0 -/
def kL0 : List Int32 := [0, 1, 2, 3, 4, 5, 6, 7, 8, 10, 11, 12, 13, 19, 20, 21, 22]
def kL1 : List Int32 := [0, 1, 2, 3, 4, 5, 6, 7, 10, 11, 12, 13, 19, 20, 21, 22]
def kL2 : List Int32 := [0, 1, 3, 4, 5, 6, 7, 10, 11, 12, 13, 19, 20, 21, 22]
def kL3 : List Int32 := [0, 1, 3, 6, 10, 11, 12, 13, 19, 20, 21, 22]
theorem kL_1 {k : Int32} (h : k ∈ kL0) (h8 : ¬ k = 8) : k ∈ kL1 := by
  have w : k ∈ kL0.filter (fun x => decide (¬ x = 8)) := List.mem_filter.mpr ⟨h, decide_eq_true h8⟩
  have e : kL0.filter (fun x => decide (¬ x = 8)) = kL1 := by decide
  rwa [e] at w
theorem kL_2 {k : Int32} (h : k ∈ kL1) (h8 : ¬ k = 2) : k ∈ kL2 := by
  have w : k ∈ kL1.filter (fun x => decide (¬ x = 2)) := List.mem_filter.mpr ⟨h, decide_eq_true h8⟩
  have e : kL1.filter (fun x => decide (¬ x = 2)) = kL2 := by decide
  rwa [e] at w
theorem kL_3 {k : Int32} (h : k ∈ kL2) (h8 : ¬ (k = 4 ∨ k = 5 ∨ k = 7)) : k ∈ kL3 := by
  have w : k ∈ kL2.filter (fun x => decide (¬ (x = 4 ∨ x = 5 ∨ x = 7))) := List.mem_filter.mpr ⟨h, decide_eq_true h8⟩
  have e : kL2.filter (fun x => decide (¬ (x = 4 ∨ x = 5 ∨ x = 7))) = kL3 := by decide
  rwa [e] at w
def inL (n : Nat) (L : List Int32) (f : Nat → Int32) : Prop := ∀ j, j < n → f j ∈ L
theorem inL_pre {n : Nat} {L : List Int32} {f k : Nat → Int32} (h : inL n L f) : inL n L (pre n f k) := fun j hj => by rw [pre_lo hj]; exact h j hj
theorem h_in {h : Int32} (hh : h = 0 ∨ h = 1) {L : List Int32} (h0 : (0 : Int32) ∈ L) (h1 : (1 : Int32) ∈ L) : h ∈ L := by rcases hh with q | q <;> (rw [q]; assumption)
theorem w1_in {n : Nat} {h : Int32} {s k : Nat → Int32} (hh : h = 0 ∨ h = 1) (hk : inL n kL0 k) : inL n kL1 (w1 h s k) := by
  intro j
  induction j with
  | zero =>
    intro hj
    simp only [w1]
    split
    · exact h_in hh (by decide) (by decide)
    · rename_i q; exact kL_1 (hk 0 hj) q
  | succ j ih =>
    intro hj
    simp only [w1]
    split
    · split
      · decide
      · exact ih (by omega)
    · rename_i q; exact kL_1 (hk _ hj) q
theorem w4_in {n : Nat} {k : Nat → Int32} (hk : inL n kL2 k) : inL n kL2 (w4 n k) := by
  intro j hj
  rw [w4_eq]
  unfold w4s
  split
  · decide
  · split
    · decide
    · exact hk j hj
theorem weak_in {n : Nat} {h : Int32} {s k : Nat → Int32} (hh : h = 0 ∨ h = 1) (hk : inL n kL0 k) : inL n kL3 (weak n h s k) := by
  have a1 : inL n kL1 (wk1 n h s k) := inL_pre (w1_in hh hk)
  have a2 : inL n kL1 (wk2 n h (wk1 n h s k)) := inL_pre (fun j hj => by
    unfold w2
    split
    · decide
    · exact a1 j hj)
  have a3 : inL n kL2 (wk3 n (wk2 n h (wk1 n h s k))) := inL_pre (fun j hj => by
    unfold w3
    split
    · decide
    · rename_i q; exact kL_2 (a2 j hj) q)
  have a4 : inL n kL2 (wk4 n (wk3 n (wk2 n h (wk1 n h s k)))) := inL_pre (w4_in a3)
  have a5 : inL n kL2 (wk5 n (wk4 n (wk3 n (wk2 n h (wk1 n h s k))))) := inL_pre (fun j hj => by
    unfold w5
    split
    · decide
    · exact a4 j hj)
  have a6 : inL n kL3 (wk6 n (wk5 n (wk4 n (wk3 n (wk2 n h (wk1 n h s k)))))) := inL_pre (fun j hj => by
    unfold w6
    split
    · decide
    · rename_i q; exact kL_3 (a5 j hj) q)
  exact inL_pre (fun j hj => by
    unfold w7
    split
    · decide
    · exact a6 j hj)
theorem n0_in {n : Nat} {h d : Int32} {kb pr now : Nat → Int32} (hh : h = 0 ∨ h = 1) (hd : d = 0 ∨ d = 1) (hk : inL n kL3 now) : ∀ i, inL n kL3 (n0 kb n h d pr now i)
  | 0 => hk
  | i + 1 => by
    have ih := n0_in (kb := kb) (pr := pr) hh hd hk i
    simp only [n0]
    split
    · exact ih
    · unfold settle
      split
      · have hb : bdir (n0 kb n h d pr now i) h d i (pr i).toNatClampNeg ∈ kL3 := by
          unfold bdir
          split
          · exact h_in hd (by decide) (by decide)
          · exact h_in (prevS_01 hh i) (by decide) (by decide)
        intro j hj
        unfold giveN rng
        split
        · exact hb
        · split
          · exact hb
          · exact ih j hj
      · exact ih
theorem okN_in {k : Int32} (h : k ∈ kL3) : okN k := by
  unfold kL3 at h
  simp only [List.mem_cons, List.not_mem_nil, or_false] at h
  unfold okN neut sd
  rcases h with q | q | q | q | q | q | q | q | q | q | q | q <;> (rw [q]; decide)
theorem sqM_of {n : Nat} {h t d : Int32} {s ch : Nat → Int32} {oth : Int32 → Int32} {k f0 y : Nat → Int32} {P : Nat → Nat} (hN : n ≤ 2000) : wrt P (n12 n h t d (n0 k n h d (bfind (weak n h s k) ch oth (n - 0) 0 [] (pre n (fun _ => -1) y)) (weak n h s k) n)) f0 n = wrt P (sqK n h t d s ch oth k) f0 n := by
  refine wrt_agr (n := n) (n12_agr ?_) n (Nat.le_refl n)
  have ab := bfind_agr (oth := oth) (fun _ _ => rfl : agr n (weak n h s k) (weak n h s k)) (fun _ _ => rfl : agr n ch ch) (n - 0) 0 [] (pre n (fun _ => -1) y) (fun _ => -1) (by omega) agr_pre
  exact n0_agr (fun _ _ => rfl) ab (fun _ _ => rfl) (bfind_ok (n - 0) 0 [] _ (by omega) (fun j hj => Or.inl (pre_lo hj))) hN n (Nat.le_refl n)
