/-! the rules in words of mathematics: sequences are functions of places; h stands before, t behind -/
abbrev isol (k : Int32) : Prop := ¬ k < 19 ∧ ¬ 21 < k
abbrev isemb (k : Int32) : Prop := ¬ k < 14 ∧ ¬ 17 < k
abbrev isch (k : Int32) : Prop := ¬ k < 0 ∧ ¬ 1114111 < k
/-- W1 -/
def clsMark (h : Int32) (fst now : Nat → Int32) : Nat → Int32
  | 0 => h
  | j + 1 => if isol (fst j) ∨ fst j = 22 then 13 else now j
def w1 (h : Int32) (fst k : Nat → Int32) : Nat → Int32
  | 0 => if k 0 = 8 then h else k 0
  | j + 1 => if k (j + 1) = 8 then (if isol (fst j) ∨ fst j = 22 then 13 else w1 h fst k j) else k (j + 1)
theorem w1_eq (h : Int32) (fst k : Nat → Int32) (j : Nat) : w1 h fst k j = if k j = 8 then clsMark h fst (w1 h fst k) j else k j := by
  cases j <;> rfl
theorem clsMark_pre (h : Int32) (fst F F0 : Nat → Int32) (i : Nat) : clsMark h fst (pre i F F0) i = clsMark h fst F i := by
  cases i with
  | zero => rfl
  | succ j => simp only [clsMark]; rw [pre_lo (Nat.lt_succ_self j)]
/-- W2 -/
abbrev strg (k : Int32) : Prop := k = 0 ∨ k = 1 ∨ k = 2
def lastS (h : Int32) (k : Nat → Int32) : Nat → Int32
  | 0 => h
  | j + 1 => if strg (k j) then k j else lastS h k j
def w2 (h : Int32) (k : Nat → Int32) (j : Nat) : Int32 := if k j = 3 ∧ lastS h k j = 2 then 6 else k j
/-- W3 -/
def w3 (k : Nat → Int32) (j : Nat) : Int32 := if k j = 2 then 1 else k j
/-- W4 -/
def btw (n : Nat) (now k : Nat → Int32) (i : Nat) (x : Int32) : Prop := 0 < i ∧ now (i - 1) = x ∧ i + 1 < n ∧ k (i + 1) = x
noncomputable def w4s (n : Nat) (now k : Nat → Int32) (i : Nat) : Int32 :=
  @ite _ ((k i = 4 ∨ k i = 7) ∧ btw n now k i 3) (Classical.propDecidable _) 3 (@ite _ (k i = 7 ∧ btw n now k i 6) (Classical.propDecidable _) 6 (k i))
noncomputable def w4 (n : Nat) (k : Nat → Int32) : Nat → Int32
  | 0 => k 0
  | j + 1 => w4s n (fun a => if a = j then w4 n k j else 0) k (j + 1)
theorem w4s_0 (n : Nat) (now k : Nat → Int32) : w4s n now k 0 = k 0 := by
  unfold w4s
  rw [if_neg (fun q => absurd q.2.1 (Nat.lt_irrefl 0)), if_neg (fun q => absurd q.2.1 (Nat.lt_irrefl 0))]
theorem btw_congr {n i : Nat} {now now' k : Nat → Int32} {x : Int32} (h : 0 < i → now (i - 1) = now' (i - 1)) : btw n now k i x ↔ btw n now' k i x := by
  unfold btw
  constructor
  · intro q; exact ⟨q.1, (h q.1) ▸ q.2.1, q.2.2⟩
  · intro q; exact ⟨q.1, (h q.1).symm ▸ q.2.1, q.2.2⟩
theorem w4s_congr {n i : Nat} {now now' k : Nat → Int32} (h : 0 < i → now (i - 1) = now' (i - 1)) : w4s n now k i = w4s n now' k i := by
  unfold w4s
  rw [propext (btw_congr (x := 3) h), propext (btw_congr (x := 6) h)]
theorem w4_eq (n : Nat) (k : Nat → Int32) (i : Nat) : w4 n k i = w4s n (w4 n k) k i := by
  cases i with
  | zero => exact (w4s_0 n (w4 n k) k).symm
  | succ j => exact w4s_congr (fun _ => by simp)
/-- W5 -/
def nexE (n : Nat) (k : Nat → Int32) (j : Nat) : Prop := (∃ a, a < j ∧ k a = 3 ∧ ∀ b, a < b → b < j → k b = 5) ∨ (∃ a, j < a ∧ a < n ∧ k a = 3 ∧ ∀ b, j < b → b < a → k b = 5)
noncomputable def w5 (n : Nat) (k : Nat → Int32) (j : Nat) : Int32 := @ite _ (k j = 5 ∧ nexE n k j) (Classical.propDecidable _) 3 (k j)
/-- W6 -/
def w6 (k : Nat → Int32) (j : Nat) : Int32 := if k j = 4 ∨ k j = 5 ∨ k j = 7 then 13 else k j
/-- W7 -/
def lastD (h : Int32) (k : Nat → Int32) : Nat → Int32
  | 0 => h
  | j + 1 => if k j = 0 ∨ k j = 1 then k j else lastD h k j
def w7 (h : Int32) (k : Nat → Int32) (j : Nat) : Int32 := if k j = 3 ∧ lastD h k j = 0 then 0 else k j
/-- the side that a class gives in N0 to N2 -/
def sd (k : Int32) : Int32 := if k = 0 then 0 else if k = 1 ∨ k = 3 ∨ k = 6 then 1 else -1
def prevS (h : Int32) (k : Nat → Int32) : Nat → Int32
  | 0 => h
  | j + 1 => if sd (k j) = -1 then prevS h k j else sd (k j)
/-- a place of a row, by Java's own number -/
def nowAt (n : Nat) (f : Nat → Int32) (x v : Int32) : Prop := ¬ x < 0 ∧ ¬ nI n ≤ x ∧ f x.toNatClampNeg = v
theorem nowAt_n {n j : Nat} {f : Nat → Int32} {v : Int32} (hn : n < 2 ^ 31) (hj : j < 2 ^ 31) : nowAt n f (nI j) v ↔ j < n ∧ f j = v := by
  unfold nowAt
  rw [nI_clamp hj]
  constructor
  · intro q; exact ⟨Nat.not_le.mp fun z => q.2.1 (nI_le z hj), q.2.2⟩
  · intro q; exact ⟨nI_pos hj, nI_ge q.1 hn, q.2⟩
theorem nI_0m1 : nI 0 - 1 < 0 := by decide
theorem nowAt_p {n i : Nat} {f : Nat → Int32} {v : Int32} (hn : n < 2 ^ 31) (hi : i < 2 ^ 31) : nowAt n f (nI i - 1) v ↔ 0 < i ∧ i - 1 < n ∧ f (i - 1) = v := by
  cases i with
  | zero => exact ⟨fun q => absurd nI_0m1 q.1, fun q => absurd q.1 (Nat.lt_irrefl 0)⟩
  | succ j =>
    rw [nI_pred, nowAt_n hn (by omega)]
    simp
