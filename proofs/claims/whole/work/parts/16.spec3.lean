/-! tables: pairs and ranges -/
def lk (a b : Nat → Int32) (x : Int32) : Nat → Int32
  | 0 => -1
  | z + 1 => if a z = x then b z else lk a b x z
theorem lk_none {a b : Nat → Int32} {x : Int32} : ∀ n, (∀ j, j < n → a j ≠ x) → lk a b x n = -1
  | 0, _ => rfl
  | n + 1, h => by
    simp only [lk]
    rw [if_neg (h n (Nat.lt_succ_self n))]
    exact lk_none n (fun j hj => h j (by omega))
theorem lk_at {a b : Nat → Int32} {x : Int32} {i : Nat} (hx : a i = x) : ∀ n, i < n → (∀ j, j < n → a j = x → j = i) → lk a b x n = b i
  | 0, h, _ => absurd h (Nat.not_lt_zero i)
  | n + 1, h, hu => by
    simp only [lk]
    by_cases q : a n = x
    · rw [if_pos q, hu n (Nat.lt_succ_self n) q]
    · rw [if_neg q]
      have hi : i < n := by
        rcases Nat.lt_or_ge i n with z | z
        · exact z
        · exact absurd (show a n = x by rw [show n = i by omega]; exact hx) q
      exact lk_at hx n hi (fun j hj => hu j (by omega))
def dst (n : Nat) (a : Nat → Int32) : Prop := ∀ i j, i < n → j < n → a i = a j → i = j
def ptn (n : Nat) (a b : Nat → Int32) (x : Int32) : Int32 := if lk a b x n = -1 then lk b a x n else lk a b x n
def clsOf (rf rl rk : Nat → Int32) (x : Int32) : Nat → Int32
  | 0 => 0
  | z + 1 => if ¬ x < rf z ∧ ¬ rl z < x then rk z else clsOf rf rl rk x z
theorem nI_dec (j : Nat) : nI j + Int32.ofInt (-1) = nI j - 1 := by rw [Int32.sub_eq_add_neg]; rfl
theorem nI_m1neg {z : Nat} (hz : z < 2 ^ 31) : nI z - 1 < 0 ↔ z = 0 := by
  cases z with
  | zero => exact ⟨fun _ => rfl, fun _ => nI_0m1⟩
  | succ j => rw [nI_pred]; exact ⟨fun q => absurd q (nI_pos (by omega)), fun q => by omega⟩
