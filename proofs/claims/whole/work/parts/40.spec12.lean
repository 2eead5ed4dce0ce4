/-! the line's levels -/
abbrev lprt (k : Int32) : Prop := k = 11 ∨ k = 10
abbrev lblk (k : Int32) : Prop := k = 12 ∨ isol k ∨ k = 22
def nAt (k : Int32) (ae : Bool) : Bool := decide (lprt k) || (ae && decide (lblk k))
def bz (b : Bool) : Int32 := if b = true then 1 else 0
def lnS (lv fst : Nat → Int32) (base to : Nat) (f0 : Nat → Int32) : Nat → Bool × (Nat → Int32)
  | 0 => (true, f0)
  | d + 1 => if lv (to - (d + 1)) = -1 then ((lnS lv fst base to f0 d).1, upd (lnS lv fst base to f0 d).2 (to - (d + 1)) (-1)) else (nAt (fst (to - (d + 1))) (lnS lv fst base to f0 d).1, upd (lnS lv fst base to f0 d).2 (to - (d + 1)) (if nAt (fst (to - (d + 1))) (lnS lv fst base to f0 d).1 = true then nI base else lv (to - (d + 1))))
theorem lnS_s {lv fst f0 : Nat → Int32} {base to j : Nat} (h : j < to) : lnS lv fst base to f0 (to - j) = if lv j = -1 then ((lnS lv fst base to f0 (to - (j + 1))).1, upd (lnS lv fst base to f0 (to - (j + 1))).2 j (-1)) else (nAt (fst j) (lnS lv fst base to f0 (to - (j + 1))).1, upd (lnS lv fst base to f0 (to - (j + 1))).2 j (if nAt (fst j) (lnS lv fst base to f0 (to - (j + 1))).1 = true then nI base else lv j)) := by
  obtain ⟨d, hd⟩ : ∃ d, to - j = d + 1 := ⟨to - j - 1, by omega⟩
  rw [hd, show to - (j + 1) = d by omega]
  simp only [lnS]
  rw [show to - (d + 1) = j by omega]
theorem upd_2 {f : Nat → Int32} {i : Nat} {a b : Int32} : upd (upd f i a) i b = upd f i b := by
  funext j
  by_cases h : j = i
  · rw [h, pk_us, pk_us]
  · rw [pk_un h, pk_un h, pk_un h]
theorem bz_0 {b : Bool} (h : bz b = 0) : b = false := z_false h
theorem bz_1 {b : Bool} (h : ¬ bz b = 0) : b = true := z_true h
theorem nI_m1lt {z a : Nat} (hz : z < 2 ^ 31) (ha : a < 2 ^ 31) : nI z - 1 < nI a ↔ z < a + 1 := by
  cases z with
  | zero => exact ⟨fun _ => by omega, fun _ => Int32.lt_of_lt_of_le nI_0m1 (nI_pos' ha)⟩
  | succ j => rw [nI_pred, nI_ltI (by omega) ha]; omega
def hiZ (LV O : Nat → Nat) : Nat → Nat
  | 0 => 0
  | i + 1 => max (hiZ LV O i) (LV (O i) + 1)
def loN (LV O : Nat → Nat) : Nat → Nat
  | 0 => 127
  | i + 1 => if LV (O i) % 2 = 1 then min (loN LV O i) (LV (O i)) else loN LV O i
theorem max_m1 {z a : Nat} (hz : z < 2 ^ 31) (ha : a + 1 < 2 ^ 31) : (if nI z - 1 < nI a then nI a else nI z - 1) = nI (max z (a + 1)) - 1 := by
  by_cases h : z < a + 1
  · rw [if_pos ((nI_m1lt hz (by omega)).mpr h), show max z (a + 1) = a + 1 by omega, nI_pred]
  · rw [if_neg (fun q => h ((nI_m1lt hz (by omega)).mp q)), show max z (a + 1) = z by omega]
theorem hiZ_le {LV O : Nat → Nat} {m : Nat} (h : ∀ j, j < m → LV (O j) ≤ 127) : ∀ i, i ≤ m → hiZ LV O i ≤ 128
  | 0, _ => by simp [hiZ]
  | i + 1, hi => by
    have := hiZ_le h i (by omega)
    have h2 := h i (by omega)
    simp only [hiZ]; omega
theorem loN_le {LV O : Nat → Nat} : ∀ i, loN LV O i ≤ 127
  | 0 => Nat.le_refl _
  | i + 1 => by
    have := loN_le (LV := LV) (O := O) i
    simp only [loN]
    split <;> omega
