/-! the line -/
def oR (a : Nat → Int32) (O : Nat → Nat) (m : Nat) : Prop := ∀ j, j < m → a j = nI (O j)
def rvs (b e : Nat) (O : Nat → Nat) : Nat → Nat := fun x => if b ≤ x ∧ x < e then O (b + e - 1 - x) else O x
def swp (b e t : Nat) (O : Nat → Nat) : Nat → Nat := fun x => if (b ≤ x ∧ x < b + t) ∨ (e - t ≤ x ∧ x < e) then O (b + e - 1 - x) else O x
theorem swp_0 {b e : Nat} {O : Nat → Nat} : swp b e 0 O = O := by
  funext x
  simp only [swp]
  rw [if_neg (by omega)]
theorem swp_e {b e t : Nat} {O : Nat → Nat} (h : e - t ≤ b + t + 1) (h2 : 2 * t ≤ e - b) : swp b e t O = rvs b e O := by
  funext x
  simp only [swp, rvs]
  by_cases q : b ≤ x ∧ x < e
  · rw [if_pos q]
    by_cases z : (b ≤ x ∧ x < b + t) ∨ (e - t ≤ x ∧ x < e)
    · rw [if_pos z]
    · rw [if_neg z, show b + e - 1 - x = x by omega]
  · rw [if_neg q, if_neg (by omega)]
theorem swp_s {a : Nat → Int32} {b e t m : Nat} {O : Nat → Nat} (h : oR a (swp b e t O) m) (h1 : b + t + 1 < e - t) (h2 : 2 * t ≤ e - b) (he : e ≤ m) : oR (upd (upd a (b + t) (a (e - t - 1))) (e - t - 1) (a (b + t))) (swp b e (t + 1) O) m := by
  intro j hj
  by_cases q : j = e - t - 1
  · subst q
    rw [pk_us, h (b + t) (by omega)]
    simp only [swp]
    rw [if_neg (by omega), if_pos (by omega), show b + e - 1 - (e - t - 1) = b + t by omega]
  · rw [pk_un q]
    by_cases z : j = b + t
    · subst z
      rw [pk_us, h (e - t - 1) (by omega)]
      simp only [swp]
      rw [if_neg (by omega), if_pos (by omega), show b + e - 1 - (b + t) = e - t - 1 by omega]
    · rw [pk_un z, h j hj]
      simp only [swp]
      by_cases w : (b ≤ j ∧ j < b + t) ∨ (e - t ≤ j ∧ j < e)
      · rw [if_pos w, if_pos (by omega)]
      · rw [if_neg w, if_neg (by omega)]
theorem nI_m1le {z a : Nat} (hz : z < 2 ^ 31) (ha : a < 2 ^ 31) : nI z - 1 ≤ nI a ↔ z ≤ a + 1 := by
  cases z with
  | zero => exact ⟨fun _ => by omega, fun _ => Int32.le_of_lt (Int32.lt_of_lt_of_le nI_0m1 (nI_pos' ha))⟩
  | succ j => rw [nI_pred, nI_leI (by omega) ha]; omega
theorem nI_p1 {z : Nat} (h : 0 < z) : nI z - 1 = nI (z - 1) := by
  obtain ⟨j, rfl⟩ : ∃ j, z = j + 1 := ⟨z - 1, by omega⟩
  rw [nI_pred, Nat.add_sub_cancel]
/-- rows of at least a level are turned round: (where a row begins, the order) behind i steps -/
def trS (LV : Nat → Nat) (m v : Nat) (O : Nat → Nat) : Nat → Nat × (Nat → Nat)
  | 0 => (0, O)
  | i + 1 => if i = m ∨ LV ((trS LV m v O i).2 i) < v then (i + 1, rvs (trS LV m v O i).1 i (trS LV m v O i).2) else trS LV m v O i
def trow (LV : Nat → Nat) (m v : Nat) (O : Nat → Nat) : Nat → Nat := (trS LV m v O (m + 1)).2
theorem trS_b (LV : Nat → Nat) (m v : Nat) (O : Nat → Nat) : ∀ i, (trS LV m v O i).1 ≤ i
  | 0 => Nat.le_refl 0
  | i + 1 => by
    have := trS_b LV m v O i
    simp only [trS]
    split
    · exact Nat.le_refl _
    · omega
def pos2 (m : Nat) (O : Nat → Nat) (cn : Nat) : Prop := ∀ j, j < m → O j < cn
theorem rvs_pos {m b e cn : Nat} {O : Nat → Nat} (h : pos2 m O cn) (he : e ≤ m) : pos2 m (rvs b e O) cn := by
  intro j hj
  simp only [rvs]
  split
  · exact h _ (by omega)
  · exact h j hj
theorem trS_pos {LV : Nat → Nat} {m v cn : Nat} {O : Nat → Nat} (h : pos2 m O cn) : ∀ i, i ≤ m + 1 → pos2 m (trS LV m v O i).2 cn
  | 0, _ => h
  | i + 1, hi => by
    have ih := trS_pos (LV := LV) (v := v) h i (by omega)
    simp only [trS]
    split
    · exact rvs_pos ih (by omega)
    · exact ih
def dn (LV : Nat → Nat) (m lo : Nat) : Nat → (Nat → Nat) → Nat → Nat
  | 0, O => O
  | z + 1, O => if z < lo then O else dn LV m lo z (trow LV m z O)
/-- positions of a line that are left -/
def lineL (lv : Nat → Int32) (fr : Nat) : Nat → List Nat
  | 0 => []
  | d + 1 => if lv (fr + d) = -1 then lineL lv fr d else lineL lv fr d ++ [fr + d]
theorem lineL_len (lv : Nat → Int32) (fr : Nat) : ∀ d, (lineL lv fr d).length ≤ d
  | 0 => Nat.le_refl 0
  | d + 1 => by
    have := lineL_len lv fr d
    simp only [lineL]
    split
    · omega
    · rw [List.length_append]; simp only [List.length_singleton]; omega
theorem oR_snoc {a : Nat → Int32} {l : List Nat} {q : Nat} (h : oR a (fun j => l.getD j 0) l.length) : oR (upd a l.length (nI q)) (fun j => (l ++ [q]).getD j 0) (l ++ [q]).length := by
  intro j hj
  rw [List.length_append, List.length_singleton] at hj
  simp only [List.getD_eq_getElem?_getD]
  by_cases z : j = l.length
  · subst z; rw [pk_us]; simp
  · rw [pk_un z, List.getElem?_append_left (by omega), ← List.getD_eq_getElem?_getD]; exact h j (by omega)
def plc (O : Nat → Nat) (f0 : Nat → Int32) : Nat → Nat → Int32
  | 0 => f0
  | i + 1 => upd (plc O f0 i) (O i) (nI i)
