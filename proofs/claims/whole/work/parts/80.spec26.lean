/-! 80: the model's line -/
theorem swp_o {b e t : Nat} {O LV : Nat → Nat} : swp b e t (fun j => LV (O j)) = fun j => LV (swp b e t O j) := by
  funext x
  simp only [swp]
  split <;> rfl
theorem rvs_o {b e : Nat} {O LV : Nat → Nat} : rvs b e (fun j => LV (O j)) = fun j => LV (rvs b e O j) := by
  funext x
  simp only [rvs]
  split <;> rfl
theorem rvs_id {b : Nat} {O : Nat → Nat} : rvs b b O = O := by
  funext x
  simp only [rvs]
  exact if_neg (by omega)
theorem trow_at {LV : Nat → Nat} {m v k : Nat} {O : Nat → Nat} (ht : (trS LV m v O k).1 = k) (h1 : m ≤ k) (h2 : k ≤ m + 1) : trow LV m v O = (trS LV m v O k).2 := by
  by_cases e : k = m + 1
  · rw [e]; rfl
  · have e2 : k = m := by omega
    subst e2
    show (if k = k ∨ _ then _ else _ : Nat × (Nat → Nat)).2 = _
    rw [if_pos (Or.inl rfl), ht]
    exact rvs_id
theorem oR2_snoc {a : Nat → Int32} {l : List Nat} {q : Nat} {LV : Nat → Nat} (h : oR a (fun j => LV (l.getD j 0)) l.length) : oR (upd a l.length (nI (LV q))) (fun j => LV ((l ++ [q]).getD j 0)) (l ++ [q]).length := by
  intro j hj
  rw [List.length_append, List.length_singleton] at hj
  simp only [List.getD_eq_getElem?_getD]
  by_cases z : j = l.length
  · subst z; rw [pk_us]; simp
  · rw [pk_un z, List.getElem?_append_left (by omega), ← List.getD_eq_getElem?_getD]; exact h j (by omega)
/-- from k on only blanks up to the end or to a separator -/
def scB (lv fst : Nat → Int32) : Nat → Nat → Prop
  | 0, _ => True
  | f + 1, k => if lv k < 0 ∨ lblk (fst k) then scB lv fst f (k + 1) else lprt (fst k)
def beM (lv fst : Nat → Int32) (to q : Nat) : Prop := lprt (fst q) ∨ ((lv q < 0 ∨ lblk (fst q)) ∧ scB lv fst (to - q) q)
noncomputable def lvM (lv fst : Nat → Int32) (base to q : Nat) : Nat := @ite _ (beM lv fst to q) (Classical.propDecidable _) base (lv q).toNatClampNeg
def ptO (p : Nat → Int32) (q : Nat) : Nat → Int32
  | 0 => -1
  | z + 1 => if ¬ nI q < p (4 * z) ∧ ¬ p (4 * z + 1) ≤ nI q then nI z else ptO p q z
def fndM (a : Nat → Int32) (q : Nat) : Nat → Int32
  | 0 => -1
  | z + 1 => if a z = nI q then nI z else fndM a q z
def snM (ch a b : Nat → Int32) (mn p v y : Nat) : Int32 := if y = 0 then nI p else if y = 1 then nI v else if v % 2 = 1 ∧ 0 ≤ mir a b (ch p) mn then mir a b (ch p) mn else ch p
def apF (f : Nat → Int32) (cn : Nat) (g : Nat → Int32) : Nat → Nat → Int32
  | 0 => f
  | i + 1 => upd (apF f cn g i) (cn + i) (g i)
theorem lprt_nb {k : Int32} (h : lprt k) : ¬ lblk k := by
  rintro (z | z | z)
  · rcases h with q | q <;> rw [q] at z <;> revert z <;> decide
  · rcases h with q | q <;> rw [q] at z <;> revert z <;> decide
  · rcases h with q | q <;> rw [q] at z <;> revert z <;> decide
/-- the class's flag is the model's look ahead -/
theorem lnS_scB {lv fst f0 : Nat → Int32} {base to : Nat} (hlv : ∀ q, q < to → lv q = -1 ∨ ¬ lv q < 0) : ∀ d, d ≤ to → ((lnS lv fst base to f0 d).1 = true ↔ scB lv fst d (to - d))
  | 0, _ => ⟨fun _ => trivial, fun _ => rfl⟩
  | d + 1, hd => by
    have ih := lnS_scB (fst := fst) (f0 := f0) (base := base) hlv d (by omega)
    simp only [lnS, scB]
    rw [show to - (d + 1) + 1 = to - d by omega]
    by_cases z : lv (to - (d + 1)) = -1
    · rw [if_pos z, if_pos (Or.inl (by rw [z]; decide))]; exact ih
    · rw [if_neg z]
      have hn : ¬ lv (to - (d + 1)) < 0 := (hlv _ (by omega)).resolve_left z
      simp only [nAt]
      by_cases hb : lblk (fst (to - (d + 1)))
      · have hp : ¬ lprt (fst (to - (d + 1))) := fun q => lprt_nb q hb
        rw [if_pos (Or.inr hb), decide_eq_false hp, decide_eq_true hb, Bool.and_true, Bool.false_or]; exact ih
      · rw [if_neg (fun q => q.elim hn hb), decide_eq_false hb, Bool.and_false, Bool.or_false, decide_eq_true_iff]
/-- a line's level, class and model -/
theorem lnS_at {lv fst f0 : Nat → Int32} {base to : Nat} : ∀ d q, to - d ≤ q → q < to → d ≤ to → (lnS lv fst base to f0 d).2 q = if lv q = -1 then -1 else if nAt (fst q) (lnS lv fst base to f0 (to - (q + 1))).1 = true then nI base else lv q
  | 0, q, h1, h2, _ => absurd h1 (by omega)
  | d + 1, q, h1, h2, h3 => by
    by_cases e : q = to - (d + 1)
    · subst e
      rw [show to - (to - (d + 1) + 1) = d by omega]
      simp only [lnS]
      split
      · exact pk_us
      · exact pk_us
    · have ih := lnS_at (lv := lv) (fst := fst) (f0 := f0) (base := base) d q (by omega) h2 (by omega)
      rw [← ih]
      simp only [lnS]
      split
      · exact pk_un e
      · exact pk_un e
theorem sh_tie {lv fst f0 : Nat → Int32} {base fr to q : Nat} (hlv : okV lv) (hto : to ≤ 2000) (hb : base ≤ 1) (h1 : fr ≤ q) (h2 : q < to) : (lv q = -1 → shL lv fst base fr to f0 q = -1) ∧ (lv q ≠ -1 → shL lv fst base fr to f0 q = nI (lvM lv fst base to q) ∧ lvM lv fst base to q ≤ 127) := by
  have hs : ∀ x, x < to → lv x = -1 ∨ ¬ lv x < 0 := fun x hx => by
    rcases hlv x (by omega) with z | ⟨v, v1, v2⟩
    · exact Or.inl z
    · rw [v2]; exact Or.inr (nI_pos (by omega))
  have e := lnS_at (lv := lv) (fst := fst) (f0 := f0) (base := base) (to := to) (to - fr) q (by omega) h2 (by omega)
  have hsc := lnS_scB (fst := fst) (f0 := f0) (base := base) hs (to - (q + 1)) (by omega)
  rw [show to - (to - (q + 1)) = q + 1 by omega] at hsc
  unfold shL
  rw [e]
  constructor
  · intro z; rw [if_pos z]
  · intro z
    rw [if_neg z]
    have hq := okV_n hlv (show q < 2000 by omega) z
    have hn : ¬ lv q < 0 := (hs q h2).resolve_left z
    have key : nAt (fst q) (lnS lv fst base to f0 (to - (q + 1))).1 = true ↔ beM lv fst to q := by
      unfold beM
      rw [show to - q = (to - (q + 1)) + 1 by omega]
      simp only [scB, nAt]
      rw [Bool.or_eq_true, Bool.and_eq_true, decide_eq_true_iff, decide_eq_true_iff, hsc]
      constructor
      · rintro (w | ⟨w1, w2⟩)
        · exact Or.inl w
        · exact Or.inr ⟨Or.inr w2, by rw [if_pos (Or.inr w2)]; exact w1⟩
      · rintro (w | ⟨w1, w2⟩)
        · exact Or.inl w
        · rw [if_pos w1] at w2
          exact Or.inr ⟨w2, w1.resolve_left hn⟩
    unfold lvM
    by_cases w : beM lv fst to q
    · rw [if_pos (key.mpr w), if_pos w]; exact ⟨rfl, by omega⟩
    · rw [if_neg (fun r => w (key.mp r)), if_neg w]; exact hq
