/-! 69: rows of places -/
def sP (a : Nat → Int32) (acc : List Nat) : Prop := ∀ j, j < acc.length → a j = nI (acc.getD j 0)
theorem sP_push {a : Nat → Int32} {acc : List Nat} {q : Nat} (h : sP a acc) : sP (upd a acc.length (nI q)) (acc ++ [q]) := by
  intro j hj
  simp only [List.length_append, List.length_singleton] at hj
  simp only [List.getD_eq_getElem?_getD]
  by_cases z : j = acc.length
  · subst z; rw [pk_us]; simp
  · rw [pk_un z, List.getElem?_append_left (by omega), ← List.getD_eq_getElem?_getD]
    exact h j (by omega)
def bk (V : List (List Nat)) (b i : Nat) : Int32 := if 0 < i then nI (LFn V (i - 1)) else nI b - 1
def nxP (V : List (List Nat)) (pe i : Nat) : Nat := if i < tot V then LFn V i else pe
theorem bk_of {lv : Nat → Int32} {b pe i : Nat} (hb : b ≤ pe) (hs : lvS lv b pe) (hi : i < tot (rv lv b (pe - b))) : nI (lbZ lv b (LFn (rv lv b (pe - b)) i)) - 1 = bk (rv lv b (pe - b)) b i := by
  rw [lbZ_LF hb hs hi]
  unfold bk
  by_cases h : 0 < i
  · rw [if_pos h, if_pos h]; exact nI_pred _
  · rw [if_neg h, if_neg h]
theorem nx_of {lv : Nat → Int32} {b pe i : Nat} (hb : b ≤ pe) (hs : lvS lv b pe) (hi : i < tot (rv lv b (pe - b))) : lfr lv (pe - (LFn (rv lv b (pe - b)) i + 1)) (LFn (rv lv b (pe - b)) i + 1) = nxP (rv lv b (pe - b)) pe (i + 1) := lfr_LF hb hs hi
theorem nI_m1lts {b : Nat} (h : b < 2 ^ 31) : nI b - 1 < nI b := by
  cases b with
  | zero => decide
  | succ b => rw [nI_pred]; exact nI_lt (by omega) h
theorem bk_lt {V : List (List Nat)} {b i : Nat} (hb : b < 2 ^ 31) (h : bk V b i < nI b) (hp : 0 < i → b ≤ LFn V (i - 1) ∧ LFn V (i - 1) < 2 ^ 31) : i = 0 := by
  unfold bk at h
  by_cases z : 0 < i
  · rw [if_pos z] at h
    have := (nI_ltI (hp z).2 hb).mp h
    have := (hp z).1
    omega
  · omega
theorem bk_ge {V : List (List Nat)} {b i : Nat} (hb : b < 2 ^ 31) (h : ¬ bk V b i < nI b) : 0 < i ∧ bk V b i = nI (LFn V (i - 1)) := by
  unfold bk at h ⊢
  by_cases z : 0 < i
  · exact ⟨z, if_pos z⟩
  · rw [if_neg z] at h; exact absurd (nI_m1lts hb) h
theorem sP_lastg {y : Nat → Int32} {l : List Nat} {z : Nat} (h : sP y (l ++ [z])) : y ((l ++ [z]).length - 1) = nI z := by
  have := h l.length (by simp)
  simp only [List.length_append, List.length_singleton, Nat.add_sub_cancel]
  rw [this]; simp
theorem sP_last {y : Nat → Int32} {V : List (List Nat)} {pr : List Nat} {r n : Nat} (hv : vlt n V) (hr : r < V.length) (h : sP y (pr ++ runAt V r)) : y ((pr ++ runAt V r).length - 1) = nI (lastP V r) := by
  have hp := runAt_pos hv hr
  rw [h _ (by rw [List.length_append]; omega)]
  congr 1
  simp only [List.getD_eq_getElem?_getD, List.length_append]
  rw [List.getElem?_append_right (by omega), show pr.length + (runAt V r).length - 1 - pr.length = (runAt V r).length - 1 by omega, ← List.getD_eq_getElem?_getD, ← (runAt_flat (t := (runAt V r).length - 1) hr (by omega)).1]
  unfold lastP
  rw [show off V r + ((runAt V r).length - 1) = off V r + (runAt V r).length - 1 by omega]
theorem SQ_first {V : List (List Nat)} {fst mt : Nat → Int32} {r n : Nat} (hv : vlt n V) (hi : incR V fst mt) (hr : r < V.length) : (SQ V fst mt r).getD 0 0 = LFn V (off V r) ∧ 0 < (SQ V fst mt r).length := by
  have hp := runAt_pos hv hr
  rw [SQ_eq hi hr]
  refine ⟨?_, by rw [List.length_append]; omega⟩
  rw [List.getD_eq_getElem?_getD, List.getElem?_append_left hp, ← List.getD_eq_getElem?_getD]
  exact ((runAt_flat (t := 0) hr hp).1).symm
