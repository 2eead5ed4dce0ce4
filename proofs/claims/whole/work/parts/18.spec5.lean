/-! explicit levels: a state is (entries, too many isolates, too many embeddings, open isolates); an entry (level, override, isolate's) -/
abbrev XE : Type := Nat × Int32 × Bool
abbrev XS : Type := List XE × Nat × Nat × Nat
def nxt (lv : Nat) (d : Int32) : Nat := if nI ((lv + 1) % 2) = d then lv + 1 else lv + 1 + 1
def canO (nx xi xe : Nat) : Prop := nx ≤ 125 ∧ xi = 0 ∧ xe = 0
def emD (k : Int32) : Int32 := if k = 16 ∨ k = 17 then 1 else 0
def emO (k : Int32) : Int32 := if k = 17 then 1 else if k = 15 then 0 else -1
noncomputable def xEmb (k : Int32) (X : XS) : XS :=
  @ite _ (canO (nxt (X.1.headD (0, -1, false)).1 (emD k)) X.2.1 X.2.2.1) (Classical.propDecidable _)
    ((nxt (X.1.headD (0, -1, false)).1 (emD k), emO k, false) :: X.1, X.2)
    (if X.2.1 = 0 then (X.1, X.2.1, X.2.2.1 + 1, X.2.2.2) else X)
noncomputable def xIso (d : Int32) (X : XS) : XS :=
  @ite _ (canO (nxt (X.1.headD (0, -1, false)).1 d) X.2.1 X.2.2.1) (Classical.propDecidable _)
    ((nxt (X.1.headD (0, -1, false)).1 d, -1, true) :: X.1, X.2.1, X.2.2.1, X.2.2.2 + 1)
    (X.1, X.2.1 + 1, X.2.2.1, X.2.2.2)
def popI : List XE → List XE
  | [] => []
  | [x] => [x]
  | x :: y :: r => if x.2.2 = true then y :: r else popI (y :: r)
def xPdi (X : XS) : XS := if 0 < X.2.1 then (X.1, X.2.1 - 1, X.2.2) else if 0 < X.2.2.2 then (popI X.1, X.2.1, 0, X.2.2.2 - 1) else X
def popE : List XE → List XE
  | [] => []
  | [x] => [x]
  | x :: y :: r => if x.2.2 = true then x :: y :: r else y :: r
def xPdf (X : XS) : XS := if 0 < X.2.1 then X else if 0 < X.2.2.1 then (X.1, X.2.1, X.2.2.1 - 1, X.2.2.2) else (popE X.1, X.2)
def xt (X : XS) : Int32 := nI (X.1.length - 1)
def xrel (a b z : Nat → Int32) : List XE → Prop
  | [] => True
  | x :: r => a r.length = nI x.1 ∧ b r.length = x.2.1 ∧ z r.length = (if x.2.2 = true then 1 else 0) ∧ xrel a b z r
def lvlOK : List XE → Prop
  | [] => True
  | x :: r => r.length ≤ x.1 ∧ x.1 ≤ 125 ∧ lvlOK r
theorem xrel_upd {a b z : Nat → Int32} {x y v : Int32} {n : Nat} : ∀ {L : List XE}, L.length ≤ n → xrel a b z L → xrel (upd a n x) (upd b n y) (upd z n v) L
  | [], _, _ => trivial
  | e :: r, h, q => by
    simp only [List.length_cons] at h
    obtain ⟨q1, q2, q3, q4⟩ := q
    refine ⟨?_, ?_, ?_, xrel_upd (by omega) q4⟩
    · rw [upd, if_neg (by omega)]; exact q1
    · rw [upd, if_neg (by omega)]; exact q2
    · rw [upd, if_neg (by omega)]; exact q3
theorem xrel_push {a b z : Nat → Int32} {L : List XE} {x : XE} (h : xrel a b z L) : xrel (upd a L.length (nI x.1)) (upd b L.length x.2.1) (upd z L.length (if x.2.2 = true then 1 else 0)) (x :: L) := by
  refine ⟨?_, ?_, ?_, xrel_upd (Nat.le_refl _) h⟩ <;> simp [upd]
theorem lvlOK_len : ∀ {L : List XE}, lvlOK L → L.length ≤ 126
  | [], _ => by simp
  | x :: r, h => by simp only [List.length_cons]; obtain ⟨h1, h2, -⟩ := h; omega
theorem popI_lvl : ∀ {L : List XE}, lvlOK L → lvlOK (popI L)
  | [], _ => trivial
  | [_], h => h
  | x :: y :: r, h => by
    simp only [popI]
    split
    · exact h.2.2
    · exact popI_lvl h.2.2
theorem popI_ne : ∀ {L : List XE}, L ≠ [] → popI L ≠ []
  | [], h => absurd rfl h
  | [x], _ => by simp [popI]
  | x :: y :: r, _ => by
    simp only [popI]
    split
    · simp
    · exact popI_ne (by simp)
theorem popI_rel {a b z : Nat → Int32} : ∀ {L : List XE}, xrel a b z L → xrel a b z (popI L)
  | [], _ => trivial
  | [_], h => h
  | x :: y :: r, h => by
    simp only [popI]
    split
    · exact h.2.2.2
    · exact popI_rel h.2.2.2
theorem popE_rel {a b z : Nat → Int32} : ∀ {L : List XE}, xrel a b z L → xrel a b z (popE L)
  | [], _ => trivial
  | [_], h => h
  | x :: y :: r, h => by
    simp only [popE]
    split
    · exact h
    · exact h.2.2.2
theorem popE_lvl : ∀ {L : List XE}, lvlOK L → lvlOK (popE L)
  | [], _ => trivial
  | [_], h => h
  | x :: y :: r, h => by
    simp only [popE]
    split
    · exact h
    · exact h.2.2
theorem popE_ne : ∀ {L : List XE}, L ≠ [] → popE L ≠ []
  | [], h => absurd rfl h
  | [x], _ => by simp [popE]
  | x :: y :: r, _ => by
    simp only [popE]
    split <;> simp
/-- a state's bounds -/
def xok (n : Nat) (X : XS) : Prop := X.1 ≠ [] ∧ lvlOK X.1 ∧ X.2.1 ≤ n ∧ X.2.2.1 ≤ n ∧ X.2.2.2 ≤ n
theorem nxt_gt (lv : Nat) (d : Int32) : lv + 1 ≤ nxt lv d ∧ nxt lv d ≤ lv + 2 := by
  unfold nxt; split <;> omega
theorem xok_emb {n : Nat} {X : XS} {k : Int32} (h : xok n X) : xok (n + 1) (xEmb k X) := by
  obtain ⟨h1, h2, h3, h4, h5⟩ := h
  unfold xEmb
  split
  · rename_i hc
    refine ⟨by simp, ⟨?_, hc.1, h2⟩, Nat.le_succ_of_le h3, Nat.le_succ_of_le h4, Nat.le_succ_of_le h5⟩
    obtain ⟨L, r⟩ := X
    cases L with
    | nil => exact absurd rfl h1
    | cons x t => have := (nxt_gt x.1 (emD k)).1; have := h2.1; simp only [List.length_cons, List.headD_cons] at *; omega
  · split
    · exact ⟨h1, h2, Nat.le_succ_of_le h3, Nat.succ_le_succ h4, Nat.le_succ_of_le h5⟩
    · exact ⟨h1, h2, Nat.le_succ_of_le h3, Nat.le_succ_of_le h4, Nat.le_succ_of_le h5⟩
theorem xok_iso {n : Nat} {X : XS} {d : Int32} (h : xok n X) : xok (n + 1) (xIso d X) := by
  obtain ⟨h1, h2, h3, h4, h5⟩ := h
  unfold xIso
  split
  · rename_i hc
    refine ⟨by simp, ⟨?_, hc.1, h2⟩, by simp; omega, by simp; omega, by simp; omega⟩
    obtain ⟨L, r⟩ := X
    cases L with
    | nil => exact absurd rfl h1
    | cons x t => have := (nxt_gt x.1 d).1; have := h2.1; simp only [List.length_cons, List.headD_cons] at *; omega
  · exact ⟨h1, h2, by simp; omega, by simp; omega, by simp; omega⟩
theorem xok_pdi {n : Nat} {X : XS} (h : xok n X) : xok (n + 1) (xPdi X) := by
  obtain ⟨h1, h2, h3, h4, h5⟩ := h
  unfold xPdi
  split
  · exact ⟨h1, h2, by simp; omega, by simp; omega, by simp; omega⟩
  · split
    · exact ⟨popI_ne h1, popI_lvl h2, by simp; omega, by simp, by simp; omega⟩
    · exact ⟨h1, h2, Nat.le_succ_of_le h3, Nat.le_succ_of_le h4, Nat.le_succ_of_le h5⟩
theorem xok_pdf {n : Nat} {X : XS} (h : xok n X) : xok (n + 1) (xPdf X) := by
  obtain ⟨h1, h2, h3, h4, h5⟩ := h
  unfold xPdf
  split
  · exact ⟨h1, h2, Nat.le_succ_of_le h3, Nat.le_succ_of_le h4, Nat.le_succ_of_le h5⟩
  · split
    · exact ⟨h1, h2, by simp; omega, by simp; omega, by simp; omega⟩
    · exact ⟨popE_ne h1, popE_lvl h2, by simp; omega, by simp; omega, by simp; omega⟩
noncomputable def xstep (fst mt : Nat → Int32) (pe q : Nat) (X : XS) : XS :=
  if isemb (fst q) then xEmb (fst q) X else if isol (fst q) then xIso (dirIso fst mt q pe) X else if fst q = 22 then xPdi X else if fst q = 18 then xPdf X else X
theorem xok_step {n : Nat} {X : XS} {fst mt : Nat → Int32} {pe q : Nat} (h : xok n X) : xok (n + 1) (xstep fst mt pe q X) := by
  unfold xstep
  split
  · exact xok_emb h
  · split
    · exact xok_iso h
    · split
      · exact xok_pdi h
      · split
        · exact xok_pdf h
        · obtain ⟨h1, h2, h3, h4, h5⟩ := h
          exact ⟨h1, h2, Nat.le_succ_of_le h3, Nat.le_succ_of_le h4, Nat.le_succ_of_le h5⟩
def xtop (k : Int32) (X : XS) : XE := if k = 22 then (xPdi X).1.headD (0, -1, false) else X.1.headD (0, -1, false)
def xgone (k : Int32) : Prop := isemb k ∨ k = 18 ∨ k = 9
noncomputable def xlev (k : Int32) (base : Nat) (X : XS) : Int32 := @ite _ (xgone k) (Classical.propDecidable _) (-1) (if k = 10 then nI base else nI (xtop k X).1)
noncomputable def xkin (k : Int32) (X : XS) : Int32 := @ite _ (xgone k) (Classical.propDecidable _) (-1) (if k = 10 then 10 else if (xtop k X).2.1 = -1 then k else (xtop k X).2.1)
noncomputable def xrun (fst mt : Nat → Int32) (b pe base : Nat) : Nat → XS
  | 0 => ([(base, -1, false)], 0, 0, 0)
  | d + 1 => xstep fst mt pe (b + d) (xrun fst mt b pe base d)
noncomputable def xlv (fst mt : Nat → Int32) (b pe base : Nat) (f0 : Nat → Int32) : Nat → Nat → Int32
  | 0 => f0
  | d + 1 => upd (xlv fst mt b pe base f0 d) (b + d) (xlev (fst (b + d)) base (xrun fst mt b pe base d))
noncomputable def xkd (fst mt : Nat → Int32) (b pe base : Nat) (f0 : Nat → Int32) : Nat → Nat → Int32
  | 0 => f0
  | d + 1 => upd (xkd fst mt b pe base f0 d) (b + d) (xkin (fst (b + d)) (xrun fst mt b pe base d))
theorem xok_run {fst mt : Nat → Int32} {b pe base : Nat} (hb : base ≤ 1) : ∀ d, xok d (xrun fst mt b pe base d)
  | 0 => ⟨by simp [xrun], ⟨by simp, by omega, trivial⟩, by simp [xrun], by simp [xrun], by simp [xrun]⟩
  | d + 1 => xok_step (xok_run hb d)
