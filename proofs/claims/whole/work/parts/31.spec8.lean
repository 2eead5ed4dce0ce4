/-! N0: brackets. The stack: (index of the opening one, what it asks for), the topmost first -/
def popB (x : Int32) : List (Nat × Int32) → Option (Nat × List (Nat × Int32))
  | [] => none
  | a :: r => if a.2 = x then some (a.1, r) else popB x r
def cbS (x : Int32) (st : List (Nat × Int32)) : List (Nat × Int32) := match popB x st with | none => st | some a => a.2
def cbP (x : Int32) (st : List (Nat × Int32)) (i : Nat) (pr : Nat → Int32) : Nat → Int32 := match popB x st with | none => pr | some a => upd pr a.1 (nI i)
def brel (a b : Nat → Int32) : List (Nat × Int32) → Prop
  | [] => True
  | x :: r => a r.length = nI x.1 ∧ b r.length = x.2 ∧ brel a b r
theorem brel_upd {a b : Nat → Int32} {x y : Int32} {n : Nat} : ∀ {L : List (Nat × Int32)}, L.length ≤ n → brel a b L → brel (upd a n x) (upd b n y) L
  | [], _, _ => trivial
  | e :: r, h, q => by
    simp only [List.length_cons] at h
    exact ⟨by rw [pk_un (by omega)]; exact q.1, by rw [pk_un (by omega)]; exact q.2.1, brel_upd (by omega) q.2.2⟩
theorem brel_push {a b : Nat → Int32} {L : List (Nat × Int32)} {i : Nat} {x : Int32} (h : brel a b L) : brel (upd a L.length (nI i)) (upd b L.length x) ((i, x) :: L) :=
  ⟨pk_us, pk_us, brel_upd (Nat.le_refl _) h⟩
/-- every opening one waits below n -/
def blt (n : Nat) (st : List (Nat × Int32)) : Prop := ∀ a ∈ st, a.1 < n
theorem popB_in {x : Int32} : ∀ {st : List (Nat × Int32)} {a : Nat × List (Nat × Int32)}, popB x st = some a → (∃ w, (a.1, w) ∈ st) ∧ (∀ b ∈ a.2, b ∈ st) ∧ a.2.length ≤ st.length
  | [], a, h => by cases h
  | e :: r, a, h => by
    simp only [popB] at h
    split at h
    · cases h
      exact ⟨⟨e.2, List.mem_cons_self⟩, fun b hb => List.mem_cons_of_mem _ hb, Nat.le_succ _⟩
    · have ih := popB_in h
      obtain ⟨⟨w, hw⟩, h2, h3⟩ := ih
      exact ⟨⟨w, List.mem_cons_of_mem _ hw⟩, fun b hb => List.mem_cons_of_mem _ (h2 b hb), Nat.le_succ_of_le h3⟩
theorem cbS_lt {n : Nat} {x : Int32} {st : List (Nat × Int32)} (h : blt n st) : blt n (cbS x st) ∧ (cbS x st).length ≤ st.length := by
  unfold cbS
  cases hz : popB x st with
  | none => exact ⟨h, Nat.le_refl _⟩
  | some a => exact ⟨fun b hb => h b ((popB_in hz).2.1 b hb), (popB_in hz).2.2⟩
theorem cbS_rel {a b : Nat → Int32} {x : Int32} : ∀ {st : List (Nat × Int32)}, brel a b st → brel a b (cbS x st)
  | [], _ => trivial
  | e :: r, h => by
    unfold cbS
    simp only [popB]
    split
    · rename_i heq; split at heq
      · cases heq
      · exact h
    · rename_i q heq; split at heq
      · cases heq; exact h.2.2
      · have := cbS_rel (x := x) h.2.2
        unfold cbS at this
        rw [heq] at this
        exact this
def bfind (now ch : Nat → Int32) (oth : Int32 → Int32) : Nat → Nat → List (Nat × Int32) → (Nat → Int32) → Nat → Int32
  | 0, _, _, pr => pr
  | f + 1, i, st, pr => if now i = 13 then (if oth (ch i) = -1 then bfind now ch oth f (i + 1) (cbS (ch i) st) (cbP (ch i) st i pr) else if st.length < 63 then bfind now ch oth f (i + 1) ((i, oth (ch i)) :: st) pr else pr) else bfind now ch oth f (i + 1) st pr
def okP (n : Nat) (pr : Nat → Int32) : Prop := ∀ i, i < n → pr i = -1 ∨ ∃ k, k < n ∧ pr i = nI k
theorem cbP_ok {n i : Nat} {x : Int32} {st : List (Nat × Int32)} {pr : Nat → Int32} (hi : i < n) (h : okP n pr) : okP n (cbP x st i pr) := by
  unfold cbP
  split
  · exact h
  · rename_i a _
    intro j hj
    by_cases q : j = a.1
    · subst q; rw [pk_us]; exact Or.inr ⟨i, hi, rfl⟩
    · rw [pk_un q]; exact h j hj
theorem bfind_ok {now ch : Nat → Int32} {oth : Int32 → Int32} {n : Nat} : ∀ f i st pr, i + f ≤ n → okP n pr → okP n (bfind now ch oth f i st pr)
  | 0, _, _, _, _, h => h
  | f + 1, i, st, pr, hi, h => by
    simp only [bfind]
    split
    · split
      · exact bfind_ok f _ _ _ (by omega) (cbP_ok (by omega) h)
      · split
        · exact bfind_ok f _ _ _ (by omega) h
        · exact h
    · exact bfind_ok f _ _ _ (by omega) h
def hasD (now : Nat → Int32) (d : Int32) (o cl : Nat) : Prop := ∃ j, o < j ∧ j < cl ∧ sd (now j) = d
def hasA (now : Nat → Int32) (o cl : Nat) : Prop := ∃ j, o < j ∧ j < cl ∧ sd (now j) ≠ -1
noncomputable def bdir (now : Nat → Int32) (h d : Int32) (o cl : Nat) : Int32 := @ite _ (hasD now d o cl) (Classical.propDecidable _) d (prevS h now o)
def rng (i e : Nat) (x : Int32) (now : Nat → Int32) : Nat → Int32 := fun j => if i ≤ j ∧ j < e then x else now j
theorem rng_0 {i : Nat} {x : Int32} {now : Nat → Int32} : upd now i x = rng i (i + 1) x now := by
  funext j
  simp only [upd, rng]
  by_cases q : j = i
  · rw [if_pos q, if_pos (by omega)]
  · rw [if_neg q, if_neg (by omega)]
theorem rng_s {i e : Nat} {x : Int32} {now : Nat → Int32} (h : i ≤ e) : upd (rng i e x now) e x = rng i (e + 1) x now := by
  funext j
  simp only [upd, rng]
  by_cases q : j = e
  · rw [if_pos q, if_pos (by omega)]
  · rw [if_neg q]
    by_cases z : i ≤ j ∧ j < e
    · rw [if_pos z, if_pos (by omega)]
    · rw [if_neg z, if_neg (by omega)]
def mkE (kb : Nat → Int32) (n : Nat) : Nat → Nat → Nat
  | 0, j => j
  | f + 1, j => if j < n ∧ kb j = 8 then mkE kb n f (j + 1) else j
def mkEnd (kb : Nat → Int32) (n j : Nat) : Nat := mkE kb n (n - j) j
theorem mkEnd_s {kb : Nat → Int32} {n j : Nat} (h : j < n) (h8 : kb j = 8) : mkEnd kb n j = mkEnd kb n (j + 1) := by
  unfold mkEnd
  rw [show n - j = (n - (j + 1)) + 1 by omega]
  simp only [mkE]
  rw [if_pos ⟨h, h8⟩]
theorem mkEnd_e {kb : Nat → Int32} {n j : Nat} (h : ¬ (j < n ∧ kb j = 8)) : mkEnd kb n j = j := by
  unfold mkEnd
  cases n - j with
  | zero => rfl
  | succ f => simp only [mkE]; rw [if_neg h]
def giveN (kb : Nat → Int32) (n i : Nat) (x : Int32) (now : Nat → Int32) : Nat → Int32 := rng i (mkEnd kb n (i + 1)) x now
noncomputable def settle (kb : Nat → Int32) (n : Nat) (h d : Int32) (o cl : Nat) (now : Nat → Int32) : Nat → Int32 :=
  @ite _ (hasA now o cl) (Classical.propDecidable _) (giveN kb n cl (bdir now h d o cl) (giveN kb n o (bdir now h d o cl) now)) now
noncomputable def n0 (kb : Nat → Int32) (n : Nat) (h d : Int32) (pr now : Nat → Int32) : Nat → Nat → Int32
  | 0 => now
  | i + 1 => if pr i = -1 then n0 kb n h d pr now i else settle kb n h d i (pr i).toNatClampNeg (n0 kb n h d pr now i)
/-- what a search through a pair's inside has found up to j -/
def insF (now : Nat → Int32) (d : Int32) (o j : Nat) (v : Int32) : Prop := (∀ m, o < m → m < j → sd (now m) ≠ d) ∧ ((v = -1 ∧ ∀ m, o < m → m < j → sd (now m) = -1) ∨ (v ≠ -1 ∧ v ≠ d ∧ ∃ m, o < m ∧ m < j ∧ sd (now m) ≠ -1))
theorem prevS_z {h : Int32} {k : Nat → Int32} {j : Nat} (q : sd (k j) = -1) : prevS h k (j + 1) = prevS h k j := by simp only [prevS]; rw [if_pos q]
theorem prevS_n {h : Int32} {k : Nat → Int32} {j : Nat} (q : ¬ sd (k j) = -1) : prevS h k (j + 1) = sd (k j) := by simp only [prevS]; rw [if_neg q]
