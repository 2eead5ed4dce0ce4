/-! matches and first strong ones -/
def mstk (fst : Nat → Int32) (b : Nat) : Nat → List Nat
  | 0 => []
  | d + 1 => if isol (fst (b + d)) then (b + d) :: mstk fst b d else if fst (b + d) = 22 then (mstk fst b d).tail else mstk fst b d
def mmat (fst : Nat → Int32) (b : Nat) (f0 : Nat → Int32) : Nat → Nat → Int32
  | 0 => f0
  | d + 1 => if ¬ isol (fst (b + d)) ∧ fst (b + d) = 22 then (match mstk fst b d with | [] => upd (mmat fst b f0 d) (b + d) (-1) | w :: _ => upd (upd (upd (mmat fst b f0 d) (b + d) (-1)) (b + d) (nI w)) w (nI (b + d))) else upd (mmat fst b f0 d) (b + d) (-1)
def stkR (wt : Nat → Int32) (L : List Nat) : Prop := ∀ t, t < L.length → wt t = nI (L.reverse.getD t 0)
theorem stkR_push {wt : Nat → Int32} {L : List Nat} {x : Nat} (h : stkR wt L) : stkR (upd wt L.length (nI x)) (x :: L) := by
  intro t ht
  simp only [upd, List.reverse_cons]
  by_cases q : t = L.length
  · subst q
    rw [if_pos rfl]
    simp
  · rw [if_neg q, h t (by simp only [List.length_cons] at ht; omega)]
    have : t < L.length := by simp only [List.length_cons] at ht; omega
    simp [List.getElem?_append, this]
theorem stkR_pop {wt : Nat → Int32} {L : List Nat} {x : Nat} (h : stkR wt (x :: L)) : stkR wt L ∧ wt L.length = nI x := by
  constructor
  · intro t ht
    rw [h t (by simp only [List.length_cons]; omega)]
    simp [List.getElem?_append, ht]
  · rw [h L.length (by simp)]
    simp
theorem mstk_len (fst : Nat → Int32) (b : Nat) : ∀ d, (mstk fst b d).length ≤ d
  | 0 => Nat.le_refl 0
  | d + 1 => by
    have := mstk_len fst b d
    simp only [mstk]
    split
    · simp only [List.length_cons]; omega
    · split
      · simp only [List.length_tail]; omega
      · omega
theorem mstk_lt (fst : Nat → Int32) (b : Nat) : ∀ d, ∀ w ∈ mstk fst b d, w < b + d
  | 0 => fun w h => absurd h List.not_mem_nil
  | d + 1 => by
    intro w hw
    have ih := mstk_lt fst b d
    simp only [mstk] at hw
    split at hw
    · rcases List.mem_cons.mp hw with q | q
      · omega
      · have := ih w q; omega
    · split at hw
      · have := ih w (List.mem_of_mem_tail hw); omega
      · have := ih w hw; omega
theorem mmat_s {fst f0 : Nat → Int32} {b d : Nat} (h : ¬ (¬ isol (fst (b + d)) ∧ fst (b + d) = 22)) : mmat fst b f0 (d + 1) = upd (mmat fst b f0 d) (b + d) (-1) := by
  simp only [mmat]; rw [if_neg h]
theorem mmat_e {fst f0 : Nat → Int32} {b d : Nat} (h : mstk fst b d = []) : mmat fst b f0 (d + 1) = upd (mmat fst b f0 d) (b + d) (-1) := by
  simp only [mmat]; rw [h]; split <;> rfl
theorem mmat_p {fst f0 : Nat → Int32} {b d w : Nat} {L : List Nat} (h1 : ¬ isol (fst (b + d))) (h2 : fst (b + d) = 22) (h : mstk fst b d = w :: L) : mmat fst b f0 (d + 1) = upd (upd (upd (mmat fst b f0 d) (b + d) (-1)) (b + d) (nI w)) w (nI (b + d)) := by
  simp only [mmat]; rw [if_pos ⟨h1, h2⟩, h]
def okM (f : Nat → Int32) : Prop := ∀ i, i < 2000 → f i = -1 ∨ ∃ k, k < 2000 ∧ f i = nI k
def dirIn (fst mt : Nat → Int32) (en : Nat) : Nat → Nat → Int32
  | 0, _ => 0
  | f + 1, i => if en ≤ i then 0 else if fst i = 0 then 0 else if fst i = 1 ∨ fst i = 2 then 1 else if isol (fst i) then dirIn fst mt en f (max i (if mt i = -1 then en else (mt i).toNatClampNeg) + 1) else dirIn fst mt en f (i + 1)
theorem dirIn_ge {fst mt : Nat → Int32} {en i : Nat} (h : en ≤ i) : ∀ f, dirIn fst mt en f i = 0
  | 0 => rfl
  | f + 1 => by simp only [dirIn]; rw [if_pos h]
theorem dirIn_f {fst mt : Nat → Int32} {en : Nat} : ∀ f f' i, en ≤ i + f → en ≤ i + f' → dirIn fst mt en f i = dirIn fst mt en f' i
  | 0, f', i, h1, _ => by rw [dirIn_ge (by omega), dirIn_ge (by omega)]
  | f + 1, 0, i, _, h2 => by rw [dirIn_ge (by omega), dirIn_ge (by omega)]
  | f + 1, f' + 1, i, h1, h2 => by
    simp only [dirIn]
    rw [dirIn_f f f' (i + 1) (by omega) (by omega), dirIn_f f f' (max i (if mt i = -1 then en else (mt i).toNatClampNeg) + 1) (by omega) (by omega)]
def DI (fst mt : Nat → Int32) (en b : Nat) : Int32 := dirIn fst mt en (en - b) b
theorem DI_eq {fst mt : Nat → Int32} {en i : Nat} (h : i < en) : DI fst mt en i = if fst i = 0 then 0 else if fst i = 1 ∨ fst i = 2 then 1 else if isol (fst i) then DI fst mt en (max i (if mt i = -1 then en else (mt i).toNatClampNeg) + 1) else DI fst mt en (i + 1) := by
  unfold DI
  rw [show en - i = (en - i - 1) + 1 by omega]
  simp only [dirIn]
  rw [if_neg (by omega), dirIn_f (en - i - 1) (en - (i + 1)) (i + 1) (by omega) (by omega), dirIn_f (en - i - 1) (en - (max i (if mt i = -1 then en else (mt i).toNatClampNeg) + 1)) _ (by omega) (by omega)]
theorem DI_ge {fst mt : Nat → Int32} {en i : Nat} (h : en ≤ i) : DI fst mt en i = 0 := dirIn_ge h _
def dirIso (fst mt : Nat → Int32) (q pe : Nat) : Int32 := if fst q = 21 then DI fst mt (if mt q = -1 then pe else (mt q).toNatClampNeg) (q + 1) else if fst q = 20 then 1 else 0
theorem nI_max {a b : Nat} (ha : a < 2 ^ 31) (hb : b < 2 ^ 31) : (if nI a < nI b then nI b else nI a) = nI (max a b) := by
  by_cases h : a < b
  · rw [if_pos (nI_lt h hb), show max a b = b by omega]
  · rw [if_neg (nI_nlt (by omega) ha), show max a b = a by omega]
theorem nI_decp {o : Nat} (h : 0 < o) : nI o + Int32.ofInt (-1) = nI (o - 1) := by
  obtain ⟨j, rfl⟩ : ∃ j, o = j + 1 := ⟨o - 1, by omega⟩
  exact pk_m1 j
