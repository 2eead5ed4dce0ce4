/-! runs: a list of runs, the last one first, each a list of positions, the last one first -/
def tot : List (List Nat) → Nat
  | [] => 0
  | R :: rest => tot rest + R.length
def rvS (lv : Nat → Int32) (q : Nat) : List (List Nat) → List (List Nat)
  | (p :: t) :: rest => if lv p = lv q then (q :: p :: t) :: rest else [q] :: (p :: t) :: rest
  | rest => [q] :: rest
def rv (lv : Nat → Int32) (b : Nat) : Nat → List (List Nat)
  | 0 => []
  | d + 1 => if lv (b + d) = -1 then rv lv b d else rvS lv (b + d) (rv lv b d)
def rrel (lf rb re ro : Nat → Int32) : List (List Nat) → Prop
  | [] => True
  | R :: rest => rb rest.length = nI (tot rest) ∧ re rest.length = nI (tot rest + R.length) ∧ (∀ t, t < R.length → lf (tot rest + t) = nI (R.reverse.getD t 0)) ∧ (∀ q ∈ R, ro q = nI rest.length) ∧ rrel lf rb re ro rest
/-- every run holds something, and only positions below n -/
def vlt (n : Nat) : List (List Nat) → Prop
  | [] => True
  | R :: rest => R ≠ [] ∧ (∀ x ∈ R, x < n) ∧ vlt n rest
theorem vlt_mono {n k : Nat} (h : n ≤ k) : ∀ {V : List (List Nat)}, vlt n V → vlt k V
  | [], _ => trivial
  | R :: rest, q => ⟨q.1, fun x hx => Nat.lt_of_lt_of_le (q.2.1 x hx) h, vlt_mono h q.2.2⟩
theorem vlt_len {n : Nat} : ∀ {V : List (List Nat)}, vlt n V → V.length ≤ tot V
  | [], _ => Nat.le_refl 0
  | R :: rest, q => by
    have := vlt_len q.2.2
    have h : 0 < R.length := List.length_pos_iff.mpr q.1
    simp only [tot, List.length_cons]; omega
theorem vlt_step {lv : Nat → Int32} {q : Nat} {V : List (List Nat)} (h : vlt q V) : vlt (q + 1) (rvS lv q V) ∧ tot (rvS lv q V) = tot V + 1 := by
  have hm := vlt_mono (Nat.le_succ q) h
  unfold rvS
  split
  · split
    · refine ⟨⟨by simp, fun x hx => ?_, hm.2.2⟩, by simp only [tot, List.length_cons]; omega⟩
      rcases List.mem_cons.mp hx with z | z
      · omega
      · exact hm.2.1 x z
    · exact ⟨⟨by simp, fun x hx => by rw [List.mem_singleton.mp hx]; omega, hm⟩, by simp [tot]⟩
  · exact ⟨⟨by simp, fun x hx => by rw [List.mem_singleton.mp hx]; omega, hm⟩, by simp [tot]⟩
theorem vlt_rv {lv : Nat → Int32} {b : Nat} : ∀ d, vlt (b + d) (rv lv b d) ∧ tot (rv lv b d) ≤ d
  | 0 => ⟨trivial, Nat.le_refl 0⟩
  | d + 1 => by
    obtain ⟨h1, h2⟩ := vlt_rv (lv := lv) (b := b) d
    simp only [rv]
    split
    · exact ⟨vlt_mono (by omega) h1, by omega⟩
    · have := vlt_step (lv := lv) h1
      exact ⟨this.1, by omega⟩
theorem rrel_frame {lf rb re ro lf' rb' re' ro' : Nat → Int32} {n : Nat} : ∀ {V : List (List Nat)}, vlt n V → rrel lf rb re ro V → (∀ j, j < tot V → lf' j = lf j) → (∀ j, j < V.length → rb' j = rb j) → (∀ j, j < V.length → re' j = re j) → (∀ j, j < n → ro' j = ro j) → rrel lf' rb' re' ro' V
  | [], _, _, _, _, _, _ => trivial
  | R :: rest, hv, h, h1, h2, h3, h4 => by
    obtain ⟨q1, q2, q3, q4, q5⟩ := h
    simp only [tot, List.length_cons] at h1 h2 h3
    refine ⟨?_, ?_, fun t ht => ?_, fun q hq => ?_, rrel_frame hv.2.2 q5 (fun j hj => h1 j (by omega)) (fun j hj => h2 j (by omega)) (fun j hj => h3 j (by omega)) h4⟩
    · rw [h2 _ (by omega)]; exact q1
    · rw [h3 _ (by omega)]; exact q2
    · rw [h1 _ (by omega)]; exact q3 t ht
    · rw [h4 q (hv.2.1 q hq)]; exact q4 q hq
theorem rrel_new {lf rb re ro : Nat → Int32} {q : Nat} {V : List (List Nat)} (hv : vlt q V) (h : rrel lf rb re ro V) : rrel (upd lf (tot V) (nI q)) (upd rb V.length (nI (tot V))) (upd re V.length (nI (tot V + 1))) (upd ro q (nI V.length)) ([q] :: V) := by
  refine ⟨by simp [upd], by simp [upd], fun t ht => ?_, fun x hx => ?_, rrel_frame hv h (fun j hj => ?_) (fun j hj => ?_) (fun j hj => ?_) (fun j hj => ?_)⟩
  · have : t = 0 := by simpa using ht
    subst this; simp [upd]
  · rw [List.mem_singleton.mp hx]; simp [upd]
  · rw [upd, if_neg (by omega)]
  · rw [upd, if_neg (by omega)]
  · rw [upd, if_neg (by omega)]
  · rw [upd, if_neg (by omega)]
theorem rrel_ext {lf rb re ro : Nat → Int32} {q p : Nat} {t : List Nat} {rest : List (List Nat)} (hv : vlt q ((p :: t) :: rest)) (h : rrel lf rb re ro ((p :: t) :: rest)) : rrel (upd lf (tot ((p :: t) :: rest)) (nI q)) rb (upd re rest.length (nI (tot ((p :: t) :: rest) + 1))) (upd ro q (nI rest.length)) ((q :: p :: t) :: rest) := by
  obtain ⟨q1, q2, q3, q4, q5⟩ := h
  refine ⟨q1, by simp [upd, tot, Nat.add_assoc], fun s hs => ?_, fun x hx => ?_, rrel_frame hv.2.2 q5 (fun j hj => ?_) (fun j _ => rfl) (fun j hj => ?_) (fun j hj => ?_)⟩
  · rw [show tot ((p :: t) :: rest) = tot rest + (p :: t).length from rfl]
    by_cases z : s = (p :: t).length
    · subst z
      rw [pk_us]
      simp
    · have hs2 : s < (p :: t).length := by simp only [List.length_cons] at hs z ⊢; omega
      rw [pk_un (by omega), q3 s hs2]
      have h3 : s < (p :: t).reverse.length := by rw [List.length_reverse]; exact hs2
      rw [List.reverse_cons (a := q)]
      simp only [List.getD_eq_getElem?_getD]
      rw [List.getElem?_append_left h3]
  · rcases List.mem_cons.mp hx with z | z
    · rw [z]; simp [upd]
    · rw [upd, if_neg (by have := hv.2.1 x z; omega)]; exact q4 x z
  · rw [upd, if_neg (by simp only [tot]; omega)]
  · rw [upd, if_neg (by omega)]
  · rw [upd, if_neg (by omega)]
theorem rrel_top {lf rb re ro : Nat → Int32} {p : Nat} {t : List Nat} {rest : List (List Nat)} (h : rrel lf rb re ro ((p :: t) :: rest)) : lf (tot ((p :: t) :: rest) - 1) = nI p := by
  have := h.2.2.1 t.length (by simp)
  simp only [tot, List.length_cons]
  rw [show tot rest + (t.length + 1) - 1 = tot rest + t.length by omega, this]
  simp
