/-! 68: runs as the model finds them -/
theorem lfr_spec (lv : Nat → Int32) : ∀ f k, (∀ x, k ≤ x → x < lfr lv f k → ¬ 0 ≤ lv x) ∧ (lfr lv f k < k + f → 0 ≤ lv (lfr lv f k))
  | 0, k => ⟨fun x h1 h2 => absurd h2 (by simp only [lfr]; omega), fun h => absurd h (by simp only [lfr]; omega)⟩
  | f + 1, k => by
    have ih := lfr_spec lv f (k + 1)
    simp only [lfr]
    by_cases h : 0 ≤ lv k
    · rw [if_pos h]; exact ⟨fun x h1 h2 => absurd h2 (by omega), fun _ => h⟩
    · rw [if_neg h]
      refine ⟨fun x h1 h2 => ?_, fun q => ih.2 (by omega)⟩
      by_cases e : x = k
      · rw [e]; exact h
      · exact ih.1 x (by omega) h2
theorem lbZ_spec (lv : Nat → Int32) (b : Nat) : ∀ z, b ≤ z → b ≤ lbZ lv b z ∧ lbZ lv b z ≤ z ∧ (∀ x, lbZ lv b z ≤ x → x < z → ¬ 0 ≤ lv x) ∧ (b < lbZ lv b z → 0 ≤ lv (lbZ lv b z - 1))
  | 0, h => ⟨by omega, Nat.le_refl 0, fun x _ q => absurd q (by omega), fun q => absurd q (by simp only [lbZ]; omega)⟩
  | z + 1, h => by
    simp only [lbZ]
    by_cases h1 : z < b
    · rw [if_pos h1]; exact ⟨h, Nat.le_refl _, fun x q1 q2 => absurd q2 (by omega), fun q => absurd q (by omega)⟩
    · rw [if_neg h1]
      by_cases h2 : 0 ≤ lv z
      · rw [if_pos h2]; exact ⟨h, Nat.le_refl _, fun x q1 q2 => absurd q2 (by omega), fun _ => h2⟩
      · rw [if_neg h2]
        have ih := lbZ_spec lv b z (by omega)
        refine ⟨ih.1, by omega, fun x q1 q2 => ?_, ih.2.2.2⟩
        by_cases e : x = z
        · rw [e]; exact h2
        · exact ih.2.2.1 x q1 (by omega)
/-- levels: -1 or not below 0 -/
def lvS (lv : Nat → Int32) (b pe : Nat) : Prop := ∀ q, b ≤ q → q < pe → lv q = -1 ∨ 0 ≤ lv q
theorem lvS_ne {lv : Nat → Int32} {b pe q : Nat} (h : lvS lv b pe) (h1 : b ≤ q) (h2 : q < pe) : lv q ≠ -1 ↔ 0 ≤ lv q := by
  constructor
  · intro z; exact (h q h1 h2).resolve_left z
  · intro z e; rw [e] at z; exact absurd z (by decide)
theorem LF_in {lv : Nat → Int32} {b d i : Nat} (hi : i < tot (rv lv b d)) : b ≤ LFn (rv lv b d) i ∧ LFn (rv lv b d) i < b + d ∧ lv (LFn (rv lv b d) i) ≠ -1 := (flat_mem d _).mp (LFn_mem hi)
theorem LF_idx {V : List (List Nat)} {q : Nat} (h : q ∈ flat V) : ∃ i, i < tot V ∧ LFn V i = q := by
  obtain ⟨i, hi, e⟩ := List.getElem_of_mem h
  refine ⟨i, by rw [← flat_len]; exact hi, ?_⟩
  unfold LFn
  rw [List.getD_eq_getElem?_getD, List.getElem?_eq_getElem hi, e]; rfl
theorem lfr_LF {lv : Nat → Int32} {b pe i : Nat} (hb : b ≤ pe) (hs : lvS lv b pe) (hi : i < tot (rv lv b (pe - b))) : lfr lv (pe - (LFn (rv lv b (pe - b)) i + 1)) (LFn (rv lv b (pe - b)) i + 1) = if i + 1 < tot (rv lv b (pe - b)) then LFn (rv lv b (pe - b)) (i + 1) else pe := by
  obtain ⟨a1, a2, a3⟩ := LF_in hi
  have hle := lfr_le lv (pe - (LFn (rv lv b (pe - b)) i + 1)) (LFn (rv lv b (pe - b)) i + 1)
  have hsp := lfr_spec lv (pe - (LFn (rv lv b (pe - b)) i + 1)) (LFn (rv lv b (pe - b)) i + 1)
  generalize lfr lv (pe - (LFn (rv lv b (pe - b)) i + 1)) (LFn (rv lv b (pe - b)) i + 1) = j at hle hsp ⊢
  by_cases h : i + 1 < tot (rv lv b (pe - b))
  · rw [if_pos h]
    obtain ⟨c1, c2, c3⟩ := LF_in h
    have hlt := LFn_lt (lv := lv) (b := b) (pe - b) i (i + 1) (by omega) h
    have hj : j ≤ LFn (rv lv b (pe - b)) (i + 1) := by
      rcases Nat.lt_or_ge (LFn (rv lv b (pe - b)) (i + 1)) j with z | z
      · exact absurd ((lvS_ne hs c1 (by omega)).mp c3) (hsp.1 _ (by omega) z)
      · exact z
    have hl0 := hsp.2 (by omega)
    obtain ⟨m, m1, m2⟩ := LF_idx (V := rv lv b (pe - b)) (q := j) ((flat_mem (lv := lv) (b := b) (pe - b) j).mpr ⟨by omega, by omega, (lvS_ne hs (by omega) (by omega)).mpr hl0⟩)
    rcases Nat.lt_or_ge m (i + 1) with z | z
    · have : LFn (rv lv b (pe - b)) m ≤ LFn (rv lv b (pe - b)) i := by
        rcases Nat.lt_or_ge m i with w | w
        · exact Nat.le_of_lt (LFn_lt (pe - b) m i w hi)
        · rw [show m = i by omega]; exact Nat.le_refl _
      omega
    · rcases Nat.lt_or_ge (i + 1) m with w | w
      · have := LFn_lt (lv := lv) (b := b) (pe - b) (i + 1) m w m1
        omega
      · rw [← m2, show m = i + 1 by omega]
  · rw [if_neg h]
    rcases Nat.lt_or_ge j pe with z | z
    · exfalso
      have hl0 := hsp.2 (by omega)
      obtain ⟨m, m1, m2⟩ := LF_idx (V := rv lv b (pe - b)) (q := j) ((flat_mem (lv := lv) (b := b) (pe - b) j).mpr ⟨by omega, by omega, (lvS_ne hs (by omega) (by omega)).mpr hl0⟩)
      have : LFn (rv lv b (pe - b)) m ≤ LFn (rv lv b (pe - b)) i := by
        rcases Nat.lt_or_ge m i with w | w
        · exact Nat.le_of_lt (LFn_lt (pe - b) m i w hi)
        · rw [show m = i by omega]; exact Nat.le_refl _
      omega
    · omega
theorem lbZ_LF {lv : Nat → Int32} {b pe i : Nat} (hb : b ≤ pe) (hs : lvS lv b pe) (hi : i < tot (rv lv b (pe - b))) : lbZ lv b (LFn (rv lv b (pe - b)) i) = if 0 < i then LFn (rv lv b (pe - b)) (i - 1) + 1 else b := by
  obtain ⟨a1, a2, a3⟩ := LF_in hi
  have hsp := lbZ_spec lv b (LFn (rv lv b (pe - b)) i) a1
  generalize lbZ lv b (LFn (rv lv b (pe - b)) i) = j at hsp ⊢
  obtain ⟨s1, s2, s3, s4⟩ := hsp
  have key : b < j → ∃ m, m < i ∧ LFn (rv lv b (pe - b)) m = j - 1 := by
    intro hj
    obtain ⟨m, m1, m2⟩ := LF_idx (V := rv lv b (pe - b)) (q := j - 1) ((flat_mem (lv := lv) (b := b) (pe - b) (j - 1)).mpr ⟨by omega, by omega, (lvS_ne hs (by omega) (by omega)).mpr (s4 hj)⟩)
    refine ⟨m, ?_, m2⟩
    rcases Nat.lt_or_ge m i with w | w
    · exact w
    · have : LFn (rv lv b (pe - b)) i ≤ LFn (rv lv b (pe - b)) m := by
        rcases Nat.lt_or_ge i m with w2 | w2
        · exact Nat.le_of_lt (LFn_lt (pe - b) i m w2 m1)
        · rw [show m = i by omega]; exact Nat.le_refl _
      omega
  by_cases h : 0 < i
  · rw [if_pos h]
    have hlt := LFn_lt (lv := lv) (b := b) (pe - b) (i - 1) i (by omega) hi
    obtain ⟨c1, c2, c3⟩ := LF_in (lv := lv) (b := b) (d := pe - b) (i := i - 1) (by omega)
    have hj : LFn (rv lv b (pe - b)) (i - 1) < j := by
      rcases Nat.lt_or_ge (LFn (rv lv b (pe - b)) (i - 1)) j with z | z
      · exact z
      · exact absurd ((lvS_ne hs c1 (by omega)).mp c3) (s3 _ z hlt)
    obtain ⟨m, m1, m2⟩ := key (by omega)
    rcases Nat.lt_or_ge m (i - 1) with w | w
    · have := LFn_lt (lv := lv) (b := b) (pe - b) m (i - 1) w (by omega)
      omega
    · rw [show m = i - 1 by omega] at m2; omega
  · rw [if_neg h]
    rcases Nat.lt_or_ge b j with z | z
    · obtain ⟨m, m1, -⟩ := key z; omega
    · omega
/-- in a run one level, in the next another -/
def rok (lv : Nat → Int32) : List (List Nat) → Prop
  | [] => True
  | [R] => ∀ x ∈ R, ∀ y ∈ R, lv x = lv y
  | R :: R2 :: rest => (∀ x ∈ R, ∀ y ∈ R, lv x = lv y) ∧ (∀ x ∈ R2, ∀ y ∈ R, lv x ≠ lv y) ∧ rok lv (R2 :: rest)
theorem rok_tl {lv : Nat → Int32} {R : List Nat} {rest : List (List Nat)} (h : rok lv (R :: rest)) : (∀ x ∈ R, ∀ y ∈ R, lv x = lv y) ∧ rok lv rest := by
  cases rest with
  | nil => exact ⟨h, trivial⟩
  | cons R2 r => exact ⟨h.1, h.2.2⟩
theorem rok_S {lv : Nat → Int32} {q n : Nat} {V : List (List Nat)} (hv : vlt n V) (h : rok lv V) : rok lv (rvS lv q V) := by
  match V, hv, h with
  | [], _, _ => intro x hx y hy; rw [List.mem_singleton.mp hx, List.mem_singleton.mp hy]
  | [] :: rest, hv, _ => exact absurd rfl hv.1
  | (p :: t) :: rest, hv, h =>
    have ht := rok_tl h
    simp only [rvS]
    by_cases e : lv p = lv q
    · rw [if_pos e]
      have hin : ∀ x ∈ q :: p :: t, lv x = lv p := by
        intro x hx
        rcases List.mem_cons.mp hx with z | z
        · rw [z, e]
        · exact ht.1 x z p List.mem_cons_self
      cases rest with
      | nil => intro x hx y hy; rw [hin x hx, hin y hy]
      | cons R2 r => exact ⟨fun x hx y hy => by rw [hin x hx, hin y hy], fun x hx y hy => by rw [hin y hy]; exact h.2.1 x hx p List.mem_cons_self, h.2.2⟩
    · rw [if_neg e]
      refine ⟨fun x hx y hy => by rw [List.mem_singleton.mp hx, List.mem_singleton.mp hy], fun x hx y hy => ?_, h⟩
      rw [List.mem_singleton.mp hy, ht.1 x hx p List.mem_cons_self]
      exact e
theorem rok_rv {lv : Nat → Int32} {b : Nat} : ∀ d, rok lv (rv lv b d)
  | 0 => trivial
  | d + 1 => by
    simp only [rv]
    split
    · exact rok_rv d
    · exact rok_S (vlt_rv d).1 (rok_rv d)
theorem rok_run {lv : Nat → Int32} : ∀ {V : List (List Nat)}, rok lv V → (∀ r, ∀ x ∈ runAt V r, ∀ y ∈ runAt V r, lv x = lv y) ∧ (∀ r, r + 1 < V.length → ∀ x ∈ runAt V r, ∀ y ∈ runAt V (r + 1), lv x ≠ lv y)
  | [], _ => ⟨fun r x hx => absurd hx List.not_mem_nil, fun r h => absurd h (Nat.not_lt_zero _)⟩
  | R :: rest, h => by
    have ht := rok_tl h
    have ih := rok_run ht.2
    refine ⟨fun r x hx y hy => ?_, fun r hr x hx y hy => ?_⟩
    · simp only [runAt] at hx hy
      by_cases z : r = rest.length
      · rw [if_pos z] at hx hy
        exact ht.1 x (List.mem_reverse.mp hx) y (List.mem_reverse.mp hy)
      · rw [if_neg z] at hx hy
        exact ih.1 r x hx y hy
    · simp only [List.length_cons] at hr
      simp only [runAt] at hx hy
      rw [if_neg (show ¬ r = rest.length by omega)] at hx
      by_cases z : r + 1 = rest.length
      · rw [if_pos z] at hy
        cases rest with
        | nil => simp at z
        | cons R2 r2 =>
          simp only [List.length_cons] at z
          simp only [runAt] at hx
          rw [if_pos (show r = r2.length by omega)] at hx
          exact h.2.1 x (List.mem_reverse.mp hx) y (List.mem_reverse.mp hy)
      · rw [if_neg z] at hy
        exact ih.2 r (by omega) x hx y hy
theorem off_succ : ∀ {V : List (List Nat)} {r : Nat}, r < V.length → off V r + (runAt V r).length = if r + 1 < V.length then off V (r + 1) else tot V
  | [], r, h => absurd h (Nat.not_lt_zero r)
  | R :: rest, r, h => by
    simp only [List.length_cons] at h ⊢
    simp only [off, runAt, tot]
    by_cases z : r = rest.length
    · rw [if_pos z, if_pos z, if_neg (by omega), List.length_reverse]
    · rw [if_neg z, if_neg z, if_pos (by omega), off_succ (V := rest) (r := r) (by omega)]
      by_cases w : r + 1 = rest.length
      · rw [if_neg (by omega), if_pos w]
      · rw [if_pos (by omega), if_neg w]
theorem off_0 : ∀ {V : List (List Nat)}, off V 0 = 0
  | [] => rfl
  | R :: rest => by
    simp only [off]
    by_cases z : 0 = rest.length
    · rw [if_pos z]
      cases rest with
      | nil => rfl
      | cons _ _ => simp at z
    · rw [if_neg z]; exact off_0
theorem LF_run {V : List (List Nat)} {r t : Nat} (hr : r < V.length) (ht : t < (runAt V r).length) : LFn V (off V r + t) ∈ runAt V r := by
  rw [(runAt_flat hr ht).1, List.getD_eq_getElem?_getD, List.getElem?_eq_getElem ht]
  exact List.getElem_mem ht
theorem run_in {lv : Nat → Int32} {n : Nat} {V : List (List Nat)} {r t : Nat} (hv : vlt n V) (h : rok lv V) (hr : r < V.length) (ht : t < (runAt V r).length) : lv (LFn V (off V r + t)) = lv (LFn V (off V r)) :=
  (rok_run h).1 r _ (LF_run hr ht) _ (LF_run (t := 0) hr (runAt_pos hv hr))
theorem run_pre {lv : Nat → Int32} {n : Nat} {V : List (List Nat)} {r : Nat} (hv : vlt n V) (h : rok lv V) (hr : r < V.length) (h0 : 0 < off V r) : lv (LFn V (off V r - 1)) ≠ lv (LFn V (off V r)) := by
  cases r with
  | zero => rw [off_0] at h0; exact absurd h0 (Nat.lt_irrefl 0)
  | succ r =>
    have hp := runAt_pos hv (show r < V.length by omega)
    have e := off_succ (V := V) (r := r) (by omega)
    rw [if_pos hr] at e
    have := LF_run (V := V) (r := r) (t := (runAt V r).length - 1) (by omega) (by omega)
    rw [show off V r + ((runAt V r).length - 1) = off V (r + 1) - 1 by omega] at this
    exact (rok_run h).2 r hr _ this _ (LF_run (t := 0) hr (runAt_pos hv hr))
theorem run_post {lv : Nat → Int32} {n : Nat} {V : List (List Nat)} {r : Nat} (hv : vlt n V) (h : rok lv V) (hr : r < V.length) (h0 : off V r + (runAt V r).length < tot V) : lv (LFn V (off V r + (runAt V r).length)) ≠ lv (LFn V (off V r)) := by
  have e := off_succ (V := V) (r := r) hr
  by_cases z : r + 1 < V.length
  · rw [if_pos z] at e
    rw [e]
    exact fun q => (rok_run h).2 r z _ (LF_run (t := 0) hr (runAt_pos hv hr)) _ (LF_run (t := 0) z (runAt_pos hv z)) q.symm
  · rw [if_neg z] at e; omega
/-- a position that is left lies in a run -/
theorem in_run {V : List (List Nat)} {q : Nat} (h : q ∈ flat V) : ∃ t, t < (runAt V (rof V q)).length ∧ LFn V (off V (rof V q) + t) = q := by
  have hs := rof_spec h
  obtain ⟨t, ht, et⟩ := List.getElem_of_mem hs.2
  refine ⟨t, ht, ?_⟩
  rw [(runAt_flat hs.1 ht).1, List.getD_eq_getElem?_getD, List.getElem?_eq_getElem ht, et]; rfl
/-- what the rows of the first d positions say of all rows -/
theorem rv_pre {lv : Nat → Int32} {b d : Nat} (hl : lv (b + d) ≠ -1) : ∀ e, d < e → LFn (rv lv b e) (tot (rv lv b d)) = b + d ∧ tot (rv lv b d) < tot (rv lv b e)
  | 0, h => absurd h (by omega)
  | e + 1, h => by
    simp only [rv]
    by_cases z : e = d
    · subst z
      rw [if_neg hl]
      exact ⟨(LFn_snoc (flat_rvS (lv := lv) (q := b + e) (rv lv b e))).2, by rw [(vlt_step (lv := lv) (vlt_rv e).1).2]; omega⟩
    · have ih := rv_pre hl e (by omega)
      split
      · exact ih
      · exact ⟨by rw [(LFn_snoc (flat_rvS (lv := lv) (q := b + e) (rv lv b e))).1 _ ih.2]; exact ih.1, by rw [(vlt_step (lv := lv) (vlt_rv e).1).2]; omega⟩
theorem off_rvS {lv : Nat → Int32} {q r : Nat} {V : List (List Nat)} (hr : r < V.length) : off (rvS lv q V) r = off V r ∧ V.length ≤ (rvS lv q V).length := by
  match V, hr with
  | [] :: rest, hr => exact ⟨if_neg (by simp only [List.length_cons] at hr ⊢; omega), Nat.le_succ _⟩
  | (p :: t) :: rest, hr =>
    simp only [rvS]
    split
    · exact ⟨rfl, Nat.le_refl _⟩
    · exact ⟨if_neg (by simp only [List.length_cons] at hr ⊢; omega), Nat.le_succ _⟩
theorem off_pre {lv : Nat → Int32} {b d r : Nat} (hr : r < (rv lv b d).length) : ∀ e, d ≤ e → off (rv lv b e) r = off (rv lv b d) r ∧ r < (rv lv b e).length
  | 0, h => by rw [show d = 0 by omega] at hr ⊢; exact ⟨rfl, hr⟩
  | e + 1, h => by
    by_cases z : d = e + 1
    · rw [← z]; exact ⟨rfl, hr⟩
    · have ih := off_pre hr e (by omega)
      simp only [rv]
      split
      · exact ih
      · have := off_rvS (lv := lv) (q := b + e) ih.2
        exact ⟨this.1.trans ih.1, by omega⟩
/-- whether a run begins behind those of V -/
def nwR (lv : Nat → Int32) (q : Nat) : List (List Nat) → Prop
  | (p :: _) :: _ => lv p ≠ lv q
  | _ => True
theorem rvS_new {lv : Nat → Int32} {q : Nat} {V : List (List Nat)} (h : nwR lv q V) : rvS lv q V = [q] :: V := by
  match V, h with
  | [], _ => rfl
  | [] :: rest, _ => rfl
  | (p :: t) :: rest, h => exact if_neg h
theorem rvS_old {lv : Nat → Int32} {q : Nat} {V : List (List Nat)} (h : ¬ nwR lv q V) : (rvS lv q V).length = V.length := by
  match V, h with
  | [], h => exact absurd trivial h
  | [] :: rest, h => exact absurd trivial h
  | (p :: t) :: rest, h =>
    have e : rvS lv q ((p :: t) :: rest) = (q :: p :: t) :: rest := if_pos (Classical.byContradiction h)
    rw [e]; rfl
theorem lbZ_rv {lv : Nat → Int32} {b pe : Nat} (hs : lvS lv b pe) : ∀ d, b + d ≤ pe → (rv lv b d = [] ∧ lbZ lv b (b + d) = b) ∨ (∃ p t rest, rv lv b d = (p :: t) :: rest ∧ lbZ lv b (b + d) = p + 1 ∧ b ≤ p ∧ p < b + d)
  | 0, _ => by
    refine Or.inl ⟨rfl, ?_⟩
    have := lbZ_spec lv b (b + 0) (by omega)
    omega
  | d + 1, hd => by
    have ih := lbZ_rv hs d (by omega)
    have e : lbZ lv b (b + (d + 1)) = if 0 ≤ lv (b + d) then b + d + 1 else lbZ lv b (b + d) := by
      show lbZ lv b ((b + d) + 1) = _
      simp only [lbZ]
      rw [if_neg (by omega)]
    rw [e]
    simp only [rv]
    by_cases z : lv (b + d) = -1
    · rw [if_pos z, if_neg (by rw [z]; decide)]
      rcases ih with h | ⟨p, t, rest, h1, h2, h3, h4⟩
      · exact Or.inl h
      · exact Or.inr ⟨p, t, rest, h1, h2, h3, by omega⟩
    · rw [if_neg z, if_pos ((lvS_ne hs (by omega) (by omega)).mp z)]
      refine Or.inr ?_
      match h : rv lv b d with
      | [] => exact ⟨b + d, [], [], rfl, rfl, by omega, by omega⟩
      | [] :: rest => exact absurd rfl (h ▸ (vlt_rv (lv := lv) (b := b) d).1).1
      | (p :: t) :: rest =>
        simp only [rvS]
        split
        · exact ⟨b + d, p :: t, rest, rfl, rfl, by omega, by omega⟩
        · exact ⟨b + d, [], (p :: t) :: rest, rfl, rfl, by omega, by omega⟩
