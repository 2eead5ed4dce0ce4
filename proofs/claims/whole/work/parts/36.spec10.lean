/-! a paragraph's facts: matches lie behind, levels are small, runs come in order -/
theorem mmat_okM {fst f0 : Nat → Int32} {b : Nat} (h : okM f0) : ∀ d, b + d ≤ 2000 → okM (mmat fst b f0 d)
  | 0, _ => h
  | d + 1, hd => by
    have ih := mmat_okM (fst := fst) (b := b) h d (by omega)
    have hs : okM (upd (mmat fst b f0 d) (b + d) (-1)) := fun i hi => by
      by_cases q : i = b + d
      · rw [q, pk_us]; exact Or.inl rfl
      · rw [pk_un q]; exact ih i hi
    by_cases hc : ¬ isol (fst (b + d)) ∧ fst (b + d) = 22
    · cases hm : mstk fst b d with
      | nil => rw [mmat_e hm]; exact hs
      | cons w L =>
        rw [mmat_p hc.1 hc.2 hm]
        have hw : w < b + d := mstk_lt fst b d w (by rw [hm]; exact List.mem_cons_self)
        intro i hi
        by_cases q : i = w
        · rw [q, pk_us]; exact Or.inr ⟨b + d, by omega, rfl⟩
        · rw [pk_un q]
          by_cases q2 : i = b + d
          · rw [q2, pk_us]; exact Or.inr ⟨w, by omega, rfl⟩
          · rw [pk_un q2]; exact hs i hi
    · rw [mmat_s hc]; exact hs
theorem mmat_iso {fst f0 : Nat → Int32} {b : Nat} : ∀ d q, b ≤ q → q < b + d → isol (fst q) → mmat fst b f0 d q = -1 ∨ ∃ k, mmat fst b f0 d q = nI k ∧ q < k ∧ k < b + d ∧ fst k = 22
  | 0, q, h1, h2, _ => absurd h2 (by omega)
  | d + 1, q, h1, h2, hi => by
    have old : q < b + d → ∀ g : Nat → Int32, g q = mmat fst b f0 d q → g q = -1 ∨ ∃ k, g q = nI k ∧ q < k ∧ k < b + (d + 1) ∧ fst k = 22 := fun hq g e => by
      rw [e]
      rcases mmat_iso (f0 := f0) d q h1 hq hi with z | ⟨k, z1, z2, z3, z4⟩
      · exact Or.inl z
      · exact Or.inr ⟨k, z1, z2, by omega, z4⟩
    by_cases hc : ¬ isol (fst (b + d)) ∧ fst (b + d) = 22
    · have hq : q < b + d := by
        rcases Nat.lt_or_ge q (b + d) with z | z
        · exact z
        · exact absurd (show isol (fst (b + d)) by rw [show b + d = q by omega]; exact hi) hc.1
      cases hm : mstk fst b d with
      | nil => rw [mmat_e hm]; exact old hq _ (pk_un (by omega))
      | cons w L =>
        rw [mmat_p hc.1 hc.2 hm]
        by_cases z : q = w
        · subst z; rw [pk_us]; exact Or.inr ⟨b + d, rfl, hq, by omega, hc.2⟩
        · rw [pk_un z]; rw [pk_un (show q ≠ b + d by omega)]; exact old hq _ (pk_un (by omega))
    · rw [mmat_s hc]
      by_cases z : q = b + d
      · rw [z, pk_us]; exact Or.inl rfl
      · rw [pk_un z]; exact old (by omega) (mmat fst b f0 d) rfl
theorem xlv_in {fst mt f0 : Nat → Int32} {b pe base : Nat} : ∀ d j, b ≤ j → j < b + d → xlv fst mt b pe base f0 d j = xlev (fst j) base (xrun fst mt b pe base (j - b))
  | 0, j, h1, h2 => absurd h2 (by omega)
  | d + 1, j, h1, h2 => by
    simp only [xlv]
    by_cases z : j = b + d
    · subst z; rw [pk_us, Nat.add_sub_cancel_left]
    · rw [pk_un z]; exact xlv_in d j h1 (by omega)
theorem xlv_out {fst mt f0 : Nat → Int32} {b pe base : Nat} : ∀ d j, (j < b ∨ b + d ≤ j) → xlv fst mt b pe base f0 d j = f0 j
  | 0, _, _ => rfl
  | d + 1, j, h => by simp only [xlv]; rw [pk_un (by omega)]; exact xlv_out d j (by omega)
theorem xkd_in {fst mt f0 : Nat → Int32} {b pe base : Nat} : ∀ d j, b ≤ j → j < b + d → xkd fst mt b pe base f0 d j = xkin (fst j) (xrun fst mt b pe base (j - b))
  | 0, j, h1, h2 => absurd h2 (by omega)
  | d + 1, j, h1, h2 => by
    simp only [xkd]
    by_cases z : j = b + d
    · subst z; rw [pk_us, Nat.add_sub_cancel_left]
    · rw [pk_un z]; exact xkd_in d j h1 (by omega)
theorem xkd_out {fst mt f0 : Nat → Int32} {b pe base : Nat} : ∀ d j, (j < b ∨ b + d ≤ j) → xkd fst mt b pe base f0 d j = f0 j
  | 0, _, _ => rfl
  | d + 1, j, h => by simp only [xkd]; rw [pk_un (by omega)]; exact xkd_out d j (by omega)
theorem xtop_le {k : Int32} {n : Nat} {X : XS} (h : xok n X) : (xtop k X).1 ≤ 125 := by
  have hd : ∀ {Y : XS} {m : Nat}, xok m Y → (Y.1.headD (0, -1, false)).1 ≤ 125 := by
    intro Y m hy
    obtain ⟨L, r⟩ := Y
    cases L with
    | nil => exact absurd rfl hy.1
    | cons x t => exact hy.2.1.2.1
  unfold xtop
  split
  · exact hd (xok_pdi h)
  · exact hd h
theorem xlev_ok {k : Int32} {base n : Nat} {X : XS} (hb : base ≤ 1) (h : xok n X) : xlev k base X = -1 ∨ ∃ v, v ≤ 125 ∧ xlev k base X = nI v := by
  unfold xlev
  split
  · exact Or.inl rfl
  · split
    · exact Or.inr ⟨base, by omega, rfl⟩
    · exact Or.inr ⟨_, xtop_le h, rfl⟩
theorem xlev_22 {base : Nat} {X : XS} {n : Nat} (h : xok n X) : xlev 22 base X ≠ -1 := by
  unfold xlev
  rw [if_neg (by rintro (z | z | z) <;> revert z <;> decide), if_neg (by decide)]
  exact m1_ne (by have := xtop_le (k := 22) h; omega)
theorem flat_rvS {lv : Nat → Int32} {q : Nat} : ∀ V : List (List Nat), flat (rvS lv q V) = flat V ++ [q]
  | [] => rfl
  | [] :: rest => rfl
  | (p :: t) :: rest => by
    simp only [rvS]
    split
    · simp only [flat, List.reverse_cons, List.append_assoc]
    · rfl
theorem flat_mem {lv : Nat → Int32} {b : Nat} : ∀ d q, q ∈ flat (rv lv b d) ↔ b ≤ q ∧ q < b + d ∧ lv q ≠ -1
  | 0, q => ⟨fun h => absurd h List.not_mem_nil, fun h => absurd h.2.1 (by omega)⟩
  | d + 1, q => by
    have ih := flat_mem (lv := lv) (b := b) d q
    simp only [rv]
    by_cases z : lv (b + d) = -1
    · rw [if_pos z, ih]
      constructor
      · intro h; exact ⟨h.1, by omega, h.2.2⟩
      · intro h
        refine ⟨h.1, ?_, h.2.2⟩
        rcases Nat.lt_or_ge q (b + d) with w | w
        · exact w
        · exact absurd (by rw [show q = b + d by omega]; exact z) h.2.2
    · rw [if_neg z, flat_rvS, List.mem_append, List.mem_singleton, ih]
      constructor
      · rintro (h | h)
        · exact ⟨h.1, by omega, h.2.2⟩
        · rw [h]; exact ⟨by omega, by omega, z⟩
      · intro h
        by_cases w : q = b + d
        · exact Or.inr w
        · exact Or.inl ⟨h.1, by omega, h.2.2⟩
theorem LFn_snoc {V : List (List Nat)} {q : Nat} {W : List (List Nat)} (h : flat W = flat V ++ [q]) : (∀ j, j < tot V → LFn W j = LFn V j) ∧ LFn W (tot V) = q := by
  unfold LFn
  rw [h]
  constructor
  · intro j hj
    rw [List.getD_eq_getElem?_getD, List.getElem?_append_left (by rw [flat_len]; exact hj), ← List.getD_eq_getElem?_getD]
  · rw [List.getD_eq_getElem?_getD, List.getElem?_append_right (by rw [flat_len]; exact Nat.le_refl _), flat_len]
    simp
theorem LFn_lt {lv : Nat → Int32} {b : Nat} : ∀ d i j, i < j → j < tot (rv lv b d) → LFn (rv lv b d) i < LFn (rv lv b d) j
  | 0, i, j, _, h => absurd h (Nat.not_lt_zero j)
  | d + 1, i, j, hij, hj => by
    have ih := LFn_lt (lv := lv) (b := b) d
    have hv := vlt_rv (lv := lv) (b := b) d
    simp only [rv] at hj ⊢
    by_cases z : lv (b + d) = -1
    · rw [if_pos z] at hj ⊢; exact ih i j hij hj
    · rw [if_neg z] at hj ⊢
      have hs := LFn_snoc (flat_rvS (lv := lv) (q := b + d) (rv lv b d))
      rw [(vlt_step (lv := lv) hv.1).2] at hj
      rcases Nat.lt_or_ge j (tot (rv lv b d)) with w | w
      · rw [hs.1 i (by omega), hs.1 j w]; exact ih i j hij w
      · have e : j = tot (rv lv b d) := by omega
        subst e
        rw [hs.1 i hij, hs.2]
        exact vlt_flat hv.1 _ (LFn_mem hij)
theorem rof_spec : ∀ {V : List (List Nat)} {k : Nat}, k ∈ flat V → rof V k < V.length ∧ k ∈ runAt V (rof V k)
  | [], k, h => absurd h List.not_mem_nil
  | R :: rest, k, h => by
    by_cases z : k ∈ R
    · have e : rof (R :: rest) k = rest.length := if_pos z
      rw [e]
      refine ⟨Nat.lt_succ_self _, ?_⟩
      rw [show runAt (R :: rest) rest.length = R.reverse from if_pos rfl]
      exact List.mem_reverse.mpr z
    · have e : rof (R :: rest) k = rof rest k := if_neg z
      have hk : k ∈ flat rest := by
        rcases List.mem_append.mp h with w | w
        · exact w
        · exact absurd (List.mem_reverse.mp w) z
      have ih := rof_spec hk
      rw [e]
      refine ⟨Nat.lt_succ_of_lt ih.1, ?_⟩
      rw [show runAt (R :: rest) (rof rest k) = runAt rest (rof rest k) from if_neg (by omega)]
      exact ih.2
theorem incR_of {lv fst mt : Nat → Int32} {b d : Nat} (hm : ∀ q, q ∈ flat (rv lv b d) → isol (fst q) → mt q ≠ -1 → (mt q).toNatClampNeg ∈ flat (rv lv b d) ∧ q < (mt q).toNatClampNeg) : incR (rv lv b d) fst mt ∧ ∀ r, r < (rv lv b d).length → goes (rv lv b d) fst mt r → (mt (lastP (rv lv b d) r)).toNatClampNeg ∈ flat (rv lv b d) := by
  have hv := (vlt_rv (lv := lv) (b := b) d).1
  have main : ∀ r, r < (rv lv b d).length → goes (rv lv b d) fst mt r → (mt (lastP (rv lv b d) r)).toNatClampNeg ∈ flat (rv lv b d) ∧ lastP (rv lv b d) r < (mt (lastP (rv lv b d) r)).toNatClampNeg := by
    intro r hr hg
    have hp := runAt_pos hv hr
    have hf := (runAt_flat (V := rv lv b d) (r := r) (t := 0) hr hp).2
    exact hm _ (LFn_mem (by omega)) hg.1 hg.2
  refine ⟨fun r hr hg => ?_, fun r hr hg => (main r hr hg).1⟩
  obtain ⟨h1, h2⟩ := main r hr hg
  have hs := rof_spec h1
  refine ⟨?_, hs.1⟩
  rcases Nat.lt_or_ge r (nextR (rv lv b d) mt r) with z | z
  · exact z
  · exfalso
    have hp := runAt_pos hv hr
    have hf := (runAt_flat (V := rv lv b d) (r := r) (t := 0) hr hp).2
    obtain ⟨t, ht, et⟩ := List.getElem_of_mem hs.2
    have e1 := (runAt_flat hs.1 ht).1
    rw [List.getD_eq_getElem?_getD, List.getElem?_eq_getElem ht, et] at e1
    have hle : off (rv lv b d) (rof (rv lv b d) (mt (lastP (rv lv b d) r)).toNatClampNeg) + t ≤ off (rv lv b d) r + (runAt (rv lv b d) r).length - 1 := by
      rcases Nat.lt_or_ge (nextR (rv lv b d) mt r) r with w | w
      · have := off_next w hr
        unfold nextR at this w
        omega
      · have e : nextR (rv lv b d) mt r = r := by omega
        unfold nextR at e
        rw [e] at ht ⊢
        omega
    have e2 : (mt (lastP (rv lv b d) r)).toNatClampNeg ≤ lastP (rv lv b d) r := by
      have e1' : LFn (rv lv b d) (off (rv lv b d) (rof (rv lv b d) (mt (lastP (rv lv b d) r)).toNatClampNeg) + t) = (mt (lastP (rv lv b d) r)).toNatClampNeg := by simpa using e1
      rw [← e1']
      unfold lastP
      rcases Nat.lt_or_ge (off (rv lv b d) (rof (rv lv b d) (mt (lastP (rv lv b d) r)).toNatClampNeg) + t) (off (rv lv b d) r + (runAt (rv lv b d) r).length - 1) with w | w
      · exact Nat.le_of_lt (LFn_lt d _ _ w (by omega))
      · have := Nat.le_antisymm hle w
        unfold lastP at this
        rw [this]
        exact Nat.le_refl _
    omega
