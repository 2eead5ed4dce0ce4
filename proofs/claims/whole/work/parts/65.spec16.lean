/-! 65: matches by a stack and by counting; directions inside by both -/
theorem mOf_s {fst : Nat → Int32} {f k o : Nat} : mOf fst (f + 1) k o = if stp (fst k) o = 0 then nI k else mOf fst f (k + 1) (stp (fst k) o) := rfl
theorem mOf_cut {fst : Nat → Int32} : ∀ f f' k o j, mOf fst f k o = nI j → k + f ≤ 2000 → j < 2000 → j < k + f' → mOf fst f' k o = nI j
  | 0, _, _, _, _, h, _, h2, _ => absurd h.symm (m1_ne (by omega))
  | f + 1, 0, k, o, j, h, h1, h2, h3 => by
    rcases mOf_ok (fst := fst) (f + 1) k o with q | ⟨i, q1, q2, q3⟩
    · rw [q] at h; exact absurd h.symm (m1_ne (by omega))
    · rw [q3] at h
      have := (nI_eq (by omega) (by omega)).mp h
      omega
  | f + 1, f' + 1, k, o, j, h, h1, h2, h3 => by
    rw [mOf_s] at h ⊢
    by_cases q : stp (fst k) o = 0
    · rw [if_pos q] at h ⊢; exact h
    · rw [if_neg q] at h ⊢; exact mOf_cut f f' (k + 1) _ j h (by omega) h2 (by omega)
/-- what holds of stack and matches when d positions are through -/
def MI (fst f0 : Nat → Int32) (b pe d : Nat) : Prop := (∀ A w C, mstk fst b d = A ++ w :: C → mOf fst (pe - (w + 1)) (w + 1) 1 = mOf fst (pe - (b + d)) (b + d) (A.length + 1) ∧ mmat fst b f0 d w = -1 ∧ isol (fst w) ∧ b ≤ w ∧ w < b + d) ∧ ((mstk fst b d).Pairwise (· > ·)) ∧ (∀ q, b ≤ q → q < b + d → isol (fst q) → q ∉ mstk fst b d → ∃ j, mmat fst b f0 d q = nI j ∧ mmat fst b f0 d j = nI q ∧ q < j ∧ j < b + d ∧ fst j = 22 ∧ mOf fst (pe - (q + 1)) (q + 1) 1 = nI j) ∧ (∀ q, b ≤ q → q < b + d → ¬ isol (fst q) → mmat fst b f0 d q = -1 ∨ (fst q = 22 ∧ ∃ w, mmat fst b f0 d q = nI w ∧ w < q ∧ b ≤ w ∧ isol (fst w) ∧ mmat fst b f0 d w = nI q))
theorem MI.st {fst f0 : Nat → Int32} {b pe d : Nat} (h : MI fst f0 b pe d) : ∀ A w C, mstk fst b d = A ++ w :: C → mOf fst (pe - (w + 1)) (w + 1) 1 = mOf fst (pe - (b + d)) (b + d) (A.length + 1) ∧ mmat fst b f0 d w = -1 ∧ isol (fst w) ∧ b ≤ w ∧ w < b + d := h.1
theorem MI.dc {fst f0 : Nat → Int32} {b pe d : Nat} (h : MI fst f0 b pe d) : (mstk fst b d).Pairwise (· > ·) := h.2.1
theorem MI.is {fst f0 : Nat → Int32} {b pe d : Nat} (h : MI fst f0 b pe d) : ∀ q, b ≤ q → q < b + d → isol (fst q) → q ∉ mstk fst b d → ∃ j, mmat fst b f0 d q = nI j ∧ mmat fst b f0 d j = nI q ∧ q < j ∧ j < b + d ∧ fst j = 22 ∧ mOf fst (pe - (q + 1)) (q + 1) 1 = nI j := h.2.2.1
theorem MI.ot {fst f0 : Nat → Int32} {b pe d : Nat} (h : MI fst f0 b pe d) : ∀ q, b ≤ q → q < b + d → ¬ isol (fst q) → mmat fst b f0 d q = -1 ∨ (fst q = 22 ∧ ∃ w, mmat fst b f0 d q = nI w ∧ w < q ∧ b ≤ w ∧ isol (fst w) ∧ mmat fst b f0 d w = nI q) := h.2.2.2
theorem isol_n22 {k : Int32} (h : isol k) : k ≠ 22 := fun q => by subst q; exact absurd h (by decide)
theorem MI_of {fst f0 : Nat → Int32} {b pe : Nat} (hp : pe ≤ 2000) : ∀ d, b + d ≤ pe → MI fst f0 b pe d
  | 0, _ => ⟨fun A w C h => by simp [mstk] at h, List.Pairwise.nil, fun q h1 h2 => absurd h2 (by omega), fun q h1 h2 => absurd h2 (by omega)⟩
  | d + 1, hd => by
    have ih := MI_of (fst := fst) (f0 := f0) (b := b) hp d (by omega)
    have hlt := mstk_lt fst b d
    have hfu : pe - (b + d) = (pe - (b + (d + 1))) + 1 := by omega
    by_cases hi : isol (fst (b + d))
    · have em : mmat fst b f0 (d + 1) = upd (mmat fst b f0 d) (b + d) (-1) := mmat_s (fun q => q.1 hi)
      have es : mstk fst b (d + 1) = (b + d) :: mstk fst b d := by simp only [mstk]; rw [if_pos hi]
      refine ⟨?_, ?_, ?_, ?_⟩
      · intro A w C h
        rw [es] at h
        cases A with
        | nil =>
          obtain ⟨h1, h2⟩ := List.cons.inj h
          subst h1
          rw [em]
          exact ⟨rfl, pk_us, hi, by omega, by omega⟩
        | cons a A =>
          obtain ⟨h1, h2⟩ := List.cons.inj h
          obtain ⟨q1, q2, q3, q4, q5⟩ := ih.st A w C h2
          rw [em]
          refine ⟨?_, by rw [pk_un (by omega)]; exact q2, q3, q4, by omega⟩
          rw [q1, hfu, mOf_s]
          have e : stp (fst (b + d)) (A.length + 1) = A.length + 1 + 1 := by unfold stp; rw [if_pos hi]
          rw [e, if_neg (by omega)]; rfl
      · rw [es]; exact List.Pairwise.cons (fun w hw => hlt w hw) ih.dc
      · intro q h1 h2 h3 h4
        rw [es] at h4
        have hq : q ≠ b + d := fun z => h4 (z ▸ List.mem_cons_self)
        obtain ⟨j, e1, e2, e3, e4, e5, e6⟩ := ih.is q h1 (by omega) h3 (fun z => h4 (List.mem_cons_of_mem _ z))
        rw [em]
        exact ⟨j, by rw [pk_un hq]; exact e1, by rw [pk_un (by omega)]; exact e2, e3, by omega, e5, e6⟩
      · intro q h1 h2 h3
        have hq : q ≠ b + d := fun z => h3 (z ▸ hi)
        rw [em, pk_un hq]
        rcases ih.ot q h1 (by omega) h3 with z | ⟨z1, w, z2, z3, z4, z5, z6⟩
        · exact Or.inl z
        · exact Or.inr ⟨z1, w, z2, z3, z4, z5, by rw [pk_un (by omega)]; exact z6⟩
    · by_cases h22 : fst (b + d) = 22
      · cases hm : mstk fst b d with
        | nil =>
          have em : mmat fst b f0 (d + 1) = upd (mmat fst b f0 d) (b + d) (-1) := mmat_e hm
          have es : mstk fst b (d + 1) = [] := by simp only [mstk]; rw [if_neg hi, if_pos h22, hm]; rfl
          refine ⟨fun A w C h => by rw [es] at h; simp at h, by rw [es]; exact List.Pairwise.nil, ?_, ?_⟩
          · intro q h1 h2 h3 h4
            have hq : q ≠ b + d := fun z => hi (z ▸ h3)
            obtain ⟨j, e1, e2, e3, e4, e5, e6⟩ := ih.is q h1 (by omega) h3 (by rw [hm]; exact List.not_mem_nil)
            rw [em]
            exact ⟨j, by rw [pk_un hq]; exact e1, by rw [pk_un (by omega)]; exact e2, e3, by omega, e5, e6⟩
          · intro q h1 h2 h3
            rw [em]
            by_cases hq : q = b + d
            · rw [hq, pk_us]; exact Or.inl rfl
            · rw [pk_un hq]
              rcases ih.ot q h1 (by omega) h3 with z | ⟨z1, w, z2, z3, z4, z5, z6⟩
              · exact Or.inl z
              · exact Or.inr ⟨z1, w, z2, z3, z4, z5, by rw [pk_un (by omega)]; exact z6⟩
        | cons w L =>
          have em : mmat fst b f0 (d + 1) = upd (upd (upd (mmat fst b f0 d) (b + d) (-1)) (b + d) (nI w)) w (nI (b + d)) := mmat_p hi h22 hm
          have es : mstk fst b (d + 1) = L := by simp only [mstk]; rw [if_neg hi, if_pos h22, hm]; rfl
          obtain ⟨w1, w2, w3, w4, w5⟩ := ih.st [] w L hm
          have hdc := ih.dc
          rw [hm] at hdc
          have hgt := (List.pairwise_cons.mp hdc).1
          have eo : ∀ x, x ≠ w → x ≠ b + d → mmat fst b f0 (d + 1) x = mmat fst b f0 d x := fun x h1 h2 => by rw [em, pk_un h1, pk_un h2, pk_un h2]
          have ew : mmat fst b f0 (d + 1) w = nI (b + d) := by rw [em, pk_us]
          have eb : mmat fst b f0 (d + 1) (b + d) = nI w := by rw [em, pk_un (by omega), pk_us]
          have hmw : mOf fst (pe - (w + 1)) (w + 1) 1 = nI (b + d) := by
            rw [w1, hfu, mOf_s]
            have e : stp (fst (b + d)) (([] : List Nat).length + 1) = 0 := by unfold stp; rw [if_neg hi, if_pos h22]; rfl
            rw [if_pos e]
          refine ⟨?_, by rw [es]; exact (List.pairwise_cons.mp hdc).2, ?_, ?_⟩
          · intro A x C h
            rw [es] at h
            obtain ⟨q1, q2, q3, q4, q5⟩ := ih.st (w :: A) x C (by rw [hm, h]; rfl)
            have hx : x ∈ L := by rw [h]; simp
            have hxw := hgt x hx
            rw [eo x (by omega) (by omega)]
            refine ⟨?_, q2, q3, q4, by omega⟩
            rw [q1, hfu, mOf_s]
            have e : stp (fst (b + d)) ((w :: A).length + 1) = A.length + 1 := by unfold stp; rw [if_neg hi, if_pos h22]; rfl
            rw [e, if_neg (by omega)]; rfl
          · intro q h1 h2 h3 h4
            have hq : q ≠ b + d := fun z => hi (z ▸ h3)
            by_cases hqw : q = w
            · subst hqw
              exact ⟨b + d, ew, eb, w5, by omega, h22, hmw⟩
            · obtain ⟨j, e1, e2, e3, e4, e5, e6⟩ := ih.is q h1 (by omega) h3 (by rw [hm]; rw [es] at h4; exact fun z => (List.mem_cons.mp z).elim hqw h4)
              exact ⟨j, by rw [eo q hqw hq]; exact e1, by rw [eo j (fun z => isol_n22 w3 (z ▸ e5)) (by omega)]; exact e2, e3, by omega, e5, e6⟩
          · intro q h1 h2 h3
            by_cases hq : q = b + d
            · subst hq; exact Or.inr ⟨h22, w, eb, w5, w4, w3, ew⟩
            · have hqw : q ≠ w := fun z => h3 (z ▸ w3)
              rw [eo q hqw hq]
              rcases ih.ot q h1 (by omega) h3 with z | ⟨z1, w', z2, z3, z4, z5, z6⟩
              · exact Or.inl z
              · refine Or.inr ⟨z1, w', z2, z3, z4, z5, ?_⟩
                rw [eo w' (fun z => by rw [z, w2] at z6; exact m1_ne (by omega) z6.symm) (by omega)]; exact z6
      · have em : mmat fst b f0 (d + 1) = upd (mmat fst b f0 d) (b + d) (-1) := mmat_s (fun q => h22 q.2)
        have es : mstk fst b (d + 1) = mstk fst b d := by simp only [mstk]; rw [if_neg hi, if_neg h22]
        refine ⟨?_, by rw [es]; exact ih.dc, ?_, ?_⟩
        · intro A w C h
          rw [es] at h
          obtain ⟨q1, q2, q3, q4, q5⟩ := ih.st A w C h
          rw [em]
          refine ⟨?_, by rw [pk_un (by omega)]; exact q2, q3, q4, by omega⟩
          rw [q1, hfu, mOf_s]
          have e : stp (fst (b + d)) (A.length + 1) = A.length + 1 := by unfold stp; rw [if_neg hi, if_neg h22]
          rw [e, if_neg (by omega)]; rfl
        · intro q h1 h2 h3 h4
          have hq : q ≠ b + d := fun z => hi (z ▸ h3)
          rw [es] at h4
          obtain ⟨j, e1, e2, e3, e4, e5, e6⟩ := ih.is q h1 (by omega) h3 h4
          rw [em]
          exact ⟨j, by rw [pk_un hq]; exact e1, by rw [pk_un (by omega)]; exact e2, e3, by omega, e5, e6⟩
        · intro q h1 h2 h3
          rw [em]
          by_cases hq : q = b + d
          · rw [hq, pk_us]; exact Or.inl rfl
          · rw [pk_un hq]
            rcases ih.ot q h1 (by omega) h3 with z | ⟨z1, w, z2, z3, z4, z5, z6⟩
            · exact Or.inl z
            · exact Or.inr ⟨z1, w, z2, z3, z4, z5, by rw [pk_un (by omega)]; exact z6⟩
theorem mm_iso {fst f0 : Nat → Int32} {b pe q : Nat} (hp : pe ≤ 2000) (h1 : b ≤ q) (h2 : q < pe) (h3 : isol (fst q)) : mmat fst b f0 (pe - b) q = mOf fst (pe - (q + 1)) (q + 1) 1 ∧ (mmat fst b f0 (pe - b) q = -1 ∨ ∃ j, mmat fst b f0 (pe - b) q = nI j ∧ mmat fst b f0 (pe - b) j = nI q ∧ q < j ∧ j < pe ∧ fst j = 22) := by
  have M := MI_of (fst := fst) (f0 := f0) (b := b) hp (pe - b) (by omega)
  by_cases hq : q ∈ mstk fst b (pe - b)
  · obtain ⟨A, C, e⟩ := List.append_of_mem hq
    obtain ⟨e1, e2, -⟩ := M.st A q C e
    rw [e1, e2, show pe - (b + (pe - b)) = 0 by omega]
    exact ⟨rfl, Or.inl rfl⟩
  · obtain ⟨j, e1, e2, e3, e4, e5, e6⟩ := M.is q h1 (by omega) h3 hq
    exact ⟨by rw [e1, e6], Or.inr ⟨j, e1, e2, e3, by omega, e5⟩⟩
theorem mm_ot {fst f0 : Nat → Int32} {b pe q : Nat} (hp : pe ≤ 2000) (h1 : b ≤ q) (h2 : q < pe) (h3 : ¬ isol (fst q)) : mmat fst b f0 (pe - b) q = -1 ∨ (fst q = 22 ∧ ∃ w, mmat fst b f0 (pe - b) q = nI w ∧ w < q ∧ b ≤ w ∧ isol (fst w) ∧ mmat fst b f0 (pe - b) w = nI q) :=
  (MI_of (fst := fst) (f0 := f0) (b := b) hp (pe - b) (by omega)).ot q h1 (by omega) h3
theorem mstk_ge (fst : Nat → Int32) (b : Nat) : ∀ d, ∀ w ∈ mstk fst b d, b ≤ w
  | 0, w, h => absurd h List.not_mem_nil
  | d + 1, w, h => by
    have ih := mstk_ge fst b d
    simp only [mstk] at h
    split at h
    · rcases List.mem_cons.mp h with z | z
      · omega
      · exact ih w z
    · split at h
      · exact ih w (List.mem_of_mem_tail h)
      · exact ih w h
theorem mmat_out {fst f0 : Nat → Int32} {b : Nat} : ∀ d q, (q < b ∨ b + d ≤ q) → mmat fst b f0 d q = f0 q
  | 0, _, _ => rfl
  | d + 1, q, h => by
    have ih := mmat_out (fst := fst) (f0 := f0) (b := b) d q (by omega)
    by_cases hc : ¬ isol (fst (b + d)) ∧ fst (b + d) = 22
    · cases hm : mstk fst b d with
      | nil => rw [mmat_e hm, pk_un (by omega)]; exact ih
      | cons w L =>
        have hw : w < b + d := mstk_lt fst b d w (by rw [hm]; exact List.mem_cons_self)
        have hb : b ≤ w := mstk_ge fst b d w (by rw [hm]; exact List.mem_cons_self)
        rw [mmat_p hc.1 hc.2 hm, pk_un (by omega), pk_un (by omega), pk_un (by omega)]; exact ih
    · rw [mmat_s hc, pk_un (by omega)]; exact ih
/-- the model's matches when those before b + d are through -/
def mdl (fst F f0 : Nat → Int32) (b pe d : Nat) : Nat → Int32 := fun x => if b ≤ x ∧ x < pe then (if (isol (fst x) ∧ x < b + d) ∨ (fst x = 22 ∧ F x ≠ -1 ∧ F x < nI (b + d)) then F x else -1) else f0 x
theorem mdl_0 {fst f0 : Nat → Int32} {b pe : Nat} (hp : pe ≤ 2000) : mdl fst (mmat fst b f0 (pe - b)) f0 b pe 0 = rng b pe (-1) f0 := by
  funext x
  unfold mdl rng
  by_cases hx : b ≤ x ∧ x < pe
  · rw [if_pos hx, if_pos hx]
    by_cases hc : (isol (fst x) ∧ x < b + 0) ∨ (fst x = 22 ∧ mmat fst b f0 (pe - b) x ≠ -1 ∧ mmat fst b f0 (pe - b) x < nI (b + 0))
    · exfalso
      rcases hc with z | ⟨z1, z2, z3⟩
      · omega
      · rcases mm_ot (f0 := f0) hp hx.1 hx.2 (fun q => isol_n22 q z1) with e | ⟨-, w, e1, e2, e3, -⟩
        · exact z2 e
        · rw [e1] at z3
          have := (nI_ltI (by omega) (by omega)).mp z3
          omega
    · rw [if_neg hc]
  · rw [if_neg hx, if_neg hx]
theorem mdl_s {fst f0 : Nat → Int32} {b pe d : Nat} (hp : pe ≤ 2000) (hd : b + d < pe) (h : ∀ x, b ≤ x → x < pe → fst x = 22 → mmat fst b f0 (pe - b) x ≠ nI (b + d)) (hk : isol (fst (b + d)) → mmat fst b f0 (pe - b) (b + d) = -1) : mdl fst (mmat fst b f0 (pe - b)) f0 b pe (d + 1) = mdl fst (mmat fst b f0 (pe - b)) f0 b pe d := by
  funext x
  unfold mdl
  by_cases hx : b ≤ x ∧ x < pe
  · rw [if_pos hx, if_pos hx]
    by_cases hc : (isol (fst x) ∧ x < b + d) ∨ (fst x = 22 ∧ mmat fst b f0 (pe - b) x ≠ -1 ∧ mmat fst b f0 (pe - b) x < nI (b + d))
    · rw [if_pos hc, if_pos]
      rcases hc with z | ⟨z1, z2, z3⟩
      · exact Or.inl ⟨z.1, by omega⟩
      · refine Or.inr ⟨z1, z2, ?_⟩
        rcases mm_ot (f0 := f0) hp hx.1 hx.2 (fun q => isol_n22 q z1) with e | ⟨-, w, e1, e2, e3, -⟩
        · exact absurd e z2
        · rw [e1] at z3 ⊢
          have := (nI_ltI (by omega) (by omega)).mp z3
          exact nI_lt (by omega) (by omega)
    · rw [if_neg hc]
      by_cases hz : x = b + d ∧ isol (fst (b + d))
      · rw [hz.1, hk hz.2]; split <;> rfl
      · rw [if_neg]
        rintro (z | ⟨z1, z2, z3⟩)
        · have : x = b + d := by
            rcases Nat.lt_or_ge x (b + d) with w | w
            · exact absurd (Or.inl ⟨z.1, w⟩) hc
            · omega
          exact hz ⟨this, this ▸ z.1⟩
        · rcases mm_ot (f0 := f0) hp hx.1 hx.2 (fun q => isol_n22 q z1) with e | ⟨-, w, e1, e2, e3, -⟩
          · exact z2 e
          · have hne := h x hx.1 hx.2 z1
            rw [e1] at z3 hne
            have := (nI_ltI (by omega) (by omega)).mp z3
            have hw : w ≠ b + d := fun q => hne (by rw [q])
            exact hc (Or.inr ⟨z1, z2, by rw [e1]; exact nI_lt (by omega) (by omega)⟩)
  · rw [if_neg hx, if_neg hx]
theorem mdl_n {fst f0 : Nat → Int32} {b pe d : Nat} (hp : pe ≤ 2000) (hd : b + d < pe) (hi : ¬ isol (fst (b + d))) : mdl fst (mmat fst b f0 (pe - b)) f0 b pe (d + 1) = mdl fst (mmat fst b f0 (pe - b)) f0 b pe d := by
  refine mdl_s hp hd (fun x h1 h2 h3 h4 => ?_) (fun q => absurd q hi)
  rcases mm_ot (f0 := f0) hp h1 h2 (fun q => isol_n22 q h3) with e | ⟨-, w, e1, e2, e3, e4, -⟩
  · rw [e] at h4; exact m1_ne (by omega) h4.symm
  · rw [e1] at h4
    have := (nI_eq (by omega) (by omega)).mp h4
    subst this; exact hi e4
theorem mdl_m {fst f0 : Nat → Int32} {b pe d : Nat} (hp : pe ≤ 2000) (hd : b + d < pe) (hi : isol (fst (b + d))) (hm : mOf fst (pe - (b + d + 1)) (b + d + 1) 1 = -1) : mdl fst (mmat fst b f0 (pe - b)) f0 b pe (d + 1) = mdl fst (mmat fst b f0 (pe - b)) f0 b pe d := by
  have hk : mmat fst b f0 (pe - b) (b + d) = -1 := (mm_iso hp (by omega) hd hi).1.trans hm
  refine mdl_s hp hd (fun x h1 h2 h3 h4 => ?_) (fun _ => hk)
  rcases mm_ot (f0 := f0) hp h1 h2 (fun q => isol_n22 q h3) with e | ⟨-, w, e1, e2, e3, e4, e5⟩
  · rw [e] at h4; exact m1_ne (by omega) h4.symm
  · rw [e1] at h4
    have := (nI_eq (by omega) (by omega)).mp h4
    subst this
    rw [e5] at hk; exact m1_ne (by omega) hk
theorem mdl_p {fst f0 : Nat → Int32} {b pe d j : Nat} (hp : pe ≤ 2000) (hd : b + d < pe) (hi : isol (fst (b + d))) (hj : j < 2000) (hm : mOf fst (pe - (b + d + 1)) (b + d + 1) 1 = nI j) : upd (upd (mdl fst (mmat fst b f0 (pe - b)) f0 b pe d) (b + d) (nI j)) j (nI (b + d)) = mdl fst (mmat fst b f0 (pe - b)) f0 b pe (d + 1) := by
  have hk : mmat fst b f0 (pe - b) (b + d) = nI j := (mm_iso hp (by omega) hd hi).1.trans hm
  obtain ⟨j', e1, e2, e3, e4, e5⟩ := (mm_iso (f0 := f0) (b := b) hp (by omega) hd hi).2.resolve_left (fun q => by rw [hk] at q; exact m1_ne (by omega) q)
  have e9 : nI j = nI j' := hk.symm.trans e1
  have : j' = j := ((nI_eq (by omega) (by omega)).mp e9).symm
  subst this
  funext x
  by_cases hxj : x = j'
  · subst hxj
    rw [pk_us]
    unfold mdl
    rw [if_pos ⟨by omega, e4⟩, if_pos (Or.inr ⟨e5, by rw [e2]; exact m1_ne (by omega), by rw [e2]; exact nI_lt (by omega) (by omega)⟩), e2]
  · rw [pk_un hxj]
    by_cases hxk : x = b + d
    · subst hxk
      rw [pk_us]
      unfold mdl
      rw [if_pos ⟨by omega, hd⟩, if_pos (Or.inl ⟨hi, by omega⟩), hk]
    · rw [pk_un hxk]
      unfold mdl
      by_cases hx : b ≤ x ∧ x < pe
      · rw [if_pos hx, if_pos hx]
        refine ite_congr (propext ?_) (fun _ => rfl) (fun _ => rfl)
        constructor
        · rintro (z | ⟨z1, z2, z3⟩)
          · exact Or.inl ⟨z.1, by omega⟩
          · refine Or.inr ⟨z1, z2, ?_⟩
            rcases mm_ot (f0 := f0) hp hx.1 hx.2 (fun q => isol_n22 q z1) with e | ⟨-, w, y1, y2, y3, -⟩
            · exact absurd e z2
            · rw [y1] at z3 ⊢
              have := (nI_ltI (by omega) (by omega)).mp z3
              exact nI_lt (by omega) (by omega)
        · rintro (z | ⟨z1, z2, z3⟩)
          · exact Or.inl ⟨z.1, by omega⟩
          · refine Or.inr ⟨z1, z2, ?_⟩
            rcases mm_ot (f0 := f0) hp hx.1 hx.2 (fun q => isol_n22 q z1) with e | ⟨-, w, y1, y2, y3, y4, y5⟩
            · exact absurd e z2
            · rw [y1] at z3 ⊢
              have h9 := (nI_ltI (by omega) (by omega)).mp z3
              have hw : w ≠ b + d := fun q => by
                subst q
                rw [hk] at y5
                exact hxj ((nI_eq (by omega) (by omega)).mp y5).symm
              exact nI_lt (by omega) (by omega)
      · rw [if_neg hx, if_neg hx]
theorem mdl_e {fst f0 : Nat → Int32} {b pe : Nat} (hp : pe ≤ 2000) (hb : b ≤ pe) : mdl fst (mmat fst b f0 (pe - b)) f0 b pe (pe - b) = mmat fst b f0 (pe - b) := by
  funext x
  unfold mdl
  by_cases hx : b ≤ x ∧ x < pe
  · rw [if_pos hx]
    by_cases hi : isol (fst x)
    · rw [if_pos (Or.inl ⟨hi, by omega⟩)]
    · rcases mm_ot (f0 := f0) hp hx.1 hx.2 hi with e | ⟨e0, w, e1, e2, e3, -⟩
      · rw [e]; split <;> rfl
      · rw [if_pos (Or.inr ⟨e0, by rw [e1]; exact m1_ne (by omega), by rw [e1]; exact nI_lt (by omega) (by omega)⟩)]
  · rw [if_neg hx, mmat_out _ _ (by omega)]
/-- the direction inside: by matches known, and by matches looked for -/
theorem DI_RI {fst mt : Nat → Int32} {en b pe : Nat} (hp : pe ≤ 2000) (he : en ≤ pe) (hm : ∀ q, b ≤ q → q < pe → isol (fst q) → mt q = mOf fst (pe - (q + 1)) (q + 1) 1) : ∀ n k, en - k ≤ n → b ≤ k → DI fst mt en k = bI (RI fst en k)
  | 0, k, h, _ => by rw [DI_ge (by omega), RI_ge (by omega)]; exact (bI_f id).symm
  | n + 1, k, h, hb => by
    rcases Nat.lt_or_ge k en with hk | hk
    · rw [DI_eq hk, RI_eq (by omega) hk]
      by_cases h0 : fst k = 0
      · rw [if_pos h0, if_pos (Or.inl h0)]; exact (bI_f (fun q => q h0)).symm
      · rw [if_neg h0]
        by_cases h1 : fst k = 1 ∨ fst k = 2
        · rw [if_pos h1, if_pos (Or.inr h1)]; exact (bI_t h0).symm
        · rw [if_neg h1, if_neg (show ¬ strg (fst k) from fun q => q.elim h0 h1)]
          have hg := rnx_gt (fst := fst) hk (show en ≤ 2000 by omega)
          by_cases hi : isol (fst k)
          · rw [if_pos hi]
            by_cases hz : mOf fst (en - (k + 1)) (k + 1) 1 = -1
            · have hr : rnx fst en k = en := by unfold rnx; rw [if_pos hi, if_pos hz]
              rw [hr, RI_ge (Nat.le_refl en), DI_ge]
              · exact (bI_f id).symm
              · by_cases hq : mt k = -1
                · rw [if_pos hq]; omega
                · rw [if_neg hq]
                  rw [hm k hb (by omega) hi] at hq ⊢
                  obtain ⟨j, j1, j2, j3⟩ := (mOf_ok (fst := fst) (pe - (k + 1)) (k + 1) 1).resolve_left hq
                  rw [j3, nI_clamp (by omega)]
                  rcases Nat.lt_or_ge j en with w | w
                  · have := mOf_cut _ (en - (k + 1)) _ _ j j3 (by omega) (by omega) (by omega)
                    rw [this] at hz; exact absurd hz (m1_ne (by omega))
                  · omega
            · obtain ⟨j, j1, j2, j3⟩ := (mOf_ok (fst := fst) (en - (k + 1)) (k + 1) 1).resolve_left hz
              have hr : rnx fst en k = j + 1 := by unfold rnx; rw [if_pos hi, if_neg hz, j3, nI_clamp (by omega)]
              have hmt : mt k = nI j := by rw [hm k hb (by omega) hi]; exact mOf_cut _ _ _ _ j j3 (by omega) (by omega) (by omega)
              rw [hmt, if_neg (m1_ne (by omega)), nI_clamp (by omega), hr, show max k j + 1 = j + 1 by omega]
              exact DI_RI hp he hm n (j + 1) (by omega) (by omega)
          · rw [if_neg hi]
            have hr : rnx fst en k = k + 1 := by unfold rnx; rw [if_neg hi]
            rw [hr]
            exact DI_RI hp he hm n (k + 1) (by omega) (by omega)
    · rw [DI_ge hk, RI_ge hk]; exact (bI_f id).symm
