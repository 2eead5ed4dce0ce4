/-! 92: the relation of class and model, and what keeps it -/
theorem pg_cov {f : Nat → Int32} {cn q : Nat} : ∀ n, n ≤ (pgL f cn cn).1.length → q < endB (pgL f cn cn).1 n → ∃ k, k < n ∧ (pgAt (pgL f cn cn).1 k).1 ≤ q ∧ q < (pgAt (pgL f cn cn).1 k).2
  | 0, _, h => absurd h (Nat.not_lt_zero q)
  | n + 1, hn, h => by
    by_cases z : q < endB (pgL f cn cn).1 n
    · obtain ⟨k, h1, h2⟩ := pg_cov n (by omega) z
      exact ⟨k, by omega, h2⟩
    · have e := ((pgL_st (f := f) (cn := cn) cn).1 n (by omega)).1
      refine ⟨n, by omega, by omega, ?_⟩
      have e2 : endB (pgL f cn cn).1 (n + 1) = (pgAt (pgL f cn cn).1 n).2 := by unfold endB; rw [if_neg (by omega), Nat.add_sub_cancel]
      omega
theorem pg_inc {f : Nat → Int32} {cn k : Nat} : ∀ n, k < n → n < (pgL f cn cn).1.length → (pgAt (pgL f cn cn).1 k).2 ≤ (pgAt (pgL f cn cn).1 n).1
  | 0, h, _ => absurd h (Nat.not_lt_zero k)
  | n + 1, h, hn => by
    have e := ((pgL_st (f := f) (cn := cn) cn).1 (n + 1) hn).1
    have e2 : endB (pgL f cn cn).1 (n + 1) = (pgAt (pgL f cn cn).1 n).2 := by unfold endB; rw [if_neg (by omega), Nat.add_sub_cancel]
    by_cases z : k = n
    · subst z; omega
    · have ih := pg_inc (f := f) (cn := cn) (k := k) n (by omega) (by omega)
      have e3 := ((pgL_st (f := f) (cn := cn) cn).1 n (by omega)).2
      omega
theorem pg_of {f : Nat → Int32} {cn q : Nat} (hq : q < cn) : ∃ k, k < (pgL f cn cn).1.length ∧ (pgAt (pgL f cn cn).1 k).1 ≤ q ∧ q < (pgAt (pgL f cn cn).1 k).2 := by
  refine pg_cov _ (Nat.le_refl _) ?_
  rw [← (pgL_st (f := f) (cn := cn) cn).2, pgL_last (by omega)]
  exact hq
theorem pg_uniq {f : Nat → Int32} {cn q k n : Nat} (hk : k < (pgL f cn cn).1.length) (hn : n < (pgL f cn cn).1.length) (k1 : (pgAt (pgL f cn cn).1 k).1 ≤ q) (k2 : q < (pgAt (pgL f cn cn).1 k).2) (n1 : (pgAt (pgL f cn cn).1 n).1 ≤ q) (n2 : q < (pgAt (pgL f cn cn).1 n).2) : k = n := by
  by_cases a : k < n
  · have := pg_inc n a hn; omega
  · by_cases b : n < k
    · have := pg_inc k b hk; omega
    · omega
theorem pwF_at {E : Nat → Nat} {q kp : Nat} : ∀ f k, k ≤ kp → kp < k + f → (∀ j, k ≤ j → j < kp → E j ≤ q) → q < E kp → pwF E q f k = nI kp
  | 0, k, h1, h2, _, _ => by omega
  | f + 1, k, h1, h2, h3, h4 => by
    simp only [pwF]
    by_cases z : k = kp
    · subst z; rw [if_pos h4]
    · rw [if_neg (by have := h3 k (Nat.le_refl k) (by omega); omega)]
      exact pwF_at f (k + 1) (by omega) (by omega) (fun j a b => h3 j (by omega) b) h4
theorem ptO_at {p : Nat → Int32} {a b : Nat → Nat} {q kp : Nat} (hq : q < 2 ^ 31) : ∀ n, kp < n → (∀ k, k < n → p (4 * k) = nI (a k) ∧ p (4 * k + 1) = nI (b k) ∧ a k < 2 ^ 31 ∧ b k < 2 ^ 31) → (∀ k, k < n → (a k ≤ q ∧ q < b k ↔ k = kp)) → ptO p q n = nI kp
  | 0, h, _, _ => absurd h (Nat.not_lt_zero kp)
  | n + 1, h, hp, hu => by
    obtain ⟨e1, e2, e3, e4⟩ := hp n (Nat.lt_succ_self n)
    simp only [ptO]
    rw [e1, e2]
    by_cases z : n = kp
    · subst z
      have := (hu n (Nat.lt_succ_self n)).mpr rfl
      rw [if_pos ⟨nI_nlt this.1 (by omega), nI_ge this.2 (by omega)⟩]
    · rw [if_neg (fun y => z ((hu n (Nat.lt_succ_self n)).mp ⟨by
        have := y.1; rw [nI_ltI hq e3] at this; omega, by
        have := y.2; rw [nI_leI e4 hq] at this; omega⟩))]
      exact ptO_at hq n (by omega) (fun k hk => hp k (by omega)) (fun k hk => hu k (by omega))
def RA (ar : Nat → Nat → Int32) (fl : Nat → Int32) (br : Nat → Nat → Int32) (ml : Nat → Int32) (cn rn bn mn : Nat) : Prop :=
  (fl 2 = nI cn ∧ ml 1 = nI cn ∧ cn ≤ 2000) ∧ (fl 3 = nI rn ∧ ml 2 = nI rn ∧ rn ≤ 100) ∧ (fl 4 = nI bn ∧ ml 3 = nI bn ∧ bn ≤ 40) ∧ (fl 5 = nI mn ∧ ml 4 = nI mn ∧ mn ≤ 40) ∧
  (ar 12 = br 1 ∧ ar 17 = br 2 ∧ ar 18 = br 3 ∧ ar 19 = br 4 ∧ ar 20 = br 5 ∧ ar 21 = br 6 ∧ ar 22 = br 7 ∧ ar 23 = br 8) ∧
  (∀ j, j < rn → br 4 j ∈ kAll) ∧ (∀ j, j < cn → ar 13 j = clsOf (br 2) (br 3) (br 4) (br 1 j) rn) ∧ prK bn (br 5) (br 6) ∧ prK mn (br 7) (br 8)
def RB (ar : Nat → Nat → Int32) (br : Nat → Nat → Int32) (ml : Nat → Int32) : Prop :=
  ar 16 = br 13 ∧ okM (br 13) ∧ ar 15 = br 12 ∧ okV (br 12) ∧ okV (ar 42) ∧ (∃ np, ml 6 = nI np ∧ np ≤ 2000) ∧ (∃ mm, ml 14 = nI mm ∧ mm ≤ 2000)
def RF (fl ml : Nat → Int32) : Prop :=
  fl 0 = ml 5 ∧ (ml 5 = 0 ∨ ml 5 = 1) ∧ ((fl 1 = 0 ∧ (ml 5 = 0 ∨ ml 13 = 0)) ∨ (fl 1 = 1 ∧ ml 5 = 1 ∧ ml 13 = 1))
def RC (ar : Nat → Nat → Int32) (fl : Nat → Int32) (br : Nat → Nat → Int32) (ml : Nat → Int32) (cn : Nat) : Prop :=
  ml 5 = 1 → ∃ np, fl 6 = nI np ∧ ml 6 = nI np ∧ np = (pgL (ar 13) cn cn).1.length ∧ prel (ar 24) (ar 25) (pgL (ar 13) cn cn).1 ∧
    (∀ j, j < np → br 14 (4 * j) = nI (pgAt (pgL (ar 13) cn cn).1 j).1 ∧ br 14 (4 * j + 1) = nI (pgAt (pgL (ar 13) cn cn).1 j).2 ∧ ar 26 j = br 14 (4 * j + 2) ∧ (∃ b, b ≤ 1 ∧ ar 26 j = nI b) ∧ ar 27 j = br 14 (4 * j + 3)) ∧
    (∀ q, q < cn → ar 14 q = if br 12 q < 0 then -1 else br 10 q) ∧ agr cn (ar 13) (br 9)
def RD (ar : Nat → Nat → Int32) (fl : Nat → Int32) (br : Nat → Nat → Int32) (ml : Nat → Int32) (cn : Nat) : Prop :=
  fl 1 = 1 → ∃ (mm : Nat) (O LV : Nat → Nat), fl 18 = nI mm ∧ ml 14 = nI mm ∧ mm ≤ 2000 ∧ oR (ar 41) O mm ∧ oR (br 21) O mm ∧ oR (br 22) (fun j => LV (O j)) mm ∧ (∀ j, j < mm → O j < cn ∧ ar 42 (O j) = nI (LV (O j)) ∧ LV (O j) ≤ 127) ∧ ∀ q, q < cn → ar 43 q = fndM (br 21) q mm
def Rel (ar : Nat → Nat → Int32) (fl : Nat → Int32) (br : Nat → Nat → Int32) (ml : Nat → Int32) (cn rn bn mn : Nat) : Prop :=
  RA ar fl br ml cn rn bn mn ∧ RB ar br ml ∧ RF fl ml ∧ RC ar fl br ml cn ∧ RD ar fl br ml cn
section Kept
variable {ar : Nat → Nat → Int32} {fl : Nat → Int32} {br : Nat → Nat → Int32} {ml : Nat → Int32} {cn rn bn mn : Nat}
theorem z1 : (0 : Int32) ≠ 1 := by decide
theorem rel_0 (h : Rel ar fl br ml cn rn bn mn) (x : Int32) : Rel ar fl br (va_up ml 0 x) cn rn bn mn := h
theorem rel_clear (h : Rel ar fl br ml cn rn bn mn) : Rel ar (va_up (va_up (va_up fl 2 0) 0 0) 1 0) br (va_up (va_up (va_up ml 0 0) 1 0) 5 0) 0 rn bn mn := by
  obtain ⟨⟨a1, a2, a3, a4, a5, a6, a7, a8, a9⟩, hB, hF, hC, hD⟩ := h
  exact ⟨⟨⟨rfl, rfl, by omega⟩, a2, a3, a4, a5, a6, fun j hj => absurd hj (Nat.not_lt_zero j), a8, a9⟩, hB, ⟨rfl, Or.inl rfl, Or.inl ⟨rfl, Or.inl rfl⟩⟩, fun e => absurd (show (0 : Int32) = 1 from e) z1, fun e => absurd (show (0 : Int32) = 1 from e) z1⟩
theorem rel_property (h : Rel ar fl br ml cn rn bn mn) {x y z : Int32} (hp : prOK x y z) (hr : rn < 100) : Rel (va_up (va_up (va_up (va_up ar 17 (upd (ar 17) rn x)) 18 (upd (ar 18) rn y)) 19 (upd (ar 19) rn z)) 13 (pre cn (fun j => if ¬ ar 12 j < x ∧ ¬ y < ar 12 j then z else ar 13 j) (ar 13))) (va_up (va_up (va_up fl 3 (nI (rn + 1))) 0 0) 1 0)
    (va_up (va_up (va_up br 2 (upd (br 2) rn x)) 3 (upd (br 3) rn y)) 4 (upd (br 4) rn z)) (va_up (va_up (va_up ml 0 0) 2 (nI (rn + 1))) 5 0) cn (rn + 1) bn mn := by
  obtain ⟨⟨a1, a2, a3, a4, ⟨b1, b2, b3, b4, b5⟩, a6, a7, a8, a9⟩, hB, hF, hC, hD⟩ := h
  refine ⟨⟨a1, ⟨rfl, rfl, by omega⟩, a3, a4, ⟨b1, congrArg (fun f => upd f rn x) b2, congrArg (fun f => upd f rn y) b3, congrArg (fun f => upd f rn z) b4, b5⟩, fun j hj => ?_, fun j hj => ?_, a8, a9⟩, hB, ⟨rfl, Or.inl rfl, Or.inl ⟨rfl, Or.inl rfl⟩⟩, fun e => absurd (show (0 : Int32) = 1 from e) z1, fun e => absurd (show (0 : Int32) = 1 from e) z1⟩
  · show upd (br 4) rn z j ∈ kAll
    by_cases q : j = rn
    · rw [q, pk_us]; exact kAll_ok hp.2.2.2.1 hp.2.2.2.2
    · rw [pk_un q]; exact a6 j (by omega)
  · show pre cn (fun j => if ¬ ar 12 j < x ∧ ¬ y < ar 12 j then z else ar 13 j) (ar 13) j = clsOf (upd (br 2) rn x) (upd (br 3) rn y) (upd (br 4) rn z) (br 1 j) (rn + 1)
    rw [clsOf_up, pre_lo hj, ← a7 j hj, ← b1]
theorem rel_bracket (h : Rel ar fl br ml cn rn bn mn) {x y : Int32} (hS : isch x ∧ isch y ∧ ¬ x = y ∧ ¬ ptn bn (ar 20) (ar 21) x ≠ -1 ∧ ¬ ptn bn (ar 20) (ar 21) y ≠ -1) (hr : bn < 40) : Rel (va_up (va_up ar 20 (upd (ar 20) bn x)) 21 (upd (ar 21) bn y)) (va_up (va_up (va_up fl 4 (nI (bn + 1))) 0 0) 1 0)
    (va_up (va_up br 5 (upd (br 5) bn x)) 6 (upd (br 6) bn y)) (va_up (va_up (va_up ml 0 0) 3 (nI (bn + 1))) 5 0) cn rn (bn + 1) mn := by
  obtain ⟨⟨a1, a2, a3, a4, ⟨b1, b2, b3, b4, b5, b6, b7⟩, a6, a7, a8, a9⟩, hB, hF, hC, hD⟩ := h
  rw [b5, b6] at hS
  exact ⟨⟨a1, a2, ⟨rfl, rfl, by omega⟩, a4, ⟨b1, b2, b3, b4, congrArg (fun f => upd f bn x) b5, congrArg (fun f => upd f bn y) b6, b7⟩, a6, a7, prK_up a8 hS.1 hS.2.1 hS.2.2.1 hS.2.2.2.1 hS.2.2.2.2, a9⟩, hB, ⟨rfl, Or.inl rfl, Or.inl ⟨rfl, Or.inl rfl⟩⟩, fun e => absurd (show (0 : Int32) = 1 from e) z1, fun e => absurd (show (0 : Int32) = 1 from e) z1⟩
theorem rel_mirror (h : Rel ar fl br ml cn rn bn mn) {x y : Int32} (hS : isch x ∧ isch y ∧ ¬ x = y ∧ ¬ ptn mn (ar 22) (ar 23) x ≠ -1 ∧ ¬ ptn mn (ar 22) (ar 23) y ≠ -1) (hr : mn < 40) : Rel (va_up (va_up ar 22 (upd (ar 22) mn x)) 23 (upd (ar 23) mn y)) (va_up (va_up (va_up fl 5 (nI (mn + 1))) 0 0) 1 0)
    (va_up (va_up br 7 (upd (br 7) mn x)) 8 (upd (br 8) mn y)) (va_up (va_up (va_up ml 0 0) 4 (nI (mn + 1))) 5 0) cn rn bn (mn + 1) := by
  obtain ⟨⟨a1, a2, a3, a4, ⟨b1, b2, b3, b4, b5, b6, b7, b8⟩, a6, a7, a8, a9⟩, hB, hF, hC, hD⟩ := h
  rw [b7, b8] at hS
  exact ⟨⟨a1, a2, a3, ⟨rfl, rfl, by omega⟩, ⟨b1, b2, b3, b4, b5, b6, congrArg (fun f => upd f mn x) b7, congrArg (fun f => upd f mn y) b8⟩, a6, a7, a8, prK_up a9 hS.1 hS.2.1 hS.2.2.1 hS.2.2.2.1 hS.2.2.2.2⟩, hB, ⟨rfl, Or.inl rfl, Or.inl ⟨rfl, Or.inl rfl⟩⟩, fun e => absurd (show (0 : Int32) = 1 from e) z1, fun e => absurd (show (0 : Int32) = 1 from e) z1⟩
theorem rel_add (h : Rel ar fl br ml cn rn bn mn) (f : Nat → Int32) {m5 : Nat} (hm : cn + m5 ≤ 2000) : Rel (va_up (va_up ar 12 (apF (ar 12) cn f m5)) 13 (apF (ar 13) cn (fun j => clsOf (ar 17) (ar 18) (ar 19) (f j) rn) m5)) (va_up (va_up (va_up fl 2 (nI (cn + m5))) 0 0) 1 0)
    (va_up br 1 (apF (br 1) cn f m5)) (va_up (va_up (va_up ml 0 0) 1 (nI (cn + m5))) 5 0) (cn + m5) rn bn mn := by
  obtain ⟨⟨a1, a2, a3, a4, ⟨b1, b2, b3, b4, b5⟩, a6, a7, a8, a9⟩, hB, hF, hC, hD⟩ := h
  refine ⟨⟨⟨rfl, rfl, hm⟩, a2, a3, a4, ⟨congrArg (fun g => apF g cn f m5) b1, b2, b3, b4, b5⟩, a6, fun j hj => ?_, a8, a9⟩, hB, ⟨rfl, Or.inl rfl, Or.inl ⟨rfl, Or.inl rfl⟩⟩, fun e => absurd (show (0 : Int32) = 1 from e) z1, fun e => absurd (show (0 : Int32) = 1 from e) z1⟩
  show apF (ar 13) cn _ m5 j = clsOf (br 2) (br 3) (br 4) (apF (br 1) cn f m5 j) rn
  rw [apF_at, apF_at]
  by_cases q : cn ≤ j ∧ j < cn + m5
  · rw [if_pos q, if_pos q, b2, b3, b4]
  · rw [if_neg q, if_neg q, a7 j (by omega)]
end Kept
