/-! the model works on its classes in place: they are 'wrt P K f0 n' -/
def inj (n : Nat) (P : Nat → Nat) : Prop := ∀ i j, i < n → j < n → P i = P j → i = j
theorem wrt_at {P : Nat → Nat} {k f0 : Nat → Int32} {n : Nat} (hi : inj n P) : ∀ m, m ≤ n → ∀ j, j < m → wrt P k f0 m (P j) = k j
  | 0, _, j, h => absurd h (Nat.not_lt_zero j)
  | m + 1, hm, j, h => by
    simp only [wrt]
    by_cases q : j = m
    · subst q; rw [pk_us]
    · rw [pk_un (fun z => q (hi j m (by omega) (by omega) z))]; exact wrt_at hi m (by omega) j (by omega)
theorem wrt_out {P : Nat → Nat} {k f0 : Nat → Int32} {q : Nat} : ∀ m, (∀ j, j < m → P j ≠ q) → wrt P k f0 m q = f0 q
  | 0, _ => rfl
  | m + 1, h => by
    simp only [wrt]
    rw [pk_un (fun z => h m (Nat.lt_succ_self m) z.symm)]
    exact wrt_out m (fun j hj => h j (by omega))
theorem wrt_id {P : Nat → Nat} {f0 : Nat → Int32} {n : Nat} : ∀ m, wrt P (fun j => f0 (P j)) f0 m = f0
  | 0 => rfl
  | m + 1 => by
    simp only [wrt]
    rw [wrt_id (n := n) m]
    funext q
    by_cases z : q = P m
    · rw [z, pk_us]
    · rw [pk_un z]
theorem wrt_put {P : Nat → Nat} {k f0 : Nat → Int32} {n i : Nat} {x : Int32} (hi : inj n P) (h : i < n) : upd (wrt P k f0 n) (P i) x = wrt P (upd k i x) f0 n := by
  funext q
  by_cases z : ∃ j, j < n ∧ P j = q
  · obtain ⟨j, hj, rfl⟩ := z
    rw [wrt_at hi n (Nat.le_refl n) j hj]
    by_cases w : j = i
    · subst w; rw [pk_us, pk_us]
    · rw [pk_un (fun e => w (hi j i hj h e)), pk_un w, wrt_at hi n (Nat.le_refl n) j hj]
  · have hn : ∀ j, j < n → P j ≠ q := fun j hj e => z ⟨j, hj, e⟩
    rw [pk_un (fun e => hn i h e.symm), wrt_out n hn, wrt_out n hn]
def kAt (n : Nat) (h t : Int32) (k : Nat → Int32) (x : Int32) : Int32 := if x < 0 then h else if nI n ≤ x then t else k x.toNatClampNeg
theorem kAt_n {n j : Nat} {h t : Int32} {k : Nat → Int32} (hn : n < 2 ^ 31) (hj : j < n) : kAt n h t k (nI j) = k j := by
  unfold kAt
  rw [if_neg (nI_pos (by omega)), if_neg (nI_ge hj hn), nI_clamp (by omega)]
theorem kAt_e {n j : Nat} {h t : Int32} {k : Nat → Int32} (hj : j < 2 ^ 31) (h2 : n ≤ j) : kAt n h t k (nI j) = t := by
  unfold kAt
  rw [if_neg (nI_pos hj), if_pos (nI_le h2 hj)]
theorem kAt_0 {n : Nat} {h t : Int32} {k : Nat → Int32} : kAt n h t k (nI 0 - 1) = h := by
  unfold kAt
  rw [if_pos nI_0m1]
theorem kAt_p {n j : Nat} {h t : Int32} {k : Nat → Int32} (hn : n < 2 ^ 31) (h0 : 0 < j) (hj : j ≤ n) : kAt n h t k (nI j - 1) = k (j - 1) := by
  rw [nI_p1 h0]; exact kAt_n hn (by omega)
