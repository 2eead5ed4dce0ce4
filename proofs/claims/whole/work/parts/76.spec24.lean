/-! 76: the whole text: class and model -/
noncomputable def mT (fst ch : Nat → Int32) (oth : Int32 → Int32) (told : Nat) (G : List (Nat × Nat)) (S0 : PS) : Nat → PS
  | 0 => S0
  | k + 1 => (pM fst (pgAt G k).1 (pgAt G k).2 (mT fst ch oth told G S0 k).1, pYm fst ch oth told (pgAt G k).1 (pgAt G k).2 (mT fst ch oth told G S0 k).1 (mT fst ch oth told G S0 k).2.1 (mT fst ch oth told G S0 k).2.2, pKm fst ch oth told (pgAt G k).1 (pgAt G k).2 (mT fst ch oth told G S0 k).1 (mT fst ch oth told G S0 k).2.1 (mT fst ch oth told G S0 k).2.2)
theorem pgAt_grow {f : Nat → Int32} {cn d k : Nat} (hk : k < (pgL f cn d).1.length) : ∀ e, d ≤ e → pgAt (pgL f cn e).1 k = pgAt (pgL f cn d).1 k ∧ k < (pgL f cn e).1.length
  | 0, h => by rw [show d = 0 by omega] at hk ⊢; exact ⟨rfl, hk⟩
  | e + 1, h => by
    by_cases z : d = e + 1
    · rw [← z]; exact ⟨rfl, hk⟩
    · have ih := pgAt_grow hk e (by omega)
      simp only [pgL]
      split
      · refine ⟨?_, by simp only [List.length_cons]; omega⟩
        rw [← ih.1]
        exact if_neg (by omega)
      · exact ih
theorem pgL_n10 {f : Nat → Int32} {cn : Nat} : ∀ d x, (pgL f cn d).2 ≤ x → x < d → f x ≠ 10
  | 0, x, _, h => absurd h (Nat.not_lt_zero x)
  | d + 1, x, h1, h2 => by
    simp only [pgL] at h1
    by_cases z : f d = 10 ∨ d + 1 = cn
    · rw [if_pos z] at h1; simp only at h1; omega
    · rw [if_neg z] at h1
      by_cases e : x = d
      · rw [e]; exact fun q => z (Or.inl q)
      · exact pgL_n10 d x h1 (by omega)
def endB (L : List (Nat × Nat)) (k : Nat) : Nat := if k = 0 then 0 else (pgAt L (k - 1)).2
theorem pgL_st {f : Nat → Int32} {cn : Nat} : ∀ d, (∀ k, k < (pgL f cn d).1.length → (pgAt (pgL f cn d).1 k).1 = endB (pgL f cn d).1 k ∧ (pgAt (pgL f cn d).1 k).1 < (pgAt (pgL f cn d).1 k).2) ∧ (pgL f cn d).2 = endB (pgL f cn d).1 (pgL f cn d).1.length
  | 0 => ⟨fun k h => absurd h (Nat.not_lt_zero k), rfl⟩
  | d + 1 => by
    have ih := pgL_st (f := f) (cn := cn) d
    have hl := pgL_len f cn d
    simp only [pgL]
    by_cases z : f d = 10 ∨ d + 1 = cn
    · rw [if_pos z]
      have hat : ∀ k, k < (pgL f cn d).1.length → pgAt (((pgL f cn d).2, d + 1) :: (pgL f cn d).1) k = pgAt (pgL f cn d).1 k := fun k hk => if_neg (by omega)
      have hself : pgAt (((pgL f cn d).2, d + 1) :: (pgL f cn d).1) (pgL f cn d).1.length = ((pgL f cn d).2, d + 1) := if_pos rfl
      have hend : ∀ k, k ≤ (pgL f cn d).1.length → endB (((pgL f cn d).2, d + 1) :: (pgL f cn d).1) k = endB (pgL f cn d).1 k := fun k hk => by
        unfold endB
        by_cases e : k = 0
        · rw [if_pos e, if_pos e]
        · rw [if_neg e, if_neg e, hat (k - 1) (by omega)]
      refine ⟨fun k hk => ?_, ?_⟩
      · simp only [List.length_cons] at hk
        rw [hend k (by omega)]
        by_cases e : k = (pgL f cn d).1.length
        · rw [e, hself]; exact ⟨ih.2, by simp only; omega⟩
        · rw [hat k (by omega)]; exact ih.1 k (by omega)
      · simp only [List.length_cons]
        unfold endB
        rw [if_neg (by omega), Nat.add_sub_cancel, hself]
    · rw [if_neg z]; exact ih
theorem pgL_last {f : Nat → Int32} {cn : Nat} (h : 0 < cn) : (pgL f cn cn).2 = cn := by
  cases cn with
  | zero => exact absurd h (Nat.lt_irrefl 0)
  | succ n => show (if f n = 10 ∨ n + 1 = n + 1 then _ else _ : List (Nat × Nat) × Nat).2 = _; rw [if_pos (Or.inr rfl)]
theorem endB_le {f : Nat → Int32} {cn k : Nat} (hk : k ≤ (pgL f cn cn).1.length) : endB (pgL f cn cn).1 k ≤ cn := by
  unfold endB
  by_cases e : k = 0
  · rw [if_pos e]; exact Nat.zero_le _
  · rw [if_neg e]; exact (pgAt_ok cn (k - 1) (by omega)).2
/-- class and model resolve alike -/
theorem tie {f g ch M L Kc Km : Nat → Int32} {oth : Int32 → Int32} {told cn : Nat} (h : agr cn f g) (ht : told ≤ 2) (hc : cn ≤ 2000) : ∀ k, k ≤ (pgL g cn cn).1.length →
    (rsT f ch oth told (pgL g cn cn).1 (M, L, Kc) k).1 = (mT g ch oth told (pgL g cn cn).1 (M, L, Km) k).1 ∧ (rsT f ch oth told (pgL g cn cn).1 (M, L, Kc) k).2.1 = (mT g ch oth told (pgL g cn cn).1 (M, L, Km) k).2.1 ∧
    ∀ q, q < endB (pgL g cn cn).1 k → (((rsT f ch oth told (pgL g cn cn).1 (M, L, Kc) k).2.1 q = -1 → (rsT f ch oth told (pgL g cn cn).1 (M, L, Kc) k).2.2 q = -1) ∧ ((rsT f ch oth told (pgL g cn cn).1 (M, L, Kc) k).2.1 q ≠ -1 → (rsT f ch oth told (pgL g cn cn).1 (M, L, Kc) k).2.2 q = (mT g ch oth told (pgL g cn cn).1 (M, L, Km) k).2.2 q ∧ ∃ v, v ≤ 127 ∧ (rsT f ch oth told (pgL g cn cn).1 (M, L, Kc) k).2.1 q = nI v))
  | 0, _ => ⟨rfl, rfl, fun q hq => absurd hq (Nat.not_lt_zero q)⟩
  | k + 1, hk => by
    obtain ⟨i1, i2, i3⟩ := tie (M := M) (L := L) (Kc := Kc) (Km := Km) (ch := ch) (oth := oth) h ht hc k (by omega)
    have hst := (pgL_st (f := g) (cn := cn) cn).1 k (by omega)
    have hok := pgAt_ok (fst := g) (cn := cn) cn k (by omega)
    have hend : endB (pgL g cn cn).1 (k + 1) = (pgAt (pgL g cn cn).1 k).2 := by unfold endB; rw [if_neg (by omega), Nat.add_sub_cancel]
    rw [hend]
    simp only [rsT, mT]
    generalize rsT f ch oth told (pgL g cn cn).1 (M, L, Kc) k = SC at i1 i2 i3 ⊢
    generalize mT g ch oth told (pgL g cn cn).1 (M, L, Km) k = SM at i1 i2 i3 ⊢
    obtain ⟨M1, L1, K1⟩ := SC
    obtain ⟨M2, L2, K2⟩ := SM
    simp only at i1 i2 i3 ⊢
    subst i1
    subst i2
    generalize hB : (pgAt (pgL g cn cn).1 k).1 = b at hst hok ⊢
    generalize hE : (pgAt (pgL g cn cn).1 k).2 = en at hst hok ⊢
    have hbe : b ≤ en := by omega
    have he : en ≤ 2000 := by omega
    obtain ⟨c1, c2, c3, c4, c5⟩ := p_c (M0 := M1) (L0 := L1) (K0 := K1) (ch := ch) (oth := oth) h ht hbe hok.2 he
    have hY := pY_eq (fst := g) (ch := ch) (M0 := M1) (L0 := L1) (K0 := K2) (K1 := K1) (oth := oth) ht hbe he
    refine ⟨c1, by rw [c3, hY], fun q hq => ?_⟩
    rw [c3, c4]
    rcases Nat.lt_or_ge q b with z | z
    · obtain ⟨o1, o2, o3, o4⟩ := pK_out (fst := g) (ch := ch) (M0 := M1) (L0 := L1) (K0 := K1) (oth := oth) ht hbe he (Or.inl z)
      obtain ⟨w1, w2, w3, w4⟩ := pK_out (fst := g) (ch := ch) (M0 := M1) (L0 := L1) (K0 := K2) (oth := oth) ht hbe he (Or.inl z)
      rw [o1, o3, w2]
      exact i3 q (by rw [← hst.1]; exact z)
    · have hm1 := pY_m1 (fst := g) (ch := ch) (M0 := M1) (L0 := L1) (K0 := K1) (oth := oth) ht z hq
      refine ⟨fun e => pK_gone ht hbe he z hq (hm1.mp e), fun e => ⟨(pK_eq ht hbe he ((pW_mem ht hbe).mpr ⟨z, hq, fun w => e (hm1.mpr w)⟩)).symm, ?_⟩⟩
      have hx : ¬ pX g told b en M1 L1 q = -1 := fun w => e (hm1.mpr ((pX_gone ht z hq).mp w))
      refine ⟨pL g told b en M1 L1 q + raO (pL g told b en M1 L1 q) (pK g ch oth told b en M1 L1 K1 q), ?_, ?_⟩
      · have := (par_lv (M0 := M1) (L0 := L1) ht q z hq hx).2
        have := raO_le (pL g told b en M1 L1 q) (pK g ch oth told b en M1 L1 K1 q)
        omega
      · unfold pY
        rw [pre_lo hq]
        unfold raF
        rw [if_neg (fun w => w.elim (by omega) hx)]
