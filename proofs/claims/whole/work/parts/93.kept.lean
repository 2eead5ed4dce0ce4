/-! 93: the relation kept by resolve and line -/
theorem rsT_out {f ch : Nat → Int32} {oth : Int32 → Int32} {told cn : Nat} {S0 : PS} : ∀ k, k ≤ (pgL f cn cn).1.length → ∀ q, cn ≤ q → (rsT f ch oth told (pgL f cn cn).1 S0 k).2.1 q = S0.2.1 q
  | 0, _, _, _ => rfl
  | k + 1, hk, q, hq => by
    have ih := rsT_out (f := f) (ch := ch) (oth := oth) (told := told) (S0 := S0) k (by omega) q hq
    obtain ⟨h1, h2⟩ := pgAt_ok (fst := f) (cn := cn) cn k (by omega)
    show pY f ch oth told (pgAt (pgL f cn cn).1 k).1 (pgAt (pgL f cn cn).1 k).2 _ _ _ q = _
    unfold pY
    simp only [pre]
    rw [if_neg (by omega)]
    unfold pX
    rw [xlv_out _ _ (Or.inr (by omega))]
    exact ih
section Kept2
variable {ar : Nat → Nat → Int32} {fl : Nat → Int32} {br : Nat → Nat → Int32} {ml : Nat → Int32} {cn rn bn mn : Nat}
theorem rel_resolve (h : Rel ar fl br ml cn rn bn mn) {told : Nat} (ht : told ≤ 2) {ar' br' : Nat → Nat → Int32} {fl' ml' : Nat → Int32} {gm : Nat → Int32}
    (e1 : ar' 12 = ar 12 ∧ ar' 13 = ar 13 ∧ ar' 17 = ar 17 ∧ ar' 18 = ar 18 ∧ ar' 19 = ar 19 ∧ ar' 20 = ar 20 ∧ ar' 21 = ar 21 ∧ ar' 22 = ar 22 ∧ ar' 23 = ar 23 ∧ ar' 42 = ar 42)
    (e2 : ar' 16 = (rsT (ar 13) (ar 12) (fun x => lk (ar 20) (ar 21) x bn) told (pgL (ar 13) cn cn).1 (ar 16, ar 15, ar 14) (pgL (ar 13) cn cn).1.length).1 ∧ ar' 15 = (rsT (ar 13) (ar 12) (fun x => lk (ar 20) (ar 21) x bn) told (pgL (ar 13) cn cn).1 (ar 16, ar 15, ar 14) (pgL (ar 13) cn cn).1.length).2.1 ∧ ar' 14 = (rsT (ar 13) (ar 12) (fun x => lk (ar 20) (ar 21) x bn) told (pgL (ar 13) cn cn).1 (ar 16, ar 15, ar 14) (pgL (ar 13) cn cn).1.length).2.2)
    (e3 : fl' 0 = 1 ∧ fl' 1 = 0 ∧ fl' 2 = fl 2 ∧ fl' 3 = fl 3 ∧ fl' 4 = fl 4 ∧ fl' 5 = fl 5 ∧ fl' 6 = nI (pgL (ar 13) cn cn).1.length)
    (e4 : prel (ar' 24) (ar' 25) (pgL (ar 13) cn cn).1 ∧ ∀ j, j < (pgL (ar 13) cn cn).1.length → ar' 26 j = nI (pB (ar 13) told (pgAt (pgL (ar 13) cn cn).1 j).1 (pgAt (pgL (ar 13) cn cn).1 j).2 (rsT (ar 13) (ar 12) (fun x => lk (ar 20) (ar 21) x bn) told (pgL (ar 13) cn cn).1 (ar 16, ar 15, ar 14) j).1) ∧ ar' 27 j = nI (pN (ar 13) told (pgAt (pgL (ar 13) cn cn).1 j).1 (pgAt (pgL (ar 13) cn cn).1 j).2 (rsT (ar 13) (ar 12) (fun x => lk (ar 20) (ar 21) x bn) told (pgL (ar 13) cn cn).1 (ar 16, ar 15, ar 14) j).1 (rsT (ar 13) (ar 12) (fun x => lk (ar 20) (ar 21) x bn) told (pgL (ar 13) cn cn).1 (ar 16, ar 15, ar 14) j).2.1))
    (eg : gm = pre cn (fun j => clsOf (br 2) (br 3) (br 4) (br 1 j) rn) (br 9))
    (f1 : br' 1 = br 1 ∧ br' 2 = br 2 ∧ br' 3 = br 3 ∧ br' 4 = br 4 ∧ br' 5 = br 5 ∧ br' 6 = br 6 ∧ br' 7 = br 7 ∧ br' 8 = br 8 ∧ br' 9 = gm)
    (f2 : br' 13 = (mT gm (br 1) (fun x => lk (br 5) (br 6) x bn) told (pgL gm cn cn).1 (br 13, br 12, br 10) (pgL gm cn cn).1.length).1 ∧ br' 12 = (mT gm (br 1) (fun x => lk (br 5) (br 6) x bn) told (pgL gm cn cn).1 (br 13, br 12, br 10) (pgL gm cn cn).1.length).2.1 ∧ br' 10 = (mT gm (br 1) (fun x => lk (br 5) (br 6) x bn) told (pgL gm cn cn).1 (br 13, br 12, br 10) (pgL gm cn cn).1.length).2.2)
    (f3 : ml' 1 = ml 1 ∧ ml' 2 = ml 2 ∧ ml' 3 = ml 3 ∧ ml' 4 = ml 4 ∧ ml' 5 = 1 ∧ ml' 6 = nI (pgL gm cn cn).1.length ∧ ml' 13 = 0 ∧ ml' 14 = ml 14)
    (f4 : okM (mT gm (br 1) (fun x => lk (br 5) (br 6) x bn) told (pgL gm cn cn).1 (br 13, br 12, br 10) (pgL gm cn cn).1.length).1 ∧ ∀ j, j < (pgL gm cn cn).1.length → br' 14 (4 * j) = nI (pgAt (pgL gm cn cn).1 j).1 ∧ br' 14 (4 * j + 1) = nI (pgAt (pgL gm cn cn).1 j).2 ∧ br' 14 (4 * j + 2) = nI (pB gm told (pgAt (pgL gm cn cn).1 j).1 (pgAt (pgL gm cn cn).1 j).2 (mT gm (br 1) (fun x => lk (br 5) (br 6) x bn) told (pgL gm cn cn).1 (br 13, br 12, br 10) j).1) ∧ br' 14 (4 * j + 3) = nI (pN gm told (pgAt (pgL gm cn cn).1 j).1 (pgAt (pgL gm cn cn).1 j).2 (mT gm (br 1) (fun x => lk (br 5) (br 6) x bn) told (pgL gm cn cn).1 (br 13, br 12, br 10) j).1 (mT gm (br 1) (fun x => lk (br 5) (br 6) x bn) told (pgL gm cn cn).1 (br 13, br 12, br 10) j).2.1)) :
    Rel ar' fl' br' ml' cn rn bn mn := by
  obtain ⟨⟨⟨a11, a12, a13⟩, ⟨a21, a22, a23⟩, ⟨a31, a32, a33⟩, ⟨a41, a42, a43⟩, ⟨b1, b2, b3, b4, b5, b6, b7, b8⟩, a6, a7, a8, a9⟩, ⟨c1, c2, c3, c4, c5, c6, c7⟩, hF, hC, hD⟩ := h
  have hag : agr cn (ar 13) gm := fun j hj => by rw [eg, pre_lo hj, a7 j hj]
  have hG : pgL gm cn cn = pgL (ar 13) cn cn := (pgL_c hag cn (Nat.le_refl _)).symm
  have hG2 : pgL (ar 13) cn cn = pgL gm cn cn := hG.symm
  rw [hG2] at e2 e3 e4
  rw [c1, c3, b5, b6, b1] at e2 e4
  have T := fun k hk => tie (f := ar 13) (g := gm) (ch := br 1) (M := br 13) (L := br 12) (Kc := ar 14) (Km := br 10) (oth := fun x => lk (br 5) (br 6) x bn) (told := told) (cn := cn) hag ht a13 k hk
  have Tn := T _ (Nat.le_refl _)
  have hend : ∀ q, q < cn → q < endB (pgL gm cn cn).1 (pgL gm cn cn).1.length := fun q hq => by
    rw [← (pgL_st (f := gm) (cn := cn) cn).2, pgL_last (by omega)]; exact hq
  have hlen : (pgL gm cn cn).1.length ≤ 2000 := by have := (pgL_len gm cn cn).1; omega
  have hB' : br' 12 = (rsT (ar 13) (br 1) (fun x => lk (br 5) (br 6) x bn) told (pgL gm cn cn).1 (br 13, br 12, ar 14) (pgL gm cn cn).1.length).2.1 := f2.2.1.trans Tn.2.1.symm
  obtain ⟨g1, g2, g3, g4, g5, g6, g7, g8, g9⟩ := f1
  obtain ⟨d1, d2, d3, d4, d5, d6, d7, d8, d9, d10⟩ := e1
  refine ⟨⟨⟨e3.2.2.1.trans a11, f3.1.trans a12, a13⟩, ⟨e3.2.2.2.1.trans a21, f3.2.1.trans a22, a23⟩, ⟨e3.2.2.2.2.1.trans a31, f3.2.2.1.trans a32, a33⟩, ⟨e3.2.2.2.2.2.1.trans a41, f3.2.2.2.1.trans a42, a43⟩, ⟨d1.trans (b1.trans g1.symm), d3.trans (b2.trans g2.symm), d4.trans (b3.trans g3.symm), d5.trans (b4.trans g4.symm), d6.trans (b5.trans g5.symm), d7.trans (b6.trans g6.symm), d8.trans (b7.trans g7.symm), d9.trans (b8.trans g8.symm)⟩, ?_, ?_, ?_, ?_⟩, ⟨?_, ?_, ?_, ?_, ?_, ⟨_, f3.2.2.2.2.2.1, hlen⟩, ?_⟩, ⟨?_, Or.inr f3.2.2.2.2.1, Or.inl ⟨e3.2.1, Or.inr f3.2.2.2.2.2.2.1⟩⟩, fun _ => ?_, fun e => ?_⟩
  · rw [g4]; exact a6
  · rw [d2, g2, g3, g4, g1]; exact a7
  · rw [g5, g6]; exact a8
  · rw [g7, g8]; exact a9
  · rw [e2.1, f2.1]; exact Tn.1
  · rw [f2.1]; exact f4.1
  · rw [e2.2.1, hB']
  · rw [hB']
    intro q hq
    by_cases z : q < cn
    · by_cases y : (rsT (ar 13) (br 1) (fun x => lk (br 5) (br 6) x bn) told (pgL gm cn cn).1 (br 13, br 12, ar 14) (pgL gm cn cn).1.length).2.1 q = -1
      · exact Or.inl y
      · exact Or.inr ((Tn.2.2 q (hend q z)).2 y).2
    · rw [hG, rsT_out _ (Nat.le_refl _) q (by omega)]
      exact c4 q hq
  · rw [d10]; exact c5
  · obtain ⟨mm, h1, h2⟩ := c7
    exact ⟨mm, f3.2.2.2.2.2.2.2.trans h1, h2⟩
  · rw [e3.1, f3.2.2.2.2.1]
  · refine ⟨_, e3.2.2.2.2.2.2, f3.2.2.2.2.2.1, by rw [d2, hG2], by rw [d2, hG2]; exact e4.1, fun j hj => ?_, fun q hq => ?_, by rw [d2, g9]; exact hag⟩
    · rw [d2, hG2]
      obtain ⟨p1, p2, p3, p4⟩ := f4.2 j hj
      obtain ⟨r1, r2⟩ := e4.2 j hj
      obtain ⟨k1, k2⟩ := pgAt_ok (fst := gm) (cn := cn) cn j hj
      have Tj := T j (by omega)
      have pc := p_c (f := ar 13) (g := gm) (ch := br 1) (M0 := (mT gm (br 1) (fun x => lk (br 5) (br 6) x bn) told (pgL gm cn cn).1 (br 13, br 12, br 10) j).1) (L0 := (mT gm (br 1) (fun x => lk (br 5) (br 6) x bn) told (pgL gm cn cn).1 (br 13, br 12, br 10) j).2.1) (K0 := br 10) (oth := fun x => lk (br 5) (br 6) x bn) hag ht k1 k2 (by omega)
      rw [Tj.1, pc.2.1] at r1
      rw [Tj.1, Tj.2.1, pc.2.2.2.2] at r2
      exact ⟨p1, p2, r1.trans p3.symm, ⟨_, bsN_le ht, r1⟩, r2.trans p4.symm⟩
    · rw [e2.2.2, hB', f2.2.2]
      have Tq := Tn.2.2 q (hend q hq)
      by_cases y : (rsT (ar 13) (br 1) (fun x => lk (br 5) (br 6) x bn) told (pgL gm cn cn).1 (br 13, br 12, ar 14) (pgL gm cn cn).1.length).2.1 q = -1
      · rw [Tq.1 y, y, if_pos (by decide)]
      · obtain ⟨y1, v, y2, y3⟩ := Tq.2 y
        rw [y1, y3, if_neg (nI_pos (by omega))]
  · rw [e3.2.1] at e; exact absurd e z1
theorem rel_line (h : Rel ar fl br ml cn rn bn mn) {fr to kp base : Nat} (hft : fr < to) (ht2 : to ≤ cn) (hb : base ≤ 1) (h5 : ml 5 = 1) {u : Nat → Int32} {v : (Nat → Int32) × (Nat → Int32)}
    (hu : oR u (shD (ar 15) (ar 13) base fr to (ar 42)) (shN (ar 15) (ar 13) base fr to (ar 42)))
    (h1 : oR v.1 (dn (lvM (br 12) (br 9) base to) (lineL (br 12) fr (to - fr)).length 1 128 (fun j => (lineL (br 12) fr (to - fr)).getD j 0)) (lineL (br 12) fr (to - fr)).length)
    (h2 : oR v.2 (fun j => lvM (br 12) (br 9) base to (dn (lvM (br 12) (br 9) base to) (lineL (br 12) fr (to - fr)).length 1 128 (fun j => (lineL (br 12) fr (to - fr)).getD j 0) j)) (lineL (br 12) fr (to - fr)).length) :
    shN (ar 15) (ar 13) base fr to (ar 42) = (lineL (br 12) fr (to - fr)).length ∧
    Rel (va_up (va_up (va_up ar 42 (shL (ar 15) (ar 13) base fr to (ar 42))) 41 u) 43 (plc (shD (ar 15) (ar 13) base fr to (ar 42)) (pre cn (fun _ => -1) (ar 43)) (shN (ar 15) (ar 13) base fr to (ar 42)))) (va_up (va_up fl 18 (nI (shN (ar 15) (ar 13) base fr to (ar 42)))) 1 1)
      (va_up (va_up br 21 v.1) 22 v.2) (va_up (va_up (va_up ml 0 0) 14 (nI (lineL (br 12) fr (to - fr)).length)) 13 1) cn rn bn mn := by
  obtain ⟨hA, ⟨c1, c2, c3, c4, c5, c6, c7⟩, hF, hC, hD⟩ := h
  obtain ⟨np, n1, n2, n3, n4, n5, n6, n7⟩ := hC h5
  have hcN : cn ≤ 2000 := hA.1.2.2
  rw [← c3] at h1 h2 ⊢
  obtain ⟨t1, t2, O, LV, t3, t4, t5, t6, t7⟩ := line_tie (f0 := ar 42) (f43 := ar 43) (hlv := by rw [c3]; exact c4) n7 ht2 hcN hb hft hu h1 h2
  refine ⟨t1, hA, ⟨c1, c2, c3, c4, ?_, c6, ⟨_, rfl, t2⟩⟩, ⟨hF.1, hF.2.1, Or.inr ⟨rfl, h5, rfl⟩⟩, fun _ => ⟨np, n1, n2, n3, n4, n5, n6, n7⟩, fun _ => ⟨shN (ar 15) (ar 13) base fr to (ar 42), O, LV, rfl, ?_, by omega, t3, t4, t5, t6, t7⟩⟩
  · exact lnS_ok (by rw [c3]; exact c4) c5 hb (by omega) _ (by omega)
  · show nI _ = nI _
    rw [t1]
end Kept2
