/-! 72: every run is in a sequence; classes that come out -/
theorem SQ_idx {V : List (List Nat)} {fst mt : Nat → Int32} {n : Nat} (hv : vlt n V) (hi : incR V fst mt) (hlt : ∀ i j, i < j → j < tot V → LFn V i < LFn V j) : ∀ f r, r < V.length → V.length ≤ r + f → (∀ q ∈ SQ V fst mt r, ∃ i, off V r ≤ i ∧ i < tot V ∧ LFn V i = q) ∧ (SQ V fst mt r).Pairwise (· < ·)
  | 0, r, h, h1 => absurd h (by omega)
  | f + 1, r, h, h1 => by
    have hp := runAt_pos hv h
    have hf := (runAt_flat (V := V) (r := r) (t := 0) h hp).2
    have hA : ∀ q ∈ runAt V r, ∃ i, off V r ≤ i ∧ i < off V r + (runAt V r).length ∧ LFn V i = q := by
      intro q hq
      obtain ⟨t, ht, et⟩ := List.getElem_of_mem hq
      refine ⟨off V r + t, by omega, by omega, ?_⟩
      rw [(runAt_flat h ht).1, List.getD_eq_getElem?_getD, List.getElem?_eq_getElem ht, et]; rfl
    have hP : (runAt V r).Pairwise (· < ·) := by
      rw [List.pairwise_iff_getElem]
      intro i j hi hj hij
      have e1 := (runAt_flat h hi).1
      have e2 := (runAt_flat h hj).1
      rw [List.getD_eq_getElem?_getD, List.getElem?_eq_getElem hi] at e1
      rw [List.getD_eq_getElem?_getD, List.getElem?_eq_getElem hj] at e2
      have := hlt (off V r + i) (off V r + j) (by omega) (by omega)
      rw [e1, e2] at this
      exact this
    rw [SQ_eq hi h]
    by_cases z : goes V fst mt r
    · have hz := hi r h z
      have ih := SQ_idx hv hi hlt f (nextR V mt r) hz.2 (by omega)
      have ho := off_next hz.1 hz.2
      rw [if_pos z]
      refine ⟨fun q hq => ?_, List.pairwise_append.mpr ⟨hP, ih.2, fun x hx y hy => ?_⟩⟩
      · rcases List.mem_append.mp hq with w | w
        · obtain ⟨i, i1, i2, i3⟩ := hA q w; exact ⟨i, i1, by omega, i3⟩
        · obtain ⟨i, i1, i2, i3⟩ := ih.1 q w; exact ⟨i, by omega, i2, i3⟩
      · obtain ⟨i, i1, i2, i3⟩ := hA x hx
        obtain ⟨j, j1, j2, j3⟩ := ih.1 y hy
        rw [← i3, ← j3]
        exact hlt i j (by omega) j2
    · rw [if_neg z, List.append_nil]
      exact ⟨fun q hq => by obtain ⟨i, i1, i2, i3⟩ := hA q hq; exact ⟨i, i1, by omega, i3⟩, hP⟩
theorem SQ_inj {V : List (List Nat)} {fst mt : Nat → Int32} {n r : Nat} (hv : vlt n V) (hi : incR V fst mt) (hlt : ∀ i j, i < j → j < tot V → LFn V i < LFn V j) (hr : r < V.length) : inj (SQ V fst mt r).length (sqP V fst mt r) := by
  have hP := (SQ_idx hv hi hlt V.length r hr (by omega)).2
  rw [List.pairwise_iff_getElem] at hP
  intro i j h1 h2 h
  unfold sqP at h
  rw [List.getD_eq_getElem?_getD, List.getElem?_eq_getElem h1, List.getD_eq_getElem?_getD, List.getElem?_eq_getElem h2] at h
  have h' : (SQ V fst mt r)[i] = (SQ V fst mt r)[j] := h
  rcases Nat.lt_trichotomy i j with z | z | z
  · have := hP i j h1 h2 z; omega
  · exact z
  · have := hP j i h2 h1 z; omega
theorem sqP_mem {V : List (List Nat)} {fst mt : Nat → Int32} {r j : Nat} (h : j < (SQ V fst mt r).length) : sqP V fst mt r j ∈ SQ V fst mt r := by
  unfold sqP
  rw [List.getD_eq_getElem?_getD, List.getElem?_eq_getElem h]
  exact List.getElem_mem h
theorem mem_sqP {V : List (List Nat)} {fst mt : Nat → Int32} {r q : Nat} (h : q ∈ SQ V fst mt r) : ∃ j, j < (SQ V fst mt r).length ∧ sqP V fst mt r j = q := by
  obtain ⟨j, hj, e⟩ := List.getElem_of_mem h
  refine ⟨j, hj, ?_⟩
  unfold sqP
  rw [List.getD_eq_getElem?_getD, List.getElem?_eq_getElem hj, e]; rfl
/-- what a row of writes leaves: the old, or one of the new -/
theorem wrt_or {P : Nat → Nat} {k f0 : Nat → Int32} : ∀ m q, (wrt P k f0 m q = f0 q ∧ ∀ j, j < m → P j ≠ q) ∨ ∃ j, j < m ∧ P j = q ∧ wrt P k f0 m q = k j
  | 0, q => Or.inl ⟨rfl, fun j h => absurd h (Nat.not_lt_zero j)⟩
  | m + 1, q => by
    simp only [wrt]
    by_cases z : q = P m
    · exact Or.inr ⟨m, by omega, z.symm, by rw [z, pk_us]⟩
    · rw [pk_un z]
      rcases wrt_or (P := P) (k := k) (f0 := f0) m q with ⟨h1, h2⟩ | ⟨j, h1, h2, h3⟩
      · refine Or.inl ⟨h1, fun j hj => ?_⟩
        by_cases e : j = m
        · rw [e]; exact fun y => z y.symm
        · exact h2 j (by omega)
      · exact Or.inr ⟨j, by omega, h2, h3⟩
theorem wrt_fl {P : Nat → Nat} {k f0 f1 : Nat → Int32} {S : Nat → Prop} (h : ∀ q, S q → f0 q = f1 q) : ∀ m q, S q → wrt P k f0 m q = wrt P k f1 m q
  | 0, q, hq => h q hq
  | m + 1, q, hq => by
    simp only [wrt]
    by_cases z : q = P m
    · rw [z, pk_us, pk_us]
    · rw [pk_un z, pk_un z]; exact wrt_fl h m q hq
theorem sqK_congr {n : Nat} {h t d : Int32} {s ch : Nat → Int32} {oth : Int32 → Int32} {k k2 : Nat → Int32} (hN : n ≤ 2000) (hk : agr n k2 k) : agr n (sqK n h t d s ch oth k2) (sqK n h t d s ch oth k) := by
  refine n12_agr ?_
  have aw : agr n (weak n h s k2) (weak n h s k) := weak_agr (fun _ _ => rfl) hk
  have ab := bfind_agr (oth := oth) aw (fun _ _ => rfl : agr n ch ch) (n - 0) 0 [] (fun _ => -1) (fun _ => -1) (by omega) (fun _ _ => rfl)
  exact n0_agr hk ab aw (bfind_ok (n - 0) 0 [] _ (by omega) (fun j hj => Or.inl rfl)) hN n (Nat.le_refl n)
/-- classes that agree where something is left agree behind the rules -/
theorem rsK_agr {V : List (List Nat)} {fst mt : Nat → Int32} {L : Nat → Nat} {base n : Nat} {ch : Nat → Int32} {oth : Int32 → Int32} {k0 k1 : Nat → Int32} (hv : vlt n V) (htot : tot V ≤ 2000) (hi : incR V fst mt) (h : ∀ q ∈ flat V, k0 q = k1 q) : ∀ r, r ≤ V.length → ∀ q ∈ flat V, rsK V fst mt L base ch oth k0 r q = rsK V fst mt L base ch oth k1 r q
  | 0, _, q, hq => h q hq
  | r + 1, hr, q, hq => by
    have ih := rsK_agr (L := L) (base := base) (ch := ch) (oth := oth) hv htot hi h r (by omega)
    have hsl := SQ_len (fst := fst) (mt := mt) hv hi V.length r (by omega) (by omega)
    simp only [rsK]
    split
    · rw [wrt_agr (n := (SQ V fst mt r).length) (sqK_congr (by omega) (fun j hj => ih _ (hsl.2 _ (sqP_mem hj)))) _ (Nat.le_refl _)]
      exact wrt_fl (S := fun q => q ∈ flat V) (fun q hq => ih q hq) _ q hq
    · exact ih q hq
theorem rsK_out {V : List (List Nat)} {fst mt : Nat → Int32} {L : Nat → Nat} {base n : Nat} {ch : Nat → Int32} {oth : Int32 → Int32} {k0 : Nat → Int32} (hv : vlt n V) (hi : incR V fst mt) {q : Nat} (hq : q ∉ flat V) : ∀ r, r ≤ V.length → rsK V fst mt L base ch oth k0 r q = k0 q
  | 0, _ => rfl
  | r + 1, hr => by
    have ih := rsK_out (L := L) (base := base) (ch := ch) (oth := oth) (k0 := k0) hv hi hq r (by omega)
    have hsl := SQ_len (fst := fst) (mt := mt) hv hi V.length r (by omega) (by omega)
    simp only [rsK]
    split
    · rw [wrt_out (q := q) (P := sqP V fst mt r) _ (fun j hj e => hq (e ▸ hsl.2 _ (sqP_mem hj)))]; exact ih
    · exact ih
/-- the classes that the rules leave -/
abbrev k4 (k : Int32) : Prop := k = 0 ∨ k = 1 ∨ k = 3 ∨ k = 6
theorem sd_k4 {k : Int32} (h : sd k ≠ -1) : k4 k := by
  unfold sd at h
  by_cases h0 : k = 0
  · exact Or.inl h0
  · rw [if_neg h0] at h
    by_cases h1 : k = 1 ∨ k = 3 ∨ k = 6
    · exact Or.inr h1
    · rw [if_neg h1] at h; exact absurd rfl h
theorem n12_k4 {n : Nat} {h t d : Int32} {k : Nat → Int32} {j : Nat} (hh : h = 0 ∨ h = 1) (hd : d = 0 ∨ d = 1) : k4 (n12 n h t d k j) := by
  unfold n12
  by_cases z : sd (k j) = -1
  · rw [if_pos z]
    split
    · exact (prevS_01 hh j).elim Or.inl (fun q => Or.inr (Or.inl q))
    · exact hd.elim Or.inl (fun q => Or.inr (Or.inl q))
  · rw [if_neg z]; exact sd_k4 z
theorem sqh_01 {V : List (List Nat)} {L : Nat → Nat} {base r : Nat} : sqh V L base r = 0 ∨ sqh V L base r = 1 := by
  unfold sqh
  rcases Nat.mod_two_eq_zero_or_one (max (L (LFn V (off V r))) (lvA V L (off V r) base)) with z | z <;> rw [z]
  · exact Or.inl rfl
  · exact Or.inr rfl
theorem sqd_01 {V : List (List Nat)} {L : Nat → Nat} {r : Nat} : sqd V L r = 0 ∨ sqd V L r = 1 := by
  unfold sqd
  rcases Nat.mod_two_eq_zero_or_one (L (LFn V (off V r))) with z | z <;> rw [z]
  · exact Or.inl rfl
  · exact Or.inr rfl
theorem rsK_s {V : List (List Nat)} {fst mt : Nat → Int32} {L : Nat → Nat} {base : Nat} {ch : Nat → Int32} {oth : Int32 → Int32} {k0 : Nat → Int32} {r q : Nat} : rsK V fst mt L base ch oth k0 (r + 1) q = rsK V fst mt L base ch oth k0 r q ∨ k4 (rsK V fst mt L base ch oth k0 (r + 1) q) := by
  simp only [rsK]
  split
  · rcases wrt_or (P := sqP V fst mt r) (k := sqK (SQ V fst mt r).length (sqh V L base r) (sqt V fst mt L base r) (sqd V L r) (fun j => fst (sqP V fst mt r j)) (fun j => ch (sqP V fst mt r j)) oth (fun j => rsK V fst mt L base ch oth k0 r (sqP V fst mt r j))) (f0 := rsK V fst mt L base ch oth k0 r) (SQ V fst mt r).length q with ⟨z, -⟩ | ⟨j, -, -, z⟩
    · exact Or.inl z
    · rw [z]; exact Or.inr (n12_k4 sqh_01 sqd_01)
  · exact Or.inl rfl
theorem rsK_k4 {V : List (List Nat)} {fst mt : Nat → Int32} {L : Nat → Nat} {base : Nat} {ch : Nat → Int32} {oth : Int32 → Int32} {k0 : Nat → Int32} {r0 q : Nat} (hb : bgn V fst mt r0) (hq : q ∈ SQ V fst mt r0) : ∀ r, r0 < r → k4 (rsK V fst mt L base ch oth k0 r q)
  | 0, h => absurd h (Nat.not_lt_zero _)
  | r + 1, h => by
    by_cases e : r = r0
    · subst e
      obtain ⟨j, j1, j2⟩ := mem_sqP hq
      simp only [rsK]
      rw [if_pos hb]
      rcases wrt_or (P := sqP V fst mt r) (k := sqK (SQ V fst mt r).length (sqh V L base r) (sqt V fst mt L base r) (sqd V L r) (fun j => fst (sqP V fst mt r j)) (fun j => ch (sqP V fst mt r j)) oth (fun j => rsK V fst mt L base ch oth k0 r (sqP V fst mt r j))) (f0 := rsK V fst mt L base ch oth k0 r) (SQ V fst mt r).length q with ⟨-, z⟩ | ⟨j, -, -, z⟩
      · exact absurd j2 (z j j1)
      · rw [z]; exact n12_k4 sqh_01 sqd_01
    · rcases rsK_s (V := V) (fst := fst) (mt := mt) (L := L) (base := base) (ch := ch) (oth := oth) (k0 := k0) (r := r) (q := q) with z | z
      · rw [z]; exact rsK_k4 hb hq r (by omega)
      · exact z
theorem k4_in {k : Int32} (h : k4 k) : k ∈ kL0 := by rcases h with z | z | z | z <;> rw [z] <;> decide
theorem rsK_in {V : List (List Nat)} {fst mt : Nat → Int32} {L : Nat → Nat} {base : Nat} {ch : Nat → Int32} {oth : Int32 → Int32} {k0 : Nat → Int32} {q : Nat} (h : k0 q ∈ kL0) : ∀ r, rsK V fst mt L base ch oth k0 r q ∈ kL0
  | 0 => h
  | r + 1 => by
    rcases rsK_s (V := V) (fst := fst) (mt := mt) (L := L) (base := base) (ch := ch) (oth := oth) (k0 := k0) (r := r) (q := q) with z | z
    · rw [z]; exact rsK_in h r
    · exact k4_in z
theorem isol_ng {k : Int32} (hi : isol k) : ¬ xgone k := by
  rintro (z | z | z)
  · exact hi.1 (Int32.lt_of_le_of_lt (Int32.not_lt.mp z.2) (by decide))
  · exact k_not (P := isol) hi isol_18 z
  · exact k_not (P := isol) hi isol_9 z
theorem xlev_ng {k : Int32} {base n : Nat} {X : XS} (hb : base ≤ 1) (hk : xok n X) (h : ¬ xgone k) : xlev k base X ≠ -1 := by
  unfold xlev
  rw [if_neg h]
  split
  · exact m1_ne (by omega)
  · exact m1_ne (by have := xtop_le (k := k) hk; omega)
/-- every run is in a sequence that begins -/
theorem cov {fst g0 f0 : Nat → Int32} {b pe base : Nat} (hbs : base ≤ 1) (hb : b ≤ pe) (hp : pe ≤ 2000) (h10 : ∀ x, b ≤ x → x + 1 < pe → fst x ≠ 10) (hi : incR (rv (xlv fst (mmat fst b g0 (pe - b)) b pe base f0 (pe - b)) b (pe - b)) fst (mmat fst b g0 (pe - b))) :
    ∀ n r, r ≤ n → r < (rv (xlv fst (mmat fst b g0 (pe - b)) b pe base f0 (pe - b)) b (pe - b)).length → ∃ r0 pr, r0 ≤ r ∧ bgn (rv (xlv fst (mmat fst b g0 (pe - b)) b pe base f0 (pe - b)) b (pe - b)) fst (mmat fst b g0 (pe - b)) r0 ∧ SQ (rv (xlv fst (mmat fst b g0 (pe - b)) b pe base f0 (pe - b)) b (pe - b)) fst (mmat fst b g0 (pe - b)) r0 = pr ++ SQ (rv (xlv fst (mmat fst b g0 (pe - b)) b pe base f0 (pe - b)) b (pe - b)) fst (mmat fst b g0 (pe - b)) r := by
  have hlvd : ∀ q, b ≤ q → q < pe → xlv fst (mmat fst b g0 (pe - b)) b pe base f0 (pe - b) q = xlev (fst q) base (xrun fst (mmat fst b g0 (pe - b)) b pe base (q - b)) := fun q h1 h2 => xlv_in _ _ h1 (by omega)
  have hbt : ∀ w p, b ≤ w → w < pe → isol (fst w) → p < pe → mOf fst (pe - (w + 1)) (w + 1) 1 = nI p → _ := fun w p h1 h2 h3 h4 h5 => btwn (f0 := f0) (mt := mmat fst b g0 (pe - b)) hbs hp h1 h2 h3 h4 h5 h10
  have hng : ∀ q, b ≤ q → q < pe → ¬ xgone (fst q) → xlv fst (mmat fst b g0 (pe - b)) b pe base f0 (pe - b) q ≠ -1 := fun q h1 h2 h3 => by rw [hlvd q h1 h2]; exact xlev_ng hbs (xok_run hbs _) h3
  have hrk := rok_rv (lv := xlv fst (mmat fst b g0 (pe - b)) b pe base f0 (pe - b)) (b := b) (pe - b)
  have hv := (vlt_rv (lv := xlv fst (mmat fst b g0 (pe - b)) b pe base f0 (pe - b)) (b := b) (pe - b)).1
  have hlt := LFn_lt (lv := xlv fst (mmat fst b g0 (pe - b)) b pe base f0 (pe - b)) (b := b) (pe - b)
  have hmem := flat_mem (lv := xlv fst (mmat fst b g0 (pe - b)) b pe base f0 (pe - b)) (b := b) (pe - b)
  generalize xlv fst (mmat fst b g0 (pe - b)) b pe base f0 (pe - b) = lv at *
  generalize hV : rv lv b (pe - b) = V at *
  intro n
  induction n with
  | zero =>
    intro r h1 h2
    have e : r = 0 := by omega
    subst e
    refine ⟨0, [], Nat.le_refl _, ?_, rfl⟩
    apply Classical.byContradiction
    intro hnb
    unfold bgn at hnb
    have hpos := runAt_pos hv h2
    have hf := (runAt_flat (V := V) (r := 0) (t := 0) h2 hpos).2
    have hP := (hmem _).mp (LFn_mem (V := V) (j := off V 0) (by omega))
    have h22 : fst (LFn V (off V 0)) = 22 := Classical.byContradiction fun z => hnb (Or.inl z)
    have hmn : mmat fst b g0 (pe - b) (LFn V (off V 0)) ≠ -1 := fun z => hnb (Or.inr z)
    rcases mm_ot (f0 := g0) hp hP.1 (by omega) (fun z => isol_n22 z h22) with z | ⟨-, w, z1, z2, z3, z4, z5⟩
    · exact hmn z
    · obtain ⟨i, i1, i2⟩ := LF_idx ((hmem w).mpr ⟨z3, by omega, hng w z3 (by omega) (isol_ng z4)⟩)
      rw [off_0] at z2
      rcases Nat.eq_zero_or_pos i with e | e
      · rw [e] at i2; omega
      · have := hlt 0 i e i1; omega
  | succ n ih =>
    intro r h1 h2
    by_cases hbg : bgn V fst (mmat fst b g0 (pe - b)) r
    · exact ⟨r, [], Nat.le_refl _, hbg, rfl⟩
    · have hnb := hbg
      unfold bgn at hnb
      have hpos := runAt_pos hv h2
      have hf := (runAt_flat (V := V) (r := r) (t := 0) h2 hpos).2
      have hP := (hmem _).mp (LFn_mem (V := V) (j := off V r) (by omega))
      have h22 : fst (LFn V (off V r)) = 22 := Classical.byContradiction fun z => hnb (Or.inl z)
      have hmn : mmat fst b g0 (pe - b) (LFn V (off V r)) ≠ -1 := fun z => hnb (Or.inr z)
      rcases mm_ot (f0 := g0) hp hP.1 (by omega) (fun z => isol_n22 z h22) with z | ⟨-, w, z1, z2, z3, z4, z5⟩
      · exact absurd z hmn
      · have hwf : w ∈ flat V := (hmem w).mpr ⟨z3, by omega, hng w z3 (by omega) (isol_ng z4)⟩
        obtain ⟨i, i1, i2⟩ := LF_idx hwf
        have hio : i < off V r := by
          rcases Nat.lt_or_ge i (off V r) with q | q
          · exact q
          · rcases Nat.lt_or_ge (off V r) i with q2 | q2
            · have := hlt (off V r) i q2 i1; omega
            · rw [show i = off V r by omega] at i2; omega
        have hmo : mOf fst (pe - (w + 1)) (w + 1) 1 = nI (LFn V (off V r)) := (mm_iso (f0 := g0) hp z3 (by omega) z4).1.symm.trans z5
        obtain ⟨b1, b2⟩ := hbt w _ z3 (by omega) z4 (by omega) hmo
        have hpre := run_pre hv hrk h2 (by omega)
        have hx0 := (hmem _).mp (LFn_mem (V := V) (j := off V r - 1) (by omega))
        have hx1 := hlt (off V r - 1) (off V r) (by omega) (by omega)
        have hiw : i < off V r - 1 := by
          rcases Nat.lt_or_ge i (off V r - 1) with q | q
          · exact q
          · exfalso
            apply hpre
            rw [show off V r - 1 = i by omega, i2, b1]
        have hwx := hlt i (off V r - 1) hiw (by omega)
        have hall := b2.resolve_left (fun hq => by
          rcases hq (LFn V (off V r - 1)) (by omega) hx1 with y | y
          · exact hx0.2.2 y
          · exact hpre (y.trans b1.symm))
        -- w ends its run
        have hs := rof_spec hwf
        obtain ⟨t, ht, et⟩ := in_run hwf
        have hit : off V (rof V w) + t = i := by
          have hf2 := (runAt_flat hs.1 ht).2
          rcases Nat.lt_trichotomy (off V (rof V w) + t) i with q | q | q
          · have := hlt _ _ q i1; omega
          · exact q
          · have := hlt _ _ q (by omega); omega
        have hlast : t + 1 = (runAt V (rof V w)).length := by
          rcases Nat.lt_or_ge (t + 1) (runAt V (rof V w)).length with q | q
          · exfalso
            have e1 := run_in hv hrk hs.1 q
            have e2 := run_in hv hrk hs.1 ht
            have hne := hall (LFn V (i + 1)) (by rw [← i2]; exact hlt i (i + 1) (by omega) (by omega)) (hlt (i + 1) (off V r) (by omega) (by omega))
            apply hne
            rw [← et, e2, ← e1]
            congr 2; omega
          · omega
        have hlp : lastP V (rof V w) = w := by
          unfold lastP
          rw [show off V (rof V w) + (runAt V (rof V w)).length - 1 = off V (rof V w) + t by omega]; exact et
        have hgo : goes V fst (mmat fst b g0 (pe - b)) (rof V w) := by
          unfold goes
          rw [hlp]
          exact ⟨z4, by rw [z5]; exact m1_ne (by omega)⟩
        have hnx : nextR V (mmat fst b g0 (pe - b)) (rof V w) = r := by
          unfold nextR
          rw [hlp, z5, nI_clamp (by omega)]
          -- the run of that position
          have hpf : LFn V (off V r) ∈ flat V := LFn_mem (by omega)
          have hs3 := rof_spec hpf
          obtain ⟨t3, ht3, et3⟩ := in_run hpf
          have hf3 := (runAt_flat hs3.1 ht3).2
          have hit3 : off V (rof V (LFn V (off V r))) + t3 = off V r := by
            rcases Nat.lt_trichotomy (off V (rof V (LFn V (off V r))) + t3) (off V r) with q | q | q
            · have := hlt _ _ q (by omega); omega
            · exact q
            · have := hlt _ _ q (by omega); omega
          rcases Nat.lt_trichotomy (rof V (LFn V (off V r))) r with q | q | q
          · have := off_next q h2; omega
          · exact q
          · have := off_next q hs3.1; omega
        have hinc := hi _ hs.1 hgo
        rw [hnx] at hinc
        obtain ⟨r0, pr, q1, q2, q3⟩ := ih (rof V w) (by omega) hs.1
        refine ⟨r0, pr ++ runAt V (rof V w), by omega, q2, ?_⟩
        rw [q3, SQ_eq hi hs.1, if_pos hgo, hnx, List.append_assoc]
