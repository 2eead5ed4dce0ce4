/-! 32: BracketRule -/
theorem bfind_s {now ch : Nat → Int32} {oth : Int32 → Int32} {n i : Nat} {st : List (Nat × Int32)} {pr : Nat → Int32} (h : i < n) : bfind now ch oth (n - i) i st pr = if now i = 13 then (if oth (ch i) = -1 then bfind now ch oth (n - (i + 1)) (i + 1) (cbS (ch i) st) (cbP (ch i) st i pr) else if st.length < 63 then bfind now ch oth (n - (i + 1)) (i + 1) ((i, oth (ch i)) :: st) pr else pr) else bfind now ch oth (n - (i + 1)) (i + 1) st pr := by
  rw [show n - i = (n - (i + 1)) + 1 by omega]
  simp only [bfind]
theorem okP_tn {n i : Nat} {f : Nat → Int32} (h : okP n f) (hi : i < n) (hn : n ≤ 2000) (hne : ¬ f i = -1) : f i = nI (f i).toNatClampNeg ∧ (f i).toNatClampNeg < n := by
  obtain ⟨k, hk, e⟩ := (h i hi).resolve_left hne
  rw [e, nI_clamp (by omega)]
  exact ⟨rfl, hk⟩
theorem sideAt_in {n i : Nat} {h t : Int32} {f : Nat → Int32} (hn : n ≤ 2000) (hi : i < n) : sideAt n h t f (nI i) = sd (f i) := by
  rw [sideAt_n (by omega) (by omega)]; unfold sideN; rw [if_neg (by omega)]
abbrev rm_BR_give : Room := { frames := 1, cells := 0, slots := 0, locals := 21 }
set_option maxHeartbeats 4000000 in
set_option maxRecDepth 100000 in
theorem c_BR_give (l : Launch) (g : Geo) (ad : Nat → Nat) (ar : Nat → Nat → Int32) (fl : Nat → Int32) (i : Nat) (v : Int32) (n : Nat) (P : Nat → Nat) (hn : fl 13 = nI n) (hN : n ≤ 2000) (hP : ∀ j, j < n → ar 36 j = nI (P j)) (hPb : ∀ j, j < n → P j < 2000) (hi : i < n) : cMv l y_BR_give (.code y_BR_give b_BR_give 4 none :: gw) rm_BR_give g [.ref (ad 10), .int (nI i), .int v] (cw g ad ar fl) (fun (_ : Unit) => True) (fun (_ : Unit) => cw g ad (va_up ar 37 (giveN (fun j => ar 14 (P j)) n i v (ar 37))) fl) 0 0 := by
  refine cMv_of (by decide) (Nat.le_of_ble_eq_true rfl) ?_
  intro p e s m below meth c A Q ls M hnm hret hl hI
  have M : MC p s m ([.ref (ad 10), .int (nI i), .int v] : List Value).toArray meth c R_BR b_BR_give 4 := M
  have hl : lv_has ls 4 [(0, .ref (ad 10)), (1, .int (nI i)), (2, .int v)] := hl
  generalize ([.ref (ad 10), .int (nI i), .int v] : List Value).toArray = args at M hret ⊢
  have hx := M.1
  have hb := M.2.1
  refine lv_aload_n hx hb d_BR_give_0 rfl (lv_at hl 0 rfl) ?_
  refine g_BR_29 M hI d_BR_give_1 ?_
  refine g_BR_49 M hI d_BR_give_4 ?_
  refine lv_iload_n hx hb d_BR_give_7 rfl (lv_at hl 1 rfl) ?_
  refine lv_iload_n hx hb d_BR_give_8 rfl (lv_at hl 2 rfl) ?_
  refine as_37 M hI i rfl (by omega) d_BR_give_9 (fun H locs hI => ?_)
  have hI : CI g A s (cw g ad (va_up ar 37 (upd (ar 37) i v)) fl) H locs := hI
  rw [show upd (ar 37) i v = rng i (i + 1) v (ar 37) from rng_0] at hI
  have hI : CI g A s (cw g ad (va_up ar 37 (rng i (i + 1) v (ar 37))) fl) H locs := hI
  refine lv_iload_n hx hb d_BR_give_10 rfl (lv_at hl 1 rfl) ?_
  refine lv_iconst (v := 1) hx hb d_BR_give_11 (by decide) ?_
  refine lv_iadd hx hb d_BR_give_12 ?_
  refine q_as (y := nI (i + 1)) (nI_add i 1) ?_
  refine lv_istore_n (lv' := [(3, .int (nI (i + 1))), (0, .ref (ad 10)), (1, .int (nI i)), (2, .int v)]) hx hb d_BR_give_13 rfl hl (by decide) rfl (fun ls hl => ?_)
  have L14 : ∀ (fu : Nat) (j : Nat), (n - j) < fu → (i + 1 ≤ j) → (j ≤ n) → (mkEnd (fun j => ar 14 (P j)) n (i + 1) = mkEnd (fun j => ar 14 (P j)) n j) → ∀ (H : Heap) (locs : List Loc) (ls : Array Slot), CI g A s (cw g ad (va_up ar 37 (rng i j v (ar 37))) fl) H locs → lv_has ls 4 [(0, .ref (ad 10)), (1, .int (nI i)), (2, .int v), (3, .int (nI j))] → W p l e rm_BR_give s m args below meth c H locs 0 0 Q (F0 m 14 ls []) := by
    intro fu
    induction fu with
    | zero => intro j hm; exact absurd hm (Nat.not_lt_zero _)
    | succ fu ih14 =>
      intro j hm hj hj2 hm H locs ls hI hl
      refine lv_iload_n hx hb d_BR_give_14 rfl (lv_at hl 3 rfl) ?_
      refine lv_aload_n hx hb d_BR_give_15 rfl (lv_at hl 0 rfl) ?_
      refine g_BR_29 M hI d_BR_give_16 ?_
      refine g_BR_40 M hI d_BR_give_19 ?_
      refine q_as (y := nI n) hn ?_
      refine lv_icmp_ge (tgt := 52) hx hb d_BR_give_22 (by decide) (fun c22 => ?_) (fun c22 => ?_)
      · have c22 : n ≤ j := (nI_leI (a := n) (b := j) (by omega) (by omega)).mp c22
        have e9 : mkEnd (fun j => ar 14 (P j)) n (i + 1) = j := by rw [hm]; exact mkEnd_e (fun q => by omega)
        have hI := CI.to (w2 := cw g ad (va_up ar 37 (giveN (fun j => ar 14 (P j)) n i v (ar 37))) fl) hI (by unfold giveN; rw [e9])
        exact hret () _ _ _ _ _ _ d_BR_give_52 hI (trivial) (Nat.le_refl 0) (Nat.le_refl 0)
      · have c22 : ¬ n ≤ j := fun h => c22 ((nI_leI (a := n) (b := j) (by omega) (by omega)).mpr h)
        refine lv_aload_n hx hb d_BR_give_25 rfl (lv_at hl 0 rfl) ?_
        refine g_BR_29 M hI d_BR_give_26 ?_
        refine lv_iload_n hx hb d_BR_give_29 rfl (lv_at hl 3 rfl) ?_
        refine q_calliV [.int (nI j)] M hI (c_SQ_wasMark l g ad (va_up ar 37 (rng i j v (ar 37))) fl j n P (by first | exact hn | assumption | omega | rfl) (by first | exact hN | assumption | omega | rfl) (by first | exact hP | assumption | omega | rfl) (by first | exact hPb | assumption | omega | rfl) (by omega)) ok_SQ_wasMark m4_13 m4_14 m4_15 8 rfl rfl rfl rfl hl.1 ⟨rfl, rfl⟩ ⟨Nat.le_of_ble_eq_true rfl, Nat.le_of_ble_eq_true rfl⟩ (Nat.le_of_ble_eq_true rfl) ⟨Nat.le_of_ble_eq_true rfl, Nat.le_of_ble_eq_true rfl⟩ d_BR_give_30 (fun r30 u30 H locs hp30 hI => ?_)
        refine q_as (y := bI (j < n ∧ ar 14 (P j) = 8)) hp30 ?_
        refine lv_if_eq (tgt := 52) hx hb d_BR_give_33 (by decide) (fun c33 => ?_) (fun c33 => ?_)
        · have c33 := bI_eq0.mp c33
          have e9 : mkEnd (fun j => ar 14 (P j)) n (i + 1) = j := by rw [hm]; exact mkEnd_e c33
          have hI := CI.to (w2 := cw g ad (va_up ar 37 (giveN (fun j => ar 14 (P j)) n i v (ar 37))) fl) hI (by unfold giveN; rw [e9])
          exact hret () _ _ _ _ _ _ d_BR_give_52 hI (trivial) (Nat.le_refl 0) (Nat.le_refl 0)
        · have c33 := bI_ne0.mp c33
          refine lv_aload_n hx hb d_BR_give_36 rfl (lv_at hl 0 rfl) ?_
          refine g_BR_29 M hI d_BR_give_37 ?_
          refine g_BR_49 M hI d_BR_give_40 ?_
          refine lv_iload_n hx hb d_BR_give_43 rfl (lv_at hl 3 rfl) ?_
          refine lv_iload_n hx hb d_BR_give_44 rfl (lv_at hl 2 rfl) ?_
          refine as_37 M hI j rfl (by omega) d_BR_give_45 (fun H locs hI => ?_)
          have hI : CI g A s (cw g ad (va_up ar 37 (upd (rng i j v (ar 37)) j v)) fl) H locs := hI
          rw [show upd (rng i j v (ar 37)) j v = rng i (j + 1) v (ar 37) from rng_s (by omega)] at hI
          have hI : CI g A s (cw g ad (va_up ar 37 (rng i (j + 1) v (ar 37))) fl) H locs := hI
          refine lv_iinc (v := nI (j + 1)) (lv' := [(3, .int (nI (j + 1))), (0, .ref (ad 10)), (1, .int (nI i)), (2, .int v)]) hx hb d_BR_give_46 hl (k := 3) rfl (nI_add _ 1) (by decide) rfl (fun ls hl => ?_)
          refine lv_goto (tgt := 14) hx hb d_BR_give_49 (by decide) ?_
          exact ih14 (j + 1) (by omega) (by first | assumption | omega) (by first | assumption | omega) (by rw [hm, mkEnd_s c33.1 c33.2]) _ _ _ hI (lv_sub hl [1, 2, 3, 0] rfl)
  exact L14 _ (i + 1) (Nat.lt_succ_self _) (by first | assumption | omega) (by first | assumption | omega) (rfl) _ _ _ hI (lv_sub hl [1, 2, 3, 0] rfl)
abbrev rm_BR_sideBefore : Room := { frames := 1, cells := 0, slots := 0, locals := 21 }
set_option maxHeartbeats 4000000 in
set_option maxRecDepth 100000 in
theorem c_BR_sideBefore (l : Launch) (g : Geo) (ad : Nat → Nat) (ar : Nat → Nat → Int32) (fl : Nat → Int32) (i : Nat) (n : Nat) (hn : fl 13 = nI n) (hN : n ≤ 2000) (hi : i ≤ n) : cMi l y_BR_sideBefore (.code y_BR_sideBefore b_BR_sideBefore 4 (some .int) :: gw) rm_BR_sideBefore g [.ref (ad 10), .int (nI i)] (cw g ad ar fl) (fun (r : Int32) (_ : Unit) => r = prevS (fl 15) (ar 37) i) (fun (_ : Unit) => cw g ad ar fl) 0 0 := by
  refine cMi_of (by decide) (Nat.le_of_ble_eq_true rfl) ?_
  intro p e s m below meth c A Q ls M hret hl hI
  have M : MC p s m ([.ref (ad 10), .int (nI i)] : List Value).toArray meth c R_BR b_BR_sideBefore 4 := M
  have hl : lv_has ls 4 [(0, .ref (ad 10)), (1, .int (nI i))] := hl
  generalize ([.ref (ad 10), .int (nI i)] : List Value).toArray = args at M hret ⊢
  have hx := M.1
  have hb := M.2.1
  refine lv_iload_n hx hb d_BR_sideBefore_0 rfl (lv_at hl 1 rfl) ?_
  refine lv_iconst (v := 1) hx hb d_BR_sideBefore_1 (by decide) ?_
  refine lv_isub hx hb d_BR_sideBefore_2 ?_
  refine lv_istore_n (lv' := [(2, .int ((nI i) - 1)), (0, .ref (ad 10)), (1, .int (nI i))]) hx hb d_BR_sideBefore_3 rfl hl (by decide) rfl (fun ls hl => ?_)
  have L4 : ∀ (fu : Nat) (z : Nat), z < fu → (z ≤ n) → (prevS (fl 15) (ar 37) i = prevS (fl 15) (ar 37) z) → ∀ (H : Heap) (locs : List Loc) (ls : Array Slot), CI g A s (cw g ad ar fl) H locs → lv_has ls 4 [(0, .ref (ad 10)), (2, .int (nI z - 1))] → W p l e rm_BR_sideBefore s m args below meth c H locs 0 0 Q (F0 m 4 ls []) := by
    intro fu
    induction fu with
    | zero => intro z hm; exact absurd hm (Nat.not_lt_zero _)
    | succ fu ih4 =>
      intro z hm hz hq H locs ls hI hl
      refine lv_iload_n hx hb d_BR_sideBefore_4 rfl (lv_at hl 1 rfl) ?_
      refine lv_if_lt (tgt := 30) hx hb d_BR_sideBefore_5 (by decide) (fun c5 => ?_) (fun c5 => ?_)
      · have hz0 : z = 0 := (nI_m1neg (by omega)).mp c5
        refine lv_aload_n hx hb d_BR_sideBefore_30 rfl (lv_at hl 0 rfl) ?_
        refine g_BR_29 M hI d_BR_sideBefore_31 ?_
        refine g_BR_85 M hI d_BR_sideBefore_34 ?_
        exact hret (fl 15) () _ _ _ _ _ _ d_BR_sideBefore_37 hI (by rw [hq, hz0]; rfl) (Nat.le_refl 0) (Nat.le_refl 0)
      · obtain ⟨j, rfl⟩ : ∃ j, z = j + 1 := ⟨z - 1, by have : ¬ z = 0 := fun q => c5 ((nI_m1neg (by omega)).mpr q); omega⟩
        rw [nI_pred] at hl
        refine lv_aload_n hx hb d_BR_sideBefore_8 rfl (lv_at hl 0 rfl) ?_
        refine g_BR_29 M hI d_BR_sideBefore_9 ?_
        refine lv_iload_n hx hb d_BR_sideBefore_12 rfl (lv_at hl 1 rfl) ?_
        refine q_calliV [.int (nI j)] M hI (c_SQ_sideAt l g ad ar fl (nI j) n (by first | exact hn | assumption | omega | rfl) (by first | exact hN | assumption | omega | rfl)) ok_SQ_sideAt m4_1 m4_2 m4_3 8 rfl rfl rfl rfl hl.1 ⟨rfl, rfl⟩ ⟨Nat.le_of_ble_eq_true rfl, Nat.le_of_ble_eq_true rfl⟩ (Nat.le_of_ble_eq_true rfl) ⟨Nat.le_of_ble_eq_true rfl, Nat.le_of_ble_eq_true rfl⟩ d_BR_sideBefore_13 (fun r13 u13 H locs hp13 hI => ?_)
        refine q_as (y := sideAt n (fl 15) (fl 16) (ar 37) (nI j)) hp13 ?_
        refine q_as (y := sd (ar 37 j)) (sideAt_in hN (by omega)) ?_
        refine lv_istore_n (lv' := [(3, .int (sd (ar 37 j))), (0, .ref (ad 10)), (2, .int (nI j))]) hx hb d_BR_sideBefore_16 rfl hl (by decide) rfl (fun ls hl => ?_)
        refine lv_iload_n hx hb d_BR_sideBefore_17 rfl (lv_at hl 0 rfl) ?_
        refine lv_iconst (v := (-1)) hx hb d_BR_sideBefore_18 (by decide) ?_
        refine lv_icmp_eq (tgt := 24) hx hb d_BR_sideBefore_19 (by decide) (fun c19 => ?_) (fun c19 => ?_)
        · have hq2 := hq.trans (prevS_z c19)
          refine lv_iinc (v := nI j - 1) (lv' := [(2, .int (nI j - 1)), (3, .int (sd (ar 37 j))), (0, .ref (ad 10))]) hx hb d_BR_sideBefore_24 hl (k := 2) rfl (nI_dec j) (by decide) rfl (fun ls hl => ?_)
          refine lv_goto (tgt := 4) hx hb d_BR_sideBefore_27 (by decide) ?_
          exact ih4 j (by omega) (by first | assumption | omega) (hq2) _ _ _ hI (lv_sub hl [2, 0] rfl)
        · refine lv_iload_n hx hb d_BR_sideBefore_22 rfl (lv_at hl 0 rfl) ?_
          exact hret (sd (ar 37 j)) () _ _ _ _ _ _ d_BR_sideBefore_23 hI (by rw [hq, prevS_n c19]) (Nat.le_refl 0) (Nat.le_refl 0)
  exact L4 _ i (Nat.lt_succ_self _) (by first | assumption | omega) (rfl) _ _ _ hI (lv_sub hl [1, 0] rfl)
abbrev rm_BR_sideInside : Room := { frames := 1, cells := 0, slots := 0, locals := 21 }
set_option maxHeartbeats 4000000 in
set_option maxRecDepth 100000 in
theorem c_BR_sideInside (l : Launch) (g : Geo) (ad : Nat → Nat) (ar : Nat → Nat → Int32) (fl : Nat → Int32) (o : Nat) (cl : Nat) (n : Nat) (hn : fl 13 = nI n) (hN : n ≤ 2000) (ho : o < n) (hcl : cl ≤ n) : cMi l y_BR_sideInside (.code y_BR_sideInside b_BR_sideInside 6 (some .int) :: gw) rm_BR_sideInside g [.ref (ad 10), .int (nI o), .int (nI cl)] (cw g ad ar fl) (fun (r : Int32) (_ : Unit) => (r = -1 ∧ ¬ hasA (ar 37) o cl) ∨ (r = fl 14 ∧ hasD (ar 37) (fl 14) o cl) ∨ (r ≠ -1 ∧ r ≠ fl 14 ∧ hasA (ar 37) o cl ∧ ¬ hasD (ar 37) (fl 14) o cl)) (fun (_ : Unit) => cw g ad ar fl) 0 0 := by
  refine cMi_of (by decide) (Nat.le_of_ble_eq_true rfl) ?_
  intro p e s m below meth c A Q ls M hret hl hI
  have M : MC p s m ([.ref (ad 10), .int (nI o), .int (nI cl)] : List Value).toArray meth c R_BR b_BR_sideInside 6 := M
  have hl : lv_has ls 6 [(0, .ref (ad 10)), (1, .int (nI o)), (2, .int (nI cl))] := hl
  generalize ([.ref (ad 10), .int (nI o), .int (nI cl)] : List Value).toArray = args at M hret ⊢
  have hx := M.1
  have hb := M.2.1
  refine lv_iconst (v := (-1)) hx hb d_BR_sideInside_0 (by decide) ?_
  refine lv_istore_n (lv' := [(3, .int (-1)), (0, .ref (ad 10)), (1, .int (nI o)), (2, .int (nI cl))]) hx hb d_BR_sideInside_1 rfl hl (by decide) rfl (fun ls hl => ?_)
  refine lv_iload_n hx hb d_BR_sideInside_2 rfl (lv_at hl 2 rfl) ?_
  refine lv_iconst (v := 1) hx hb d_BR_sideInside_3 (by decide) ?_
  refine lv_iadd hx hb d_BR_sideInside_4 ?_
  refine q_as (y := nI (o + 1)) (nI_add o 1) ?_
  refine lv_istore (lv' := [(4, .int (nI (o + 1))), (3, .int (-1)), (0, .ref (ad 10)), (1, .int (nI o)), (2, .int (nI cl))]) hx hb d_BR_sideInside_5 hl (by decide) rfl (fun ls hl => ?_)
  have L7 : ∀ (fu : Nat) (j : Nat) (v : Int32), (n - j) < fu → (o + 1 ≤ j) → (j ≤ n) → (insF (ar 37) (fl 14) o j v) → (j ≤ cl ∨ j = o + 1) → ∀ (H : Heap) (locs : List Loc) (ls : Array Slot), CI g A s (cw g ad ar fl) H locs → lv_has ls 6 [(0, .ref (ad 10)), (1, .int (nI o)), (2, .int (nI cl)), (3, .int v), (4, .int (nI j))] → W p l e rm_BR_sideInside s m args below meth c H locs 0 0 Q (F0 m 7 ls []) := by
    intro fu
    induction fu with
    | zero => intro j v hm; exact absurd hm (Nat.not_lt_zero _)
    | succ fu ih7 =>
      intro j v hm hj hj2 hf hjc H locs ls hI hl
      refine lv_iload hx hb d_BR_sideInside_7 (lv_at hl 4 rfl) ?_
      refine lv_iload_n hx hb d_BR_sideInside_9 rfl (lv_at hl 2 rfl) ?_
      refine lv_icmp_ge (tgt := 54) hx hb d_BR_sideInside_10 (by decide) (fun c10 => ?_) (fun c10 => ?_)
      · have c10 : cl ≤ j := (nI_leI (a := cl) (b := j) (by omega) (by omega)).mp c10
        refine lv_iload_n hx hb d_BR_sideInside_54 rfl (lv_at hl 3 rfl) ?_
        exact hret v () _ _ _ _ _ _ d_BR_sideInside_55 hI (by rcases hf.2 with ⟨q1, q2⟩ | ⟨q1, q2, m, h1, h2, h3⟩; exact Or.inl ⟨q1, fun ⟨m, h1, h2, h3⟩ => h3 (q2 m h1 (by omega))⟩; exact Or.inr (Or.inr ⟨q1, q2, ⟨m, h1, by omega, h3⟩, fun ⟨m, h1, h2, h3⟩ => hf.1 m h1 (by omega) h3⟩)) (Nat.le_refl 0) (Nat.le_refl 0)
      · have c10 : ¬ cl ≤ j := fun h => c10 ((nI_leI (a := cl) (b := j) (by omega) (by omega)).mpr h)
        refine lv_aload_n hx hb d_BR_sideInside_13 rfl (lv_at hl 0 rfl) ?_
        refine g_BR_29 M hI d_BR_sideInside_14 ?_
        refine lv_iload hx hb d_BR_sideInside_17 (lv_at hl 4 rfl) ?_
        refine q_calliV [.int (nI j)] M hI (c_SQ_sideAt l g ad ar fl (nI j) n (by first | exact hn | assumption | omega | rfl) (by first | exact hN | assumption | omega | rfl)) ok_SQ_sideAt m4_1 m4_2 m4_3 8 rfl rfl rfl rfl hl.1 ⟨rfl, rfl⟩ ⟨Nat.le_of_ble_eq_true rfl, Nat.le_of_ble_eq_true rfl⟩ (Nat.le_of_ble_eq_true rfl) ⟨Nat.le_of_ble_eq_true rfl, Nat.le_of_ble_eq_true rfl⟩ d_BR_sideInside_19 (fun r19 u19 H locs hp19 hI => ?_)
        refine q_as (y := sideAt n (fl 15) (fl 16) (ar 37) (nI j)) hp19 ?_
        refine q_as (y := sd (ar 37 j)) (sideAt_in hN (by omega)) ?_
        refine lv_istore (lv' := [(5, .int (sd (ar 37 j))), (0, .ref (ad 10)), (1, .int (nI o)), (2, .int (nI cl)), (3, .int v), (4, .int (nI j))]) hx hb d_BR_sideInside_22 hl (by decide) rfl (fun ls hl => ?_)
        refine lv_iload hx hb d_BR_sideInside_24 (lv_at hl 0 rfl) ?_
        refine lv_aload_n hx hb d_BR_sideInside_26 rfl (lv_at hl 1 rfl) ?_
        refine g_BR_29 M hI d_BR_sideInside_27 ?_
        refine g_BR_73 M hI d_BR_sideInside_30 ?_
        refine lv_icmp_ne (tgt := 39) hx hb d_BR_sideInside_33 (by decide) (fun c33 => ?_) (fun c33 => ?_)
        · have hno : ∀ m, o < m → m < j + 1 → sd (ar 37 m) ≠ fl 14 := fun m h1 h2 => by rcases Nat.lt_or_ge m j with q | q; exact hf.1 m h1 q; rw [show m = j by omega]; exact c33
          refine lv_iload hx hb d_BR_sideInside_39 (lv_at hl 0 rfl) ?_
          refine lv_iconst (v := (-1)) hx hb d_BR_sideInside_41 (by decide) ?_
          refine lv_icmp_eq (tgt := 48) hx hb d_BR_sideInside_42 (by decide) (fun c42 => ?_) (fun c42 => ?_)
          · have hf2 : insF (ar 37) (fl 14) o (j + 1) v := ⟨hno, hf.2.imp (fun q => ⟨q.1, fun m h1 h2 => by rcases Nat.lt_or_ge m j with z | z; exact q.2 m h1 z; rw [show m = j by omega]; exact c42⟩) (fun q => ⟨q.1, q.2.1, by obtain ⟨m, h1, h2, h3⟩ := q.2.2; exact ⟨m, h1, by omega, h3⟩⟩)⟩
            refine lv_iinc (v := nI (j + 1)) (lv' := [(4, .int (nI (j + 1))), (5, .int (sd (ar 37 j))), (0, .ref (ad 10)), (1, .int (nI o)), (2, .int (nI cl)), (3, .int v)]) hx hb d_BR_sideInside_48 hl (k := 5) rfl (nI_add _ 1) (by decide) rfl (fun ls hl => ?_)
            refine lv_goto (tgt := 7) hx hb d_BR_sideInside_51 (by decide) ?_
            exact ih7 (j + 1) v (by omega) (by first | assumption | omega) (by first | assumption | omega) (hf2) (Or.inl (by omega)) _ _ _ hI (lv_sub hl [2, 3, 4, 5, 0] rfl)
          · have hf2 : insF (ar 37) (fl 14) o (j + 1) (sd (ar 37 j)) := ⟨hno, Or.inr ⟨c42, c33, j, by omega, by omega, c42⟩⟩
            refine lv_iload hx hb d_BR_sideInside_45 (lv_at hl 0 rfl) ?_
            refine lv_istore_n (lv' := [(3, .int (sd (ar 37 j))), (5, .int (sd (ar 37 j))), (0, .ref (ad 10)), (1, .int (nI o)), (2, .int (nI cl)), (4, .int (nI j))]) hx hb d_BR_sideInside_47 rfl hl (by decide) rfl (fun ls hl => ?_)
            refine lv_iinc (v := nI (j + 1)) (lv' := [(4, .int (nI (j + 1))), (3, .int (sd (ar 37 j))), (5, .int (sd (ar 37 j))), (0, .ref (ad 10)), (1, .int (nI o)), (2, .int (nI cl))]) hx hb d_BR_sideInside_48 hl (k := 5) rfl (nI_add _ 1) (by decide) rfl (fun ls hl => ?_)
            refine lv_goto (tgt := 7) hx hb d_BR_sideInside_51 (by decide) ?_
            exact ih7 (j + 1) (sd (ar 37 j)) (by omega) (by first | assumption | omega) (by first | assumption | omega) (hf2) (Or.inl (by omega)) _ _ _ hI (lv_sub hl [3, 4, 5, 1, 0] rfl)
        · refine lv_iload hx hb d_BR_sideInside_36 (lv_at hl 0 rfl) ?_
          exact hret (sd (ar 37 j)) () _ _ _ _ _ _ d_BR_sideInside_38 hI (Or.inr (Or.inl ⟨c33, j, by omega, by omega, c33⟩)) (Nat.le_refl 0) (Nat.le_refl 0)
  exact L7 _ (o + 1) (-1) (Nat.lt_succ_self _) (by first | assumption | omega) (by first | assumption | omega) (⟨fun m h1 h2 => absurd h2 (by omega), Or.inl ⟨rfl, fun m h1 h2 => absurd h2 (by omega)⟩⟩) (Or.inr rfl) _ _ _ hI (lv_sub hl [2, 3, 4, 1, 0] rfl)
abbrev rm_BR_settlePair : Room := { frames := 2, cells := 0, slots := 0, locals := 46 }
set_option maxHeartbeats 4000000 in
set_option maxRecDepth 100000 in
theorem c_BR_settlePair (l : Launch) (g : Geo) (ad : Nat → Nat) (ar : Nat → Nat → Int32) (fl : Nat → Int32) (o : Nat) (cl : Nat) (n : Nat) (P : Nat → Nat) (hn : fl 13 = nI n) (hN : n ≤ 2000) (hP : ∀ j, j < n → ar 36 j = nI (P j)) (hPb : ∀ j, j < n → P j < 2000) (ho : o < n) (hc2 : cl < n) (hd : fl 14 ≠ -1) : cMv l y_BR_settlePair (.code y_BR_settlePair b_BR_settlePair 5 none :: gw) rm_BR_settlePair g [.ref (ad 10), .int (nI o), .int (nI cl)] (cw g ad ar fl) (fun (_ : Unit) => True) (fun (_ : Unit) => cw g ad (va_up ar 37 (settle (fun j => ar 14 (P j)) n (fl 15) (fl 14) o cl (ar 37))) fl) 0 0 := by
  refine cMv_of (by decide) (Nat.le_of_ble_eq_true rfl) ?_
  intro p e s m below meth c A Q ls M hnm hret hl hI
  have M : MC p s m ([.ref (ad 10), .int (nI o), .int (nI cl)] : List Value).toArray meth c R_BR b_BR_settlePair 5 := M
  have hl : lv_has ls 5 [(0, .ref (ad 10)), (1, .int (nI o)), (2, .int (nI cl))] := hl
  generalize ([.ref (ad 10), .int (nI o), .int (nI cl)] : List Value).toArray = args at M hret ⊢
  have hx := M.1
  have hb := M.2.1
  refine lv_aload_n hx hb d_BR_settlePair_0 rfl (lv_at hl 0 rfl) ?_
  refine lv_iload_n hx hb d_BR_settlePair_1 rfl (lv_at hl 1 rfl) ?_
  refine lv_iload_n hx hb d_BR_settlePair_2 rfl (lv_at hl 2 rfl) ?_
  refine q_calliV [.int (nI o), .int (nI cl)] M hI (c_BR_sideInside l g ad ar fl o cl n (by first | exact hn | assumption | omega | rfl) (by first | exact hN | assumption | omega | rfl) (by first | exact ho | assumption | omega | rfl) (by omega)) ok_BR_sideInside m3_237 m3_239 ms_31 10 rfl rfl rfl rfl hl.1 ⟨rfl, rfl⟩ ⟨Nat.le_of_ble_eq_true rfl, Nat.le_of_ble_eq_true rfl⟩ (Nat.le_of_ble_eq_true rfl) ⟨Nat.le_of_ble_eq_true rfl, Nat.le_of_ble_eq_true rfl⟩ d_BR_settlePair_3 (fun r3 u3 H locs hp3 hI => ?_)
  refine lv_istore_n (lv' := [(3, .int r3), (0, .ref (ad 10)), (1, .int (nI o)), (2, .int (nI cl))]) hx hb d_BR_settlePair_6 rfl hl (by decide) rfl (fun ls hl => ?_)
  refine lv_iload_n hx hb d_BR_settlePair_7 rfl (lv_at hl 0 rfl) ?_
  refine lv_iconst (v := (-1)) hx hb d_BR_settlePair_8 (by decide) ?_
  refine lv_icmp_eq (tgt := 48) hx hb d_BR_settlePair_9 (by decide) (fun c9 => ?_) (fun c9 => ?_)
  · have eS : settle (fun j => ar 14 (P j)) n (fl 15) (fl 14) o cl (ar 37) = ar 37 := by unfold settle; refine if_neg (fun q => ?_); rcases hp3 with z | z | z; exact z.2 q; exact hd (by rw [← z.1]; exact c9); exact z.1 c9
    have hI := CI.to (w2 := cw g ad (va_up ar 37 (settle (fun j => ar 14 (P j)) n (fl 15) (fl 14) o cl (ar 37))) fl) hI (by rw [eS] <;> rfl)
    exact hret () _ _ _ _ _ _ d_BR_settlePair_48 hI (trivial) (Nat.le_refl 0) (Nat.le_refl 0)
  · have hA : hasA (ar 37) o cl := by rcases hp3 with z | z | z; exact absurd z.1 c9; (obtain ⟨m, h1, h2, h3⟩ := z.2; exact ⟨m, h1, h2, by rw [h3]; exact hd⟩); exact z.2.2.1
    have eS : settle (fun j => ar 14 (P j)) n (fl 15) (fl 14) o cl (ar 37) = giveN (fun j => ar 14 (P j)) n cl (bdir (ar 37) (fl 15) (fl 14) o cl) (giveN (fun j => ar 14 (P j)) n o (bdir (ar 37) (fl 15) (fl 14) o cl) (ar 37)) := by unfold settle; exact if_pos hA
    refine lv_iload_n hx hb d_BR_settlePair_12 rfl (lv_at hl 0 rfl) ?_
    refine lv_aload_n hx hb d_BR_settlePair_13 rfl (lv_at hl 1 rfl) ?_
    refine g_BR_29 M hI d_BR_settlePair_14 ?_
    refine g_BR_73 M hI d_BR_settlePair_17 ?_
    refine lv_icmp_ne (tgt := 27) hx hb d_BR_settlePair_20 (by decide) (fun c20 => ?_) (fun c20 => ?_)
    · have hD : ¬ hasD (ar 37) (fl 14) o cl := by rcases hp3 with z | z | z; exact absurd z.1 c9; exact absurd z.1 c20; exact z.2.2.2
      refine lv_aload_n hx hb d_BR_settlePair_27 rfl (lv_at hl 1 rfl) ?_
      refine lv_iload_n hx hb d_BR_settlePair_28 rfl (lv_at hl 2 rfl) ?_
      refine q_calliV [.int (nI o)] M hI (c_BR_sideBefore l g ad ar fl o n (by first | exact hn | assumption | omega | rfl) (by first | exact hN | assumption | omega | rfl) (by omega)) ok_BR_sideBefore m4_5 m4_7 ms_32 10 rfl rfl rfl rfl hl.1 ⟨rfl, rfl⟩ ⟨Nat.le_of_ble_eq_true rfl, Nat.le_of_ble_eq_true rfl⟩ (Nat.le_of_ble_eq_true rfl) ⟨Nat.le_of_ble_eq_true rfl, Nat.le_of_ble_eq_true rfl⟩ d_BR_settlePair_29 (fun r29 u29 H locs hp29 hI => ?_)
      refine q_as (y := prevS (fl 15) (ar 37) o) hp29 ?_
      refine q_as (y := bdir (ar 37) (fl 15) (fl 14) o cl) (by unfold bdir; exact (if_neg hD).symm) ?_
      refine lv_istore (lv' := [(4, .int (bdir (ar 37) (fl 15) (fl 14) o cl)), (3, .int r3), (0, .ref (ad 10)), (1, .int (nI o)), (2, .int (nI cl))]) hx hb d_BR_settlePair_32 hl (by decide) rfl (fun ls hl => ?_)
      refine lv_aload_n hx hb d_BR_settlePair_34 rfl (lv_at hl 2 rfl) ?_
      refine lv_iload_n hx hb d_BR_settlePair_35 rfl (lv_at hl 3 rfl) ?_
      refine lv_iload hx hb d_BR_settlePair_36 (lv_at hl 0 rfl) ?_
      refine q_callvV [.int (nI o), .int (bdir (ar 37) (fl 15) (fl 14) o cl)] M hI (c_BR_give l g ad ar fl o (bdir (ar 37) (fl 15) (fl 14) o cl) n P (by first | exact hn | assumption | omega | rfl) (by first | exact hN | assumption | omega | rfl) (by first | exact hP | assumption | omega | rfl) (by first | exact hPb | assumption | omega | rfl) (ho)) ok_BR_give m4_9 m4_11 ms_33 10 rfl rfl rfl rfl hl.1 ⟨rfl, rfl⟩ ⟨Nat.le_of_ble_eq_true rfl, Nat.le_of_ble_eq_true rfl⟩ (Nat.le_of_ble_eq_true rfl) ⟨Nat.le_of_ble_eq_true rfl, Nat.le_of_ble_eq_true rfl⟩ d_BR_settlePair_38 (fun u38 H locs hp38 hI => ?_)
      have hI : CI g A s (cw g ad (va_up ar 37 (giveN (fun j => ar 14 (P j)) n o (bdir (ar 37) (fl 15) (fl 14) o cl) (ar 37))) fl) H locs := hI
      refine lv_aload_n hx hb d_BR_settlePair_41 rfl (lv_at hl 2 rfl) ?_
      refine lv_iload_n hx hb d_BR_settlePair_42 rfl (lv_at hl 4 rfl) ?_
      refine lv_iload hx hb d_BR_settlePair_43 (lv_at hl 0 rfl) ?_
      refine q_callvV [.int (nI cl), .int (bdir (ar 37) (fl 15) (fl 14) o cl)] M hI (c_BR_give l g ad (va_up ar 37 (giveN (fun j => ar 14 (P j)) n o (bdir (ar 37) (fl 15) (fl 14) o cl) (ar 37))) fl cl (bdir (ar 37) (fl 15) (fl 14) o cl) n P (by first | exact hn | assumption | omega | rfl) (by first | exact hN | assumption | omega | rfl) (by first | exact hP | assumption | omega | rfl) (by first | exact hPb | assumption | omega | rfl) (hc2)) ok_BR_give m4_9 m4_11 ms_33 10 rfl rfl rfl rfl hl.1 ⟨rfl, rfl⟩ ⟨Nat.le_of_ble_eq_true rfl, Nat.le_of_ble_eq_true rfl⟩ (Nat.le_of_ble_eq_true rfl) ⟨Nat.le_of_ble_eq_true rfl, Nat.le_of_ble_eq_true rfl⟩ d_BR_settlePair_45 (fun u45 H locs hp45 hI => ?_)
      have hI : CI g A s (cw g ad (va_up ar 37 (giveN (fun j => ar 14 (P j)) n cl (bdir (ar 37) (fl 15) (fl 14) o cl) (giveN (fun j => ar 14 (P j)) n o (bdir (ar 37) (fl 15) (fl 14) o cl) (ar 37)))) fl) H locs := hI
      have hI := CI.to (w2 := cw g ad (va_up ar 37 (settle (fun j => ar 14 (P j)) n (fl 15) (fl 14) o cl (ar 37))) fl) hI (by rw [eS] <;> rfl)
      exact hret () _ _ _ _ _ _ d_BR_settlePair_48 hI (trivial) (Nat.le_refl 0) (Nat.le_refl 0)
    · have hD : hasD (ar 37) (fl 14) o cl := by rcases hp3 with z | z | z; exact absurd z.1 c9; exact z.2; exact absurd c20 z.2.1
      refine lv_iload_n hx hb d_BR_settlePair_23 rfl (lv_at hl 0 rfl) ?_
      refine q_as (y := bdir (ar 37) (fl 15) (fl 14) o cl) (by unfold bdir; rw [c20]; exact (if_pos hD).symm) ?_
      refine lv_goto (tgt := 32) hx hb d_BR_settlePair_24 (by decide) ?_
      refine lv_istore (lv' := [(4, .int (bdir (ar 37) (fl 15) (fl 14) o cl)), (3, .int r3), (0, .ref (ad 10)), (1, .int (nI o)), (2, .int (nI cl))]) hx hb d_BR_settlePair_32 hl (by decide) rfl (fun ls hl => ?_)
      refine lv_aload_n hx hb d_BR_settlePair_34 rfl (lv_at hl 2 rfl) ?_
      refine lv_iload_n hx hb d_BR_settlePair_35 rfl (lv_at hl 3 rfl) ?_
      refine lv_iload hx hb d_BR_settlePair_36 (lv_at hl 0 rfl) ?_
      refine q_callvV [.int (nI o), .int (bdir (ar 37) (fl 15) (fl 14) o cl)] M hI (c_BR_give l g ad ar fl o (bdir (ar 37) (fl 15) (fl 14) o cl) n P (by first | exact hn | assumption | omega | rfl) (by first | exact hN | assumption | omega | rfl) (by first | exact hP | assumption | omega | rfl) (by first | exact hPb | assumption | omega | rfl) (ho)) ok_BR_give m4_9 m4_11 ms_33 10 rfl rfl rfl rfl hl.1 ⟨rfl, rfl⟩ ⟨Nat.le_of_ble_eq_true rfl, Nat.le_of_ble_eq_true rfl⟩ (Nat.le_of_ble_eq_true rfl) ⟨Nat.le_of_ble_eq_true rfl, Nat.le_of_ble_eq_true rfl⟩ d_BR_settlePair_38 (fun u38 H locs hp38 hI => ?_)
      have hI : CI g A s (cw g ad (va_up ar 37 (giveN (fun j => ar 14 (P j)) n o (bdir (ar 37) (fl 15) (fl 14) o cl) (ar 37))) fl) H locs := hI
      refine lv_aload_n hx hb d_BR_settlePair_41 rfl (lv_at hl 2 rfl) ?_
      refine lv_iload_n hx hb d_BR_settlePair_42 rfl (lv_at hl 4 rfl) ?_
      refine lv_iload hx hb d_BR_settlePair_43 (lv_at hl 0 rfl) ?_
      refine q_callvV [.int (nI cl), .int (bdir (ar 37) (fl 15) (fl 14) o cl)] M hI (c_BR_give l g ad (va_up ar 37 (giveN (fun j => ar 14 (P j)) n o (bdir (ar 37) (fl 15) (fl 14) o cl) (ar 37))) fl cl (bdir (ar 37) (fl 15) (fl 14) o cl) n P (by first | exact hn | assumption | omega | rfl) (by first | exact hN | assumption | omega | rfl) (by first | exact hP | assumption | omega | rfl) (by first | exact hPb | assumption | omega | rfl) (hc2)) ok_BR_give m4_9 m4_11 ms_33 10 rfl rfl rfl rfl hl.1 ⟨rfl, rfl⟩ ⟨Nat.le_of_ble_eq_true rfl, Nat.le_of_ble_eq_true rfl⟩ (Nat.le_of_ble_eq_true rfl) ⟨Nat.le_of_ble_eq_true rfl, Nat.le_of_ble_eq_true rfl⟩ d_BR_settlePair_45 (fun u45 H locs hp45 hI => ?_)
      have hI : CI g A s (cw g ad (va_up ar 37 (giveN (fun j => ar 14 (P j)) n cl (bdir (ar 37) (fl 15) (fl 14) o cl) (giveN (fun j => ar 14 (P j)) n o (bdir (ar 37) (fl 15) (fl 14) o cl) (ar 37)))) fl) H locs := hI
      have hI := CI.to (w2 := cw g ad (va_up ar 37 (settle (fun j => ar 14 (P j)) n (fl 15) (fl 14) o cl (ar 37))) fl) hI (by rw [eS] <;> rfl)
      exact hret () _ _ _ _ _ _ d_BR_settlePair_48 hI (trivial) (Nat.le_refl 0) (Nat.le_refl 0)
abbrev rm_BR_closeOne : Room := { frames := 0, cells := 0, slots := 0, locals := 0 }
set_option maxHeartbeats 4000000 in
set_option maxRecDepth 100000 in
theorem c_BR_closeOne (l : Launch) (g : Geo) (ad : Nat → Nat) (ar : Nat → Nat → Int32) (fl : Nat → Int32) (i : Nat) (v : Int32) (n : Nat) (st : List (Nat × Int32)) (hst : fl 17 = nI st.length) (hbr : brel (ar 38) (ar 39) st) (hbl : blt n st) (hN : n ≤ 2000) (h63 : st.length ≤ 63) : cMv l y_BR_closeOne (.code y_BR_closeOne b_BR_closeOne 4 none :: gw) rm_BR_closeOne g [.ref (ad 10), .int (nI i), .int v] (cw g ad ar fl) (fun (_ : Unit) => True) (fun (_ : Unit) => cw g ad (va_up ar 40 (cbP v st i (ar 40))) (va_up fl 17 (nI (cbS v st).length))) 0 0 := by
  refine cMv_of (by decide) (Nat.le_of_ble_eq_true rfl) ?_
  intro p e s m below meth c A Q ls M hnm hret hl hI
  have M : MC p s m ([.ref (ad 10), .int (nI i), .int v] : List Value).toArray meth c R_BR b_BR_closeOne 4 := M
  have hl : lv_has ls 4 [(0, .ref (ad 10)), (1, .int (nI i)), (2, .int v)] := hl
  generalize ([.ref (ad 10), .int (nI i), .int v] : List Value).toArray = args at M hret ⊢
  have hx := M.1
  have hb := M.2.1
  have hI := CI.to (w2 := cw g ad ar (va_up fl 17 (nI st.length))) hI (by rw [← hst]; rfl)
  refine lv_aload_n hx hb d_BR_closeOne_0 rfl (lv_at hl 0 rfl) ?_
  refine g_BR_18 M hI d_BR_closeOne_1 ?_
  refine q_as (y := nI st.length) rfl ?_
  refine lv_iconst (v := 1) hx hb d_BR_closeOne_4 (by decide) ?_
  refine lv_isub hx hb d_BR_closeOne_5 ?_
  refine lv_istore_n (lv' := [(3, .int ((nI st.length) - 1)), (0, .ref (ad 10)), (1, .int (nI i)), (2, .int v)]) hx hb d_BR_closeOne_6 rfl hl (by decide) rfl (fun ls hl => ?_)
  have L7 : ∀ (fu : Nat) (s2 : List (Nat × Int32)), s2.length < fu → (brel (ar 38) (ar 39) s2) → (popB v st = popB v s2) → (s2.length ≤ 63) → (∀ a ∈ s2, a ∈ st) → ∀ (H : Heap) (locs : List Loc) (ls : Array Slot), CI g A s (cw g ad ar (va_up fl 17 (nI st.length))) H locs → lv_has ls 4 [(0, .ref (ad 10)), (1, .int (nI i)), (2, .int v), (3, .int (nI s2.length - 1))] → W p l e rm_BR_closeOne s m args below meth c H locs 0 0 Q (F0 m 7 ls []) := by
    intro fu
    induction fu with
    | zero => intro s2 hm; exact absurd hm (Nat.not_lt_zero _)
    | succ fu ih7 =>
      intro s2 hm hb2 hp hl2 hin H locs ls hI hl
      refine lv_iload_n hx hb d_BR_closeOne_7 rfl (lv_at hl 3 rfl) ?_
      refine lv_if_lt (tgt := 45) hx hb d_BR_closeOne_8 (by decide) (fun c8 => ?_) (fun c8 => ?_)
      · have hz0 : s2 = [] := List.eq_nil_of_length_eq_zero ((nI_m1neg (by omega)).mp c8)
        have eP : popB v st = none := by rw [hp, hz0]; rfl
        have e1 : cbP v st i (ar 40) = ar 40 := by unfold cbP; rw [eP]
        have e2 : cbS v st = st := by unfold cbS; rw [eP]
        have hI := CI.to (w2 := cw g ad (va_up ar 40 (cbP v st i (ar 40))) (va_up fl 17 (nI (cbS v st).length))) hI (by rw [e1, e2] <;> rfl)
        exact hret () _ _ _ _ _ _ d_BR_closeOne_45 hI (trivial) (Nat.le_refl 0) (Nat.le_refl 0)
      · obtain ⟨a, s3, hs3⟩ : ∃ a s3, s2 = a :: s3 := by cases s2 with | nil => exact absurd nI_0m1 c8 | cons a s3 => exact ⟨a, s3, rfl⟩
        have hlen : s2.length = s3.length + 1 := by rw [hs3]; rfl
        rw [hlen, nI_pred] at hl
        have hb3 : brel (ar 38) (ar 39) s3 := (hs3 ▸ hb2).2.2
        have ha1 : ar 38 s3.length = nI a.1 := (hs3 ▸ hb2).1
        have ha2 : ar 39 s3.length = a.2 := (hs3 ▸ hb2).2.1
        have hin2 : ∀ a ∈ s3, a ∈ st := fun b hb => hin b (by rw [hs3]; exact List.mem_cons_of_mem _ hb)
        have hal : a.1 < n := hbl a (hin a (by rw [hs3]; exact List.mem_cons_self))
        refine lv_aload_n hx hb d_BR_closeOne_11 rfl (lv_at hl 0 rfl) ?_
        refine g_BR_15 M hI d_BR_closeOne_12 ?_
        refine lv_iload_n hx hb d_BR_closeOne_15 rfl (lv_at hl 3 rfl) ?_
        refine al_39 M hI s3.length rfl (by omega) d_BR_closeOne_16 ?_
        refine q_as (y := a.2) (ha2) ?_
        refine lv_iload_n hx hb d_BR_closeOne_17 rfl (lv_at hl 2 rfl) ?_
        refine lv_icmp_ne (tgt := 39) hx hb d_BR_closeOne_18 (by decide) (fun c18 => ?_) (fun c18 => ?_)
        · have hp2 : popB v st = popB v s3 := by rw [hp, hs3]; simp only [popB]; rw [if_neg c18]
          refine lv_iinc (v := nI s3.length - 1) (lv' := [(3, .int (nI s3.length - 1)), (0, .ref (ad 10)), (1, .int (nI i)), (2, .int v)]) hx hb d_BR_closeOne_39 hl (k := 3) rfl (nI_dec _) (by decide) rfl (fun ls hl => ?_)
          refine lv_goto (tgt := 7) hx hb d_BR_closeOne_42 (by decide) ?_
          exact ih7 s3 (by omega) (hb3) (hp2) (by omega) (hin2) _ _ _ hI (lv_sub hl [1, 2, 3, 0] rfl)
        · have eP : popB v st = some (a.1, s3) := by rw [hp, hs3]; simp only [popB]; rw [if_pos c18]
          have e1 : cbP v st i (ar 40) = upd (ar 40) a.1 (nI i) := by unfold cbP; rw [eP]
          have e2 : cbS v st = s3 := by unfold cbS; rw [eP]
          refine lv_aload_n hx hb d_BR_closeOne_21 rfl (lv_at hl 0 rfl) ?_
          refine g_BR_22 M hI d_BR_closeOne_22 ?_
          refine lv_aload_n hx hb d_BR_closeOne_25 rfl (lv_at hl 0 rfl) ?_
          refine g_BR_9 M hI d_BR_closeOne_26 ?_
          refine lv_iload_n hx hb d_BR_closeOne_29 rfl (lv_at hl 3 rfl) ?_
          refine al_38 M hI s3.length rfl (by omega) d_BR_closeOne_30 ?_
          refine q_as (y := nI a.1) (ha1) ?_
          refine lv_iload_n hx hb d_BR_closeOne_31 rfl (lv_at hl 1 rfl) ?_
          refine as_40 M hI a.1 rfl (by omega) d_BR_closeOne_32 (fun H locs hI => ?_)
          have hI : CI g A s (cw g ad (va_up ar 40 (upd (ar 40) a.1 (nI i))) (va_up fl 17 (nI st.length))) H locs := hI
          refine lv_aload_n hx hb d_BR_closeOne_33 rfl (lv_at hl 0 rfl) ?_
          refine lv_iload_n hx hb d_BR_closeOne_34 rfl (lv_at hl 3 rfl) ?_
          refine p_BR_18 M hI d_BR_closeOne_35 (fun H locs hI => ?_)
          have hI : CI g A s (cw g ad (va_up ar 40 (upd (ar 40) a.1 (nI i))) (va_up fl 17 (nI s3.length))) H locs := hI
          have hI := CI.to (w2 := cw g ad (va_up ar 40 (cbP v st i (ar 40))) (va_up fl 17 (nI (cbS v st).length))) hI (by rw [e1, e2] <;> rfl)
          exact hret () _ _ _ _ _ _ d_BR_closeOne_38 hI (trivial) (Nat.le_refl 0) (Nat.le_refl 0)
  exact L7 _ st (Nat.lt_succ_self _) (hbr) (rfl) (h63) (fun a h => h) _ _ _ hI (lv_sub hl [1, 2, 3, 0] rfl)
abbrev rm_BR_findPairs : Room := { frames := 1, cells := 0, slots := 0, locals := 23 }
set_option maxHeartbeats 4000000 in
set_option maxRecDepth 100000 in
theorem c_BR_findPairs (l : Launch) (g : Geo) (ad : Nat → Nat) (ar : Nat → Nat → Int32) (fl : Nat → Int32) (n : Nat) (P : Nat → Nat) (bn : Nat) (hn : fl 13 = nI n) (hN : n ≤ 2000) (hP : ∀ j, j < n → ar 36 j = nI (P j)) (hPb : ∀ j, j < n → P j < 2000) (hbn : fl 4 = nI bn) (hbN : bn ≤ 40) (hbd : dst bn (ar 20)) : cMv l y_BR_findPairs (.code y_BR_findPairs b_BR_findPairs 4 none :: gw) rm_BR_findPairs g [.ref (ad 10)] (cw g ad ar fl) (fun (u : (Nat → Int32) × (Nat → Int32) × Nat) => True) (fun (u : (Nat → Int32) × (Nat → Int32) × Nat) => cw g ad (va_up (va_up (va_up ar 38 u.1) 39 u.2.1) 40 (bfind (ar 37) (fun j => ar 12 (P j)) (fun x => lk (ar 20) (ar 21) x bn) (n - 0) 0 [] (pre n (fun _ => -1) (ar 40)))) (va_up fl 17 (nI u.2.2))) 0 0 := by
  refine cMv_of (by decide) (Nat.le_of_ble_eq_true rfl) ?_
  intro p e s m below meth c A Q ls M hnm hret hl hI
  have M : MC p s m ([.ref (ad 10)] : List Value).toArray meth c R_BR b_BR_findPairs 4 := M
  have hl : lv_has ls 4 [(0, .ref (ad 10))] := hl
  generalize ([.ref (ad 10)] : List Value).toArray = args at M hret ⊢
  have hx := M.1
  have hb := M.2.1
  refine lv_iconst (v := 0) hx hb d_BR_findPairs_0 (by decide) ?_
  refine lv_istore_n (lv' := [(1, .int 0), (0, .ref (ad 10))]) hx hb d_BR_findPairs_1 rfl hl (by decide) rfl (fun ls hl => ?_)
  have L2 : ∀ (fu : Nat) (i : Nat), (n - i) < fu → (i ≤ n) → ∀ (H : Heap) (locs : List Loc) (ls : Array Slot), CI g A s (cw g ad (va_up ar 40 (pre i (fun _ => -1) (ar 40))) fl) H locs → lv_has ls 4 [(0, .ref (ad 10)), (1, .int (nI i))] → W p l e rm_BR_findPairs s m args below meth c H locs 0 0 Q (F0 m 2 ls []) := by
    intro fu
    induction fu with
    | zero => intro i hm; exact absurd hm (Nat.not_lt_zero _)
    | succ fu ih2 =>
      intro i hm hi H locs ls hI hl
      refine lv_iload_n hx hb d_BR_findPairs_2 rfl (lv_at hl 1 rfl) ?_
      refine lv_aload_n hx hb d_BR_findPairs_3 rfl (lv_at hl 0 rfl) ?_
      refine g_BR_29 M hI d_BR_findPairs_4 ?_
      refine g_BR_40 M hI d_BR_findPairs_7 ?_
      refine q_as (y := nI n) hn ?_
      refine lv_icmp_ge (tgt := 26) hx hb d_BR_findPairs_10 (by decide) (fun c10 => ?_) (fun c10 => ?_)
      · have c10 : n ≤ i := (nI_leI (a := n) (b := i) (by omega) (by omega)).mp c10
        have e9 : i = n := by omega
        have hI := CI.to (w2 := cw g ad (va_up ar 40 (pre n (fun _ => -1) (ar 40))) fl) hI (by rw [e9])
        refine lv_aload_n hx hb d_BR_findPairs_26 rfl (lv_at hl 0 rfl) ?_
        refine lv_iconst (v := 0) hx hb d_BR_findPairs_27 (by decide) ?_
        refine p_BR_18 M hI d_BR_findPairs_28 (fun H locs hI => ?_)
        have hI : CI g A s (cw g ad (va_up ar 40 (pre n (fun _ => -1) (ar 40))) (va_up fl 17 0)) H locs := hI
        refine lv_iconst (v := 0) hx hb d_BR_findPairs_31 (by decide) ?_
        refine lv_istore_n (lv' := [(1, .int 0), (0, .ref (ad 10))]) hx hb d_BR_findPairs_32 rfl hl (by decide) rfl (fun ls hl => ?_)
        have L33 : ∀ (fu : Nat) (i : Nat) (st : List (Nat × Int32)) (pr : Nat → Int32) (y8 : Nat → Int32) (y9 : Nat → Int32), (n - i) < fu → (i ≤ n) → (brel y8 y9 st) → (blt n st) → (st.length ≤ 63) → (bfind (ar 37) (fun j => ar 12 (P j)) (fun x => lk (ar 20) (ar 21) x bn) (n - 0) 0 [] (pre n (fun _ => -1) (ar 40)) = bfind (ar 37) (fun j => ar 12 (P j)) (fun x => lk (ar 20) (ar 21) x bn) (n - i) i st pr) → ∀ (H : Heap) (locs : List Loc) (ls : Array Slot), CI g A s (cw g ad (va_up (va_up (va_up ar 38 y8) 39 y9) 40 pr) (va_up fl 17 (nI st.length))) H locs → lv_has ls 4 [(0, .ref (ad 10)), (1, .int (nI i))] → W p l e rm_BR_findPairs s m args below meth c H locs 0 0 Q (F0 m 33 ls []) := by
          intro fu
          induction fu with
          | zero => intro i st pr y8 y9 hm; exact absurd hm (Nat.not_lt_zero _)
          | succ fu ih33 =>
            intro i st pr y8 y9 hm hi hbr hbl h63 hq H locs ls hI hl
            refine lv_iload_n hx hb d_BR_findPairs_33 rfl (lv_at hl 1 rfl) ?_
            refine lv_aload_n hx hb d_BR_findPairs_34 rfl (lv_at hl 0 rfl) ?_
            refine g_BR_29 M hI d_BR_findPairs_35 ?_
            refine g_BR_40 M hI d_BR_findPairs_38 ?_
            refine q_as (y := nI n) hn ?_
            refine lv_icmp_ge (tgt := 148) hx hb d_BR_findPairs_41 (by decide) (fun c41 => ?_) (fun c41 => ?_)
            · have c41 : n ≤ i := (nI_leI (a := n) (b := i) (by omega) (by omega)).mp c41
              have eQ : bfind (ar 37) (fun j => ar 12 (P j)) (fun x => lk (ar 20) (ar 21) x bn) (n - 0) 0 [] (pre n (fun _ => -1) (ar 40)) = pr := by rw [hq, show n - i = 0 by omega]; rfl
              have hI := CI.to (w2 := cw g ad (va_up (va_up (va_up ar 38 y8) 39 y9) 40 (bfind (ar 37) (fun j => ar 12 (P j)) (fun x => lk (ar 20) (ar 21) x bn) (n - 0) 0 [] (pre n (fun _ => -1) (ar 40)))) (va_up fl 17 (nI st.length))) hI (by rw [eQ] <;> rfl)
              exact hret (y8, y9, st.length) _ _ _ _ _ _ d_BR_findPairs_148 hI (trivial) (Nat.le_refl 0) (Nat.le_refl 0)
            · have c41 : ¬ n ≤ i := fun h => c41 ((nI_leI (a := n) (b := i) (by omega) (by omega)).mpr h)
              have hbs := bfind_s (now := ar 37) (ch := (fun j => ar 12 (P j))) (oth := (fun x => lk (ar 20) (ar 21) x bn)) (n := n) (i := i) (st := st) (pr := pr) (by omega)
              refine lv_aload_n hx hb d_BR_findPairs_44 rfl (lv_at hl 0 rfl) ?_
              refine g_BR_29 M hI d_BR_findPairs_45 ?_
              refine g_BR_49 M hI d_BR_findPairs_48 ?_
              refine lv_iload_n hx hb d_BR_findPairs_51 rfl (lv_at hl 1 rfl) ?_
              refine al_37 M hI i rfl (by omega) d_BR_findPairs_52 ?_
              refine q_as (y := ar 37 i) rfl ?_
              refine lv_bipush (v := 13) hx hb d_BR_findPairs_53 (by decide) ?_
              refine lv_icmp_ne (tgt := 142) hx hb d_BR_findPairs_55 (by decide) (fun c55 => ?_) (fun c55 => ?_)
              · have hq9 := hq.trans (hbs.trans (if_neg c55))
                have hb9 := hbr
                have hl9 := hbl
                have h69 := h63
                refine lv_iinc (v := nI (i + 1)) (lv' := [(1, .int (nI (i + 1))), (0, .ref (ad 10))]) hx hb d_BR_findPairs_142 hl (k := 1) rfl (nI_add _ 1) (by decide) rfl (fun ls hl => ?_)
                refine lv_goto (tgt := 33) hx hb d_BR_findPairs_145 (by decide) ?_
                exact ih33 (i + 1) st pr y8 y9 (by omega) (by first | assumption | omega) (hb9) (hl9) (h69) (hq9) _ _ _ hI (lv_sub hl [1, 0] rfl)
              · refine lv_aload_n hx hb d_BR_findPairs_58 rfl (lv_at hl 0 rfl) ?_
                refine g_BR_25 M hI d_BR_findPairs_59 ?_
                refine g_BR_52 M hI d_BR_findPairs_62 ?_
                refine lv_aload_n hx hb d_BR_findPairs_65 rfl (lv_at hl 0 rfl) ?_
                refine g_BR_29 M hI d_BR_findPairs_66 ?_
                refine g_BR_57 M hI d_BR_findPairs_69 ?_
                refine lv_iload_n hx hb d_BR_findPairs_72 rfl (lv_at hl 1 rfl) ?_
                refine al_36 M hI i rfl (by omega) d_BR_findPairs_73 ?_
                refine q_as (y := nI (P i)) (hP _ (by omega)) ?_
                refine al_12 M hI (P i) rfl (hPb _ (by omega)) d_BR_findPairs_74 ?_
                refine q_as (y := ar 12 (P i)) rfl ?_
                refine lv_istore_n (lv' := [(2, .int (ar 12 (P i))), (0, .ref (ad 10)), (1, .int (nI i))]) hx hb d_BR_findPairs_75 rfl hl (by decide) rfl (fun ls hl => ?_)
                refine lv_aload_n hx hb d_BR_findPairs_76 rfl (lv_at hl 1 rfl) ?_
                refine g_BR_33 M hI d_BR_findPairs_77 ?_
                refine lv_iload_n hx hb d_BR_findPairs_80 rfl (lv_at hl 0 rfl) ?_
                refine q_calliV [.int (ar 12 (P i))] M hI (c_PR_otherOf_2 l g ad (va_up (va_up (va_up ar 38 y8) 39 y9) 40 pr) (va_up fl 17 (nI st.length)) (ar 12 (P i)) bn (hbn) (hbN) (hbd)) ok_PR_otherOf m3_228 m3_11 m3_12 2 rfl rfl rfl rfl hl.1 ⟨rfl, rfl⟩ ⟨Nat.le_of_ble_eq_true rfl, Nat.le_of_ble_eq_true rfl⟩ (Nat.le_of_ble_eq_true rfl) ⟨Nat.le_of_ble_eq_true rfl, Nat.le_of_ble_eq_true rfl⟩ d_BR_findPairs_81 (fun r81 u81 H locs hp81 hI => ?_)
                refine q_as (y := lk (ar 20) (ar 21) (ar 12 (P i)) bn) hp81 ?_
                refine lv_istore_n (lv' := [(3, .int (lk (ar 20) (ar 21) (ar 12 (P i)) bn)), (2, .int (ar 12 (P i))), (0, .ref (ad 10)), (1, .int (nI i))]) hx hb d_BR_findPairs_84 rfl hl (by decide) rfl (fun ls hl => ?_)
                refine lv_iload_n hx hb d_BR_findPairs_85 rfl (lv_at hl 0 rfl) ?_
                refine lv_iconst (v := (-1)) hx hb d_BR_findPairs_86 (by decide) ?_
                refine lv_icmp_ne (tgt := 99) hx hb d_BR_findPairs_87 (by decide) (fun c87 => ?_) (fun c87 => ?_)
                · refine lv_aload_n hx hb d_BR_findPairs_99 rfl (lv_at hl 2 rfl) ?_
                  refine g_BR_18 M hI d_BR_findPairs_100 ?_
                  refine q_as (y := nI st.length) rfl ?_
                  refine lv_bipush (v := 63) hx hb d_BR_findPairs_103 (by decide) ?_
                  refine lv_icmp_ge (tgt := 141) hx hb d_BR_findPairs_105 (by decide) (fun c105 => ?_) (fun c105 => ?_)
                  · have c105 : 63 ≤ st.length := (nI_leI (a := 63) (b := st.length) (by omega) (by omega)).mp c105
                    have eQ : bfind (ar 37) (fun j => ar 12 (P j)) (fun x => lk (ar 20) (ar 21) x bn) (n - 0) 0 [] (pre n (fun _ => -1) (ar 40)) = pr := hq.trans (hbs.trans ((if_pos c55).trans ((if_neg c87).trans (if_neg (by omega)))))
                    have hI := CI.to (w2 := cw g ad (va_up (va_up (va_up ar 38 y8) 39 y9) 40 (bfind (ar 37) (fun j => ar 12 (P j)) (fun x => lk (ar 20) (ar 21) x bn) (n - 0) 0 [] (pre n (fun _ => -1) (ar 40)))) (va_up fl 17 (nI st.length))) hI (by rw [eQ] <;> rfl)
                    exact hret (y8, y9, st.length) _ _ _ _ _ _ d_BR_findPairs_141 hI (trivial) (Nat.le_refl 0) (Nat.le_refl 0)
                  · have c105 : ¬ 63 ≤ st.length := fun h => c105 ((nI_leI (a := 63) (b := st.length) (by omega) (by omega)).mpr h)
                    have hq9 := hq.trans (hbs.trans ((if_pos c55).trans ((if_neg c87).trans (if_pos (by omega)))))
                    have hb9 := brel_push (i := i) (x := lk (ar 20) (ar 21) (ar 12 (P i)) bn) hbr
                    have hl9 : blt n ((i, lk (ar 20) (ar 21) (ar 12 (P i)) bn) :: st) := fun a h => by rcases List.mem_cons.mp h with q | q; rw [q]; show i < n; omega; exact hbl a q
                    have h69 : ((i, lk (ar 20) (ar 21) (ar 12 (P i)) bn) :: st).length ≤ 63 := by simp only [List.length_cons]; omega
                    refine lv_aload_n hx hb d_BR_findPairs_108 rfl (lv_at hl 2 rfl) ?_
                    refine g_BR_9 M hI d_BR_findPairs_109 ?_
                    refine lv_aload_n hx hb d_BR_findPairs_112 rfl (lv_at hl 2 rfl) ?_
                    refine g_BR_18 M hI d_BR_findPairs_113 ?_
                    refine q_as (y := nI st.length) rfl ?_
                    refine lv_iload_n hx hb d_BR_findPairs_116 rfl (lv_at hl 3 rfl) ?_
                    refine as_38 M hI st.length rfl (by omega) d_BR_findPairs_117 (fun H locs hI => ?_)
                    have hI : CI g A s (cw g ad (va_up (va_up (va_up ar 39 y9) 40 pr) 38 (upd y8 st.length (nI i))) (va_up fl 17 (nI st.length))) H locs := hI
                    refine lv_aload_n hx hb d_BR_findPairs_118 rfl (lv_at hl 2 rfl) ?_
                    refine g_BR_15 M hI d_BR_findPairs_119 ?_
                    refine lv_aload_n hx hb d_BR_findPairs_122 rfl (lv_at hl 2 rfl) ?_
                    refine g_BR_18 M hI d_BR_findPairs_123 ?_
                    refine q_as (y := nI st.length) rfl ?_
                    refine lv_iload_n hx hb d_BR_findPairs_126 rfl (lv_at hl 0 rfl) ?_
                    refine as_39 M hI st.length rfl (by omega) d_BR_findPairs_127 (fun H locs hI => ?_)
                    have hI : CI g A s (cw g ad (va_up (va_up (va_up ar 40 pr) 38 (upd y8 st.length (nI i))) 39 (upd y9 st.length (lk (ar 20) (ar 21) (ar 12 (P i)) bn))) (va_up fl 17 (nI st.length))) H locs := hI
                    refine lv_aload_n hx hb d_BR_findPairs_128 rfl (lv_at hl 2 rfl) ?_
                    refine lv_dup hx hb d_BR_findPairs_129 rfl ?_
                    refine g_BR_18 M hI d_BR_findPairs_130 ?_
                    refine q_as (y := nI st.length) rfl ?_
                    refine lv_iconst (v := 1) hx hb d_BR_findPairs_133 (by decide) ?_
                    refine lv_iadd hx hb d_BR_findPairs_134 ?_
                    refine q_as (y := nI (st.length + 1)) (nI_add st.length 1) ?_
                    refine p_BR_18 M hI d_BR_findPairs_135 (fun H locs hI => ?_)
                    have hI : CI g A s (cw g ad (va_up (va_up (va_up ar 40 pr) 38 (upd y8 st.length (nI i))) 39 (upd y9 st.length (lk (ar 20) (ar 21) (ar 12 (P i)) bn))) (va_up fl 17 (nI (st.length + 1)))) H locs := hI
                    refine lv_goto (tgt := 142) hx hb d_BR_findPairs_138 (by decide) ?_
                    refine lv_iinc (v := nI (i + 1)) (lv' := [(1, .int (nI (i + 1))), (3, .int (lk (ar 20) (ar 21) (ar 12 (P i)) bn)), (2, .int (ar 12 (P i))), (0, .ref (ad 10))]) hx hb d_BR_findPairs_142 hl (k := 3) rfl (nI_add _ 1) (by decide) rfl (fun ls hl => ?_)
                    refine lv_goto (tgt := 33) hx hb d_BR_findPairs_145 (by decide) ?_
                    exact ih33 (i + 1) ((i, lk (ar 20) (ar 21) (ar 12 (P i)) bn) :: st) pr (upd y8 st.length (nI i)) (upd y9 st.length (lk (ar 20) (ar 21) (ar 12 (P i)) bn)) (by omega) (by first | assumption | omega) (hb9) (hl9) (h69) (hq9) _ _ _ hI (lv_sub hl [3, 0] rfl)
                · have hq9 := hq.trans (hbs.trans ((if_pos c55).trans (if_pos c87)))
                  have hb9 := cbS_rel (x := ar 12 (P i)) hbr
                  have hl9 := (cbS_lt (x := ar 12 (P i)) hbl).1
                  have h69 := Nat.le_trans (cbS_lt (x := ar 12 (P i)) hbl).2 h63
                  refine lv_aload_n hx hb d_BR_findPairs_90 rfl (lv_at hl 2 rfl) ?_
                  refine lv_iload_n hx hb d_BR_findPairs_91 rfl (lv_at hl 3 rfl) ?_
                  refine lv_iload_n hx hb d_BR_findPairs_92 rfl (lv_at hl 1 rfl) ?_
                  refine q_callvV [.int (nI i), .int (ar 12 (P i))] M hI (c_BR_closeOne l g ad (va_up (va_up (va_up ar 38 y8) 39 y9) 40 pr) (va_up fl 17 (nI st.length)) i (ar 12 (P i)) n st (rfl) (hbr) (hbl) (by first | exact hN | assumption | omega | rfl) (h63)) ok_BR_closeOne m3_229 m3_231 ms_29 10 rfl rfl rfl rfl hl.1 ⟨rfl, rfl⟩ ⟨Nat.le_of_ble_eq_true rfl, Nat.le_of_ble_eq_true rfl⟩ (Nat.le_of_ble_eq_true rfl) ⟨Nat.le_of_ble_eq_true rfl, Nat.le_of_ble_eq_true rfl⟩ d_BR_findPairs_93 (fun u93 H locs hp93 hI => ?_)
                  have hI : CI g A s (cw g ad (va_up (va_up (va_up ar 38 y8) 39 y9) 40 (cbP (ar 12 (P i)) st i pr)) (va_up fl 17 (nI (cbS (ar 12 (P i)) st).length))) H locs := hI
                  refine lv_goto (tgt := 142) hx hb d_BR_findPairs_96 (by decide) ?_
                  refine lv_iinc (v := nI (i + 1)) (lv' := [(1, .int (nI (i + 1))), (3, .int (lk (ar 20) (ar 21) (ar 12 (P i)) bn)), (2, .int (ar 12 (P i))), (0, .ref (ad 10))]) hx hb d_BR_findPairs_142 hl (k := 3) rfl (nI_add _ 1) (by decide) rfl (fun ls hl => ?_)
                  refine lv_goto (tgt := 33) hx hb d_BR_findPairs_145 (by decide) ?_
                  exact ih33 (i + 1) (cbS (ar 12 (P i)) st) (cbP (ar 12 (P i)) st i pr) y8 y9 (by omega) (by first | assumption | omega) (hb9) (hl9) (h69) (hq9) _ _ _ hI (lv_sub hl [3, 0] rfl)
        have hI := CI.to (w2 := cw g ad (va_up (va_up (va_up ar 38 (ar 38)) 39 (ar 39)) 40 (pre n (fun _ => -1) (ar 40))) (va_up fl 17 (nI ([] : List (Nat × Int32)).length))) hI (by rfl)
        exact L33 _ 0 ([] : List (Nat × Int32)) (pre n (fun _ => -1) (ar 40)) (ar 38) (ar 39) (Nat.lt_succ_self _) (by first | assumption | omega) (trivial) (fun a h => absurd h List.not_mem_nil) (Nat.zero_le _) (rfl) _ _ _ hI (lv_sub hl [1, 0] rfl)
      · have c10 : ¬ n ≤ i := fun h => c10 ((nI_leI (a := n) (b := i) (by omega) (by omega)).mpr h)
        refine lv_aload_n hx hb d_BR_findPairs_13 rfl (lv_at hl 0 rfl) ?_
        refine g_BR_22 M hI d_BR_findPairs_14 ?_
        refine lv_iload_n hx hb d_BR_findPairs_17 rfl (lv_at hl 1 rfl) ?_
        refine lv_iconst (v := (-1)) hx hb d_BR_findPairs_18 (by decide) ?_
        refine as_40 M hI i rfl (by omega) d_BR_findPairs_19 (fun H locs hI => ?_)
        have hI : CI g A s (cw g ad (va_up ar 40 (upd (pre i (fun _ => -1) (ar 40)) i (-1))) fl) H locs := hI
        rw [show upd (pre i (fun _ => -1) (ar 40)) i (-1) = pre (i + 1) (fun _ => -1) (ar 40) from pre_up rfl] at hI
        have hI : CI g A s (cw g ad (va_up ar 40 (pre (i + 1) (fun _ => -1) (ar 40))) fl) H locs := hI
        refine lv_iinc (v := nI (i + 1)) (lv' := [(1, .int (nI (i + 1))), (0, .ref (ad 10))]) hx hb d_BR_findPairs_20 hl (k := 1) rfl (nI_add _ 1) (by decide) rfl (fun ls hl => ?_)
        refine lv_goto (tgt := 2) hx hb d_BR_findPairs_23 (by decide) ?_
        exact ih2 (i + 1) (by omega) (by first | assumption | omega) _ _ _ hI (lv_sub hl [1, 0] rfl)
  have hI := CI.to (w2 := cw g ad (va_up ar 40 (pre 0 (fun _ => -1) (ar 40))) fl) hI (by rw [pre_0]; rfl)
  exact L2 _ 0 (Nat.lt_succ_self _) (by first | assumption | omega) _ _ _ hI (lv_sub hl [1, 0] rfl)
abbrev rm_BR_apply : Room := { frames := 3, cells := 0, slots := 0, locals := 70 }
set_option maxHeartbeats 4000000 in
set_option maxRecDepth 100000 in
theorem c_BR_apply (l : Launch) (g : Geo) (ad : Nat → Nat) (ar : Nat → Nat → Int32) (fl : Nat → Int32) (n : Nat) (P : Nat → Nat) (bn : Nat) (hn : fl 13 = nI n) (hN : n ≤ 2000) (hP : ∀ j, j < n → ar 36 j = nI (P j)) (hPb : ∀ j, j < n → P j < 2000) (hbn : fl 4 = nI bn) (hbN : bn ≤ 40) (hbd : dst bn (ar 20)) (hd : fl 14 ≠ -1) : cMv l y_BR_apply (.code y_BR_apply b_BR_apply 2 none :: gw) rm_BR_apply g [.ref (ad 10)] (cw g ad ar fl) (fun (u : (Nat → Int32) × (Nat → Int32) × Nat) => True) (fun (u : (Nat → Int32) × (Nat → Int32) × Nat) => cw g ad (va_up (va_up (va_up (va_up ar 38 u.1) 39 u.2.1) 40 (bfind (ar 37) (fun j => ar 12 (P j)) (fun x => lk (ar 20) (ar 21) x bn) (n - 0) 0 [] (pre n (fun _ => -1) (ar 40)))) 37 (n0 (fun j => ar 14 (P j)) n (fl 15) (fl 14) (bfind (ar 37) (fun j => ar 12 (P j)) (fun x => lk (ar 20) (ar 21) x bn) (n - 0) 0 [] (pre n (fun _ => -1) (ar 40))) (ar 37) n)) (va_up fl 17 (nI u.2.2))) 0 0 := by
  refine cMv_of (by decide) (Nat.le_of_ble_eq_true rfl) ?_
  intro p e s m below meth c A Q ls M hnm hret hl hI
  have M : MC p s m ([.ref (ad 10)] : List Value).toArray meth c R_BR b_BR_apply 2 := M
  have hl : lv_has ls 2 [(0, .ref (ad 10))] := hl
  generalize ([.ref (ad 10)] : List Value).toArray = args at M hret ⊢
  have hx := M.1
  have hb := M.2.1
  have hok : okP n (bfind (ar 37) (fun j => ar 12 (P j)) (fun x => lk (ar 20) (ar 21) x bn) (n - 0) 0 [] (pre n (fun _ => -1) (ar 40))) := bfind_ok (n - 0) 0 [] _ (by omega) (fun j hj => Or.inl (pre_lo hj))
  refine lv_aload_n hx hb d_BR_apply_0 rfl (lv_at hl 0 rfl) ?_
  refine q_callvV [] M hI (c_BR_findPairs l g ad ar fl n P bn (by first | exact hn | assumption | omega | rfl) (by first | exact hN | assumption | omega | rfl) (by first | exact hP | assumption | omega | rfl) (by first | exact hPb | assumption | omega | rfl) (by first | exact hbn | assumption | omega | rfl) (by first | exact hbN | assumption | omega | rfl) (by first | exact hbd | assumption | omega | rfl)) ok_BR_findPairs m3_224 m3_226 ms_28 10 rfl rfl rfl rfl hl.1 ⟨rfl, rfl⟩ ⟨Nat.le_of_ble_eq_true rfl, Nat.le_of_ble_eq_true rfl⟩ (Nat.le_of_ble_eq_true rfl) ⟨Nat.le_of_ble_eq_true rfl, Nat.le_of_ble_eq_true rfl⟩ d_BR_apply_1 (fun u1 H locs hp1 hI => ?_)
  obtain ⟨y8_1, y9_1, yo_1⟩ := u1
  have hI : CI g A s (cw g ad (va_up (va_up (va_up ar 38 y8_1) 39 y9_1) 40 (bfind (ar 37) (fun j => ar 12 (P j)) (fun x => lk (ar 20) (ar 21) x bn) (n - 0) 0 [] (pre n (fun _ => -1) (ar 40)))) (va_up fl 17 (nI yo_1))) H locs := hI
  refine lv_iconst (v := 0) hx hb d_BR_apply_4 (by decide) ?_
  refine lv_istore_n (lv' := [(1, .int 0), (0, .ref (ad 10))]) hx hb d_BR_apply_5 rfl hl (by decide) rfl (fun ls hl => ?_)
  have L6 : ∀ (fu : Nat) (i : Nat) (y8 : Nat → Int32) (y9 : Nat → Int32) (yo : Nat), (n - i) < fu → (i ≤ n) → ∀ (H : Heap) (locs : List Loc) (ls : Array Slot), CI g A s (cw g ad (va_up (va_up (va_up (va_up ar 38 y8) 39 y9) 40 (bfind (ar 37) (fun j => ar 12 (P j)) (fun x => lk (ar 20) (ar 21) x bn) (n - 0) 0 [] (pre n (fun _ => -1) (ar 40)))) 37 (n0 (fun j => ar 14 (P j)) n (fl 15) (fl 14) (bfind (ar 37) (fun j => ar 12 (P j)) (fun x => lk (ar 20) (ar 21) x bn) (n - 0) 0 [] (pre n (fun _ => -1) (ar 40))) (ar 37) i)) (va_up fl 17 (nI yo))) H locs → lv_has ls 2 [(0, .ref (ad 10)), (1, .int (nI i))] → W p l e rm_BR_apply s m args below meth c H locs 0 0 Q (F0 m 6 ls []) := by
    intro fu
    induction fu with
    | zero => intro i y8 y9 yo hm; exact absurd hm (Nat.not_lt_zero _)
    | succ fu ih6 =>
      intro i y8 y9 yo hm hi H locs ls hI hl
      refine lv_iload_n hx hb d_BR_apply_6 rfl (lv_at hl 1 rfl) ?_
      refine lv_aload_n hx hb d_BR_apply_7 rfl (lv_at hl 0 rfl) ?_
      refine g_BR_29 M hI d_BR_apply_8 ?_
      refine g_BR_40 M hI d_BR_apply_11 ?_
      refine q_as (y := nI n) hn ?_
      refine lv_icmp_ge (tgt := 44) hx hb d_BR_apply_14 (by decide) (fun c14 => ?_) (fun c14 => ?_)
      · have c14 : n ≤ i := (nI_leI (a := n) (b := i) (by omega) (by omega)).mp c14
        have hI := CI.to (w2 := cw g ad (va_up (va_up (va_up (va_up ar 38 y8) 39 y9) 40 (bfind (ar 37) (fun j => ar 12 (P j)) (fun x => lk (ar 20) (ar 21) x bn) (n - 0) 0 [] (pre n (fun _ => -1) (ar 40)))) 37 (n0 (fun j => ar 14 (P j)) n (fl 15) (fl 14) (bfind (ar 37) (fun j => ar 12 (P j)) (fun x => lk (ar 20) (ar 21) x bn) (n - 0) 0 [] (pre n (fun _ => -1) (ar 40))) (ar 37) n)) (va_up fl 17 (nI yo))) hI (by rw [show i = n by omega] <;> rfl)
        exact hret (y8, y9, yo) _ _ _ _ _ _ d_BR_apply_44 hI (trivial) (Nat.le_refl 0) (Nat.le_refl 0)
      · have c14 : ¬ n ≤ i := fun h => c14 ((nI_leI (a := n) (b := i) (by omega) (by omega)).mpr h)
        refine lv_aload_n hx hb d_BR_apply_17 rfl (lv_at hl 0 rfl) ?_
        refine g_BR_22 M hI d_BR_apply_18 ?_
        refine lv_iload_n hx hb d_BR_apply_21 rfl (lv_at hl 1 rfl) ?_
        refine al_40 M hI i rfl (by omega) d_BR_apply_22 ?_
        refine q_as (y := (bfind (ar 37) (fun j => ar 12 (P j)) (fun x => lk (ar 20) (ar 21) x bn) (n - 0) 0 [] (pre n (fun _ => -1) (ar 40))) i) rfl ?_
        refine lv_iconst (v := (-1)) hx hb d_BR_apply_23 (by decide) ?_
        refine lv_icmp_eq (tgt := 38) hx hb d_BR_apply_24 (by decide) (fun c24 => ?_) (fun c24 => ?_)
        · have hI := CI.to (w2 := cw g ad (va_up (va_up (va_up (va_up ar 38 y8) 39 y9) 40 (bfind (ar 37) (fun j => ar 12 (P j)) (fun x => lk (ar 20) (ar 21) x bn) (n - 0) 0 [] (pre n (fun _ => -1) (ar 40)))) 37 (n0 (fun j => ar 14 (P j)) n (fl 15) (fl 14) (bfind (ar 37) (fun j => ar 12 (P j)) (fun x => lk (ar 20) (ar 21) x bn) (n - 0) 0 [] (pre n (fun _ => -1) (ar 40))) (ar 37) (i + 1))) (va_up fl 17 (nI yo))) hI (by simp only [n0]; rw [if_pos c24])
          refine lv_iinc (v := nI (i + 1)) (lv' := [(1, .int (nI (i + 1))), (0, .ref (ad 10))]) hx hb d_BR_apply_38 hl (k := 1) rfl (nI_add _ 1) (by decide) rfl (fun ls hl => ?_)
          refine lv_goto (tgt := 6) hx hb d_BR_apply_41 (by decide) ?_
          exact ih6 (i + 1) y8 y9 yo (by omega) (by first | assumption | omega) _ _ _ hI (lv_sub hl [1, 0] rfl)
        · refine lv_aload_n hx hb d_BR_apply_27 rfl (lv_at hl 0 rfl) ?_
          refine lv_iload_n hx hb d_BR_apply_28 rfl (lv_at hl 1 rfl) ?_
          refine lv_aload_n hx hb d_BR_apply_29 rfl (lv_at hl 0 rfl) ?_
          refine g_BR_22 M hI d_BR_apply_30 ?_
          refine lv_iload_n hx hb d_BR_apply_33 rfl (lv_at hl 1 rfl) ?_
          refine al_40 M hI i rfl (by omega) d_BR_apply_34 ?_
          refine q_as (y := nI ((bfind (ar 37) (fun j => ar 12 (P j)) (fun x => lk (ar 20) (ar 21) x bn) (n - 0) 0 [] (pre n (fun _ => -1) (ar 40)) i).toNatClampNeg)) ((okP_tn hok (by omega) hN c24).1) ?_
          refine q_callvV [.int (nI i), .int (nI ((bfind (ar 37) (fun j => ar 12 (P j)) (fun x => lk (ar 20) (ar 21) x bn) (n - 0) 0 [] (pre n (fun _ => -1) (ar 40)) i).toNatClampNeg))] M hI (c_BR_settlePair l g ad (va_up (va_up (va_up (va_up ar 38 y8) 39 y9) 40 (bfind (ar 37) (fun j => ar 12 (P j)) (fun x => lk (ar 20) (ar 21) x bn) (n - 0) 0 [] (pre n (fun _ => -1) (ar 40)))) 37 (n0 (fun j => ar 14 (P j)) n (fl 15) (fl 14) (bfind (ar 37) (fun j => ar 12 (P j)) (fun x => lk (ar 20) (ar 21) x bn) (n - 0) 0 [] (pre n (fun _ => -1) (ar 40))) (ar 37) i)) (va_up fl 17 (nI yo)) i ((bfind (ar 37) (fun j => ar 12 (P j)) (fun x => lk (ar 20) (ar 21) x bn) (n - 0) 0 [] (pre n (fun _ => -1) (ar 40)) i).toNatClampNeg) n P (by first | exact hn | assumption | omega | rfl) (by first | exact hN | assumption | omega | rfl) (by first | exact hP | assumption | omega | rfl) (by first | exact hPb | assumption | omega | rfl) (by omega) ((okP_tn hok (by omega) hN c24).2) (hd)) ok_BR_settlePair m3_233 m3_235 ms_30 10 rfl rfl rfl rfl hl.1 ⟨rfl, rfl⟩ ⟨Nat.le_of_ble_eq_true rfl, Nat.le_of_ble_eq_true rfl⟩ (Nat.le_of_ble_eq_true rfl) ⟨Nat.le_of_ble_eq_true rfl, Nat.le_of_ble_eq_true rfl⟩ d_BR_apply_35 (fun u35 H locs hp35 hI => ?_)
          have hI : CI g A s (cw g ad (va_up (va_up (va_up (va_up ar 38 y8) 39 y9) 40 (bfind (ar 37) (fun j => ar 12 (P j)) (fun x => lk (ar 20) (ar 21) x bn) (n - 0) 0 [] (pre n (fun _ => -1) (ar 40)))) 37 (settle (fun j => ar 14 (P j)) n (fl 15) (fl 14) i ((bfind (ar 37) (fun j => ar 12 (P j)) (fun x => lk (ar 20) (ar 21) x bn) (n - 0) 0 [] (pre n (fun _ => -1) (ar 40)) i).toNatClampNeg) (n0 (fun j => ar 14 (P j)) n (fl 15) (fl 14) (bfind (ar 37) (fun j => ar 12 (P j)) (fun x => lk (ar 20) (ar 21) x bn) (n - 0) 0 [] (pre n (fun _ => -1) (ar 40))) (ar 37) i))) (va_up fl 17 (nI yo))) H locs := hI
          have hI := CI.to (w2 := cw g ad (va_up (va_up (va_up (va_up ar 38 y8) 39 y9) 40 (bfind (ar 37) (fun j => ar 12 (P j)) (fun x => lk (ar 20) (ar 21) x bn) (n - 0) 0 [] (pre n (fun _ => -1) (ar 40)))) 37 (n0 (fun j => ar 14 (P j)) n (fl 15) (fl 14) (bfind (ar 37) (fun j => ar 12 (P j)) (fun x => lk (ar 20) (ar 21) x bn) (n - 0) 0 [] (pre n (fun _ => -1) (ar 40))) (ar 37) (i + 1))) (va_up fl 17 (nI yo))) hI (by simp only [n0]; rw [if_neg c24] <;> rfl)
          refine lv_iinc (v := nI (i + 1)) (lv' := [(1, .int (nI (i + 1))), (0, .ref (ad 10))]) hx hb d_BR_apply_38 hl (k := 1) rfl (nI_add _ 1) (by decide) rfl (fun ls hl => ?_)
          refine lv_goto (tgt := 6) hx hb d_BR_apply_41 (by decide) ?_
          exact ih6 (i + 1) y8 y9 yo (by omega) (by first | assumption | omega) _ _ _ hI (lv_sub hl [1, 0] rfl)
  have hI := CI.to (w2 := cw g ad (va_up (va_up (va_up (va_up ar 38 y8_1) 39 y9_1) 40 (bfind (ar 37) (fun j => ar 12 (P j)) (fun x => lk (ar 20) (ar 21) x bn) (n - 0) 0 [] (pre n (fun _ => -1) (ar 40)))) 37 (n0 (fun j => ar 14 (P j)) n (fl 15) (fl 14) (bfind (ar 37) (fun j => ar 12 (P j)) (fun x => lk (ar 20) (ar 21) x bn) (n - 0) 0 [] (pre n (fun _ => -1) (ar 40))) (ar 37) 0)) (va_up fl 17 (nI yo_1))) hI (by rfl)
  exact L6 _ 0 y8_1 y9_1 yo_1 (Nat.lt_succ_self _) (by first | assumption | omega) _ _ _ hI (lv_sub hl [1, 0] rfl)
