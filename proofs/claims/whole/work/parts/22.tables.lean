/-! 22: Pairs, Text -/
abbrev rm_PR_tell_c_PR_tell_2 : Room := { frames := 0, cells := 0, slots := 0, locals := 0 }
set_option maxHeartbeats 4000000 in
set_option maxRecDepth 100000 in
theorem c_PR_tell_2 (l : Launch) (g : Geo) (ad : Nat → Nat) (ar : Nat → Nat → Int32) (fl : Nat → Int32) (x : Int32) (y : Int32) (n : Nat) (hn : fl 4 = nI n) (hN : n < 40) : cMv l y_PR_tell (.code y_PR_tell b_PR_tell 3 none :: gw) rm_PR_tell_c_PR_tell_2 g [.ref (ad 2), .int x, .int y] (cw g ad ar fl) (fun (_ : Unit) => True) (fun (_ : Unit) => cw g ad (va_up (va_up ar 20 (upd (ar 20) n x)) 21 (upd (ar 21) n y)) (va_up fl 4 (nI (n + 1)))) 0 0 := by
  refine cMv_of (by decide) (Nat.le_of_ble_eq_true rfl) ?_
  intro p e s m below meth c A Q ls M hnm hret hl hI
  have M : MC p s m ([.ref (ad 2), .int x, .int y] : List Value).toArray meth c R_PR b_PR_tell 3 := M
  have hl : lv_has ls 3 [(0, .ref (ad 2)), (1, .int x), (2, .int y)] := hl
  generalize ([.ref (ad 2), .int x, .int y] : List Value).toArray = args at M hret ⊢
  have hx := M.1
  have hb := M.2.1
  refine lv_aload_n hx hb d_PR_tell_0 rfl (lv_at hl 0 rfl) ?_
  refine g_PR_18_2 M hI d_PR_tell_1 ?_
  refine q_as (y := nI n) hn ?_
  refine lv_bipush (v := 40) hx hb d_PR_tell_4 (by decide) ?_
  refine lv_icmp_lt (tgt := 10) hx hb d_PR_tell_6 (by decide) (fun c6 => ?_) (fun c6 => ?_)
  · have c6 : n < 40 := (nI_ltI (a := n) (b := 40) (by omega) (by omega)).mp c6
    refine lv_aload_n hx hb d_PR_tell_10 rfl (lv_at hl 0 rfl) ?_
    refine g_PR_9_2 M hI d_PR_tell_11 ?_
    refine lv_aload_n hx hb d_PR_tell_14 rfl (lv_at hl 0 rfl) ?_
    refine g_PR_18_2 M hI d_PR_tell_15 ?_
    refine q_as (y := nI n) hn ?_
    refine lv_iload_n hx hb d_PR_tell_18 rfl (lv_at hl 1 rfl) ?_
    refine as_20 M hI n rfl (by omega) d_PR_tell_19 (fun H locs hI => ?_)
    have hI : CI g A s (cw g ad (va_up ar 20 (upd (ar 20) n x)) fl) H locs := hI
    refine lv_aload_n hx hb d_PR_tell_20 rfl (lv_at hl 0 rfl) ?_
    refine g_PR_15_2 M hI d_PR_tell_21 ?_
    refine lv_aload_n hx hb d_PR_tell_24 rfl (lv_at hl 0 rfl) ?_
    refine g_PR_18_2 M hI d_PR_tell_25 ?_
    refine q_as (y := nI n) hn ?_
    refine lv_iload_n hx hb d_PR_tell_28 rfl (lv_at hl 2 rfl) ?_
    refine as_21 M hI n rfl (by omega) d_PR_tell_29 (fun H locs hI => ?_)
    have hI : CI g A s (cw g ad (va_up (va_up ar 20 (upd (ar 20) n x)) 21 (upd (ar 21) n y)) fl) H locs := hI
    refine lv_aload_n hx hb d_PR_tell_30 rfl (lv_at hl 0 rfl) ?_
    refine lv_dup hx hb d_PR_tell_31 rfl ?_
    refine g_PR_18_2 M hI d_PR_tell_32 ?_
    refine q_as (y := nI n) hn ?_
    refine lv_iconst (v := 1) hx hb d_PR_tell_35 (by decide) ?_
    refine lv_iadd hx hb d_PR_tell_36 ?_
    refine q_as (y := nI (n + 1)) (nI_add n 1) ?_
    refine p_PR_18_2 M hI d_PR_tell_37 (fun H locs hI => ?_)
    have hI : CI g A s (cw g ad (va_up (va_up ar 20 (upd (ar 20) n x)) 21 (upd (ar 21) n y)) (va_up fl 4 (nI (n + 1)))) H locs := hI
    exact hret () _ _ _ _ _ _ d_PR_tell_40 hI (trivial) (Nat.le_refl 0) (Nat.le_refl 0)
  · have c6 : ¬ n < 40 := fun h => c6 ((nI_ltI (a := n) (b := 40) (by omega) (by omega)).mpr h)
    exfalso; omega
abbrev rm_PR_otherOf_c_PR_otherOf_2 : Room := { frames := 0, cells := 0, slots := 0, locals := 0 }
set_option maxHeartbeats 4000000 in
set_option maxRecDepth 100000 in
theorem c_PR_otherOf_2 (l : Launch) (g : Geo) (ad : Nat → Nat) (ar : Nat → Nat → Int32) (fl : Nat → Int32) (x : Int32) (n : Nat) (hn : fl 4 = nI n) (hN : n ≤ 40) (hd_otherOf : dst n (ar 20)) : cMi l y_PR_otherOf (.code y_PR_otherOf b_PR_otherOf 3 (some .int) :: gw) rm_PR_otherOf_c_PR_otherOf_2 g [.ref (ad 2), .int x] (cw g ad ar fl) (fun (r : Int32) (_ : Unit) => r = lk (ar 20) (ar 21) x n) (fun (_ : Unit) => cw g ad ar fl) 0 0 := by
  refine cMi_of (by decide) (Nat.le_of_ble_eq_true rfl) ?_
  intro p e s m below meth c A Q ls M hret hl hI
  have M : MC p s m ([.ref (ad 2), .int x] : List Value).toArray meth c R_PR b_PR_otherOf 3 := M
  have hl : lv_has ls 3 [(0, .ref (ad 2)), (1, .int x)] := hl
  generalize ([.ref (ad 2), .int x] : List Value).toArray = args at M hret ⊢
  have hx := M.1
  have hb := M.2.1
  refine lv_iconst (v := 0) hx hb d_PR_otherOf_0 (by decide) ?_
  refine lv_istore_n (lv' := [(2, .int 0), (0, .ref (ad 2)), (1, .int x)]) hx hb d_PR_otherOf_1 rfl hl (by decide) rfl (fun ls hl => ?_)
  have L2 : ∀ (fu : Nat) (i : Nat), (n - i) < fu → (i ≤ n) → (∀ j, j < i → ar 20 j ≠ x) → ∀ (H : Heap) (locs : List Loc) (ls : Array Slot), CI g A s (cw g ad ar fl) H locs → lv_has ls 3 [(0, .ref (ad 2)), (1, .int x), (2, .int (nI i))] → W p l e rm_PR_otherOf_c_PR_otherOf_2 s m args below meth c H locs 0 0 Q (F0 m 2 ls []) := by
    intro fu
    induction fu with
    | zero => intro i hm; exact absurd hm (Nat.not_lt_zero _)
    | succ fu ih2 =>
      intro i hm hi hno H locs ls hI hl
      refine lv_iload_n hx hb d_PR_otherOf_2 rfl (lv_at hl 2 rfl) ?_
      refine lv_aload_n hx hb d_PR_otherOf_3 rfl (lv_at hl 0 rfl) ?_
      refine g_PR_18_2 M hI d_PR_otherOf_4 ?_
      refine q_as (y := nI n) hn ?_
      refine lv_icmp_ge (tgt := 33) hx hb d_PR_otherOf_7 (by decide) (fun c7 => ?_) (fun c7 => ?_)
      · have c7 : n ≤ i := (nI_leI (a := n) (b := i) (by omega) (by omega)).mp c7
        refine lv_iconst (v := (-1)) hx hb d_PR_otherOf_33 (by decide) ?_
        exact hret (-1) () _ _ _ _ _ _ d_PR_otherOf_34 hI ((lk_none n (fun j h => hno j (by omega))).symm) (Nat.le_refl 0) (Nat.le_refl 0)
      · have c7 : ¬ n ≤ i := fun h => c7 ((nI_leI (a := n) (b := i) (by omega) (by omega)).mpr h)
        refine lv_aload_n hx hb d_PR_otherOf_10 rfl (lv_at hl 0 rfl) ?_
        refine g_PR_9_2 M hI d_PR_otherOf_11 ?_
        refine lv_iload_n hx hb d_PR_otherOf_14 rfl (lv_at hl 2 rfl) ?_
        refine al_20 M hI i rfl (by omega) d_PR_otherOf_15 ?_
        refine lv_iload_n hx hb d_PR_otherOf_16 rfl (lv_at hl 1 rfl) ?_
        refine lv_icmp_ne (tgt := 27) hx hb d_PR_otherOf_17 (by decide) (fun c17 => ?_) (fun c17 => ?_)
        · refine lv_iinc (v := nI (i + 1)) (lv' := [(2, .int (nI (i + 1))), (0, .ref (ad 2)), (1, .int x)]) hx hb d_PR_otherOf_27 hl (k := 2) rfl (nI_add _ 1) (by decide) rfl (fun ls hl => ?_)
          refine lv_goto (tgt := 2) hx hb d_PR_otherOf_30 (by decide) ?_
          exact ih2 (i + 1) (by omega) (by first | assumption | omega) (fun j h => by rcases Nat.lt_or_ge j i with q | q; exact hno j q; rw [show j = i by omega]; exact c17) _ _ _ hI (lv_sub hl [1, 2, 0] rfl)
        · refine lv_aload_n hx hb d_PR_otherOf_20 rfl (lv_at hl 0 rfl) ?_
          refine g_PR_15_2 M hI d_PR_otherOf_21 ?_
          refine lv_iload_n hx hb d_PR_otherOf_24 rfl (lv_at hl 2 rfl) ?_
          refine al_21 M hI i rfl (by omega) d_PR_otherOf_25 ?_
          exact hret (ar 21 i) () _ _ _ _ _ _ d_PR_otherOf_26 hI ((lk_at (i := i) c17 n (by omega) (fun j h q => hd_otherOf j i h (by omega) (q.trans c17.symm))).symm) (Nat.le_refl 0) (Nat.le_refl 0)
  exact L2 _ 0 (Nat.lt_succ_self _) (by first | assumption | omega) (fun j h => absurd h (Nat.not_lt_zero j)) _ _ _ hI (lv_sub hl [1, 2, 0] rfl)
abbrev rm_PR_oneOf_c_PR_oneOf_2 : Room := { frames := 0, cells := 0, slots := 0, locals := 0 }
set_option maxHeartbeats 4000000 in
set_option maxRecDepth 100000 in
theorem c_PR_oneOf_2 (l : Launch) (g : Geo) (ad : Nat → Nat) (ar : Nat → Nat → Int32) (fl : Nat → Int32) (x : Int32) (n : Nat) (hn : fl 4 = nI n) (hN : n ≤ 40) (hd_oneOf : dst n (ar 21)) : cMi l y_PR_oneOf (.code y_PR_oneOf b_PR_oneOf 3 (some .int) :: gw) rm_PR_oneOf_c_PR_oneOf_2 g [.ref (ad 2), .int x] (cw g ad ar fl) (fun (r : Int32) (_ : Unit) => r = lk (ar 21) (ar 20) x n) (fun (_ : Unit) => cw g ad ar fl) 0 0 := by
  refine cMi_of (by decide) (Nat.le_of_ble_eq_true rfl) ?_
  intro p e s m below meth c A Q ls M hret hl hI
  have M : MC p s m ([.ref (ad 2), .int x] : List Value).toArray meth c R_PR b_PR_oneOf 3 := M
  have hl : lv_has ls 3 [(0, .ref (ad 2)), (1, .int x)] := hl
  generalize ([.ref (ad 2), .int x] : List Value).toArray = args at M hret ⊢
  have hx := M.1
  have hb := M.2.1
  refine lv_iconst (v := 0) hx hb d_PR_oneOf_0 (by decide) ?_
  refine lv_istore_n (lv' := [(2, .int 0), (0, .ref (ad 2)), (1, .int x)]) hx hb d_PR_oneOf_1 rfl hl (by decide) rfl (fun ls hl => ?_)
  have L2 : ∀ (fu : Nat) (i : Nat), (n - i) < fu → (i ≤ n) → (∀ j, j < i → ar 21 j ≠ x) → ∀ (H : Heap) (locs : List Loc) (ls : Array Slot), CI g A s (cw g ad ar fl) H locs → lv_has ls 3 [(0, .ref (ad 2)), (1, .int x), (2, .int (nI i))] → W p l e rm_PR_oneOf_c_PR_oneOf_2 s m args below meth c H locs 0 0 Q (F0 m 2 ls []) := by
    intro fu
    induction fu with
    | zero => intro i hm; exact absurd hm (Nat.not_lt_zero _)
    | succ fu ih2 =>
      intro i hm hi hno H locs ls hI hl
      refine lv_iload_n hx hb d_PR_oneOf_2 rfl (lv_at hl 2 rfl) ?_
      refine lv_aload_n hx hb d_PR_oneOf_3 rfl (lv_at hl 0 rfl) ?_
      refine g_PR_18_2 M hI d_PR_oneOf_4 ?_
      refine q_as (y := nI n) hn ?_
      refine lv_icmp_ge (tgt := 33) hx hb d_PR_oneOf_7 (by decide) (fun c7 => ?_) (fun c7 => ?_)
      · have c7 : n ≤ i := (nI_leI (a := n) (b := i) (by omega) (by omega)).mp c7
        refine lv_iconst (v := (-1)) hx hb d_PR_oneOf_33 (by decide) ?_
        exact hret (-1) () _ _ _ _ _ _ d_PR_oneOf_34 hI ((lk_none n (fun j h => hno j (by omega))).symm) (Nat.le_refl 0) (Nat.le_refl 0)
      · have c7 : ¬ n ≤ i := fun h => c7 ((nI_leI (a := n) (b := i) (by omega) (by omega)).mpr h)
        refine lv_aload_n hx hb d_PR_oneOf_10 rfl (lv_at hl 0 rfl) ?_
        refine g_PR_15_2 M hI d_PR_oneOf_11 ?_
        refine lv_iload_n hx hb d_PR_oneOf_14 rfl (lv_at hl 2 rfl) ?_
        refine al_21 M hI i rfl (by omega) d_PR_oneOf_15 ?_
        refine lv_iload_n hx hb d_PR_oneOf_16 rfl (lv_at hl 1 rfl) ?_
        refine lv_icmp_ne (tgt := 27) hx hb d_PR_oneOf_17 (by decide) (fun c17 => ?_) (fun c17 => ?_)
        · refine lv_iinc (v := nI (i + 1)) (lv' := [(2, .int (nI (i + 1))), (0, .ref (ad 2)), (1, .int x)]) hx hb d_PR_oneOf_27 hl (k := 2) rfl (nI_add _ 1) (by decide) rfl (fun ls hl => ?_)
          refine lv_goto (tgt := 2) hx hb d_PR_oneOf_30 (by decide) ?_
          exact ih2 (i + 1) (by omega) (by first | assumption | omega) (fun j h => by rcases Nat.lt_or_ge j i with q | q; exact hno j q; rw [show j = i by omega]; exact c17) _ _ _ hI (lv_sub hl [1, 2, 0] rfl)
        · refine lv_aload_n hx hb d_PR_oneOf_20 rfl (lv_at hl 0 rfl) ?_
          refine g_PR_9_2 M hI d_PR_oneOf_21 ?_
          refine lv_iload_n hx hb d_PR_oneOf_24 rfl (lv_at hl 2 rfl) ?_
          refine al_20 M hI i rfl (by omega) d_PR_oneOf_25 ?_
          exact hret (ar 20 i) () _ _ _ _ _ _ d_PR_oneOf_26 hI ((lk_at (i := i) c17 n (by omega) (fun j h q => hd_oneOf j i h (by omega) (q.trans c17.symm))).symm) (Nat.le_refl 0) (Nat.le_refl 0)
  exact L2 _ 0 (Nat.lt_succ_self _) (by first | assumption | omega) (fun j h => absurd h (Nat.not_lt_zero j)) _ _ _ hI (lv_sub hl [1, 2, 0] rfl)
abbrev rm_PR_partnerOf_c_PR_partnerOf_2 : Room := { frames := 1, cells := 0, slots := 0, locals := 22 }
set_option maxHeartbeats 4000000 in
set_option maxRecDepth 100000 in
theorem c_PR_partnerOf_2 (l : Launch) (g : Geo) (ad : Nat → Nat) (ar : Nat → Nat → Int32) (fl : Nat → Int32) (x : Int32) (n : Nat) (hn : fl 4 = nI n) (hN : n ≤ 40) (hd_otherOf : dst n (ar 20)) (hd_oneOf : dst n (ar 21)) : cMi l y_PR_partnerOf (.code y_PR_partnerOf b_PR_partnerOf 3 (some .int) :: gw) rm_PR_partnerOf_c_PR_partnerOf_2 g [.ref (ad 2), .int x] (cw g ad ar fl) (fun (r : Int32) (_ : Unit) => r = ptn n (ar 20) (ar 21) x) (fun (_ : Unit) => cw g ad ar fl) 0 0 := by
  refine cMi_of (by decide) (Nat.le_of_ble_eq_true rfl) ?_
  intro p e s m below meth c A Q ls M hret hl hI
  have M : MC p s m ([.ref (ad 2), .int x] : List Value).toArray meth c R_PR b_PR_partnerOf 3 := M
  have hl : lv_has ls 3 [(0, .ref (ad 2)), (1, .int x)] := hl
  generalize ([.ref (ad 2), .int x] : List Value).toArray = args at M hret ⊢
  have hx := M.1
  have hb := M.2.1
  refine lv_aload_n hx hb d_PR_partnerOf_0 rfl (lv_at hl 0 rfl) ?_
  refine lv_iload_n hx hb d_PR_partnerOf_1 rfl (lv_at hl 1 rfl) ?_
  refine q_calliV [.int x] M hI (c_PR_otherOf_2 l g ad ar fl x n (by first | exact hn | assumption | omega | rfl) (by first | exact hN | assumption | omega | rfl) (by first | exact hd_otherOf | assumption | omega | rfl)) ok_PR_otherOf m3_10 m3_11 m3_12 2 rfl rfl rfl rfl hl.1 ⟨rfl, rfl⟩ ⟨Nat.le_of_ble_eq_true rfl, Nat.le_of_ble_eq_true rfl⟩ (Nat.le_of_ble_eq_true rfl) ⟨Nat.le_of_ble_eq_true rfl, Nat.le_of_ble_eq_true rfl⟩ d_PR_partnerOf_2 (fun r2 u2 H locs hp2 hI => ?_)
  refine q_as (y := lk (ar 20) (ar 21) x n) hp2 ?_
  refine lv_istore_n (lv' := [(2, .int (lk (ar 20) (ar 21) x n)), (0, .ref (ad 2)), (1, .int x)]) hx hb d_PR_partnerOf_5 rfl hl (by decide) rfl (fun ls hl => ?_)
  refine lv_iload_n hx hb d_PR_partnerOf_6 rfl (lv_at hl 0 rfl) ?_
  refine lv_iconst (v := (-1)) hx hb d_PR_partnerOf_7 (by decide) ?_
  refine lv_icmp_eq (tgt := 15) hx hb d_PR_partnerOf_8 (by decide) (fun c8 => ?_) (fun c8 => ?_)
  · refine lv_aload_n hx hb d_PR_partnerOf_15 rfl (lv_at hl 1 rfl) ?_
    refine lv_iload_n hx hb d_PR_partnerOf_16 rfl (lv_at hl 2 rfl) ?_
    refine q_calliV [.int x] M hI (c_PR_oneOf_2 l g ad ar fl x n (by first | exact hn | assumption | omega | rfl) (by first | exact hN | assumption | omega | rfl) (by first | exact hd_oneOf | assumption | omega | rfl)) ok_PR_oneOf m3_14 m3_15 m3_16 2 rfl rfl rfl rfl hl.1 ⟨rfl, rfl⟩ ⟨Nat.le_of_ble_eq_true rfl, Nat.le_of_ble_eq_true rfl⟩ (Nat.le_of_ble_eq_true rfl) ⟨Nat.le_of_ble_eq_true rfl, Nat.le_of_ble_eq_true rfl⟩ d_PR_partnerOf_17 (fun r17 u17 H locs hp17 hI => ?_)
    refine q_as (y := lk (ar 21) (ar 20) x n) hp17 ?_
    exact hret (lk (ar 21) (ar 20) x n) () _ _ _ _ _ _ d_PR_partnerOf_20 hI (by unfold ptn; first | rw [if_pos c8] | rw [if_neg c8]) (Nat.le_refl 0) (Nat.le_refl 0)
  · refine lv_iload_n hx hb d_PR_partnerOf_11 rfl (lv_at hl 0 rfl) ?_
    refine lv_goto (tgt := 20) hx hb d_PR_partnerOf_12 (by decide) ?_
    exact hret (lk (ar 20) (ar 21) x n) () _ _ _ _ _ _ d_PR_partnerOf_20 hI (by unfold ptn; first | rw [if_pos c8] | rw [if_neg c8]) (Nat.le_refl 0) (Nat.le_refl 0)
abbrev rm_PR_has_c_PR_has_2 : Room := { frames := 2, cells := 0, slots := 0, locals := 44 }
set_option maxHeartbeats 4000000 in
set_option maxRecDepth 100000 in
theorem c_PR_has_2 (l : Launch) (g : Geo) (ad : Nat → Nat) (ar : Nat → Nat → Int32) (fl : Nat → Int32) (x : Int32) (n : Nat) (hn : fl 4 = nI n) (hN : n ≤ 40) (hd_otherOf : dst n (ar 20)) (hd_oneOf : dst n (ar 21)) : cMi l y_PR_has (.code y_PR_has b_PR_has 2 (some .boolean) :: gw) rm_PR_has_c_PR_has_2 g [.ref (ad 2), .int x] (cw g ad ar fl) (fun (r : Int32) (_ : Unit) => r = bI (ptn n (ar 20) (ar 21) x ≠ -1)) (fun (_ : Unit) => cw g ad ar fl) 0 0 := by
  refine cMz_of (by decide) (Nat.le_of_ble_eq_true rfl) ?_
  intro p e s m below meth c A Q ls M hret hl hI
  have M : MC p s m ([.ref (ad 2), .int x] : List Value).toArray meth c R_PR b_PR_has 2 := M
  have hl : lv_has ls 2 [(0, .ref (ad 2)), (1, .int x)] := hl
  generalize ([.ref (ad 2), .int x] : List Value).toArray = args at M hret ⊢
  have hx := M.1
  have hb := M.2.1
  refine lv_aload_n hx hb d_PR_has_0 rfl (lv_at hl 0 rfl) ?_
  refine lv_iload_n hx hb d_PR_has_1 rfl (lv_at hl 1 rfl) ?_
  refine q_calliV [.int x] M hI (c_PR_partnerOf_2 l g ad ar fl x n (by first | exact hn | assumption | omega | rfl) (by first | exact hN | assumption | omega | rfl) (by first | exact hd_otherOf | assumption | omega | rfl) (by first | exact hd_oneOf | assumption | omega | rfl)) ok_PR_partnerOf m3_6 m3_7 m3_8 2 rfl rfl rfl rfl hl.1 ⟨rfl, rfl⟩ ⟨Nat.le_of_ble_eq_true rfl, Nat.le_of_ble_eq_true rfl⟩ (Nat.le_of_ble_eq_true rfl) ⟨Nat.le_of_ble_eq_true rfl, Nat.le_of_ble_eq_true rfl⟩ d_PR_has_2 (fun r2 u2 H locs hp2 hI => ?_)
  refine q_as (y := ptn n (ar 20) (ar 21) x) hp2 ?_
  refine lv_iconst (v := (-1)) hx hb d_PR_has_5 (by decide) ?_
  refine lv_icmp_eq (tgt := 13) hx hb d_PR_has_6 (by decide) (fun c6 => ?_) (fun c6 => ?_)
  · refine lv_iconst (v := 0) hx hb d_PR_has_13 (by decide) ?_
    exact hret 0 () _ _ _ _ _ _ d_PR_has_14 hI (by symm; first | exact bI_t c6 | (apply bI_f; intro q; exact q c6)) (by first | rfl | exact bI_narrow) (Nat.le_refl 0) (Nat.le_refl 0)
  · refine lv_iconst (v := 1) hx hb d_PR_has_9 (by decide) ?_
    refine lv_goto (tgt := 14) hx hb d_PR_has_10 (by decide) ?_
    exact hret 1 () _ _ _ _ _ _ d_PR_has_14 hI (by symm; first | exact bI_t c6 | (apply bI_f; intro q; exact q c6)) (by first | rfl | exact bI_narrow) (Nat.le_refl 0) (Nat.le_refl 0)
abbrev rm_PR_tell_c_PR_tell_3 : Room := { frames := 0, cells := 0, slots := 0, locals := 0 }
set_option maxHeartbeats 4000000 in
set_option maxRecDepth 100000 in
theorem c_PR_tell_3 (l : Launch) (g : Geo) (ad : Nat → Nat) (ar : Nat → Nat → Int32) (fl : Nat → Int32) (x : Int32) (y : Int32) (n : Nat) (hn : fl 5 = nI n) (hN : n < 40) : cMv l y_PR_tell (.code y_PR_tell b_PR_tell 3 none :: gw) rm_PR_tell_c_PR_tell_3 g [.ref (ad 3), .int x, .int y] (cw g ad ar fl) (fun (_ : Unit) => True) (fun (_ : Unit) => cw g ad (va_up (va_up ar 22 (upd (ar 22) n x)) 23 (upd (ar 23) n y)) (va_up fl 5 (nI (n + 1)))) 0 0 := by
  refine cMv_of (by decide) (Nat.le_of_ble_eq_true rfl) ?_
  intro p e s m below meth c A Q ls M hnm hret hl hI
  have M : MC p s m ([.ref (ad 3), .int x, .int y] : List Value).toArray meth c R_PR b_PR_tell 3 := M
  have hl : lv_has ls 3 [(0, .ref (ad 3)), (1, .int x), (2, .int y)] := hl
  generalize ([.ref (ad 3), .int x, .int y] : List Value).toArray = args at M hret ⊢
  have hx := M.1
  have hb := M.2.1
  refine lv_aload_n hx hb d_PR_tell_0 rfl (lv_at hl 0 rfl) ?_
  refine g_PR_18_3 M hI d_PR_tell_1 ?_
  refine q_as (y := nI n) hn ?_
  refine lv_bipush (v := 40) hx hb d_PR_tell_4 (by decide) ?_
  refine lv_icmp_lt (tgt := 10) hx hb d_PR_tell_6 (by decide) (fun c6 => ?_) (fun c6 => ?_)
  · have c6 : n < 40 := (nI_ltI (a := n) (b := 40) (by omega) (by omega)).mp c6
    refine lv_aload_n hx hb d_PR_tell_10 rfl (lv_at hl 0 rfl) ?_
    refine g_PR_9_3 M hI d_PR_tell_11 ?_
    refine lv_aload_n hx hb d_PR_tell_14 rfl (lv_at hl 0 rfl) ?_
    refine g_PR_18_3 M hI d_PR_tell_15 ?_
    refine q_as (y := nI n) hn ?_
    refine lv_iload_n hx hb d_PR_tell_18 rfl (lv_at hl 1 rfl) ?_
    refine as_22 M hI n rfl (by omega) d_PR_tell_19 (fun H locs hI => ?_)
    have hI : CI g A s (cw g ad (va_up ar 22 (upd (ar 22) n x)) fl) H locs := hI
    refine lv_aload_n hx hb d_PR_tell_20 rfl (lv_at hl 0 rfl) ?_
    refine g_PR_15_3 M hI d_PR_tell_21 ?_
    refine lv_aload_n hx hb d_PR_tell_24 rfl (lv_at hl 0 rfl) ?_
    refine g_PR_18_3 M hI d_PR_tell_25 ?_
    refine q_as (y := nI n) hn ?_
    refine lv_iload_n hx hb d_PR_tell_28 rfl (lv_at hl 2 rfl) ?_
    refine as_23 M hI n rfl (by omega) d_PR_tell_29 (fun H locs hI => ?_)
    have hI : CI g A s (cw g ad (va_up (va_up ar 22 (upd (ar 22) n x)) 23 (upd (ar 23) n y)) fl) H locs := hI
    refine lv_aload_n hx hb d_PR_tell_30 rfl (lv_at hl 0 rfl) ?_
    refine lv_dup hx hb d_PR_tell_31 rfl ?_
    refine g_PR_18_3 M hI d_PR_tell_32 ?_
    refine q_as (y := nI n) hn ?_
    refine lv_iconst (v := 1) hx hb d_PR_tell_35 (by decide) ?_
    refine lv_iadd hx hb d_PR_tell_36 ?_
    refine q_as (y := nI (n + 1)) (nI_add n 1) ?_
    refine p_PR_18_3 M hI d_PR_tell_37 (fun H locs hI => ?_)
    have hI : CI g A s (cw g ad (va_up (va_up ar 22 (upd (ar 22) n x)) 23 (upd (ar 23) n y)) (va_up fl 5 (nI (n + 1)))) H locs := hI
    exact hret () _ _ _ _ _ _ d_PR_tell_40 hI (trivial) (Nat.le_refl 0) (Nat.le_refl 0)
  · have c6 : ¬ n < 40 := fun h => c6 ((nI_ltI (a := n) (b := 40) (by omega) (by omega)).mpr h)
    exfalso; omega
abbrev rm_PR_otherOf_c_PR_otherOf_3 : Room := { frames := 0, cells := 0, slots := 0, locals := 0 }
set_option maxHeartbeats 4000000 in
set_option maxRecDepth 100000 in
theorem c_PR_otherOf_3 (l : Launch) (g : Geo) (ad : Nat → Nat) (ar : Nat → Nat → Int32) (fl : Nat → Int32) (x : Int32) (n : Nat) (hn : fl 5 = nI n) (hN : n ≤ 40) (hd_otherOf : dst n (ar 22)) : cMi l y_PR_otherOf (.code y_PR_otherOf b_PR_otherOf 3 (some .int) :: gw) rm_PR_otherOf_c_PR_otherOf_3 g [.ref (ad 3), .int x] (cw g ad ar fl) (fun (r : Int32) (_ : Unit) => r = lk (ar 22) (ar 23) x n) (fun (_ : Unit) => cw g ad ar fl) 0 0 := by
  refine cMi_of (by decide) (Nat.le_of_ble_eq_true rfl) ?_
  intro p e s m below meth c A Q ls M hret hl hI
  have M : MC p s m ([.ref (ad 3), .int x] : List Value).toArray meth c R_PR b_PR_otherOf 3 := M
  have hl : lv_has ls 3 [(0, .ref (ad 3)), (1, .int x)] := hl
  generalize ([.ref (ad 3), .int x] : List Value).toArray = args at M hret ⊢
  have hx := M.1
  have hb := M.2.1
  refine lv_iconst (v := 0) hx hb d_PR_otherOf_0 (by decide) ?_
  refine lv_istore_n (lv' := [(2, .int 0), (0, .ref (ad 3)), (1, .int x)]) hx hb d_PR_otherOf_1 rfl hl (by decide) rfl (fun ls hl => ?_)
  have L2 : ∀ (fu : Nat) (i : Nat), (n - i) < fu → (i ≤ n) → (∀ j, j < i → ar 22 j ≠ x) → ∀ (H : Heap) (locs : List Loc) (ls : Array Slot), CI g A s (cw g ad ar fl) H locs → lv_has ls 3 [(0, .ref (ad 3)), (1, .int x), (2, .int (nI i))] → W p l e rm_PR_otherOf_c_PR_otherOf_3 s m args below meth c H locs 0 0 Q (F0 m 2 ls []) := by
    intro fu
    induction fu with
    | zero => intro i hm; exact absurd hm (Nat.not_lt_zero _)
    | succ fu ih2 =>
      intro i hm hi hno H locs ls hI hl
      refine lv_iload_n hx hb d_PR_otherOf_2 rfl (lv_at hl 2 rfl) ?_
      refine lv_aload_n hx hb d_PR_otherOf_3 rfl (lv_at hl 0 rfl) ?_
      refine g_PR_18_3 M hI d_PR_otherOf_4 ?_
      refine q_as (y := nI n) hn ?_
      refine lv_icmp_ge (tgt := 33) hx hb d_PR_otherOf_7 (by decide) (fun c7 => ?_) (fun c7 => ?_)
      · have c7 : n ≤ i := (nI_leI (a := n) (b := i) (by omega) (by omega)).mp c7
        refine lv_iconst (v := (-1)) hx hb d_PR_otherOf_33 (by decide) ?_
        exact hret (-1) () _ _ _ _ _ _ d_PR_otherOf_34 hI ((lk_none n (fun j h => hno j (by omega))).symm) (Nat.le_refl 0) (Nat.le_refl 0)
      · have c7 : ¬ n ≤ i := fun h => c7 ((nI_leI (a := n) (b := i) (by omega) (by omega)).mpr h)
        refine lv_aload_n hx hb d_PR_otherOf_10 rfl (lv_at hl 0 rfl) ?_
        refine g_PR_9_3 M hI d_PR_otherOf_11 ?_
        refine lv_iload_n hx hb d_PR_otherOf_14 rfl (lv_at hl 2 rfl) ?_
        refine al_22 M hI i rfl (by omega) d_PR_otherOf_15 ?_
        refine lv_iload_n hx hb d_PR_otherOf_16 rfl (lv_at hl 1 rfl) ?_
        refine lv_icmp_ne (tgt := 27) hx hb d_PR_otherOf_17 (by decide) (fun c17 => ?_) (fun c17 => ?_)
        · refine lv_iinc (v := nI (i + 1)) (lv' := [(2, .int (nI (i + 1))), (0, .ref (ad 3)), (1, .int x)]) hx hb d_PR_otherOf_27 hl (k := 2) rfl (nI_add _ 1) (by decide) rfl (fun ls hl => ?_)
          refine lv_goto (tgt := 2) hx hb d_PR_otherOf_30 (by decide) ?_
          exact ih2 (i + 1) (by omega) (by first | assumption | omega) (fun j h => by rcases Nat.lt_or_ge j i with q | q; exact hno j q; rw [show j = i by omega]; exact c17) _ _ _ hI (lv_sub hl [1, 2, 0] rfl)
        · refine lv_aload_n hx hb d_PR_otherOf_20 rfl (lv_at hl 0 rfl) ?_
          refine g_PR_15_3 M hI d_PR_otherOf_21 ?_
          refine lv_iload_n hx hb d_PR_otherOf_24 rfl (lv_at hl 2 rfl) ?_
          refine al_23 M hI i rfl (by omega) d_PR_otherOf_25 ?_
          exact hret (ar 23 i) () _ _ _ _ _ _ d_PR_otherOf_26 hI ((lk_at (i := i) c17 n (by omega) (fun j h q => hd_otherOf j i h (by omega) (q.trans c17.symm))).symm) (Nat.le_refl 0) (Nat.le_refl 0)
  exact L2 _ 0 (Nat.lt_succ_self _) (by first | assumption | omega) (fun j h => absurd h (Nat.not_lt_zero j)) _ _ _ hI (lv_sub hl [1, 2, 0] rfl)
abbrev rm_PR_oneOf_c_PR_oneOf_3 : Room := { frames := 0, cells := 0, slots := 0, locals := 0 }
set_option maxHeartbeats 4000000 in
set_option maxRecDepth 100000 in
theorem c_PR_oneOf_3 (l : Launch) (g : Geo) (ad : Nat → Nat) (ar : Nat → Nat → Int32) (fl : Nat → Int32) (x : Int32) (n : Nat) (hn : fl 5 = nI n) (hN : n ≤ 40) (hd_oneOf : dst n (ar 23)) : cMi l y_PR_oneOf (.code y_PR_oneOf b_PR_oneOf 3 (some .int) :: gw) rm_PR_oneOf_c_PR_oneOf_3 g [.ref (ad 3), .int x] (cw g ad ar fl) (fun (r : Int32) (_ : Unit) => r = lk (ar 23) (ar 22) x n) (fun (_ : Unit) => cw g ad ar fl) 0 0 := by
  refine cMi_of (by decide) (Nat.le_of_ble_eq_true rfl) ?_
  intro p e s m below meth c A Q ls M hret hl hI
  have M : MC p s m ([.ref (ad 3), .int x] : List Value).toArray meth c R_PR b_PR_oneOf 3 := M
  have hl : lv_has ls 3 [(0, .ref (ad 3)), (1, .int x)] := hl
  generalize ([.ref (ad 3), .int x] : List Value).toArray = args at M hret ⊢
  have hx := M.1
  have hb := M.2.1
  refine lv_iconst (v := 0) hx hb d_PR_oneOf_0 (by decide) ?_
  refine lv_istore_n (lv' := [(2, .int 0), (0, .ref (ad 3)), (1, .int x)]) hx hb d_PR_oneOf_1 rfl hl (by decide) rfl (fun ls hl => ?_)
  have L2 : ∀ (fu : Nat) (i : Nat), (n - i) < fu → (i ≤ n) → (∀ j, j < i → ar 23 j ≠ x) → ∀ (H : Heap) (locs : List Loc) (ls : Array Slot), CI g A s (cw g ad ar fl) H locs → lv_has ls 3 [(0, .ref (ad 3)), (1, .int x), (2, .int (nI i))] → W p l e rm_PR_oneOf_c_PR_oneOf_3 s m args below meth c H locs 0 0 Q (F0 m 2 ls []) := by
    intro fu
    induction fu with
    | zero => intro i hm; exact absurd hm (Nat.not_lt_zero _)
    | succ fu ih2 =>
      intro i hm hi hno H locs ls hI hl
      refine lv_iload_n hx hb d_PR_oneOf_2 rfl (lv_at hl 2 rfl) ?_
      refine lv_aload_n hx hb d_PR_oneOf_3 rfl (lv_at hl 0 rfl) ?_
      refine g_PR_18_3 M hI d_PR_oneOf_4 ?_
      refine q_as (y := nI n) hn ?_
      refine lv_icmp_ge (tgt := 33) hx hb d_PR_oneOf_7 (by decide) (fun c7 => ?_) (fun c7 => ?_)
      · have c7 : n ≤ i := (nI_leI (a := n) (b := i) (by omega) (by omega)).mp c7
        refine lv_iconst (v := (-1)) hx hb d_PR_oneOf_33 (by decide) ?_
        exact hret (-1) () _ _ _ _ _ _ d_PR_oneOf_34 hI ((lk_none n (fun j h => hno j (by omega))).symm) (Nat.le_refl 0) (Nat.le_refl 0)
      · have c7 : ¬ n ≤ i := fun h => c7 ((nI_leI (a := n) (b := i) (by omega) (by omega)).mpr h)
        refine lv_aload_n hx hb d_PR_oneOf_10 rfl (lv_at hl 0 rfl) ?_
        refine g_PR_15_3 M hI d_PR_oneOf_11 ?_
        refine lv_iload_n hx hb d_PR_oneOf_14 rfl (lv_at hl 2 rfl) ?_
        refine al_23 M hI i rfl (by omega) d_PR_oneOf_15 ?_
        refine lv_iload_n hx hb d_PR_oneOf_16 rfl (lv_at hl 1 rfl) ?_
        refine lv_icmp_ne (tgt := 27) hx hb d_PR_oneOf_17 (by decide) (fun c17 => ?_) (fun c17 => ?_)
        · refine lv_iinc (v := nI (i + 1)) (lv' := [(2, .int (nI (i + 1))), (0, .ref (ad 3)), (1, .int x)]) hx hb d_PR_oneOf_27 hl (k := 2) rfl (nI_add _ 1) (by decide) rfl (fun ls hl => ?_)
          refine lv_goto (tgt := 2) hx hb d_PR_oneOf_30 (by decide) ?_
          exact ih2 (i + 1) (by omega) (by first | assumption | omega) (fun j h => by rcases Nat.lt_or_ge j i with q | q; exact hno j q; rw [show j = i by omega]; exact c17) _ _ _ hI (lv_sub hl [1, 2, 0] rfl)
        · refine lv_aload_n hx hb d_PR_oneOf_20 rfl (lv_at hl 0 rfl) ?_
          refine g_PR_9_3 M hI d_PR_oneOf_21 ?_
          refine lv_iload_n hx hb d_PR_oneOf_24 rfl (lv_at hl 2 rfl) ?_
          refine al_22 M hI i rfl (by omega) d_PR_oneOf_25 ?_
          exact hret (ar 22 i) () _ _ _ _ _ _ d_PR_oneOf_26 hI ((lk_at (i := i) c17 n (by omega) (fun j h q => hd_oneOf j i h (by omega) (q.trans c17.symm))).symm) (Nat.le_refl 0) (Nat.le_refl 0)
  exact L2 _ 0 (Nat.lt_succ_self _) (by first | assumption | omega) (fun j h => absurd h (Nat.not_lt_zero j)) _ _ _ hI (lv_sub hl [1, 2, 0] rfl)
abbrev rm_PR_partnerOf_c_PR_partnerOf_3 : Room := { frames := 1, cells := 0, slots := 0, locals := 22 }
set_option maxHeartbeats 4000000 in
set_option maxRecDepth 100000 in
theorem c_PR_partnerOf_3 (l : Launch) (g : Geo) (ad : Nat → Nat) (ar : Nat → Nat → Int32) (fl : Nat → Int32) (x : Int32) (n : Nat) (hn : fl 5 = nI n) (hN : n ≤ 40) (hd_otherOf : dst n (ar 22)) (hd_oneOf : dst n (ar 23)) : cMi l y_PR_partnerOf (.code y_PR_partnerOf b_PR_partnerOf 3 (some .int) :: gw) rm_PR_partnerOf_c_PR_partnerOf_3 g [.ref (ad 3), .int x] (cw g ad ar fl) (fun (r : Int32) (_ : Unit) => r = ptn n (ar 22) (ar 23) x) (fun (_ : Unit) => cw g ad ar fl) 0 0 := by
  refine cMi_of (by decide) (Nat.le_of_ble_eq_true rfl) ?_
  intro p e s m below meth c A Q ls M hret hl hI
  have M : MC p s m ([.ref (ad 3), .int x] : List Value).toArray meth c R_PR b_PR_partnerOf 3 := M
  have hl : lv_has ls 3 [(0, .ref (ad 3)), (1, .int x)] := hl
  generalize ([.ref (ad 3), .int x] : List Value).toArray = args at M hret ⊢
  have hx := M.1
  have hb := M.2.1
  refine lv_aload_n hx hb d_PR_partnerOf_0 rfl (lv_at hl 0 rfl) ?_
  refine lv_iload_n hx hb d_PR_partnerOf_1 rfl (lv_at hl 1 rfl) ?_
  refine q_calliV [.int x] M hI (c_PR_otherOf_3 l g ad ar fl x n (by first | exact hn | assumption | omega | rfl) (by first | exact hN | assumption | omega | rfl) (by first | exact hd_otherOf | assumption | omega | rfl)) ok_PR_otherOf m3_10 m3_11 m3_12 3 rfl rfl rfl rfl hl.1 ⟨rfl, rfl⟩ ⟨Nat.le_of_ble_eq_true rfl, Nat.le_of_ble_eq_true rfl⟩ (Nat.le_of_ble_eq_true rfl) ⟨Nat.le_of_ble_eq_true rfl, Nat.le_of_ble_eq_true rfl⟩ d_PR_partnerOf_2 (fun r2 u2 H locs hp2 hI => ?_)
  refine q_as (y := lk (ar 22) (ar 23) x n) hp2 ?_
  refine lv_istore_n (lv' := [(2, .int (lk (ar 22) (ar 23) x n)), (0, .ref (ad 3)), (1, .int x)]) hx hb d_PR_partnerOf_5 rfl hl (by decide) rfl (fun ls hl => ?_)
  refine lv_iload_n hx hb d_PR_partnerOf_6 rfl (lv_at hl 0 rfl) ?_
  refine lv_iconst (v := (-1)) hx hb d_PR_partnerOf_7 (by decide) ?_
  refine lv_icmp_eq (tgt := 15) hx hb d_PR_partnerOf_8 (by decide) (fun c8 => ?_) (fun c8 => ?_)
  · refine lv_aload_n hx hb d_PR_partnerOf_15 rfl (lv_at hl 1 rfl) ?_
    refine lv_iload_n hx hb d_PR_partnerOf_16 rfl (lv_at hl 2 rfl) ?_
    refine q_calliV [.int x] M hI (c_PR_oneOf_3 l g ad ar fl x n (by first | exact hn | assumption | omega | rfl) (by first | exact hN | assumption | omega | rfl) (by first | exact hd_oneOf | assumption | omega | rfl)) ok_PR_oneOf m3_14 m3_15 m3_16 3 rfl rfl rfl rfl hl.1 ⟨rfl, rfl⟩ ⟨Nat.le_of_ble_eq_true rfl, Nat.le_of_ble_eq_true rfl⟩ (Nat.le_of_ble_eq_true rfl) ⟨Nat.le_of_ble_eq_true rfl, Nat.le_of_ble_eq_true rfl⟩ d_PR_partnerOf_17 (fun r17 u17 H locs hp17 hI => ?_)
    refine q_as (y := lk (ar 23) (ar 22) x n) hp17 ?_
    exact hret (lk (ar 23) (ar 22) x n) () _ _ _ _ _ _ d_PR_partnerOf_20 hI (by unfold ptn; first | rw [if_pos c8] | rw [if_neg c8]) (Nat.le_refl 0) (Nat.le_refl 0)
  · refine lv_iload_n hx hb d_PR_partnerOf_11 rfl (lv_at hl 0 rfl) ?_
    refine lv_goto (tgt := 20) hx hb d_PR_partnerOf_12 (by decide) ?_
    exact hret (lk (ar 22) (ar 23) x n) () _ _ _ _ _ _ d_PR_partnerOf_20 hI (by unfold ptn; first | rw [if_pos c8] | rw [if_neg c8]) (Nat.le_refl 0) (Nat.le_refl 0)
abbrev rm_PR_has_c_PR_has_3 : Room := { frames := 2, cells := 0, slots := 0, locals := 44 }
set_option maxHeartbeats 4000000 in
set_option maxRecDepth 100000 in
theorem c_PR_has_3 (l : Launch) (g : Geo) (ad : Nat → Nat) (ar : Nat → Nat → Int32) (fl : Nat → Int32) (x : Int32) (n : Nat) (hn : fl 5 = nI n) (hN : n ≤ 40) (hd_otherOf : dst n (ar 22)) (hd_oneOf : dst n (ar 23)) : cMi l y_PR_has (.code y_PR_has b_PR_has 2 (some .boolean) :: gw) rm_PR_has_c_PR_has_3 g [.ref (ad 3), .int x] (cw g ad ar fl) (fun (r : Int32) (_ : Unit) => r = bI (ptn n (ar 22) (ar 23) x ≠ -1)) (fun (_ : Unit) => cw g ad ar fl) 0 0 := by
  refine cMz_of (by decide) (Nat.le_of_ble_eq_true rfl) ?_
  intro p e s m below meth c A Q ls M hret hl hI
  have M : MC p s m ([.ref (ad 3), .int x] : List Value).toArray meth c R_PR b_PR_has 2 := M
  have hl : lv_has ls 2 [(0, .ref (ad 3)), (1, .int x)] := hl
  generalize ([.ref (ad 3), .int x] : List Value).toArray = args at M hret ⊢
  have hx := M.1
  have hb := M.2.1
  refine lv_aload_n hx hb d_PR_has_0 rfl (lv_at hl 0 rfl) ?_
  refine lv_iload_n hx hb d_PR_has_1 rfl (lv_at hl 1 rfl) ?_
  refine q_calliV [.int x] M hI (c_PR_partnerOf_3 l g ad ar fl x n (by first | exact hn | assumption | omega | rfl) (by first | exact hN | assumption | omega | rfl) (by first | exact hd_otherOf | assumption | omega | rfl) (by first | exact hd_oneOf | assumption | omega | rfl)) ok_PR_partnerOf m3_6 m3_7 m3_8 3 rfl rfl rfl rfl hl.1 ⟨rfl, rfl⟩ ⟨Nat.le_of_ble_eq_true rfl, Nat.le_of_ble_eq_true rfl⟩ (Nat.le_of_ble_eq_true rfl) ⟨Nat.le_of_ble_eq_true rfl, Nat.le_of_ble_eq_true rfl⟩ d_PR_has_2 (fun r2 u2 H locs hp2 hI => ?_)
  refine q_as (y := ptn n (ar 22) (ar 23) x) hp2 ?_
  refine lv_iconst (v := (-1)) hx hb d_PR_has_5 (by decide) ?_
  refine lv_icmp_eq (tgt := 13) hx hb d_PR_has_6 (by decide) (fun c6 => ?_) (fun c6 => ?_)
  · refine lv_iconst (v := 0) hx hb d_PR_has_13 (by decide) ?_
    exact hret 0 () _ _ _ _ _ _ d_PR_has_14 hI (by symm; first | exact bI_t c6 | (apply bI_f; intro q; exact q c6)) (by first | rfl | exact bI_narrow) (Nat.le_refl 0) (Nat.le_refl 0)
  · refine lv_iconst (v := 1) hx hb d_PR_has_9 (by decide) ?_
    refine lv_goto (tgt := 14) hx hb d_PR_has_10 (by decide) ?_
    exact hret 1 () _ _ _ _ _ _ d_PR_has_14 hI (by symm; first | exact bI_t c6 | (apply bI_f; intro q; exact q c6)) (by first | rfl | exact bI_narrow) (Nat.le_refl 0) (Nat.le_refl 0)
abbrev rm_TX_classOf : Room := { frames := 0, cells := 0, slots := 0, locals := 0 }
set_option maxHeartbeats 4000000 in
set_option maxRecDepth 100000 in
theorem c_TX_classOf (l : Launch) (g : Geo) (ad : Nat → Nat) (ar : Nat → Nat → Int32) (fl : Nat → Int32) (x : Int32) (rn : Nat) (hrn : fl 3 = nI rn) (hrN : rn ≤ 100) : cMi l y_TX_classOf (.code y_TX_classOf b_TX_classOf 3 (some .int) :: gw) rm_TX_classOf g [.ref (ad 1), .int x] (cw g ad ar fl) (fun (r : Int32) (_ : Unit) => r = clsOf (ar 17) (ar 18) (ar 19) x rn) (fun (_ : Unit) => cw g ad ar fl) 0 0 := by
  refine cMi_of (by decide) (Nat.le_of_ble_eq_true rfl) ?_
  intro p e s m below meth c A Q ls M hret hl hI
  have M : MC p s m ([.ref (ad 1), .int x] : List Value).toArray meth c R_TX b_TX_classOf 3 := M
  have hl : lv_has ls 3 [(0, .ref (ad 1)), (1, .int x)] := hl
  generalize ([.ref (ad 1), .int x] : List Value).toArray = args at M hret ⊢
  have hx := M.1
  have hb := M.2.1
  refine lv_aload_n hx hb d_TX_classOf_0 rfl (lv_at hl 0 rfl) ?_
  refine g_TX_40 M hI d_TX_classOf_1 ?_
  refine q_as (y := nI rn) hrn ?_
  refine lv_iconst (v := 1) hx hb d_TX_classOf_4 (by decide) ?_
  refine lv_isub hx hb d_TX_classOf_5 ?_
  refine lv_istore_n (lv' := [(2, .int ((nI rn) - 1)), (0, .ref (ad 1)), (1, .int x)]) hx hb d_TX_classOf_6 rfl hl (by decide) rfl (fun ls hl => ?_)
  have L7 : ∀ (fu : Nat) (z : Nat), z < fu → (z ≤ rn) → (clsOf (ar 17) (ar 18) (ar 19) x rn = clsOf (ar 17) (ar 18) (ar 19) x z) → ∀ (H : Heap) (locs : List Loc) (ls : Array Slot), CI g A s (cw g ad ar fl) H locs → lv_has ls 3 [(0, .ref (ad 1)), (1, .int x), (2, .int (nI z - 1))] → W p l e rm_TX_classOf s m args below meth c H locs 0 0 Q (F0 m 7 ls []) := by
    intro fu
    induction fu with
    | zero => intro z hm; exact absurd hm (Nat.not_lt_zero _)
    | succ fu ih7 =>
      intro z hm hz hq H locs ls hI hl
      refine lv_iload_n hx hb d_TX_classOf_7 rfl (lv_at hl 2 rfl) ?_
      refine lv_if_lt (tgt := 44) hx hb d_TX_classOf_8 (by decide) (fun c8 => ?_) (fun c8 => ?_)
      · have hz0 : z = 0 := (nI_m1neg (by omega)).mp c8
        refine lv_iconst (v := 0) hx hb d_TX_classOf_44 (by decide) ?_
        exact hret 0 () _ _ _ _ _ _ d_TX_classOf_45 hI (by rw [hq, hz0]; rfl) (Nat.le_refl 0) (Nat.le_refl 0)
      · obtain ⟨j, rfl⟩ : ∃ j, z = j + 1 := ⟨z - 1, by have : ¬ z = 0 := fun q => c8 ((nI_m1neg (by omega)).mpr q); omega⟩
        rw [nI_pred] at hl
        refine lv_iload_n hx hb d_TX_classOf_11 rfl (lv_at hl 1 rfl) ?_
        refine lv_aload_n hx hb d_TX_classOf_12 rfl (lv_at hl 0 rfl) ?_
        refine g_TX_31 M hI d_TX_classOf_13 ?_
        refine lv_iload_n hx hb d_TX_classOf_16 rfl (lv_at hl 2 rfl) ?_
        refine al_17 M hI j rfl (by omega) d_TX_classOf_17 ?_
        refine lv_icmp_lt (tgt := 38) hx hb d_TX_classOf_18 (by decide) (fun c18 => ?_) (fun c18 => ?_)
        · have hq2 : clsOf (ar 17) (ar 18) (ar 19) x rn = clsOf (ar 17) (ar 18) (ar 19) x j := by rw [hq]; simp only [clsOf]; rw [if_neg (fun q => q.1 c18)]
          refine lv_iinc (v := nI j - 1) (lv' := [(2, .int (nI j - 1)), (0, .ref (ad 1)), (1, .int x)]) hx hb d_TX_classOf_38 hl (k := 2) rfl (nI_dec j) (by decide) rfl (fun ls hl => ?_)
          refine lv_goto (tgt := 7) hx hb d_TX_classOf_41 (by decide) ?_
          exact ih7 j (by omega) (by first | assumption | omega) (hq2) _ _ _ hI (lv_sub hl [1, 2, 0] rfl)
        · refine lv_iload_n hx hb d_TX_classOf_21 rfl (lv_at hl 1 rfl) ?_
          refine lv_aload_n hx hb d_TX_classOf_22 rfl (lv_at hl 0 rfl) ?_
          refine g_TX_34 M hI d_TX_classOf_23 ?_
          refine lv_iload_n hx hb d_TX_classOf_26 rfl (lv_at hl 2 rfl) ?_
          refine al_18 M hI j rfl (by omega) d_TX_classOf_27 ?_
          refine lv_icmp_gt (tgt := 38) hx hb d_TX_classOf_28 (by decide) (fun c28 => ?_) (fun c28 => ?_)
          · have hq2 : clsOf (ar 17) (ar 18) (ar 19) x rn = clsOf (ar 17) (ar 18) (ar 19) x j := by rw [hq]; simp only [clsOf]; rw [if_neg (fun q => q.2 c28)]
            refine lv_iinc (v := nI j - 1) (lv' := [(2, .int (nI j - 1)), (0, .ref (ad 1)), (1, .int x)]) hx hb d_TX_classOf_38 hl (k := 2) rfl (nI_dec j) (by decide) rfl (fun ls hl => ?_)
            refine lv_goto (tgt := 7) hx hb d_TX_classOf_41 (by decide) ?_
            exact ih7 j (by omega) (by first | assumption | omega) (hq2) _ _ _ hI (lv_sub hl [1, 2, 0] rfl)
          · refine lv_aload_n hx hb d_TX_classOf_31 rfl (lv_at hl 0 rfl) ?_
            refine g_TX_37 M hI d_TX_classOf_32 ?_
            refine lv_iload_n hx hb d_TX_classOf_35 rfl (lv_at hl 2 rfl) ?_
            refine al_19 M hI j rfl (by omega) d_TX_classOf_36 ?_
            exact hret (ar 19 j) () _ _ _ _ _ _ d_TX_classOf_37 hI (by rw [hq]; simp only [clsOf]; rw [if_pos ⟨c18, c28⟩]) (Nat.le_refl 0) (Nat.le_refl 0)
  exact L7 _ rn (Nat.lt_succ_self _) (by first | assumption | omega) (rfl) _ _ _ hI (lv_sub hl [1, 2, 0] rfl)
abbrev rm_TX_append : Room := { frames := 1, cells := 0, slots := 0, locals := 22 }
set_option maxHeartbeats 4000000 in
set_option maxRecDepth 100000 in
theorem c_TX_append (l : Launch) (g : Geo) (ad : Nat → Nat) (ar : Nat → Nat → Int32) (fl : Nat → Int32) (x : Int32) (cn rn : Nat) (hcn : fl 2 = nI cn) (hcN : cn < 2000) (hrn : fl 3 = nI rn) (hrN : rn ≤ 100) : cMv l y_TX_append (.code y_TX_append b_TX_append 2 none :: gw) rm_TX_append g [.ref (ad 1), .int x] (cw g ad ar fl) (fun (_ : Unit) => True) (fun (_ : Unit) => cw g ad (va_up (va_up ar 12 (upd (ar 12) cn x)) 13 (upd (ar 13) cn (clsOf (ar 17) (ar 18) (ar 19) x rn))) (va_up fl 2 (nI (cn + 1)))) 0 0 := by
  refine cMv_of (by decide) (Nat.le_of_ble_eq_true rfl) ?_
  intro p e s m below meth c A Q ls M hnm hret hl hI
  have M : MC p s m ([.ref (ad 1), .int x] : List Value).toArray meth c R_TX b_TX_append 2 := M
  have hl : lv_has ls 2 [(0, .ref (ad 1)), (1, .int x)] := hl
  generalize ([.ref (ad 1), .int x] : List Value).toArray = args at M hret ⊢
  have hx := M.1
  have hb := M.2.1
  refine lv_aload_n hx hb d_TX_append_0 rfl (lv_at hl 0 rfl) ?_
  refine g_TX_27 M hI d_TX_append_1 ?_
  refine q_as (y := nI cn) hcn ?_
  refine lv_sipush (v := 2000) hx hb d_TX_append_4 (by decide) ?_
  refine lv_icmp_lt (tgt := 11) hx hb d_TX_append_7 (by decide) (fun c7 => ?_) (fun c7 => ?_)
  · have c7 : cn < 2000 := (nI_ltI (a := cn) (b := 2000) (by omega) (by omega)).mp c7
    refine lv_aload_n hx hb d_TX_append_11 rfl (lv_at hl 0 rfl) ?_
    refine g_TX_9 M hI d_TX_append_12 ?_
    refine lv_aload_n hx hb d_TX_append_15 rfl (lv_at hl 0 rfl) ?_
    refine g_TX_27 M hI d_TX_append_16 ?_
    refine q_as (y := nI cn) hcn ?_
    refine lv_iload_n hx hb d_TX_append_19 rfl (lv_at hl 1 rfl) ?_
    refine as_12 M hI cn rfl (by omega) d_TX_append_20 (fun H locs hI => ?_)
    have hI : CI g A s (cw g ad (va_up ar 12 (upd (ar 12) cn x)) fl) H locs := hI
    refine lv_aload_n hx hb d_TX_append_21 rfl (lv_at hl 0 rfl) ?_
    refine g_TX_15 M hI d_TX_append_22 ?_
    refine lv_aload_n hx hb d_TX_append_25 rfl (lv_at hl 0 rfl) ?_
    refine g_TX_27 M hI d_TX_append_26 ?_
    refine q_as (y := nI cn) hcn ?_
    refine lv_aload_n hx hb d_TX_append_29 rfl (lv_at hl 0 rfl) ?_
    refine lv_iload_n hx hb d_TX_append_30 rfl (lv_at hl 1 rfl) ?_
    refine q_calliV [.int x] M hI (c_TX_classOf l g ad (va_up ar 12 (upd (ar 12) cn x)) fl x rn (by first | exact hrn | assumption | omega | rfl) (by first | exact hrN | assumption | omega | rfl)) ok_TX_classOf m3_44 m3_46 ms_3 1 rfl rfl rfl rfl hl.1 ⟨rfl, rfl⟩ ⟨Nat.le_of_ble_eq_true rfl, Nat.le_of_ble_eq_true rfl⟩ (Nat.le_of_ble_eq_true rfl) ⟨Nat.le_of_ble_eq_true rfl, Nat.le_of_ble_eq_true rfl⟩ d_TX_append_31 (fun r31 u31 H locs hp31 hI => ?_)
    refine q_as (y := clsOf (ar 17) (ar 18) (ar 19) x rn) hp31 ?_
    refine as_13 M hI cn rfl (by omega) d_TX_append_34 (fun H locs hI => ?_)
    have hI : CI g A s (cw g ad (va_up (va_up ar 12 (upd (ar 12) cn x)) 13 (upd (ar 13) cn (clsOf (ar 17) (ar 18) (ar 19) x rn))) fl) H locs := hI
    refine lv_aload_n hx hb d_TX_append_35 rfl (lv_at hl 0 rfl) ?_
    refine lv_dup hx hb d_TX_append_36 rfl ?_
    refine g_TX_27 M hI d_TX_append_37 ?_
    refine q_as (y := nI cn) hcn ?_
    refine lv_iconst (v := 1) hx hb d_TX_append_40 (by decide) ?_
    refine lv_iadd hx hb d_TX_append_41 ?_
    refine q_as (y := nI (cn + 1)) (nI_add cn 1) ?_
    refine p_TX_27 M hI d_TX_append_42 (fun H locs hI => ?_)
    have hI : CI g A s (cw g ad (va_up (va_up ar 12 (upd (ar 12) cn x)) 13 (upd (ar 13) cn (clsOf (ar 17) (ar 18) (ar 19) x rn))) (va_up fl 2 (nI (cn + 1)))) H locs := hI
    exact hret () _ _ _ _ _ _ d_TX_append_45 hI (trivial) (Nat.le_refl 0) (Nat.le_refl 0)
  · have c7 : ¬ cn < 2000 := fun h => c7 ((nI_ltI (a := cn) (b := 2000) (by omega) (by omega)).mpr h)
    exfalso; omega
abbrev rm_TX_tellRange : Room := { frames := 0, cells := 0, slots := 0, locals := 0 }
set_option maxHeartbeats 4000000 in
set_option maxRecDepth 100000 in
theorem c_TX_tellRange (l : Launch) (g : Geo) (ad : Nat → Nat) (ar : Nat → Nat → Int32) (fl : Nat → Int32) (x : Int32) (y : Int32) (v : Int32) (cn rn : Nat) (hcn : fl 2 = nI cn) (hcN : cn ≤ 2000) (hrn : fl 3 = nI rn) (hrN : rn < 100) : cMv l y_TX_tellRange (.code y_TX_tellRange b_TX_tellRange 5 none :: gw) rm_TX_tellRange g [.ref (ad 1), .int x, .int y, .int v] (cw g ad ar fl) (fun (_ : Unit) => True) (fun (_ : Unit) => cw g ad (va_up (va_up (va_up (va_up ar 17 (upd (ar 17) rn x)) 18 (upd (ar 18) rn y)) 19 (upd (ar 19) rn v)) 13 (pre cn (fun j => if ¬ ar 12 j < x ∧ ¬ y < ar 12 j then v else ar 13 j) (ar 13))) (va_up fl 3 (nI (rn + 1)))) 0 0 := by
  refine cMv_of (by decide) (Nat.le_of_ble_eq_true rfl) ?_
  intro p e s m below meth c A Q ls M hnm hret hl hI
  have M : MC p s m ([.ref (ad 1), .int x, .int y, .int v] : List Value).toArray meth c R_TX b_TX_tellRange 5 := M
  have hl : lv_has ls 5 [(0, .ref (ad 1)), (1, .int x), (2, .int y), (3, .int v)] := hl
  generalize ([.ref (ad 1), .int x, .int y, .int v] : List Value).toArray = args at M hret ⊢
  have hx := M.1
  have hb := M.2.1
  refine lv_aload_n hx hb d_TX_tellRange_0 rfl (lv_at hl 0 rfl) ?_
  refine g_TX_40 M hI d_TX_tellRange_1 ?_
  refine q_as (y := nI rn) hrn ?_
  refine lv_bipush (v := 100) hx hb d_TX_tellRange_4 (by decide) ?_
  refine lv_icmp_lt (tgt := 10) hx hb d_TX_tellRange_6 (by decide) (fun c6 => ?_) (fun c6 => ?_)
  · have c6 : rn < 100 := (nI_ltI (a := rn) (b := 100) (by omega) (by omega)).mp c6
    refine lv_aload_n hx hb d_TX_tellRange_10 rfl (lv_at hl 0 rfl) ?_
    refine g_TX_31 M hI d_TX_tellRange_11 ?_
    refine lv_aload_n hx hb d_TX_tellRange_14 rfl (lv_at hl 0 rfl) ?_
    refine g_TX_40 M hI d_TX_tellRange_15 ?_
    refine q_as (y := nI rn) hrn ?_
    refine lv_iload_n hx hb d_TX_tellRange_18 rfl (lv_at hl 1 rfl) ?_
    refine as_17 M hI rn rfl (by omega) d_TX_tellRange_19 (fun H locs hI => ?_)
    have hI : CI g A s (cw g ad (va_up ar 17 (upd (ar 17) rn x)) fl) H locs := hI
    refine lv_aload_n hx hb d_TX_tellRange_20 rfl (lv_at hl 0 rfl) ?_
    refine g_TX_34 M hI d_TX_tellRange_21 ?_
    refine lv_aload_n hx hb d_TX_tellRange_24 rfl (lv_at hl 0 rfl) ?_
    refine g_TX_40 M hI d_TX_tellRange_25 ?_
    refine q_as (y := nI rn) hrn ?_
    refine lv_iload_n hx hb d_TX_tellRange_28 rfl (lv_at hl 2 rfl) ?_
    refine as_18 M hI rn rfl (by omega) d_TX_tellRange_29 (fun H locs hI => ?_)
    have hI : CI g A s (cw g ad (va_up (va_up ar 17 (upd (ar 17) rn x)) 18 (upd (ar 18) rn y)) fl) H locs := hI
    refine lv_aload_n hx hb d_TX_tellRange_30 rfl (lv_at hl 0 rfl) ?_
    refine g_TX_37 M hI d_TX_tellRange_31 ?_
    refine lv_aload_n hx hb d_TX_tellRange_34 rfl (lv_at hl 0 rfl) ?_
    refine g_TX_40 M hI d_TX_tellRange_35 ?_
    refine q_as (y := nI rn) hrn ?_
    refine lv_iload_n hx hb d_TX_tellRange_38 rfl (lv_at hl 3 rfl) ?_
    refine as_19 M hI rn rfl (by omega) d_TX_tellRange_39 (fun H locs hI => ?_)
    have hI : CI g A s (cw g ad (va_up (va_up (va_up ar 17 (upd (ar 17) rn x)) 18 (upd (ar 18) rn y)) 19 (upd (ar 19) rn v)) fl) H locs := hI
    refine lv_aload_n hx hb d_TX_tellRange_40 rfl (lv_at hl 0 rfl) ?_
    refine lv_dup hx hb d_TX_tellRange_41 rfl ?_
    refine g_TX_40 M hI d_TX_tellRange_42 ?_
    refine q_as (y := nI rn) hrn ?_
    refine lv_iconst (v := 1) hx hb d_TX_tellRange_45 (by decide) ?_
    refine lv_iadd hx hb d_TX_tellRange_46 ?_
    refine q_as (y := nI (rn + 1)) (nI_add rn 1) ?_
    refine p_TX_40 M hI d_TX_tellRange_47 (fun H locs hI => ?_)
    have hI : CI g A s (cw g ad (va_up (va_up (va_up ar 17 (upd (ar 17) rn x)) 18 (upd (ar 18) rn y)) 19 (upd (ar 19) rn v)) (va_up fl 3 (nI (rn + 1)))) H locs := hI
    refine lv_iconst (v := 0) hx hb d_TX_tellRange_50 (by decide) ?_
    refine lv_istore (lv' := [(4, .int 0), (0, .ref (ad 1)), (1, .int x), (2, .int y), (3, .int v)]) hx hb d_TX_tellRange_51 hl (by decide) rfl (fun ls hl => ?_)
    have L53 : ∀ (fu : Nat) (i : Nat), (cn - i) < fu → (i ≤ cn) → ∀ (H : Heap) (locs : List Loc) (ls : Array Slot), CI g A s (cw g ad (va_up (va_up (va_up (va_up ar 17 (upd (ar 17) rn x)) 18 (upd (ar 18) rn y)) 19 (upd (ar 19) rn v)) 13 (pre i (fun j => if ¬ ar 12 j < x ∧ ¬ y < ar 12 j then v else ar 13 j) (ar 13))) (va_up fl 3 (nI (rn + 1)))) H locs → lv_has ls 5 [(0, .ref (ad 1)), (1, .int x), (2, .int y), (3, .int v), (4, .int (nI i))] → W p l e rm_TX_tellRange s m args below meth c H locs 0 0 Q (F0 m 53 ls []) := by
      intro fu
      induction fu with
      | zero => intro i hm; exact absurd hm (Nat.not_lt_zero _)
      | succ fu ih53 =>
        intro i hm hi H locs ls hI hl
        refine lv_iload hx hb d_TX_tellRange_53 (lv_at hl 4 rfl) ?_
        refine lv_aload_n hx hb d_TX_tellRange_55 rfl (lv_at hl 0 rfl) ?_
        refine g_TX_27 M hI d_TX_tellRange_56 ?_
        refine q_as (y := nI cn) hcn ?_
        refine lv_icmp_ge (tgt := 98) hx hb d_TX_tellRange_59 (by decide) (fun c59 => ?_) (fun c59 => ?_)
        · have c59 : cn ≤ i := (nI_leI (a := cn) (b := i) (by omega) (by omega)).mp c59
          have e9 : i = cn := by omega
          subst e9
          exact hret () _ _ _ _ _ _ d_TX_tellRange_98 hI (trivial) (Nat.le_refl 0) (Nat.le_refl 0)
        · have c59 : ¬ cn ≤ i := fun h => c59 ((nI_leI (a := cn) (b := i) (by omega) (by omega)).mpr h)
          refine lv_aload_n hx hb d_TX_tellRange_62 rfl (lv_at hl 0 rfl) ?_
          refine g_TX_9 M hI d_TX_tellRange_63 ?_
          refine lv_iload hx hb d_TX_tellRange_66 (lv_at hl 4 rfl) ?_
          refine al_12 M hI i rfl (by omega) d_TX_tellRange_68 ?_
          refine q_as (y := ar 12 i) rfl ?_
          refine lv_iload_n hx hb d_TX_tellRange_69 rfl (lv_at hl 1 rfl) ?_
          refine lv_icmp_lt (tgt := 92) hx hb d_TX_tellRange_70 (by decide) (fun c70 => ?_) (fun c70 => ?_)
          · rw [pre_same (i := i) (f := (fun j => if ¬ ar 12 j < x ∧ ¬ y < ar 12 j then v else ar 13 j)) (f0 := ar 13) (by rw [if_neg (fun q => q.1 c70)])] at hI
            refine lv_iinc (v := nI (i + 1)) (lv' := [(4, .int (nI (i + 1))), (0, .ref (ad 1)), (1, .int x), (2, .int y), (3, .int v)]) hx hb d_TX_tellRange_92 hl (k := 4) rfl (nI_add _ 1) (by decide) rfl (fun ls hl => ?_)
            refine lv_goto (tgt := 53) hx hb d_TX_tellRange_95 (by decide) ?_
            exact ih53 (i + 1) (by omega) (by first | assumption | omega) _ _ _ hI (lv_sub hl [1, 2, 3, 4, 0] rfl)
          · refine lv_aload_n hx hb d_TX_tellRange_73 rfl (lv_at hl 0 rfl) ?_
            refine g_TX_9 M hI d_TX_tellRange_74 ?_
            refine lv_iload hx hb d_TX_tellRange_77 (lv_at hl 4 rfl) ?_
            refine al_12 M hI i rfl (by omega) d_TX_tellRange_79 ?_
            refine q_as (y := ar 12 i) rfl ?_
            refine lv_iload_n hx hb d_TX_tellRange_80 rfl (lv_at hl 2 rfl) ?_
            refine lv_icmp_gt (tgt := 92) hx hb d_TX_tellRange_81 (by decide) (fun c81 => ?_) (fun c81 => ?_)
            · rw [pre_same (i := i) (f := (fun j => if ¬ ar 12 j < x ∧ ¬ y < ar 12 j then v else ar 13 j)) (f0 := ar 13) (by rw [if_neg (fun q => q.2 c81)])] at hI
              refine lv_iinc (v := nI (i + 1)) (lv' := [(4, .int (nI (i + 1))), (0, .ref (ad 1)), (1, .int x), (2, .int y), (3, .int v)]) hx hb d_TX_tellRange_92 hl (k := 4) rfl (nI_add _ 1) (by decide) rfl (fun ls hl => ?_)
              refine lv_goto (tgt := 53) hx hb d_TX_tellRange_95 (by decide) ?_
              exact ih53 (i + 1) (by omega) (by first | assumption | omega) _ _ _ hI (lv_sub hl [1, 2, 3, 4, 0] rfl)
            · refine lv_aload_n hx hb d_TX_tellRange_84 rfl (lv_at hl 0 rfl) ?_
              refine g_TX_15 M hI d_TX_tellRange_85 ?_
              refine lv_iload hx hb d_TX_tellRange_88 (lv_at hl 4 rfl) ?_
              refine lv_iload_n hx hb d_TX_tellRange_90 rfl (lv_at hl 3 rfl) ?_
              refine as_13 M hI i rfl (by omega) d_TX_tellRange_91 (fun H locs hI => ?_)
              have hI : CI g A s (cw g ad (va_up (va_up (va_up (va_up ar 17 (upd (ar 17) rn x)) 18 (upd (ar 18) rn y)) 19 (upd (ar 19) rn v)) 13 (upd (pre i (fun j => if ¬ ar 12 j < x ∧ ¬ y < ar 12 j then v else ar 13 j) (ar 13)) i v)) (va_up fl 3 (nI (rn + 1)))) H locs := hI
              rw [show upd (pre i (fun j => if ¬ ar 12 j < x ∧ ¬ y < ar 12 j then v else ar 13 j) (ar 13)) i v = pre (i + 1) (fun j => if ¬ ar 12 j < x ∧ ¬ y < ar 12 j then v else ar 13 j) (ar 13) from pre_up (by rw [if_pos ⟨c70, c81⟩])] at hI
              have hI : CI g A s (cw g ad (va_up (va_up (va_up (va_up ar 17 (upd (ar 17) rn x)) 18 (upd (ar 18) rn y)) 19 (upd (ar 19) rn v)) 13 (pre (i + 1) (fun j => if ¬ ar 12 j < x ∧ ¬ y < ar 12 j then v else ar 13 j) (ar 13))) (va_up fl 3 (nI (rn + 1)))) H locs := hI
              refine lv_iinc (v := nI (i + 1)) (lv' := [(4, .int (nI (i + 1))), (0, .ref (ad 1)), (1, .int x), (2, .int y), (3, .int v)]) hx hb d_TX_tellRange_92 hl (k := 4) rfl (nI_add _ 1) (by decide) rfl (fun ls hl => ?_)
              refine lv_goto (tgt := 53) hx hb d_TX_tellRange_95 (by decide) ?_
              exact ih53 (i + 1) (by omega) (by first | assumption | omega) _ _ _ hI (lv_sub hl [1, 2, 3, 4, 0] rfl)
    have hI := CI.to (w2 := cw g ad (va_up (va_up (va_up (va_up ar 17 (upd (ar 17) rn x)) 18 (upd (ar 18) rn y)) 19 (upd (ar 19) rn v)) 13 (pre 0 (fun j => if ¬ ar 12 j < x ∧ ¬ y < ar 12 j then v else ar 13 j) (ar 13))) (va_up fl 3 (nI (rn + 1)))) hI (by rw [pre_0]; rfl)
    exact L53 _ 0 (Nat.lt_succ_self _) (by first | assumption | omega) _ _ _ hI (lv_sub hl [1, 2, 3, 4, 0] rfl)
  · have c6 : ¬ rn < 100 := fun h => c6 ((nI_ltI (a := rn) (b := 100) (by omega) (by omega)).mpr h)
    exfalso; omega
