/-! 83: the face: what changes nothing, and throws -/
abbrev rm_BL_isCharacter_c_BL_isCharacter_p : Room := { frames := 0, cells := 0, slots := 0, locals := 0 }
set_option maxHeartbeats 4000000 in
set_option maxRecDepth 100000 in
theorem c_BL_isCharacter_p (l : Launch) (g : Geo) (w : va_W) (k : Int32) : cPi l y_BL_isCharacter (.code y_BL_isCharacter b_BL_isCharacter 1 (some .boolean) :: gw) rm_BL_isCharacter_c_BL_isCharacter_p g [.int k] (w) (fun (r : Int32) => r = bI (isch k)) := by
  refine cPz_of (by decide) (Nat.le_of_ble_eq_true rfl) ?_
  intro p e s m below meth c A Q ls M hret hl hI
  have M : MC p s m ([.int k] : List Value).toArray meth c R_BL b_BL_isCharacter 1 := M
  have hl : lv_has ls 1 [(0, .int k)] := hl
  generalize ([.int k] : List Value).toArray = args at M hret ⊢
  have hx := M.1
  have hb := M.2.1
  refine lv_iload_n hx hb d_BL_isCharacter_0 rfl (lv_at hl 0 rfl) ?_
  refine lv_if_lt (tgt := 14) hx hb d_BL_isCharacter_1 (by decide) (fun c1 => ?_) (fun c1 => ?_)
  · refine lv_iconst (v := 0) hx hb d_BL_isCharacter_14 (by decide) ?_
    exact hret 0 _ _ d_BL_isCharacter_15 (by unfold isch; first | exact (bI_t (by simp_all)).symm | exact (bI_f (by simp_all)).symm) (by first | rfl | exact bI_narrow) 
  · refine lv_iload_n hx hb d_BL_isCharacter_4 rfl (lv_at hl 0 rfl) ?_
    refine lv_ldc (v := 1114111) hx hb M.2.2.2.1 (M.2.2.2.2.1 _ m2_140) d_BL_isCharacter_5 ?_
    refine lv_icmp_gt (tgt := 14) hx hb d_BL_isCharacter_7 (by decide) (fun c7 => ?_) (fun c7 => ?_)
    · refine lv_iconst (v := 0) hx hb d_BL_isCharacter_14 (by decide) ?_
      exact hret 0 _ _ d_BL_isCharacter_15 (by unfold isch; first | exact (bI_t (by simp_all)).symm | exact (bI_f (by simp_all)).symm) (by first | rfl | exact bI_narrow) 
    · refine lv_iconst (v := 1) hx hb d_BL_isCharacter_10 (by decide) ?_
      refine lv_goto (tgt := 15) hx hb d_BL_isCharacter_11 (by decide) ?_
      exact hret 1 _ _ d_BL_isCharacter_15 (by unfold isch; first | exact (bI_t (by simp_all)).symm | exact (bI_f (by simp_all)).symm) (by first | rfl | exact bI_narrow) 
abbrev rm_PR_otherOf_c_PR_otherOf_2_p : Room := { frames := 0, cells := 0, slots := 0, locals := 0 }
set_option maxHeartbeats 4000000 in
set_option maxRecDepth 100000 in
theorem c_PR_otherOf_2_p (l : Launch) (g : Geo) (ad : Nat → Nat) (ar : Nat → Nat → Int32) (fl : Nat → Int32) (x : Int32) (n : Nat) (hn : fl 4 = nI n) (hN : n ≤ 40) (hd_otherOf : dst n (ar 20)) : cPi l y_PR_otherOf (.code y_PR_otherOf b_PR_otherOf 3 (some .int) :: gw) rm_PR_otherOf_c_PR_otherOf_2_p g [.ref (ad 2), .int x] (cw g ad ar fl) (fun (r : Int32) => r = lk (ar 20) (ar 21) x n) := by
  refine cPi_of (by decide) (Nat.le_of_ble_eq_true rfl) ?_
  intro p e s m below meth c A Q ls M hret hl hI
  have M : MC p s m ([.ref (ad 2), .int x] : List Value).toArray meth c R_PR b_PR_otherOf 3 := M
  have hl : lv_has ls 3 [(0, .ref (ad 2)), (1, .int x)] := hl
  generalize ([.ref (ad 2), .int x] : List Value).toArray = args at M hret ⊢
  have hx := M.1
  have hb := M.2.1
  refine lv_iconst (v := 0) hx hb d_PR_otherOf_0 (by decide) ?_
  refine lv_istore_n (lv' := [(2, .int 0), (0, .ref (ad 2)), (1, .int x)]) hx hb d_PR_otherOf_1 rfl hl (by decide) rfl (fun ls hl => ?_)
  have L2 : ∀ (fu : Nat) (i : Nat), (n - i) < fu → (i ≤ n) → (∀ j, j < i → ar 20 j ≠ x) → ∀ (ls : Array Slot), lv_has ls 3 [(0, .ref (ad 2)), (1, .int x), (2, .int (nI i))] → W p l e rm_PR_otherOf_c_PR_otherOf_2_p s m args below meth c s.heap [] 0 0 Q (F0 m 2 ls []) := by
    intro fu
    induction fu with
    | zero => intro i hm; exact absurd hm (Nat.not_lt_zero _)
    | succ fu ih2 =>
      intro i hm hi hno ls hl
      refine lv_iload_n hx hb d_PR_otherOf_2 rfl (lv_at hl 2 rfl) ?_
      refine lv_aload_n hx hb d_PR_otherOf_3 rfl (lv_at hl 0 rfl) ?_
      refine g_PR_18_2 M hI d_PR_otherOf_4 ?_
      refine q_as (y := nI n) hn ?_
      refine lv_icmp_ge (tgt := 33) hx hb d_PR_otherOf_7 (by decide) (fun c7 => ?_) (fun c7 => ?_)
      · have c7 : n ≤ i := (nI_leI (a := n) (b := i) (by omega) (by omega)).mp c7
        refine lv_iconst (v := (-1)) hx hb d_PR_otherOf_33 (by decide) ?_
        exact hret (-1) _ _ d_PR_otherOf_34 ((lk_none n (fun j h => hno j (by omega))).symm) 
      · have c7 : ¬ n ≤ i := fun h => c7 ((nI_leI (a := n) (b := i) (by omega) (by omega)).mpr h)
        refine lv_aload_n hx hb d_PR_otherOf_10 rfl (lv_at hl 0 rfl) ?_
        refine g_PR_9_2 M hI d_PR_otherOf_11 ?_
        refine lv_iload_n hx hb d_PR_otherOf_14 rfl (lv_at hl 2 rfl) ?_
        refine al_20 M hI i rfl (by omega) d_PR_otherOf_15 ?_
        refine lv_iload_n hx hb d_PR_otherOf_16 rfl (lv_at hl 1 rfl) ?_
        refine lv_icmp_ne (tgt := 27) hx hb d_PR_otherOf_17 (by decide) (fun c17 => ?_) (fun c17 => ?_)
        · refine lv_iinc (v := nI (i + 1)) (lv' := [(2, .int (nI (i + 1))), (0, .ref (ad 2)), (1, .int x)]) hx hb d_PR_otherOf_27 hl (k := 2) rfl (nI_add _ 1) (by decide) rfl (fun ls hl => ?_)
          refine lv_goto (tgt := 2) hx hb d_PR_otherOf_30 (by decide) ?_
          exact ih2 (i + 1) (by omega) (by first | assumption | omega) (fun j h => by rcases Nat.lt_or_ge j i with q | q; exact hno j q; rw [show j = i by omega]; exact c17) _ (lv_sub hl [1, 2, 0] rfl)
        · refine lv_aload_n hx hb d_PR_otherOf_20 rfl (lv_at hl 0 rfl) ?_
          refine g_PR_15_2 M hI d_PR_otherOf_21 ?_
          refine lv_iload_n hx hb d_PR_otherOf_24 rfl (lv_at hl 2 rfl) ?_
          refine al_21 M hI i rfl (by omega) d_PR_otherOf_25 ?_
          exact hret (ar 21 i) _ _ d_PR_otherOf_26 ((lk_at (i := i) c17 n (by omega) (fun j h q => hd_otherOf j i h (by omega) (q.trans c17.symm))).symm) 
  exact L2 _ 0 (Nat.lt_succ_self _) (by first | assumption | omega) (fun j h => absurd h (Nat.not_lt_zero j)) _ (lv_sub hl [1, 2, 0] rfl)
abbrev rm_PR_oneOf_c_PR_oneOf_2_p : Room := { frames := 0, cells := 0, slots := 0, locals := 0 }
set_option maxHeartbeats 4000000 in
set_option maxRecDepth 100000 in
theorem c_PR_oneOf_2_p (l : Launch) (g : Geo) (ad : Nat → Nat) (ar : Nat → Nat → Int32) (fl : Nat → Int32) (x : Int32) (n : Nat) (hn : fl 4 = nI n) (hN : n ≤ 40) (hd_oneOf : dst n (ar 21)) : cPi l y_PR_oneOf (.code y_PR_oneOf b_PR_oneOf 3 (some .int) :: gw) rm_PR_oneOf_c_PR_oneOf_2_p g [.ref (ad 2), .int x] (cw g ad ar fl) (fun (r : Int32) => r = lk (ar 21) (ar 20) x n) := by
  refine cPi_of (by decide) (Nat.le_of_ble_eq_true rfl) ?_
  intro p e s m below meth c A Q ls M hret hl hI
  have M : MC p s m ([.ref (ad 2), .int x] : List Value).toArray meth c R_PR b_PR_oneOf 3 := M
  have hl : lv_has ls 3 [(0, .ref (ad 2)), (1, .int x)] := hl
  generalize ([.ref (ad 2), .int x] : List Value).toArray = args at M hret ⊢
  have hx := M.1
  have hb := M.2.1
  refine lv_iconst (v := 0) hx hb d_PR_oneOf_0 (by decide) ?_
  refine lv_istore_n (lv' := [(2, .int 0), (0, .ref (ad 2)), (1, .int x)]) hx hb d_PR_oneOf_1 rfl hl (by decide) rfl (fun ls hl => ?_)
  have L2 : ∀ (fu : Nat) (i : Nat), (n - i) < fu → (i ≤ n) → (∀ j, j < i → ar 21 j ≠ x) → ∀ (ls : Array Slot), lv_has ls 3 [(0, .ref (ad 2)), (1, .int x), (2, .int (nI i))] → W p l e rm_PR_oneOf_c_PR_oneOf_2_p s m args below meth c s.heap [] 0 0 Q (F0 m 2 ls []) := by
    intro fu
    induction fu with
    | zero => intro i hm; exact absurd hm (Nat.not_lt_zero _)
    | succ fu ih2 =>
      intro i hm hi hno ls hl
      refine lv_iload_n hx hb d_PR_oneOf_2 rfl (lv_at hl 2 rfl) ?_
      refine lv_aload_n hx hb d_PR_oneOf_3 rfl (lv_at hl 0 rfl) ?_
      refine g_PR_18_2 M hI d_PR_oneOf_4 ?_
      refine q_as (y := nI n) hn ?_
      refine lv_icmp_ge (tgt := 33) hx hb d_PR_oneOf_7 (by decide) (fun c7 => ?_) (fun c7 => ?_)
      · have c7 : n ≤ i := (nI_leI (a := n) (b := i) (by omega) (by omega)).mp c7
        refine lv_iconst (v := (-1)) hx hb d_PR_oneOf_33 (by decide) ?_
        exact hret (-1) _ _ d_PR_oneOf_34 ((lk_none n (fun j h => hno j (by omega))).symm) 
      · have c7 : ¬ n ≤ i := fun h => c7 ((nI_leI (a := n) (b := i) (by omega) (by omega)).mpr h)
        refine lv_aload_n hx hb d_PR_oneOf_10 rfl (lv_at hl 0 rfl) ?_
        refine g_PR_15_2 M hI d_PR_oneOf_11 ?_
        refine lv_iload_n hx hb d_PR_oneOf_14 rfl (lv_at hl 2 rfl) ?_
        refine al_21 M hI i rfl (by omega) d_PR_oneOf_15 ?_
        refine lv_iload_n hx hb d_PR_oneOf_16 rfl (lv_at hl 1 rfl) ?_
        refine lv_icmp_ne (tgt := 27) hx hb d_PR_oneOf_17 (by decide) (fun c17 => ?_) (fun c17 => ?_)
        · refine lv_iinc (v := nI (i + 1)) (lv' := [(2, .int (nI (i + 1))), (0, .ref (ad 2)), (1, .int x)]) hx hb d_PR_oneOf_27 hl (k := 2) rfl (nI_add _ 1) (by decide) rfl (fun ls hl => ?_)
          refine lv_goto (tgt := 2) hx hb d_PR_oneOf_30 (by decide) ?_
          exact ih2 (i + 1) (by omega) (by first | assumption | omega) (fun j h => by rcases Nat.lt_or_ge j i with q | q; exact hno j q; rw [show j = i by omega]; exact c17) _ (lv_sub hl [1, 2, 0] rfl)
        · refine lv_aload_n hx hb d_PR_oneOf_20 rfl (lv_at hl 0 rfl) ?_
          refine g_PR_9_2 M hI d_PR_oneOf_21 ?_
          refine lv_iload_n hx hb d_PR_oneOf_24 rfl (lv_at hl 2 rfl) ?_
          refine al_20 M hI i rfl (by omega) d_PR_oneOf_25 ?_
          exact hret (ar 20 i) _ _ d_PR_oneOf_26 ((lk_at (i := i) c17 n (by omega) (fun j h q => hd_oneOf j i h (by omega) (q.trans c17.symm))).symm) 
  exact L2 _ 0 (Nat.lt_succ_self _) (by first | assumption | omega) (fun j h => absurd h (Nat.not_lt_zero j)) _ (lv_sub hl [1, 2, 0] rfl)
abbrev rm_PR_partnerOf_c_PR_partnerOf_2_p : Room := { frames := 1, cells := 0, slots := 0, locals := 22 }
set_option maxHeartbeats 4000000 in
set_option maxRecDepth 100000 in
theorem c_PR_partnerOf_2_p (l : Launch) (g : Geo) (ad : Nat → Nat) (ar : Nat → Nat → Int32) (fl : Nat → Int32) (x : Int32) (n : Nat) (hn : fl 4 = nI n) (hN : n ≤ 40) (hd_otherOf : dst n (ar 20)) (hd_oneOf : dst n (ar 21)) : cPi l y_PR_partnerOf (.code y_PR_partnerOf b_PR_partnerOf 3 (some .int) :: gw) rm_PR_partnerOf_c_PR_partnerOf_2_p g [.ref (ad 2), .int x] (cw g ad ar fl) (fun (r : Int32) => r = ptn n (ar 20) (ar 21) x) := by
  refine cPi_of (by decide) (Nat.le_of_ble_eq_true rfl) ?_
  intro p e s m below meth c A Q ls M hret hl hI
  have M : MC p s m ([.ref (ad 2), .int x] : List Value).toArray meth c R_PR b_PR_partnerOf 3 := M
  have hl : lv_has ls 3 [(0, .ref (ad 2)), (1, .int x)] := hl
  generalize ([.ref (ad 2), .int x] : List Value).toArray = args at M hret ⊢
  have hx := M.1
  have hb := M.2.1
  refine lv_aload_n hx hb d_PR_partnerOf_0 rfl (lv_at hl 0 rfl) ?_
  refine lv_iload_n hx hb d_PR_partnerOf_1 rfl (lv_at hl 1 rfl) ?_
  refine q_callpiV [.int x] M hI (c_PR_otherOf_2_p l g ad ar fl x n (by first | exact hn | assumption | omega | rfl) (by first | exact hN | assumption | omega | rfl) (by first | exact hd_otherOf | assumption | omega | rfl)) ok_PR_otherOf m3_10 m3_11 m3_12 2 rfl rfl rfl rfl hl.1 ⟨rfl, rfl⟩ ⟨Nat.le_of_ble_eq_true rfl, Nat.le_of_ble_eq_true rfl⟩ (Nat.le_of_ble_eq_true rfl) ⟨Nat.le_of_ble_eq_true rfl, Nat.le_of_ble_eq_true rfl⟩ d_PR_partnerOf_2 (fun r2 hp2 => ?_)
  refine q_as (y := lk (ar 20) (ar 21) x n) hp2 ?_
  refine lv_istore_n (lv' := [(2, .int (lk (ar 20) (ar 21) x n)), (0, .ref (ad 2)), (1, .int x)]) hx hb d_PR_partnerOf_5 rfl hl (by decide) rfl (fun ls hl => ?_)
  refine lv_iload_n hx hb d_PR_partnerOf_6 rfl (lv_at hl 0 rfl) ?_
  refine lv_iconst (v := (-1)) hx hb d_PR_partnerOf_7 (by decide) ?_
  refine lv_icmp_eq (tgt := 15) hx hb d_PR_partnerOf_8 (by decide) (fun c8 => ?_) (fun c8 => ?_)
  · refine lv_aload_n hx hb d_PR_partnerOf_15 rfl (lv_at hl 1 rfl) ?_
    refine lv_iload_n hx hb d_PR_partnerOf_16 rfl (lv_at hl 2 rfl) ?_
    refine q_callpiV [.int x] M hI (c_PR_oneOf_2_p l g ad ar fl x n (by first | exact hn | assumption | omega | rfl) (by first | exact hN | assumption | omega | rfl) (by first | exact hd_oneOf | assumption | omega | rfl)) ok_PR_oneOf m3_14 m3_15 m3_16 2 rfl rfl rfl rfl hl.1 ⟨rfl, rfl⟩ ⟨Nat.le_of_ble_eq_true rfl, Nat.le_of_ble_eq_true rfl⟩ (Nat.le_of_ble_eq_true rfl) ⟨Nat.le_of_ble_eq_true rfl, Nat.le_of_ble_eq_true rfl⟩ d_PR_partnerOf_17 (fun r17 hp17 => ?_)
    refine q_as (y := lk (ar 21) (ar 20) x n) hp17 ?_
    exact hret (lk (ar 21) (ar 20) x n) _ _ d_PR_partnerOf_20 (by unfold ptn; first | rw [if_pos c8] | rw [if_neg c8]) 
  · refine lv_iload_n hx hb d_PR_partnerOf_11 rfl (lv_at hl 0 rfl) ?_
    refine lv_goto (tgt := 20) hx hb d_PR_partnerOf_12 (by decide) ?_
    exact hret (lk (ar 20) (ar 21) x n) _ _ d_PR_partnerOf_20 (by unfold ptn; first | rw [if_pos c8] | rw [if_neg c8]) 
abbrev rm_PR_has_c_PR_has_2_p : Room := { frames := 2, cells := 0, slots := 0, locals := 44 }
set_option maxHeartbeats 4000000 in
set_option maxRecDepth 100000 in
theorem c_PR_has_2_p (l : Launch) (g : Geo) (ad : Nat → Nat) (ar : Nat → Nat → Int32) (fl : Nat → Int32) (x : Int32) (n : Nat) (hn : fl 4 = nI n) (hN : n ≤ 40) (hd_otherOf : dst n (ar 20)) (hd_oneOf : dst n (ar 21)) : cPi l y_PR_has (.code y_PR_has b_PR_has 2 (some .boolean) :: gw) rm_PR_has_c_PR_has_2_p g [.ref (ad 2), .int x] (cw g ad ar fl) (fun (r : Int32) => r = bI (ptn n (ar 20) (ar 21) x ≠ -1)) := by
  refine cPz_of (by decide) (Nat.le_of_ble_eq_true rfl) ?_
  intro p e s m below meth c A Q ls M hret hl hI
  have M : MC p s m ([.ref (ad 2), .int x] : List Value).toArray meth c R_PR b_PR_has 2 := M
  have hl : lv_has ls 2 [(0, .ref (ad 2)), (1, .int x)] := hl
  generalize ([.ref (ad 2), .int x] : List Value).toArray = args at M hret ⊢
  have hx := M.1
  have hb := M.2.1
  refine lv_aload_n hx hb d_PR_has_0 rfl (lv_at hl 0 rfl) ?_
  refine lv_iload_n hx hb d_PR_has_1 rfl (lv_at hl 1 rfl) ?_
  refine q_callpiV [.int x] M hI (c_PR_partnerOf_2_p l g ad ar fl x n (by first | exact hn | assumption | omega | rfl) (by first | exact hN | assumption | omega | rfl) (by first | exact hd_otherOf | assumption | omega | rfl) (by first | exact hd_oneOf | assumption | omega | rfl)) ok_PR_partnerOf m3_6 m3_7 m3_8 2 rfl rfl rfl rfl hl.1 ⟨rfl, rfl⟩ ⟨Nat.le_of_ble_eq_true rfl, Nat.le_of_ble_eq_true rfl⟩ (Nat.le_of_ble_eq_true rfl) ⟨Nat.le_of_ble_eq_true rfl, Nat.le_of_ble_eq_true rfl⟩ d_PR_has_2 (fun r2 hp2 => ?_)
  refine q_as (y := ptn n (ar 20) (ar 21) x) hp2 ?_
  refine lv_iconst (v := (-1)) hx hb d_PR_has_5 (by decide) ?_
  refine lv_icmp_eq (tgt := 13) hx hb d_PR_has_6 (by decide) (fun c6 => ?_) (fun c6 => ?_)
  · refine lv_iconst (v := 0) hx hb d_PR_has_13 (by decide) ?_
    exact hret 0 _ _ d_PR_has_14 (by symm; first | exact bI_t c6 | (apply bI_f; intro q; exact q c6)) (by first | rfl | exact bI_narrow) 
  · refine lv_iconst (v := 1) hx hb d_PR_has_9 (by decide) ?_
    refine lv_goto (tgt := 14) hx hb d_PR_has_10 (by decide) ?_
    exact hret 1 _ _ d_PR_has_14 (by symm; first | exact bI_t c6 | (apply bI_f; intro q; exact q c6)) (by first | rfl | exact bI_narrow) 
abbrev rm_PR_otherOf_c_PR_otherOf_3_p : Room := { frames := 0, cells := 0, slots := 0, locals := 0 }
set_option maxHeartbeats 4000000 in
set_option maxRecDepth 100000 in
theorem c_PR_otherOf_3_p (l : Launch) (g : Geo) (ad : Nat → Nat) (ar : Nat → Nat → Int32) (fl : Nat → Int32) (x : Int32) (n : Nat) (hn : fl 5 = nI n) (hN : n ≤ 40) (hd_otherOf : dst n (ar 22)) : cPi l y_PR_otherOf (.code y_PR_otherOf b_PR_otherOf 3 (some .int) :: gw) rm_PR_otherOf_c_PR_otherOf_3_p g [.ref (ad 3), .int x] (cw g ad ar fl) (fun (r : Int32) => r = lk (ar 22) (ar 23) x n) := by
  refine cPi_of (by decide) (Nat.le_of_ble_eq_true rfl) ?_
  intro p e s m below meth c A Q ls M hret hl hI
  have M : MC p s m ([.ref (ad 3), .int x] : List Value).toArray meth c R_PR b_PR_otherOf 3 := M
  have hl : lv_has ls 3 [(0, .ref (ad 3)), (1, .int x)] := hl
  generalize ([.ref (ad 3), .int x] : List Value).toArray = args at M hret ⊢
  have hx := M.1
  have hb := M.2.1
  refine lv_iconst (v := 0) hx hb d_PR_otherOf_0 (by decide) ?_
  refine lv_istore_n (lv' := [(2, .int 0), (0, .ref (ad 3)), (1, .int x)]) hx hb d_PR_otherOf_1 rfl hl (by decide) rfl (fun ls hl => ?_)
  have L2 : ∀ (fu : Nat) (i : Nat), (n - i) < fu → (i ≤ n) → (∀ j, j < i → ar 22 j ≠ x) → ∀ (ls : Array Slot), lv_has ls 3 [(0, .ref (ad 3)), (1, .int x), (2, .int (nI i))] → W p l e rm_PR_otherOf_c_PR_otherOf_3_p s m args below meth c s.heap [] 0 0 Q (F0 m 2 ls []) := by
    intro fu
    induction fu with
    | zero => intro i hm; exact absurd hm (Nat.not_lt_zero _)
    | succ fu ih2 =>
      intro i hm hi hno ls hl
      refine lv_iload_n hx hb d_PR_otherOf_2 rfl (lv_at hl 2 rfl) ?_
      refine lv_aload_n hx hb d_PR_otherOf_3 rfl (lv_at hl 0 rfl) ?_
      refine g_PR_18_3 M hI d_PR_otherOf_4 ?_
      refine q_as (y := nI n) hn ?_
      refine lv_icmp_ge (tgt := 33) hx hb d_PR_otherOf_7 (by decide) (fun c7 => ?_) (fun c7 => ?_)
      · have c7 : n ≤ i := (nI_leI (a := n) (b := i) (by omega) (by omega)).mp c7
        refine lv_iconst (v := (-1)) hx hb d_PR_otherOf_33 (by decide) ?_
        exact hret (-1) _ _ d_PR_otherOf_34 ((lk_none n (fun j h => hno j (by omega))).symm) 
      · have c7 : ¬ n ≤ i := fun h => c7 ((nI_leI (a := n) (b := i) (by omega) (by omega)).mpr h)
        refine lv_aload_n hx hb d_PR_otherOf_10 rfl (lv_at hl 0 rfl) ?_
        refine g_PR_9_3 M hI d_PR_otherOf_11 ?_
        refine lv_iload_n hx hb d_PR_otherOf_14 rfl (lv_at hl 2 rfl) ?_
        refine al_22 M hI i rfl (by omega) d_PR_otherOf_15 ?_
        refine lv_iload_n hx hb d_PR_otherOf_16 rfl (lv_at hl 1 rfl) ?_
        refine lv_icmp_ne (tgt := 27) hx hb d_PR_otherOf_17 (by decide) (fun c17 => ?_) (fun c17 => ?_)
        · refine lv_iinc (v := nI (i + 1)) (lv' := [(2, .int (nI (i + 1))), (0, .ref (ad 3)), (1, .int x)]) hx hb d_PR_otherOf_27 hl (k := 2) rfl (nI_add _ 1) (by decide) rfl (fun ls hl => ?_)
          refine lv_goto (tgt := 2) hx hb d_PR_otherOf_30 (by decide) ?_
          exact ih2 (i + 1) (by omega) (by first | assumption | omega) (fun j h => by rcases Nat.lt_or_ge j i with q | q; exact hno j q; rw [show j = i by omega]; exact c17) _ (lv_sub hl [1, 2, 0] rfl)
        · refine lv_aload_n hx hb d_PR_otherOf_20 rfl (lv_at hl 0 rfl) ?_
          refine g_PR_15_3 M hI d_PR_otherOf_21 ?_
          refine lv_iload_n hx hb d_PR_otherOf_24 rfl (lv_at hl 2 rfl) ?_
          refine al_23 M hI i rfl (by omega) d_PR_otherOf_25 ?_
          exact hret (ar 23 i) _ _ d_PR_otherOf_26 ((lk_at (i := i) c17 n (by omega) (fun j h q => hd_otherOf j i h (by omega) (q.trans c17.symm))).symm) 
  exact L2 _ 0 (Nat.lt_succ_self _) (by first | assumption | omega) (fun j h => absurd h (Nat.not_lt_zero j)) _ (lv_sub hl [1, 2, 0] rfl)
abbrev rm_PR_oneOf_c_PR_oneOf_3_p : Room := { frames := 0, cells := 0, slots := 0, locals := 0 }
set_option maxHeartbeats 4000000 in
set_option maxRecDepth 100000 in
theorem c_PR_oneOf_3_p (l : Launch) (g : Geo) (ad : Nat → Nat) (ar : Nat → Nat → Int32) (fl : Nat → Int32) (x : Int32) (n : Nat) (hn : fl 5 = nI n) (hN : n ≤ 40) (hd_oneOf : dst n (ar 23)) : cPi l y_PR_oneOf (.code y_PR_oneOf b_PR_oneOf 3 (some .int) :: gw) rm_PR_oneOf_c_PR_oneOf_3_p g [.ref (ad 3), .int x] (cw g ad ar fl) (fun (r : Int32) => r = lk (ar 23) (ar 22) x n) := by
  refine cPi_of (by decide) (Nat.le_of_ble_eq_true rfl) ?_
  intro p e s m below meth c A Q ls M hret hl hI
  have M : MC p s m ([.ref (ad 3), .int x] : List Value).toArray meth c R_PR b_PR_oneOf 3 := M
  have hl : lv_has ls 3 [(0, .ref (ad 3)), (1, .int x)] := hl
  generalize ([.ref (ad 3), .int x] : List Value).toArray = args at M hret ⊢
  have hx := M.1
  have hb := M.2.1
  refine lv_iconst (v := 0) hx hb d_PR_oneOf_0 (by decide) ?_
  refine lv_istore_n (lv' := [(2, .int 0), (0, .ref (ad 3)), (1, .int x)]) hx hb d_PR_oneOf_1 rfl hl (by decide) rfl (fun ls hl => ?_)
  have L2 : ∀ (fu : Nat) (i : Nat), (n - i) < fu → (i ≤ n) → (∀ j, j < i → ar 23 j ≠ x) → ∀ (ls : Array Slot), lv_has ls 3 [(0, .ref (ad 3)), (1, .int x), (2, .int (nI i))] → W p l e rm_PR_oneOf_c_PR_oneOf_3_p s m args below meth c s.heap [] 0 0 Q (F0 m 2 ls []) := by
    intro fu
    induction fu with
    | zero => intro i hm; exact absurd hm (Nat.not_lt_zero _)
    | succ fu ih2 =>
      intro i hm hi hno ls hl
      refine lv_iload_n hx hb d_PR_oneOf_2 rfl (lv_at hl 2 rfl) ?_
      refine lv_aload_n hx hb d_PR_oneOf_3 rfl (lv_at hl 0 rfl) ?_
      refine g_PR_18_3 M hI d_PR_oneOf_4 ?_
      refine q_as (y := nI n) hn ?_
      refine lv_icmp_ge (tgt := 33) hx hb d_PR_oneOf_7 (by decide) (fun c7 => ?_) (fun c7 => ?_)
      · have c7 : n ≤ i := (nI_leI (a := n) (b := i) (by omega) (by omega)).mp c7
        refine lv_iconst (v := (-1)) hx hb d_PR_oneOf_33 (by decide) ?_
        exact hret (-1) _ _ d_PR_oneOf_34 ((lk_none n (fun j h => hno j (by omega))).symm) 
      · have c7 : ¬ n ≤ i := fun h => c7 ((nI_leI (a := n) (b := i) (by omega) (by omega)).mpr h)
        refine lv_aload_n hx hb d_PR_oneOf_10 rfl (lv_at hl 0 rfl) ?_
        refine g_PR_15_3 M hI d_PR_oneOf_11 ?_
        refine lv_iload_n hx hb d_PR_oneOf_14 rfl (lv_at hl 2 rfl) ?_
        refine al_23 M hI i rfl (by omega) d_PR_oneOf_15 ?_
        refine lv_iload_n hx hb d_PR_oneOf_16 rfl (lv_at hl 1 rfl) ?_
        refine lv_icmp_ne (tgt := 27) hx hb d_PR_oneOf_17 (by decide) (fun c17 => ?_) (fun c17 => ?_)
        · refine lv_iinc (v := nI (i + 1)) (lv' := [(2, .int (nI (i + 1))), (0, .ref (ad 3)), (1, .int x)]) hx hb d_PR_oneOf_27 hl (k := 2) rfl (nI_add _ 1) (by decide) rfl (fun ls hl => ?_)
          refine lv_goto (tgt := 2) hx hb d_PR_oneOf_30 (by decide) ?_
          exact ih2 (i + 1) (by omega) (by first | assumption | omega) (fun j h => by rcases Nat.lt_or_ge j i with q | q; exact hno j q; rw [show j = i by omega]; exact c17) _ (lv_sub hl [1, 2, 0] rfl)
        · refine lv_aload_n hx hb d_PR_oneOf_20 rfl (lv_at hl 0 rfl) ?_
          refine g_PR_9_3 M hI d_PR_oneOf_21 ?_
          refine lv_iload_n hx hb d_PR_oneOf_24 rfl (lv_at hl 2 rfl) ?_
          refine al_22 M hI i rfl (by omega) d_PR_oneOf_25 ?_
          exact hret (ar 22 i) _ _ d_PR_oneOf_26 ((lk_at (i := i) c17 n (by omega) (fun j h q => hd_oneOf j i h (by omega) (q.trans c17.symm))).symm) 
  exact L2 _ 0 (Nat.lt_succ_self _) (by first | assumption | omega) (fun j h => absurd h (Nat.not_lt_zero j)) _ (lv_sub hl [1, 2, 0] rfl)
abbrev rm_PR_partnerOf_c_PR_partnerOf_3_p : Room := { frames := 1, cells := 0, slots := 0, locals := 22 }
set_option maxHeartbeats 4000000 in
set_option maxRecDepth 100000 in
theorem c_PR_partnerOf_3_p (l : Launch) (g : Geo) (ad : Nat → Nat) (ar : Nat → Nat → Int32) (fl : Nat → Int32) (x : Int32) (n : Nat) (hn : fl 5 = nI n) (hN : n ≤ 40) (hd_otherOf : dst n (ar 22)) (hd_oneOf : dst n (ar 23)) : cPi l y_PR_partnerOf (.code y_PR_partnerOf b_PR_partnerOf 3 (some .int) :: gw) rm_PR_partnerOf_c_PR_partnerOf_3_p g [.ref (ad 3), .int x] (cw g ad ar fl) (fun (r : Int32) => r = ptn n (ar 22) (ar 23) x) := by
  refine cPi_of (by decide) (Nat.le_of_ble_eq_true rfl) ?_
  intro p e s m below meth c A Q ls M hret hl hI
  have M : MC p s m ([.ref (ad 3), .int x] : List Value).toArray meth c R_PR b_PR_partnerOf 3 := M
  have hl : lv_has ls 3 [(0, .ref (ad 3)), (1, .int x)] := hl
  generalize ([.ref (ad 3), .int x] : List Value).toArray = args at M hret ⊢
  have hx := M.1
  have hb := M.2.1
  refine lv_aload_n hx hb d_PR_partnerOf_0 rfl (lv_at hl 0 rfl) ?_
  refine lv_iload_n hx hb d_PR_partnerOf_1 rfl (lv_at hl 1 rfl) ?_
  refine q_callpiV [.int x] M hI (c_PR_otherOf_3_p l g ad ar fl x n (by first | exact hn | assumption | omega | rfl) (by first | exact hN | assumption | omega | rfl) (by first | exact hd_otherOf | assumption | omega | rfl)) ok_PR_otherOf m3_10 m3_11 m3_12 3 rfl rfl rfl rfl hl.1 ⟨rfl, rfl⟩ ⟨Nat.le_of_ble_eq_true rfl, Nat.le_of_ble_eq_true rfl⟩ (Nat.le_of_ble_eq_true rfl) ⟨Nat.le_of_ble_eq_true rfl, Nat.le_of_ble_eq_true rfl⟩ d_PR_partnerOf_2 (fun r2 hp2 => ?_)
  refine q_as (y := lk (ar 22) (ar 23) x n) hp2 ?_
  refine lv_istore_n (lv' := [(2, .int (lk (ar 22) (ar 23) x n)), (0, .ref (ad 3)), (1, .int x)]) hx hb d_PR_partnerOf_5 rfl hl (by decide) rfl (fun ls hl => ?_)
  refine lv_iload_n hx hb d_PR_partnerOf_6 rfl (lv_at hl 0 rfl) ?_
  refine lv_iconst (v := (-1)) hx hb d_PR_partnerOf_7 (by decide) ?_
  refine lv_icmp_eq (tgt := 15) hx hb d_PR_partnerOf_8 (by decide) (fun c8 => ?_) (fun c8 => ?_)
  · refine lv_aload_n hx hb d_PR_partnerOf_15 rfl (lv_at hl 1 rfl) ?_
    refine lv_iload_n hx hb d_PR_partnerOf_16 rfl (lv_at hl 2 rfl) ?_
    refine q_callpiV [.int x] M hI (c_PR_oneOf_3_p l g ad ar fl x n (by first | exact hn | assumption | omega | rfl) (by first | exact hN | assumption | omega | rfl) (by first | exact hd_oneOf | assumption | omega | rfl)) ok_PR_oneOf m3_14 m3_15 m3_16 3 rfl rfl rfl rfl hl.1 ⟨rfl, rfl⟩ ⟨Nat.le_of_ble_eq_true rfl, Nat.le_of_ble_eq_true rfl⟩ (Nat.le_of_ble_eq_true rfl) ⟨Nat.le_of_ble_eq_true rfl, Nat.le_of_ble_eq_true rfl⟩ d_PR_partnerOf_17 (fun r17 hp17 => ?_)
    refine q_as (y := lk (ar 23) (ar 22) x n) hp17 ?_
    exact hret (lk (ar 23) (ar 22) x n) _ _ d_PR_partnerOf_20 (by unfold ptn; first | rw [if_pos c8] | rw [if_neg c8]) 
  · refine lv_iload_n hx hb d_PR_partnerOf_11 rfl (lv_at hl 0 rfl) ?_
    refine lv_goto (tgt := 20) hx hb d_PR_partnerOf_12 (by decide) ?_
    exact hret (lk (ar 22) (ar 23) x n) _ _ d_PR_partnerOf_20 (by unfold ptn; first | rw [if_pos c8] | rw [if_neg c8]) 
abbrev rm_PR_has_c_PR_has_3_p : Room := { frames := 2, cells := 0, slots := 0, locals := 44 }
set_option maxHeartbeats 4000000 in
set_option maxRecDepth 100000 in
theorem c_PR_has_3_p (l : Launch) (g : Geo) (ad : Nat → Nat) (ar : Nat → Nat → Int32) (fl : Nat → Int32) (x : Int32) (n : Nat) (hn : fl 5 = nI n) (hN : n ≤ 40) (hd_otherOf : dst n (ar 22)) (hd_oneOf : dst n (ar 23)) : cPi l y_PR_has (.code y_PR_has b_PR_has 2 (some .boolean) :: gw) rm_PR_has_c_PR_has_3_p g [.ref (ad 3), .int x] (cw g ad ar fl) (fun (r : Int32) => r = bI (ptn n (ar 22) (ar 23) x ≠ -1)) := by
  refine cPz_of (by decide) (Nat.le_of_ble_eq_true rfl) ?_
  intro p e s m below meth c A Q ls M hret hl hI
  have M : MC p s m ([.ref (ad 3), .int x] : List Value).toArray meth c R_PR b_PR_has 2 := M
  have hl : lv_has ls 2 [(0, .ref (ad 3)), (1, .int x)] := hl
  generalize ([.ref (ad 3), .int x] : List Value).toArray = args at M hret ⊢
  have hx := M.1
  have hb := M.2.1
  refine lv_aload_n hx hb d_PR_has_0 rfl (lv_at hl 0 rfl) ?_
  refine lv_iload_n hx hb d_PR_has_1 rfl (lv_at hl 1 rfl) ?_
  refine q_callpiV [.int x] M hI (c_PR_partnerOf_3_p l g ad ar fl x n (by first | exact hn | assumption | omega | rfl) (by first | exact hN | assumption | omega | rfl) (by first | exact hd_otherOf | assumption | omega | rfl) (by first | exact hd_oneOf | assumption | omega | rfl)) ok_PR_partnerOf m3_6 m3_7 m3_8 3 rfl rfl rfl rfl hl.1 ⟨rfl, rfl⟩ ⟨Nat.le_of_ble_eq_true rfl, Nat.le_of_ble_eq_true rfl⟩ (Nat.le_of_ble_eq_true rfl) ⟨Nat.le_of_ble_eq_true rfl, Nat.le_of_ble_eq_true rfl⟩ d_PR_has_2 (fun r2 hp2 => ?_)
  refine q_as (y := ptn n (ar 22) (ar 23) x) hp2 ?_
  refine lv_iconst (v := (-1)) hx hb d_PR_has_5 (by decide) ?_
  refine lv_icmp_eq (tgt := 13) hx hb d_PR_has_6 (by decide) (fun c6 => ?_) (fun c6 => ?_)
  · refine lv_iconst (v := 0) hx hb d_PR_has_13 (by decide) ?_
    exact hret 0 _ _ d_PR_has_14 (by symm; first | exact bI_t c6 | (apply bI_f; intro q; exact q c6)) (by first | rfl | exact bI_narrow) 
  · refine lv_iconst (v := 1) hx hb d_PR_has_9 (by decide) ?_
    refine lv_goto (tgt := 14) hx hb d_PR_has_10 (by decide) ?_
    exact hret 1 _ _ d_PR_has_14 (by symm; first | exact bI_t c6 | (apply bI_f; intro q; exact q c6)) (by first | rfl | exact bI_narrow) 
abbrev rm_RS_paragraphWith_c_RS_paragraphWith_p : Room := { frames := 0, cells := 0, slots := 0, locals := 0 }
set_option maxHeartbeats 4000000 in
set_option maxRecDepth 100000 in
theorem c_RS_paragraphWith_p (l : Launch) (g : Geo) (ad : Nat → Nat) (ar : Nat → Nat → Int32) (fl : Nat → Int32) (q : Nat) (np : Nat) (E : Nat → Nat) (hnp : fl 6 = nI np) (hnN : np ≤ 2000) (hE : ∀ k, k < np → ar 25 k = nI (E k) ∧ E k ≤ 2000) (hq : q < 2 ^ 31) : cPi l y_RS_paragraphWith (.code y_RS_paragraphWith b_RS_paragraphWith 3 (some .int) :: gw) rm_RS_paragraphWith_c_RS_paragraphWith_p g [.ref (ad 4), .int (nI q)] (cw g ad ar fl) (fun (r : Int32) => r = pwF E q np 0) := by
  refine cPi_of (by decide) (Nat.le_of_ble_eq_true rfl) ?_
  intro p e s m below meth c A Q ls M hret hl hI
  have M : MC p s m ([.ref (ad 4), .int (nI q)] : List Value).toArray meth c R_RS b_RS_paragraphWith 3 := M
  have hl : lv_has ls 3 [(0, .ref (ad 4)), (1, .int (nI q))] := hl
  generalize ([.ref (ad 4), .int (nI q)] : List Value).toArray = args at M hret ⊢
  have hx := M.1
  have hb := M.2.1
  refine lv_iconst (v := 0) hx hb d_RS_paragraphWith_0 (by decide) ?_
  refine lv_istore_n (lv' := [(2, .int 0), (0, .ref (ad 4)), (1, .int (nI q))]) hx hb d_RS_paragraphWith_1 rfl hl (by decide) rfl (fun ls hl => ?_)
  have L2 : ∀ (fu : Nat) (i : Nat), (np - i) < fu → (i ≤ np) → (pwF E q np 0 = pwF E q (np - i) i) → ∀ (ls : Array Slot), lv_has ls 3 [(0, .ref (ad 4)), (1, .int (nI q)), (2, .int (nI i))] → W p l e rm_RS_paragraphWith_c_RS_paragraphWith_p s m args below meth c s.heap [] 0 0 Q (F0 m 2 ls []) := by
    intro fu
    induction fu with
    | zero => intro i hm; exact absurd hm (Nat.not_lt_zero _)
    | succ fu ih2 =>
      intro i hm hi he ls hl
      refine lv_iload_n hx hb d_RS_paragraphWith_2 rfl (lv_at hl 2 rfl) ?_
      refine lv_aload_n hx hb d_RS_paragraphWith_3 rfl (lv_at hl 0 rfl) ?_
      refine g_RS_24 M hI d_RS_paragraphWith_4 ?_
      refine q_as (y := nI np) hnp ?_
      refine lv_icmp_ge (tgt := 28) hx hb d_RS_paragraphWith_7 (by decide) (fun c7 => ?_) (fun c7 => ?_)
      · have c7 : np ≤ i := (nI_leI (a := np) (b := i) (by omega) (by omega)).mp c7
        refine lv_iconst (v := (-1)) hx hb d_RS_paragraphWith_28 (by decide) ?_
        exact hret (-1) _ _ d_RS_paragraphWith_29 (by rw [he, show np - i = 0 by omega]; rfl) 
      · have c7 : ¬ np ≤ i := fun h => c7 ((nI_leI (a := np) (b := i) (by omega) (by omega)).mpr h)
        have hEi := (hE i (by omega)).2
        refine lv_iload_n hx hb d_RS_paragraphWith_10 rfl (lv_at hl 1 rfl) ?_
        refine lv_aload_n hx hb d_RS_paragraphWith_11 rfl (lv_at hl 0 rfl) ?_
        refine g_RS_15 M hI d_RS_paragraphWith_12 ?_
        refine lv_iload_n hx hb d_RS_paragraphWith_15 rfl (lv_at hl 2 rfl) ?_
        refine al_25 M hI i rfl (by omega) d_RS_paragraphWith_16 ?_
        refine q_as (y := nI (E i)) ((hE i (by omega)).1) ?_
        refine lv_icmp_ge (tgt := 22) hx hb d_RS_paragraphWith_17 (by decide) (fun c17 => ?_) (fun c17 => ?_)
        · have c17 : E i ≤ q := (nI_leI (a := E i) (b := q) (by omega) (by omega)).mp c17
          refine lv_iinc (v := nI (i + 1)) (lv' := [(2, .int (nI (i + 1))), (0, .ref (ad 4)), (1, .int (nI q))]) hx hb d_RS_paragraphWith_22 hl (k := 2) rfl (nI_add _ 1) (by decide) rfl (fun ls hl => ?_)
          refine lv_goto (tgt := 2) hx hb d_RS_paragraphWith_25 (by decide) ?_
          exact ih2 (i + 1) (by omega) (by first | assumption | omega) (by rw [he, show np - i = (np - (i + 1)) + 1 by omega]; simp only [pwF]; rw [if_neg (by omega)]) _ (lv_sub hl [1, 2, 0] rfl)
        · have c17 : ¬ E i ≤ q := fun h => c17 ((nI_leI (a := E i) (b := q) (by omega) (by omega)).mpr h)
          refine lv_iload_n hx hb d_RS_paragraphWith_20 rfl (lv_at hl 2 rfl) ?_
          exact hret (nI i) _ _ d_RS_paragraphWith_21 (by rw [he, show np - i = (np - (i + 1)) + 1 by omega]; simp only [pwF]; rw [if_pos (by omega)]) 
  exact L2 _ 0 (Nat.lt_succ_self _) (by first | assumption | omega) (rfl) _ (lv_sub hl [1, 2, 0] rfl)
abbrev rm_BL_needLevels_c_BL_needLevels_p : Room := { frames := 0, cells := 0, slots := 0, locals := 0 }
set_option maxHeartbeats 4000000 in
set_option maxRecDepth 100000 in
theorem c_BL_needLevels_p (l : Launch) (g : Geo) (ad : Nat → Nat) (ar : Nat → Nat → Int32) (fl : Nat → Int32) (h0 : fl 0 = 1) : cPv l y_BL_needLevels (.code y_BL_needLevels b_BL_needLevels 1 none :: gw) rm_BL_needLevels_c_BL_needLevels_p g [.ref (ad 0)] (cw g ad ar fl) := by
  refine cPv_of (by decide) (Nat.le_of_ble_eq_true rfl) ?_
  intro p e s m below meth c A Q ls M hret hl hI
  have M : MC p s m ([.ref (ad 0)] : List Value).toArray meth c R_BL b_BL_needLevels 1 := M
  have hl : lv_has ls 1 [(0, .ref (ad 0))] := hl
  generalize ([.ref (ad 0)] : List Value).toArray = args at M hret ⊢
  have hx := M.1
  have hb := M.2.1
  refine lv_aload_n hx hb d_BL_needLevels_0 rfl (lv_at hl 0 rfl) ?_
  refine g_BL_44 M hI d_BL_needLevels_1 ?_
  refine q_as (y := 1) h0 ?_
  refine lv_if_ne (tgt := 17) hx hb d_BL_needLevels_4 (by decide) (fun c4 => ?_) (fun c4 => ?_)
  · have c4 : ¬ 1 = 0 := fun h => c4 ((nI_eq (a := 1) (b := 0) (by omega) (by omega)).mpr h)
    exact hret _ _ d_BL_needLevels_17 
  · have c4 : 1 = 0 := (nI_eq (a := 1) (b := 0) (by omega) (by omega)).mp c4
    exfalso; omega
abbrev rm_BL_needLevels_c_BL_needLevels_x : Room := { frames := 6, cells := 1, slots := 6, locals := 90 }
set_option maxHeartbeats 4000000 in
set_option maxRecDepth 100000 in
theorem c_BL_needLevels_x (l : Launch) (g : Geo) (ad : Nat → Nat) (ar : Nat → Nat → Int32) (fl : Nat → Int32) (hfl : l.flags = flags0) (h0 : fl 0 = 0) : cMx l y_BL_needLevels (.code y_BL_needLevels b_BL_needLevels 1 none :: gw) rm_BL_needLevels_c_BL_needLevels_x g [.ref (ad 0)] (cw g ad ar fl) ISE 1 6 := by
  refine cMx_of (by decide) (Nat.le_of_ble_eq_true rfl) ?_
  intro p e s m below meth c A ls M hX hnh hl hI
  have M : MC p s m ([.ref (ad 0)] : List Value).toArray meth c R_BL b_BL_needLevels 1 := M
  have hl : lv_has ls 1 [(0, .ref (ad 0))] := hl
  generalize ([.ref (ad 0)] : List Value).toArray = args at M ⊢
  have hx := M.1
  have hb := M.2.1
  refine lv_aload_n hx hb d_BL_needLevels_0 rfl (lv_at hl 0 rfl) ?_
  refine g_BL_44 M hI d_BL_needLevels_1 ?_
  refine q_as (y := 0) h0 ?_
  refine lv_if_ne (tgt := 17) hx hb d_BL_needLevels_4 (by decide) (fun c4 => ?_) (fun c4 => ?_)
  · have c4 : ¬ 0 = 0 := fun h => c4 ((nI_eq (a := 0) (b := 0) (by omega) (by omega)).mpr h)
    exfalso; omega
  · have c4 : 0 = 0 := (nI_eq (a := 0) (b := 0) (by omega) (by omega)).mp c4
    exact q_thS M hX hnh hfl (List.mem_of_getElem? (i := 9) rfl) hl.1 (Nat.le_refl _) (fun _ h => absurd h List.not_mem_nil) ⟨Nat.le_of_ble_eq_true rfl, Nat.le_of_ble_eq_true rfl, Nat.le_of_ble_eq_true rfl, Nat.le_of_ble_eq_true rfl⟩ (Nat.le_of_ble_eq_true rfl) (Nat.le_of_ble_eq_true rfl) d_BL_needLevels_7 d_BL_needLevels_10 d_BL_needLevels_11 d_BL_needLevels_13 d_BL_needLevels_16
abbrev rm_BL_needLine_c_BL_needLine_p : Room := { frames := 0, cells := 0, slots := 0, locals := 0 }
set_option maxHeartbeats 4000000 in
set_option maxRecDepth 100000 in
theorem c_BL_needLine_p (l : Launch) (g : Geo) (ad : Nat → Nat) (ar : Nat → Nat → Int32) (fl : Nat → Int32) (h1 : fl 1 = 1) : cPv l y_BL_needLine (.code y_BL_needLine b_BL_needLine 1 none :: gw) rm_BL_needLine_c_BL_needLine_p g [.ref (ad 0)] (cw g ad ar fl) := by
  refine cPv_of (by decide) (Nat.le_of_ble_eq_true rfl) ?_
  intro p e s m below meth c A Q ls M hret hl hI
  have M : MC p s m ([.ref (ad 0)] : List Value).toArray meth c R_BL b_BL_needLine 1 := M
  have hl : lv_has ls 1 [(0, .ref (ad 0))] := hl
  generalize ([.ref (ad 0)] : List Value).toArray = args at M hret ⊢
  have hx := M.1
  have hb := M.2.1
  refine lv_aload_n hx hb d_BL_needLine_0 rfl (lv_at hl 0 rfl) ?_
  refine g_BL_48 M hI d_BL_needLine_1 ?_
  refine q_as (y := 1) h1 ?_
  refine lv_if_ne (tgt := 17) hx hb d_BL_needLine_4 (by decide) (fun c4 => ?_) (fun c4 => ?_)
  · have c4 : ¬ 1 = 0 := fun h => c4 ((nI_eq (a := 1) (b := 0) (by omega) (by omega)).mpr h)
    exact hret _ _ d_BL_needLine_17 
  · have c4 : 1 = 0 := (nI_eq (a := 1) (b := 0) (by omega) (by omega)).mp c4
    exfalso; omega
abbrev rm_BL_needLine_c_BL_needLine_x : Room := { frames := 6, cells := 1, slots := 6, locals := 90 }
set_option maxHeartbeats 4000000 in
set_option maxRecDepth 100000 in
theorem c_BL_needLine_x (l : Launch) (g : Geo) (ad : Nat → Nat) (ar : Nat → Nat → Int32) (fl : Nat → Int32) (hfl : l.flags = flags0) (h1 : fl 1 = 0) : cMx l y_BL_needLine (.code y_BL_needLine b_BL_needLine 1 none :: gw) rm_BL_needLine_c_BL_needLine_x g [.ref (ad 0)] (cw g ad ar fl) ISE 1 6 := by
  refine cMx_of (by decide) (Nat.le_of_ble_eq_true rfl) ?_
  intro p e s m below meth c A ls M hX hnh hl hI
  have M : MC p s m ([.ref (ad 0)] : List Value).toArray meth c R_BL b_BL_needLine 1 := M
  have hl : lv_has ls 1 [(0, .ref (ad 0))] := hl
  generalize ([.ref (ad 0)] : List Value).toArray = args at M ⊢
  have hx := M.1
  have hb := M.2.1
  refine lv_aload_n hx hb d_BL_needLine_0 rfl (lv_at hl 0 rfl) ?_
  refine g_BL_48 M hI d_BL_needLine_1 ?_
  refine q_as (y := 0) h1 ?_
  refine lv_if_ne (tgt := 17) hx hb d_BL_needLine_4 (by decide) (fun c4 => ?_) (fun c4 => ?_)
  · have c4 : ¬ 0 = 0 := fun h => c4 ((nI_eq (a := 0) (b := 0) (by omega) (by omega)).mpr h)
    exfalso; omega
  · have c4 : 0 = 0 := (nI_eq (a := 0) (b := 0) (by omega) (by omega)).mp c4
    exact q_thS M hX hnh hfl (List.mem_of_getElem? (i := 16) rfl) hl.1 (Nat.le_refl _) (fun _ h => absurd h List.not_mem_nil) ⟨Nat.le_of_ble_eq_true rfl, Nat.le_of_ble_eq_true rfl, Nat.le_of_ble_eq_true rfl, Nat.le_of_ble_eq_true rfl⟩ (Nat.le_of_ble_eq_true rfl) (Nat.le_of_ble_eq_true rfl) d_BL_needLine_7 d_BL_needLine_10 d_BL_needLine_11 d_BL_needLine_13 d_BL_needLine_16
abbrev rm_BL_needPosition_c_BL_needPosition_p : Room := { frames := 0, cells := 0, slots := 0, locals := 0 }
set_option maxHeartbeats 4000000 in
set_option maxRecDepth 100000 in
theorem c_BL_needPosition_p (l : Launch) (g : Geo) (ad : Nat → Nat) (ar : Nat → Nat → Int32) (fl : Nat → Int32) (q : Nat) (cn : Nat) (h2 : fl 2 = nI cn) (hcN : cn ≤ 2000) (hq : q < cn) : cPv l y_BL_needPosition (.code y_BL_needPosition b_BL_needPosition 2 none :: gw) rm_BL_needPosition_c_BL_needPosition_p g [.ref (ad 0), .int (nI q)] (cw g ad ar fl) := by
  refine cPv_of (by decide) (Nat.le_of_ble_eq_true rfl) ?_
  intro p e s m below meth c A Q ls M hret hl hI
  have M : MC p s m ([.ref (ad 0), .int (nI q)] : List Value).toArray meth c R_BL b_BL_needPosition 2 := M
  have hl : lv_has ls 2 [(0, .ref (ad 0)), (1, .int (nI q))] := hl
  generalize ([.ref (ad 0), .int (nI q)] : List Value).toArray = args at M hret ⊢
  have hx := M.1
  have hb := M.2.1
  refine lv_iload_n hx hb d_BL_needPosition_0 rfl (lv_at hl 1 rfl) ?_
  refine lv_if_lt (tgt := 15) hx hb d_BL_needPosition_1 (by decide) (fun c1 => ?_) (fun c1 => ?_)
  · have c1 : q < 0 := (nI_ltI (a := q) (b := 0) (by omega) (by omega)).mp c1
    exfalso; omega
  · have c1 : ¬ q < 0 := fun h => c1 ((nI_ltI (a := q) (b := 0) (by omega) (by omega)).mpr h)
    refine lv_iload_n hx hb d_BL_needPosition_4 rfl (lv_at hl 1 rfl) ?_
    refine lv_aload_n hx hb d_BL_needPosition_5 rfl (lv_at hl 0 rfl) ?_
    refine g_BL_12 M hI d_BL_needPosition_6 ?_
    refine g_BL_86 M hI d_BL_needPosition_9 ?_
    refine q_as (y := nI cn) h2 ?_
    refine lv_icmp_lt (tgt := 25) hx hb d_BL_needPosition_12 (by decide) (fun c12 => ?_) (fun c12 => ?_)
    · have c12 : q < cn := (nI_ltI (a := q) (b := cn) (by omega) (by omega)).mp c12
      exact hret _ _ d_BL_needPosition_25 
    · have c12 : ¬ q < cn := fun h => c12 ((nI_ltI (a := q) (b := cn) (by omega) (by omega)).mpr h)
      exfalso; omega
abbrev rm_BL_needPosition_c_BL_needPosition_x : Room := { frames := 6, cells := 1, slots := 6, locals := 90 }
set_option maxHeartbeats 4000000 in
set_option maxRecDepth 100000 in
theorem c_BL_needPosition_x (l : Launch) (g : Geo) (ad : Nat → Nat) (ar : Nat → Nat → Int32) (fl : Nat → Int32) (x : Int32) (hfl : l.flags = flags0) (cn : Nat) (h2 : fl 2 = nI cn) (hcN : cn ≤ 2000) (hS : x < 0 ∨ nI cn ≤ x) : cMx l y_BL_needPosition (.code y_BL_needPosition b_BL_needPosition 2 none :: gw) rm_BL_needPosition_c_BL_needPosition_x g [.ref (ad 0), .int x] (cw g ad ar fl) IOB 1 6 := by
  refine cMx_of (by decide) (Nat.le_of_ble_eq_true rfl) ?_
  intro p e s m below meth c A ls M hX hnh hl hI
  have M : MC p s m ([.ref (ad 0), .int x] : List Value).toArray meth c R_BL b_BL_needPosition 2 := M
  have hl : lv_has ls 2 [(0, .ref (ad 0)), (1, .int x)] := hl
  generalize ([.ref (ad 0), .int x] : List Value).toArray = args at M ⊢
  have hx := M.1
  have hb := M.2.1
  refine lv_iload_n hx hb d_BL_needPosition_0 rfl (lv_at hl 1 rfl) ?_
  refine lv_if_lt (tgt := 15) hx hb d_BL_needPosition_1 (by decide) (fun c1 => ?_) (fun c1 => ?_)
  · exact q_thI M hX hnh hfl (List.mem_of_getElem? (i := 12) rfl) hl.1 (Nat.le_refl _) (fun _ h => absurd h List.not_mem_nil) ⟨Nat.le_of_ble_eq_true rfl, Nat.le_of_ble_eq_true rfl, Nat.le_of_ble_eq_true rfl, Nat.le_of_ble_eq_true rfl⟩ (Nat.le_of_ble_eq_true rfl) (Nat.le_of_ble_eq_true rfl) d_BL_needPosition_15 d_BL_needPosition_18 d_BL_needPosition_19 d_BL_needPosition_21 d_BL_needPosition_24
  · refine lv_iload_n hx hb d_BL_needPosition_4 rfl (lv_at hl 1 rfl) ?_
    refine lv_aload_n hx hb d_BL_needPosition_5 rfl (lv_at hl 0 rfl) ?_
    refine g_BL_12 M hI d_BL_needPosition_6 ?_
    refine g_BL_86 M hI d_BL_needPosition_9 ?_
    refine q_as (y := nI cn) h2 ?_
    refine lv_icmp_lt (tgt := 25) hx hb d_BL_needPosition_12 (by decide) (fun c12 => ?_) (fun c12 => ?_)
    · exact absurd (hS.resolve_left c1) (Int32.not_le.mpr c12)
    · exact q_thI M hX hnh hfl (List.mem_of_getElem? (i := 12) rfl) hl.1 (Nat.le_refl _) (fun _ h => absurd h List.not_mem_nil) ⟨Nat.le_of_ble_eq_true rfl, Nat.le_of_ble_eq_true rfl, Nat.le_of_ble_eq_true rfl, Nat.le_of_ble_eq_true rfl⟩ (Nat.le_of_ble_eq_true rfl) (Nat.le_of_ble_eq_true rfl) d_BL_needPosition_15 d_BL_needPosition_18 d_BL_needPosition_19 d_BL_needPosition_21 d_BL_needPosition_24
abbrev rm_BL_property_c_BL_property_1 : Room := { frames := 6, cells := 1, slots := 6, locals := 90 }
set_option maxHeartbeats 4000000 in
set_option maxRecDepth 100000 in
theorem c_BL_property_1 (l : Launch) (g : Geo) (ad : Nat → Nat) (ar : Nat → Nat → Int32) (fl : Nat → Int32) (x : Int32) (y : Int32) (z : Int32) (hfl : l.flags = flags0) (rn : Nat) (h3 : fl 3 = nI rn) (hrN : rn ≤ 100) (hS : ¬ prOK x y z) : cMx l y_BL_property (.code y_BL_property b_BL_property 4 none :: gw) rm_BL_property_c_BL_property_1 g [.ref (ad 0), .int x, .int y, .int z] (cw g ad ar fl) IAE 1 6 := by
  refine cMx_of (by decide) (Nat.le_of_ble_eq_true rfl) ?_
  intro p e s m below meth c A ls M hX hnh hl hI
  have M : MC p s m ([.ref (ad 0), .int x, .int y, .int z] : List Value).toArray meth c R_BL b_BL_property 4 := M
  have hl : lv_has ls 4 [(0, .ref (ad 0)), (1, .int x), (2, .int y), (3, .int z)] := hl
  generalize ([.ref (ad 0), .int x, .int y, .int z] : List Value).toArray = args at M ⊢
  have hx := M.1
  have hb := M.2.1
  refine lv_iload_n hx hb d_BL_property_0 rfl (lv_at hl 1 rfl) ?_
  refine q_callpiS [.int x] M hI (c_BL_isCharacter_p l g (cw g ad ar fl) x) ok_BL_isCharacter m2_137 m2_138 rfl rfl hl.1 ⟨rfl, rfl⟩ ⟨Nat.le_of_ble_eq_true rfl, Nat.le_of_ble_eq_true rfl⟩ (Nat.le_of_ble_eq_true rfl) ⟨Nat.le_of_ble_eq_true rfl, Nat.le_of_ble_eq_true rfl⟩ d_BL_property_1 (fun r1 hp1 => ?_)
  refine q_as (y := bI (isch x)) hp1 ?_
  refine lv_if_eq (tgt := 19) hx hb d_BL_property_4 (by decide) (fun c4 => ?_) (fun c4 => ?_)
  · have c4 := bI_eq0.mp c4
    exact q_thA M hX hnh hfl (List.mem_of_getElem? (i := 0) rfl) hl.1 (Nat.le_refl _) (fun _ h => absurd h List.not_mem_nil) ⟨Nat.le_of_ble_eq_true rfl, Nat.le_of_ble_eq_true rfl, Nat.le_of_ble_eq_true rfl, Nat.le_of_ble_eq_true rfl⟩ (Nat.le_of_ble_eq_true rfl) (Nat.le_of_ble_eq_true rfl) d_BL_property_19 d_BL_property_22 d_BL_property_23 d_BL_property_25 d_BL_property_28
  · have c4 := bI_ne0.mp c4
    refine lv_iload_n hx hb d_BL_property_7 rfl (lv_at hl 2 rfl) ?_
    refine q_callpiS [.int y] M hI (c_BL_isCharacter_p l g (cw g ad ar fl) y) ok_BL_isCharacter m2_137 m2_138 rfl rfl hl.1 ⟨rfl, rfl⟩ ⟨Nat.le_of_ble_eq_true rfl, Nat.le_of_ble_eq_true rfl⟩ (Nat.le_of_ble_eq_true rfl) ⟨Nat.le_of_ble_eq_true rfl, Nat.le_of_ble_eq_true rfl⟩ d_BL_property_8 (fun r8 hp8 => ?_)
    refine q_as (y := bI (isch y)) hp8 ?_
    refine lv_if_eq (tgt := 19) hx hb d_BL_property_11 (by decide) (fun c11 => ?_) (fun c11 => ?_)
    · have c11 := bI_eq0.mp c11
      exact q_thA M hX hnh hfl (List.mem_of_getElem? (i := 0) rfl) hl.1 (Nat.le_refl _) (fun _ h => absurd h List.not_mem_nil) ⟨Nat.le_of_ble_eq_true rfl, Nat.le_of_ble_eq_true rfl, Nat.le_of_ble_eq_true rfl, Nat.le_of_ble_eq_true rfl⟩ (Nat.le_of_ble_eq_true rfl) (Nat.le_of_ble_eq_true rfl) d_BL_property_19 d_BL_property_22 d_BL_property_23 d_BL_property_25 d_BL_property_28
    · have c11 := bI_ne0.mp c11
      refine lv_iload_n hx hb d_BL_property_14 rfl (lv_at hl 1 rfl) ?_
      refine lv_iload_n hx hb d_BL_property_15 rfl (lv_at hl 2 rfl) ?_
      refine lv_icmp_le (tgt := 29) hx hb d_BL_property_16 (by decide) (fun c16 => ?_) (fun c16 => ?_)
      · refine lv_iload_n hx hb d_BL_property_29 rfl (lv_at hl 3 rfl) ?_
        refine lv_if_lt (tgt := 39) hx hb d_BL_property_30 (by decide) (fun c30 => ?_) (fun c30 => ?_)
        · exact q_thA M hX hnh hfl (List.mem_of_getElem? (i := 1) rfl) hl.1 (Nat.le_refl _) (fun _ h => absurd h List.not_mem_nil) ⟨Nat.le_of_ble_eq_true rfl, Nat.le_of_ble_eq_true rfl, Nat.le_of_ble_eq_true rfl, Nat.le_of_ble_eq_true rfl⟩ (Nat.le_of_ble_eq_true rfl) (Nat.le_of_ble_eq_true rfl) d_BL_property_39 d_BL_property_42 d_BL_property_43 d_BL_property_45 d_BL_property_48
        · refine lv_iload_n hx hb d_BL_property_33 rfl (lv_at hl 3 rfl) ?_
          refine lv_bipush (v := 22) hx hb d_BL_property_34 (by decide) ?_
          refine lv_icmp_le (tgt := 49) hx hb d_BL_property_36 (by decide) (fun c36 => ?_) (fun c36 => ?_)
          · exact absurd ⟨c4, c11, Int32.not_lt.mpr c16, c30, Int32.not_lt.mpr c36⟩ hS
          · exact q_thA M hX hnh hfl (List.mem_of_getElem? (i := 1) rfl) hl.1 (Nat.le_refl _) (fun _ h => absurd h List.not_mem_nil) ⟨Nat.le_of_ble_eq_true rfl, Nat.le_of_ble_eq_true rfl, Nat.le_of_ble_eq_true rfl, Nat.le_of_ble_eq_true rfl⟩ (Nat.le_of_ble_eq_true rfl) (Nat.le_of_ble_eq_true rfl) d_BL_property_39 d_BL_property_42 d_BL_property_43 d_BL_property_45 d_BL_property_48
      · exact q_thA M hX hnh hfl (List.mem_of_getElem? (i := 0) rfl) hl.1 (Nat.le_refl _) (fun _ h => absurd h List.not_mem_nil) ⟨Nat.le_of_ble_eq_true rfl, Nat.le_of_ble_eq_true rfl, Nat.le_of_ble_eq_true rfl, Nat.le_of_ble_eq_true rfl⟩ (Nat.le_of_ble_eq_true rfl) (Nat.le_of_ble_eq_true rfl) d_BL_property_19 d_BL_property_22 d_BL_property_23 d_BL_property_25 d_BL_property_28
abbrev rm_BL_property_c_BL_property_2 : Room := { frames := 6, cells := 1, slots := 6, locals := 90 }
set_option maxHeartbeats 4000000 in
set_option maxRecDepth 100000 in
theorem c_BL_property_2 (l : Launch) (g : Geo) (ad : Nat → Nat) (ar : Nat → Nat → Int32) (fl : Nat → Int32) (x : Int32) (y : Int32) (z : Int32) (hfl : l.flags = flags0) (rn : Nat) (h3 : fl 3 = nI rn) (hrN : rn ≤ 100) (hS : prOK x y z) (hf : rn = 100) : cMx l y_BL_property (.code y_BL_property b_BL_property 4 none :: gw) rm_BL_property_c_BL_property_2 g [.ref (ad 0), .int x, .int y, .int z] (cw g ad ar fl) ISE 1 6 := by
  refine cMx_of (by decide) (Nat.le_of_ble_eq_true rfl) ?_
  intro p e s m below meth c A ls M hX hnh hl hI
  have M : MC p s m ([.ref (ad 0), .int x, .int y, .int z] : List Value).toArray meth c R_BL b_BL_property 4 := M
  have hl : lv_has ls 4 [(0, .ref (ad 0)), (1, .int x), (2, .int y), (3, .int z)] := hl
  generalize ([.ref (ad 0), .int x, .int y, .int z] : List Value).toArray = args at M ⊢
  have hx := M.1
  have hb := M.2.1
  refine lv_iload_n hx hb d_BL_property_0 rfl (lv_at hl 1 rfl) ?_
  refine q_callpiS [.int x] M hI (c_BL_isCharacter_p l g (cw g ad ar fl) x) ok_BL_isCharacter m2_137 m2_138 rfl rfl hl.1 ⟨rfl, rfl⟩ ⟨Nat.le_of_ble_eq_true rfl, Nat.le_of_ble_eq_true rfl⟩ (Nat.le_of_ble_eq_true rfl) ⟨Nat.le_of_ble_eq_true rfl, Nat.le_of_ble_eq_true rfl⟩ d_BL_property_1 (fun r1 hp1 => ?_)
  refine q_as (y := bI (isch x)) hp1 ?_
  refine lv_if_eq (tgt := 19) hx hb d_BL_property_4 (by decide) (fun c4 => ?_) (fun c4 => ?_)
  · have c4 := bI_eq0.mp c4
    exact absurd hS.1 c4
  · have c4 := bI_ne0.mp c4
    refine lv_iload_n hx hb d_BL_property_7 rfl (lv_at hl 2 rfl) ?_
    refine q_callpiS [.int y] M hI (c_BL_isCharacter_p l g (cw g ad ar fl) y) ok_BL_isCharacter m2_137 m2_138 rfl rfl hl.1 ⟨rfl, rfl⟩ ⟨Nat.le_of_ble_eq_true rfl, Nat.le_of_ble_eq_true rfl⟩ (Nat.le_of_ble_eq_true rfl) ⟨Nat.le_of_ble_eq_true rfl, Nat.le_of_ble_eq_true rfl⟩ d_BL_property_8 (fun r8 hp8 => ?_)
    refine q_as (y := bI (isch y)) hp8 ?_
    refine lv_if_eq (tgt := 19) hx hb d_BL_property_11 (by decide) (fun c11 => ?_) (fun c11 => ?_)
    · have c11 := bI_eq0.mp c11
      exact absurd hS.2.1 c11
    · have c11 := bI_ne0.mp c11
      refine lv_iload_n hx hb d_BL_property_14 rfl (lv_at hl 1 rfl) ?_
      refine lv_iload_n hx hb d_BL_property_15 rfl (lv_at hl 2 rfl) ?_
      refine lv_icmp_le (tgt := 29) hx hb d_BL_property_16 (by decide) (fun c16 => ?_) (fun c16 => ?_)
      · refine lv_iload_n hx hb d_BL_property_29 rfl (lv_at hl 3 rfl) ?_
        refine lv_if_lt (tgt := 39) hx hb d_BL_property_30 (by decide) (fun c30 => ?_) (fun c30 => ?_)
        · exact absurd c30 hS.2.2.2.1
        · refine lv_iload_n hx hb d_BL_property_33 rfl (lv_at hl 3 rfl) ?_
          refine lv_bipush (v := 22) hx hb d_BL_property_34 (by decide) ?_
          refine lv_icmp_le (tgt := 49) hx hb d_BL_property_36 (by decide) (fun c36 => ?_) (fun c36 => ?_)
          · refine lv_aload_n hx hb d_BL_property_49 rfl (lv_at hl 0 rfl) ?_
            refine g_BL_12 M hI d_BL_property_50 ?_
            refine g_BL_64 M hI d_BL_property_53 ?_
            refine q_as (y := nI rn) h3 ?_
            refine lv_bipush (v := 100) hx hb d_BL_property_56 (by decide) ?_
            refine lv_icmp_lt (tgt := 71) hx hb d_BL_property_58 (by decide) (fun c58 => ?_) (fun c58 => ?_)
            · have c58 : rn < 100 := (nI_ltI (a := rn) (b := 100) (by omega) (by omega)).mp c58
              exfalso; omega
            · have c58 : ¬ rn < 100 := fun h => c58 ((nI_ltI (a := rn) (b := 100) (by omega) (by omega)).mpr h)
              exact q_thS M hX hnh hfl (List.mem_of_getElem? (i := 2) rfl) hl.1 (Nat.le_refl _) (fun _ h => absurd h List.not_mem_nil) ⟨Nat.le_of_ble_eq_true rfl, Nat.le_of_ble_eq_true rfl, Nat.le_of_ble_eq_true rfl, Nat.le_of_ble_eq_true rfl⟩ (Nat.le_of_ble_eq_true rfl) (Nat.le_of_ble_eq_true rfl) d_BL_property_61 d_BL_property_64 d_BL_property_65 d_BL_property_67 d_BL_property_70
          · exact absurd (Int32.not_le.mp c36) hS.2.2.2.2
      · exact absurd (Int32.not_le.mp c16) hS.2.2.1
abbrev rm_BL_tellPair_c_BL_tellPair_2_1 : Room := { frames := 6, cells := 1, slots := 6, locals := 90 }
set_option maxHeartbeats 4000000 in
set_option maxRecDepth 100000 in
theorem c_BL_tellPair_2_1 (l : Launch) (g : Geo) (ad : Nat → Nat) (ar : Nat → Nat → Int32) (fl : Nat → Int32) (x : Int32) (y : Int32) (hfl : l.flags = flags0) (n : Nat) (hn : fl 4 = nI n) (hN : n ≤ 40) (hd1 : dst n (ar 20)) (hd2 : dst n (ar 21)) (hS : ¬ (isch x ∧ isch y ∧ ¬ x = y ∧ ¬ ptn n (ar 20) (ar 21) x ≠ -1 ∧ ¬ ptn n (ar 20) (ar 21) y ≠ -1)) : cMx l y_BL_tellPair (.code y_BL_tellPair b_BL_tellPair 4 none :: gw) rm_BL_tellPair_c_BL_tellPair_2_1 g [.ref (ad 0), .ref (ad 2), .int x, .int y] (cw g ad ar fl) IAE 1 6 := by
  refine cMx_of (by decide) (Nat.le_of_ble_eq_true rfl) ?_
  intro p e s m below meth c A ls M hX hnh hl hI
  have M : MC p s m ([.ref (ad 0), .ref (ad 2), .int x, .int y] : List Value).toArray meth c R_BL b_BL_tellPair 4 := M
  have hl : lv_has ls 4 [(0, .ref (ad 0)), (1, .ref (ad 2)), (2, .int x), (3, .int y)] := hl
  generalize ([.ref (ad 0), .ref (ad 2), .int x, .int y] : List Value).toArray = args at M ⊢
  have hx := M.1
  have hb := M.2.1
  refine lv_iload_n hx hb d_BL_tellPair_0 rfl (lv_at hl 2 rfl) ?_
  refine q_callpiS [.int x] M hI (c_BL_isCharacter_p l g (cw g ad ar fl) x) ok_BL_isCharacter m2_137 m2_138 rfl rfl hl.1 ⟨rfl, rfl⟩ ⟨Nat.le_of_ble_eq_true rfl, Nat.le_of_ble_eq_true rfl⟩ (Nat.le_of_ble_eq_true rfl) ⟨Nat.le_of_ble_eq_true rfl, Nat.le_of_ble_eq_true rfl⟩ d_BL_tellPair_1 (fun r1 hp1 => ?_)
  refine q_as (y := bI (isch x)) hp1 ?_
  refine lv_if_eq (tgt := 19) hx hb d_BL_tellPair_4 (by decide) (fun c4 => ?_) (fun c4 => ?_)
  · have c4 := bI_eq0.mp c4
    exact q_thA M hX hnh hfl (List.mem_of_getElem? (i := 3) rfl) hl.1 (Nat.le_refl _) (fun _ h => absurd h List.not_mem_nil) ⟨Nat.le_of_ble_eq_true rfl, Nat.le_of_ble_eq_true rfl, Nat.le_of_ble_eq_true rfl, Nat.le_of_ble_eq_true rfl⟩ (Nat.le_of_ble_eq_true rfl) (Nat.le_of_ble_eq_true rfl) d_BL_tellPair_19 d_BL_tellPair_22 d_BL_tellPair_23 d_BL_tellPair_25 d_BL_tellPair_28
  · have c4 := bI_ne0.mp c4
    refine lv_iload_n hx hb d_BL_tellPair_7 rfl (lv_at hl 3 rfl) ?_
    refine q_callpiS [.int y] M hI (c_BL_isCharacter_p l g (cw g ad ar fl) y) ok_BL_isCharacter m2_137 m2_138 rfl rfl hl.1 ⟨rfl, rfl⟩ ⟨Nat.le_of_ble_eq_true rfl, Nat.le_of_ble_eq_true rfl⟩ (Nat.le_of_ble_eq_true rfl) ⟨Nat.le_of_ble_eq_true rfl, Nat.le_of_ble_eq_true rfl⟩ d_BL_tellPair_8 (fun r8 hp8 => ?_)
    refine q_as (y := bI (isch y)) hp8 ?_
    refine lv_if_eq (tgt := 19) hx hb d_BL_tellPair_11 (by decide) (fun c11 => ?_) (fun c11 => ?_)
    · have c11 := bI_eq0.mp c11
      exact q_thA M hX hnh hfl (List.mem_of_getElem? (i := 3) rfl) hl.1 (Nat.le_refl _) (fun _ h => absurd h List.not_mem_nil) ⟨Nat.le_of_ble_eq_true rfl, Nat.le_of_ble_eq_true rfl, Nat.le_of_ble_eq_true rfl, Nat.le_of_ble_eq_true rfl⟩ (Nat.le_of_ble_eq_true rfl) (Nat.le_of_ble_eq_true rfl) d_BL_tellPair_19 d_BL_tellPair_22 d_BL_tellPair_23 d_BL_tellPair_25 d_BL_tellPair_28
    · have c11 := bI_ne0.mp c11
      refine lv_iload_n hx hb d_BL_tellPair_14 rfl (lv_at hl 2 rfl) ?_
      refine lv_iload_n hx hb d_BL_tellPair_15 rfl (lv_at hl 3 rfl) ?_
      refine lv_icmp_ne (tgt := 29) hx hb d_BL_tellPair_16 (by decide) (fun c16 => ?_) (fun c16 => ?_)
      · refine lv_aload_n hx hb d_BL_tellPair_29 rfl (lv_at hl 1 rfl) ?_
        refine lv_iload_n hx hb d_BL_tellPair_30 rfl (lv_at hl 2 rfl) ?_
        refine q_callpiV [.int x] M hI (c_PR_has_2_p l g ad ar fl x n (hn) (hN) (hd1) (hd2)) ok_PR_has m3_2 m3_3 m3_4 2 rfl rfl rfl rfl hl.1 ⟨rfl, rfl⟩ ⟨Nat.le_of_ble_eq_true rfl, Nat.le_of_ble_eq_true rfl⟩ (Nat.le_of_ble_eq_true rfl) ⟨Nat.le_of_ble_eq_true rfl, Nat.le_of_ble_eq_true rfl⟩ d_BL_tellPair_31 (fun r31 hp31 => ?_)
        refine q_as (y := bI (ptn n (ar 20) (ar 21) x ≠ -1)) hp31 ?_
        refine lv_if_ne (tgt := 45) hx hb d_BL_tellPair_34 (by decide) (fun c34 => ?_) (fun c34 => ?_)
        · have c34 := bI_ne0.mp c34
          exact q_thA M hX hnh hfl (List.mem_of_getElem? (i := 4) rfl) hl.1 (Nat.le_refl _) (fun _ h => absurd h List.not_mem_nil) ⟨Nat.le_of_ble_eq_true rfl, Nat.le_of_ble_eq_true rfl, Nat.le_of_ble_eq_true rfl, Nat.le_of_ble_eq_true rfl⟩ (Nat.le_of_ble_eq_true rfl) (Nat.le_of_ble_eq_true rfl) d_BL_tellPair_45 d_BL_tellPair_48 d_BL_tellPair_49 d_BL_tellPair_51 d_BL_tellPair_54
        · have c34 := bI_eq0.mp c34
          refine lv_aload_n hx hb d_BL_tellPair_37 rfl (lv_at hl 1 rfl) ?_
          refine lv_iload_n hx hb d_BL_tellPair_38 rfl (lv_at hl 3 rfl) ?_
          refine q_callpiV [.int y] M hI (c_PR_has_2_p l g ad ar fl y n (hn) (hN) (hd1) (hd2)) ok_PR_has m3_2 m3_3 m3_4 2 rfl rfl rfl rfl hl.1 ⟨rfl, rfl⟩ ⟨Nat.le_of_ble_eq_true rfl, Nat.le_of_ble_eq_true rfl⟩ (Nat.le_of_ble_eq_true rfl) ⟨Nat.le_of_ble_eq_true rfl, Nat.le_of_ble_eq_true rfl⟩ d_BL_tellPair_39 (fun r39 hp39 => ?_)
          refine q_as (y := bI (ptn n (ar 20) (ar 21) y ≠ -1)) hp39 ?_
          refine lv_if_eq (tgt := 55) hx hb d_BL_tellPair_42 (by decide) (fun c42 => ?_) (fun c42 => ?_)
          · have c42 := bI_eq0.mp c42
            exact absurd ⟨c4, c11, c16, c34, c42⟩ hS
          · have c42 := bI_ne0.mp c42
            exact q_thA M hX hnh hfl (List.mem_of_getElem? (i := 4) rfl) hl.1 (Nat.le_refl _) (fun _ h => absurd h List.not_mem_nil) ⟨Nat.le_of_ble_eq_true rfl, Nat.le_of_ble_eq_true rfl, Nat.le_of_ble_eq_true rfl, Nat.le_of_ble_eq_true rfl⟩ (Nat.le_of_ble_eq_true rfl) (Nat.le_of_ble_eq_true rfl) d_BL_tellPair_45 d_BL_tellPair_48 d_BL_tellPair_49 d_BL_tellPair_51 d_BL_tellPair_54
      · exact q_thA M hX hnh hfl (List.mem_of_getElem? (i := 3) rfl) hl.1 (Nat.le_refl _) (fun _ h => absurd h List.not_mem_nil) ⟨Nat.le_of_ble_eq_true rfl, Nat.le_of_ble_eq_true rfl, Nat.le_of_ble_eq_true rfl, Nat.le_of_ble_eq_true rfl⟩ (Nat.le_of_ble_eq_true rfl) (Nat.le_of_ble_eq_true rfl) d_BL_tellPair_19 d_BL_tellPair_22 d_BL_tellPair_23 d_BL_tellPair_25 d_BL_tellPair_28
abbrev rm_BL_tellPair_c_BL_tellPair_2_2 : Room := { frames := 6, cells := 1, slots := 6, locals := 90 }
set_option maxHeartbeats 4000000 in
set_option maxRecDepth 100000 in
theorem c_BL_tellPair_2_2 (l : Launch) (g : Geo) (ad : Nat → Nat) (ar : Nat → Nat → Int32) (fl : Nat → Int32) (x : Int32) (y : Int32) (hfl : l.flags = flags0) (n : Nat) (hn : fl 4 = nI n) (hN : n ≤ 40) (hd1 : dst n (ar 20)) (hd2 : dst n (ar 21)) (hS : (isch x ∧ isch y ∧ ¬ x = y ∧ ¬ ptn n (ar 20) (ar 21) x ≠ -1 ∧ ¬ ptn n (ar 20) (ar 21) y ≠ -1)) (hf : n = 40) : cMx l y_BL_tellPair (.code y_BL_tellPair b_BL_tellPair 4 none :: gw) rm_BL_tellPair_c_BL_tellPair_2_2 g [.ref (ad 0), .ref (ad 2), .int x, .int y] (cw g ad ar fl) ISE 1 6 := by
  refine cMx_of (by decide) (Nat.le_of_ble_eq_true rfl) ?_
  intro p e s m below meth c A ls M hX hnh hl hI
  have M : MC p s m ([.ref (ad 0), .ref (ad 2), .int x, .int y] : List Value).toArray meth c R_BL b_BL_tellPair 4 := M
  have hl : lv_has ls 4 [(0, .ref (ad 0)), (1, .ref (ad 2)), (2, .int x), (3, .int y)] := hl
  generalize ([.ref (ad 0), .ref (ad 2), .int x, .int y] : List Value).toArray = args at M ⊢
  have hx := M.1
  have hb := M.2.1
  refine lv_iload_n hx hb d_BL_tellPair_0 rfl (lv_at hl 2 rfl) ?_
  refine q_callpiS [.int x] M hI (c_BL_isCharacter_p l g (cw g ad ar fl) x) ok_BL_isCharacter m2_137 m2_138 rfl rfl hl.1 ⟨rfl, rfl⟩ ⟨Nat.le_of_ble_eq_true rfl, Nat.le_of_ble_eq_true rfl⟩ (Nat.le_of_ble_eq_true rfl) ⟨Nat.le_of_ble_eq_true rfl, Nat.le_of_ble_eq_true rfl⟩ d_BL_tellPair_1 (fun r1 hp1 => ?_)
  refine q_as (y := bI (isch x)) hp1 ?_
  refine lv_if_eq (tgt := 19) hx hb d_BL_tellPair_4 (by decide) (fun c4 => ?_) (fun c4 => ?_)
  · have c4 := bI_eq0.mp c4
    exact absurd hS.1 c4
  · have c4 := bI_ne0.mp c4
    refine lv_iload_n hx hb d_BL_tellPair_7 rfl (lv_at hl 3 rfl) ?_
    refine q_callpiS [.int y] M hI (c_BL_isCharacter_p l g (cw g ad ar fl) y) ok_BL_isCharacter m2_137 m2_138 rfl rfl hl.1 ⟨rfl, rfl⟩ ⟨Nat.le_of_ble_eq_true rfl, Nat.le_of_ble_eq_true rfl⟩ (Nat.le_of_ble_eq_true rfl) ⟨Nat.le_of_ble_eq_true rfl, Nat.le_of_ble_eq_true rfl⟩ d_BL_tellPair_8 (fun r8 hp8 => ?_)
    refine q_as (y := bI (isch y)) hp8 ?_
    refine lv_if_eq (tgt := 19) hx hb d_BL_tellPair_11 (by decide) (fun c11 => ?_) (fun c11 => ?_)
    · have c11 := bI_eq0.mp c11
      exact absurd hS.2.1 c11
    · have c11 := bI_ne0.mp c11
      refine lv_iload_n hx hb d_BL_tellPair_14 rfl (lv_at hl 2 rfl) ?_
      refine lv_iload_n hx hb d_BL_tellPair_15 rfl (lv_at hl 3 rfl) ?_
      refine lv_icmp_ne (tgt := 29) hx hb d_BL_tellPair_16 (by decide) (fun c16 => ?_) (fun c16 => ?_)
      · refine lv_aload_n hx hb d_BL_tellPair_29 rfl (lv_at hl 1 rfl) ?_
        refine lv_iload_n hx hb d_BL_tellPair_30 rfl (lv_at hl 2 rfl) ?_
        refine q_callpiV [.int x] M hI (c_PR_has_2_p l g ad ar fl x n (hn) (hN) (hd1) (hd2)) ok_PR_has m3_2 m3_3 m3_4 2 rfl rfl rfl rfl hl.1 ⟨rfl, rfl⟩ ⟨Nat.le_of_ble_eq_true rfl, Nat.le_of_ble_eq_true rfl⟩ (Nat.le_of_ble_eq_true rfl) ⟨Nat.le_of_ble_eq_true rfl, Nat.le_of_ble_eq_true rfl⟩ d_BL_tellPair_31 (fun r31 hp31 => ?_)
        refine q_as (y := bI (ptn n (ar 20) (ar 21) x ≠ -1)) hp31 ?_
        refine lv_if_ne (tgt := 45) hx hb d_BL_tellPair_34 (by decide) (fun c34 => ?_) (fun c34 => ?_)
        · have c34 := bI_ne0.mp c34
          exact absurd c34 hS.2.2.2.1
        · have c34 := bI_eq0.mp c34
          refine lv_aload_n hx hb d_BL_tellPair_37 rfl (lv_at hl 1 rfl) ?_
          refine lv_iload_n hx hb d_BL_tellPair_38 rfl (lv_at hl 3 rfl) ?_
          refine q_callpiV [.int y] M hI (c_PR_has_2_p l g ad ar fl y n (hn) (hN) (hd1) (hd2)) ok_PR_has m3_2 m3_3 m3_4 2 rfl rfl rfl rfl hl.1 ⟨rfl, rfl⟩ ⟨Nat.le_of_ble_eq_true rfl, Nat.le_of_ble_eq_true rfl⟩ (Nat.le_of_ble_eq_true rfl) ⟨Nat.le_of_ble_eq_true rfl, Nat.le_of_ble_eq_true rfl⟩ d_BL_tellPair_39 (fun r39 hp39 => ?_)
          refine q_as (y := bI (ptn n (ar 20) (ar 21) y ≠ -1)) hp39 ?_
          refine lv_if_eq (tgt := 55) hx hb d_BL_tellPair_42 (by decide) (fun c42 => ?_) (fun c42 => ?_)
          · have c42 := bI_eq0.mp c42
            refine lv_aload_n hx hb d_BL_tellPair_55 rfl (lv_at hl 1 rfl) ?_
            refine g_BL_174_2 M hI d_BL_tellPair_56 ?_
            refine q_as (y := nI n) hn ?_
            refine lv_bipush (v := 40) hx hb d_BL_tellPair_59 (by decide) ?_
            refine lv_icmp_lt (tgt := 74) hx hb d_BL_tellPair_61 (by decide) (fun c61 => ?_) (fun c61 => ?_)
            · have c61 : n < 40 := (nI_ltI (a := n) (b := 40) (by omega) (by omega)).mp c61
              exfalso; omega
            · have c61 : ¬ n < 40 := fun h => c61 ((nI_ltI (a := n) (b := 40) (by omega) (by omega)).mpr h)
              exact q_thS M hX hnh hfl (List.mem_of_getElem? (i := 5) rfl) hl.1 (Nat.le_refl _) (fun _ h => absurd h List.not_mem_nil) ⟨Nat.le_of_ble_eq_true rfl, Nat.le_of_ble_eq_true rfl, Nat.le_of_ble_eq_true rfl, Nat.le_of_ble_eq_true rfl⟩ (Nat.le_of_ble_eq_true rfl) (Nat.le_of_ble_eq_true rfl) d_BL_tellPair_64 d_BL_tellPair_67 d_BL_tellPair_68 d_BL_tellPair_70 d_BL_tellPair_73
          · have c42 := bI_ne0.mp c42
            exact absurd c42 hS.2.2.2.2
      · exact absurd c16 hS.2.2.1
abbrev rm_BL_bracket_c_BL_bracket_1 : Room := { frames := 7, cells := 1, slots := 6, locals := 113 }
set_option maxHeartbeats 4000000 in
set_option maxRecDepth 100000 in
theorem c_BL_bracket_1 (l : Launch) (g : Geo) (ad : Nat → Nat) (ar : Nat → Nat → Int32) (fl : Nat → Int32) (x : Int32) (y : Int32) (hfl : l.flags = flags0) (n : Nat) (hn : fl 4 = nI n) (hN : n ≤ 40) (hd1 : dst n (ar 20)) (hd2 : dst n (ar 21)) (hS : ¬ (isch x ∧ isch y ∧ ¬ x = y ∧ ¬ ptn n (ar 20) (ar 21) x ≠ -1 ∧ ¬ ptn n (ar 20) (ar 21) y ≠ -1)) : cMx l y_BL_bracket (.code y_BL_bracket b_BL_bracket 3 none :: gw) rm_BL_bracket_c_BL_bracket_1 g [.ref (ad 0), .int x, .int y] (cw g ad ar fl) IAE 1 6 := by
  refine cMx_of (by decide) (Nat.le_of_ble_eq_true rfl) ?_
  intro p e s m below meth c A ls M hX hnh hl hI
  have M : MC p s m ([.ref (ad 0), .int x, .int y] : List Value).toArray meth c R_BL b_BL_bracket 3 := M
  have hl : lv_has ls 3 [(0, .ref (ad 0)), (1, .int x), (2, .int y)] := hl
  generalize ([.ref (ad 0), .int x, .int y] : List Value).toArray = args at M ⊢
  have hx := M.1
  have hb := M.2.1
  refine lv_aload_n hx hb d_BL_bracket_0 rfl (lv_at hl 0 rfl) ?_
  refine lv_aload_n hx hb d_BL_bracket_1 rfl (lv_at hl 0 rfl) ?_
  refine g_BL_19 M hI d_BL_bracket_2 ?_
  refine lv_iload_n hx hb d_BL_bracket_5 rfl (lv_at hl 1 rfl) ?_
  refine lv_iload_n hx hb d_BL_bracket_6 rfl (lv_at hl 2 rfl) ?_
  exact q_callx [.ref (ad 2), .int x, .int y] M hX hnh hI (c_BL_tellPair_2_1 l g ad ar fl x y hfl n (by first | exact hn | assumption | omega | rfl) (by first | exact hN | assumption | omega | rfl) (by first | exact hd1 | assumption | omega | rfl) (by first | exact hd2 | assumption | omega | rfl) (by first | exact hS | assumption | omega | rfl)) ok_BL_tellPair m2_237 m2_239 ms_2 0 rfl rfl rfl rfl hl.1 ⟨rfl, rfl⟩ ⟨Nat.le_of_ble_eq_true rfl, Nat.le_of_ble_eq_true rfl⟩ (Nat.le_of_ble_eq_true rfl) ⟨Nat.le_of_ble_eq_true rfl, Nat.le_of_ble_eq_true rfl⟩ ⟨Nat.le_of_ble_eq_true rfl, Nat.le_of_ble_eq_true rfl⟩ d_BL_bracket_7
abbrev rm_BL_bracket_c_BL_bracket_2 : Room := { frames := 7, cells := 1, slots := 6, locals := 113 }
set_option maxHeartbeats 4000000 in
set_option maxRecDepth 100000 in
theorem c_BL_bracket_2 (l : Launch) (g : Geo) (ad : Nat → Nat) (ar : Nat → Nat → Int32) (fl : Nat → Int32) (x : Int32) (y : Int32) (hfl : l.flags = flags0) (n : Nat) (hn : fl 4 = nI n) (hN : n ≤ 40) (hd1 : dst n (ar 20)) (hd2 : dst n (ar 21)) (hS : (isch x ∧ isch y ∧ ¬ x = y ∧ ¬ ptn n (ar 20) (ar 21) x ≠ -1 ∧ ¬ ptn n (ar 20) (ar 21) y ≠ -1)) (hf : n = 40) : cMx l y_BL_bracket (.code y_BL_bracket b_BL_bracket 3 none :: gw) rm_BL_bracket_c_BL_bracket_2 g [.ref (ad 0), .int x, .int y] (cw g ad ar fl) ISE 1 6 := by
  refine cMx_of (by decide) (Nat.le_of_ble_eq_true rfl) ?_
  intro p e s m below meth c A ls M hX hnh hl hI
  have M : MC p s m ([.ref (ad 0), .int x, .int y] : List Value).toArray meth c R_BL b_BL_bracket 3 := M
  have hl : lv_has ls 3 [(0, .ref (ad 0)), (1, .int x), (2, .int y)] := hl
  generalize ([.ref (ad 0), .int x, .int y] : List Value).toArray = args at M ⊢
  have hx := M.1
  have hb := M.2.1
  refine lv_aload_n hx hb d_BL_bracket_0 rfl (lv_at hl 0 rfl) ?_
  refine lv_aload_n hx hb d_BL_bracket_1 rfl (lv_at hl 0 rfl) ?_
  refine g_BL_19 M hI d_BL_bracket_2 ?_
  refine lv_iload_n hx hb d_BL_bracket_5 rfl (lv_at hl 1 rfl) ?_
  refine lv_iload_n hx hb d_BL_bracket_6 rfl (lv_at hl 2 rfl) ?_
  exact q_callx [.ref (ad 2), .int x, .int y] M hX hnh hI (c_BL_tellPair_2_2 l g ad ar fl x y hfl n (by first | exact hn | assumption | omega | rfl) (by first | exact hN | assumption | omega | rfl) (by first | exact hd1 | assumption | omega | rfl) (by first | exact hd2 | assumption | omega | rfl) (by first | exact hS | assumption | omega | rfl) (by first | exact hf | assumption | omega | rfl)) ok_BL_tellPair m2_237 m2_239 ms_2 0 rfl rfl rfl rfl hl.1 ⟨rfl, rfl⟩ ⟨Nat.le_of_ble_eq_true rfl, Nat.le_of_ble_eq_true rfl⟩ (Nat.le_of_ble_eq_true rfl) ⟨Nat.le_of_ble_eq_true rfl, Nat.le_of_ble_eq_true rfl⟩ ⟨Nat.le_of_ble_eq_true rfl, Nat.le_of_ble_eq_true rfl⟩ d_BL_bracket_7
abbrev rm_BL_tellPair_c_BL_tellPair_3_1 : Room := { frames := 6, cells := 1, slots := 6, locals := 90 }
set_option maxHeartbeats 4000000 in
set_option maxRecDepth 100000 in
theorem c_BL_tellPair_3_1 (l : Launch) (g : Geo) (ad : Nat → Nat) (ar : Nat → Nat → Int32) (fl : Nat → Int32) (x : Int32) (y : Int32) (hfl : l.flags = flags0) (n : Nat) (hn : fl 5 = nI n) (hN : n ≤ 40) (hd1 : dst n (ar 22)) (hd2 : dst n (ar 23)) (hS : ¬ (isch x ∧ isch y ∧ ¬ x = y ∧ ¬ ptn n (ar 22) (ar 23) x ≠ -1 ∧ ¬ ptn n (ar 22) (ar 23) y ≠ -1)) : cMx l y_BL_tellPair (.code y_BL_tellPair b_BL_tellPair 4 none :: gw) rm_BL_tellPair_c_BL_tellPair_3_1 g [.ref (ad 0), .ref (ad 3), .int x, .int y] (cw g ad ar fl) IAE 1 6 := by
  refine cMx_of (by decide) (Nat.le_of_ble_eq_true rfl) ?_
  intro p e s m below meth c A ls M hX hnh hl hI
  have M : MC p s m ([.ref (ad 0), .ref (ad 3), .int x, .int y] : List Value).toArray meth c R_BL b_BL_tellPair 4 := M
  have hl : lv_has ls 4 [(0, .ref (ad 0)), (1, .ref (ad 3)), (2, .int x), (3, .int y)] := hl
  generalize ([.ref (ad 0), .ref (ad 3), .int x, .int y] : List Value).toArray = args at M ⊢
  have hx := M.1
  have hb := M.2.1
  refine lv_iload_n hx hb d_BL_tellPair_0 rfl (lv_at hl 2 rfl) ?_
  refine q_callpiS [.int x] M hI (c_BL_isCharacter_p l g (cw g ad ar fl) x) ok_BL_isCharacter m2_137 m2_138 rfl rfl hl.1 ⟨rfl, rfl⟩ ⟨Nat.le_of_ble_eq_true rfl, Nat.le_of_ble_eq_true rfl⟩ (Nat.le_of_ble_eq_true rfl) ⟨Nat.le_of_ble_eq_true rfl, Nat.le_of_ble_eq_true rfl⟩ d_BL_tellPair_1 (fun r1 hp1 => ?_)
  refine q_as (y := bI (isch x)) hp1 ?_
  refine lv_if_eq (tgt := 19) hx hb d_BL_tellPair_4 (by decide) (fun c4 => ?_) (fun c4 => ?_)
  · have c4 := bI_eq0.mp c4
    exact q_thA M hX hnh hfl (List.mem_of_getElem? (i := 3) rfl) hl.1 (Nat.le_refl _) (fun _ h => absurd h List.not_mem_nil) ⟨Nat.le_of_ble_eq_true rfl, Nat.le_of_ble_eq_true rfl, Nat.le_of_ble_eq_true rfl, Nat.le_of_ble_eq_true rfl⟩ (Nat.le_of_ble_eq_true rfl) (Nat.le_of_ble_eq_true rfl) d_BL_tellPair_19 d_BL_tellPair_22 d_BL_tellPair_23 d_BL_tellPair_25 d_BL_tellPair_28
  · have c4 := bI_ne0.mp c4
    refine lv_iload_n hx hb d_BL_tellPair_7 rfl (lv_at hl 3 rfl) ?_
    refine q_callpiS [.int y] M hI (c_BL_isCharacter_p l g (cw g ad ar fl) y) ok_BL_isCharacter m2_137 m2_138 rfl rfl hl.1 ⟨rfl, rfl⟩ ⟨Nat.le_of_ble_eq_true rfl, Nat.le_of_ble_eq_true rfl⟩ (Nat.le_of_ble_eq_true rfl) ⟨Nat.le_of_ble_eq_true rfl, Nat.le_of_ble_eq_true rfl⟩ d_BL_tellPair_8 (fun r8 hp8 => ?_)
    refine q_as (y := bI (isch y)) hp8 ?_
    refine lv_if_eq (tgt := 19) hx hb d_BL_tellPair_11 (by decide) (fun c11 => ?_) (fun c11 => ?_)
    · have c11 := bI_eq0.mp c11
      exact q_thA M hX hnh hfl (List.mem_of_getElem? (i := 3) rfl) hl.1 (Nat.le_refl _) (fun _ h => absurd h List.not_mem_nil) ⟨Nat.le_of_ble_eq_true rfl, Nat.le_of_ble_eq_true rfl, Nat.le_of_ble_eq_true rfl, Nat.le_of_ble_eq_true rfl⟩ (Nat.le_of_ble_eq_true rfl) (Nat.le_of_ble_eq_true rfl) d_BL_tellPair_19 d_BL_tellPair_22 d_BL_tellPair_23 d_BL_tellPair_25 d_BL_tellPair_28
    · have c11 := bI_ne0.mp c11
      refine lv_iload_n hx hb d_BL_tellPair_14 rfl (lv_at hl 2 rfl) ?_
      refine lv_iload_n hx hb d_BL_tellPair_15 rfl (lv_at hl 3 rfl) ?_
      refine lv_icmp_ne (tgt := 29) hx hb d_BL_tellPair_16 (by decide) (fun c16 => ?_) (fun c16 => ?_)
      · refine lv_aload_n hx hb d_BL_tellPair_29 rfl (lv_at hl 1 rfl) ?_
        refine lv_iload_n hx hb d_BL_tellPair_30 rfl (lv_at hl 2 rfl) ?_
        refine q_callpiV [.int x] M hI (c_PR_has_3_p l g ad ar fl x n (hn) (hN) (hd1) (hd2)) ok_PR_has m3_2 m3_3 m3_4 3 rfl rfl rfl rfl hl.1 ⟨rfl, rfl⟩ ⟨Nat.le_of_ble_eq_true rfl, Nat.le_of_ble_eq_true rfl⟩ (Nat.le_of_ble_eq_true rfl) ⟨Nat.le_of_ble_eq_true rfl, Nat.le_of_ble_eq_true rfl⟩ d_BL_tellPair_31 (fun r31 hp31 => ?_)
        refine q_as (y := bI (ptn n (ar 22) (ar 23) x ≠ -1)) hp31 ?_
        refine lv_if_ne (tgt := 45) hx hb d_BL_tellPair_34 (by decide) (fun c34 => ?_) (fun c34 => ?_)
        · have c34 := bI_ne0.mp c34
          exact q_thA M hX hnh hfl (List.mem_of_getElem? (i := 4) rfl) hl.1 (Nat.le_refl _) (fun _ h => absurd h List.not_mem_nil) ⟨Nat.le_of_ble_eq_true rfl, Nat.le_of_ble_eq_true rfl, Nat.le_of_ble_eq_true rfl, Nat.le_of_ble_eq_true rfl⟩ (Nat.le_of_ble_eq_true rfl) (Nat.le_of_ble_eq_true rfl) d_BL_tellPair_45 d_BL_tellPair_48 d_BL_tellPair_49 d_BL_tellPair_51 d_BL_tellPair_54
        · have c34 := bI_eq0.mp c34
          refine lv_aload_n hx hb d_BL_tellPair_37 rfl (lv_at hl 1 rfl) ?_
          refine lv_iload_n hx hb d_BL_tellPair_38 rfl (lv_at hl 3 rfl) ?_
          refine q_callpiV [.int y] M hI (c_PR_has_3_p l g ad ar fl y n (hn) (hN) (hd1) (hd2)) ok_PR_has m3_2 m3_3 m3_4 3 rfl rfl rfl rfl hl.1 ⟨rfl, rfl⟩ ⟨Nat.le_of_ble_eq_true rfl, Nat.le_of_ble_eq_true rfl⟩ (Nat.le_of_ble_eq_true rfl) ⟨Nat.le_of_ble_eq_true rfl, Nat.le_of_ble_eq_true rfl⟩ d_BL_tellPair_39 (fun r39 hp39 => ?_)
          refine q_as (y := bI (ptn n (ar 22) (ar 23) y ≠ -1)) hp39 ?_
          refine lv_if_eq (tgt := 55) hx hb d_BL_tellPair_42 (by decide) (fun c42 => ?_) (fun c42 => ?_)
          · have c42 := bI_eq0.mp c42
            exact absurd ⟨c4, c11, c16, c34, c42⟩ hS
          · have c42 := bI_ne0.mp c42
            exact q_thA M hX hnh hfl (List.mem_of_getElem? (i := 4) rfl) hl.1 (Nat.le_refl _) (fun _ h => absurd h List.not_mem_nil) ⟨Nat.le_of_ble_eq_true rfl, Nat.le_of_ble_eq_true rfl, Nat.le_of_ble_eq_true rfl, Nat.le_of_ble_eq_true rfl⟩ (Nat.le_of_ble_eq_true rfl) (Nat.le_of_ble_eq_true rfl) d_BL_tellPair_45 d_BL_tellPair_48 d_BL_tellPair_49 d_BL_tellPair_51 d_BL_tellPair_54
      · exact q_thA M hX hnh hfl (List.mem_of_getElem? (i := 3) rfl) hl.1 (Nat.le_refl _) (fun _ h => absurd h List.not_mem_nil) ⟨Nat.le_of_ble_eq_true rfl, Nat.le_of_ble_eq_true rfl, Nat.le_of_ble_eq_true rfl, Nat.le_of_ble_eq_true rfl⟩ (Nat.le_of_ble_eq_true rfl) (Nat.le_of_ble_eq_true rfl) d_BL_tellPair_19 d_BL_tellPair_22 d_BL_tellPair_23 d_BL_tellPair_25 d_BL_tellPair_28
abbrev rm_BL_tellPair_c_BL_tellPair_3_2 : Room := { frames := 6, cells := 1, slots := 6, locals := 90 }
set_option maxHeartbeats 4000000 in
set_option maxRecDepth 100000 in
theorem c_BL_tellPair_3_2 (l : Launch) (g : Geo) (ad : Nat → Nat) (ar : Nat → Nat → Int32) (fl : Nat → Int32) (x : Int32) (y : Int32) (hfl : l.flags = flags0) (n : Nat) (hn : fl 5 = nI n) (hN : n ≤ 40) (hd1 : dst n (ar 22)) (hd2 : dst n (ar 23)) (hS : (isch x ∧ isch y ∧ ¬ x = y ∧ ¬ ptn n (ar 22) (ar 23) x ≠ -1 ∧ ¬ ptn n (ar 22) (ar 23) y ≠ -1)) (hf : n = 40) : cMx l y_BL_tellPair (.code y_BL_tellPair b_BL_tellPair 4 none :: gw) rm_BL_tellPair_c_BL_tellPair_3_2 g [.ref (ad 0), .ref (ad 3), .int x, .int y] (cw g ad ar fl) ISE 1 6 := by
  refine cMx_of (by decide) (Nat.le_of_ble_eq_true rfl) ?_
  intro p e s m below meth c A ls M hX hnh hl hI
  have M : MC p s m ([.ref (ad 0), .ref (ad 3), .int x, .int y] : List Value).toArray meth c R_BL b_BL_tellPair 4 := M
  have hl : lv_has ls 4 [(0, .ref (ad 0)), (1, .ref (ad 3)), (2, .int x), (3, .int y)] := hl
  generalize ([.ref (ad 0), .ref (ad 3), .int x, .int y] : List Value).toArray = args at M ⊢
  have hx := M.1
  have hb := M.2.1
  refine lv_iload_n hx hb d_BL_tellPair_0 rfl (lv_at hl 2 rfl) ?_
  refine q_callpiS [.int x] M hI (c_BL_isCharacter_p l g (cw g ad ar fl) x) ok_BL_isCharacter m2_137 m2_138 rfl rfl hl.1 ⟨rfl, rfl⟩ ⟨Nat.le_of_ble_eq_true rfl, Nat.le_of_ble_eq_true rfl⟩ (Nat.le_of_ble_eq_true rfl) ⟨Nat.le_of_ble_eq_true rfl, Nat.le_of_ble_eq_true rfl⟩ d_BL_tellPair_1 (fun r1 hp1 => ?_)
  refine q_as (y := bI (isch x)) hp1 ?_
  refine lv_if_eq (tgt := 19) hx hb d_BL_tellPair_4 (by decide) (fun c4 => ?_) (fun c4 => ?_)
  · have c4 := bI_eq0.mp c4
    exact absurd hS.1 c4
  · have c4 := bI_ne0.mp c4
    refine lv_iload_n hx hb d_BL_tellPair_7 rfl (lv_at hl 3 rfl) ?_
    refine q_callpiS [.int y] M hI (c_BL_isCharacter_p l g (cw g ad ar fl) y) ok_BL_isCharacter m2_137 m2_138 rfl rfl hl.1 ⟨rfl, rfl⟩ ⟨Nat.le_of_ble_eq_true rfl, Nat.le_of_ble_eq_true rfl⟩ (Nat.le_of_ble_eq_true rfl) ⟨Nat.le_of_ble_eq_true rfl, Nat.le_of_ble_eq_true rfl⟩ d_BL_tellPair_8 (fun r8 hp8 => ?_)
    refine q_as (y := bI (isch y)) hp8 ?_
    refine lv_if_eq (tgt := 19) hx hb d_BL_tellPair_11 (by decide) (fun c11 => ?_) (fun c11 => ?_)
    · have c11 := bI_eq0.mp c11
      exact absurd hS.2.1 c11
    · have c11 := bI_ne0.mp c11
      refine lv_iload_n hx hb d_BL_tellPair_14 rfl (lv_at hl 2 rfl) ?_
      refine lv_iload_n hx hb d_BL_tellPair_15 rfl (lv_at hl 3 rfl) ?_
      refine lv_icmp_ne (tgt := 29) hx hb d_BL_tellPair_16 (by decide) (fun c16 => ?_) (fun c16 => ?_)
      · refine lv_aload_n hx hb d_BL_tellPair_29 rfl (lv_at hl 1 rfl) ?_
        refine lv_iload_n hx hb d_BL_tellPair_30 rfl (lv_at hl 2 rfl) ?_
        refine q_callpiV [.int x] M hI (c_PR_has_3_p l g ad ar fl x n (hn) (hN) (hd1) (hd2)) ok_PR_has m3_2 m3_3 m3_4 3 rfl rfl rfl rfl hl.1 ⟨rfl, rfl⟩ ⟨Nat.le_of_ble_eq_true rfl, Nat.le_of_ble_eq_true rfl⟩ (Nat.le_of_ble_eq_true rfl) ⟨Nat.le_of_ble_eq_true rfl, Nat.le_of_ble_eq_true rfl⟩ d_BL_tellPair_31 (fun r31 hp31 => ?_)
        refine q_as (y := bI (ptn n (ar 22) (ar 23) x ≠ -1)) hp31 ?_
        refine lv_if_ne (tgt := 45) hx hb d_BL_tellPair_34 (by decide) (fun c34 => ?_) (fun c34 => ?_)
        · have c34 := bI_ne0.mp c34
          exact absurd c34 hS.2.2.2.1
        · have c34 := bI_eq0.mp c34
          refine lv_aload_n hx hb d_BL_tellPair_37 rfl (lv_at hl 1 rfl) ?_
          refine lv_iload_n hx hb d_BL_tellPair_38 rfl (lv_at hl 3 rfl) ?_
          refine q_callpiV [.int y] M hI (c_PR_has_3_p l g ad ar fl y n (hn) (hN) (hd1) (hd2)) ok_PR_has m3_2 m3_3 m3_4 3 rfl rfl rfl rfl hl.1 ⟨rfl, rfl⟩ ⟨Nat.le_of_ble_eq_true rfl, Nat.le_of_ble_eq_true rfl⟩ (Nat.le_of_ble_eq_true rfl) ⟨Nat.le_of_ble_eq_true rfl, Nat.le_of_ble_eq_true rfl⟩ d_BL_tellPair_39 (fun r39 hp39 => ?_)
          refine q_as (y := bI (ptn n (ar 22) (ar 23) y ≠ -1)) hp39 ?_
          refine lv_if_eq (tgt := 55) hx hb d_BL_tellPair_42 (by decide) (fun c42 => ?_) (fun c42 => ?_)
          · have c42 := bI_eq0.mp c42
            refine lv_aload_n hx hb d_BL_tellPair_55 rfl (lv_at hl 1 rfl) ?_
            refine g_BL_174_3 M hI d_BL_tellPair_56 ?_
            refine q_as (y := nI n) hn ?_
            refine lv_bipush (v := 40) hx hb d_BL_tellPair_59 (by decide) ?_
            refine lv_icmp_lt (tgt := 74) hx hb d_BL_tellPair_61 (by decide) (fun c61 => ?_) (fun c61 => ?_)
            · have c61 : n < 40 := (nI_ltI (a := n) (b := 40) (by omega) (by omega)).mp c61
              exfalso; omega
            · have c61 : ¬ n < 40 := fun h => c61 ((nI_ltI (a := n) (b := 40) (by omega) (by omega)).mpr h)
              exact q_thS M hX hnh hfl (List.mem_of_getElem? (i := 5) rfl) hl.1 (Nat.le_refl _) (fun _ h => absurd h List.not_mem_nil) ⟨Nat.le_of_ble_eq_true rfl, Nat.le_of_ble_eq_true rfl, Nat.le_of_ble_eq_true rfl, Nat.le_of_ble_eq_true rfl⟩ (Nat.le_of_ble_eq_true rfl) (Nat.le_of_ble_eq_true rfl) d_BL_tellPair_64 d_BL_tellPair_67 d_BL_tellPair_68 d_BL_tellPair_70 d_BL_tellPair_73
          · have c42 := bI_ne0.mp c42
            exact absurd c42 hS.2.2.2.2
      · exact absurd c16 hS.2.2.1
abbrev rm_BL_mirror_c_BL_mirror_1 : Room := { frames := 7, cells := 1, slots := 6, locals := 113 }
set_option maxHeartbeats 4000000 in
set_option maxRecDepth 100000 in
theorem c_BL_mirror_1 (l : Launch) (g : Geo) (ad : Nat → Nat) (ar : Nat → Nat → Int32) (fl : Nat → Int32) (x : Int32) (y : Int32) (hfl : l.flags = flags0) (n : Nat) (hn : fl 5 = nI n) (hN : n ≤ 40) (hd1 : dst n (ar 22)) (hd2 : dst n (ar 23)) (hS : ¬ (isch x ∧ isch y ∧ ¬ x = y ∧ ¬ ptn n (ar 22) (ar 23) x ≠ -1 ∧ ¬ ptn n (ar 22) (ar 23) y ≠ -1)) : cMx l y_BL_mirror (.code y_BL_mirror b_BL_mirror 3 none :: gw) rm_BL_mirror_c_BL_mirror_1 g [.ref (ad 0), .int x, .int y] (cw g ad ar fl) IAE 1 6 := by
  refine cMx_of (by decide) (Nat.le_of_ble_eq_true rfl) ?_
  intro p e s m below meth c A ls M hX hnh hl hI
  have M : MC p s m ([.ref (ad 0), .int x, .int y] : List Value).toArray meth c R_BL b_BL_mirror 3 := M
  have hl : lv_has ls 3 [(0, .ref (ad 0)), (1, .int x), (2, .int y)] := hl
  generalize ([.ref (ad 0), .int x, .int y] : List Value).toArray = args at M ⊢
  have hx := M.1
  have hb := M.2.1
  refine lv_aload_n hx hb d_BL_mirror_0 rfl (lv_at hl 0 rfl) ?_
  refine lv_aload_n hx hb d_BL_mirror_1 rfl (lv_at hl 0 rfl) ?_
  refine g_BL_23 M hI d_BL_mirror_2 ?_
  refine lv_iload_n hx hb d_BL_mirror_5 rfl (lv_at hl 1 rfl) ?_
  refine lv_iload_n hx hb d_BL_mirror_6 rfl (lv_at hl 2 rfl) ?_
  exact q_callx [.ref (ad 3), .int x, .int y] M hX hnh hI (c_BL_tellPair_3_1 l g ad ar fl x y hfl n (by first | exact hn | assumption | omega | rfl) (by first | exact hN | assumption | omega | rfl) (by first | exact hd1 | assumption | omega | rfl) (by first | exact hd2 | assumption | omega | rfl) (by first | exact hS | assumption | omega | rfl)) ok_BL_tellPair m2_237 m2_239 ms_2 0 rfl rfl rfl rfl hl.1 ⟨rfl, rfl⟩ ⟨Nat.le_of_ble_eq_true rfl, Nat.le_of_ble_eq_true rfl⟩ (Nat.le_of_ble_eq_true rfl) ⟨Nat.le_of_ble_eq_true rfl, Nat.le_of_ble_eq_true rfl⟩ ⟨Nat.le_of_ble_eq_true rfl, Nat.le_of_ble_eq_true rfl⟩ d_BL_mirror_7
abbrev rm_BL_mirror_c_BL_mirror_2 : Room := { frames := 7, cells := 1, slots := 6, locals := 113 }
set_option maxHeartbeats 4000000 in
set_option maxRecDepth 100000 in
theorem c_BL_mirror_2 (l : Launch) (g : Geo) (ad : Nat → Nat) (ar : Nat → Nat → Int32) (fl : Nat → Int32) (x : Int32) (y : Int32) (hfl : l.flags = flags0) (n : Nat) (hn : fl 5 = nI n) (hN : n ≤ 40) (hd1 : dst n (ar 22)) (hd2 : dst n (ar 23)) (hS : (isch x ∧ isch y ∧ ¬ x = y ∧ ¬ ptn n (ar 22) (ar 23) x ≠ -1 ∧ ¬ ptn n (ar 22) (ar 23) y ≠ -1)) (hf : n = 40) : cMx l y_BL_mirror (.code y_BL_mirror b_BL_mirror 3 none :: gw) rm_BL_mirror_c_BL_mirror_2 g [.ref (ad 0), .int x, .int y] (cw g ad ar fl) ISE 1 6 := by
  refine cMx_of (by decide) (Nat.le_of_ble_eq_true rfl) ?_
  intro p e s m below meth c A ls M hX hnh hl hI
  have M : MC p s m ([.ref (ad 0), .int x, .int y] : List Value).toArray meth c R_BL b_BL_mirror 3 := M
  have hl : lv_has ls 3 [(0, .ref (ad 0)), (1, .int x), (2, .int y)] := hl
  generalize ([.ref (ad 0), .int x, .int y] : List Value).toArray = args at M ⊢
  have hx := M.1
  have hb := M.2.1
  refine lv_aload_n hx hb d_BL_mirror_0 rfl (lv_at hl 0 rfl) ?_
  refine lv_aload_n hx hb d_BL_mirror_1 rfl (lv_at hl 0 rfl) ?_
  refine g_BL_23 M hI d_BL_mirror_2 ?_
  refine lv_iload_n hx hb d_BL_mirror_5 rfl (lv_at hl 1 rfl) ?_
  refine lv_iload_n hx hb d_BL_mirror_6 rfl (lv_at hl 2 rfl) ?_
  exact q_callx [.ref (ad 3), .int x, .int y] M hX hnh hI (c_BL_tellPair_3_2 l g ad ar fl x y hfl n (by first | exact hn | assumption | omega | rfl) (by first | exact hN | assumption | omega | rfl) (by first | exact hd1 | assumption | omega | rfl) (by first | exact hd2 | assumption | omega | rfl) (by first | exact hS | assumption | omega | rfl) (by first | exact hf | assumption | omega | rfl)) ok_BL_tellPair m2_237 m2_239 ms_2 0 rfl rfl rfl rfl hl.1 ⟨rfl, rfl⟩ ⟨Nat.le_of_ble_eq_true rfl, Nat.le_of_ble_eq_true rfl⟩ (Nat.le_of_ble_eq_true rfl) ⟨Nat.le_of_ble_eq_true rfl, Nat.le_of_ble_eq_true rfl⟩ ⟨Nat.le_of_ble_eq_true rfl, Nat.le_of_ble_eq_true rfl⟩ d_BL_mirror_7
abbrev rm_BL_resolve_c_BL_resolve_1 : Room := { frames := 6, cells := 1, slots := 6, locals := 90 }
set_option maxHeartbeats 4000000 in
set_option maxRecDepth 100000 in
theorem c_BL_resolve_1 (l : Launch) (g : Geo) (ad : Nat → Nat) (ar : Nat → Nat → Int32) (fl : Nat → Int32) (x : Int32) (hfl : l.flags = flags0) (hS : x < 0 ∨ 2 < x) : cMx l y_BL_resolve (.code y_BL_resolve b_BL_resolve 2 (some .int) :: gw) rm_BL_resolve_c_BL_resolve_1 g [.ref (ad 0), .int x] (cw g ad ar fl) IAE 1 6 := by
  refine cMx_of (by decide) (Nat.le_of_ble_eq_true rfl) ?_
  intro p e s m below meth c A ls M hX hnh hl hI
  have M : MC p s m ([.ref (ad 0), .int x] : List Value).toArray meth c R_BL b_BL_resolve 2 := M
  have hl : lv_has ls 2 [(0, .ref (ad 0)), (1, .int x)] := hl
  generalize ([.ref (ad 0), .int x] : List Value).toArray = args at M ⊢
  have hx := M.1
  have hb := M.2.1
  refine lv_iload_n hx hb d_BL_resolve_0 rfl (lv_at hl 1 rfl) ?_
  refine lv_if_lt (tgt := 9) hx hb d_BL_resolve_1 (by decide) (fun c1 => ?_) (fun c1 => ?_)
  · exact q_thA M hX hnh hfl (List.mem_of_getElem? (i := 8) rfl) hl.1 (Nat.le_refl _) (fun _ h => absurd h List.not_mem_nil) ⟨Nat.le_of_ble_eq_true rfl, Nat.le_of_ble_eq_true rfl, Nat.le_of_ble_eq_true rfl, Nat.le_of_ble_eq_true rfl⟩ (Nat.le_of_ble_eq_true rfl) (Nat.le_of_ble_eq_true rfl) d_BL_resolve_9 d_BL_resolve_12 d_BL_resolve_13 d_BL_resolve_15 d_BL_resolve_18
  · refine lv_iload_n hx hb d_BL_resolve_4 rfl (lv_at hl 1 rfl) ?_
    refine lv_iconst (v := 2) hx hb d_BL_resolve_5 (by decide) ?_
    refine lv_icmp_le (tgt := 19) hx hb d_BL_resolve_6 (by decide) (fun c6 => ?_) (fun c6 => ?_)
    · exact absurd (hS.resolve_left c1) (Int32.not_lt.mpr c6)
    · exact q_thA M hX hnh hfl (List.mem_of_getElem? (i := 8) rfl) hl.1 (Nat.le_refl _) (fun _ h => absurd h List.not_mem_nil) ⟨Nat.le_of_ble_eq_true rfl, Nat.le_of_ble_eq_true rfl, Nat.le_of_ble_eq_true rfl, Nat.le_of_ble_eq_true rfl⟩ (Nat.le_of_ble_eq_true rfl) (Nat.le_of_ble_eq_true rfl) d_BL_resolve_9 d_BL_resolve_12 d_BL_resolve_13 d_BL_resolve_15 d_BL_resolve_18
theorem sw_out4 {y : Int32} (h : y < 0 ∨ 4 ≤ y) : y.toInt < 0 ∨ 3 < y.toInt := by
  rcases h with q | q
  · exact Or.inl (by have := Int32.lt_iff_toInt_lt.mp q; simpa using this)
  · exact Or.inr (by have := Int32.le_iff_toInt_le.mp q; have e : (4 : Int32).toInt = 4 := by decide
                     rw [e] at this; omega)
theorem sw_out3 {y : Int32} (h : y < 0 ∨ 3 ≤ y) : y.toInt < 0 ∨ 2 < y.toInt := by
  rcases h with q | q
  · exact Or.inl (by have := Int32.lt_iff_toInt_lt.mp q; simpa using this)
  · exact Or.inr (by have := Int32.le_iff_toInt_le.mp q; have e : (3 : Int32).toInt = 3 := by decide
                     rw [e] at this; omega)
abbrev rm_BL_paragraph_c_BL_paragraph_1 : Room := { frames := 7, cells := 1, slots := 6, locals := 110 }
set_option maxHeartbeats 4000000 in
set_option maxRecDepth 100000 in
theorem c_BL_paragraph_1 (l : Launch) (g : Geo) (ad : Nat → Nat) (ar : Nat → Nat → Int32) (fl : Nat → Int32) (x : Int32) (y : Int32) (hfl : l.flags = flags0) (h0 : fl 0 = 0) : cMx l y_BL_paragraph (.code y_BL_paragraph b_BL_paragraph 3 (some .int) :: gw) rm_BL_paragraph_c_BL_paragraph_1 g [.ref (ad 0), .int x, .int y] (cw g ad ar fl) ISE 1 6 := by
  refine cMx_of (by decide) (Nat.le_of_ble_eq_true rfl) ?_
  intro p e s m below meth c A ls M hX hnh hl hI
  have M : MC p s m ([.ref (ad 0), .int x, .int y] : List Value).toArray meth c R_BL b_BL_paragraph 3 := M
  have hl : lv_has ls 3 [(0, .ref (ad 0)), (1, .int x), (2, .int y)] := hl
  generalize ([.ref (ad 0), .int x, .int y] : List Value).toArray = args at M ⊢
  have hx := M.1
  have hb := M.2.1
  refine lv_aload_n hx hb d_BL_paragraph_0 rfl (lv_at hl 0 rfl) ?_
  exact q_callx [] M hX hnh hI (c_BL_needLevels_x l g ad ar fl hfl (by first | exact h0 | assumption | omega | rfl)) ok_BL_needLevels m4_44 m4_46 ms_35 0 rfl rfl rfl rfl hl.1 ⟨rfl, rfl⟩ ⟨Nat.le_of_ble_eq_true rfl, Nat.le_of_ble_eq_true rfl⟩ (Nat.le_of_ble_eq_true rfl) ⟨Nat.le_of_ble_eq_true rfl, Nat.le_of_ble_eq_true rfl⟩ ⟨Nat.le_of_ble_eq_true rfl, Nat.le_of_ble_eq_true rfl⟩ d_BL_paragraph_1
abbrev rm_BL_paragraph_c_BL_paragraph_2 : Room := { frames := 6, cells := 1, slots := 6, locals := 90 }
set_option maxHeartbeats 4000000 in
set_option maxRecDepth 100000 in
theorem c_BL_paragraph_2 (l : Launch) (g : Geo) (ad : Nat → Nat) (ar : Nat → Nat → Int32) (fl : Nat → Int32) (x : Int32) (y : Int32) (hfl : l.flags = flags0) (np : Nat) (h0 : fl 0 = 1) (h6 : fl 6 = nI np) (hnP : np ≤ 2000) (hS : x < 0 ∨ nI np ≤ x ∨ y < 0 ∨ 4 ≤ y) : cMx l y_BL_paragraph (.code y_BL_paragraph b_BL_paragraph 3 (some .int) :: gw) rm_BL_paragraph_c_BL_paragraph_2 g [.ref (ad 0), .int x, .int y] (cw g ad ar fl) IOB 1 6 := by
  refine cMx_of (by decide) (Nat.le_of_ble_eq_true rfl) ?_
  intro p e s m below meth c A ls M hX hnh hl hI
  have M : MC p s m ([.ref (ad 0), .int x, .int y] : List Value).toArray meth c R_BL b_BL_paragraph 3 := M
  have hl : lv_has ls 3 [(0, .ref (ad 0)), (1, .int x), (2, .int y)] := hl
  generalize ([.ref (ad 0), .int x, .int y] : List Value).toArray = args at M ⊢
  have hx := M.1
  have hb := M.2.1
  refine lv_aload_n hx hb d_BL_paragraph_0 rfl (lv_at hl 0 rfl) ?_
  refine q_callpvV [] M hI (c_BL_needLevels_p l g ad ar fl (by first | exact h0 | assumption | omega | rfl)) ok_BL_needLevels m4_44 m4_46 ms_35 0 rfl rfl rfl rfl hl.1 ⟨rfl, rfl⟩ ⟨Nat.le_of_ble_eq_true rfl, Nat.le_of_ble_eq_true rfl⟩ (Nat.le_of_ble_eq_true rfl) ⟨Nat.le_of_ble_eq_true rfl, Nat.le_of_ble_eq_true rfl⟩ d_BL_paragraph_1 ?_
  refine lv_iload_n hx hb d_BL_paragraph_4 rfl (lv_at hl 1 rfl) ?_
  refine lv_if_lt (tgt := 19) hx hb d_BL_paragraph_5 (by decide) (fun c5 => ?_) (fun c5 => ?_)
  · exact q_thI M hX hnh hfl (List.mem_of_getElem? (i := 10) rfl) hl.1 (Nat.le_refl _) (fun _ h => absurd h List.not_mem_nil) ⟨Nat.le_of_ble_eq_true rfl, Nat.le_of_ble_eq_true rfl, Nat.le_of_ble_eq_true rfl, Nat.le_of_ble_eq_true rfl⟩ (Nat.le_of_ble_eq_true rfl) (Nat.le_of_ble_eq_true rfl) d_BL_paragraph_19 d_BL_paragraph_22 d_BL_paragraph_23 d_BL_paragraph_25 d_BL_paragraph_28
  · refine lv_iload_n hx hb d_BL_paragraph_8 rfl (lv_at hl 1 rfl) ?_
    refine lv_aload_n hx hb d_BL_paragraph_9 rfl (lv_at hl 0 rfl) ?_
    refine g_BL_31 M hI d_BL_paragraph_10 ?_
    refine g_BL_100 M hI d_BL_paragraph_13 ?_
    refine q_as (y := nI np) h6 ?_
    refine lv_icmp_lt (tgt := 29) hx hb d_BL_paragraph_16 (by decide) (fun c16 => ?_) (fun c16 => ?_)
    · refine lv_iload_n hx hb d_BL_paragraph_29 rfl (lv_at hl 2 rfl) ?_
      refine lv_tableOut (tgt := 100) hx hb d_BL_paragraph_30 (sw_out4 ((hS.resolve_left c5).resolve_left (Int32.not_le.mpr c16))) (by decide) ?_
      exact q_thI M hX hnh hfl (List.mem_of_getElem? (i := 11) rfl) hl.1 (Nat.le_refl _) (fun _ h => absurd h List.not_mem_nil) ⟨Nat.le_of_ble_eq_true rfl, Nat.le_of_ble_eq_true rfl, Nat.le_of_ble_eq_true rfl, Nat.le_of_ble_eq_true rfl⟩ (Nat.le_of_ble_eq_true rfl) (Nat.le_of_ble_eq_true rfl) d_BL_paragraph_100 d_BL_paragraph_103 d_BL_paragraph_104 d_BL_paragraph_106 d_BL_paragraph_109
    · exact q_thI M hX hnh hfl (List.mem_of_getElem? (i := 10) rfl) hl.1 (Nat.le_refl _) (fun _ h => absurd h List.not_mem_nil) ⟨Nat.le_of_ble_eq_true rfl, Nat.le_of_ble_eq_true rfl, Nat.le_of_ble_eq_true rfl, Nat.le_of_ble_eq_true rfl⟩ (Nat.le_of_ble_eq_true rfl) (Nat.le_of_ble_eq_true rfl) d_BL_paragraph_19 d_BL_paragraph_22 d_BL_paragraph_23 d_BL_paragraph_25 d_BL_paragraph_28
abbrev rm_BL_level_c_BL_level_1 : Room := { frames := 7, cells := 1, slots := 6, locals := 110 }
set_option maxHeartbeats 4000000 in
set_option maxRecDepth 100000 in
theorem c_BL_level_1 (l : Launch) (g : Geo) (ad : Nat → Nat) (ar : Nat → Nat → Int32) (fl : Nat → Int32) (x : Int32) (hfl : l.flags = flags0) (h0 : fl 0 = 0) : cMx l y_BL_level (.code y_BL_level b_BL_level 2 (some .int) :: gw) rm_BL_level_c_BL_level_1 g [.ref (ad 0), .int x] (cw g ad ar fl) ISE 1 6 := by
  refine cMx_of (by decide) (Nat.le_of_ble_eq_true rfl) ?_
  intro p e s m below meth c A ls M hX hnh hl hI
  have M : MC p s m ([.ref (ad 0), .int x] : List Value).toArray meth c R_BL b_BL_level 2 := M
  have hl : lv_has ls 2 [(0, .ref (ad 0)), (1, .int x)] := hl
  generalize ([.ref (ad 0), .int x] : List Value).toArray = args at M ⊢
  have hx := M.1
  have hb := M.2.1
  refine lv_aload_n hx hb d_BL_level_0 rfl (lv_at hl 0 rfl) ?_
  exact q_callx [] M hX hnh hI (c_BL_needLevels_x l g ad ar fl hfl (by first | exact h0 | assumption | omega | rfl)) ok_BL_needLevels m4_44 m4_46 ms_35 0 rfl rfl rfl rfl hl.1 ⟨rfl, rfl⟩ ⟨Nat.le_of_ble_eq_true rfl, Nat.le_of_ble_eq_true rfl⟩ (Nat.le_of_ble_eq_true rfl) ⟨Nat.le_of_ble_eq_true rfl, Nat.le_of_ble_eq_true rfl⟩ ⟨Nat.le_of_ble_eq_true rfl, Nat.le_of_ble_eq_true rfl⟩ d_BL_level_1
abbrev rm_BL_level_c_BL_level_2 : Room := { frames := 7, cells := 1, slots := 6, locals := 111 }
set_option maxHeartbeats 4000000 in
set_option maxRecDepth 100000 in
theorem c_BL_level_2 (l : Launch) (g : Geo) (ad : Nat → Nat) (ar : Nat → Nat → Int32) (fl : Nat → Int32) (x : Int32) (hfl : l.flags = flags0) (cn : Nat) (h0 : fl 0 = 1) (h2 : fl 2 = nI cn) (hcN : cn ≤ 2000) (hS : x < 0 ∨ nI cn ≤ x) : cMx l y_BL_level (.code y_BL_level b_BL_level 2 (some .int) :: gw) rm_BL_level_c_BL_level_2 g [.ref (ad 0), .int x] (cw g ad ar fl) IOB 1 6 := by
  refine cMx_of (by decide) (Nat.le_of_ble_eq_true rfl) ?_
  intro p e s m below meth c A ls M hX hnh hl hI
  have M : MC p s m ([.ref (ad 0), .int x] : List Value).toArray meth c R_BL b_BL_level 2 := M
  have hl : lv_has ls 2 [(0, .ref (ad 0)), (1, .int x)] := hl
  generalize ([.ref (ad 0), .int x] : List Value).toArray = args at M ⊢
  have hx := M.1
  have hb := M.2.1
  refine lv_aload_n hx hb d_BL_level_0 rfl (lv_at hl 0 rfl) ?_
  refine q_callpvV [] M hI (c_BL_needLevels_p l g ad ar fl (by first | exact h0 | assumption | omega | rfl)) ok_BL_needLevels m4_44 m4_46 ms_35 0 rfl rfl rfl rfl hl.1 ⟨rfl, rfl⟩ ⟨Nat.le_of_ble_eq_true rfl, Nat.le_of_ble_eq_true rfl⟩ (Nat.le_of_ble_eq_true rfl) ⟨Nat.le_of_ble_eq_true rfl, Nat.le_of_ble_eq_true rfl⟩ d_BL_level_1 ?_
  refine lv_aload_n hx hb d_BL_level_4 rfl (lv_at hl 0 rfl) ?_
  refine lv_iload_n hx hb d_BL_level_5 rfl (lv_at hl 1 rfl) ?_
  exact q_callx [.int x] M hX hnh hI (c_BL_needPosition_x l g ad ar fl x hfl cn (by first | exact h2 | assumption | omega | rfl) (by first | exact hcN | assumption | omega | rfl) (by first | exact hS | assumption | omega | rfl)) ok_BL_needPosition m4_73 m4_75 ms_36 0 rfl rfl rfl rfl hl.1 ⟨rfl, rfl⟩ ⟨Nat.le_of_ble_eq_true rfl, Nat.le_of_ble_eq_true rfl⟩ (Nat.le_of_ble_eq_true rfl) ⟨Nat.le_of_ble_eq_true rfl, Nat.le_of_ble_eq_true rfl⟩ ⟨Nat.le_of_ble_eq_true rfl, Nat.le_of_ble_eq_true rfl⟩ d_BL_level_6
abbrev rm_BL_kind_c_BL_kind_1 : Room := { frames := 7, cells := 1, slots := 6, locals := 110 }
set_option maxHeartbeats 4000000 in
set_option maxRecDepth 100000 in
theorem c_BL_kind_1 (l : Launch) (g : Geo) (ad : Nat → Nat) (ar : Nat → Nat → Int32) (fl : Nat → Int32) (x : Int32) (hfl : l.flags = flags0) (h0 : fl 0 = 0) : cMx l y_BL_kind (.code y_BL_kind b_BL_kind 2 (some .int) :: gw) rm_BL_kind_c_BL_kind_1 g [.ref (ad 0), .int x] (cw g ad ar fl) ISE 1 6 := by
  refine cMx_of (by decide) (Nat.le_of_ble_eq_true rfl) ?_
  intro p e s m below meth c A ls M hX hnh hl hI
  have M : MC p s m ([.ref (ad 0), .int x] : List Value).toArray meth c R_BL b_BL_kind 2 := M
  have hl : lv_has ls 2 [(0, .ref (ad 0)), (1, .int x)] := hl
  generalize ([.ref (ad 0), .int x] : List Value).toArray = args at M ⊢
  have hx := M.1
  have hb := M.2.1
  refine lv_aload_n hx hb d_BL_kind_0 rfl (lv_at hl 0 rfl) ?_
  exact q_callx [] M hX hnh hI (c_BL_needLevels_x l g ad ar fl hfl (by first | exact h0 | assumption | omega | rfl)) ok_BL_needLevels m4_44 m4_46 ms_35 0 rfl rfl rfl rfl hl.1 ⟨rfl, rfl⟩ ⟨Nat.le_of_ble_eq_true rfl, Nat.le_of_ble_eq_true rfl⟩ (Nat.le_of_ble_eq_true rfl) ⟨Nat.le_of_ble_eq_true rfl, Nat.le_of_ble_eq_true rfl⟩ ⟨Nat.le_of_ble_eq_true rfl, Nat.le_of_ble_eq_true rfl⟩ d_BL_kind_1
abbrev rm_BL_kind_c_BL_kind_2 : Room := { frames := 7, cells := 1, slots := 6, locals := 111 }
set_option maxHeartbeats 4000000 in
set_option maxRecDepth 100000 in
theorem c_BL_kind_2 (l : Launch) (g : Geo) (ad : Nat → Nat) (ar : Nat → Nat → Int32) (fl : Nat → Int32) (x : Int32) (hfl : l.flags = flags0) (cn : Nat) (h0 : fl 0 = 1) (h2 : fl 2 = nI cn) (hcN : cn ≤ 2000) (hS : x < 0 ∨ nI cn ≤ x) : cMx l y_BL_kind (.code y_BL_kind b_BL_kind 2 (some .int) :: gw) rm_BL_kind_c_BL_kind_2 g [.ref (ad 0), .int x] (cw g ad ar fl) IOB 1 6 := by
  refine cMx_of (by decide) (Nat.le_of_ble_eq_true rfl) ?_
  intro p e s m below meth c A ls M hX hnh hl hI
  have M : MC p s m ([.ref (ad 0), .int x] : List Value).toArray meth c R_BL b_BL_kind 2 := M
  have hl : lv_has ls 2 [(0, .ref (ad 0)), (1, .int x)] := hl
  generalize ([.ref (ad 0), .int x] : List Value).toArray = args at M ⊢
  have hx := M.1
  have hb := M.2.1
  refine lv_aload_n hx hb d_BL_kind_0 rfl (lv_at hl 0 rfl) ?_
  refine q_callpvV [] M hI (c_BL_needLevels_p l g ad ar fl (by first | exact h0 | assumption | omega | rfl)) ok_BL_needLevels m4_44 m4_46 ms_35 0 rfl rfl rfl rfl hl.1 ⟨rfl, rfl⟩ ⟨Nat.le_of_ble_eq_true rfl, Nat.le_of_ble_eq_true rfl⟩ (Nat.le_of_ble_eq_true rfl) ⟨Nat.le_of_ble_eq_true rfl, Nat.le_of_ble_eq_true rfl⟩ d_BL_kind_1 ?_
  refine lv_aload_n hx hb d_BL_kind_4 rfl (lv_at hl 0 rfl) ?_
  refine lv_iload_n hx hb d_BL_kind_5 rfl (lv_at hl 1 rfl) ?_
  exact q_callx [.int x] M hX hnh hI (c_BL_needPosition_x l g ad ar fl x hfl cn (by first | exact h2 | assumption | omega | rfl) (by first | exact hcN | assumption | omega | rfl) (by first | exact hS | assumption | omega | rfl)) ok_BL_needPosition m4_73 m4_75 ms_36 0 rfl rfl rfl rfl hl.1 ⟨rfl, rfl⟩ ⟨Nat.le_of_ble_eq_true rfl, Nat.le_of_ble_eq_true rfl⟩ (Nat.le_of_ble_eq_true rfl) ⟨Nat.le_of_ble_eq_true rfl, Nat.le_of_ble_eq_true rfl⟩ ⟨Nat.le_of_ble_eq_true rfl, Nat.le_of_ble_eq_true rfl⟩ d_BL_kind_6
abbrev rm_BL_match_c_BL_match_1 : Room := { frames := 7, cells := 1, slots := 6, locals := 110 }
set_option maxHeartbeats 4000000 in
set_option maxRecDepth 100000 in
theorem c_BL_match_1 (l : Launch) (g : Geo) (ad : Nat → Nat) (ar : Nat → Nat → Int32) (fl : Nat → Int32) (x : Int32) (hfl : l.flags = flags0) (h0 : fl 0 = 0) : cMx l y_BL_match (.code y_BL_match b_BL_match 2 (some .int) :: gw) rm_BL_match_c_BL_match_1 g [.ref (ad 0), .int x] (cw g ad ar fl) ISE 1 6 := by
  refine cMx_of (by decide) (Nat.le_of_ble_eq_true rfl) ?_
  intro p e s m below meth c A ls M hX hnh hl hI
  have M : MC p s m ([.ref (ad 0), .int x] : List Value).toArray meth c R_BL b_BL_match 2 := M
  have hl : lv_has ls 2 [(0, .ref (ad 0)), (1, .int x)] := hl
  generalize ([.ref (ad 0), .int x] : List Value).toArray = args at M ⊢
  have hx := M.1
  have hb := M.2.1
  refine lv_aload_n hx hb d_BL_match_0 rfl (lv_at hl 0 rfl) ?_
  exact q_callx [] M hX hnh hI (c_BL_needLevels_x l g ad ar fl hfl (by first | exact h0 | assumption | omega | rfl)) ok_BL_needLevels m4_44 m4_46 ms_35 0 rfl rfl rfl rfl hl.1 ⟨rfl, rfl⟩ ⟨Nat.le_of_ble_eq_true rfl, Nat.le_of_ble_eq_true rfl⟩ (Nat.le_of_ble_eq_true rfl) ⟨Nat.le_of_ble_eq_true rfl, Nat.le_of_ble_eq_true rfl⟩ ⟨Nat.le_of_ble_eq_true rfl, Nat.le_of_ble_eq_true rfl⟩ d_BL_match_1
abbrev rm_BL_match_c_BL_match_2 : Room := { frames := 7, cells := 1, slots := 6, locals := 111 }
set_option maxHeartbeats 4000000 in
set_option maxRecDepth 100000 in
theorem c_BL_match_2 (l : Launch) (g : Geo) (ad : Nat → Nat) (ar : Nat → Nat → Int32) (fl : Nat → Int32) (x : Int32) (hfl : l.flags = flags0) (cn : Nat) (h0 : fl 0 = 1) (h2 : fl 2 = nI cn) (hcN : cn ≤ 2000) (hS : x < 0 ∨ nI cn ≤ x) : cMx l y_BL_match (.code y_BL_match b_BL_match 2 (some .int) :: gw) rm_BL_match_c_BL_match_2 g [.ref (ad 0), .int x] (cw g ad ar fl) IOB 1 6 := by
  refine cMx_of (by decide) (Nat.le_of_ble_eq_true rfl) ?_
  intro p e s m below meth c A ls M hX hnh hl hI
  have M : MC p s m ([.ref (ad 0), .int x] : List Value).toArray meth c R_BL b_BL_match 2 := M
  have hl : lv_has ls 2 [(0, .ref (ad 0)), (1, .int x)] := hl
  generalize ([.ref (ad 0), .int x] : List Value).toArray = args at M ⊢
  have hx := M.1
  have hb := M.2.1
  refine lv_aload_n hx hb d_BL_match_0 rfl (lv_at hl 0 rfl) ?_
  refine q_callpvV [] M hI (c_BL_needLevels_p l g ad ar fl (by first | exact h0 | assumption | omega | rfl)) ok_BL_needLevels m4_44 m4_46 ms_35 0 rfl rfl rfl rfl hl.1 ⟨rfl, rfl⟩ ⟨Nat.le_of_ble_eq_true rfl, Nat.le_of_ble_eq_true rfl⟩ (Nat.le_of_ble_eq_true rfl) ⟨Nat.le_of_ble_eq_true rfl, Nat.le_of_ble_eq_true rfl⟩ d_BL_match_1 ?_
  refine lv_aload_n hx hb d_BL_match_4 rfl (lv_at hl 0 rfl) ?_
  refine lv_iload_n hx hb d_BL_match_5 rfl (lv_at hl 1 rfl) ?_
  exact q_callx [.int x] M hX hnh hI (c_BL_needPosition_x l g ad ar fl x hfl cn (by first | exact h2 | assumption | omega | rfl) (by first | exact hcN | assumption | omega | rfl) (by first | exact hS | assumption | omega | rfl)) ok_BL_needPosition m4_73 m4_75 ms_36 0 rfl rfl rfl rfl hl.1 ⟨rfl, rfl⟩ ⟨Nat.le_of_ble_eq_true rfl, Nat.le_of_ble_eq_true rfl⟩ (Nat.le_of_ble_eq_true rfl) ⟨Nat.le_of_ble_eq_true rfl, Nat.le_of_ble_eq_true rfl⟩ ⟨Nat.le_of_ble_eq_true rfl, Nat.le_of_ble_eq_true rfl⟩ d_BL_match_6
abbrev rm_BL_line_c_BL_line_1 : Room := { frames := 7, cells := 1, slots := 6, locals := 110 }
set_option maxHeartbeats 4000000 in
set_option maxRecDepth 100000 in
theorem c_BL_line_1 (l : Launch) (g : Geo) (ad : Nat → Nat) (ar : Nat → Nat → Int32) (fl : Nat → Int32) (x : Int32) (y : Int32) (hfl : l.flags = flags0) (h0 : fl 0 = 0) : cMx l y_BL_line (.code y_BL_line b_BL_line 4 (some .int) :: gw) rm_BL_line_c_BL_line_1 g [.ref (ad 0), .int x, .int y] (cw g ad ar fl) ISE 1 6 := by
  refine cMx_of (by decide) (Nat.le_of_ble_eq_true rfl) ?_
  intro p e s m below meth c A ls M hX hnh hl hI
  have M : MC p s m ([.ref (ad 0), .int x, .int y] : List Value).toArray meth c R_BL b_BL_line 4 := M
  have hl : lv_has ls 4 [(0, .ref (ad 0)), (1, .int x), (2, .int y)] := hl
  generalize ([.ref (ad 0), .int x, .int y] : List Value).toArray = args at M ⊢
  have hx := M.1
  have hb := M.2.1
  refine lv_aload_n hx hb d_BL_line_0 rfl (lv_at hl 0 rfl) ?_
  exact q_callx [] M hX hnh hI (c_BL_needLevels_x l g ad ar fl hfl (by first | exact h0 | assumption | omega | rfl)) ok_BL_needLevels m4_44 m4_46 ms_35 0 rfl rfl rfl rfl hl.1 ⟨rfl, rfl⟩ ⟨Nat.le_of_ble_eq_true rfl, Nat.le_of_ble_eq_true rfl⟩ (Nat.le_of_ble_eq_true rfl) ⟨Nat.le_of_ble_eq_true rfl, Nat.le_of_ble_eq_true rfl⟩ ⟨Nat.le_of_ble_eq_true rfl, Nat.le_of_ble_eq_true rfl⟩ d_BL_line_1
abbrev rm_BL_line_c_BL_line_2 : Room := { frames := 7, cells := 1, slots := 6, locals := 111 }
set_option maxHeartbeats 4000000 in
set_option maxRecDepth 100000 in
theorem c_BL_line_2 (l : Launch) (g : Geo) (ad : Nat → Nat) (ar : Nat → Nat → Int32) (fl : Nat → Int32) (x : Int32) (y : Int32) (hfl : l.flags = flags0) (cn : Nat) (h0 : fl 0 = 1) (h2 : fl 2 = nI cn) (hcN : cn ≤ 2000) (hS : x < 0 ∨ nI cn ≤ x) : cMx l y_BL_line (.code y_BL_line b_BL_line 4 (some .int) :: gw) rm_BL_line_c_BL_line_2 g [.ref (ad 0), .int x, .int y] (cw g ad ar fl) IOB 1 6 := by
  refine cMx_of (by decide) (Nat.le_of_ble_eq_true rfl) ?_
  intro p e s m below meth c A ls M hX hnh hl hI
  have M : MC p s m ([.ref (ad 0), .int x, .int y] : List Value).toArray meth c R_BL b_BL_line 4 := M
  have hl : lv_has ls 4 [(0, .ref (ad 0)), (1, .int x), (2, .int y)] := hl
  generalize ([.ref (ad 0), .int x, .int y] : List Value).toArray = args at M ⊢
  have hx := M.1
  have hb := M.2.1
  refine lv_aload_n hx hb d_BL_line_0 rfl (lv_at hl 0 rfl) ?_
  refine q_callpvV [] M hI (c_BL_needLevels_p l g ad ar fl (by first | exact h0 | assumption | omega | rfl)) ok_BL_needLevels m4_44 m4_46 ms_35 0 rfl rfl rfl rfl hl.1 ⟨rfl, rfl⟩ ⟨Nat.le_of_ble_eq_true rfl, Nat.le_of_ble_eq_true rfl⟩ (Nat.le_of_ble_eq_true rfl) ⟨Nat.le_of_ble_eq_true rfl, Nat.le_of_ble_eq_true rfl⟩ d_BL_line_1 ?_
  refine lv_aload_n hx hb d_BL_line_4 rfl (lv_at hl 0 rfl) ?_
  refine lv_iload_n hx hb d_BL_line_5 rfl (lv_at hl 1 rfl) ?_
  exact q_callx [.int x] M hX hnh hI (c_BL_needPosition_x l g ad ar fl x hfl cn (by first | exact h2 | assumption | omega | rfl) (by first | exact hcN | assumption | omega | rfl) (by first | exact hS | assumption | omega | rfl)) ok_BL_needPosition m4_73 m4_75 ms_36 0 rfl rfl rfl rfl hl.1 ⟨rfl, rfl⟩ ⟨Nat.le_of_ble_eq_true rfl, Nat.le_of_ble_eq_true rfl⟩ (Nat.le_of_ble_eq_true rfl) ⟨Nat.le_of_ble_eq_true rfl, Nat.le_of_ble_eq_true rfl⟩ ⟨Nat.le_of_ble_eq_true rfl, Nat.le_of_ble_eq_true rfl⟩ d_BL_line_6
abbrev rm_BL_line_c_BL_line_2b : Room := { frames := 6, cells := 1, slots := 6, locals := 90 }
set_option maxHeartbeats 4000000 in
set_option maxRecDepth 100000 in
theorem c_BL_line_2b (l : Launch) (g : Geo) (ad : Nat → Nat) (ar : Nat → Nat → Int32) (fl : Nat → Int32) (fr : Nat) (y : Int32) (hfl : l.flags = flags0) (cn : Nat) (h0 : fl 0 = 1) (h2 : fl 2 = nI cn) (hcN : cn ≤ 2000) (hfr : fr < cn) (hS : y < 1 ∨ nI cn < y) : cMx l y_BL_line (.code y_BL_line b_BL_line 4 (some .int) :: gw) rm_BL_line_c_BL_line_2b g [.ref (ad 0), .int (nI fr), .int y] (cw g ad ar fl) IOB 1 6 := by
  refine cMx_of (by decide) (Nat.le_of_ble_eq_true rfl) ?_
  intro p e s m below meth c A ls M hX hnh hl hI
  have M : MC p s m ([.ref (ad 0), .int (nI fr), .int y] : List Value).toArray meth c R_BL b_BL_line 4 := M
  have hl : lv_has ls 4 [(0, .ref (ad 0)), (1, .int (nI fr)), (2, .int y)] := hl
  generalize ([.ref (ad 0), .int (nI fr), .int y] : List Value).toArray = args at M ⊢
  have hx := M.1
  have hb := M.2.1
  refine lv_aload_n hx hb d_BL_line_0 rfl (lv_at hl 0 rfl) ?_
  refine q_callpvV [] M hI (c_BL_needLevels_p l g ad ar fl (by first | exact h0 | assumption | omega | rfl)) ok_BL_needLevels m4_44 m4_46 ms_35 0 rfl rfl rfl rfl hl.1 ⟨rfl, rfl⟩ ⟨Nat.le_of_ble_eq_true rfl, Nat.le_of_ble_eq_true rfl⟩ (Nat.le_of_ble_eq_true rfl) ⟨Nat.le_of_ble_eq_true rfl, Nat.le_of_ble_eq_true rfl⟩ d_BL_line_1 ?_
  refine lv_aload_n hx hb d_BL_line_4 rfl (lv_at hl 0 rfl) ?_
  refine lv_iload_n hx hb d_BL_line_5 rfl (lv_at hl 1 rfl) ?_
  refine q_callpvV [.int (nI fr)] M hI (c_BL_needPosition_p l g ad ar fl fr cn (by first | exact h2 | assumption | omega | rfl) (by first | exact hcN | assumption | omega | rfl) (hfr)) ok_BL_needPosition m4_73 m4_75 ms_36 0 rfl rfl rfl rfl hl.1 ⟨rfl, rfl⟩ ⟨Nat.le_of_ble_eq_true rfl, Nat.le_of_ble_eq_true rfl⟩ (Nat.le_of_ble_eq_true rfl) ⟨Nat.le_of_ble_eq_true rfl, Nat.le_of_ble_eq_true rfl⟩ d_BL_line_6 ?_
  refine lv_iload_n hx hb d_BL_line_9 rfl (lv_at hl 2 rfl) ?_
  refine lv_iconst (v := 1) hx hb d_BL_line_10 (by decide) ?_
  refine lv_icmp_lt (tgt := 25) hx hb d_BL_line_11 (by decide) (fun c11 => ?_) (fun c11 => ?_)
  · exact q_thI M hX hnh hfl (List.mem_of_getElem? (i := 13) rfl) hl.1 (Nat.le_refl _) (fun _ h => absurd h List.not_mem_nil) ⟨Nat.le_of_ble_eq_true rfl, Nat.le_of_ble_eq_true rfl, Nat.le_of_ble_eq_true rfl, Nat.le_of_ble_eq_true rfl⟩ (Nat.le_of_ble_eq_true rfl) (Nat.le_of_ble_eq_true rfl) d_BL_line_25 d_BL_line_28 d_BL_line_29 d_BL_line_31 d_BL_line_34
  · refine lv_iload_n hx hb d_BL_line_14 rfl (lv_at hl 2 rfl) ?_
    refine lv_aload_n hx hb d_BL_line_15 rfl (lv_at hl 0 rfl) ?_
    refine g_BL_12 M hI d_BL_line_16 ?_
    refine g_BL_86 M hI d_BL_line_19 ?_
    refine q_as (y := nI cn) h2 ?_
    refine lv_icmp_le (tgt := 35) hx hb d_BL_line_22 (by decide) (fun c22 => ?_) (fun c22 => ?_)
    · exact absurd (hS.resolve_left c11) (Int32.not_lt.mpr c22)
    · exact q_thI M hX hnh hfl (List.mem_of_getElem? (i := 13) rfl) hl.1 (Nat.le_refl _) (fun _ h => absurd h List.not_mem_nil) ⟨Nat.le_of_ble_eq_true rfl, Nat.le_of_ble_eq_true rfl, Nat.le_of_ble_eq_true rfl, Nat.le_of_ble_eq_true rfl⟩ (Nat.le_of_ble_eq_true rfl) (Nat.le_of_ble_eq_true rfl) d_BL_line_25 d_BL_line_28 d_BL_line_29 d_BL_line_31 d_BL_line_34
abbrev rm_BL_line_c_BL_line_3 : Room := { frames := 6, cells := 1, slots := 6, locals := 90 }
set_option maxHeartbeats 4000000 in
set_option maxRecDepth 100000 in
theorem c_BL_line_3 (l : Launch) (g : Geo) (ad : Nat → Nat) (ar : Nat → Nat → Int32) (fl : Nat → Int32) (fr : Nat) (to : Nat) (hfl : l.flags = flags0) (cn np : Nat) (E : Nat → Nat) (h0 : fl 0 = 1) (h2 : fl 2 = nI cn) (hcN : cn ≤ 2000) (h6 : fl 6 = nI np) (hnP : np ≤ 2000) (hE : ∀ k, k < np → ar 25 k = nI (E k) ∧ E k ≤ 2000) (hfr : fr < cn) (ht1 : 1 ≤ to) (ht2 : to ≤ cn) (hS : to ≤ fr ∨ pwF E fr np 0 = -1 ∨ ∃ kp, kp < np ∧ pwF E fr np 0 = nI kp ∧ E kp < to) : cMx l y_BL_line (.code y_BL_line b_BL_line 4 (some .int) :: gw) rm_BL_line_c_BL_line_3 g [.ref (ad 0), .int (nI fr), .int (nI to)] (cw g ad ar fl) IAE 1 6 := by
  refine cMx_of (by decide) (Nat.le_of_ble_eq_true rfl) ?_
  intro p e s m below meth c A ls M hX hnh hl hI
  have M : MC p s m ([.ref (ad 0), .int (nI fr), .int (nI to)] : List Value).toArray meth c R_BL b_BL_line 4 := M
  have hl : lv_has ls 4 [(0, .ref (ad 0)), (1, .int (nI fr)), (2, .int (nI to))] := hl
  generalize ([.ref (ad 0), .int (nI fr), .int (nI to)] : List Value).toArray = args at M ⊢
  have hx := M.1
  have hb := M.2.1
  refine lv_aload_n hx hb d_BL_line_0 rfl (lv_at hl 0 rfl) ?_
  refine q_callpvV [] M hI (c_BL_needLevels_p l g ad ar fl (by first | exact h0 | assumption | omega | rfl)) ok_BL_needLevels m4_44 m4_46 ms_35 0 rfl rfl rfl rfl hl.1 ⟨rfl, rfl⟩ ⟨Nat.le_of_ble_eq_true rfl, Nat.le_of_ble_eq_true rfl⟩ (Nat.le_of_ble_eq_true rfl) ⟨Nat.le_of_ble_eq_true rfl, Nat.le_of_ble_eq_true rfl⟩ d_BL_line_1 ?_
  refine lv_aload_n hx hb d_BL_line_4 rfl (lv_at hl 0 rfl) ?_
  refine lv_iload_n hx hb d_BL_line_5 rfl (lv_at hl 1 rfl) ?_
  refine q_callpvV [.int (nI fr)] M hI (c_BL_needPosition_p l g ad ar fl fr cn (by first | exact h2 | assumption | omega | rfl) (by first | exact hcN | assumption | omega | rfl) (hfr)) ok_BL_needPosition m4_73 m4_75 ms_36 0 rfl rfl rfl rfl hl.1 ⟨rfl, rfl⟩ ⟨Nat.le_of_ble_eq_true rfl, Nat.le_of_ble_eq_true rfl⟩ (Nat.le_of_ble_eq_true rfl) ⟨Nat.le_of_ble_eq_true rfl, Nat.le_of_ble_eq_true rfl⟩ d_BL_line_6 ?_
  refine lv_iload_n hx hb d_BL_line_9 rfl (lv_at hl 2 rfl) ?_
  refine lv_iconst (v := 1) hx hb d_BL_line_10 (by decide) ?_
  refine lv_icmp_lt (tgt := 25) hx hb d_BL_line_11 (by decide) (fun c11 => ?_) (fun c11 => ?_)
  · have c11 : to < 1 := (nI_ltI (a := to) (b := 1) (by omega) (by omega)).mp c11
    exfalso; omega
  · have c11 : ¬ to < 1 := fun h => c11 ((nI_ltI (a := to) (b := 1) (by omega) (by omega)).mpr h)
    refine lv_iload_n hx hb d_BL_line_14 rfl (lv_at hl 2 rfl) ?_
    refine lv_aload_n hx hb d_BL_line_15 rfl (lv_at hl 0 rfl) ?_
    refine g_BL_12 M hI d_BL_line_16 ?_
    refine g_BL_86 M hI d_BL_line_19 ?_
    refine q_as (y := nI cn) h2 ?_
    refine lv_icmp_le (tgt := 35) hx hb d_BL_line_22 (by decide) (fun c22 => ?_) (fun c22 => ?_)
    · have c22 : to ≤ cn := (nI_leI (a := to) (b := cn) (by omega) (by omega)).mp c22
      refine lv_iload_n hx hb d_BL_line_35 rfl (lv_at hl 1 rfl) ?_
      refine lv_iload_n hx hb d_BL_line_36 rfl (lv_at hl 2 rfl) ?_
      refine lv_icmp_lt (tgt := 50) hx hb d_BL_line_37 (by decide) (fun c37 => ?_) (fun c37 => ?_)
      · have c37 : fr < to := (nI_ltI (a := fr) (b := to) (by omega) (by omega)).mp c37
        have hS2 := hS.resolve_left (by omega)
        refine lv_aload_n hx hb d_BL_line_50 rfl (lv_at hl 0 rfl) ?_
        refine g_BL_31 M hI d_BL_line_51 ?_
        refine lv_iload_n hx hb d_BL_line_54 rfl (lv_at hl 1 rfl) ?_
        refine q_callpiV [.int (nI fr)] M hI (c_RS_paragraphWith_p l g ad ar fl fr np E (h6) (hnP) (hE) (by omega)) ok_RS_paragraphWith m4_101 m4_102 m4_103 4 rfl rfl rfl rfl hl.1 ⟨rfl, rfl⟩ ⟨Nat.le_of_ble_eq_true rfl, Nat.le_of_ble_eq_true rfl⟩ (Nat.le_of_ble_eq_true rfl) ⟨Nat.le_of_ble_eq_true rfl, Nat.le_of_ble_eq_true rfl⟩ d_BL_line_55 (fun r55 hp55 => ?_)
        refine q_as (y := pwF E fr np 0) hp55 ?_
        refine lv_istore_n (lv' := [(3, .int (pwF E fr np 0)), (0, .ref (ad 0)), (1, .int (nI fr)), (2, .int (nI to))]) hx hb d_BL_line_58 rfl hl (by decide) rfl (fun ls hl => ?_)
        refine lv_iload_n hx hb d_BL_line_59 rfl (lv_at hl 0 rfl) ?_
        refine lv_iconst (v := (-1)) hx hb d_BL_line_60 (by decide) ?_
        refine lv_icmp_eq (tgt := 77) hx hb d_BL_line_61 (by decide) (fun c61 => ?_) (fun c61 => ?_)
        · exact q_thA M hX hnh hfl (List.mem_of_getElem? (i := 15) rfl) hl.1 (Nat.le_refl _) (fun _ h => absurd h List.not_mem_nil) ⟨Nat.le_of_ble_eq_true rfl, Nat.le_of_ble_eq_true rfl, Nat.le_of_ble_eq_true rfl, Nat.le_of_ble_eq_true rfl⟩ (Nat.le_of_ble_eq_true rfl) (Nat.le_of_ble_eq_true rfl) d_BL_line_77 d_BL_line_80 d_BL_line_81 d_BL_line_83 d_BL_line_86
        · obtain ⟨kp, hk1, hk2, hk3⟩ := hS2.resolve_left c61
          have hEk := hE kp hk1
          rw [hk2] at hl
          refine lv_iload_n hx hb d_BL_line_64 rfl (lv_at hl 3 rfl) ?_
          refine lv_aload_n hx hb d_BL_line_65 rfl (lv_at hl 1 rfl) ?_
          refine g_BL_31 M hI d_BL_line_66 ?_
          refine g_BL_115 M hI d_BL_line_69 ?_
          refine lv_iload_n hx hb d_BL_line_72 rfl (lv_at hl 0 rfl) ?_
          refine al_25 M hI kp rfl (by omega) d_BL_line_73 ?_
          refine q_as (y := nI (E kp)) (hEk.1) ?_
          refine lv_icmp_le (tgt := 87) hx hb d_BL_line_74 (by decide) (fun c74 => ?_) (fun c74 => ?_)
          · have c74 : to ≤ E kp := (nI_leI (a := to) (b := E kp) (by omega) (by omega)).mp c74
            exfalso; omega
          · have c74 : ¬ to ≤ E kp := fun h => c74 ((nI_leI (a := to) (b := E kp) (by omega) (by omega)).mpr h)
            exact q_thA M hX hnh hfl (List.mem_of_getElem? (i := 15) rfl) hl.1 (Nat.le_refl _) (fun _ h => absurd h List.not_mem_nil) ⟨Nat.le_of_ble_eq_true rfl, Nat.le_of_ble_eq_true rfl, Nat.le_of_ble_eq_true rfl, Nat.le_of_ble_eq_true rfl⟩ (Nat.le_of_ble_eq_true rfl) (Nat.le_of_ble_eq_true rfl) d_BL_line_77 d_BL_line_80 d_BL_line_81 d_BL_line_83 d_BL_line_86
      · have c37 : ¬ fr < to := fun h => c37 ((nI_ltI (a := fr) (b := to) (by omega) (by omega)).mpr h)
        exact q_thA M hX hnh hfl (List.mem_of_getElem? (i := 14) rfl) hl.1 (Nat.le_refl _) (fun _ h => absurd h List.not_mem_nil) ⟨Nat.le_of_ble_eq_true rfl, Nat.le_of_ble_eq_true rfl, Nat.le_of_ble_eq_true rfl, Nat.le_of_ble_eq_true rfl⟩ (Nat.le_of_ble_eq_true rfl) (Nat.le_of_ble_eq_true rfl) d_BL_line_40 d_BL_line_43 d_BL_line_44 d_BL_line_46 d_BL_line_49
    · have c22 : ¬ to ≤ cn := fun h => c22 ((nI_leI (a := to) (b := cn) (by omega) (by omega)).mpr h)
      exfalso; omega
abbrev rm_BL_seen_c_BL_seen_1 : Room := { frames := 7, cells := 1, slots := 6, locals := 110 }
set_option maxHeartbeats 4000000 in
set_option maxRecDepth 100000 in
theorem c_BL_seen_1 (l : Launch) (g : Geo) (ad : Nat → Nat) (ar : Nat → Nat → Int32) (fl : Nat → Int32) (x : Int32) (y : Int32) (hfl : l.flags = flags0) (h1 : fl 1 = 0) : cMx l y_BL_seen (.code y_BL_seen b_BL_seen 4 (some .int) :: gw) rm_BL_seen_c_BL_seen_1 g [.ref (ad 0), .int x, .int y] (cw g ad ar fl) ISE 1 6 := by
  refine cMx_of (by decide) (Nat.le_of_ble_eq_true rfl) ?_
  intro p e s m below meth c A ls M hX hnh hl hI
  have M : MC p s m ([.ref (ad 0), .int x, .int y] : List Value).toArray meth c R_BL b_BL_seen 4 := M
  have hl : lv_has ls 4 [(0, .ref (ad 0)), (1, .int x), (2, .int y)] := hl
  generalize ([.ref (ad 0), .int x, .int y] : List Value).toArray = args at M ⊢
  have hx := M.1
  have hb := M.2.1
  refine lv_aload_n hx hb d_BL_seen_0 rfl (lv_at hl 0 rfl) ?_
  exact q_callx [] M hX hnh hI (c_BL_needLine_x l g ad ar fl hfl (by first | exact h1 | assumption | omega | rfl)) ok_BL_needLine m4_147 m4_149 ms_43 0 rfl rfl rfl rfl hl.1 ⟨rfl, rfl⟩ ⟨Nat.le_of_ble_eq_true rfl, Nat.le_of_ble_eq_true rfl⟩ (Nat.le_of_ble_eq_true rfl) ⟨Nat.le_of_ble_eq_true rfl, Nat.le_of_ble_eq_true rfl⟩ ⟨Nat.le_of_ble_eq_true rfl, Nat.le_of_ble_eq_true rfl⟩ d_BL_seen_1
abbrev rm_BL_seen_c_BL_seen_2 : Room := { frames := 6, cells := 1, slots := 6, locals := 90 }
set_option maxHeartbeats 4000000 in
set_option maxRecDepth 100000 in
theorem c_BL_seen_2 (l : Launch) (g : Geo) (ad : Nat → Nat) (ar : Nat → Nat → Int32) (fl : Nat → Int32) (x : Int32) (y : Int32) (hfl : l.flags = flags0) (mm : Nat) (h1 : fl 1 = 1) (h18 : fl 18 = nI mm) (hM : mm ≤ 2000) (hOO : ∀ j, j < mm → ∃ q, ar 41 j = nI q ∧ q < 2000) (hS : x < 0 ∨ nI mm ≤ x ∨ y < 0 ∨ 3 ≤ y) : cMx l y_BL_seen (.code y_BL_seen b_BL_seen 4 (some .int) :: gw) rm_BL_seen_c_BL_seen_2 g [.ref (ad 0), .int x, .int y] (cw g ad ar fl) IOB 1 6 := by
  refine cMx_of (by decide) (Nat.le_of_ble_eq_true rfl) ?_
  intro p e s m below meth c A ls M hX hnh hl hI
  have M : MC p s m ([.ref (ad 0), .int x, .int y] : List Value).toArray meth c R_BL b_BL_seen 4 := M
  have hl : lv_has ls 4 [(0, .ref (ad 0)), (1, .int x), (2, .int y)] := hl
  generalize ([.ref (ad 0), .int x, .int y] : List Value).toArray = args at M ⊢
  have hx := M.1
  have hb := M.2.1
  refine lv_aload_n hx hb d_BL_seen_0 rfl (lv_at hl 0 rfl) ?_
  refine q_callpvV [] M hI (c_BL_needLine_p l g ad ar fl (by first | exact h1 | assumption | omega | rfl)) ok_BL_needLine m4_147 m4_149 ms_43 0 rfl rfl rfl rfl hl.1 ⟨rfl, rfl⟩ ⟨Nat.le_of_ble_eq_true rfl, Nat.le_of_ble_eq_true rfl⟩ (Nat.le_of_ble_eq_true rfl) ⟨Nat.le_of_ble_eq_true rfl, Nat.le_of_ble_eq_true rfl⟩ d_BL_seen_1 ?_
  refine lv_iload_n hx hb d_BL_seen_4 rfl (lv_at hl 1 rfl) ?_
  refine lv_if_lt (tgt := 19) hx hb d_BL_seen_5 (by decide) (fun c5 => ?_) (fun c5 => ?_)
  · exact q_thI M hX hnh hfl (List.mem_of_getElem? (i := 17) rfl) hl.1 (Nat.le_refl _) (fun _ h => absurd h List.not_mem_nil) ⟨Nat.le_of_ble_eq_true rfl, Nat.le_of_ble_eq_true rfl, Nat.le_of_ble_eq_true rfl, Nat.le_of_ble_eq_true rfl⟩ (Nat.le_of_ble_eq_true rfl) (Nat.le_of_ble_eq_true rfl) d_BL_seen_19 d_BL_seen_22 d_BL_seen_23 d_BL_seen_25 d_BL_seen_28
  · refine lv_iload_n hx hb d_BL_seen_8 rfl (lv_at hl 1 rfl) ?_
    refine lv_aload_n hx hb d_BL_seen_9 rfl (lv_at hl 0 rfl) ?_
    refine g_BL_40 M hI d_BL_seen_10 ?_
    refine g_BL_151 M hI d_BL_seen_13 ?_
    refine q_as (y := nI mm) h18 ?_
    refine lv_icmp_lt (tgt := 29) hx hb d_BL_seen_16 (by decide) (fun c16 => ?_) (fun c16 => ?_)
    · refine lv_aload_n hx hb d_BL_seen_29 rfl (lv_at hl 0 rfl) ?_
      refine g_BL_40 M hI d_BL_seen_30 ?_
      refine g_BL_157 M hI d_BL_seen_33 ?_
      refine lv_iload_n hx hb d_BL_seen_36 rfl (lv_at hl 1 rfl) ?_
      refine al_41 M hI x.toNatClampNeg (nI_tn c5) (Nat.lt_of_lt_of_le (tn_lt c5 (Int32.not_le.mpr c16) (by omega)) hM) d_BL_seen_37 ?_
      refine lv_istore_n (lv' := [(3, .int (ar 41 x.toNatClampNeg)), (0, .ref (ad 0)), (1, .int x), (2, .int y)]) hx hb d_BL_seen_38 rfl hl (by decide) rfl (fun ls hl => ?_)
      refine lv_iload_n hx hb d_BL_seen_39 rfl (lv_at hl 3 rfl) ?_
      refine lv_tableOut (tgt := 86) hx hb d_BL_seen_40 (sw_out3 ((hS.resolve_left c5).resolve_left (Int32.not_le.mpr c16))) (by decide) ?_
      exact q_thI M hX hnh hfl (List.mem_of_getElem? (i := 11) rfl) hl.1 (Nat.le_refl _) (fun _ h => absurd h List.not_mem_nil) ⟨Nat.le_of_ble_eq_true rfl, Nat.le_of_ble_eq_true rfl, Nat.le_of_ble_eq_true rfl, Nat.le_of_ble_eq_true rfl⟩ (Nat.le_of_ble_eq_true rfl) (Nat.le_of_ble_eq_true rfl) d_BL_seen_86 d_BL_seen_89 d_BL_seen_90 d_BL_seen_92 d_BL_seen_95
    · exact q_thI M hX hnh hfl (List.mem_of_getElem? (i := 17) rfl) hl.1 (Nat.le_refl _) (fun _ h => absurd h List.not_mem_nil) ⟨Nat.le_of_ble_eq_true rfl, Nat.le_of_ble_eq_true rfl, Nat.le_of_ble_eq_true rfl, Nat.le_of_ble_eq_true rfl⟩ (Nat.le_of_ble_eq_true rfl) (Nat.le_of_ble_eq_true rfl) d_BL_seen_19 d_BL_seen_22 d_BL_seen_23 d_BL_seen_25 d_BL_seen_28
abbrev rm_BL_place_c_BL_place_1 : Room := { frames := 7, cells := 1, slots := 6, locals := 110 }
set_option maxHeartbeats 4000000 in
set_option maxRecDepth 100000 in
theorem c_BL_place_1 (l : Launch) (g : Geo) (ad : Nat → Nat) (ar : Nat → Nat → Int32) (fl : Nat → Int32) (x : Int32) (hfl : l.flags = flags0) (h1 : fl 1 = 0) : cMx l y_BL_place (.code y_BL_place b_BL_place 2 (some .int) :: gw) rm_BL_place_c_BL_place_1 g [.ref (ad 0), .int x] (cw g ad ar fl) ISE 1 6 := by
  refine cMx_of (by decide) (Nat.le_of_ble_eq_true rfl) ?_
  intro p e s m below meth c A ls M hX hnh hl hI
  have M : MC p s m ([.ref (ad 0), .int x] : List Value).toArray meth c R_BL b_BL_place 2 := M
  have hl : lv_has ls 2 [(0, .ref (ad 0)), (1, .int x)] := hl
  generalize ([.ref (ad 0), .int x] : List Value).toArray = args at M ⊢
  have hx := M.1
  have hb := M.2.1
  refine lv_aload_n hx hb d_BL_place_0 rfl (lv_at hl 0 rfl) ?_
  exact q_callx [] M hX hnh hI (c_BL_needLine_x l g ad ar fl hfl (by first | exact h1 | assumption | omega | rfl)) ok_BL_needLine m4_147 m4_149 ms_43 0 rfl rfl rfl rfl hl.1 ⟨rfl, rfl⟩ ⟨Nat.le_of_ble_eq_true rfl, Nat.le_of_ble_eq_true rfl⟩ (Nat.le_of_ble_eq_true rfl) ⟨Nat.le_of_ble_eq_true rfl, Nat.le_of_ble_eq_true rfl⟩ ⟨Nat.le_of_ble_eq_true rfl, Nat.le_of_ble_eq_true rfl⟩ d_BL_place_1
abbrev rm_BL_place_c_BL_place_2 : Room := { frames := 7, cells := 1, slots := 6, locals := 111 }
set_option maxHeartbeats 4000000 in
set_option maxRecDepth 100000 in
theorem c_BL_place_2 (l : Launch) (g : Geo) (ad : Nat → Nat) (ar : Nat → Nat → Int32) (fl : Nat → Int32) (x : Int32) (hfl : l.flags = flags0) (cn : Nat) (h1 : fl 1 = 1) (h2 : fl 2 = nI cn) (hcN : cn ≤ 2000) (hS : x < 0 ∨ nI cn ≤ x) : cMx l y_BL_place (.code y_BL_place b_BL_place 2 (some .int) :: gw) rm_BL_place_c_BL_place_2 g [.ref (ad 0), .int x] (cw g ad ar fl) IOB 1 6 := by
  refine cMx_of (by decide) (Nat.le_of_ble_eq_true rfl) ?_
  intro p e s m below meth c A ls M hX hnh hl hI
  have M : MC p s m ([.ref (ad 0), .int x] : List Value).toArray meth c R_BL b_BL_place 2 := M
  have hl : lv_has ls 2 [(0, .ref (ad 0)), (1, .int x)] := hl
  generalize ([.ref (ad 0), .int x] : List Value).toArray = args at M ⊢
  have hx := M.1
  have hb := M.2.1
  refine lv_aload_n hx hb d_BL_place_0 rfl (lv_at hl 0 rfl) ?_
  refine q_callpvV [] M hI (c_BL_needLine_p l g ad ar fl (by first | exact h1 | assumption | omega | rfl)) ok_BL_needLine m4_147 m4_149 ms_43 0 rfl rfl rfl rfl hl.1 ⟨rfl, rfl⟩ ⟨Nat.le_of_ble_eq_true rfl, Nat.le_of_ble_eq_true rfl⟩ (Nat.le_of_ble_eq_true rfl) ⟨Nat.le_of_ble_eq_true rfl, Nat.le_of_ble_eq_true rfl⟩ d_BL_place_1 ?_
  refine lv_aload_n hx hb d_BL_place_4 rfl (lv_at hl 0 rfl) ?_
  refine lv_iload_n hx hb d_BL_place_5 rfl (lv_at hl 1 rfl) ?_
  exact q_callx [.int x] M hX hnh hI (c_BL_needPosition_x l g ad ar fl x hfl cn (by first | exact h2 | assumption | omega | rfl) (by first | exact hcN | assumption | omega | rfl) (by first | exact hS | assumption | omega | rfl)) ok_BL_needPosition m4_73 m4_75 ms_36 0 rfl rfl rfl rfl hl.1 ⟨rfl, rfl⟩ ⟨Nat.le_of_ble_eq_true rfl, Nat.le_of_ble_eq_true rfl⟩ (Nat.le_of_ble_eq_true rfl) ⟨Nat.le_of_ble_eq_true rfl, Nat.le_of_ble_eq_true rfl⟩ ⟨Nat.le_of_ble_eq_true rfl, Nat.le_of_ble_eq_true rfl⟩ d_BL_place_6
