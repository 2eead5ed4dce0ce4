/-! 21: Sequence, WeakRules -/
def sideAt (n : Nat) (h t : Int32) (f : Nat → Int32) (x : Int32) : Int32 := if x < 0 then h else if nI n ≤ x then t else sd (f x.toNatClampNeg)
theorem sw7 (v : Int32) : v = 0 ∨ v = 1 ∨ v = 2 ∨ v = 3 ∨ v = 4 ∨ v = 5 ∨ v = 6 ∨ (v.toInt < 0 ∨ 6 < v.toInt) := by
  have h : ∀ k : Int32, v.toInt = k.toInt → v = k := fun k e => Int32.toInt_inj.mp e
  rcases (show v.toInt = 0 ∨ v.toInt = 1 ∨ v.toInt = 2 ∨ v.toInt = 3 ∨ v.toInt = 4 ∨ v.toInt = 5 ∨ v.toInt = 6 ∨ (v.toInt < 0 ∨ 6 < v.toInt) by omega) with q | q | q | q | q | q | q | q
  · exact Or.inl (h 0 q)
  · exact Or.inr (Or.inl (h 1 q))
  · exact Or.inr (Or.inr (Or.inl (h 2 q)))
  · exact Or.inr (Or.inr (Or.inr (Or.inl (h 3 q))))
  · exact Or.inr (Or.inr (Or.inr (Or.inr (Or.inl (h 4 q)))))
  · exact Or.inr (Or.inr (Or.inr (Or.inr (Or.inr (Or.inl (h 5 q))))))
  · exact Or.inr (Or.inr (Or.inr (Or.inr (Or.inr (Or.inr (Or.inl (h 6 q)))))))
  · exact Or.inr (Or.inr (Or.inr (Or.inr (Or.inr (Or.inr (Or.inr q))))))
theorem sd_out {v : Int32} (h : v.toInt < 0 ∨ 6 < v.toInt) : sd v = -1 := by
  unfold sd
  rw [if_neg, if_neg]
  · rintro (q | q | q) <;> (subst q; revert h; decide)
  · intro q; subst q; revert h; decide
abbrev rm_SQ_startAt : Room := { frames := 1, cells := 0, slots := 0, locals := 20 }
set_option maxHeartbeats 4000000 in
set_option maxRecDepth 100000 in
theorem c_SQ_startAt (l : Launch) (g : Geo) (ad : Nat → Nat) (ar : Nat → Nat → Int32) (fl : Nat → Int32) (v : Nat) (hv : v < 2 ^ 31) : cMv l y_SQ_startAt (.code y_SQ_startAt b_SQ_startAt 2 none :: gw) rm_SQ_startAt g [.ref (ad 8), .int (nI v)] (cw g ad ar fl) (fun (_ : Unit) => True) (fun (_ : Unit) => cw g ad ar (va_up (va_up fl 13 (nI 0)) 14 (nI (v % 2)))) 0 0 := by
  refine cMv_of (by decide) (Nat.le_of_ble_eq_true rfl) ?_
  intro p e s m below meth c A Q ls M hnm hret hl hI
  have M : MC p s m ([.ref (ad 8), .int (nI v)] : List Value).toArray meth c R_SQ b_SQ_startAt 2 := M
  have hl : lv_has ls 2 [(0, .ref (ad 8)), (1, .int (nI v))] := hl
  generalize ([.ref (ad 8), .int (nI v)] : List Value).toArray = args at M hret ⊢
  have hx := M.1
  have hb := M.2.1
  refine lv_aload_n hx hb d_SQ_startAt_0 rfl (lv_at hl 0 rfl) ?_
  refine lv_iconst (v := 0) hx hb d_SQ_startAt_1 (by decide) ?_
  refine p_SQ_18 M hI d_SQ_startAt_2 (fun H locs hI => ?_)
  have hI : CI g A s (cw g ad ar (va_up fl 13 0)) H locs := hI
  refine lv_aload_n hx hb d_SQ_startAt_5 rfl (lv_at hl 0 rfl) ?_
  refine lv_iload_n hx hb d_SQ_startAt_6 rfl (lv_at hl 1 rfl) ?_
  refine q_calliSN [.int (nI v)] M hI (c_BL_directionOf l g (cw g ad ar (va_up fl 13 0)) v (by first | exact hv | assumption | omega | rfl)) ok_BL_directionOf (List.mem_of_getElem? (i := 6) rfl) m3_98 rfl rfl hl.1 ⟨rfl, rfl⟩ ⟨Nat.le_of_ble_eq_true rfl, Nat.le_of_ble_eq_true rfl⟩ (Nat.le_of_ble_eq_true rfl) ⟨Nat.le_of_ble_eq_true rfl, Nat.le_of_ble_eq_true rfl⟩ d_SQ_startAt_7 (fun r7 u7 H locs hp7 hI => ?_)
  refine q_as (y := nI (v % 2)) hp7 ?_
  refine p_SQ_22 M hI d_SQ_startAt_10 (fun H locs hI => ?_)
  have hI : CI g A s (cw g ad ar (va_up (va_up fl 13 0) 14 (nI (v % 2)))) H locs := hI
  exact hret () _ _ _ _ _ _ d_SQ_startAt_13 hI (trivial) (Nat.le_refl 0) (Nat.le_refl 0)
abbrev rm_SQ_append : Room := { frames := 0, cells := 0, slots := 0, locals := 0 }
set_option maxHeartbeats 4000000 in
set_option maxRecDepth 100000 in
theorem c_SQ_append (l : Launch) (g : Geo) (ad : Nat → Nat) (ar : Nat → Nat → Int32) (fl : Nat → Int32) (q : Nat) (n : Nat) (hn : fl 13 = nI n) (hN : n < 2000) (hq : q < 2000) : cMv l y_SQ_append (.code y_SQ_append b_SQ_append 2 none :: gw) rm_SQ_append g [.ref (ad 8), .int (nI q)] (cw g ad ar fl) (fun (_ : Unit) => True) (fun (_ : Unit) => cw g ad (va_up (va_up ar 36 (upd (ar 36) n (nI q))) 37 (upd (ar 37) n (ar 14 q))) (va_up fl 13 (nI (n + 1)))) 0 0 := by
  refine cMv_of (by decide) (Nat.le_of_ble_eq_true rfl) ?_
  intro p e s m below meth c A Q ls M hnm hret hl hI
  have M : MC p s m ([.ref (ad 8), .int (nI q)] : List Value).toArray meth c R_SQ b_SQ_append 2 := M
  have hl : lv_has ls 2 [(0, .ref (ad 8)), (1, .int (nI q))] := hl
  generalize ([.ref (ad 8), .int (nI q)] : List Value).toArray = args at M hret ⊢
  have hx := M.1
  have hb := M.2.1
  refine lv_aload_n hx hb d_SQ_append_0 rfl (lv_at hl 0 rfl) ?_
  refine g_SQ_18 M hI d_SQ_append_1 ?_
  refine q_as (y := nI n) hn ?_
  refine lv_sipush (v := 2000) hx hb d_SQ_append_4 (by decide) ?_
  refine lv_icmp_lt (tgt := 11) hx hb d_SQ_append_7 (by decide) (fun c7 => ?_) (fun c7 => ?_)
  · have c7 : n < 2000 := (nI_ltI (a := n) (b := 2000) (by omega) (by omega)).mp c7
    refine lv_aload_n hx hb d_SQ_append_11 rfl (lv_at hl 0 rfl) ?_
    refine g_SQ_9 M hI d_SQ_append_12 ?_
    refine lv_aload_n hx hb d_SQ_append_15 rfl (lv_at hl 0 rfl) ?_
    refine g_SQ_18 M hI d_SQ_append_16 ?_
    refine q_as (y := nI n) hn ?_
    refine lv_iload_n hx hb d_SQ_append_19 rfl (lv_at hl 1 rfl) ?_
    refine as_36 M hI n rfl (by omega) d_SQ_append_20 (fun H locs hI => ?_)
    have hI : CI g A s (cw g ad (va_up ar 36 (upd (ar 36) n (nI q))) fl) H locs := hI
    refine lv_aload_n hx hb d_SQ_append_21 rfl (lv_at hl 0 rfl) ?_
    refine g_SQ_15 M hI d_SQ_append_22 ?_
    refine lv_aload_n hx hb d_SQ_append_25 rfl (lv_at hl 0 rfl) ?_
    refine g_SQ_18 M hI d_SQ_append_26 ?_
    refine q_as (y := nI n) hn ?_
    refine lv_aload_n hx hb d_SQ_append_29 rfl (lv_at hl 0 rfl) ?_
    refine g_SQ_31 M hI d_SQ_append_30 ?_
    refine g_SQ_39 M hI d_SQ_append_33 ?_
    refine lv_iload_n hx hb d_SQ_append_36 rfl (lv_at hl 1 rfl) ?_
    refine al_14 M hI q rfl (by omega) d_SQ_append_37 ?_
    refine q_as (y := ar 14 q) rfl ?_
    refine as_37 M hI n rfl (by omega) d_SQ_append_38 (fun H locs hI => ?_)
    have hI : CI g A s (cw g ad (va_up (va_up ar 36 (upd (ar 36) n (nI q))) 37 (upd (ar 37) n (ar 14 q))) fl) H locs := hI
    refine lv_aload_n hx hb d_SQ_append_39 rfl (lv_at hl 0 rfl) ?_
    refine lv_dup hx hb d_SQ_append_40 rfl ?_
    refine g_SQ_18 M hI d_SQ_append_41 ?_
    refine q_as (y := nI n) hn ?_
    refine lv_iconst (v := 1) hx hb d_SQ_append_44 (by decide) ?_
    refine lv_iadd hx hb d_SQ_append_45 ?_
    refine q_as (y := nI (n + 1)) (nI_add n 1) ?_
    refine p_SQ_18 M hI d_SQ_append_46 (fun H locs hI => ?_)
    have hI : CI g A s (cw g ad (va_up (va_up ar 36 (upd (ar 36) n (nI q))) 37 (upd (ar 37) n (ar 14 q))) (va_up fl 13 (nI (n + 1)))) H locs := hI
    exact hret () _ _ _ _ _ _ d_SQ_append_49 hI (trivial) (Nat.le_refl 0) (Nat.le_refl 0)
  · have c7 : ¬ n < 2000 := fun h => c7 ((nI_ltI (a := n) (b := 2000) (by omega) (by omega)).mpr h)
    exfalso; omega
abbrev rm_SQ_isNow : Room := { frames := 0, cells := 0, slots := 0, locals := 0 }
set_option maxHeartbeats 4000000 in
set_option maxRecDepth 100000 in
theorem c_SQ_isNow (l : Launch) (g : Geo) (ad : Nat → Nat) (ar : Nat → Nat → Int32) (fl : Nat → Int32) (x : Int32) (v : Int32) (n : Nat) (hn : fl 13 = nI n) (hN : n ≤ 2000) : cMi l y_SQ_isNow (.code y_SQ_isNow b_SQ_isNow 3 (some .boolean) :: gw) rm_SQ_isNow g [.ref (ad 8), .int x, .int v] (cw g ad ar fl) (fun (r : Int32) (_ : Unit) => r = bI (nowAt n (ar 37) x v)) (fun (_ : Unit) => cw g ad ar fl) 0 0 := by
  refine cMz_of (by decide) (Nat.le_of_ble_eq_true rfl) ?_
  intro p e s m below meth c A Q ls M hret hl hI
  have M : MC p s m ([.ref (ad 8), .int x, .int v] : List Value).toArray meth c R_SQ b_SQ_isNow 3 := M
  have hl : lv_has ls 3 [(0, .ref (ad 8)), (1, .int x), (2, .int v)] := hl
  generalize ([.ref (ad 8), .int x, .int v] : List Value).toArray = args at M hret ⊢
  have hx := M.1
  have hb := M.2.1
  refine lv_iload_n hx hb d_SQ_isNow_0 rfl (lv_at hl 1 rfl) ?_
  refine lv_if_lt (tgt := 26) hx hb d_SQ_isNow_1 (by decide) (fun c1 => ?_) (fun c1 => ?_)
  · refine lv_iconst (v := 0) hx hb d_SQ_isNow_26 (by decide) ?_
    exact hret 0 () _ _ _ _ _ _ d_SQ_isNow_27 hI (by symm; first | (apply bI_f; intro q; exact q.1 c1) | (apply bI_f; intro q; exact q.2.1 c9) | (apply bI_f; intro q; exact c19 q.2.2) | exact bI_t ⟨c1, c9, c19⟩) (by first | rfl | exact bI_narrow) (Nat.le_refl 0) (Nat.le_refl 0)
  · refine lv_iload_n hx hb d_SQ_isNow_4 rfl (lv_at hl 1 rfl) ?_
    refine lv_aload_n hx hb d_SQ_isNow_5 rfl (lv_at hl 0 rfl) ?_
    refine g_SQ_18 M hI d_SQ_isNow_6 ?_
    refine q_as (y := nI n) hn ?_
    refine lv_icmp_ge (tgt := 26) hx hb d_SQ_isNow_9 (by decide) (fun c9 => ?_) (fun c9 => ?_)
    · refine lv_iconst (v := 0) hx hb d_SQ_isNow_26 (by decide) ?_
      exact hret 0 () _ _ _ _ _ _ d_SQ_isNow_27 hI (by symm; first | (apply bI_f; intro q; exact q.1 c1) | (apply bI_f; intro q; exact q.2.1 c9) | (apply bI_f; intro q; exact c19 q.2.2) | exact bI_t ⟨c1, c9, c19⟩) (by first | rfl | exact bI_narrow) (Nat.le_refl 0) (Nat.le_refl 0)
    · refine lv_aload_n hx hb d_SQ_isNow_12 rfl (lv_at hl 0 rfl) ?_
      refine g_SQ_15 M hI d_SQ_isNow_13 ?_
      refine lv_iload_n hx hb d_SQ_isNow_16 rfl (lv_at hl 1 rfl) ?_
      refine al_37 M hI x.toNatClampNeg (nI_tn c1) (Nat.lt_of_lt_of_le (tn_lt c1 c9 (by omega)) hN) d_SQ_isNow_17 ?_
      refine lv_iload_n hx hb d_SQ_isNow_18 rfl (lv_at hl 2 rfl) ?_
      refine lv_icmp_ne (tgt := 26) hx hb d_SQ_isNow_19 (by decide) (fun c19 => ?_) (fun c19 => ?_)
      · refine lv_iconst (v := 0) hx hb d_SQ_isNow_26 (by decide) ?_
        exact hret 0 () _ _ _ _ _ _ d_SQ_isNow_27 hI (by symm; first | (apply bI_f; intro q; exact q.1 c1) | (apply bI_f; intro q; exact q.2.1 c9) | (apply bI_f; intro q; exact c19 q.2.2) | exact bI_t ⟨c1, c9, c19⟩) (by first | rfl | exact bI_narrow) (Nat.le_refl 0) (Nat.le_refl 0)
      · refine lv_iconst (v := 1) hx hb d_SQ_isNow_22 (by decide) ?_
        refine lv_goto (tgt := 27) hx hb d_SQ_isNow_23 (by decide) ?_
        exact hret 1 () _ _ _ _ _ _ d_SQ_isNow_27 hI (by symm; first | (apply bI_f; intro q; exact q.1 c1) | (apply bI_f; intro q; exact q.2.1 c9) | (apply bI_f; intro q; exact c19 q.2.2) | exact bI_t ⟨c1, c9, c19⟩) (by first | rfl | exact bI_narrow) (Nat.le_refl 0) (Nat.le_refl 0)
abbrev rm_SQ_wasMark : Room := { frames := 0, cells := 0, slots := 0, locals := 0 }
set_option maxHeartbeats 4000000 in
set_option maxRecDepth 100000 in
theorem c_SQ_wasMark (l : Launch) (g : Geo) (ad : Nat → Nat) (ar : Nat → Nat → Int32) (fl : Nat → Int32) (i : Nat) (n : Nat) (P : Nat → Nat) (hn : fl 13 = nI n) (hN : n ≤ 2000) (hP : ∀ j, j < n → ar 36 j = nI (P j)) (hPb : ∀ j, j < n → P j < 2000) (hi : i < 2 ^ 31) : cMi l y_SQ_wasMark (.code y_SQ_wasMark b_SQ_wasMark 2 (some .boolean) :: gw) rm_SQ_wasMark g [.ref (ad 8), .int (nI i)] (cw g ad ar fl) (fun (r : Int32) (_ : Unit) => r = bI (i < n ∧ ar 14 (P i) = 8)) (fun (_ : Unit) => cw g ad ar fl) 0 0 := by
  refine cMz_of (by decide) (Nat.le_of_ble_eq_true rfl) ?_
  intro p e s m below meth c A Q ls M hret hl hI
  have M : MC p s m ([.ref (ad 8), .int (nI i)] : List Value).toArray meth c R_SQ b_SQ_wasMark 2 := M
  have hl : lv_has ls 2 [(0, .ref (ad 8)), (1, .int (nI i))] := hl
  generalize ([.ref (ad 8), .int (nI i)] : List Value).toArray = args at M hret ⊢
  have hx := M.1
  have hb := M.2.1
  refine lv_iload_n hx hb d_SQ_wasMark_0 rfl (lv_at hl 1 rfl) ?_
  refine lv_if_lt (tgt := 35) hx hb d_SQ_wasMark_1 (by decide) (fun c1 => ?_) (fun c1 => ?_)
  · have c1 : i < 0 := (nI_ltI (a := i) (b := 0) (by omega) (by omega)).mp c1
    exfalso; omega
  · have c1 : ¬ i < 0 := fun h => c1 ((nI_ltI (a := i) (b := 0) (by omega) (by omega)).mpr h)
    refine lv_iload_n hx hb d_SQ_wasMark_4 rfl (lv_at hl 1 rfl) ?_
    refine lv_aload_n hx hb d_SQ_wasMark_5 rfl (lv_at hl 0 rfl) ?_
    refine g_SQ_18 M hI d_SQ_wasMark_6 ?_
    refine q_as (y := nI n) hn ?_
    refine lv_icmp_ge (tgt := 35) hx hb d_SQ_wasMark_9 (by decide) (fun c9 => ?_) (fun c9 => ?_)
    · have c9 : n ≤ i := (nI_leI (a := n) (b := i) (by omega) (by omega)).mp c9
      refine lv_iconst (v := 0) hx hb d_SQ_wasMark_35 (by decide) ?_
      exact hret 0 () _ _ _ _ _ _ d_SQ_wasMark_36 hI (by first | exact (bI_t ⟨by omega, c28⟩).symm | exact (bI_f (fun q => c28 q.2)).symm | exact (bI_f (fun q => by omega)).symm) (by first | rfl | exact bI_narrow) (Nat.le_refl 0) (Nat.le_refl 0)
    · have c9 : ¬ n ≤ i := fun h => c9 ((nI_leI (a := n) (b := i) (by omega) (by omega)).mpr h)
      refine lv_aload_n hx hb d_SQ_wasMark_12 rfl (lv_at hl 0 rfl) ?_
      refine g_SQ_31 M hI d_SQ_wasMark_13 ?_
      refine g_SQ_39 M hI d_SQ_wasMark_16 ?_
      refine lv_aload_n hx hb d_SQ_wasMark_19 rfl (lv_at hl 0 rfl) ?_
      refine g_SQ_9 M hI d_SQ_wasMark_20 ?_
      refine lv_iload_n hx hb d_SQ_wasMark_23 rfl (lv_at hl 1 rfl) ?_
      refine al_36 M hI i rfl (by omega) d_SQ_wasMark_24 ?_
      refine q_as (y := nI (P i)) (hP _ (by omega)) ?_
      refine al_14 M hI (P i) rfl (hPb _ (by omega)) d_SQ_wasMark_25 ?_
      refine lv_bipush (v := 8) hx hb d_SQ_wasMark_26 (by decide) ?_
      refine lv_icmp_ne (tgt := 35) hx hb d_SQ_wasMark_28 (by decide) (fun c28 => ?_) (fun c28 => ?_)
      · refine lv_iconst (v := 0) hx hb d_SQ_wasMark_35 (by decide) ?_
        exact hret 0 () _ _ _ _ _ _ d_SQ_wasMark_36 hI (by first | exact (bI_t ⟨by omega, c28⟩).symm | exact (bI_f (fun q => c28 q.2)).symm | exact (bI_f (fun q => by omega)).symm) (by first | rfl | exact bI_narrow) (Nat.le_refl 0) (Nat.le_refl 0)
      · refine lv_iconst (v := 1) hx hb d_SQ_wasMark_31 (by decide) ?_
        refine lv_goto (tgt := 36) hx hb d_SQ_wasMark_32 (by decide) ?_
        exact hret 1 () _ _ _ _ _ _ d_SQ_wasMark_36 hI (by first | exact (bI_t ⟨by omega, c28⟩).symm | exact (bI_f (fun q => c28 q.2)).symm | exact (bI_f (fun q => by omega)).symm) (by first | rfl | exact bI_narrow) (Nat.le_refl 0) (Nat.le_refl 0)
abbrev rm_SQ_sideAt : Room := { frames := 0, cells := 0, slots := 0, locals := 0 }
set_option maxHeartbeats 4000000 in
set_option maxRecDepth 100000 in
theorem c_SQ_sideAt (l : Launch) (g : Geo) (ad : Nat → Nat) (ar : Nat → Nat → Int32) (fl : Nat → Int32) (x : Int32) (n : Nat) (hn : fl 13 = nI n) (hN : n ≤ 2000) : cMi l y_SQ_sideAt (.code y_SQ_sideAt b_SQ_sideAt 2 (some .int) :: gw) rm_SQ_sideAt g [.ref (ad 8), .int x] (cw g ad ar fl) (fun (r : Int32) (_ : Unit) => r = sideAt n (fl 15) (fl 16) (ar 37) x) (fun (_ : Unit) => cw g ad ar fl) 0 0 := by
  refine cMi_of (by decide) (Nat.le_of_ble_eq_true rfl) ?_
  intro p e s m below meth c A Q ls M hret hl hI
  have M : MC p s m ([.ref (ad 8), .int x] : List Value).toArray meth c R_SQ b_SQ_sideAt 2 := M
  have hl : lv_has ls 2 [(0, .ref (ad 8)), (1, .int x)] := hl
  generalize ([.ref (ad 8), .int x] : List Value).toArray = args at M hret ⊢
  have hx := M.1
  have hb := M.2.1
  refine lv_iload_n hx hb d_SQ_sideAt_0 rfl (lv_at hl 1 rfl) ?_
  refine lv_if_ge (tgt := 9) hx hb d_SQ_sideAt_1 (by decide) (fun c1 => ?_) (fun c1 => ?_)
  · have c0 : ¬ x < 0 := Int32.not_lt.mpr c1
    refine lv_iload_n hx hb d_SQ_sideAt_9 rfl (lv_at hl 1 rfl) ?_
    refine lv_aload_n hx hb d_SQ_sideAt_10 rfl (lv_at hl 0 rfl) ?_
    refine g_SQ_18 M hI d_SQ_sideAt_11 ?_
    refine q_as (y := nI n) hn ?_
    refine lv_icmp_lt (tgt := 22) hx hb d_SQ_sideAt_14 (by decide) (fun c14 => ?_) (fun c14 => ?_)
    · have c14' : ¬ nI n ≤ x := Int32.not_le.mpr c14
      refine lv_aload_n hx hb d_SQ_sideAt_22 rfl (lv_at hl 0 rfl) ?_
      refine g_SQ_15 M hI d_SQ_sideAt_23 ?_
      refine lv_iload_n hx hb d_SQ_sideAt_26 rfl (lv_at hl 1 rfl) ?_
      refine al_37 M hI x.toNatClampNeg (nI_tn c0) (Nat.lt_of_lt_of_le (tn_lt c0 c14' (by omega)) hN) d_SQ_sideAt_27 ?_
      rcases sw7 (ar 37 x.toNatClampNeg) with h7 | h7 | h7 | h7 | h7 | h7 | h7 | h7
      · refine q_as (y := 0) h7 ?_
        refine lv_tableIn (off := 44) (tgt := 72) hx hb d_SQ_sideAt_28 (by decide) (by decide) (by decide) (by decide) ?_
        refine lv_iconst (v := 0) hx hb d_SQ_sideAt_72 (by decide) ?_
        exact hret 0 () _ _ _ _ _ _ d_SQ_sideAt_73 hI (by unfold sideAt; rw [if_neg c0, if_neg c14']; first | (rw [h7]; rfl) | (rw [sd_out h7])) (Nat.le_refl 0) (Nat.le_refl 0)
      · refine q_as (y := 1) h7 ?_
        refine lv_tableIn (off := 46) (tgt := 74) hx hb d_SQ_sideAt_28 (by decide) (by decide) (by decide) (by decide) ?_
        refine lv_iconst (v := 1) hx hb d_SQ_sideAt_74 (by decide) ?_
        exact hret 1 () _ _ _ _ _ _ d_SQ_sideAt_75 hI (by unfold sideAt; rw [if_neg c0, if_neg c14']; first | (rw [h7]; rfl) | (rw [sd_out h7])) (Nat.le_refl 0) (Nat.le_refl 0)
      · refine q_as (y := 2) h7 ?_
        refine lv_tableIn (off := 48) (tgt := 76) hx hb d_SQ_sideAt_28 (by decide) (by decide) (by decide) (by decide) ?_
        refine lv_iconst (v := (-1)) hx hb d_SQ_sideAt_76 (by decide) ?_
        exact hret (-1) () _ _ _ _ _ _ d_SQ_sideAt_77 hI (by unfold sideAt; rw [if_neg c0, if_neg c14']; first | (rw [h7]; rfl) | (rw [sd_out h7])) (Nat.le_refl 0) (Nat.le_refl 0)
      · refine q_as (y := 3) h7 ?_
        refine lv_tableIn (off := 46) (tgt := 74) hx hb d_SQ_sideAt_28 (by decide) (by decide) (by decide) (by decide) ?_
        refine lv_iconst (v := 1) hx hb d_SQ_sideAt_74 (by decide) ?_
        exact hret 1 () _ _ _ _ _ _ d_SQ_sideAt_75 hI (by unfold sideAt; rw [if_neg c0, if_neg c14']; first | (rw [h7]; rfl) | (rw [sd_out h7])) (Nat.le_refl 0) (Nat.le_refl 0)
      · refine q_as (y := 4) h7 ?_
        refine lv_tableIn (off := 48) (tgt := 76) hx hb d_SQ_sideAt_28 (by decide) (by decide) (by decide) (by decide) ?_
        refine lv_iconst (v := (-1)) hx hb d_SQ_sideAt_76 (by decide) ?_
        exact hret (-1) () _ _ _ _ _ _ d_SQ_sideAt_77 hI (by unfold sideAt; rw [if_neg c0, if_neg c14']; first | (rw [h7]; rfl) | (rw [sd_out h7])) (Nat.le_refl 0) (Nat.le_refl 0)
      · refine q_as (y := 5) h7 ?_
        refine lv_tableIn (off := 48) (tgt := 76) hx hb d_SQ_sideAt_28 (by decide) (by decide) (by decide) (by decide) ?_
        refine lv_iconst (v := (-1)) hx hb d_SQ_sideAt_76 (by decide) ?_
        exact hret (-1) () _ _ _ _ _ _ d_SQ_sideAt_77 hI (by unfold sideAt; rw [if_neg c0, if_neg c14']; first | (rw [h7]; rfl) | (rw [sd_out h7])) (Nat.le_refl 0) (Nat.le_refl 0)
      · refine q_as (y := 6) h7 ?_
        refine lv_tableIn (off := 46) (tgt := 74) hx hb d_SQ_sideAt_28 (by decide) (by decide) (by decide) (by decide) ?_
        refine lv_iconst (v := 1) hx hb d_SQ_sideAt_74 (by decide) ?_
        exact hret 1 () _ _ _ _ _ _ d_SQ_sideAt_75 hI (by unfold sideAt; rw [if_neg c0, if_neg c14']; first | (rw [h7]; rfl) | (rw [sd_out h7])) (Nat.le_refl 0) (Nat.le_refl 0)
      · refine lv_tableOut (tgt := 76) hx hb d_SQ_sideAt_28 h7 (by decide) ?_
        refine lv_iconst (v := (-1)) hx hb d_SQ_sideAt_76 (by decide) ?_
        exact hret (-1) () _ _ _ _ _ _ d_SQ_sideAt_77 hI (by unfold sideAt; rw [if_neg c0, if_neg c14']; first | (rw [h7]; rfl) | (rw [sd_out h7])) (Nat.le_refl 0) (Nat.le_refl 0)
    · have c9' : nI n ≤ x := Int32.not_lt.mp c14
      refine lv_aload_n hx hb d_SQ_sideAt_17 rfl (lv_at hl 0 rfl) ?_
      refine g_SQ_28 M hI d_SQ_sideAt_18 ?_
      exact hret (fl 16) () _ _ _ _ _ _ d_SQ_sideAt_21 hI (by unfold sideAt; rw [if_neg c0, if_pos c9']) (Nat.le_refl 0) (Nat.le_refl 0)
  · have c0 : x < 0 := Int32.not_le.mp c1
    refine lv_aload_n hx hb d_SQ_sideAt_4 rfl (lv_at hl 0 rfl) ?_
    refine g_SQ_25 M hI d_SQ_sideAt_5 ?_
    exact hret (fl 15) () _ _ _ _ _ _ d_SQ_sideAt_8 hI (by unfold sideAt; rw [if_pos c0]) (Nat.le_refl 0) (Nat.le_refl 0)
abbrev rm_WK_classForMark : Room := { frames := 1, cells := 0, slots := 0, locals := 20 }
set_option maxHeartbeats 4000000 in
set_option maxRecDepth 100000 in
theorem c_WK_classForMark (l : Launch) (g : Geo) (ad : Nat → Nat) (ar : Nat → Nat → Int32) (fl : Nat → Int32) (i : Nat) (n : Nat) (P : Nat → Nat) (hP : ∀ j, j < n → ar 36 j = nI (P j)) (hPb : ∀ j, j < n → P j < 2000) (hi : i < n) (hN : n ≤ 2000) : cMi l y_WK_classForMark (.code y_WK_classForMark b_WK_classForMark 3 (some .int) :: gw) rm_WK_classForMark g [.ref (ad 9), .int (nI i)] (cw g ad ar fl) (fun (r : Int32) (_ : Unit) => r = clsMark (fl 15) (fun j => ar 13 (P j)) (ar 37) i) (fun (_ : Unit) => cw g ad ar fl) 0 0 := by
  refine cMi_of (by decide) (Nat.le_of_ble_eq_true rfl) ?_
  intro p e s m below meth c A Q ls M hret hl hI
  have M : MC p s m ([.ref (ad 9), .int (nI i)] : List Value).toArray meth c R_WK b_WK_classForMark 3 := M
  have hl : lv_has ls 3 [(0, .ref (ad 9)), (1, .int (nI i))] := hl
  generalize ([.ref (ad 9), .int (nI i)] : List Value).toArray = args at M hret ⊢
  have hx := M.1
  have hb := M.2.1
  refine lv_iload_n hx hb d_WK_classForMark_0 rfl (lv_at hl 1 rfl) ?_
  refine lv_if_ne (tgt := 12) hx hb d_WK_classForMark_1 (by decide) (fun c1 => ?_) (fun c1 => ?_)
  · have c1 : ¬ i = 0 := fun h => c1 ((nI_eq (a := i) (b := 0) (by omega) (by omega)).mpr h)
    refine lv_aload_n hx hb d_WK_classForMark_12 rfl (lv_at hl 0 rfl) ?_
    refine g_WK_9 M hI d_WK_classForMark_13 ?_
    refine g_WK_57 M hI d_WK_classForMark_16 ?_
    refine lv_aload_n hx hb d_WK_classForMark_19 rfl (lv_at hl 0 rfl) ?_
    refine g_WK_15 M hI d_WK_classForMark_20 ?_
    refine g_WK_62 M hI d_WK_classForMark_23 ?_
    refine lv_iload_n hx hb d_WK_classForMark_26 rfl (lv_at hl 1 rfl) ?_
    refine lv_iconst (v := 1) hx hb d_WK_classForMark_27 (by decide) ?_
    refine lv_isub hx hb d_WK_classForMark_28 ?_
    refine q_as (y := nI (i - 1)) (pk_sub (a := i) (b := 1) (by omega)) ?_
    refine al_36 M hI (i - 1) rfl (by omega) d_WK_classForMark_29 ?_
    refine q_as (y := nI (P (i - 1))) (hP _ (by omega)) ?_
    refine al_13 M hI (P (i - 1)) rfl (hPb _ (by omega)) d_WK_classForMark_30 ?_
    refine lv_istore_n (lv' := [(2, .int (ar 13 (P (i - 1)))), (0, .ref (ad 9)), (1, .int (nI i))]) hx hb d_WK_classForMark_31 rfl hl (by decide) rfl (fun ls hl => ?_)
    refine lv_iload_n hx hb d_WK_classForMark_32 rfl (lv_at hl 0 rfl) ?_
    refine q_calliSN [.int (ar 13 (P (i - 1)))] M hI (c_BL_isIsolate l g (cw g ad ar fl) (ar 13 (P (i - 1)))) ok_BL_isIsolate (List.mem_of_getElem? (i := 9) rfl) m3_69 rfl rfl hl.1 ⟨rfl, rfl⟩ ⟨Nat.le_of_ble_eq_true rfl, Nat.le_of_ble_eq_true rfl⟩ (Nat.le_of_ble_eq_true rfl) ⟨Nat.le_of_ble_eq_true rfl, Nat.le_of_ble_eq_true rfl⟩ d_WK_classForMark_33 (fun r33 u33 H locs hp33 hI => ?_)
    refine q_as (y := bI (isol (ar 13 (P (i - 1))))) hp33 ?_
    refine lv_if_ne (tgt := 45) hx hb d_WK_classForMark_36 (by decide) (fun c36 => ?_) (fun c36 => ?_)
    · have c36 := bI_ne0.mp c36
      refine lv_bipush (v := 13) hx hb d_WK_classForMark_45 (by decide) ?_
      refine lv_goto (tgt := 61) hx hb d_WK_classForMark_47 (by decide) ?_
      exact hret 13 () _ _ _ _ _ _ d_WK_classForMark_61 hI (by obtain ⟨z, rfl⟩ : ∃ z, i = z + 1 := ⟨i - 1, by omega⟩; simp only [Nat.add_sub_cancel] at *; simp only [clsMark]; first | rw [if_pos (Or.inl c36)] | rw [if_pos (Or.inr c42)] | rw [if_neg (fun q => q.elim c36 c42)]) (Nat.le_refl 0) (Nat.le_refl 0)
    · have c36 := bI_eq0.mp c36
      refine lv_iload_n hx hb d_WK_classForMark_39 rfl (lv_at hl 0 rfl) ?_
      refine lv_bipush (v := 22) hx hb d_WK_classForMark_40 (by decide) ?_
      refine lv_icmp_ne (tgt := 50) hx hb d_WK_classForMark_42 (by decide) (fun c42 => ?_) (fun c42 => ?_)
      · refine lv_aload_n hx hb d_WK_classForMark_50 rfl (lv_at hl 1 rfl) ?_
        refine g_WK_15 M hI d_WK_classForMark_51 ?_
        refine g_WK_46 M hI d_WK_classForMark_54 ?_
        refine lv_iload_n hx hb d_WK_classForMark_57 rfl (lv_at hl 2 rfl) ?_
        refine lv_iconst (v := 1) hx hb d_WK_classForMark_58 (by decide) ?_
        refine lv_isub hx hb d_WK_classForMark_59 ?_
        refine q_as (y := nI (i - 1)) (pk_sub (a := i) (b := 1) (by omega)) ?_
        refine al_37 M hI (i - 1) rfl (by omega) d_WK_classForMark_60 ?_
        exact hret (ar 37 (i - 1)) () _ _ _ _ _ _ d_WK_classForMark_61 hI (by obtain ⟨z, rfl⟩ : ∃ z, i = z + 1 := ⟨i - 1, by omega⟩; simp only [Nat.add_sub_cancel] at *; simp only [clsMark]; first | rw [if_pos (Or.inl c36)] | rw [if_pos (Or.inr c42)] | rw [if_neg (fun q => q.elim c36 c42)]) (Nat.le_refl 0) (Nat.le_refl 0)
      · refine lv_bipush (v := 13) hx hb d_WK_classForMark_45 (by decide) ?_
        refine lv_goto (tgt := 61) hx hb d_WK_classForMark_47 (by decide) ?_
        exact hret 13 () _ _ _ _ _ _ d_WK_classForMark_61 hI (by obtain ⟨z, rfl⟩ : ∃ z, i = z + 1 := ⟨i - 1, by omega⟩; simp only [Nat.add_sub_cancel] at *; simp only [clsMark]; first | rw [if_pos (Or.inl c36)] | rw [if_pos (Or.inr c42)] | rw [if_neg (fun q => q.elim c36 c42)]) (Nat.le_refl 0) (Nat.le_refl 0)
  · have c1 : i = 0 := (nI_eq (a := i) (b := 0) (by omega) (by omega)).mp c1
    refine lv_aload_n hx hb d_WK_classForMark_4 rfl (lv_at hl 0 rfl) ?_
    refine g_WK_15 M hI d_WK_classForMark_5 ?_
    refine g_WK_54 M hI d_WK_classForMark_8 ?_
    exact hret (fl 15) () _ _ _ _ _ _ d_WK_classForMark_11 hI (by subst c1; rfl) (Nat.le_refl 0) (Nat.le_refl 0)
abbrev rm_WK_settleMarks : Room := { frames := 2, cells := 0, slots := 0, locals := 42 }
set_option maxHeartbeats 4000000 in
set_option maxRecDepth 100000 in
theorem c_WK_settleMarks (l : Launch) (g : Geo) (ad : Nat → Nat) (ar : Nat → Nat → Int32) (fl : Nat → Int32) (n : Nat) (P : Nat → Nat) (hn : fl 13 = nI n) (hN : n ≤ 2000) (hP : ∀ j, j < n → ar 36 j = nI (P j)) (hPb : ∀ j, j < n → P j < 2000) : cMv l y_WK_settleMarks (.code y_WK_settleMarks b_WK_settleMarks 2 none :: gw) rm_WK_settleMarks g [.ref (ad 9)] (cw g ad ar fl) (fun (_ : Unit) => True) (fun (_ : Unit) => cw g ad (va_up ar 37 (wk1 n (fl 15) (fun j => ar 13 (P j)) (ar 37))) fl) 0 0 := by
  refine cMv_of (by decide) (Nat.le_of_ble_eq_true rfl) ?_
  intro p e s m below meth c A Q ls M hnm hret hl hI
  have M : MC p s m ([.ref (ad 9)] : List Value).toArray meth c R_WK b_WK_settleMarks 2 := M
  have hl : lv_has ls 2 [(0, .ref (ad 9))] := hl
  generalize ([.ref (ad 9)] : List Value).toArray = args at M hret ⊢
  have hx := M.1
  have hb := M.2.1
  refine lv_iconst (v := 0) hx hb d_WK_settleMarks_0 (by decide) ?_
  refine lv_istore_n (lv' := [(1, .int 0), (0, .ref (ad 9))]) hx hb d_WK_settleMarks_1 rfl hl (by decide) rfl (fun ls hl => ?_)
  have L2 : ∀ (fu : Nat) (i : Nat), (n - i) < fu → (i ≤ n) → ∀ (H : Heap) (locs : List Loc) (ls : Array Slot), CI g A s (cw g ad (va_up ar 37 (pre i (w1 (fl 15) (fun j => ar 13 (P j)) (ar 37)) (ar 37))) fl) H locs → lv_has ls 2 [(0, .ref (ad 9)), (1, .int (nI i))] → W p l e rm_WK_settleMarks s m args below meth c H locs 0 0 Q (F0 m 2 ls []) := by
    intro fu
    induction fu with
    | zero => intro i hm; exact absurd hm (Nat.not_lt_zero _)
    | succ fu ih2 =>
      intro i hm hi H locs ls hI hl
      refine lv_iload_n hx hb d_WK_settleMarks_2 rfl (lv_at hl 1 rfl) ?_
      refine lv_aload_n hx hb d_WK_settleMarks_3 rfl (lv_at hl 0 rfl) ?_
      refine g_WK_15 M hI d_WK_settleMarks_4 ?_
      refine g_WK_40 M hI d_WK_settleMarks_7 ?_
      refine q_as (y := nI n) hn ?_
      refine lv_icmp_ge (tgt := 47) hx hb d_WK_settleMarks_10 (by decide) (fun c10 => ?_) (fun c10 => ?_)
      · have c10 : n ≤ i := (nI_leI (a := n) (b := i) (by omega) (by omega)).mp c10
        have e9 : i = n := by omega
        subst e9
        exact hret () _ _ _ _ _ _ d_WK_settleMarks_47 hI (trivial) (Nat.le_refl 0) (Nat.le_refl 0)
      · have c10 : ¬ n ≤ i := fun h => c10 ((nI_leI (a := n) (b := i) (by omega) (by omega)).mpr h)
        refine lv_aload_n hx hb d_WK_settleMarks_13 rfl (lv_at hl 0 rfl) ?_
        refine g_WK_15 M hI d_WK_settleMarks_14 ?_
        refine g_WK_46 M hI d_WK_settleMarks_17 ?_
        refine lv_iload_n hx hb d_WK_settleMarks_20 rfl (lv_at hl 1 rfl) ?_
        refine al_37 M hI i rfl (by omega) d_WK_settleMarks_21 ?_
        refine q_as (y := ar 37 i) (pre_at) ?_
        refine lv_bipush (v := 8) hx hb d_WK_settleMarks_22 (by decide) ?_
        refine lv_icmp_ne (tgt := 41) hx hb d_WK_settleMarks_24 (by decide) (fun c24 => ?_) (fun c24 => ?_)
        · rw [pre_same (i := i) (f := w1 (fl 15) (fun j => ar 13 (P j)) (ar 37)) (f0 := ar 37) (by rw [w1_eq, if_neg c24])] at hI
          refine lv_iinc (v := nI (i + 1)) (lv' := [(1, .int (nI (i + 1))), (0, .ref (ad 9))]) hx hb d_WK_settleMarks_41 hl (k := 1) rfl (nI_add _ 1) (by decide) rfl (fun ls hl => ?_)
          refine lv_goto (tgt := 2) hx hb d_WK_settleMarks_44 (by decide) ?_
          exact ih2 (i + 1) (by omega) (by first | assumption | omega) _ _ _ hI (lv_sub hl [1, 0] rfl)
        · refine lv_aload_n hx hb d_WK_settleMarks_27 rfl (lv_at hl 0 rfl) ?_
          refine g_WK_15 M hI d_WK_settleMarks_28 ?_
          refine g_WK_46 M hI d_WK_settleMarks_31 ?_
          refine lv_iload_n hx hb d_WK_settleMarks_34 rfl (lv_at hl 1 rfl) ?_
          refine lv_aload_n hx hb d_WK_settleMarks_35 rfl (lv_at hl 0 rfl) ?_
          refine lv_iload_n hx hb d_WK_settleMarks_36 rfl (lv_at hl 1 rfl) ?_
          refine q_calliV [.int (nI i)] M hI (c_WK_classForMark l g ad (va_up ar 37 (pre i (w1 (fl 15) (fun j => ar 13 (P j)) (ar 37)) (ar 37))) fl i n P (by first | exact hP | assumption | omega | rfl) (by first | exact hPb | assumption | omega | rfl) (by first | exact hi | assumption | omega | rfl) (by first | exact hN | assumption | omega | rfl)) ok_WK_classForMark m3_183 m3_185 ms_20 9 rfl rfl rfl rfl hl.1 ⟨rfl, rfl⟩ ⟨Nat.le_of_ble_eq_true rfl, Nat.le_of_ble_eq_true rfl⟩ (Nat.le_of_ble_eq_true rfl) ⟨Nat.le_of_ble_eq_true rfl, Nat.le_of_ble_eq_true rfl⟩ d_WK_settleMarks_37 (fun r37 u37 H locs hp37 hI => ?_)
          refine q_as (y := clsMark (fl 15) (fun j => ar 13 (P j)) (pre i (w1 (fl 15) (fun j => ar 13 (P j)) (ar 37)) (ar 37)) i) hp37 ?_
          refine as_37 M hI i rfl (by omega) d_WK_settleMarks_40 (fun H locs hI => ?_)
          have hI : CI g A s (cw g ad (va_up ar 37 (upd (pre i (w1 (fl 15) (fun j => ar 13 (P j)) (ar 37)) (ar 37)) i (clsMark (fl 15) (fun j => ar 13 (P j)) (pre i (w1 (fl 15) (fun j => ar 13 (P j)) (ar 37)) (ar 37)) i))) fl) H locs := hI
          rw [show upd (pre i (w1 (fl 15) (fun j => ar 13 (P j)) (ar 37)) (ar 37)) i (clsMark (fl 15) (fun j => ar 13 (P j)) (pre i (w1 (fl 15) (fun j => ar 13 (P j)) (ar 37)) (ar 37)) i) = pre (i + 1) (w1 (fl 15) (fun j => ar 13 (P j)) (ar 37)) (ar 37) from pre_up (by rw [w1_eq, if_pos c24, clsMark_pre])] at hI
          have hI : CI g A s (cw g ad (va_up ar 37 (pre (i + 1) (w1 (fl 15) (fun j => ar 13 (P j)) (ar 37)) (ar 37))) fl) H locs := hI
          refine lv_iinc (v := nI (i + 1)) (lv' := [(1, .int (nI (i + 1))), (0, .ref (ad 9))]) hx hb d_WK_settleMarks_41 hl (k := 1) rfl (nI_add _ 1) (by decide) rfl (fun ls hl => ?_)
          refine lv_goto (tgt := 2) hx hb d_WK_settleMarks_44 (by decide) ?_
          exact ih2 (i + 1) (by omega) (by first | assumption | omega) _ _ _ hI (lv_sub hl [1, 0] rfl)
  have hI := CI.to (w2 := cw g ad (va_up ar 37 (pre 0 (w1 (fl 15) (fun j => ar 13 (P j)) (ar 37)) (ar 37))) fl) hI (by rw [pre_0]; rfl)
  exact L2 _ 0 (Nat.lt_succ_self _) (by first | assumption | omega) _ _ _ hI (lv_sub hl [1, 0] rfl)
abbrev rm_WK_arabicNumbers : Room := { frames := 0, cells := 0, slots := 0, locals := 0 }
set_option maxHeartbeats 4000000 in
set_option maxRecDepth 100000 in
theorem c_WK_arabicNumbers (l : Launch) (g : Geo) (ad : Nat → Nat) (ar : Nat → Nat → Int32) (fl : Nat → Int32) (n : Nat) (hn : fl 13 = nI n) (hN : n ≤ 2000) : cMv l y_WK_arabicNumbers (.code y_WK_arabicNumbers b_WK_arabicNumbers 4 none :: gw) rm_WK_arabicNumbers g [.ref (ad 9)] (cw g ad ar fl) (fun (_ : Unit) => True) (fun (_ : Unit) => cw g ad (va_up ar 37 (wk2 n (fl 15) (ar 37))) fl) 0 0 := by
  refine cMv_of (by decide) (Nat.le_of_ble_eq_true rfl) ?_
  intro p e s m below meth c A Q ls M hnm hret hl hI
  have M : MC p s m ([.ref (ad 9)] : List Value).toArray meth c R_WK b_WK_arabicNumbers 4 := M
  have hl : lv_has ls 4 [(0, .ref (ad 9))] := hl
  generalize ([.ref (ad 9)] : List Value).toArray = args at M hret ⊢
  have hx := M.1
  have hb := M.2.1
  refine lv_aload_n hx hb d_WK_arabicNumbers_0 rfl (lv_at hl 0 rfl) ?_
  refine g_WK_15 M hI d_WK_arabicNumbers_1 ?_
  refine g_WK_54 M hI d_WK_arabicNumbers_4 ?_
  refine lv_istore_n (lv' := [(1, .int (fl 15)), (0, .ref (ad 9))]) hx hb d_WK_arabicNumbers_7 rfl hl (by decide) rfl (fun ls hl => ?_)
  refine lv_iconst (v := 0) hx hb d_WK_arabicNumbers_8 (by decide) ?_
  refine lv_istore_n (lv' := [(2, .int 0), (1, .int (fl 15)), (0, .ref (ad 9))]) hx hb d_WK_arabicNumbers_9 rfl hl (by decide) rfl (fun ls hl => ?_)
  have L10 : ∀ (fu : Nat) (i : Nat) (x : Int32), (n - i) < fu → (i ≤ n) → (x = lastS (fl 15) (ar 37) i) → ∀ (H : Heap) (locs : List Loc) (ls : Array Slot), CI g A s (cw g ad (va_up ar 37 (pre i (w2 (fl 15) (ar 37)) (ar 37))) fl) H locs → lv_has ls 4 [(0, .ref (ad 9)), (2, .int (nI i)), (1, .int x)] → W p l e rm_WK_arabicNumbers s m args below meth c H locs 0 0 Q (F0 m 10 ls []) := by
    intro fu
    induction fu with
    | zero => intro i x hm; exact absurd hm (Nat.not_lt_zero _)
    | succ fu ih10 =>
      intro i x hm hi ex H locs ls hI hl
      refine lv_iload_n hx hb d_WK_arabicNumbers_10 rfl (lv_at hl 1 rfl) ?_
      refine lv_aload_n hx hb d_WK_arabicNumbers_11 rfl (lv_at hl 0 rfl) ?_
      refine g_WK_15 M hI d_WK_arabicNumbers_12 ?_
      refine g_WK_40 M hI d_WK_arabicNumbers_15 ?_
      refine q_as (y := nI n) hn ?_
      refine lv_icmp_ge (tgt := 77) hx hb d_WK_arabicNumbers_18 (by decide) (fun c18 => ?_) (fun c18 => ?_)
      · have c18 : n ≤ i := (nI_leI (a := n) (b := i) (by omega) (by omega)).mp c18
        have e9 : i = n := by omega
        subst e9
        exact hret () _ _ _ _ _ _ d_WK_arabicNumbers_77 hI (trivial) (Nat.le_refl 0) (Nat.le_refl 0)
      · have c18 : ¬ n ≤ i := fun h => c18 ((nI_leI (a := n) (b := i) (by omega) (by omega)).mpr h)
        refine lv_aload_n hx hb d_WK_arabicNumbers_21 rfl (lv_at hl 0 rfl) ?_
        refine g_WK_15 M hI d_WK_arabicNumbers_22 ?_
        refine g_WK_46 M hI d_WK_arabicNumbers_25 ?_
        refine lv_iload_n hx hb d_WK_arabicNumbers_28 rfl (lv_at hl 1 rfl) ?_
        refine al_37 M hI i rfl (by omega) d_WK_arabicNumbers_29 ?_
        refine q_as (y := ar 37 i) (pre_at) ?_
        refine lv_istore_n (lv' := [(3, .int (ar 37 i)), (0, .ref (ad 9)), (2, .int (nI i)), (1, .int x)]) hx hb d_WK_arabicNumbers_30 rfl hl (by decide) rfl (fun ls hl => ?_)
        refine lv_iload_n hx hb d_WK_arabicNumbers_31 rfl (lv_at hl 0 rfl) ?_
        refine lv_if_eq (tgt := 45) hx hb d_WK_arabicNumbers_32 (by decide) (fun c32 => ?_) (fun c32 => ?_)
        · have hs : strg (ar 37 i) := Or.inl c32
          rw [pre_same (i := i) (f := w2 (fl 15) (ar 37)) (f0 := ar 37) (by simp only [w2]; rw [if_neg]; intro q; rw [q.1] at hs; revert hs; decide)] at hI
          refine lv_iload_n hx hb d_WK_arabicNumbers_45 rfl (lv_at hl 0 rfl) ?_
          refine lv_istore_n (lv' := [(1, .int (ar 37 i)), (3, .int (ar 37 i)), (0, .ref (ad 9)), (2, .int (nI i))]) hx hb d_WK_arabicNumbers_46 rfl hl (by decide) rfl (fun ls hl => ?_)
          refine lv_goto (tgt := 71) hx hb d_WK_arabicNumbers_47 (by decide) ?_
          refine lv_iinc (v := nI (i + 1)) (lv' := [(2, .int (nI (i + 1))), (1, .int (ar 37 i)), (3, .int (ar 37 i)), (0, .ref (ad 9))]) hx hb d_WK_arabicNumbers_71 hl (k := 3) rfl (nI_add _ 1) (by decide) rfl (fun ls hl => ?_)
          refine lv_goto (tgt := 10) hx hb d_WK_arabicNumbers_74 (by decide) ?_
          exact ih10 (i + 1) (ar 37 i) (by omega) (by first | assumption | omega) (by simp only [lastS]; first | rw [if_pos hs] | (rw [if_neg hs]; exact ex)) _ _ _ hI (lv_sub hl [3, 0, 1] rfl)
        · refine lv_iload_n hx hb d_WK_arabicNumbers_35 rfl (lv_at hl 0 rfl) ?_
          refine lv_iconst (v := 1) hx hb d_WK_arabicNumbers_36 (by decide) ?_
          refine lv_icmp_eq (tgt := 45) hx hb d_WK_arabicNumbers_37 (by decide) (fun c37 => ?_) (fun c37 => ?_)
          · have hs : strg (ar 37 i) := Or.inr (Or.inl c37)
            rw [pre_same (i := i) (f := w2 (fl 15) (ar 37)) (f0 := ar 37) (by simp only [w2]; rw [if_neg]; intro q; rw [q.1] at hs; revert hs; decide)] at hI
            refine lv_iload_n hx hb d_WK_arabicNumbers_45 rfl (lv_at hl 0 rfl) ?_
            refine lv_istore_n (lv' := [(1, .int (ar 37 i)), (3, .int (ar 37 i)), (0, .ref (ad 9)), (2, .int (nI i))]) hx hb d_WK_arabicNumbers_46 rfl hl (by decide) rfl (fun ls hl => ?_)
            refine lv_goto (tgt := 71) hx hb d_WK_arabicNumbers_47 (by decide) ?_
            refine lv_iinc (v := nI (i + 1)) (lv' := [(2, .int (nI (i + 1))), (1, .int (ar 37 i)), (3, .int (ar 37 i)), (0, .ref (ad 9))]) hx hb d_WK_arabicNumbers_71 hl (k := 3) rfl (nI_add _ 1) (by decide) rfl (fun ls hl => ?_)
            refine lv_goto (tgt := 10) hx hb d_WK_arabicNumbers_74 (by decide) ?_
            exact ih10 (i + 1) (ar 37 i) (by omega) (by first | assumption | omega) (by simp only [lastS]; first | rw [if_pos hs] | (rw [if_neg hs]; exact ex)) _ _ _ hI (lv_sub hl [3, 0, 1] rfl)
          · refine lv_iload_n hx hb d_WK_arabicNumbers_40 rfl (lv_at hl 0 rfl) ?_
            refine lv_iconst (v := 2) hx hb d_WK_arabicNumbers_41 (by decide) ?_
            refine lv_icmp_ne (tgt := 50) hx hb d_WK_arabicNumbers_42 (by decide) (fun c42 => ?_) (fun c42 => ?_)
            · have hs : ¬ strg (ar 37 i) := fun q => q.elim c32 (fun q => q.elim c37 c42)
              refine lv_iload_n hx hb d_WK_arabicNumbers_50 rfl (lv_at hl 0 rfl) ?_
              refine lv_iconst (v := 3) hx hb d_WK_arabicNumbers_51 (by decide) ?_
              refine lv_icmp_ne (tgt := 71) hx hb d_WK_arabicNumbers_52 (by decide) (fun c52 => ?_) (fun c52 => ?_)
              · rw [pre_same (i := i) (f := w2 (fl 15) (ar 37)) (f0 := ar 37) (by simp only [w2]; rw [if_neg (fun q => c52 q.1)])] at hI
                refine lv_iinc (v := nI (i + 1)) (lv' := [(2, .int (nI (i + 1))), (3, .int (ar 37 i)), (0, .ref (ad 9)), (1, .int x)]) hx hb d_WK_arabicNumbers_71 hl (k := 2) rfl (nI_add _ 1) (by decide) rfl (fun ls hl => ?_)
                refine lv_goto (tgt := 10) hx hb d_WK_arabicNumbers_74 (by decide) ?_
                exact ih10 (i + 1) x (by omega) (by first | assumption | omega) (by simp only [lastS]; first | rw [if_pos hs] | (rw [if_neg hs]; exact ex)) _ _ _ hI (lv_sub hl [2, 0, 3] rfl)
              · refine lv_iload_n hx hb d_WK_arabicNumbers_55 rfl (lv_at hl 3 rfl) ?_
                refine lv_iconst (v := 2) hx hb d_WK_arabicNumbers_56 (by decide) ?_
                refine lv_icmp_ne (tgt := 71) hx hb d_WK_arabicNumbers_57 (by decide) (fun c57 => ?_) (fun c57 => ?_)
                · rw [pre_same (i := i) (f := w2 (fl 15) (ar 37)) (f0 := ar 37) (by simp only [w2]; rw [if_neg (fun q => c57 (ex ▸ q.2))])] at hI
                  refine lv_iinc (v := nI (i + 1)) (lv' := [(2, .int (nI (i + 1))), (3, .int (ar 37 i)), (0, .ref (ad 9)), (1, .int x)]) hx hb d_WK_arabicNumbers_71 hl (k := 2) rfl (nI_add _ 1) (by decide) rfl (fun ls hl => ?_)
                  refine lv_goto (tgt := 10) hx hb d_WK_arabicNumbers_74 (by decide) ?_
                  exact ih10 (i + 1) x (by omega) (by first | assumption | omega) (by simp only [lastS]; first | rw [if_pos hs] | (rw [if_neg hs]; exact ex)) _ _ _ hI (lv_sub hl [2, 0, 3] rfl)
                · refine lv_aload_n hx hb d_WK_arabicNumbers_60 rfl (lv_at hl 1 rfl) ?_
                  refine g_WK_15 M hI d_WK_arabicNumbers_61 ?_
                  refine g_WK_46 M hI d_WK_arabicNumbers_64 ?_
                  refine lv_iload_n hx hb d_WK_arabicNumbers_67 rfl (lv_at hl 2 rfl) ?_
                  refine lv_bipush (v := 6) hx hb d_WK_arabicNumbers_68 (by decide) ?_
                  refine as_37 M hI i rfl (by omega) d_WK_arabicNumbers_70 (fun H locs hI => ?_)
                  have hI : CI g A s (cw g ad (va_up ar 37 (upd (pre i (w2 (fl 15) (ar 37)) (ar 37)) i 6)) fl) H locs := hI
                  rw [show upd (pre i (w2 (fl 15) (ar 37)) (ar 37)) i 6 = pre (i + 1) (w2 (fl 15) (ar 37)) (ar 37) from pre_up (by simp only [w2]; rw [if_pos ⟨c52, ex ▸ c57⟩])] at hI
                  have hI : CI g A s (cw g ad (va_up ar 37 (pre (i + 1) (w2 (fl 15) (ar 37)) (ar 37))) fl) H locs := hI
                  refine lv_iinc (v := nI (i + 1)) (lv' := [(2, .int (nI (i + 1))), (3, .int (ar 37 i)), (0, .ref (ad 9)), (1, .int x)]) hx hb d_WK_arabicNumbers_71 hl (k := 2) rfl (nI_add _ 1) (by decide) rfl (fun ls hl => ?_)
                  refine lv_goto (tgt := 10) hx hb d_WK_arabicNumbers_74 (by decide) ?_
                  exact ih10 (i + 1) x (by omega) (by first | assumption | omega) (by simp only [lastS]; first | rw [if_pos hs] | (rw [if_neg hs]; exact ex)) _ _ _ hI (lv_sub hl [2, 0, 3] rfl)
            · have hs : strg (ar 37 i) := Or.inr (Or.inr c42)
              rw [pre_same (i := i) (f := w2 (fl 15) (ar 37)) (f0 := ar 37) (by simp only [w2]; rw [if_neg]; intro q; rw [q.1] at hs; revert hs; decide)] at hI
              refine lv_iload_n hx hb d_WK_arabicNumbers_45 rfl (lv_at hl 0 rfl) ?_
              refine lv_istore_n (lv' := [(1, .int (ar 37 i)), (3, .int (ar 37 i)), (0, .ref (ad 9)), (2, .int (nI i))]) hx hb d_WK_arabicNumbers_46 rfl hl (by decide) rfl (fun ls hl => ?_)
              refine lv_goto (tgt := 71) hx hb d_WK_arabicNumbers_47 (by decide) ?_
              refine lv_iinc (v := nI (i + 1)) (lv' := [(2, .int (nI (i + 1))), (1, .int (ar 37 i)), (3, .int (ar 37 i)), (0, .ref (ad 9))]) hx hb d_WK_arabicNumbers_71 hl (k := 3) rfl (nI_add _ 1) (by decide) rfl (fun ls hl => ?_)
              refine lv_goto (tgt := 10) hx hb d_WK_arabicNumbers_74 (by decide) ?_
              exact ih10 (i + 1) (ar 37 i) (by omega) (by first | assumption | omega) (by simp only [lastS]; first | rw [if_pos hs] | (rw [if_neg hs]; exact ex)) _ _ _ hI (lv_sub hl [3, 0, 1] rfl)
  have hI := CI.to (w2 := cw g ad (va_up ar 37 (pre 0 (w2 (fl 15) (ar 37)) (ar 37))) fl) hI (by rw [pre_0]; rfl)
  exact L10 _ 0 (fl 15) (Nat.lt_succ_self _) (by first | assumption | omega) (rfl) _ _ _ hI (lv_sub hl [2, 0, 1] rfl)
abbrev rm_WK_arabicLetters : Room := { frames := 0, cells := 0, slots := 0, locals := 0 }
set_option maxHeartbeats 4000000 in
set_option maxRecDepth 100000 in
theorem c_WK_arabicLetters (l : Launch) (g : Geo) (ad : Nat → Nat) (ar : Nat → Nat → Int32) (fl : Nat → Int32) (n : Nat) (hn : fl 13 = nI n) (hN : n ≤ 2000) : cMv l y_WK_arabicLetters (.code y_WK_arabicLetters b_WK_arabicLetters 2 none :: gw) rm_WK_arabicLetters g [.ref (ad 9)] (cw g ad ar fl) (fun (_ : Unit) => True) (fun (_ : Unit) => cw g ad (va_up ar 37 (wk3 n (ar 37))) fl) 0 0 := by
  refine cMv_of (by decide) (Nat.le_of_ble_eq_true rfl) ?_
  intro p e s m below meth c A Q ls M hnm hret hl hI
  have M : MC p s m ([.ref (ad 9)] : List Value).toArray meth c R_WK b_WK_arabicLetters 2 := M
  have hl : lv_has ls 2 [(0, .ref (ad 9))] := hl
  generalize ([.ref (ad 9)] : List Value).toArray = args at M hret ⊢
  have hx := M.1
  have hb := M.2.1
  refine lv_iconst (v := 0) hx hb d_WK_arabicLetters_0 (by decide) ?_
  refine lv_istore_n (lv' := [(1, .int 0), (0, .ref (ad 9))]) hx hb d_WK_arabicLetters_1 rfl hl (by decide) rfl (fun ls hl => ?_)
  have L2 : ∀ (fu : Nat) (i : Nat), (n - i) < fu → (i ≤ n) → ∀ (H : Heap) (locs : List Loc) (ls : Array Slot), CI g A s (cw g ad (va_up ar 37 (pre i (w3 (ar 37)) (ar 37))) fl) H locs → lv_has ls 2 [(0, .ref (ad 9)), (1, .int (nI i))] → W p l e rm_WK_arabicLetters s m args below meth c H locs 0 0 Q (F0 m 2 ls []) := by
    intro fu
    induction fu with
    | zero => intro i hm; exact absurd hm (Nat.not_lt_zero _)
    | succ fu ih2 =>
      intro i hm hi H locs ls hI hl
      refine lv_iload_n hx hb d_WK_arabicLetters_2 rfl (lv_at hl 1 rfl) ?_
      refine lv_aload_n hx hb d_WK_arabicLetters_3 rfl (lv_at hl 0 rfl) ?_
      refine g_WK_15 M hI d_WK_arabicLetters_4 ?_
      refine g_WK_40 M hI d_WK_arabicLetters_7 ?_
      refine q_as (y := nI n) hn ?_
      refine lv_icmp_ge (tgt := 42) hx hb d_WK_arabicLetters_10 (by decide) (fun c10 => ?_) (fun c10 => ?_)
      · have c10 : n ≤ i := (nI_leI (a := n) (b := i) (by omega) (by omega)).mp c10
        have e9 : i = n := by omega
        subst e9
        exact hret () _ _ _ _ _ _ d_WK_arabicLetters_42 hI (trivial) (Nat.le_refl 0) (Nat.le_refl 0)
      · have c10 : ¬ n ≤ i := fun h => c10 ((nI_leI (a := n) (b := i) (by omega) (by omega)).mpr h)
        refine lv_aload_n hx hb d_WK_arabicLetters_13 rfl (lv_at hl 0 rfl) ?_
        refine g_WK_15 M hI d_WK_arabicLetters_14 ?_
        refine g_WK_46 M hI d_WK_arabicLetters_17 ?_
        refine lv_iload_n hx hb d_WK_arabicLetters_20 rfl (lv_at hl 1 rfl) ?_
        refine al_37 M hI i rfl (by omega) d_WK_arabicLetters_21 ?_
        refine q_as (y := ar 37 i) (pre_at) ?_
        refine lv_iconst (v := 2) hx hb d_WK_arabicLetters_22 (by decide) ?_
        refine lv_icmp_ne (tgt := 36) hx hb d_WK_arabicLetters_23 (by decide) (fun c23 => ?_) (fun c23 => ?_)
        · rw [pre_same (i := i) (f := w3 (ar 37)) (f0 := ar 37) (by simp only [w3]; rw [if_neg c23])] at hI
          refine lv_iinc (v := nI (i + 1)) (lv' := [(1, .int (nI (i + 1))), (0, .ref (ad 9))]) hx hb d_WK_arabicLetters_36 hl (k := 1) rfl (nI_add _ 1) (by decide) rfl (fun ls hl => ?_)
          refine lv_goto (tgt := 2) hx hb d_WK_arabicLetters_39 (by decide) ?_
          exact ih2 (i + 1) (by omega) (by first | assumption | omega) _ _ _ hI (lv_sub hl [1, 0] rfl)
        · refine lv_aload_n hx hb d_WK_arabicLetters_26 rfl (lv_at hl 0 rfl) ?_
          refine g_WK_15 M hI d_WK_arabicLetters_27 ?_
          refine g_WK_46 M hI d_WK_arabicLetters_30 ?_
          refine lv_iload_n hx hb d_WK_arabicLetters_33 rfl (lv_at hl 1 rfl) ?_
          refine lv_iconst (v := 1) hx hb d_WK_arabicLetters_34 (by decide) ?_
          refine as_37 M hI i rfl (by omega) d_WK_arabicLetters_35 (fun H locs hI => ?_)
          have hI : CI g A s (cw g ad (va_up ar 37 (upd (pre i (w3 (ar 37)) (ar 37)) i 1)) fl) H locs := hI
          rw [show upd (pre i (w3 (ar 37)) (ar 37)) i 1 = pre (i + 1) (w3 (ar 37)) (ar 37) from pre_up (by simp only [w3]; rw [if_pos c23])] at hI
          have hI : CI g A s (cw g ad (va_up ar 37 (pre (i + 1) (w3 (ar 37)) (ar 37))) fl) H locs := hI
          refine lv_iinc (v := nI (i + 1)) (lv' := [(1, .int (nI (i + 1))), (0, .ref (ad 9))]) hx hb d_WK_arabicLetters_36 hl (k := 1) rfl (nI_add _ 1) (by decide) rfl (fun ls hl => ?_)
          refine lv_goto (tgt := 2) hx hb d_WK_arabicLetters_39 (by decide) ?_
          exact ih2 (i + 1) (by omega) (by first | assumption | omega) _ _ _ hI (lv_sub hl [1, 0] rfl)
  have hI := CI.to (w2 := cw g ad (va_up ar 37 (pre 0 (w3 (ar 37)) (ar 37))) fl) hI (by rw [pre_0]; rfl)
  exact L2 _ 0 (Nat.lt_succ_self _) (by first | assumption | omega) _ _ _ hI (lv_sub hl [1, 0] rfl)
abbrev rm_WK_restToNeutral : Room := { frames := 0, cells := 0, slots := 0, locals := 0 }
set_option maxHeartbeats 4000000 in
set_option maxRecDepth 100000 in
theorem c_WK_restToNeutral (l : Launch) (g : Geo) (ad : Nat → Nat) (ar : Nat → Nat → Int32) (fl : Nat → Int32) (n : Nat) (hn : fl 13 = nI n) (hN : n ≤ 2000) : cMv l y_WK_restToNeutral (.code y_WK_restToNeutral b_WK_restToNeutral 3 none :: gw) rm_WK_restToNeutral g [.ref (ad 9)] (cw g ad ar fl) (fun (_ : Unit) => True) (fun (_ : Unit) => cw g ad (va_up ar 37 (wk6 n (ar 37))) fl) 0 0 := by
  refine cMv_of (by decide) (Nat.le_of_ble_eq_true rfl) ?_
  intro p e s m below meth c A Q ls M hnm hret hl hI
  have M : MC p s m ([.ref (ad 9)] : List Value).toArray meth c R_WK b_WK_restToNeutral 3 := M
  have hl : lv_has ls 3 [(0, .ref (ad 9))] := hl
  generalize ([.ref (ad 9)] : List Value).toArray = args at M hret ⊢
  have hx := M.1
  have hb := M.2.1
  refine lv_iconst (v := 0) hx hb d_WK_restToNeutral_0 (by decide) ?_
  refine lv_istore_n (lv' := [(1, .int 0), (0, .ref (ad 9))]) hx hb d_WK_restToNeutral_1 rfl hl (by decide) rfl (fun ls hl => ?_)
  have L2 : ∀ (fu : Nat) (i : Nat), (n - i) < fu → (i ≤ n) → ∀ (H : Heap) (locs : List Loc) (ls : Array Slot), CI g A s (cw g ad (va_up ar 37 (pre i (w6 (ar 37)) (ar 37))) fl) H locs → lv_has ls 3 [(0, .ref (ad 9)), (1, .int (nI i))] → W p l e rm_WK_restToNeutral s m args below meth c H locs 0 0 Q (F0 m 2 ls []) := by
    intro fu
    induction fu with
    | zero => intro i hm; exact absurd hm (Nat.not_lt_zero _)
    | succ fu ih2 =>
      intro i hm hi H locs ls hI hl
      refine lv_iload_n hx hb d_WK_restToNeutral_2 rfl (lv_at hl 1 rfl) ?_
      refine lv_aload_n hx hb d_WK_restToNeutral_3 rfl (lv_at hl 0 rfl) ?_
      refine g_WK_15 M hI d_WK_restToNeutral_4 ?_
      refine g_WK_40 M hI d_WK_restToNeutral_7 ?_
      refine q_as (y := nI n) hn ?_
      refine lv_icmp_ge (tgt := 56) hx hb d_WK_restToNeutral_10 (by decide) (fun c10 => ?_) (fun c10 => ?_)
      · have c10 : n ≤ i := (nI_leI (a := n) (b := i) (by omega) (by omega)).mp c10
        have e9 : i = n := by omega
        subst e9
        exact hret () _ _ _ _ _ _ d_WK_restToNeutral_56 hI (trivial) (Nat.le_refl 0) (Nat.le_refl 0)
      · have c10 : ¬ n ≤ i := fun h => c10 ((nI_leI (a := n) (b := i) (by omega) (by omega)).mpr h)
        refine lv_aload_n hx hb d_WK_restToNeutral_13 rfl (lv_at hl 0 rfl) ?_
        refine g_WK_15 M hI d_WK_restToNeutral_14 ?_
        refine g_WK_46 M hI d_WK_restToNeutral_17 ?_
        refine lv_iload_n hx hb d_WK_restToNeutral_20 rfl (lv_at hl 1 rfl) ?_
        refine al_37 M hI i rfl (by omega) d_WK_restToNeutral_21 ?_
        refine q_as (y := ar 37 i) (pre_at) ?_
        refine lv_istore_n (lv' := [(2, .int (ar 37 i)), (0, .ref (ad 9)), (1, .int (nI i))]) hx hb d_WK_restToNeutral_22 rfl hl (by decide) rfl (fun ls hl => ?_)
        refine lv_iload_n hx hb d_WK_restToNeutral_23 rfl (lv_at hl 0 rfl) ?_
        refine lv_iconst (v := 4) hx hb d_WK_restToNeutral_24 (by decide) ?_
        refine lv_icmp_eq (tgt := 39) hx hb d_WK_restToNeutral_25 (by decide) (fun c25 => ?_) (fun c25 => ?_)
        · refine lv_aload_n hx hb d_WK_restToNeutral_39 rfl (lv_at hl 1 rfl) ?_
          refine g_WK_15 M hI d_WK_restToNeutral_40 ?_
          refine g_WK_46 M hI d_WK_restToNeutral_43 ?_
          refine lv_iload_n hx hb d_WK_restToNeutral_46 rfl (lv_at hl 2 rfl) ?_
          refine lv_bipush (v := 13) hx hb d_WK_restToNeutral_47 (by decide) ?_
          refine as_37 M hI i rfl (by omega) d_WK_restToNeutral_49 (fun H locs hI => ?_)
          have hI : CI g A s (cw g ad (va_up ar 37 (upd (pre i (w6 (ar 37)) (ar 37)) i 13)) fl) H locs := hI
          rw [show upd (pre i (w6 (ar 37)) (ar 37)) i 13 = pre (i + 1) (w6 (ar 37)) (ar 37) from pre_up (by simp only [w6]; rw [if_pos]; first | exact Or.inl c25 | exact Or.inr (Or.inl c30) | exact Or.inr (Or.inr c36))] at hI
          have hI : CI g A s (cw g ad (va_up ar 37 (pre (i + 1) (w6 (ar 37)) (ar 37))) fl) H locs := hI
          refine lv_iinc (v := nI (i + 1)) (lv' := [(1, .int (nI (i + 1))), (2, .int (ar 37 i)), (0, .ref (ad 9))]) hx hb d_WK_restToNeutral_50 hl (k := 2) rfl (nI_add _ 1) (by decide) rfl (fun ls hl => ?_)
          refine lv_goto (tgt := 2) hx hb d_WK_restToNeutral_53 (by decide) ?_
          exact ih2 (i + 1) (by omega) (by first | assumption | omega) _ _ _ hI (lv_sub hl [2, 0] rfl)
        · refine lv_iload_n hx hb d_WK_restToNeutral_28 rfl (lv_at hl 0 rfl) ?_
          refine lv_iconst (v := 5) hx hb d_WK_restToNeutral_29 (by decide) ?_
          refine lv_icmp_eq (tgt := 39) hx hb d_WK_restToNeutral_30 (by decide) (fun c30 => ?_) (fun c30 => ?_)
          · refine lv_aload_n hx hb d_WK_restToNeutral_39 rfl (lv_at hl 1 rfl) ?_
            refine g_WK_15 M hI d_WK_restToNeutral_40 ?_
            refine g_WK_46 M hI d_WK_restToNeutral_43 ?_
            refine lv_iload_n hx hb d_WK_restToNeutral_46 rfl (lv_at hl 2 rfl) ?_
            refine lv_bipush (v := 13) hx hb d_WK_restToNeutral_47 (by decide) ?_
            refine as_37 M hI i rfl (by omega) d_WK_restToNeutral_49 (fun H locs hI => ?_)
            have hI : CI g A s (cw g ad (va_up ar 37 (upd (pre i (w6 (ar 37)) (ar 37)) i 13)) fl) H locs := hI
            rw [show upd (pre i (w6 (ar 37)) (ar 37)) i 13 = pre (i + 1) (w6 (ar 37)) (ar 37) from pre_up (by simp only [w6]; rw [if_pos]; first | exact Or.inl c25 | exact Or.inr (Or.inl c30) | exact Or.inr (Or.inr c36))] at hI
            have hI : CI g A s (cw g ad (va_up ar 37 (pre (i + 1) (w6 (ar 37)) (ar 37))) fl) H locs := hI
            refine lv_iinc (v := nI (i + 1)) (lv' := [(1, .int (nI (i + 1))), (2, .int (ar 37 i)), (0, .ref (ad 9))]) hx hb d_WK_restToNeutral_50 hl (k := 2) rfl (nI_add _ 1) (by decide) rfl (fun ls hl => ?_)
            refine lv_goto (tgt := 2) hx hb d_WK_restToNeutral_53 (by decide) ?_
            exact ih2 (i + 1) (by omega) (by first | assumption | omega) _ _ _ hI (lv_sub hl [2, 0] rfl)
          · refine lv_iload_n hx hb d_WK_restToNeutral_33 rfl (lv_at hl 0 rfl) ?_
            refine lv_bipush (v := 7) hx hb d_WK_restToNeutral_34 (by decide) ?_
            refine lv_icmp_ne (tgt := 50) hx hb d_WK_restToNeutral_36 (by decide) (fun c36 => ?_) (fun c36 => ?_)
            · rw [pre_same (i := i) (f := w6 (ar 37)) (f0 := ar 37) (by simp only [w6]; rw [if_neg (fun q => q.elim c25 (fun q => q.elim c30 c36))])] at hI
              refine lv_iinc (v := nI (i + 1)) (lv' := [(1, .int (nI (i + 1))), (2, .int (ar 37 i)), (0, .ref (ad 9))]) hx hb d_WK_restToNeutral_50 hl (k := 2) rfl (nI_add _ 1) (by decide) rfl (fun ls hl => ?_)
              refine lv_goto (tgt := 2) hx hb d_WK_restToNeutral_53 (by decide) ?_
              exact ih2 (i + 1) (by omega) (by first | assumption | omega) _ _ _ hI (lv_sub hl [2, 0] rfl)
            · refine lv_aload_n hx hb d_WK_restToNeutral_39 rfl (lv_at hl 1 rfl) ?_
              refine g_WK_15 M hI d_WK_restToNeutral_40 ?_
              refine g_WK_46 M hI d_WK_restToNeutral_43 ?_
              refine lv_iload_n hx hb d_WK_restToNeutral_46 rfl (lv_at hl 2 rfl) ?_
              refine lv_bipush (v := 13) hx hb d_WK_restToNeutral_47 (by decide) ?_
              refine as_37 M hI i rfl (by omega) d_WK_restToNeutral_49 (fun H locs hI => ?_)
              have hI : CI g A s (cw g ad (va_up ar 37 (upd (pre i (w6 (ar 37)) (ar 37)) i 13)) fl) H locs := hI
              rw [show upd (pre i (w6 (ar 37)) (ar 37)) i 13 = pre (i + 1) (w6 (ar 37)) (ar 37) from pre_up (by simp only [w6]; rw [if_pos]; first | exact Or.inl c25 | exact Or.inr (Or.inl c30) | exact Or.inr (Or.inr c36))] at hI
              have hI : CI g A s (cw g ad (va_up ar 37 (pre (i + 1) (w6 (ar 37)) (ar 37))) fl) H locs := hI
              refine lv_iinc (v := nI (i + 1)) (lv' := [(1, .int (nI (i + 1))), (2, .int (ar 37 i)), (0, .ref (ad 9))]) hx hb d_WK_restToNeutral_50 hl (k := 2) rfl (nI_add _ 1) (by decide) rfl (fun ls hl => ?_)
              refine lv_goto (tgt := 2) hx hb d_WK_restToNeutral_53 (by decide) ?_
              exact ih2 (i + 1) (by omega) (by first | assumption | omega) _ _ _ hI (lv_sub hl [2, 0] rfl)
  have hI := CI.to (w2 := cw g ad (va_up ar 37 (pre 0 (w6 (ar 37)) (ar 37))) fl) hI (by rw [pre_0]; rfl)
  exact L2 _ 0 (Nat.lt_succ_self _) (by first | assumption | omega) _ _ _ hI (lv_sub hl [1, 0] rfl)
abbrev rm_WK_latinNumbers : Room := { frames := 0, cells := 0, slots := 0, locals := 0 }
set_option maxHeartbeats 4000000 in
set_option maxRecDepth 100000 in
theorem c_WK_latinNumbers (l : Launch) (g : Geo) (ad : Nat → Nat) (ar : Nat → Nat → Int32) (fl : Nat → Int32) (n : Nat) (hn : fl 13 = nI n) (hN : n ≤ 2000) : cMv l y_WK_latinNumbers (.code y_WK_latinNumbers b_WK_latinNumbers 4 none :: gw) rm_WK_latinNumbers g [.ref (ad 9)] (cw g ad ar fl) (fun (_ : Unit) => True) (fun (_ : Unit) => cw g ad (va_up ar 37 (wk7 n (fl 15) (ar 37))) fl) 0 0 := by
  refine cMv_of (by decide) (Nat.le_of_ble_eq_true rfl) ?_
  intro p e s m below meth c A Q ls M hnm hret hl hI
  have M : MC p s m ([.ref (ad 9)] : List Value).toArray meth c R_WK b_WK_latinNumbers 4 := M
  have hl : lv_has ls 4 [(0, .ref (ad 9))] := hl
  generalize ([.ref (ad 9)] : List Value).toArray = args at M hret ⊢
  have hx := M.1
  have hb := M.2.1
  refine lv_aload_n hx hb d_WK_latinNumbers_0 rfl (lv_at hl 0 rfl) ?_
  refine g_WK_15 M hI d_WK_latinNumbers_1 ?_
  refine g_WK_54 M hI d_WK_latinNumbers_4 ?_
  refine lv_istore_n (lv' := [(1, .int (fl 15)), (0, .ref (ad 9))]) hx hb d_WK_latinNumbers_7 rfl hl (by decide) rfl (fun ls hl => ?_)
  refine lv_iconst (v := 0) hx hb d_WK_latinNumbers_8 (by decide) ?_
  refine lv_istore_n (lv' := [(2, .int 0), (1, .int (fl 15)), (0, .ref (ad 9))]) hx hb d_WK_latinNumbers_9 rfl hl (by decide) rfl (fun ls hl => ?_)
  have L10 : ∀ (fu : Nat) (i : Nat) (x : Int32), (n - i) < fu → (i ≤ n) → (x = lastD (fl 15) (ar 37) i) → ∀ (H : Heap) (locs : List Loc) (ls : Array Slot), CI g A s (cw g ad (va_up ar 37 (pre i (w7 (fl 15) (ar 37)) (ar 37))) fl) H locs → lv_has ls 4 [(0, .ref (ad 9)), (2, .int (nI i)), (1, .int x)] → W p l e rm_WK_latinNumbers s m args below meth c H locs 0 0 Q (F0 m 10 ls []) := by
    intro fu
    induction fu with
    | zero => intro i x hm; exact absurd hm (Nat.not_lt_zero _)
    | succ fu ih10 =>
      intro i x hm hi ex H locs ls hI hl
      refine lv_iload_n hx hb d_WK_latinNumbers_10 rfl (lv_at hl 1 rfl) ?_
      refine lv_aload_n hx hb d_WK_latinNumbers_11 rfl (lv_at hl 0 rfl) ?_
      refine g_WK_15 M hI d_WK_latinNumbers_12 ?_
      refine g_WK_40 M hI d_WK_latinNumbers_15 ?_
      refine q_as (y := nI n) hn ?_
      refine lv_icmp_ge (tgt := 70) hx hb d_WK_latinNumbers_18 (by decide) (fun c18 => ?_) (fun c18 => ?_)
      · have c18 : n ≤ i := (nI_leI (a := n) (b := i) (by omega) (by omega)).mp c18
        have e9 : i = n := by omega
        subst e9
        exact hret () _ _ _ _ _ _ d_WK_latinNumbers_70 hI (trivial) (Nat.le_refl 0) (Nat.le_refl 0)
      · have c18 : ¬ n ≤ i := fun h => c18 ((nI_leI (a := n) (b := i) (by omega) (by omega)).mpr h)
        refine lv_aload_n hx hb d_WK_latinNumbers_21 rfl (lv_at hl 0 rfl) ?_
        refine g_WK_15 M hI d_WK_latinNumbers_22 ?_
        refine g_WK_46 M hI d_WK_latinNumbers_25 ?_
        refine lv_iload_n hx hb d_WK_latinNumbers_28 rfl (lv_at hl 1 rfl) ?_
        refine al_37 M hI i rfl (by omega) d_WK_latinNumbers_29 ?_
        refine q_as (y := ar 37 i) (pre_at) ?_
        refine lv_istore_n (lv' := [(3, .int (ar 37 i)), (0, .ref (ad 9)), (2, .int (nI i)), (1, .int x)]) hx hb d_WK_latinNumbers_30 rfl hl (by decide) rfl (fun ls hl => ?_)
        refine lv_iload_n hx hb d_WK_latinNumbers_31 rfl (lv_at hl 0 rfl) ?_
        refine lv_if_eq (tgt := 40) hx hb d_WK_latinNumbers_32 (by decide) (fun c32 => ?_) (fun c32 => ?_)
        · have hs : ar 37 i = 0 ∨ ar 37 i = 1 := Or.inl c32
          rw [pre_same (i := i) (f := w7 (fl 15) (ar 37)) (f0 := ar 37) (by simp only [w7]; rw [if_neg]; intro q; rw [q.1] at hs; revert hs; decide)] at hI
          refine lv_iload_n hx hb d_WK_latinNumbers_40 rfl (lv_at hl 0 rfl) ?_
          refine lv_istore_n (lv' := [(1, .int (ar 37 i)), (3, .int (ar 37 i)), (0, .ref (ad 9)), (2, .int (nI i))]) hx hb d_WK_latinNumbers_41 rfl hl (by decide) rfl (fun ls hl => ?_)
          refine lv_goto (tgt := 64) hx hb d_WK_latinNumbers_42 (by decide) ?_
          refine lv_iinc (v := nI (i + 1)) (lv' := [(2, .int (nI (i + 1))), (1, .int (ar 37 i)), (3, .int (ar 37 i)), (0, .ref (ad 9))]) hx hb d_WK_latinNumbers_64 hl (k := 3) rfl (nI_add _ 1) (by decide) rfl (fun ls hl => ?_)
          refine lv_goto (tgt := 10) hx hb d_WK_latinNumbers_67 (by decide) ?_
          exact ih10 (i + 1) (ar 37 i) (by omega) (by first | assumption | omega) (by simp only [lastD]; first | rw [if_pos hs] | (rw [if_neg hs]; exact ex)) _ _ _ hI (lv_sub hl [3, 0, 1] rfl)
        · refine lv_iload_n hx hb d_WK_latinNumbers_35 rfl (lv_at hl 0 rfl) ?_
          refine lv_iconst (v := 1) hx hb d_WK_latinNumbers_36 (by decide) ?_
          refine lv_icmp_ne (tgt := 45) hx hb d_WK_latinNumbers_37 (by decide) (fun c37 => ?_) (fun c37 => ?_)
          · have hs : ¬ (ar 37 i = 0 ∨ ar 37 i = 1) := fun q => q.elim c32 c37
            refine lv_iload_n hx hb d_WK_latinNumbers_45 rfl (lv_at hl 0 rfl) ?_
            refine lv_iconst (v := 3) hx hb d_WK_latinNumbers_46 (by decide) ?_
            refine lv_icmp_ne (tgt := 64) hx hb d_WK_latinNumbers_47 (by decide) (fun c47 => ?_) (fun c47 => ?_)
            · rw [pre_same (i := i) (f := w7 (fl 15) (ar 37)) (f0 := ar 37) (by simp only [w7]; rw [if_neg (fun q => c47 q.1)])] at hI
              refine lv_iinc (v := nI (i + 1)) (lv' := [(2, .int (nI (i + 1))), (3, .int (ar 37 i)), (0, .ref (ad 9)), (1, .int x)]) hx hb d_WK_latinNumbers_64 hl (k := 2) rfl (nI_add _ 1) (by decide) rfl (fun ls hl => ?_)
              refine lv_goto (tgt := 10) hx hb d_WK_latinNumbers_67 (by decide) ?_
              exact ih10 (i + 1) x (by omega) (by first | assumption | omega) (by simp only [lastD]; first | rw [if_pos hs] | (rw [if_neg hs]; exact ex)) _ _ _ hI (lv_sub hl [2, 0, 3] rfl)
            · refine lv_iload_n hx hb d_WK_latinNumbers_50 rfl (lv_at hl 3 rfl) ?_
              refine lv_if_ne (tgt := 64) hx hb d_WK_latinNumbers_51 (by decide) (fun c51 => ?_) (fun c51 => ?_)
              · rw [pre_same (i := i) (f := w7 (fl 15) (ar 37)) (f0 := ar 37) (by simp only [w7]; rw [if_neg (fun q => c51 (ex ▸ q.2))])] at hI
                refine lv_iinc (v := nI (i + 1)) (lv' := [(2, .int (nI (i + 1))), (3, .int (ar 37 i)), (0, .ref (ad 9)), (1, .int x)]) hx hb d_WK_latinNumbers_64 hl (k := 2) rfl (nI_add _ 1) (by decide) rfl (fun ls hl => ?_)
                refine lv_goto (tgt := 10) hx hb d_WK_latinNumbers_67 (by decide) ?_
                exact ih10 (i + 1) x (by omega) (by first | assumption | omega) (by simp only [lastD]; first | rw [if_pos hs] | (rw [if_neg hs]; exact ex)) _ _ _ hI (lv_sub hl [2, 0, 3] rfl)
              · refine lv_aload_n hx hb d_WK_latinNumbers_54 rfl (lv_at hl 1 rfl) ?_
                refine g_WK_15 M hI d_WK_latinNumbers_55 ?_
                refine g_WK_46 M hI d_WK_latinNumbers_58 ?_
                refine lv_iload_n hx hb d_WK_latinNumbers_61 rfl (lv_at hl 2 rfl) ?_
                refine lv_iconst (v := 0) hx hb d_WK_latinNumbers_62 (by decide) ?_
                refine as_37 M hI i rfl (by omega) d_WK_latinNumbers_63 (fun H locs hI => ?_)
                have hI : CI g A s (cw g ad (va_up ar 37 (upd (pre i (w7 (fl 15) (ar 37)) (ar 37)) i 0)) fl) H locs := hI
                rw [show upd (pre i (w7 (fl 15) (ar 37)) (ar 37)) i 0 = pre (i + 1) (w7 (fl 15) (ar 37)) (ar 37) from pre_up (by simp only [w7]; rw [if_pos ⟨c47, ex ▸ c51⟩])] at hI
                have hI : CI g A s (cw g ad (va_up ar 37 (pre (i + 1) (w7 (fl 15) (ar 37)) (ar 37))) fl) H locs := hI
                refine lv_iinc (v := nI (i + 1)) (lv' := [(2, .int (nI (i + 1))), (3, .int (ar 37 i)), (0, .ref (ad 9)), (1, .int x)]) hx hb d_WK_latinNumbers_64 hl (k := 2) rfl (nI_add _ 1) (by decide) rfl (fun ls hl => ?_)
                refine lv_goto (tgt := 10) hx hb d_WK_latinNumbers_67 (by decide) ?_
                exact ih10 (i + 1) x (by omega) (by first | assumption | omega) (by simp only [lastD]; first | rw [if_pos hs] | (rw [if_neg hs]; exact ex)) _ _ _ hI (lv_sub hl [2, 0, 3] rfl)
          · have hs : ar 37 i = 0 ∨ ar 37 i = 1 := Or.inr c37
            rw [pre_same (i := i) (f := w7 (fl 15) (ar 37)) (f0 := ar 37) (by simp only [w7]; rw [if_neg]; intro q; rw [q.1] at hs; revert hs; decide)] at hI
            refine lv_iload_n hx hb d_WK_latinNumbers_40 rfl (lv_at hl 0 rfl) ?_
            refine lv_istore_n (lv' := [(1, .int (ar 37 i)), (3, .int (ar 37 i)), (0, .ref (ad 9)), (2, .int (nI i))]) hx hb d_WK_latinNumbers_41 rfl hl (by decide) rfl (fun ls hl => ?_)
            refine lv_goto (tgt := 64) hx hb d_WK_latinNumbers_42 (by decide) ?_
            refine lv_iinc (v := nI (i + 1)) (lv' := [(2, .int (nI (i + 1))), (1, .int (ar 37 i)), (3, .int (ar 37 i)), (0, .ref (ad 9))]) hx hb d_WK_latinNumbers_64 hl (k := 3) rfl (nI_add _ 1) (by decide) rfl (fun ls hl => ?_)
            refine lv_goto (tgt := 10) hx hb d_WK_latinNumbers_67 (by decide) ?_
            exact ih10 (i + 1) (ar 37 i) (by omega) (by first | assumption | omega) (by simp only [lastD]; first | rw [if_pos hs] | (rw [if_neg hs]; exact ex)) _ _ _ hI (lv_sub hl [3, 0, 1] rfl)
  have hI := CI.to (w2 := cw g ad (va_up ar 37 (pre 0 (w7 (fl 15) (ar 37)) (ar 37))) fl) hI (by rw [pre_0]; rfl)
  exact L10 _ 0 (fl 15) (Nat.lt_succ_self _) (by first | assumption | omega) (rfl) _ _ _ hI (lv_sub hl [2, 0, 1] rfl)
abbrev rm_WK_isBetween : Room := { frames := 1, cells := 0, slots := 0, locals := 22 }
set_option maxHeartbeats 4000000 in
set_option maxRecDepth 100000 in
theorem c_WK_isBetween (l : Launch) (g : Geo) (ad : Nat → Nat) (ar : Nat → Nat → Int32) (fl : Nat → Int32) (i : Nat) (v : Int32) (n : Nat) (hn : fl 13 = nI n) (hN : n ≤ 2000) (hi : i < n) : cMi l y_WK_isBetween (.code y_WK_isBetween b_WK_isBetween 3 (some .boolean) :: gw) rm_WK_isBetween g [.ref (ad 9), .int (nI i), .int v] (cw g ad ar fl) (fun (r : Int32) (_ : Unit) => r = bI (btw n (ar 37) (ar 37) i v)) (fun (_ : Unit) => cw g ad ar fl) 0 0 := by
  refine cMz_of (by decide) (Nat.le_of_ble_eq_true rfl) ?_
  intro p e s m below meth c A Q ls M hret hl hI
  have M : MC p s m ([.ref (ad 9), .int (nI i), .int v] : List Value).toArray meth c R_WK b_WK_isBetween 3 := M
  have hl : lv_has ls 3 [(0, .ref (ad 9)), (1, .int (nI i)), (2, .int v)] := hl
  generalize ([.ref (ad 9), .int (nI i), .int v] : List Value).toArray = args at M hret ⊢
  have hx := M.1
  have hb := M.2.1
  refine lv_aload_n hx hb d_WK_isBetween_0 rfl (lv_at hl 0 rfl) ?_
  refine g_WK_15 M hI d_WK_isBetween_1 ?_
  refine lv_iload_n hx hb d_WK_isBetween_4 rfl (lv_at hl 1 rfl) ?_
  refine lv_iconst (v := 1) hx hb d_WK_isBetween_5 (by decide) ?_
  refine lv_isub hx hb d_WK_isBetween_6 ?_
  refine lv_iload_n hx hb d_WK_isBetween_7 rfl (lv_at hl 2 rfl) ?_
  refine q_calliV [.int ((nI i) - 1), .int v] M hI (c_SQ_isNow l g ad ar fl ((nI i) - 1) v n (by first | exact hn | assumption | omega | rfl) (by first | exact hN | assumption | omega | rfl)) ok_SQ_isNow m3_204 m3_205 m3_206 8 rfl rfl rfl rfl hl.1 ⟨rfl, rfl⟩ ⟨Nat.le_of_ble_eq_true rfl, Nat.le_of_ble_eq_true rfl⟩ (Nat.le_of_ble_eq_true rfl) ⟨Nat.le_of_ble_eq_true rfl, Nat.le_of_ble_eq_true rfl⟩ d_WK_isBetween_8 (fun r8 u8 H locs hp8 hI => ?_)
  refine q_as (y := bI (nowAt n (ar 37) ((nI i) - 1) v)) hp8 ?_
  refine lv_if_eq (tgt := 32) hx hb d_WK_isBetween_11 (by decide) (fun c11 => ?_) (fun c11 => ?_)
  · have c11 := bI_eq0.mp c11
    refine lv_iconst (v := 0) hx hb d_WK_isBetween_32 (by decide) ?_
    exact hret 0 () _ _ _ _ _ _ d_WK_isBetween_33 hI (by symm; simp only [nowAt_p (show n < 2 ^ 31 by omega) (show i < 2 ^ 31 by omega), nowAt_n (show n < 2 ^ 31 by omega) (show i + 1 < 2 ^ 31 by omega)] at *; first | (apply bI_f; intro q; exact c11 ⟨q.1, by omega, q.2.1⟩) | (apply bI_f; intro q; exact c25 q.2.2) | exact bI_t ⟨c11.1, c11.2.2, c25⟩) (by first | rfl | exact bI_narrow) (Nat.le_refl 0) (Nat.le_refl 0)
  · have c11 := bI_ne0.mp c11
    refine lv_aload_n hx hb d_WK_isBetween_14 rfl (lv_at hl 0 rfl) ?_
    refine g_WK_15 M hI d_WK_isBetween_15 ?_
    refine lv_iload_n hx hb d_WK_isBetween_18 rfl (lv_at hl 1 rfl) ?_
    refine lv_iconst (v := 1) hx hb d_WK_isBetween_19 (by decide) ?_
    refine lv_iadd hx hb d_WK_isBetween_20 ?_
    refine q_as (y := nI (i + 1)) (nI_add i 1) ?_
    refine lv_iload_n hx hb d_WK_isBetween_21 rfl (lv_at hl 2 rfl) ?_
    refine q_calliV [.int (nI (i + 1)), .int v] M hI (c_SQ_isNow l g ad ar fl (nI (i + 1)) v n (by first | exact hn | assumption | omega | rfl) (by first | exact hN | assumption | omega | rfl)) ok_SQ_isNow m3_204 m3_205 m3_206 8 rfl rfl rfl rfl hl.1 ⟨rfl, rfl⟩ ⟨Nat.le_of_ble_eq_true rfl, Nat.le_of_ble_eq_true rfl⟩ (Nat.le_of_ble_eq_true rfl) ⟨Nat.le_of_ble_eq_true rfl, Nat.le_of_ble_eq_true rfl⟩ d_WK_isBetween_22 (fun r22 u22 H locs hp22 hI => ?_)
    refine q_as (y := bI (nowAt n (ar 37) (nI (i + 1)) v)) hp22 ?_
    refine lv_if_eq (tgt := 32) hx hb d_WK_isBetween_25 (by decide) (fun c25 => ?_) (fun c25 => ?_)
    · have c25 := bI_eq0.mp c25
      refine lv_iconst (v := 0) hx hb d_WK_isBetween_32 (by decide) ?_
      exact hret 0 () _ _ _ _ _ _ d_WK_isBetween_33 hI (by symm; simp only [nowAt_p (show n < 2 ^ 31 by omega) (show i < 2 ^ 31 by omega), nowAt_n (show n < 2 ^ 31 by omega) (show i + 1 < 2 ^ 31 by omega)] at *; first | (apply bI_f; intro q; exact c11 ⟨q.1, by omega, q.2.1⟩) | (apply bI_f; intro q; exact c25 q.2.2) | exact bI_t ⟨c11.1, c11.2.2, c25⟩) (by first | rfl | exact bI_narrow) (Nat.le_refl 0) (Nat.le_refl 0)
    · have c25 := bI_ne0.mp c25
      refine lv_iconst (v := 1) hx hb d_WK_isBetween_28 (by decide) ?_
      refine lv_goto (tgt := 33) hx hb d_WK_isBetween_29 (by decide) ?_
      exact hret 1 () _ _ _ _ _ _ d_WK_isBetween_33 hI (by symm; simp only [nowAt_p (show n < 2 ^ 31 by omega) (show i < 2 ^ 31 by omega), nowAt_n (show n < 2 ^ 31 by omega) (show i + 1 < 2 ^ 31 by omega)] at *; first | (apply bI_f; intro q; exact c11 ⟨q.1, by omega, q.2.1⟩) | (apply bI_f; intro q; exact c25 q.2.2) | exact bI_t ⟨c11.1, c11.2.2, c25⟩) (by first | rfl | exact bI_narrow) (Nat.le_refl 0) (Nat.le_refl 0)
abbrev rm_WK_separators : Room := { frames := 2, cells := 0, slots := 0, locals := 44 }
set_option maxHeartbeats 4000000 in
set_option maxRecDepth 100000 in
theorem c_WK_separators (l : Launch) (g : Geo) (ad : Nat → Nat) (ar : Nat → Nat → Int32) (fl : Nat → Int32) (n : Nat) (hn : fl 13 = nI n) (hN : n ≤ 2000) : cMv l y_WK_separators (.code y_WK_separators b_WK_separators 3 none :: gw) rm_WK_separators g [.ref (ad 9)] (cw g ad ar fl) (fun (_ : Unit) => True) (fun (_ : Unit) => cw g ad (va_up ar 37 (wk4 n (ar 37))) fl) 0 0 := by
  refine cMv_of (by decide) (Nat.le_of_ble_eq_true rfl) ?_
  intro p e s m below meth c A Q ls M hnm hret hl hI
  have M : MC p s m ([.ref (ad 9)] : List Value).toArray meth c R_WK b_WK_separators 3 := M
  have hl : lv_has ls 3 [(0, .ref (ad 9))] := hl
  generalize ([.ref (ad 9)] : List Value).toArray = args at M hret ⊢
  have hx := M.1
  have hb := M.2.1
  refine lv_iconst (v := 0) hx hb d_WK_separators_0 (by decide) ?_
  refine lv_istore_n (lv' := [(1, .int 0), (0, .ref (ad 9))]) hx hb d_WK_separators_1 rfl hl (by decide) rfl (fun ls hl => ?_)
  have L2 : ∀ (fu : Nat) (i : Nat), (n - i) < fu → (i ≤ n) → ∀ (H : Heap) (locs : List Loc) (ls : Array Slot), CI g A s (cw g ad (va_up ar 37 (pre i (w4 n (ar 37)) (ar 37))) fl) H locs → lv_has ls 3 [(0, .ref (ad 9)), (1, .int (nI i))] → W p l e rm_WK_separators s m args below meth c H locs 0 0 Q (F0 m 2 ls []) := by
    intro fu
    induction fu with
    | zero => intro i hm; exact absurd hm (Nat.not_lt_zero _)
    | succ fu ih2 =>
      intro i hm hi H locs ls hI hl
      refine lv_iload_n hx hb d_WK_separators_2 rfl (lv_at hl 1 rfl) ?_
      refine lv_aload_n hx hb d_WK_separators_3 rfl (lv_at hl 0 rfl) ?_
      refine g_WK_15 M hI d_WK_separators_4 ?_
      refine g_WK_40 M hI d_WK_separators_7 ?_
      refine q_as (y := nI n) hn ?_
      refine lv_icmp_ge (tgt := 89) hx hb d_WK_separators_10 (by decide) (fun c10 => ?_) (fun c10 => ?_)
      · have c10 : n ≤ i := (nI_leI (a := n) (b := i) (by omega) (by omega)).mp c10
        have e9 : i = n := by omega
        subst e9
        exact hret () _ _ _ _ _ _ d_WK_separators_89 hI (trivial) (Nat.le_refl 0) (Nat.le_refl 0)
      · have c10 : ¬ n ≤ i := fun h => c10 ((nI_leI (a := n) (b := i) (by omega) (by omega)).mpr h)
        have hbt : ∀ v : Int32, btw n (pre i (w4 n (ar 37)) (ar 37)) (pre i (w4 n (ar 37)) (ar 37)) i v ↔ btw n (w4 n (ar 37)) (ar 37) i v := fun v => by unfold btw; rw [pre_hi (show i ≤ i + 1 by omega)]; constructor <;> (intro q; have := q.1; rw [pre_lo (show i - 1 < i by omega)] at *; exact q)
        refine lv_aload_n hx hb d_WK_separators_13 rfl (lv_at hl 0 rfl) ?_
        refine g_WK_15 M hI d_WK_separators_14 ?_
        refine g_WK_46 M hI d_WK_separators_17 ?_
        refine lv_iload_n hx hb d_WK_separators_20 rfl (lv_at hl 1 rfl) ?_
        refine al_37 M hI i rfl (by omega) d_WK_separators_21 ?_
        refine q_as (y := ar 37 i) (pre_at) ?_
        refine lv_istore_n (lv' := [(2, .int (ar 37 i)), (0, .ref (ad 9)), (1, .int (nI i))]) hx hb d_WK_separators_22 rfl hl (by decide) rfl (fun ls hl => ?_)
        refine lv_iload_n hx hb d_WK_separators_23 rfl (lv_at hl 0 rfl) ?_
        refine lv_iconst (v := 4) hx hb d_WK_separators_24 (by decide) ?_
        refine lv_icmp_eq (tgt := 34) hx hb d_WK_separators_25 (by decide) (fun c25 => ?_) (fun c25 => ?_)
        · refine lv_aload_n hx hb d_WK_separators_34 rfl (lv_at hl 1 rfl) ?_
          refine lv_iload_n hx hb d_WK_separators_35 rfl (lv_at hl 2 rfl) ?_
          refine lv_iconst (v := 3) hx hb d_WK_separators_36 (by decide) ?_
          refine q_calliV [.int (nI i), .int 3] M hI (c_WK_isBetween l g ad (va_up ar 37 (pre i (w4 n (ar 37)) (ar 37))) fl i 3 n (by first | exact hn | assumption | omega | rfl) (by first | exact hN | assumption | omega | rfl) (by first | exact hi | assumption | omega | rfl)) ok_WK_isBetween m3_200 m3_202 ms_24 9 rfl rfl rfl rfl hl.1 ⟨rfl, rfl⟩ ⟨Nat.le_of_ble_eq_true rfl, Nat.le_of_ble_eq_true rfl⟩ (Nat.le_of_ble_eq_true rfl) ⟨Nat.le_of_ble_eq_true rfl, Nat.le_of_ble_eq_true rfl⟩ d_WK_separators_37 (fun r37 u37 H locs hp37 hI => ?_)
          refine q_as (y := bI (btw n (pre i (w4 n (ar 37)) (ar 37)) (pre i (w4 n (ar 37)) (ar 37)) i 3)) hp37 ?_
          refine lv_if_eq (tgt := 56) hx hb d_WK_separators_40 (by decide) (fun c40 => ?_) (fun c40 => ?_)
          · have c40 := bI_eq0.mp c40
            have h3 : ¬ ((ar 37 i = 4 ∨ ar 37 i = 7) ∧ btw n (w4 n (ar 37)) (ar 37) i 3) := fun q => c40 ((hbt 3).mpr q.2)
            refine lv_iload_n hx hb d_WK_separators_56 rfl (lv_at hl 0 rfl) ?_
            refine lv_bipush (v := 7) hx hb d_WK_separators_57 (by decide) ?_
            refine lv_icmp_ne (tgt := 83) hx hb d_WK_separators_59 (by decide) (fun c59 => ?_) (fun c59 => ?_)
            · rw [pre_same (i := i) (f := w4 n (ar 37)) (f0 := ar 37) (by rw [w4_eq]; unfold w4s; rw [if_neg h3, if_neg (fun q => c59 q.1)])] at hI
              refine lv_iinc (v := nI (i + 1)) (lv' := [(1, .int (nI (i + 1))), (2, .int (ar 37 i)), (0, .ref (ad 9))]) hx hb d_WK_separators_83 hl (k := 2) rfl (nI_add _ 1) (by decide) rfl (fun ls hl => ?_)
              refine lv_goto (tgt := 2) hx hb d_WK_separators_86 (by decide) ?_
              exact ih2 (i + 1) (by omega) (by first | assumption | omega) _ _ _ hI (lv_sub hl [2, 0] rfl)
            · refine lv_aload_n hx hb d_WK_separators_62 rfl (lv_at hl 1 rfl) ?_
              refine lv_iload_n hx hb d_WK_separators_63 rfl (lv_at hl 2 rfl) ?_
              refine lv_bipush (v := 6) hx hb d_WK_separators_64 (by decide) ?_
              refine q_calliV [.int (nI i), .int 6] M hI (c_WK_isBetween l g ad (va_up ar 37 (pre i (w4 n (ar 37)) (ar 37))) fl i 6 n (by first | exact hn | assumption | omega | rfl) (by first | exact hN | assumption | omega | rfl) (by first | exact hi | assumption | omega | rfl)) ok_WK_isBetween m3_200 m3_202 ms_24 9 rfl rfl rfl rfl hl.1 ⟨rfl, rfl⟩ ⟨Nat.le_of_ble_eq_true rfl, Nat.le_of_ble_eq_true rfl⟩ (Nat.le_of_ble_eq_true rfl) ⟨Nat.le_of_ble_eq_true rfl, Nat.le_of_ble_eq_true rfl⟩ d_WK_separators_66 (fun r66 u66 H locs hp66 hI => ?_)
              refine q_as (y := bI (btw n (pre i (w4 n (ar 37)) (ar 37)) (pre i (w4 n (ar 37)) (ar 37)) i 6)) hp66 ?_
              refine lv_if_eq (tgt := 83) hx hb d_WK_separators_69 (by decide) (fun c69 => ?_) (fun c69 => ?_)
              · have c69 := bI_eq0.mp c69
                rw [pre_same (i := i) (f := w4 n (ar 37)) (f0 := ar 37) (by rw [w4_eq]; unfold w4s; rw [if_neg h3, if_neg (fun q => c69 ((hbt 6).mpr q.2))])] at hI
                refine lv_iinc (v := nI (i + 1)) (lv' := [(1, .int (nI (i + 1))), (2, .int (ar 37 i)), (0, .ref (ad 9))]) hx hb d_WK_separators_83 hl (k := 2) rfl (nI_add _ 1) (by decide) rfl (fun ls hl => ?_)
                refine lv_goto (tgt := 2) hx hb d_WK_separators_86 (by decide) ?_
                exact ih2 (i + 1) (by omega) (by first | assumption | omega) _ _ _ hI (lv_sub hl [2, 0] rfl)
              · have c69 := bI_ne0.mp c69
                refine lv_aload_n hx hb d_WK_separators_72 rfl (lv_at hl 1 rfl) ?_
                refine g_WK_15 M hI d_WK_separators_73 ?_
                refine g_WK_46 M hI d_WK_separators_76 ?_
                refine lv_iload_n hx hb d_WK_separators_79 rfl (lv_at hl 2 rfl) ?_
                refine lv_bipush (v := 6) hx hb d_WK_separators_80 (by decide) ?_
                refine as_37 M hI i rfl (by omega) d_WK_separators_82 (fun H locs hI => ?_)
                have hI : CI g A s (cw g ad (va_up ar 37 (upd (pre i (w4 n (ar 37)) (ar 37)) i 6)) fl) H locs := hI
                rw [show upd (pre i (w4 n (ar 37)) (ar 37)) i 6 = pre (i + 1) (w4 n (ar 37)) (ar 37) from pre_up (by rw [w4_eq]; unfold w4s; rw [if_neg h3, if_pos ⟨c59, (hbt 6).mp c69⟩])] at hI
                have hI : CI g A s (cw g ad (va_up ar 37 (pre (i + 1) (w4 n (ar 37)) (ar 37))) fl) H locs := hI
                refine lv_iinc (v := nI (i + 1)) (lv' := [(1, .int (nI (i + 1))), (2, .int (ar 37 i)), (0, .ref (ad 9))]) hx hb d_WK_separators_83 hl (k := 2) rfl (nI_add _ 1) (by decide) rfl (fun ls hl => ?_)
                refine lv_goto (tgt := 2) hx hb d_WK_separators_86 (by decide) ?_
                exact ih2 (i + 1) (by omega) (by first | assumption | omega) _ _ _ hI (lv_sub hl [2, 0] rfl)
          · have c40 := bI_ne0.mp c40
            refine lv_aload_n hx hb d_WK_separators_43 rfl (lv_at hl 1 rfl) ?_
            refine g_WK_15 M hI d_WK_separators_44 ?_
            refine g_WK_46 M hI d_WK_separators_47 ?_
            refine lv_iload_n hx hb d_WK_separators_50 rfl (lv_at hl 2 rfl) ?_
            refine lv_iconst (v := 3) hx hb d_WK_separators_51 (by decide) ?_
            refine as_37 M hI i rfl (by omega) d_WK_separators_52 (fun H locs hI => ?_)
            have hI : CI g A s (cw g ad (va_up ar 37 (upd (pre i (w4 n (ar 37)) (ar 37)) i 3)) fl) H locs := hI
            rw [show upd (pre i (w4 n (ar 37)) (ar 37)) i 3 = pre (i + 1) (w4 n (ar 37)) (ar 37) from pre_up (by rw [w4_eq]; unfold w4s; rw [if_pos]; first | exact ⟨Or.inl c25, (hbt 3).mp c40⟩ | exact ⟨Or.inr c31, (hbt 3).mp c40⟩)] at hI
            have hI : CI g A s (cw g ad (va_up ar 37 (pre (i + 1) (w4 n (ar 37)) (ar 37))) fl) H locs := hI
            refine lv_goto (tgt := 83) hx hb d_WK_separators_53 (by decide) ?_
            refine lv_iinc (v := nI (i + 1)) (lv' := [(1, .int (nI (i + 1))), (2, .int (ar 37 i)), (0, .ref (ad 9))]) hx hb d_WK_separators_83 hl (k := 2) rfl (nI_add _ 1) (by decide) rfl (fun ls hl => ?_)
            refine lv_goto (tgt := 2) hx hb d_WK_separators_86 (by decide) ?_
            exact ih2 (i + 1) (by omega) (by first | assumption | omega) _ _ _ hI (lv_sub hl [2, 0] rfl)
        · refine lv_iload_n hx hb d_WK_separators_28 rfl (lv_at hl 0 rfl) ?_
          refine lv_bipush (v := 7) hx hb d_WK_separators_29 (by decide) ?_
          refine lv_icmp_ne (tgt := 56) hx hb d_WK_separators_31 (by decide) (fun c31 => ?_) (fun c31 => ?_)
          · have h3 : ¬ ((ar 37 i = 4 ∨ ar 37 i = 7) ∧ btw n (w4 n (ar 37)) (ar 37) i 3) := fun q => q.1.elim c25 c31
            refine lv_iload_n hx hb d_WK_separators_56 rfl (lv_at hl 0 rfl) ?_
            refine lv_bipush (v := 7) hx hb d_WK_separators_57 (by decide) ?_
            refine lv_icmp_ne (tgt := 83) hx hb d_WK_separators_59 (by decide) (fun c59 => ?_) (fun c59 => ?_)
            · rw [pre_same (i := i) (f := w4 n (ar 37)) (f0 := ar 37) (by rw [w4_eq]; unfold w4s; rw [if_neg h3, if_neg (fun q => c59 q.1)])] at hI
              refine lv_iinc (v := nI (i + 1)) (lv' := [(1, .int (nI (i + 1))), (2, .int (ar 37 i)), (0, .ref (ad 9))]) hx hb d_WK_separators_83 hl (k := 2) rfl (nI_add _ 1) (by decide) rfl (fun ls hl => ?_)
              refine lv_goto (tgt := 2) hx hb d_WK_separators_86 (by decide) ?_
              exact ih2 (i + 1) (by omega) (by first | assumption | omega) _ _ _ hI (lv_sub hl [2, 0] rfl)
            · refine lv_aload_n hx hb d_WK_separators_62 rfl (lv_at hl 1 rfl) ?_
              refine lv_iload_n hx hb d_WK_separators_63 rfl (lv_at hl 2 rfl) ?_
              refine lv_bipush (v := 6) hx hb d_WK_separators_64 (by decide) ?_
              refine q_calliV [.int (nI i), .int 6] M hI (c_WK_isBetween l g ad (va_up ar 37 (pre i (w4 n (ar 37)) (ar 37))) fl i 6 n (by first | exact hn | assumption | omega | rfl) (by first | exact hN | assumption | omega | rfl) (by first | exact hi | assumption | omega | rfl)) ok_WK_isBetween m3_200 m3_202 ms_24 9 rfl rfl rfl rfl hl.1 ⟨rfl, rfl⟩ ⟨Nat.le_of_ble_eq_true rfl, Nat.le_of_ble_eq_true rfl⟩ (Nat.le_of_ble_eq_true rfl) ⟨Nat.le_of_ble_eq_true rfl, Nat.le_of_ble_eq_true rfl⟩ d_WK_separators_66 (fun r66 u66 H locs hp66 hI => ?_)
              refine q_as (y := bI (btw n (pre i (w4 n (ar 37)) (ar 37)) (pre i (w4 n (ar 37)) (ar 37)) i 6)) hp66 ?_
              refine lv_if_eq (tgt := 83) hx hb d_WK_separators_69 (by decide) (fun c69 => ?_) (fun c69 => ?_)
              · have c69 := bI_eq0.mp c69
                rw [pre_same (i := i) (f := w4 n (ar 37)) (f0 := ar 37) (by rw [w4_eq]; unfold w4s; rw [if_neg h3, if_neg (fun q => c69 ((hbt 6).mpr q.2))])] at hI
                refine lv_iinc (v := nI (i + 1)) (lv' := [(1, .int (nI (i + 1))), (2, .int (ar 37 i)), (0, .ref (ad 9))]) hx hb d_WK_separators_83 hl (k := 2) rfl (nI_add _ 1) (by decide) rfl (fun ls hl => ?_)
                refine lv_goto (tgt := 2) hx hb d_WK_separators_86 (by decide) ?_
                exact ih2 (i + 1) (by omega) (by first | assumption | omega) _ _ _ hI (lv_sub hl [2, 0] rfl)
              · have c69 := bI_ne0.mp c69
                refine lv_aload_n hx hb d_WK_separators_72 rfl (lv_at hl 1 rfl) ?_
                refine g_WK_15 M hI d_WK_separators_73 ?_
                refine g_WK_46 M hI d_WK_separators_76 ?_
                refine lv_iload_n hx hb d_WK_separators_79 rfl (lv_at hl 2 rfl) ?_
                refine lv_bipush (v := 6) hx hb d_WK_separators_80 (by decide) ?_
                refine as_37 M hI i rfl (by omega) d_WK_separators_82 (fun H locs hI => ?_)
                have hI : CI g A s (cw g ad (va_up ar 37 (upd (pre i (w4 n (ar 37)) (ar 37)) i 6)) fl) H locs := hI
                rw [show upd (pre i (w4 n (ar 37)) (ar 37)) i 6 = pre (i + 1) (w4 n (ar 37)) (ar 37) from pre_up (by rw [w4_eq]; unfold w4s; rw [if_neg h3, if_pos ⟨c59, (hbt 6).mp c69⟩])] at hI
                have hI : CI g A s (cw g ad (va_up ar 37 (pre (i + 1) (w4 n (ar 37)) (ar 37))) fl) H locs := hI
                refine lv_iinc (v := nI (i + 1)) (lv' := [(1, .int (nI (i + 1))), (2, .int (ar 37 i)), (0, .ref (ad 9))]) hx hb d_WK_separators_83 hl (k := 2) rfl (nI_add _ 1) (by decide) rfl (fun ls hl => ?_)
                refine lv_goto (tgt := 2) hx hb d_WK_separators_86 (by decide) ?_
                exact ih2 (i + 1) (by omega) (by first | assumption | omega) _ _ _ hI (lv_sub hl [2, 0] rfl)
          · refine lv_aload_n hx hb d_WK_separators_34 rfl (lv_at hl 1 rfl) ?_
            refine lv_iload_n hx hb d_WK_separators_35 rfl (lv_at hl 2 rfl) ?_
            refine lv_iconst (v := 3) hx hb d_WK_separators_36 (by decide) ?_
            refine q_calliV [.int (nI i), .int 3] M hI (c_WK_isBetween l g ad (va_up ar 37 (pre i (w4 n (ar 37)) (ar 37))) fl i 3 n (by first | exact hn | assumption | omega | rfl) (by first | exact hN | assumption | omega | rfl) (by first | exact hi | assumption | omega | rfl)) ok_WK_isBetween m3_200 m3_202 ms_24 9 rfl rfl rfl rfl hl.1 ⟨rfl, rfl⟩ ⟨Nat.le_of_ble_eq_true rfl, Nat.le_of_ble_eq_true rfl⟩ (Nat.le_of_ble_eq_true rfl) ⟨Nat.le_of_ble_eq_true rfl, Nat.le_of_ble_eq_true rfl⟩ d_WK_separators_37 (fun r37 u37 H locs hp37 hI => ?_)
            refine q_as (y := bI (btw n (pre i (w4 n (ar 37)) (ar 37)) (pre i (w4 n (ar 37)) (ar 37)) i 3)) hp37 ?_
            refine lv_if_eq (tgt := 56) hx hb d_WK_separators_40 (by decide) (fun c40 => ?_) (fun c40 => ?_)
            · have c40 := bI_eq0.mp c40
              have h3 : ¬ ((ar 37 i = 4 ∨ ar 37 i = 7) ∧ btw n (w4 n (ar 37)) (ar 37) i 3) := fun q => c40 ((hbt 3).mpr q.2)
              refine lv_iload_n hx hb d_WK_separators_56 rfl (lv_at hl 0 rfl) ?_
              refine lv_bipush (v := 7) hx hb d_WK_separators_57 (by decide) ?_
              refine lv_icmp_ne (tgt := 83) hx hb d_WK_separators_59 (by decide) (fun c59 => ?_) (fun c59 => ?_)
              · rw [pre_same (i := i) (f := w4 n (ar 37)) (f0 := ar 37) (by rw [w4_eq]; unfold w4s; rw [if_neg h3, if_neg (fun q => c59 q.1)])] at hI
                refine lv_iinc (v := nI (i + 1)) (lv' := [(1, .int (nI (i + 1))), (2, .int (ar 37 i)), (0, .ref (ad 9))]) hx hb d_WK_separators_83 hl (k := 2) rfl (nI_add _ 1) (by decide) rfl (fun ls hl => ?_)
                refine lv_goto (tgt := 2) hx hb d_WK_separators_86 (by decide) ?_
                exact ih2 (i + 1) (by omega) (by first | assumption | omega) _ _ _ hI (lv_sub hl [2, 0] rfl)
              · refine lv_aload_n hx hb d_WK_separators_62 rfl (lv_at hl 1 rfl) ?_
                refine lv_iload_n hx hb d_WK_separators_63 rfl (lv_at hl 2 rfl) ?_
                refine lv_bipush (v := 6) hx hb d_WK_separators_64 (by decide) ?_
                refine q_calliV [.int (nI i), .int 6] M hI (c_WK_isBetween l g ad (va_up ar 37 (pre i (w4 n (ar 37)) (ar 37))) fl i 6 n (by first | exact hn | assumption | omega | rfl) (by first | exact hN | assumption | omega | rfl) (by first | exact hi | assumption | omega | rfl)) ok_WK_isBetween m3_200 m3_202 ms_24 9 rfl rfl rfl rfl hl.1 ⟨rfl, rfl⟩ ⟨Nat.le_of_ble_eq_true rfl, Nat.le_of_ble_eq_true rfl⟩ (Nat.le_of_ble_eq_true rfl) ⟨Nat.le_of_ble_eq_true rfl, Nat.le_of_ble_eq_true rfl⟩ d_WK_separators_66 (fun r66 u66 H locs hp66 hI => ?_)
                refine q_as (y := bI (btw n (pre i (w4 n (ar 37)) (ar 37)) (pre i (w4 n (ar 37)) (ar 37)) i 6)) hp66 ?_
                refine lv_if_eq (tgt := 83) hx hb d_WK_separators_69 (by decide) (fun c69 => ?_) (fun c69 => ?_)
                · have c69 := bI_eq0.mp c69
                  rw [pre_same (i := i) (f := w4 n (ar 37)) (f0 := ar 37) (by rw [w4_eq]; unfold w4s; rw [if_neg h3, if_neg (fun q => c69 ((hbt 6).mpr q.2))])] at hI
                  refine lv_iinc (v := nI (i + 1)) (lv' := [(1, .int (nI (i + 1))), (2, .int (ar 37 i)), (0, .ref (ad 9))]) hx hb d_WK_separators_83 hl (k := 2) rfl (nI_add _ 1) (by decide) rfl (fun ls hl => ?_)
                  refine lv_goto (tgt := 2) hx hb d_WK_separators_86 (by decide) ?_
                  exact ih2 (i + 1) (by omega) (by first | assumption | omega) _ _ _ hI (lv_sub hl [2, 0] rfl)
                · have c69 := bI_ne0.mp c69
                  refine lv_aload_n hx hb d_WK_separators_72 rfl (lv_at hl 1 rfl) ?_
                  refine g_WK_15 M hI d_WK_separators_73 ?_
                  refine g_WK_46 M hI d_WK_separators_76 ?_
                  refine lv_iload_n hx hb d_WK_separators_79 rfl (lv_at hl 2 rfl) ?_
                  refine lv_bipush (v := 6) hx hb d_WK_separators_80 (by decide) ?_
                  refine as_37 M hI i rfl (by omega) d_WK_separators_82 (fun H locs hI => ?_)
                  have hI : CI g A s (cw g ad (va_up ar 37 (upd (pre i (w4 n (ar 37)) (ar 37)) i 6)) fl) H locs := hI
                  rw [show upd (pre i (w4 n (ar 37)) (ar 37)) i 6 = pre (i + 1) (w4 n (ar 37)) (ar 37) from pre_up (by rw [w4_eq]; unfold w4s; rw [if_neg h3, if_pos ⟨c59, (hbt 6).mp c69⟩])] at hI
                  have hI : CI g A s (cw g ad (va_up ar 37 (pre (i + 1) (w4 n (ar 37)) (ar 37))) fl) H locs := hI
                  refine lv_iinc (v := nI (i + 1)) (lv' := [(1, .int (nI (i + 1))), (2, .int (ar 37 i)), (0, .ref (ad 9))]) hx hb d_WK_separators_83 hl (k := 2) rfl (nI_add _ 1) (by decide) rfl (fun ls hl => ?_)
                  refine lv_goto (tgt := 2) hx hb d_WK_separators_86 (by decide) ?_
                  exact ih2 (i + 1) (by omega) (by first | assumption | omega) _ _ _ hI (lv_sub hl [2, 0] rfl)
            · have c40 := bI_ne0.mp c40
              refine lv_aload_n hx hb d_WK_separators_43 rfl (lv_at hl 1 rfl) ?_
              refine g_WK_15 M hI d_WK_separators_44 ?_
              refine g_WK_46 M hI d_WK_separators_47 ?_
              refine lv_iload_n hx hb d_WK_separators_50 rfl (lv_at hl 2 rfl) ?_
              refine lv_iconst (v := 3) hx hb d_WK_separators_51 (by decide) ?_
              refine as_37 M hI i rfl (by omega) d_WK_separators_52 (fun H locs hI => ?_)
              have hI : CI g A s (cw g ad (va_up ar 37 (upd (pre i (w4 n (ar 37)) (ar 37)) i 3)) fl) H locs := hI
              rw [show upd (pre i (w4 n (ar 37)) (ar 37)) i 3 = pre (i + 1) (w4 n (ar 37)) (ar 37) from pre_up (by rw [w4_eq]; unfold w4s; rw [if_pos]; first | exact ⟨Or.inl c25, (hbt 3).mp c40⟩ | exact ⟨Or.inr c31, (hbt 3).mp c40⟩)] at hI
              have hI : CI g A s (cw g ad (va_up ar 37 (pre (i + 1) (w4 n (ar 37)) (ar 37))) fl) H locs := hI
              refine lv_goto (tgt := 83) hx hb d_WK_separators_53 (by decide) ?_
              refine lv_iinc (v := nI (i + 1)) (lv' := [(1, .int (nI (i + 1))), (2, .int (ar 37 i)), (0, .ref (ad 9))]) hx hb d_WK_separators_83 hl (k := 2) rfl (nI_add _ 1) (by decide) rfl (fun ls hl => ?_)
              refine lv_goto (tgt := 2) hx hb d_WK_separators_86 (by decide) ?_
              exact ih2 (i + 1) (by omega) (by first | assumption | omega) _ _ _ hI (lv_sub hl [2, 0] rfl)
  have hI := CI.to (w2 := cw g ad (va_up ar 37 (pre 0 (w4 n (ar 37)) (ar 37))) fl) hI (by rw [pre_0]; rfl)
  exact L2 _ 0 (Nat.lt_succ_self _) (by first | assumption | omega) _ _ _ hI (lv_sub hl [1, 0] rfl)
abbrev rm_WK_terminators : Room := { frames := 1, cells := 0, slots := 0, locals := 22 }
set_option maxHeartbeats 4000000 in
set_option maxRecDepth 100000 in
theorem c_WK_terminators (l : Launch) (g : Geo) (ad : Nat → Nat) (ar : Nat → Nat → Int32) (fl : Nat → Int32) (n : Nat) (hn : fl 13 = nI n) (hN : n ≤ 2000) : cMv l y_WK_terminators (.code y_WK_terminators b_WK_terminators 4 none :: gw) rm_WK_terminators g [.ref (ad 9)] (cw g ad ar fl) (fun (_ : Unit) => True) (fun (_ : Unit) => cw g ad (va_up ar 37 (wk5 n (ar 37))) fl) 0 0 := by
  refine cMv_of (by decide) (Nat.le_of_ble_eq_true rfl) ?_
  intro p e s m below meth c A Q ls M hnm hret hl hI
  have M : MC p s m ([.ref (ad 9)] : List Value).toArray meth c R_WK b_WK_terminators 4 := M
  have hl : lv_has ls 4 [(0, .ref (ad 9))] := hl
  generalize ([.ref (ad 9)] : List Value).toArray = args at M hret ⊢
  have hx := M.1
  have hb := M.2.1
  refine lv_iconst (v := 0) hx hb d_WK_terminators_0 (by decide) ?_
  refine lv_istore_n (lv' := [(1, .int 0), (0, .ref (ad 9))]) hx hb d_WK_terminators_1 rfl hl (by decide) rfl (fun ls hl => ?_)
  refine lv_iconst (v := 0) hx hb d_WK_terminators_2 (by decide) ?_
  refine lv_istore_n (lv' := [(2, .int 0), (1, .int 0), (0, .ref (ad 9))]) hx hb d_WK_terminators_3 rfl hl (by decide) rfl (fun ls hl => ?_)
  have L4 : ∀ (fu : Nat) (i : Nat) (b : Nat), (n + 1 - i) < fu → (i ≤ n + 1) → (b ≤ i) → (∀ j, b ≤ j → j < i → ar 37 j = 5) → (b = 0 ∨ n < b ∨ ar 37 (b - 1) ≠ 5) → (n < i → n < b) → ∀ (H : Heap) (locs : List Loc) (ls : Array Slot), CI g A s (cw g ad (va_up ar 37 (pre (min b n) (w5 n (ar 37)) (ar 37))) fl) H locs → lv_has ls 4 [(0, .ref (ad 9)), (1, .int (nI b)), (2, .int (nI i))] → W p l e rm_WK_terminators s m args below meth c H locs 0 0 Q (F0 m 4 ls []) := by
    intro fu
    induction fu with
    | zero => intro i b hm; exact absurd hm (Nat.not_lt_zero _)
    | succ fu ih4 =>
      intro i b hm hi hba hrow hst hend H locs ls hI hl
      refine lv_iload_n hx hb d_WK_terminators_4 rfl (lv_at hl 2 rfl) ?_
      refine lv_aload_n hx hb d_WK_terminators_5 rfl (lv_at hl 0 rfl) ?_
      refine g_WK_15 M hI d_WK_terminators_6 ?_
      refine g_WK_40 M hI d_WK_terminators_9 ?_
      refine q_as (y := nI n) hn ?_
      refine lv_icmp_gt (tgt := 86) hx hb d_WK_terminators_12 (by decide) (fun c12 => ?_) (fun c12 => ?_)
      · have c12 : n < i := (nI_ltI (a := n) (b := i) (by omega) (by omega)).mp c12
        have hI := CI.to (w2 := cw g ad (va_up ar 37 (pre n (w5 n (ar 37)) (ar 37))) fl) hI (by rw [show min b n = n by omega])
        exact hret () _ _ _ _ _ _ d_WK_terminators_86 hI (trivial) (Nat.le_refl 0) (Nat.le_refl 0)
      · have c12 : ¬ n < i := fun h => c12 ((nI_ltI (a := n) (b := i) (by omega) (by omega)).mpr h)
        have eb : min b n = b := by omega
        have hst : b = 0 ∨ ar 37 (b - 1) ≠ 5 := by rcases hst with q | q | q; exact Or.inl q; exact absurd q (by omega); exact Or.inr q
        have hI := CI.to (w2 := cw g ad (va_up ar 37 (pre b (w5 n (ar 37)) (ar 37))) fl) hI (by rw [eb])
        refine lv_aload_n hx hb d_WK_terminators_15 rfl (lv_at hl 0 rfl) ?_
        refine g_WK_15 M hI d_WK_terminators_16 ?_
        refine lv_iload_n hx hb d_WK_terminators_19 rfl (lv_at hl 2 rfl) ?_
        refine lv_iconst (v := 5) hx hb d_WK_terminators_20 (by decide) ?_
        refine q_calliV [.int (nI i), .int 5] M hI (c_SQ_isNow l g ad (va_up ar 37 (pre b (w5 n (ar 37)) (ar 37))) fl (nI i) 5 n (by first | exact hn | assumption | omega | rfl) (by first | exact hN | assumption | omega | rfl)) ok_SQ_isNow m3_204 m3_205 m3_206 8 rfl rfl rfl rfl hl.1 ⟨rfl, rfl⟩ ⟨Nat.le_of_ble_eq_true rfl, Nat.le_of_ble_eq_true rfl⟩ (Nat.le_of_ble_eq_true rfl) ⟨Nat.le_of_ble_eq_true rfl, Nat.le_of_ble_eq_true rfl⟩ d_WK_terminators_21 (fun r21 u21 H locs hp21 hI => ?_)
        refine q_as (y := bI (nowAt n (pre b (w5 n (ar 37)) (ar 37)) (nI i) 5)) hp21 ?_
        refine lv_if_ne (tgt := 80) hx hb d_WK_terminators_24 (by decide) (fun c24 => ?_) (fun c24 => ?_)
        · have c24 := bI_ne0.mp c24
          rw [nowAt_n (by omega) (by omega), pre_hi (by omega)] at c24
          have hr2 : ∀ j, b ≤ j → j < i + 1 → ar 37 j = 5 := fun j h1 h2 => by rcases Nat.lt_or_ge j i with q | q; exact hrow j h1 q; rw [show j = i by omega]; exact c24.2
          have hs2 : b = 0 ∨ n < b ∨ ar 37 (b - 1) ≠ 5 := hst.elim Or.inl (fun q => Or.inr (Or.inr q))
          have hI := CI.to (w2 := cw g ad (va_up ar 37 (pre (min b n) (w5 n (ar 37)) (ar 37))) fl) hI (by rw [eb])
          refine lv_iinc (v := nI (i + 1)) (lv' := [(2, .int (nI (i + 1))), (0, .ref (ad 9)), (1, .int (nI b))]) hx hb d_WK_terminators_80 hl (k := 2) rfl (nI_add _ 1) (by decide) rfl (fun ls hl => ?_)
          refine lv_goto (tgt := 4) hx hb d_WK_terminators_83 (by decide) ?_
          exact ih4 (i + 1) b (by omega) (by first | assumption | omega) (by first | assumption | omega) (hr2) (hs2) (by first | assumption | omega) _ _ _ hI (lv_sub hl [1, 2, 0] rfl)
        · have c24 := bI_eq0.mp c24
          rw [nowAt_n (by omega) (by omega), pre_hi (by omega)] at c24
          have hen : i < n → ar 37 i ≠ 5 := fun h q => c24 ⟨h, q⟩
          refine lv_aload_n hx hb d_WK_terminators_27 rfl (lv_at hl 0 rfl) ?_
          refine g_WK_15 M hI d_WK_terminators_28 ?_
          refine lv_iload_n hx hb d_WK_terminators_31 rfl (lv_at hl 2 rfl) ?_
          refine lv_iconst (v := 3) hx hb d_WK_terminators_32 (by decide) ?_
          refine q_calliV [.int (nI i), .int 3] M hI (c_SQ_isNow l g ad (va_up ar 37 (pre b (w5 n (ar 37)) (ar 37))) fl (nI i) 3 n (by first | exact hn | assumption | omega | rfl) (by first | exact hN | assumption | omega | rfl)) ok_SQ_isNow m3_204 m3_205 m3_206 8 rfl rfl rfl rfl hl.1 ⟨rfl, rfl⟩ ⟨Nat.le_of_ble_eq_true rfl, Nat.le_of_ble_eq_true rfl⟩ (Nat.le_of_ble_eq_true rfl) ⟨Nat.le_of_ble_eq_true rfl, Nat.le_of_ble_eq_true rfl⟩ d_WK_terminators_33 (fun r33 u33 H locs hp33 hI => ?_)
          refine q_as (y := bI (nowAt n (pre b (w5 n (ar 37)) (ar 37)) (nI i) 3)) hp33 ?_
          refine lv_if_ne (tgt := 53) hx hb d_WK_terminators_36 (by decide) (fun c36 => ?_) (fun c36 => ?_)
          · have c36 := bI_ne0.mp c36
            rw [nowAt_n (by omega) (by omega), pre_hi (by omega)] at c36
            have hEN : (i < n ∧ ar 37 i = 3) ∨ (0 < b ∧ ar 37 (b - 1) = 3) := Or.inl c36
            refine lv_iload_n hx hb d_WK_terminators_53 rfl (lv_at hl 1 rfl) ?_
            refine lv_istore_n (lv' := [(3, .int (nI b)), (0, .ref (ad 9)), (1, .int (nI b)), (2, .int (nI i))]) hx hb d_WK_terminators_54 rfl hl (by decide) rfl (fun ls hl => ?_)
            have L55 : ∀ (fu : Nat) (j : Nat), (i - j) < fu → (b ≤ j) → (j ≤ i) → ∀ (H : Heap) (locs : List Loc) (ls : Array Slot), CI g A s (cw g ad (va_up ar 37 (pre j (w5 n (ar 37)) (ar 37))) fl) H locs → lv_has ls 4 [(0, .ref (ad 9)), (1, .int (nI b)), (2, .int (nI i)), (3, .int (nI j))] → W p l e rm_WK_terminators s m args below meth c H locs 0 0 Q (F0 m 55 ls []) := by
              intro fu
              induction fu with
              | zero => intro j hm; exact absurd hm (Nat.not_lt_zero _)
              | succ fu ih55 =>
                intro j hm hj hj2 H locs ls hI hl
                refine lv_iload_n hx hb d_WK_terminators_55 rfl (lv_at hl 3 rfl) ?_
                refine lv_iload_n hx hb d_WK_terminators_56 rfl (lv_at hl 2 rfl) ?_
                refine lv_icmp_ge (tgt := 76) hx hb d_WK_terminators_57 (by decide) (fun c57 => ?_) (fun c57 => ?_)
                · have c57 : i ≤ j := (nI_leI (a := i) (b := j) (by omega) (by omega)).mp c57
                  have hI := CI.to (w2 := cw g ad (va_up ar 37 (pre i (w5 n (ar 37)) (ar 37))) fl) hI (by rw [show j = i by omega])
                  have hr2 : ∀ j, i + 1 ≤ j → j < i + 1 → ar 37 j = 5 := fun j h1 h2 => absurd h2 (by omega)
                  have hs2 : i + 1 = 0 ∨ n < i + 1 ∨ ar 37 (i + 1 - 1) ≠ 5 := by rcases Nat.lt_or_ge i n with q | q; exact Or.inr (Or.inr (hen q)); exact Or.inr (Or.inl (by omega))
                  have hI := CI.to (w2 := cw g ad (va_up ar 37 (pre (min (i + 1) n) (w5 n (ar 37)) (ar 37))) fl) hI (by rw [pre_step (n := n) (i := i) (by omega) (fun h => (w5_ne (hen h)).symm)])
                  refine lv_iload_n hx hb d_WK_terminators_76 rfl (lv_at hl 2 rfl) ?_
                  refine lv_iconst (v := 1) hx hb d_WK_terminators_77 (by decide) ?_
                  refine lv_iadd hx hb d_WK_terminators_78 ?_
                  refine q_as (y := nI (i + 1)) (nI_add i 1) ?_
                  refine lv_istore_n (lv' := [(1, .int (nI (i + 1))), (0, .ref (ad 9)), (2, .int (nI i)), (3, .int (nI j))]) hx hb d_WK_terminators_79 rfl hl (by decide) rfl (fun ls hl => ?_)
                  refine lv_iinc (v := nI (i + 1)) (lv' := [(2, .int (nI (i + 1))), (1, .int (nI (i + 1))), (0, .ref (ad 9)), (3, .int (nI j))]) hx hb d_WK_terminators_80 hl (k := 2) rfl (nI_add _ 1) (by decide) rfl (fun ls hl => ?_)
                  refine lv_goto (tgt := 4) hx hb d_WK_terminators_83 (by decide) ?_
                  exact ih4 (i + 1) (i + 1) (by omega) (by first | assumption | omega) (by first | assumption | omega) (hr2) (hs2) (by first | assumption | omega) _ _ _ hI (lv_sub hl [2, 1, 0] rfl)
                · have c57 : ¬ i ≤ j := fun h => c57 ((nI_leI (a := i) (b := j) (by omega) (by omega)).mpr h)
                  refine lv_aload_n hx hb d_WK_terminators_60 rfl (lv_at hl 0 rfl) ?_
                  refine g_WK_15 M hI d_WK_terminators_61 ?_
                  refine g_WK_46 M hI d_WK_terminators_64 ?_
                  refine lv_iload_n hx hb d_WK_terminators_67 rfl (lv_at hl 3 rfl) ?_
                  refine lv_iconst (v := 3) hx hb d_WK_terminators_68 (by decide) ?_
                  refine as_37 M hI j rfl (by omega) d_WK_terminators_69 (fun H locs hI => ?_)
                  have hI : CI g A s (cw g ad (va_up ar 37 (upd (pre j (w5 n (ar 37)) (ar 37)) j 3)) fl) H locs := hI
                  rw [show upd (pre j (w5 n (ar 37)) (ar 37)) j 3 = pre (j + 1) (w5 n (ar 37)) (ar 37) from pre_up (w5_row_y (by omega) hrow hEN (by omega) (by omega)).symm] at hI
                  have hI : CI g A s (cw g ad (va_up ar 37 (pre (j + 1) (w5 n (ar 37)) (ar 37))) fl) H locs := hI
                  refine lv_iinc (v := nI (j + 1)) (lv' := [(3, .int (nI (j + 1))), (0, .ref (ad 9)), (1, .int (nI b)), (2, .int (nI i))]) hx hb d_WK_terminators_70 hl (k := 3) rfl (nI_add _ 1) (by decide) rfl (fun ls hl => ?_)
                  refine lv_goto (tgt := 55) hx hb d_WK_terminators_73 (by decide) ?_
                  exact ih55 (j + 1) (by omega) (by first | assumption | omega) (by first | assumption | omega) _ _ _ hI (lv_sub hl [1, 2, 3, 0] rfl)
            exact L55 _ b (Nat.lt_succ_self _) (by first | assumption | omega) (by first | assumption | omega) _ _ _ hI (lv_sub hl [1, 2, 3, 0] rfl)
          · have c36 := bI_eq0.mp c36
            rw [nowAt_n (by omega) (by omega), pre_hi (by omega)] at c36
            refine lv_aload_n hx hb d_WK_terminators_39 rfl (lv_at hl 0 rfl) ?_
            refine g_WK_15 M hI d_WK_terminators_40 ?_
            refine lv_iload_n hx hb d_WK_terminators_43 rfl (lv_at hl 1 rfl) ?_
            refine lv_iconst (v := 1) hx hb d_WK_terminators_44 (by decide) ?_
            refine lv_isub hx hb d_WK_terminators_45 ?_
            refine lv_iconst (v := 3) hx hb d_WK_terminators_46 (by decide) ?_
            refine q_calliV [.int ((nI b) - 1), .int 3] M hI (c_SQ_isNow l g ad (va_up ar 37 (pre b (w5 n (ar 37)) (ar 37))) fl ((nI b) - 1) 3 n (by first | exact hn | assumption | omega | rfl) (by first | exact hN | assumption | omega | rfl)) ok_SQ_isNow m3_204 m3_205 m3_206 8 rfl rfl rfl rfl hl.1 ⟨rfl, rfl⟩ ⟨Nat.le_of_ble_eq_true rfl, Nat.le_of_ble_eq_true rfl⟩ (Nat.le_of_ble_eq_true rfl) ⟨Nat.le_of_ble_eq_true rfl, Nat.le_of_ble_eq_true rfl⟩ d_WK_terminators_47 (fun r47 u47 H locs hp47 hI => ?_)
            refine q_as (y := bI (nowAt n (pre b (w5 n (ar 37)) (ar 37)) ((nI b) - 1) 3)) hp47 ?_
            refine lv_if_eq (tgt := 76) hx hb d_WK_terminators_50 (by decide) (fun c50 => ?_) (fun c50 => ?_)
            · have c50 := bI_eq0.mp c50
              rw [nowAt_p (by omega) (by omega)] at c50
              have hEN : ¬ ((i < n ∧ ar 37 i = 3) ∨ (0 < b ∧ ar 37 (b - 1) = 3)) := by rintro (q | q); exact c36 q; refine c50 ⟨q.1, by omega, ?_⟩; rw [pre_lo (by omega), w5_ne (by rw [q.2]; decide)]; exact q.2
              have hI := CI.to (w2 := cw g ad (va_up ar 37 (pre i (w5 n (ar 37)) (ar 37))) fl) hI (by rw [pre_ext (b := b) (i := i) (by omega) (fun j h1 h2 => by rw [w5_row_n (by omega) hrow hst hen hEN h1 h2]; exact hrow j h1 h2)])
              have hr2 : ∀ j, i + 1 ≤ j → j < i + 1 → ar 37 j = 5 := fun j h1 h2 => absurd h2 (by omega)
              have hs2 : i + 1 = 0 ∨ n < i + 1 ∨ ar 37 (i + 1 - 1) ≠ 5 := by rcases Nat.lt_or_ge i n with q | q; exact Or.inr (Or.inr (hen q)); exact Or.inr (Or.inl (by omega))
              have hI := CI.to (w2 := cw g ad (va_up ar 37 (pre (min (i + 1) n) (w5 n (ar 37)) (ar 37))) fl) hI (by rw [pre_step (n := n) (i := i) (by omega) (fun h => (w5_ne (hen h)).symm)])
              refine lv_iload_n hx hb d_WK_terminators_76 rfl (lv_at hl 2 rfl) ?_
              refine lv_iconst (v := 1) hx hb d_WK_terminators_77 (by decide) ?_
              refine lv_iadd hx hb d_WK_terminators_78 ?_
              refine q_as (y := nI (i + 1)) (nI_add i 1) ?_
              refine lv_istore_n (lv' := [(1, .int (nI (i + 1))), (0, .ref (ad 9)), (2, .int (nI i))]) hx hb d_WK_terminators_79 rfl hl (by decide) rfl (fun ls hl => ?_)
              refine lv_iinc (v := nI (i + 1)) (lv' := [(2, .int (nI (i + 1))), (1, .int (nI (i + 1))), (0, .ref (ad 9))]) hx hb d_WK_terminators_80 hl (k := 2) rfl (nI_add _ 1) (by decide) rfl (fun ls hl => ?_)
              refine lv_goto (tgt := 4) hx hb d_WK_terminators_83 (by decide) ?_
              exact ih4 (i + 1) (i + 1) (by omega) (by first | assumption | omega) (by first | assumption | omega) (hr2) (hs2) (by first | assumption | omega) _ _ _ hI (lv_sub hl [2, 1, 0] rfl)
            · have c50 := bI_ne0.mp c50
              rw [nowAt_p (by omega) (by omega)] at c50
              have hEN : (i < n ∧ ar 37 i = 3) ∨ (0 < b ∧ ar 37 (b - 1) = 3) := by refine Or.inr ⟨c50.1, ?_⟩; have q := c50.2.2; rw [pre_lo (by omega), w5_ne (hst.elim (fun z => absurd z (by omega)) id)] at q; exact q
              refine lv_iload_n hx hb d_WK_terminators_53 rfl (lv_at hl 1 rfl) ?_
              refine lv_istore_n (lv' := [(3, .int (nI b)), (0, .ref (ad 9)), (1, .int (nI b)), (2, .int (nI i))]) hx hb d_WK_terminators_54 rfl hl (by decide) rfl (fun ls hl => ?_)
              have L55 : ∀ (fu : Nat) (j : Nat), (i - j) < fu → (b ≤ j) → (j ≤ i) → ∀ (H : Heap) (locs : List Loc) (ls : Array Slot), CI g A s (cw g ad (va_up ar 37 (pre j (w5 n (ar 37)) (ar 37))) fl) H locs → lv_has ls 4 [(0, .ref (ad 9)), (1, .int (nI b)), (2, .int (nI i)), (3, .int (nI j))] → W p l e rm_WK_terminators s m args below meth c H locs 0 0 Q (F0 m 55 ls []) := by
                intro fu
                induction fu with
                | zero => intro j hm; exact absurd hm (Nat.not_lt_zero _)
                | succ fu ih55 =>
                  intro j hm hj hj2 H locs ls hI hl
                  refine lv_iload_n hx hb d_WK_terminators_55 rfl (lv_at hl 3 rfl) ?_
                  refine lv_iload_n hx hb d_WK_terminators_56 rfl (lv_at hl 2 rfl) ?_
                  refine lv_icmp_ge (tgt := 76) hx hb d_WK_terminators_57 (by decide) (fun c57 => ?_) (fun c57 => ?_)
                  · have c57 : i ≤ j := (nI_leI (a := i) (b := j) (by omega) (by omega)).mp c57
                    have hI := CI.to (w2 := cw g ad (va_up ar 37 (pre i (w5 n (ar 37)) (ar 37))) fl) hI (by rw [show j = i by omega])
                    have hr2 : ∀ j, i + 1 ≤ j → j < i + 1 → ar 37 j = 5 := fun j h1 h2 => absurd h2 (by omega)
                    have hs2 : i + 1 = 0 ∨ n < i + 1 ∨ ar 37 (i + 1 - 1) ≠ 5 := by rcases Nat.lt_or_ge i n with q | q; exact Or.inr (Or.inr (hen q)); exact Or.inr (Or.inl (by omega))
                    have hI := CI.to (w2 := cw g ad (va_up ar 37 (pre (min (i + 1) n) (w5 n (ar 37)) (ar 37))) fl) hI (by rw [pre_step (n := n) (i := i) (by omega) (fun h => (w5_ne (hen h)).symm)])
                    refine lv_iload_n hx hb d_WK_terminators_76 rfl (lv_at hl 2 rfl) ?_
                    refine lv_iconst (v := 1) hx hb d_WK_terminators_77 (by decide) ?_
                    refine lv_iadd hx hb d_WK_terminators_78 ?_
                    refine q_as (y := nI (i + 1)) (nI_add i 1) ?_
                    refine lv_istore_n (lv' := [(1, .int (nI (i + 1))), (0, .ref (ad 9)), (2, .int (nI i)), (3, .int (nI j))]) hx hb d_WK_terminators_79 rfl hl (by decide) rfl (fun ls hl => ?_)
                    refine lv_iinc (v := nI (i + 1)) (lv' := [(2, .int (nI (i + 1))), (1, .int (nI (i + 1))), (0, .ref (ad 9)), (3, .int (nI j))]) hx hb d_WK_terminators_80 hl (k := 2) rfl (nI_add _ 1) (by decide) rfl (fun ls hl => ?_)
                    refine lv_goto (tgt := 4) hx hb d_WK_terminators_83 (by decide) ?_
                    exact ih4 (i + 1) (i + 1) (by omega) (by first | assumption | omega) (by first | assumption | omega) (hr2) (hs2) (by first | assumption | omega) _ _ _ hI (lv_sub hl [2, 1, 0] rfl)
                  · have c57 : ¬ i ≤ j := fun h => c57 ((nI_leI (a := i) (b := j) (by omega) (by omega)).mpr h)
                    refine lv_aload_n hx hb d_WK_terminators_60 rfl (lv_at hl 0 rfl) ?_
                    refine g_WK_15 M hI d_WK_terminators_61 ?_
                    refine g_WK_46 M hI d_WK_terminators_64 ?_
                    refine lv_iload_n hx hb d_WK_terminators_67 rfl (lv_at hl 3 rfl) ?_
                    refine lv_iconst (v := 3) hx hb d_WK_terminators_68 (by decide) ?_
                    refine as_37 M hI j rfl (by omega) d_WK_terminators_69 (fun H locs hI => ?_)
                    have hI : CI g A s (cw g ad (va_up ar 37 (upd (pre j (w5 n (ar 37)) (ar 37)) j 3)) fl) H locs := hI
                    rw [show upd (pre j (w5 n (ar 37)) (ar 37)) j 3 = pre (j + 1) (w5 n (ar 37)) (ar 37) from pre_up (w5_row_y (by omega) hrow hEN (by omega) (by omega)).symm] at hI
                    have hI : CI g A s (cw g ad (va_up ar 37 (pre (j + 1) (w5 n (ar 37)) (ar 37))) fl) H locs := hI
                    refine lv_iinc (v := nI (j + 1)) (lv' := [(3, .int (nI (j + 1))), (0, .ref (ad 9)), (1, .int (nI b)), (2, .int (nI i))]) hx hb d_WK_terminators_70 hl (k := 3) rfl (nI_add _ 1) (by decide) rfl (fun ls hl => ?_)
                    refine lv_goto (tgt := 55) hx hb d_WK_terminators_73 (by decide) ?_
                    exact ih55 (j + 1) (by omega) (by first | assumption | omega) (by first | assumption | omega) _ _ _ hI (lv_sub hl [1, 2, 3, 0] rfl)
              exact L55 _ b (Nat.lt_succ_self _) (by first | assumption | omega) (by first | assumption | omega) _ _ _ hI (lv_sub hl [1, 2, 3, 0] rfl)
  have hI := CI.to (w2 := cw g ad (va_up ar 37 (pre (min 0 n) (w5 n (ar 37)) (ar 37))) fl) hI (by rw [Nat.zero_min, pre_0]; rfl)
  exact L4 _ 0 0 (Nat.lt_succ_self _) (by first | assumption | omega) (by first | assumption | omega) (fun j h1 h2 => absurd h2 (Nat.not_lt_zero j)) (Or.inl rfl) (by first | assumption | omega) _ _ _ hI (lv_sub hl [2, 1, 0] rfl)
abbrev rm_WK_apply : Room := { frames := 3, cells := 0, slots := 0, locals := 66 }
set_option maxHeartbeats 4000000 in
set_option maxRecDepth 100000 in
theorem c_WK_apply (l : Launch) (g : Geo) (ad : Nat → Nat) (ar : Nat → Nat → Int32) (fl : Nat → Int32) (n : Nat) (P : Nat → Nat) (hn : fl 13 = nI n) (hN : n ≤ 2000) (hP : ∀ j, j < n → ar 36 j = nI (P j)) (hPb : ∀ j, j < n → P j < 2000) : cMv l y_WK_apply (.code y_WK_apply b_WK_apply 1 none :: gw) rm_WK_apply g [.ref (ad 9)] (cw g ad ar fl) (fun (_ : Unit) => True) (fun (_ : Unit) => cw g ad (va_up ar 37 (weak n (fl 15) (fun j => ar 13 (P j)) (ar 37))) fl) 0 0 := by
  refine cMv_of (by decide) (Nat.le_of_ble_eq_true rfl) ?_
  intro p e s m below meth c A Q ls M hnm hret hl hI
  have M : MC p s m ([.ref (ad 9)] : List Value).toArray meth c R_WK b_WK_apply 1 := M
  have hl : lv_has ls 1 [(0, .ref (ad 9))] := hl
  generalize ([.ref (ad 9)] : List Value).toArray = args at M hret ⊢
  have hx := M.1
  have hb := M.2.1
  refine lv_aload_n hx hb d_WK_apply_0 rfl (lv_at hl 0 rfl) ?_
  refine q_callvV [] M hI (c_WK_settleMarks l g ad ar fl n P (by first | exact hn | assumption | omega | rfl) (by first | exact hN | assumption | omega | rfl) (by first | exact hP | assumption | omega | rfl) (by first | exact hPb | assumption | omega | rfl)) ok_WK_settleMarks m3_179 m3_181 ms_19 9 rfl rfl rfl rfl hl.1 ⟨rfl, rfl⟩ ⟨Nat.le_of_ble_eq_true rfl, Nat.le_of_ble_eq_true rfl⟩ (Nat.le_of_ble_eq_true rfl) ⟨Nat.le_of_ble_eq_true rfl, Nat.le_of_ble_eq_true rfl⟩ d_WK_apply_1 (fun u1 H locs hp1 hI => ?_)
  have hI : CI g A s (cw g ad (va_up ar 37 (wk1 n (fl 15) (fun j => ar 13 (P j)) (ar 37))) fl) H locs := hI
  refine lv_aload_n hx hb d_WK_apply_4 rfl (lv_at hl 0 rfl) ?_
  refine q_callvV [] M hI (c_WK_arabicNumbers l g ad (va_up ar 37 (wk1 n (fl 15) (fun j => ar 13 (P j)) (ar 37))) fl n (by first | exact hn | assumption | omega | rfl) (by first | exact hN | assumption | omega | rfl)) ok_WK_arabicNumbers m3_188 m3_190 ms_21 9 rfl rfl rfl rfl hl.1 ⟨rfl, rfl⟩ ⟨Nat.le_of_ble_eq_true rfl, Nat.le_of_ble_eq_true rfl⟩ (Nat.le_of_ble_eq_true rfl) ⟨Nat.le_of_ble_eq_true rfl, Nat.le_of_ble_eq_true rfl⟩ d_WK_apply_5 (fun u5 H locs hp5 hI => ?_)
  have hI : CI g A s (cw g ad (va_up ar 37 (wk2 n (fl 15) (wk1 n (fl 15) (fun j => ar 13 (P j)) (ar 37)))) fl) H locs := hI
  refine lv_aload_n hx hb d_WK_apply_8 rfl (lv_at hl 0 rfl) ?_
  refine q_callvV [] M hI (c_WK_arabicLetters l g ad (va_up ar 37 (wk2 n (fl 15) (wk1 n (fl 15) (fun j => ar 13 (P j)) (ar 37)))) fl n (by first | exact hn | assumption | omega | rfl) (by first | exact hN | assumption | omega | rfl)) ok_WK_arabicLetters m3_192 m3_194 ms_22 9 rfl rfl rfl rfl hl.1 ⟨rfl, rfl⟩ ⟨Nat.le_of_ble_eq_true rfl, Nat.le_of_ble_eq_true rfl⟩ (Nat.le_of_ble_eq_true rfl) ⟨Nat.le_of_ble_eq_true rfl, Nat.le_of_ble_eq_true rfl⟩ d_WK_apply_9 (fun u9 H locs hp9 hI => ?_)
  have hI : CI g A s (cw g ad (va_up ar 37 (wk3 n (wk2 n (fl 15) (wk1 n (fl 15) (fun j => ar 13 (P j)) (ar 37))))) fl) H locs := hI
  refine lv_aload_n hx hb d_WK_apply_12 rfl (lv_at hl 0 rfl) ?_
  refine q_callvV [] M hI (c_WK_separators l g ad (va_up ar 37 (wk3 n (wk2 n (fl 15) (wk1 n (fl 15) (fun j => ar 13 (P j)) (ar 37))))) fl n (by first | exact hn | assumption | omega | rfl) (by first | exact hN | assumption | omega | rfl)) ok_WK_separators m3_196 m3_198 ms_23 9 rfl rfl rfl rfl hl.1 ⟨rfl, rfl⟩ ⟨Nat.le_of_ble_eq_true rfl, Nat.le_of_ble_eq_true rfl⟩ (Nat.le_of_ble_eq_true rfl) ⟨Nat.le_of_ble_eq_true rfl, Nat.le_of_ble_eq_true rfl⟩ d_WK_apply_13 (fun u13 H locs hp13 hI => ?_)
  have hI : CI g A s (cw g ad (va_up ar 37 (wk4 n (wk3 n (wk2 n (fl 15) (wk1 n (fl 15) (fun j => ar 13 (P j)) (ar 37)))))) fl) H locs := hI
  refine lv_aload_n hx hb d_WK_apply_16 rfl (lv_at hl 0 rfl) ?_
  refine q_callvV [] M hI (c_WK_terminators l g ad (va_up ar 37 (wk4 n (wk3 n (wk2 n (fl 15) (wk1 n (fl 15) (fun j => ar 13 (P j)) (ar 37)))))) fl n (by first | exact hn | assumption | omega | rfl) (by first | exact hN | assumption | omega | rfl)) ok_WK_terminators m3_208 m3_210 ms_25 9 rfl rfl rfl rfl hl.1 ⟨rfl, rfl⟩ ⟨Nat.le_of_ble_eq_true rfl, Nat.le_of_ble_eq_true rfl⟩ (Nat.le_of_ble_eq_true rfl) ⟨Nat.le_of_ble_eq_true rfl, Nat.le_of_ble_eq_true rfl⟩ d_WK_apply_17 (fun u17 H locs hp17 hI => ?_)
  have hI : CI g A s (cw g ad (va_up ar 37 (wk5 n (wk4 n (wk3 n (wk2 n (fl 15) (wk1 n (fl 15) (fun j => ar 13 (P j)) (ar 37))))))) fl) H locs := hI
  refine lv_aload_n hx hb d_WK_apply_20 rfl (lv_at hl 0 rfl) ?_
  refine q_callvV [] M hI (c_WK_restToNeutral l g ad (va_up ar 37 (wk5 n (wk4 n (wk3 n (wk2 n (fl 15) (wk1 n (fl 15) (fun j => ar 13 (P j)) (ar 37))))))) fl n (by first | exact hn | assumption | omega | rfl) (by first | exact hN | assumption | omega | rfl)) ok_WK_restToNeutral m3_212 m3_214 ms_26 9 rfl rfl rfl rfl hl.1 ⟨rfl, rfl⟩ ⟨Nat.le_of_ble_eq_true rfl, Nat.le_of_ble_eq_true rfl⟩ (Nat.le_of_ble_eq_true rfl) ⟨Nat.le_of_ble_eq_true rfl, Nat.le_of_ble_eq_true rfl⟩ d_WK_apply_21 (fun u21 H locs hp21 hI => ?_)
  have hI : CI g A s (cw g ad (va_up ar 37 (wk6 n (wk5 n (wk4 n (wk3 n (wk2 n (fl 15) (wk1 n (fl 15) (fun j => ar 13 (P j)) (ar 37)))))))) fl) H locs := hI
  refine lv_aload_n hx hb d_WK_apply_24 rfl (lv_at hl 0 rfl) ?_
  refine q_callvV [] M hI (c_WK_latinNumbers l g ad (va_up ar 37 (wk6 n (wk5 n (wk4 n (wk3 n (wk2 n (fl 15) (wk1 n (fl 15) (fun j => ar 13 (P j)) (ar 37)))))))) fl n (by first | exact hn | assumption | omega | rfl) (by first | exact hN | assumption | omega | rfl)) ok_WK_latinNumbers m3_216 m3_218 ms_27 9 rfl rfl rfl rfl hl.1 ⟨rfl, rfl⟩ ⟨Nat.le_of_ble_eq_true rfl, Nat.le_of_ble_eq_true rfl⟩ (Nat.le_of_ble_eq_true rfl) ⟨Nat.le_of_ble_eq_true rfl, Nat.le_of_ble_eq_true rfl⟩ d_WK_apply_25 (fun u25 H locs hp25 hI => ?_)
  have hI : CI g A s (cw g ad (va_up ar 37 (wk7 n (fl 15) (wk6 n (wk5 n (wk4 n (wk3 n (wk2 n (fl 15) (wk1 n (fl 15) (fun j => ar 13 (P j)) (ar 37))))))))) fl) H locs := hI
  exact hret () _ _ _ _ _ _ d_WK_apply_28 hI (trivial) (Nat.le_refl 0) (Nat.le_refl 0)
abbrev rm_SQ_writeKinds : Room := { frames := 0, cells := 0, slots := 0, locals := 0 }
set_option maxHeartbeats 4000000 in
set_option maxRecDepth 100000 in
theorem c_SQ_writeKinds (l : Launch) (g : Geo) (ad : Nat → Nat) (ar : Nat → Nat → Int32) (fl : Nat → Int32) (n : Nat) (P : Nat → Nat) (hn : fl 13 = nI n) (hN : n ≤ 2000) (hP : ∀ j, j < n → ar 36 j = nI (P j)) (hPb : ∀ j, j < n → P j < 2000) : cMv l y_SQ_writeKinds (.code y_SQ_writeKinds b_SQ_writeKinds 2 none :: gw) rm_SQ_writeKinds g [.ref (ad 8)] (cw g ad ar fl) (fun (_ : Unit) => True) (fun (_ : Unit) => cw g ad (va_up ar 14 (wrt P (ar 37) (ar 14) n)) fl) 0 0 := by
  refine cMv_of (by decide) (Nat.le_of_ble_eq_true rfl) ?_
  intro p e s m below meth c A Q ls M hnm hret hl hI
  have M : MC p s m ([.ref (ad 8)] : List Value).toArray meth c R_SQ b_SQ_writeKinds 2 := M
  have hl : lv_has ls 2 [(0, .ref (ad 8))] := hl
  generalize ([.ref (ad 8)] : List Value).toArray = args at M hret ⊢
  have hx := M.1
  have hb := M.2.1
  refine lv_iconst (v := 0) hx hb d_SQ_writeKinds_0 (by decide) ?_
  refine lv_istore_n (lv' := [(1, .int 0), (0, .ref (ad 8))]) hx hb d_SQ_writeKinds_1 rfl hl (by decide) rfl (fun ls hl => ?_)
  have L2 : ∀ (fu : Nat) (i : Nat), (n - i) < fu → (i ≤ n) → ∀ (H : Heap) (locs : List Loc) (ls : Array Slot), CI g A s (cw g ad (va_up ar 14 (wrt P (ar 37) (ar 14) i)) fl) H locs → lv_has ls 2 [(0, .ref (ad 8)), (1, .int (nI i))] → W p l e rm_SQ_writeKinds s m args below meth c H locs 0 0 Q (F0 m 2 ls []) := by
    intro fu
    induction fu with
    | zero => intro i hm; exact absurd hm (Nat.not_lt_zero _)
    | succ fu ih2 =>
      intro i hm hi H locs ls hI hl
      refine lv_iload_n hx hb d_SQ_writeKinds_2 rfl (lv_at hl 1 rfl) ?_
      refine lv_aload_n hx hb d_SQ_writeKinds_3 rfl (lv_at hl 0 rfl) ?_
      refine g_SQ_18 M hI d_SQ_writeKinds_4 ?_
      refine q_as (y := nI n) hn ?_
      refine lv_icmp_ge (tgt := 36) hx hb d_SQ_writeKinds_7 (by decide) (fun c7 => ?_) (fun c7 => ?_)
      · have c7 : n ≤ i := (nI_leI (a := n) (b := i) (by omega) (by omega)).mp c7
        have e9 : i = n := by omega
        subst e9
        exact hret () _ _ _ _ _ _ d_SQ_writeKinds_36 hI (trivial) (Nat.le_refl 0) (Nat.le_refl 0)
      · have c7 : ¬ n ≤ i := fun h => c7 ((nI_leI (a := n) (b := i) (by omega) (by omega)).mpr h)
        refine lv_aload_n hx hb d_SQ_writeKinds_10 rfl (lv_at hl 0 rfl) ?_
        refine g_SQ_31 M hI d_SQ_writeKinds_11 ?_
        refine g_SQ_39 M hI d_SQ_writeKinds_14 ?_
        refine lv_aload_n hx hb d_SQ_writeKinds_17 rfl (lv_at hl 0 rfl) ?_
        refine g_SQ_9 M hI d_SQ_writeKinds_18 ?_
        refine lv_iload_n hx hb d_SQ_writeKinds_21 rfl (lv_at hl 1 rfl) ?_
        refine al_36 M hI i rfl (by omega) d_SQ_writeKinds_22 ?_
        refine q_as (y := nI (P i)) (hP _ (by omega)) ?_
        refine lv_aload_n hx hb d_SQ_writeKinds_23 rfl (lv_at hl 0 rfl) ?_
        refine g_SQ_15 M hI d_SQ_writeKinds_24 ?_
        refine lv_iload_n hx hb d_SQ_writeKinds_27 rfl (lv_at hl 1 rfl) ?_
        refine al_37 M hI i rfl (by omega) d_SQ_writeKinds_28 ?_
        refine q_as (y := ar 37 i) rfl ?_
        refine as_14 M hI (P i) rfl (hPb _ (by omega)) d_SQ_writeKinds_29 (fun H locs hI => ?_)
        have hI : CI g A s (cw g ad (va_up ar 14 (upd (wrt P (ar 37) (ar 14) i) (P i) (ar 37 i))) fl) H locs := hI
        rw [show upd (wrt P (ar 37) (ar 14) i) (P i) (ar 37 i) = wrt P (ar 37) (ar 14) (i + 1) from rfl] at hI
        have hI : CI g A s (cw g ad (va_up ar 14 (wrt P (ar 37) (ar 14) (i + 1))) fl) H locs := hI
        refine lv_iinc (v := nI (i + 1)) (lv' := [(1, .int (nI (i + 1))), (0, .ref (ad 8))]) hx hb d_SQ_writeKinds_30 hl (k := 1) rfl (nI_add _ 1) (by decide) rfl (fun ls hl => ?_)
        refine lv_goto (tgt := 2) hx hb d_SQ_writeKinds_33 (by decide) ?_
        exact ih2 (i + 1) (by omega) (by first | assumption | omega) _ _ _ hI (lv_sub hl [1, 0] rfl)
  have hI := CI.to (w2 := cw g ad (va_up ar 14 (wrt P (ar 37) (ar 14) 0)) fl) hI (by rfl)
  exact L2 _ 0 (Nat.lt_succ_self _) (by first | assumption | omega) _ _ _ hI (lv_sub hl [1, 0] rfl)
theorem sideAt_n {n i : Nat} {h t : Int32} {f : Nat → Int32} (hn : n < 2 ^ 31) (hi : i < 2 ^ 31) : sideAt n h t f (nI i) = sideN n t f i := by
  unfold sideAt sideN
  rw [if_neg (nI_pos hi), nI_clamp hi]
  by_cases q : n ≤ i
  · rw [if_pos q, if_pos (nI_le q hi)]
  · rw [if_neg q, if_neg (nI_ge (by omega) hn)]
theorem sideAt_p {n b : Nat} {h t : Int32} {f : Nat → Int32} (hn : n < 2 ^ 31) (hb : b ≤ n) : sideAt n h t f (nI b - 1) = sideB h f b := by
  unfold sideAt sideB
  cases b with
  | zero => rw [if_pos nI_0m1, if_pos rfl]
  | succ j =>
    rw [nI_pred, if_neg (nI_pos (by omega)), if_neg (nI_ge (by omega) hn), if_neg (by omega), nI_clamp (by omega), Nat.add_sub_cancel]
abbrev rm_SQ_settleNeutrals : Room := { frames := 1, cells := 0, slots := 0, locals := 21 }
set_option maxHeartbeats 4000000 in
set_option maxRecDepth 100000 in
theorem c_SQ_settleNeutrals (l : Launch) (g : Geo) (ad : Nat → Nat) (ar : Nat → Nat → Int32) (fl : Nat → Int32) (n : Nat) (hn : fl 13 = nI n) (hN : n ≤ 2000) (ht : fl 16 ≠ -1) : cMv l y_SQ_settleNeutrals (.code y_SQ_settleNeutrals b_SQ_settleNeutrals 6 none :: gw) rm_SQ_settleNeutrals g [.ref (ad 8)] (cw g ad ar fl) (fun (_ : Unit) => True) (fun (_ : Unit) => cw g ad (va_up ar 37 (pre n (n12 n (fl 15) (fl 16) (fl 14) (ar 37)) (ar 37))) fl) 0 0 := by
  refine cMv_of (by decide) (Nat.le_of_ble_eq_true rfl) ?_
  intro p e s m below meth c A Q ls M hnm hret hl hI
  have M : MC p s m ([.ref (ad 8)] : List Value).toArray meth c R_SQ b_SQ_settleNeutrals 6 := M
  have hl : lv_has ls 6 [(0, .ref (ad 8))] := hl
  generalize ([.ref (ad 8)] : List Value).toArray = args at M hret ⊢
  have hx := M.1
  have hb := M.2.1
  refine lv_iconst (v := 0) hx hb d_SQ_settleNeutrals_0 (by decide) ?_
  refine lv_istore_n (lv' := [(1, .int 0), (0, .ref (ad 8))]) hx hb d_SQ_settleNeutrals_1 rfl hl (by decide) rfl (fun ls hl => ?_)
  refine lv_iconst (v := 0) hx hb d_SQ_settleNeutrals_2 (by decide) ?_
  refine lv_istore_n (lv' := [(2, .int 0), (1, .int 0), (0, .ref (ad 8))]) hx hb d_SQ_settleNeutrals_3 rfl hl (by decide) rfl (fun ls hl => ?_)
  have L4 : ∀ (fu : Nat) (i : Nat) (b : Nat), (n + 1 - i) < fu → (i ≤ n + 1) → (b ≤ i) → (∀ j, b ≤ j → j < i → sd (ar 37 j) = -1) → (b = 0 ∨ n < b ∨ sd (ar 37 (b - 1)) ≠ -1) → (n < i → n < b) → ∀ (H : Heap) (locs : List Loc) (ls : Array Slot), CI g A s (cw g ad (va_up ar 37 (pre (min b n) (n12 n (fl 15) (fl 16) (fl 14) (ar 37)) (ar 37))) fl) H locs → lv_has ls 6 [(0, .ref (ad 8)), (1, .int (nI b)), (2, .int (nI i))] → W p l e rm_SQ_settleNeutrals s m args below meth c H locs 0 0 Q (F0 m 4 ls []) := by
    intro fu
    induction fu with
    | zero => intro i b hm; exact absurd hm (Nat.not_lt_zero _)
    | succ fu ih4 =>
      intro i b hm hi hba hrow hst hend H locs ls hI hl
      refine lv_iload_n hx hb d_SQ_settleNeutrals_4 rfl (lv_at hl 2 rfl) ?_
      refine lv_aload_n hx hb d_SQ_settleNeutrals_5 rfl (lv_at hl 0 rfl) ?_
      refine g_SQ_18 M hI d_SQ_settleNeutrals_6 ?_
      refine q_as (y := nI n) hn ?_
      refine lv_icmp_gt (tgt := 78) hx hb d_SQ_settleNeutrals_9 (by decide) (fun c9 => ?_) (fun c9 => ?_)
      · have c9 : n < i := (nI_ltI (a := n) (b := i) (by omega) (by omega)).mp c9
        have hI := CI.to (w2 := cw g ad (va_up ar 37 (pre n (n12 n (fl 15) (fl 16) (fl 14) (ar 37)) (ar 37))) fl) hI (by rw [show min b n = n by omega])
        exact hret () _ _ _ _ _ _ d_SQ_settleNeutrals_78 hI (trivial) (Nat.le_refl 0) (Nat.le_refl 0)
      · have c9 : ¬ n < i := fun h => c9 ((nI_ltI (a := n) (b := i) (by omega) (by omega)).mpr h)
        have eb : min b n = b := by omega
        have hst : b = 0 ∨ sd (ar 37 (b - 1)) ≠ -1 := by rcases hst with q | q | q; exact Or.inl q; exact absurd q (by omega); exact Or.inr q
        have hI := CI.to (w2 := cw g ad (va_up ar 37 (pre b (n12 n (fl 15) (fl 16) (fl 14) (ar 37)) (ar 37))) fl) hI (by rw [eb])
        refine lv_aload_n hx hb d_SQ_settleNeutrals_12 rfl (lv_at hl 0 rfl) ?_
        refine lv_iload_n hx hb d_SQ_settleNeutrals_13 rfl (lv_at hl 2 rfl) ?_
        refine q_calliV [.int (nI i)] M hI (c_SQ_sideAt l g ad (va_up ar 37 (pre b (n12 n (fl 15) (fl 16) (fl 14) (ar 37)) (ar 37))) fl (nI i) n (by first | exact hn | assumption | omega | rfl) (by first | exact hN | assumption | omega | rfl)) ok_SQ_sideAt m4_21 m4_2 m4_3 8 rfl rfl rfl rfl hl.1 ⟨rfl, rfl⟩ ⟨Nat.le_of_ble_eq_true rfl, Nat.le_of_ble_eq_true rfl⟩ (Nat.le_of_ble_eq_true rfl) ⟨Nat.le_of_ble_eq_true rfl, Nat.le_of_ble_eq_true rfl⟩ d_SQ_settleNeutrals_14 (fun r14 u14 H locs hp14 hI => ?_)
        refine q_as (y := sideAt n (fl 15) (fl 16) (pre b (n12 n (fl 15) (fl 16) (fl 14) (ar 37)) (ar 37)) (nI i)) hp14 ?_
        refine q_as (y := sideN n (fl 16) (ar 37) i) (by rw [sideAt_n (by omega) (by omega)]; unfold sideN; rw [pre_hi hba]) ?_
        refine lv_istore_n (lv' := [(3, .int (sideN n (fl 16) (ar 37) i)), (0, .ref (ad 8)), (1, .int (nI b)), (2, .int (nI i))]) hx hb d_SQ_settleNeutrals_17 rfl hl (by decide) rfl (fun ls hl => ?_)
        refine lv_iload_n hx hb d_SQ_settleNeutrals_18 rfl (lv_at hl 0 rfl) ?_
        refine lv_iconst (v := (-1)) hx hb d_SQ_settleNeutrals_19 (by decide) ?_
        refine lv_icmp_eq (tgt := 72) hx hb d_SQ_settleNeutrals_20 (by decide) (fun c20 => ?_) (fun c20 => ?_)
        · have hin : i < n := by rcases Nat.lt_or_ge i n with q | q; exact q; unfold sideN at c20; rw [if_pos q] at c20; exact absurd c20 ht
          have hsi : sd (ar 37 i) = -1 := by unfold sideN at c20; rw [if_neg (by omega)] at c20; exact c20
          have hr2 : ∀ j, b ≤ j → j < i + 1 → sd (ar 37 j) = -1 := fun j h1 h2 => by rcases Nat.lt_or_ge j i with q | q; exact hrow j h1 q; rw [show j = i by omega]; exact hsi
          have hs2 : b = 0 ∨ n < b ∨ sd (ar 37 (b - 1)) ≠ -1 := hst.elim Or.inl (fun q => Or.inr (Or.inr q))
          have hI := CI.to (w2 := cw g ad (va_up ar 37 (pre (min b n) (n12 n (fl 15) (fl 16) (fl 14) (ar 37)) (ar 37))) fl) hI (by rw [eb])
          refine lv_iinc (v := nI (i + 1)) (lv' := [(2, .int (nI (i + 1))), (3, .int (sideN n (fl 16) (ar 37) i)), (0, .ref (ad 8)), (1, .int (nI b))]) hx hb d_SQ_settleNeutrals_72 hl (k := 3) rfl (nI_add _ 1) (by decide) rfl (fun ls hl => ?_)
          refine lv_goto (tgt := 4) hx hb d_SQ_settleNeutrals_75 (by decide) ?_
          exact ih4 (i + 1) b (by omega) (by first | assumption | omega) (by first | assumption | omega) (hr2) (hs2) (by first | assumption | omega) _ _ _ hI (lv_sub hl [2, 3, 0] rfl)
        · have hen : i < n → sd (ar 37 i) ≠ -1 := fun h q => c20 (by unfold sideN; rw [if_neg (by omega)]; exact q)
          refine lv_aload_n hx hb d_SQ_settleNeutrals_23 rfl (lv_at hl 1 rfl) ?_
          refine lv_iload_n hx hb d_SQ_settleNeutrals_24 rfl (lv_at hl 2 rfl) ?_
          refine lv_iconst (v := 1) hx hb d_SQ_settleNeutrals_25 (by decide) ?_
          refine lv_isub hx hb d_SQ_settleNeutrals_26 ?_
          refine q_calliV [.int ((nI b) - 1)] M hI (c_SQ_sideAt l g ad (va_up ar 37 (pre b (n12 n (fl 15) (fl 16) (fl 14) (ar 37)) (ar 37))) fl ((nI b) - 1) n (by first | exact hn | assumption | omega | rfl) (by first | exact hN | assumption | omega | rfl)) ok_SQ_sideAt m4_21 m4_2 m4_3 8 rfl rfl rfl rfl hl.1 ⟨rfl, rfl⟩ ⟨Nat.le_of_ble_eq_true rfl, Nat.le_of_ble_eq_true rfl⟩ (Nat.le_of_ble_eq_true rfl) ⟨Nat.le_of_ble_eq_true rfl, Nat.le_of_ble_eq_true rfl⟩ d_SQ_settleNeutrals_27 (fun r27 u27 H locs hp27 hI => ?_)
          refine q_as (y := sideAt n (fl 15) (fl 16) (pre b (n12 n (fl 15) (fl 16) (fl 14) (ar 37)) (ar 37)) ((nI b) - 1)) hp27 ?_
          refine q_as (y := sideB (fl 15) (ar 37) b) (by rw [sideAt_p (by omega) (by omega)]; unfold sideB; by_cases q : b = 0; rw [if_pos q, if_pos q]; rw [if_neg q, if_neg q, pre_lo (by omega), n12_ne (hst.elim (fun z => absurd z q) id)]) ?_
          refine lv_iload_n hx hb d_SQ_settleNeutrals_30 rfl (lv_at hl 0 rfl) ?_
          refine lv_icmp_ne (tgt := 38) hx hb d_SQ_settleNeutrals_31 (by decide) (fun c31 => ?_) (fun c31 => ?_)
          · have hv2 : ∀ j, b ≤ j → j < i → n12 n (fl 15) (fl 16) (fl 14) (ar 37) j = fl 14 := fun j h1 h2 => by rw [n12_row (by omega) hrow hst hen h1 h2, if_neg c31]
            refine lv_aload_n hx hb d_SQ_settleNeutrals_38 rfl (lv_at hl 1 rfl) ?_
            refine g_SQ_22 M hI d_SQ_settleNeutrals_39 ?_
            refine lv_istore (lv' := [(4, .int (fl 14)), (3, .int (sideN n (fl 16) (ar 37) i)), (0, .ref (ad 8)), (1, .int (nI b)), (2, .int (nI i))]) hx hb d_SQ_settleNeutrals_42 hl (by decide) rfl (fun ls hl => ?_)
            refine lv_iload_n hx hb d_SQ_settleNeutrals_44 rfl (lv_at hl 3 rfl) ?_
            refine lv_istore (lv' := [(5, .int (nI b)), (4, .int (fl 14)), (3, .int (sideN n (fl 16) (ar 37) i)), (0, .ref (ad 8)), (1, .int (nI b)), (2, .int (nI i))]) hx hb d_SQ_settleNeutrals_45 hl (by decide) rfl (fun ls hl => ?_)
            have L47 : ∀ (fu : Nat) (j : Nat) (v : Int32), (i - j) < fu → (b ≤ j) → (j ≤ i) → (∀ j, b ≤ j → j < i → n12 n (fl 15) (fl 16) (fl 14) (ar 37) j = v) → ∀ (H : Heap) (locs : List Loc) (ls : Array Slot), CI g A s (cw g ad (va_up ar 37 (pre j (n12 n (fl 15) (fl 16) (fl 14) (ar 37)) (ar 37))) fl) H locs → lv_has ls 6 [(0, .ref (ad 8)), (1, .int (nI b)), (2, .int (nI i)), (4, .int v), (5, .int (nI j))] → W p l e rm_SQ_settleNeutrals s m args below meth c H locs 0 0 Q (F0 m 47 ls []) := by
              intro fu
              induction fu with
              | zero => intro j v hm; exact absurd hm (Nat.not_lt_zero _)
              | succ fu ih47 =>
                intro j v hm hj hj2 hv H locs ls hI hl
                refine lv_iload hx hb d_SQ_settleNeutrals_47 (lv_at hl 4 rfl) ?_
                refine lv_iload_n hx hb d_SQ_settleNeutrals_49 rfl (lv_at hl 2 rfl) ?_
                refine lv_icmp_ge (tgt := 68) hx hb d_SQ_settleNeutrals_50 (by decide) (fun c50 => ?_) (fun c50 => ?_)
                · have c50 : i ≤ j := (nI_leI (a := i) (b := j) (by omega) (by omega)).mp c50
                  have hI := CI.to (w2 := cw g ad (va_up ar 37 (pre i (n12 n (fl 15) (fl 16) (fl 14) (ar 37)) (ar 37))) fl) hI (by rw [show j = i by omega])
                  have hr2 : ∀ j, i + 1 ≤ j → j < i + 1 → sd (ar 37 j) = -1 := fun j h1 h2 => absurd h2 (by omega)
                  have hs2 : i + 1 = 0 ∨ n < i + 1 ∨ sd (ar 37 (i + 1 - 1)) ≠ -1 := by rcases Nat.lt_or_ge i n with q | q; exact Or.inr (Or.inr (hen q)); exact Or.inr (Or.inl (by omega))
                  have hI := CI.to (w2 := cw g ad (va_up ar 37 (pre (min (i + 1) n) (n12 n (fl 15) (fl 16) (fl 14) (ar 37)) (ar 37))) fl) hI (by rw [pre_step (n := n) (i := i) (by omega) (fun h => (n12_ne (hen h)).symm)])
                  refine lv_iload_n hx hb d_SQ_settleNeutrals_68 rfl (lv_at hl 2 rfl) ?_
                  refine lv_iconst (v := 1) hx hb d_SQ_settleNeutrals_69 (by decide) ?_
                  refine lv_iadd hx hb d_SQ_settleNeutrals_70 ?_
                  refine q_as (y := nI (i + 1)) (nI_add i 1) ?_
                  refine lv_istore_n (lv' := [(1, .int (nI (i + 1))), (0, .ref (ad 8)), (2, .int (nI i)), (4, .int v), (5, .int (nI j))]) hx hb d_SQ_settleNeutrals_71 rfl hl (by decide) rfl (fun ls hl => ?_)
                  refine lv_iinc (v := nI (i + 1)) (lv' := [(2, .int (nI (i + 1))), (1, .int (nI (i + 1))), (0, .ref (ad 8)), (4, .int v), (5, .int (nI j))]) hx hb d_SQ_settleNeutrals_72 hl (k := 2) rfl (nI_add _ 1) (by decide) rfl (fun ls hl => ?_)
                  refine lv_goto (tgt := 4) hx hb d_SQ_settleNeutrals_75 (by decide) ?_
                  exact ih4 (i + 1) (i + 1) (by omega) (by first | assumption | omega) (by first | assumption | omega) (hr2) (hs2) (by first | assumption | omega) _ _ _ hI (lv_sub hl [2, 1, 0] rfl)
                · have c50 : ¬ i ≤ j := fun h => c50 ((nI_leI (a := i) (b := j) (by omega) (by omega)).mpr h)
                  refine lv_aload_n hx hb d_SQ_settleNeutrals_53 rfl (lv_at hl 0 rfl) ?_
                  refine g_SQ_15 M hI d_SQ_settleNeutrals_54 ?_
                  refine lv_iload hx hb d_SQ_settleNeutrals_57 (lv_at hl 4 rfl) ?_
                  refine lv_iload hx hb d_SQ_settleNeutrals_59 (lv_at hl 3 rfl) ?_
                  refine as_37 M hI j rfl (by omega) d_SQ_settleNeutrals_61 (fun H locs hI => ?_)
                  have hI : CI g A s (cw g ad (va_up ar 37 (upd (pre j (n12 n (fl 15) (fl 16) (fl 14) (ar 37)) (ar 37)) j v)) fl) H locs := hI
                  rw [show upd (pre j (n12 n (fl 15) (fl 16) (fl 14) (ar 37)) (ar 37)) j v = pre (j + 1) (n12 n (fl 15) (fl 16) (fl 14) (ar 37)) (ar 37) from pre_up (hv j (by omega) (by omega)).symm] at hI
                  have hI : CI g A s (cw g ad (va_up ar 37 (pre (j + 1) (n12 n (fl 15) (fl 16) (fl 14) (ar 37)) (ar 37))) fl) H locs := hI
                  refine lv_iinc (v := nI (j + 1)) (lv' := [(5, .int (nI (j + 1))), (0, .ref (ad 8)), (1, .int (nI b)), (2, .int (nI i)), (4, .int v)]) hx hb d_SQ_settleNeutrals_62 hl (k := 4) rfl (nI_add _ 1) (by decide) rfl (fun ls hl => ?_)
                  refine lv_goto (tgt := 47) hx hb d_SQ_settleNeutrals_65 (by decide) ?_
                  exact ih47 (j + 1) v (by omega) (by first | assumption | omega) (by first | assumption | omega) (hv) _ _ _ hI (lv_sub hl [1, 2, 3, 4, 0] rfl)
            exact L47 _ b (fl 14) (Nat.lt_succ_self _) (by first | assumption | omega) (by first | assumption | omega) (hv2) _ _ _ hI (lv_sub hl [3, 4, 5, 1, 0] rfl)
          · have hv2 : ∀ j, b ≤ j → j < i → n12 n (fl 15) (fl 16) (fl 14) (ar 37) j = sideN n (fl 16) (ar 37) i := fun j h1 h2 => by rw [n12_row (by omega) hrow hst hen h1 h2, if_pos c31]
            refine lv_iload_n hx hb d_SQ_settleNeutrals_34 rfl (lv_at hl 0 rfl) ?_
            refine lv_goto (tgt := 42) hx hb d_SQ_settleNeutrals_35 (by decide) ?_
            refine lv_istore (lv' := [(4, .int (sideN n (fl 16) (ar 37) i)), (3, .int (sideN n (fl 16) (ar 37) i)), (0, .ref (ad 8)), (1, .int (nI b)), (2, .int (nI i))]) hx hb d_SQ_settleNeutrals_42 hl (by decide) rfl (fun ls hl => ?_)
            refine lv_iload_n hx hb d_SQ_settleNeutrals_44 rfl (lv_at hl 3 rfl) ?_
            refine lv_istore (lv' := [(5, .int (nI b)), (4, .int (sideN n (fl 16) (ar 37) i)), (3, .int (sideN n (fl 16) (ar 37) i)), (0, .ref (ad 8)), (1, .int (nI b)), (2, .int (nI i))]) hx hb d_SQ_settleNeutrals_45 hl (by decide) rfl (fun ls hl => ?_)
            have L47 : ∀ (fu : Nat) (j : Nat) (v : Int32), (i - j) < fu → (b ≤ j) → (j ≤ i) → (∀ j, b ≤ j → j < i → n12 n (fl 15) (fl 16) (fl 14) (ar 37) j = v) → ∀ (H : Heap) (locs : List Loc) (ls : Array Slot), CI g A s (cw g ad (va_up ar 37 (pre j (n12 n (fl 15) (fl 16) (fl 14) (ar 37)) (ar 37))) fl) H locs → lv_has ls 6 [(0, .ref (ad 8)), (1, .int (nI b)), (2, .int (nI i)), (4, .int v), (5, .int (nI j))] → W p l e rm_SQ_settleNeutrals s m args below meth c H locs 0 0 Q (F0 m 47 ls []) := by
              intro fu
              induction fu with
              | zero => intro j v hm; exact absurd hm (Nat.not_lt_zero _)
              | succ fu ih47 =>
                intro j v hm hj hj2 hv H locs ls hI hl
                refine lv_iload hx hb d_SQ_settleNeutrals_47 (lv_at hl 4 rfl) ?_
                refine lv_iload_n hx hb d_SQ_settleNeutrals_49 rfl (lv_at hl 2 rfl) ?_
                refine lv_icmp_ge (tgt := 68) hx hb d_SQ_settleNeutrals_50 (by decide) (fun c50 => ?_) (fun c50 => ?_)
                · have c50 : i ≤ j := (nI_leI (a := i) (b := j) (by omega) (by omega)).mp c50
                  have hI := CI.to (w2 := cw g ad (va_up ar 37 (pre i (n12 n (fl 15) (fl 16) (fl 14) (ar 37)) (ar 37))) fl) hI (by rw [show j = i by omega])
                  have hr2 : ∀ j, i + 1 ≤ j → j < i + 1 → sd (ar 37 j) = -1 := fun j h1 h2 => absurd h2 (by omega)
                  have hs2 : i + 1 = 0 ∨ n < i + 1 ∨ sd (ar 37 (i + 1 - 1)) ≠ -1 := by rcases Nat.lt_or_ge i n with q | q; exact Or.inr (Or.inr (hen q)); exact Or.inr (Or.inl (by omega))
                  have hI := CI.to (w2 := cw g ad (va_up ar 37 (pre (min (i + 1) n) (n12 n (fl 15) (fl 16) (fl 14) (ar 37)) (ar 37))) fl) hI (by rw [pre_step (n := n) (i := i) (by omega) (fun h => (n12_ne (hen h)).symm)])
                  refine lv_iload_n hx hb d_SQ_settleNeutrals_68 rfl (lv_at hl 2 rfl) ?_
                  refine lv_iconst (v := 1) hx hb d_SQ_settleNeutrals_69 (by decide) ?_
                  refine lv_iadd hx hb d_SQ_settleNeutrals_70 ?_
                  refine q_as (y := nI (i + 1)) (nI_add i 1) ?_
                  refine lv_istore_n (lv' := [(1, .int (nI (i + 1))), (0, .ref (ad 8)), (2, .int (nI i)), (4, .int v), (5, .int (nI j))]) hx hb d_SQ_settleNeutrals_71 rfl hl (by decide) rfl (fun ls hl => ?_)
                  refine lv_iinc (v := nI (i + 1)) (lv' := [(2, .int (nI (i + 1))), (1, .int (nI (i + 1))), (0, .ref (ad 8)), (4, .int v), (5, .int (nI j))]) hx hb d_SQ_settleNeutrals_72 hl (k := 2) rfl (nI_add _ 1) (by decide) rfl (fun ls hl => ?_)
                  refine lv_goto (tgt := 4) hx hb d_SQ_settleNeutrals_75 (by decide) ?_
                  exact ih4 (i + 1) (i + 1) (by omega) (by first | assumption | omega) (by first | assumption | omega) (hr2) (hs2) (by first | assumption | omega) _ _ _ hI (lv_sub hl [2, 1, 0] rfl)
                · have c50 : ¬ i ≤ j := fun h => c50 ((nI_leI (a := i) (b := j) (by omega) (by omega)).mpr h)
                  refine lv_aload_n hx hb d_SQ_settleNeutrals_53 rfl (lv_at hl 0 rfl) ?_
                  refine g_SQ_15 M hI d_SQ_settleNeutrals_54 ?_
                  refine lv_iload hx hb d_SQ_settleNeutrals_57 (lv_at hl 4 rfl) ?_
                  refine lv_iload hx hb d_SQ_settleNeutrals_59 (lv_at hl 3 rfl) ?_
                  refine as_37 M hI j rfl (by omega) d_SQ_settleNeutrals_61 (fun H locs hI => ?_)
                  have hI : CI g A s (cw g ad (va_up ar 37 (upd (pre j (n12 n (fl 15) (fl 16) (fl 14) (ar 37)) (ar 37)) j v)) fl) H locs := hI
                  rw [show upd (pre j (n12 n (fl 15) (fl 16) (fl 14) (ar 37)) (ar 37)) j v = pre (j + 1) (n12 n (fl 15) (fl 16) (fl 14) (ar 37)) (ar 37) from pre_up (hv j (by omega) (by omega)).symm] at hI
                  have hI : CI g A s (cw g ad (va_up ar 37 (pre (j + 1) (n12 n (fl 15) (fl 16) (fl 14) (ar 37)) (ar 37))) fl) H locs := hI
                  refine lv_iinc (v := nI (j + 1)) (lv' := [(5, .int (nI (j + 1))), (0, .ref (ad 8)), (1, .int (nI b)), (2, .int (nI i)), (4, .int v)]) hx hb d_SQ_settleNeutrals_62 hl (k := 4) rfl (nI_add _ 1) (by decide) rfl (fun ls hl => ?_)
                  refine lv_goto (tgt := 47) hx hb d_SQ_settleNeutrals_65 (by decide) ?_
                  exact ih47 (j + 1) v (by omega) (by first | assumption | omega) (by first | assumption | omega) (hv) _ _ _ hI (lv_sub hl [1, 2, 3, 4, 0] rfl)
            exact L47 _ b (sideN n (fl 16) (ar 37) i) (Nat.lt_succ_self _) (by first | assumption | omega) (by first | assumption | omega) (hv2) _ _ _ hI (lv_sub hl [3, 4, 5, 1, 0] rfl)
  have hI := CI.to (w2 := cw g ad (va_up ar 37 (pre (min 0 n) (n12 n (fl 15) (fl 16) (fl 14) (ar 37)) (ar 37))) fl) hI (by rw [Nat.zero_min, pre_0]; rfl)
  exact L4 _ 0 0 (Nat.lt_succ_self _) (by first | assumption | omega) (by first | assumption | omega) (fun j h1 h2 => absurd h2 (Nat.not_lt_zero j)) (Or.inl rfl) (by first | assumption | omega) _ _ _ hI (lv_sub hl [2, 1, 0] rfl)
