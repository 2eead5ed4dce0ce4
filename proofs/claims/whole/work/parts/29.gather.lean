/-! 29: Runs: sequences -/
theorem okM_tn {f : Nat → Int32} (h : okM f) {q : Nat} (hq : q < 2000) (hn : ¬ f q = -1) : f q = nI (f q).toNatClampNeg ∧ (f q).toNatClampNeg < 2000 := by
  obtain ⟨k, hk, e⟩ := (h q hq).resolve_left hn
  rw [e, nI_clamp (by omega)]
  exact ⟨rfl, hk⟩
theorem m1_ne {n : Nat} (h : n < 2 ^ 31) : ¬ nI n = -1 := fun q => nI_pos h (by rw [q]; decide)
theorem runAt_LF {V : List (List Nat)} {r w : Nat} (hr : r < V.length) (hw : w < (runAt V r).length) : off V r + w < tot V := by
  have := (runAt_flat hr hw).2; omega
abbrev rm_RU_beginsSequence : Room := { frames := 0, cells := 0, slots := 0, locals := 0 }
set_option maxHeartbeats 4000000 in
set_option maxRecDepth 100000 in
theorem c_RU_beginsSequence (l : Launch) (g : Geo) (ad : Nat → Nat) (ar : Nat → Nat → Int32) (fl : Nat → Int32) (x : Nat) (V : List (List Nat)) (h11 : fl 11 = nI (tot V)) (h12 : fl 12 = nI V.length) (hrr : rrel (ar 32) (ar 33) (ar 34) (ar 35) V) (hv : vlt 2000 V) (ht : tot V ≤ 2000) (hxv : x < V.length) : cMi l y_RU_beginsSequence (.code y_RU_beginsSequence b_RU_beginsSequence 3 (some .boolean) :: gw) rm_RU_beginsSequence g [.ref (ad 7), .int (nI x)] (cw g ad ar fl) (fun (r : Int32) (_ : Unit) => r = bI (ar 13 (LFn V (off V x)) ≠ 22 ∨ ar 16 (LFn V (off V x)) = -1)) (fun (_ : Unit) => cw g ad ar fl) 0 0 := by
  refine cMz_of (by decide) (Nat.le_of_ble_eq_true rfl) ?_
  intro p e s m below meth c A Q ls M hret hl hI
  have M : MC p s m ([.ref (ad 7), .int (nI x)] : List Value).toArray meth c R_RU b_RU_beginsSequence 3 := M
  have hl : lv_has ls 3 [(0, .ref (ad 7)), (1, .int (nI x))] := hl
  generalize ([.ref (ad 7), .int (nI x)] : List Value).toArray = args at M hret ⊢
  have hx := M.1
  have hb := M.2.1
  have hvl := vlt_len hv
  have hp := runAt_pos hv hxv
  have hof := (runAt_flat (V := V) (r := x) (t := 0) hxv hp).2
  have hP0 : LFn V (off V x) < 2000 := vlt_flat hv _ (LFn_mem (by omega))
  refine lv_aload_n hx hb d_RU_beginsSequence_0 rfl (lv_at hl 0 rfl) ?_
  refine g_RU_9 M hI d_RU_beginsSequence_1 ?_
  refine lv_aload_n hx hb d_RU_beginsSequence_4 rfl (lv_at hl 0 rfl) ?_
  refine g_RU_19 M hI d_RU_beginsSequence_5 ?_
  refine lv_iload_n hx hb d_RU_beginsSequence_8 rfl (lv_at hl 1 rfl) ?_
  refine al_33 M hI x rfl (by omega) d_RU_beginsSequence_9 ?_
  refine q_as (y := nI (off V x)) ((rrel_at hrr x hxv).1) ?_
  refine al_32 M hI (off V x) rfl (by omega) d_RU_beginsSequence_10 ?_
  refine q_as (y := nI (LFn V (off V x))) (rrel_flat hrr _ (by omega)) ?_
  refine lv_istore_n (lv' := [(2, .int (nI (LFn V (off V x)))), (0, .ref (ad 7)), (1, .int (nI x))]) hx hb d_RU_beginsSequence_11 rfl hl (by decide) rfl (fun ls hl => ?_)
  refine lv_aload_n hx hb d_RU_beginsSequence_12 rfl (lv_at hl 1 rfl) ?_
  refine g_RU_31 M hI d_RU_beginsSequence_13 ?_
  refine g_RU_44 M hI d_RU_beginsSequence_16 ?_
  refine lv_iload_n hx hb d_RU_beginsSequence_19 rfl (lv_at hl 0 rfl) ?_
  refine al_13 M hI (LFn V (off V x)) rfl (hP0) d_RU_beginsSequence_20 ?_
  refine lv_bipush (v := 22) hx hb d_RU_beginsSequence_21 (by decide) ?_
  refine lv_icmp_ne (tgt := 39) hx hb d_RU_beginsSequence_23 (by decide) (fun c23 => ?_) (fun c23 => ?_)
  · refine lv_iconst (v := 1) hx hb d_RU_beginsSequence_39 (by decide) ?_
    refine lv_goto (tgt := 44) hx hb d_RU_beginsSequence_40 (by decide) ?_
    exact hret 1 () _ _ _ _ _ _ d_RU_beginsSequence_44 hI (by symm; first | exact bI_t (Or.inl c23) | exact bI_t (Or.inr c36) | (apply bI_f; intro q; exact q.elim (fun z => z c23) c36)) (by first | rfl | exact bI_narrow) (Nat.le_refl 0) (Nat.le_refl 0)
  · refine lv_aload_n hx hb d_RU_beginsSequence_26 rfl (lv_at hl 1 rfl) ?_
    refine g_RU_31 M hI d_RU_beginsSequence_27 ?_
    refine g_RU_47 M hI d_RU_beginsSequence_30 ?_
    refine lv_iload_n hx hb d_RU_beginsSequence_33 rfl (lv_at hl 0 rfl) ?_
    refine al_16 M hI (LFn V (off V x)) rfl (hP0) d_RU_beginsSequence_34 ?_
    refine lv_iconst (v := (-1)) hx hb d_RU_beginsSequence_35 (by decide) ?_
    refine lv_icmp_ne (tgt := 43) hx hb d_RU_beginsSequence_36 (by decide) (fun c36 => ?_) (fun c36 => ?_)
    · refine lv_iconst (v := 0) hx hb d_RU_beginsSequence_43 (by decide) ?_
      exact hret 0 () _ _ _ _ _ _ d_RU_beginsSequence_44 hI (by symm; first | exact bI_t (Or.inl c23) | exact bI_t (Or.inr c36) | (apply bI_f; intro q; exact q.elim (fun z => z c23) c36)) (by first | rfl | exact bI_narrow) (Nat.le_refl 0) (Nat.le_refl 0)
    · refine lv_iconst (v := 1) hx hb d_RU_beginsSequence_39 (by decide) ?_
      refine lv_goto (tgt := 44) hx hb d_RU_beginsSequence_40 (by decide) ?_
      exact hret 1 () _ _ _ _ _ _ d_RU_beginsSequence_44 hI (by symm; first | exact bI_t (Or.inl c23) | exact bI_t (Or.inr c36) | (apply bI_f; intro q; exact q.elim (fun z => z c23) c36)) (by first | rfl | exact bI_narrow) (Nat.le_refl 0) (Nat.le_refl 0)
abbrev rm_RU_runBehind : Room := { frames := 1, cells := 0, slots := 0, locals := 20 }
set_option maxHeartbeats 4000000 in
set_option maxRecDepth 100000 in
theorem c_RU_runBehind (l : Launch) (g : Geo) (ad : Nat → Nat) (ar : Nat → Nat → Int32) (fl : Nat → Int32) (x : Nat) (V : List (List Nat)) (h11 : fl 11 = nI (tot V)) (h12 : fl 12 = nI V.length) (hrr : rrel (ar 32) (ar 33) (ar 34) (ar 35) V) (hv : vlt 2000 V) (ht : tot V ≤ 2000) (hxv : x < V.length) (hgo : goes V (ar 13) (ar 16) x → (ar 16 (lastP V x)).toNatClampNeg ∈ flat V) (hmt : okM (ar 16)) : cMi l y_RU_runBehind (.code y_RU_runBehind b_RU_runBehind 4 (some .int) :: gw) rm_RU_runBehind g [.ref (ad 7), .int (nI x)] (cw g ad ar fl) (fun (r : Int32) (_ : Unit) => r = if goes V (ar 13) (ar 16) x then nI (nextR V (ar 16) x) else -1) (fun (_ : Unit) => cw g ad ar fl) 0 0 := by
  refine cMi_of (by decide) (Nat.le_of_ble_eq_true rfl) ?_
  intro p e s m below meth c A Q ls M hret hl hI
  have M : MC p s m ([.ref (ad 7), .int (nI x)] : List Value).toArray meth c R_RU b_RU_runBehind 4 := M
  have hl : lv_has ls 4 [(0, .ref (ad 7)), (1, .int (nI x))] := hl
  generalize ([.ref (ad 7), .int (nI x)] : List Value).toArray = args at M hret ⊢
  have hx := M.1
  have hb := M.2.1
  have hvl := vlt_len hv
  have hp := runAt_pos hv hxv
  have hof := (runAt_flat (V := V) (r := x) (t := 0) hxv hp).2
  have hlp : lastP V x < 2000 := vlt_flat hv _ (LFn_mem (by omega))
  refine lv_aload_n hx hb d_RU_runBehind_0 rfl (lv_at hl 0 rfl) ?_
  refine g_RU_9 M hI d_RU_runBehind_1 ?_
  refine lv_aload_n hx hb d_RU_runBehind_4 rfl (lv_at hl 0 rfl) ?_
  refine g_RU_22 M hI d_RU_runBehind_5 ?_
  refine lv_iload_n hx hb d_RU_runBehind_8 rfl (lv_at hl 1 rfl) ?_
  refine al_34 M hI x rfl (by omega) d_RU_runBehind_9 ?_
  refine q_as (y := nI (off V x + (runAt V x).length)) ((rrel_at hrr x hxv).2) ?_
  refine lv_iconst (v := 1) hx hb d_RU_runBehind_10 (by decide) ?_
  refine lv_isub hx hb d_RU_runBehind_11 ?_
  refine q_as (y := nI (off V x + (runAt V x).length - 1)) (pk_sub (a := off V x + (runAt V x).length) (b := 1) (by omega)) ?_
  refine al_32 M hI (off V x + (runAt V x).length - 1) rfl (by omega) d_RU_runBehind_12 ?_
  refine q_as (y := nI (lastP V x)) (rrel_flat hrr _ (by omega)) ?_
  refine lv_istore_n (lv' := [(2, .int (nI (lastP V x))), (0, .ref (ad 7)), (1, .int (nI x))]) hx hb d_RU_runBehind_13 rfl hl (by decide) rfl (fun ls hl => ?_)
  refine lv_aload_n hx hb d_RU_runBehind_14 rfl (lv_at hl 1 rfl) ?_
  refine g_RU_31 M hI d_RU_runBehind_15 ?_
  refine g_RU_44 M hI d_RU_runBehind_18 ?_
  refine lv_iload_n hx hb d_RU_runBehind_21 rfl (lv_at hl 0 rfl) ?_
  refine al_13 M hI (lastP V x) rfl (hlp) d_RU_runBehind_22 ?_
  refine q_calliSN [.int (ar 13 (lastP V x))] M hI (c_BL_isIsolate l g (cw g ad ar fl) (ar 13 (lastP V x))) ok_BL_isIsolate (List.mem_of_getElem? (i := 7) rfl) m3_69 rfl rfl hl.1 ⟨rfl, rfl⟩ ⟨Nat.le_of_ble_eq_true rfl, Nat.le_of_ble_eq_true rfl⟩ (Nat.le_of_ble_eq_true rfl) ⟨Nat.le_of_ble_eq_true rfl, Nat.le_of_ble_eq_true rfl⟩ d_RU_runBehind_23 (fun r23 u23 H locs hp23 hI => ?_)
  refine q_as (y := bI (isol (ar 13 (lastP V x)))) hp23 ?_
  refine lv_if_eq (tgt := 46) hx hb d_RU_runBehind_26 (by decide) (fun c26 => ?_) (fun c26 => ?_)
  · have c26 := bI_eq0.mp c26
    refine lv_iconst (v := 0) hx hb d_RU_runBehind_46 (by decide) ?_
    refine lv_istore_n (lv' := [(3, .int 0), (2, .int (nI (lastP V x))), (0, .ref (ad 7)), (1, .int (nI x))]) hx hb d_RU_runBehind_47 rfl hl (by decide) rfl (fun ls hl => ?_)
    refine lv_iload_n hx hb d_RU_runBehind_48 rfl (lv_at hl 0 rfl) ?_
    refine lv_if_eq (tgt := 69) hx hb d_RU_runBehind_49 (by decide) (fun c49 => ?_) (fun c49 => ?_)
    · have c49 : 0 = 0 := (nI_eq (a := 0) (b := 0) (by omega) (by omega)).mp c49
      refine lv_iconst (v := (-1)) hx hb d_RU_runBehind_69 (by decide) ?_
      exact hret (-1) () _ _ _ _ _ _ d_RU_runBehind_70 hI (by symm; first | exact if_pos ⟨c26, c39⟩ | (apply if_neg; intro q; exact c26 q.1) | (apply if_neg; intro q; exact q.2 c39)) (Nat.le_refl 0) (Nat.le_refl 0)
    · have c49 : ¬ 0 = 0 := fun h => c49 ((nI_eq (a := 0) (b := 0) (by omega) (by omega)).mpr h)
      exfalso; omega
  · have c26 := bI_ne0.mp c26
    refine lv_aload_n hx hb d_RU_runBehind_29 rfl (lv_at hl 1 rfl) ?_
    refine g_RU_31 M hI d_RU_runBehind_30 ?_
    refine g_RU_47 M hI d_RU_runBehind_33 ?_
    refine lv_iload_n hx hb d_RU_runBehind_36 rfl (lv_at hl 0 rfl) ?_
    refine al_16 M hI (lastP V x) rfl (hlp) d_RU_runBehind_37 ?_
    refine lv_iconst (v := (-1)) hx hb d_RU_runBehind_38 (by decide) ?_
    refine lv_icmp_eq (tgt := 46) hx hb d_RU_runBehind_39 (by decide) (fun c39 => ?_) (fun c39 => ?_)
    · refine lv_iconst (v := 0) hx hb d_RU_runBehind_46 (by decide) ?_
      refine lv_istore_n (lv' := [(3, .int 0), (2, .int (nI (lastP V x))), (0, .ref (ad 7)), (1, .int (nI x))]) hx hb d_RU_runBehind_47 rfl hl (by decide) rfl (fun ls hl => ?_)
      refine lv_iload_n hx hb d_RU_runBehind_48 rfl (lv_at hl 0 rfl) ?_
      refine lv_if_eq (tgt := 69) hx hb d_RU_runBehind_49 (by decide) (fun c49 => ?_) (fun c49 => ?_)
      · have c49 : 0 = 0 := (nI_eq (a := 0) (b := 0) (by omega) (by omega)).mp c49
        refine lv_iconst (v := (-1)) hx hb d_RU_runBehind_69 (by decide) ?_
        exact hret (-1) () _ _ _ _ _ _ d_RU_runBehind_70 hI (by symm; first | exact if_pos ⟨c26, c39⟩ | (apply if_neg; intro q; exact c26 q.1) | (apply if_neg; intro q; exact q.2 c39)) (Nat.le_refl 0) (Nat.le_refl 0)
      · have c49 : ¬ 0 = 0 := fun h => c49 ((nI_eq (a := 0) (b := 0) (by omega) (by omega)).mpr h)
        exfalso; omega
    · refine lv_iconst (v := 1) hx hb d_RU_runBehind_42 (by decide) ?_
      refine lv_goto (tgt := 47) hx hb d_RU_runBehind_43 (by decide) ?_
      refine lv_istore_n (lv' := [(3, .int 1), (2, .int (nI (lastP V x))), (0, .ref (ad 7)), (1, .int (nI x))]) hx hb d_RU_runBehind_47 rfl hl (by decide) rfl (fun ls hl => ?_)
      refine lv_iload_n hx hb d_RU_runBehind_48 rfl (lv_at hl 0 rfl) ?_
      refine lv_if_eq (tgt := 69) hx hb d_RU_runBehind_49 (by decide) (fun c49 => ?_) (fun c49 => ?_)
      · have c49 : 1 = 0 := (nI_eq (a := 1) (b := 0) (by omega) (by omega)).mp c49
        exfalso; omega
      · have c49 : ¬ 1 = 0 := fun h => c49 ((nI_eq (a := 1) (b := 0) (by omega) (by omega)).mpr h)
        refine lv_aload_n hx hb d_RU_runBehind_52 rfl (lv_at hl 2 rfl) ?_
        refine g_RU_25 M hI d_RU_runBehind_53 ?_
        refine lv_aload_n hx hb d_RU_runBehind_56 rfl (lv_at hl 2 rfl) ?_
        refine g_RU_31 M hI d_RU_runBehind_57 ?_
        refine g_RU_47 M hI d_RU_runBehind_60 ?_
        refine lv_iload_n hx hb d_RU_runBehind_63 rfl (lv_at hl 1 rfl) ?_
        refine al_16 M hI (lastP V x) rfl (hlp) d_RU_runBehind_64 ?_
        refine q_as (y := nI ((ar 16 (lastP V x)).toNatClampNeg)) ((okM_tn hmt hlp c39).1) ?_
        refine al_35 M hI ((ar 16 (lastP V x)).toNatClampNeg) rfl ((okM_tn hmt hlp c39).2) d_RU_runBehind_65 ?_
        refine q_as (y := nI (nextR V (ar 16) x)) (rrel_of hrr _ (hgo ⟨c26, c39⟩)) ?_
        refine lv_goto (tgt := 70) hx hb d_RU_runBehind_66 (by decide) ?_
        exact hret (nI (nextR V (ar 16) x)) () _ _ _ _ _ _ d_RU_runBehind_70 hI (by symm; first | exact if_pos ⟨c26, c39⟩ | (apply if_neg; intro q; exact c26 q.1) | (apply if_neg; intro q; exact q.2 c39)) (Nat.le_refl 0) (Nat.le_refl 0)
abbrev rm_RU_levelBehind : Room := { frames := 1, cells := 0, slots := 0, locals := 20 }
set_option maxHeartbeats 4000000 in
set_option maxRecDepth 100000 in
theorem c_RU_levelBehind (l : Launch) (g : Geo) (ad : Nat → Nat) (ar : Nat → Nat → Int32) (fl : Nat → Int32) (x : Nat) (base : Nat) (V : List (List Nat)) (L : Nat → Nat) (h11 : fl 11 = nI (tot V)) (h12 : fl 12 = nI V.length) (hrr : rrel (ar 32) (ar 33) (ar 34) (ar 35) V) (hv : vlt 2000 V) (ht : tot V ≤ 2000) (hx0 : 0 < x) (hxv : x ≤ tot V) (hL : ∀ q ∈ flat V, ar 15 q = nI (L q) ∧ L q ≤ 125) : cMi l y_RU_levelBehind (.code y_RU_levelBehind b_RU_levelBehind 4 (some .int) :: gw) rm_RU_levelBehind g [.ref (ad 7), .int (nI x), .int (nI base)] (cw g ad ar fl) (fun (r : Int32) (_ : Unit) => r = nI (lvB V (ar 13) L x base)) (fun (_ : Unit) => cw g ad ar fl) 0 0 := by
  refine cMi_of (by decide) (Nat.le_of_ble_eq_true rfl) ?_
  intro p e s m below meth c A Q ls M hret hl hI
  have M : MC p s m ([.ref (ad 7), .int (nI x), .int (nI base)] : List Value).toArray meth c R_RU b_RU_levelBehind 4 := M
  have hl : lv_has ls 4 [(0, .ref (ad 7)), (1, .int (nI x)), (2, .int (nI base))] := hl
  generalize ([.ref (ad 7), .int (nI x), .int (nI base)] : List Value).toArray = args at M hret ⊢
  have hx := M.1
  have hb := M.2.1
  have hvl := vlt_len hv
  have hlp : LFn V (x - 1) < 2000 := vlt_flat hv _ (LFn_mem (by omega))
  refine lv_aload_n hx hb d_RU_levelBehind_0 rfl (lv_at hl 0 rfl) ?_
  refine g_RU_31 M hI d_RU_levelBehind_1 ?_
  refine g_RU_44 M hI d_RU_levelBehind_4 ?_
  refine lv_aload_n hx hb d_RU_levelBehind_7 rfl (lv_at hl 0 rfl) ?_
  refine g_RU_9 M hI d_RU_levelBehind_8 ?_
  refine lv_iload_n hx hb d_RU_levelBehind_11 rfl (lv_at hl 1 rfl) ?_
  refine lv_iconst (v := 1) hx hb d_RU_levelBehind_12 (by decide) ?_
  refine lv_isub hx hb d_RU_levelBehind_13 ?_
  refine q_as (y := nI (x - 1)) (pk_sub (a := x) (b := 1) (by omega)) ?_
  refine al_32 M hI (x - 1) rfl (by omega) d_RU_levelBehind_14 ?_
  refine q_as (y := nI (LFn V (x - 1))) (rrel_flat hrr _ (by omega)) ?_
  refine al_13 M hI (LFn V (x - 1)) rfl (hlp) d_RU_levelBehind_15 ?_
  refine q_calliSN [.int (ar 13 (LFn V (x - 1)))] M hI (c_BL_isIsolate l g (cw g ad ar fl) (ar 13 (LFn V (x - 1)))) ok_BL_isIsolate (List.mem_of_getElem? (i := 7) rfl) m3_69 rfl rfl hl.1 ⟨rfl, rfl⟩ ⟨Nat.le_of_ble_eq_true rfl, Nat.le_of_ble_eq_true rfl⟩ (Nat.le_of_ble_eq_true rfl) ⟨Nat.le_of_ble_eq_true rfl, Nat.le_of_ble_eq_true rfl⟩ d_RU_levelBehind_16 (fun r16 u16 H locs hp16 hI => ?_)
  refine q_as (y := bI (isol (ar 13 (LFn V (x - 1))))) hp16 ?_
  refine lv_istore_n (lv' := [(3, .int (bI (isol (ar 13 (LFn V (x - 1)))))), (0, .ref (ad 7)), (1, .int (nI x)), (2, .int (nI base))]) hx hb d_RU_levelBehind_19 rfl hl (by decide) rfl (fun ls hl => ?_)
  refine lv_iload_n hx hb d_RU_levelBehind_20 rfl (lv_at hl 2 rfl) ?_
  refine lv_aload_n hx hb d_RU_levelBehind_21 rfl (lv_at hl 1 rfl) ?_
  refine g_RU_15 M hI d_RU_levelBehind_22 ?_
  refine q_as (y := nI (tot V)) h11 ?_
  refine lv_icmp_ge (tgt := 49) hx hb d_RU_levelBehind_25 (by decide) (fun c25 => ?_) (fun c25 => ?_)
  · have c25 : tot V ≤ x := (nI_leI (a := tot V) (b := x) (by omega) (by omega)).mp c25
    refine lv_iload_n hx hb d_RU_levelBehind_49 rfl (lv_at hl 3 rfl) ?_
    exact hret (nI base) () _ _ _ _ _ _ d_RU_levelBehind_50 hI (by unfold lvB; first | (rw [if_pos]; exact ⟨by omega, c29⟩) | (rw [if_neg]; intro q; exact q.2 c29) | (rw [if_neg]; intro q; have := q.1; omega)) (Nat.le_refl 0) (Nat.le_refl 0)
  · have c25 : ¬ tot V ≤ x := fun h => c25 ((nI_leI (a := tot V) (b := x) (by omega) (by omega)).mpr h)
    refine lv_iload_n hx hb d_RU_levelBehind_28 rfl (lv_at hl 0 rfl) ?_
    refine lv_if_ne (tgt := 49) hx hb d_RU_levelBehind_29 (by decide) (fun c29 => ?_) (fun c29 => ?_)
    · have c29 := bI_ne0.mp c29
      refine lv_iload_n hx hb d_RU_levelBehind_49 rfl (lv_at hl 3 rfl) ?_
      exact hret (nI base) () _ _ _ _ _ _ d_RU_levelBehind_50 hI (by unfold lvB; first | (rw [if_pos]; exact ⟨by omega, c29⟩) | (rw [if_neg]; intro q; exact q.2 c29) | (rw [if_neg]; intro q; have := q.1; omega)) (Nat.le_refl 0) (Nat.le_refl 0)
    · have c29 := bI_eq0.mp c29
      refine lv_aload_n hx hb d_RU_levelBehind_32 rfl (lv_at hl 1 rfl) ?_
      refine g_RU_31 M hI d_RU_levelBehind_33 ?_
      refine g_RU_35 M hI d_RU_levelBehind_36 ?_
      refine lv_aload_n hx hb d_RU_levelBehind_39 rfl (lv_at hl 1 rfl) ?_
      refine g_RU_9 M hI d_RU_levelBehind_40 ?_
      refine lv_iload_n hx hb d_RU_levelBehind_43 rfl (lv_at hl 2 rfl) ?_
      refine al_32 M hI x rfl (by omega) d_RU_levelBehind_44 ?_
      refine q_as (y := nI (LFn V x)) (rrel_flat hrr _ (by omega)) ?_
      refine al_15 M hI (LFn V x) rfl (vlt_flat hv _ (LFn_mem (by omega))) d_RU_levelBehind_45 ?_
      refine q_as (y := nI (L (LFn V x))) ((hL _ (LFn_mem (by omega))).1) ?_
      refine lv_goto (tgt := 50) hx hb d_RU_levelBehind_46 (by decide) ?_
      exact hret (nI (L (LFn V x))) () _ _ _ _ _ _ d_RU_levelBehind_50 hI (by unfold lvB; first | (rw [if_pos]; exact ⟨by omega, c29⟩) | (rw [if_neg]; intro q; exact q.2 c29) | (rw [if_neg]; intro q; have := q.1; omega)) (Nat.le_refl 0) (Nat.le_refl 0)
def GST (V : List (List Nat)) (fst mt : Nat → Int32) (x t : Nat) (rr : Int32) (en : Nat) (acc : List Nat) : Prop := (∃ r1, rr = nI r1 ∧ r1 < V.length ∧ t ≤ r1 ∧ acc ++ SQ V fst mt r1 = SQ V fst mt x ∧ LR V fst mt r1 = LR V fst mt x ∧ acc.length ≤ off V r1) ∨ (rr = -1 ∧ acc = SQ V fst mt x ∧ en = off V (LR V fst mt x) + (runAt V (LR V fst mt x)).length ∧ LR V fst mt x < V.length)
abbrev rm_RU_gather : Room := { frames := 2, cells := 0, slots := 0, locals := 43 }
set_option maxHeartbeats 4000000 in
set_option maxRecDepth 100000 in
theorem c_RU_gather (l : Launch) (g : Geo) (ad : Nat → Nat) (ar : Nat → Nat → Int32) (fl : Nat → Int32) (x : Nat) (base : Nat) (V : List (List Nat)) (L : Nat → Nat) (h11 : fl 11 = nI (tot V)) (h12 : fl 12 = nI V.length) (hrr : rrel (ar 32) (ar 33) (ar 34) (ar 35) V) (hv : vlt 2000 V) (ht : tot V ≤ 2000) (hxv : x < V.length) (hi : incR V (ar 13) (ar 16)) (hgo : ∀ r, r < V.length → goes V (ar 13) (ar 16) r → (ar 16 (lastP V r)).toNatClampNeg ∈ flat V) (hmt : okM (ar 16)) (hL : ∀ q ∈ flat V, ar 15 q = nI (L q) ∧ L q ≤ 125) (hbs : base ≤ 1) : cMv l y_RU_gather (.code y_RU_gather b_RU_gather 10 none :: gw) rm_RU_gather g [.ref (ad 7), .int (nI x), .int (nI base), .ref (ad 8)] (cw g ad ar fl) (fun (u : (Nat → Int32) × (Nat → Int32)) => sR u.1 u.2 (ar 14) (SQ V (ar 13) (ar 16) x)) (fun (u : (Nat → Int32) × (Nat → Int32)) => cw g ad (va_up (va_up ar 36 u.1) 37 u.2) (va_up (va_up (va_up (va_up fl 13 (nI (SQ V (ar 13) (ar 16) x).length)) 14 (nI (L (LFn V (off V x)) % 2))) 15 (nI (max (L (LFn V (off V x))) (lvA V L (off V x) base) % 2))) 16 (nI (max (L (LFn V (off V x))) (lvB V (ar 13) L (off V (LR V (ar 13) (ar 16) x) + (runAt V (LR V (ar 13) (ar 16) x)).length) base) % 2)))) 0 0 := by
  refine cMv_of (by decide) (Nat.le_of_ble_eq_true rfl) ?_
  intro p e s m below meth c A Q ls M hnm hret hl hI
  have M : MC p s m ([.ref (ad 7), .int (nI x), .int (nI base), .ref (ad 8)] : List Value).toArray meth c R_RU b_RU_gather 10 := M
  have hl : lv_has ls 10 [(0, .ref (ad 7)), (1, .int (nI x)), (2, .int (nI base)), (3, .ref (ad 8))] := hl
  generalize ([.ref (ad 7), .int (nI x), .int (nI base), .ref (ad 8)] : List Value).toArray = args at M hret ⊢
  have hx := M.1
  have hb := M.2.1
  have hvl := vlt_len hv
  have hp := runAt_pos hv hxv
  have hof := (runAt_flat (V := V) (r := x) (t := 0) hxv hp).2
  have hP0 : LFn V (off V x) < 2000 := vlt_flat hv _ (LFn_mem (by omega))
  have hL0 := hL _ (LFn_mem (V := V) (j := off V x) (by omega))
  refine lv_aload_n hx hb d_RU_gather_0 rfl (lv_at hl 0 rfl) ?_
  refine g_RU_19 M hI d_RU_gather_1 ?_
  refine lv_iload_n hx hb d_RU_gather_4 rfl (lv_at hl 1 rfl) ?_
  refine al_33 M hI x rfl (by omega) d_RU_gather_5 ?_
  refine q_as (y := nI (off V x)) ((rrel_at hrr x hxv).1) ?_
  refine lv_istore (lv' := [(4, .int (nI (off V x))), (0, .ref (ad 7)), (1, .int (nI x)), (2, .int (nI base)), (3, .ref (ad 8))]) hx hb d_RU_gather_6 hl (by decide) rfl (fun ls hl => ?_)
  refine lv_aload_n hx hb d_RU_gather_8 rfl (lv_at hl 1 rfl) ?_
  refine g_RU_31 M hI d_RU_gather_9 ?_
  refine g_RU_35 M hI d_RU_gather_12 ?_
  refine lv_aload_n hx hb d_RU_gather_15 rfl (lv_at hl 1 rfl) ?_
  refine g_RU_9 M hI d_RU_gather_16 ?_
  refine lv_iload hx hb d_RU_gather_19 (lv_at hl 0 rfl) ?_
  refine al_32 M hI (off V x) rfl (by omega) d_RU_gather_21 ?_
  refine q_as (y := nI (LFn V (off V x))) (rrel_flat hrr _ (by omega)) ?_
  refine al_15 M hI (LFn V (off V x)) rfl (hP0) d_RU_gather_22 ?_
  refine q_as (y := nI (L (LFn V (off V x)))) (hL0.1) ?_
  refine lv_istore (lv' := [(5, .int (nI (L (LFn V (off V x))))), (4, .int (nI (off V x))), (0, .ref (ad 7)), (1, .int (nI x)), (2, .int (nI base)), (3, .ref (ad 8))]) hx hb d_RU_gather_23 hl (by decide) rfl (fun ls hl => ?_)
  refine lv_aload_n hx hb d_RU_gather_25 rfl (lv_at hl 5 rfl) ?_
  refine lv_iload hx hb d_RU_gather_26 (lv_at hl 0 rfl) ?_
  refine q_callvV [.int (nI (L (LFn V (off V x))))] M hI (c_SQ_startAt l g ad ar fl (L (LFn V (off V x))) (by have := hL0.2; omega)) ok_SQ_startAt m3_155 m3_156 m3_157 8 rfl rfl rfl rfl hl.1 ⟨rfl, rfl⟩ ⟨Nat.le_of_ble_eq_true rfl, Nat.le_of_ble_eq_true rfl⟩ (Nat.le_of_ble_eq_true rfl) ⟨Nat.le_of_ble_eq_true rfl, Nat.le_of_ble_eq_true rfl⟩ d_RU_gather_28 (fun u28 H locs hp28 hI => ?_)
  have hI : CI g A s (cw g ad ar (va_up (va_up fl 13 (nI 0)) 14 (nI ((L (LFn V (off V x))) % 2)))) H locs := hI
  refine lv_iload_n hx hb d_RU_gather_31 rfl (lv_at hl 3 rfl) ?_
  refine lv_istore (lv' := [(6, .int (nI x)), (5, .int (nI (L (LFn V (off V x))))), (4, .int (nI (off V x))), (0, .ref (ad 7)), (1, .int (nI x)), (2, .int (nI base)), (3, .ref (ad 8))]) hx hb d_RU_gather_32 hl (by decide) rfl (fun ls hl => ?_)
  refine lv_iload hx hb d_RU_gather_34 (lv_at hl 2 rfl) ?_
  refine lv_istore (lv' := [(7, .int (nI (off V x))), (6, .int (nI x)), (5, .int (nI (L (LFn V (off V x))))), (4, .int (nI (off V x))), (0, .ref (ad 7)), (1, .int (nI x)), (2, .int (nI base)), (3, .ref (ad 8))]) hx hb d_RU_gather_36 hl (by decide) rfl (fun ls hl => ?_)
  refine lv_iconst (v := 0) hx hb d_RU_gather_38 (by decide) ?_
  refine lv_istore (lv' := [(8, .int 0), (7, .int (nI (off V x))), (6, .int (nI x)), (5, .int (nI (L (LFn V (off V x))))), (4, .int (nI (off V x))), (0, .ref (ad 7)), (1, .int (nI x)), (2, .int (nI base)), (3, .ref (ad 8))]) hx hb d_RU_gather_39 hl (by decide) rfl (fun ls hl => ?_)
  have L41 : ∀ (fu : Nat) (t : Nat) (rr : Int32) (en : Nat) (acc : List Nat) (y6 : Nat → Int32) (y7 : Nat → Int32), (V.length + 1 - t) < fu → (t ≤ V.length) → (sR y6 y7 (ar 14) acc) → (GST V (ar 13) (ar 16) x t rr en acc) → ∀ (H : Heap) (locs : List Loc) (ls : Array Slot), CI g A s (cw g ad (va_up (va_up ar 36 y6) 37 y7) (va_up (va_up fl 13 (nI acc.length)) 14 (nI (L (LFn V (off V x)) % 2)))) H locs → lv_has ls 10 [(0, .ref (ad 7)), (2, .int (nI base)), (3, .ref (ad 8)), (4, .int (nI (off V x))), (5, .int (nI (L (LFn V (off V x))))), (6, .int rr), (7, .int (nI en)), (8, .int (nI t))] → W p l e rm_RU_gather s m args below meth c H locs 0 0 Q (F0 m 41 ls []) := by
    intro fu
    induction fu with
    | zero => intro t rr en acc y6 y7 hm; exact absurd hm (Nat.not_lt_zero _)
    | succ fu ih41 =>
      intro t rr en acc y6 y7 hm ht2 hs hst H locs ls hI hl
      refine lv_iload hx hb d_RU_gather_41 (lv_at hl 7 rfl) ?_
      refine lv_aload_n hx hb d_RU_gather_43 rfl (lv_at hl 0 rfl) ?_
      refine g_RU_28 M hI d_RU_gather_44 ?_
      refine q_as (y := nI V.length) h12 ?_
      refine lv_icmp_ge (tgt := 112) hx hb d_RU_gather_47 (by decide) (fun c47 => ?_) (fun c47 => ?_)
      · have c47 : V.length ≤ t := (nI_leI (a := V.length) (b := t) (by omega) (by omega)).mp c47
        have hst9 := hst
        unfold GST at hst9
        obtain ⟨hr9, hacc, hen, hlr⟩ := hst9.resolve_left (fun ⟨r1, _, q2, q3, _⟩ => by omega)
        clear hst9
        have hrp := runAt_pos hv hlr
        have hen2 := (runAt_flat (V := V) (r := LR V (ar 13) (ar 16) x) (t := 0) hlr hrp).2
        refine lv_iload hx hb d_RU_gather_112 (lv_at hl 3 rfl) ?_
        refine lv_if_le (tgt := 137) hx hb d_RU_gather_114 (by decide) (fun c114 => ?_) (fun c114 => ?_)
        · have c114 : off V x ≤ 0 := (nI_leI (a := off V x) (b := 0) (by omega) (by omega)).mp c114
          refine lv_iload_n hx hb d_RU_gather_137 rfl (lv_at hl 1 rfl) ?_
          refine q_as (y := nI (lvA V L (off V x) base)) (by unfold lvA; rw [if_neg (by omega)]) ?_
          refine lv_istore (lv' := [(8, .int (nI (lvA V L (off V x) base))), (0, .ref (ad 7)), (2, .int (nI base)), (3, .ref (ad 8)), (4, .int (nI (off V x))), (5, .int (nI (L (LFn V (off V x))))), (6, .int rr), (7, .int (nI en))]) hx hb d_RU_gather_138 hl (by decide) rfl (fun ls hl => ?_)
          refine lv_aload_n hx hb d_RU_gather_140 rfl (lv_at hl 3 rfl) ?_
          refine lv_iload hx hb d_RU_gather_141 (lv_at hl 5 rfl) ?_
          refine lv_iload hx hb d_RU_gather_143 (lv_at hl 0 rfl) ?_
          have hla : lvA V L (off V x) base ≤ 125 := by unfold lvA; split; exact (hL _ (LFn_mem (by omega))).2; omega
          have hl0 := hL0.2
          refine va_mmax hx hb (by rw [hl.1]; exact M.2.2.1) M.2.2.2.1 (M.2.2.2.2.1 _ m3_169) (M.2.2.2.2.1 _ m3_76) (M.2.2.2.2.1 _ m1_18) (M.2.2.2.2.1 _ m3_77) (Nat.le_of_ble_eq_true rfl) (Nat.le_of_ble_eq_true rfl) (Nat.le_of_ble_eq_true rfl) (Nat.le_of_ble_eq_true rfl) d_RU_gather_145 ?_
          refine q_as (y := nI (max (L (LFn V (off V x))) (lvA V L (off V x) base))) (nI_max (by omega) (by omega)) ?_
          refine q_calliSN [.int (nI (max (L (LFn V (off V x))) (lvA V L (off V x) base)))] M hI (c_BL_directionOf l g (cw g ad (va_up (va_up ar 36 y6) 37 y7) (va_up (va_up fl 13 (nI acc.length)) 14 (nI (L (LFn V (off V x)) % 2)))) (max (L (LFn V (off V x))) (lvA V L (off V x) base)) (by omega)) ok_BL_directionOf (List.mem_of_getElem? (i := 8) rfl) m3_98 rfl rfl hl.1 ⟨rfl, rfl⟩ ⟨Nat.le_of_ble_eq_true rfl, Nat.le_of_ble_eq_true rfl⟩ (Nat.le_of_ble_eq_true rfl) ⟨Nat.le_of_ble_eq_true rfl, Nat.le_of_ble_eq_true rfl⟩ d_RU_gather_148 (fun r148 u148 H locs hp148 hI => ?_)
          refine q_as (y := nI ((max (L (LFn V (off V x))) (lvA V L (off V x) base)) % 2)) hp148 ?_
          refine p_RU_71 M hI d_RU_gather_151 (fun H locs hI => ?_)
          have hI : CI g A s (cw g ad (va_up (va_up ar 36 y6) 37 y7) (va_up (va_up (va_up fl 13 (nI acc.length)) 14 (nI (L (LFn V (off V x)) % 2))) 15 (nI ((max (L (LFn V (off V x))) (lvA V L (off V x) base)) % 2)))) H locs := hI
          refine lv_aload_n hx hb d_RU_gather_154 rfl (lv_at hl 3 rfl) ?_
          refine lv_iload hx hb d_RU_gather_155 (lv_at hl 5 rfl) ?_
          refine lv_aload_n hx hb d_RU_gather_157 rfl (lv_at hl 1 rfl) ?_
          refine lv_iload hx hb d_RU_gather_158 (lv_at hl 7 rfl) ?_
          refine lv_iload_n hx hb d_RU_gather_160 rfl (lv_at hl 2 rfl) ?_
          refine q_calliV [.int (nI en), .int (nI base)] M hI (c_RU_levelBehind l g ad (va_up (va_up ar 36 y6) 37 y7) (va_up (va_up (va_up fl 13 (nI acc.length)) 14 (nI (L (LFn V (off V x)) % 2))) 15 (nI ((max (L (LFn V (off V x))) (lvA V L (off V x) base)) % 2))) en base V L (by first | exact h11 | assumption | omega | rfl) (by first | exact h12 | assumption | omega | rfl) (by first | exact hrr | assumption | omega | rfl) (by first | exact hv | assumption | omega | rfl) (by first | exact ht | assumption | omega | rfl) (by omega) (by omega) (by first | exact hL | assumption | omega | rfl)) ok_RU_levelBehind m3_171 m3_173 ms_18 7 rfl rfl rfl rfl hl.1 ⟨rfl, rfl⟩ ⟨Nat.le_of_ble_eq_true rfl, Nat.le_of_ble_eq_true rfl⟩ (Nat.le_of_ble_eq_true rfl) ⟨Nat.le_of_ble_eq_true rfl, Nat.le_of_ble_eq_true rfl⟩ d_RU_gather_161 (fun r161 u161 H locs hp161 hI => ?_)
          refine q_as (y := nI (lvB V (ar 13) L en base)) hp161 ?_
          have hlb : lvB V (ar 13) L en base ≤ 125 := by unfold lvB; split; (rename_i q; exact (hL _ (LFn_mem q.1)).2); omega
          refine va_mmax hx hb (by rw [hl.1]; exact M.2.2.1) M.2.2.2.1 (M.2.2.2.2.1 _ m3_169) (M.2.2.2.2.1 _ m3_76) (M.2.2.2.2.1 _ m1_18) (M.2.2.2.2.1 _ m3_77) (Nat.le_of_ble_eq_true rfl) (Nat.le_of_ble_eq_true rfl) (Nat.le_of_ble_eq_true rfl) (Nat.le_of_ble_eq_true rfl) d_RU_gather_164 ?_
          refine q_as (y := nI (max (L (LFn V (off V x))) (lvB V (ar 13) L en base))) (nI_max (by omega) (by omega)) ?_
          refine q_calliSN [.int (nI (max (L (LFn V (off V x))) (lvB V (ar 13) L en base)))] M hI (c_BL_directionOf l g (cw g ad (va_up (va_up ar 36 y6) 37 y7) (va_up (va_up (va_up fl 13 (nI acc.length)) 14 (nI (L (LFn V (off V x)) % 2))) 15 (nI ((max (L (LFn V (off V x))) (lvA V L (off V x) base)) % 2)))) (max (L (LFn V (off V x))) (lvB V (ar 13) L en base)) (by omega)) ok_BL_directionOf (List.mem_of_getElem? (i := 8) rfl) m3_98 rfl rfl hl.1 ⟨rfl, rfl⟩ ⟨Nat.le_of_ble_eq_true rfl, Nat.le_of_ble_eq_true rfl⟩ (Nat.le_of_ble_eq_true rfl) ⟨Nat.le_of_ble_eq_true rfl, Nat.le_of_ble_eq_true rfl⟩ d_RU_gather_167 (fun r167 u167 H locs hp167 hI => ?_)
          refine q_as (y := nI ((max (L (LFn V (off V x))) (lvB V (ar 13) L en base)) % 2)) hp167 ?_
          refine p_RU_77 M hI d_RU_gather_170 (fun H locs hI => ?_)
          have hI : CI g A s (cw g ad (va_up (va_up ar 36 y6) 37 y7) (va_up (va_up (va_up (va_up fl 13 (nI acc.length)) 14 (nI (L (LFn V (off V x)) % 2))) 15 (nI ((max (L (LFn V (off V x))) (lvA V L (off V x) base)) % 2))) 16 (nI ((max (L (LFn V (off V x))) (lvB V (ar 13) L en base)) % 2)))) H locs := hI
          have hI := CI.to (w2 := cw g ad (va_up (va_up ar 36 y6) 37 y7) (va_up (va_up (va_up (va_up fl 13 (nI (SQ V (ar 13) (ar 16) x).length)) 14 (nI (L (LFn V (off V x)) % 2))) 15 (nI (max (L (LFn V (off V x))) (lvA V L (off V x) base) % 2))) 16 (nI (max (L (LFn V (off V x))) (lvB V (ar 13) L (off V (LR V (ar 13) (ar 16) x) + (runAt V (LR V (ar 13) (ar 16) x)).length) base) % 2)))) hI (by rw [← hacc, ← hen] <;> rfl)
          exact hret (y6, y7) _ _ _ _ _ _ d_RU_gather_173 hI (by rw [← hacc]; exact hs) (Nat.le_refl 0) (Nat.le_refl 0)
        · have c114 : ¬ off V x ≤ 0 := fun h => c114 ((nI_leI (a := off V x) (b := 0) (by omega) (by omega)).mpr h)
          refine lv_aload_n hx hb d_RU_gather_117 rfl (lv_at hl 0 rfl) ?_
          refine g_RU_31 M hI d_RU_gather_118 ?_
          refine g_RU_35 M hI d_RU_gather_121 ?_
          refine lv_aload_n hx hb d_RU_gather_124 rfl (lv_at hl 0 rfl) ?_
          refine g_RU_9 M hI d_RU_gather_125 ?_
          refine lv_iload hx hb d_RU_gather_128 (lv_at hl 3 rfl) ?_
          refine lv_iconst (v := 1) hx hb d_RU_gather_130 (by decide) ?_
          refine lv_isub hx hb d_RU_gather_131 ?_
          refine q_as (y := nI (off V x - 1)) (pk_sub (a := off V x) (b := 1) (by omega)) ?_
          refine al_32 M hI (off V x - 1) rfl (by omega) d_RU_gather_132 ?_
          refine q_as (y := nI (LFn V (off V x - 1))) (rrel_flat hrr _ (by omega)) ?_
          refine al_15 M hI (LFn V (off V x - 1)) rfl (vlt_flat hv _ (LFn_mem (by omega))) d_RU_gather_133 ?_
          refine q_as (y := nI (lvA V L (off V x) base)) (by unfold lvA; rw [if_pos (by omega)]; exact (hL _ (LFn_mem (by omega))).1) ?_
          refine lv_goto (tgt := 138) hx hb d_RU_gather_134 (by decide) ?_
          refine lv_istore (lv' := [(8, .int (nI (lvA V L (off V x) base))), (0, .ref (ad 7)), (2, .int (nI base)), (3, .ref (ad 8)), (4, .int (nI (off V x))), (5, .int (nI (L (LFn V (off V x))))), (6, .int rr), (7, .int (nI en))]) hx hb d_RU_gather_138 hl (by decide) rfl (fun ls hl => ?_)
          refine lv_aload_n hx hb d_RU_gather_140 rfl (lv_at hl 3 rfl) ?_
          refine lv_iload hx hb d_RU_gather_141 (lv_at hl 5 rfl) ?_
          refine lv_iload hx hb d_RU_gather_143 (lv_at hl 0 rfl) ?_
          have hla : lvA V L (off V x) base ≤ 125 := by unfold lvA; split; exact (hL _ (LFn_mem (by omega))).2; omega
          have hl0 := hL0.2
          refine va_mmax hx hb (by rw [hl.1]; exact M.2.2.1) M.2.2.2.1 (M.2.2.2.2.1 _ m3_169) (M.2.2.2.2.1 _ m3_76) (M.2.2.2.2.1 _ m1_18) (M.2.2.2.2.1 _ m3_77) (Nat.le_of_ble_eq_true rfl) (Nat.le_of_ble_eq_true rfl) (Nat.le_of_ble_eq_true rfl) (Nat.le_of_ble_eq_true rfl) d_RU_gather_145 ?_
          refine q_as (y := nI (max (L (LFn V (off V x))) (lvA V L (off V x) base))) (nI_max (by omega) (by omega)) ?_
          refine q_calliSN [.int (nI (max (L (LFn V (off V x))) (lvA V L (off V x) base)))] M hI (c_BL_directionOf l g (cw g ad (va_up (va_up ar 36 y6) 37 y7) (va_up (va_up fl 13 (nI acc.length)) 14 (nI (L (LFn V (off V x)) % 2)))) (max (L (LFn V (off V x))) (lvA V L (off V x) base)) (by omega)) ok_BL_directionOf (List.mem_of_getElem? (i := 8) rfl) m3_98 rfl rfl hl.1 ⟨rfl, rfl⟩ ⟨Nat.le_of_ble_eq_true rfl, Nat.le_of_ble_eq_true rfl⟩ (Nat.le_of_ble_eq_true rfl) ⟨Nat.le_of_ble_eq_true rfl, Nat.le_of_ble_eq_true rfl⟩ d_RU_gather_148 (fun r148 u148 H locs hp148 hI => ?_)
          refine q_as (y := nI ((max (L (LFn V (off V x))) (lvA V L (off V x) base)) % 2)) hp148 ?_
          refine p_RU_71 M hI d_RU_gather_151 (fun H locs hI => ?_)
          have hI : CI g A s (cw g ad (va_up (va_up ar 36 y6) 37 y7) (va_up (va_up (va_up fl 13 (nI acc.length)) 14 (nI (L (LFn V (off V x)) % 2))) 15 (nI ((max (L (LFn V (off V x))) (lvA V L (off V x) base)) % 2)))) H locs := hI
          refine lv_aload_n hx hb d_RU_gather_154 rfl (lv_at hl 3 rfl) ?_
          refine lv_iload hx hb d_RU_gather_155 (lv_at hl 5 rfl) ?_
          refine lv_aload_n hx hb d_RU_gather_157 rfl (lv_at hl 1 rfl) ?_
          refine lv_iload hx hb d_RU_gather_158 (lv_at hl 7 rfl) ?_
          refine lv_iload_n hx hb d_RU_gather_160 rfl (lv_at hl 2 rfl) ?_
          refine q_calliV [.int (nI en), .int (nI base)] M hI (c_RU_levelBehind l g ad (va_up (va_up ar 36 y6) 37 y7) (va_up (va_up (va_up fl 13 (nI acc.length)) 14 (nI (L (LFn V (off V x)) % 2))) 15 (nI ((max (L (LFn V (off V x))) (lvA V L (off V x) base)) % 2))) en base V L (by first | exact h11 | assumption | omega | rfl) (by first | exact h12 | assumption | omega | rfl) (by first | exact hrr | assumption | omega | rfl) (by first | exact hv | assumption | omega | rfl) (by first | exact ht | assumption | omega | rfl) (by omega) (by omega) (by first | exact hL | assumption | omega | rfl)) ok_RU_levelBehind m3_171 m3_173 ms_18 7 rfl rfl rfl rfl hl.1 ⟨rfl, rfl⟩ ⟨Nat.le_of_ble_eq_true rfl, Nat.le_of_ble_eq_true rfl⟩ (Nat.le_of_ble_eq_true rfl) ⟨Nat.le_of_ble_eq_true rfl, Nat.le_of_ble_eq_true rfl⟩ d_RU_gather_161 (fun r161 u161 H locs hp161 hI => ?_)
          refine q_as (y := nI (lvB V (ar 13) L en base)) hp161 ?_
          have hlb : lvB V (ar 13) L en base ≤ 125 := by unfold lvB; split; (rename_i q; exact (hL _ (LFn_mem q.1)).2); omega
          refine va_mmax hx hb (by rw [hl.1]; exact M.2.2.1) M.2.2.2.1 (M.2.2.2.2.1 _ m3_169) (M.2.2.2.2.1 _ m3_76) (M.2.2.2.2.1 _ m1_18) (M.2.2.2.2.1 _ m3_77) (Nat.le_of_ble_eq_true rfl) (Nat.le_of_ble_eq_true rfl) (Nat.le_of_ble_eq_true rfl) (Nat.le_of_ble_eq_true rfl) d_RU_gather_164 ?_
          refine q_as (y := nI (max (L (LFn V (off V x))) (lvB V (ar 13) L en base))) (nI_max (by omega) (by omega)) ?_
          refine q_calliSN [.int (nI (max (L (LFn V (off V x))) (lvB V (ar 13) L en base)))] M hI (c_BL_directionOf l g (cw g ad (va_up (va_up ar 36 y6) 37 y7) (va_up (va_up (va_up fl 13 (nI acc.length)) 14 (nI (L (LFn V (off V x)) % 2))) 15 (nI ((max (L (LFn V (off V x))) (lvA V L (off V x) base)) % 2)))) (max (L (LFn V (off V x))) (lvB V (ar 13) L en base)) (by omega)) ok_BL_directionOf (List.mem_of_getElem? (i := 8) rfl) m3_98 rfl rfl hl.1 ⟨rfl, rfl⟩ ⟨Nat.le_of_ble_eq_true rfl, Nat.le_of_ble_eq_true rfl⟩ (Nat.le_of_ble_eq_true rfl) ⟨Nat.le_of_ble_eq_true rfl, Nat.le_of_ble_eq_true rfl⟩ d_RU_gather_167 (fun r167 u167 H locs hp167 hI => ?_)
          refine q_as (y := nI ((max (L (LFn V (off V x))) (lvB V (ar 13) L en base)) % 2)) hp167 ?_
          refine p_RU_77 M hI d_RU_gather_170 (fun H locs hI => ?_)
          have hI : CI g A s (cw g ad (va_up (va_up ar 36 y6) 37 y7) (va_up (va_up (va_up (va_up fl 13 (nI acc.length)) 14 (nI (L (LFn V (off V x)) % 2))) 15 (nI ((max (L (LFn V (off V x))) (lvA V L (off V x) base)) % 2))) 16 (nI ((max (L (LFn V (off V x))) (lvB V (ar 13) L en base)) % 2)))) H locs := hI
          have hI := CI.to (w2 := cw g ad (va_up (va_up ar 36 y6) 37 y7) (va_up (va_up (va_up (va_up fl 13 (nI (SQ V (ar 13) (ar 16) x).length)) 14 (nI (L (LFn V (off V x)) % 2))) 15 (nI (max (L (LFn V (off V x))) (lvA V L (off V x) base) % 2))) 16 (nI (max (L (LFn V (off V x))) (lvB V (ar 13) L (off V (LR V (ar 13) (ar 16) x) + (runAt V (LR V (ar 13) (ar 16) x)).length) base) % 2)))) hI (by rw [← hacc, ← hen] <;> rfl)
          exact hret (y6, y7) _ _ _ _ _ _ d_RU_gather_173 hI (by rw [← hacc]; exact hs) (Nat.le_refl 0) (Nat.le_refl 0)
      · have c47 : ¬ V.length ≤ t := fun h => c47 ((nI_leI (a := V.length) (b := t) (by omega) (by omega)).mpr h)
        refine lv_iload hx hb d_RU_gather_50 (lv_at hl 5 rfl) ?_
        refine lv_iconst (v := (-1)) hx hb d_RU_gather_52 (by decide) ?_
        refine lv_icmp_eq (tgt := 112) hx hb d_RU_gather_53 (by decide) (fun c53 => ?_) (fun c53 => ?_)
        · have hst9 := hst
          unfold GST at hst9
          obtain ⟨hr9, hacc, hen, hlr⟩ := hst9.resolve_left (fun ⟨r1, q1, q2, _⟩ => by rw [q1] at c53; exact absurd c53 (m1_ne (by omega)))
          clear hst9
          have hrp := runAt_pos hv hlr
          have hen2 := (runAt_flat (V := V) (r := LR V (ar 13) (ar 16) x) (t := 0) hlr hrp).2
          refine lv_iload hx hb d_RU_gather_112 (lv_at hl 3 rfl) ?_
          refine lv_if_le (tgt := 137) hx hb d_RU_gather_114 (by decide) (fun c114 => ?_) (fun c114 => ?_)
          · have c114 : off V x ≤ 0 := (nI_leI (a := off V x) (b := 0) (by omega) (by omega)).mp c114
            refine lv_iload_n hx hb d_RU_gather_137 rfl (lv_at hl 1 rfl) ?_
            refine q_as (y := nI (lvA V L (off V x) base)) (by unfold lvA; rw [if_neg (by omega)]) ?_
            refine lv_istore (lv' := [(8, .int (nI (lvA V L (off V x) base))), (0, .ref (ad 7)), (2, .int (nI base)), (3, .ref (ad 8)), (4, .int (nI (off V x))), (5, .int (nI (L (LFn V (off V x))))), (6, .int rr), (7, .int (nI en))]) hx hb d_RU_gather_138 hl (by decide) rfl (fun ls hl => ?_)
            refine lv_aload_n hx hb d_RU_gather_140 rfl (lv_at hl 3 rfl) ?_
            refine lv_iload hx hb d_RU_gather_141 (lv_at hl 5 rfl) ?_
            refine lv_iload hx hb d_RU_gather_143 (lv_at hl 0 rfl) ?_
            have hla : lvA V L (off V x) base ≤ 125 := by unfold lvA; split; exact (hL _ (LFn_mem (by omega))).2; omega
            have hl0 := hL0.2
            refine va_mmax hx hb (by rw [hl.1]; exact M.2.2.1) M.2.2.2.1 (M.2.2.2.2.1 _ m3_169) (M.2.2.2.2.1 _ m3_76) (M.2.2.2.2.1 _ m1_18) (M.2.2.2.2.1 _ m3_77) (Nat.le_of_ble_eq_true rfl) (Nat.le_of_ble_eq_true rfl) (Nat.le_of_ble_eq_true rfl) (Nat.le_of_ble_eq_true rfl) d_RU_gather_145 ?_
            refine q_as (y := nI (max (L (LFn V (off V x))) (lvA V L (off V x) base))) (nI_max (by omega) (by omega)) ?_
            refine q_calliSN [.int (nI (max (L (LFn V (off V x))) (lvA V L (off V x) base)))] M hI (c_BL_directionOf l g (cw g ad (va_up (va_up ar 36 y6) 37 y7) (va_up (va_up fl 13 (nI acc.length)) 14 (nI (L (LFn V (off V x)) % 2)))) (max (L (LFn V (off V x))) (lvA V L (off V x) base)) (by omega)) ok_BL_directionOf (List.mem_of_getElem? (i := 8) rfl) m3_98 rfl rfl hl.1 ⟨rfl, rfl⟩ ⟨Nat.le_of_ble_eq_true rfl, Nat.le_of_ble_eq_true rfl⟩ (Nat.le_of_ble_eq_true rfl) ⟨Nat.le_of_ble_eq_true rfl, Nat.le_of_ble_eq_true rfl⟩ d_RU_gather_148 (fun r148 u148 H locs hp148 hI => ?_)
            refine q_as (y := nI ((max (L (LFn V (off V x))) (lvA V L (off V x) base)) % 2)) hp148 ?_
            refine p_RU_71 M hI d_RU_gather_151 (fun H locs hI => ?_)
            have hI : CI g A s (cw g ad (va_up (va_up ar 36 y6) 37 y7) (va_up (va_up (va_up fl 13 (nI acc.length)) 14 (nI (L (LFn V (off V x)) % 2))) 15 (nI ((max (L (LFn V (off V x))) (lvA V L (off V x) base)) % 2)))) H locs := hI
            refine lv_aload_n hx hb d_RU_gather_154 rfl (lv_at hl 3 rfl) ?_
            refine lv_iload hx hb d_RU_gather_155 (lv_at hl 5 rfl) ?_
            refine lv_aload_n hx hb d_RU_gather_157 rfl (lv_at hl 1 rfl) ?_
            refine lv_iload hx hb d_RU_gather_158 (lv_at hl 7 rfl) ?_
            refine lv_iload_n hx hb d_RU_gather_160 rfl (lv_at hl 2 rfl) ?_
            refine q_calliV [.int (nI en), .int (nI base)] M hI (c_RU_levelBehind l g ad (va_up (va_up ar 36 y6) 37 y7) (va_up (va_up (va_up fl 13 (nI acc.length)) 14 (nI (L (LFn V (off V x)) % 2))) 15 (nI ((max (L (LFn V (off V x))) (lvA V L (off V x) base)) % 2))) en base V L (by first | exact h11 | assumption | omega | rfl) (by first | exact h12 | assumption | omega | rfl) (by first | exact hrr | assumption | omega | rfl) (by first | exact hv | assumption | omega | rfl) (by first | exact ht | assumption | omega | rfl) (by omega) (by omega) (by first | exact hL | assumption | omega | rfl)) ok_RU_levelBehind m3_171 m3_173 ms_18 7 rfl rfl rfl rfl hl.1 ⟨rfl, rfl⟩ ⟨Nat.le_of_ble_eq_true rfl, Nat.le_of_ble_eq_true rfl⟩ (Nat.le_of_ble_eq_true rfl) ⟨Nat.le_of_ble_eq_true rfl, Nat.le_of_ble_eq_true rfl⟩ d_RU_gather_161 (fun r161 u161 H locs hp161 hI => ?_)
            refine q_as (y := nI (lvB V (ar 13) L en base)) hp161 ?_
            have hlb : lvB V (ar 13) L en base ≤ 125 := by unfold lvB; split; (rename_i q; exact (hL _ (LFn_mem q.1)).2); omega
            refine va_mmax hx hb (by rw [hl.1]; exact M.2.2.1) M.2.2.2.1 (M.2.2.2.2.1 _ m3_169) (M.2.2.2.2.1 _ m3_76) (M.2.2.2.2.1 _ m1_18) (M.2.2.2.2.1 _ m3_77) (Nat.le_of_ble_eq_true rfl) (Nat.le_of_ble_eq_true rfl) (Nat.le_of_ble_eq_true rfl) (Nat.le_of_ble_eq_true rfl) d_RU_gather_164 ?_
            refine q_as (y := nI (max (L (LFn V (off V x))) (lvB V (ar 13) L en base))) (nI_max (by omega) (by omega)) ?_
            refine q_calliSN [.int (nI (max (L (LFn V (off V x))) (lvB V (ar 13) L en base)))] M hI (c_BL_directionOf l g (cw g ad (va_up (va_up ar 36 y6) 37 y7) (va_up (va_up (va_up fl 13 (nI acc.length)) 14 (nI (L (LFn V (off V x)) % 2))) 15 (nI ((max (L (LFn V (off V x))) (lvA V L (off V x) base)) % 2)))) (max (L (LFn V (off V x))) (lvB V (ar 13) L en base)) (by omega)) ok_BL_directionOf (List.mem_of_getElem? (i := 8) rfl) m3_98 rfl rfl hl.1 ⟨rfl, rfl⟩ ⟨Nat.le_of_ble_eq_true rfl, Nat.le_of_ble_eq_true rfl⟩ (Nat.le_of_ble_eq_true rfl) ⟨Nat.le_of_ble_eq_true rfl, Nat.le_of_ble_eq_true rfl⟩ d_RU_gather_167 (fun r167 u167 H locs hp167 hI => ?_)
            refine q_as (y := nI ((max (L (LFn V (off V x))) (lvB V (ar 13) L en base)) % 2)) hp167 ?_
            refine p_RU_77 M hI d_RU_gather_170 (fun H locs hI => ?_)
            have hI : CI g A s (cw g ad (va_up (va_up ar 36 y6) 37 y7) (va_up (va_up (va_up (va_up fl 13 (nI acc.length)) 14 (nI (L (LFn V (off V x)) % 2))) 15 (nI ((max (L (LFn V (off V x))) (lvA V L (off V x) base)) % 2))) 16 (nI ((max (L (LFn V (off V x))) (lvB V (ar 13) L en base)) % 2)))) H locs := hI
            have hI := CI.to (w2 := cw g ad (va_up (va_up ar 36 y6) 37 y7) (va_up (va_up (va_up (va_up fl 13 (nI (SQ V (ar 13) (ar 16) x).length)) 14 (nI (L (LFn V (off V x)) % 2))) 15 (nI (max (L (LFn V (off V x))) (lvA V L (off V x) base) % 2))) 16 (nI (max (L (LFn V (off V x))) (lvB V (ar 13) L (off V (LR V (ar 13) (ar 16) x) + (runAt V (LR V (ar 13) (ar 16) x)).length) base) % 2)))) hI (by rw [← hacc, ← hen] <;> rfl)
            exact hret (y6, y7) _ _ _ _ _ _ d_RU_gather_173 hI (by rw [← hacc]; exact hs) (Nat.le_refl 0) (Nat.le_refl 0)
          · have c114 : ¬ off V x ≤ 0 := fun h => c114 ((nI_leI (a := off V x) (b := 0) (by omega) (by omega)).mpr h)
            refine lv_aload_n hx hb d_RU_gather_117 rfl (lv_at hl 0 rfl) ?_
            refine g_RU_31 M hI d_RU_gather_118 ?_
            refine g_RU_35 M hI d_RU_gather_121 ?_
            refine lv_aload_n hx hb d_RU_gather_124 rfl (lv_at hl 0 rfl) ?_
            refine g_RU_9 M hI d_RU_gather_125 ?_
            refine lv_iload hx hb d_RU_gather_128 (lv_at hl 3 rfl) ?_
            refine lv_iconst (v := 1) hx hb d_RU_gather_130 (by decide) ?_
            refine lv_isub hx hb d_RU_gather_131 ?_
            refine q_as (y := nI (off V x - 1)) (pk_sub (a := off V x) (b := 1) (by omega)) ?_
            refine al_32 M hI (off V x - 1) rfl (by omega) d_RU_gather_132 ?_
            refine q_as (y := nI (LFn V (off V x - 1))) (rrel_flat hrr _ (by omega)) ?_
            refine al_15 M hI (LFn V (off V x - 1)) rfl (vlt_flat hv _ (LFn_mem (by omega))) d_RU_gather_133 ?_
            refine q_as (y := nI (lvA V L (off V x) base)) (by unfold lvA; rw [if_pos (by omega)]; exact (hL _ (LFn_mem (by omega))).1) ?_
            refine lv_goto (tgt := 138) hx hb d_RU_gather_134 (by decide) ?_
            refine lv_istore (lv' := [(8, .int (nI (lvA V L (off V x) base))), (0, .ref (ad 7)), (2, .int (nI base)), (3, .ref (ad 8)), (4, .int (nI (off V x))), (5, .int (nI (L (LFn V (off V x))))), (6, .int rr), (7, .int (nI en))]) hx hb d_RU_gather_138 hl (by decide) rfl (fun ls hl => ?_)
            refine lv_aload_n hx hb d_RU_gather_140 rfl (lv_at hl 3 rfl) ?_
            refine lv_iload hx hb d_RU_gather_141 (lv_at hl 5 rfl) ?_
            refine lv_iload hx hb d_RU_gather_143 (lv_at hl 0 rfl) ?_
            have hla : lvA V L (off V x) base ≤ 125 := by unfold lvA; split; exact (hL _ (LFn_mem (by omega))).2; omega
            have hl0 := hL0.2
            refine va_mmax hx hb (by rw [hl.1]; exact M.2.2.1) M.2.2.2.1 (M.2.2.2.2.1 _ m3_169) (M.2.2.2.2.1 _ m3_76) (M.2.2.2.2.1 _ m1_18) (M.2.2.2.2.1 _ m3_77) (Nat.le_of_ble_eq_true rfl) (Nat.le_of_ble_eq_true rfl) (Nat.le_of_ble_eq_true rfl) (Nat.le_of_ble_eq_true rfl) d_RU_gather_145 ?_
            refine q_as (y := nI (max (L (LFn V (off V x))) (lvA V L (off V x) base))) (nI_max (by omega) (by omega)) ?_
            refine q_calliSN [.int (nI (max (L (LFn V (off V x))) (lvA V L (off V x) base)))] M hI (c_BL_directionOf l g (cw g ad (va_up (va_up ar 36 y6) 37 y7) (va_up (va_up fl 13 (nI acc.length)) 14 (nI (L (LFn V (off V x)) % 2)))) (max (L (LFn V (off V x))) (lvA V L (off V x) base)) (by omega)) ok_BL_directionOf (List.mem_of_getElem? (i := 8) rfl) m3_98 rfl rfl hl.1 ⟨rfl, rfl⟩ ⟨Nat.le_of_ble_eq_true rfl, Nat.le_of_ble_eq_true rfl⟩ (Nat.le_of_ble_eq_true rfl) ⟨Nat.le_of_ble_eq_true rfl, Nat.le_of_ble_eq_true rfl⟩ d_RU_gather_148 (fun r148 u148 H locs hp148 hI => ?_)
            refine q_as (y := nI ((max (L (LFn V (off V x))) (lvA V L (off V x) base)) % 2)) hp148 ?_
            refine p_RU_71 M hI d_RU_gather_151 (fun H locs hI => ?_)
            have hI : CI g A s (cw g ad (va_up (va_up ar 36 y6) 37 y7) (va_up (va_up (va_up fl 13 (nI acc.length)) 14 (nI (L (LFn V (off V x)) % 2))) 15 (nI ((max (L (LFn V (off V x))) (lvA V L (off V x) base)) % 2)))) H locs := hI
            refine lv_aload_n hx hb d_RU_gather_154 rfl (lv_at hl 3 rfl) ?_
            refine lv_iload hx hb d_RU_gather_155 (lv_at hl 5 rfl) ?_
            refine lv_aload_n hx hb d_RU_gather_157 rfl (lv_at hl 1 rfl) ?_
            refine lv_iload hx hb d_RU_gather_158 (lv_at hl 7 rfl) ?_
            refine lv_iload_n hx hb d_RU_gather_160 rfl (lv_at hl 2 rfl) ?_
            refine q_calliV [.int (nI en), .int (nI base)] M hI (c_RU_levelBehind l g ad (va_up (va_up ar 36 y6) 37 y7) (va_up (va_up (va_up fl 13 (nI acc.length)) 14 (nI (L (LFn V (off V x)) % 2))) 15 (nI ((max (L (LFn V (off V x))) (lvA V L (off V x) base)) % 2))) en base V L (by first | exact h11 | assumption | omega | rfl) (by first | exact h12 | assumption | omega | rfl) (by first | exact hrr | assumption | omega | rfl) (by first | exact hv | assumption | omega | rfl) (by first | exact ht | assumption | omega | rfl) (by omega) (by omega) (by first | exact hL | assumption | omega | rfl)) ok_RU_levelBehind m3_171 m3_173 ms_18 7 rfl rfl rfl rfl hl.1 ⟨rfl, rfl⟩ ⟨Nat.le_of_ble_eq_true rfl, Nat.le_of_ble_eq_true rfl⟩ (Nat.le_of_ble_eq_true rfl) ⟨Nat.le_of_ble_eq_true rfl, Nat.le_of_ble_eq_true rfl⟩ d_RU_gather_161 (fun r161 u161 H locs hp161 hI => ?_)
            refine q_as (y := nI (lvB V (ar 13) L en base)) hp161 ?_
            have hlb : lvB V (ar 13) L en base ≤ 125 := by unfold lvB; split; (rename_i q; exact (hL _ (LFn_mem q.1)).2); omega
            refine va_mmax hx hb (by rw [hl.1]; exact M.2.2.1) M.2.2.2.1 (M.2.2.2.2.1 _ m3_169) (M.2.2.2.2.1 _ m3_76) (M.2.2.2.2.1 _ m1_18) (M.2.2.2.2.1 _ m3_77) (Nat.le_of_ble_eq_true rfl) (Nat.le_of_ble_eq_true rfl) (Nat.le_of_ble_eq_true rfl) (Nat.le_of_ble_eq_true rfl) d_RU_gather_164 ?_
            refine q_as (y := nI (max (L (LFn V (off V x))) (lvB V (ar 13) L en base))) (nI_max (by omega) (by omega)) ?_
            refine q_calliSN [.int (nI (max (L (LFn V (off V x))) (lvB V (ar 13) L en base)))] M hI (c_BL_directionOf l g (cw g ad (va_up (va_up ar 36 y6) 37 y7) (va_up (va_up (va_up fl 13 (nI acc.length)) 14 (nI (L (LFn V (off V x)) % 2))) 15 (nI ((max (L (LFn V (off V x))) (lvA V L (off V x) base)) % 2)))) (max (L (LFn V (off V x))) (lvB V (ar 13) L en base)) (by omega)) ok_BL_directionOf (List.mem_of_getElem? (i := 8) rfl) m3_98 rfl rfl hl.1 ⟨rfl, rfl⟩ ⟨Nat.le_of_ble_eq_true rfl, Nat.le_of_ble_eq_true rfl⟩ (Nat.le_of_ble_eq_true rfl) ⟨Nat.le_of_ble_eq_true rfl, Nat.le_of_ble_eq_true rfl⟩ d_RU_gather_167 (fun r167 u167 H locs hp167 hI => ?_)
            refine q_as (y := nI ((max (L (LFn V (off V x))) (lvB V (ar 13) L en base)) % 2)) hp167 ?_
            refine p_RU_77 M hI d_RU_gather_170 (fun H locs hI => ?_)
            have hI : CI g A s (cw g ad (va_up (va_up ar 36 y6) 37 y7) (va_up (va_up (va_up (va_up fl 13 (nI acc.length)) 14 (nI (L (LFn V (off V x)) % 2))) 15 (nI ((max (L (LFn V (off V x))) (lvA V L (off V x) base)) % 2))) 16 (nI ((max (L (LFn V (off V x))) (lvB V (ar 13) L en base)) % 2)))) H locs := hI
            have hI := CI.to (w2 := cw g ad (va_up (va_up ar 36 y6) 37 y7) (va_up (va_up (va_up (va_up fl 13 (nI (SQ V (ar 13) (ar 16) x).length)) 14 (nI (L (LFn V (off V x)) % 2))) 15 (nI (max (L (LFn V (off V x))) (lvA V L (off V x) base) % 2))) 16 (nI (max (L (LFn V (off V x))) (lvB V (ar 13) L (off V (LR V (ar 13) (ar 16) x) + (runAt V (LR V (ar 13) (ar 16) x)).length) base) % 2)))) hI (by rw [← hacc, ← hen] <;> rfl)
            exact hret (y6, y7) _ _ _ _ _ _ d_RU_gather_173 hI (by rw [← hacc]; exact hs) (Nat.le_refl 0) (Nat.le_refl 0)
        · have hst9 := hst
          unfold GST at hst9
          obtain ⟨r1, hr1, hr2, hr3, hr4, hr5, hr6⟩ := hst9.resolve_right (fun q => c53 q.1)
          clear hst9
          subst hr1
          have hrp := runAt_pos hv hr2
          have hro := (runAt_flat (V := V) (r := r1) (t := 0) hr2 hrp).2
          refine lv_aload_n hx hb d_RU_gather_56 rfl (lv_at hl 0 rfl) ?_
          refine g_RU_22 M hI d_RU_gather_57 ?_
          refine lv_iload hx hb d_RU_gather_60 (lv_at hl 5 rfl) ?_
          refine al_34 M hI r1 rfl (by omega) d_RU_gather_62 ?_
          refine q_as (y := nI (off V r1 + (runAt V r1).length)) ((rrel_at hrr r1 hr2).2) ?_
          refine lv_istore (lv' := [(7, .int (nI (off V r1 + (runAt V r1).length))), (0, .ref (ad 7)), (2, .int (nI base)), (3, .ref (ad 8)), (4, .int (nI (off V x))), (5, .int (nI (L (LFn V (off V x))))), (6, .int (nI r1)), (8, .int (nI t))]) hx hb d_RU_gather_63 hl (by decide) rfl (fun ls hl => ?_)
          refine lv_aload_n hx hb d_RU_gather_65 rfl (lv_at hl 1 rfl) ?_
          refine g_RU_19 M hI d_RU_gather_66 ?_
          refine lv_iload hx hb d_RU_gather_69 (lv_at hl 6 rfl) ?_
          refine al_33 M hI r1 rfl (by omega) d_RU_gather_71 ?_
          refine q_as (y := nI (off V r1)) ((rrel_at hrr r1 hr2).1) ?_
          refine lv_istore (lv' := [(9, .int (nI (off V r1))), (7, .int (nI (off V r1 + (runAt V r1).length))), (0, .ref (ad 7)), (2, .int (nI base)), (3, .ref (ad 8)), (4, .int (nI (off V x))), (5, .int (nI (L (LFn V (off V x))))), (6, .int (nI r1)), (8, .int (nI t))]) hx hb d_RU_gather_72 hl (by decide) rfl (fun ls hl => ?_)
          have L74 : ∀ (fu : Nat) (w : Nat) (y6 : Nat → Int32) (y7 : Nat → Int32), ((runAt V r1).length - w) < fu → (w ≤ (runAt V r1).length) → (sR y6 y7 (ar 14) (acc ++ (runAt V r1).take w)) → ∀ (H : Heap) (locs : List Loc) (ls : Array Slot), CI g A s (cw g ad (va_up (va_up ar 36 y6) 37 y7) (va_up (va_up fl 13 (nI (acc.length + w))) 14 (nI (L (LFn V (off V x)) % 2)))) H locs → lv_has ls 10 [(0, .ref (ad 7)), (2, .int (nI base)), (3, .ref (ad 8)), (4, .int (nI (off V x))), (5, .int (nI (L (LFn V (off V x))))), (6, .int (nI r1)), (7, .int (nI (off V r1 + (runAt V r1).length))), (8, .int (nI t)), (9, .int (nI (off V r1 + w)))] → W p l e rm_RU_gather s m args below meth c H locs 0 0 Q (F0 m 74 ls []) := by
            intro fu
            induction fu with
            | zero => intro w y6 y7 hm; exact absurd hm (Nat.not_lt_zero _)
            | succ fu ih74 =>
              intro w y6 y7 hm hw hs2 H locs ls hI hl
              refine lv_iload hx hb d_RU_gather_74 (lv_at hl 8 rfl) ?_
              refine lv_iload hx hb d_RU_gather_76 (lv_at hl 6 rfl) ?_
              refine lv_icmp_ge (tgt := 98) hx hb d_RU_gather_78 (by decide) (fun c78 => ?_) (fun c78 => ?_)
              · have c78 : off V r1 + (runAt V r1).length ≤ off V r1 + w := (nI_leI (a := off V r1 + (runAt V r1).length) (b := off V r1 + w) (by omega) (by omega)).mp c78
                have hs9 : sR y6 y7 (ar 14) (acc ++ runAt V r1) := by rw [show w = (runAt V r1).length by omega, List.take_length] at hs2; exact hs2
                have hI := CI.to (w2 := cw g ad (va_up (va_up ar 36 y6) 37 y7) (va_up (va_up fl 14 (nI (L (LFn V (off V x)) % 2))) 13 (nI ((acc ++ runAt V r1).length)))) hI (by rw [show acc.length + w = (acc ++ runAt V r1).length by rw [List.length_append]; omega] <;> rfl)
                refine lv_aload_n hx hb d_RU_gather_98 rfl (lv_at hl 0 rfl) ?_
                refine lv_iload hx hb d_RU_gather_99 (lv_at hl 5 rfl) ?_
                refine q_calliV [.int (nI r1)] M hI (c_RU_runBehind l g ad (va_up (va_up ar 36 y6) 37 y7) (va_up (va_up fl 14 (nI (L (LFn V (off V x)) % 2))) 13 (nI ((acc ++ runAt V r1).length))) r1 V (by first | exact h11 | assumption | omega | rfl) (by first | exact h12 | assumption | omega | rfl) (by first | exact hrr | assumption | omega | rfl) (by first | exact hv | assumption | omega | rfl) (by first | exact ht | assumption | omega | rfl) (hr2) (hgo r1 hr2) (by first | exact hmt | assumption | omega | rfl)) ok_RU_runBehind m3_164 m3_166 ms_17 7 rfl rfl rfl rfl hl.1 ⟨rfl, rfl⟩ ⟨Nat.le_of_ble_eq_true rfl, Nat.le_of_ble_eq_true rfl⟩ (Nat.le_of_ble_eq_true rfl) ⟨Nat.le_of_ble_eq_true rfl, Nat.le_of_ble_eq_true rfl⟩ d_RU_gather_101 (fun r101 u101 H locs hp101 hI => ?_)
                refine q_as (y := if goes V (ar 13) (ar 16) r1 then nI (nextR V (ar 16) r1) else -1) hp101 ?_
                have hst2 : GST V (ar 13) (ar 16) x (t + 1) (if goes V (ar 13) (ar 16) r1 then nI (nextR V (ar 16) r1) else -1) (off V r1 + (runAt V r1).length) (acc ++ runAt V r1) := by unfold GST; rw [SQ_eq hi hr2] at hr4; rw [LR_eq hi hr2] at hr5; by_cases z : goes V (ar 13) (ar 16) r1; (rw [if_pos z] at hr4 hr5 ⊢; have hz := hi r1 hr2 z; refine Or.inl ⟨_, rfl, hz.2, by omega, by rw [List.append_assoc]; exact hr4, hr5, ?_⟩; have := off_next hz.1 hz.2; rw [List.length_append]; omega); (rw [if_neg z] at hr4 hr5 ⊢; rw [List.append_nil] at hr4; rw [← hr5]; exact Or.inr ⟨rfl, hr4, rfl, hr2⟩)
                refine lv_istore (lv' := [(6, .int (if goes V (ar 13) (ar 16) r1 then nI (nextR V (ar 16) r1) else -1)), (0, .ref (ad 7)), (2, .int (nI base)), (3, .ref (ad 8)), (4, .int (nI (off V x))), (5, .int (nI (L (LFn V (off V x))))), (7, .int (nI (off V r1 + (runAt V r1).length))), (8, .int (nI t)), (9, .int (nI (off V r1 + w)))]) hx hb d_RU_gather_104 hl (by decide) rfl (fun ls hl => ?_)
                refine lv_iinc (v := nI (t + 1)) (lv' := [(8, .int (nI (t + 1))), (6, .int (if goes V (ar 13) (ar 16) r1 then nI (nextR V (ar 16) r1) else -1)), (0, .ref (ad 7)), (2, .int (nI base)), (3, .ref (ad 8)), (4, .int (nI (off V x))), (5, .int (nI (L (LFn V (off V x))))), (7, .int (nI (off V r1 + (runAt V r1).length))), (9, .int (nI (off V r1 + w)))]) hx hb d_RU_gather_106 hl (k := 7) rfl (nI_add _ 1) (by decide) rfl (fun ls hl => ?_)
                refine lv_goto (tgt := 41) hx hb d_RU_gather_109 (by decide) ?_
                exact ih41 (t + 1) (if goes V (ar 13) (ar 16) r1 then nI (nextR V (ar 16) r1) else -1) (off V r1 + (runAt V r1).length) (acc ++ runAt V r1) y6 y7 (by omega) (by first | assumption | omega) (hs9) (hst2) _ _ _ hI (lv_sub hl [2, 3, 4, 5, 6, 1, 7, 0] rfl)
              · have c78 : ¬ off V r1 + (runAt V r1).length ≤ off V r1 + w := fun h => c78 ((nI_leI (a := off V r1 + (runAt V r1).length) (b := off V r1 + w) (by omega) (by omega)).mpr h)
                refine lv_aload_n hx hb d_RU_gather_81 rfl (lv_at hl 2 rfl) ?_
                refine lv_aload_n hx hb d_RU_gather_82 rfl (lv_at hl 0 rfl) ?_
                refine g_RU_9 M hI d_RU_gather_83 ?_
                refine lv_iload hx hb d_RU_gather_86 (lv_at hl 8 rfl) ?_
                refine al_32 M hI (off V r1 + w) rfl (by omega) d_RU_gather_88 ?_
                refine q_as (y := nI ((runAt V r1).getD w 0)) (by rw [← (runAt_flat hr2 (show w < (runAt V r1).length by omega)).1]; exact rrel_flat hrr _ (by omega)) ?_
                refine q_callvV [.int (nI ((runAt V r1).getD w 0))] M hI (c_SQ_append l g ad (va_up (va_up ar 36 y6) 37 y7) (va_up (va_up fl 13 (nI (acc.length + w))) 14 (nI (L (LFn V (off V x)) % 2))) ((runAt V r1).getD w 0) (acc.length + w) (rfl) (by omega) (by rw [← (runAt_flat hr2 (show w < (runAt V r1).length by omega)).1]; exact vlt_flat hv _ (LFn_mem (by omega)))) ok_SQ_append m3_160 m3_161 m3_162 8 rfl rfl rfl rfl hl.1 ⟨rfl, rfl⟩ ⟨Nat.le_of_ble_eq_true rfl, Nat.le_of_ble_eq_true rfl⟩ (Nat.le_of_ble_eq_true rfl) ⟨Nat.le_of_ble_eq_true rfl, Nat.le_of_ble_eq_true rfl⟩ d_RU_gather_89 (fun u89 H locs hp89 hI => ?_)
                have hI : CI g A s (cw g ad (va_up (va_up ar 36 (upd y6 (acc.length + w) (nI ((runAt V r1).getD w 0)))) 37 (upd y7 (acc.length + w) (ar 14 ((runAt V r1).getD w 0)))) (va_up (va_up fl 14 (nI (L (LFn V (off V x)) % 2))) 13 (nI ((acc.length + w) + 1)))) H locs := hI
                have hs3 : sR (upd y6 (acc.length + w) (nI ((runAt V r1).getD w 0))) (upd y7 (acc.length + w) (ar 14 ((runAt V r1).getD w 0))) (ar 14) (acc ++ (runAt V r1).take (w + 1)) := by have hh := sR_push (q := (runAt V r1).getD w 0) hs2; rw [List.length_append, List.length_take, show min w (runAt V r1).length = w by omega, List.append_assoc, ← take_step (show w < (runAt V r1).length by omega)] at hh; exact hh
                refine lv_iinc (v := nI (off V r1 + w + 1)) (lv' := [(9, .int (nI (off V r1 + w + 1))), (0, .ref (ad 7)), (2, .int (nI base)), (3, .ref (ad 8)), (4, .int (nI (off V x))), (5, .int (nI (L (LFn V (off V x))))), (6, .int (nI r1)), (7, .int (nI (off V r1 + (runAt V r1).length))), (8, .int (nI t))]) hx hb d_RU_gather_92 hl (k := 8) rfl (nI_add _ 1) (by decide) rfl (fun ls hl => ?_)
                refine lv_goto (tgt := 74) hx hb d_RU_gather_95 (by decide) ?_
                exact ih74 (w + 1) (upd y6 (acc.length + w) (nI ((runAt V r1).getD w 0))) (upd y7 (acc.length + w) (ar 14 ((runAt V r1).getD w 0))) (by omega) (by first | assumption | omega) (hs3) _ _ _ hI (lv_sub hl [1, 2, 3, 4, 5, 6, 7, 8, 0] rfl)
          exact L74 _ 0 y6 y7 (Nat.lt_succ_self _) (by first | assumption | omega) (by rw [List.take_zero, List.append_nil]; exact hs) _ _ _ hI (lv_sub hl [2, 3, 4, 5, 6, 7, 1, 8, 0] rfl)
  have hI := CI.to (w2 := cw g ad (va_up (va_up ar 36 (ar 36)) 37 (ar 37)) (va_up (va_up fl 13 (nI ([] : List Nat).length)) 14 (nI (L (LFn V (off V x)) % 2)))) hI (by rfl)
  exact L41 _ 0 (nI x) (off V x) ([] : List Nat) (ar 36) (ar 37) (Nat.lt_succ_self _) (by first | assumption | omega) (fun j h => absurd h (Nat.not_lt_zero j)) (Or.inl ⟨x, rfl, hxv, Nat.zero_le x, rfl, rfl, Nat.zero_le _⟩) _ _ _ hI (lv_sub hl [5, 7, 8, 4, 3, 2, 1, 0] rfl)
