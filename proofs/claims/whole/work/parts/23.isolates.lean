/-! 23: Isolates -/
abbrev rm_IS_findMatches : Room := { frames := 1, cells := 0, slots := 0, locals := 20 }
set_option maxHeartbeats 4000000 in
set_option maxRecDepth 100000 in
theorem c_IS_findMatches (l : Launch) (g : Geo) (ad : Nat → Nat) (ar : Nat → Nat → Int32) (fl : Nat → Int32) (b : Nat) (en : Nat) (hbe : b ≤ en) (he : en ≤ 2000) : cMv l y_IS_findMatches (.code y_IS_findMatches b_IS_findMatches 5 none :: gw) rm_IS_findMatches g [.ref (ad 5), .int (nI b), .int (nI en)] (cw g ad ar fl) (fun (u : (Nat → Int32)) => True) (fun (u : (Nat → Int32)) => cw g ad (va_up (va_up ar 16 (mmat (ar 13) b (ar 16) (en - b))) 28 u) fl) 0 0 := by
  refine cMv_of (by decide) (Nat.le_of_ble_eq_true rfl) ?_
  intro p e s m below meth c A Q ls M hnm hret hl hI
  have M : MC p s m ([.ref (ad 5), .int (nI b), .int (nI en)] : List Value).toArray meth c R_IS b_IS_findMatches 5 := M
  have hl : lv_has ls 5 [(0, .ref (ad 5)), (1, .int (nI b)), (2, .int (nI en))] := hl
  generalize ([.ref (ad 5), .int (nI b), .int (nI en)] : List Value).toArray = args at M hret ⊢
  have hx := M.1
  have hb := M.2.1
  refine lv_iconst (v := 0) hx hb d_IS_findMatches_0 (by decide) ?_
  refine lv_istore_n (lv' := [(3, .int 0), (0, .ref (ad 5)), (1, .int (nI b)), (2, .int (nI en))]) hx hb d_IS_findMatches_1 rfl hl (by decide) rfl (fun ls hl => ?_)
  refine lv_iload_n hx hb d_IS_findMatches_2 rfl (lv_at hl 2 rfl) ?_
  refine lv_istore (lv' := [(4, .int (nI b)), (3, .int 0), (0, .ref (ad 5)), (1, .int (nI b)), (2, .int (nI en))]) hx hb d_IS_findMatches_3 hl (by decide) rfl (fun ls hl => ?_)
  have L5 : ∀ (fu : Nat) (d : Nat) (o : Nat) (wt : Nat → Int32), (en - (b + d)) < fu → (b + d ≤ en) → (o = (mstk (ar 13) b d).length) → (stkR wt (mstk (ar 13) b d)) → ∀ (H : Heap) (locs : List Loc) (ls : Array Slot), CI g A s (cw g ad (va_up (va_up ar 16 (mmat (ar 13) b (ar 16) d)) 28 wt) fl) H locs → lv_has ls 5 [(0, .ref (ad 5)), (1, .int (nI b)), (2, .int (nI en)), (3, .int (nI o)), (4, .int (nI (b + d)))] → W p l e rm_IS_findMatches s m args below meth c H locs 0 0 Q (F0 m 5 ls []) := by
    intro fu
    induction fu with
    | zero => intro d o wt hm; exact absurd hm (Nat.not_lt_zero _)
    | succ fu ih5 =>
      intro d o wt hm hd ho hw H locs ls hI hl
      refine lv_iload hx hb d_IS_findMatches_5 (lv_at hl 4 rfl) ?_
      refine lv_iload_n hx hb d_IS_findMatches_7 rfl (lv_at hl 2 rfl) ?_
      refine lv_icmp_ge (tgt := 112) hx hb d_IS_findMatches_8 (by decide) (fun c8 => ?_) (fun c8 => ?_)
      · have c8 : en ≤ b + d := (nI_leI (a := en) (b := b + d) (by omega) (by omega)).mp c8
        have hI := CI.to (w2 := cw g ad (va_up (va_up ar 16 (mmat (ar 13) b (ar 16) (en - b))) 28 wt) fl) hI (by rw [show d = en - b by omega])
        exact hret wt _ _ _ _ _ _ d_IS_findMatches_112 hI (trivial) (Nat.le_refl 0) (Nat.le_refl 0)
      · have c8 : ¬ en ≤ b + d := fun h => c8 ((nI_leI (a := en) (b := b + d) (by omega) (by omega)).mpr h)
        have hln := mstk_len (ar 13) b d
        refine lv_aload_n hx hb d_IS_findMatches_11 rfl (lv_at hl 0 rfl) ?_
        refine g_IS_15 M hI d_IS_findMatches_12 ?_
        refine g_IS_19 M hI d_IS_findMatches_15 ?_
        refine lv_iload hx hb d_IS_findMatches_18 (lv_at hl 4 rfl) ?_
        refine lv_iconst (v := (-1)) hx hb d_IS_findMatches_20 (by decide) ?_
        refine as_16 M hI (b + d) rfl (by omega) d_IS_findMatches_21 (fun H locs hI => ?_)
        have hI : CI g A s (cw g ad (va_up (va_up ar 28 wt) 16 (upd (mmat (ar 13) b (ar 16) d) (b + d) (-1))) fl) H locs := hI
        refine lv_aload_n hx hb d_IS_findMatches_22 rfl (lv_at hl 0 rfl) ?_
        refine g_IS_15 M hI d_IS_findMatches_23 ?_
        refine g_IS_24 M hI d_IS_findMatches_26 ?_
        refine lv_iload hx hb d_IS_findMatches_29 (lv_at hl 4 rfl) ?_
        refine al_13 M hI (b + d) rfl (by omega) d_IS_findMatches_31 ?_
        refine q_as (y := ar 13 (b + d)) rfl ?_
        refine q_calliSN [.int (ar 13 (b + d))] M hI (c_BL_isIsolate l g (cw g ad (va_up (va_up ar 28 wt) 16 (upd (mmat (ar 13) b (ar 16) d) (b + d) (-1))) fl) (ar 13 (b + d))) ok_BL_isIsolate (List.mem_of_getElem? (i := 2) rfl) m3_69 rfl rfl hl.1 ⟨rfl, rfl⟩ ⟨Nat.le_of_ble_eq_true rfl, Nat.le_of_ble_eq_true rfl⟩ (Nat.le_of_ble_eq_true rfl) ⟨Nat.le_of_ble_eq_true rfl, Nat.le_of_ble_eq_true rfl⟩ d_IS_findMatches_32 (fun r32 u32 H locs hp32 hI => ?_)
        refine q_as (y := bI (isol (ar 13 (b + d)))) hp32 ?_
        refine lv_if_eq (tgt := 52) hx hb d_IS_findMatches_35 (by decide) (fun c35 => ?_) (fun c35 => ?_)
        · have c35 := bI_eq0.mp c35
          refine lv_aload_n hx hb d_IS_findMatches_52 rfl (lv_at hl 0 rfl) ?_
          refine g_IS_15 M hI d_IS_findMatches_53 ?_
          refine g_IS_24 M hI d_IS_findMatches_56 ?_
          refine lv_iload hx hb d_IS_findMatches_59 (lv_at hl 4 rfl) ?_
          refine al_13 M hI (b + d) rfl (by omega) d_IS_findMatches_61 ?_
          refine q_as (y := ar 13 (b + d)) rfl ?_
          refine lv_bipush (v := 22) hx hb d_IS_findMatches_62 (by decide) ?_
          refine lv_icmp_ne (tgt := 106) hx hb d_IS_findMatches_64 (by decide) (fun c64 => ?_) (fun c64 => ?_)
          · have ho2 : o = (mstk (ar 13) b (d + 1)).length := by simp only [mstk]; rw [if_neg c35, if_neg c64]; exact ho
            have hw2 : stkR wt (mstk (ar 13) b (d + 1)) := by simp only [mstk]; rw [if_neg c35, if_neg c64]; exact hw
            have hI := CI.to (w2 := cw g ad (va_up (va_up ar 28 wt) 16 (mmat (ar 13) b (ar 16) (d + 1))) fl) hI (by rw [mmat_s (fun q => c64 q.2)])
            refine lv_iinc (v := nI (b + d + 1)) (lv' := [(4, .int (nI (b + d + 1))), (0, .ref (ad 5)), (1, .int (nI b)), (2, .int (nI en)), (3, .int (nI o))]) hx hb d_IS_findMatches_106 hl (k := 4) rfl (nI_add _ 1) (by decide) rfl (fun ls hl => ?_)
            refine lv_goto (tgt := 5) hx hb d_IS_findMatches_109 (by decide) ?_
            exact ih5 (d + 1) o wt (by omega) (by first | assumption | omega) (ho2) (hw2) _ _ _ hI (lv_sub hl [1, 2, 3, 4, 0] rfl)
          · refine lv_iload_n hx hb d_IS_findMatches_67 rfl (lv_at hl 3 rfl) ?_
            refine lv_if_le (tgt := 106) hx hb d_IS_findMatches_68 (by decide) (fun c68 => ?_) (fun c68 => ?_)
            · have c68 : o ≤ 0 := (nI_leI (a := o) (b := 0) (by omega) (by omega)).mp c68
              have hnil : mstk (ar 13) b d = [] := List.eq_nil_of_length_eq_zero (by omega)
              have ho2 : o = (mstk (ar 13) b (d + 1)).length := by simp only [mstk]; rw [if_neg c35, if_pos c64, hnil]; rw [hnil] at ho; exact ho
              have hw2 : stkR wt (mstk (ar 13) b (d + 1)) := by simp only [mstk]; rw [if_neg c35, if_pos c64, hnil]; exact fun t h => absurd h (Nat.not_lt_zero t)
              have hI := CI.to (w2 := cw g ad (va_up (va_up ar 28 wt) 16 (mmat (ar 13) b (ar 16) (d + 1))) fl) hI (by rw [mmat_e hnil])
              refine lv_iinc (v := nI (b + d + 1)) (lv' := [(4, .int (nI (b + d + 1))), (0, .ref (ad 5)), (1, .int (nI b)), (2, .int (nI en)), (3, .int (nI o))]) hx hb d_IS_findMatches_106 hl (k := 4) rfl (nI_add _ 1) (by decide) rfl (fun ls hl => ?_)
              refine lv_goto (tgt := 5) hx hb d_IS_findMatches_109 (by decide) ?_
              exact ih5 (d + 1) o wt (by omega) (by first | assumption | omega) (ho2) (hw2) _ _ _ hI (lv_sub hl [1, 2, 3, 4, 0] rfl)
            · have c68 : ¬ o ≤ 0 := fun h => c68 ((nI_leI (a := o) (b := 0) (by omega) (by omega)).mpr h)
              obtain ⟨w, L, hwL⟩ : ∃ w L, mstk (ar 13) b d = w :: L := by cases hc : mstk (ar 13) b d with | nil => rw [hc] at ho; exact absurd ho (by simp only [List.length_nil]; omega) | cons w L => exact ⟨w, L, rfl⟩
              have hwl : w < b + d := mstk_lt (ar 13) b d w (by rw [hwL]; exact List.mem_cons_self)
              have hoL : o = L.length + 1 := by rw [ho, hwL, List.length_cons]
              have hwp := stkR_pop (hwL ▸ hw)
              have hrd : wt (o - 1) = nI w := by rw [hoL, Nat.add_sub_cancel]; exact hwp.2
              have ho2 : o - 1 = (mstk (ar 13) b (d + 1)).length := by simp only [mstk]; rw [if_neg c35, if_pos c64, hwL, List.tail_cons]; omega
              have hw2 : stkR wt (mstk (ar 13) b (d + 1)) := by simp only [mstk]; rw [if_neg c35, if_pos c64, hwL, List.tail_cons]; exact hwp.1
              refine lv_iinc (v := nI (o - 1)) (lv' := [(3, .int (nI (o - 1))), (0, .ref (ad 5)), (1, .int (nI b)), (2, .int (nI en)), (4, .int (nI (b + d)))]) hx hb d_IS_findMatches_71 hl (k := 3) rfl (nI_decp (by omega)) (by decide) rfl (fun ls hl => ?_)
              refine lv_aload_n hx hb d_IS_findMatches_74 rfl (lv_at hl 1 rfl) ?_
              refine g_IS_15 M hI d_IS_findMatches_75 ?_
              refine g_IS_19 M hI d_IS_findMatches_78 ?_
              refine lv_iload hx hb d_IS_findMatches_81 (lv_at hl 4 rfl) ?_
              refine lv_aload_n hx hb d_IS_findMatches_83 rfl (lv_at hl 1 rfl) ?_
              refine g_IS_9 M hI d_IS_findMatches_84 ?_
              refine lv_iload_n hx hb d_IS_findMatches_87 rfl (lv_at hl 0 rfl) ?_
              refine al_28 M hI (o - 1) rfl (by omega) d_IS_findMatches_88 ?_
              refine q_as (y := nI w) (hrd) ?_
              refine as_16 M hI (b + d) rfl (by omega) d_IS_findMatches_89 (fun H locs hI => ?_)
              have hI : CI g A s (cw g ad (va_up (va_up ar 28 wt) 16 (upd (upd (mmat (ar 13) b (ar 16) d) (b + d) (-1)) (b + d) (nI w))) fl) H locs := hI
              refine lv_aload_n hx hb d_IS_findMatches_90 rfl (lv_at hl 1 rfl) ?_
              refine g_IS_15 M hI d_IS_findMatches_91 ?_
              refine g_IS_19 M hI d_IS_findMatches_94 ?_
              refine lv_aload_n hx hb d_IS_findMatches_97 rfl (lv_at hl 1 rfl) ?_
              refine g_IS_9 M hI d_IS_findMatches_98 ?_
              refine lv_iload_n hx hb d_IS_findMatches_101 rfl (lv_at hl 0 rfl) ?_
              refine al_28 M hI (o - 1) rfl (by omega) d_IS_findMatches_102 ?_
              refine q_as (y := nI w) (hrd) ?_
              refine lv_iload hx hb d_IS_findMatches_103 (lv_at hl 4 rfl) ?_
              refine as_16 M hI w rfl (by omega) d_IS_findMatches_105 (fun H locs hI => ?_)
              have hI : CI g A s (cw g ad (va_up (va_up ar 28 wt) 16 (upd (upd (upd (mmat (ar 13) b (ar 16) d) (b + d) (-1)) (b + d) (nI w)) w (nI (b + d)))) fl) H locs := hI
              rw [show upd (upd (upd (mmat (ar 13) b (ar 16) d) (b + d) (-1)) (b + d) (nI w)) w (nI (b + d)) = mmat (ar 13) b (ar 16) (d + 1) from (mmat_p c35 c64 hwL).symm] at hI
              have hI : CI g A s (cw g ad (va_up (va_up ar 28 wt) 16 (mmat (ar 13) b (ar 16) (d + 1))) fl) H locs := hI
              refine lv_iinc (v := nI (b + d + 1)) (lv' := [(4, .int (nI (b + d + 1))), (3, .int (nI (o - 1))), (0, .ref (ad 5)), (1, .int (nI b)), (2, .int (nI en))]) hx hb d_IS_findMatches_106 hl (k := 4) rfl (nI_add _ 1) (by decide) rfl (fun ls hl => ?_)
              refine lv_goto (tgt := 5) hx hb d_IS_findMatches_109 (by decide) ?_
              exact ih5 (d + 1) (o - 1) wt (by omega) (by first | assumption | omega) (ho2) (hw2) _ _ _ hI (lv_sub hl [2, 3, 4, 1, 0] rfl)
        · have c35 := bI_ne0.mp c35
          have ho2 : o + 1 = (mstk (ar 13) b (d + 1)).length := by simp only [mstk]; rw [if_pos c35, List.length_cons, ho]
          have hw2 : stkR (upd wt o (nI (b + d))) (mstk (ar 13) b (d + 1)) := by simp only [mstk]; rw [if_pos c35, ho]; exact stkR_push hw
          have hI := CI.to (w2 := cw g ad (va_up (va_up ar 28 wt) 16 (mmat (ar 13) b (ar 16) (d + 1))) fl) hI (by rw [mmat_s (fun q => q.1 c35)])
          refine lv_aload_n hx hb d_IS_findMatches_38 rfl (lv_at hl 0 rfl) ?_
          refine g_IS_9 M hI d_IS_findMatches_39 ?_
          refine lv_iload_n hx hb d_IS_findMatches_42 rfl (lv_at hl 3 rfl) ?_
          refine lv_iload hx hb d_IS_findMatches_43 (lv_at hl 4 rfl) ?_
          refine as_28 M hI o rfl (by omega) d_IS_findMatches_45 (fun H locs hI => ?_)
          have hI : CI g A s (cw g ad (va_up (va_up ar 16 (mmat (ar 13) b (ar 16) (d + 1))) 28 (upd wt o (nI (b + d)))) fl) H locs := hI
          refine lv_iinc (v := nI (o + 1)) (lv' := [(3, .int (nI (o + 1))), (0, .ref (ad 5)), (1, .int (nI b)), (2, .int (nI en)), (4, .int (nI (b + d)))]) hx hb d_IS_findMatches_46 hl (k := 3) rfl (nI_add _ 1) (by decide) rfl (fun ls hl => ?_)
          refine lv_goto (tgt := 106) hx hb d_IS_findMatches_49 (by decide) ?_
          refine lv_iinc (v := nI (b + d + 1)) (lv' := [(4, .int (nI (b + d + 1))), (3, .int (nI (o + 1))), (0, .ref (ad 5)), (1, .int (nI b)), (2, .int (nI en))]) hx hb d_IS_findMatches_106 hl (k := 4) rfl (nI_add _ 1) (by decide) rfl (fun ls hl => ?_)
          refine lv_goto (tgt := 5) hx hb d_IS_findMatches_109 (by decide) ?_
          exact ih5 (d + 1) (o + 1) (upd wt o (nI (b + d))) (by omega) (by first | assumption | omega) (ho2) (hw2) _ _ _ hI (lv_sub hl [2, 3, 4, 1, 0] rfl)
  have hI := CI.to (w2 := cw g ad (va_up (va_up ar 16 (mmat (ar 13) b (ar 16) 0)) 28 (ar 28)) fl) hI (by rfl)
  exact L5 _ 0 0 (ar 28) (Nat.lt_succ_self _) (by first | assumption | omega) (rfl) (fun t h => absurd h (Nat.not_lt_zero t)) _ _ _ hI (lv_sub hl [2, 3, 4, 1, 0] rfl)
abbrev rm_IS_directionIn : Room := { frames := 1, cells := 0, slots := 0, locals := 40 }
set_option maxHeartbeats 4000000 in
set_option maxRecDepth 100000 in
theorem c_IS_directionIn (l : Launch) (g : Geo) (ad : Nat → Nat) (ar : Nat → Nat → Int32) (fl : Nat → Int32) (b : Nat) (en : Nat) (hb0 : b ≤ 2001) (he : en ≤ 2000) (hmt : okM (ar 16)) : cMi l y_IS_directionIn (.code y_IS_directionIn b_IS_directionIn 5 (some .int) :: gw) rm_IS_directionIn g [.ref (ad 5), .int (nI b), .int (nI en)] (cw g ad ar fl) (fun (r : Int32) (_ : Unit) => r = DI (ar 13) (ar 16) en b) (fun (_ : Unit) => cw g ad ar fl) 0 0 := by
  refine cMi_of (by decide) (Nat.le_of_ble_eq_true rfl) ?_
  intro p e s m below meth c A Q ls M hret hl hI
  have M : MC p s m ([.ref (ad 5), .int (nI b), .int (nI en)] : List Value).toArray meth c R_IS b_IS_directionIn 5 := M
  have hl : lv_has ls 5 [(0, .ref (ad 5)), (1, .int (nI b)), (2, .int (nI en))] := hl
  generalize ([.ref (ad 5), .int (nI b), .int (nI en)] : List Value).toArray = args at M hret ⊢
  have hx := M.1
  have hb := M.2.1
  refine lv_iload_n hx hb d_IS_directionIn_0 rfl (lv_at hl 1 rfl) ?_
  refine lv_istore_n (lv' := [(3, .int (nI b)), (0, .ref (ad 5)), (1, .int (nI b)), (2, .int (nI en))]) hx hb d_IS_directionIn_1 rfl hl (by decide) rfl (fun ls hl => ?_)
  have L2 : ∀ (fu : Nat) (i : Nat), (2002 - i) < fu → (i ≤ 2001) → (DI (ar 13) (ar 16) en b = DI (ar 13) (ar 16) en i) → ∀ (H : Heap) (locs : List Loc) (ls : Array Slot), CI g A s (cw g ad ar fl) H locs → lv_has ls 5 [(0, .ref (ad 5)), (2, .int (nI en)), (3, .int (nI i))] → W p l e rm_IS_directionIn s m args below meth c H locs 0 0 Q (F0 m 2 ls []) := by
    intro fu
    induction fu with
    | zero => intro i hm; exact absurd hm (Nat.not_lt_zero _)
    | succ fu ih2 =>
      intro i hm hi hq H locs ls hI hl
      refine lv_iload_n hx hb d_IS_directionIn_2 rfl (lv_at hl 2 rfl) ?_
      refine lv_iload_n hx hb d_IS_directionIn_3 rfl (lv_at hl 1 rfl) ?_
      refine lv_icmp_ge (tgt := 84) hx hb d_IS_directionIn_4 (by decide) (fun c4 => ?_) (fun c4 => ?_)
      · have c4 : en ≤ i := (nI_leI (a := en) (b := i) (by omega) (by omega)).mp c4
        refine lv_iconst (v := 0) hx hb d_IS_directionIn_84 (by decide) ?_
        exact hret 0 () _ _ _ _ _ _ d_IS_directionIn_85 hI (by rw [hq, DI_ge c4]) (Nat.le_refl 0) (Nat.le_refl 0)
      · have c4 : ¬ en ≤ i := fun h => c4 ((nI_leI (a := en) (b := i) (by omega) (by omega)).mpr h)
        have hst := DI_eq (fst := ar 13) (mt := ar 16) (en := en) (i := i) (by omega)
        refine lv_aload_n hx hb d_IS_directionIn_7 rfl (lv_at hl 0 rfl) ?_
        refine g_IS_15 M hI d_IS_directionIn_8 ?_
        refine g_IS_24 M hI d_IS_directionIn_11 ?_
        refine lv_iload_n hx hb d_IS_directionIn_14 rfl (lv_at hl 2 rfl) ?_
        refine al_13 M hI i rfl (by omega) d_IS_directionIn_15 ?_
        refine lv_istore (lv' := [(4, .int (ar 13 i)), (0, .ref (ad 5)), (2, .int (nI en)), (3, .int (nI i))]) hx hb d_IS_directionIn_16 hl (by decide) rfl (fun ls hl => ?_)
        refine lv_iload hx hb d_IS_directionIn_18 (lv_at hl 0 rfl) ?_
        refine lv_if_ne (tgt := 25) hx hb d_IS_directionIn_20 (by decide) (fun c20 => ?_) (fun c20 => ?_)
        · refine lv_iload hx hb d_IS_directionIn_25 (lv_at hl 0 rfl) ?_
          refine lv_iconst (v := 1) hx hb d_IS_directionIn_27 (by decide) ?_
          refine lv_icmp_eq (tgt := 37) hx hb d_IS_directionIn_28 (by decide) (fun c28 => ?_) (fun c28 => ?_)
          · have hs12 : ar 13 i = 1 ∨ ar 13 i = 2 := Or.inl c28
            refine lv_iconst (v := 1) hx hb d_IS_directionIn_37 (by decide) ?_
            exact hret 1 () _ _ _ _ _ _ d_IS_directionIn_38 hI (by rw [hq, hst, if_neg c20, if_pos hs12]) (Nat.le_refl 0) (Nat.le_refl 0)
          · refine lv_iload hx hb d_IS_directionIn_31 (lv_at hl 0 rfl) ?_
            refine lv_iconst (v := 2) hx hb d_IS_directionIn_33 (by decide) ?_
            refine lv_icmp_ne (tgt := 39) hx hb d_IS_directionIn_34 (by decide) (fun c34 => ?_) (fun c34 => ?_)
            · have hs12 : ¬ (ar 13 i = 1 ∨ ar 13 i = 2) := fun q => q.elim c28 c34
              refine lv_iload hx hb d_IS_directionIn_39 (lv_at hl 0 rfl) ?_
              refine q_calliSN [.int (ar 13 i)] M hI (c_BL_isIsolate l g (cw g ad ar fl) (ar 13 i)) ok_BL_isIsolate (List.mem_of_getElem? (i := 2) rfl) m3_69 rfl rfl hl.1 ⟨rfl, rfl⟩ ⟨Nat.le_of_ble_eq_true rfl, Nat.le_of_ble_eq_true rfl⟩ (Nat.le_of_ble_eq_true rfl) ⟨Nat.le_of_ble_eq_true rfl, Nat.le_of_ble_eq_true rfl⟩ d_IS_directionIn_41 (fun r41 u41 H locs hp41 hI => ?_)
              refine q_as (y := bI (isol (ar 13 i))) hp41 ?_
              refine lv_if_eq (tgt := 78) hx hb d_IS_directionIn_44 (by decide) (fun c44 => ?_) (fun c44 => ?_)
              · have c44 := bI_eq0.mp c44
                have hq2 : DI (ar 13) (ar 16) en b = DI (ar 13) (ar 16) en (i + 1) := by rw [hq, hst, if_neg c20, if_neg hs12, if_neg c44]
                refine lv_iinc (v := nI (i + 1)) (lv' := [(3, .int (nI (i + 1))), (4, .int (ar 13 i)), (0, .ref (ad 5)), (2, .int (nI en))]) hx hb d_IS_directionIn_78 hl (k := 3) rfl (nI_add _ 1) (by decide) rfl (fun ls hl => ?_)
                refine lv_goto (tgt := 2) hx hb d_IS_directionIn_81 (by decide) ?_
                exact ih2 (i + 1) (by omega) (by first | assumption | omega) (hq2) _ _ _ hI (lv_sub hl [2, 3, 0] rfl)
              · have c44 := bI_ne0.mp c44
                refine lv_iload_n hx hb d_IS_directionIn_47 rfl (lv_at hl 3 rfl) ?_
                refine lv_aload_n hx hb d_IS_directionIn_48 rfl (lv_at hl 1 rfl) ?_
                refine g_IS_15 M hI d_IS_directionIn_49 ?_
                refine g_IS_19 M hI d_IS_directionIn_52 ?_
                refine lv_iload_n hx hb d_IS_directionIn_55 rfl (lv_at hl 3 rfl) ?_
                refine al_16 M hI i rfl (by omega) d_IS_directionIn_56 ?_
                refine lv_iconst (v := (-1)) hx hb d_IS_directionIn_57 (by decide) ?_
                refine lv_icmp_ne (tgt := 65) hx hb d_IS_directionIn_58 (by decide) (fun c58 => ?_) (fun c58 => ?_)
                · obtain ⟨kk, hkk, hk⟩ := (hmt i (by omega)).resolve_left c58
                  have hq2 : DI (ar 13) (ar 16) en b = DI (ar 13) (ar 16) en (max i kk + 1) := by rw [hq, hst, if_neg c20, if_neg hs12, if_pos c44, if_neg c58, hk, nI_clamp (by omega)]
                  refine lv_aload_n hx hb d_IS_directionIn_65 rfl (lv_at hl 1 rfl) ?_
                  refine g_IS_15 M hI d_IS_directionIn_66 ?_
                  refine g_IS_19 M hI d_IS_directionIn_69 ?_
                  refine lv_iload_n hx hb d_IS_directionIn_72 rfl (lv_at hl 3 rfl) ?_
                  refine al_16 M hI i rfl (by omega) d_IS_directionIn_73 ?_
                  refine q_as (y := nI kk) (hk) ?_
                  refine va_mmax hx hb (by rw [hl.1]; exact M.2.2.1) M.2.2.2.1 (M.2.2.2.2.1 _ m3_75) (M.2.2.2.2.1 _ m3_76) (M.2.2.2.2.1 _ m1_18) (M.2.2.2.2.1 _ m3_77) (Nat.le_of_ble_eq_true rfl) (Nat.le_of_ble_eq_true rfl) (Nat.le_of_ble_eq_true rfl) (Nat.le_of_ble_eq_true rfl) d_IS_directionIn_74 ?_
                  refine q_as (y := nI (max i kk)) (nI_max (by omega) (by omega)) ?_
                  refine lv_istore_n (lv' := [(3, .int (nI (max i kk))), (4, .int (ar 13 i)), (0, .ref (ad 5)), (2, .int (nI en))]) hx hb d_IS_directionIn_77 rfl hl (by decide) rfl (fun ls hl => ?_)
                  refine lv_iinc (v := nI (max i kk + 1)) (lv' := [(3, .int (nI (max i kk + 1))), (4, .int (ar 13 i)), (0, .ref (ad 5)), (2, .int (nI en))]) hx hb d_IS_directionIn_78 hl (k := 0) rfl (nI_add _ 1) (by decide) rfl (fun ls hl => ?_)
                  refine lv_goto (tgt := 2) hx hb d_IS_directionIn_81 (by decide) ?_
                  exact ih2 (max i kk + 1) (by omega) (by first | assumption | omega) (hq2) _ _ _ hI (lv_sub hl [2, 3, 0] rfl)
                · have hq2 : DI (ar 13) (ar 16) en b = DI (ar 13) (ar 16) en (max i en + 1) := by rw [hq, hst, if_neg c20, if_neg hs12, if_pos c44, if_pos c58]
                  refine lv_iload_n hx hb d_IS_directionIn_61 rfl (lv_at hl 2 rfl) ?_
                  refine lv_goto (tgt := 74) hx hb d_IS_directionIn_62 (by decide) ?_
                  refine va_mmax hx hb (by rw [hl.1]; exact M.2.2.1) M.2.2.2.1 (M.2.2.2.2.1 _ m3_75) (M.2.2.2.2.1 _ m3_76) (M.2.2.2.2.1 _ m1_18) (M.2.2.2.2.1 _ m3_77) (Nat.le_of_ble_eq_true rfl) (Nat.le_of_ble_eq_true rfl) (Nat.le_of_ble_eq_true rfl) (Nat.le_of_ble_eq_true rfl) d_IS_directionIn_74 ?_
                  refine q_as (y := nI (max i en)) (nI_max (by omega) (by omega)) ?_
                  refine lv_istore_n (lv' := [(3, .int (nI (max i en))), (4, .int (ar 13 i)), (0, .ref (ad 5)), (2, .int (nI en))]) hx hb d_IS_directionIn_77 rfl hl (by decide) rfl (fun ls hl => ?_)
                  refine lv_iinc (v := nI (max i en + 1)) (lv' := [(3, .int (nI (max i en + 1))), (4, .int (ar 13 i)), (0, .ref (ad 5)), (2, .int (nI en))]) hx hb d_IS_directionIn_78 hl (k := 0) rfl (nI_add _ 1) (by decide) rfl (fun ls hl => ?_)
                  refine lv_goto (tgt := 2) hx hb d_IS_directionIn_81 (by decide) ?_
                  exact ih2 (max i en + 1) (by omega) (by first | assumption | omega) (hq2) _ _ _ hI (lv_sub hl [2, 3, 0] rfl)
            · have hs12 : ar 13 i = 1 ∨ ar 13 i = 2 := Or.inr c34
              refine lv_iconst (v := 1) hx hb d_IS_directionIn_37 (by decide) ?_
              exact hret 1 () _ _ _ _ _ _ d_IS_directionIn_38 hI (by rw [hq, hst, if_neg c20, if_pos hs12]) (Nat.le_refl 0) (Nat.le_refl 0)
        · have hr0 := (hq.trans (DI_eq (by omega))).trans (if_pos c20)
          refine lv_iconst (v := 0) hx hb d_IS_directionIn_23 (by decide) ?_
          exact hret 0 () _ _ _ _ _ _ d_IS_directionIn_24 hI (by rw [hq, hst, if_pos c20]) (Nat.le_refl 0) (Nat.le_refl 0)
  exact L2 _ b (Nat.lt_succ_self _) (by first | assumption | omega) (rfl) _ _ _ hI (lv_sub hl [1, 3, 0] rfl)
abbrev rm_IS_directionOfIsolate : Room := { frames := 2, cells := 0, slots := 0, locals := 64 }
set_option maxHeartbeats 4000000 in
set_option maxRecDepth 100000 in
theorem c_IS_directionOfIsolate (l : Launch) (g : Geo) (ad : Nat → Nat) (ar : Nat → Nat → Int32) (fl : Nat → Int32) (q : Nat) (pe : Nat) (hq : q < 2000) (hpe : pe ≤ 2000) (hmt : okM (ar 16)) : cMi l y_IS_directionOfIsolate (.code y_IS_directionOfIsolate b_IS_directionOfIsolate 5 (some .int) :: gw) rm_IS_directionOfIsolate g [.ref (ad 5), .int (nI q), .int (nI pe)] (cw g ad ar fl) (fun (r : Int32) (_ : Unit) => r = dirIso (ar 13) (ar 16) q pe) (fun (_ : Unit) => cw g ad ar fl) 0 0 := by
  refine cMi_of (by decide) (Nat.le_of_ble_eq_true rfl) ?_
  intro p e s m below meth c A Q ls M hret hl hI
  have M : MC p s m ([.ref (ad 5), .int (nI q), .int (nI pe)] : List Value).toArray meth c R_IS b_IS_directionOfIsolate 5 := M
  have hl : lv_has ls 5 [(0, .ref (ad 5)), (1, .int (nI q)), (2, .int (nI pe))] := hl
  generalize ([.ref (ad 5), .int (nI q), .int (nI pe)] : List Value).toArray = args at M hret ⊢
  have hx := M.1
  have hb := M.2.1
  refine lv_aload_n hx hb d_IS_directionOfIsolate_0 rfl (lv_at hl 0 rfl) ?_
  refine g_IS_15 M hI d_IS_directionOfIsolate_1 ?_
  refine g_IS_24 M hI d_IS_directionOfIsolate_4 ?_
  refine lv_iload_n hx hb d_IS_directionOfIsolate_7 rfl (lv_at hl 1 rfl) ?_
  refine al_13 M hI q rfl (by omega) d_IS_directionOfIsolate_8 ?_
  refine lv_istore_n (lv' := [(3, .int (ar 13 q)), (0, .ref (ad 5)), (1, .int (nI q)), (2, .int (nI pe))]) hx hb d_IS_directionOfIsolate_9 rfl hl (by decide) rfl (fun ls hl => ?_)
  refine lv_iload_n hx hb d_IS_directionOfIsolate_10 rfl (lv_at hl 0 rfl) ?_
  refine lv_bipush (v := 21) hx hb d_IS_directionOfIsolate_11 (by decide) ?_
  refine lv_icmp_ne (tgt := 47) hx hb d_IS_directionOfIsolate_13 (by decide) (fun c13 => ?_) (fun c13 => ?_)
  · refine lv_iload_n hx hb d_IS_directionOfIsolate_47 rfl (lv_at hl 0 rfl) ?_
    refine lv_bipush (v := 20) hx hb d_IS_directionOfIsolate_48 (by decide) ?_
    refine lv_icmp_ne (tgt := 57) hx hb d_IS_directionOfIsolate_50 (by decide) (fun c50 => ?_) (fun c50 => ?_)
    · refine lv_iconst (v := 0) hx hb d_IS_directionOfIsolate_57 (by decide) ?_
      exact hret 0 () _ _ _ _ _ _ d_IS_directionOfIsolate_58 hI (by unfold dirIso; rw [if_neg c13]; first | rw [if_pos c50] | rw [if_neg c50]) (Nat.le_refl 0) (Nat.le_refl 0)
    · refine lv_iconst (v := 1) hx hb d_IS_directionOfIsolate_53 (by decide) ?_
      refine lv_goto (tgt := 58) hx hb d_IS_directionOfIsolate_54 (by decide) ?_
      exact hret 1 () _ _ _ _ _ _ d_IS_directionOfIsolate_58 hI (by unfold dirIso; rw [if_neg c13]; first | rw [if_pos c50] | rw [if_neg c50]) (Nat.le_refl 0) (Nat.le_refl 0)
  · refine lv_aload_n hx hb d_IS_directionOfIsolate_16 rfl (lv_at hl 1 rfl) ?_
    refine g_IS_15 M hI d_IS_directionOfIsolate_17 ?_
    refine g_IS_19 M hI d_IS_directionOfIsolate_20 ?_
    refine lv_iload_n hx hb d_IS_directionOfIsolate_23 rfl (lv_at hl 2 rfl) ?_
    refine al_16 M hI q rfl (by omega) d_IS_directionOfIsolate_24 ?_
    refine lv_istore (lv' := [(4, .int (ar 16 q)), (3, .int (ar 13 q)), (0, .ref (ad 5)), (1, .int (nI q)), (2, .int (nI pe))]) hx hb d_IS_directionOfIsolate_25 hl (by decide) rfl (fun ls hl => ?_)
    refine lv_aload_n hx hb d_IS_directionOfIsolate_27 rfl (lv_at hl 2 rfl) ?_
    refine lv_iload_n hx hb d_IS_directionOfIsolate_28 rfl (lv_at hl 3 rfl) ?_
    refine lv_iconst (v := 1) hx hb d_IS_directionOfIsolate_29 (by decide) ?_
    refine lv_iadd hx hb d_IS_directionOfIsolate_30 ?_
    refine q_as (y := nI (q + 1)) (nI_add q 1) ?_
    refine lv_iload hx hb d_IS_directionOfIsolate_31 (lv_at hl 0 rfl) ?_
    refine lv_iconst (v := (-1)) hx hb d_IS_directionOfIsolate_33 (by decide) ?_
    refine lv_icmp_ne (tgt := 41) hx hb d_IS_directionOfIsolate_34 (by decide) (fun c34 => ?_) (fun c34 => ?_)
    · obtain ⟨kk, hkk, hk⟩ := (hmt q (by omega)).resolve_left c34
      rw [hk] at hl
      refine lv_iload hx hb d_IS_directionOfIsolate_41 (lv_at hl 0 rfl) ?_
      refine q_calliV [.int (nI (q + 1)), .int (nI kk)] M hI (c_IS_directionIn l g ad ar fl (q + 1) kk (by first | exact hb0 | assumption | omega | rfl) (by first | exact he | assumption | omega | rfl) (by first | exact hmt | assumption | omega | rfl)) ok_IS_directionIn m3_121 m3_72 m3_73 5 rfl rfl rfl rfl hl.1 ⟨rfl, rfl⟩ ⟨Nat.le_of_ble_eq_true rfl, Nat.le_of_ble_eq_true rfl⟩ (Nat.le_of_ble_eq_true rfl) ⟨Nat.le_of_ble_eq_true rfl, Nat.le_of_ble_eq_true rfl⟩ d_IS_directionOfIsolate_43 (fun r43 u43 H locs hp43 hI => ?_)
      refine q_as (y := DI (ar 13) (ar 16) kk (q + 1)) hp43 ?_
      exact hret (DI (ar 13) (ar 16) kk (q + 1)) () _ _ _ _ _ _ d_IS_directionOfIsolate_46 hI (by unfold dirIso; rw [if_pos c13]; first | rw [if_pos c34] | rw [if_neg c34, hk, nI_clamp (by omega)]) (Nat.le_refl 0) (Nat.le_refl 0)
    · refine lv_iload_n hx hb d_IS_directionOfIsolate_37 rfl (lv_at hl 4 rfl) ?_
      refine lv_goto (tgt := 43) hx hb d_IS_directionOfIsolate_38 (by decide) ?_
      refine q_calliV [.int (nI (q + 1)), .int (nI pe)] M hI (c_IS_directionIn l g ad ar fl (q + 1) pe (by first | exact hb0 | assumption | omega | rfl) (by first | exact he | assumption | omega | rfl) (by first | exact hmt | assumption | omega | rfl)) ok_IS_directionIn m3_121 m3_72 m3_73 5 rfl rfl rfl rfl hl.1 ⟨rfl, rfl⟩ ⟨Nat.le_of_ble_eq_true rfl, Nat.le_of_ble_eq_true rfl⟩ (Nat.le_of_ble_eq_true rfl) ⟨Nat.le_of_ble_eq_true rfl, Nat.le_of_ble_eq_true rfl⟩ d_IS_directionOfIsolate_43 (fun r43 u43 H locs hp43 hI => ?_)
      refine q_as (y := DI (ar 13) (ar 16) pe (q + 1)) hp43 ?_
      exact hret (DI (ar 13) (ar 16) pe (q + 1)) () _ _ _ _ _ _ d_IS_directionOfIsolate_46 hI (by unfold dirIso; rw [if_pos c13]; first | rw [if_pos c34] | rw [if_neg c34, hk, nI_clamp (by omega)]) (Nat.le_refl 0) (Nat.le_refl 0)
