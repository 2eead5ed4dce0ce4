/-! 41: Line.setLevels, turnRows, show -/
theorem nI_min {a b : Nat} (ha : a < 2 ^ 31) (hb : b < 2 ^ 31) : (if nI b < nI a then nI b else nI a) = nI (min a b) := by
  by_cases h : b < a
  · rw [if_pos (nI_lt h ha), show min a b = b by omega]
  · rw [if_neg (nI_nlt (by omega) hb), show min a b = a by omega]
abbrev rm_LN_setLevels : Room := { frames := 1, cells := 0, slots := 0, locals := 20 }
set_option maxHeartbeats 4000000 in
set_option maxRecDepth 100000 in
theorem c_LN_setLevels (l : Launch) (g : Geo) (ad : Nat → Nat) (ar : Nat → Nat → Int32) (fl : Nat → Int32) (fr : Nat) (to : Nat) (base : Nat) (hft : fr ≤ to) (hto : to ≤ 2000) : cMv l y_LN_setLevels (.code y_LN_setLevels b_LN_setLevels 9 none :: gw) rm_LN_setLevels g [.ref (ad 11), .int (nI fr), .int (nI to), .int (nI base)] (cw g ad ar fl) (fun (_ : Unit) => True) (fun (_ : Unit) => cw g ad (va_up ar 42 ((lnS (ar 15) (ar 13) base to (ar 42) (to - fr)).2)) fl) 0 0 := by
  refine cMv_of (by decide) (Nat.le_of_ble_eq_true rfl) ?_
  intro p e s m below meth c A Q ls M hnm hret hl hI
  have M : MC p s m ([.ref (ad 11), .int (nI fr), .int (nI to), .int (nI base)] : List Value).toArray meth c R_LN b_LN_setLevels 9 := M
  have hl : lv_has ls 9 [(0, .ref (ad 11)), (1, .int (nI fr)), (2, .int (nI to)), (3, .int (nI base))] := hl
  generalize ([.ref (ad 11), .int (nI fr), .int (nI to), .int (nI base)] : List Value).toArray = args at M hret ⊢
  have hx := M.1
  have hb := M.2.1
  refine lv_iconst (v := 1) hx hb d_LN_setLevels_0 (by decide) ?_
  refine q_as (y := bz (lnS (ar 15) (ar 13) base to (ar 42) (to - to)).1) (by rw [Nat.sub_self]; rfl) ?_
  refine lv_istore (lv' := [(4, .int (bz (lnS (ar 15) (ar 13) base to (ar 42) (to - to)).1)), (0, .ref (ad 11)), (1, .int (nI fr)), (2, .int (nI to)), (3, .int (nI base))]) hx hb d_LN_setLevels_1 hl (by decide) rfl (fun ls hl => ?_)
  refine lv_iload_n hx hb d_LN_setLevels_3 rfl (lv_at hl 3 rfl) ?_
  refine lv_iconst (v := 1) hx hb d_LN_setLevels_4 (by decide) ?_
  refine lv_isub hx hb d_LN_setLevels_5 ?_
  refine lv_istore (lv' := [(5, .int ((nI to) - 1)), (4, .int (bz (lnS (ar 15) (ar 13) base to (ar 42) (to - to)).1)), (0, .ref (ad 11)), (1, .int (nI fr)), (2, .int (nI to)), (3, .int (nI base))]) hx hb d_LN_setLevels_6 hl (by decide) rfl (fun ls hl => ?_)
  have L8 : ∀ (fu : Nat) (z : Nat), z < fu → (fr ≤ z) → (z ≤ to) → ∀ (H : Heap) (locs : List Loc) (ls : Array Slot), CI g A s (cw g ad (va_up ar 42 ((lnS (ar 15) (ar 13) base to (ar 42) (to - z)).2)) fl) H locs → lv_has ls 9 [(0, .ref (ad 11)), (1, .int (nI fr)), (2, .int (nI to)), (3, .int (nI base)), (4, .int (bz (lnS (ar 15) (ar 13) base to (ar 42) (to - z)).1)), (5, .int (nI z - 1))] → W p l e rm_LN_setLevels s m args below meth c H locs 0 0 Q (F0 m 8 ls []) := by
    intro fu
    induction fu with
    | zero => intro z hm; exact absurd hm (Nat.not_lt_zero _)
    | succ fu ih8 =>
      intro z hm hz hz2 H locs ls hI hl
      refine lv_iload hx hb d_LN_setLevels_8 (lv_at hl 5 rfl) ?_
      refine lv_iload_n hx hb d_LN_setLevels_10 rfl (lv_at hl 1 rfl) ?_
      refine lv_icmp_lt (tgt := 145) hx hb d_LN_setLevels_11 (by decide) (fun c11 => ?_) (fun c11 => ?_)
      · have c11 := (nI_m1lt (by omega) (by omega)).mp c11
        have hI := CI.to (w2 := cw g ad (va_up ar 42 ((lnS (ar 15) (ar 13) base to (ar 42) (to - fr)).2)) fl) hI (by rw [show to - fr = to - z by omega])
        exact hret () _ _ _ _ _ _ d_LN_setLevels_145 hI (trivial) (Nat.le_refl 0) (Nat.le_refl 0)
      · have c11 : ¬ z < fr + 1 := fun q => c11 ((nI_m1lt (by omega) (by omega)).mpr q)
        obtain ⟨j, rfl⟩ : ∃ j, z = j + 1 := ⟨z - 1, by omega⟩
        rw [nI_pred] at hl
        have hls := lnS_s (lv := ar 15) (fst := ar 13) (f0 := ar 42) (base := base) (to := to) (j := j) (by omega)
        refine lv_aload_n hx hb d_LN_setLevels_14 rfl (lv_at hl 0 rfl) ?_
        refine g_LN_15 M hI d_LN_setLevels_15 ?_
        refine lv_iload hx hb d_LN_setLevels_18 (lv_at hl 5 rfl) ?_
        refine lv_aload_n hx hb d_LN_setLevels_20 rfl (lv_at hl 0 rfl) ?_
        refine g_LN_25 M hI d_LN_setLevels_21 ?_
        refine g_LN_43 M hI d_LN_setLevels_24 ?_
        refine lv_iload hx hb d_LN_setLevels_27 (lv_at hl 5 rfl) ?_
        refine al_15 M hI j rfl (by omega) d_LN_setLevels_29 ?_
        refine q_as (y := ar 15 j) rfl ?_
        refine as_42 M hI j rfl (by omega) d_LN_setLevels_30 (fun H locs hI => ?_)
        have hI : CI g A s (cw g ad (va_up ar 42 (upd ((lnS (ar 15) (ar 13) base to (ar 42) (to - (j + 1))).2) j (ar 15 j))) fl) H locs := hI
        refine lv_aload_n hx hb d_LN_setLevels_31 rfl (lv_at hl 0 rfl) ?_
        refine g_LN_15 M hI d_LN_setLevels_32 ?_
        refine lv_iload hx hb d_LN_setLevels_35 (lv_at hl 5 rfl) ?_
        refine al_42 M hI j rfl (by omega) d_LN_setLevels_37 ?_
        refine q_as (y := ar 15 j) (pk_us) ?_
        refine lv_iconst (v := (-1)) hx hb d_LN_setLevels_38 (by decide) ?_
        refine lv_icmp_eq (tgt := 139) hx hb d_LN_setLevels_39 (by decide) (fun c39 => ?_) (fun c39 => ?_)
        · have eS : lnS (ar 15) (ar 13) base to (ar 42) (to - j) = ((lnS (ar 15) (ar 13) base to (ar 42) (to - (j + 1))).1, upd (lnS (ar 15) (ar 13) base to (ar 42) (to - (j + 1))).2 j (ar 15 j)) := by rw [hls, if_pos c39, c39]
          have e1 := congrArg Prod.fst eS
          simp only at e1
          rw [← e1] at hl
          have hI := CI.to (w2 := cw g ad (va_up ar 42 ((lnS (ar 15) (ar 13) base to (ar 42) (to - j)).2)) fl) hI (by rw [eS])
          refine lv_iinc (v := nI j - 1) (lv' := [(5, .int (nI j - 1)), (0, .ref (ad 11)), (1, .int (nI fr)), (2, .int (nI to)), (3, .int (nI base)), (4, .int (bz (lnS (ar 15) (ar 13) base to (ar 42) (to - j)).1))]) hx hb d_LN_setLevels_139 hl (k := 5) rfl (nI_dec j) (by decide) rfl (fun ls hl => ?_)
          refine lv_goto (tgt := 8) hx hb d_LN_setLevels_142 (by decide) ?_
          exact ih8 j (by omega) (by first | assumption | omega) (by first | assumption | omega) _ _ _ hI (lv_sub hl [1, 2, 3, 4, 5, 0] rfl)
        · refine lv_aload_n hx hb d_LN_setLevels_42 rfl (lv_at hl 0 rfl) ?_
          refine g_LN_25 M hI d_LN_setLevels_43 ?_
          refine g_LN_46 M hI d_LN_setLevels_46 ?_
          refine lv_iload hx hb d_LN_setLevels_49 (lv_at hl 5 rfl) ?_
          refine al_13 M hI j rfl (by omega) d_LN_setLevels_51 ?_
          refine q_as (y := ar 13 j) rfl ?_
          refine lv_istore (lv' := [(6, .int (ar 13 j)), (0, .ref (ad 11)), (1, .int (nI fr)), (2, .int (nI to)), (3, .int (nI base)), (4, .int (bz (lnS (ar 15) (ar 13) base to (ar 42) (to - (j + 1))).1)), (5, .int (nI j))]) hx hb d_LN_setLevels_52 hl (by decide) rfl (fun ls hl => ?_)
          refine lv_iload hx hb d_LN_setLevels_54 (lv_at hl 0 rfl) ?_
          refine lv_bipush (v := 11) hx hb d_LN_setLevels_56 (by decide) ?_
          refine lv_icmp_eq (tgt := 68) hx hb d_LN_setLevels_58 (by decide) (fun c58 => ?_) (fun c58 => ?_)
          · have hpt : lprt (ar 13 j) := Or.inl c58
            refine lv_iconst (v := 1) hx hb d_LN_setLevels_68 (by decide) ?_
            refine lv_goto (tgt := 73) hx hb d_LN_setLevels_69 (by decide) ?_
            refine lv_istore (lv' := [(7, .int 1), (6, .int (ar 13 j)), (0, .ref (ad 11)), (1, .int (nI fr)), (2, .int (nI to)), (3, .int (nI base)), (4, .int (bz (lnS (ar 15) (ar 13) base to (ar 42) (to - (j + 1))).1)), (5, .int (nI j))]) hx hb d_LN_setLevels_73 hl (by decide) rfl (fun ls hl => ?_)
            refine lv_iload hx hb d_LN_setLevels_75 (lv_at hl 1 rfl) ?_
            refine lv_bipush (v := 12) hx hb d_LN_setLevels_77 (by decide) ?_
            refine lv_icmp_eq (tgt := 97) hx hb d_LN_setLevels_79 (by decide) (fun c79 => ?_) (fun c79 => ?_)
            · have hbl : lblk (ar 13 j) := Or.inl c79
              refine lv_iconst (v := 1) hx hb d_LN_setLevels_97 (by decide) ?_
              refine lv_goto (tgt := 102) hx hb d_LN_setLevels_98 (by decide) ?_
              refine lv_istore (lv' := [(8, .int 1), (7, .int 1), (6, .int (ar 13 j)), (0, .ref (ad 11)), (1, .int (nI fr)), (2, .int (nI to)), (3, .int (nI base)), (4, .int (bz (lnS (ar 15) (ar 13) base to (ar 42) (to - (j + 1))).1)), (5, .int (nI j))]) hx hb d_LN_setLevels_102 hl (by decide) rfl (fun ls hl => ?_)
              refine lv_iload hx hb d_LN_setLevels_104 (lv_at hl 1 rfl) ?_
              refine lv_if_ne (tgt := 119) hx hb d_LN_setLevels_106 (by decide) (fun c106 => ?_) (fun c106 => ?_)
              · have c106 : ¬ 1 = 0 := fun h => c106 ((nI_eq (a := 1) (b := 0) (by omega) (by omega)).mpr h)
                refine lv_iconst (v := 1) hx hb d_LN_setLevels_119 (by decide) ?_
                refine q_as (y := bz (nAt (ar 13 j) (lnS (ar 15) (ar 13) base to (ar 42) (to - (j + 1))).1)) (by rw [show nAt (ar 13 j) (lnS (ar 15) (ar 13) base to (ar 42) (to - (j + 1))).1 = true by unfold nAt; first | (rw [decide_eq_true hpt]; rfl) | (rw [hae, decide_eq_true hbl, Bool.and_self, Bool.or_true])]; rfl) ?_
                refine lv_goto (tgt := 124) hx hb d_LN_setLevels_120 (by decide) ?_
                refine lv_istore (lv' := [(4, .int (bz (nAt (ar 13 j) (lnS (ar 15) (ar 13) base to (ar 42) (to - (j + 1))).1))), (8, .int 1), (7, .int 1), (6, .int (ar 13 j)), (0, .ref (ad 11)), (1, .int (nI fr)), (2, .int (nI to)), (3, .int (nI base)), (5, .int (nI j))]) hx hb d_LN_setLevels_124 hl (by decide) rfl (fun ls hl => ?_)
                refine lv_iload hx hb d_LN_setLevels_126 (lv_at hl 0 rfl) ?_
                refine lv_if_eq (tgt := 139) hx hb d_LN_setLevels_128 (by decide) (fun c128 => ?_) (fun c128 => ?_)
                · have hnb := bz_0 c128
                  have eS : lnS (ar 15) (ar 13) base to (ar 42) (to - j) = (nAt (ar 13 j) (lnS (ar 15) (ar 13) base to (ar 42) (to - (j + 1))).1, upd (lnS (ar 15) (ar 13) base to (ar 42) (to - (j + 1))).2 j (ar 15 j)) := by rw [hls, if_neg c39, if_neg (by rw [hnb]; decide)]
                  have e1 := congrArg Prod.fst eS
                  simp only at e1
                  rw [← e1] at hl
                  have hI := CI.to (w2 := cw g ad (va_up ar 42 ((lnS (ar 15) (ar 13) base to (ar 42) (to - j)).2)) fl) hI (by rw [eS])
                  refine lv_iinc (v := nI j - 1) (lv' := [(5, .int (nI j - 1)), (4, .int (bz (lnS (ar 15) (ar 13) base to (ar 42) (to - j)).1)), (8, .int 1), (7, .int 1), (6, .int (ar 13 j)), (0, .ref (ad 11)), (1, .int (nI fr)), (2, .int (nI to)), (3, .int (nI base))]) hx hb d_LN_setLevels_139 hl (k := 8) rfl (nI_dec j) (by decide) rfl (fun ls hl => ?_)
                  refine lv_goto (tgt := 8) hx hb d_LN_setLevels_142 (by decide) ?_
                  exact ih8 j (by omega) (by first | assumption | omega) (by first | assumption | omega) _ _ _ hI (lv_sub hl [5, 6, 7, 8, 1, 0] rfl)
                · have hnb := bz_1 c128
                  have eS : lnS (ar 15) (ar 13) base to (ar 42) (to - j) = (nAt (ar 13 j) (lnS (ar 15) (ar 13) base to (ar 42) (to - (j + 1))).1, upd (upd (lnS (ar 15) (ar 13) base to (ar 42) (to - (j + 1))).2 j (ar 15 j)) j (nI base)) := by rw [hls, if_neg c39, if_pos hnb, upd_2]
                  refine lv_aload_n hx hb d_LN_setLevels_131 rfl (lv_at hl 4 rfl) ?_
                  refine g_LN_15 M hI d_LN_setLevels_132 ?_
                  refine lv_iload hx hb d_LN_setLevels_135 (lv_at hl 8 rfl) ?_
                  refine lv_iload_n hx hb d_LN_setLevels_137 rfl (lv_at hl 7 rfl) ?_
                  refine as_42 M hI j rfl (by omega) d_LN_setLevels_138 (fun H locs hI => ?_)
                  have hI : CI g A s (cw g ad (va_up ar 42 (upd (upd ((lnS (ar 15) (ar 13) base to (ar 42) (to - (j + 1))).2) j (ar 15 j)) j (nI base))) fl) H locs := hI
                  have e1 := congrArg Prod.fst eS
                  simp only at e1
                  rw [← e1] at hl
                  have hI := CI.to (w2 := cw g ad (va_up ar 42 ((lnS (ar 15) (ar 13) base to (ar 42) (to - j)).2)) fl) hI (by rw [eS])
                  refine lv_iinc (v := nI j - 1) (lv' := [(5, .int (nI j - 1)), (4, .int (bz (lnS (ar 15) (ar 13) base to (ar 42) (to - j)).1)), (8, .int 1), (7, .int 1), (6, .int (ar 13 j)), (0, .ref (ad 11)), (1, .int (nI fr)), (2, .int (nI to)), (3, .int (nI base))]) hx hb d_LN_setLevels_139 hl (k := 8) rfl (nI_dec j) (by decide) rfl (fun ls hl => ?_)
                  refine lv_goto (tgt := 8) hx hb d_LN_setLevels_142 (by decide) ?_
                  exact ih8 j (by omega) (by first | assumption | omega) (by first | assumption | omega) _ _ _ hI (lv_sub hl [5, 6, 7, 8, 1, 0] rfl)
              · have c106 : 1 = 0 := (nI_eq (a := 1) (b := 0) (by omega) (by omega)).mp c106
                exfalso; omega
            · refine lv_iload hx hb d_LN_setLevels_82 (lv_at hl 1 rfl) ?_
              refine q_calliSN [.int (ar 13 j)] M hI (c_BL_isIsolate l g (cw g ad (va_up ar 42 (upd ((lnS (ar 15) (ar 13) base to (ar 42) (to - (j + 1))).2) j (ar 15 j))) fl) (ar 13 j)) ok_BL_isIsolate (List.mem_of_getElem? (i := 11) rfl) m3_69 rfl rfl hl.1 ⟨rfl, rfl⟩ ⟨Nat.le_of_ble_eq_true rfl, Nat.le_of_ble_eq_true rfl⟩ (Nat.le_of_ble_eq_true rfl) ⟨Nat.le_of_ble_eq_true rfl, Nat.le_of_ble_eq_true rfl⟩ d_LN_setLevels_84 (fun r84 u84 H locs hp84 hI => ?_)
              refine q_as (y := bI (isol (ar 13 j))) hp84 ?_
              refine lv_if_ne (tgt := 97) hx hb d_LN_setLevels_87 (by decide) (fun c87 => ?_) (fun c87 => ?_)
              · have c87 := bI_ne0.mp c87
                have hbl : lblk (ar 13 j) := Or.inr (Or.inl c87)
                refine lv_iconst (v := 1) hx hb d_LN_setLevels_97 (by decide) ?_
                refine lv_goto (tgt := 102) hx hb d_LN_setLevels_98 (by decide) ?_
                refine lv_istore (lv' := [(8, .int 1), (7, .int 1), (6, .int (ar 13 j)), (0, .ref (ad 11)), (1, .int (nI fr)), (2, .int (nI to)), (3, .int (nI base)), (4, .int (bz (lnS (ar 15) (ar 13) base to (ar 42) (to - (j + 1))).1)), (5, .int (nI j))]) hx hb d_LN_setLevels_102 hl (by decide) rfl (fun ls hl => ?_)
                refine lv_iload hx hb d_LN_setLevels_104 (lv_at hl 1 rfl) ?_
                refine lv_if_ne (tgt := 119) hx hb d_LN_setLevels_106 (by decide) (fun c106 => ?_) (fun c106 => ?_)
                · have c106 : ¬ 1 = 0 := fun h => c106 ((nI_eq (a := 1) (b := 0) (by omega) (by omega)).mpr h)
                  refine lv_iconst (v := 1) hx hb d_LN_setLevels_119 (by decide) ?_
                  refine q_as (y := bz (nAt (ar 13 j) (lnS (ar 15) (ar 13) base to (ar 42) (to - (j + 1))).1)) (by rw [show nAt (ar 13 j) (lnS (ar 15) (ar 13) base to (ar 42) (to - (j + 1))).1 = true by unfold nAt; first | (rw [decide_eq_true hpt]; rfl) | (rw [hae, decide_eq_true hbl, Bool.and_self, Bool.or_true])]; rfl) ?_
                  refine lv_goto (tgt := 124) hx hb d_LN_setLevels_120 (by decide) ?_
                  refine lv_istore (lv' := [(4, .int (bz (nAt (ar 13 j) (lnS (ar 15) (ar 13) base to (ar 42) (to - (j + 1))).1))), (8, .int 1), (7, .int 1), (6, .int (ar 13 j)), (0, .ref (ad 11)), (1, .int (nI fr)), (2, .int (nI to)), (3, .int (nI base)), (5, .int (nI j))]) hx hb d_LN_setLevels_124 hl (by decide) rfl (fun ls hl => ?_)
                  refine lv_iload hx hb d_LN_setLevels_126 (lv_at hl 0 rfl) ?_
                  refine lv_if_eq (tgt := 139) hx hb d_LN_setLevels_128 (by decide) (fun c128 => ?_) (fun c128 => ?_)
                  · have hnb := bz_0 c128
                    have eS : lnS (ar 15) (ar 13) base to (ar 42) (to - j) = (nAt (ar 13 j) (lnS (ar 15) (ar 13) base to (ar 42) (to - (j + 1))).1, upd (lnS (ar 15) (ar 13) base to (ar 42) (to - (j + 1))).2 j (ar 15 j)) := by rw [hls, if_neg c39, if_neg (by rw [hnb]; decide)]
                    have e1 := congrArg Prod.fst eS
                    simp only at e1
                    rw [← e1] at hl
                    have hI := CI.to (w2 := cw g ad (va_up ar 42 ((lnS (ar 15) (ar 13) base to (ar 42) (to - j)).2)) fl) hI (by rw [eS])
                    refine lv_iinc (v := nI j - 1) (lv' := [(5, .int (nI j - 1)), (4, .int (bz (lnS (ar 15) (ar 13) base to (ar 42) (to - j)).1)), (8, .int 1), (7, .int 1), (6, .int (ar 13 j)), (0, .ref (ad 11)), (1, .int (nI fr)), (2, .int (nI to)), (3, .int (nI base))]) hx hb d_LN_setLevels_139 hl (k := 8) rfl (nI_dec j) (by decide) rfl (fun ls hl => ?_)
                    refine lv_goto (tgt := 8) hx hb d_LN_setLevels_142 (by decide) ?_
                    exact ih8 j (by omega) (by first | assumption | omega) (by first | assumption | omega) _ _ _ hI (lv_sub hl [5, 6, 7, 8, 1, 0] rfl)
                  · have hnb := bz_1 c128
                    have eS : lnS (ar 15) (ar 13) base to (ar 42) (to - j) = (nAt (ar 13 j) (lnS (ar 15) (ar 13) base to (ar 42) (to - (j + 1))).1, upd (upd (lnS (ar 15) (ar 13) base to (ar 42) (to - (j + 1))).2 j (ar 15 j)) j (nI base)) := by rw [hls, if_neg c39, if_pos hnb, upd_2]
                    refine lv_aload_n hx hb d_LN_setLevels_131 rfl (lv_at hl 4 rfl) ?_
                    refine g_LN_15 M hI d_LN_setLevels_132 ?_
                    refine lv_iload hx hb d_LN_setLevels_135 (lv_at hl 8 rfl) ?_
                    refine lv_iload_n hx hb d_LN_setLevels_137 rfl (lv_at hl 7 rfl) ?_
                    refine as_42 M hI j rfl (by omega) d_LN_setLevels_138 (fun H locs hI => ?_)
                    have hI : CI g A s (cw g ad (va_up ar 42 (upd (upd ((lnS (ar 15) (ar 13) base to (ar 42) (to - (j + 1))).2) j (ar 15 j)) j (nI base))) fl) H locs := hI
                    have e1 := congrArg Prod.fst eS
                    simp only at e1
                    rw [← e1] at hl
                    have hI := CI.to (w2 := cw g ad (va_up ar 42 ((lnS (ar 15) (ar 13) base to (ar 42) (to - j)).2)) fl) hI (by rw [eS])
                    refine lv_iinc (v := nI j - 1) (lv' := [(5, .int (nI j - 1)), (4, .int (bz (lnS (ar 15) (ar 13) base to (ar 42) (to - j)).1)), (8, .int 1), (7, .int 1), (6, .int (ar 13 j)), (0, .ref (ad 11)), (1, .int (nI fr)), (2, .int (nI to)), (3, .int (nI base))]) hx hb d_LN_setLevels_139 hl (k := 8) rfl (nI_dec j) (by decide) rfl (fun ls hl => ?_)
                    refine lv_goto (tgt := 8) hx hb d_LN_setLevels_142 (by decide) ?_
                    exact ih8 j (by omega) (by first | assumption | omega) (by first | assumption | omega) _ _ _ hI (lv_sub hl [5, 6, 7, 8, 1, 0] rfl)
                · have c106 : 1 = 0 := (nI_eq (a := 1) (b := 0) (by omega) (by omega)).mp c106
                  exfalso; omega
              · have c87 := bI_eq0.mp c87
                refine lv_iload hx hb d_LN_setLevels_90 (lv_at hl 1 rfl) ?_
                refine lv_bipush (v := 22) hx hb d_LN_setLevels_92 (by decide) ?_
                refine lv_icmp_ne (tgt := 101) hx hb d_LN_setLevels_94 (by decide) (fun c94 => ?_) (fun c94 => ?_)
                · have hbl : ¬ lblk (ar 13 j) := fun q => q.elim c79 (fun q => q.elim c87 c94)
                  refine lv_iconst (v := 0) hx hb d_LN_setLevels_101 (by decide) ?_
                  refine lv_istore (lv' := [(8, .int 0), (7, .int 1), (6, .int (ar 13 j)), (0, .ref (ad 11)), (1, .int (nI fr)), (2, .int (nI to)), (3, .int (nI base)), (4, .int (bz (lnS (ar 15) (ar 13) base to (ar 42) (to - (j + 1))).1)), (5, .int (nI j))]) hx hb d_LN_setLevels_102 hl (by decide) rfl (fun ls hl => ?_)
                  refine lv_iload hx hb d_LN_setLevels_104 (lv_at hl 1 rfl) ?_
                  refine lv_if_ne (tgt := 119) hx hb d_LN_setLevels_106 (by decide) (fun c106 => ?_) (fun c106 => ?_)
                  · have c106 : ¬ 1 = 0 := fun h => c106 ((nI_eq (a := 1) (b := 0) (by omega) (by omega)).mpr h)
                    refine lv_iconst (v := 1) hx hb d_LN_setLevels_119 (by decide) ?_
                    refine q_as (y := bz (nAt (ar 13 j) (lnS (ar 15) (ar 13) base to (ar 42) (to - (j + 1))).1)) (by rw [show nAt (ar 13 j) (lnS (ar 15) (ar 13) base to (ar 42) (to - (j + 1))).1 = true by unfold nAt; first | (rw [decide_eq_true hpt]; rfl) | (rw [hae, decide_eq_true hbl, Bool.and_self, Bool.or_true])]; rfl) ?_
                    refine lv_goto (tgt := 124) hx hb d_LN_setLevels_120 (by decide) ?_
                    refine lv_istore (lv' := [(4, .int (bz (nAt (ar 13 j) (lnS (ar 15) (ar 13) base to (ar 42) (to - (j + 1))).1))), (8, .int 0), (7, .int 1), (6, .int (ar 13 j)), (0, .ref (ad 11)), (1, .int (nI fr)), (2, .int (nI to)), (3, .int (nI base)), (5, .int (nI j))]) hx hb d_LN_setLevels_124 hl (by decide) rfl (fun ls hl => ?_)
                    refine lv_iload hx hb d_LN_setLevels_126 (lv_at hl 0 rfl) ?_
                    refine lv_if_eq (tgt := 139) hx hb d_LN_setLevels_128 (by decide) (fun c128 => ?_) (fun c128 => ?_)
                    · have hnb := bz_0 c128
                      have eS : lnS (ar 15) (ar 13) base to (ar 42) (to - j) = (nAt (ar 13 j) (lnS (ar 15) (ar 13) base to (ar 42) (to - (j + 1))).1, upd (lnS (ar 15) (ar 13) base to (ar 42) (to - (j + 1))).2 j (ar 15 j)) := by rw [hls, if_neg c39, if_neg (by rw [hnb]; decide)]
                      have e1 := congrArg Prod.fst eS
                      simp only at e1
                      rw [← e1] at hl
                      have hI := CI.to (w2 := cw g ad (va_up ar 42 ((lnS (ar 15) (ar 13) base to (ar 42) (to - j)).2)) fl) hI (by rw [eS])
                      refine lv_iinc (v := nI j - 1) (lv' := [(5, .int (nI j - 1)), (4, .int (bz (lnS (ar 15) (ar 13) base to (ar 42) (to - j)).1)), (8, .int 0), (7, .int 1), (6, .int (ar 13 j)), (0, .ref (ad 11)), (1, .int (nI fr)), (2, .int (nI to)), (3, .int (nI base))]) hx hb d_LN_setLevels_139 hl (k := 8) rfl (nI_dec j) (by decide) rfl (fun ls hl => ?_)
                      refine lv_goto (tgt := 8) hx hb d_LN_setLevels_142 (by decide) ?_
                      exact ih8 j (by omega) (by first | assumption | omega) (by first | assumption | omega) _ _ _ hI (lv_sub hl [5, 6, 7, 8, 1, 0] rfl)
                    · have hnb := bz_1 c128
                      have eS : lnS (ar 15) (ar 13) base to (ar 42) (to - j) = (nAt (ar 13 j) (lnS (ar 15) (ar 13) base to (ar 42) (to - (j + 1))).1, upd (upd (lnS (ar 15) (ar 13) base to (ar 42) (to - (j + 1))).2 j (ar 15 j)) j (nI base)) := by rw [hls, if_neg c39, if_pos hnb, upd_2]
                      refine lv_aload_n hx hb d_LN_setLevels_131 rfl (lv_at hl 4 rfl) ?_
                      refine g_LN_15 M hI d_LN_setLevels_132 ?_
                      refine lv_iload hx hb d_LN_setLevels_135 (lv_at hl 8 rfl) ?_
                      refine lv_iload_n hx hb d_LN_setLevels_137 rfl (lv_at hl 7 rfl) ?_
                      refine as_42 M hI j rfl (by omega) d_LN_setLevels_138 (fun H locs hI => ?_)
                      have hI : CI g A s (cw g ad (va_up ar 42 (upd (upd ((lnS (ar 15) (ar 13) base to (ar 42) (to - (j + 1))).2) j (ar 15 j)) j (nI base))) fl) H locs := hI
                      have e1 := congrArg Prod.fst eS
                      simp only at e1
                      rw [← e1] at hl
                      have hI := CI.to (w2 := cw g ad (va_up ar 42 ((lnS (ar 15) (ar 13) base to (ar 42) (to - j)).2)) fl) hI (by rw [eS])
                      refine lv_iinc (v := nI j - 1) (lv' := [(5, .int (nI j - 1)), (4, .int (bz (lnS (ar 15) (ar 13) base to (ar 42) (to - j)).1)), (8, .int 0), (7, .int 1), (6, .int (ar 13 j)), (0, .ref (ad 11)), (1, .int (nI fr)), (2, .int (nI to)), (3, .int (nI base))]) hx hb d_LN_setLevels_139 hl (k := 8) rfl (nI_dec j) (by decide) rfl (fun ls hl => ?_)
                      refine lv_goto (tgt := 8) hx hb d_LN_setLevels_142 (by decide) ?_
                      exact ih8 j (by omega) (by first | assumption | omega) (by first | assumption | omega) _ _ _ hI (lv_sub hl [5, 6, 7, 8, 1, 0] rfl)
                  · have c106 : 1 = 0 := (nI_eq (a := 1) (b := 0) (by omega) (by omega)).mp c106
                    exfalso; omega
                · have hbl : lblk (ar 13 j) := Or.inr (Or.inr c94)
                  refine lv_iconst (v := 1) hx hb d_LN_setLevels_97 (by decide) ?_
                  refine lv_goto (tgt := 102) hx hb d_LN_setLevels_98 (by decide) ?_
                  refine lv_istore (lv' := [(8, .int 1), (7, .int 1), (6, .int (ar 13 j)), (0, .ref (ad 11)), (1, .int (nI fr)), (2, .int (nI to)), (3, .int (nI base)), (4, .int (bz (lnS (ar 15) (ar 13) base to (ar 42) (to - (j + 1))).1)), (5, .int (nI j))]) hx hb d_LN_setLevels_102 hl (by decide) rfl (fun ls hl => ?_)
                  refine lv_iload hx hb d_LN_setLevels_104 (lv_at hl 1 rfl) ?_
                  refine lv_if_ne (tgt := 119) hx hb d_LN_setLevels_106 (by decide) (fun c106 => ?_) (fun c106 => ?_)
                  · have c106 : ¬ 1 = 0 := fun h => c106 ((nI_eq (a := 1) (b := 0) (by omega) (by omega)).mpr h)
                    refine lv_iconst (v := 1) hx hb d_LN_setLevels_119 (by decide) ?_
                    refine q_as (y := bz (nAt (ar 13 j) (lnS (ar 15) (ar 13) base to (ar 42) (to - (j + 1))).1)) (by rw [show nAt (ar 13 j) (lnS (ar 15) (ar 13) base to (ar 42) (to - (j + 1))).1 = true by unfold nAt; first | (rw [decide_eq_true hpt]; rfl) | (rw [hae, decide_eq_true hbl, Bool.and_self, Bool.or_true])]; rfl) ?_
                    refine lv_goto (tgt := 124) hx hb d_LN_setLevels_120 (by decide) ?_
                    refine lv_istore (lv' := [(4, .int (bz (nAt (ar 13 j) (lnS (ar 15) (ar 13) base to (ar 42) (to - (j + 1))).1))), (8, .int 1), (7, .int 1), (6, .int (ar 13 j)), (0, .ref (ad 11)), (1, .int (nI fr)), (2, .int (nI to)), (3, .int (nI base)), (5, .int (nI j))]) hx hb d_LN_setLevels_124 hl (by decide) rfl (fun ls hl => ?_)
                    refine lv_iload hx hb d_LN_setLevels_126 (lv_at hl 0 rfl) ?_
                    refine lv_if_eq (tgt := 139) hx hb d_LN_setLevels_128 (by decide) (fun c128 => ?_) (fun c128 => ?_)
                    · have hnb := bz_0 c128
                      have eS : lnS (ar 15) (ar 13) base to (ar 42) (to - j) = (nAt (ar 13 j) (lnS (ar 15) (ar 13) base to (ar 42) (to - (j + 1))).1, upd (lnS (ar 15) (ar 13) base to (ar 42) (to - (j + 1))).2 j (ar 15 j)) := by rw [hls, if_neg c39, if_neg (by rw [hnb]; decide)]
                      have e1 := congrArg Prod.fst eS
                      simp only at e1
                      rw [← e1] at hl
                      have hI := CI.to (w2 := cw g ad (va_up ar 42 ((lnS (ar 15) (ar 13) base to (ar 42) (to - j)).2)) fl) hI (by rw [eS])
                      refine lv_iinc (v := nI j - 1) (lv' := [(5, .int (nI j - 1)), (4, .int (bz (lnS (ar 15) (ar 13) base to (ar 42) (to - j)).1)), (8, .int 1), (7, .int 1), (6, .int (ar 13 j)), (0, .ref (ad 11)), (1, .int (nI fr)), (2, .int (nI to)), (3, .int (nI base))]) hx hb d_LN_setLevels_139 hl (k := 8) rfl (nI_dec j) (by decide) rfl (fun ls hl => ?_)
                      refine lv_goto (tgt := 8) hx hb d_LN_setLevels_142 (by decide) ?_
                      exact ih8 j (by omega) (by first | assumption | omega) (by first | assumption | omega) _ _ _ hI (lv_sub hl [5, 6, 7, 8, 1, 0] rfl)
                    · have hnb := bz_1 c128
                      have eS : lnS (ar 15) (ar 13) base to (ar 42) (to - j) = (nAt (ar 13 j) (lnS (ar 15) (ar 13) base to (ar 42) (to - (j + 1))).1, upd (upd (lnS (ar 15) (ar 13) base to (ar 42) (to - (j + 1))).2 j (ar 15 j)) j (nI base)) := by rw [hls, if_neg c39, if_pos hnb, upd_2]
                      refine lv_aload_n hx hb d_LN_setLevels_131 rfl (lv_at hl 4 rfl) ?_
                      refine g_LN_15 M hI d_LN_setLevels_132 ?_
                      refine lv_iload hx hb d_LN_setLevels_135 (lv_at hl 8 rfl) ?_
                      refine lv_iload_n hx hb d_LN_setLevels_137 rfl (lv_at hl 7 rfl) ?_
                      refine as_42 M hI j rfl (by omega) d_LN_setLevels_138 (fun H locs hI => ?_)
                      have hI : CI g A s (cw g ad (va_up ar 42 (upd (upd ((lnS (ar 15) (ar 13) base to (ar 42) (to - (j + 1))).2) j (ar 15 j)) j (nI base))) fl) H locs := hI
                      have e1 := congrArg Prod.fst eS
                      simp only at e1
                      rw [← e1] at hl
                      have hI := CI.to (w2 := cw g ad (va_up ar 42 ((lnS (ar 15) (ar 13) base to (ar 42) (to - j)).2)) fl) hI (by rw [eS])
                      refine lv_iinc (v := nI j - 1) (lv' := [(5, .int (nI j - 1)), (4, .int (bz (lnS (ar 15) (ar 13) base to (ar 42) (to - j)).1)), (8, .int 1), (7, .int 1), (6, .int (ar 13 j)), (0, .ref (ad 11)), (1, .int (nI fr)), (2, .int (nI to)), (3, .int (nI base))]) hx hb d_LN_setLevels_139 hl (k := 8) rfl (nI_dec j) (by decide) rfl (fun ls hl => ?_)
                      refine lv_goto (tgt := 8) hx hb d_LN_setLevels_142 (by decide) ?_
                      exact ih8 j (by omega) (by first | assumption | omega) (by first | assumption | omega) _ _ _ hI (lv_sub hl [5, 6, 7, 8, 1, 0] rfl)
                  · have c106 : 1 = 0 := (nI_eq (a := 1) (b := 0) (by omega) (by omega)).mp c106
                    exfalso; omega
          · refine lv_iload hx hb d_LN_setLevels_61 (lv_at hl 0 rfl) ?_
            refine lv_bipush (v := 10) hx hb d_LN_setLevels_63 (by decide) ?_
            refine lv_icmp_ne (tgt := 72) hx hb d_LN_setLevels_65 (by decide) (fun c65 => ?_) (fun c65 => ?_)
            · have hpt : ¬ lprt (ar 13 j) := fun q => q.elim c58 c65
              refine lv_iconst (v := 0) hx hb d_LN_setLevels_72 (by decide) ?_
              refine lv_istore (lv' := [(7, .int 0), (6, .int (ar 13 j)), (0, .ref (ad 11)), (1, .int (nI fr)), (2, .int (nI to)), (3, .int (nI base)), (4, .int (bz (lnS (ar 15) (ar 13) base to (ar 42) (to - (j + 1))).1)), (5, .int (nI j))]) hx hb d_LN_setLevels_73 hl (by decide) rfl (fun ls hl => ?_)
              refine lv_iload hx hb d_LN_setLevels_75 (lv_at hl 1 rfl) ?_
              refine lv_bipush (v := 12) hx hb d_LN_setLevels_77 (by decide) ?_
              refine lv_icmp_eq (tgt := 97) hx hb d_LN_setLevels_79 (by decide) (fun c79 => ?_) (fun c79 => ?_)
              · have hbl : lblk (ar 13 j) := Or.inl c79
                refine lv_iconst (v := 1) hx hb d_LN_setLevels_97 (by decide) ?_
                refine lv_goto (tgt := 102) hx hb d_LN_setLevels_98 (by decide) ?_
                refine lv_istore (lv' := [(8, .int 1), (7, .int 0), (6, .int (ar 13 j)), (0, .ref (ad 11)), (1, .int (nI fr)), (2, .int (nI to)), (3, .int (nI base)), (4, .int (bz (lnS (ar 15) (ar 13) base to (ar 42) (to - (j + 1))).1)), (5, .int (nI j))]) hx hb d_LN_setLevels_102 hl (by decide) rfl (fun ls hl => ?_)
                refine lv_iload hx hb d_LN_setLevels_104 (lv_at hl 1 rfl) ?_
                refine lv_if_ne (tgt := 119) hx hb d_LN_setLevels_106 (by decide) (fun c106 => ?_) (fun c106 => ?_)
                · have c106 : ¬ 0 = 0 := fun h => c106 ((nI_eq (a := 0) (b := 0) (by omega) (by omega)).mpr h)
                  exfalso; omega
                · have c106 : 0 = 0 := (nI_eq (a := 0) (b := 0) (by omega) (by omega)).mp c106
                  refine lv_iload hx hb d_LN_setLevels_109 (lv_at hl 7 rfl) ?_
                  refine lv_if_eq (tgt := 123) hx hb d_LN_setLevels_111 (by decide) (fun c111 => ?_) (fun c111 => ?_)
                  · have hae := bz_0 c111
                    refine lv_iconst (v := 0) hx hb d_LN_setLevels_123 (by decide) ?_
                    refine q_as (y := bz (nAt (ar 13 j) (lnS (ar 15) (ar 13) base to (ar 42) (to - (j + 1))).1)) (by rw [show nAt (ar 13 j) (lnS (ar 15) (ar 13) base to (ar 42) (to - (j + 1))).1 = false by unfold nAt; rw [decide_eq_false hpt]; first | (rw [hae]; rfl) | (rw [decide_eq_false hbl, Bool.and_false]; rfl)]; rfl) ?_
                    refine lv_istore (lv' := [(4, .int (bz (nAt (ar 13 j) (lnS (ar 15) (ar 13) base to (ar 42) (to - (j + 1))).1))), (8, .int 1), (7, .int 0), (6, .int (ar 13 j)), (0, .ref (ad 11)), (1, .int (nI fr)), (2, .int (nI to)), (3, .int (nI base)), (5, .int (nI j))]) hx hb d_LN_setLevels_124 hl (by decide) rfl (fun ls hl => ?_)
                    refine lv_iload hx hb d_LN_setLevels_126 (lv_at hl 0 rfl) ?_
                    refine lv_if_eq (tgt := 139) hx hb d_LN_setLevels_128 (by decide) (fun c128 => ?_) (fun c128 => ?_)
                    · have hnb := bz_0 c128
                      have eS : lnS (ar 15) (ar 13) base to (ar 42) (to - j) = (nAt (ar 13 j) (lnS (ar 15) (ar 13) base to (ar 42) (to - (j + 1))).1, upd (lnS (ar 15) (ar 13) base to (ar 42) (to - (j + 1))).2 j (ar 15 j)) := by rw [hls, if_neg c39, if_neg (by rw [hnb]; decide)]
                      have e1 := congrArg Prod.fst eS
                      simp only at e1
                      rw [← e1] at hl
                      have hI := CI.to (w2 := cw g ad (va_up ar 42 ((lnS (ar 15) (ar 13) base to (ar 42) (to - j)).2)) fl) hI (by rw [eS])
                      refine lv_iinc (v := nI j - 1) (lv' := [(5, .int (nI j - 1)), (4, .int (bz (lnS (ar 15) (ar 13) base to (ar 42) (to - j)).1)), (8, .int 1), (7, .int 0), (6, .int (ar 13 j)), (0, .ref (ad 11)), (1, .int (nI fr)), (2, .int (nI to)), (3, .int (nI base))]) hx hb d_LN_setLevels_139 hl (k := 8) rfl (nI_dec j) (by decide) rfl (fun ls hl => ?_)
                      refine lv_goto (tgt := 8) hx hb d_LN_setLevels_142 (by decide) ?_
                      exact ih8 j (by omega) (by first | assumption | omega) (by first | assumption | omega) _ _ _ hI (lv_sub hl [5, 6, 7, 8, 1, 0] rfl)
                    · have hnb := bz_1 c128
                      have eS : lnS (ar 15) (ar 13) base to (ar 42) (to - j) = (nAt (ar 13 j) (lnS (ar 15) (ar 13) base to (ar 42) (to - (j + 1))).1, upd (upd (lnS (ar 15) (ar 13) base to (ar 42) (to - (j + 1))).2 j (ar 15 j)) j (nI base)) := by rw [hls, if_neg c39, if_pos hnb, upd_2]
                      refine lv_aload_n hx hb d_LN_setLevels_131 rfl (lv_at hl 4 rfl) ?_
                      refine g_LN_15 M hI d_LN_setLevels_132 ?_
                      refine lv_iload hx hb d_LN_setLevels_135 (lv_at hl 8 rfl) ?_
                      refine lv_iload_n hx hb d_LN_setLevels_137 rfl (lv_at hl 7 rfl) ?_
                      refine as_42 M hI j rfl (by omega) d_LN_setLevels_138 (fun H locs hI => ?_)
                      have hI : CI g A s (cw g ad (va_up ar 42 (upd (upd ((lnS (ar 15) (ar 13) base to (ar 42) (to - (j + 1))).2) j (ar 15 j)) j (nI base))) fl) H locs := hI
                      have e1 := congrArg Prod.fst eS
                      simp only at e1
                      rw [← e1] at hl
                      have hI := CI.to (w2 := cw g ad (va_up ar 42 ((lnS (ar 15) (ar 13) base to (ar 42) (to - j)).2)) fl) hI (by rw [eS])
                      refine lv_iinc (v := nI j - 1) (lv' := [(5, .int (nI j - 1)), (4, .int (bz (lnS (ar 15) (ar 13) base to (ar 42) (to - j)).1)), (8, .int 1), (7, .int 0), (6, .int (ar 13 j)), (0, .ref (ad 11)), (1, .int (nI fr)), (2, .int (nI to)), (3, .int (nI base))]) hx hb d_LN_setLevels_139 hl (k := 8) rfl (nI_dec j) (by decide) rfl (fun ls hl => ?_)
                      refine lv_goto (tgt := 8) hx hb d_LN_setLevels_142 (by decide) ?_
                      exact ih8 j (by omega) (by first | assumption | omega) (by first | assumption | omega) _ _ _ hI (lv_sub hl [5, 6, 7, 8, 1, 0] rfl)
                  · have hae := bz_1 c111
                    refine lv_iload hx hb d_LN_setLevels_114 (lv_at hl 0 rfl) ?_
                    refine lv_if_eq (tgt := 123) hx hb d_LN_setLevels_116 (by decide) (fun c116 => ?_) (fun c116 => ?_)
                    · have c116 : 1 = 0 := (nI_eq (a := 1) (b := 0) (by omega) (by omega)).mp c116
                      exfalso; omega
                    · have c116 : ¬ 1 = 0 := fun h => c116 ((nI_eq (a := 1) (b := 0) (by omega) (by omega)).mpr h)
                      refine lv_iconst (v := 1) hx hb d_LN_setLevels_119 (by decide) ?_
                      refine q_as (y := bz (nAt (ar 13 j) (lnS (ar 15) (ar 13) base to (ar 42) (to - (j + 1))).1)) (by rw [show nAt (ar 13 j) (lnS (ar 15) (ar 13) base to (ar 42) (to - (j + 1))).1 = true by unfold nAt; first | (rw [decide_eq_true hpt]; rfl) | (rw [hae, decide_eq_true hbl, Bool.and_self, Bool.or_true])]; rfl) ?_
                      refine lv_goto (tgt := 124) hx hb d_LN_setLevels_120 (by decide) ?_
                      refine lv_istore (lv' := [(4, .int (bz (nAt (ar 13 j) (lnS (ar 15) (ar 13) base to (ar 42) (to - (j + 1))).1))), (8, .int 1), (7, .int 0), (6, .int (ar 13 j)), (0, .ref (ad 11)), (1, .int (nI fr)), (2, .int (nI to)), (3, .int (nI base)), (5, .int (nI j))]) hx hb d_LN_setLevels_124 hl (by decide) rfl (fun ls hl => ?_)
                      refine lv_iload hx hb d_LN_setLevels_126 (lv_at hl 0 rfl) ?_
                      refine lv_if_eq (tgt := 139) hx hb d_LN_setLevels_128 (by decide) (fun c128 => ?_) (fun c128 => ?_)
                      · have hnb := bz_0 c128
                        have eS : lnS (ar 15) (ar 13) base to (ar 42) (to - j) = (nAt (ar 13 j) (lnS (ar 15) (ar 13) base to (ar 42) (to - (j + 1))).1, upd (lnS (ar 15) (ar 13) base to (ar 42) (to - (j + 1))).2 j (ar 15 j)) := by rw [hls, if_neg c39, if_neg (by rw [hnb]; decide)]
                        have e1 := congrArg Prod.fst eS
                        simp only at e1
                        rw [← e1] at hl
                        have hI := CI.to (w2 := cw g ad (va_up ar 42 ((lnS (ar 15) (ar 13) base to (ar 42) (to - j)).2)) fl) hI (by rw [eS])
                        refine lv_iinc (v := nI j - 1) (lv' := [(5, .int (nI j - 1)), (4, .int (bz (lnS (ar 15) (ar 13) base to (ar 42) (to - j)).1)), (8, .int 1), (7, .int 0), (6, .int (ar 13 j)), (0, .ref (ad 11)), (1, .int (nI fr)), (2, .int (nI to)), (3, .int (nI base))]) hx hb d_LN_setLevels_139 hl (k := 8) rfl (nI_dec j) (by decide) rfl (fun ls hl => ?_)
                        refine lv_goto (tgt := 8) hx hb d_LN_setLevels_142 (by decide) ?_
                        exact ih8 j (by omega) (by first | assumption | omega) (by first | assumption | omega) _ _ _ hI (lv_sub hl [5, 6, 7, 8, 1, 0] rfl)
                      · have hnb := bz_1 c128
                        have eS : lnS (ar 15) (ar 13) base to (ar 42) (to - j) = (nAt (ar 13 j) (lnS (ar 15) (ar 13) base to (ar 42) (to - (j + 1))).1, upd (upd (lnS (ar 15) (ar 13) base to (ar 42) (to - (j + 1))).2 j (ar 15 j)) j (nI base)) := by rw [hls, if_neg c39, if_pos hnb, upd_2]
                        refine lv_aload_n hx hb d_LN_setLevels_131 rfl (lv_at hl 4 rfl) ?_
                        refine g_LN_15 M hI d_LN_setLevels_132 ?_
                        refine lv_iload hx hb d_LN_setLevels_135 (lv_at hl 8 rfl) ?_
                        refine lv_iload_n hx hb d_LN_setLevels_137 rfl (lv_at hl 7 rfl) ?_
                        refine as_42 M hI j rfl (by omega) d_LN_setLevels_138 (fun H locs hI => ?_)
                        have hI : CI g A s (cw g ad (va_up ar 42 (upd (upd ((lnS (ar 15) (ar 13) base to (ar 42) (to - (j + 1))).2) j (ar 15 j)) j (nI base))) fl) H locs := hI
                        have e1 := congrArg Prod.fst eS
                        simp only at e1
                        rw [← e1] at hl
                        have hI := CI.to (w2 := cw g ad (va_up ar 42 ((lnS (ar 15) (ar 13) base to (ar 42) (to - j)).2)) fl) hI (by rw [eS])
                        refine lv_iinc (v := nI j - 1) (lv' := [(5, .int (nI j - 1)), (4, .int (bz (lnS (ar 15) (ar 13) base to (ar 42) (to - j)).1)), (8, .int 1), (7, .int 0), (6, .int (ar 13 j)), (0, .ref (ad 11)), (1, .int (nI fr)), (2, .int (nI to)), (3, .int (nI base))]) hx hb d_LN_setLevels_139 hl (k := 8) rfl (nI_dec j) (by decide) rfl (fun ls hl => ?_)
                        refine lv_goto (tgt := 8) hx hb d_LN_setLevels_142 (by decide) ?_
                        exact ih8 j (by omega) (by first | assumption | omega) (by first | assumption | omega) _ _ _ hI (lv_sub hl [5, 6, 7, 8, 1, 0] rfl)
              · refine lv_iload hx hb d_LN_setLevels_82 (lv_at hl 1 rfl) ?_
                refine q_calliSN [.int (ar 13 j)] M hI (c_BL_isIsolate l g (cw g ad (va_up ar 42 (upd ((lnS (ar 15) (ar 13) base to (ar 42) (to - (j + 1))).2) j (ar 15 j))) fl) (ar 13 j)) ok_BL_isIsolate (List.mem_of_getElem? (i := 11) rfl) m3_69 rfl rfl hl.1 ⟨rfl, rfl⟩ ⟨Nat.le_of_ble_eq_true rfl, Nat.le_of_ble_eq_true rfl⟩ (Nat.le_of_ble_eq_true rfl) ⟨Nat.le_of_ble_eq_true rfl, Nat.le_of_ble_eq_true rfl⟩ d_LN_setLevels_84 (fun r84 u84 H locs hp84 hI => ?_)
                refine q_as (y := bI (isol (ar 13 j))) hp84 ?_
                refine lv_if_ne (tgt := 97) hx hb d_LN_setLevels_87 (by decide) (fun c87 => ?_) (fun c87 => ?_)
                · have c87 := bI_ne0.mp c87
                  have hbl : lblk (ar 13 j) := Or.inr (Or.inl c87)
                  refine lv_iconst (v := 1) hx hb d_LN_setLevels_97 (by decide) ?_
                  refine lv_goto (tgt := 102) hx hb d_LN_setLevels_98 (by decide) ?_
                  refine lv_istore (lv' := [(8, .int 1), (7, .int 0), (6, .int (ar 13 j)), (0, .ref (ad 11)), (1, .int (nI fr)), (2, .int (nI to)), (3, .int (nI base)), (4, .int (bz (lnS (ar 15) (ar 13) base to (ar 42) (to - (j + 1))).1)), (5, .int (nI j))]) hx hb d_LN_setLevels_102 hl (by decide) rfl (fun ls hl => ?_)
                  refine lv_iload hx hb d_LN_setLevels_104 (lv_at hl 1 rfl) ?_
                  refine lv_if_ne (tgt := 119) hx hb d_LN_setLevels_106 (by decide) (fun c106 => ?_) (fun c106 => ?_)
                  · have c106 : ¬ 0 = 0 := fun h => c106 ((nI_eq (a := 0) (b := 0) (by omega) (by omega)).mpr h)
                    exfalso; omega
                  · have c106 : 0 = 0 := (nI_eq (a := 0) (b := 0) (by omega) (by omega)).mp c106
                    refine lv_iload hx hb d_LN_setLevels_109 (lv_at hl 7 rfl) ?_
                    refine lv_if_eq (tgt := 123) hx hb d_LN_setLevels_111 (by decide) (fun c111 => ?_) (fun c111 => ?_)
                    · have hae := bz_0 c111
                      refine lv_iconst (v := 0) hx hb d_LN_setLevels_123 (by decide) ?_
                      refine q_as (y := bz (nAt (ar 13 j) (lnS (ar 15) (ar 13) base to (ar 42) (to - (j + 1))).1)) (by rw [show nAt (ar 13 j) (lnS (ar 15) (ar 13) base to (ar 42) (to - (j + 1))).1 = false by unfold nAt; rw [decide_eq_false hpt]; first | (rw [hae]; rfl) | (rw [decide_eq_false hbl, Bool.and_false]; rfl)]; rfl) ?_
                      refine lv_istore (lv' := [(4, .int (bz (nAt (ar 13 j) (lnS (ar 15) (ar 13) base to (ar 42) (to - (j + 1))).1))), (8, .int 1), (7, .int 0), (6, .int (ar 13 j)), (0, .ref (ad 11)), (1, .int (nI fr)), (2, .int (nI to)), (3, .int (nI base)), (5, .int (nI j))]) hx hb d_LN_setLevels_124 hl (by decide) rfl (fun ls hl => ?_)
                      refine lv_iload hx hb d_LN_setLevels_126 (lv_at hl 0 rfl) ?_
                      refine lv_if_eq (tgt := 139) hx hb d_LN_setLevels_128 (by decide) (fun c128 => ?_) (fun c128 => ?_)
                      · have hnb := bz_0 c128
                        have eS : lnS (ar 15) (ar 13) base to (ar 42) (to - j) = (nAt (ar 13 j) (lnS (ar 15) (ar 13) base to (ar 42) (to - (j + 1))).1, upd (lnS (ar 15) (ar 13) base to (ar 42) (to - (j + 1))).2 j (ar 15 j)) := by rw [hls, if_neg c39, if_neg (by rw [hnb]; decide)]
                        have e1 := congrArg Prod.fst eS
                        simp only at e1
                        rw [← e1] at hl
                        have hI := CI.to (w2 := cw g ad (va_up ar 42 ((lnS (ar 15) (ar 13) base to (ar 42) (to - j)).2)) fl) hI (by rw [eS])
                        refine lv_iinc (v := nI j - 1) (lv' := [(5, .int (nI j - 1)), (4, .int (bz (lnS (ar 15) (ar 13) base to (ar 42) (to - j)).1)), (8, .int 1), (7, .int 0), (6, .int (ar 13 j)), (0, .ref (ad 11)), (1, .int (nI fr)), (2, .int (nI to)), (3, .int (nI base))]) hx hb d_LN_setLevels_139 hl (k := 8) rfl (nI_dec j) (by decide) rfl (fun ls hl => ?_)
                        refine lv_goto (tgt := 8) hx hb d_LN_setLevels_142 (by decide) ?_
                        exact ih8 j (by omega) (by first | assumption | omega) (by first | assumption | omega) _ _ _ hI (lv_sub hl [5, 6, 7, 8, 1, 0] rfl)
                      · have hnb := bz_1 c128
                        have eS : lnS (ar 15) (ar 13) base to (ar 42) (to - j) = (nAt (ar 13 j) (lnS (ar 15) (ar 13) base to (ar 42) (to - (j + 1))).1, upd (upd (lnS (ar 15) (ar 13) base to (ar 42) (to - (j + 1))).2 j (ar 15 j)) j (nI base)) := by rw [hls, if_neg c39, if_pos hnb, upd_2]
                        refine lv_aload_n hx hb d_LN_setLevels_131 rfl (lv_at hl 4 rfl) ?_
                        refine g_LN_15 M hI d_LN_setLevels_132 ?_
                        refine lv_iload hx hb d_LN_setLevels_135 (lv_at hl 8 rfl) ?_
                        refine lv_iload_n hx hb d_LN_setLevels_137 rfl (lv_at hl 7 rfl) ?_
                        refine as_42 M hI j rfl (by omega) d_LN_setLevels_138 (fun H locs hI => ?_)
                        have hI : CI g A s (cw g ad (va_up ar 42 (upd (upd ((lnS (ar 15) (ar 13) base to (ar 42) (to - (j + 1))).2) j (ar 15 j)) j (nI base))) fl) H locs := hI
                        have e1 := congrArg Prod.fst eS
                        simp only at e1
                        rw [← e1] at hl
                        have hI := CI.to (w2 := cw g ad (va_up ar 42 ((lnS (ar 15) (ar 13) base to (ar 42) (to - j)).2)) fl) hI (by rw [eS])
                        refine lv_iinc (v := nI j - 1) (lv' := [(5, .int (nI j - 1)), (4, .int (bz (lnS (ar 15) (ar 13) base to (ar 42) (to - j)).1)), (8, .int 1), (7, .int 0), (6, .int (ar 13 j)), (0, .ref (ad 11)), (1, .int (nI fr)), (2, .int (nI to)), (3, .int (nI base))]) hx hb d_LN_setLevels_139 hl (k := 8) rfl (nI_dec j) (by decide) rfl (fun ls hl => ?_)
                        refine lv_goto (tgt := 8) hx hb d_LN_setLevels_142 (by decide) ?_
                        exact ih8 j (by omega) (by first | assumption | omega) (by first | assumption | omega) _ _ _ hI (lv_sub hl [5, 6, 7, 8, 1, 0] rfl)
                    · have hae := bz_1 c111
                      refine lv_iload hx hb d_LN_setLevels_114 (lv_at hl 0 rfl) ?_
                      refine lv_if_eq (tgt := 123) hx hb d_LN_setLevels_116 (by decide) (fun c116 => ?_) (fun c116 => ?_)
                      · have c116 : 1 = 0 := (nI_eq (a := 1) (b := 0) (by omega) (by omega)).mp c116
                        exfalso; omega
                      · have c116 : ¬ 1 = 0 := fun h => c116 ((nI_eq (a := 1) (b := 0) (by omega) (by omega)).mpr h)
                        refine lv_iconst (v := 1) hx hb d_LN_setLevels_119 (by decide) ?_
                        refine q_as (y := bz (nAt (ar 13 j) (lnS (ar 15) (ar 13) base to (ar 42) (to - (j + 1))).1)) (by rw [show nAt (ar 13 j) (lnS (ar 15) (ar 13) base to (ar 42) (to - (j + 1))).1 = true by unfold nAt; first | (rw [decide_eq_true hpt]; rfl) | (rw [hae, decide_eq_true hbl, Bool.and_self, Bool.or_true])]; rfl) ?_
                        refine lv_goto (tgt := 124) hx hb d_LN_setLevels_120 (by decide) ?_
                        refine lv_istore (lv' := [(4, .int (bz (nAt (ar 13 j) (lnS (ar 15) (ar 13) base to (ar 42) (to - (j + 1))).1))), (8, .int 1), (7, .int 0), (6, .int (ar 13 j)), (0, .ref (ad 11)), (1, .int (nI fr)), (2, .int (nI to)), (3, .int (nI base)), (5, .int (nI j))]) hx hb d_LN_setLevels_124 hl (by decide) rfl (fun ls hl => ?_)
                        refine lv_iload hx hb d_LN_setLevels_126 (lv_at hl 0 rfl) ?_
                        refine lv_if_eq (tgt := 139) hx hb d_LN_setLevels_128 (by decide) (fun c128 => ?_) (fun c128 => ?_)
                        · have hnb := bz_0 c128
                          have eS : lnS (ar 15) (ar 13) base to (ar 42) (to - j) = (nAt (ar 13 j) (lnS (ar 15) (ar 13) base to (ar 42) (to - (j + 1))).1, upd (lnS (ar 15) (ar 13) base to (ar 42) (to - (j + 1))).2 j (ar 15 j)) := by rw [hls, if_neg c39, if_neg (by rw [hnb]; decide)]
                          have e1 := congrArg Prod.fst eS
                          simp only at e1
                          rw [← e1] at hl
                          have hI := CI.to (w2 := cw g ad (va_up ar 42 ((lnS (ar 15) (ar 13) base to (ar 42) (to - j)).2)) fl) hI (by rw [eS])
                          refine lv_iinc (v := nI j - 1) (lv' := [(5, .int (nI j - 1)), (4, .int (bz (lnS (ar 15) (ar 13) base to (ar 42) (to - j)).1)), (8, .int 1), (7, .int 0), (6, .int (ar 13 j)), (0, .ref (ad 11)), (1, .int (nI fr)), (2, .int (nI to)), (3, .int (nI base))]) hx hb d_LN_setLevels_139 hl (k := 8) rfl (nI_dec j) (by decide) rfl (fun ls hl => ?_)
                          refine lv_goto (tgt := 8) hx hb d_LN_setLevels_142 (by decide) ?_
                          exact ih8 j (by omega) (by first | assumption | omega) (by first | assumption | omega) _ _ _ hI (lv_sub hl [5, 6, 7, 8, 1, 0] rfl)
                        · have hnb := bz_1 c128
                          have eS : lnS (ar 15) (ar 13) base to (ar 42) (to - j) = (nAt (ar 13 j) (lnS (ar 15) (ar 13) base to (ar 42) (to - (j + 1))).1, upd (upd (lnS (ar 15) (ar 13) base to (ar 42) (to - (j + 1))).2 j (ar 15 j)) j (nI base)) := by rw [hls, if_neg c39, if_pos hnb, upd_2]
                          refine lv_aload_n hx hb d_LN_setLevels_131 rfl (lv_at hl 4 rfl) ?_
                          refine g_LN_15 M hI d_LN_setLevels_132 ?_
                          refine lv_iload hx hb d_LN_setLevels_135 (lv_at hl 8 rfl) ?_
                          refine lv_iload_n hx hb d_LN_setLevels_137 rfl (lv_at hl 7 rfl) ?_
                          refine as_42 M hI j rfl (by omega) d_LN_setLevels_138 (fun H locs hI => ?_)
                          have hI : CI g A s (cw g ad (va_up ar 42 (upd (upd ((lnS (ar 15) (ar 13) base to (ar 42) (to - (j + 1))).2) j (ar 15 j)) j (nI base))) fl) H locs := hI
                          have e1 := congrArg Prod.fst eS
                          simp only at e1
                          rw [← e1] at hl
                          have hI := CI.to (w2 := cw g ad (va_up ar 42 ((lnS (ar 15) (ar 13) base to (ar 42) (to - j)).2)) fl) hI (by rw [eS])
                          refine lv_iinc (v := nI j - 1) (lv' := [(5, .int (nI j - 1)), (4, .int (bz (lnS (ar 15) (ar 13) base to (ar 42) (to - j)).1)), (8, .int 1), (7, .int 0), (6, .int (ar 13 j)), (0, .ref (ad 11)), (1, .int (nI fr)), (2, .int (nI to)), (3, .int (nI base))]) hx hb d_LN_setLevels_139 hl (k := 8) rfl (nI_dec j) (by decide) rfl (fun ls hl => ?_)
                          refine lv_goto (tgt := 8) hx hb d_LN_setLevels_142 (by decide) ?_
                          exact ih8 j (by omega) (by first | assumption | omega) (by first | assumption | omega) _ _ _ hI (lv_sub hl [5, 6, 7, 8, 1, 0] rfl)
                · have c87 := bI_eq0.mp c87
                  refine lv_iload hx hb d_LN_setLevels_90 (lv_at hl 1 rfl) ?_
                  refine lv_bipush (v := 22) hx hb d_LN_setLevels_92 (by decide) ?_
                  refine lv_icmp_ne (tgt := 101) hx hb d_LN_setLevels_94 (by decide) (fun c94 => ?_) (fun c94 => ?_)
                  · have hbl : ¬ lblk (ar 13 j) := fun q => q.elim c79 (fun q => q.elim c87 c94)
                    refine lv_iconst (v := 0) hx hb d_LN_setLevels_101 (by decide) ?_
                    refine lv_istore (lv' := [(8, .int 0), (7, .int 0), (6, .int (ar 13 j)), (0, .ref (ad 11)), (1, .int (nI fr)), (2, .int (nI to)), (3, .int (nI base)), (4, .int (bz (lnS (ar 15) (ar 13) base to (ar 42) (to - (j + 1))).1)), (5, .int (nI j))]) hx hb d_LN_setLevels_102 hl (by decide) rfl (fun ls hl => ?_)
                    refine lv_iload hx hb d_LN_setLevels_104 (lv_at hl 1 rfl) ?_
                    refine lv_if_ne (tgt := 119) hx hb d_LN_setLevels_106 (by decide) (fun c106 => ?_) (fun c106 => ?_)
                    · have c106 : ¬ 0 = 0 := fun h => c106 ((nI_eq (a := 0) (b := 0) (by omega) (by omega)).mpr h)
                      exfalso; omega
                    · have c106 : 0 = 0 := (nI_eq (a := 0) (b := 0) (by omega) (by omega)).mp c106
                      refine lv_iload hx hb d_LN_setLevels_109 (lv_at hl 7 rfl) ?_
                      refine lv_if_eq (tgt := 123) hx hb d_LN_setLevels_111 (by decide) (fun c111 => ?_) (fun c111 => ?_)
                      · have hae := bz_0 c111
                        refine lv_iconst (v := 0) hx hb d_LN_setLevels_123 (by decide) ?_
                        refine q_as (y := bz (nAt (ar 13 j) (lnS (ar 15) (ar 13) base to (ar 42) (to - (j + 1))).1)) (by rw [show nAt (ar 13 j) (lnS (ar 15) (ar 13) base to (ar 42) (to - (j + 1))).1 = false by unfold nAt; rw [decide_eq_false hpt]; first | (rw [hae]; rfl) | (rw [decide_eq_false hbl, Bool.and_false]; rfl)]; rfl) ?_
                        refine lv_istore (lv' := [(4, .int (bz (nAt (ar 13 j) (lnS (ar 15) (ar 13) base to (ar 42) (to - (j + 1))).1))), (8, .int 0), (7, .int 0), (6, .int (ar 13 j)), (0, .ref (ad 11)), (1, .int (nI fr)), (2, .int (nI to)), (3, .int (nI base)), (5, .int (nI j))]) hx hb d_LN_setLevels_124 hl (by decide) rfl (fun ls hl => ?_)
                        refine lv_iload hx hb d_LN_setLevels_126 (lv_at hl 0 rfl) ?_
                        refine lv_if_eq (tgt := 139) hx hb d_LN_setLevels_128 (by decide) (fun c128 => ?_) (fun c128 => ?_)
                        · have hnb := bz_0 c128
                          have eS : lnS (ar 15) (ar 13) base to (ar 42) (to - j) = (nAt (ar 13 j) (lnS (ar 15) (ar 13) base to (ar 42) (to - (j + 1))).1, upd (lnS (ar 15) (ar 13) base to (ar 42) (to - (j + 1))).2 j (ar 15 j)) := by rw [hls, if_neg c39, if_neg (by rw [hnb]; decide)]
                          have e1 := congrArg Prod.fst eS
                          simp only at e1
                          rw [← e1] at hl
                          have hI := CI.to (w2 := cw g ad (va_up ar 42 ((lnS (ar 15) (ar 13) base to (ar 42) (to - j)).2)) fl) hI (by rw [eS])
                          refine lv_iinc (v := nI j - 1) (lv' := [(5, .int (nI j - 1)), (4, .int (bz (lnS (ar 15) (ar 13) base to (ar 42) (to - j)).1)), (8, .int 0), (7, .int 0), (6, .int (ar 13 j)), (0, .ref (ad 11)), (1, .int (nI fr)), (2, .int (nI to)), (3, .int (nI base))]) hx hb d_LN_setLevels_139 hl (k := 8) rfl (nI_dec j) (by decide) rfl (fun ls hl => ?_)
                          refine lv_goto (tgt := 8) hx hb d_LN_setLevels_142 (by decide) ?_
                          exact ih8 j (by omega) (by first | assumption | omega) (by first | assumption | omega) _ _ _ hI (lv_sub hl [5, 6, 7, 8, 1, 0] rfl)
                        · have hnb := bz_1 c128
                          have eS : lnS (ar 15) (ar 13) base to (ar 42) (to - j) = (nAt (ar 13 j) (lnS (ar 15) (ar 13) base to (ar 42) (to - (j + 1))).1, upd (upd (lnS (ar 15) (ar 13) base to (ar 42) (to - (j + 1))).2 j (ar 15 j)) j (nI base)) := by rw [hls, if_neg c39, if_pos hnb, upd_2]
                          refine lv_aload_n hx hb d_LN_setLevels_131 rfl (lv_at hl 4 rfl) ?_
                          refine g_LN_15 M hI d_LN_setLevels_132 ?_
                          refine lv_iload hx hb d_LN_setLevels_135 (lv_at hl 8 rfl) ?_
                          refine lv_iload_n hx hb d_LN_setLevels_137 rfl (lv_at hl 7 rfl) ?_
                          refine as_42 M hI j rfl (by omega) d_LN_setLevels_138 (fun H locs hI => ?_)
                          have hI : CI g A s (cw g ad (va_up ar 42 (upd (upd ((lnS (ar 15) (ar 13) base to (ar 42) (to - (j + 1))).2) j (ar 15 j)) j (nI base))) fl) H locs := hI
                          have e1 := congrArg Prod.fst eS
                          simp only at e1
                          rw [← e1] at hl
                          have hI := CI.to (w2 := cw g ad (va_up ar 42 ((lnS (ar 15) (ar 13) base to (ar 42) (to - j)).2)) fl) hI (by rw [eS])
                          refine lv_iinc (v := nI j - 1) (lv' := [(5, .int (nI j - 1)), (4, .int (bz (lnS (ar 15) (ar 13) base to (ar 42) (to - j)).1)), (8, .int 0), (7, .int 0), (6, .int (ar 13 j)), (0, .ref (ad 11)), (1, .int (nI fr)), (2, .int (nI to)), (3, .int (nI base))]) hx hb d_LN_setLevels_139 hl (k := 8) rfl (nI_dec j) (by decide) rfl (fun ls hl => ?_)
                          refine lv_goto (tgt := 8) hx hb d_LN_setLevels_142 (by decide) ?_
                          exact ih8 j (by omega) (by first | assumption | omega) (by first | assumption | omega) _ _ _ hI (lv_sub hl [5, 6, 7, 8, 1, 0] rfl)
                      · have hae := bz_1 c111
                        refine lv_iload hx hb d_LN_setLevels_114 (lv_at hl 0 rfl) ?_
                        refine lv_if_eq (tgt := 123) hx hb d_LN_setLevels_116 (by decide) (fun c116 => ?_) (fun c116 => ?_)
                        · have c116 : 0 = 0 := (nI_eq (a := 0) (b := 0) (by omega) (by omega)).mp c116
                          refine lv_iconst (v := 0) hx hb d_LN_setLevels_123 (by decide) ?_
                          refine q_as (y := bz (nAt (ar 13 j) (lnS (ar 15) (ar 13) base to (ar 42) (to - (j + 1))).1)) (by rw [show nAt (ar 13 j) (lnS (ar 15) (ar 13) base to (ar 42) (to - (j + 1))).1 = false by unfold nAt; rw [decide_eq_false hpt]; first | (rw [hae]; rfl) | (rw [decide_eq_false hbl, Bool.and_false]; rfl)]; rfl) ?_
                          refine lv_istore (lv' := [(4, .int (bz (nAt (ar 13 j) (lnS (ar 15) (ar 13) base to (ar 42) (to - (j + 1))).1))), (8, .int 0), (7, .int 0), (6, .int (ar 13 j)), (0, .ref (ad 11)), (1, .int (nI fr)), (2, .int (nI to)), (3, .int (nI base)), (5, .int (nI j))]) hx hb d_LN_setLevels_124 hl (by decide) rfl (fun ls hl => ?_)
                          refine lv_iload hx hb d_LN_setLevels_126 (lv_at hl 0 rfl) ?_
                          refine lv_if_eq (tgt := 139) hx hb d_LN_setLevels_128 (by decide) (fun c128 => ?_) (fun c128 => ?_)
                          · have hnb := bz_0 c128
                            have eS : lnS (ar 15) (ar 13) base to (ar 42) (to - j) = (nAt (ar 13 j) (lnS (ar 15) (ar 13) base to (ar 42) (to - (j + 1))).1, upd (lnS (ar 15) (ar 13) base to (ar 42) (to - (j + 1))).2 j (ar 15 j)) := by rw [hls, if_neg c39, if_neg (by rw [hnb]; decide)]
                            have e1 := congrArg Prod.fst eS
                            simp only at e1
                            rw [← e1] at hl
                            have hI := CI.to (w2 := cw g ad (va_up ar 42 ((lnS (ar 15) (ar 13) base to (ar 42) (to - j)).2)) fl) hI (by rw [eS])
                            refine lv_iinc (v := nI j - 1) (lv' := [(5, .int (nI j - 1)), (4, .int (bz (lnS (ar 15) (ar 13) base to (ar 42) (to - j)).1)), (8, .int 0), (7, .int 0), (6, .int (ar 13 j)), (0, .ref (ad 11)), (1, .int (nI fr)), (2, .int (nI to)), (3, .int (nI base))]) hx hb d_LN_setLevels_139 hl (k := 8) rfl (nI_dec j) (by decide) rfl (fun ls hl => ?_)
                            refine lv_goto (tgt := 8) hx hb d_LN_setLevels_142 (by decide) ?_
                            exact ih8 j (by omega) (by first | assumption | omega) (by first | assumption | omega) _ _ _ hI (lv_sub hl [5, 6, 7, 8, 1, 0] rfl)
                          · have hnb := bz_1 c128
                            have eS : lnS (ar 15) (ar 13) base to (ar 42) (to - j) = (nAt (ar 13 j) (lnS (ar 15) (ar 13) base to (ar 42) (to - (j + 1))).1, upd (upd (lnS (ar 15) (ar 13) base to (ar 42) (to - (j + 1))).2 j (ar 15 j)) j (nI base)) := by rw [hls, if_neg c39, if_pos hnb, upd_2]
                            refine lv_aload_n hx hb d_LN_setLevels_131 rfl (lv_at hl 4 rfl) ?_
                            refine g_LN_15 M hI d_LN_setLevels_132 ?_
                            refine lv_iload hx hb d_LN_setLevels_135 (lv_at hl 8 rfl) ?_
                            refine lv_iload_n hx hb d_LN_setLevels_137 rfl (lv_at hl 7 rfl) ?_
                            refine as_42 M hI j rfl (by omega) d_LN_setLevels_138 (fun H locs hI => ?_)
                            have hI : CI g A s (cw g ad (va_up ar 42 (upd (upd ((lnS (ar 15) (ar 13) base to (ar 42) (to - (j + 1))).2) j (ar 15 j)) j (nI base))) fl) H locs := hI
                            have e1 := congrArg Prod.fst eS
                            simp only at e1
                            rw [← e1] at hl
                            have hI := CI.to (w2 := cw g ad (va_up ar 42 ((lnS (ar 15) (ar 13) base to (ar 42) (to - j)).2)) fl) hI (by rw [eS])
                            refine lv_iinc (v := nI j - 1) (lv' := [(5, .int (nI j - 1)), (4, .int (bz (lnS (ar 15) (ar 13) base to (ar 42) (to - j)).1)), (8, .int 0), (7, .int 0), (6, .int (ar 13 j)), (0, .ref (ad 11)), (1, .int (nI fr)), (2, .int (nI to)), (3, .int (nI base))]) hx hb d_LN_setLevels_139 hl (k := 8) rfl (nI_dec j) (by decide) rfl (fun ls hl => ?_)
                            refine lv_goto (tgt := 8) hx hb d_LN_setLevels_142 (by decide) ?_
                            exact ih8 j (by omega) (by first | assumption | omega) (by first | assumption | omega) _ _ _ hI (lv_sub hl [5, 6, 7, 8, 1, 0] rfl)
                        · have c116 : ¬ 0 = 0 := fun h => c116 ((nI_eq (a := 0) (b := 0) (by omega) (by omega)).mpr h)
                          exfalso; omega
                  · have hbl : lblk (ar 13 j) := Or.inr (Or.inr c94)
                    refine lv_iconst (v := 1) hx hb d_LN_setLevels_97 (by decide) ?_
                    refine lv_goto (tgt := 102) hx hb d_LN_setLevels_98 (by decide) ?_
                    refine lv_istore (lv' := [(8, .int 1), (7, .int 0), (6, .int (ar 13 j)), (0, .ref (ad 11)), (1, .int (nI fr)), (2, .int (nI to)), (3, .int (nI base)), (4, .int (bz (lnS (ar 15) (ar 13) base to (ar 42) (to - (j + 1))).1)), (5, .int (nI j))]) hx hb d_LN_setLevels_102 hl (by decide) rfl (fun ls hl => ?_)
                    refine lv_iload hx hb d_LN_setLevels_104 (lv_at hl 1 rfl) ?_
                    refine lv_if_ne (tgt := 119) hx hb d_LN_setLevels_106 (by decide) (fun c106 => ?_) (fun c106 => ?_)
                    · have c106 : ¬ 0 = 0 := fun h => c106 ((nI_eq (a := 0) (b := 0) (by omega) (by omega)).mpr h)
                      exfalso; omega
                    · have c106 : 0 = 0 := (nI_eq (a := 0) (b := 0) (by omega) (by omega)).mp c106
                      refine lv_iload hx hb d_LN_setLevels_109 (lv_at hl 7 rfl) ?_
                      refine lv_if_eq (tgt := 123) hx hb d_LN_setLevels_111 (by decide) (fun c111 => ?_) (fun c111 => ?_)
                      · have hae := bz_0 c111
                        refine lv_iconst (v := 0) hx hb d_LN_setLevels_123 (by decide) ?_
                        refine q_as (y := bz (nAt (ar 13 j) (lnS (ar 15) (ar 13) base to (ar 42) (to - (j + 1))).1)) (by rw [show nAt (ar 13 j) (lnS (ar 15) (ar 13) base to (ar 42) (to - (j + 1))).1 = false by unfold nAt; rw [decide_eq_false hpt]; first | (rw [hae]; rfl) | (rw [decide_eq_false hbl, Bool.and_false]; rfl)]; rfl) ?_
                        refine lv_istore (lv' := [(4, .int (bz (nAt (ar 13 j) (lnS (ar 15) (ar 13) base to (ar 42) (to - (j + 1))).1))), (8, .int 1), (7, .int 0), (6, .int (ar 13 j)), (0, .ref (ad 11)), (1, .int (nI fr)), (2, .int (nI to)), (3, .int (nI base)), (5, .int (nI j))]) hx hb d_LN_setLevels_124 hl (by decide) rfl (fun ls hl => ?_)
                        refine lv_iload hx hb d_LN_setLevels_126 (lv_at hl 0 rfl) ?_
                        refine lv_if_eq (tgt := 139) hx hb d_LN_setLevels_128 (by decide) (fun c128 => ?_) (fun c128 => ?_)
                        · have hnb := bz_0 c128
                          have eS : lnS (ar 15) (ar 13) base to (ar 42) (to - j) = (nAt (ar 13 j) (lnS (ar 15) (ar 13) base to (ar 42) (to - (j + 1))).1, upd (lnS (ar 15) (ar 13) base to (ar 42) (to - (j + 1))).2 j (ar 15 j)) := by rw [hls, if_neg c39, if_neg (by rw [hnb]; decide)]
                          have e1 := congrArg Prod.fst eS
                          simp only at e1
                          rw [← e1] at hl
                          have hI := CI.to (w2 := cw g ad (va_up ar 42 ((lnS (ar 15) (ar 13) base to (ar 42) (to - j)).2)) fl) hI (by rw [eS])
                          refine lv_iinc (v := nI j - 1) (lv' := [(5, .int (nI j - 1)), (4, .int (bz (lnS (ar 15) (ar 13) base to (ar 42) (to - j)).1)), (8, .int 1), (7, .int 0), (6, .int (ar 13 j)), (0, .ref (ad 11)), (1, .int (nI fr)), (2, .int (nI to)), (3, .int (nI base))]) hx hb d_LN_setLevels_139 hl (k := 8) rfl (nI_dec j) (by decide) rfl (fun ls hl => ?_)
                          refine lv_goto (tgt := 8) hx hb d_LN_setLevels_142 (by decide) ?_
                          exact ih8 j (by omega) (by first | assumption | omega) (by first | assumption | omega) _ _ _ hI (lv_sub hl [5, 6, 7, 8, 1, 0] rfl)
                        · have hnb := bz_1 c128
                          have eS : lnS (ar 15) (ar 13) base to (ar 42) (to - j) = (nAt (ar 13 j) (lnS (ar 15) (ar 13) base to (ar 42) (to - (j + 1))).1, upd (upd (lnS (ar 15) (ar 13) base to (ar 42) (to - (j + 1))).2 j (ar 15 j)) j (nI base)) := by rw [hls, if_neg c39, if_pos hnb, upd_2]
                          refine lv_aload_n hx hb d_LN_setLevels_131 rfl (lv_at hl 4 rfl) ?_
                          refine g_LN_15 M hI d_LN_setLevels_132 ?_
                          refine lv_iload hx hb d_LN_setLevels_135 (lv_at hl 8 rfl) ?_
                          refine lv_iload_n hx hb d_LN_setLevels_137 rfl (lv_at hl 7 rfl) ?_
                          refine as_42 M hI j rfl (by omega) d_LN_setLevels_138 (fun H locs hI => ?_)
                          have hI : CI g A s (cw g ad (va_up ar 42 (upd (upd ((lnS (ar 15) (ar 13) base to (ar 42) (to - (j + 1))).2) j (ar 15 j)) j (nI base))) fl) H locs := hI
                          have e1 := congrArg Prod.fst eS
                          simp only at e1
                          rw [← e1] at hl
                          have hI := CI.to (w2 := cw g ad (va_up ar 42 ((lnS (ar 15) (ar 13) base to (ar 42) (to - j)).2)) fl) hI (by rw [eS])
                          refine lv_iinc (v := nI j - 1) (lv' := [(5, .int (nI j - 1)), (4, .int (bz (lnS (ar 15) (ar 13) base to (ar 42) (to - j)).1)), (8, .int 1), (7, .int 0), (6, .int (ar 13 j)), (0, .ref (ad 11)), (1, .int (nI fr)), (2, .int (nI to)), (3, .int (nI base))]) hx hb d_LN_setLevels_139 hl (k := 8) rfl (nI_dec j) (by decide) rfl (fun ls hl => ?_)
                          refine lv_goto (tgt := 8) hx hb d_LN_setLevels_142 (by decide) ?_
                          exact ih8 j (by omega) (by first | assumption | omega) (by first | assumption | omega) _ _ _ hI (lv_sub hl [5, 6, 7, 8, 1, 0] rfl)
                      · have hae := bz_1 c111
                        refine lv_iload hx hb d_LN_setLevels_114 (lv_at hl 0 rfl) ?_
                        refine lv_if_eq (tgt := 123) hx hb d_LN_setLevels_116 (by decide) (fun c116 => ?_) (fun c116 => ?_)
                        · have c116 : 1 = 0 := (nI_eq (a := 1) (b := 0) (by omega) (by omega)).mp c116
                          exfalso; omega
                        · have c116 : ¬ 1 = 0 := fun h => c116 ((nI_eq (a := 1) (b := 0) (by omega) (by omega)).mpr h)
                          refine lv_iconst (v := 1) hx hb d_LN_setLevels_119 (by decide) ?_
                          refine q_as (y := bz (nAt (ar 13 j) (lnS (ar 15) (ar 13) base to (ar 42) (to - (j + 1))).1)) (by rw [show nAt (ar 13 j) (lnS (ar 15) (ar 13) base to (ar 42) (to - (j + 1))).1 = true by unfold nAt; first | (rw [decide_eq_true hpt]; rfl) | (rw [hae, decide_eq_true hbl, Bool.and_self, Bool.or_true])]; rfl) ?_
                          refine lv_goto (tgt := 124) hx hb d_LN_setLevels_120 (by decide) ?_
                          refine lv_istore (lv' := [(4, .int (bz (nAt (ar 13 j) (lnS (ar 15) (ar 13) base to (ar 42) (to - (j + 1))).1))), (8, .int 1), (7, .int 0), (6, .int (ar 13 j)), (0, .ref (ad 11)), (1, .int (nI fr)), (2, .int (nI to)), (3, .int (nI base)), (5, .int (nI j))]) hx hb d_LN_setLevels_124 hl (by decide) rfl (fun ls hl => ?_)
                          refine lv_iload hx hb d_LN_setLevels_126 (lv_at hl 0 rfl) ?_
                          refine lv_if_eq (tgt := 139) hx hb d_LN_setLevels_128 (by decide) (fun c128 => ?_) (fun c128 => ?_)
                          · have hnb := bz_0 c128
                            have eS : lnS (ar 15) (ar 13) base to (ar 42) (to - j) = (nAt (ar 13 j) (lnS (ar 15) (ar 13) base to (ar 42) (to - (j + 1))).1, upd (lnS (ar 15) (ar 13) base to (ar 42) (to - (j + 1))).2 j (ar 15 j)) := by rw [hls, if_neg c39, if_neg (by rw [hnb]; decide)]
                            have e1 := congrArg Prod.fst eS
                            simp only at e1
                            rw [← e1] at hl
                            have hI := CI.to (w2 := cw g ad (va_up ar 42 ((lnS (ar 15) (ar 13) base to (ar 42) (to - j)).2)) fl) hI (by rw [eS])
                            refine lv_iinc (v := nI j - 1) (lv' := [(5, .int (nI j - 1)), (4, .int (bz (lnS (ar 15) (ar 13) base to (ar 42) (to - j)).1)), (8, .int 1), (7, .int 0), (6, .int (ar 13 j)), (0, .ref (ad 11)), (1, .int (nI fr)), (2, .int (nI to)), (3, .int (nI base))]) hx hb d_LN_setLevels_139 hl (k := 8) rfl (nI_dec j) (by decide) rfl (fun ls hl => ?_)
                            refine lv_goto (tgt := 8) hx hb d_LN_setLevels_142 (by decide) ?_
                            exact ih8 j (by omega) (by first | assumption | omega) (by first | assumption | omega) _ _ _ hI (lv_sub hl [5, 6, 7, 8, 1, 0] rfl)
                          · have hnb := bz_1 c128
                            have eS : lnS (ar 15) (ar 13) base to (ar 42) (to - j) = (nAt (ar 13 j) (lnS (ar 15) (ar 13) base to (ar 42) (to - (j + 1))).1, upd (upd (lnS (ar 15) (ar 13) base to (ar 42) (to - (j + 1))).2 j (ar 15 j)) j (nI base)) := by rw [hls, if_neg c39, if_pos hnb, upd_2]
                            refine lv_aload_n hx hb d_LN_setLevels_131 rfl (lv_at hl 4 rfl) ?_
                            refine g_LN_15 M hI d_LN_setLevels_132 ?_
                            refine lv_iload hx hb d_LN_setLevels_135 (lv_at hl 8 rfl) ?_
                            refine lv_iload_n hx hb d_LN_setLevels_137 rfl (lv_at hl 7 rfl) ?_
                            refine as_42 M hI j rfl (by omega) d_LN_setLevels_138 (fun H locs hI => ?_)
                            have hI : CI g A s (cw g ad (va_up ar 42 (upd (upd ((lnS (ar 15) (ar 13) base to (ar 42) (to - (j + 1))).2) j (ar 15 j)) j (nI base))) fl) H locs := hI
                            have e1 := congrArg Prod.fst eS
                            simp only at e1
                            rw [← e1] at hl
                            have hI := CI.to (w2 := cw g ad (va_up ar 42 ((lnS (ar 15) (ar 13) base to (ar 42) (to - j)).2)) fl) hI (by rw [eS])
                            refine lv_iinc (v := nI j - 1) (lv' := [(5, .int (nI j - 1)), (4, .int (bz (lnS (ar 15) (ar 13) base to (ar 42) (to - j)).1)), (8, .int 1), (7, .int 0), (6, .int (ar 13 j)), (0, .ref (ad 11)), (1, .int (nI fr)), (2, .int (nI to)), (3, .int (nI base))]) hx hb d_LN_setLevels_139 hl (k := 8) rfl (nI_dec j) (by decide) rfl (fun ls hl => ?_)
                            refine lv_goto (tgt := 8) hx hb d_LN_setLevels_142 (by decide) ?_
                            exact ih8 j (by omega) (by first | assumption | omega) (by first | assumption | omega) _ _ _ hI (lv_sub hl [5, 6, 7, 8, 1, 0] rfl)
            · have hpt : lprt (ar 13 j) := Or.inr c65
              refine lv_iconst (v := 1) hx hb d_LN_setLevels_68 (by decide) ?_
              refine lv_goto (tgt := 73) hx hb d_LN_setLevels_69 (by decide) ?_
              refine lv_istore (lv' := [(7, .int 1), (6, .int (ar 13 j)), (0, .ref (ad 11)), (1, .int (nI fr)), (2, .int (nI to)), (3, .int (nI base)), (4, .int (bz (lnS (ar 15) (ar 13) base to (ar 42) (to - (j + 1))).1)), (5, .int (nI j))]) hx hb d_LN_setLevels_73 hl (by decide) rfl (fun ls hl => ?_)
              refine lv_iload hx hb d_LN_setLevels_75 (lv_at hl 1 rfl) ?_
              refine lv_bipush (v := 12) hx hb d_LN_setLevels_77 (by decide) ?_
              refine lv_icmp_eq (tgt := 97) hx hb d_LN_setLevels_79 (by decide) (fun c79 => ?_) (fun c79 => ?_)
              · have hbl : lblk (ar 13 j) := Or.inl c79
                refine lv_iconst (v := 1) hx hb d_LN_setLevels_97 (by decide) ?_
                refine lv_goto (tgt := 102) hx hb d_LN_setLevels_98 (by decide) ?_
                refine lv_istore (lv' := [(8, .int 1), (7, .int 1), (6, .int (ar 13 j)), (0, .ref (ad 11)), (1, .int (nI fr)), (2, .int (nI to)), (3, .int (nI base)), (4, .int (bz (lnS (ar 15) (ar 13) base to (ar 42) (to - (j + 1))).1)), (5, .int (nI j))]) hx hb d_LN_setLevels_102 hl (by decide) rfl (fun ls hl => ?_)
                refine lv_iload hx hb d_LN_setLevels_104 (lv_at hl 1 rfl) ?_
                refine lv_if_ne (tgt := 119) hx hb d_LN_setLevels_106 (by decide) (fun c106 => ?_) (fun c106 => ?_)
                · have c106 : ¬ 1 = 0 := fun h => c106 ((nI_eq (a := 1) (b := 0) (by omega) (by omega)).mpr h)
                  refine lv_iconst (v := 1) hx hb d_LN_setLevels_119 (by decide) ?_
                  refine q_as (y := bz (nAt (ar 13 j) (lnS (ar 15) (ar 13) base to (ar 42) (to - (j + 1))).1)) (by rw [show nAt (ar 13 j) (lnS (ar 15) (ar 13) base to (ar 42) (to - (j + 1))).1 = true by unfold nAt; first | (rw [decide_eq_true hpt]; rfl) | (rw [hae, decide_eq_true hbl, Bool.and_self, Bool.or_true])]; rfl) ?_
                  refine lv_goto (tgt := 124) hx hb d_LN_setLevels_120 (by decide) ?_
                  refine lv_istore (lv' := [(4, .int (bz (nAt (ar 13 j) (lnS (ar 15) (ar 13) base to (ar 42) (to - (j + 1))).1))), (8, .int 1), (7, .int 1), (6, .int (ar 13 j)), (0, .ref (ad 11)), (1, .int (nI fr)), (2, .int (nI to)), (3, .int (nI base)), (5, .int (nI j))]) hx hb d_LN_setLevels_124 hl (by decide) rfl (fun ls hl => ?_)
                  refine lv_iload hx hb d_LN_setLevels_126 (lv_at hl 0 rfl) ?_
                  refine lv_if_eq (tgt := 139) hx hb d_LN_setLevels_128 (by decide) (fun c128 => ?_) (fun c128 => ?_)
                  · have hnb := bz_0 c128
                    have eS : lnS (ar 15) (ar 13) base to (ar 42) (to - j) = (nAt (ar 13 j) (lnS (ar 15) (ar 13) base to (ar 42) (to - (j + 1))).1, upd (lnS (ar 15) (ar 13) base to (ar 42) (to - (j + 1))).2 j (ar 15 j)) := by rw [hls, if_neg c39, if_neg (by rw [hnb]; decide)]
                    have e1 := congrArg Prod.fst eS
                    simp only at e1
                    rw [← e1] at hl
                    have hI := CI.to (w2 := cw g ad (va_up ar 42 ((lnS (ar 15) (ar 13) base to (ar 42) (to - j)).2)) fl) hI (by rw [eS])
                    refine lv_iinc (v := nI j - 1) (lv' := [(5, .int (nI j - 1)), (4, .int (bz (lnS (ar 15) (ar 13) base to (ar 42) (to - j)).1)), (8, .int 1), (7, .int 1), (6, .int (ar 13 j)), (0, .ref (ad 11)), (1, .int (nI fr)), (2, .int (nI to)), (3, .int (nI base))]) hx hb d_LN_setLevels_139 hl (k := 8) rfl (nI_dec j) (by decide) rfl (fun ls hl => ?_)
                    refine lv_goto (tgt := 8) hx hb d_LN_setLevels_142 (by decide) ?_
                    exact ih8 j (by omega) (by first | assumption | omega) (by first | assumption | omega) _ _ _ hI (lv_sub hl [5, 6, 7, 8, 1, 0] rfl)
                  · have hnb := bz_1 c128
                    have eS : lnS (ar 15) (ar 13) base to (ar 42) (to - j) = (nAt (ar 13 j) (lnS (ar 15) (ar 13) base to (ar 42) (to - (j + 1))).1, upd (upd (lnS (ar 15) (ar 13) base to (ar 42) (to - (j + 1))).2 j (ar 15 j)) j (nI base)) := by rw [hls, if_neg c39, if_pos hnb, upd_2]
                    refine lv_aload_n hx hb d_LN_setLevels_131 rfl (lv_at hl 4 rfl) ?_
                    refine g_LN_15 M hI d_LN_setLevels_132 ?_
                    refine lv_iload hx hb d_LN_setLevels_135 (lv_at hl 8 rfl) ?_
                    refine lv_iload_n hx hb d_LN_setLevels_137 rfl (lv_at hl 7 rfl) ?_
                    refine as_42 M hI j rfl (by omega) d_LN_setLevels_138 (fun H locs hI => ?_)
                    have hI : CI g A s (cw g ad (va_up ar 42 (upd (upd ((lnS (ar 15) (ar 13) base to (ar 42) (to - (j + 1))).2) j (ar 15 j)) j (nI base))) fl) H locs := hI
                    have e1 := congrArg Prod.fst eS
                    simp only at e1
                    rw [← e1] at hl
                    have hI := CI.to (w2 := cw g ad (va_up ar 42 ((lnS (ar 15) (ar 13) base to (ar 42) (to - j)).2)) fl) hI (by rw [eS])
                    refine lv_iinc (v := nI j - 1) (lv' := [(5, .int (nI j - 1)), (4, .int (bz (lnS (ar 15) (ar 13) base to (ar 42) (to - j)).1)), (8, .int 1), (7, .int 1), (6, .int (ar 13 j)), (0, .ref (ad 11)), (1, .int (nI fr)), (2, .int (nI to)), (3, .int (nI base))]) hx hb d_LN_setLevels_139 hl (k := 8) rfl (nI_dec j) (by decide) rfl (fun ls hl => ?_)
                    refine lv_goto (tgt := 8) hx hb d_LN_setLevels_142 (by decide) ?_
                    exact ih8 j (by omega) (by first | assumption | omega) (by first | assumption | omega) _ _ _ hI (lv_sub hl [5, 6, 7, 8, 1, 0] rfl)
                · have c106 : 1 = 0 := (nI_eq (a := 1) (b := 0) (by omega) (by omega)).mp c106
                  exfalso; omega
              · refine lv_iload hx hb d_LN_setLevels_82 (lv_at hl 1 rfl) ?_
                refine q_calliSN [.int (ar 13 j)] M hI (c_BL_isIsolate l g (cw g ad (va_up ar 42 (upd ((lnS (ar 15) (ar 13) base to (ar 42) (to - (j + 1))).2) j (ar 15 j))) fl) (ar 13 j)) ok_BL_isIsolate (List.mem_of_getElem? (i := 11) rfl) m3_69 rfl rfl hl.1 ⟨rfl, rfl⟩ ⟨Nat.le_of_ble_eq_true rfl, Nat.le_of_ble_eq_true rfl⟩ (Nat.le_of_ble_eq_true rfl) ⟨Nat.le_of_ble_eq_true rfl, Nat.le_of_ble_eq_true rfl⟩ d_LN_setLevels_84 (fun r84 u84 H locs hp84 hI => ?_)
                refine q_as (y := bI (isol (ar 13 j))) hp84 ?_
                refine lv_if_ne (tgt := 97) hx hb d_LN_setLevels_87 (by decide) (fun c87 => ?_) (fun c87 => ?_)
                · have c87 := bI_ne0.mp c87
                  have hbl : lblk (ar 13 j) := Or.inr (Or.inl c87)
                  refine lv_iconst (v := 1) hx hb d_LN_setLevels_97 (by decide) ?_
                  refine lv_goto (tgt := 102) hx hb d_LN_setLevels_98 (by decide) ?_
                  refine lv_istore (lv' := [(8, .int 1), (7, .int 1), (6, .int (ar 13 j)), (0, .ref (ad 11)), (1, .int (nI fr)), (2, .int (nI to)), (3, .int (nI base)), (4, .int (bz (lnS (ar 15) (ar 13) base to (ar 42) (to - (j + 1))).1)), (5, .int (nI j))]) hx hb d_LN_setLevels_102 hl (by decide) rfl (fun ls hl => ?_)
                  refine lv_iload hx hb d_LN_setLevels_104 (lv_at hl 1 rfl) ?_
                  refine lv_if_ne (tgt := 119) hx hb d_LN_setLevels_106 (by decide) (fun c106 => ?_) (fun c106 => ?_)
                  · have c106 : ¬ 1 = 0 := fun h => c106 ((nI_eq (a := 1) (b := 0) (by omega) (by omega)).mpr h)
                    refine lv_iconst (v := 1) hx hb d_LN_setLevels_119 (by decide) ?_
                    refine q_as (y := bz (nAt (ar 13 j) (lnS (ar 15) (ar 13) base to (ar 42) (to - (j + 1))).1)) (by rw [show nAt (ar 13 j) (lnS (ar 15) (ar 13) base to (ar 42) (to - (j + 1))).1 = true by unfold nAt; first | (rw [decide_eq_true hpt]; rfl) | (rw [hae, decide_eq_true hbl, Bool.and_self, Bool.or_true])]; rfl) ?_
                    refine lv_goto (tgt := 124) hx hb d_LN_setLevels_120 (by decide) ?_
                    refine lv_istore (lv' := [(4, .int (bz (nAt (ar 13 j) (lnS (ar 15) (ar 13) base to (ar 42) (to - (j + 1))).1))), (8, .int 1), (7, .int 1), (6, .int (ar 13 j)), (0, .ref (ad 11)), (1, .int (nI fr)), (2, .int (nI to)), (3, .int (nI base)), (5, .int (nI j))]) hx hb d_LN_setLevels_124 hl (by decide) rfl (fun ls hl => ?_)
                    refine lv_iload hx hb d_LN_setLevels_126 (lv_at hl 0 rfl) ?_
                    refine lv_if_eq (tgt := 139) hx hb d_LN_setLevels_128 (by decide) (fun c128 => ?_) (fun c128 => ?_)
                    · have hnb := bz_0 c128
                      have eS : lnS (ar 15) (ar 13) base to (ar 42) (to - j) = (nAt (ar 13 j) (lnS (ar 15) (ar 13) base to (ar 42) (to - (j + 1))).1, upd (lnS (ar 15) (ar 13) base to (ar 42) (to - (j + 1))).2 j (ar 15 j)) := by rw [hls, if_neg c39, if_neg (by rw [hnb]; decide)]
                      have e1 := congrArg Prod.fst eS
                      simp only at e1
                      rw [← e1] at hl
                      have hI := CI.to (w2 := cw g ad (va_up ar 42 ((lnS (ar 15) (ar 13) base to (ar 42) (to - j)).2)) fl) hI (by rw [eS])
                      refine lv_iinc (v := nI j - 1) (lv' := [(5, .int (nI j - 1)), (4, .int (bz (lnS (ar 15) (ar 13) base to (ar 42) (to - j)).1)), (8, .int 1), (7, .int 1), (6, .int (ar 13 j)), (0, .ref (ad 11)), (1, .int (nI fr)), (2, .int (nI to)), (3, .int (nI base))]) hx hb d_LN_setLevels_139 hl (k := 8) rfl (nI_dec j) (by decide) rfl (fun ls hl => ?_)
                      refine lv_goto (tgt := 8) hx hb d_LN_setLevels_142 (by decide) ?_
                      exact ih8 j (by omega) (by first | assumption | omega) (by first | assumption | omega) _ _ _ hI (lv_sub hl [5, 6, 7, 8, 1, 0] rfl)
                    · have hnb := bz_1 c128
                      have eS : lnS (ar 15) (ar 13) base to (ar 42) (to - j) = (nAt (ar 13 j) (lnS (ar 15) (ar 13) base to (ar 42) (to - (j + 1))).1, upd (upd (lnS (ar 15) (ar 13) base to (ar 42) (to - (j + 1))).2 j (ar 15 j)) j (nI base)) := by rw [hls, if_neg c39, if_pos hnb, upd_2]
                      refine lv_aload_n hx hb d_LN_setLevels_131 rfl (lv_at hl 4 rfl) ?_
                      refine g_LN_15 M hI d_LN_setLevels_132 ?_
                      refine lv_iload hx hb d_LN_setLevels_135 (lv_at hl 8 rfl) ?_
                      refine lv_iload_n hx hb d_LN_setLevels_137 rfl (lv_at hl 7 rfl) ?_
                      refine as_42 M hI j rfl (by omega) d_LN_setLevels_138 (fun H locs hI => ?_)
                      have hI : CI g A s (cw g ad (va_up ar 42 (upd (upd ((lnS (ar 15) (ar 13) base to (ar 42) (to - (j + 1))).2) j (ar 15 j)) j (nI base))) fl) H locs := hI
                      have e1 := congrArg Prod.fst eS
                      simp only at e1
                      rw [← e1] at hl
                      have hI := CI.to (w2 := cw g ad (va_up ar 42 ((lnS (ar 15) (ar 13) base to (ar 42) (to - j)).2)) fl) hI (by rw [eS])
                      refine lv_iinc (v := nI j - 1) (lv' := [(5, .int (nI j - 1)), (4, .int (bz (lnS (ar 15) (ar 13) base to (ar 42) (to - j)).1)), (8, .int 1), (7, .int 1), (6, .int (ar 13 j)), (0, .ref (ad 11)), (1, .int (nI fr)), (2, .int (nI to)), (3, .int (nI base))]) hx hb d_LN_setLevels_139 hl (k := 8) rfl (nI_dec j) (by decide) rfl (fun ls hl => ?_)
                      refine lv_goto (tgt := 8) hx hb d_LN_setLevels_142 (by decide) ?_
                      exact ih8 j (by omega) (by first | assumption | omega) (by first | assumption | omega) _ _ _ hI (lv_sub hl [5, 6, 7, 8, 1, 0] rfl)
                  · have c106 : 1 = 0 := (nI_eq (a := 1) (b := 0) (by omega) (by omega)).mp c106
                    exfalso; omega
                · have c87 := bI_eq0.mp c87
                  refine lv_iload hx hb d_LN_setLevels_90 (lv_at hl 1 rfl) ?_
                  refine lv_bipush (v := 22) hx hb d_LN_setLevels_92 (by decide) ?_
                  refine lv_icmp_ne (tgt := 101) hx hb d_LN_setLevels_94 (by decide) (fun c94 => ?_) (fun c94 => ?_)
                  · have hbl : ¬ lblk (ar 13 j) := fun q => q.elim c79 (fun q => q.elim c87 c94)
                    refine lv_iconst (v := 0) hx hb d_LN_setLevels_101 (by decide) ?_
                    refine lv_istore (lv' := [(8, .int 0), (7, .int 1), (6, .int (ar 13 j)), (0, .ref (ad 11)), (1, .int (nI fr)), (2, .int (nI to)), (3, .int (nI base)), (4, .int (bz (lnS (ar 15) (ar 13) base to (ar 42) (to - (j + 1))).1)), (5, .int (nI j))]) hx hb d_LN_setLevels_102 hl (by decide) rfl (fun ls hl => ?_)
                    refine lv_iload hx hb d_LN_setLevels_104 (lv_at hl 1 rfl) ?_
                    refine lv_if_ne (tgt := 119) hx hb d_LN_setLevels_106 (by decide) (fun c106 => ?_) (fun c106 => ?_)
                    · have c106 : ¬ 1 = 0 := fun h => c106 ((nI_eq (a := 1) (b := 0) (by omega) (by omega)).mpr h)
                      refine lv_iconst (v := 1) hx hb d_LN_setLevels_119 (by decide) ?_
                      refine q_as (y := bz (nAt (ar 13 j) (lnS (ar 15) (ar 13) base to (ar 42) (to - (j + 1))).1)) (by rw [show nAt (ar 13 j) (lnS (ar 15) (ar 13) base to (ar 42) (to - (j + 1))).1 = true by unfold nAt; first | (rw [decide_eq_true hpt]; rfl) | (rw [hae, decide_eq_true hbl, Bool.and_self, Bool.or_true])]; rfl) ?_
                      refine lv_goto (tgt := 124) hx hb d_LN_setLevels_120 (by decide) ?_
                      refine lv_istore (lv' := [(4, .int (bz (nAt (ar 13 j) (lnS (ar 15) (ar 13) base to (ar 42) (to - (j + 1))).1))), (8, .int 0), (7, .int 1), (6, .int (ar 13 j)), (0, .ref (ad 11)), (1, .int (nI fr)), (2, .int (nI to)), (3, .int (nI base)), (5, .int (nI j))]) hx hb d_LN_setLevels_124 hl (by decide) rfl (fun ls hl => ?_)
                      refine lv_iload hx hb d_LN_setLevels_126 (lv_at hl 0 rfl) ?_
                      refine lv_if_eq (tgt := 139) hx hb d_LN_setLevels_128 (by decide) (fun c128 => ?_) (fun c128 => ?_)
                      · have hnb := bz_0 c128
                        have eS : lnS (ar 15) (ar 13) base to (ar 42) (to - j) = (nAt (ar 13 j) (lnS (ar 15) (ar 13) base to (ar 42) (to - (j + 1))).1, upd (lnS (ar 15) (ar 13) base to (ar 42) (to - (j + 1))).2 j (ar 15 j)) := by rw [hls, if_neg c39, if_neg (by rw [hnb]; decide)]
                        have e1 := congrArg Prod.fst eS
                        simp only at e1
                        rw [← e1] at hl
                        have hI := CI.to (w2 := cw g ad (va_up ar 42 ((lnS (ar 15) (ar 13) base to (ar 42) (to - j)).2)) fl) hI (by rw [eS])
                        refine lv_iinc (v := nI j - 1) (lv' := [(5, .int (nI j - 1)), (4, .int (bz (lnS (ar 15) (ar 13) base to (ar 42) (to - j)).1)), (8, .int 0), (7, .int 1), (6, .int (ar 13 j)), (0, .ref (ad 11)), (1, .int (nI fr)), (2, .int (nI to)), (3, .int (nI base))]) hx hb d_LN_setLevels_139 hl (k := 8) rfl (nI_dec j) (by decide) rfl (fun ls hl => ?_)
                        refine lv_goto (tgt := 8) hx hb d_LN_setLevels_142 (by decide) ?_
                        exact ih8 j (by omega) (by first | assumption | omega) (by first | assumption | omega) _ _ _ hI (lv_sub hl [5, 6, 7, 8, 1, 0] rfl)
                      · have hnb := bz_1 c128
                        have eS : lnS (ar 15) (ar 13) base to (ar 42) (to - j) = (nAt (ar 13 j) (lnS (ar 15) (ar 13) base to (ar 42) (to - (j + 1))).1, upd (upd (lnS (ar 15) (ar 13) base to (ar 42) (to - (j + 1))).2 j (ar 15 j)) j (nI base)) := by rw [hls, if_neg c39, if_pos hnb, upd_2]
                        refine lv_aload_n hx hb d_LN_setLevels_131 rfl (lv_at hl 4 rfl) ?_
                        refine g_LN_15 M hI d_LN_setLevels_132 ?_
                        refine lv_iload hx hb d_LN_setLevels_135 (lv_at hl 8 rfl) ?_
                        refine lv_iload_n hx hb d_LN_setLevels_137 rfl (lv_at hl 7 rfl) ?_
                        refine as_42 M hI j rfl (by omega) d_LN_setLevels_138 (fun H locs hI => ?_)
                        have hI : CI g A s (cw g ad (va_up ar 42 (upd (upd ((lnS (ar 15) (ar 13) base to (ar 42) (to - (j + 1))).2) j (ar 15 j)) j (nI base))) fl) H locs := hI
                        have e1 := congrArg Prod.fst eS
                        simp only at e1
                        rw [← e1] at hl
                        have hI := CI.to (w2 := cw g ad (va_up ar 42 ((lnS (ar 15) (ar 13) base to (ar 42) (to - j)).2)) fl) hI (by rw [eS])
                        refine lv_iinc (v := nI j - 1) (lv' := [(5, .int (nI j - 1)), (4, .int (bz (lnS (ar 15) (ar 13) base to (ar 42) (to - j)).1)), (8, .int 0), (7, .int 1), (6, .int (ar 13 j)), (0, .ref (ad 11)), (1, .int (nI fr)), (2, .int (nI to)), (3, .int (nI base))]) hx hb d_LN_setLevels_139 hl (k := 8) rfl (nI_dec j) (by decide) rfl (fun ls hl => ?_)
                        refine lv_goto (tgt := 8) hx hb d_LN_setLevels_142 (by decide) ?_
                        exact ih8 j (by omega) (by first | assumption | omega) (by first | assumption | omega) _ _ _ hI (lv_sub hl [5, 6, 7, 8, 1, 0] rfl)
                    · have c106 : 1 = 0 := (nI_eq (a := 1) (b := 0) (by omega) (by omega)).mp c106
                      exfalso; omega
                  · have hbl : lblk (ar 13 j) := Or.inr (Or.inr c94)
                    refine lv_iconst (v := 1) hx hb d_LN_setLevels_97 (by decide) ?_
                    refine lv_goto (tgt := 102) hx hb d_LN_setLevels_98 (by decide) ?_
                    refine lv_istore (lv' := [(8, .int 1), (7, .int 1), (6, .int (ar 13 j)), (0, .ref (ad 11)), (1, .int (nI fr)), (2, .int (nI to)), (3, .int (nI base)), (4, .int (bz (lnS (ar 15) (ar 13) base to (ar 42) (to - (j + 1))).1)), (5, .int (nI j))]) hx hb d_LN_setLevels_102 hl (by decide) rfl (fun ls hl => ?_)
                    refine lv_iload hx hb d_LN_setLevels_104 (lv_at hl 1 rfl) ?_
                    refine lv_if_ne (tgt := 119) hx hb d_LN_setLevels_106 (by decide) (fun c106 => ?_) (fun c106 => ?_)
                    · have c106 : ¬ 1 = 0 := fun h => c106 ((nI_eq (a := 1) (b := 0) (by omega) (by omega)).mpr h)
                      refine lv_iconst (v := 1) hx hb d_LN_setLevels_119 (by decide) ?_
                      refine q_as (y := bz (nAt (ar 13 j) (lnS (ar 15) (ar 13) base to (ar 42) (to - (j + 1))).1)) (by rw [show nAt (ar 13 j) (lnS (ar 15) (ar 13) base to (ar 42) (to - (j + 1))).1 = true by unfold nAt; first | (rw [decide_eq_true hpt]; rfl) | (rw [hae, decide_eq_true hbl, Bool.and_self, Bool.or_true])]; rfl) ?_
                      refine lv_goto (tgt := 124) hx hb d_LN_setLevels_120 (by decide) ?_
                      refine lv_istore (lv' := [(4, .int (bz (nAt (ar 13 j) (lnS (ar 15) (ar 13) base to (ar 42) (to - (j + 1))).1))), (8, .int 1), (7, .int 1), (6, .int (ar 13 j)), (0, .ref (ad 11)), (1, .int (nI fr)), (2, .int (nI to)), (3, .int (nI base)), (5, .int (nI j))]) hx hb d_LN_setLevels_124 hl (by decide) rfl (fun ls hl => ?_)
                      refine lv_iload hx hb d_LN_setLevels_126 (lv_at hl 0 rfl) ?_
                      refine lv_if_eq (tgt := 139) hx hb d_LN_setLevels_128 (by decide) (fun c128 => ?_) (fun c128 => ?_)
                      · have hnb := bz_0 c128
                        have eS : lnS (ar 15) (ar 13) base to (ar 42) (to - j) = (nAt (ar 13 j) (lnS (ar 15) (ar 13) base to (ar 42) (to - (j + 1))).1, upd (lnS (ar 15) (ar 13) base to (ar 42) (to - (j + 1))).2 j (ar 15 j)) := by rw [hls, if_neg c39, if_neg (by rw [hnb]; decide)]
                        have e1 := congrArg Prod.fst eS
                        simp only at e1
                        rw [← e1] at hl
                        have hI := CI.to (w2 := cw g ad (va_up ar 42 ((lnS (ar 15) (ar 13) base to (ar 42) (to - j)).2)) fl) hI (by rw [eS])
                        refine lv_iinc (v := nI j - 1) (lv' := [(5, .int (nI j - 1)), (4, .int (bz (lnS (ar 15) (ar 13) base to (ar 42) (to - j)).1)), (8, .int 1), (7, .int 1), (6, .int (ar 13 j)), (0, .ref (ad 11)), (1, .int (nI fr)), (2, .int (nI to)), (3, .int (nI base))]) hx hb d_LN_setLevels_139 hl (k := 8) rfl (nI_dec j) (by decide) rfl (fun ls hl => ?_)
                        refine lv_goto (tgt := 8) hx hb d_LN_setLevels_142 (by decide) ?_
                        exact ih8 j (by omega) (by first | assumption | omega) (by first | assumption | omega) _ _ _ hI (lv_sub hl [5, 6, 7, 8, 1, 0] rfl)
                      · have hnb := bz_1 c128
                        have eS : lnS (ar 15) (ar 13) base to (ar 42) (to - j) = (nAt (ar 13 j) (lnS (ar 15) (ar 13) base to (ar 42) (to - (j + 1))).1, upd (upd (lnS (ar 15) (ar 13) base to (ar 42) (to - (j + 1))).2 j (ar 15 j)) j (nI base)) := by rw [hls, if_neg c39, if_pos hnb, upd_2]
                        refine lv_aload_n hx hb d_LN_setLevels_131 rfl (lv_at hl 4 rfl) ?_
                        refine g_LN_15 M hI d_LN_setLevels_132 ?_
                        refine lv_iload hx hb d_LN_setLevels_135 (lv_at hl 8 rfl) ?_
                        refine lv_iload_n hx hb d_LN_setLevels_137 rfl (lv_at hl 7 rfl) ?_
                        refine as_42 M hI j rfl (by omega) d_LN_setLevels_138 (fun H locs hI => ?_)
                        have hI : CI g A s (cw g ad (va_up ar 42 (upd (upd ((lnS (ar 15) (ar 13) base to (ar 42) (to - (j + 1))).2) j (ar 15 j)) j (nI base))) fl) H locs := hI
                        have e1 := congrArg Prod.fst eS
                        simp only at e1
                        rw [← e1] at hl
                        have hI := CI.to (w2 := cw g ad (va_up ar 42 ((lnS (ar 15) (ar 13) base to (ar 42) (to - j)).2)) fl) hI (by rw [eS])
                        refine lv_iinc (v := nI j - 1) (lv' := [(5, .int (nI j - 1)), (4, .int (bz (lnS (ar 15) (ar 13) base to (ar 42) (to - j)).1)), (8, .int 1), (7, .int 1), (6, .int (ar 13 j)), (0, .ref (ad 11)), (1, .int (nI fr)), (2, .int (nI to)), (3, .int (nI base))]) hx hb d_LN_setLevels_139 hl (k := 8) rfl (nI_dec j) (by decide) rfl (fun ls hl => ?_)
                        refine lv_goto (tgt := 8) hx hb d_LN_setLevels_142 (by decide) ?_
                        exact ih8 j (by omega) (by first | assumption | omega) (by first | assumption | omega) _ _ _ hI (lv_sub hl [5, 6, 7, 8, 1, 0] rfl)
                    · have c106 : 1 = 0 := (nI_eq (a := 1) (b := 0) (by omega) (by omega)).mp c106
                      exfalso; omega
  have hI := CI.to (w2 := cw g ad (va_up ar 42 ((lnS (ar 15) (ar 13) base to (ar 42) (to - to)).2)) fl) hI (by rw [Nat.sub_self]; rfl)
  exact L8 _ to (Nat.lt_succ_self _) (by first | assumption | omega) (by first | assumption | omega) _ _ _ hI (lv_sub hl [2, 3, 4, 5, 1, 0] rfl)
abbrev rm_LN_turnRows : Room := { frames := 2, cells := 0, slots := 0, locals := 48 }
set_option maxHeartbeats 4000000 in
set_option maxRecDepth 100000 in
theorem c_LN_turnRows (l : Launch) (g : Geo) (ad : Nat → Nat) (ar : Nat → Nat → Int32) (fl : Nat → Int32) (mm cn : Nat) (O LV : Nat → Nat) (hmm : fl 18 = nI mm) (hM : mm ≤ 2000) (hcn : cn ≤ 2000) (hO : oR (ar 41) O mm) (hps : pos2 mm O cn) (hLV : ∀ q, q < cn → ¬ ar 42 q = -1 → ar 42 q = nI (LV q) ∧ LV q ≤ 127) (hne : ∀ j, j < mm → ¬ ar 42 (O j) = -1) : cMv l y_LN_turnRows (.code y_LN_turnRows b_LN_turnRows 5 none :: gw) rm_LN_turnRows g [.ref (ad 11)] (cw g ad ar fl) (fun (u : (Nat → Int32)) => oR u (dn LV mm (loN LV O mm) (hiZ LV O mm) O) mm) (fun (u : (Nat → Int32)) => cw g ad (va_up ar 41 u) fl) 0 0 := by
  refine cMv_of (by decide) (Nat.le_of_ble_eq_true rfl) ?_
  intro p e s m below meth c A Q ls M hnm hret hl hI
  have M : MC p s m ([.ref (ad 11)] : List Value).toArray meth c R_LN b_LN_turnRows 5 := M
  have hl : lv_has ls 5 [(0, .ref (ad 11))] := hl
  generalize ([.ref (ad 11)] : List Value).toArray = args at M hret ⊢
  have hx := M.1
  have hb := M.2.1
  have hl7 : ∀ j, j < mm → LV (O j) ≤ 127 := fun j hj => (hLV _ (hps j hj) (hne j hj)).2
  refine lv_iconst (v := (-1)) hx hb d_LN_turnRows_0 (by decide) ?_
  refine q_as (y := nI (hiZ LV O 0) - 1) (rfl) ?_
  refine lv_istore_n (lv' := [(1, .int (nI (hiZ LV O 0) - 1)), (0, .ref (ad 11))]) hx hb d_LN_turnRows_1 rfl hl (by decide) rfl (fun ls hl => ?_)
  refine lv_bipush (v := 127) hx hb d_LN_turnRows_2 (by decide) ?_
  refine q_as (y := nI (loN LV O 0)) (rfl) ?_
  refine lv_istore_n (lv' := [(2, .int (nI (loN LV O 0))), (1, .int (nI (hiZ LV O 0) - 1)), (0, .ref (ad 11))]) hx hb d_LN_turnRows_4 rfl hl (by decide) rfl (fun ls hl => ?_)
  refine lv_iconst (v := 0) hx hb d_LN_turnRows_5 (by decide) ?_
  refine lv_istore_n (lv' := [(3, .int 0), (2, .int (nI (loN LV O 0))), (1, .int (nI (hiZ LV O 0) - 1)), (0, .ref (ad 11))]) hx hb d_LN_turnRows_6 rfl hl (by decide) rfl (fun ls hl => ?_)
  have L7 : ∀ (fu : Nat) (i : Nat), (mm - i) < fu → (i ≤ mm) → ∀ (H : Heap) (locs : List Loc) (ls : Array Slot), CI g A s (cw g ad ar fl) H locs → lv_has ls 5 [(0, .ref (ad 11)), (1, .int (nI (hiZ LV O i) - 1)), (2, .int (nI (loN LV O i))), (3, .int (nI i))] → W p l e rm_LN_turnRows s m args below meth c H locs 0 0 Q (F0 m 7 ls []) := by
    intro fu
    induction fu with
    | zero => intro i hm; exact absurd hm (Nat.not_lt_zero _)
    | succ fu ih7 =>
      intro i hm hi H locs ls hI hl
      refine lv_iload_n hx hb d_LN_turnRows_7 rfl (lv_at hl 3 rfl) ?_
      refine lv_aload_n hx hb d_LN_turnRows_8 rfl (lv_at hl 0 rfl) ?_
      refine g_LN_21 M hI d_LN_turnRows_9 ?_
      refine q_as (y := nI mm) hmm ?_
      refine lv_icmp_ge (tgt := 56) hx hb d_LN_turnRows_12 (by decide) (fun c12 => ?_) (fun c12 => ?_)
      · have c12 : mm ≤ i := (nI_leI (a := mm) (b := i) (by omega) (by omega)).mp c12
        have ei : i = mm := by omega
        rw [ei] at hl
        have hzm := hiZ_le hl7 mm (Nat.le_refl _)
        have hlm := loN_le (LV := LV) (O := O) mm
        refine lv_iload_n hx hb d_LN_turnRows_56 rfl (lv_at hl 1 rfl) ?_
        refine lv_istore_n (lv' := [(3, .int (nI (hiZ LV O mm) - 1)), (0, .ref (ad 11)), (1, .int (nI (hiZ LV O mm) - 1)), (2, .int (nI (loN LV O mm)))]) hx hb d_LN_turnRows_57 rfl hl (by decide) rfl (fun ls hl => ?_)
        have L58 : ∀ (fu : Nat) (z : Nat) (y : Nat → Int32) (O2 : Nat → Nat), z < fu → (z ≤ 128) → (oR y O2 mm) → (pos2 mm O2 cn) → (∀ j, j < mm → ¬ ar 42 (O2 j) = -1) → (dn LV mm (loN LV O mm) (hiZ LV O mm) O = dn LV mm (loN LV O mm) z O2) → ∀ (H : Heap) (locs : List Loc) (ls : Array Slot), CI g A s (cw g ad (va_up ar 41 y) fl) H locs → lv_has ls 5 [(0, .ref (ad 11)), (2, .int (nI (loN LV O mm))), (3, .int (nI z - 1))] → W p l e rm_LN_turnRows s m args below meth c H locs 0 0 Q (F0 m 58 ls []) := by
          intro fu
          induction fu with
          | zero => intro z y O2 hm; exact absurd hm (Nat.not_lt_zero _)
          | succ fu ih58 =>
            intro z y O2 hm hz hy hp2 hn2 hq H locs ls hI hl
            refine lv_iload_n hx hb d_LN_turnRows_58 rfl (lv_at hl 2 rfl) ?_
            refine lv_iload_n hx hb d_LN_turnRows_59 rfl (lv_at hl 1 rfl) ?_
            refine lv_icmp_lt (tgt := 74) hx hb d_LN_turnRows_60 (by decide) (fun c60 => ?_) (fun c60 => ?_)
            · have c60 := (nI_m1lt (by omega) (by omega)).mp c60
              exact hret y _ _ _ _ _ _ d_LN_turnRows_74 hI (by rw [hq]; cases z with | zero => exact hy | succ z => simp only [dn]; rw [if_pos (by omega)]; exact hy) (Nat.le_refl 0) (Nat.le_refl 0)
            · have c60 : ¬ z < loN LV O mm + 1 := fun q => c60 ((nI_m1lt (by omega) (by omega)).mpr q)
              obtain ⟨j, rfl⟩ : ∃ j, z = j + 1 := ⟨z - 1, by omega⟩
              rw [nI_pred] at hl
              refine lv_aload_n hx hb d_LN_turnRows_63 rfl (lv_at hl 0 rfl) ?_
              refine lv_iload_n hx hb d_LN_turnRows_64 rfl (lv_at hl 2 rfl) ?_
              refine q_callvV [.int (nI j)] M hI (c_LN_turnRowsFrom l g ad (va_up ar 41 y) fl j mm cn O2 LV (by first | exact hmm | assumption | omega | rfl) (by first | exact hM | assumption | omega | rfl) (hcn) (by omega) (hy) (hp2) (hLV) (hn2)) ok_LN_turnRowsFrom m4_128 m4_130 ms_40 11 rfl rfl rfl rfl hl.1 ⟨rfl, rfl⟩ ⟨Nat.le_of_ble_eq_true rfl, Nat.le_of_ble_eq_true rfl⟩ (Nat.le_of_ble_eq_true rfl) ⟨Nat.le_of_ble_eq_true rfl, Nat.le_of_ble_eq_true rfl⟩ d_LN_turnRows_65 (fun u65 H locs hp65 hI => ?_)
              obtain ⟨y_65, rfl⟩ : ∃ z, z = u65 := ⟨_, rfl⟩
              have hI : CI g A s (cw g ad (va_up ar 41 y_65) fl) H locs := hI
              refine lv_iinc (v := nI j - 1) (lv' := [(3, .int (nI j - 1)), (0, .ref (ad 11)), (2, .int (nI (loN LV O mm)))]) hx hb d_LN_turnRows_68 hl (k := 2) rfl (nI_dec j) (by decide) rfl (fun ls hl => ?_)
              refine lv_goto (tgt := 58) hx hb d_LN_turnRows_71 (by decide) ?_
              exact ih58 j y_65 (trow LV mm j O2) (by omega) (by first | assumption | omega) (hp65) (trS_pos hp2 (mm + 1) (Nat.le_refl _)) (fun j2 hj2 => trS_ne (P := fun q => ¬ ar 42 q = -1) hn2 (mm + 1) (Nat.le_refl _) hj2) (by rw [hq]; simp only [dn]; rw [if_neg (by omega)]) _ _ _ hI (lv_sub hl [1, 2, 0] rfl)
        have hI := CI.to (w2 := cw g ad (va_up ar 41 (ar 41)) fl) hI (by rfl)
        exact L58 _ (hiZ LV O mm) (ar 41) O (Nat.lt_succ_self _) (by first | assumption | omega) (hO) (hps) (hne) (rfl) _ _ _ hI (lv_sub hl [1, 3, 0] rfl)
      · have c12 : ¬ mm ≤ i := fun h => c12 ((nI_leI (a := mm) (b := i) (by omega) (by omega)).mpr h)
        have hzi := hiZ_le hl7 i hi
        have hli := loN_le (LV := LV) (O := O) i
        have hlv := hLV _ (hps i (by omega)) (hne i (by omega))
        have hpi := hps i (by omega)
        refine lv_aload_n hx hb d_LN_turnRows_15 rfl (lv_at hl 0 rfl) ?_
        refine g_LN_15 M hI d_LN_turnRows_16 ?_
        refine lv_aload_n hx hb d_LN_turnRows_19 rfl (lv_at hl 0 rfl) ?_
        refine g_LN_9 M hI d_LN_turnRows_20 ?_
        refine lv_iload_n hx hb d_LN_turnRows_23 rfl (lv_at hl 3 rfl) ?_
        refine al_41 M hI i rfl (by omega) d_LN_turnRows_24 ?_
        refine q_as (y := nI (O i)) (hO i (by omega)) ?_
        refine al_42 M hI (O i) rfl (by omega) d_LN_turnRows_25 ?_
        refine q_as (y := nI (LV (O i))) (hlv.1) ?_
        refine lv_istore (lv' := [(4, .int (nI (LV (O i)))), (0, .ref (ad 11)), (1, .int (nI (hiZ LV O i) - 1)), (2, .int (nI (loN LV O i))), (3, .int (nI i))]) hx hb d_LN_turnRows_26 hl (by decide) rfl (fun ls hl => ?_)
        refine lv_iload_n hx hb d_LN_turnRows_28 rfl (lv_at hl 2 rfl) ?_
        refine lv_iload hx hb d_LN_turnRows_29 (lv_at hl 0 rfl) ?_
        refine va_mmax hx hb (by rw [hl.1]; exact M.2.2.1) M.2.2.2.1 (M.2.2.2.2.1 _ m4_123) (M.2.2.2.2.1 _ m3_76) (M.2.2.2.2.1 _ m1_18) (M.2.2.2.2.1 _ m3_77) (Nat.le_of_ble_eq_true rfl) (Nat.le_of_ble_eq_true rfl) (Nat.le_of_ble_eq_true rfl) (Nat.le_of_ble_eq_true rfl) d_LN_turnRows_31 ?_
        refine q_as (y := nI (hiZ LV O (i + 1)) - 1) (max_m1 (by omega) (by have := hlv.2; omega)) ?_
        refine lv_istore_n (lv' := [(1, .int (nI (hiZ LV O (i + 1)) - 1)), (4, .int (nI (LV (O i)))), (0, .ref (ad 11)), (2, .int (nI (loN LV O i))), (3, .int (nI i))]) hx hb d_LN_turnRows_34 rfl hl (by decide) rfl (fun ls hl => ?_)
        refine lv_iload hx hb d_LN_turnRows_35 (lv_at hl 1 rfl) ?_
        refine q_calliSN [.int (nI (LV (O i)))] M hI (c_BL_isOdd l g (cw g ad ar fl) (LV (O i)) (by have := hlv.2; omega)) ok_BL_isOdd (List.mem_of_getElem? (i := 12) rfl) m4_34 rfl rfl hl.1 ⟨rfl, rfl⟩ ⟨Nat.le_of_ble_eq_true rfl, Nat.le_of_ble_eq_true rfl⟩ (Nat.le_of_ble_eq_true rfl) ⟨Nat.le_of_ble_eq_true rfl, Nat.le_of_ble_eq_true rfl⟩ d_LN_turnRows_37 (fun r37 u37 H locs hp37 hI => ?_)
        refine q_as (y := bI ((LV (O i)) % 2 = 1)) hp37 ?_
        refine lv_if_eq (tgt := 50) hx hb d_LN_turnRows_40 (by decide) (fun c40 => ?_) (fun c40 => ?_)
        · have c40 := bI_eq0.mp c40
          have eL : loN LV O (i + 1) = loN LV O i := by simp only [loN]; rw [if_neg c40]
          rw [← eL] at hl
          refine lv_iinc (v := nI (i + 1)) (lv' := [(3, .int (nI (i + 1))), (1, .int (nI (hiZ LV O (i + 1)) - 1)), (4, .int (nI (LV (O i)))), (0, .ref (ad 11)), (2, .int (nI (loN LV O (i + 1))))]) hx hb d_LN_turnRows_50 hl (k := 4) rfl (nI_add _ 1) (by decide) rfl (fun ls hl => ?_)
          refine lv_goto (tgt := 7) hx hb d_LN_turnRows_53 (by decide) ?_
          exact ih7 (i + 1) (by omega) (by first | assumption | omega) _ _ _ hI (lv_sub hl [3, 1, 4, 0] rfl)
        · have c40 := bI_ne0.mp c40
          have eL : loN LV O (i + 1) = min (loN LV O i) (LV (O i)) := by simp only [loN]; rw [if_pos c40]
          refine lv_iload_n hx hb d_LN_turnRows_43 rfl (lv_at hl 3 rfl) ?_
          refine lv_iload hx hb d_LN_turnRows_44 (lv_at hl 1 rfl) ?_
          refine va_mmin hx hb (by rw [hl.1]; exact M.2.2.1) M.2.2.2.1 (M.2.2.2.2.1 _ m4_125) (M.2.2.2.2.1 _ m4_126) (M.2.2.2.2.1 _ m1_18) (M.2.2.2.2.1 _ m4_127) (Nat.le_of_ble_eq_true rfl) (Nat.le_of_ble_eq_true rfl) (Nat.le_of_ble_eq_true rfl) (Nat.le_of_ble_eq_true rfl) d_LN_turnRows_46 ?_
          refine q_as (y := nI (loN LV O (i + 1))) (by rw [eL]; exact nI_min (by omega) (by have := hlv.2; omega)) ?_
          refine lv_istore_n (lv' := [(2, .int (nI (loN LV O (i + 1)))), (1, .int (nI (hiZ LV O (i + 1)) - 1)), (4, .int (nI (LV (O i)))), (0, .ref (ad 11)), (3, .int (nI i))]) hx hb d_LN_turnRows_49 rfl hl (by decide) rfl (fun ls hl => ?_)
          refine lv_iinc (v := nI (i + 1)) (lv' := [(3, .int (nI (i + 1))), (2, .int (nI (loN LV O (i + 1)))), (1, .int (nI (hiZ LV O (i + 1)) - 1)), (4, .int (nI (LV (O i)))), (0, .ref (ad 11))]) hx hb d_LN_turnRows_50 hl (k := 4) rfl (nI_add _ 1) (by decide) rfl (fun ls hl => ?_)
          refine lv_goto (tgt := 7) hx hb d_LN_turnRows_53 (by decide) ?_
          exact ih7 (i + 1) (by omega) (by first | assumption | omega) _ _ _ hI (lv_sub hl [4, 2, 1, 0] rfl)
  exact L7 _ 0 (Nat.lt_succ_self _) (by first | assumption | omega) _ _ _ hI (lv_sub hl [3, 2, 1, 0] rfl)
