/-! 25: Explicit.giveLevel, giveLevels -/
theorem k_not {k v : Int32} {P : Int32 → Prop} (h : P k) (hv : ¬ P v) : ¬ k = v := fun q => hv (q ▸ h)
theorem isol_18 : ¬ isol 18 := by decide
theorem isol_9 : ¬ isol 9 := by decide
theorem isol_10 : ¬ isol 10 := by decide
theorem isol_22 : ¬ isol 22 := by decide
theorem isemb_22 : ¬ isemb 22 := by decide
abbrev rm_EX_giveLevel : Room := { frames := 3, cells := 0, slots := 0, locals := 88 }
set_option maxHeartbeats 4000000 in
set_option maxRecDepth 100000 in
theorem c_EX_giveLevel (l : Launch) (g : Geo) (ad : Nat → Nat) (ar : Nat → Nat → Int32) (fl : Nat → Int32) (q : Nat) (pe : Nat) (base : Nat) (lv : Nat) (ov : Int32) (ib : Bool) (rs : List XE) (xi xe xv N : Nat) (h7 : fl 7 = nI rs.length) (h8 : fl 8 = nI xi) (h9 : fl 9 = nI xe) (h10 : fl 10 = nI xv) (hrel : xrel (ar 29) (ar 30) (ar 31) ((lv, ov, ib) :: rs)) (hok : xok N ((lv, ov, ib) :: rs, xi, xe, xv)) (hN : N ≤ 2000) (hq : q < 2000) (hpe : pe ≤ 2000) (hmt : okM (ar 16)) : cMv l y_EX_giveLevel (.code y_EX_giveLevel b_EX_giveLevel 5 none :: gw) rm_EX_giveLevel g [.ref (ad 6), .int (nI q), .int (nI pe), .int (nI base)] (cw g ad ar fl) (fun (u : (Nat → Int32) × (Nat → Int32) × (Nat → Int32)) => xrel u.1 u.2.1 u.2.2 (xstep (ar 13) (ar 16) pe q ((lv, ov, ib) :: rs, xi, xe, xv)).1) (fun (u : (Nat → Int32) × (Nat → Int32) × (Nat → Int32)) => cw g ad (va_up (va_up (va_up (va_up (va_up ar 29 u.1) 30 u.2.1) 31 u.2.2) 15 (upd (ar 15) q (xlev (ar 13 q) base ((lv, ov, ib) :: rs, xi, xe, xv)))) 14 (upd (ar 14) q (xkin (ar 13 q) ((lv, ov, ib) :: rs, xi, xe, xv)))) (va_up (va_up (va_up (va_up fl 7 (xt (xstep (ar 13) (ar 16) pe q ((lv, ov, ib) :: rs, xi, xe, xv)))) 8 (nI (xstep (ar 13) (ar 16) pe q ((lv, ov, ib) :: rs, xi, xe, xv)).2.1)) 9 (nI (xstep (ar 13) (ar 16) pe q ((lv, ov, ib) :: rs, xi, xe, xv)).2.2.1)) 10 (nI (xstep (ar 13) (ar 16) pe q ((lv, ov, ib) :: rs, xi, xe, xv)).2.2.2))) 0 0 := by
  refine cMv_of (by decide) (Nat.le_of_ble_eq_true rfl) ?_
  intro p e s m below meth c A Q ls M hnm hret hl hI
  have M : MC p s m ([.ref (ad 6), .int (nI q), .int (nI pe), .int (nI base)] : List Value).toArray meth c R_EX b_EX_giveLevel 5 := M
  have hl : lv_has ls 5 [(0, .ref (ad 6)), (1, .int (nI q)), (2, .int (nI pe)), (3, .int (nI base))] := hl
  generalize ([.ref (ad 6), .int (nI q), .int (nI pe), .int (nI base)] : List Value).toArray = args at M hret ⊢
  have hx := M.1
  have hb := M.2.1
  have hb1 : rs.length ≤ lv := hok.2.1.1
  have hb2 : lv ≤ 125 := hok.2.1.2.1
  have hb3 : xi ≤ N := hok.2.2.1
  have hb4 : xe ≤ N := hok.2.2.2.1
  have hb5 : xv ≤ N := hok.2.2.2.2
  have hI := CI.to (w2 := cw g ad ar (va_up (va_up (va_up (va_up fl 7 (nI rs.length)) 8 (nI xi)) 9 (nI xe)) 10 (nI xv))) hI (by rw [← h7, ← h8, ← h9, ← h10]; rfl)
  refine lv_aload_n hx hb d_EX_giveLevel_0 rfl (lv_at hl 0 rfl) ?_
  refine g_EX_35 M hI d_EX_giveLevel_1 ?_
  refine g_EX_47 M hI d_EX_giveLevel_4 ?_
  refine lv_iload_n hx hb d_EX_giveLevel_7 rfl (lv_at hl 1 rfl) ?_
  refine al_13 M hI q rfl (by omega) d_EX_giveLevel_8 ?_
  refine lv_istore (lv' := [(4, .int (ar 13 q)), (0, .ref (ad 6)), (1, .int (nI q)), (2, .int (nI pe)), (3, .int (nI base))]) hx hb d_EX_giveLevel_9 hl (by decide) rfl (fun ls hl => ?_)
  refine lv_iload hx hb d_EX_giveLevel_11 (lv_at hl 0 rfl) ?_
  refine q_calliSN [.int (ar 13 q)] M hI (c_BL_isEmbedding l g (cw g ad ar (va_up (va_up (va_up (va_up fl 7 (nI rs.length)) 8 (nI xi)) 9 (nI xe)) 10 (nI xv))) (ar 13 q)) ok_BL_isEmbedding (List.mem_of_getElem? (i := 3) rfl) m3_87 rfl rfl hl.1 ⟨rfl, rfl⟩ ⟨Nat.le_of_ble_eq_true rfl, Nat.le_of_ble_eq_true rfl⟩ (Nat.le_of_ble_eq_true rfl) ⟨Nat.le_of_ble_eq_true rfl, Nat.le_of_ble_eq_true rfl⟩ d_EX_giveLevel_13 (fun r13 u13 H locs hp13 hI => ?_)
  refine q_as (y := bI (isemb (ar 13 q))) hp13 ?_
  refine lv_if_eq (tgt := 33) hx hb d_EX_giveLevel_16 (by decide) (fun c16 => ?_) (fun c16 => ?_)
  · have c16 := bI_eq0.mp c16
    refine lv_iload hx hb d_EX_giveLevel_33 (lv_at hl 0 rfl) ?_
    refine q_calliSN [.int (ar 13 q)] M hI (c_BL_isIsolate l g (cw g ad ar (va_up (va_up (va_up (va_up fl 7 (nI rs.length)) 8 (nI xi)) 9 (nI xe)) 10 (nI xv))) (ar 13 q)) ok_BL_isIsolate (List.mem_of_getElem? (i := 5) rfl) m3_69 rfl rfl hl.1 ⟨rfl, rfl⟩ ⟨Nat.le_of_ble_eq_true rfl, Nat.le_of_ble_eq_true rfl⟩ (Nat.le_of_ble_eq_true rfl) ⟨Nat.le_of_ble_eq_true rfl, Nat.le_of_ble_eq_true rfl⟩ d_EX_giveLevel_35 (fun r35 u35 H locs hp35 hI => ?_)
    refine q_as (y := bI (isol (ar 13 q))) hp35 ?_
    refine lv_if_eq (tgt := 62) hx hb d_EX_giveLevel_38 (by decide) (fun c38 => ?_) (fun c38 => ?_)
    · have c38 := bI_eq0.mp c38
      refine lv_iload hx hb d_EX_giveLevel_62 (lv_at hl 0 rfl) ?_
      refine lv_bipush (v := 22) hx hb d_EX_giveLevel_64 (by decide) ?_
      refine lv_icmp_ne (tgt := 81) hx hb d_EX_giveLevel_66 (by decide) (fun c66 => ?_) (fun c66 => ?_)
      · refine lv_iload hx hb d_EX_giveLevel_81 (lv_at hl 0 rfl) ?_
        refine lv_bipush (v := 18) hx hb d_EX_giveLevel_83 (by decide) ?_
        refine lv_icmp_ne (tgt := 100) hx hb d_EX_giveLevel_85 (by decide) (fun c85 => ?_) (fun c85 => ?_)
        · refine lv_iload hx hb d_EX_giveLevel_100 (lv_at hl 0 rfl) ?_
          refine lv_bipush (v := 9) hx hb d_EX_giveLevel_102 (by decide) ?_
          refine lv_icmp_ne (tgt := 115) hx hb d_EX_giveLevel_104 (by decide) (fun c104 => ?_) (fun c104 => ?_)
          · refine lv_iload hx hb d_EX_giveLevel_115 (lv_at hl 0 rfl) ?_
            refine lv_bipush (v := 10) hx hb d_EX_giveLevel_117 (by decide) ?_
            refine lv_icmp_ne (tgt := 146) hx hb d_EX_giveLevel_119 (by decide) (fun c119 => ?_) (fun c119 => ?_)
            · have hng : ¬ xgone (ar 13 q) := fun z => z.elim c16 (fun z => z.elim c85 c104)
              have h10n : ¬ ar 13 q = 10 := c119
              have h22n : ¬ ar 13 q = 22 := c66
              have eX : xstep (ar 13) (ar 16) pe q ((lv, ov, ib) :: rs, xi, xe, xv) = ((lv, ov, ib) :: rs, xi, xe, xv) := by unfold xstep; exact (if_neg c16).trans ((if_neg c38).trans ((if_neg c66).trans (if_neg c85)))
              have elv : xlev (ar 13 q) base ((lv, ov, ib) :: rs, xi, xe, xv) = nI lv := by unfold xlev; exact (if_neg hng).trans ((if_neg h10n).trans (by unfold xtop; rw [if_neg h22n]; rfl))
              have ekn : xkin (ar 13 q) ((lv, ov, ib) :: rs, xi, xe, xv) = (if ov = -1 then ar 13 q else ov) := by unfold xkin; exact (if_neg hng).trans ((if_neg h10n).trans (by unfold xtop; rw [if_neg h22n]; rfl))
              have hp9 : xrel (ar 29) (ar 30) (ar 31) (xstep (ar 13) (ar 16) pe q ((lv, ov, ib) :: rs, xi, xe, xv)).1 := by rw [eX]; exact hrel
              refine lv_aload_n hx hb d_EX_giveLevel_146 rfl (lv_at hl 1 rfl) ?_
              refine lv_iload_n hx hb d_EX_giveLevel_147 rfl (lv_at hl 2 rfl) ?_
              refine q_callvV [.int (nI q)] M hI (c_EX_takeTop l g ad ar (va_up (va_up (va_up (va_up fl 7 (nI rs.length)) 8 (nI xi)) 9 (nI xe)) 10 (nI xv)) q lv ov ib rs (by first | exact h7 | assumption | omega | rfl) (by first | exact hrel | assumption | omega | rfl) (by omega) (hq)) ok_EX_takeTop m3_113 m3_115 ms_11 6 rfl rfl rfl rfl hl.1 ⟨rfl, rfl⟩ ⟨Nat.le_of_ble_eq_true rfl, Nat.le_of_ble_eq_true rfl⟩ (Nat.le_of_ble_eq_true rfl) ⟨Nat.le_of_ble_eq_true rfl, Nat.le_of_ble_eq_true rfl⟩ d_EX_giveLevel_148 (fun u148 H locs hp148 hI => ?_)
              have hI : CI g A s (cw g ad (va_up (va_up ar 15 (upd (ar 15) q (nI lv))) 14 (upd (ar 14) q (if ov = -1 then ar 13 q else ov))) (va_up (va_up (va_up (va_up fl 7 (nI rs.length)) 8 (nI xi)) 9 (nI xe)) 10 (nI xv))) H locs := hI
              have hI := CI.to (w2 := cw g ad (va_up (va_up (va_up (va_up (va_up ar 29 (ar 29)) 30 (ar 30)) 31 (ar 31)) 15 (upd (ar 15) q (xlev (ar 13 q) base ((lv, ov, ib) :: rs, xi, xe, xv)))) 14 (upd (ar 14) q (xkin (ar 13 q) ((lv, ov, ib) :: rs, xi, xe, xv)))) (va_up (va_up (va_up (va_up fl 7 (xt (xstep (ar 13) (ar 16) pe q ((lv, ov, ib) :: rs, xi, xe, xv)))) 8 (nI (xstep (ar 13) (ar 16) pe q ((lv, ov, ib) :: rs, xi, xe, xv)).2.1)) 9 (nI (xstep (ar 13) (ar 16) pe q ((lv, ov, ib) :: rs, xi, xe, xv)).2.2.1)) 10 (nI (xstep (ar 13) (ar 16) pe q ((lv, ov, ib) :: rs, xi, xe, xv)).2.2.2))) hI (by rw [eX, elv, ekn] <;> rfl)
              exact hret (ar 29, ar 30, ar 31) _ _ _ _ _ _ d_EX_giveLevel_151 hI (hp9) (Nat.le_refl 0) (Nat.le_refl 0)
            · have hng : ¬ xgone (ar 13 q) := fun z => z.elim c16 (fun z => z.elim c85 c104)
              have eX : xstep (ar 13) (ar 16) pe q ((lv, ov, ib) :: rs, xi, xe, xv) = ((lv, ov, ib) :: rs, xi, xe, xv) := by unfold xstep; exact (if_neg c16).trans ((if_neg c38).trans ((if_neg c66).trans (if_neg c85)))
              have elv : xlev (ar 13 q) base ((lv, ov, ib) :: rs, xi, xe, xv) = nI base := by unfold xlev; exact (if_neg hng).trans (if_pos c119)
              have ekn : xkin (ar 13 q) ((lv, ov, ib) :: rs, xi, xe, xv) = 10 := by unfold xkin; exact (if_neg hng).trans (if_pos c119)
              have hp9 : xrel (ar 29) (ar 30) (ar 31) (xstep (ar 13) (ar 16) pe q ((lv, ov, ib) :: rs, xi, xe, xv)).1 := by rw [eX]; exact hrel
              refine lv_aload_n hx hb d_EX_giveLevel_122 rfl (lv_at hl 1 rfl) ?_
              refine g_EX_35 M hI d_EX_giveLevel_123 ?_
              refine g_EX_84 M hI d_EX_giveLevel_126 ?_
              refine lv_iload_n hx hb d_EX_giveLevel_129 rfl (lv_at hl 2 rfl) ?_
              refine lv_iload_n hx hb d_EX_giveLevel_130 rfl (lv_at hl 4 rfl) ?_
              refine as_15 M hI q rfl (by omega) d_EX_giveLevel_131 (fun H locs hI => ?_)
              have hI : CI g A s (cw g ad (va_up ar 15 (upd (ar 15) q (nI base))) (va_up (va_up (va_up (va_up fl 7 (nI rs.length)) 8 (nI xi)) 9 (nI xe)) 10 (nI xv))) H locs := hI
              refine lv_aload_n hx hb d_EX_giveLevel_132 rfl (lv_at hl 1 rfl) ?_
              refine g_EX_35 M hI d_EX_giveLevel_133 ?_
              refine g_EX_87 M hI d_EX_giveLevel_136 ?_
              refine lv_iload_n hx hb d_EX_giveLevel_139 rfl (lv_at hl 2 rfl) ?_
              refine lv_bipush (v := 10) hx hb d_EX_giveLevel_140 (by decide) ?_
              refine as_14 M hI q rfl (by omega) d_EX_giveLevel_142 (fun H locs hI => ?_)
              have hI : CI g A s (cw g ad (va_up (va_up ar 15 (upd (ar 15) q (nI base))) 14 (upd (ar 14) q 10)) (va_up (va_up (va_up (va_up fl 7 (nI rs.length)) 8 (nI xi)) 9 (nI xe)) 10 (nI xv))) H locs := hI
              refine lv_goto (tgt := 151) hx hb d_EX_giveLevel_143 (by decide) ?_
              have hI := CI.to (w2 := cw g ad (va_up (va_up (va_up (va_up (va_up ar 29 (ar 29)) 30 (ar 30)) 31 (ar 31)) 15 (upd (ar 15) q (xlev (ar 13 q) base ((lv, ov, ib) :: rs, xi, xe, xv)))) 14 (upd (ar 14) q (xkin (ar 13 q) ((lv, ov, ib) :: rs, xi, xe, xv)))) (va_up (va_up (va_up (va_up fl 7 (xt (xstep (ar 13) (ar 16) pe q ((lv, ov, ib) :: rs, xi, xe, xv)))) 8 (nI (xstep (ar 13) (ar 16) pe q ((lv, ov, ib) :: rs, xi, xe, xv)).2.1)) 9 (nI (xstep (ar 13) (ar 16) pe q ((lv, ov, ib) :: rs, xi, xe, xv)).2.2.1)) 10 (nI (xstep (ar 13) (ar 16) pe q ((lv, ov, ib) :: rs, xi, xe, xv)).2.2.2))) hI (by rw [eX, elv, ekn] <;> rfl)
              exact hret (ar 29, ar 30, ar 31) _ _ _ _ _ _ d_EX_giveLevel_151 hI (hp9) (Nat.le_refl 0) (Nat.le_refl 0)
          · have eX : xstep (ar 13) (ar 16) pe q ((lv, ov, ib) :: rs, xi, xe, xv) = ((lv, ov, ib) :: rs, xi, xe, xv) := by unfold xstep; exact (if_neg c16).trans ((if_neg c38).trans ((if_neg c66).trans (if_neg c85)))
            have elv : xlev (ar 13 q) base ((lv, ov, ib) :: rs, xi, xe, xv) = -1 := by unfold xlev; exact if_pos (Or.inr (Or.inr c104))
            have ekn : xkin (ar 13 q) ((lv, ov, ib) :: rs, xi, xe, xv) = -1 := by unfold xkin; exact if_pos (Or.inr (Or.inr c104))
            have hp9 : xrel (ar 29) (ar 30) (ar 31) (xstep (ar 13) (ar 16) pe q ((lv, ov, ib) :: rs, xi, xe, xv)).1 := by rw [eX]; exact hrel
            refine lv_aload_n hx hb d_EX_giveLevel_107 rfl (lv_at hl 1 rfl) ?_
            refine lv_iload_n hx hb d_EX_giveLevel_108 rfl (lv_at hl 2 rfl) ?_
            refine q_callvV [.int (nI q)] M hI (c_EX_remove l g ad ar (va_up (va_up (va_up (va_up fl 7 (nI rs.length)) 8 (nI xi)) 9 (nI xe)) 10 (nI xv)) q (by first | exact hq | assumption | omega | rfl)) ok_EX_remove m3_108 m3_110 ms_10 6 rfl rfl rfl rfl hl.1 ⟨rfl, rfl⟩ ⟨Nat.le_of_ble_eq_true rfl, Nat.le_of_ble_eq_true rfl⟩ (Nat.le_of_ble_eq_true rfl) ⟨Nat.le_of_ble_eq_true rfl, Nat.le_of_ble_eq_true rfl⟩ d_EX_giveLevel_109 (fun u109 H locs hp109 hI => ?_)
            have hI : CI g A s (cw g ad (va_up (va_up ar 15 (upd (ar 15) q (-1))) 14 (upd (ar 14) q (-1))) (va_up (va_up (va_up (va_up fl 7 (nI rs.length)) 8 (nI xi)) 9 (nI xe)) 10 (nI xv))) H locs := hI
            refine lv_goto (tgt := 151) hx hb d_EX_giveLevel_112 (by decide) ?_
            have hI := CI.to (w2 := cw g ad (va_up (va_up (va_up (va_up (va_up ar 29 (ar 29)) 30 (ar 30)) 31 (ar 31)) 15 (upd (ar 15) q (xlev (ar 13 q) base ((lv, ov, ib) :: rs, xi, xe, xv)))) 14 (upd (ar 14) q (xkin (ar 13 q) ((lv, ov, ib) :: rs, xi, xe, xv)))) (va_up (va_up (va_up (va_up fl 7 (xt (xstep (ar 13) (ar 16) pe q ((lv, ov, ib) :: rs, xi, xe, xv)))) 8 (nI (xstep (ar 13) (ar 16) pe q ((lv, ov, ib) :: rs, xi, xe, xv)).2.1)) 9 (nI (xstep (ar 13) (ar 16) pe q ((lv, ov, ib) :: rs, xi, xe, xv)).2.2.1)) 10 (nI (xstep (ar 13) (ar 16) pe q ((lv, ov, ib) :: rs, xi, xe, xv)).2.2.2))) hI (by rw [eX, elv, ekn] <;> rfl)
            exact hret (ar 29, ar 30, ar 31) _ _ _ _ _ _ d_EX_giveLevel_151 hI (hp9) (Nat.le_refl 0) (Nat.le_refl 0)
        · have eX : xstep (ar 13) (ar 16) pe q ((lv, ov, ib) :: rs, xi, xe, xv) = xPdf ((lv, ov, ib) :: rs, xi, xe, xv) := by unfold xstep; exact (if_neg c16).trans ((if_neg c38).trans ((if_neg c66).trans (if_pos c85)))
          have elv : xlev (ar 13 q) base ((lv, ov, ib) :: rs, xi, xe, xv) = -1 := by unfold xlev; exact if_pos (Or.inr (Or.inl c85))
          have ekn : xkin (ar 13 q) ((lv, ov, ib) :: rs, xi, xe, xv) = -1 := by unfold xkin; exact if_pos (Or.inr (Or.inl c85))
          refine lv_aload_n hx hb d_EX_giveLevel_88 rfl (lv_at hl 1 rfl) ?_
          refine q_callvV [] M hI (c_EX_closeEmbedding l g ad ar (va_up (va_up (va_up (va_up fl 7 (nI rs.length)) 8 (nI xi)) 9 (nI xe)) 10 (nI xv)) lv ov ib rs xi xe xv N (by first | exact h7 | assumption | omega | rfl) (by first | exact h8 | assumption | omega | rfl) (by first | exact h9 | assumption | omega | rfl) (by first | exact h10 | assumption | omega | rfl) (by first | exact hrel | assumption | omega | rfl) (by first | exact hok | assumption | omega | rfl) (by first | exact hN | assumption | omega | rfl)) ok_EX_closeEmbedding m3_131 m3_133 ms_14 6 rfl rfl rfl rfl hl.1 ⟨rfl, rfl⟩ ⟨Nat.le_of_ble_eq_true rfl, Nat.le_of_ble_eq_true rfl⟩ (Nat.le_of_ble_eq_true rfl) ⟨Nat.le_of_ble_eq_true rfl, Nat.le_of_ble_eq_true rfl⟩ d_EX_giveLevel_89 (fun u89 H locs hp89 hI => ?_)
          have hI : CI g A s (cw g ad ar (va_up (va_up (va_up (va_up fl 7 (xt (xPdf ((lv, ov, ib) :: rs, xi, xe, xv)))) 8 (nI (xPdf ((lv, ov, ib) :: rs, xi, xe, xv)).2.1)) 9 (nI (xPdf ((lv, ov, ib) :: rs, xi, xe, xv)).2.2.1)) 10 (nI (xPdf ((lv, ov, ib) :: rs, xi, xe, xv)).2.2.2))) H locs := hI
          have hp9 : xrel (ar 29) (ar 30) (ar 31) (xstep (ar 13) (ar 16) pe q ((lv, ov, ib) :: rs, xi, xe, xv)).1 := by rw [eX]; exact hp89
          refine lv_aload_n hx hb d_EX_giveLevel_92 rfl (lv_at hl 1 rfl) ?_
          refine lv_iload_n hx hb d_EX_giveLevel_93 rfl (lv_at hl 2 rfl) ?_
          refine q_callvV [.int (nI q)] M hI (c_EX_remove l g ad ar (va_up (va_up (va_up (va_up fl 7 (xt (xPdf ((lv, ov, ib) :: rs, xi, xe, xv)))) 8 (nI (xPdf ((lv, ov, ib) :: rs, xi, xe, xv)).2.1)) 9 (nI (xPdf ((lv, ov, ib) :: rs, xi, xe, xv)).2.2.1)) 10 (nI (xPdf ((lv, ov, ib) :: rs, xi, xe, xv)).2.2.2)) q (by first | exact hq | assumption | omega | rfl)) ok_EX_remove m3_108 m3_110 ms_10 6 rfl rfl rfl rfl hl.1 ⟨rfl, rfl⟩ ⟨Nat.le_of_ble_eq_true rfl, Nat.le_of_ble_eq_true rfl⟩ (Nat.le_of_ble_eq_true rfl) ⟨Nat.le_of_ble_eq_true rfl, Nat.le_of_ble_eq_true rfl⟩ d_EX_giveLevel_94 (fun u94 H locs hp94 hI => ?_)
          have hI : CI g A s (cw g ad (va_up (va_up ar 15 (upd (ar 15) q (-1))) 14 (upd (ar 14) q (-1))) (va_up (va_up (va_up (va_up fl 7 (xt (xPdf ((lv, ov, ib) :: rs, xi, xe, xv)))) 8 (nI (xPdf ((lv, ov, ib) :: rs, xi, xe, xv)).2.1)) 9 (nI (xPdf ((lv, ov, ib) :: rs, xi, xe, xv)).2.2.1)) 10 (nI (xPdf ((lv, ov, ib) :: rs, xi, xe, xv)).2.2.2))) H locs := hI
          refine lv_goto (tgt := 151) hx hb d_EX_giveLevel_97 (by decide) ?_
          have hI := CI.to (w2 := cw g ad (va_up (va_up (va_up (va_up (va_up ar 29 (ar 29)) 30 (ar 30)) 31 (ar 31)) 15 (upd (ar 15) q (xlev (ar 13 q) base ((lv, ov, ib) :: rs, xi, xe, xv)))) 14 (upd (ar 14) q (xkin (ar 13 q) ((lv, ov, ib) :: rs, xi, xe, xv)))) (va_up (va_up (va_up (va_up fl 7 (xt (xstep (ar 13) (ar 16) pe q ((lv, ov, ib) :: rs, xi, xe, xv)))) 8 (nI (xstep (ar 13) (ar 16) pe q ((lv, ov, ib) :: rs, xi, xe, xv)).2.1)) 9 (nI (xstep (ar 13) (ar 16) pe q ((lv, ov, ib) :: rs, xi, xe, xv)).2.2.1)) 10 (nI (xstep (ar 13) (ar 16) pe q ((lv, ov, ib) :: rs, xi, xe, xv)).2.2.2))) hI (by rw [eX, elv, ekn] <;> rfl)
          exact hret (ar 29, ar 30, ar 31) _ _ _ _ _ _ d_EX_giveLevel_151 hI (hp9) (Nat.le_refl 0) (Nat.le_refl 0)
      · have hng : ¬ xgone (ar 13 q) := by rintro (z | z | z); exact c16 z; rw [c66] at z; exact absurd z (by decide); rw [c66] at z; exact absurd z (by decide)
        have h10n : ¬ ar 13 q = 10 := by rw [c66]; decide
        obtain ⟨y, t2, hy⟩ : ∃ y t2, (xPdi ((lv, ov, ib) :: rs, xi, xe, xv)).1 = y :: t2 := by cases hz : (xPdi ((lv, ov, ib) :: rs, xi, xe, xv)).1 with | nil => exact absurd hz (xok_pdi hok).1 | cons y t2 => exact ⟨y, t2, rfl⟩
        have ht2 : t2.length ≤ 125 := by have := (hy ▸ (xok_pdi hok).2.1 : lvlOK (y :: t2)); have h1 := this.1; have h2 := this.2.1; omega
        have eX : xstep (ar 13) (ar 16) pe q ((lv, ov, ib) :: rs, xi, xe, xv) = xPdi ((lv, ov, ib) :: rs, xi, xe, xv) := by unfold xstep; exact (if_neg c16).trans ((if_neg c38).trans (if_pos c66))
        have elv : xlev (ar 13 q) base ((lv, ov, ib) :: rs, xi, xe, xv) = nI y.1 := by unfold xlev; exact (if_neg hng).trans ((if_neg h10n).trans (by unfold xtop; rw [if_pos c66, hy]; rfl))
        have ekn : xkin (ar 13 q) ((lv, ov, ib) :: rs, xi, xe, xv) = (if y.2.1 = -1 then ar 13 q else y.2.1) := by unfold xkin; exact (if_neg hng).trans ((if_neg h10n).trans (by unfold xtop; rw [if_pos c66, hy]; rfl))
        refine lv_aload_n hx hb d_EX_giveLevel_69 rfl (lv_at hl 1 rfl) ?_
        refine q_callvV [] M hI (c_EX_closeIsolate l g ad ar (va_up (va_up (va_up (va_up fl 7 (nI rs.length)) 8 (nI xi)) 9 (nI xe)) 10 (nI xv)) lv ov ib rs xi xe xv N (by first | exact h7 | assumption | omega | rfl) (by first | exact h8 | assumption | omega | rfl) (by first | exact h9 | assumption | omega | rfl) (by first | exact h10 | assumption | omega | rfl) (by first | exact hrel | assumption | omega | rfl) (by first | exact hok | assumption | omega | rfl) (by first | exact hN | assumption | omega | rfl)) ok_EX_closeIsolate m3_126 m3_128 ms_13 6 rfl rfl rfl rfl hl.1 ⟨rfl, rfl⟩ ⟨Nat.le_of_ble_eq_true rfl, Nat.le_of_ble_eq_true rfl⟩ (Nat.le_of_ble_eq_true rfl) ⟨Nat.le_of_ble_eq_true rfl, Nat.le_of_ble_eq_true rfl⟩ d_EX_giveLevel_70 (fun u70 H locs hp70 hI => ?_)
        have hI : CI g A s (cw g ad ar (va_up (va_up (va_up (va_up fl 7 (xt (xPdi ((lv, ov, ib) :: rs, xi, xe, xv)))) 8 (nI (xPdi ((lv, ov, ib) :: rs, xi, xe, xv)).2.1)) 9 (nI (xPdi ((lv, ov, ib) :: rs, xi, xe, xv)).2.2.1)) 10 (nI (xPdi ((lv, ov, ib) :: rs, xi, xe, xv)).2.2.2))) H locs := hI
        have hp9 : xrel (ar 29) (ar 30) (ar 31) (xstep (ar 13) (ar 16) pe q ((lv, ov, ib) :: rs, xi, xe, xv)).1 := by rw [eX]; exact hp70
        refine lv_aload_n hx hb d_EX_giveLevel_73 rfl (lv_at hl 1 rfl) ?_
        refine lv_iload_n hx hb d_EX_giveLevel_74 rfl (lv_at hl 2 rfl) ?_
        refine q_callvV [.int (nI q)] M hI (c_EX_takeTop l g ad ar (va_up (va_up (va_up (va_up fl 7 (xt (xPdi ((lv, ov, ib) :: rs, xi, xe, xv)))) 8 (nI (xPdi ((lv, ov, ib) :: rs, xi, xe, xv)).2.1)) 9 (nI (xPdi ((lv, ov, ib) :: rs, xi, xe, xv)).2.2.1)) 10 (nI (xPdi ((lv, ov, ib) :: rs, xi, xe, xv)).2.2.2)) q y.1 y.2.1 y.2.2 t2 (by show xt _ = _; unfold xt; rw [hy]; rfl) ((hy ▸ hp70 : xrel (ar 29) (ar 30) (ar 31) (y :: t2))) (ht2) (hq)) ok_EX_takeTop m3_113 m3_115 ms_11 6 rfl rfl rfl rfl hl.1 ⟨rfl, rfl⟩ ⟨Nat.le_of_ble_eq_true rfl, Nat.le_of_ble_eq_true rfl⟩ (Nat.le_of_ble_eq_true rfl) ⟨Nat.le_of_ble_eq_true rfl, Nat.le_of_ble_eq_true rfl⟩ d_EX_giveLevel_75 (fun u75 H locs hp75 hI => ?_)
        have hI : CI g A s (cw g ad (va_up (va_up ar 15 (upd (ar 15) q (nI y.1))) 14 (upd (ar 14) q (if y.2.1 = -1 then ar 13 q else y.2.1))) (va_up (va_up (va_up (va_up fl 7 (xt (xPdi ((lv, ov, ib) :: rs, xi, xe, xv)))) 8 (nI (xPdi ((lv, ov, ib) :: rs, xi, xe, xv)).2.1)) 9 (nI (xPdi ((lv, ov, ib) :: rs, xi, xe, xv)).2.2.1)) 10 (nI (xPdi ((lv, ov, ib) :: rs, xi, xe, xv)).2.2.2))) H locs := hI
        refine lv_goto (tgt := 151) hx hb d_EX_giveLevel_78 (by decide) ?_
        have hI := CI.to (w2 := cw g ad (va_up (va_up (va_up (va_up (va_up ar 29 (ar 29)) 30 (ar 30)) 31 (ar 31)) 15 (upd (ar 15) q (xlev (ar 13 q) base ((lv, ov, ib) :: rs, xi, xe, xv)))) 14 (upd (ar 14) q (xkin (ar 13 q) ((lv, ov, ib) :: rs, xi, xe, xv)))) (va_up (va_up (va_up (va_up fl 7 (xt (xstep (ar 13) (ar 16) pe q ((lv, ov, ib) :: rs, xi, xe, xv)))) 8 (nI (xstep (ar 13) (ar 16) pe q ((lv, ov, ib) :: rs, xi, xe, xv)).2.1)) 9 (nI (xstep (ar 13) (ar 16) pe q ((lv, ov, ib) :: rs, xi, xe, xv)).2.2.1)) 10 (nI (xstep (ar 13) (ar 16) pe q ((lv, ov, ib) :: rs, xi, xe, xv)).2.2.2))) hI (by rw [eX, elv, ekn] <;> rfl)
        exact hret (ar 29, ar 30, ar 31) _ _ _ _ _ _ d_EX_giveLevel_151 hI (hp9) (Nat.le_refl 0) (Nat.le_refl 0)
    · have c38 := bI_ne0.mp c38
      have hng : ¬ xgone (ar 13 q) := fun z => z.elim c16 (fun z => z.elim (k_not (P := isol) c38 isol_18) (k_not (P := isol) c38 isol_9))
      have h10n : ¬ ar 13 q = 10 := k_not (P := isol) c38 isol_10
      have h22n : ¬ ar 13 q = 22 := k_not (P := isol) c38 isol_22
      have eX : xstep (ar 13) (ar 16) pe q ((lv, ov, ib) :: rs, xi, xe, xv) = xIso (dirIso (ar 13) (ar 16) q pe) ((lv, ov, ib) :: rs, xi, xe, xv) := by unfold xstep; exact (if_neg c16).trans (if_pos c38)
      have elv : xlev (ar 13 q) base ((lv, ov, ib) :: rs, xi, xe, xv) = nI lv := by unfold xlev; exact (if_neg hng).trans ((if_neg h10n).trans (by unfold xtop; rw [if_neg h22n]; rfl))
      have ekn : xkin (ar 13 q) ((lv, ov, ib) :: rs, xi, xe, xv) = (if ov = -1 then ar 13 q else ov) := by unfold xkin; exact (if_neg hng).trans ((if_neg h10n).trans (by unfold xtop; rw [if_neg h22n]; rfl))
      refine lv_aload_n hx hb d_EX_giveLevel_41 rfl (lv_at hl 1 rfl) ?_
      refine lv_iload_n hx hb d_EX_giveLevel_42 rfl (lv_at hl 2 rfl) ?_
      refine q_callvV [.int (nI q)] M hI (c_EX_takeTop l g ad ar (va_up (va_up (va_up (va_up fl 7 (nI rs.length)) 8 (nI xi)) 9 (nI xe)) 10 (nI xv)) q lv ov ib rs (by first | exact h7 | assumption | omega | rfl) (by first | exact hrel | assumption | omega | rfl) (by omega) (hq)) ok_EX_takeTop m3_113 m3_115 ms_11 6 rfl rfl rfl rfl hl.1 ⟨rfl, rfl⟩ ⟨Nat.le_of_ble_eq_true rfl, Nat.le_of_ble_eq_true rfl⟩ (Nat.le_of_ble_eq_true rfl) ⟨Nat.le_of_ble_eq_true rfl, Nat.le_of_ble_eq_true rfl⟩ d_EX_giveLevel_43 (fun u43 H locs hp43 hI => ?_)
      have hI : CI g A s (cw g ad (va_up (va_up ar 15 (upd (ar 15) q (nI lv))) 14 (upd (ar 14) q (if ov = -1 then ar 13 q else ov))) (va_up (va_up (va_up (va_up fl 7 (nI rs.length)) 8 (nI xi)) 9 (nI xe)) 10 (nI xv))) H locs := hI
      refine lv_aload_n hx hb d_EX_giveLevel_46 rfl (lv_at hl 1 rfl) ?_
      refine lv_aload_n hx hb d_EX_giveLevel_47 rfl (lv_at hl 1 rfl) ?_
      refine g_EX_39 M hI d_EX_giveLevel_48 ?_
      refine lv_iload_n hx hb d_EX_giveLevel_51 rfl (lv_at hl 2 rfl) ?_
      refine lv_iload_n hx hb d_EX_giveLevel_52 rfl (lv_at hl 3 rfl) ?_
      refine q_calliV [.int (nI q), .int (nI pe)] M hI (c_IS_directionOfIsolate l g ad (va_up (va_up ar 15 (upd (ar 15) q (nI lv))) 14 (upd (ar 14) q (if ov = -1 then ar 13 q else ov))) (va_up (va_up (va_up (va_up fl 7 (nI rs.length)) 8 (nI xi)) 9 (nI xe)) 10 (nI xv)) q pe (by first | exact hq | assumption | omega | rfl) (by first | exact hpe | assumption | omega | rfl) (by first | exact hmt | assumption | omega | rfl)) ok_IS_directionOfIsolate m3_117 m3_118 m3_119 5 rfl rfl rfl rfl hl.1 ⟨rfl, rfl⟩ ⟨Nat.le_of_ble_eq_true rfl, Nat.le_of_ble_eq_true rfl⟩ (Nat.le_of_ble_eq_true rfl) ⟨Nat.le_of_ble_eq_true rfl, Nat.le_of_ble_eq_true rfl⟩ d_EX_giveLevel_53 (fun r53 u53 H locs hp53 hI => ?_)
      refine q_as (y := dirIso (ar 13) (ar 16) q pe) hp53 ?_
      refine q_callvV [.int (dirIso (ar 13) (ar 16) q pe)] M hI (c_EX_openIsolate l g ad (va_up (va_up ar 15 (upd (ar 15) q (nI lv))) 14 (upd (ar 14) q (if ov = -1 then ar 13 q else ov))) (va_up (va_up (va_up (va_up fl 7 (nI rs.length)) 8 (nI xi)) 9 (nI xe)) 10 (nI xv)) (dirIso (ar 13) (ar 16) q pe) lv ov ib rs xi xe xv N (by first | exact h7 | assumption | omega | rfl) (by first | exact h8 | assumption | omega | rfl) (by first | exact h9 | assumption | omega | rfl) (by first | exact h10 | assumption | omega | rfl) (hrel) (by first | exact hok | assumption | omega | rfl) (by first | exact hN | assumption | omega | rfl)) ok_EX_openIsolate m3_122 m3_124 ms_12 6 rfl rfl rfl rfl hl.1 ⟨rfl, rfl⟩ ⟨Nat.le_of_ble_eq_true rfl, Nat.le_of_ble_eq_true rfl⟩ (Nat.le_of_ble_eq_true rfl) ⟨Nat.le_of_ble_eq_true rfl, Nat.le_of_ble_eq_true rfl⟩ d_EX_giveLevel_56 (fun u56 H locs hp56 hI => ?_)
      obtain ⟨za_56, zb_56, zz_56⟩ := u56
      have hI : CI g A s (cw g ad (va_up (va_up (va_up (va_up (va_up ar 15 (upd (ar 15) q (nI lv))) 14 (upd (ar 14) q (if ov = -1 then ar 13 q else ov))) 29 za_56) 30 zb_56) 31 zz_56) (va_up (va_up (va_up (va_up fl 7 (xt (xIso (dirIso (ar 13) (ar 16) q pe) ((lv, ov, ib) :: rs, xi, xe, xv)))) 8 (nI (xIso (dirIso (ar 13) (ar 16) q pe) ((lv, ov, ib) :: rs, xi, xe, xv)).2.1)) 9 (nI (xIso (dirIso (ar 13) (ar 16) q pe) ((lv, ov, ib) :: rs, xi, xe, xv)).2.2.1)) 10 (nI (xIso (dirIso (ar 13) (ar 16) q pe) ((lv, ov, ib) :: rs, xi, xe, xv)).2.2.2))) H locs := hI
      have hp9 : xrel za_56 zb_56 zz_56 (xstep (ar 13) (ar 16) pe q ((lv, ov, ib) :: rs, xi, xe, xv)).1 := by rw [eX]; exact hp56
      refine lv_goto (tgt := 151) hx hb d_EX_giveLevel_59 (by decide) ?_
      have hI := CI.to (w2 := cw g ad (va_up (va_up (va_up (va_up (va_up ar 29 za_56) 30 zb_56) 31 zz_56) 15 (upd (ar 15) q (xlev (ar 13 q) base ((lv, ov, ib) :: rs, xi, xe, xv)))) 14 (upd (ar 14) q (xkin (ar 13 q) ((lv, ov, ib) :: rs, xi, xe, xv)))) (va_up (va_up (va_up (va_up fl 7 (xt (xstep (ar 13) (ar 16) pe q ((lv, ov, ib) :: rs, xi, xe, xv)))) 8 (nI (xstep (ar 13) (ar 16) pe q ((lv, ov, ib) :: rs, xi, xe, xv)).2.1)) 9 (nI (xstep (ar 13) (ar 16) pe q ((lv, ov, ib) :: rs, xi, xe, xv)).2.2.1)) 10 (nI (xstep (ar 13) (ar 16) pe q ((lv, ov, ib) :: rs, xi, xe, xv)).2.2.2))) hI (by rw [eX, elv, ekn] <;> rfl)
      exact hret (za_56, zb_56, zz_56) _ _ _ _ _ _ d_EX_giveLevel_151 hI (hp9) (Nat.le_refl 0) (Nat.le_refl 0)
  · have c16 := bI_ne0.mp c16
    have eX : xstep (ar 13) (ar 16) pe q ((lv, ov, ib) :: rs, xi, xe, xv) = xEmb (ar 13 q) ((lv, ov, ib) :: rs, xi, xe, xv) := by unfold xstep; exact if_pos c16
    have elv : xlev (ar 13 q) base ((lv, ov, ib) :: rs, xi, xe, xv) = -1 := by unfold xlev; exact if_pos (Or.inl c16)
    have ekn : xkin (ar 13 q) ((lv, ov, ib) :: rs, xi, xe, xv) = -1 := by unfold xkin; exact if_pos (Or.inl c16)
    refine lv_aload_n hx hb d_EX_giveLevel_19 rfl (lv_at hl 1 rfl) ?_
    refine lv_iload hx hb d_EX_giveLevel_20 (lv_at hl 0 rfl) ?_
    refine q_callvV [.int (ar 13 q)] M hI (c_EX_openEmbedding l g ad ar (va_up (va_up (va_up (va_up fl 7 (nI rs.length)) 8 (nI xi)) 9 (nI xe)) 10 (nI xv)) (ar 13 q) lv ov ib rs xi xe xv N (by first | exact h7 | assumption | omega | rfl) (by first | exact h8 | assumption | omega | rfl) (by first | exact h9 | assumption | omega | rfl) (by first | exact h10 | assumption | omega | rfl) (by first | exact hrel | assumption | omega | rfl) (by first | exact hok | assumption | omega | rfl) (by first | exact hN | assumption | omega | rfl)) ok_EX_openEmbedding m3_89 m3_91 ms_6 6 rfl rfl rfl rfl hl.1 ⟨rfl, rfl⟩ ⟨Nat.le_of_ble_eq_true rfl, Nat.le_of_ble_eq_true rfl⟩ (Nat.le_of_ble_eq_true rfl) ⟨Nat.le_of_ble_eq_true rfl, Nat.le_of_ble_eq_true rfl⟩ d_EX_giveLevel_22 (fun u22 H locs hp22 hI => ?_)
    obtain ⟨za_22, zb_22, zz_22⟩ := u22
    have hI : CI g A s (cw g ad (va_up (va_up (va_up ar 29 za_22) 30 zb_22) 31 zz_22) (va_up (va_up (va_up (va_up fl 7 (xt (xEmb (ar 13 q) ((lv, ov, ib) :: rs, xi, xe, xv)))) 8 (nI (xEmb (ar 13 q) ((lv, ov, ib) :: rs, xi, xe, xv)).2.1)) 9 (nI (xEmb (ar 13 q) ((lv, ov, ib) :: rs, xi, xe, xv)).2.2.1)) 10 (nI (xEmb (ar 13 q) ((lv, ov, ib) :: rs, xi, xe, xv)).2.2.2))) H locs := hI
    have hp9 : xrel za_22 zb_22 zz_22 (xstep (ar 13) (ar 16) pe q ((lv, ov, ib) :: rs, xi, xe, xv)).1 := by rw [eX]; exact hp22
    refine lv_aload_n hx hb d_EX_giveLevel_25 rfl (lv_at hl 1 rfl) ?_
    refine lv_iload_n hx hb d_EX_giveLevel_26 rfl (lv_at hl 2 rfl) ?_
    refine q_callvV [.int (nI q)] M hI (c_EX_remove l g ad (va_up (va_up (va_up ar 29 za_22) 30 zb_22) 31 zz_22) (va_up (va_up (va_up (va_up fl 7 (xt (xEmb (ar 13 q) ((lv, ov, ib) :: rs, xi, xe, xv)))) 8 (nI (xEmb (ar 13 q) ((lv, ov, ib) :: rs, xi, xe, xv)).2.1)) 9 (nI (xEmb (ar 13 q) ((lv, ov, ib) :: rs, xi, xe, xv)).2.2.1)) 10 (nI (xEmb (ar 13 q) ((lv, ov, ib) :: rs, xi, xe, xv)).2.2.2)) q (by first | exact hq | assumption | omega | rfl)) ok_EX_remove m3_108 m3_110 ms_10 6 rfl rfl rfl rfl hl.1 ⟨rfl, rfl⟩ ⟨Nat.le_of_ble_eq_true rfl, Nat.le_of_ble_eq_true rfl⟩ (Nat.le_of_ble_eq_true rfl) ⟨Nat.le_of_ble_eq_true rfl, Nat.le_of_ble_eq_true rfl⟩ d_EX_giveLevel_27 (fun u27 H locs hp27 hI => ?_)
    have hI : CI g A s (cw g ad (va_up (va_up (va_up (va_up (va_up ar 29 za_22) 30 zb_22) 31 zz_22) 15 (upd (ar 15) q (-1))) 14 (upd (ar 14) q (-1))) (va_up (va_up (va_up (va_up fl 7 (xt (xEmb (ar 13 q) ((lv, ov, ib) :: rs, xi, xe, xv)))) 8 (nI (xEmb (ar 13 q) ((lv, ov, ib) :: rs, xi, xe, xv)).2.1)) 9 (nI (xEmb (ar 13 q) ((lv, ov, ib) :: rs, xi, xe, xv)).2.2.1)) 10 (nI (xEmb (ar 13 q) ((lv, ov, ib) :: rs, xi, xe, xv)).2.2.2))) H locs := hI
    refine lv_goto (tgt := 151) hx hb d_EX_giveLevel_30 (by decide) ?_
    have hI := CI.to (w2 := cw g ad (va_up (va_up (va_up (va_up (va_up ar 29 za_22) 30 zb_22) 31 zz_22) 15 (upd (ar 15) q (xlev (ar 13 q) base ((lv, ov, ib) :: rs, xi, xe, xv)))) 14 (upd (ar 14) q (xkin (ar 13 q) ((lv, ov, ib) :: rs, xi, xe, xv)))) (va_up (va_up (va_up (va_up fl 7 (xt (xstep (ar 13) (ar 16) pe q ((lv, ov, ib) :: rs, xi, xe, xv)))) 8 (nI (xstep (ar 13) (ar 16) pe q ((lv, ov, ib) :: rs, xi, xe, xv)).2.1)) 9 (nI (xstep (ar 13) (ar 16) pe q ((lv, ov, ib) :: rs, xi, xe, xv)).2.2.1)) 10 (nI (xstep (ar 13) (ar 16) pe q ((lv, ov, ib) :: rs, xi, xe, xv)).2.2.2))) hI (by rw [eX, elv, ekn] <;> rfl)
    exact hret (za_22, zb_22, zz_22) _ _ _ _ _ _ d_EX_giveLevel_151 hI (hp9) (Nat.le_refl 0) (Nat.le_refl 0)
abbrev rm_EX_giveLevels : Room := { frames := 4, cells := 0, slots := 0, locals := 112 }
set_option maxHeartbeats 4000000 in
set_option maxRecDepth 100000 in
theorem c_EX_giveLevels (l : Launch) (g : Geo) (ad : Nat → Nat) (ar : Nat → Nat → Int32) (fl : Nat → Int32) (b : Nat) (pe : Nat) (base : Nat) (hbp : b ≤ pe) (hpe : pe ≤ 2000) (hbs : base ≤ 1) (hmt : okM (ar 16)) : cMv l y_EX_giveLevels (.code y_EX_giveLevels b_EX_giveLevels 5 none :: gw) rm_EX_giveLevels g [.ref (ad 6), .int (nI b), .int (nI pe), .int (nI base)] (cw g ad ar fl) (fun (u : (Nat → Int32) × (Nat → Int32) × (Nat → Int32)) => True) (fun (u : (Nat → Int32) × (Nat → Int32) × (Nat → Int32)) => cw g ad (va_up (va_up (va_up (va_up (va_up ar 29 u.1) 30 u.2.1) 31 u.2.2) 15 (xlv (ar 13) (ar 16) b pe base (ar 15) (pe - b))) 14 (xkd (ar 13) (ar 16) b pe base (ar 14) (pe - b))) (va_up (va_up (va_up (va_up fl 7 (xt (xrun (ar 13) (ar 16) b pe base (pe - b)))) 8 (nI (xrun (ar 13) (ar 16) b pe base (pe - b)).2.1)) 9 (nI (xrun (ar 13) (ar 16) b pe base (pe - b)).2.2.1)) 10 (nI (xrun (ar 13) (ar 16) b pe base (pe - b)).2.2.2))) 0 0 := by
  refine cMv_of (by decide) (Nat.le_of_ble_eq_true rfl) ?_
  intro p e s m below meth c A Q ls M hnm hret hl hI
  have M : MC p s m ([.ref (ad 6), .int (nI b), .int (nI pe), .int (nI base)] : List Value).toArray meth c R_EX b_EX_giveLevels 5 := M
  have hl : lv_has ls 5 [(0, .ref (ad 6)), (1, .int (nI b)), (2, .int (nI pe)), (3, .int (nI base))] := hl
  generalize ([.ref (ad 6), .int (nI b), .int (nI pe), .int (nI base)] : List Value).toArray = args at M hret ⊢
  have hx := M.1
  have hb := M.2.1
  refine lv_aload_n hx hb d_EX_giveLevels_0 rfl (lv_at hl 0 rfl) ?_
  refine lv_iconst (v := 0) hx hb d_EX_giveLevels_1 (by decide) ?_
  refine p_EX_22 M hI d_EX_giveLevels_2 (fun H locs hI => ?_)
  have hI : CI g A s (cw g ad ar (va_up fl 7 0)) H locs := hI
  refine lv_aload_n hx hb d_EX_giveLevels_5 rfl (lv_at hl 0 rfl) ?_
  refine g_EX_9 M hI d_EX_giveLevels_6 ?_
  refine lv_iconst (v := 0) hx hb d_EX_giveLevels_9 (by decide) ?_
  refine lv_iload_n hx hb d_EX_giveLevels_10 rfl (lv_at hl 3 rfl) ?_
  refine as_29 M hI 0 rfl (by omega) d_EX_giveLevels_11 (fun H locs hI => ?_)
  have hI : CI g A s (cw g ad (va_up ar 29 (upd (ar 29) 0 (nI base))) (va_up fl 7 0)) H locs := hI
  refine lv_aload_n hx hb d_EX_giveLevels_12 rfl (lv_at hl 0 rfl) ?_
  refine g_EX_15 M hI d_EX_giveLevels_13 ?_
  refine lv_iconst (v := 0) hx hb d_EX_giveLevels_16 (by decide) ?_
  refine lv_iconst (v := (-1)) hx hb d_EX_giveLevels_17 (by decide) ?_
  refine as_30 M hI 0 rfl (by omega) d_EX_giveLevels_18 (fun H locs hI => ?_)
  have hI : CI g A s (cw g ad (va_up (va_up ar 29 (upd (ar 29) 0 (nI base))) 30 (upd (ar 30) 0 (-1))) (va_up fl 7 0)) H locs := hI
  refine lv_aload_n hx hb d_EX_giveLevels_19 rfl (lv_at hl 0 rfl) ?_
  refine g_EX_18 M hI d_EX_giveLevels_20 ?_
  refine lv_iconst (v := 0) hx hb d_EX_giveLevels_23 (by decide) ?_
  refine lv_iconst (v := 0) hx hb d_EX_giveLevels_24 (by decide) ?_
  refine as_31 M hI 0 rfl (by omega) rfl d_EX_giveLevels_25 (fun H locs hI => ?_)
  have hI : CI g A s (cw g ad (va_up (va_up (va_up ar 29 (upd (ar 29) 0 (nI base))) 30 (upd (ar 30) 0 (-1))) 31 (upd (ar 31) 0 0)) (va_up fl 7 0)) H locs := hI
  refine lv_aload_n hx hb d_EX_giveLevels_26 rfl (lv_at hl 0 rfl) ?_
  refine lv_iconst (v := 0) hx hb d_EX_giveLevels_27 (by decide) ?_
  refine p_EX_26 M hI d_EX_giveLevels_28 (fun H locs hI => ?_)
  have hI : CI g A s (cw g ad (va_up (va_up (va_up ar 29 (upd (ar 29) 0 (nI base))) 30 (upd (ar 30) 0 (-1))) 31 (upd (ar 31) 0 0)) (va_up (va_up fl 7 0) 8 0)) H locs := hI
  refine lv_aload_n hx hb d_EX_giveLevels_31 rfl (lv_at hl 0 rfl) ?_
  refine lv_iconst (v := 0) hx hb d_EX_giveLevels_32 (by decide) ?_
  refine p_EX_29 M hI d_EX_giveLevels_33 (fun H locs hI => ?_)
  have hI : CI g A s (cw g ad (va_up (va_up (va_up ar 29 (upd (ar 29) 0 (nI base))) 30 (upd (ar 30) 0 (-1))) 31 (upd (ar 31) 0 0)) (va_up (va_up (va_up fl 7 0) 8 0) 9 0)) H locs := hI
  refine lv_aload_n hx hb d_EX_giveLevels_36 rfl (lv_at hl 0 rfl) ?_
  refine lv_iconst (v := 0) hx hb d_EX_giveLevels_37 (by decide) ?_
  refine p_EX_32 M hI d_EX_giveLevels_38 (fun H locs hI => ?_)
  have hI : CI g A s (cw g ad (va_up (va_up (va_up ar 29 (upd (ar 29) 0 (nI base))) 30 (upd (ar 30) 0 (-1))) 31 (upd (ar 31) 0 0)) (va_up (va_up (va_up (va_up fl 7 0) 8 0) 9 0) 10 0)) H locs := hI
  refine lv_iload_n hx hb d_EX_giveLevels_41 rfl (lv_at hl 1 rfl) ?_
  refine lv_istore (lv' := [(4, .int (nI b)), (0, .ref (ad 6)), (1, .int (nI b)), (2, .int (nI pe)), (3, .int (nI base))]) hx hb d_EX_giveLevels_42 hl (by decide) rfl (fun ls hl => ?_)
  have L44 : ∀ (fu : Nat) (d : Nat) (za : Nat → Int32) (zb : Nat → Int32) (zz : Nat → Int32), (pe - (b + d)) < fu → (b + d ≤ pe) → (xrel za zb zz (xrun (ar 13) (ar 16) b pe base d).1) → ∀ (H : Heap) (locs : List Loc) (ls : Array Slot), CI g A s (cw g ad (va_up (va_up (va_up (va_up (va_up ar 29 za) 30 zb) 31 zz) 15 (xlv (ar 13) (ar 16) b pe base (ar 15) d)) 14 (xkd (ar 13) (ar 16) b pe base (ar 14) d)) (va_up (va_up (va_up (va_up fl 7 (xt (xrun (ar 13) (ar 16) b pe base d))) 8 (nI (xrun (ar 13) (ar 16) b pe base d).2.1)) 9 (nI (xrun (ar 13) (ar 16) b pe base d).2.2.1)) 10 (nI (xrun (ar 13) (ar 16) b pe base d).2.2.2))) H locs → lv_has ls 5 [(0, .ref (ad 6)), (1, .int (nI b)), (2, .int (nI pe)), (3, .int (nI base)), (4, .int (nI (b + d)))] → W p l e rm_EX_giveLevels s m args below meth c H locs 0 0 Q (F0 m 44 ls []) := by
    intro fu
    induction fu with
    | zero => intro d za zb zz hm; exact absurd hm (Nat.not_lt_zero _)
    | succ fu ih44 =>
      intro d za zb zz hm hd hr H locs ls hI hl
      refine lv_iload hx hb d_EX_giveLevels_44 (lv_at hl 4 rfl) ?_
      refine lv_iload_n hx hb d_EX_giveLevels_46 rfl (lv_at hl 2 rfl) ?_
      refine lv_icmp_ge (tgt := 64) hx hb d_EX_giveLevels_47 (by decide) (fun c47 => ?_) (fun c47 => ?_)
      · have c47 : pe ≤ b + d := (nI_leI (a := pe) (b := b + d) (by omega) (by omega)).mp c47
        have hI := CI.to (w2 := cw g ad (va_up (va_up (va_up (va_up (va_up ar 29 za) 30 zb) 31 zz) 15 (xlv (ar 13) (ar 16) b pe base (ar 15) (pe - b))) 14 (xkd (ar 13) (ar 16) b pe base (ar 14) (pe - b))) (va_up (va_up (va_up (va_up fl 7 (xt (xrun (ar 13) (ar 16) b pe base (pe - b)))) 8 (nI (xrun (ar 13) (ar 16) b pe base (pe - b)).2.1)) 9 (nI (xrun (ar 13) (ar 16) b pe base (pe - b)).2.2.1)) 10 (nI (xrun (ar 13) (ar 16) b pe base (pe - b)).2.2.2))) hI (by rw [show d = pe - b by omega] <;> rfl)
        exact hret (za, zb, zz) _ _ _ _ _ _ d_EX_giveLevels_64 hI (trivial) (Nat.le_refl 0) (Nat.le_refl 0)
      · have c47 : ¬ pe ≤ b + d := fun h => c47 ((nI_leI (a := pe) (b := b + d) (by omega) (by omega)).mpr h)
        have hok := xok_run (fst := ar 13) (mt := ar 16) (b := b) (pe := pe) (base := base) hbs d
        obtain ⟨lv, ov, ib, rs, xi, xe, xv, hX⟩ : ∃ lv ov ib rs xi xe xv, xrun (ar 13) (ar 16) b pe base d = (((lv, ov, ib) : XE) :: rs, xi, xe, xv) := by cases hz : xrun (ar 13) (ar 16) b pe base d with | mk L q => cases L with | nil => rw [hz] at hok; exact absurd rfl hok.1 | cons x t => exact ⟨_, _, _, _, _, _, _, rfl⟩
        have hrL : xrel za zb zz ((lv, ov, ib) :: rs) := by rw [hX] at hr; exact hr
        rw [hX] at hok
        refine lv_aload_n hx hb d_EX_giveLevels_50 rfl (lv_at hl 0 rfl) ?_
        refine lv_iload hx hb d_EX_giveLevels_51 (lv_at hl 4 rfl) ?_
        refine lv_iload_n hx hb d_EX_giveLevels_53 rfl (lv_at hl 2 rfl) ?_
        refine lv_iload_n hx hb d_EX_giveLevels_54 rfl (lv_at hl 3 rfl) ?_
        refine q_callvV [.int (nI (b + d)), .int (nI pe), .int (nI base)] M hI (c_EX_giveLevel l g ad (va_up (va_up (va_up (va_up (va_up ar 29 za) 30 zb) 31 zz) 15 (xlv (ar 13) (ar 16) b pe base (ar 15) d)) 14 (xkd (ar 13) (ar 16) b pe base (ar 14) d)) (va_up (va_up (va_up (va_up fl 7 (xt (xrun (ar 13) (ar 16) b pe base d))) 8 (nI (xrun (ar 13) (ar 16) b pe base d).2.1)) 9 (nI (xrun (ar 13) (ar 16) b pe base d).2.2.1)) 10 (nI (xrun (ar 13) (ar 16) b pe base d).2.2.2)) (b + d) pe base lv ov ib rs xi xe xv d (by show xt _ = _; rw [hX]; rfl) (by show nI _ = _; rw [hX]) (by show nI _ = _; rw [hX]) (by show nI _ = _; rw [hX]) (hrL) (hok) (by omega) (by omega) (hpe) (hmt)) ok_EX_giveLevel m3_82 m3_84 ms_5 6 rfl rfl rfl rfl hl.1 ⟨rfl, rfl⟩ ⟨Nat.le_of_ble_eq_true rfl, Nat.le_of_ble_eq_true rfl⟩ (Nat.le_of_ble_eq_true rfl) ⟨Nat.le_of_ble_eq_true rfl, Nat.le_of_ble_eq_true rfl⟩ d_EX_giveLevels_55 (fun u55 H locs hp55 hI => ?_)
        obtain ⟨za_55, zb_55, zz_55⟩ := u55
        have hI : CI g A s (cw g ad (va_up (va_up (va_up (va_up (va_up ar 29 za_55) 30 zb_55) 31 zz_55) 15 (upd (xlv (ar 13) (ar 16) b pe base (ar 15) d) (b + d) (xlev (ar 13 (b + d)) base ((lv, ov, ib) :: rs, xi, xe, xv)))) 14 (upd (xkd (ar 13) (ar 16) b pe base (ar 14) d) (b + d) (xkin (ar 13 (b + d)) ((lv, ov, ib) :: rs, xi, xe, xv)))) (va_up (va_up (va_up (va_up fl 7 (xt (xstep (ar 13) (ar 16) pe (b + d) ((lv, ov, ib) :: rs, xi, xe, xv)))) 8 (nI (xstep (ar 13) (ar 16) pe (b + d) ((lv, ov, ib) :: rs, xi, xe, xv)).2.1)) 9 (nI (xstep (ar 13) (ar 16) pe (b + d) ((lv, ov, ib) :: rs, xi, xe, xv)).2.2.1)) 10 (nI (xstep (ar 13) (ar 16) pe (b + d) ((lv, ov, ib) :: rs, xi, xe, xv)).2.2.2))) H locs := hI
        rw [← hX] at hp55
        have hr2 : xrel za_55 zb_55 zz_55 (xrun (ar 13) (ar 16) b pe base (d + 1)).1 := hp55
        have hI := CI.to (w2 := cw g ad (va_up (va_up (va_up (va_up (va_up ar 29 za_55) 30 zb_55) 31 zz_55) 15 (xlv (ar 13) (ar 16) b pe base (ar 15) (d + 1))) 14 (xkd (ar 13) (ar 16) b pe base (ar 14) (d + 1))) (va_up (va_up (va_up (va_up fl 7 (xt (xrun (ar 13) (ar 16) b pe base (d + 1)))) 8 (nI (xrun (ar 13) (ar 16) b pe base (d + 1)).2.1)) 9 (nI (xrun (ar 13) (ar 16) b pe base (d + 1)).2.2.1)) 10 (nI (xrun (ar 13) (ar 16) b pe base (d + 1)).2.2.2))) hI (by rw [← hX] <;> rfl)
        refine lv_iinc (v := nI (b + d + 1)) (lv' := [(4, .int (nI (b + d + 1))), (0, .ref (ad 6)), (1, .int (nI b)), (2, .int (nI pe)), (3, .int (nI base))]) hx hb d_EX_giveLevels_58 hl (k := 4) rfl (nI_add _ 1) (by decide) rfl (fun ls hl => ?_)
        refine lv_goto (tgt := 44) hx hb d_EX_giveLevels_61 (by decide) ?_
        exact ih44 (d + 1) za_55 zb_55 zz_55 (by omega) (by first | assumption | omega) (hr2) _ _ _ hI (lv_sub hl [1, 2, 3, 4, 0] rfl)
  have hI := CI.to (w2 := cw g ad (va_up (va_up (va_up (va_up (va_up ar 29 (upd (ar 29) 0 (nI base))) 30 (upd (ar 30) 0 (-1))) 31 (upd (ar 31) 0 0)) 15 (xlv (ar 13) (ar 16) b pe base (ar 15) 0)) 14 (xkd (ar 13) (ar 16) b pe base (ar 14) 0)) (va_up (va_up (va_up (va_up fl 7 (xt (xrun (ar 13) (ar 16) b pe base 0))) 8 (nI (xrun (ar 13) (ar 16) b pe base 0).2.1)) 9 (nI (xrun (ar 13) (ar 16) b pe base 0).2.2.1)) 10 (nI (xrun (ar 13) (ar 16) b pe base 0).2.2.2))) hI (by rfl)
  exact L44 _ 0 (upd (ar 29) 0 (nI base)) (upd (ar 30) 0 (-1)) (upd (ar 31) 0 0) (Nat.lt_succ_self _) (by first | assumption | omega) (⟨rfl, rfl, rfl, trivial⟩) _ _ _ hI (lv_sub hl [1, 2, 3, 4, 0] rfl)
