/-! 67: the model: explicit -/
abbrev rm_MD_explicit : Room := { frames := 3, cells := 0, slots := 0, locals := 69 }
set_option maxHeartbeats 4000000 in
set_option maxRecDepth 100000 in
theorem c_MD_explicit (l : Launch) (g : Geo) (ad : Nat → Nat) (ar : Nat → Nat → Int32) (fl : Nat → Int32) (b : Nat) (pe : Nat) (base : Nat) (hbp : b ≤ pe) (hpe : pe ≤ 2000) (hbs : base ≤ 1) (hmt : ∀ q, b ≤ q → q < pe → isol (ar 9 q) → ar 13 q = mOf (ar 9) (pe - (q + 1)) (q + 1) 1) : cMv l y_MD_explicit (.code y_MD_explicit b_MD_explicit 12 none :: gw) rm_MD_explicit g [.ref (ad 0), .int (nI b), .int (nI pe), .int (nI base)] (mw g ad ar fl) (fun (u : (Nat → Int32) × (Nat → Int32) × (Nat → Int32) × Nat) => True) (fun (u : (Nat → Int32) × (Nat → Int32) × (Nat → Int32) × Nat) => mw g ad (va_up (va_up (va_up (va_up (va_up ar 15 u.1) 16 u.2.1) 17 u.2.2.1) 12 (xlv (ar 9) (ar 13) b pe base (ar 12) (pe - b))) 10 (xkdm (ar 9) (ar 13) b pe base (ar 10) (pe - b))) (va_up fl 7 (nI u.2.2.2))) 0 0 := by
  refine cMv_of (by decide) (Nat.le_of_ble_eq_true rfl) ?_
  intro p e s m below meth c A Q ls M hnm hret hl hI
  have M : MC p s m ([.ref (ad 0), .int (nI b), .int (nI pe), .int (nI base)] : List Value).toArray meth c R_MD b_MD_explicit 12 := M
  have hl : lv_has ls 12 [(0, .ref (ad 0)), (1, .int (nI b)), (2, .int (nI pe)), (3, .int (nI base))] := hl
  generalize ([.ref (ad 0), .int (nI b), .int (nI pe), .int (nI base)] : List Value).toArray = args at M hret ⊢
  have hx := M.1
  have hb := M.2.1
  refine lv_aload_n hx hb d_MD_explicit_0 rfl (lv_at hl 0 rfl) ?_
  refine lv_iconst (v := 0) hx hb d_MD_explicit_1 (by decide) ?_
  refine p_MD_129 M hI d_MD_explicit_2 (fun H locs hI => ?_)
  have hI : CI g A s (mw g ad ar (va_up fl 7 0)) H locs := hI
  refine lv_aload_n hx hb d_MD_explicit_5 rfl (lv_at hl 0 rfl) ?_
  refine lv_iload_n hx hb d_MD_explicit_6 rfl (lv_at hl 3 rfl) ?_
  refine lv_iconst (v := (-1)) hx hb d_MD_explicit_7 (by decide) ?_
  refine lv_iconst (v := 0) hx hb d_MD_explicit_8 (by decide) ?_
  refine q_callvV [.int (nI base), .int (-1), .int 0] M hI (c_MD_push l g ad ar (va_up fl 7 0) base (-1) 0 ([] : List XE) (rfl) (by decide) (rfl)) ok_MD_push m5_122 m5_124 ms_55 0 rfl rfl rfl rfl hl.1 ⟨rfl, rfl⟩ ⟨Nat.le_of_ble_eq_true rfl, Nat.le_of_ble_eq_true rfl⟩ (Nat.le_of_ble_eq_true rfl) ⟨Nat.le_of_ble_eq_true rfl, Nat.le_of_ble_eq_true rfl⟩ d_MD_explicit_9 (fun u9 H locs hp9 hI => ?_)
  have hI : CI g A s (mw g ad (va_up (va_up (va_up ar 15 (upd (ar 15) ([] : List XE).length (nI base))) 16 (upd (ar 16) ([] : List XE).length (-1))) 17 (upd (ar 17) ([] : List XE).length 0)) (va_up fl 7 (nI (([] : List XE).length + 1)))) H locs := hI
  refine lv_iconst (v := 0) hx hb d_MD_explicit_12 (by decide) ?_
  refine lv_istore (lv' := [(4, .int 0), (0, .ref (ad 0)), (1, .int (nI b)), (2, .int (nI pe)), (3, .int (nI base))]) hx hb d_MD_explicit_13 hl (by decide) rfl (fun ls hl => ?_)
  refine lv_iconst (v := 0) hx hb d_MD_explicit_15 (by decide) ?_
  refine lv_istore (lv' := [(5, .int 0), (4, .int 0), (0, .ref (ad 0)), (1, .int (nI b)), (2, .int (nI pe)), (3, .int (nI base))]) hx hb d_MD_explicit_16 hl (by decide) rfl (fun ls hl => ?_)
  refine lv_iconst (v := 0) hx hb d_MD_explicit_18 (by decide) ?_
  refine lv_istore (lv' := [(6, .int 0), (5, .int 0), (4, .int 0), (0, .ref (ad 0)), (1, .int (nI b)), (2, .int (nI pe)), (3, .int (nI base))]) hx hb d_MD_explicit_19 hl (by decide) rfl (fun ls hl => ?_)
  refine lv_iload_n hx hb d_MD_explicit_21 rfl (lv_at hl 4 rfl) ?_
  refine lv_istore (lv' := [(7, .int (nI b)), (6, .int 0), (5, .int 0), (4, .int 0), (0, .ref (ad 0)), (1, .int (nI b)), (2, .int (nI pe)), (3, .int (nI base))]) hx hb d_MD_explicit_22 hl (by decide) rfl (fun ls hl => ?_)
  have L24 : ∀ (fu : Nat) (d : Nat) (lv : Nat) (ov : Int32) (ib : Bool) (rs : List XE) (xi : Nat) (xe : Nat) (xv : Nat) (za : Nat → Int32) (zb : Nat → Int32) (zz : Nat → Int32), (pe - (b + d)) < fu → (b + d ≤ pe) → (xrun (ar 9) (ar 13) b pe base d = ((lv, ov, ib) :: rs, xi, xe, xv)) → (xrel za zb zz ((lv, ov, ib) :: rs)) → ∀ (H : Heap) (locs : List Loc) (ls : Array Slot), CI g A s (mw g ad (va_up (va_up (va_up (va_up (va_up ar 15 za) 16 zb) 17 zz) 12 (xlv (ar 9) (ar 13) b pe base (ar 12) d)) 10 (xkdm (ar 9) (ar 13) b pe base (ar 10) d)) (va_up fl 7 (nI (rs.length + 1)))) H locs → lv_has ls 12 [(0, .ref (ad 0)), (1, .int (nI b)), (2, .int (nI pe)), (3, .int (nI base)), (4, .int (nI xi)), (5, .int (nI xe)), (6, .int (nI xv)), (7, .int (nI (b + d)))] → W p l e rm_MD_explicit s m args below meth c H locs 0 0 Q (F0 m 24 ls []) := by
    intro fu
    induction fu with
    | zero => intro d lv ov ib rs xi xe xv za zb zz hm; exact absurd hm (Nat.not_lt_zero _)
    | succ fu ih24 =>
      intro d lv ov ib rs xi xe xv za zb zz hm hd hX hr H locs ls hI hl
      refine lv_iload hx hb d_MD_explicit_24 (lv_at hl 7 rfl) ?_
      refine lv_iload_n hx hb d_MD_explicit_26 rfl (lv_at hl 2 rfl) ?_
      refine lv_icmp_ge (tgt := 447) hx hb d_MD_explicit_27 (by decide) (fun c27 => ?_) (fun c27 => ?_)
      · have c27 : pe ≤ b + d := (nI_leI (a := pe) (b := b + d) (by omega) (by omega)).mp c27
        have hI := CI.to (w2 := mw g ad (va_up (va_up (va_up (va_up (va_up ar 15 za) 16 zb) 17 zz) 12 (xlv (ar 9) (ar 13) b pe base (ar 12) (pe - b))) 10 (xkdm (ar 9) (ar 13) b pe base (ar 10) (pe - b))) (va_up fl 7 (nI (rs.length + 1)))) hI (by rw [show d = pe - b by omega] <;> rfl)
        exact hret (za, zb, zz, rs.length + 1) _ _ _ _ _ _ d_MD_explicit_447 hI (trivial) (Nat.le_refl 0) (Nat.le_refl 0)
      · have c27 : ¬ pe ≤ b + d := fun h => c27 ((nI_leI (a := pe) (b := b + d) (by omega) (by omega)).mpr h)
        have hok := xok_run (fst := ar 9) (mt := ar 13) (b := b) (pe := pe) (base := base) hbs d
        have hiv := xinv_run (fst := ar 9) (mt := ar 13) (b := b) (pe := pe) (base := base) hbs d
        rw [hX] at hok hiv
        have hb1 : rs.length ≤ lv := hok.2.1.1
        have hb2 : lv ≤ 125 := hok.2.1.2.1
        have hb3 : xi ≤ d := hok.2.2.1
        have hb4 : xe ≤ d := hok.2.2.2.1
        have hb5 : xv ≤ d := hok.2.2.2.2
        refine lv_aload_n hx hb d_MD_explicit_30 rfl (lv_at hl 0 rfl) ?_
        refine g_MD_34 M hI d_MD_explicit_31 ?_
        refine lv_iload hx hb d_MD_explicit_34 (lv_at hl 7 rfl) ?_
        refine bl_9 M hI (b + d) rfl (by omega) d_MD_explicit_36 ?_
        refine q_as (y := ar 9 (b + d)) rfl ?_
        refine lv_istore (lv' := [(8, .int (ar 9 (b + d))), (0, .ref (ad 0)), (1, .int (nI b)), (2, .int (nI pe)), (3, .int (nI base)), (4, .int (nI xi)), (5, .int (nI xe)), (6, .int (nI xv)), (7, .int (nI (b + d)))]) hx hb d_MD_explicit_37 hl (by decide) rfl (fun ls hl => ?_)
        refine lv_aload_n hx hb d_MD_explicit_39 rfl (lv_at hl 1 rfl) ?_
        refine g_MD_37 M hI d_MD_explicit_40 ?_
        refine lv_iload hx hb d_MD_explicit_43 (lv_at hl 8 rfl) ?_
        refine lv_iload hx hb d_MD_explicit_45 (lv_at hl 0 rfl) ?_
        refine bs_10 M hI (b + d) rfl (by omega) d_MD_explicit_47 (fun H locs hI => ?_)
        have hI : CI g A s (mw g ad (va_up (va_up (va_up (va_up (va_up ar 15 za) 16 zb) 17 zz) 12 (xlv (ar 9) (ar 13) b pe base (ar 12) d)) 10 (upd (xkdm (ar 9) (ar 13) b pe base (ar 10) d) (b + d) (ar 9 (b + d)))) (va_up fl 7 (nI (rs.length + 1)))) H locs := hI
        refine lv_aload_n hx hb d_MD_explicit_48 rfl (lv_at hl 1 rfl) ?_
        refine g_MD_43 M hI d_MD_explicit_49 ?_
        refine lv_iload hx hb d_MD_explicit_52 (lv_at hl 8 rfl) ?_
        refine lv_iconst (v := (-1)) hx hb d_MD_explicit_54 (by decide) ?_
        refine bs_12 M hI (b + d) rfl (by omega) d_MD_explicit_55 (fun H locs hI => ?_)
        have hI : CI g A s (mw g ad (va_up (va_up (va_up (va_up (va_up ar 15 za) 16 zb) 17 zz) 10 (upd (xkdm (ar 9) (ar 13) b pe base (ar 10) d) (b + d) (ar 9 (b + d)))) 12 (upd (xlv (ar 9) (ar 13) b pe base (ar 12) d) (b + d) (-1))) (va_up fl 7 (nI (rs.length + 1)))) H locs := hI
        have L156 : (¬ isemb (ar 9 (b + d))) → ∀ (H : Heap) (locs : List Loc) (ls : Array Slot), CI g A s (mw g ad (va_up (va_up (va_up (va_up (va_up ar 15 za) 16 zb) 17 zz) 12 (upd (xlv (ar 9) (ar 13) b pe base (ar 12) d) (b + d) (-1))) 10 (upd (xkdm (ar 9) (ar 13) b pe base (ar 10) d) (b + d) (ar 9 (b + d)))) (va_up fl 7 (nI (rs.length + 1)))) H locs → lv_has ls 12 [(0, .ref (ad 0)), (1, .int (nI b)), (2, .int (nI pe)), (3, .int (nI base)), (4, .int (nI xi)), (5, .int (nI xe)), (6, .int (nI xv)), (7, .int (nI (b + d))), (8, .int (ar 9 (b + d)))] → W p l e rm_MD_explicit s m args below meth c H locs 0 0 Q (F0 m 156 ls []) := by
          intro  hem H locs ls hI hl
          refine lv_iload hx hb d_MD_explicit_156 (lv_at hl 8 rfl) ?_
          refine q_calliS [.int (ar 9 (b + d))] M hI (c_MD_isIsolate l g (mw g ad (va_up (va_up (va_up (va_up (va_up ar 15 za) 16 zb) 17 zz) 12 (upd (xlv (ar 9) (ar 13) b pe base (ar 12) d) (b + d) (-1))) 10 (upd (xkdm (ar 9) (ar 13) b pe base (ar 10) d) (b + d) (ar 9 (b + d)))) (va_up fl 7 (nI (rs.length + 1)))) (ar 9 (b + d))) ok_MD_isIsolate m5_107 m5_108 rfl rfl hl.1 ⟨rfl, rfl⟩ ⟨Nat.le_of_ble_eq_true rfl, Nat.le_of_ble_eq_true rfl⟩ (Nat.le_of_ble_eq_true rfl) ⟨Nat.le_of_ble_eq_true rfl, Nat.le_of_ble_eq_true rfl⟩ d_MD_explicit_158 (fun r158 u158 H locs hp158 hI => ?_)
          refine q_as (y := bI (isol (ar 9 (b + d)))) hp158 ?_
          refine lv_if_eq (tgt := 272) hx hb d_MD_explicit_161 (by decide) (fun c161 => ?_) (fun c161 => ?_)
          · have c161 := bI_eq0.mp c161
            refine lv_iload hx hb d_MD_explicit_272 (lv_at hl 8 rfl) ?_
            refine lv_bipush (v := 22) hx hb d_MD_explicit_274 (by decide) ?_
            refine lv_icmp_ne (tgt := 347) hx hb d_MD_explicit_276 (by decide) (fun c276 => ?_) (fun c276 => ?_)
            · refine lv_iload hx hb d_MD_explicit_347 (lv_at hl 8 rfl) ?_
              refine lv_bipush (v := 18) hx hb d_MD_explicit_349 (by decide) ?_
              refine lv_icmp_ne (tgt := 410) hx hb d_MD_explicit_351 (by decide) (fun c351 => ?_) (fun c351 => ?_)
              · have eX0 : xstep (ar 9) (ar 13) pe (b + d) ((lv, ov, ib) :: rs, xi, xe, xv) = ((lv, ov, ib) :: rs, xi, xe, xv) := by unfold xstep; exact (if_neg hem).trans ((if_neg c161).trans ((if_neg c276).trans (if_neg c351)))
                refine lv_iload hx hb d_MD_explicit_410 (lv_at hl 8 rfl) ?_
                refine lv_bipush (v := 10) hx hb d_MD_explicit_412 (by decide) ?_
                refine lv_icmp_ne (tgt := 428) hx hb d_MD_explicit_414 (by decide) (fun c414 => ?_) (fun c414 => ?_)
                · refine lv_iload hx hb d_MD_explicit_428 (lv_at hl 8 rfl) ?_
                  refine lv_bipush (v := 9) hx hb d_MD_explicit_430 (by decide) ?_
                  refine lv_icmp_eq (tgt := 441) hx hb d_MD_explicit_432 (by decide) (fun c432 => ?_) (fun c432 => ?_)
                  · have elv : xlev (ar 9 (b + d)) base (xrun (ar 9) (ar 13) b pe base d) = -1 := by rw [hX]; unfold xlev; exact if_pos (Or.inr (Or.inr c432))
                    have ekn : xkm (ar 9 (b + d)) (xrun (ar 9) (ar 13) b pe base d) = ar 9 (b + d) := by rw [hX]; unfold xkm; exact if_pos (Or.inr (Or.inr c432))
                    have hX2 : xrun (ar 9) (ar 13) b pe base (d + 1) = ((lv, ov, ib) :: rs, xi, xe, xv) := by show xstep (ar 9) (ar 13) pe (b + d) (xrun (ar 9) (ar 13) b pe base d) = _; rw [hX, eX0]; first | done | (rfl)
                    have hr2 := hr
                    have eL : upd (xlv (ar 9) (ar 13) b pe base (ar 12) d) (b + d) (-1) = xlv (ar 9) (ar 13) b pe base (ar 12) (d + 1) := by show _ = upd _ _ (xlev (ar 9 (b + d)) base (xrun (ar 9) (ar 13) b pe base d)); rw [elv]; first | done | rfl | exact upd_uu
                    have eK : upd (xkdm (ar 9) (ar 13) b pe base (ar 10) d) (b + d) (ar 9 (b + d)) = xkdm (ar 9) (ar 13) b pe base (ar 10) (d + 1) := by show _ = upd _ _ (xkm (ar 9 (b + d)) (xrun (ar 9) (ar 13) b pe base d)); rw [ekn]; first | done | rfl | rw [upd_uu, pk_us]
                    have hI := CI.to (w2 := mw g ad (va_up (va_up (va_up (va_up (va_up ar 15 za) 16 zb) 17 zz) 12 (xlv (ar 9) (ar 13) b pe base (ar 12) (d + 1))) 10 (xkdm (ar 9) (ar 13) b pe base (ar 10) (d + 1))) (va_up fl 7 (nI (rs.length + 1)))) hI (by rw [eL, eK]; first | done | rfl)
                    refine lv_iinc (v := nI (b + d + 1)) (lv' := [(7, .int (nI (b + d + 1))), (0, .ref (ad 0)), (1, .int (nI b)), (2, .int (nI pe)), (3, .int (nI base)), (4, .int (nI xi)), (5, .int (nI xe)), (6, .int (nI xv)), (8, .int (ar 9 (b + d)))]) hx hb d_MD_explicit_441 hl (k := 7) rfl (nI_add _ 1) (by decide) rfl (fun ls hl => ?_)
                    refine lv_goto (tgt := 24) hx hb d_MD_explicit_444 (by decide) ?_
                    exact ih24 (d + 1) lv ov ib rs xi xe xv za zb zz (by omega) (by omega) (hX2) (hr2) _ _ _ hI (lv_sub hl [1, 2, 3, 4, 5, 6, 7, 0] rfl)
                  · have hng : ¬ xgone (ar 9 (b + d)) := fun z => z.elim hem (fun z => z.elim c351 c432)
                    have h10n : ¬ ar 9 (b + d) = 10 := c414
                    have h22n : ¬ ar 9 (b + d) = 22 := c276
                    have elv : xlev (ar 9 (b + d)) base (xrun (ar 9) (ar 13) b pe base d) = nI lv := by rw [hX]; unfold xlev; exact (if_neg hng).trans ((if_neg h10n).trans (by unfold xtop; rw [if_neg h22n]; rfl))
                    have ekn : xkm (ar 9 (b + d)) (xrun (ar 9) (ar 13) b pe base d) = (if ov < 0 then ar 9 (b + d) else ov) := by rw [hX]; unfold xkm; exact (if_neg hng).trans ((if_neg h10n).trans (by unfold xtop; rw [if_neg h22n]; rfl))
                    have hX2 : xrun (ar 9) (ar 13) b pe base (d + 1) = ((lv, ov, ib) :: rs, xi, xe, xv) := by show xstep (ar 9) (ar 13) pe (b + d) (xrun (ar 9) (ar 13) b pe base d) = _; rw [hX, eX0]; first | done | (rfl)
                    have hr2 := hr
                    refine lv_aload_n hx hb d_MD_explicit_435 rfl (lv_at hl 0 rfl) ?_
                    refine lv_iload hx hb d_MD_explicit_436 (lv_at hl 7 rfl) ?_
                    refine q_callvV [.int (nI (b + d))] M hI (c_MD_settle l g ad (va_up (va_up (va_up (va_up (va_up ar 15 za) 16 zb) 17 zz) 12 (upd (xlv (ar 9) (ar 13) b pe base (ar 12) d) (b + d) (-1))) 10 (upd (xkdm (ar 9) (ar 13) b pe base (ar 10) d) (b + d) (ar 9 (b + d)))) (va_up fl 7 (nI (rs.length + 1))) (b + d) lv ov ib rs (rfl) (hr) (by omega) (by omega)) ok_MD_settle m5_134 m5_136 ms_58 0 rfl rfl rfl rfl hl.1 ⟨rfl, rfl⟩ ⟨Nat.le_of_ble_eq_true rfl, Nat.le_of_ble_eq_true rfl⟩ (Nat.le_of_ble_eq_true rfl) ⟨Nat.le_of_ble_eq_true rfl, Nat.le_of_ble_eq_true rfl⟩ d_MD_explicit_438 (fun u438 H locs hp438 hI => ?_)
                    have hI : CI g A s (mw g ad (va_up (va_up (va_up (va_up (va_up ar 15 za) 16 zb) 17 zz) 12 (upd (upd (xlv (ar 9) (ar 13) b pe base (ar 12) d) (b + d) (-1)) (b + d) (nI lv))) 10 (upd (upd (xkdm (ar 9) (ar 13) b pe base (ar 10) d) (b + d) (ar 9 (b + d))) (b + d) (if ov < 0 then (upd (xkdm (ar 9) (ar 13) b pe base (ar 10) d) (b + d) (ar 9 (b + d))) (b + d) else ov))) (va_up fl 7 (nI (rs.length + 1)))) H locs := hI
                    have eL : upd (upd (xlv (ar 9) (ar 13) b pe base (ar 12) d) (b + d) (-1)) (b + d) (nI lv) = xlv (ar 9) (ar 13) b pe base (ar 12) (d + 1) := by show _ = upd _ _ (xlev (ar 9 (b + d)) base (xrun (ar 9) (ar 13) b pe base d)); rw [elv]; first | done | rfl | exact upd_uu
                    have eK : upd (upd (xkdm (ar 9) (ar 13) b pe base (ar 10) d) (b + d) (ar 9 (b + d))) (b + d) (if ov < 0 then (upd (xkdm (ar 9) (ar 13) b pe base (ar 10) d) (b + d) (ar 9 (b + d))) (b + d) else ov) = xkdm (ar 9) (ar 13) b pe base (ar 10) (d + 1) := by show _ = upd _ _ (xkm (ar 9 (b + d)) (xrun (ar 9) (ar 13) b pe base d)); rw [ekn]; first | done | rfl | rw [upd_uu, pk_us]
                    have hI := CI.to (w2 := mw g ad (va_up (va_up (va_up (va_up (va_up ar 15 za) 16 zb) 17 zz) 12 (xlv (ar 9) (ar 13) b pe base (ar 12) (d + 1))) 10 (xkdm (ar 9) (ar 13) b pe base (ar 10) (d + 1))) (va_up fl 7 (nI (rs.length + 1)))) hI (by rw [eL, eK]; first | done | rfl)
                    refine lv_iinc (v := nI (b + d + 1)) (lv' := [(7, .int (nI (b + d + 1))), (0, .ref (ad 0)), (1, .int (nI b)), (2, .int (nI pe)), (3, .int (nI base)), (4, .int (nI xi)), (5, .int (nI xe)), (6, .int (nI xv)), (8, .int (ar 9 (b + d)))]) hx hb d_MD_explicit_441 hl (k := 7) rfl (nI_add _ 1) (by decide) rfl (fun ls hl => ?_)
                    refine lv_goto (tgt := 24) hx hb d_MD_explicit_444 (by decide) ?_
                    exact ih24 (d + 1) lv ov ib rs xi xe xv za zb zz (by omega) (by omega) (hX2) (hr2) _ _ _ hI (lv_sub hl [1, 2, 3, 4, 5, 6, 7, 0] rfl)
                · have hng : ¬ xgone (ar 9 (b + d)) := by rintro (z | z | z); exact hem z; exact c351 z; rw [c414] at z; exact absurd z (by decide)
                  have elv : xlev (ar 9 (b + d)) base (xrun (ar 9) (ar 13) b pe base d) = nI base := by rw [hX]; unfold xlev; exact (if_neg hng).trans (if_pos c414)
                  have ekn : xkm (ar 9 (b + d)) (xrun (ar 9) (ar 13) b pe base d) = 10 := by rw [hX]; unfold xkm; exact (if_neg hng).trans (if_pos c414)
                  rw [← c414] at ekn
                  have hX2 : xrun (ar 9) (ar 13) b pe base (d + 1) = ((lv, ov, ib) :: rs, xi, xe, xv) := by show xstep (ar 9) (ar 13) pe (b + d) (xrun (ar 9) (ar 13) b pe base d) = _; rw [hX, eX0]; first | done | (rfl)
                  have hr2 := hr
                  refine lv_aload_n hx hb d_MD_explicit_417 rfl (lv_at hl 0 rfl) ?_
                  refine g_MD_43 M hI d_MD_explicit_418 ?_
                  refine lv_iload hx hb d_MD_explicit_421 (lv_at hl 7 rfl) ?_
                  refine lv_iload_n hx hb d_MD_explicit_423 rfl (lv_at hl 3 rfl) ?_
                  refine bs_12 M hI (b + d) rfl (by omega) d_MD_explicit_424 (fun H locs hI => ?_)
                  have hI : CI g A s (mw g ad (va_up (va_up (va_up (va_up (va_up ar 15 za) 16 zb) 17 zz) 10 (upd (xkdm (ar 9) (ar 13) b pe base (ar 10) d) (b + d) (ar 9 (b + d)))) 12 (upd (upd (xlv (ar 9) (ar 13) b pe base (ar 12) d) (b + d) (-1)) (b + d) (nI base))) (va_up fl 7 (nI (rs.length + 1)))) H locs := hI
                  refine lv_goto (tgt := 441) hx hb d_MD_explicit_425 (by decide) ?_
                  have eL : upd (upd (xlv (ar 9) (ar 13) b pe base (ar 12) d) (b + d) (-1)) (b + d) (nI base) = xlv (ar 9) (ar 13) b pe base (ar 12) (d + 1) := by show _ = upd _ _ (xlev (ar 9 (b + d)) base (xrun (ar 9) (ar 13) b pe base d)); rw [elv]; first | done | rfl | exact upd_uu
                  have eK : upd (xkdm (ar 9) (ar 13) b pe base (ar 10) d) (b + d) (ar 9 (b + d)) = xkdm (ar 9) (ar 13) b pe base (ar 10) (d + 1) := by show _ = upd _ _ (xkm (ar 9 (b + d)) (xrun (ar 9) (ar 13) b pe base d)); rw [ekn]; first | done | rfl | rw [upd_uu, pk_us]
                  have hI := CI.to (w2 := mw g ad (va_up (va_up (va_up (va_up (va_up ar 15 za) 16 zb) 17 zz) 12 (xlv (ar 9) (ar 13) b pe base (ar 12) (d + 1))) 10 (xkdm (ar 9) (ar 13) b pe base (ar 10) (d + 1))) (va_up fl 7 (nI (rs.length + 1)))) hI (by rw [eL, eK]; first | done | rfl)
                  refine lv_iinc (v := nI (b + d + 1)) (lv' := [(7, .int (nI (b + d + 1))), (0, .ref (ad 0)), (1, .int (nI b)), (2, .int (nI pe)), (3, .int (nI base)), (4, .int (nI xi)), (5, .int (nI xe)), (6, .int (nI xv)), (8, .int (ar 9 (b + d)))]) hx hb d_MD_explicit_441 hl (k := 7) rfl (nI_add _ 1) (by decide) rfl (fun ls hl => ?_)
                  refine lv_goto (tgt := 24) hx hb d_MD_explicit_444 (by decide) ?_
                  exact ih24 (d + 1) lv ov ib rs xi xe xv za zb zz (by omega) (by omega) (hX2) (hr2) _ _ _ hI (lv_sub hl [1, 2, 3, 4, 5, 6, 7, 0] rfl)
              · have eX0 : xstep (ar 9) (ar 13) pe (b + d) ((lv, ov, ib) :: rs, xi, xe, xv) = xPdf ((lv, ov, ib) :: rs, xi, xe, xv) := by unfold xstep; exact (if_neg hem).trans ((if_neg c161).trans ((if_neg c276).trans (if_pos c351)))
                have elv : xlev (ar 9 (b + d)) base (xrun (ar 9) (ar 13) b pe base d) = -1 := by rw [hX]; unfold xlev; exact if_pos (Or.inr (Or.inl c351))
                have ekn : xkm (ar 9 (b + d)) (xrun (ar 9) (ar 13) b pe base d) = ar 9 (b + d) := by rw [hX]; unfold xkm; exact if_pos (Or.inr (Or.inl c351))
                refine lv_iload hx hb d_MD_explicit_354 (lv_at hl 4 rfl) ?_
                refine lv_if_ne (tgt := 370) hx hb d_MD_explicit_356 (by decide) (fun c356 => ?_) (fun c356 => ?_)
                · have c356 : ¬ xi = 0 := fun h => c356 ((nI_eq (a := xi) (b := 0) (by omega) (by omega)).mpr h)
                  refine lv_iload hx hb d_MD_explicit_370 (lv_at hl 4 rfl) ?_
                  refine lv_if_ne (tgt := 441) hx hb d_MD_explicit_372 (by decide) (fun c372 => ?_) (fun c372 => ?_)
                  · have c372 : ¬ xi = 0 := fun h => c372 ((nI_eq (a := xi) (b := 0) (by omega) (by omega)).mpr h)
                    have hX2 : xrun (ar 9) (ar 13) b pe base (d + 1) = ((lv, ov, ib) :: rs, xi, xe, xv) := by show xstep (ar 9) (ar 13) pe (b + d) (xrun (ar 9) (ar 13) b pe base d) = _; rw [hX, eX0]; first | done | (unfold xPdf; exact if_pos (show 0 < xi by omega))
                    have hr2 := hr
                    have eL : upd (xlv (ar 9) (ar 13) b pe base (ar 12) d) (b + d) (-1) = xlv (ar 9) (ar 13) b pe base (ar 12) (d + 1) := by show _ = upd _ _ (xlev (ar 9 (b + d)) base (xrun (ar 9) (ar 13) b pe base d)); rw [elv]; first | done | rfl | exact upd_uu
                    have eK : upd (xkdm (ar 9) (ar 13) b pe base (ar 10) d) (b + d) (ar 9 (b + d)) = xkdm (ar 9) (ar 13) b pe base (ar 10) (d + 1) := by show _ = upd _ _ (xkm (ar 9 (b + d)) (xrun (ar 9) (ar 13) b pe base d)); rw [ekn]; first | done | rfl | rw [upd_uu, pk_us]
                    have hI := CI.to (w2 := mw g ad (va_up (va_up (va_up (va_up (va_up ar 15 za) 16 zb) 17 zz) 12 (xlv (ar 9) (ar 13) b pe base (ar 12) (d + 1))) 10 (xkdm (ar 9) (ar 13) b pe base (ar 10) (d + 1))) (va_up fl 7 (nI (rs.length + 1)))) hI (by rw [eL, eK]; first | done | rfl)
                    refine lv_iinc (v := nI (b + d + 1)) (lv' := [(7, .int (nI (b + d + 1))), (0, .ref (ad 0)), (1, .int (nI b)), (2, .int (nI pe)), (3, .int (nI base)), (4, .int (nI xi)), (5, .int (nI xe)), (6, .int (nI xv)), (8, .int (ar 9 (b + d)))]) hx hb d_MD_explicit_441 hl (k := 7) rfl (nI_add _ 1) (by decide) rfl (fun ls hl => ?_)
                    refine lv_goto (tgt := 24) hx hb d_MD_explicit_444 (by decide) ?_
                    exact ih24 (d + 1) lv ov ib rs xi xe xv za zb zz (by omega) (by omega) (hX2) (hr2) _ _ _ hI (lv_sub hl [1, 2, 3, 4, 5, 6, 7, 0] rfl)
                  · have c372 : xi = 0 := (nI_eq (a := xi) (b := 0) (by omega) (by omega)).mp c372
                    exfalso; omega
                · have c356 : xi = 0 := (nI_eq (a := xi) (b := 0) (by omega) (by omega)).mp c356
                  refine lv_iload hx hb d_MD_explicit_359 (lv_at hl 5 rfl) ?_
                  refine lv_if_le (tgt := 370) hx hb d_MD_explicit_361 (by decide) (fun c361 => ?_) (fun c361 => ?_)
                  · have c361 : xe ≤ 0 := (nI_leI (a := xe) (b := 0) (by omega) (by omega)).mp c361
                    have eF9 : xPdf ((lv, ov, ib) :: rs, xi, xe, xv) = (popE ((lv, ov, ib) :: rs), xi, xe, xv) := by unfold xPdf; exact (if_neg (show ¬ 0 < xi by omega)).trans (if_neg (show ¬ 0 < xe by omega))
                    refine lv_iload hx hb d_MD_explicit_370 (lv_at hl 4 rfl) ?_
                    refine lv_if_ne (tgt := 441) hx hb d_MD_explicit_372 (by decide) (fun c372 => ?_) (fun c372 => ?_)
                    · have c372 : ¬ xi = 0 := fun h => c372 ((nI_eq (a := xi) (b := 0) (by omega) (by omega)).mpr h)
                      exfalso; omega
                    · have c372 : xi = 0 := (nI_eq (a := xi) (b := 0) (by omega) (by omega)).mp c372
                      refine lv_aload_n hx hb d_MD_explicit_375 rfl (lv_at hl 0 rfl) ?_
                      refine g_MD_129 M hI d_MD_explicit_376 ?_
                      refine q_as (y := nI (rs.length + 1)) rfl ?_
                      refine lv_iconst (v := 1) hx hb d_MD_explicit_379 (by decide) ?_
                      refine lv_icmp_le (tgt := 441) hx hb d_MD_explicit_380 (by decide) (fun c380 => ?_) (fun c380 => ?_)
                      · have c380 : rs.length + 1 ≤ 1 := (nI_leI (a := rs.length + 1) (b := 1) (by omega) (by omega)).mp c380
                        have hrs : rs = [] := List.eq_nil_of_length_eq_zero (by omega)
                        have hX2 : xrun (ar 9) (ar 13) b pe base (d + 1) = ((lv, ov, ib) :: rs, xi, xe, xv) := by show xstep (ar 9) (ar 13) pe (b + d) (xrun (ar 9) (ar 13) b pe base d) = _; rw [hX, eX0]; first | done | (rw [eF9, hrs]; rfl)
                        have hr2 := hr
                        have eL : upd (xlv (ar 9) (ar 13) b pe base (ar 12) d) (b + d) (-1) = xlv (ar 9) (ar 13) b pe base (ar 12) (d + 1) := by show _ = upd _ _ (xlev (ar 9 (b + d)) base (xrun (ar 9) (ar 13) b pe base d)); rw [elv]; first | done | rfl | exact upd_uu
                        have eK : upd (xkdm (ar 9) (ar 13) b pe base (ar 10) d) (b + d) (ar 9 (b + d)) = xkdm (ar 9) (ar 13) b pe base (ar 10) (d + 1) := by show _ = upd _ _ (xkm (ar 9 (b + d)) (xrun (ar 9) (ar 13) b pe base d)); rw [ekn]; first | done | rfl | rw [upd_uu, pk_us]
                        have hI := CI.to (w2 := mw g ad (va_up (va_up (va_up (va_up (va_up ar 15 za) 16 zb) 17 zz) 12 (xlv (ar 9) (ar 13) b pe base (ar 12) (d + 1))) 10 (xkdm (ar 9) (ar 13) b pe base (ar 10) (d + 1))) (va_up fl 7 (nI (rs.length + 1)))) hI (by rw [eL, eK]; first | done | rfl)
                        refine lv_iinc (v := nI (b + d + 1)) (lv' := [(7, .int (nI (b + d + 1))), (0, .ref (ad 0)), (1, .int (nI b)), (2, .int (nI pe)), (3, .int (nI base)), (4, .int (nI xi)), (5, .int (nI xe)), (6, .int (nI xv)), (8, .int (ar 9 (b + d)))]) hx hb d_MD_explicit_441 hl (k := 7) rfl (nI_add _ 1) (by decide) rfl (fun ls hl => ?_)
                        refine lv_goto (tgt := 24) hx hb d_MD_explicit_444 (by decide) ?_
                        exact ih24 (d + 1) lv ov ib rs xi xe xv za zb zz (by omega) (by omega) (hX2) (hr2) _ _ _ hI (lv_sub hl [1, 2, 3, 4, 5, 6, 7, 0] rfl)
                      · have c380 : ¬ rs.length + 1 ≤ 1 := fun h => c380 ((nI_leI (a := rs.length + 1) (b := 1) (by omega) (by omega)).mpr h)
                        obtain ⟨y, t2, hrs⟩ : ∃ y t2, rs = y :: t2 := by cases rs with | nil => exact absurd (Nat.le_refl 1) c380 | cons y t2 => exact ⟨y, t2, rfl⟩
                        refine lv_aload_n hx hb d_MD_explicit_383 rfl (lv_at hl 0 rfl) ?_
                        refine g_MD_58 M hI d_MD_explicit_384 ?_
                        refine lv_aload_n hx hb d_MD_explicit_387 rfl (lv_at hl 0 rfl) ?_
                        refine g_MD_129 M hI d_MD_explicit_388 ?_
                        refine q_as (y := nI (rs.length + 1)) rfl ?_
                        refine lv_iconst (v := 1) hx hb d_MD_explicit_391 (by decide) ?_
                        refine lv_isub hx hb d_MD_explicit_392 ?_
                        refine q_as (y := nI rs.length) (nI_pred _) ?_
                        refine bl_17 M hI rs.length rfl (by omega) d_MD_explicit_393 ?_
                        refine q_as (y := if ib = true then 1 else 0) (hr.2.2.1) ?_
                        refine lv_if_ne (tgt := 441) hx hb d_MD_explicit_394 (by decide) (fun c394 => ?_) (fun c394 => ?_)
                        · have c394 := z_true c394
                          have hX2 : xrun (ar 9) (ar 13) b pe base (d + 1) = ((lv, ov, ib) :: rs, xi, xe, xv) := by show xstep (ar 9) (ar 13) pe (b + d) (xrun (ar 9) (ar 13) b pe base d) = _; rw [hX, eX0]; first | done | (rw [eF9, hrs]; simp only [popE]; rw [if_pos c394])
                          have hr2 := hr
                          have eL : upd (xlv (ar 9) (ar 13) b pe base (ar 12) d) (b + d) (-1) = xlv (ar 9) (ar 13) b pe base (ar 12) (d + 1) := by show _ = upd _ _ (xlev (ar 9 (b + d)) base (xrun (ar 9) (ar 13) b pe base d)); rw [elv]; first | done | rfl | exact upd_uu
                          have eK : upd (xkdm (ar 9) (ar 13) b pe base (ar 10) d) (b + d) (ar 9 (b + d)) = xkdm (ar 9) (ar 13) b pe base (ar 10) (d + 1) := by show _ = upd _ _ (xkm (ar 9 (b + d)) (xrun (ar 9) (ar 13) b pe base d)); rw [ekn]; first | done | rfl | rw [upd_uu, pk_us]
                          have hI := CI.to (w2 := mw g ad (va_up (va_up (va_up (va_up (va_up ar 15 za) 16 zb) 17 zz) 12 (xlv (ar 9) (ar 13) b pe base (ar 12) (d + 1))) 10 (xkdm (ar 9) (ar 13) b pe base (ar 10) (d + 1))) (va_up fl 7 (nI (rs.length + 1)))) hI (by rw [eL, eK]; first | done | rfl)
                          refine lv_iinc (v := nI (b + d + 1)) (lv' := [(7, .int (nI (b + d + 1))), (0, .ref (ad 0)), (1, .int (nI b)), (2, .int (nI pe)), (3, .int (nI base)), (4, .int (nI xi)), (5, .int (nI xe)), (6, .int (nI xv)), (8, .int (ar 9 (b + d)))]) hx hb d_MD_explicit_441 hl (k := 7) rfl (nI_add _ 1) (by decide) rfl (fun ls hl => ?_)
                          refine lv_goto (tgt := 24) hx hb d_MD_explicit_444 (by decide) ?_
                          exact ih24 (d + 1) lv ov ib rs xi xe xv za zb zz (by omega) (by omega) (hX2) (hr2) _ _ _ hI (lv_sub hl [1, 2, 3, 4, 5, 6, 7, 0] rfl)
                        · have c394 := z_false c394
                          have hl4 : rs.length = t2.length + 1 := by rw [hrs]; rfl
                          have hX2 : xrun (ar 9) (ar 13) b pe base (d + 1) = ((y.1, y.2.1, y.2.2) :: t2, xi, xe, xv) := by show xstep (ar 9) (ar 13) pe (b + d) (xrun (ar 9) (ar 13) b pe base d) = _; rw [hX, eX0]; first | done | (rw [eF9, hrs]; simp only [popE]; rw [if_neg (by rw [c394]; decide)])
                          have hr2 : xrel za zb zz ((y.1, y.2.1, y.2.2) :: t2) := (hrs ▸ hr).2.2.2
                          refine lv_aload_n hx hb d_MD_explicit_397 rfl (lv_at hl 0 rfl) ?_
                          refine lv_dup hx hb d_MD_explicit_398 rfl ?_
                          refine g_MD_129 M hI d_MD_explicit_399 ?_
                          refine q_as (y := nI (rs.length + 1)) rfl ?_
                          refine lv_iconst (v := 1) hx hb d_MD_explicit_402 (by decide) ?_
                          refine lv_isub hx hb d_MD_explicit_403 ?_
                          refine q_as (y := nI (t2.length + 1)) (by rw [hl4]; exact nI_pred _) ?_
                          refine p_MD_129 M hI d_MD_explicit_404 (fun H locs hI => ?_)
                          have hI : CI g A s (mw g ad (va_up (va_up (va_up (va_up (va_up ar 15 za) 16 zb) 17 zz) 12 (upd (xlv (ar 9) (ar 13) b pe base (ar 12) d) (b + d) (-1))) 10 (upd (xkdm (ar 9) (ar 13) b pe base (ar 10) d) (b + d) (ar 9 (b + d)))) (va_up fl 7 (nI (t2.length + 1)))) H locs := hI
                          refine lv_goto (tgt := 441) hx hb d_MD_explicit_407 (by decide) ?_
                          have eL : upd (xlv (ar 9) (ar 13) b pe base (ar 12) d) (b + d) (-1) = xlv (ar 9) (ar 13) b pe base (ar 12) (d + 1) := by show _ = upd _ _ (xlev (ar 9 (b + d)) base (xrun (ar 9) (ar 13) b pe base d)); rw [elv]; first | done | rfl | exact upd_uu
                          have eK : upd (xkdm (ar 9) (ar 13) b pe base (ar 10) d) (b + d) (ar 9 (b + d)) = xkdm (ar 9) (ar 13) b pe base (ar 10) (d + 1) := by show _ = upd _ _ (xkm (ar 9 (b + d)) (xrun (ar 9) (ar 13) b pe base d)); rw [ekn]; first | done | rfl | rw [upd_uu, pk_us]
                          have hI := CI.to (w2 := mw g ad (va_up (va_up (va_up (va_up (va_up ar 15 za) 16 zb) 17 zz) 12 (xlv (ar 9) (ar 13) b pe base (ar 12) (d + 1))) 10 (xkdm (ar 9) (ar 13) b pe base (ar 10) (d + 1))) (va_up fl 7 (nI (t2.length + 1)))) hI (by rw [eL, eK]; first | done | rfl)
                          refine lv_iinc (v := nI (b + d + 1)) (lv' := [(7, .int (nI (b + d + 1))), (0, .ref (ad 0)), (1, .int (nI b)), (2, .int (nI pe)), (3, .int (nI base)), (4, .int (nI xi)), (5, .int (nI xe)), (6, .int (nI xv)), (8, .int (ar 9 (b + d)))]) hx hb d_MD_explicit_441 hl (k := 7) rfl (nI_add _ 1) (by decide) rfl (fun ls hl => ?_)
                          refine lv_goto (tgt := 24) hx hb d_MD_explicit_444 (by decide) ?_
                          exact ih24 (d + 1) y.1 y.2.1 y.2.2 t2 xi xe xv za zb zz (by omega) (by omega) (hX2) (hr2) _ _ _ hI (lv_sub hl [1, 2, 3, 4, 5, 6, 7, 0] rfl)
                  · have c361 : ¬ xe ≤ 0 := fun h => c361 ((nI_leI (a := xe) (b := 0) (by omega) (by omega)).mpr h)
                    have hX2 : xrun (ar 9) (ar 13) b pe base (d + 1) = ((lv, ov, ib) :: rs, xi, xe - 1, xv) := by show xstep (ar 9) (ar 13) pe (b + d) (xrun (ar 9) (ar 13) b pe base d) = _; rw [hX, eX0]; first | done | (unfold xPdf; exact (if_neg (show ¬ 0 < xi by omega)).trans (if_pos (show 0 < xe by omega)))
                    have hr2 := hr
                    refine lv_iinc (v := nI (xe - 1)) (lv' := [(5, .int (nI (xe - 1))), (0, .ref (ad 0)), (1, .int (nI b)), (2, .int (nI pe)), (3, .int (nI base)), (4, .int (nI xi)), (6, .int (nI xv)), (7, .int (nI (b + d))), (8, .int (ar 9 (b + d)))]) hx hb d_MD_explicit_364 hl (k := 5) rfl (nI_decp (by omega)) (by decide) rfl (fun ls hl => ?_)
                    refine lv_goto (tgt := 441) hx hb d_MD_explicit_367 (by decide) ?_
                    have eL : upd (xlv (ar 9) (ar 13) b pe base (ar 12) d) (b + d) (-1) = xlv (ar 9) (ar 13) b pe base (ar 12) (d + 1) := by show _ = upd _ _ (xlev (ar 9 (b + d)) base (xrun (ar 9) (ar 13) b pe base d)); rw [elv]; first | done | rfl | exact upd_uu
                    have eK : upd (xkdm (ar 9) (ar 13) b pe base (ar 10) d) (b + d) (ar 9 (b + d)) = xkdm (ar 9) (ar 13) b pe base (ar 10) (d + 1) := by show _ = upd _ _ (xkm (ar 9 (b + d)) (xrun (ar 9) (ar 13) b pe base d)); rw [ekn]; first | done | rfl | rw [upd_uu, pk_us]
                    have hI := CI.to (w2 := mw g ad (va_up (va_up (va_up (va_up (va_up ar 15 za) 16 zb) 17 zz) 12 (xlv (ar 9) (ar 13) b pe base (ar 12) (d + 1))) 10 (xkdm (ar 9) (ar 13) b pe base (ar 10) (d + 1))) (va_up fl 7 (nI (rs.length + 1)))) hI (by rw [eL, eK]; first | done | rfl)
                    refine lv_iinc (v := nI (b + d + 1)) (lv' := [(7, .int (nI (b + d + 1))), (5, .int (nI (xe - 1))), (0, .ref (ad 0)), (1, .int (nI b)), (2, .int (nI pe)), (3, .int (nI base)), (4, .int (nI xi)), (6, .int (nI xv)), (8, .int (ar 9 (b + d)))]) hx hb d_MD_explicit_441 hl (k := 7) rfl (nI_add _ 1) (by decide) rfl (fun ls hl => ?_)
                    refine lv_goto (tgt := 24) hx hb d_MD_explicit_444 (by decide) ?_
                    exact ih24 (d + 1) lv ov ib rs xi (xe - 1) xv za zb zz (by omega) (by omega) (hX2) (hr2) _ _ _ hI (lv_sub hl [2, 3, 4, 5, 6, 1, 7, 0] rfl)
            · have eX0 : xstep (ar 9) (ar 13) pe (b + d) ((lv, ov, ib) :: rs, xi, xe, xv) = xPdi ((lv, ov, ib) :: rs, xi, xe, xv) := by unfold xstep; exact (if_neg hem).trans ((if_neg c161).trans (if_pos c276))
              have hng : ¬ xgone (ar 9 (b + d)) := by rintro (z | z | z); exact hem z; rw [c276] at z; exact absurd z (by decide); rw [c276] at z; exact absurd z (by decide)
              have h10n : ¬ ar 9 (b + d) = 10 := by rw [c276]; decide
              have L338 : ∀  (l2 : Nat) (o2 : Int32) (i2 : Bool) (r2 : List XE) (yi : Nat) (ye : Nat) (yv : Nat), (xPdi ((lv, ov, ib) :: rs, xi, xe, xv) = ((l2, o2, i2) :: r2, yi, ye, yv)) → (xrel za zb zz ((l2, o2, i2) :: r2)) → (r2.length ≤ 125) → ∀ (H : Heap) (locs : List Loc) (ls : Array Slot), CI g A s (mw g ad (va_up (va_up (va_up (va_up (va_up ar 15 za) 16 zb) 17 zz) 12 (upd (xlv (ar 9) (ar 13) b pe base (ar 12) d) (b + d) (-1))) 10 (upd (xkdm (ar 9) (ar 13) b pe base (ar 10) d) (b + d) (ar 9 (b + d)))) (va_up fl 7 (nI (r2.length + 1)))) H locs → lv_has ls 12 [(0, .ref (ad 0)), (1, .int (nI b)), (2, .int (nI pe)), (3, .int (nI base)), (7, .int (nI (b + d))), (8, .int (ar 9 (b + d))), (4, .int (nI yi)), (5, .int (nI ye)), (6, .int (nI yv))] → W p l e rm_MD_explicit s m args below meth c H locs 0 0 Q (F0 m 338 ls []) := by
                intro l2 o2 i2 r2 yi ye yv hpd hr2 hl2 H locs ls hI hl
                refine lv_aload_n hx hb d_MD_explicit_338 rfl (lv_at hl 0 rfl) ?_
                refine lv_iload hx hb d_MD_explicit_339 (lv_at hl 4 rfl) ?_
                refine q_callvV [.int (nI (b + d))] M hI (c_MD_settle l g ad (va_up (va_up (va_up (va_up (va_up ar 15 za) 16 zb) 17 zz) 12 (upd (xlv (ar 9) (ar 13) b pe base (ar 12) d) (b + d) (-1))) 10 (upd (xkdm (ar 9) (ar 13) b pe base (ar 10) d) (b + d) (ar 9 (b + d)))) (va_up fl 7 (nI (r2.length + 1))) (b + d) l2 o2 i2 r2 (rfl) (hr2) (by omega) (by omega)) ok_MD_settle m5_134 m5_136 ms_58 0 rfl rfl rfl rfl hl.1 ⟨rfl, rfl⟩ ⟨Nat.le_of_ble_eq_true rfl, Nat.le_of_ble_eq_true rfl⟩ (Nat.le_of_ble_eq_true rfl) ⟨Nat.le_of_ble_eq_true rfl, Nat.le_of_ble_eq_true rfl⟩ d_MD_explicit_341 (fun u341 H locs hp341 hI => ?_)
                have hI : CI g A s (mw g ad (va_up (va_up (va_up (va_up (va_up ar 15 za) 16 zb) 17 zz) 12 (upd (upd (xlv (ar 9) (ar 13) b pe base (ar 12) d) (b + d) (-1)) (b + d) (nI l2))) 10 (upd (upd (xkdm (ar 9) (ar 13) b pe base (ar 10) d) (b + d) (ar 9 (b + d))) (b + d) (if o2 < 0 then (upd (xkdm (ar 9) (ar 13) b pe base (ar 10) d) (b + d) (ar 9 (b + d))) (b + d) else o2))) (va_up fl 7 (nI (r2.length + 1)))) H locs := hI
                have hX2 : xrun (ar 9) (ar 13) b pe base (d + 1) = ((l2, o2, i2) :: r2, yi, ye, yv) := by show xstep (ar 9) (ar 13) pe (b + d) (xrun (ar 9) (ar 13) b pe base d) = _; rw [hX, eX0]; first | done | (exact hpd)
                have elv : xlev (ar 9 (b + d)) base (xrun (ar 9) (ar 13) b pe base d) = nI l2 := by rw [hX]; unfold xlev; exact (if_neg hng).trans ((if_neg h10n).trans (by unfold xtop; rw [if_pos c276, hpd]; rfl))
                have ekn : xkm (ar 9 (b + d)) (xrun (ar 9) (ar 13) b pe base d) = (if o2 < 0 then ar 9 (b + d) else o2) := by rw [hX]; unfold xkm; exact (if_neg hng).trans ((if_neg h10n).trans (by unfold xtop; rw [if_pos c276, hpd]; rfl))
                refine lv_goto (tgt := 441) hx hb d_MD_explicit_344 (by decide) ?_
                have eL : upd (upd (xlv (ar 9) (ar 13) b pe base (ar 12) d) (b + d) (-1)) (b + d) (nI l2) = xlv (ar 9) (ar 13) b pe base (ar 12) (d + 1) := by show _ = upd _ _ (xlev (ar 9 (b + d)) base (xrun (ar 9) (ar 13) b pe base d)); rw [elv]; first | done | rfl | exact upd_uu
                have eK : upd (upd (xkdm (ar 9) (ar 13) b pe base (ar 10) d) (b + d) (ar 9 (b + d))) (b + d) (if o2 < 0 then (upd (xkdm (ar 9) (ar 13) b pe base (ar 10) d) (b + d) (ar 9 (b + d))) (b + d) else o2) = xkdm (ar 9) (ar 13) b pe base (ar 10) (d + 1) := by show _ = upd _ _ (xkm (ar 9 (b + d)) (xrun (ar 9) (ar 13) b pe base d)); rw [ekn]; first | done | rfl | rw [upd_uu, pk_us]
                have hI := CI.to (w2 := mw g ad (va_up (va_up (va_up (va_up (va_up ar 15 za) 16 zb) 17 zz) 12 (xlv (ar 9) (ar 13) b pe base (ar 12) (d + 1))) 10 (xkdm (ar 9) (ar 13) b pe base (ar 10) (d + 1))) (va_up fl 7 (nI (r2.length + 1)))) hI (by rw [eL, eK]; first | done | rfl)
                refine lv_iinc (v := nI (b + d + 1)) (lv' := [(7, .int (nI (b + d + 1))), (0, .ref (ad 0)), (1, .int (nI b)), (2, .int (nI pe)), (3, .int (nI base)), (8, .int (ar 9 (b + d))), (4, .int (nI yi)), (5, .int (nI ye)), (6, .int (nI yv))]) hx hb d_MD_explicit_441 hl (k := 4) rfl (nI_add _ 1) (by decide) rfl (fun ls hl => ?_)
                refine lv_goto (tgt := 24) hx hb d_MD_explicit_444 (by decide) ?_
                exact ih24 (d + 1) l2 o2 i2 r2 yi ye yv za zb zz (by omega) (by omega) (hX2) (hr2) _ _ _ hI (lv_sub hl [1, 2, 3, 4, 6, 7, 8, 0] rfl)
              refine lv_iload hx hb d_MD_explicit_279 (lv_at hl 4 rfl) ?_
              refine lv_if_le (tgt := 290) hx hb d_MD_explicit_281 (by decide) (fun c281 => ?_) (fun c281 => ?_)
              · have c281 : xi ≤ 0 := (nI_leI (a := xi) (b := 0) (by omega) (by omega)).mp c281
                refine lv_iload hx hb d_MD_explicit_290 (lv_at hl 6 rfl) ?_
                refine lv_if_le (tgt := 338) hx hb d_MD_explicit_292 (by decide) (fun c292 => ?_) (fun c292 => ?_)
                · have c292 : xv ≤ 0 := (nI_leI (a := xv) (b := 0) (by omega) (by omega)).mp c292
                  have hpd9 : xPdi ((lv, ov, ib) :: rs, xi, xe, xv) = ((lv, ov, ib) :: rs, xi, xe, xv) := by unfold xPdi; exact (if_neg (show ¬ 0 < xi by omega)).trans (if_neg (show ¬ 0 < xv by omega))
                  exact L338 lv ov ib rs xi xe xv  (hpd9) (hr) (by omega) _ _ _ hI (lv_sub hl [0, 1, 2, 3, 7, 8, 4, 5, 6] rfl)
                · have c292 : ¬ xv ≤ 0 := fun h => c292 ((nI_leI (a := xv) (b := 0) (by omega) (by omega)).mpr h)
                  have eP9 : xPdi ((lv, ov, ib) :: rs, xi, xe, xv) = (popI ((lv, ov, ib) :: rs), xi, 0, xv - 1) := by unfold xPdi; exact (if_neg (show ¬ 0 < xi by omega)).trans (if_pos (show 0 < xv by omega))
                  refine lv_iconst (v := 0) hx hb d_MD_explicit_295 (by decide) ?_
                  refine lv_istore (lv' := [(5, .int 0), (0, .ref (ad 0)), (1, .int (nI b)), (2, .int (nI pe)), (3, .int (nI base)), (4, .int (nI xi)), (6, .int (nI xv)), (7, .int (nI (b + d))), (8, .int (ar 9 (b + d)))]) hx hb d_MD_explicit_296 hl (by decide) rfl (fun ls hl => ?_)
                  have L298 : ∀ (fu : Nat) (x1 : Nat) (o1 : Int32) (b1 : Bool) (t1 : List XE), t1.length < fu → (xrel za zb zz ((x1, o1, b1) :: t1)) → (popI ((lv, ov, ib) :: rs) = popI ((x1, o1, b1) :: t1)) → (t1.length ≤ 125) → (0 < isoN ((x1, o1, b1) :: t1)) → (botOK ((x1, o1, b1) :: t1)) → ∀ (H : Heap) (locs : List Loc) (ls : Array Slot), CI g A s (mw g ad (va_up (va_up (va_up (va_up (va_up ar 15 za) 16 zb) 17 zz) 12 (upd (xlv (ar 9) (ar 13) b pe base (ar 12) d) (b + d) (-1))) 10 (upd (xkdm (ar 9) (ar 13) b pe base (ar 10) d) (b + d) (ar 9 (b + d)))) (va_up fl 7 (nI (t1.length + 1)))) H locs → lv_has ls 12 [(0, .ref (ad 0)), (1, .int (nI b)), (2, .int (nI pe)), (3, .int (nI base)), (4, .int (nI xi)), (5, .int (nI 0)), (6, .int (nI xv)), (7, .int (nI (b + d))), (8, .int (ar 9 (b + d)))] → W p l e rm_MD_explicit s m args below meth c H locs 0 0 Q (F0 m 298 ls []) := by
                    intro fu
                    induction fu with
                    | zero => intro x1 o1 b1 t1 hm; exact absurd hm (Nat.not_lt_zero _)
                    | succ fu ih298 =>
                      intro x1 o1 b1 t1 hm hr1 hp hl1 hn1 hb1 H locs ls hI hl
                      refine lv_aload_n hx hb d_MD_explicit_298 rfl (lv_at hl 0 rfl) ?_
                      refine g_MD_58 M hI d_MD_explicit_299 ?_
                      refine lv_aload_n hx hb d_MD_explicit_302 rfl (lv_at hl 0 rfl) ?_
                      refine g_MD_129 M hI d_MD_explicit_303 ?_
                      refine q_as (y := nI (t1.length + 1)) rfl ?_
                      refine lv_iconst (v := 1) hx hb d_MD_explicit_306 (by decide) ?_
                      refine lv_isub hx hb d_MD_explicit_307 ?_
                      refine q_as (y := nI t1.length) (nI_pred _) ?_
                      refine bl_17 M hI t1.length rfl (by omega) d_MD_explicit_308 ?_
                      refine q_as (y := if b1 = true then 1 else 0) (hr1.2.2.1) ?_
                      refine lv_if_ne (tgt := 325) hx hb d_MD_explicit_309 (by decide) (fun c309 => ?_) (fun c309 => ?_)
                      · have c309 := z_true c309
                        obtain ⟨y, t2, ht2⟩ := isoN_pop hb1 hn1
                        have hl4 : t1.length = t2.length + 1 := by rw [ht2]; rfl
                        have hl9 : t2.length ≤ 125 := by omega
                        have hr9 : xrel za zb zz ((y.1, y.2.1, y.2.2) :: t2) := (ht2 ▸ hr1).2.2.2
                        have hpd9 : xPdi ((lv, ov, ib) :: rs, xi, xe, xv) = ((y.1, y.2.1, y.2.2) :: t2, xi, 0, xv - 1) := by rw [eP9, hp, ht2]; simp only [popI]; rw [if_pos c309]
                        refine lv_aload_n hx hb d_MD_explicit_325 rfl (lv_at hl 0 rfl) ?_
                        refine lv_dup hx hb d_MD_explicit_326 rfl ?_
                        refine g_MD_129 M hI d_MD_explicit_327 ?_
                        refine q_as (y := nI (t1.length + 1)) rfl ?_
                        refine lv_iconst (v := 1) hx hb d_MD_explicit_330 (by decide) ?_
                        refine lv_isub hx hb d_MD_explicit_331 ?_
                        refine q_as (y := nI (t2.length + 1)) (by rw [hl4]; exact nI_pred _) ?_
                        refine p_MD_129 M hI d_MD_explicit_332 (fun H locs hI => ?_)
                        have hI : CI g A s (mw g ad (va_up (va_up (va_up (va_up (va_up ar 15 za) 16 zb) 17 zz) 12 (upd (xlv (ar 9) (ar 13) b pe base (ar 12) d) (b + d) (-1))) 10 (upd (xkdm (ar 9) (ar 13) b pe base (ar 10) d) (b + d) (ar 9 (b + d)))) (va_up fl 7 (nI (t2.length + 1)))) H locs := hI
                        refine lv_iinc (v := nI (xv - 1)) (lv' := [(6, .int (nI (xv - 1))), (0, .ref (ad 0)), (1, .int (nI b)), (2, .int (nI pe)), (3, .int (nI base)), (4, .int (nI xi)), (5, .int (nI 0)), (7, .int (nI (b + d))), (8, .int (ar 9 (b + d)))]) hx hb d_MD_explicit_335 hl (k := 6) rfl (nI_decp (by omega)) (by decide) rfl (fun ls hl => ?_)
                        exact L338 y.1 y.2.1 y.2.2 t2 xi 0 (xv - 1)  (hpd9) (hr9) (hl9) _ _ _ hI (lv_sub hl [1, 2, 3, 4, 7, 8, 5, 6, 0] rfl)
                      · have c309 := z_false c309
                        obtain ⟨y, t2, ht2⟩ := isoN_pop hb1 hn1
                        have hl4 : t1.length = t2.length + 1 := by rw [ht2]; rfl
                        have hr3 : xrel za zb zz ((y.1, y.2.1, y.2.2) :: t2) := (ht2 ▸ hr1).2.2.2
                        have hp3 : popI ((lv, ov, ib) :: rs) = popI ((y.1, y.2.1, y.2.2) :: t2) := by rw [hp, ht2]; simp only [popI]; rw [if_neg (by rw [c309]; decide)]
                        have hn3 : 0 < isoN ((y.1, y.2.1, y.2.2) :: t2) := by rw [isoN_f c309, ht2] at hn1; exact hn1
                        have hb3 : botOK ((y.1, y.2.1, y.2.2) :: t2) := by rw [ht2] at hb1; exact hb1
                        refine lv_aload_n hx hb d_MD_explicit_312 rfl (lv_at hl 0 rfl) ?_
                        refine lv_dup hx hb d_MD_explicit_313 rfl ?_
                        refine g_MD_129 M hI d_MD_explicit_314 ?_
                        refine q_as (y := nI (t1.length + 1)) rfl ?_
                        refine lv_iconst (v := 1) hx hb d_MD_explicit_317 (by decide) ?_
                        refine lv_isub hx hb d_MD_explicit_318 ?_
                        refine q_as (y := nI (t2.length + 1)) (by rw [hl4]; exact nI_pred _) ?_
                        refine p_MD_129 M hI d_MD_explicit_319 (fun H locs hI => ?_)
                        have hI : CI g A s (mw g ad (va_up (va_up (va_up (va_up (va_up ar 15 za) 16 zb) 17 zz) 12 (upd (xlv (ar 9) (ar 13) b pe base (ar 12) d) (b + d) (-1))) 10 (upd (xkdm (ar 9) (ar 13) b pe base (ar 10) d) (b + d) (ar 9 (b + d)))) (va_up fl 7 (nI (t2.length + 1)))) H locs := hI
                        refine lv_goto (tgt := 298) hx hb d_MD_explicit_322 (by decide) ?_
                        exact ih298 y.1 y.2.1 y.2.2 t2 (by omega) (hr3) (hp3) (by omega) (hn3) (hb3) _ _ _ hI (lv_sub hl [0, 1, 2, 3, 4, 5, 6, 7, 8] rfl)
                  have hI := CI.to (w2 := mw g ad (va_up (va_up (va_up (va_up (va_up ar 15 za) 16 zb) 17 zz) 12 (upd (xlv (ar 9) (ar 13) b pe base (ar 12) d) (b + d) (-1))) 10 (upd (xkdm (ar 9) (ar 13) b pe base (ar 10) d) (b + d) (ar 9 (b + d)))) (va_up fl 7 (nI (rs.length + 1)))) hI (by rfl)
                  exact L298 _ lv ov ib rs (Nat.lt_succ_self _) (hr) (rfl) (by omega) (by have := hiv.1; simp only at this; omega) (hiv.2.1) _ _ _ hI (lv_sub hl [1, 2, 3, 4, 5, 0, 6, 7, 8] rfl)
              · have c281 : ¬ xi ≤ 0 := fun h => c281 ((nI_leI (a := xi) (b := 0) (by omega) (by omega)).mpr h)
                have hpd9 : xPdi ((lv, ov, ib) :: rs, xi, xe, xv) = ((lv, ov, ib) :: rs, xi - 1, xe, xv) := by unfold xPdi; exact if_pos (show 0 < xi by omega)
                refine lv_iinc (v := nI (xi - 1)) (lv' := [(4, .int (nI (xi - 1))), (0, .ref (ad 0)), (1, .int (nI b)), (2, .int (nI pe)), (3, .int (nI base)), (5, .int (nI xe)), (6, .int (nI xv)), (7, .int (nI (b + d))), (8, .int (ar 9 (b + d)))]) hx hb d_MD_explicit_284 hl (k := 4) rfl (nI_decp (by omega)) (by decide) rfl (fun ls hl => ?_)
                refine lv_goto (tgt := 338) hx hb d_MD_explicit_287 (by decide) ?_
                exact L338 lv ov ib rs (xi - 1) xe xv  (hpd9) (hr) (by omega) _ _ _ hI (lv_sub hl [1, 2, 3, 4, 7, 8, 0, 5, 6] rfl)
          · have c161 := bI_ne0.mp c161
            have eX0 : xstep (ar 9) (ar 13) pe (b + d) ((lv, ov, ib) :: rs, xi, xe, xv) = xIso (dirIso (ar 9) (ar 13) (b + d) pe) ((lv, ov, ib) :: rs, xi, xe, xv) := by unfold xstep; exact (if_neg hem).trans (if_pos c161)
            have hng : ¬ xgone (ar 9 (b + d)) := fun z => z.elim hem (fun z => z.elim (k_not (P := isol) c161 isol_18) (k_not (P := isol) c161 isol_9))
            have h10n : ¬ ar 9 (b + d) = 10 := k_not (P := isol) c161 isol_10
            have h22n : ¬ ar 9 (b + d) = 22 := k_not (P := isol) c161 isol_22
            have elv : xlev (ar 9 (b + d)) base (xrun (ar 9) (ar 13) b pe base d) = nI lv := by rw [hX]; unfold xlev; exact (if_neg hng).trans ((if_neg h10n).trans (by unfold xtop; rw [if_neg h22n]; rfl))
            have ekn : xkm (ar 9 (b + d)) (xrun (ar 9) (ar 13) b pe base d) = (if ov < 0 then ar 9 (b + d) else ov) := by rw [hX]; unfold xkm; exact (if_neg hng).trans ((if_neg h10n).trans (by unfold xtop; rw [if_neg h22n]; rfl))
            have hmq := hmt (b + d) (by omega) (by omega) c161
            have hmo := mOf_ok (fst := ar 9) (pe - (b + d + 1)) (b + d + 1) 1
            rw [← hmq] at hmo
            have L219 : ∀ (H : Heap) (locs : List Loc) (ls : Array Slot), CI g A s (mw g ad (va_up (va_up (va_up (va_up (va_up ar 15 za) 16 zb) 17 zz) 12 (upd (xlv (ar 9) (ar 13) b pe base (ar 12) d) (b + d) (-1))) 10 (upd (xkdm (ar 9) (ar 13) b pe base (ar 10) d) (b + d) (ar 9 (b + d)))) (va_up fl 7 (nI (rs.length + 1)))) H locs → lv_has ls 12 [(0, .ref (ad 0)), (1, .int (nI b)), (2, .int (nI pe)), (3, .int (nI base)), (4, .int (nI xi)), (5, .int (nI xe)), (6, .int (nI xv)), (7, .int (nI (b + d))), (8, .int (ar 9 (b + d)))] → W p l e rm_MD_explicit s m args below meth c H locs 0 0 Q (F0 m 219 ls [.int (dirIso (ar 9) (ar 13) (b + d) pe)]) := by
              intro   H locs ls hI hl
              refine lv_istore (lv' := [(10, .int (dirIso (ar 9) (ar 13) (b + d) pe)), (0, .ref (ad 0)), (1, .int (nI b)), (2, .int (nI pe)), (3, .int (nI base)), (4, .int (nI xi)), (5, .int (nI xe)), (6, .int (nI xv)), (7, .int (nI (b + d))), (8, .int (ar 9 (b + d)))]) hx hb d_MD_explicit_219 hl (by decide) rfl (fun ls hl => ?_)
              refine lv_aload_n hx hb d_MD_explicit_221 rfl (lv_at hl 1 rfl) ?_
              refine lv_iload hx hb d_MD_explicit_222 (lv_at hl 8 rfl) ?_
              refine q_callvV [.int (nI (b + d))] M hI (c_MD_settle l g ad (va_up (va_up (va_up (va_up (va_up ar 15 za) 16 zb) 17 zz) 12 (upd (xlv (ar 9) (ar 13) b pe base (ar 12) d) (b + d) (-1))) 10 (upd (xkdm (ar 9) (ar 13) b pe base (ar 10) d) (b + d) (ar 9 (b + d)))) (va_up fl 7 (nI (rs.length + 1))) (b + d) lv ov ib rs (rfl) (hr) (by omega) (by omega)) ok_MD_settle m5_134 m5_136 ms_58 0 rfl rfl rfl rfl hl.1 ⟨rfl, rfl⟩ ⟨Nat.le_of_ble_eq_true rfl, Nat.le_of_ble_eq_true rfl⟩ (Nat.le_of_ble_eq_true rfl) ⟨Nat.le_of_ble_eq_true rfl, Nat.le_of_ble_eq_true rfl⟩ d_MD_explicit_224 (fun u224 H locs hp224 hI => ?_)
              have hI : CI g A s (mw g ad (va_up (va_up (va_up (va_up (va_up ar 15 za) 16 zb) 17 zz) 12 (upd (upd (xlv (ar 9) (ar 13) b pe base (ar 12) d) (b + d) (-1)) (b + d) (nI lv))) 10 (upd (upd (xkdm (ar 9) (ar 13) b pe base (ar 10) d) (b + d) (ar 9 (b + d))) (b + d) (if ov < 0 then (upd (xkdm (ar 9) (ar 13) b pe base (ar 10) d) (b + d) (ar 9 (b + d))) (b + d) else ov))) (va_up fl 7 (nI (rs.length + 1)))) H locs := hI
              refine lv_aload_n hx hb d_MD_explicit_227 rfl (lv_at hl 1 rfl) ?_
              refine lv_iload hx hb d_MD_explicit_228 (lv_at hl 0 rfl) ?_
              refine q_calliV [.int (dirIso (ar 9) (ar 13) (b + d) pe)] M hI (c_MD_next l g ad (va_up (va_up (va_up (va_up (va_up ar 15 za) 16 zb) 17 zz) 12 (upd (upd (xlv (ar 9) (ar 13) b pe base (ar 12) d) (b + d) (-1)) (b + d) (nI lv))) 10 (upd (upd (xkdm (ar 9) (ar 13) b pe base (ar 10) d) (b + d) (ar 9 (b + d))) (b + d) (if ov < 0 then (upd (xkdm (ar 9) (ar 13) b pe base (ar 10) d) (b + d) (ar 9 (b + d))) (b + d) else ov))) (va_up fl 7 (nI (rs.length + 1))) (dirIso (ar 9) (ar 13) (b + d) pe) lv ov ib rs (rfl) (hr) (by omega) (by omega) (dirIso_01)) ok_MD_next m5_126 m5_128 ms_56 0 rfl rfl rfl rfl hl.1 ⟨rfl, rfl⟩ ⟨Nat.le_of_ble_eq_true rfl, Nat.le_of_ble_eq_true rfl⟩ (Nat.le_of_ble_eq_true rfl) ⟨Nat.le_of_ble_eq_true rfl, Nat.le_of_ble_eq_true rfl⟩ d_MD_explicit_230 (fun r230 u230 H locs hp230 hI => ?_)
              refine q_as (y := nI (nxt lv (dirIso (ar 9) (ar 13) (b + d) pe))) hp230 ?_
              have hng9 := nxt_gt lv (dirIso (ar 9) (ar 13) (b + d) pe)
              refine lv_istore (lv' := [(11, .int (nI (nxt lv (dirIso (ar 9) (ar 13) (b + d) pe)))), (10, .int (dirIso (ar 9) (ar 13) (b + d) pe)), (0, .ref (ad 0)), (1, .int (nI b)), (2, .int (nI pe)), (3, .int (nI base)), (4, .int (nI xi)), (5, .int (nI xe)), (6, .int (nI xv)), (7, .int (nI (b + d))), (8, .int (ar 9 (b + d)))]) hx hb d_MD_explicit_233 hl (by decide) rfl (fun ls hl => ?_)
              refine lv_iload hx hb d_MD_explicit_235 (lv_at hl 0 rfl) ?_
              refine lv_bipush (v := 125) hx hb d_MD_explicit_237 (by decide) ?_
              refine lv_icmp_gt (tgt := 266) hx hb d_MD_explicit_239 (by decide) (fun c239 => ?_) (fun c239 => ?_)
              · have c239 : 125 < nxt lv (dirIso (ar 9) (ar 13) (b + d) pe) := (nI_ltI (a := 125) (b := nxt lv (dirIso (ar 9) (ar 13) (b + d) pe)) (by omega) (by omega)).mp c239
                have hnc : ¬ canO (nxt lv (dirIso (ar 9) (ar 13) (b + d) pe)) xi xe := fun z => by have := z.1; omega
                have hX2 : xrun (ar 9) (ar 13) b pe base (d + 1) = ((lv, ov, ib) :: rs, xi + 1, xe, xv) := by show xstep (ar 9) (ar 13) pe (b + d) (xrun (ar 9) (ar 13) b pe base d) = _; rw [hX, eX0]; first | done | (unfold xIso; exact if_neg hnc)
                have hr2 := hr
                refine lv_iinc (v := nI (xi + 1)) (lv' := [(4, .int (nI (xi + 1))), (11, .int (nI (nxt lv (dirIso (ar 9) (ar 13) (b + d) pe)))), (10, .int (dirIso (ar 9) (ar 13) (b + d) pe)), (0, .ref (ad 0)), (1, .int (nI b)), (2, .int (nI pe)), (3, .int (nI base)), (5, .int (nI xe)), (6, .int (nI xv)), (7, .int (nI (b + d))), (8, .int (ar 9 (b + d)))]) hx hb d_MD_explicit_266 hl (k := 6) rfl (nI_add _ 1) (by decide) rfl (fun ls hl => ?_)
                refine lv_goto (tgt := 441) hx hb d_MD_explicit_269 (by decide) ?_
                have eL : upd (upd (xlv (ar 9) (ar 13) b pe base (ar 12) d) (b + d) (-1)) (b + d) (nI lv) = xlv (ar 9) (ar 13) b pe base (ar 12) (d + 1) := by show _ = upd _ _ (xlev (ar 9 (b + d)) base (xrun (ar 9) (ar 13) b pe base d)); rw [elv]; first | done | rfl | exact upd_uu
                have eK : upd (upd (xkdm (ar 9) (ar 13) b pe base (ar 10) d) (b + d) (ar 9 (b + d))) (b + d) (if ov < 0 then (upd (xkdm (ar 9) (ar 13) b pe base (ar 10) d) (b + d) (ar 9 (b + d))) (b + d) else ov) = xkdm (ar 9) (ar 13) b pe base (ar 10) (d + 1) := by show _ = upd _ _ (xkm (ar 9 (b + d)) (xrun (ar 9) (ar 13) b pe base d)); rw [ekn]; first | done | rfl | rw [upd_uu, pk_us]
                have hI := CI.to (w2 := mw g ad (va_up (va_up (va_up (va_up (va_up ar 15 za) 16 zb) 17 zz) 12 (xlv (ar 9) (ar 13) b pe base (ar 12) (d + 1))) 10 (xkdm (ar 9) (ar 13) b pe base (ar 10) (d + 1))) (va_up fl 7 (nI (rs.length + 1)))) hI (by rw [eL, eK]; first | done | rfl)
                refine lv_iinc (v := nI (b + d + 1)) (lv' := [(7, .int (nI (b + d + 1))), (4, .int (nI (xi + 1))), (11, .int (nI (nxt lv (dirIso (ar 9) (ar 13) (b + d) pe)))), (10, .int (dirIso (ar 9) (ar 13) (b + d) pe)), (0, .ref (ad 0)), (1, .int (nI b)), (2, .int (nI pe)), (3, .int (nI base)), (5, .int (nI xe)), (6, .int (nI xv)), (8, .int (ar 9 (b + d)))]) hx hb d_MD_explicit_441 hl (k := 9) rfl (nI_add _ 1) (by decide) rfl (fun ls hl => ?_)
                refine lv_goto (tgt := 24) hx hb d_MD_explicit_444 (by decide) ?_
                exact ih24 (d + 1) lv ov ib rs (xi + 1) xe xv za zb zz (by omega) (by omega) (hX2) (hr2) _ _ _ hI (lv_sub hl [4, 5, 6, 7, 1, 8, 9, 0] rfl)
              · have c239 : ¬ 125 < nxt lv (dirIso (ar 9) (ar 13) (b + d) pe) := fun h => c239 ((nI_ltI (a := 125) (b := nxt lv (dirIso (ar 9) (ar 13) (b + d) pe)) (by omega) (by omega)).mpr h)
                refine lv_iload hx hb d_MD_explicit_242 (lv_at hl 6 rfl) ?_
                refine lv_if_ne (tgt := 266) hx hb d_MD_explicit_244 (by decide) (fun c244 => ?_) (fun c244 => ?_)
                · have c244 : ¬ xi = 0 := fun h => c244 ((nI_eq (a := xi) (b := 0) (by omega) (by omega)).mpr h)
                  have hnc : ¬ canO (nxt lv (dirIso (ar 9) (ar 13) (b + d) pe)) xi xe := fun z => c244 z.2.1
                  have hX2 : xrun (ar 9) (ar 13) b pe base (d + 1) = ((lv, ov, ib) :: rs, xi + 1, xe, xv) := by show xstep (ar 9) (ar 13) pe (b + d) (xrun (ar 9) (ar 13) b pe base d) = _; rw [hX, eX0]; first | done | (unfold xIso; exact if_neg hnc)
                  have hr2 := hr
                  refine lv_iinc (v := nI (xi + 1)) (lv' := [(4, .int (nI (xi + 1))), (11, .int (nI (nxt lv (dirIso (ar 9) (ar 13) (b + d) pe)))), (10, .int (dirIso (ar 9) (ar 13) (b + d) pe)), (0, .ref (ad 0)), (1, .int (nI b)), (2, .int (nI pe)), (3, .int (nI base)), (5, .int (nI xe)), (6, .int (nI xv)), (7, .int (nI (b + d))), (8, .int (ar 9 (b + d)))]) hx hb d_MD_explicit_266 hl (k := 6) rfl (nI_add _ 1) (by decide) rfl (fun ls hl => ?_)
                  refine lv_goto (tgt := 441) hx hb d_MD_explicit_269 (by decide) ?_
                  have eL : upd (upd (xlv (ar 9) (ar 13) b pe base (ar 12) d) (b + d) (-1)) (b + d) (nI lv) = xlv (ar 9) (ar 13) b pe base (ar 12) (d + 1) := by show _ = upd _ _ (xlev (ar 9 (b + d)) base (xrun (ar 9) (ar 13) b pe base d)); rw [elv]; first | done | rfl | exact upd_uu
                  have eK : upd (upd (xkdm (ar 9) (ar 13) b pe base (ar 10) d) (b + d) (ar 9 (b + d))) (b + d) (if ov < 0 then (upd (xkdm (ar 9) (ar 13) b pe base (ar 10) d) (b + d) (ar 9 (b + d))) (b + d) else ov) = xkdm (ar 9) (ar 13) b pe base (ar 10) (d + 1) := by show _ = upd _ _ (xkm (ar 9 (b + d)) (xrun (ar 9) (ar 13) b pe base d)); rw [ekn]; first | done | rfl | rw [upd_uu, pk_us]
                  have hI := CI.to (w2 := mw g ad (va_up (va_up (va_up (va_up (va_up ar 15 za) 16 zb) 17 zz) 12 (xlv (ar 9) (ar 13) b pe base (ar 12) (d + 1))) 10 (xkdm (ar 9) (ar 13) b pe base (ar 10) (d + 1))) (va_up fl 7 (nI (rs.length + 1)))) hI (by rw [eL, eK]; first | done | rfl)
                  refine lv_iinc (v := nI (b + d + 1)) (lv' := [(7, .int (nI (b + d + 1))), (4, .int (nI (xi + 1))), (11, .int (nI (nxt lv (dirIso (ar 9) (ar 13) (b + d) pe)))), (10, .int (dirIso (ar 9) (ar 13) (b + d) pe)), (0, .ref (ad 0)), (1, .int (nI b)), (2, .int (nI pe)), (3, .int (nI base)), (5, .int (nI xe)), (6, .int (nI xv)), (8, .int (ar 9 (b + d)))]) hx hb d_MD_explicit_441 hl (k := 9) rfl (nI_add _ 1) (by decide) rfl (fun ls hl => ?_)
                  refine lv_goto (tgt := 24) hx hb d_MD_explicit_444 (by decide) ?_
                  exact ih24 (d + 1) lv ov ib rs (xi + 1) xe xv za zb zz (by omega) (by omega) (hX2) (hr2) _ _ _ hI (lv_sub hl [4, 5, 6, 7, 1, 8, 9, 0] rfl)
                · have c244 : xi = 0 := (nI_eq (a := xi) (b := 0) (by omega) (by omega)).mp c244
                  refine lv_iload hx hb d_MD_explicit_247 (lv_at hl 7 rfl) ?_
                  refine lv_if_ne (tgt := 266) hx hb d_MD_explicit_249 (by decide) (fun c249 => ?_) (fun c249 => ?_)
                  · have c249 : ¬ xe = 0 := fun h => c249 ((nI_eq (a := xe) (b := 0) (by omega) (by omega)).mpr h)
                    have hnc : ¬ canO (nxt lv (dirIso (ar 9) (ar 13) (b + d) pe)) xi xe := fun z => c249 z.2.2
                    have hX2 : xrun (ar 9) (ar 13) b pe base (d + 1) = ((lv, ov, ib) :: rs, xi + 1, xe, xv) := by show xstep (ar 9) (ar 13) pe (b + d) (xrun (ar 9) (ar 13) b pe base d) = _; rw [hX, eX0]; first | done | (unfold xIso; exact if_neg hnc)
                    have hr2 := hr
                    refine lv_iinc (v := nI (xi + 1)) (lv' := [(4, .int (nI (xi + 1))), (11, .int (nI (nxt lv (dirIso (ar 9) (ar 13) (b + d) pe)))), (10, .int (dirIso (ar 9) (ar 13) (b + d) pe)), (0, .ref (ad 0)), (1, .int (nI b)), (2, .int (nI pe)), (3, .int (nI base)), (5, .int (nI xe)), (6, .int (nI xv)), (7, .int (nI (b + d))), (8, .int (ar 9 (b + d)))]) hx hb d_MD_explicit_266 hl (k := 6) rfl (nI_add _ 1) (by decide) rfl (fun ls hl => ?_)
                    refine lv_goto (tgt := 441) hx hb d_MD_explicit_269 (by decide) ?_
                    have eL : upd (upd (xlv (ar 9) (ar 13) b pe base (ar 12) d) (b + d) (-1)) (b + d) (nI lv) = xlv (ar 9) (ar 13) b pe base (ar 12) (d + 1) := by show _ = upd _ _ (xlev (ar 9 (b + d)) base (xrun (ar 9) (ar 13) b pe base d)); rw [elv]; first | done | rfl | exact upd_uu
                    have eK : upd (upd (xkdm (ar 9) (ar 13) b pe base (ar 10) d) (b + d) (ar 9 (b + d))) (b + d) (if ov < 0 then (upd (xkdm (ar 9) (ar 13) b pe base (ar 10) d) (b + d) (ar 9 (b + d))) (b + d) else ov) = xkdm (ar 9) (ar 13) b pe base (ar 10) (d + 1) := by show _ = upd _ _ (xkm (ar 9 (b + d)) (xrun (ar 9) (ar 13) b pe base d)); rw [ekn]; first | done | rfl | rw [upd_uu, pk_us]
                    have hI := CI.to (w2 := mw g ad (va_up (va_up (va_up (va_up (va_up ar 15 za) 16 zb) 17 zz) 12 (xlv (ar 9) (ar 13) b pe base (ar 12) (d + 1))) 10 (xkdm (ar 9) (ar 13) b pe base (ar 10) (d + 1))) (va_up fl 7 (nI (rs.length + 1)))) hI (by rw [eL, eK]; first | done | rfl)
                    refine lv_iinc (v := nI (b + d + 1)) (lv' := [(7, .int (nI (b + d + 1))), (4, .int (nI (xi + 1))), (11, .int (nI (nxt lv (dirIso (ar 9) (ar 13) (b + d) pe)))), (10, .int (dirIso (ar 9) (ar 13) (b + d) pe)), (0, .ref (ad 0)), (1, .int (nI b)), (2, .int (nI pe)), (3, .int (nI base)), (5, .int (nI xe)), (6, .int (nI xv)), (8, .int (ar 9 (b + d)))]) hx hb d_MD_explicit_441 hl (k := 9) rfl (nI_add _ 1) (by decide) rfl (fun ls hl => ?_)
                    refine lv_goto (tgt := 24) hx hb d_MD_explicit_444 (by decide) ?_
                    exact ih24 (d + 1) lv ov ib rs (xi + 1) xe xv za zb zz (by omega) (by omega) (hX2) (hr2) _ _ _ hI (lv_sub hl [4, 5, 6, 7, 1, 8, 9, 0] rfl)
                  · have c249 : xe = 0 := (nI_eq (a := xe) (b := 0) (by omega) (by omega)).mp c249
                    have hc : canO (nxt lv (dirIso (ar 9) (ar 13) (b + d) pe)) xi xe := ⟨by omega, c244, c249⟩
                    refine lv_iinc (v := nI (xv + 1)) (lv' := [(6, .int (nI (xv + 1))), (11, .int (nI (nxt lv (dirIso (ar 9) (ar 13) (b + d) pe)))), (10, .int (dirIso (ar 9) (ar 13) (b + d) pe)), (0, .ref (ad 0)), (1, .int (nI b)), (2, .int (nI pe)), (3, .int (nI base)), (4, .int (nI xi)), (5, .int (nI xe)), (7, .int (nI (b + d))), (8, .int (ar 9 (b + d)))]) hx hb d_MD_explicit_252 hl (k := 8) rfl (nI_add _ 1) (by decide) rfl (fun ls hl => ?_)
                    refine lv_aload_n hx hb d_MD_explicit_255 rfl (lv_at hl 3 rfl) ?_
                    refine lv_iload hx hb d_MD_explicit_256 (lv_at hl 1 rfl) ?_
                    refine lv_iconst (v := (-1)) hx hb d_MD_explicit_258 (by decide) ?_
                    refine lv_iconst (v := 1) hx hb d_MD_explicit_259 (by decide) ?_
                    refine q_callvV [.int (nI (nxt lv (dirIso (ar 9) (ar 13) (b + d) pe))), .int (-1), .int 1] M hI (c_MD_push l g ad (va_up (va_up (va_up (va_up (va_up ar 15 za) 16 zb) 17 zz) 12 (upd (upd (xlv (ar 9) (ar 13) b pe base (ar 12) d) (b + d) (-1)) (b + d) (nI lv))) 10 (upd (upd (xkdm (ar 9) (ar 13) b pe base (ar 10) d) (b + d) (ar 9 (b + d))) (b + d) (if ov < 0 then (upd (xkdm (ar 9) (ar 13) b pe base (ar 10) d) (b + d) (ar 9 (b + d))) (b + d) else ov))) (va_up fl 7 (nI (rs.length + 1))) (nxt lv (dirIso (ar 9) (ar 13) (b + d) pe)) (-1) 1 ((lv, ov, ib) :: rs) (rfl) (by simp only [List.length_cons]; omega) (rfl)) ok_MD_push m5_122 m5_124 ms_55 0 rfl rfl rfl rfl hl.1 ⟨rfl, rfl⟩ ⟨Nat.le_of_ble_eq_true rfl, Nat.le_of_ble_eq_true rfl⟩ (Nat.le_of_ble_eq_true rfl) ⟨Nat.le_of_ble_eq_true rfl, Nat.le_of_ble_eq_true rfl⟩ d_MD_explicit_260 (fun u260 H locs hp260 hI => ?_)
                    have hI : CI g A s (mw g ad (va_up (va_up (va_up (va_up (va_up ar 12 (upd (upd (xlv (ar 9) (ar 13) b pe base (ar 12) d) (b + d) (-1)) (b + d) (nI lv))) 10 (upd (upd (xkdm (ar 9) (ar 13) b pe base (ar 10) d) (b + d) (ar 9 (b + d))) (b + d) (if ov < 0 then (upd (xkdm (ar 9) (ar 13) b pe base (ar 10) d) (b + d) (ar 9 (b + d))) (b + d) else ov))) 15 (upd za ((lv, ov, ib) :: rs).length (nI (nxt lv (dirIso (ar 9) (ar 13) (b + d) pe))))) 16 (upd zb ((lv, ov, ib) :: rs).length (-1))) 17 (upd zz ((lv, ov, ib) :: rs).length 1)) (va_up fl 7 (nI (((lv, ov, ib) :: rs).length + 1)))) H locs := hI
                    have hX2 : xrun (ar 9) (ar 13) b pe base (d + 1) = ((nxt lv (dirIso (ar 9) (ar 13) (b + d) pe), -1, true) :: (lv, ov, ib) :: rs, xi, xe, xv + 1) := by show xstep (ar 9) (ar 13) pe (b + d) (xrun (ar 9) (ar 13) b pe base d) = _; rw [hX, eX0]; first | done | (unfold xIso; exact if_pos hc)
                    have hr2 : xrel (upd za ((lv, ov, ib) :: rs).length (nI (nxt lv (dirIso (ar 9) (ar 13) (b + d) pe)))) (upd zb ((lv, ov, ib) :: rs).length (-1)) (upd zz ((lv, ov, ib) :: rs).length 1) ((nxt lv (dirIso (ar 9) (ar 13) (b + d) pe), -1, true) :: (lv, ov, ib) :: rs) := xrel_push (x := (nxt lv (dirIso (ar 9) (ar 13) (b + d) pe), -1, true)) hr
                    refine lv_goto (tgt := 269) hx hb d_MD_explicit_263 (by decide) ?_
                    refine lv_goto (tgt := 441) hx hb d_MD_explicit_269 (by decide) ?_
                    have eL : upd (upd (xlv (ar 9) (ar 13) b pe base (ar 12) d) (b + d) (-1)) (b + d) (nI lv) = xlv (ar 9) (ar 13) b pe base (ar 12) (d + 1) := by show _ = upd _ _ (xlev (ar 9 (b + d)) base (xrun (ar 9) (ar 13) b pe base d)); rw [elv]; first | done | rfl | exact upd_uu
                    have eK : upd (upd (xkdm (ar 9) (ar 13) b pe base (ar 10) d) (b + d) (ar 9 (b + d))) (b + d) (if ov < 0 then (upd (xkdm (ar 9) (ar 13) b pe base (ar 10) d) (b + d) (ar 9 (b + d))) (b + d) else ov) = xkdm (ar 9) (ar 13) b pe base (ar 10) (d + 1) := by show _ = upd _ _ (xkm (ar 9 (b + d)) (xrun (ar 9) (ar 13) b pe base d)); rw [ekn]; first | done | rfl | rw [upd_uu, pk_us]
                    have hI := CI.to (w2 := mw g ad (va_up (va_up (va_up (va_up (va_up ar 15 (upd za ((lv, ov, ib) :: rs).length (nI (nxt lv (dirIso (ar 9) (ar 13) (b + d) pe))))) 16 (upd zb ((lv, ov, ib) :: rs).length (-1))) 17 (upd zz ((lv, ov, ib) :: rs).length 1)) 12 (xlv (ar 9) (ar 13) b pe base (ar 12) (d + 1))) 10 (xkdm (ar 9) (ar 13) b pe base (ar 10) (d + 1))) (va_up fl 7 (nI (((lv, ov, ib) :: rs).length + 1)))) hI (by rw [eL, eK]; first | done | rfl)
                    refine lv_iinc (v := nI (b + d + 1)) (lv' := [(7, .int (nI (b + d + 1))), (6, .int (nI (xv + 1))), (11, .int (nI (nxt lv (dirIso (ar 9) (ar 13) (b + d) pe)))), (10, .int (dirIso (ar 9) (ar 13) (b + d) pe)), (0, .ref (ad 0)), (1, .int (nI b)), (2, .int (nI pe)), (3, .int (nI base)), (4, .int (nI xi)), (5, .int (nI xe)), (8, .int (ar 9 (b + d)))]) hx hb d_MD_explicit_441 hl (k := 9) rfl (nI_add _ 1) (by decide) rfl (fun ls hl => ?_)
                    refine lv_goto (tgt := 24) hx hb d_MD_explicit_444 (by decide) ?_
                    exact ih24 (d + 1) (nxt lv (dirIso (ar 9) (ar 13) (b + d) pe)) (-1) true ((lv, ov, ib) :: rs) xi xe (xv + 1) (upd za ((lv, ov, ib) :: rs).length (nI (nxt lv (dirIso (ar 9) (ar 13) (b + d) pe)))) (upd zb ((lv, ov, ib) :: rs).length (-1)) (upd zz ((lv, ov, ib) :: rs).length 1) (by omega) (by omega) (hX2) (hr2) _ _ _ hI (lv_sub hl [4, 5, 6, 7, 8, 9, 1, 0] rfl)
            refine lv_aload_n hx hb d_MD_explicit_164 rfl (lv_at hl 0 rfl) ?_
            refine g_MD_46 M hI d_MD_explicit_165 ?_
            refine lv_iload hx hb d_MD_explicit_168 (lv_at hl 7 rfl) ?_
            refine bl_13 M hI (b + d) rfl (by omega) d_MD_explicit_170 ?_
            refine q_as (y := ar 13 (b + d)) rfl ?_
            refine lv_if_ge (tgt := 178) hx hb d_MD_explicit_171 (by decide) (fun c171 => ?_) (fun c171 => ?_)
            · obtain ⟨j9, j1, j2, j3⟩ := hmo.resolve_left (fun z => by rw [z] at c171; exact absurd c171 (by decide))
              have hE : (if ar 13 (b + d) = -1 then pe else (ar 13 (b + d)).toNatClampNeg) = j9 := by rw [if_neg (by rw [j3]; exact m1_ne (by omega)), j3, nI_clamp (by omega)]
              have hE9 : (if ar 13 (b + d) = -1 then pe else (ar 13 (b + d)).toNatClampNeg) ≤ pe := by rw [hE]; omega
              refine lv_aload_n hx hb d_MD_explicit_178 rfl (lv_at hl 0 rfl) ?_
              refine g_MD_46 M hI d_MD_explicit_179 ?_
              refine lv_iload hx hb d_MD_explicit_182 (lv_at hl 7 rfl) ?_
              refine bl_13 M hI (b + d) rfl (by omega) d_MD_explicit_184 ?_
              refine q_as (y := nI (if ar 13 (b + d) = -1 then pe else (ar 13 (b + d)).toNatClampNeg)) (by rw [hE]; exact j3) ?_
              refine lv_istore (lv' := [(9, .int (nI (if ar 13 (b + d) = -1 then pe else (ar 13 (b + d)).toNatClampNeg))), (0, .ref (ad 0)), (1, .int (nI b)), (2, .int (nI pe)), (3, .int (nI base)), (4, .int (nI xi)), (5, .int (nI xe)), (6, .int (nI xv)), (7, .int (nI (b + d))), (8, .int (ar 9 (b + d)))]) hx hb d_MD_explicit_185 hl (by decide) rfl (fun ls hl => ?_)
              refine lv_iload hx hb d_MD_explicit_187 (lv_at hl 9 rfl) ?_
              refine lv_bipush (v := 20) hx hb d_MD_explicit_189 (by decide) ?_
              refine lv_icmp_eq (tgt := 214) hx hb d_MD_explicit_191 (by decide) (fun c191 => ?_) (fun c191 => ?_)
              · have hdi : dirIso (ar 9) (ar 13) (b + d) pe = 1 := by unfold dirIso; rw [if_neg (by rw [c191]; decide), if_pos c191]
                refine lv_iconst (v := 1) hx hb d_MD_explicit_214 (by decide) ?_
                refine q_as (y := dirIso (ar 9) (ar 13) (b + d) pe) (hdi.symm) ?_
                refine lv_goto (tgt := 219) hx hb d_MD_explicit_215 (by decide) ?_
                exact L219    _ _ _ hI (lv_sub hl [1, 2, 3, 4, 5, 6, 7, 8, 9] rfl)
              · refine lv_iload hx hb d_MD_explicit_194 (lv_at hl 9 rfl) ?_
                refine lv_bipush (v := 21) hx hb d_MD_explicit_196 (by decide) ?_
                refine lv_icmp_ne (tgt := 218) hx hb d_MD_explicit_198 (by decide) (fun c198 => ?_) (fun c198 => ?_)
                · have hdi : dirIso (ar 9) (ar 13) (b + d) pe = 0 := by unfold dirIso; rw [if_neg c198, if_neg c191]
                  refine lv_iconst (v := 0) hx hb d_MD_explicit_218 (by decide) ?_
                  refine q_as (y := dirIso (ar 9) (ar 13) (b + d) pe) (hdi.symm) ?_
                  exact L219    _ _ _ hI (lv_sub hl [1, 2, 3, 4, 5, 6, 7, 8, 9] rfl)
                · refine lv_aload_n hx hb d_MD_explicit_201 rfl (lv_at hl 1 rfl) ?_
                  refine lv_iload hx hb d_MD_explicit_202 (lv_at hl 8 rfl) ?_
                  refine lv_iconst (v := 1) hx hb d_MD_explicit_204 (by decide) ?_
                  refine lv_iadd hx hb d_MD_explicit_205 ?_
                  refine q_as (y := nI (b + d + 1)) (nI_add (b + d) 1) ?_
                  refine lv_iload hx hb d_MD_explicit_206 (lv_at hl 0 rfl) ?_
                  refine q_calliV [.int (nI (b + d + 1)), .int (nI (if ar 13 (b + d) = -1 then pe else (ar 13 (b + d)).toNatClampNeg))] M hI (c_MD_isRight l g ad (va_up (va_up (va_up (va_up (va_up ar 15 za) 16 zb) 17 zz) 12 (upd (xlv (ar 9) (ar 13) b pe base (ar 12) d) (b + d) (-1))) 10 (upd (xkdm (ar 9) (ar 13) b pe base (ar 10) d) (b + d) (ar 9 (b + d)))) (va_up fl 7 (nI (rs.length + 1))) (b + d + 1) (if ar 13 (b + d) = -1 then pe else (ar 13 (b + d)).toNatClampNeg) (by omega) (by omega)) ok_MD_isRight m5_114 m5_116 ms_53 0 rfl rfl rfl rfl hl.1 ⟨rfl, rfl⟩ ⟨Nat.le_of_ble_eq_true rfl, Nat.le_of_ble_eq_true rfl⟩ (Nat.le_of_ble_eq_true rfl) ⟨Nat.le_of_ble_eq_true rfl, Nat.le_of_ble_eq_true rfl⟩ d_MD_explicit_208 (fun r208 u208 H locs hp208 hI => ?_)
                  refine q_as (y := bI (RI (ar 9) (if ar 13 (b + d) = -1 then pe else (ar 13 (b + d)).toNatClampNeg) (b + d + 1))) hp208 ?_
                  refine lv_if_eq (tgt := 218) hx hb d_MD_explicit_211 (by decide) (fun c211 => ?_) (fun c211 => ?_)
                  · have c211 := bI_eq0.mp c211
                    have hdi : dirIso (ar 9) (ar 13) (b + d) pe = 0 := by unfold dirIso; rw [if_pos c198, DI_RI hpe hE9 hmt _ _ (Nat.le_refl _) (by omega)]; exact bI_f c211
                    refine lv_iconst (v := 0) hx hb d_MD_explicit_218 (by decide) ?_
                    refine q_as (y := dirIso (ar 9) (ar 13) (b + d) pe) (hdi.symm) ?_
                    exact L219    _ _ _ hI (lv_sub hl [1, 2, 3, 4, 5, 6, 7, 8, 9] rfl)
                  · have c211 := bI_ne0.mp c211
                    have hdi : dirIso (ar 9) (ar 13) (b + d) pe = 1 := by unfold dirIso; rw [if_pos c198, DI_RI hpe hE9 hmt _ _ (Nat.le_refl _) (by omega)]; exact bI_t c211
                    refine lv_iconst (v := 1) hx hb d_MD_explicit_214 (by decide) ?_
                    refine q_as (y := dirIso (ar 9) (ar 13) (b + d) pe) (hdi.symm) ?_
                    refine lv_goto (tgt := 219) hx hb d_MD_explicit_215 (by decide) ?_
                    exact L219    _ _ _ hI (lv_sub hl [1, 2, 3, 4, 5, 6, 7, 8, 9] rfl)
            · have hm1 : ar 13 (b + d) = -1 := hmo.resolve_right (fun ⟨j9, j1, j2, j3⟩ => c171 (by rw [j3]; exact nI_pos' (by omega)))
              have hE : (if ar 13 (b + d) = -1 then pe else (ar 13 (b + d)).toNatClampNeg) = pe := if_pos hm1
              have hE9 : (if ar 13 (b + d) = -1 then pe else (ar 13 (b + d)).toNatClampNeg) ≤ pe := by rw [hE]; exact Nat.le_refl _
              refine lv_iload_n hx hb d_MD_explicit_174 rfl (lv_at hl 2 rfl) ?_
              refine q_as (y := nI (if ar 13 (b + d) = -1 then pe else (ar 13 (b + d)).toNatClampNeg)) (by rw [hE]) ?_
              refine lv_goto (tgt := 185) hx hb d_MD_explicit_175 (by decide) ?_
              refine lv_istore (lv' := [(9, .int (nI (if ar 13 (b + d) = -1 then pe else (ar 13 (b + d)).toNatClampNeg))), (0, .ref (ad 0)), (1, .int (nI b)), (2, .int (nI pe)), (3, .int (nI base)), (4, .int (nI xi)), (5, .int (nI xe)), (6, .int (nI xv)), (7, .int (nI (b + d))), (8, .int (ar 9 (b + d)))]) hx hb d_MD_explicit_185 hl (by decide) rfl (fun ls hl => ?_)
              refine lv_iload hx hb d_MD_explicit_187 (lv_at hl 9 rfl) ?_
              refine lv_bipush (v := 20) hx hb d_MD_explicit_189 (by decide) ?_
              refine lv_icmp_eq (tgt := 214) hx hb d_MD_explicit_191 (by decide) (fun c191 => ?_) (fun c191 => ?_)
              · have hdi : dirIso (ar 9) (ar 13) (b + d) pe = 1 := by unfold dirIso; rw [if_neg (by rw [c191]; decide), if_pos c191]
                refine lv_iconst (v := 1) hx hb d_MD_explicit_214 (by decide) ?_
                refine q_as (y := dirIso (ar 9) (ar 13) (b + d) pe) (hdi.symm) ?_
                refine lv_goto (tgt := 219) hx hb d_MD_explicit_215 (by decide) ?_
                exact L219    _ _ _ hI (lv_sub hl [1, 2, 3, 4, 5, 6, 7, 8, 9] rfl)
              · refine lv_iload hx hb d_MD_explicit_194 (lv_at hl 9 rfl) ?_
                refine lv_bipush (v := 21) hx hb d_MD_explicit_196 (by decide) ?_
                refine lv_icmp_ne (tgt := 218) hx hb d_MD_explicit_198 (by decide) (fun c198 => ?_) (fun c198 => ?_)
                · have hdi : dirIso (ar 9) (ar 13) (b + d) pe = 0 := by unfold dirIso; rw [if_neg c198, if_neg c191]
                  refine lv_iconst (v := 0) hx hb d_MD_explicit_218 (by decide) ?_
                  refine q_as (y := dirIso (ar 9) (ar 13) (b + d) pe) (hdi.symm) ?_
                  exact L219    _ _ _ hI (lv_sub hl [1, 2, 3, 4, 5, 6, 7, 8, 9] rfl)
                · refine lv_aload_n hx hb d_MD_explicit_201 rfl (lv_at hl 1 rfl) ?_
                  refine lv_iload hx hb d_MD_explicit_202 (lv_at hl 8 rfl) ?_
                  refine lv_iconst (v := 1) hx hb d_MD_explicit_204 (by decide) ?_
                  refine lv_iadd hx hb d_MD_explicit_205 ?_
                  refine q_as (y := nI (b + d + 1)) (nI_add (b + d) 1) ?_
                  refine lv_iload hx hb d_MD_explicit_206 (lv_at hl 0 rfl) ?_
                  refine q_calliV [.int (nI (b + d + 1)), .int (nI (if ar 13 (b + d) = -1 then pe else (ar 13 (b + d)).toNatClampNeg))] M hI (c_MD_isRight l g ad (va_up (va_up (va_up (va_up (va_up ar 15 za) 16 zb) 17 zz) 12 (upd (xlv (ar 9) (ar 13) b pe base (ar 12) d) (b + d) (-1))) 10 (upd (xkdm (ar 9) (ar 13) b pe base (ar 10) d) (b + d) (ar 9 (b + d)))) (va_up fl 7 (nI (rs.length + 1))) (b + d + 1) (if ar 13 (b + d) = -1 then pe else (ar 13 (b + d)).toNatClampNeg) (by omega) (by omega)) ok_MD_isRight m5_114 m5_116 ms_53 0 rfl rfl rfl rfl hl.1 ⟨rfl, rfl⟩ ⟨Nat.le_of_ble_eq_true rfl, Nat.le_of_ble_eq_true rfl⟩ (Nat.le_of_ble_eq_true rfl) ⟨Nat.le_of_ble_eq_true rfl, Nat.le_of_ble_eq_true rfl⟩ d_MD_explicit_208 (fun r208 u208 H locs hp208 hI => ?_)
                  refine q_as (y := bI (RI (ar 9) (if ar 13 (b + d) = -1 then pe else (ar 13 (b + d)).toNatClampNeg) (b + d + 1))) hp208 ?_
                  refine lv_if_eq (tgt := 218) hx hb d_MD_explicit_211 (by decide) (fun c211 => ?_) (fun c211 => ?_)
                  · have c211 := bI_eq0.mp c211
                    have hdi : dirIso (ar 9) (ar 13) (b + d) pe = 0 := by unfold dirIso; rw [if_pos c198, DI_RI hpe hE9 hmt _ _ (Nat.le_refl _) (by omega)]; exact bI_f c211
                    refine lv_iconst (v := 0) hx hb d_MD_explicit_218 (by decide) ?_
                    refine q_as (y := dirIso (ar 9) (ar 13) (b + d) pe) (hdi.symm) ?_
                    exact L219    _ _ _ hI (lv_sub hl [1, 2, 3, 4, 5, 6, 7, 8, 9] rfl)
                  · have c211 := bI_ne0.mp c211
                    have hdi : dirIso (ar 9) (ar 13) (b + d) pe = 1 := by unfold dirIso; rw [if_pos c198, DI_RI hpe hE9 hmt _ _ (Nat.le_refl _) (by omega)]; exact bI_t c211
                    refine lv_iconst (v := 1) hx hb d_MD_explicit_214 (by decide) ?_
                    refine q_as (y := dirIso (ar 9) (ar 13) (b + d) pe) (hdi.symm) ?_
                    refine lv_goto (tgt := 219) hx hb d_MD_explicit_215 (by decide) ?_
                    exact L219    _ _ _ hI (lv_sub hl [1, 2, 3, 4, 5, 6, 7, 8, 9] rfl)
        refine lv_iload hx hb d_MD_explicit_56 (lv_at hl 0 rfl) ?_
        refine lv_bipush (v := 14) hx hb d_MD_explicit_58 (by decide) ?_
        refine lv_icmp_lt (tgt := 156) hx hb d_MD_explicit_60 (by decide) (fun c60 => ?_) (fun c60 => ?_)
        · have hem : ¬ isemb (ar 9 (b + d)) := fun z => z.1 c60
          exact L156   (by first | assumption | omega) _ _ _ hI (lv_sub hl [1, 2, 3, 4, 5, 6, 7, 8, 0] rfl)
        · refine lv_iload hx hb d_MD_explicit_63 (lv_at hl 0 rfl) ?_
          refine lv_bipush (v := 17) hx hb d_MD_explicit_65 (by decide) ?_
          refine lv_icmp_gt (tgt := 156) hx hb d_MD_explicit_67 (by decide) (fun c67 => ?_) (fun c67 => ?_)
          · have hem : ¬ isemb (ar 9 (b + d)) := fun z => z.2 c67
            exact L156   (by first | assumption | omega) _ _ _ hI (lv_sub hl [1, 2, 3, 4, 5, 6, 7, 8, 0] rfl)
          · have hem : isemb (ar 9 (b + d)) := ⟨c60, c67⟩
            have eX0 : xstep (ar 9) (ar 13) pe (b + d) ((lv, ov, ib) :: rs, xi, xe, xv) = xEmb (ar 9 (b + d)) ((lv, ov, ib) :: rs, xi, xe, xv) := by unfold xstep; exact if_pos hem
            have elv : xlev (ar 9 (b + d)) base (xrun (ar 9) (ar 13) b pe base d) = -1 := by rw [hX]; unfold xlev; exact if_pos (Or.inl hem)
            have ekn : xkm (ar 9 (b + d)) (xrun (ar 9) (ar 13) b pe base d) = ar 9 (b + d) := by rw [hX]; unfold xkm; exact if_pos (Or.inl hem)
            refine lv_aload_n hx hb d_MD_explicit_70 rfl (lv_at hl 1 rfl) ?_
            refine lv_iload hx hb d_MD_explicit_71 (lv_at hl 0 rfl) ?_
            refine lv_bipush (v := 16) hx hb d_MD_explicit_73 (by decide) ?_
            refine lv_icmp_eq (tgt := 85) hx hb d_MD_explicit_75 (by decide) (fun c75 => ?_) (fun c75 => ?_)
            · refine lv_iconst (v := 1) hx hb d_MD_explicit_85 (by decide) ?_
              refine q_as (y := emD (ar 9 (b + d))) (by unfold emD; rw [if_pos]; first | exact Or.inl c75 | exact Or.inr c82) ?_
              refine lv_goto (tgt := 90) hx hb d_MD_explicit_86 (by decide) ?_
              refine q_calliV [.int (emD (ar 9 (b + d)))] M hI (c_MD_next l g ad (va_up (va_up (va_up (va_up (va_up ar 15 za) 16 zb) 17 zz) 10 (upd (xkdm (ar 9) (ar 13) b pe base (ar 10) d) (b + d) (ar 9 (b + d)))) 12 (upd (xlv (ar 9) (ar 13) b pe base (ar 12) d) (b + d) (-1))) (va_up fl 7 (nI (rs.length + 1))) (emD (ar 9 (b + d))) lv ov ib rs (rfl) (hr) (by omega) (by omega) (emD_01 _)) ok_MD_next m5_126 m5_128 ms_56 0 rfl rfl rfl rfl hl.1 ⟨rfl, rfl⟩ ⟨Nat.le_of_ble_eq_true rfl, Nat.le_of_ble_eq_true rfl⟩ (Nat.le_of_ble_eq_true rfl) ⟨Nat.le_of_ble_eq_true rfl, Nat.le_of_ble_eq_true rfl⟩ d_MD_explicit_90 (fun r90 u90 H locs hp90 hI => ?_)
              refine q_as (y := nI (nxt lv (emD (ar 9 (b + d))))) hp90 ?_
              have hng9 := nxt_gt lv (emD (ar 9 (b + d)))
              refine lv_istore (lv' := [(9, .int (nI (nxt lv (emD (ar 9 (b + d)))))), (8, .int (ar 9 (b + d))), (0, .ref (ad 0)), (1, .int (nI b)), (2, .int (nI pe)), (3, .int (nI base)), (4, .int (nI xi)), (5, .int (nI xe)), (6, .int (nI xv)), (7, .int (nI (b + d)))]) hx hb d_MD_explicit_93 hl (by decide) rfl (fun ls hl => ?_)
              refine lv_iload hx hb d_MD_explicit_95 (lv_at hl 0 rfl) ?_
              refine lv_bipush (v := 125) hx hb d_MD_explicit_97 (by decide) ?_
              refine lv_icmp_gt (tgt := 145) hx hb d_MD_explicit_99 (by decide) (fun c99 => ?_) (fun c99 => ?_)
              · have c99 : 125 < nxt lv (emD (ar 9 (b + d))) := (nI_ltI (a := 125) (b := nxt lv (emD (ar 9 (b + d)))) (by omega) (by omega)).mp c99
                have hnc : ¬ canO (nxt lv (emD (ar 9 (b + d)))) xi xe := fun z => by have := z.1; omega
                refine lv_iload hx hb d_MD_explicit_145 (lv_at hl 6 rfl) ?_
                refine lv_if_ne (tgt := 153) hx hb d_MD_explicit_147 (by decide) (fun c147 => ?_) (fun c147 => ?_)
                · have c147 : ¬ xi = 0 := fun h => c147 ((nI_eq (a := xi) (b := 0) (by omega) (by omega)).mpr h)
                  have hX2 : xrun (ar 9) (ar 13) b pe base (d + 1) = ((lv, ov, ib) :: rs, xi, xe, xv) := by show xstep (ar 9) (ar 13) pe (b + d) (xrun (ar 9) (ar 13) b pe base d) = _; rw [hX, eX0]; first | done | (unfold xEmb; exact (if_neg hnc).trans (if_neg c147))
                  have hr2 := hr
                  refine lv_goto (tgt := 441) hx hb d_MD_explicit_153 (by decide) ?_
                  have eL : upd (xlv (ar 9) (ar 13) b pe base (ar 12) d) (b + d) (-1) = xlv (ar 9) (ar 13) b pe base (ar 12) (d + 1) := by show _ = upd _ _ (xlev (ar 9 (b + d)) base (xrun (ar 9) (ar 13) b pe base d)); rw [elv]; first | done | rfl | exact upd_uu
                  have eK : upd (xkdm (ar 9) (ar 13) b pe base (ar 10) d) (b + d) (ar 9 (b + d)) = xkdm (ar 9) (ar 13) b pe base (ar 10) (d + 1) := by show _ = upd _ _ (xkm (ar 9 (b + d)) (xrun (ar 9) (ar 13) b pe base d)); rw [ekn]; first | done | rfl | rw [upd_uu, pk_us]
                  have hI := CI.to (w2 := mw g ad (va_up (va_up (va_up (va_up (va_up ar 15 za) 16 zb) 17 zz) 12 (xlv (ar 9) (ar 13) b pe base (ar 12) (d + 1))) 10 (xkdm (ar 9) (ar 13) b pe base (ar 10) (d + 1))) (va_up fl 7 (nI (rs.length + 1)))) hI (by rw [eL, eK]; first | done | rfl)
                  refine lv_iinc (v := nI (b + d + 1)) (lv' := [(7, .int (nI (b + d + 1))), (9, .int (nI (nxt lv (emD (ar 9 (b + d)))))), (8, .int (ar 9 (b + d))), (0, .ref (ad 0)), (1, .int (nI b)), (2, .int (nI pe)), (3, .int (nI base)), (4, .int (nI xi)), (5, .int (nI xe)), (6, .int (nI xv))]) hx hb d_MD_explicit_441 hl (k := 9) rfl (nI_add _ 1) (by decide) rfl (fun ls hl => ?_)
                  refine lv_goto (tgt := 24) hx hb d_MD_explicit_444 (by decide) ?_
                  exact ih24 (d + 1) lv ov ib rs xi xe xv za zb zz (by omega) (by omega) (hX2) (hr2) _ _ _ hI (lv_sub hl [3, 4, 5, 6, 7, 8, 9, 0] rfl)
                · have c147 : xi = 0 := (nI_eq (a := xi) (b := 0) (by omega) (by omega)).mp c147
                  have hX2 : xrun (ar 9) (ar 13) b pe base (d + 1) = ((lv, ov, ib) :: rs, xi, xe + 1, xv) := by show xstep (ar 9) (ar 13) pe (b + d) (xrun (ar 9) (ar 13) b pe base d) = _; rw [hX, eX0]; first | done | (unfold xEmb; exact (if_neg hnc).trans (if_pos c147))
                  have hr2 := hr
                  refine lv_iinc (v := nI (xe + 1)) (lv' := [(5, .int (nI (xe + 1))), (9, .int (nI (nxt lv (emD (ar 9 (b + d)))))), (8, .int (ar 9 (b + d))), (0, .ref (ad 0)), (1, .int (nI b)), (2, .int (nI pe)), (3, .int (nI base)), (4, .int (nI xi)), (6, .int (nI xv)), (7, .int (nI (b + d)))]) hx hb d_MD_explicit_150 hl (k := 7) rfl (nI_add _ 1) (by decide) rfl (fun ls hl => ?_)
                  refine lv_goto (tgt := 441) hx hb d_MD_explicit_153 (by decide) ?_
                  have eL : upd (xlv (ar 9) (ar 13) b pe base (ar 12) d) (b + d) (-1) = xlv (ar 9) (ar 13) b pe base (ar 12) (d + 1) := by show _ = upd _ _ (xlev (ar 9 (b + d)) base (xrun (ar 9) (ar 13) b pe base d)); rw [elv]; first | done | rfl | exact upd_uu
                  have eK : upd (xkdm (ar 9) (ar 13) b pe base (ar 10) d) (b + d) (ar 9 (b + d)) = xkdm (ar 9) (ar 13) b pe base (ar 10) (d + 1) := by show _ = upd _ _ (xkm (ar 9 (b + d)) (xrun (ar 9) (ar 13) b pe base d)); rw [ekn]; first | done | rfl | rw [upd_uu, pk_us]
                  have hI := CI.to (w2 := mw g ad (va_up (va_up (va_up (va_up (va_up ar 15 za) 16 zb) 17 zz) 12 (xlv (ar 9) (ar 13) b pe base (ar 12) (d + 1))) 10 (xkdm (ar 9) (ar 13) b pe base (ar 10) (d + 1))) (va_up fl 7 (nI (rs.length + 1)))) hI (by rw [eL, eK]; first | done | rfl)
                  refine lv_iinc (v := nI (b + d + 1)) (lv' := [(7, .int (nI (b + d + 1))), (5, .int (nI (xe + 1))), (9, .int (nI (nxt lv (emD (ar 9 (b + d)))))), (8, .int (ar 9 (b + d))), (0, .ref (ad 0)), (1, .int (nI b)), (2, .int (nI pe)), (3, .int (nI base)), (4, .int (nI xi)), (6, .int (nI xv))]) hx hb d_MD_explicit_441 hl (k := 9) rfl (nI_add _ 1) (by decide) rfl (fun ls hl => ?_)
                  refine lv_goto (tgt := 24) hx hb d_MD_explicit_444 (by decide) ?_
                  exact ih24 (d + 1) lv ov ib rs xi (xe + 1) xv za zb zz (by omega) (by omega) (hX2) (hr2) _ _ _ hI (lv_sub hl [4, 5, 6, 7, 8, 1, 9, 0] rfl)
              · have c99 : ¬ 125 < nxt lv (emD (ar 9 (b + d))) := fun h => c99 ((nI_ltI (a := 125) (b := nxt lv (emD (ar 9 (b + d)))) (by omega) (by omega)).mpr h)
                refine lv_iload hx hb d_MD_explicit_102 (lv_at hl 6 rfl) ?_
                refine lv_if_ne (tgt := 145) hx hb d_MD_explicit_104 (by decide) (fun c104 => ?_) (fun c104 => ?_)
                · have c104 : ¬ xi = 0 := fun h => c104 ((nI_eq (a := xi) (b := 0) (by omega) (by omega)).mpr h)
                  have hnc : ¬ canO (nxt lv (emD (ar 9 (b + d)))) xi xe := fun z => c104 z.2.1
                  refine lv_iload hx hb d_MD_explicit_145 (lv_at hl 6 rfl) ?_
                  refine lv_if_ne (tgt := 153) hx hb d_MD_explicit_147 (by decide) (fun c147 => ?_) (fun c147 => ?_)
                  · have c147 : ¬ xi = 0 := fun h => c147 ((nI_eq (a := xi) (b := 0) (by omega) (by omega)).mpr h)
                    have hX2 : xrun (ar 9) (ar 13) b pe base (d + 1) = ((lv, ov, ib) :: rs, xi, xe, xv) := by show xstep (ar 9) (ar 13) pe (b + d) (xrun (ar 9) (ar 13) b pe base d) = _; rw [hX, eX0]; first | done | (unfold xEmb; exact (if_neg hnc).trans (if_neg c147))
                    have hr2 := hr
                    refine lv_goto (tgt := 441) hx hb d_MD_explicit_153 (by decide) ?_
                    have eL : upd (xlv (ar 9) (ar 13) b pe base (ar 12) d) (b + d) (-1) = xlv (ar 9) (ar 13) b pe base (ar 12) (d + 1) := by show _ = upd _ _ (xlev (ar 9 (b + d)) base (xrun (ar 9) (ar 13) b pe base d)); rw [elv]; first | done | rfl | exact upd_uu
                    have eK : upd (xkdm (ar 9) (ar 13) b pe base (ar 10) d) (b + d) (ar 9 (b + d)) = xkdm (ar 9) (ar 13) b pe base (ar 10) (d + 1) := by show _ = upd _ _ (xkm (ar 9 (b + d)) (xrun (ar 9) (ar 13) b pe base d)); rw [ekn]; first | done | rfl | rw [upd_uu, pk_us]
                    have hI := CI.to (w2 := mw g ad (va_up (va_up (va_up (va_up (va_up ar 15 za) 16 zb) 17 zz) 12 (xlv (ar 9) (ar 13) b pe base (ar 12) (d + 1))) 10 (xkdm (ar 9) (ar 13) b pe base (ar 10) (d + 1))) (va_up fl 7 (nI (rs.length + 1)))) hI (by rw [eL, eK]; first | done | rfl)
                    refine lv_iinc (v := nI (b + d + 1)) (lv' := [(7, .int (nI (b + d + 1))), (9, .int (nI (nxt lv (emD (ar 9 (b + d)))))), (8, .int (ar 9 (b + d))), (0, .ref (ad 0)), (1, .int (nI b)), (2, .int (nI pe)), (3, .int (nI base)), (4, .int (nI xi)), (5, .int (nI xe)), (6, .int (nI xv))]) hx hb d_MD_explicit_441 hl (k := 9) rfl (nI_add _ 1) (by decide) rfl (fun ls hl => ?_)
                    refine lv_goto (tgt := 24) hx hb d_MD_explicit_444 (by decide) ?_
                    exact ih24 (d + 1) lv ov ib rs xi xe xv za zb zz (by omega) (by omega) (hX2) (hr2) _ _ _ hI (lv_sub hl [3, 4, 5, 6, 7, 8, 9, 0] rfl)
                  · have c147 : xi = 0 := (nI_eq (a := xi) (b := 0) (by omega) (by omega)).mp c147
                    have hX2 : xrun (ar 9) (ar 13) b pe base (d + 1) = ((lv, ov, ib) :: rs, xi, xe + 1, xv) := by show xstep (ar 9) (ar 13) pe (b + d) (xrun (ar 9) (ar 13) b pe base d) = _; rw [hX, eX0]; first | done | (unfold xEmb; exact (if_neg hnc).trans (if_pos c147))
                    have hr2 := hr
                    refine lv_iinc (v := nI (xe + 1)) (lv' := [(5, .int (nI (xe + 1))), (9, .int (nI (nxt lv (emD (ar 9 (b + d)))))), (8, .int (ar 9 (b + d))), (0, .ref (ad 0)), (1, .int (nI b)), (2, .int (nI pe)), (3, .int (nI base)), (4, .int (nI xi)), (6, .int (nI xv)), (7, .int (nI (b + d)))]) hx hb d_MD_explicit_150 hl (k := 7) rfl (nI_add _ 1) (by decide) rfl (fun ls hl => ?_)
                    refine lv_goto (tgt := 441) hx hb d_MD_explicit_153 (by decide) ?_
                    have eL : upd (xlv (ar 9) (ar 13) b pe base (ar 12) d) (b + d) (-1) = xlv (ar 9) (ar 13) b pe base (ar 12) (d + 1) := by show _ = upd _ _ (xlev (ar 9 (b + d)) base (xrun (ar 9) (ar 13) b pe base d)); rw [elv]; first | done | rfl | exact upd_uu
                    have eK : upd (xkdm (ar 9) (ar 13) b pe base (ar 10) d) (b + d) (ar 9 (b + d)) = xkdm (ar 9) (ar 13) b pe base (ar 10) (d + 1) := by show _ = upd _ _ (xkm (ar 9 (b + d)) (xrun (ar 9) (ar 13) b pe base d)); rw [ekn]; first | done | rfl | rw [upd_uu, pk_us]
                    have hI := CI.to (w2 := mw g ad (va_up (va_up (va_up (va_up (va_up ar 15 za) 16 zb) 17 zz) 12 (xlv (ar 9) (ar 13) b pe base (ar 12) (d + 1))) 10 (xkdm (ar 9) (ar 13) b pe base (ar 10) (d + 1))) (va_up fl 7 (nI (rs.length + 1)))) hI (by rw [eL, eK]; first | done | rfl)
                    refine lv_iinc (v := nI (b + d + 1)) (lv' := [(7, .int (nI (b + d + 1))), (5, .int (nI (xe + 1))), (9, .int (nI (nxt lv (emD (ar 9 (b + d)))))), (8, .int (ar 9 (b + d))), (0, .ref (ad 0)), (1, .int (nI b)), (2, .int (nI pe)), (3, .int (nI base)), (4, .int (nI xi)), (6, .int (nI xv))]) hx hb d_MD_explicit_441 hl (k := 9) rfl (nI_add _ 1) (by decide) rfl (fun ls hl => ?_)
                    refine lv_goto (tgt := 24) hx hb d_MD_explicit_444 (by decide) ?_
                    exact ih24 (d + 1) lv ov ib rs xi (xe + 1) xv za zb zz (by omega) (by omega) (hX2) (hr2) _ _ _ hI (lv_sub hl [4, 5, 6, 7, 8, 1, 9, 0] rfl)
                · have c104 : xi = 0 := (nI_eq (a := xi) (b := 0) (by omega) (by omega)).mp c104
                  refine lv_iload hx hb d_MD_explicit_107 (lv_at hl 7 rfl) ?_
                  refine lv_if_ne (tgt := 145) hx hb d_MD_explicit_109 (by decide) (fun c109 => ?_) (fun c109 => ?_)
                  · have c109 : ¬ xe = 0 := fun h => c109 ((nI_eq (a := xe) (b := 0) (by omega) (by omega)).mpr h)
                    have hnc : ¬ canO (nxt lv (emD (ar 9 (b + d)))) xi xe := fun z => c109 z.2.2
                    refine lv_iload hx hb d_MD_explicit_145 (lv_at hl 6 rfl) ?_
                    refine lv_if_ne (tgt := 153) hx hb d_MD_explicit_147 (by decide) (fun c147 => ?_) (fun c147 => ?_)
                    · have c147 : ¬ xi = 0 := fun h => c147 ((nI_eq (a := xi) (b := 0) (by omega) (by omega)).mpr h)
                      have hX2 : xrun (ar 9) (ar 13) b pe base (d + 1) = ((lv, ov, ib) :: rs, xi, xe, xv) := by show xstep (ar 9) (ar 13) pe (b + d) (xrun (ar 9) (ar 13) b pe base d) = _; rw [hX, eX0]; first | done | (unfold xEmb; exact (if_neg hnc).trans (if_neg c147))
                      have hr2 := hr
                      refine lv_goto (tgt := 441) hx hb d_MD_explicit_153 (by decide) ?_
                      have eL : upd (xlv (ar 9) (ar 13) b pe base (ar 12) d) (b + d) (-1) = xlv (ar 9) (ar 13) b pe base (ar 12) (d + 1) := by show _ = upd _ _ (xlev (ar 9 (b + d)) base (xrun (ar 9) (ar 13) b pe base d)); rw [elv]; first | done | rfl | exact upd_uu
                      have eK : upd (xkdm (ar 9) (ar 13) b pe base (ar 10) d) (b + d) (ar 9 (b + d)) = xkdm (ar 9) (ar 13) b pe base (ar 10) (d + 1) := by show _ = upd _ _ (xkm (ar 9 (b + d)) (xrun (ar 9) (ar 13) b pe base d)); rw [ekn]; first | done | rfl | rw [upd_uu, pk_us]
                      have hI := CI.to (w2 := mw g ad (va_up (va_up (va_up (va_up (va_up ar 15 za) 16 zb) 17 zz) 12 (xlv (ar 9) (ar 13) b pe base (ar 12) (d + 1))) 10 (xkdm (ar 9) (ar 13) b pe base (ar 10) (d + 1))) (va_up fl 7 (nI (rs.length + 1)))) hI (by rw [eL, eK]; first | done | rfl)
                      refine lv_iinc (v := nI (b + d + 1)) (lv' := [(7, .int (nI (b + d + 1))), (9, .int (nI (nxt lv (emD (ar 9 (b + d)))))), (8, .int (ar 9 (b + d))), (0, .ref (ad 0)), (1, .int (nI b)), (2, .int (nI pe)), (3, .int (nI base)), (4, .int (nI xi)), (5, .int (nI xe)), (6, .int (nI xv))]) hx hb d_MD_explicit_441 hl (k := 9) rfl (nI_add _ 1) (by decide) rfl (fun ls hl => ?_)
                      refine lv_goto (tgt := 24) hx hb d_MD_explicit_444 (by decide) ?_
                      exact ih24 (d + 1) lv ov ib rs xi xe xv za zb zz (by omega) (by omega) (hX2) (hr2) _ _ _ hI (lv_sub hl [3, 4, 5, 6, 7, 8, 9, 0] rfl)
                    · have c147 : xi = 0 := (nI_eq (a := xi) (b := 0) (by omega) (by omega)).mp c147
                      have hX2 : xrun (ar 9) (ar 13) b pe base (d + 1) = ((lv, ov, ib) :: rs, xi, xe + 1, xv) := by show xstep (ar 9) (ar 13) pe (b + d) (xrun (ar 9) (ar 13) b pe base d) = _; rw [hX, eX0]; first | done | (unfold xEmb; exact (if_neg hnc).trans (if_pos c147))
                      have hr2 := hr
                      refine lv_iinc (v := nI (xe + 1)) (lv' := [(5, .int (nI (xe + 1))), (9, .int (nI (nxt lv (emD (ar 9 (b + d)))))), (8, .int (ar 9 (b + d))), (0, .ref (ad 0)), (1, .int (nI b)), (2, .int (nI pe)), (3, .int (nI base)), (4, .int (nI xi)), (6, .int (nI xv)), (7, .int (nI (b + d)))]) hx hb d_MD_explicit_150 hl (k := 7) rfl (nI_add _ 1) (by decide) rfl (fun ls hl => ?_)
                      refine lv_goto (tgt := 441) hx hb d_MD_explicit_153 (by decide) ?_
                      have eL : upd (xlv (ar 9) (ar 13) b pe base (ar 12) d) (b + d) (-1) = xlv (ar 9) (ar 13) b pe base (ar 12) (d + 1) := by show _ = upd _ _ (xlev (ar 9 (b + d)) base (xrun (ar 9) (ar 13) b pe base d)); rw [elv]; first | done | rfl | exact upd_uu
                      have eK : upd (xkdm (ar 9) (ar 13) b pe base (ar 10) d) (b + d) (ar 9 (b + d)) = xkdm (ar 9) (ar 13) b pe base (ar 10) (d + 1) := by show _ = upd _ _ (xkm (ar 9 (b + d)) (xrun (ar 9) (ar 13) b pe base d)); rw [ekn]; first | done | rfl | rw [upd_uu, pk_us]
                      have hI := CI.to (w2 := mw g ad (va_up (va_up (va_up (va_up (va_up ar 15 za) 16 zb) 17 zz) 12 (xlv (ar 9) (ar 13) b pe base (ar 12) (d + 1))) 10 (xkdm (ar 9) (ar 13) b pe base (ar 10) (d + 1))) (va_up fl 7 (nI (rs.length + 1)))) hI (by rw [eL, eK]; first | done | rfl)
                      refine lv_iinc (v := nI (b + d + 1)) (lv' := [(7, .int (nI (b + d + 1))), (5, .int (nI (xe + 1))), (9, .int (nI (nxt lv (emD (ar 9 (b + d)))))), (8, .int (ar 9 (b + d))), (0, .ref (ad 0)), (1, .int (nI b)), (2, .int (nI pe)), (3, .int (nI base)), (4, .int (nI xi)), (6, .int (nI xv))]) hx hb d_MD_explicit_441 hl (k := 9) rfl (nI_add _ 1) (by decide) rfl (fun ls hl => ?_)
                      refine lv_goto (tgt := 24) hx hb d_MD_explicit_444 (by decide) ?_
                      exact ih24 (d + 1) lv ov ib rs xi (xe + 1) xv za zb zz (by omega) (by omega) (hX2) (hr2) _ _ _ hI (lv_sub hl [4, 5, 6, 7, 8, 1, 9, 0] rfl)
                  · have c109 : xe = 0 := (nI_eq (a := xe) (b := 0) (by omega) (by omega)).mp c109
                    have hc : canO (nxt lv (emD (ar 9 (b + d)))) xi xe := ⟨by omega, c104, c109⟩
                    refine lv_aload_n hx hb d_MD_explicit_112 rfl (lv_at hl 2 rfl) ?_
                    refine lv_iload hx hb d_MD_explicit_113 (lv_at hl 0 rfl) ?_
                    refine lv_iload hx hb d_MD_explicit_115 (lv_at hl 1 rfl) ?_
                    refine lv_bipush (v := 17) hx hb d_MD_explicit_117 (by decide) ?_
                    refine lv_icmp_ne (tgt := 126) hx hb d_MD_explicit_119 (by decide) (fun c119 => ?_) (fun c119 => ?_)
                    · refine lv_iload hx hb d_MD_explicit_126 (lv_at hl 1 rfl) ?_
                      refine lv_bipush (v := 15) hx hb d_MD_explicit_128 (by decide) ?_
                      refine lv_icmp_ne (tgt := 137) hx hb d_MD_explicit_130 (by decide) (fun c130 => ?_) (fun c130 => ?_)
                      · refine lv_iconst (v := (-1)) hx hb d_MD_explicit_137 (by decide) ?_
                        refine q_as (y := emO (ar 9 (b + d))) (by unfold emO; rw [if_neg c119, if_neg c130]) ?_
                        refine lv_iconst (v := 0) hx hb d_MD_explicit_138 (by decide) ?_
                        refine q_callvV [.int (nI (nxt lv (emD (ar 9 (b + d))))), .int (emO (ar 9 (b + d))), .int 0] M hI (c_MD_push l g ad (va_up (va_up (va_up (va_up (va_up ar 15 za) 16 zb) 17 zz) 10 (upd (xkdm (ar 9) (ar 13) b pe base (ar 10) d) (b + d) (ar 9 (b + d)))) 12 (upd (xlv (ar 9) (ar 13) b pe base (ar 12) d) (b + d) (-1))) (va_up fl 7 (nI (rs.length + 1))) (nxt lv (emD (ar 9 (b + d)))) (emO (ar 9 (b + d))) 0 ((lv, ov, ib) :: rs) (rfl) (by simp only [List.length_cons]; omega) (rfl)) ok_MD_push m5_122 m5_124 ms_55 0 rfl rfl rfl rfl hl.1 ⟨rfl, rfl⟩ ⟨Nat.le_of_ble_eq_true rfl, Nat.le_of_ble_eq_true rfl⟩ (Nat.le_of_ble_eq_true rfl) ⟨Nat.le_of_ble_eq_true rfl, Nat.le_of_ble_eq_true rfl⟩ d_MD_explicit_139 (fun u139 H locs hp139 hI => ?_)
                        have hI : CI g A s (mw g ad (va_up (va_up (va_up (va_up (va_up ar 10 (upd (xkdm (ar 9) (ar 13) b pe base (ar 10) d) (b + d) (ar 9 (b + d)))) 12 (upd (xlv (ar 9) (ar 13) b pe base (ar 12) d) (b + d) (-1))) 15 (upd za ((lv, ov, ib) :: rs).length (nI (nxt lv (emD (ar 9 (b + d))))))) 16 (upd zb ((lv, ov, ib) :: rs).length (emO (ar 9 (b + d))))) 17 (upd zz ((lv, ov, ib) :: rs).length 0)) (va_up fl 7 (nI (((lv, ov, ib) :: rs).length + 1)))) H locs := hI
                        have hX2 : xrun (ar 9) (ar 13) b pe base (d + 1) = ((nxt lv (emD (ar 9 (b + d))), emO (ar 9 (b + d)), false) :: (lv, ov, ib) :: rs, xi, xe, xv) := by show xstep (ar 9) (ar 13) pe (b + d) (xrun (ar 9) (ar 13) b pe base d) = _; rw [hX, eX0]; first | done | (unfold xEmb; exact if_pos hc)
                        have hr2 : xrel (upd za ((lv, ov, ib) :: rs).length (nI (nxt lv (emD (ar 9 (b + d)))))) (upd zb ((lv, ov, ib) :: rs).length (emO (ar 9 (b + d)))) (upd zz ((lv, ov, ib) :: rs).length 0) ((nxt lv (emD (ar 9 (b + d))), emO (ar 9 (b + d)), false) :: (lv, ov, ib) :: rs) := xrel_push (x := (nxt lv (emD (ar 9 (b + d))), emO (ar 9 (b + d)), false)) hr
                        refine lv_goto (tgt := 153) hx hb d_MD_explicit_142 (by decide) ?_
                        refine lv_goto (tgt := 441) hx hb d_MD_explicit_153 (by decide) ?_
                        have eL : upd (xlv (ar 9) (ar 13) b pe base (ar 12) d) (b + d) (-1) = xlv (ar 9) (ar 13) b pe base (ar 12) (d + 1) := by show _ = upd _ _ (xlev (ar 9 (b + d)) base (xrun (ar 9) (ar 13) b pe base d)); rw [elv]; first | done | rfl | exact upd_uu
                        have eK : upd (xkdm (ar 9) (ar 13) b pe base (ar 10) d) (b + d) (ar 9 (b + d)) = xkdm (ar 9) (ar 13) b pe base (ar 10) (d + 1) := by show _ = upd _ _ (xkm (ar 9 (b + d)) (xrun (ar 9) (ar 13) b pe base d)); rw [ekn]; first | done | rfl | rw [upd_uu, pk_us]
                        have hI := CI.to (w2 := mw g ad (va_up (va_up (va_up (va_up (va_up ar 15 (upd za ((lv, ov, ib) :: rs).length (nI (nxt lv (emD (ar 9 (b + d))))))) 16 (upd zb ((lv, ov, ib) :: rs).length (emO (ar 9 (b + d))))) 17 (upd zz ((lv, ov, ib) :: rs).length 0)) 12 (xlv (ar 9) (ar 13) b pe base (ar 12) (d + 1))) 10 (xkdm (ar 9) (ar 13) b pe base (ar 10) (d + 1))) (va_up fl 7 (nI (((lv, ov, ib) :: rs).length + 1)))) hI (by rw [eL, eK]; first | done | rfl)
                        refine lv_iinc (v := nI (b + d + 1)) (lv' := [(7, .int (nI (b + d + 1))), (9, .int (nI (nxt lv (emD (ar 9 (b + d)))))), (8, .int (ar 9 (b + d))), (0, .ref (ad 0)), (1, .int (nI b)), (2, .int (nI pe)), (3, .int (nI base)), (4, .int (nI xi)), (5, .int (nI xe)), (6, .int (nI xv))]) hx hb d_MD_explicit_441 hl (k := 9) rfl (nI_add _ 1) (by decide) rfl (fun ls hl => ?_)
                        refine lv_goto (tgt := 24) hx hb d_MD_explicit_444 (by decide) ?_
                        exact ih24 (d + 1) (nxt lv (emD (ar 9 (b + d)))) (emO (ar 9 (b + d))) false ((lv, ov, ib) :: rs) xi xe xv (upd za ((lv, ov, ib) :: rs).length (nI (nxt lv (emD (ar 9 (b + d)))))) (upd zb ((lv, ov, ib) :: rs).length (emO (ar 9 (b + d)))) (upd zz ((lv, ov, ib) :: rs).length 0) (by omega) (by omega) (hX2) (hr2) _ _ _ hI (lv_sub hl [3, 4, 5, 6, 7, 8, 9, 0] rfl)
                      · refine lv_iconst (v := 0) hx hb d_MD_explicit_133 (by decide) ?_
                        refine q_as (y := emO (ar 9 (b + d))) (by unfold emO; rw [if_neg c119, if_pos c130]) ?_
                        refine lv_goto (tgt := 138) hx hb d_MD_explicit_134 (by decide) ?_
                        refine lv_iconst (v := 0) hx hb d_MD_explicit_138 (by decide) ?_
                        refine q_callvV [.int (nI (nxt lv (emD (ar 9 (b + d))))), .int (emO (ar 9 (b + d))), .int 0] M hI (c_MD_push l g ad (va_up (va_up (va_up (va_up (va_up ar 15 za) 16 zb) 17 zz) 10 (upd (xkdm (ar 9) (ar 13) b pe base (ar 10) d) (b + d) (ar 9 (b + d)))) 12 (upd (xlv (ar 9) (ar 13) b pe base (ar 12) d) (b + d) (-1))) (va_up fl 7 (nI (rs.length + 1))) (nxt lv (emD (ar 9 (b + d)))) (emO (ar 9 (b + d))) 0 ((lv, ov, ib) :: rs) (rfl) (by simp only [List.length_cons]; omega) (rfl)) ok_MD_push m5_122 m5_124 ms_55 0 rfl rfl rfl rfl hl.1 ⟨rfl, rfl⟩ ⟨Nat.le_of_ble_eq_true rfl, Nat.le_of_ble_eq_true rfl⟩ (Nat.le_of_ble_eq_true rfl) ⟨Nat.le_of_ble_eq_true rfl, Nat.le_of_ble_eq_true rfl⟩ d_MD_explicit_139 (fun u139 H locs hp139 hI => ?_)
                        have hI : CI g A s (mw g ad (va_up (va_up (va_up (va_up (va_up ar 10 (upd (xkdm (ar 9) (ar 13) b pe base (ar 10) d) (b + d) (ar 9 (b + d)))) 12 (upd (xlv (ar 9) (ar 13) b pe base (ar 12) d) (b + d) (-1))) 15 (upd za ((lv, ov, ib) :: rs).length (nI (nxt lv (emD (ar 9 (b + d))))))) 16 (upd zb ((lv, ov, ib) :: rs).length (emO (ar 9 (b + d))))) 17 (upd zz ((lv, ov, ib) :: rs).length 0)) (va_up fl 7 (nI (((lv, ov, ib) :: rs).length + 1)))) H locs := hI
                        have hX2 : xrun (ar 9) (ar 13) b pe base (d + 1) = ((nxt lv (emD (ar 9 (b + d))), emO (ar 9 (b + d)), false) :: (lv, ov, ib) :: rs, xi, xe, xv) := by show xstep (ar 9) (ar 13) pe (b + d) (xrun (ar 9) (ar 13) b pe base d) = _; rw [hX, eX0]; first | done | (unfold xEmb; exact if_pos hc)
                        have hr2 : xrel (upd za ((lv, ov, ib) :: rs).length (nI (nxt lv (emD (ar 9 (b + d)))))) (upd zb ((lv, ov, ib) :: rs).length (emO (ar 9 (b + d)))) (upd zz ((lv, ov, ib) :: rs).length 0) ((nxt lv (emD (ar 9 (b + d))), emO (ar 9 (b + d)), false) :: (lv, ov, ib) :: rs) := xrel_push (x := (nxt lv (emD (ar 9 (b + d))), emO (ar 9 (b + d)), false)) hr
                        refine lv_goto (tgt := 153) hx hb d_MD_explicit_142 (by decide) ?_
                        refine lv_goto (tgt := 441) hx hb d_MD_explicit_153 (by decide) ?_
                        have eL : upd (xlv (ar 9) (ar 13) b pe base (ar 12) d) (b + d) (-1) = xlv (ar 9) (ar 13) b pe base (ar 12) (d + 1) := by show _ = upd _ _ (xlev (ar 9 (b + d)) base (xrun (ar 9) (ar 13) b pe base d)); rw [elv]; first | done | rfl | exact upd_uu
                        have eK : upd (xkdm (ar 9) (ar 13) b pe base (ar 10) d) (b + d) (ar 9 (b + d)) = xkdm (ar 9) (ar 13) b pe base (ar 10) (d + 1) := by show _ = upd _ _ (xkm (ar 9 (b + d)) (xrun (ar 9) (ar 13) b pe base d)); rw [ekn]; first | done | rfl | rw [upd_uu, pk_us]
                        have hI := CI.to (w2 := mw g ad (va_up (va_up (va_up (va_up (va_up ar 15 (upd za ((lv, ov, ib) :: rs).length (nI (nxt lv (emD (ar 9 (b + d))))))) 16 (upd zb ((lv, ov, ib) :: rs).length (emO (ar 9 (b + d))))) 17 (upd zz ((lv, ov, ib) :: rs).length 0)) 12 (xlv (ar 9) (ar 13) b pe base (ar 12) (d + 1))) 10 (xkdm (ar 9) (ar 13) b pe base (ar 10) (d + 1))) (va_up fl 7 (nI (((lv, ov, ib) :: rs).length + 1)))) hI (by rw [eL, eK]; first | done | rfl)
                        refine lv_iinc (v := nI (b + d + 1)) (lv' := [(7, .int (nI (b + d + 1))), (9, .int (nI (nxt lv (emD (ar 9 (b + d)))))), (8, .int (ar 9 (b + d))), (0, .ref (ad 0)), (1, .int (nI b)), (2, .int (nI pe)), (3, .int (nI base)), (4, .int (nI xi)), (5, .int (nI xe)), (6, .int (nI xv))]) hx hb d_MD_explicit_441 hl (k := 9) rfl (nI_add _ 1) (by decide) rfl (fun ls hl => ?_)
                        refine lv_goto (tgt := 24) hx hb d_MD_explicit_444 (by decide) ?_
                        exact ih24 (d + 1) (nxt lv (emD (ar 9 (b + d)))) (emO (ar 9 (b + d))) false ((lv, ov, ib) :: rs) xi xe xv (upd za ((lv, ov, ib) :: rs).length (nI (nxt lv (emD (ar 9 (b + d)))))) (upd zb ((lv, ov, ib) :: rs).length (emO (ar 9 (b + d)))) (upd zz ((lv, ov, ib) :: rs).length 0) (by omega) (by omega) (hX2) (hr2) _ _ _ hI (lv_sub hl [3, 4, 5, 6, 7, 8, 9, 0] rfl)
                    · refine lv_iconst (v := 1) hx hb d_MD_explicit_122 (by decide) ?_
                      refine q_as (y := emO (ar 9 (b + d))) (by unfold emO; rw [if_pos c119]) ?_
                      refine lv_goto (tgt := 138) hx hb d_MD_explicit_123 (by decide) ?_
                      refine lv_iconst (v := 0) hx hb d_MD_explicit_138 (by decide) ?_
                      refine q_callvV [.int (nI (nxt lv (emD (ar 9 (b + d))))), .int (emO (ar 9 (b + d))), .int 0] M hI (c_MD_push l g ad (va_up (va_up (va_up (va_up (va_up ar 15 za) 16 zb) 17 zz) 10 (upd (xkdm (ar 9) (ar 13) b pe base (ar 10) d) (b + d) (ar 9 (b + d)))) 12 (upd (xlv (ar 9) (ar 13) b pe base (ar 12) d) (b + d) (-1))) (va_up fl 7 (nI (rs.length + 1))) (nxt lv (emD (ar 9 (b + d)))) (emO (ar 9 (b + d))) 0 ((lv, ov, ib) :: rs) (rfl) (by simp only [List.length_cons]; omega) (rfl)) ok_MD_push m5_122 m5_124 ms_55 0 rfl rfl rfl rfl hl.1 ⟨rfl, rfl⟩ ⟨Nat.le_of_ble_eq_true rfl, Nat.le_of_ble_eq_true rfl⟩ (Nat.le_of_ble_eq_true rfl) ⟨Nat.le_of_ble_eq_true rfl, Nat.le_of_ble_eq_true rfl⟩ d_MD_explicit_139 (fun u139 H locs hp139 hI => ?_)
                      have hI : CI g A s (mw g ad (va_up (va_up (va_up (va_up (va_up ar 10 (upd (xkdm (ar 9) (ar 13) b pe base (ar 10) d) (b + d) (ar 9 (b + d)))) 12 (upd (xlv (ar 9) (ar 13) b pe base (ar 12) d) (b + d) (-1))) 15 (upd za ((lv, ov, ib) :: rs).length (nI (nxt lv (emD (ar 9 (b + d))))))) 16 (upd zb ((lv, ov, ib) :: rs).length (emO (ar 9 (b + d))))) 17 (upd zz ((lv, ov, ib) :: rs).length 0)) (va_up fl 7 (nI (((lv, ov, ib) :: rs).length + 1)))) H locs := hI
                      have hX2 : xrun (ar 9) (ar 13) b pe base (d + 1) = ((nxt lv (emD (ar 9 (b + d))), emO (ar 9 (b + d)), false) :: (lv, ov, ib) :: rs, xi, xe, xv) := by show xstep (ar 9) (ar 13) pe (b + d) (xrun (ar 9) (ar 13) b pe base d) = _; rw [hX, eX0]; first | done | (unfold xEmb; exact if_pos hc)
                      have hr2 : xrel (upd za ((lv, ov, ib) :: rs).length (nI (nxt lv (emD (ar 9 (b + d)))))) (upd zb ((lv, ov, ib) :: rs).length (emO (ar 9 (b + d)))) (upd zz ((lv, ov, ib) :: rs).length 0) ((nxt lv (emD (ar 9 (b + d))), emO (ar 9 (b + d)), false) :: (lv, ov, ib) :: rs) := xrel_push (x := (nxt lv (emD (ar 9 (b + d))), emO (ar 9 (b + d)), false)) hr
                      refine lv_goto (tgt := 153) hx hb d_MD_explicit_142 (by decide) ?_
                      refine lv_goto (tgt := 441) hx hb d_MD_explicit_153 (by decide) ?_
                      have eL : upd (xlv (ar 9) (ar 13) b pe base (ar 12) d) (b + d) (-1) = xlv (ar 9) (ar 13) b pe base (ar 12) (d + 1) := by show _ = upd _ _ (xlev (ar 9 (b + d)) base (xrun (ar 9) (ar 13) b pe base d)); rw [elv]; first | done | rfl | exact upd_uu
                      have eK : upd (xkdm (ar 9) (ar 13) b pe base (ar 10) d) (b + d) (ar 9 (b + d)) = xkdm (ar 9) (ar 13) b pe base (ar 10) (d + 1) := by show _ = upd _ _ (xkm (ar 9 (b + d)) (xrun (ar 9) (ar 13) b pe base d)); rw [ekn]; first | done | rfl | rw [upd_uu, pk_us]
                      have hI := CI.to (w2 := mw g ad (va_up (va_up (va_up (va_up (va_up ar 15 (upd za ((lv, ov, ib) :: rs).length (nI (nxt lv (emD (ar 9 (b + d))))))) 16 (upd zb ((lv, ov, ib) :: rs).length (emO (ar 9 (b + d))))) 17 (upd zz ((lv, ov, ib) :: rs).length 0)) 12 (xlv (ar 9) (ar 13) b pe base (ar 12) (d + 1))) 10 (xkdm (ar 9) (ar 13) b pe base (ar 10) (d + 1))) (va_up fl 7 (nI (((lv, ov, ib) :: rs).length + 1)))) hI (by rw [eL, eK]; first | done | rfl)
                      refine lv_iinc (v := nI (b + d + 1)) (lv' := [(7, .int (nI (b + d + 1))), (9, .int (nI (nxt lv (emD (ar 9 (b + d)))))), (8, .int (ar 9 (b + d))), (0, .ref (ad 0)), (1, .int (nI b)), (2, .int (nI pe)), (3, .int (nI base)), (4, .int (nI xi)), (5, .int (nI xe)), (6, .int (nI xv))]) hx hb d_MD_explicit_441 hl (k := 9) rfl (nI_add _ 1) (by decide) rfl (fun ls hl => ?_)
                      refine lv_goto (tgt := 24) hx hb d_MD_explicit_444 (by decide) ?_
                      exact ih24 (d + 1) (nxt lv (emD (ar 9 (b + d)))) (emO (ar 9 (b + d))) false ((lv, ov, ib) :: rs) xi xe xv (upd za ((lv, ov, ib) :: rs).length (nI (nxt lv (emD (ar 9 (b + d)))))) (upd zb ((lv, ov, ib) :: rs).length (emO (ar 9 (b + d)))) (upd zz ((lv, ov, ib) :: rs).length 0) (by omega) (by omega) (hX2) (hr2) _ _ _ hI (lv_sub hl [3, 4, 5, 6, 7, 8, 9, 0] rfl)
            · refine lv_iload hx hb d_MD_explicit_78 (lv_at hl 0 rfl) ?_
              refine lv_bipush (v := 17) hx hb d_MD_explicit_80 (by decide) ?_
              refine lv_icmp_ne (tgt := 89) hx hb d_MD_explicit_82 (by decide) (fun c82 => ?_) (fun c82 => ?_)
              · refine lv_iconst (v := 0) hx hb d_MD_explicit_89 (by decide) ?_
                refine q_as (y := emD (ar 9 (b + d))) (by unfold emD; rw [if_neg (fun z => z.elim c75 c82)]) ?_
                refine q_calliV [.int (emD (ar 9 (b + d)))] M hI (c_MD_next l g ad (va_up (va_up (va_up (va_up (va_up ar 15 za) 16 zb) 17 zz) 10 (upd (xkdm (ar 9) (ar 13) b pe base (ar 10) d) (b + d) (ar 9 (b + d)))) 12 (upd (xlv (ar 9) (ar 13) b pe base (ar 12) d) (b + d) (-1))) (va_up fl 7 (nI (rs.length + 1))) (emD (ar 9 (b + d))) lv ov ib rs (rfl) (hr) (by omega) (by omega) (emD_01 _)) ok_MD_next m5_126 m5_128 ms_56 0 rfl rfl rfl rfl hl.1 ⟨rfl, rfl⟩ ⟨Nat.le_of_ble_eq_true rfl, Nat.le_of_ble_eq_true rfl⟩ (Nat.le_of_ble_eq_true rfl) ⟨Nat.le_of_ble_eq_true rfl, Nat.le_of_ble_eq_true rfl⟩ d_MD_explicit_90 (fun r90 u90 H locs hp90 hI => ?_)
                refine q_as (y := nI (nxt lv (emD (ar 9 (b + d))))) hp90 ?_
                have hng9 := nxt_gt lv (emD (ar 9 (b + d)))
                refine lv_istore (lv' := [(9, .int (nI (nxt lv (emD (ar 9 (b + d)))))), (8, .int (ar 9 (b + d))), (0, .ref (ad 0)), (1, .int (nI b)), (2, .int (nI pe)), (3, .int (nI base)), (4, .int (nI xi)), (5, .int (nI xe)), (6, .int (nI xv)), (7, .int (nI (b + d)))]) hx hb d_MD_explicit_93 hl (by decide) rfl (fun ls hl => ?_)
                refine lv_iload hx hb d_MD_explicit_95 (lv_at hl 0 rfl) ?_
                refine lv_bipush (v := 125) hx hb d_MD_explicit_97 (by decide) ?_
                refine lv_icmp_gt (tgt := 145) hx hb d_MD_explicit_99 (by decide) (fun c99 => ?_) (fun c99 => ?_)
                · have c99 : 125 < nxt lv (emD (ar 9 (b + d))) := (nI_ltI (a := 125) (b := nxt lv (emD (ar 9 (b + d)))) (by omega) (by omega)).mp c99
                  have hnc : ¬ canO (nxt lv (emD (ar 9 (b + d)))) xi xe := fun z => by have := z.1; omega
                  refine lv_iload hx hb d_MD_explicit_145 (lv_at hl 6 rfl) ?_
                  refine lv_if_ne (tgt := 153) hx hb d_MD_explicit_147 (by decide) (fun c147 => ?_) (fun c147 => ?_)
                  · have c147 : ¬ xi = 0 := fun h => c147 ((nI_eq (a := xi) (b := 0) (by omega) (by omega)).mpr h)
                    have hX2 : xrun (ar 9) (ar 13) b pe base (d + 1) = ((lv, ov, ib) :: rs, xi, xe, xv) := by show xstep (ar 9) (ar 13) pe (b + d) (xrun (ar 9) (ar 13) b pe base d) = _; rw [hX, eX0]; first | done | (unfold xEmb; exact (if_neg hnc).trans (if_neg c147))
                    have hr2 := hr
                    refine lv_goto (tgt := 441) hx hb d_MD_explicit_153 (by decide) ?_
                    have eL : upd (xlv (ar 9) (ar 13) b pe base (ar 12) d) (b + d) (-1) = xlv (ar 9) (ar 13) b pe base (ar 12) (d + 1) := by show _ = upd _ _ (xlev (ar 9 (b + d)) base (xrun (ar 9) (ar 13) b pe base d)); rw [elv]; first | done | rfl | exact upd_uu
                    have eK : upd (xkdm (ar 9) (ar 13) b pe base (ar 10) d) (b + d) (ar 9 (b + d)) = xkdm (ar 9) (ar 13) b pe base (ar 10) (d + 1) := by show _ = upd _ _ (xkm (ar 9 (b + d)) (xrun (ar 9) (ar 13) b pe base d)); rw [ekn]; first | done | rfl | rw [upd_uu, pk_us]
                    have hI := CI.to (w2 := mw g ad (va_up (va_up (va_up (va_up (va_up ar 15 za) 16 zb) 17 zz) 12 (xlv (ar 9) (ar 13) b pe base (ar 12) (d + 1))) 10 (xkdm (ar 9) (ar 13) b pe base (ar 10) (d + 1))) (va_up fl 7 (nI (rs.length + 1)))) hI (by rw [eL, eK]; first | done | rfl)
                    refine lv_iinc (v := nI (b + d + 1)) (lv' := [(7, .int (nI (b + d + 1))), (9, .int (nI (nxt lv (emD (ar 9 (b + d)))))), (8, .int (ar 9 (b + d))), (0, .ref (ad 0)), (1, .int (nI b)), (2, .int (nI pe)), (3, .int (nI base)), (4, .int (nI xi)), (5, .int (nI xe)), (6, .int (nI xv))]) hx hb d_MD_explicit_441 hl (k := 9) rfl (nI_add _ 1) (by decide) rfl (fun ls hl => ?_)
                    refine lv_goto (tgt := 24) hx hb d_MD_explicit_444 (by decide) ?_
                    exact ih24 (d + 1) lv ov ib rs xi xe xv za zb zz (by omega) (by omega) (hX2) (hr2) _ _ _ hI (lv_sub hl [3, 4, 5, 6, 7, 8, 9, 0] rfl)
                  · have c147 : xi = 0 := (nI_eq (a := xi) (b := 0) (by omega) (by omega)).mp c147
                    have hX2 : xrun (ar 9) (ar 13) b pe base (d + 1) = ((lv, ov, ib) :: rs, xi, xe + 1, xv) := by show xstep (ar 9) (ar 13) pe (b + d) (xrun (ar 9) (ar 13) b pe base d) = _; rw [hX, eX0]; first | done | (unfold xEmb; exact (if_neg hnc).trans (if_pos c147))
                    have hr2 := hr
                    refine lv_iinc (v := nI (xe + 1)) (lv' := [(5, .int (nI (xe + 1))), (9, .int (nI (nxt lv (emD (ar 9 (b + d)))))), (8, .int (ar 9 (b + d))), (0, .ref (ad 0)), (1, .int (nI b)), (2, .int (nI pe)), (3, .int (nI base)), (4, .int (nI xi)), (6, .int (nI xv)), (7, .int (nI (b + d)))]) hx hb d_MD_explicit_150 hl (k := 7) rfl (nI_add _ 1) (by decide) rfl (fun ls hl => ?_)
                    refine lv_goto (tgt := 441) hx hb d_MD_explicit_153 (by decide) ?_
                    have eL : upd (xlv (ar 9) (ar 13) b pe base (ar 12) d) (b + d) (-1) = xlv (ar 9) (ar 13) b pe base (ar 12) (d + 1) := by show _ = upd _ _ (xlev (ar 9 (b + d)) base (xrun (ar 9) (ar 13) b pe base d)); rw [elv]; first | done | rfl | exact upd_uu
                    have eK : upd (xkdm (ar 9) (ar 13) b pe base (ar 10) d) (b + d) (ar 9 (b + d)) = xkdm (ar 9) (ar 13) b pe base (ar 10) (d + 1) := by show _ = upd _ _ (xkm (ar 9 (b + d)) (xrun (ar 9) (ar 13) b pe base d)); rw [ekn]; first | done | rfl | rw [upd_uu, pk_us]
                    have hI := CI.to (w2 := mw g ad (va_up (va_up (va_up (va_up (va_up ar 15 za) 16 zb) 17 zz) 12 (xlv (ar 9) (ar 13) b pe base (ar 12) (d + 1))) 10 (xkdm (ar 9) (ar 13) b pe base (ar 10) (d + 1))) (va_up fl 7 (nI (rs.length + 1)))) hI (by rw [eL, eK]; first | done | rfl)
                    refine lv_iinc (v := nI (b + d + 1)) (lv' := [(7, .int (nI (b + d + 1))), (5, .int (nI (xe + 1))), (9, .int (nI (nxt lv (emD (ar 9 (b + d)))))), (8, .int (ar 9 (b + d))), (0, .ref (ad 0)), (1, .int (nI b)), (2, .int (nI pe)), (3, .int (nI base)), (4, .int (nI xi)), (6, .int (nI xv))]) hx hb d_MD_explicit_441 hl (k := 9) rfl (nI_add _ 1) (by decide) rfl (fun ls hl => ?_)
                    refine lv_goto (tgt := 24) hx hb d_MD_explicit_444 (by decide) ?_
                    exact ih24 (d + 1) lv ov ib rs xi (xe + 1) xv za zb zz (by omega) (by omega) (hX2) (hr2) _ _ _ hI (lv_sub hl [4, 5, 6, 7, 8, 1, 9, 0] rfl)
                · have c99 : ¬ 125 < nxt lv (emD (ar 9 (b + d))) := fun h => c99 ((nI_ltI (a := 125) (b := nxt lv (emD (ar 9 (b + d)))) (by omega) (by omega)).mpr h)
                  refine lv_iload hx hb d_MD_explicit_102 (lv_at hl 6 rfl) ?_
                  refine lv_if_ne (tgt := 145) hx hb d_MD_explicit_104 (by decide) (fun c104 => ?_) (fun c104 => ?_)
                  · have c104 : ¬ xi = 0 := fun h => c104 ((nI_eq (a := xi) (b := 0) (by omega) (by omega)).mpr h)
                    have hnc : ¬ canO (nxt lv (emD (ar 9 (b + d)))) xi xe := fun z => c104 z.2.1
                    refine lv_iload hx hb d_MD_explicit_145 (lv_at hl 6 rfl) ?_
                    refine lv_if_ne (tgt := 153) hx hb d_MD_explicit_147 (by decide) (fun c147 => ?_) (fun c147 => ?_)
                    · have c147 : ¬ xi = 0 := fun h => c147 ((nI_eq (a := xi) (b := 0) (by omega) (by omega)).mpr h)
                      have hX2 : xrun (ar 9) (ar 13) b pe base (d + 1) = ((lv, ov, ib) :: rs, xi, xe, xv) := by show xstep (ar 9) (ar 13) pe (b + d) (xrun (ar 9) (ar 13) b pe base d) = _; rw [hX, eX0]; first | done | (unfold xEmb; exact (if_neg hnc).trans (if_neg c147))
                      have hr2 := hr
                      refine lv_goto (tgt := 441) hx hb d_MD_explicit_153 (by decide) ?_
                      have eL : upd (xlv (ar 9) (ar 13) b pe base (ar 12) d) (b + d) (-1) = xlv (ar 9) (ar 13) b pe base (ar 12) (d + 1) := by show _ = upd _ _ (xlev (ar 9 (b + d)) base (xrun (ar 9) (ar 13) b pe base d)); rw [elv]; first | done | rfl | exact upd_uu
                      have eK : upd (xkdm (ar 9) (ar 13) b pe base (ar 10) d) (b + d) (ar 9 (b + d)) = xkdm (ar 9) (ar 13) b pe base (ar 10) (d + 1) := by show _ = upd _ _ (xkm (ar 9 (b + d)) (xrun (ar 9) (ar 13) b pe base d)); rw [ekn]; first | done | rfl | rw [upd_uu, pk_us]
                      have hI := CI.to (w2 := mw g ad (va_up (va_up (va_up (va_up (va_up ar 15 za) 16 zb) 17 zz) 12 (xlv (ar 9) (ar 13) b pe base (ar 12) (d + 1))) 10 (xkdm (ar 9) (ar 13) b pe base (ar 10) (d + 1))) (va_up fl 7 (nI (rs.length + 1)))) hI (by rw [eL, eK]; first | done | rfl)
                      refine lv_iinc (v := nI (b + d + 1)) (lv' := [(7, .int (nI (b + d + 1))), (9, .int (nI (nxt lv (emD (ar 9 (b + d)))))), (8, .int (ar 9 (b + d))), (0, .ref (ad 0)), (1, .int (nI b)), (2, .int (nI pe)), (3, .int (nI base)), (4, .int (nI xi)), (5, .int (nI xe)), (6, .int (nI xv))]) hx hb d_MD_explicit_441 hl (k := 9) rfl (nI_add _ 1) (by decide) rfl (fun ls hl => ?_)
                      refine lv_goto (tgt := 24) hx hb d_MD_explicit_444 (by decide) ?_
                      exact ih24 (d + 1) lv ov ib rs xi xe xv za zb zz (by omega) (by omega) (hX2) (hr2) _ _ _ hI (lv_sub hl [3, 4, 5, 6, 7, 8, 9, 0] rfl)
                    · have c147 : xi = 0 := (nI_eq (a := xi) (b := 0) (by omega) (by omega)).mp c147
                      have hX2 : xrun (ar 9) (ar 13) b pe base (d + 1) = ((lv, ov, ib) :: rs, xi, xe + 1, xv) := by show xstep (ar 9) (ar 13) pe (b + d) (xrun (ar 9) (ar 13) b pe base d) = _; rw [hX, eX0]; first | done | (unfold xEmb; exact (if_neg hnc).trans (if_pos c147))
                      have hr2 := hr
                      refine lv_iinc (v := nI (xe + 1)) (lv' := [(5, .int (nI (xe + 1))), (9, .int (nI (nxt lv (emD (ar 9 (b + d)))))), (8, .int (ar 9 (b + d))), (0, .ref (ad 0)), (1, .int (nI b)), (2, .int (nI pe)), (3, .int (nI base)), (4, .int (nI xi)), (6, .int (nI xv)), (7, .int (nI (b + d)))]) hx hb d_MD_explicit_150 hl (k := 7) rfl (nI_add _ 1) (by decide) rfl (fun ls hl => ?_)
                      refine lv_goto (tgt := 441) hx hb d_MD_explicit_153 (by decide) ?_
                      have eL : upd (xlv (ar 9) (ar 13) b pe base (ar 12) d) (b + d) (-1) = xlv (ar 9) (ar 13) b pe base (ar 12) (d + 1) := by show _ = upd _ _ (xlev (ar 9 (b + d)) base (xrun (ar 9) (ar 13) b pe base d)); rw [elv]; first | done | rfl | exact upd_uu
                      have eK : upd (xkdm (ar 9) (ar 13) b pe base (ar 10) d) (b + d) (ar 9 (b + d)) = xkdm (ar 9) (ar 13) b pe base (ar 10) (d + 1) := by show _ = upd _ _ (xkm (ar 9 (b + d)) (xrun (ar 9) (ar 13) b pe base d)); rw [ekn]; first | done | rfl | rw [upd_uu, pk_us]
                      have hI := CI.to (w2 := mw g ad (va_up (va_up (va_up (va_up (va_up ar 15 za) 16 zb) 17 zz) 12 (xlv (ar 9) (ar 13) b pe base (ar 12) (d + 1))) 10 (xkdm (ar 9) (ar 13) b pe base (ar 10) (d + 1))) (va_up fl 7 (nI (rs.length + 1)))) hI (by rw [eL, eK]; first | done | rfl)
                      refine lv_iinc (v := nI (b + d + 1)) (lv' := [(7, .int (nI (b + d + 1))), (5, .int (nI (xe + 1))), (9, .int (nI (nxt lv (emD (ar 9 (b + d)))))), (8, .int (ar 9 (b + d))), (0, .ref (ad 0)), (1, .int (nI b)), (2, .int (nI pe)), (3, .int (nI base)), (4, .int (nI xi)), (6, .int (nI xv))]) hx hb d_MD_explicit_441 hl (k := 9) rfl (nI_add _ 1) (by decide) rfl (fun ls hl => ?_)
                      refine lv_goto (tgt := 24) hx hb d_MD_explicit_444 (by decide) ?_
                      exact ih24 (d + 1) lv ov ib rs xi (xe + 1) xv za zb zz (by omega) (by omega) (hX2) (hr2) _ _ _ hI (lv_sub hl [4, 5, 6, 7, 8, 1, 9, 0] rfl)
                  · have c104 : xi = 0 := (nI_eq (a := xi) (b := 0) (by omega) (by omega)).mp c104
                    refine lv_iload hx hb d_MD_explicit_107 (lv_at hl 7 rfl) ?_
                    refine lv_if_ne (tgt := 145) hx hb d_MD_explicit_109 (by decide) (fun c109 => ?_) (fun c109 => ?_)
                    · have c109 : ¬ xe = 0 := fun h => c109 ((nI_eq (a := xe) (b := 0) (by omega) (by omega)).mpr h)
                      have hnc : ¬ canO (nxt lv (emD (ar 9 (b + d)))) xi xe := fun z => c109 z.2.2
                      refine lv_iload hx hb d_MD_explicit_145 (lv_at hl 6 rfl) ?_
                      refine lv_if_ne (tgt := 153) hx hb d_MD_explicit_147 (by decide) (fun c147 => ?_) (fun c147 => ?_)
                      · have c147 : ¬ xi = 0 := fun h => c147 ((nI_eq (a := xi) (b := 0) (by omega) (by omega)).mpr h)
                        have hX2 : xrun (ar 9) (ar 13) b pe base (d + 1) = ((lv, ov, ib) :: rs, xi, xe, xv) := by show xstep (ar 9) (ar 13) pe (b + d) (xrun (ar 9) (ar 13) b pe base d) = _; rw [hX, eX0]; first | done | (unfold xEmb; exact (if_neg hnc).trans (if_neg c147))
                        have hr2 := hr
                        refine lv_goto (tgt := 441) hx hb d_MD_explicit_153 (by decide) ?_
                        have eL : upd (xlv (ar 9) (ar 13) b pe base (ar 12) d) (b + d) (-1) = xlv (ar 9) (ar 13) b pe base (ar 12) (d + 1) := by show _ = upd _ _ (xlev (ar 9 (b + d)) base (xrun (ar 9) (ar 13) b pe base d)); rw [elv]; first | done | rfl | exact upd_uu
                        have eK : upd (xkdm (ar 9) (ar 13) b pe base (ar 10) d) (b + d) (ar 9 (b + d)) = xkdm (ar 9) (ar 13) b pe base (ar 10) (d + 1) := by show _ = upd _ _ (xkm (ar 9 (b + d)) (xrun (ar 9) (ar 13) b pe base d)); rw [ekn]; first | done | rfl | rw [upd_uu, pk_us]
                        have hI := CI.to (w2 := mw g ad (va_up (va_up (va_up (va_up (va_up ar 15 za) 16 zb) 17 zz) 12 (xlv (ar 9) (ar 13) b pe base (ar 12) (d + 1))) 10 (xkdm (ar 9) (ar 13) b pe base (ar 10) (d + 1))) (va_up fl 7 (nI (rs.length + 1)))) hI (by rw [eL, eK]; first | done | rfl)
                        refine lv_iinc (v := nI (b + d + 1)) (lv' := [(7, .int (nI (b + d + 1))), (9, .int (nI (nxt lv (emD (ar 9 (b + d)))))), (8, .int (ar 9 (b + d))), (0, .ref (ad 0)), (1, .int (nI b)), (2, .int (nI pe)), (3, .int (nI base)), (4, .int (nI xi)), (5, .int (nI xe)), (6, .int (nI xv))]) hx hb d_MD_explicit_441 hl (k := 9) rfl (nI_add _ 1) (by decide) rfl (fun ls hl => ?_)
                        refine lv_goto (tgt := 24) hx hb d_MD_explicit_444 (by decide) ?_
                        exact ih24 (d + 1) lv ov ib rs xi xe xv za zb zz (by omega) (by omega) (hX2) (hr2) _ _ _ hI (lv_sub hl [3, 4, 5, 6, 7, 8, 9, 0] rfl)
                      · have c147 : xi = 0 := (nI_eq (a := xi) (b := 0) (by omega) (by omega)).mp c147
                        have hX2 : xrun (ar 9) (ar 13) b pe base (d + 1) = ((lv, ov, ib) :: rs, xi, xe + 1, xv) := by show xstep (ar 9) (ar 13) pe (b + d) (xrun (ar 9) (ar 13) b pe base d) = _; rw [hX, eX0]; first | done | (unfold xEmb; exact (if_neg hnc).trans (if_pos c147))
                        have hr2 := hr
                        refine lv_iinc (v := nI (xe + 1)) (lv' := [(5, .int (nI (xe + 1))), (9, .int (nI (nxt lv (emD (ar 9 (b + d)))))), (8, .int (ar 9 (b + d))), (0, .ref (ad 0)), (1, .int (nI b)), (2, .int (nI pe)), (3, .int (nI base)), (4, .int (nI xi)), (6, .int (nI xv)), (7, .int (nI (b + d)))]) hx hb d_MD_explicit_150 hl (k := 7) rfl (nI_add _ 1) (by decide) rfl (fun ls hl => ?_)
                        refine lv_goto (tgt := 441) hx hb d_MD_explicit_153 (by decide) ?_
                        have eL : upd (xlv (ar 9) (ar 13) b pe base (ar 12) d) (b + d) (-1) = xlv (ar 9) (ar 13) b pe base (ar 12) (d + 1) := by show _ = upd _ _ (xlev (ar 9 (b + d)) base (xrun (ar 9) (ar 13) b pe base d)); rw [elv]; first | done | rfl | exact upd_uu
                        have eK : upd (xkdm (ar 9) (ar 13) b pe base (ar 10) d) (b + d) (ar 9 (b + d)) = xkdm (ar 9) (ar 13) b pe base (ar 10) (d + 1) := by show _ = upd _ _ (xkm (ar 9 (b + d)) (xrun (ar 9) (ar 13) b pe base d)); rw [ekn]; first | done | rfl | rw [upd_uu, pk_us]
                        have hI := CI.to (w2 := mw g ad (va_up (va_up (va_up (va_up (va_up ar 15 za) 16 zb) 17 zz) 12 (xlv (ar 9) (ar 13) b pe base (ar 12) (d + 1))) 10 (xkdm (ar 9) (ar 13) b pe base (ar 10) (d + 1))) (va_up fl 7 (nI (rs.length + 1)))) hI (by rw [eL, eK]; first | done | rfl)
                        refine lv_iinc (v := nI (b + d + 1)) (lv' := [(7, .int (nI (b + d + 1))), (5, .int (nI (xe + 1))), (9, .int (nI (nxt lv (emD (ar 9 (b + d)))))), (8, .int (ar 9 (b + d))), (0, .ref (ad 0)), (1, .int (nI b)), (2, .int (nI pe)), (3, .int (nI base)), (4, .int (nI xi)), (6, .int (nI xv))]) hx hb d_MD_explicit_441 hl (k := 9) rfl (nI_add _ 1) (by decide) rfl (fun ls hl => ?_)
                        refine lv_goto (tgt := 24) hx hb d_MD_explicit_444 (by decide) ?_
                        exact ih24 (d + 1) lv ov ib rs xi (xe + 1) xv za zb zz (by omega) (by omega) (hX2) (hr2) _ _ _ hI (lv_sub hl [4, 5, 6, 7, 8, 1, 9, 0] rfl)
                    · have c109 : xe = 0 := (nI_eq (a := xe) (b := 0) (by omega) (by omega)).mp c109
                      have hc : canO (nxt lv (emD (ar 9 (b + d)))) xi xe := ⟨by omega, c104, c109⟩
                      refine lv_aload_n hx hb d_MD_explicit_112 rfl (lv_at hl 2 rfl) ?_
                      refine lv_iload hx hb d_MD_explicit_113 (lv_at hl 0 rfl) ?_
                      refine lv_iload hx hb d_MD_explicit_115 (lv_at hl 1 rfl) ?_
                      refine lv_bipush (v := 17) hx hb d_MD_explicit_117 (by decide) ?_
                      refine lv_icmp_ne (tgt := 126) hx hb d_MD_explicit_119 (by decide) (fun c119 => ?_) (fun c119 => ?_)
                      · refine lv_iload hx hb d_MD_explicit_126 (lv_at hl 1 rfl) ?_
                        refine lv_bipush (v := 15) hx hb d_MD_explicit_128 (by decide) ?_
                        refine lv_icmp_ne (tgt := 137) hx hb d_MD_explicit_130 (by decide) (fun c130 => ?_) (fun c130 => ?_)
                        · refine lv_iconst (v := (-1)) hx hb d_MD_explicit_137 (by decide) ?_
                          refine q_as (y := emO (ar 9 (b + d))) (by unfold emO; rw [if_neg c119, if_neg c130]) ?_
                          refine lv_iconst (v := 0) hx hb d_MD_explicit_138 (by decide) ?_
                          refine q_callvV [.int (nI (nxt lv (emD (ar 9 (b + d))))), .int (emO (ar 9 (b + d))), .int 0] M hI (c_MD_push l g ad (va_up (va_up (va_up (va_up (va_up ar 15 za) 16 zb) 17 zz) 10 (upd (xkdm (ar 9) (ar 13) b pe base (ar 10) d) (b + d) (ar 9 (b + d)))) 12 (upd (xlv (ar 9) (ar 13) b pe base (ar 12) d) (b + d) (-1))) (va_up fl 7 (nI (rs.length + 1))) (nxt lv (emD (ar 9 (b + d)))) (emO (ar 9 (b + d))) 0 ((lv, ov, ib) :: rs) (rfl) (by simp only [List.length_cons]; omega) (rfl)) ok_MD_push m5_122 m5_124 ms_55 0 rfl rfl rfl rfl hl.1 ⟨rfl, rfl⟩ ⟨Nat.le_of_ble_eq_true rfl, Nat.le_of_ble_eq_true rfl⟩ (Nat.le_of_ble_eq_true rfl) ⟨Nat.le_of_ble_eq_true rfl, Nat.le_of_ble_eq_true rfl⟩ d_MD_explicit_139 (fun u139 H locs hp139 hI => ?_)
                          have hI : CI g A s (mw g ad (va_up (va_up (va_up (va_up (va_up ar 10 (upd (xkdm (ar 9) (ar 13) b pe base (ar 10) d) (b + d) (ar 9 (b + d)))) 12 (upd (xlv (ar 9) (ar 13) b pe base (ar 12) d) (b + d) (-1))) 15 (upd za ((lv, ov, ib) :: rs).length (nI (nxt lv (emD (ar 9 (b + d))))))) 16 (upd zb ((lv, ov, ib) :: rs).length (emO (ar 9 (b + d))))) 17 (upd zz ((lv, ov, ib) :: rs).length 0)) (va_up fl 7 (nI (((lv, ov, ib) :: rs).length + 1)))) H locs := hI
                          have hX2 : xrun (ar 9) (ar 13) b pe base (d + 1) = ((nxt lv (emD (ar 9 (b + d))), emO (ar 9 (b + d)), false) :: (lv, ov, ib) :: rs, xi, xe, xv) := by show xstep (ar 9) (ar 13) pe (b + d) (xrun (ar 9) (ar 13) b pe base d) = _; rw [hX, eX0]; first | done | (unfold xEmb; exact if_pos hc)
                          have hr2 : xrel (upd za ((lv, ov, ib) :: rs).length (nI (nxt lv (emD (ar 9 (b + d)))))) (upd zb ((lv, ov, ib) :: rs).length (emO (ar 9 (b + d)))) (upd zz ((lv, ov, ib) :: rs).length 0) ((nxt lv (emD (ar 9 (b + d))), emO (ar 9 (b + d)), false) :: (lv, ov, ib) :: rs) := xrel_push (x := (nxt lv (emD (ar 9 (b + d))), emO (ar 9 (b + d)), false)) hr
                          refine lv_goto (tgt := 153) hx hb d_MD_explicit_142 (by decide) ?_
                          refine lv_goto (tgt := 441) hx hb d_MD_explicit_153 (by decide) ?_
                          have eL : upd (xlv (ar 9) (ar 13) b pe base (ar 12) d) (b + d) (-1) = xlv (ar 9) (ar 13) b pe base (ar 12) (d + 1) := by show _ = upd _ _ (xlev (ar 9 (b + d)) base (xrun (ar 9) (ar 13) b pe base d)); rw [elv]; first | done | rfl | exact upd_uu
                          have eK : upd (xkdm (ar 9) (ar 13) b pe base (ar 10) d) (b + d) (ar 9 (b + d)) = xkdm (ar 9) (ar 13) b pe base (ar 10) (d + 1) := by show _ = upd _ _ (xkm (ar 9 (b + d)) (xrun (ar 9) (ar 13) b pe base d)); rw [ekn]; first | done | rfl | rw [upd_uu, pk_us]
                          have hI := CI.to (w2 := mw g ad (va_up (va_up (va_up (va_up (va_up ar 15 (upd za ((lv, ov, ib) :: rs).length (nI (nxt lv (emD (ar 9 (b + d))))))) 16 (upd zb ((lv, ov, ib) :: rs).length (emO (ar 9 (b + d))))) 17 (upd zz ((lv, ov, ib) :: rs).length 0)) 12 (xlv (ar 9) (ar 13) b pe base (ar 12) (d + 1))) 10 (xkdm (ar 9) (ar 13) b pe base (ar 10) (d + 1))) (va_up fl 7 (nI (((lv, ov, ib) :: rs).length + 1)))) hI (by rw [eL, eK]; first | done | rfl)
                          refine lv_iinc (v := nI (b + d + 1)) (lv' := [(7, .int (nI (b + d + 1))), (9, .int (nI (nxt lv (emD (ar 9 (b + d)))))), (8, .int (ar 9 (b + d))), (0, .ref (ad 0)), (1, .int (nI b)), (2, .int (nI pe)), (3, .int (nI base)), (4, .int (nI xi)), (5, .int (nI xe)), (6, .int (nI xv))]) hx hb d_MD_explicit_441 hl (k := 9) rfl (nI_add _ 1) (by decide) rfl (fun ls hl => ?_)
                          refine lv_goto (tgt := 24) hx hb d_MD_explicit_444 (by decide) ?_
                          exact ih24 (d + 1) (nxt lv (emD (ar 9 (b + d)))) (emO (ar 9 (b + d))) false ((lv, ov, ib) :: rs) xi xe xv (upd za ((lv, ov, ib) :: rs).length (nI (nxt lv (emD (ar 9 (b + d)))))) (upd zb ((lv, ov, ib) :: rs).length (emO (ar 9 (b + d)))) (upd zz ((lv, ov, ib) :: rs).length 0) (by omega) (by omega) (hX2) (hr2) _ _ _ hI (lv_sub hl [3, 4, 5, 6, 7, 8, 9, 0] rfl)
                        · refine lv_iconst (v := 0) hx hb d_MD_explicit_133 (by decide) ?_
                          refine q_as (y := emO (ar 9 (b + d))) (by unfold emO; rw [if_neg c119, if_pos c130]) ?_
                          refine lv_goto (tgt := 138) hx hb d_MD_explicit_134 (by decide) ?_
                          refine lv_iconst (v := 0) hx hb d_MD_explicit_138 (by decide) ?_
                          refine q_callvV [.int (nI (nxt lv (emD (ar 9 (b + d))))), .int (emO (ar 9 (b + d))), .int 0] M hI (c_MD_push l g ad (va_up (va_up (va_up (va_up (va_up ar 15 za) 16 zb) 17 zz) 10 (upd (xkdm (ar 9) (ar 13) b pe base (ar 10) d) (b + d) (ar 9 (b + d)))) 12 (upd (xlv (ar 9) (ar 13) b pe base (ar 12) d) (b + d) (-1))) (va_up fl 7 (nI (rs.length + 1))) (nxt lv (emD (ar 9 (b + d)))) (emO (ar 9 (b + d))) 0 ((lv, ov, ib) :: rs) (rfl) (by simp only [List.length_cons]; omega) (rfl)) ok_MD_push m5_122 m5_124 ms_55 0 rfl rfl rfl rfl hl.1 ⟨rfl, rfl⟩ ⟨Nat.le_of_ble_eq_true rfl, Nat.le_of_ble_eq_true rfl⟩ (Nat.le_of_ble_eq_true rfl) ⟨Nat.le_of_ble_eq_true rfl, Nat.le_of_ble_eq_true rfl⟩ d_MD_explicit_139 (fun u139 H locs hp139 hI => ?_)
                          have hI : CI g A s (mw g ad (va_up (va_up (va_up (va_up (va_up ar 10 (upd (xkdm (ar 9) (ar 13) b pe base (ar 10) d) (b + d) (ar 9 (b + d)))) 12 (upd (xlv (ar 9) (ar 13) b pe base (ar 12) d) (b + d) (-1))) 15 (upd za ((lv, ov, ib) :: rs).length (nI (nxt lv (emD (ar 9 (b + d))))))) 16 (upd zb ((lv, ov, ib) :: rs).length (emO (ar 9 (b + d))))) 17 (upd zz ((lv, ov, ib) :: rs).length 0)) (va_up fl 7 (nI (((lv, ov, ib) :: rs).length + 1)))) H locs := hI
                          have hX2 : xrun (ar 9) (ar 13) b pe base (d + 1) = ((nxt lv (emD (ar 9 (b + d))), emO (ar 9 (b + d)), false) :: (lv, ov, ib) :: rs, xi, xe, xv) := by show xstep (ar 9) (ar 13) pe (b + d) (xrun (ar 9) (ar 13) b pe base d) = _; rw [hX, eX0]; first | done | (unfold xEmb; exact if_pos hc)
                          have hr2 : xrel (upd za ((lv, ov, ib) :: rs).length (nI (nxt lv (emD (ar 9 (b + d)))))) (upd zb ((lv, ov, ib) :: rs).length (emO (ar 9 (b + d)))) (upd zz ((lv, ov, ib) :: rs).length 0) ((nxt lv (emD (ar 9 (b + d))), emO (ar 9 (b + d)), false) :: (lv, ov, ib) :: rs) := xrel_push (x := (nxt lv (emD (ar 9 (b + d))), emO (ar 9 (b + d)), false)) hr
                          refine lv_goto (tgt := 153) hx hb d_MD_explicit_142 (by decide) ?_
                          refine lv_goto (tgt := 441) hx hb d_MD_explicit_153 (by decide) ?_
                          have eL : upd (xlv (ar 9) (ar 13) b pe base (ar 12) d) (b + d) (-1) = xlv (ar 9) (ar 13) b pe base (ar 12) (d + 1) := by show _ = upd _ _ (xlev (ar 9 (b + d)) base (xrun (ar 9) (ar 13) b pe base d)); rw [elv]; first | done | rfl | exact upd_uu
                          have eK : upd (xkdm (ar 9) (ar 13) b pe base (ar 10) d) (b + d) (ar 9 (b + d)) = xkdm (ar 9) (ar 13) b pe base (ar 10) (d + 1) := by show _ = upd _ _ (xkm (ar 9 (b + d)) (xrun (ar 9) (ar 13) b pe base d)); rw [ekn]; first | done | rfl | rw [upd_uu, pk_us]
                          have hI := CI.to (w2 := mw g ad (va_up (va_up (va_up (va_up (va_up ar 15 (upd za ((lv, ov, ib) :: rs).length (nI (nxt lv (emD (ar 9 (b + d))))))) 16 (upd zb ((lv, ov, ib) :: rs).length (emO (ar 9 (b + d))))) 17 (upd zz ((lv, ov, ib) :: rs).length 0)) 12 (xlv (ar 9) (ar 13) b pe base (ar 12) (d + 1))) 10 (xkdm (ar 9) (ar 13) b pe base (ar 10) (d + 1))) (va_up fl 7 (nI (((lv, ov, ib) :: rs).length + 1)))) hI (by rw [eL, eK]; first | done | rfl)
                          refine lv_iinc (v := nI (b + d + 1)) (lv' := [(7, .int (nI (b + d + 1))), (9, .int (nI (nxt lv (emD (ar 9 (b + d)))))), (8, .int (ar 9 (b + d))), (0, .ref (ad 0)), (1, .int (nI b)), (2, .int (nI pe)), (3, .int (nI base)), (4, .int (nI xi)), (5, .int (nI xe)), (6, .int (nI xv))]) hx hb d_MD_explicit_441 hl (k := 9) rfl (nI_add _ 1) (by decide) rfl (fun ls hl => ?_)
                          refine lv_goto (tgt := 24) hx hb d_MD_explicit_444 (by decide) ?_
                          exact ih24 (d + 1) (nxt lv (emD (ar 9 (b + d)))) (emO (ar 9 (b + d))) false ((lv, ov, ib) :: rs) xi xe xv (upd za ((lv, ov, ib) :: rs).length (nI (nxt lv (emD (ar 9 (b + d)))))) (upd zb ((lv, ov, ib) :: rs).length (emO (ar 9 (b + d)))) (upd zz ((lv, ov, ib) :: rs).length 0) (by omega) (by omega) (hX2) (hr2) _ _ _ hI (lv_sub hl [3, 4, 5, 6, 7, 8, 9, 0] rfl)
                      · refine lv_iconst (v := 1) hx hb d_MD_explicit_122 (by decide) ?_
                        refine q_as (y := emO (ar 9 (b + d))) (by unfold emO; rw [if_pos c119]) ?_
                        refine lv_goto (tgt := 138) hx hb d_MD_explicit_123 (by decide) ?_
                        refine lv_iconst (v := 0) hx hb d_MD_explicit_138 (by decide) ?_
                        refine q_callvV [.int (nI (nxt lv (emD (ar 9 (b + d))))), .int (emO (ar 9 (b + d))), .int 0] M hI (c_MD_push l g ad (va_up (va_up (va_up (va_up (va_up ar 15 za) 16 zb) 17 zz) 10 (upd (xkdm (ar 9) (ar 13) b pe base (ar 10) d) (b + d) (ar 9 (b + d)))) 12 (upd (xlv (ar 9) (ar 13) b pe base (ar 12) d) (b + d) (-1))) (va_up fl 7 (nI (rs.length + 1))) (nxt lv (emD (ar 9 (b + d)))) (emO (ar 9 (b + d))) 0 ((lv, ov, ib) :: rs) (rfl) (by simp only [List.length_cons]; omega) (rfl)) ok_MD_push m5_122 m5_124 ms_55 0 rfl rfl rfl rfl hl.1 ⟨rfl, rfl⟩ ⟨Nat.le_of_ble_eq_true rfl, Nat.le_of_ble_eq_true rfl⟩ (Nat.le_of_ble_eq_true rfl) ⟨Nat.le_of_ble_eq_true rfl, Nat.le_of_ble_eq_true rfl⟩ d_MD_explicit_139 (fun u139 H locs hp139 hI => ?_)
                        have hI : CI g A s (mw g ad (va_up (va_up (va_up (va_up (va_up ar 10 (upd (xkdm (ar 9) (ar 13) b pe base (ar 10) d) (b + d) (ar 9 (b + d)))) 12 (upd (xlv (ar 9) (ar 13) b pe base (ar 12) d) (b + d) (-1))) 15 (upd za ((lv, ov, ib) :: rs).length (nI (nxt lv (emD (ar 9 (b + d))))))) 16 (upd zb ((lv, ov, ib) :: rs).length (emO (ar 9 (b + d))))) 17 (upd zz ((lv, ov, ib) :: rs).length 0)) (va_up fl 7 (nI (((lv, ov, ib) :: rs).length + 1)))) H locs := hI
                        have hX2 : xrun (ar 9) (ar 13) b pe base (d + 1) = ((nxt lv (emD (ar 9 (b + d))), emO (ar 9 (b + d)), false) :: (lv, ov, ib) :: rs, xi, xe, xv) := by show xstep (ar 9) (ar 13) pe (b + d) (xrun (ar 9) (ar 13) b pe base d) = _; rw [hX, eX0]; first | done | (unfold xEmb; exact if_pos hc)
                        have hr2 : xrel (upd za ((lv, ov, ib) :: rs).length (nI (nxt lv (emD (ar 9 (b + d)))))) (upd zb ((lv, ov, ib) :: rs).length (emO (ar 9 (b + d)))) (upd zz ((lv, ov, ib) :: rs).length 0) ((nxt lv (emD (ar 9 (b + d))), emO (ar 9 (b + d)), false) :: (lv, ov, ib) :: rs) := xrel_push (x := (nxt lv (emD (ar 9 (b + d))), emO (ar 9 (b + d)), false)) hr
                        refine lv_goto (tgt := 153) hx hb d_MD_explicit_142 (by decide) ?_
                        refine lv_goto (tgt := 441) hx hb d_MD_explicit_153 (by decide) ?_
                        have eL : upd (xlv (ar 9) (ar 13) b pe base (ar 12) d) (b + d) (-1) = xlv (ar 9) (ar 13) b pe base (ar 12) (d + 1) := by show _ = upd _ _ (xlev (ar 9 (b + d)) base (xrun (ar 9) (ar 13) b pe base d)); rw [elv]; first | done | rfl | exact upd_uu
                        have eK : upd (xkdm (ar 9) (ar 13) b pe base (ar 10) d) (b + d) (ar 9 (b + d)) = xkdm (ar 9) (ar 13) b pe base (ar 10) (d + 1) := by show _ = upd _ _ (xkm (ar 9 (b + d)) (xrun (ar 9) (ar 13) b pe base d)); rw [ekn]; first | done | rfl | rw [upd_uu, pk_us]
                        have hI := CI.to (w2 := mw g ad (va_up (va_up (va_up (va_up (va_up ar 15 (upd za ((lv, ov, ib) :: rs).length (nI (nxt lv (emD (ar 9 (b + d))))))) 16 (upd zb ((lv, ov, ib) :: rs).length (emO (ar 9 (b + d))))) 17 (upd zz ((lv, ov, ib) :: rs).length 0)) 12 (xlv (ar 9) (ar 13) b pe base (ar 12) (d + 1))) 10 (xkdm (ar 9) (ar 13) b pe base (ar 10) (d + 1))) (va_up fl 7 (nI (((lv, ov, ib) :: rs).length + 1)))) hI (by rw [eL, eK]; first | done | rfl)
                        refine lv_iinc (v := nI (b + d + 1)) (lv' := [(7, .int (nI (b + d + 1))), (9, .int (nI (nxt lv (emD (ar 9 (b + d)))))), (8, .int (ar 9 (b + d))), (0, .ref (ad 0)), (1, .int (nI b)), (2, .int (nI pe)), (3, .int (nI base)), (4, .int (nI xi)), (5, .int (nI xe)), (6, .int (nI xv))]) hx hb d_MD_explicit_441 hl (k := 9) rfl (nI_add _ 1) (by decide) rfl (fun ls hl => ?_)
                        refine lv_goto (tgt := 24) hx hb d_MD_explicit_444 (by decide) ?_
                        exact ih24 (d + 1) (nxt lv (emD (ar 9 (b + d)))) (emO (ar 9 (b + d))) false ((lv, ov, ib) :: rs) xi xe xv (upd za ((lv, ov, ib) :: rs).length (nI (nxt lv (emD (ar 9 (b + d)))))) (upd zb ((lv, ov, ib) :: rs).length (emO (ar 9 (b + d)))) (upd zz ((lv, ov, ib) :: rs).length 0) (by omega) (by omega) (hX2) (hr2) _ _ _ hI (lv_sub hl [3, 4, 5, 6, 7, 8, 9, 0] rfl)
              · refine lv_iconst (v := 1) hx hb d_MD_explicit_85 (by decide) ?_
                refine q_as (y := emD (ar 9 (b + d))) (by unfold emD; rw [if_pos]; first | exact Or.inl c75 | exact Or.inr c82) ?_
                refine lv_goto (tgt := 90) hx hb d_MD_explicit_86 (by decide) ?_
                refine q_calliV [.int (emD (ar 9 (b + d)))] M hI (c_MD_next l g ad (va_up (va_up (va_up (va_up (va_up ar 15 za) 16 zb) 17 zz) 10 (upd (xkdm (ar 9) (ar 13) b pe base (ar 10) d) (b + d) (ar 9 (b + d)))) 12 (upd (xlv (ar 9) (ar 13) b pe base (ar 12) d) (b + d) (-1))) (va_up fl 7 (nI (rs.length + 1))) (emD (ar 9 (b + d))) lv ov ib rs (rfl) (hr) (by omega) (by omega) (emD_01 _)) ok_MD_next m5_126 m5_128 ms_56 0 rfl rfl rfl rfl hl.1 ⟨rfl, rfl⟩ ⟨Nat.le_of_ble_eq_true rfl, Nat.le_of_ble_eq_true rfl⟩ (Nat.le_of_ble_eq_true rfl) ⟨Nat.le_of_ble_eq_true rfl, Nat.le_of_ble_eq_true rfl⟩ d_MD_explicit_90 (fun r90 u90 H locs hp90 hI => ?_)
                refine q_as (y := nI (nxt lv (emD (ar 9 (b + d))))) hp90 ?_
                have hng9 := nxt_gt lv (emD (ar 9 (b + d)))
                refine lv_istore (lv' := [(9, .int (nI (nxt lv (emD (ar 9 (b + d)))))), (8, .int (ar 9 (b + d))), (0, .ref (ad 0)), (1, .int (nI b)), (2, .int (nI pe)), (3, .int (nI base)), (4, .int (nI xi)), (5, .int (nI xe)), (6, .int (nI xv)), (7, .int (nI (b + d)))]) hx hb d_MD_explicit_93 hl (by decide) rfl (fun ls hl => ?_)
                refine lv_iload hx hb d_MD_explicit_95 (lv_at hl 0 rfl) ?_
                refine lv_bipush (v := 125) hx hb d_MD_explicit_97 (by decide) ?_
                refine lv_icmp_gt (tgt := 145) hx hb d_MD_explicit_99 (by decide) (fun c99 => ?_) (fun c99 => ?_)
                · have c99 : 125 < nxt lv (emD (ar 9 (b + d))) := (nI_ltI (a := 125) (b := nxt lv (emD (ar 9 (b + d)))) (by omega) (by omega)).mp c99
                  have hnc : ¬ canO (nxt lv (emD (ar 9 (b + d)))) xi xe := fun z => by have := z.1; omega
                  refine lv_iload hx hb d_MD_explicit_145 (lv_at hl 6 rfl) ?_
                  refine lv_if_ne (tgt := 153) hx hb d_MD_explicit_147 (by decide) (fun c147 => ?_) (fun c147 => ?_)
                  · have c147 : ¬ xi = 0 := fun h => c147 ((nI_eq (a := xi) (b := 0) (by omega) (by omega)).mpr h)
                    have hX2 : xrun (ar 9) (ar 13) b pe base (d + 1) = ((lv, ov, ib) :: rs, xi, xe, xv) := by show xstep (ar 9) (ar 13) pe (b + d) (xrun (ar 9) (ar 13) b pe base d) = _; rw [hX, eX0]; first | done | (unfold xEmb; exact (if_neg hnc).trans (if_neg c147))
                    have hr2 := hr
                    refine lv_goto (tgt := 441) hx hb d_MD_explicit_153 (by decide) ?_
                    have eL : upd (xlv (ar 9) (ar 13) b pe base (ar 12) d) (b + d) (-1) = xlv (ar 9) (ar 13) b pe base (ar 12) (d + 1) := by show _ = upd _ _ (xlev (ar 9 (b + d)) base (xrun (ar 9) (ar 13) b pe base d)); rw [elv]; first | done | rfl | exact upd_uu
                    have eK : upd (xkdm (ar 9) (ar 13) b pe base (ar 10) d) (b + d) (ar 9 (b + d)) = xkdm (ar 9) (ar 13) b pe base (ar 10) (d + 1) := by show _ = upd _ _ (xkm (ar 9 (b + d)) (xrun (ar 9) (ar 13) b pe base d)); rw [ekn]; first | done | rfl | rw [upd_uu, pk_us]
                    have hI := CI.to (w2 := mw g ad (va_up (va_up (va_up (va_up (va_up ar 15 za) 16 zb) 17 zz) 12 (xlv (ar 9) (ar 13) b pe base (ar 12) (d + 1))) 10 (xkdm (ar 9) (ar 13) b pe base (ar 10) (d + 1))) (va_up fl 7 (nI (rs.length + 1)))) hI (by rw [eL, eK]; first | done | rfl)
                    refine lv_iinc (v := nI (b + d + 1)) (lv' := [(7, .int (nI (b + d + 1))), (9, .int (nI (nxt lv (emD (ar 9 (b + d)))))), (8, .int (ar 9 (b + d))), (0, .ref (ad 0)), (1, .int (nI b)), (2, .int (nI pe)), (3, .int (nI base)), (4, .int (nI xi)), (5, .int (nI xe)), (6, .int (nI xv))]) hx hb d_MD_explicit_441 hl (k := 9) rfl (nI_add _ 1) (by decide) rfl (fun ls hl => ?_)
                    refine lv_goto (tgt := 24) hx hb d_MD_explicit_444 (by decide) ?_
                    exact ih24 (d + 1) lv ov ib rs xi xe xv za zb zz (by omega) (by omega) (hX2) (hr2) _ _ _ hI (lv_sub hl [3, 4, 5, 6, 7, 8, 9, 0] rfl)
                  · have c147 : xi = 0 := (nI_eq (a := xi) (b := 0) (by omega) (by omega)).mp c147
                    have hX2 : xrun (ar 9) (ar 13) b pe base (d + 1) = ((lv, ov, ib) :: rs, xi, xe + 1, xv) := by show xstep (ar 9) (ar 13) pe (b + d) (xrun (ar 9) (ar 13) b pe base d) = _; rw [hX, eX0]; first | done | (unfold xEmb; exact (if_neg hnc).trans (if_pos c147))
                    have hr2 := hr
                    refine lv_iinc (v := nI (xe + 1)) (lv' := [(5, .int (nI (xe + 1))), (9, .int (nI (nxt lv (emD (ar 9 (b + d)))))), (8, .int (ar 9 (b + d))), (0, .ref (ad 0)), (1, .int (nI b)), (2, .int (nI pe)), (3, .int (nI base)), (4, .int (nI xi)), (6, .int (nI xv)), (7, .int (nI (b + d)))]) hx hb d_MD_explicit_150 hl (k := 7) rfl (nI_add _ 1) (by decide) rfl (fun ls hl => ?_)
                    refine lv_goto (tgt := 441) hx hb d_MD_explicit_153 (by decide) ?_
                    have eL : upd (xlv (ar 9) (ar 13) b pe base (ar 12) d) (b + d) (-1) = xlv (ar 9) (ar 13) b pe base (ar 12) (d + 1) := by show _ = upd _ _ (xlev (ar 9 (b + d)) base (xrun (ar 9) (ar 13) b pe base d)); rw [elv]; first | done | rfl | exact upd_uu
                    have eK : upd (xkdm (ar 9) (ar 13) b pe base (ar 10) d) (b + d) (ar 9 (b + d)) = xkdm (ar 9) (ar 13) b pe base (ar 10) (d + 1) := by show _ = upd _ _ (xkm (ar 9 (b + d)) (xrun (ar 9) (ar 13) b pe base d)); rw [ekn]; first | done | rfl | rw [upd_uu, pk_us]
                    have hI := CI.to (w2 := mw g ad (va_up (va_up (va_up (va_up (va_up ar 15 za) 16 zb) 17 zz) 12 (xlv (ar 9) (ar 13) b pe base (ar 12) (d + 1))) 10 (xkdm (ar 9) (ar 13) b pe base (ar 10) (d + 1))) (va_up fl 7 (nI (rs.length + 1)))) hI (by rw [eL, eK]; first | done | rfl)
                    refine lv_iinc (v := nI (b + d + 1)) (lv' := [(7, .int (nI (b + d + 1))), (5, .int (nI (xe + 1))), (9, .int (nI (nxt lv (emD (ar 9 (b + d)))))), (8, .int (ar 9 (b + d))), (0, .ref (ad 0)), (1, .int (nI b)), (2, .int (nI pe)), (3, .int (nI base)), (4, .int (nI xi)), (6, .int (nI xv))]) hx hb d_MD_explicit_441 hl (k := 9) rfl (nI_add _ 1) (by decide) rfl (fun ls hl => ?_)
                    refine lv_goto (tgt := 24) hx hb d_MD_explicit_444 (by decide) ?_
                    exact ih24 (d + 1) lv ov ib rs xi (xe + 1) xv za zb zz (by omega) (by omega) (hX2) (hr2) _ _ _ hI (lv_sub hl [4, 5, 6, 7, 8, 1, 9, 0] rfl)
                · have c99 : ¬ 125 < nxt lv (emD (ar 9 (b + d))) := fun h => c99 ((nI_ltI (a := 125) (b := nxt lv (emD (ar 9 (b + d)))) (by omega) (by omega)).mpr h)
                  refine lv_iload hx hb d_MD_explicit_102 (lv_at hl 6 rfl) ?_
                  refine lv_if_ne (tgt := 145) hx hb d_MD_explicit_104 (by decide) (fun c104 => ?_) (fun c104 => ?_)
                  · have c104 : ¬ xi = 0 := fun h => c104 ((nI_eq (a := xi) (b := 0) (by omega) (by omega)).mpr h)
                    have hnc : ¬ canO (nxt lv (emD (ar 9 (b + d)))) xi xe := fun z => c104 z.2.1
                    refine lv_iload hx hb d_MD_explicit_145 (lv_at hl 6 rfl) ?_
                    refine lv_if_ne (tgt := 153) hx hb d_MD_explicit_147 (by decide) (fun c147 => ?_) (fun c147 => ?_)
                    · have c147 : ¬ xi = 0 := fun h => c147 ((nI_eq (a := xi) (b := 0) (by omega) (by omega)).mpr h)
                      have hX2 : xrun (ar 9) (ar 13) b pe base (d + 1) = ((lv, ov, ib) :: rs, xi, xe, xv) := by show xstep (ar 9) (ar 13) pe (b + d) (xrun (ar 9) (ar 13) b pe base d) = _; rw [hX, eX0]; first | done | (unfold xEmb; exact (if_neg hnc).trans (if_neg c147))
                      have hr2 := hr
                      refine lv_goto (tgt := 441) hx hb d_MD_explicit_153 (by decide) ?_
                      have eL : upd (xlv (ar 9) (ar 13) b pe base (ar 12) d) (b + d) (-1) = xlv (ar 9) (ar 13) b pe base (ar 12) (d + 1) := by show _ = upd _ _ (xlev (ar 9 (b + d)) base (xrun (ar 9) (ar 13) b pe base d)); rw [elv]; first | done | rfl | exact upd_uu
                      have eK : upd (xkdm (ar 9) (ar 13) b pe base (ar 10) d) (b + d) (ar 9 (b + d)) = xkdm (ar 9) (ar 13) b pe base (ar 10) (d + 1) := by show _ = upd _ _ (xkm (ar 9 (b + d)) (xrun (ar 9) (ar 13) b pe base d)); rw [ekn]; first | done | rfl | rw [upd_uu, pk_us]
                      have hI := CI.to (w2 := mw g ad (va_up (va_up (va_up (va_up (va_up ar 15 za) 16 zb) 17 zz) 12 (xlv (ar 9) (ar 13) b pe base (ar 12) (d + 1))) 10 (xkdm (ar 9) (ar 13) b pe base (ar 10) (d + 1))) (va_up fl 7 (nI (rs.length + 1)))) hI (by rw [eL, eK]; first | done | rfl)
                      refine lv_iinc (v := nI (b + d + 1)) (lv' := [(7, .int (nI (b + d + 1))), (9, .int (nI (nxt lv (emD (ar 9 (b + d)))))), (8, .int (ar 9 (b + d))), (0, .ref (ad 0)), (1, .int (nI b)), (2, .int (nI pe)), (3, .int (nI base)), (4, .int (nI xi)), (5, .int (nI xe)), (6, .int (nI xv))]) hx hb d_MD_explicit_441 hl (k := 9) rfl (nI_add _ 1) (by decide) rfl (fun ls hl => ?_)
                      refine lv_goto (tgt := 24) hx hb d_MD_explicit_444 (by decide) ?_
                      exact ih24 (d + 1) lv ov ib rs xi xe xv za zb zz (by omega) (by omega) (hX2) (hr2) _ _ _ hI (lv_sub hl [3, 4, 5, 6, 7, 8, 9, 0] rfl)
                    · have c147 : xi = 0 := (nI_eq (a := xi) (b := 0) (by omega) (by omega)).mp c147
                      have hX2 : xrun (ar 9) (ar 13) b pe base (d + 1) = ((lv, ov, ib) :: rs, xi, xe + 1, xv) := by show xstep (ar 9) (ar 13) pe (b + d) (xrun (ar 9) (ar 13) b pe base d) = _; rw [hX, eX0]; first | done | (unfold xEmb; exact (if_neg hnc).trans (if_pos c147))
                      have hr2 := hr
                      refine lv_iinc (v := nI (xe + 1)) (lv' := [(5, .int (nI (xe + 1))), (9, .int (nI (nxt lv (emD (ar 9 (b + d)))))), (8, .int (ar 9 (b + d))), (0, .ref (ad 0)), (1, .int (nI b)), (2, .int (nI pe)), (3, .int (nI base)), (4, .int (nI xi)), (6, .int (nI xv)), (7, .int (nI (b + d)))]) hx hb d_MD_explicit_150 hl (k := 7) rfl (nI_add _ 1) (by decide) rfl (fun ls hl => ?_)
                      refine lv_goto (tgt := 441) hx hb d_MD_explicit_153 (by decide) ?_
                      have eL : upd (xlv (ar 9) (ar 13) b pe base (ar 12) d) (b + d) (-1) = xlv (ar 9) (ar 13) b pe base (ar 12) (d + 1) := by show _ = upd _ _ (xlev (ar 9 (b + d)) base (xrun (ar 9) (ar 13) b pe base d)); rw [elv]; first | done | rfl | exact upd_uu
                      have eK : upd (xkdm (ar 9) (ar 13) b pe base (ar 10) d) (b + d) (ar 9 (b + d)) = xkdm (ar 9) (ar 13) b pe base (ar 10) (d + 1) := by show _ = upd _ _ (xkm (ar 9 (b + d)) (xrun (ar 9) (ar 13) b pe base d)); rw [ekn]; first | done | rfl | rw [upd_uu, pk_us]
                      have hI := CI.to (w2 := mw g ad (va_up (va_up (va_up (va_up (va_up ar 15 za) 16 zb) 17 zz) 12 (xlv (ar 9) (ar 13) b pe base (ar 12) (d + 1))) 10 (xkdm (ar 9) (ar 13) b pe base (ar 10) (d + 1))) (va_up fl 7 (nI (rs.length + 1)))) hI (by rw [eL, eK]; first | done | rfl)
                      refine lv_iinc (v := nI (b + d + 1)) (lv' := [(7, .int (nI (b + d + 1))), (5, .int (nI (xe + 1))), (9, .int (nI (nxt lv (emD (ar 9 (b + d)))))), (8, .int (ar 9 (b + d))), (0, .ref (ad 0)), (1, .int (nI b)), (2, .int (nI pe)), (3, .int (nI base)), (4, .int (nI xi)), (6, .int (nI xv))]) hx hb d_MD_explicit_441 hl (k := 9) rfl (nI_add _ 1) (by decide) rfl (fun ls hl => ?_)
                      refine lv_goto (tgt := 24) hx hb d_MD_explicit_444 (by decide) ?_
                      exact ih24 (d + 1) lv ov ib rs xi (xe + 1) xv za zb zz (by omega) (by omega) (hX2) (hr2) _ _ _ hI (lv_sub hl [4, 5, 6, 7, 8, 1, 9, 0] rfl)
                  · have c104 : xi = 0 := (nI_eq (a := xi) (b := 0) (by omega) (by omega)).mp c104
                    refine lv_iload hx hb d_MD_explicit_107 (lv_at hl 7 rfl) ?_
                    refine lv_if_ne (tgt := 145) hx hb d_MD_explicit_109 (by decide) (fun c109 => ?_) (fun c109 => ?_)
                    · have c109 : ¬ xe = 0 := fun h => c109 ((nI_eq (a := xe) (b := 0) (by omega) (by omega)).mpr h)
                      have hnc : ¬ canO (nxt lv (emD (ar 9 (b + d)))) xi xe := fun z => c109 z.2.2
                      refine lv_iload hx hb d_MD_explicit_145 (lv_at hl 6 rfl) ?_
                      refine lv_if_ne (tgt := 153) hx hb d_MD_explicit_147 (by decide) (fun c147 => ?_) (fun c147 => ?_)
                      · have c147 : ¬ xi = 0 := fun h => c147 ((nI_eq (a := xi) (b := 0) (by omega) (by omega)).mpr h)
                        have hX2 : xrun (ar 9) (ar 13) b pe base (d + 1) = ((lv, ov, ib) :: rs, xi, xe, xv) := by show xstep (ar 9) (ar 13) pe (b + d) (xrun (ar 9) (ar 13) b pe base d) = _; rw [hX, eX0]; first | done | (unfold xEmb; exact (if_neg hnc).trans (if_neg c147))
                        have hr2 := hr
                        refine lv_goto (tgt := 441) hx hb d_MD_explicit_153 (by decide) ?_
                        have eL : upd (xlv (ar 9) (ar 13) b pe base (ar 12) d) (b + d) (-1) = xlv (ar 9) (ar 13) b pe base (ar 12) (d + 1) := by show _ = upd _ _ (xlev (ar 9 (b + d)) base (xrun (ar 9) (ar 13) b pe base d)); rw [elv]; first | done | rfl | exact upd_uu
                        have eK : upd (xkdm (ar 9) (ar 13) b pe base (ar 10) d) (b + d) (ar 9 (b + d)) = xkdm (ar 9) (ar 13) b pe base (ar 10) (d + 1) := by show _ = upd _ _ (xkm (ar 9 (b + d)) (xrun (ar 9) (ar 13) b pe base d)); rw [ekn]; first | done | rfl | rw [upd_uu, pk_us]
                        have hI := CI.to (w2 := mw g ad (va_up (va_up (va_up (va_up (va_up ar 15 za) 16 zb) 17 zz) 12 (xlv (ar 9) (ar 13) b pe base (ar 12) (d + 1))) 10 (xkdm (ar 9) (ar 13) b pe base (ar 10) (d + 1))) (va_up fl 7 (nI (rs.length + 1)))) hI (by rw [eL, eK]; first | done | rfl)
                        refine lv_iinc (v := nI (b + d + 1)) (lv' := [(7, .int (nI (b + d + 1))), (9, .int (nI (nxt lv (emD (ar 9 (b + d)))))), (8, .int (ar 9 (b + d))), (0, .ref (ad 0)), (1, .int (nI b)), (2, .int (nI pe)), (3, .int (nI base)), (4, .int (nI xi)), (5, .int (nI xe)), (6, .int (nI xv))]) hx hb d_MD_explicit_441 hl (k := 9) rfl (nI_add _ 1) (by decide) rfl (fun ls hl => ?_)
                        refine lv_goto (tgt := 24) hx hb d_MD_explicit_444 (by decide) ?_
                        exact ih24 (d + 1) lv ov ib rs xi xe xv za zb zz (by omega) (by omega) (hX2) (hr2) _ _ _ hI (lv_sub hl [3, 4, 5, 6, 7, 8, 9, 0] rfl)
                      · have c147 : xi = 0 := (nI_eq (a := xi) (b := 0) (by omega) (by omega)).mp c147
                        have hX2 : xrun (ar 9) (ar 13) b pe base (d + 1) = ((lv, ov, ib) :: rs, xi, xe + 1, xv) := by show xstep (ar 9) (ar 13) pe (b + d) (xrun (ar 9) (ar 13) b pe base d) = _; rw [hX, eX0]; first | done | (unfold xEmb; exact (if_neg hnc).trans (if_pos c147))
                        have hr2 := hr
                        refine lv_iinc (v := nI (xe + 1)) (lv' := [(5, .int (nI (xe + 1))), (9, .int (nI (nxt lv (emD (ar 9 (b + d)))))), (8, .int (ar 9 (b + d))), (0, .ref (ad 0)), (1, .int (nI b)), (2, .int (nI pe)), (3, .int (nI base)), (4, .int (nI xi)), (6, .int (nI xv)), (7, .int (nI (b + d)))]) hx hb d_MD_explicit_150 hl (k := 7) rfl (nI_add _ 1) (by decide) rfl (fun ls hl => ?_)
                        refine lv_goto (tgt := 441) hx hb d_MD_explicit_153 (by decide) ?_
                        have eL : upd (xlv (ar 9) (ar 13) b pe base (ar 12) d) (b + d) (-1) = xlv (ar 9) (ar 13) b pe base (ar 12) (d + 1) := by show _ = upd _ _ (xlev (ar 9 (b + d)) base (xrun (ar 9) (ar 13) b pe base d)); rw [elv]; first | done | rfl | exact upd_uu
                        have eK : upd (xkdm (ar 9) (ar 13) b pe base (ar 10) d) (b + d) (ar 9 (b + d)) = xkdm (ar 9) (ar 13) b pe base (ar 10) (d + 1) := by show _ = upd _ _ (xkm (ar 9 (b + d)) (xrun (ar 9) (ar 13) b pe base d)); rw [ekn]; first | done | rfl | rw [upd_uu, pk_us]
                        have hI := CI.to (w2 := mw g ad (va_up (va_up (va_up (va_up (va_up ar 15 za) 16 zb) 17 zz) 12 (xlv (ar 9) (ar 13) b pe base (ar 12) (d + 1))) 10 (xkdm (ar 9) (ar 13) b pe base (ar 10) (d + 1))) (va_up fl 7 (nI (rs.length + 1)))) hI (by rw [eL, eK]; first | done | rfl)
                        refine lv_iinc (v := nI (b + d + 1)) (lv' := [(7, .int (nI (b + d + 1))), (5, .int (nI (xe + 1))), (9, .int (nI (nxt lv (emD (ar 9 (b + d)))))), (8, .int (ar 9 (b + d))), (0, .ref (ad 0)), (1, .int (nI b)), (2, .int (nI pe)), (3, .int (nI base)), (4, .int (nI xi)), (6, .int (nI xv))]) hx hb d_MD_explicit_441 hl (k := 9) rfl (nI_add _ 1) (by decide) rfl (fun ls hl => ?_)
                        refine lv_goto (tgt := 24) hx hb d_MD_explicit_444 (by decide) ?_
                        exact ih24 (d + 1) lv ov ib rs xi (xe + 1) xv za zb zz (by omega) (by omega) (hX2) (hr2) _ _ _ hI (lv_sub hl [4, 5, 6, 7, 8, 1, 9, 0] rfl)
                    · have c109 : xe = 0 := (nI_eq (a := xe) (b := 0) (by omega) (by omega)).mp c109
                      have hc : canO (nxt lv (emD (ar 9 (b + d)))) xi xe := ⟨by omega, c104, c109⟩
                      refine lv_aload_n hx hb d_MD_explicit_112 rfl (lv_at hl 2 rfl) ?_
                      refine lv_iload hx hb d_MD_explicit_113 (lv_at hl 0 rfl) ?_
                      refine lv_iload hx hb d_MD_explicit_115 (lv_at hl 1 rfl) ?_
                      refine lv_bipush (v := 17) hx hb d_MD_explicit_117 (by decide) ?_
                      refine lv_icmp_ne (tgt := 126) hx hb d_MD_explicit_119 (by decide) (fun c119 => ?_) (fun c119 => ?_)
                      · refine lv_iload hx hb d_MD_explicit_126 (lv_at hl 1 rfl) ?_
                        refine lv_bipush (v := 15) hx hb d_MD_explicit_128 (by decide) ?_
                        refine lv_icmp_ne (tgt := 137) hx hb d_MD_explicit_130 (by decide) (fun c130 => ?_) (fun c130 => ?_)
                        · refine lv_iconst (v := (-1)) hx hb d_MD_explicit_137 (by decide) ?_
                          refine q_as (y := emO (ar 9 (b + d))) (by unfold emO; rw [if_neg c119, if_neg c130]) ?_
                          refine lv_iconst (v := 0) hx hb d_MD_explicit_138 (by decide) ?_
                          refine q_callvV [.int (nI (nxt lv (emD (ar 9 (b + d))))), .int (emO (ar 9 (b + d))), .int 0] M hI (c_MD_push l g ad (va_up (va_up (va_up (va_up (va_up ar 15 za) 16 zb) 17 zz) 10 (upd (xkdm (ar 9) (ar 13) b pe base (ar 10) d) (b + d) (ar 9 (b + d)))) 12 (upd (xlv (ar 9) (ar 13) b pe base (ar 12) d) (b + d) (-1))) (va_up fl 7 (nI (rs.length + 1))) (nxt lv (emD (ar 9 (b + d)))) (emO (ar 9 (b + d))) 0 ((lv, ov, ib) :: rs) (rfl) (by simp only [List.length_cons]; omega) (rfl)) ok_MD_push m5_122 m5_124 ms_55 0 rfl rfl rfl rfl hl.1 ⟨rfl, rfl⟩ ⟨Nat.le_of_ble_eq_true rfl, Nat.le_of_ble_eq_true rfl⟩ (Nat.le_of_ble_eq_true rfl) ⟨Nat.le_of_ble_eq_true rfl, Nat.le_of_ble_eq_true rfl⟩ d_MD_explicit_139 (fun u139 H locs hp139 hI => ?_)
                          have hI : CI g A s (mw g ad (va_up (va_up (va_up (va_up (va_up ar 10 (upd (xkdm (ar 9) (ar 13) b pe base (ar 10) d) (b + d) (ar 9 (b + d)))) 12 (upd (xlv (ar 9) (ar 13) b pe base (ar 12) d) (b + d) (-1))) 15 (upd za ((lv, ov, ib) :: rs).length (nI (nxt lv (emD (ar 9 (b + d))))))) 16 (upd zb ((lv, ov, ib) :: rs).length (emO (ar 9 (b + d))))) 17 (upd zz ((lv, ov, ib) :: rs).length 0)) (va_up fl 7 (nI (((lv, ov, ib) :: rs).length + 1)))) H locs := hI
                          have hX2 : xrun (ar 9) (ar 13) b pe base (d + 1) = ((nxt lv (emD (ar 9 (b + d))), emO (ar 9 (b + d)), false) :: (lv, ov, ib) :: rs, xi, xe, xv) := by show xstep (ar 9) (ar 13) pe (b + d) (xrun (ar 9) (ar 13) b pe base d) = _; rw [hX, eX0]; first | done | (unfold xEmb; exact if_pos hc)
                          have hr2 : xrel (upd za ((lv, ov, ib) :: rs).length (nI (nxt lv (emD (ar 9 (b + d)))))) (upd zb ((lv, ov, ib) :: rs).length (emO (ar 9 (b + d)))) (upd zz ((lv, ov, ib) :: rs).length 0) ((nxt lv (emD (ar 9 (b + d))), emO (ar 9 (b + d)), false) :: (lv, ov, ib) :: rs) := xrel_push (x := (nxt lv (emD (ar 9 (b + d))), emO (ar 9 (b + d)), false)) hr
                          refine lv_goto (tgt := 153) hx hb d_MD_explicit_142 (by decide) ?_
                          refine lv_goto (tgt := 441) hx hb d_MD_explicit_153 (by decide) ?_
                          have eL : upd (xlv (ar 9) (ar 13) b pe base (ar 12) d) (b + d) (-1) = xlv (ar 9) (ar 13) b pe base (ar 12) (d + 1) := by show _ = upd _ _ (xlev (ar 9 (b + d)) base (xrun (ar 9) (ar 13) b pe base d)); rw [elv]; first | done | rfl | exact upd_uu
                          have eK : upd (xkdm (ar 9) (ar 13) b pe base (ar 10) d) (b + d) (ar 9 (b + d)) = xkdm (ar 9) (ar 13) b pe base (ar 10) (d + 1) := by show _ = upd _ _ (xkm (ar 9 (b + d)) (xrun (ar 9) (ar 13) b pe base d)); rw [ekn]; first | done | rfl | rw [upd_uu, pk_us]
                          have hI := CI.to (w2 := mw g ad (va_up (va_up (va_up (va_up (va_up ar 15 (upd za ((lv, ov, ib) :: rs).length (nI (nxt lv (emD (ar 9 (b + d))))))) 16 (upd zb ((lv, ov, ib) :: rs).length (emO (ar 9 (b + d))))) 17 (upd zz ((lv, ov, ib) :: rs).length 0)) 12 (xlv (ar 9) (ar 13) b pe base (ar 12) (d + 1))) 10 (xkdm (ar 9) (ar 13) b pe base (ar 10) (d + 1))) (va_up fl 7 (nI (((lv, ov, ib) :: rs).length + 1)))) hI (by rw [eL, eK]; first | done | rfl)
                          refine lv_iinc (v := nI (b + d + 1)) (lv' := [(7, .int (nI (b + d + 1))), (9, .int (nI (nxt lv (emD (ar 9 (b + d)))))), (8, .int (ar 9 (b + d))), (0, .ref (ad 0)), (1, .int (nI b)), (2, .int (nI pe)), (3, .int (nI base)), (4, .int (nI xi)), (5, .int (nI xe)), (6, .int (nI xv))]) hx hb d_MD_explicit_441 hl (k := 9) rfl (nI_add _ 1) (by decide) rfl (fun ls hl => ?_)
                          refine lv_goto (tgt := 24) hx hb d_MD_explicit_444 (by decide) ?_
                          exact ih24 (d + 1) (nxt lv (emD (ar 9 (b + d)))) (emO (ar 9 (b + d))) false ((lv, ov, ib) :: rs) xi xe xv (upd za ((lv, ov, ib) :: rs).length (nI (nxt lv (emD (ar 9 (b + d)))))) (upd zb ((lv, ov, ib) :: rs).length (emO (ar 9 (b + d)))) (upd zz ((lv, ov, ib) :: rs).length 0) (by omega) (by omega) (hX2) (hr2) _ _ _ hI (lv_sub hl [3, 4, 5, 6, 7, 8, 9, 0] rfl)
                        · refine lv_iconst (v := 0) hx hb d_MD_explicit_133 (by decide) ?_
                          refine q_as (y := emO (ar 9 (b + d))) (by unfold emO; rw [if_neg c119, if_pos c130]) ?_
                          refine lv_goto (tgt := 138) hx hb d_MD_explicit_134 (by decide) ?_
                          refine lv_iconst (v := 0) hx hb d_MD_explicit_138 (by decide) ?_
                          refine q_callvV [.int (nI (nxt lv (emD (ar 9 (b + d))))), .int (emO (ar 9 (b + d))), .int 0] M hI (c_MD_push l g ad (va_up (va_up (va_up (va_up (va_up ar 15 za) 16 zb) 17 zz) 10 (upd (xkdm (ar 9) (ar 13) b pe base (ar 10) d) (b + d) (ar 9 (b + d)))) 12 (upd (xlv (ar 9) (ar 13) b pe base (ar 12) d) (b + d) (-1))) (va_up fl 7 (nI (rs.length + 1))) (nxt lv (emD (ar 9 (b + d)))) (emO (ar 9 (b + d))) 0 ((lv, ov, ib) :: rs) (rfl) (by simp only [List.length_cons]; omega) (rfl)) ok_MD_push m5_122 m5_124 ms_55 0 rfl rfl rfl rfl hl.1 ⟨rfl, rfl⟩ ⟨Nat.le_of_ble_eq_true rfl, Nat.le_of_ble_eq_true rfl⟩ (Nat.le_of_ble_eq_true rfl) ⟨Nat.le_of_ble_eq_true rfl, Nat.le_of_ble_eq_true rfl⟩ d_MD_explicit_139 (fun u139 H locs hp139 hI => ?_)
                          have hI : CI g A s (mw g ad (va_up (va_up (va_up (va_up (va_up ar 10 (upd (xkdm (ar 9) (ar 13) b pe base (ar 10) d) (b + d) (ar 9 (b + d)))) 12 (upd (xlv (ar 9) (ar 13) b pe base (ar 12) d) (b + d) (-1))) 15 (upd za ((lv, ov, ib) :: rs).length (nI (nxt lv (emD (ar 9 (b + d))))))) 16 (upd zb ((lv, ov, ib) :: rs).length (emO (ar 9 (b + d))))) 17 (upd zz ((lv, ov, ib) :: rs).length 0)) (va_up fl 7 (nI (((lv, ov, ib) :: rs).length + 1)))) H locs := hI
                          have hX2 : xrun (ar 9) (ar 13) b pe base (d + 1) = ((nxt lv (emD (ar 9 (b + d))), emO (ar 9 (b + d)), false) :: (lv, ov, ib) :: rs, xi, xe, xv) := by show xstep (ar 9) (ar 13) pe (b + d) (xrun (ar 9) (ar 13) b pe base d) = _; rw [hX, eX0]; first | done | (unfold xEmb; exact if_pos hc)
                          have hr2 : xrel (upd za ((lv, ov, ib) :: rs).length (nI (nxt lv (emD (ar 9 (b + d)))))) (upd zb ((lv, ov, ib) :: rs).length (emO (ar 9 (b + d)))) (upd zz ((lv, ov, ib) :: rs).length 0) ((nxt lv (emD (ar 9 (b + d))), emO (ar 9 (b + d)), false) :: (lv, ov, ib) :: rs) := xrel_push (x := (nxt lv (emD (ar 9 (b + d))), emO (ar 9 (b + d)), false)) hr
                          refine lv_goto (tgt := 153) hx hb d_MD_explicit_142 (by decide) ?_
                          refine lv_goto (tgt := 441) hx hb d_MD_explicit_153 (by decide) ?_
                          have eL : upd (xlv (ar 9) (ar 13) b pe base (ar 12) d) (b + d) (-1) = xlv (ar 9) (ar 13) b pe base (ar 12) (d + 1) := by show _ = upd _ _ (xlev (ar 9 (b + d)) base (xrun (ar 9) (ar 13) b pe base d)); rw [elv]; first | done | rfl | exact upd_uu
                          have eK : upd (xkdm (ar 9) (ar 13) b pe base (ar 10) d) (b + d) (ar 9 (b + d)) = xkdm (ar 9) (ar 13) b pe base (ar 10) (d + 1) := by show _ = upd _ _ (xkm (ar 9 (b + d)) (xrun (ar 9) (ar 13) b pe base d)); rw [ekn]; first | done | rfl | rw [upd_uu, pk_us]
                          have hI := CI.to (w2 := mw g ad (va_up (va_up (va_up (va_up (va_up ar 15 (upd za ((lv, ov, ib) :: rs).length (nI (nxt lv (emD (ar 9 (b + d))))))) 16 (upd zb ((lv, ov, ib) :: rs).length (emO (ar 9 (b + d))))) 17 (upd zz ((lv, ov, ib) :: rs).length 0)) 12 (xlv (ar 9) (ar 13) b pe base (ar 12) (d + 1))) 10 (xkdm (ar 9) (ar 13) b pe base (ar 10) (d + 1))) (va_up fl 7 (nI (((lv, ov, ib) :: rs).length + 1)))) hI (by rw [eL, eK]; first | done | rfl)
                          refine lv_iinc (v := nI (b + d + 1)) (lv' := [(7, .int (nI (b + d + 1))), (9, .int (nI (nxt lv (emD (ar 9 (b + d)))))), (8, .int (ar 9 (b + d))), (0, .ref (ad 0)), (1, .int (nI b)), (2, .int (nI pe)), (3, .int (nI base)), (4, .int (nI xi)), (5, .int (nI xe)), (6, .int (nI xv))]) hx hb d_MD_explicit_441 hl (k := 9) rfl (nI_add _ 1) (by decide) rfl (fun ls hl => ?_)
                          refine lv_goto (tgt := 24) hx hb d_MD_explicit_444 (by decide) ?_
                          exact ih24 (d + 1) (nxt lv (emD (ar 9 (b + d)))) (emO (ar 9 (b + d))) false ((lv, ov, ib) :: rs) xi xe xv (upd za ((lv, ov, ib) :: rs).length (nI (nxt lv (emD (ar 9 (b + d)))))) (upd zb ((lv, ov, ib) :: rs).length (emO (ar 9 (b + d)))) (upd zz ((lv, ov, ib) :: rs).length 0) (by omega) (by omega) (hX2) (hr2) _ _ _ hI (lv_sub hl [3, 4, 5, 6, 7, 8, 9, 0] rfl)
                      · refine lv_iconst (v := 1) hx hb d_MD_explicit_122 (by decide) ?_
                        refine q_as (y := emO (ar 9 (b + d))) (by unfold emO; rw [if_pos c119]) ?_
                        refine lv_goto (tgt := 138) hx hb d_MD_explicit_123 (by decide) ?_
                        refine lv_iconst (v := 0) hx hb d_MD_explicit_138 (by decide) ?_
                        refine q_callvV [.int (nI (nxt lv (emD (ar 9 (b + d))))), .int (emO (ar 9 (b + d))), .int 0] M hI (c_MD_push l g ad (va_up (va_up (va_up (va_up (va_up ar 15 za) 16 zb) 17 zz) 10 (upd (xkdm (ar 9) (ar 13) b pe base (ar 10) d) (b + d) (ar 9 (b + d)))) 12 (upd (xlv (ar 9) (ar 13) b pe base (ar 12) d) (b + d) (-1))) (va_up fl 7 (nI (rs.length + 1))) (nxt lv (emD (ar 9 (b + d)))) (emO (ar 9 (b + d))) 0 ((lv, ov, ib) :: rs) (rfl) (by simp only [List.length_cons]; omega) (rfl)) ok_MD_push m5_122 m5_124 ms_55 0 rfl rfl rfl rfl hl.1 ⟨rfl, rfl⟩ ⟨Nat.le_of_ble_eq_true rfl, Nat.le_of_ble_eq_true rfl⟩ (Nat.le_of_ble_eq_true rfl) ⟨Nat.le_of_ble_eq_true rfl, Nat.le_of_ble_eq_true rfl⟩ d_MD_explicit_139 (fun u139 H locs hp139 hI => ?_)
                        have hI : CI g A s (mw g ad (va_up (va_up (va_up (va_up (va_up ar 10 (upd (xkdm (ar 9) (ar 13) b pe base (ar 10) d) (b + d) (ar 9 (b + d)))) 12 (upd (xlv (ar 9) (ar 13) b pe base (ar 12) d) (b + d) (-1))) 15 (upd za ((lv, ov, ib) :: rs).length (nI (nxt lv (emD (ar 9 (b + d))))))) 16 (upd zb ((lv, ov, ib) :: rs).length (emO (ar 9 (b + d))))) 17 (upd zz ((lv, ov, ib) :: rs).length 0)) (va_up fl 7 (nI (((lv, ov, ib) :: rs).length + 1)))) H locs := hI
                        have hX2 : xrun (ar 9) (ar 13) b pe base (d + 1) = ((nxt lv (emD (ar 9 (b + d))), emO (ar 9 (b + d)), false) :: (lv, ov, ib) :: rs, xi, xe, xv) := by show xstep (ar 9) (ar 13) pe (b + d) (xrun (ar 9) (ar 13) b pe base d) = _; rw [hX, eX0]; first | done | (unfold xEmb; exact if_pos hc)
                        have hr2 : xrel (upd za ((lv, ov, ib) :: rs).length (nI (nxt lv (emD (ar 9 (b + d)))))) (upd zb ((lv, ov, ib) :: rs).length (emO (ar 9 (b + d)))) (upd zz ((lv, ov, ib) :: rs).length 0) ((nxt lv (emD (ar 9 (b + d))), emO (ar 9 (b + d)), false) :: (lv, ov, ib) :: rs) := xrel_push (x := (nxt lv (emD (ar 9 (b + d))), emO (ar 9 (b + d)), false)) hr
                        refine lv_goto (tgt := 153) hx hb d_MD_explicit_142 (by decide) ?_
                        refine lv_goto (tgt := 441) hx hb d_MD_explicit_153 (by decide) ?_
                        have eL : upd (xlv (ar 9) (ar 13) b pe base (ar 12) d) (b + d) (-1) = xlv (ar 9) (ar 13) b pe base (ar 12) (d + 1) := by show _ = upd _ _ (xlev (ar 9 (b + d)) base (xrun (ar 9) (ar 13) b pe base d)); rw [elv]; first | done | rfl | exact upd_uu
                        have eK : upd (xkdm (ar 9) (ar 13) b pe base (ar 10) d) (b + d) (ar 9 (b + d)) = xkdm (ar 9) (ar 13) b pe base (ar 10) (d + 1) := by show _ = upd _ _ (xkm (ar 9 (b + d)) (xrun (ar 9) (ar 13) b pe base d)); rw [ekn]; first | done | rfl | rw [upd_uu, pk_us]
                        have hI := CI.to (w2 := mw g ad (va_up (va_up (va_up (va_up (va_up ar 15 (upd za ((lv, ov, ib) :: rs).length (nI (nxt lv (emD (ar 9 (b + d))))))) 16 (upd zb ((lv, ov, ib) :: rs).length (emO (ar 9 (b + d))))) 17 (upd zz ((lv, ov, ib) :: rs).length 0)) 12 (xlv (ar 9) (ar 13) b pe base (ar 12) (d + 1))) 10 (xkdm (ar 9) (ar 13) b pe base (ar 10) (d + 1))) (va_up fl 7 (nI (((lv, ov, ib) :: rs).length + 1)))) hI (by rw [eL, eK]; first | done | rfl)
                        refine lv_iinc (v := nI (b + d + 1)) (lv' := [(7, .int (nI (b + d + 1))), (9, .int (nI (nxt lv (emD (ar 9 (b + d)))))), (8, .int (ar 9 (b + d))), (0, .ref (ad 0)), (1, .int (nI b)), (2, .int (nI pe)), (3, .int (nI base)), (4, .int (nI xi)), (5, .int (nI xe)), (6, .int (nI xv))]) hx hb d_MD_explicit_441 hl (k := 9) rfl (nI_add _ 1) (by decide) rfl (fun ls hl => ?_)
                        refine lv_goto (tgt := 24) hx hb d_MD_explicit_444 (by decide) ?_
                        exact ih24 (d + 1) (nxt lv (emD (ar 9 (b + d)))) (emO (ar 9 (b + d))) false ((lv, ov, ib) :: rs) xi xe xv (upd za ((lv, ov, ib) :: rs).length (nI (nxt lv (emD (ar 9 (b + d)))))) (upd zb ((lv, ov, ib) :: rs).length (emO (ar 9 (b + d)))) (upd zz ((lv, ov, ib) :: rs).length 0) (by omega) (by omega) (hX2) (hr2) _ _ _ hI (lv_sub hl [3, 4, 5, 6, 7, 8, 9, 0] rfl)
  have hI := CI.to (w2 := mw g ad (va_up (va_up (va_up (va_up (va_up ar 15 (upd (ar 15) ([] : List XE).length (nI base))) 16 (upd (ar 16) ([] : List XE).length (-1))) 17 (upd (ar 17) ([] : List XE).length 0)) 12 (xlv (ar 9) (ar 13) b pe base (ar 12) 0)) 10 (xkdm (ar 9) (ar 13) b pe base (ar 10) 0)) (va_up fl 7 (nI (([] : List XE).length + 1)))) hI (by rfl)
  exact L24 _ 0 base (-1) false ([] : List XE) 0 0 0 (upd (ar 15) ([] : List XE).length (nI base)) (upd (ar 16) ([] : List XE).length (-1)) (upd (ar 17) ([] : List XE).length 0) (Nat.lt_succ_self _) (hbp) (rfl) (xrel_push (x := (base, -1, false)) (L := []) trivial) _ _ _ hI (lv_sub hl [4, 5, 6, 7, 3, 2, 1, 0] rfl)
