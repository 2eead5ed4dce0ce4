/-! 27: Runs -/
abbrev rm_RU_appendLeft : Room := { frames := 0, cells := 0, slots := 0, locals := 0 }
set_option maxHeartbeats 4000000 in
set_option maxRecDepth 100000 in
theorem c_RU_appendLeft (l : Launch) (g : Geo) (ad : Nat → Nat) (ar : Nat → Nat → Int32) (fl : Nat → Int32) (q : Nat) (V : List (List Nat)) (h11 : fl 11 = nI (tot V)) (h12 : fl 12 = nI V.length) (hrr : rrel (ar 32) (ar 33) (ar 34) (ar 35) V) (hv : vlt q V) (ht : tot V < 2000) (hq : q < 2000) : cMv l y_RU_appendLeft (.code y_RU_appendLeft b_RU_appendLeft 2 none :: gw) rm_RU_appendLeft g [.ref (ad 7), .int (nI q)] (cw g ad ar fl) (fun (u : (Nat → Int32) × (Nat → Int32) × (Nat → Int32) × (Nat → Int32)) => rrel u.1 u.2.1 u.2.2.1 u.2.2.2 (rvS (ar 15) q V)) (fun (u : (Nat → Int32) × (Nat → Int32) × (Nat → Int32) × (Nat → Int32)) => cw g ad (va_up (va_up (va_up (va_up ar 32 u.1) 33 u.2.1) 34 u.2.2.1) 35 u.2.2.2) (va_up (va_up fl 11 (nI (tot (rvS (ar 15) q V)))) 12 (nI (rvS (ar 15) q V).length))) 0 0 := by
  refine cMv_of (by decide) (Nat.le_of_ble_eq_true rfl) ?_
  intro p e s m below meth c A Q ls M hnm hret hl hI
  have M : MC p s m ([.ref (ad 7), .int (nI q)] : List Value).toArray meth c R_RU b_RU_appendLeft 2 := M
  have hl : lv_has ls 2 [(0, .ref (ad 7)), (1, .int (nI q))] := hl
  generalize ([.ref (ad 7), .int (nI q)] : List Value).toArray = args at M hret ⊢
  have hx := M.1
  have hb := M.2.1
  have hvl := vlt_len hv
  have hI := CI.to (w2 := cw g ad ar (va_up (va_up fl 11 (nI (tot V))) 12 (nI V.length))) hI (by rw [← h11, ← h12]; rfl)
  refine lv_aload_n hx hb d_RU_appendLeft_0 rfl (lv_at hl 0 rfl) ?_
  refine g_RU_15 M hI d_RU_appendLeft_1 ?_
  refine q_as (y := nI (tot V)) rfl ?_
  refine lv_if_eq (tgt := 38) hx hb d_RU_appendLeft_4 (by decide) (fun c4 => ?_) (fun c4 => ?_)
  · have c4 : tot V = 0 := (nI_eq (a := tot V) (b := 0) (by omega) (by omega)).mp c4
    have hV0 : V = [] := by cases V with | nil => rfl | cons R rest => exact absurd c4 (by have := List.length_pos_iff.mpr hv.1; simp only [tot]; omega)
    have eV : rvS (ar 15) q V = [q] :: V := by rw [hV0]; rfl
    refine lv_aload_n hx hb d_RU_appendLeft_38 rfl (lv_at hl 0 rfl) ?_
    refine g_RU_19 M hI d_RU_appendLeft_39 ?_
    refine lv_aload_n hx hb d_RU_appendLeft_42 rfl (lv_at hl 0 rfl) ?_
    refine g_RU_28 M hI d_RU_appendLeft_43 ?_
    refine q_as (y := nI V.length) rfl ?_
    refine lv_aload_n hx hb d_RU_appendLeft_46 rfl (lv_at hl 0 rfl) ?_
    refine g_RU_15 M hI d_RU_appendLeft_47 ?_
    refine q_as (y := nI (tot V)) rfl ?_
    refine as_33 M hI V.length rfl (by omega) d_RU_appendLeft_50 (fun H locs hI => ?_)
    have hI : CI g A s (cw g ad (va_up ar 33 (upd (ar 33) V.length (nI (tot V)))) (va_up (va_up fl 11 (nI (tot V))) 12 (nI V.length))) H locs := hI
    refine lv_aload_n hx hb d_RU_appendLeft_51 rfl (lv_at hl 0 rfl) ?_
    refine lv_dup hx hb d_RU_appendLeft_52 rfl ?_
    refine g_RU_28 M hI d_RU_appendLeft_53 ?_
    refine q_as (y := nI V.length) rfl ?_
    refine lv_iconst (v := 1) hx hb d_RU_appendLeft_56 (by decide) ?_
    refine lv_iadd hx hb d_RU_appendLeft_57 ?_
    refine q_as (y := nI (V.length + 1)) (nI_add V.length 1) ?_
    refine p_RU_28 M hI d_RU_appendLeft_58 (fun H locs hI => ?_)
    have hI : CI g A s (cw g ad (va_up ar 33 (upd (ar 33) V.length (nI (tot V)))) (va_up (va_up fl 11 (nI (tot V))) 12 (nI (V.length + 1)))) H locs := hI
    refine lv_aload_n hx hb d_RU_appendLeft_61 rfl (lv_at hl 0 rfl) ?_
    refine g_RU_9 M hI d_RU_appendLeft_62 ?_
    refine lv_aload_n hx hb d_RU_appendLeft_65 rfl (lv_at hl 0 rfl) ?_
    refine g_RU_15 M hI d_RU_appendLeft_66 ?_
    refine q_as (y := nI (tot V)) rfl ?_
    refine lv_iload_n hx hb d_RU_appendLeft_69 rfl (lv_at hl 1 rfl) ?_
    refine as_32 M hI (tot V) rfl (by omega) d_RU_appendLeft_70 (fun H locs hI => ?_)
    have hI : CI g A s (cw g ad (va_up (va_up ar 33 (upd (ar 33) V.length (nI (tot V)))) 32 (upd (ar 32) (tot V) (nI q))) (va_up (va_up fl 11 (nI (tot V))) 12 (nI (V.length + 1)))) H locs := hI
    refine lv_aload_n hx hb d_RU_appendLeft_71 rfl (lv_at hl 0 rfl) ?_
    refine lv_dup hx hb d_RU_appendLeft_72 rfl ?_
    refine g_RU_15 M hI d_RU_appendLeft_73 ?_
    refine q_as (y := nI (tot V)) rfl ?_
    refine lv_iconst (v := 1) hx hb d_RU_appendLeft_76 (by decide) ?_
    refine lv_iadd hx hb d_RU_appendLeft_77 ?_
    refine q_as (y := nI (tot V + 1)) (nI_add (tot V) 1) ?_
    refine p_RU_15 M hI d_RU_appendLeft_78 (fun H locs hI => ?_)
    have hI : CI g A s (cw g ad (va_up (va_up ar 33 (upd (ar 33) V.length (nI (tot V)))) 32 (upd (ar 32) (tot V) (nI q))) (va_up (va_up fl 12 (nI (V.length + 1))) 11 (nI (tot V + 1)))) H locs := hI
    refine lv_aload_n hx hb d_RU_appendLeft_81 rfl (lv_at hl 0 rfl) ?_
    refine g_RU_22 M hI d_RU_appendLeft_82 ?_
    refine lv_aload_n hx hb d_RU_appendLeft_85 rfl (lv_at hl 0 rfl) ?_
    refine g_RU_28 M hI d_RU_appendLeft_86 ?_
    refine q_as (y := nI (V.length + 1)) rfl ?_
    refine lv_iconst (v := 1) hx hb d_RU_appendLeft_89 (by decide) ?_
    refine lv_isub hx hb d_RU_appendLeft_90 ?_
    refine q_as (y := nI (V.length + 1 - 1)) (pk_sub (a := V.length + 1) (b := 1) (by omega)) ?_
    refine lv_aload_n hx hb d_RU_appendLeft_91 rfl (lv_at hl 0 rfl) ?_
    refine g_RU_15 M hI d_RU_appendLeft_92 ?_
    refine q_as (y := nI (tot V + 1)) rfl ?_
    refine as_34 M hI (V.length + 1 - 1) rfl (by omega) d_RU_appendLeft_95 (fun H locs hI => ?_)
    have hI : CI g A s (cw g ad (va_up (va_up (va_up ar 33 (upd (ar 33) V.length (nI (tot V)))) 32 (upd (ar 32) (tot V) (nI q))) 34 (upd (ar 34) (V.length + 1 - 1) (nI (tot V + 1)))) (va_up (va_up fl 12 (nI (V.length + 1))) 11 (nI (tot V + 1)))) H locs := hI
    refine lv_aload_n hx hb d_RU_appendLeft_96 rfl (lv_at hl 0 rfl) ?_
    refine g_RU_25 M hI d_RU_appendLeft_97 ?_
    refine lv_iload_n hx hb d_RU_appendLeft_100 rfl (lv_at hl 1 rfl) ?_
    refine lv_aload_n hx hb d_RU_appendLeft_101 rfl (lv_at hl 0 rfl) ?_
    refine g_RU_28 M hI d_RU_appendLeft_102 ?_
    refine q_as (y := nI (V.length + 1)) rfl ?_
    refine lv_iconst (v := 1) hx hb d_RU_appendLeft_105 (by decide) ?_
    refine lv_isub hx hb d_RU_appendLeft_106 ?_
    refine q_as (y := nI (V.length + 1 - 1)) (pk_sub (a := V.length + 1) (b := 1) (by omega)) ?_
    refine as_35 M hI q rfl (by omega) d_RU_appendLeft_107 (fun H locs hI => ?_)
    have hI : CI g A s (cw g ad (va_up (va_up (va_up (va_up ar 33 (upd (ar 33) V.length (nI (tot V)))) 32 (upd (ar 32) (tot V) (nI q))) 34 (upd (ar 34) (V.length + 1 - 1) (nI (tot V + 1)))) 35 (upd (ar 35) q (nI (V.length + 1 - 1)))) (va_up (va_up fl 12 (nI (V.length + 1))) 11 (nI (tot V + 1)))) H locs := hI
    have hI := CI.to (w2 := cw g ad (va_up (va_up (va_up (va_up ar 32 (upd (ar 32) (tot V) (nI q))) 33 (upd (ar 33) V.length (nI (tot V)))) 34 (upd (ar 34) (V.length + 1 - 1) (nI (tot V + 1)))) 35 (upd (ar 35) q (nI (V.length + 1 - 1)))) (va_up (va_up fl 11 (nI (tot (rvS (ar 15) q V)))) 12 (nI (rvS (ar 15) q V).length))) hI (by rw [eV]; first | rfl | (rw [show nI (tot ((q :: z :: t) :: rest)) = nI (tot V + 1) by rw [hV]; rfl, show nI ((q :: z :: t) :: rest).length = nI V.length by rw [hV]; rfl] <;> rfl))
    exact hret (upd (ar 32) (tot V) (nI q), upd (ar 33) V.length (nI (tot V)), upd (ar 34) (V.length + 1 - 1) (nI (tot V + 1)), upd (ar 35) q (nI (V.length + 1 - 1))) _ _ _ _ _ _ d_RU_appendLeft_108 hI (by rw [eV]; first | (have hh := rrel_new hv hrr; simpa only [Nat.add_sub_cancel] using hh) | (have hh := rrel_ext (hV ▸ hv) (hV ▸ hrr); rw [← hV] at hh; rw [show V.length - 1 = rest.length by omega]; exact hh)) (Nat.le_refl 0) (Nat.le_refl 0)
  · have c4 : ¬ tot V = 0 := fun h => c4 ((nI_eq (a := tot V) (b := 0) (by omega) (by omega)).mpr h)
    obtain ⟨z, t, rest, hV⟩ : ∃ z t rest, V = (z :: t) :: rest := by cases V with | nil => exact absurd rfl c4 | cons R rest => cases R with | nil => exact absurd rfl hv.1 | cons z t => exact ⟨z, t, rest, rfl⟩
    have hz : z < 2000 := by rw [hV] at hv; have := hv.2.1 z List.mem_cons_self; omega
    have hzl : ar 32 (tot V - 1) = nI z := by rw [hV] at hrr ⊢; exact rrel_top hrr
    have hV1 : V.length = rest.length + 1 := by rw [hV]; rfl
    refine lv_aload_n hx hb d_RU_appendLeft_7 rfl (lv_at hl 0 rfl) ?_
    refine g_RU_31 M hI d_RU_appendLeft_8 ?_
    refine g_RU_35 M hI d_RU_appendLeft_11 ?_
    refine lv_aload_n hx hb d_RU_appendLeft_14 rfl (lv_at hl 0 rfl) ?_
    refine g_RU_9 M hI d_RU_appendLeft_15 ?_
    refine lv_aload_n hx hb d_RU_appendLeft_18 rfl (lv_at hl 0 rfl) ?_
    refine g_RU_15 M hI d_RU_appendLeft_19 ?_
    refine q_as (y := nI (tot V)) rfl ?_
    refine lv_iconst (v := 1) hx hb d_RU_appendLeft_22 (by decide) ?_
    refine lv_isub hx hb d_RU_appendLeft_23 ?_
    refine q_as (y := nI (tot V - 1)) (pk_sub (a := tot V) (b := 1) (by omega)) ?_
    refine al_32 M hI (tot V - 1) rfl (by omega) d_RU_appendLeft_24 ?_
    refine q_as (y := nI z) (hzl) ?_
    refine al_15 M hI z rfl (by omega) d_RU_appendLeft_25 ?_
    refine lv_aload_n hx hb d_RU_appendLeft_26 rfl (lv_at hl 0 rfl) ?_
    refine g_RU_31 M hI d_RU_appendLeft_27 ?_
    refine g_RU_35 M hI d_RU_appendLeft_30 ?_
    refine lv_iload_n hx hb d_RU_appendLeft_33 rfl (lv_at hl 1 rfl) ?_
    refine al_15 M hI q rfl (by omega) d_RU_appendLeft_34 ?_
    refine lv_icmp_eq (tgt := 61) hx hb d_RU_appendLeft_35 (by decide) (fun c35 => ?_) (fun c35 => ?_)
    · have eV : rvS (ar 15) q V = (q :: z :: t) :: rest := by rw [hV]; unfold rvS; simp only; rw [if_pos c35]
      refine lv_aload_n hx hb d_RU_appendLeft_61 rfl (lv_at hl 0 rfl) ?_
      refine g_RU_9 M hI d_RU_appendLeft_62 ?_
      refine lv_aload_n hx hb d_RU_appendLeft_65 rfl (lv_at hl 0 rfl) ?_
      refine g_RU_15 M hI d_RU_appendLeft_66 ?_
      refine q_as (y := nI (tot V)) rfl ?_
      refine lv_iload_n hx hb d_RU_appendLeft_69 rfl (lv_at hl 1 rfl) ?_
      refine as_32 M hI (tot V) rfl (by omega) d_RU_appendLeft_70 (fun H locs hI => ?_)
      have hI : CI g A s (cw g ad (va_up ar 32 (upd (ar 32) (tot V) (nI q))) (va_up (va_up fl 11 (nI (tot V))) 12 (nI V.length))) H locs := hI
      refine lv_aload_n hx hb d_RU_appendLeft_71 rfl (lv_at hl 0 rfl) ?_
      refine lv_dup hx hb d_RU_appendLeft_72 rfl ?_
      refine g_RU_15 M hI d_RU_appendLeft_73 ?_
      refine q_as (y := nI (tot V)) rfl ?_
      refine lv_iconst (v := 1) hx hb d_RU_appendLeft_76 (by decide) ?_
      refine lv_iadd hx hb d_RU_appendLeft_77 ?_
      refine q_as (y := nI (tot V + 1)) (nI_add (tot V) 1) ?_
      refine p_RU_15 M hI d_RU_appendLeft_78 (fun H locs hI => ?_)
      have hI : CI g A s (cw g ad (va_up ar 32 (upd (ar 32) (tot V) (nI q))) (va_up (va_up fl 12 (nI V.length)) 11 (nI (tot V + 1)))) H locs := hI
      refine lv_aload_n hx hb d_RU_appendLeft_81 rfl (lv_at hl 0 rfl) ?_
      refine g_RU_22 M hI d_RU_appendLeft_82 ?_
      refine lv_aload_n hx hb d_RU_appendLeft_85 rfl (lv_at hl 0 rfl) ?_
      refine g_RU_28 M hI d_RU_appendLeft_86 ?_
      refine q_as (y := nI V.length) rfl ?_
      refine lv_iconst (v := 1) hx hb d_RU_appendLeft_89 (by decide) ?_
      refine lv_isub hx hb d_RU_appendLeft_90 ?_
      refine q_as (y := nI (V.length - 1)) (pk_sub (a := V.length) (b := 1) (by omega)) ?_
      refine lv_aload_n hx hb d_RU_appendLeft_91 rfl (lv_at hl 0 rfl) ?_
      refine g_RU_15 M hI d_RU_appendLeft_92 ?_
      refine q_as (y := nI (tot V + 1)) rfl ?_
      refine as_34 M hI (V.length - 1) rfl (by omega) d_RU_appendLeft_95 (fun H locs hI => ?_)
      have hI : CI g A s (cw g ad (va_up (va_up ar 32 (upd (ar 32) (tot V) (nI q))) 34 (upd (ar 34) (V.length - 1) (nI (tot V + 1)))) (va_up (va_up fl 12 (nI V.length)) 11 (nI (tot V + 1)))) H locs := hI
      refine lv_aload_n hx hb d_RU_appendLeft_96 rfl (lv_at hl 0 rfl) ?_
      refine g_RU_25 M hI d_RU_appendLeft_97 ?_
      refine lv_iload_n hx hb d_RU_appendLeft_100 rfl (lv_at hl 1 rfl) ?_
      refine lv_aload_n hx hb d_RU_appendLeft_101 rfl (lv_at hl 0 rfl) ?_
      refine g_RU_28 M hI d_RU_appendLeft_102 ?_
      refine q_as (y := nI V.length) rfl ?_
      refine lv_iconst (v := 1) hx hb d_RU_appendLeft_105 (by decide) ?_
      refine lv_isub hx hb d_RU_appendLeft_106 ?_
      refine q_as (y := nI (V.length - 1)) (pk_sub (a := V.length) (b := 1) (by omega)) ?_
      refine as_35 M hI q rfl (by omega) d_RU_appendLeft_107 (fun H locs hI => ?_)
      have hI : CI g A s (cw g ad (va_up (va_up (va_up ar 32 (upd (ar 32) (tot V) (nI q))) 34 (upd (ar 34) (V.length - 1) (nI (tot V + 1)))) 35 (upd (ar 35) q (nI (V.length - 1)))) (va_up (va_up fl 12 (nI V.length)) 11 (nI (tot V + 1)))) H locs := hI
      have hI := CI.to (w2 := cw g ad (va_up (va_up (va_up (va_up ar 32 (upd (ar 32) (tot V) (nI q))) 33 (ar 33)) 34 (upd (ar 34) (V.length - 1) (nI (tot V + 1)))) 35 (upd (ar 35) q (nI (V.length - 1)))) (va_up (va_up fl 11 (nI (tot (rvS (ar 15) q V)))) 12 (nI (rvS (ar 15) q V).length))) hI (by rw [eV]; first | rfl | (rw [show nI (tot ((q :: z :: t) :: rest)) = nI (tot V + 1) by rw [hV]; rfl, show nI ((q :: z :: t) :: rest).length = nI V.length by rw [hV]; rfl] <;> rfl))
      exact hret (upd (ar 32) (tot V) (nI q), ar 33, upd (ar 34) (V.length - 1) (nI (tot V + 1)), upd (ar 35) q (nI (V.length - 1))) _ _ _ _ _ _ d_RU_appendLeft_108 hI (by rw [eV]; first | (have hh := rrel_new hv hrr; simpa only [Nat.add_sub_cancel] using hh) | (have hh := rrel_ext (hV ▸ hv) (hV ▸ hrr); rw [← hV] at hh; rw [show V.length - 1 = rest.length by omega]; exact hh)) (Nat.le_refl 0) (Nat.le_refl 0)
    · have eV : rvS (ar 15) q V = [q] :: V := by rw [hV]; unfold rvS; simp only; rw [if_neg c35]
      refine lv_aload_n hx hb d_RU_appendLeft_38 rfl (lv_at hl 0 rfl) ?_
      refine g_RU_19 M hI d_RU_appendLeft_39 ?_
      refine lv_aload_n hx hb d_RU_appendLeft_42 rfl (lv_at hl 0 rfl) ?_
      refine g_RU_28 M hI d_RU_appendLeft_43 ?_
      refine q_as (y := nI V.length) rfl ?_
      refine lv_aload_n hx hb d_RU_appendLeft_46 rfl (lv_at hl 0 rfl) ?_
      refine g_RU_15 M hI d_RU_appendLeft_47 ?_
      refine q_as (y := nI (tot V)) rfl ?_
      refine as_33 M hI V.length rfl (by omega) d_RU_appendLeft_50 (fun H locs hI => ?_)
      have hI : CI g A s (cw g ad (va_up ar 33 (upd (ar 33) V.length (nI (tot V)))) (va_up (va_up fl 11 (nI (tot V))) 12 (nI V.length))) H locs := hI
      refine lv_aload_n hx hb d_RU_appendLeft_51 rfl (lv_at hl 0 rfl) ?_
      refine lv_dup hx hb d_RU_appendLeft_52 rfl ?_
      refine g_RU_28 M hI d_RU_appendLeft_53 ?_
      refine q_as (y := nI V.length) rfl ?_
      refine lv_iconst (v := 1) hx hb d_RU_appendLeft_56 (by decide) ?_
      refine lv_iadd hx hb d_RU_appendLeft_57 ?_
      refine q_as (y := nI (V.length + 1)) (nI_add V.length 1) ?_
      refine p_RU_28 M hI d_RU_appendLeft_58 (fun H locs hI => ?_)
      have hI : CI g A s (cw g ad (va_up ar 33 (upd (ar 33) V.length (nI (tot V)))) (va_up (va_up fl 11 (nI (tot V))) 12 (nI (V.length + 1)))) H locs := hI
      refine lv_aload_n hx hb d_RU_appendLeft_61 rfl (lv_at hl 0 rfl) ?_
      refine g_RU_9 M hI d_RU_appendLeft_62 ?_
      refine lv_aload_n hx hb d_RU_appendLeft_65 rfl (lv_at hl 0 rfl) ?_
      refine g_RU_15 M hI d_RU_appendLeft_66 ?_
      refine q_as (y := nI (tot V)) rfl ?_
      refine lv_iload_n hx hb d_RU_appendLeft_69 rfl (lv_at hl 1 rfl) ?_
      refine as_32 M hI (tot V) rfl (by omega) d_RU_appendLeft_70 (fun H locs hI => ?_)
      have hI : CI g A s (cw g ad (va_up (va_up ar 33 (upd (ar 33) V.length (nI (tot V)))) 32 (upd (ar 32) (tot V) (nI q))) (va_up (va_up fl 11 (nI (tot V))) 12 (nI (V.length + 1)))) H locs := hI
      refine lv_aload_n hx hb d_RU_appendLeft_71 rfl (lv_at hl 0 rfl) ?_
      refine lv_dup hx hb d_RU_appendLeft_72 rfl ?_
      refine g_RU_15 M hI d_RU_appendLeft_73 ?_
      refine q_as (y := nI (tot V)) rfl ?_
      refine lv_iconst (v := 1) hx hb d_RU_appendLeft_76 (by decide) ?_
      refine lv_iadd hx hb d_RU_appendLeft_77 ?_
      refine q_as (y := nI (tot V + 1)) (nI_add (tot V) 1) ?_
      refine p_RU_15 M hI d_RU_appendLeft_78 (fun H locs hI => ?_)
      have hI : CI g A s (cw g ad (va_up (va_up ar 33 (upd (ar 33) V.length (nI (tot V)))) 32 (upd (ar 32) (tot V) (nI q))) (va_up (va_up fl 12 (nI (V.length + 1))) 11 (nI (tot V + 1)))) H locs := hI
      refine lv_aload_n hx hb d_RU_appendLeft_81 rfl (lv_at hl 0 rfl) ?_
      refine g_RU_22 M hI d_RU_appendLeft_82 ?_
      refine lv_aload_n hx hb d_RU_appendLeft_85 rfl (lv_at hl 0 rfl) ?_
      refine g_RU_28 M hI d_RU_appendLeft_86 ?_
      refine q_as (y := nI (V.length + 1)) rfl ?_
      refine lv_iconst (v := 1) hx hb d_RU_appendLeft_89 (by decide) ?_
      refine lv_isub hx hb d_RU_appendLeft_90 ?_
      refine q_as (y := nI (V.length + 1 - 1)) (pk_sub (a := V.length + 1) (b := 1) (by omega)) ?_
      refine lv_aload_n hx hb d_RU_appendLeft_91 rfl (lv_at hl 0 rfl) ?_
      refine g_RU_15 M hI d_RU_appendLeft_92 ?_
      refine q_as (y := nI (tot V + 1)) rfl ?_
      refine as_34 M hI (V.length + 1 - 1) rfl (by omega) d_RU_appendLeft_95 (fun H locs hI => ?_)
      have hI : CI g A s (cw g ad (va_up (va_up (va_up ar 33 (upd (ar 33) V.length (nI (tot V)))) 32 (upd (ar 32) (tot V) (nI q))) 34 (upd (ar 34) (V.length + 1 - 1) (nI (tot V + 1)))) (va_up (va_up fl 12 (nI (V.length + 1))) 11 (nI (tot V + 1)))) H locs := hI
      refine lv_aload_n hx hb d_RU_appendLeft_96 rfl (lv_at hl 0 rfl) ?_
      refine g_RU_25 M hI d_RU_appendLeft_97 ?_
      refine lv_iload_n hx hb d_RU_appendLeft_100 rfl (lv_at hl 1 rfl) ?_
      refine lv_aload_n hx hb d_RU_appendLeft_101 rfl (lv_at hl 0 rfl) ?_
      refine g_RU_28 M hI d_RU_appendLeft_102 ?_
      refine q_as (y := nI (V.length + 1)) rfl ?_
      refine lv_iconst (v := 1) hx hb d_RU_appendLeft_105 (by decide) ?_
      refine lv_isub hx hb d_RU_appendLeft_106 ?_
      refine q_as (y := nI (V.length + 1 - 1)) (pk_sub (a := V.length + 1) (b := 1) (by omega)) ?_
      refine as_35 M hI q rfl (by omega) d_RU_appendLeft_107 (fun H locs hI => ?_)
      have hI : CI g A s (cw g ad (va_up (va_up (va_up (va_up ar 33 (upd (ar 33) V.length (nI (tot V)))) 32 (upd (ar 32) (tot V) (nI q))) 34 (upd (ar 34) (V.length + 1 - 1) (nI (tot V + 1)))) 35 (upd (ar 35) q (nI (V.length + 1 - 1)))) (va_up (va_up fl 12 (nI (V.length + 1))) 11 (nI (tot V + 1)))) H locs := hI
      have hI := CI.to (w2 := cw g ad (va_up (va_up (va_up (va_up ar 32 (upd (ar 32) (tot V) (nI q))) 33 (upd (ar 33) V.length (nI (tot V)))) 34 (upd (ar 34) (V.length + 1 - 1) (nI (tot V + 1)))) 35 (upd (ar 35) q (nI (V.length + 1 - 1)))) (va_up (va_up fl 11 (nI (tot (rvS (ar 15) q V)))) 12 (nI (rvS (ar 15) q V).length))) hI (by rw [eV]; first | rfl | (rw [show nI (tot ((q :: z :: t) :: rest)) = nI (tot V + 1) by rw [hV]; rfl, show nI ((q :: z :: t) :: rest).length = nI V.length by rw [hV]; rfl] <;> rfl))
      exact hret (upd (ar 32) (tot V) (nI q), upd (ar 33) V.length (nI (tot V)), upd (ar 34) (V.length + 1 - 1) (nI (tot V + 1)), upd (ar 35) q (nI (V.length + 1 - 1))) _ _ _ _ _ _ d_RU_appendLeft_108 hI (by rw [eV]; first | (have hh := rrel_new hv hrr; simpa only [Nat.add_sub_cancel] using hh) | (have hh := rrel_ext (hV ▸ hv) (hV ▸ hrr); rw [← hV] at hh; rw [show V.length - 1 = rest.length by omega]; exact hh)) (Nat.le_refl 0) (Nat.le_refl 0)
abbrev rm_RU_findRuns : Room := { frames := 1, cells := 0, slots := 0, locals := 21 }
set_option maxHeartbeats 4000000 in
set_option maxRecDepth 100000 in
theorem c_RU_findRuns (l : Launch) (g : Geo) (ad : Nat → Nat) (ar : Nat → Nat → Int32) (fl : Nat → Int32) (b : Nat) (en : Nat) (hbe : b ≤ en) (he : en ≤ 2000) : cMv l y_RU_findRuns (.code y_RU_findRuns b_RU_findRuns 4 none :: gw) rm_RU_findRuns g [.ref (ad 7), .int (nI b), .int (nI en)] (cw g ad ar fl) (fun (u : (Nat → Int32) × (Nat → Int32) × (Nat → Int32) × (Nat → Int32)) => rrel u.1 u.2.1 u.2.2.1 u.2.2.2 (rv (ar 15) b (en - b))) (fun (u : (Nat → Int32) × (Nat → Int32) × (Nat → Int32) × (Nat → Int32)) => cw g ad (va_up (va_up (va_up (va_up ar 32 u.1) 33 u.2.1) 34 u.2.2.1) 35 u.2.2.2) (va_up (va_up fl 11 (nI (tot (rv (ar 15) b (en - b))))) 12 (nI (rv (ar 15) b (en - b)).length))) 0 0 := by
  refine cMv_of (by decide) (Nat.le_of_ble_eq_true rfl) ?_
  intro p e s m below meth c A Q ls M hnm hret hl hI
  have M : MC p s m ([.ref (ad 7), .int (nI b), .int (nI en)] : List Value).toArray meth c R_RU b_RU_findRuns 4 := M
  have hl : lv_has ls 4 [(0, .ref (ad 7)), (1, .int (nI b)), (2, .int (nI en))] := hl
  generalize ([.ref (ad 7), .int (nI b), .int (nI en)] : List Value).toArray = args at M hret ⊢
  have hx := M.1
  have hb := M.2.1
  refine lv_aload_n hx hb d_RU_findRuns_0 rfl (lv_at hl 0 rfl) ?_
  refine lv_iconst (v := 0) hx hb d_RU_findRuns_1 (by decide) ?_
  refine p_RU_15 M hI d_RU_findRuns_2 (fun H locs hI => ?_)
  have hI : CI g A s (cw g ad ar (va_up fl 11 0)) H locs := hI
  refine lv_aload_n hx hb d_RU_findRuns_5 rfl (lv_at hl 0 rfl) ?_
  refine lv_iconst (v := 0) hx hb d_RU_findRuns_6 (by decide) ?_
  refine p_RU_28 M hI d_RU_findRuns_7 (fun H locs hI => ?_)
  have hI : CI g A s (cw g ad ar (va_up (va_up fl 11 0) 12 0)) H locs := hI
  refine lv_iload_n hx hb d_RU_findRuns_10 rfl (lv_at hl 1 rfl) ?_
  refine lv_istore_n (lv' := [(3, .int (nI b)), (0, .ref (ad 7)), (1, .int (nI b)), (2, .int (nI en))]) hx hb d_RU_findRuns_11 rfl hl (by decide) rfl (fun ls hl => ?_)
  have L12 : ∀ (fu : Nat) (d : Nat) (y1 : Nat → Int32) (y2 : Nat → Int32) (y3 : Nat → Int32) (y4 : Nat → Int32), (en - (b + d)) < fu → (b + d ≤ en) → (rrel y1 y2 y3 y4 (rv (ar 15) b d)) → ∀ (H : Heap) (locs : List Loc) (ls : Array Slot), CI g A s (cw g ad (va_up (va_up (va_up (va_up ar 32 y1) 33 y2) 34 y3) 35 y4) (va_up (va_up fl 11 (nI (tot (rv (ar 15) b d)))) 12 (nI ((rv (ar 15) b d).length)))) H locs → lv_has ls 4 [(0, .ref (ad 7)), (1, .int (nI b)), (2, .int (nI en)), (3, .int (nI (b + d)))] → W p l e rm_RU_findRuns s m args below meth c H locs 0 0 Q (F0 m 12 ls []) := by
    intro fu
    induction fu with
    | zero => intro d y1 y2 y3 y4 hm; exact absurd hm (Nat.not_lt_zero _)
    | succ fu ih12 =>
      intro d y1 y2 y3 y4 hm hd hr H locs ls hI hl
      refine lv_iload_n hx hb d_RU_findRuns_12 rfl (lv_at hl 3 rfl) ?_
      refine lv_iload_n hx hb d_RU_findRuns_13 rfl (lv_at hl 2 rfl) ?_
      refine lv_icmp_ge (tgt := 41) hx hb d_RU_findRuns_14 (by decide) (fun c14 => ?_) (fun c14 => ?_)
      · have c14 : en ≤ b + d := (nI_leI (a := en) (b := b + d) (by omega) (by omega)).mp c14
        have hI := CI.to (w2 := cw g ad (va_up (va_up (va_up (va_up ar 32 y1) 33 y2) 34 y3) 35 y4) (va_up (va_up fl 11 (nI (tot (rv (ar 15) b (en - b))))) 12 (nI (rv (ar 15) b (en - b)).length))) hI (by rw [show en - b = d by omega] <;> rfl)
        exact hret (y1, y2, y3, y4) _ _ _ _ _ _ d_RU_findRuns_41 hI (by rw [show en - b = d by omega]; exact hr) (Nat.le_refl 0) (Nat.le_refl 0)
      · have c14 : ¬ en ≤ b + d := fun h => c14 ((nI_leI (a := en) (b := b + d) (by omega) (by omega)).mpr h)
        have hvl := vlt_rv (lv := ar 15) (b := b) d
        refine lv_aload_n hx hb d_RU_findRuns_17 rfl (lv_at hl 0 rfl) ?_
        refine g_RU_31 M hI d_RU_findRuns_18 ?_
        refine g_RU_35 M hI d_RU_findRuns_21 ?_
        refine lv_iload_n hx hb d_RU_findRuns_24 rfl (lv_at hl 3 rfl) ?_
        refine al_15 M hI (b + d) rfl (by omega) d_RU_findRuns_25 ?_
        refine q_as (y := ar 15 (b + d)) rfl ?_
        refine lv_iconst (v := (-1)) hx hb d_RU_findRuns_26 (by decide) ?_
        refine lv_icmp_eq (tgt := 35) hx hb d_RU_findRuns_27 (by decide) (fun c27 => ?_) (fun c27 => ?_)
        · have eV : rv (ar 15) b (d + 1) = rv (ar 15) b d := by simp only [rv]; rw [if_pos c27]
          have hr2 : rrel y1 y2 y3 y4 (rv (ar 15) b (d + 1)) := by rw [eV]; exact hr
          have hI := CI.to (w2 := cw g ad (va_up (va_up (va_up (va_up ar 32 y1) 33 y2) 34 y3) 35 y4) (va_up (va_up fl 11 (nI (tot (rv (ar 15) b (d + 1))))) 12 (nI ((rv (ar 15) b (d + 1)).length)))) hI (by rw [eV] <;> rfl)
          refine lv_iinc (v := nI (b + d + 1)) (lv' := [(3, .int (nI (b + d + 1))), (0, .ref (ad 7)), (1, .int (nI b)), (2, .int (nI en))]) hx hb d_RU_findRuns_35 hl (k := 3) rfl (nI_add _ 1) (by decide) rfl (fun ls hl => ?_)
          refine lv_goto (tgt := 12) hx hb d_RU_findRuns_38 (by decide) ?_
          exact ih12 (d + 1) y1 y2 y3 y4 (by omega) (by first | assumption | omega) (hr2) _ _ _ hI (lv_sub hl [1, 2, 3, 0] rfl)
        · have eV : rv (ar 15) b (d + 1) = rvS (ar 15) (b + d) (rv (ar 15) b d) := by simp only [rv]; rw [if_neg c27]
          refine lv_aload_n hx hb d_RU_findRuns_30 rfl (lv_at hl 0 rfl) ?_
          refine lv_iload_n hx hb d_RU_findRuns_31 rfl (lv_at hl 3 rfl) ?_
          refine q_callvV [.int (nI (b + d))] M hI (c_RU_appendLeft l g ad (va_up (va_up (va_up (va_up ar 32 y1) 33 y2) 34 y3) 35 y4) (va_up (va_up fl 11 (nI (tot (rv (ar 15) b d)))) 12 (nI ((rv (ar 15) b d).length))) (b + d) (rv (ar 15) b d) (rfl) (rfl) (hr) (hvl.1) (by have := hvl.2; omega) (by omega)) ok_RU_appendLeft m3_139 m3_141 ms_15 7 rfl rfl rfl rfl hl.1 ⟨rfl, rfl⟩ ⟨Nat.le_of_ble_eq_true rfl, Nat.le_of_ble_eq_true rfl⟩ (Nat.le_of_ble_eq_true rfl) ⟨Nat.le_of_ble_eq_true rfl, Nat.le_of_ble_eq_true rfl⟩ d_RU_findRuns_32 (fun u32 H locs hp32 hI => ?_)
          obtain ⟨y1_32, y2_32, y3_32, y4_32⟩ := u32
          have hI : CI g A s (cw g ad (va_up (va_up (va_up (va_up ar 32 y1_32) 33 y2_32) 34 y3_32) 35 y4_32) (va_up (va_up fl 11 (nI (tot (rvS (ar 15) (b + d) (rv (ar 15) b d))))) 12 (nI (rvS (ar 15) (b + d) (rv (ar 15) b d)).length))) H locs := hI
          have hr2 : rrel y1_32 y2_32 y3_32 y4_32 (rv (ar 15) b (d + 1)) := by rw [eV]; exact hp32
          have hI := CI.to (w2 := cw g ad (va_up (va_up (va_up (va_up ar 32 y1_32) 33 y2_32) 34 y3_32) 35 y4_32) (va_up (va_up fl 11 (nI (tot (rv (ar 15) b (d + 1))))) 12 (nI ((rv (ar 15) b (d + 1)).length)))) hI (by rw [eV] <;> rfl)
          refine lv_iinc (v := nI (b + d + 1)) (lv' := [(3, .int (nI (b + d + 1))), (0, .ref (ad 7)), (1, .int (nI b)), (2, .int (nI en))]) hx hb d_RU_findRuns_35 hl (k := 3) rfl (nI_add _ 1) (by decide) rfl (fun ls hl => ?_)
          refine lv_goto (tgt := 12) hx hb d_RU_findRuns_38 (by decide) ?_
          exact ih12 (d + 1) y1_32 y2_32 y3_32 y4_32 (by omega) (by first | assumption | omega) (hr2) _ _ _ hI (lv_sub hl [1, 2, 3, 0] rfl)
  have hI := CI.to (w2 := cw g ad (va_up (va_up (va_up (va_up ar 32 (ar 32)) 33 (ar 33)) 34 (ar 34)) 35 (ar 35)) (va_up (va_up fl 11 (nI (tot (rv (ar 15) b 0)))) 12 (nI ((rv (ar 15) b 0).length)))) hI (by rfl)
  exact L12 _ 0 (ar 32) (ar 33) (ar 34) (ar 35) (Nat.lt_succ_self _) (by first | assumption | omega) (trivial) _ _ _ hI (lv_sub hl [1, 2, 3, 0] rfl)
