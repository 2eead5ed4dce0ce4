/-! 81: the model: lines -/
abbrev rm_MD_turn : Room := { frames := 0, cells := 0, slots := 0, locals := 0 }
set_option maxHeartbeats 4000000 in
set_option maxRecDepth 100000 in
theorem c_MD_turn (l : Launch) (g : Geo) (ad : Nat → Nat) (ar : Nat → Nat → Int32) (fl : Nat → Int32) (b : Nat) (ed : Nat) (mm : Nat) (O LV : Nat → Nat) (hbe : b ≤ ed) (hem : ed ≤ mm) (hM : mm ≤ 2000) (hO : oR (ar 21) O mm) (hV : oR (ar 22) (fun j => LV (O j)) mm) : cMv l y_MD_turn (.code y_MD_turn b_MD_turn 7 none :: gw) rm_MD_turn g [.ref (ad 0), .int (nI b), .int (nI ed)] (mw g ad ar fl) (fun (u : (Nat → Int32) × (Nat → Int32)) => oR u.1 (rvs b ed O) mm ∧ oR u.2 (fun j => LV (rvs b ed O j)) mm) (fun (u : (Nat → Int32) × (Nat → Int32)) => mw g ad (va_up (va_up ar 21 u.1) 22 u.2) fl) 0 0 := by
  refine cMv_of (by decide) (Nat.le_of_ble_eq_true rfl) ?_
  intro p e s m below meth c A Q ls M hnm hret hl hI
  have M : MC p s m ([.ref (ad 0), .int (nI b), .int (nI ed)] : List Value).toArray meth c R_MD b_MD_turn 7 := M
  have hl : lv_has ls 7 [(0, .ref (ad 0)), (1, .int (nI b)), (2, .int (nI ed))] := hl
  generalize ([.ref (ad 0), .int (nI b), .int (nI ed)] : List Value).toArray = args at M hret ⊢
  have hx := M.1
  have hb := M.2.1
  refine lv_iload_n hx hb d_MD_turn_0 rfl (lv_at hl 1 rfl) ?_
  refine lv_istore_n (lv' := [(3, .int (nI b)), (0, .ref (ad 0)), (1, .int (nI b)), (2, .int (nI ed))]) hx hb d_MD_turn_1 rfl hl (by decide) rfl (fun ls hl => ?_)
  refine lv_iload_n hx hb d_MD_turn_2 rfl (lv_at hl 3 rfl) ?_
  refine lv_iconst (v := 1) hx hb d_MD_turn_3 (by decide) ?_
  refine lv_isub hx hb d_MD_turn_4 ?_
  refine lv_istore (lv' := [(4, .int ((nI ed) - 1)), (3, .int (nI b)), (0, .ref (ad 0)), (1, .int (nI b)), (2, .int (nI ed))]) hx hb d_MD_turn_5 hl (by decide) rfl (fun ls hl => ?_)
  have L7 : ∀ (fu : Nat) (t : Nat) (y1 : Nat → Int32) (y2 : Nat → Int32), (ed - t) < fu → (2 * t ≤ ed - b) → (oR y1 (swp b ed t O) mm) → (oR y2 (swp b ed t (fun j => LV (O j))) mm) → ∀ (H : Heap) (locs : List Loc) (ls : Array Slot), CI g A s (mw g ad (va_up (va_up ar 21 y1) 22 y2) fl) H locs → lv_has ls 7 [(0, .ref (ad 0)), (3, .int (nI (b + t))), (4, .int (nI (ed - t) - 1))] → W p l e rm_MD_turn s m args below meth c H locs 0 0 Q (F0 m 7 ls []) := by
    intro fu
    induction fu with
    | zero => intro t y1 y2 hm; exact absurd hm (Nat.not_lt_zero _)
    | succ fu ih7 =>
      intro t y1 y2 hm ht hy1 hy2 H locs ls hI hl
      refine lv_iload_n hx hb d_MD_turn_7 rfl (lv_at hl 1 rfl) ?_
      refine lv_iload hx hb d_MD_turn_8 (lv_at hl 2 rfl) ?_
      refine lv_icmp_ge (tgt := 82) hx hb d_MD_turn_10 (by decide) (fun c10 => ?_) (fun c10 => ?_)
      · have c10 := (nI_m1le (by omega) (by omega)).mp c10
        exact hret (y1, y2) _ _ _ _ _ _ d_MD_turn_82 hI (by rw [← swp_e c10 ht]; refine ⟨hy1, ?_⟩; rw [swp_o] at hy2; exact hy2) (Nat.le_refl 0) (Nat.le_refl 0)
      · have c10 : ¬ ed - t ≤ b + t + 1 := fun q => c10 ((nI_m1le (by omega) (by omega)).mpr q)
        rw [nI_p1 (show 0 < ed - t by omega)] at hl
        have hz1 := swp_s hy1 (by omega) ht hem
        have hz2 := swp_s hy2 (by omega) ht hem
        refine lv_aload_n hx hb d_MD_turn_13 rfl (lv_at hl 0 rfl) ?_
        refine g_MD_71 M hI d_MD_turn_14 ?_
        refine lv_iload_n hx hb d_MD_turn_17 rfl (lv_at hl 1 rfl) ?_
        refine bl_21 M hI (b + t) rfl (by omega) d_MD_turn_18 ?_
        refine q_as (y := y1 (b + t)) rfl ?_
        refine lv_istore (lv' := [(5, .int (y1 (b + t))), (0, .ref (ad 0)), (3, .int (nI (b + t))), (4, .int (nI (ed - t - 1)))]) hx hb d_MD_turn_19 hl (by decide) rfl (fun ls hl => ?_)
        refine lv_aload_n hx hb d_MD_turn_21 rfl (lv_at hl 1 rfl) ?_
        refine g_MD_71 M hI d_MD_turn_22 ?_
        refine lv_iload_n hx hb d_MD_turn_25 rfl (lv_at hl 2 rfl) ?_
        refine lv_aload_n hx hb d_MD_turn_26 rfl (lv_at hl 1 rfl) ?_
        refine g_MD_71 M hI d_MD_turn_27 ?_
        refine lv_iload hx hb d_MD_turn_30 (lv_at hl 3 rfl) ?_
        refine bl_21 M hI (ed - t - 1) rfl (by omega) d_MD_turn_32 ?_
        refine q_as (y := y1 (ed - t - 1)) rfl ?_
        refine bs_21 M hI (b + t) rfl (by omega) d_MD_turn_33 (fun H locs hI => ?_)
        have hI : CI g A s (mw g ad (va_up (va_up ar 22 y2) 21 (upd y1 (b + t) (y1 (ed - t - 1)))) fl) H locs := hI
        refine lv_aload_n hx hb d_MD_turn_34 rfl (lv_at hl 1 rfl) ?_
        refine g_MD_71 M hI d_MD_turn_35 ?_
        refine lv_iload hx hb d_MD_turn_38 (lv_at hl 3 rfl) ?_
        refine lv_iload hx hb d_MD_turn_40 (lv_at hl 0 rfl) ?_
        refine bs_21 M hI (ed - t - 1) rfl (by omega) d_MD_turn_42 (fun H locs hI => ?_)
        have hI : CI g A s (mw g ad (va_up (va_up ar 22 y2) 21 (upd (upd y1 (b + t) (y1 (ed - t - 1))) (ed - t - 1) (y1 (b + t)))) fl) H locs := hI
        refine lv_aload_n hx hb d_MD_turn_43 rfl (lv_at hl 1 rfl) ?_
        refine g_MD_74 M hI d_MD_turn_44 ?_
        refine lv_iload_n hx hb d_MD_turn_47 rfl (lv_at hl 2 rfl) ?_
        refine bl_22 M hI (b + t) rfl (by omega) d_MD_turn_48 ?_
        refine q_as (y := y2 (b + t)) rfl ?_
        refine lv_istore (lv' := [(6, .int (y2 (b + t))), (5, .int (y1 (b + t))), (0, .ref (ad 0)), (3, .int (nI (b + t))), (4, .int (nI (ed - t - 1)))]) hx hb d_MD_turn_49 hl (by decide) rfl (fun ls hl => ?_)
        refine lv_aload_n hx hb d_MD_turn_51 rfl (lv_at hl 2 rfl) ?_
        refine g_MD_74 M hI d_MD_turn_52 ?_
        refine lv_iload_n hx hb d_MD_turn_55 rfl (lv_at hl 3 rfl) ?_
        refine lv_aload_n hx hb d_MD_turn_56 rfl (lv_at hl 2 rfl) ?_
        refine g_MD_74 M hI d_MD_turn_57 ?_
        refine lv_iload hx hb d_MD_turn_60 (lv_at hl 4 rfl) ?_
        refine bl_22 M hI (ed - t - 1) rfl (by omega) d_MD_turn_62 ?_
        refine q_as (y := y2 (ed - t - 1)) rfl ?_
        refine bs_22 M hI (b + t) rfl (by omega) d_MD_turn_63 (fun H locs hI => ?_)
        have hI : CI g A s (mw g ad (va_up (va_up ar 21 (upd (upd y1 (b + t) (y1 (ed - t - 1))) (ed - t - 1) (y1 (b + t)))) 22 (upd y2 (b + t) (y2 (ed - t - 1)))) fl) H locs := hI
        refine lv_aload_n hx hb d_MD_turn_64 rfl (lv_at hl 2 rfl) ?_
        refine g_MD_74 M hI d_MD_turn_65 ?_
        refine lv_iload hx hb d_MD_turn_68 (lv_at hl 4 rfl) ?_
        refine lv_iload hx hb d_MD_turn_70 (lv_at hl 0 rfl) ?_
        refine bs_22 M hI (ed - t - 1) rfl (by omega) d_MD_turn_72 (fun H locs hI => ?_)
        have hI : CI g A s (mw g ad (va_up (va_up ar 21 (upd (upd y1 (b + t) (y1 (ed - t - 1))) (ed - t - 1) (y1 (b + t)))) 22 (upd (upd y2 (b + t) (y2 (ed - t - 1))) (ed - t - 1) (y2 (b + t)))) fl) H locs := hI
        refine lv_iinc (v := nI (b + t + 1)) (lv' := [(3, .int (nI (b + t + 1))), (6, .int (y2 (b + t))), (5, .int (y1 (b + t))), (0, .ref (ad 0)), (4, .int (nI (ed - t - 1)))]) hx hb d_MD_turn_73 hl (k := 3) rfl (nI_add _ 1) (by decide) rfl (fun ls hl => ?_)
        refine lv_iinc (v := nI (ed - (t + 1)) - 1) (lv' := [(4, .int (nI (ed - (t + 1)) - 1)), (3, .int (nI (b + t + 1))), (6, .int (y2 (b + t))), (5, .int (y1 (b + t))), (0, .ref (ad 0))]) hx hb d_MD_turn_76 hl (k := 4) rfl (by rw [nI_dec, show ed - (t + 1) = ed - t - 1 by omega]) (by decide) rfl (fun ls hl => ?_)
        refine lv_goto (tgt := 7) hx hb d_MD_turn_79 (by decide) ?_
        exact ih7 (t + 1) (upd (upd y1 (b + t) (y1 (ed - t - 1))) (ed - t - 1) (y1 (b + t))) (upd (upd y2 (b + t) (y2 (ed - t - 1))) (ed - t - 1) (y2 (b + t))) (by omega) (by omega) (hz1) (hz2) _ _ _ hI (lv_sub hl [4, 1, 0] rfl)
  have hI := CI.to (w2 := mw g ad (va_up (va_up ar 21 (ar 21)) 22 (ar 22)) fl) hI (by rfl)
  exact L7 _ 0 (ar 21) (ar 22) (Nat.lt_succ_self _) (by omega) (by rw [swp_0]; exact hO) (by rw [swp_0]; exact hV) _ _ _ hI (lv_sub hl [2, 1, 0] rfl)
abbrev rm_MD_turnAll : Room := { frames := 1, cells := 0, slots := 0, locals := 26 }
set_option maxHeartbeats 4000000 in
set_option maxRecDepth 100000 in
theorem c_MD_turnAll (l : Launch) (g : Geo) (ad : Nat → Nat) (ar : Nat → Nat → Int32) (fl : Nat → Int32) (v : Nat) (mm : Nat) (O LV : Nat → Nat) (hmm : fl 14 = nI mm) (hM : mm ≤ 2000) (hv : v < 2 ^ 31) (hO : oR (ar 21) O mm) (hV : oR (ar 22) (fun j => LV (O j)) mm) (hL : ∀ j, j < mm → LV (O j) ≤ 127) : cMv l y_MD_turnAll (.code y_MD_turnAll b_MD_turnAll 4 none :: gw) rm_MD_turnAll g [.ref (ad 0), .int (nI v)] (mw g ad ar fl) (fun (u : (Nat → Int32) × (Nat → Int32)) => oR u.1 (trow LV mm v O) mm ∧ oR u.2 (fun j => LV (trow LV mm v O j)) mm) (fun (u : (Nat → Int32) × (Nat → Int32)) => mw g ad (va_up (va_up ar 21 u.1) 22 u.2) fl) 0 0 := by
  refine cMv_of (by decide) (Nat.le_of_ble_eq_true rfl) ?_
  intro p e s m below meth c A Q ls M hnm hret hl hI
  have M : MC p s m ([.ref (ad 0), .int (nI v)] : List Value).toArray meth c R_MD b_MD_turnAll 4 := M
  have hl : lv_has ls 4 [(0, .ref (ad 0)), (1, .int (nI v))] := hl
  generalize ([.ref (ad 0), .int (nI v)] : List Value).toArray = args at M hret ⊢
  have hx := M.1
  have hb := M.2.1
  have hnn := trS_ne (LV := LV) (m := mm) (v := v) (O := O) (P := fun q => LV q ≤ 127) hL
  refine lv_iconst (v := 0) hx hb d_MD_turnAll_0 (by decide) ?_
  refine lv_istore_n (lv' := [(2, .int 0), (0, .ref (ad 0)), (1, .int (nI v))]) hx hb d_MD_turnAll_1 rfl hl (by decide) rfl (fun ls hl => ?_)
  have L2 : ∀ (fu : Nat) (k : Nat) (y1 : Nat → Int32) (y2 : Nat → Int32), (mm + 1 - k) < fu → (k ≤ mm + 1) → ((trS LV mm v O k).1 = k) → (oR y1 (trS LV mm v O k).2 mm) → (oR y2 (fun j => LV ((trS LV mm v O k).2 j)) mm) → ∀ (H : Heap) (locs : List Loc) (ls : Array Slot), CI g A s (mw g ad (va_up (va_up ar 21 y1) 22 y2) fl) H locs → lv_has ls 4 [(0, .ref (ad 0)), (1, .int (nI v)), (2, .int (nI k))] → W p l e rm_MD_turnAll s m args below meth c H locs 0 0 Q (F0 m 2 ls []) := by
    intro fu
    induction fu with
    | zero => intro k y1 y2 hm; exact absurd hm (Nat.not_lt_zero _)
    | succ fu ih2 =>
      intro k y1 y2 hm hk htk hy1 hy2 H locs ls hI hl
      refine lv_iload_n hx hb d_MD_turnAll_2 rfl (lv_at hl 2 rfl) ?_
      refine lv_aload_n hx hb d_MD_turnAll_3 rfl (lv_at hl 0 rfl) ?_
      refine g_MD_251 M hI d_MD_turnAll_4 ?_
      refine q_as (y := nI mm) hmm ?_
      refine lv_icmp_ge (tgt := 49) hx hb d_MD_turnAll_7 (by decide) (fun c7 => ?_) (fun c7 => ?_)
      · have c7 : mm ≤ k := (nI_leI (a := mm) (b := k) (by omega) (by omega)).mp c7
        exact hret (y1, y2) _ _ _ _ _ _ d_MD_turnAll_49 hI (by rw [trow_at htk c7 hk]; exact ⟨hy1, hy2⟩) (Nat.le_refl 0) (Nat.le_refl 0)
      · have c7 : ¬ mm ≤ k := fun h => c7 ((nI_leI (a := mm) (b := k) (by omega) (by omega)).mpr h)
        refine lv_iload_n hx hb d_MD_turnAll_10 rfl (lv_at hl 2 rfl) ?_
        refine lv_istore_n (lv' := [(3, .int (nI k)), (0, .ref (ad 0)), (1, .int (nI v)), (2, .int (nI k))]) hx hb d_MD_turnAll_11 rfl hl (by decide) rfl (fun ls hl => ?_)
        have L12 : ∀ (fu : Nat) (e9 : Nat), (mm - e9) < fu → (k ≤ e9) → (e9 ≤ mm) → (trS LV mm v O e9 = trS LV mm v O k) → ∀ (H : Heap) (locs : List Loc) (ls : Array Slot), CI g A s (mw g ad (va_up (va_up ar 21 y1) 22 y2) fl) H locs → lv_has ls 4 [(0, .ref (ad 0)), (1, .int (nI v)), (2, .int (nI k)), (3, .int (nI e9))] → W p l e rm_MD_turnAll s m args below meth c H locs 0 0 Q (F0 m 12 ls []) := by
          intro fu
          induction fu with
          | zero => intro e9 hm; exact absurd hm (Nat.not_lt_zero _)
          | succ fu ih12 =>
            intro e9 hm hke hem he H locs ls hI hl
            refine lv_iload_n hx hb d_MD_turnAll_12 rfl (lv_at hl 3 rfl) ?_
            refine lv_aload_n hx hb d_MD_turnAll_13 rfl (lv_at hl 0 rfl) ?_
            refine g_MD_251 M hI d_MD_turnAll_14 ?_
            refine q_as (y := nI mm) hmm ?_
            refine lv_icmp_ge (tgt := 36) hx hb d_MD_turnAll_17 (by decide) (fun c17 => ?_) (fun c17 => ?_)
            · have c17 : mm ≤ e9 := (nI_leI (a := mm) (b := e9) (by omega) (by omega)).mp c17
              have hz : e9 = mm ∨ LV ((trS LV mm v O e9).2 e9) < v := Or.inl (by omega)
              have eT : trS LV mm v O (e9 + 1) = (e9 + 1, rvs k e9 (trS LV mm v O k).2) := by simp only [trS]; rw [if_pos hz, he, htk]
              refine lv_aload_n hx hb d_MD_turnAll_36 rfl (lv_at hl 0 rfl) ?_
              refine lv_iload_n hx hb d_MD_turnAll_37 rfl (lv_at hl 2 rfl) ?_
              refine lv_iload_n hx hb d_MD_turnAll_38 rfl (lv_at hl 3 rfl) ?_
              refine q_callvV [.int (nI k), .int (nI e9)] M hI (c_MD_turn l g ad (va_up (va_up ar 21 y1) 22 y2) fl k e9 mm ((trS LV mm v O k).2) LV (by omega) (by omega) (hM) (hy1) (hy2)) ok_MD_turn m6_15 m6_17 ms_81 0 rfl rfl rfl rfl hl.1 ⟨rfl, rfl⟩ ⟨Nat.le_of_ble_eq_true rfl, Nat.le_of_ble_eq_true rfl⟩ (Nat.le_of_ble_eq_true rfl) ⟨Nat.le_of_ble_eq_true rfl, Nat.le_of_ble_eq_true rfl⟩ d_MD_turnAll_39 (fun u39 H locs hp39 hI => ?_)
              obtain ⟨y1_39, y2_39⟩ := u39
              have hI : CI g A s (mw g ad (va_up (va_up ar 21 y1_39) 22 y2_39) fl) H locs := hI
              have hz1 : oR y1_39 (trS LV mm v O (e9 + 1)).2 mm := by rw [eT]; exact hp39.1
              have hz2 : oR y2_39 (fun j => LV ((trS LV mm v O (e9 + 1)).2 j)) mm := by rw [eT]; exact hp39.2
              refine lv_iload_n hx hb d_MD_turnAll_42 rfl (lv_at hl 3 rfl) ?_
              refine lv_iconst (v := 1) hx hb d_MD_turnAll_43 (by decide) ?_
              refine lv_iadd hx hb d_MD_turnAll_44 ?_
              refine q_as (y := nI (e9 + 1)) (nI_add e9 1) ?_
              refine lv_istore_n (lv' := [(2, .int (nI (e9 + 1))), (0, .ref (ad 0)), (1, .int (nI v)), (3, .int (nI e9))]) hx hb d_MD_turnAll_45 rfl hl (by decide) rfl (fun ls hl => ?_)
              refine lv_goto (tgt := 2) hx hb d_MD_turnAll_46 (by decide) ?_
              exact ih2 (e9 + 1) y1_39 y2_39 (by omega) (by omega) (by rw [eT]) (hz1) (hz2) _ _ _ hI (lv_sub hl [1, 2, 0] rfl)
            · have c17 : ¬ mm ≤ e9 := fun h => c17 ((nI_leI (a := mm) (b := e9) (by omega) (by omega)).mpr h)
              have hb9 : LV ((trS LV mm v O k).2 e9) ≤ 127 := hnn k (by omega) (show e9 < mm by omega)
              refine lv_aload_n hx hb d_MD_turnAll_20 rfl (lv_at hl 0 rfl) ?_
              refine g_MD_74 M hI d_MD_turnAll_21 ?_
              refine lv_iload_n hx hb d_MD_turnAll_24 rfl (lv_at hl 3 rfl) ?_
              refine bl_22 M hI e9 rfl (by omega) d_MD_turnAll_25 ?_
              refine q_as (y := nI (LV ((trS LV mm v O k).2 e9))) (hy2 e9 (by omega)) ?_
              refine lv_iload_n hx hb d_MD_turnAll_26 rfl (lv_at hl 1 rfl) ?_
              refine lv_icmp_lt (tgt := 36) hx hb d_MD_turnAll_27 (by decide) (fun c27 => ?_) (fun c27 => ?_)
              · have c27 : LV ((trS LV mm v O k).2 e9) < v := (nI_ltI (a := LV ((trS LV mm v O k).2 e9)) (b := v) (by omega) (by omega)).mp c27
                have hz : e9 = mm ∨ LV ((trS LV mm v O e9).2 e9) < v := Or.inr (by rw [he]; exact c27)
                have eT : trS LV mm v O (e9 + 1) = (e9 + 1, rvs k e9 (trS LV mm v O k).2) := by simp only [trS]; rw [if_pos hz, he, htk]
                refine lv_aload_n hx hb d_MD_turnAll_36 rfl (lv_at hl 0 rfl) ?_
                refine lv_iload_n hx hb d_MD_turnAll_37 rfl (lv_at hl 2 rfl) ?_
                refine lv_iload_n hx hb d_MD_turnAll_38 rfl (lv_at hl 3 rfl) ?_
                refine q_callvV [.int (nI k), .int (nI e9)] M hI (c_MD_turn l g ad (va_up (va_up ar 21 y1) 22 y2) fl k e9 mm ((trS LV mm v O k).2) LV (by omega) (by omega) (hM) (hy1) (hy2)) ok_MD_turn m6_15 m6_17 ms_81 0 rfl rfl rfl rfl hl.1 ⟨rfl, rfl⟩ ⟨Nat.le_of_ble_eq_true rfl, Nat.le_of_ble_eq_true rfl⟩ (Nat.le_of_ble_eq_true rfl) ⟨Nat.le_of_ble_eq_true rfl, Nat.le_of_ble_eq_true rfl⟩ d_MD_turnAll_39 (fun u39 H locs hp39 hI => ?_)
                obtain ⟨y1_39, y2_39⟩ := u39
                have hI : CI g A s (mw g ad (va_up (va_up ar 21 y1_39) 22 y2_39) fl) H locs := hI
                have hz1 : oR y1_39 (trS LV mm v O (e9 + 1)).2 mm := by rw [eT]; exact hp39.1
                have hz2 : oR y2_39 (fun j => LV ((trS LV mm v O (e9 + 1)).2 j)) mm := by rw [eT]; exact hp39.2
                refine lv_iload_n hx hb d_MD_turnAll_42 rfl (lv_at hl 3 rfl) ?_
                refine lv_iconst (v := 1) hx hb d_MD_turnAll_43 (by decide) ?_
                refine lv_iadd hx hb d_MD_turnAll_44 ?_
                refine q_as (y := nI (e9 + 1)) (nI_add e9 1) ?_
                refine lv_istore_n (lv' := [(2, .int (nI (e9 + 1))), (0, .ref (ad 0)), (1, .int (nI v)), (3, .int (nI e9))]) hx hb d_MD_turnAll_45 rfl hl (by decide) rfl (fun ls hl => ?_)
                refine lv_goto (tgt := 2) hx hb d_MD_turnAll_46 (by decide) ?_
                exact ih2 (e9 + 1) y1_39 y2_39 (by omega) (by omega) (by rw [eT]) (hz1) (hz2) _ _ _ hI (lv_sub hl [1, 2, 0] rfl)
              · have c27 : ¬ LV ((trS LV mm v O k).2 e9) < v := fun h => c27 ((nI_ltI (a := LV ((trS LV mm v O k).2 e9)) (b := v) (by omega) (by omega)).mpr h)
                have he2 : trS LV mm v O (e9 + 1) = trS LV mm v O k := by simp only [trS]; rw [if_neg (by rw [he]; omega)]; exact he
                refine lv_iinc (v := nI (e9 + 1)) (lv' := [(3, .int (nI (e9 + 1))), (0, .ref (ad 0)), (1, .int (nI v)), (2, .int (nI k))]) hx hb d_MD_turnAll_30 hl (k := 3) rfl (nI_add _ 1) (by decide) rfl (fun ls hl => ?_)
                refine lv_goto (tgt := 12) hx hb d_MD_turnAll_33 (by decide) ?_
                exact ih12 (e9 + 1) (by omega) (by omega) (by omega) (he2) _ _ _ hI (lv_sub hl [1, 2, 3, 0] rfl)
        exact L12 _ k (Nat.lt_succ_self _) (Nat.le_refl _) (by omega) (rfl) _ _ _ hI (lv_sub hl [1, 2, 3, 0] rfl)
  have hI := CI.to (w2 := mw g ad (va_up (va_up ar 21 (ar 21)) 22 (ar 22)) fl) hI (by rfl)
  exact L2 _ 0 (ar 21) (ar 22) (Nat.lt_succ_self _) (Nat.zero_le _) (rfl) (hO) (hV) _ _ _ hI (lv_sub hl [1, 2, 0] rfl)
abbrev rm_MD_isBlankEnd : Room := { frames := 1, cells := 0, slots := 0, locals := 20 }
set_option maxHeartbeats 4000000 in
set_option maxRecDepth 100000 in
theorem c_MD_isBlankEnd (l : Launch) (g : Geo) (ad : Nat → Nat) (ar : Nat → Nat → Int32) (fl : Nat → Int32) (q : Nat) (to : Nat) (hqt : q < to) (hto : to ≤ 2000) : cMi l y_MD_isBlankEnd (.code y_MD_isBlankEnd b_MD_isBlankEnd 4 (some .boolean) :: gw) rm_MD_isBlankEnd g [.ref (ad 0), .int (nI q), .int (nI to)] (mw g ad ar fl) (fun (r : Int32) (_ : Unit) => r = bI (beM (ar 12) (ar 9) to q)) (fun (_ : Unit) => mw g ad ar fl) 0 0 := by
  refine cMz_of (by decide) (Nat.le_of_ble_eq_true rfl) ?_
  intro p e s m below meth c A Q ls M hret hl hI
  have M : MC p s m ([.ref (ad 0), .int (nI q), .int (nI to)] : List Value).toArray meth c R_MD b_MD_isBlankEnd 4 := M
  have hl : lv_has ls 4 [(0, .ref (ad 0)), (1, .int (nI q)), (2, .int (nI to))] := hl
  generalize ([.ref (ad 0), .int (nI q), .int (nI to)] : List Value).toArray = args at M hret ⊢
  have hx := M.1
  have hb := M.2.1
  refine lv_aload_n hx hb d_MD_isBlankEnd_0 rfl (lv_at hl 0 rfl) ?_
  refine g_MD_34 M hI d_MD_isBlankEnd_1 ?_
  refine lv_iload_n hx hb d_MD_isBlankEnd_4 rfl (lv_at hl 1 rfl) ?_
  refine bl_9 M hI q rfl (by omega) d_MD_isBlankEnd_5 ?_
  refine lv_bipush (v := 11) hx hb d_MD_isBlankEnd_6 (by decide) ?_
  refine lv_icmp_eq (tgt := 22) hx hb d_MD_isBlankEnd_8 (by decide) (fun c8 => ?_) (fun c8 => ?_)
  · refine lv_iconst (v := 1) hx hb d_MD_isBlankEnd_22 (by decide) ?_
    refine q_as (y := bI (beM (ar 12) (ar 9) to q)) (by symm; apply bI_t; first | exact Or.inl (Or.inl c8) | exact Or.inl (Or.inr c19)) ?_
    exact hret (bI (beM (ar 12) (ar 9) to q)) () _ _ _ _ _ _ d_MD_isBlankEnd_23 hI (rfl) (by first | rfl | exact bI_narrow) (Nat.le_refl 0) (Nat.le_refl 0)
  · refine lv_aload_n hx hb d_MD_isBlankEnd_11 rfl (lv_at hl 0 rfl) ?_
    refine g_MD_34 M hI d_MD_isBlankEnd_12 ?_
    refine lv_iload_n hx hb d_MD_isBlankEnd_15 rfl (lv_at hl 1 rfl) ?_
    refine bl_9 M hI q rfl (by omega) d_MD_isBlankEnd_16 ?_
    refine lv_bipush (v := 10) hx hb d_MD_isBlankEnd_17 (by decide) ?_
    refine lv_icmp_ne (tgt := 24) hx hb d_MD_isBlankEnd_19 (by decide) (fun c19 => ?_) (fun c19 => ?_)
    · have hnp : ¬ lprt (ar 9 q) := fun z => z.elim c8 c19
      refine lv_iload_n hx hb d_MD_isBlankEnd_24 rfl (lv_at hl 1 rfl) ?_
      refine lv_istore_n (lv' := [(3, .int (nI q)), (0, .ref (ad 0)), (1, .int (nI q)), (2, .int (nI to))]) hx hb d_MD_isBlankEnd_25 rfl hl (by decide) rfl (fun ls hl => ?_)
      have L26 : ∀ (fu : Nat) (k : Nat), (to - k) < fu → (k ≤ to) → (k = q ∨ (q < k ∧ (ar 12 q < 0 ∨ lblk (ar 9 q)))) → (scB (ar 12) (ar 9) (to - q) q = scB (ar 12) (ar 9) (to - k) k) → ∀ (H : Heap) (locs : List Loc) (ls : Array Slot), CI g A s (mw g ad ar fl) H locs → lv_has ls 4 [(0, .ref (ad 0)), (1, .int (nI q)), (2, .int (nI to)), (3, .int (nI k))] → W p l e rm_MD_isBlankEnd s m args below meth c H locs 0 0 Q (F0 m 26 ls []) := by
        intro fu
        induction fu with
        | zero => intro k hm; exact absurd hm (Nat.not_lt_zero _)
        | succ fu ih26 =>
          intro k hm hk hkq hsq H locs ls hI hl
          refine lv_iload_n hx hb d_MD_isBlankEnd_26 rfl (lv_at hl 3 rfl) ?_
          refine lv_iload_n hx hb d_MD_isBlankEnd_27 rfl (lv_at hl 2 rfl) ?_
          refine lv_icmp_ge (tgt := 80) hx hb d_MD_isBlankEnd_28 (by decide) (fun c28 => ?_) (fun c28 => ?_)
          · have c28 : to ≤ k := (nI_leI (a := to) (b := k) (by omega) (by omega)).mp c28
            have hsk : scB (ar 12) (ar 9) (to - k) k := by rw [show to - k = 0 by omega]; trivial
            refine lv_iload_n hx hb d_MD_isBlankEnd_80 rfl (lv_at hl 3 rfl) ?_
            refine lv_iload_n hx hb d_MD_isBlankEnd_81 rfl (lv_at hl 1 rfl) ?_
            refine lv_icmp_le (tgt := 116) hx hb d_MD_isBlankEnd_82 (by decide) (fun c82 => ?_) (fun c82 => ?_)
            · have c82 : k ≤ q := (nI_leI (a := k) (b := q) (by omega) (by omega)).mp c82
              exfalso; rcases hkq with z | z <;> omega
            · have c82 : ¬ k ≤ q := fun h => c82 ((nI_leI (a := k) (b := q) (by omega) (by omega)).mpr h)
              have hbq := (hkq.resolve_left (by omega)).2
              refine lv_iload_n hx hb d_MD_isBlankEnd_85 rfl (lv_at hl 3 rfl) ?_
              refine lv_iload_n hx hb d_MD_isBlankEnd_86 rfl (lv_at hl 2 rfl) ?_
              refine lv_icmp_eq (tgt := 112) hx hb d_MD_isBlankEnd_87 (by decide) (fun c87 => ?_) (fun c87 => ?_)
              · have c87 : k = to := (nI_eq (a := k) (b := to) (by omega) (by omega)).mp c87
                have hys : beM (ar 12) (ar 9) to q := Or.inr ⟨hbq, by rw [hsq]; exact hsk⟩
                refine lv_iconst (v := 1) hx hb d_MD_isBlankEnd_112 (by decide) ?_
                refine q_as (y := bI (beM (ar 12) (ar 9) to q)) ((bI_t hys).symm) ?_
                refine lv_goto (tgt := 117) hx hb d_MD_isBlankEnd_113 (by decide) ?_
                exact hret (bI (beM (ar 12) (ar 9) to q)) () _ _ _ _ _ _ d_MD_isBlankEnd_117 hI (rfl) (by first | rfl | exact bI_narrow) (Nat.le_refl 0) (Nat.le_refl 0)
              · have c87 : ¬ k = to := fun h => c87 ((nI_eq (a := k) (b := to) (by omega) (by omega)).mpr h)
                exfalso; omega
          · have c28 : ¬ to ≤ k := fun h => c28 ((nI_leI (a := to) (b := k) (by omega) (by omega)).mpr h)
            have hss : scB (ar 12) (ar 9) (to - k) k = if (ar 12 k < 0 ∨ lblk (ar 9 k)) then scB (ar 12) (ar 9) (to - (k + 1)) (k + 1) else lprt (ar 9 k) := by rw [show to - k = (to - (k + 1)) + 1 by omega]; simp only [scB]
            have L74 : (ar 12 k < 0 ∨ lblk (ar 9 k)) → ∀ (H : Heap) (locs : List Loc) (ls : Array Slot), CI g A s (mw g ad ar fl) H locs → lv_has ls 4 [(0, .ref (ad 0)), (1, .int (nI q)), (2, .int (nI to)), (3, .int (nI k))] → W p l e rm_MD_isBlankEnd s m args below meth c H locs 0 0 Q (F0 m 74 ls []) := by
              intro  hbl H locs ls hI hl
              have hkq2 : k + 1 = q ∨ (q < k + 1 ∧ (ar 12 q < 0 ∨ lblk (ar 9 q))) := Or.inr ⟨by rcases hkq with z | z; omega; omega, by rcases hkq with z | z; (rw [← z]; exact hbl); exact z.2⟩
              have hsq2 : scB (ar 12) (ar 9) (to - q) q = scB (ar 12) (ar 9) (to - (k + 1)) (k + 1) := by rw [hsq, hss, if_pos hbl]
              refine lv_iinc (v := nI (k + 1)) (lv' := [(3, .int (nI (k + 1))), (0, .ref (ad 0)), (1, .int (nI q)), (2, .int (nI to))]) hx hb d_MD_isBlankEnd_74 hl (k := 3) rfl (nI_add _ 1) (by decide) rfl (fun ls hl => ?_)
              refine lv_goto (tgt := 26) hx hb d_MD_isBlankEnd_77 (by decide) ?_
              exact ih26 (k + 1) (by omega) (by omega) (hkq2) (hsq2) _ _ _ hI (lv_sub hl [1, 2, 3, 0] rfl)
            refine lv_aload_n hx hb d_MD_isBlankEnd_31 rfl (lv_at hl 0 rfl) ?_
            refine g_MD_43 M hI d_MD_isBlankEnd_32 ?_
            refine lv_iload_n hx hb d_MD_isBlankEnd_35 rfl (lv_at hl 3 rfl) ?_
            refine bl_12 M hI k rfl (by omega) d_MD_isBlankEnd_36 ?_
            refine lv_if_lt (tgt := 74) hx hb d_MD_isBlankEnd_37 (by decide) (fun c37 => ?_) (fun c37 => ?_)
            · have hbl : (ar 12 k < 0 ∨ lblk (ar 9 k)) := Or.inl c37
              exact L74   (by first | assumption | omega) _ _ _ hI (lv_sub hl [0, 1, 2, 3] rfl)
            · refine lv_aload_n hx hb d_MD_isBlankEnd_40 rfl (lv_at hl 0 rfl) ?_
              refine g_MD_34 M hI d_MD_isBlankEnd_41 ?_
              refine lv_iload_n hx hb d_MD_isBlankEnd_44 rfl (lv_at hl 3 rfl) ?_
              refine bl_9 M hI k rfl (by omega) d_MD_isBlankEnd_45 ?_
              refine lv_bipush (v := 12) hx hb d_MD_isBlankEnd_46 (by decide) ?_
              refine lv_icmp_eq (tgt := 74) hx hb d_MD_isBlankEnd_48 (by decide) (fun c48 => ?_) (fun c48 => ?_)
              · have hbl : (ar 12 k < 0 ∨ lblk (ar 9 k)) := Or.inr (Or.inl c48)
                exact L74   (by first | assumption | omega) _ _ _ hI (lv_sub hl [0, 1, 2, 3] rfl)
              · refine lv_aload_n hx hb d_MD_isBlankEnd_51 rfl (lv_at hl 0 rfl) ?_
                refine g_MD_34 M hI d_MD_isBlankEnd_52 ?_
                refine lv_iload_n hx hb d_MD_isBlankEnd_55 rfl (lv_at hl 3 rfl) ?_
                refine bl_9 M hI k rfl (by omega) d_MD_isBlankEnd_56 ?_
                refine q_calliS [.int (ar 9 k)] M hI (c_MD_isIsolate l g (mw g ad ar fl) (ar 9 k)) ok_MD_isIsolate m5_107 m5_108 rfl rfl hl.1 ⟨rfl, rfl⟩ ⟨Nat.le_of_ble_eq_true rfl, Nat.le_of_ble_eq_true rfl⟩ (Nat.le_of_ble_eq_true rfl) ⟨Nat.le_of_ble_eq_true rfl, Nat.le_of_ble_eq_true rfl⟩ d_MD_isBlankEnd_57 (fun r57 u57 H locs hp57 hI => ?_)
                refine q_as (y := bI (isol (ar 9 k))) hp57 ?_
                refine lv_if_ne (tgt := 74) hx hb d_MD_isBlankEnd_60 (by decide) (fun c60 => ?_) (fun c60 => ?_)
                · have c60 := bI_ne0.mp c60
                  have hbl : (ar 12 k < 0 ∨ lblk (ar 9 k)) := Or.inr (Or.inr (Or.inl c60))
                  exact L74   (by first | assumption | omega) _ _ _ hI (lv_sub hl [0, 1, 2, 3] rfl)
                · have c60 := bI_eq0.mp c60
                  refine lv_aload_n hx hb d_MD_isBlankEnd_63 rfl (lv_at hl 0 rfl) ?_
                  refine g_MD_34 M hI d_MD_isBlankEnd_64 ?_
                  refine lv_iload_n hx hb d_MD_isBlankEnd_67 rfl (lv_at hl 3 rfl) ?_
                  refine bl_9 M hI k rfl (by omega) d_MD_isBlankEnd_68 ?_
                  refine lv_bipush (v := 22) hx hb d_MD_isBlankEnd_69 (by decide) ?_
                  refine lv_icmp_ne (tgt := 80) hx hb d_MD_isBlankEnd_71 (by decide) (fun c71 => ?_) (fun c71 => ?_)
                  · have hnb : ¬ (ar 12 k < 0 ∨ lblk (ar 9 k)) := fun z => z.elim c37 (fun z => z.elim c48 (fun z => z.elim c60 c71))
                    have hsp : scB (ar 12) (ar 9) (to - q) q = lprt (ar 9 k) := by rw [hsq, hss, if_neg hnb]
                    refine lv_iload_n hx hb d_MD_isBlankEnd_80 rfl (lv_at hl 3 rfl) ?_
                    refine lv_iload_n hx hb d_MD_isBlankEnd_81 rfl (lv_at hl 1 rfl) ?_
                    refine lv_icmp_le (tgt := 116) hx hb d_MD_isBlankEnd_82 (by decide) (fun c82 => ?_) (fun c82 => ?_)
                    · have c82 : k ≤ q := (nI_leI (a := k) (b := q) (by omega) (by omega)).mp c82
                      have hno : ¬ beM (ar 12) (ar 9) to q := fun z => z.elim hnp (fun z => by have e9 : k = q := (by rcases hkq with w | w; exact w; omega); rw [← e9] at z; exact hnb z.1)
                      refine lv_iconst (v := 0) hx hb d_MD_isBlankEnd_116 (by decide) ?_
                      refine q_as (y := bI (beM (ar 12) (ar 9) to q)) ((bI_f hno).symm) ?_
                      exact hret (bI (beM (ar 12) (ar 9) to q)) () _ _ _ _ _ _ d_MD_isBlankEnd_117 hI (rfl) (by first | rfl | exact bI_narrow) (Nat.le_refl 0) (Nat.le_refl 0)
                    · have c82 : ¬ k ≤ q := fun h => c82 ((nI_leI (a := k) (b := q) (by omega) (by omega)).mpr h)
                      have hbq := (hkq.resolve_left (by omega)).2
                      refine lv_iload_n hx hb d_MD_isBlankEnd_85 rfl (lv_at hl 3 rfl) ?_
                      refine lv_iload_n hx hb d_MD_isBlankEnd_86 rfl (lv_at hl 2 rfl) ?_
                      refine lv_icmp_eq (tgt := 112) hx hb d_MD_isBlankEnd_87 (by decide) (fun c87 => ?_) (fun c87 => ?_)
                      · have c87 : k = to := (nI_eq (a := k) (b := to) (by omega) (by omega)).mp c87
                        exfalso; omega
                      · have c87 : ¬ k = to := fun h => c87 ((nI_eq (a := k) (b := to) (by omega) (by omega)).mpr h)
                        refine lv_aload_n hx hb d_MD_isBlankEnd_90 rfl (lv_at hl 0 rfl) ?_
                        refine g_MD_34 M hI d_MD_isBlankEnd_91 ?_
                        refine lv_iload_n hx hb d_MD_isBlankEnd_94 rfl (lv_at hl 3 rfl) ?_
                        refine bl_9 M hI k rfl (by omega) d_MD_isBlankEnd_95 ?_
                        refine lv_bipush (v := 11) hx hb d_MD_isBlankEnd_96 (by decide) ?_
                        refine lv_icmp_eq (tgt := 112) hx hb d_MD_isBlankEnd_98 (by decide) (fun c98 => ?_) (fun c98 => ?_)
                        · have hys : beM (ar 12) (ar 9) to q := Or.inr ⟨hbq, by rw [hsp]; exact Or.inl c98⟩
                          refine lv_iconst (v := 1) hx hb d_MD_isBlankEnd_112 (by decide) ?_
                          refine q_as (y := bI (beM (ar 12) (ar 9) to q)) ((bI_t hys).symm) ?_
                          refine lv_goto (tgt := 117) hx hb d_MD_isBlankEnd_113 (by decide) ?_
                          exact hret (bI (beM (ar 12) (ar 9) to q)) () _ _ _ _ _ _ d_MD_isBlankEnd_117 hI (rfl) (by first | rfl | exact bI_narrow) (Nat.le_refl 0) (Nat.le_refl 0)
                        · refine lv_aload_n hx hb d_MD_isBlankEnd_101 rfl (lv_at hl 0 rfl) ?_
                          refine g_MD_34 M hI d_MD_isBlankEnd_102 ?_
                          refine lv_iload_n hx hb d_MD_isBlankEnd_105 rfl (lv_at hl 3 rfl) ?_
                          refine bl_9 M hI k rfl (by omega) d_MD_isBlankEnd_106 ?_
                          refine lv_bipush (v := 10) hx hb d_MD_isBlankEnd_107 (by decide) ?_
                          refine lv_icmp_ne (tgt := 116) hx hb d_MD_isBlankEnd_109 (by decide) (fun c109 => ?_) (fun c109 => ?_)
                          · have hno : ¬ beM (ar 12) (ar 9) to q := fun z => z.elim hnp (fun z => by rw [hsp] at z; exact z.2.elim c98 c109)
                            refine lv_iconst (v := 0) hx hb d_MD_isBlankEnd_116 (by decide) ?_
                            refine q_as (y := bI (beM (ar 12) (ar 9) to q)) ((bI_f hno).symm) ?_
                            exact hret (bI (beM (ar 12) (ar 9) to q)) () _ _ _ _ _ _ d_MD_isBlankEnd_117 hI (rfl) (by first | rfl | exact bI_narrow) (Nat.le_refl 0) (Nat.le_refl 0)
                          · have hys : beM (ar 12) (ar 9) to q := Or.inr ⟨hbq, by rw [hsp]; exact Or.inr c109⟩
                            refine lv_iconst (v := 1) hx hb d_MD_isBlankEnd_112 (by decide) ?_
                            refine q_as (y := bI (beM (ar 12) (ar 9) to q)) ((bI_t hys).symm) ?_
                            refine lv_goto (tgt := 117) hx hb d_MD_isBlankEnd_113 (by decide) ?_
                            exact hret (bI (beM (ar 12) (ar 9) to q)) () _ _ _ _ _ _ d_MD_isBlankEnd_117 hI (rfl) (by first | rfl | exact bI_narrow) (Nat.le_refl 0) (Nat.le_refl 0)
                  · have hbl : (ar 12 k < 0 ∨ lblk (ar 9 k)) := Or.inr (Or.inr (Or.inr c71))
                    exact L74   (by first | assumption | omega) _ _ _ hI (lv_sub hl [0, 1, 2, 3] rfl)
      exact L26 _ q (Nat.lt_succ_self _) (by omega) (Or.inl rfl) (rfl) _ _ _ hI (lv_sub hl [1, 2, 3, 0] rfl)
    · refine lv_iconst (v := 1) hx hb d_MD_isBlankEnd_22 (by decide) ?_
      refine q_as (y := bI (beM (ar 12) (ar 9) to q)) (by symm; apply bI_t; first | exact Or.inl (Or.inl c8) | exact Or.inl (Or.inr c19)) ?_
      exact hret (bI (beM (ar 12) (ar 9) to q)) () _ _ _ _ _ _ d_MD_isBlankEnd_23 hI (rfl) (by first | rfl | exact bI_narrow) (Nat.le_refl 0) (Nat.le_refl 0)
abbrev rm_MD_partOf : Room := { frames := 0, cells := 0, slots := 0, locals := 0 }
set_option maxHeartbeats 4000000 in
set_option maxRecDepth 100000 in
theorem c_MD_partOf (l : Launch) (g : Geo) (ad : Nat → Nat) (ar : Nat → Nat → Int32) (fl : Nat → Int32) (q : Nat) (np : Nat) (hnp : fl 6 = nI np) (hnP : np ≤ 2000) : cMi l y_MD_partOf (.code y_MD_partOf b_MD_partOf 4 (some .int) :: gw) rm_MD_partOf g [.ref (ad 0), .int (nI q)] (mw g ad ar fl) (fun (r : Int32) (_ : Unit) => r = ptO (ar 14) q np) (fun (_ : Unit) => mw g ad ar fl) 0 0 := by
  refine cMi_of (by decide) (Nat.le_of_ble_eq_true rfl) ?_
  intro p e s m below meth c A Q ls M hret hl hI
  have M : MC p s m ([.ref (ad 0), .int (nI q)] : List Value).toArray meth c R_MD b_MD_partOf 4 := M
  have hl : lv_has ls 4 [(0, .ref (ad 0)), (1, .int (nI q))] := hl
  generalize ([.ref (ad 0), .int (nI q)] : List Value).toArray = args at M hret ⊢
  have hx := M.1
  have hb := M.2.1
  refine lv_iconst (v := (-1)) hx hb d_MD_partOf_0 (by decide) ?_
  refine q_as (y := ptO (ar 14) q 0) (rfl) ?_
  refine lv_istore_n (lv' := [(2, .int (ptO (ar 14) q 0)), (0, .ref (ad 0)), (1, .int (nI q))]) hx hb d_MD_partOf_1 rfl hl (by decide) rfl (fun ls hl => ?_)
  refine lv_iconst (v := 0) hx hb d_MD_partOf_2 (by decide) ?_
  refine lv_istore_n (lv' := [(3, .int 0), (2, .int (ptO (ar 14) q 0)), (0, .ref (ad 0)), (1, .int (nI q))]) hx hb d_MD_partOf_3 rfl hl (by decide) rfl (fun ls hl => ?_)
  have L4 : ∀ (fu : Nat) (i : Nat), (np - i) < fu → (i ≤ np) → ∀ (H : Heap) (locs : List Loc) (ls : Array Slot), CI g A s (mw g ad ar fl) H locs → lv_has ls 4 [(0, .ref (ad 0)), (1, .int (nI q)), (2, .int (ptO (ar 14) q i)), (3, .int (nI i))] → W p l e rm_MD_partOf s m args below meth c H locs 0 0 Q (F0 m 4 ls []) := by
    intro fu
    induction fu with
    | zero => intro i hm; exact absurd hm (Nat.not_lt_zero _)
    | succ fu ih4 =>
      intro i hm hi H locs ls hI hl
      refine lv_iload_n hx hb d_MD_partOf_4 rfl (lv_at hl 3 rfl) ?_
      refine lv_aload_n hx hb d_MD_partOf_5 rfl (lv_at hl 0 rfl) ?_
      refine g_MD_236 M hI d_MD_partOf_6 ?_
      refine q_as (y := nI np) hnp ?_
      refine lv_icmp_ge (tgt := 50) hx hb d_MD_partOf_9 (by decide) (fun c9 => ?_) (fun c9 => ?_)
      · have c9 : np ≤ i := (nI_leI (a := np) (b := i) (by omega) (by omega)).mp c9
        refine lv_iload_n hx hb d_MD_partOf_50 rfl (lv_at hl 2 rfl) ?_
        exact hret (ptO (ar 14) q i) () _ _ _ _ _ _ d_MD_partOf_51 hI (by rw [show i = np by omega]) (Nat.le_refl 0) (Nat.le_refl 0)
      · have c9 : ¬ np ≤ i := fun h => c9 ((nI_leI (a := np) (b := i) (by omega) (by omega)).mpr h)
        refine lv_iload_n hx hb d_MD_partOf_12 rfl (lv_at hl 1 rfl) ?_
        refine lv_aload_n hx hb d_MD_partOf_13 rfl (lv_at hl 0 rfl) ?_
        refine g_MD_49 M hI d_MD_partOf_14 ?_
        refine lv_iconst (v := 4) hx hb d_MD_partOf_17 (by decide) ?_
        refine lv_iload_n hx hb d_MD_partOf_18 rfl (lv_at hl 3 rfl) ?_
        refine lv_imul hx hb d_MD_partOf_19 ?_
        refine q_as (y := nI (4 * i)) (pk_mul 4 i) ?_
        refine bl_14 M hI (4 * i) rfl (by omega) d_MD_partOf_20 ?_
        refine lv_icmp_lt (tgt := 42) hx hb d_MD_partOf_21 (by decide) (fun c21 => ?_) (fun c21 => ?_)
        · have hno : ¬ (¬ nI q < ar 14 (4 * i) ∧ ¬ ar 14 (4 * i + 1) ≤ nI q) := fun z => z.1 c21
          refine lv_iload_n hx hb d_MD_partOf_42 rfl (lv_at hl 2 rfl) ?_
          refine q_as (y := ptO (ar 14) q (i + 1)) (by simp only [ptO]; rw [if_neg hno]) ?_
          refine lv_istore_n (lv' := [(2, .int (ptO (ar 14) q (i + 1))), (0, .ref (ad 0)), (1, .int (nI q)), (3, .int (nI i))]) hx hb d_MD_partOf_43 rfl hl (by decide) rfl (fun ls hl => ?_)
          refine lv_iinc (v := nI (i + 1)) (lv' := [(3, .int (nI (i + 1))), (2, .int (ptO (ar 14) q (i + 1))), (0, .ref (ad 0)), (1, .int (nI q))]) hx hb d_MD_partOf_44 hl (k := 3) rfl (nI_add _ 1) (by decide) rfl (fun ls hl => ?_)
          refine lv_goto (tgt := 4) hx hb d_MD_partOf_47 (by decide) ?_
          exact ih4 (i + 1) (by omega) (by first | assumption | omega) _ _ _ hI (lv_sub hl [2, 3, 1, 0] rfl)
        · refine lv_iload_n hx hb d_MD_partOf_24 rfl (lv_at hl 1 rfl) ?_
          refine lv_aload_n hx hb d_MD_partOf_25 rfl (lv_at hl 0 rfl) ?_
          refine g_MD_49 M hI d_MD_partOf_26 ?_
          refine lv_iconst (v := 4) hx hb d_MD_partOf_29 (by decide) ?_
          refine lv_iload_n hx hb d_MD_partOf_30 rfl (lv_at hl 3 rfl) ?_
          refine lv_imul hx hb d_MD_partOf_31 ?_
          refine q_as (y := nI (4 * i)) (pk_mul 4 i) ?_
          refine lv_iconst (v := 1) hx hb d_MD_partOf_32 (by decide) ?_
          refine lv_iadd hx hb d_MD_partOf_33 ?_
          refine q_as (y := nI (4 * i + 1)) (nI_add (4 * i) 1) ?_
          refine bl_14 M hI (4 * i + 1) rfl (by omega) d_MD_partOf_34 ?_
          refine lv_icmp_ge (tgt := 42) hx hb d_MD_partOf_35 (by decide) (fun c35 => ?_) (fun c35 => ?_)
          · have hno : ¬ (¬ nI q < ar 14 (4 * i) ∧ ¬ ar 14 (4 * i + 1) ≤ nI q) := fun z => z.2 c35
            refine lv_iload_n hx hb d_MD_partOf_42 rfl (lv_at hl 2 rfl) ?_
            refine q_as (y := ptO (ar 14) q (i + 1)) (by simp only [ptO]; rw [if_neg hno]) ?_
            refine lv_istore_n (lv' := [(2, .int (ptO (ar 14) q (i + 1))), (0, .ref (ad 0)), (1, .int (nI q)), (3, .int (nI i))]) hx hb d_MD_partOf_43 rfl hl (by decide) rfl (fun ls hl => ?_)
            refine lv_iinc (v := nI (i + 1)) (lv' := [(3, .int (nI (i + 1))), (2, .int (ptO (ar 14) q (i + 1))), (0, .ref (ad 0)), (1, .int (nI q))]) hx hb d_MD_partOf_44 hl (k := 3) rfl (nI_add _ 1) (by decide) rfl (fun ls hl => ?_)
            refine lv_goto (tgt := 4) hx hb d_MD_partOf_47 (by decide) ?_
            exact ih4 (i + 1) (by omega) (by first | assumption | omega) _ _ _ hI (lv_sub hl [2, 3, 1, 0] rfl)
          · refine lv_iload_n hx hb d_MD_partOf_38 rfl (lv_at hl 3 rfl) ?_
            refine q_as (y := ptO (ar 14) q (i + 1)) (by simp only [ptO]; rw [if_pos ⟨c21, c35⟩]) ?_
            refine lv_goto (tgt := 43) hx hb d_MD_partOf_39 (by decide) ?_
            refine lv_istore_n (lv' := [(2, .int (ptO (ar 14) q (i + 1))), (0, .ref (ad 0)), (1, .int (nI q)), (3, .int (nI i))]) hx hb d_MD_partOf_43 rfl hl (by decide) rfl (fun ls hl => ?_)
            refine lv_iinc (v := nI (i + 1)) (lv' := [(3, .int (nI (i + 1))), (2, .int (ptO (ar 14) q (i + 1))), (0, .ref (ad 0)), (1, .int (nI q))]) hx hb d_MD_partOf_44 hl (k := 3) rfl (nI_add _ 1) (by decide) rfl (fun ls hl => ?_)
            refine lv_goto (tgt := 4) hx hb d_MD_partOf_47 (by decide) ?_
            exact ih4 (i + 1) (by omega) (by first | assumption | omega) _ _ _ hI (lv_sub hl [2, 3, 1, 0] rfl)
  exact L4 _ 0 (Nat.lt_succ_self _) (by first | assumption | omega) _ _ _ hI (lv_sub hl [2, 3, 1, 0] rfl)
abbrev rm_MD_line_c_MD_line_1 : Room := { frames := 1, cells := 0, slots := 0, locals := 21 }
set_option maxHeartbeats 4000000 in
set_option maxRecDepth 100000 in
theorem c_MD_line_1 (l : Launch) (g : Geo) (ad : Nat → Nat) (ar : Nat → Nat → Int32) (fl : Nat → Int32) (x : Int32) (y : Int32) (cn : Nat) (h5 : fl 5 = 0) (h1 : fl 1 = nI cn) (hcN : cn ≤ 2000) : cMi l y_MD_line (.code y_MD_line b_MD_line 7 (some .int) :: gw) rm_MD_line_c_MD_line_1 g [.ref (ad 0), .int x, .int y] (mw g ad ar fl) (fun (r : Int32) (_ : Unit) => True) (fun (_ : Unit) => mw g ad ar (va_up fl 0 1)) 0 0 := by
  refine cMi_of (by decide) (Nat.le_of_ble_eq_true rfl) ?_
  intro p e s m below meth c A Q ls M hret hl hI
  have M : MC p s m ([.ref (ad 0), .int x, .int y] : List Value).toArray meth c R_MD b_MD_line 7 := M
  have hl : lv_has ls 7 [(0, .ref (ad 0)), (1, .int x), (2, .int y)] := hl
  generalize ([.ref (ad 0), .int x, .int y] : List Value).toArray = args at M hret ⊢
  have hx := M.1
  have hb := M.2.1
  refine lv_iload_n hx hb d_MD_line_0 rfl (lv_at hl 1 rfl) ?_
  refine lv_if_lt (tgt := 29) hx hb d_MD_line_1 (by decide) (fun c1 => ?_) (fun c1 => ?_)
  · refine lv_iconst (v := 0) hx hb d_MD_line_29 (by decide) ?_
    refine lv_istore_n (lv' := [(3, .int 0), (0, .ref (ad 0)), (1, .int x), (2, .int y)]) hx hb d_MD_line_30 rfl hl (by decide) rfl (fun ls hl => ?_)
    refine lv_iload_n hx hb d_MD_line_31 rfl (lv_at hl 0 rfl) ?_
    refine lv_if_eq (tgt := 66) hx hb d_MD_line_32 (by decide) (fun c32 => ?_) (fun c32 => ?_)
    · have c32 : 0 = 0 := (nI_eq (a := 0) (b := 0) (by omega) (by omega)).mp c32
      refine lv_iconst (v := 0) hx hb d_MD_line_66 (by decide) ?_
      refine lv_istore (lv' := [(4, .int 0), (3, .int 0), (0, .ref (ad 0)), (1, .int x), (2, .int y)]) hx hb d_MD_line_67 hl (by decide) rfl (fun ls hl => ?_)
      refine lv_aload_n hx hb d_MD_line_69 rfl (lv_at hl 2 rfl) ?_
      refine lv_aload_n hx hb d_MD_line_70 rfl (lv_at hl 2 rfl) ?_
      refine g_MD_92 M hI d_MD_line_71 ?_
      refine q_as (y := 0) h5 ?_
      refine lv_if_ne (tgt := 81) hx hb d_MD_line_74 (by decide) (fun c74 => ?_) (fun c74 => ?_)
      · have c74 : ¬ 0 = 0 := fun h => c74 ((nI_eq (a := 0) (b := 0) (by omega) (by omega)).mpr h)
        exfalso; omega
      · have c74 : 0 = 0 := (nI_eq (a := 0) (b := 0) (by omega) (by omega)).mp c74
        refine lv_iconst (v := 1) hx hb d_MD_line_77 (by decide) ?_
        refine lv_goto (tgt := 99) hx hb d_MD_line_78 (by decide) ?_
        refine q_calliV [.int 1] M hI (c_MD_refused l g ad ar fl 1) ok_MD_refused m5_56 m5_58 ms_45 0 rfl rfl rfl rfl hl.1 ⟨rfl, rfl⟩ ⟨Nat.le_of_ble_eq_true rfl, Nat.le_of_ble_eq_true rfl⟩ (Nat.le_of_ble_eq_true rfl) ⟨Nat.le_of_ble_eq_true rfl, Nat.le_of_ble_eq_true rfl⟩ d_MD_line_99 (fun r99 u99 H locs hp99 hI => ?_)
        have hI : CI g A s (mw g ad ar (va_up fl 0 1)) H locs := hI
        refine q_as (y := bI (¬ 1 ≤ 0)) hp99 ?_
        refine lv_if_eq (tgt := 107) hx hb d_MD_line_102 (by decide) (fun c102 => ?_) (fun c102 => ?_)
        · have c102 := bI_eq0.mp c102
          exact absurd (by decide) c102
        · have c102 := bI_ne0.mp c102
          refine lv_iconst (v := 0) hx hb d_MD_line_105 (by decide) ?_
          exact hret 0 () _ _ _ _ _ _ d_MD_line_106 hI (trivial) (Nat.le_refl 0) (Nat.le_refl 0)
    · have c32 : ¬ 0 = 0 := fun h => c32 ((nI_eq (a := 0) (b := 0) (by omega) (by omega)).mpr h)
      exfalso; omega
  · refine lv_iload_n hx hb d_MD_line_4 rfl (lv_at hl 1 rfl) ?_
    refine lv_aload_n hx hb d_MD_line_5 rfl (lv_at hl 0 rfl) ?_
    refine g_MD_119 M hI d_MD_line_6 ?_
    refine q_as (y := nI cn) h1 ?_
    refine lv_icmp_ge (tgt := 29) hx hb d_MD_line_9 (by decide) (fun c9 => ?_) (fun c9 => ?_)
    · refine lv_iconst (v := 0) hx hb d_MD_line_29 (by decide) ?_
      refine lv_istore_n (lv' := [(3, .int 0), (0, .ref (ad 0)), (1, .int x), (2, .int y)]) hx hb d_MD_line_30 rfl hl (by decide) rfl (fun ls hl => ?_)
      refine lv_iload_n hx hb d_MD_line_31 rfl (lv_at hl 0 rfl) ?_
      refine lv_if_eq (tgt := 66) hx hb d_MD_line_32 (by decide) (fun c32 => ?_) (fun c32 => ?_)
      · have c32 : 0 = 0 := (nI_eq (a := 0) (b := 0) (by omega) (by omega)).mp c32
        refine lv_iconst (v := 0) hx hb d_MD_line_66 (by decide) ?_
        refine lv_istore (lv' := [(4, .int 0), (3, .int 0), (0, .ref (ad 0)), (1, .int x), (2, .int y)]) hx hb d_MD_line_67 hl (by decide) rfl (fun ls hl => ?_)
        refine lv_aload_n hx hb d_MD_line_69 rfl (lv_at hl 2 rfl) ?_
        refine lv_aload_n hx hb d_MD_line_70 rfl (lv_at hl 2 rfl) ?_
        refine g_MD_92 M hI d_MD_line_71 ?_
        refine q_as (y := 0) h5 ?_
        refine lv_if_ne (tgt := 81) hx hb d_MD_line_74 (by decide) (fun c74 => ?_) (fun c74 => ?_)
        · have c74 : ¬ 0 = 0 := fun h => c74 ((nI_eq (a := 0) (b := 0) (by omega) (by omega)).mpr h)
          exfalso; omega
        · have c74 : 0 = 0 := (nI_eq (a := 0) (b := 0) (by omega) (by omega)).mp c74
          refine lv_iconst (v := 1) hx hb d_MD_line_77 (by decide) ?_
          refine lv_goto (tgt := 99) hx hb d_MD_line_78 (by decide) ?_
          refine q_calliV [.int 1] M hI (c_MD_refused l g ad ar fl 1) ok_MD_refused m5_56 m5_58 ms_45 0 rfl rfl rfl rfl hl.1 ⟨rfl, rfl⟩ ⟨Nat.le_of_ble_eq_true rfl, Nat.le_of_ble_eq_true rfl⟩ (Nat.le_of_ble_eq_true rfl) ⟨Nat.le_of_ble_eq_true rfl, Nat.le_of_ble_eq_true rfl⟩ d_MD_line_99 (fun r99 u99 H locs hp99 hI => ?_)
          have hI : CI g A s (mw g ad ar (va_up fl 0 1)) H locs := hI
          refine q_as (y := bI (¬ 1 ≤ 0)) hp99 ?_
          refine lv_if_eq (tgt := 107) hx hb d_MD_line_102 (by decide) (fun c102 => ?_) (fun c102 => ?_)
          · have c102 := bI_eq0.mp c102
            exact absurd (by decide) c102
          · have c102 := bI_ne0.mp c102
            refine lv_iconst (v := 0) hx hb d_MD_line_105 (by decide) ?_
            exact hret 0 () _ _ _ _ _ _ d_MD_line_106 hI (trivial) (Nat.le_refl 0) (Nat.le_refl 0)
      · have c32 : ¬ 0 = 0 := fun h => c32 ((nI_eq (a := 0) (b := 0) (by omega) (by omega)).mpr h)
        exfalso; omega
    · refine lv_iload_n hx hb d_MD_line_12 rfl (lv_at hl 2 rfl) ?_
      refine lv_iconst (v := 1) hx hb d_MD_line_13 (by decide) ?_
      refine lv_icmp_lt (tgt := 29) hx hb d_MD_line_14 (by decide) (fun c14 => ?_) (fun c14 => ?_)
      · refine lv_iconst (v := 0) hx hb d_MD_line_29 (by decide) ?_
        refine lv_istore_n (lv' := [(3, .int 0), (0, .ref (ad 0)), (1, .int x), (2, .int y)]) hx hb d_MD_line_30 rfl hl (by decide) rfl (fun ls hl => ?_)
        refine lv_iload_n hx hb d_MD_line_31 rfl (lv_at hl 0 rfl) ?_
        refine lv_if_eq (tgt := 66) hx hb d_MD_line_32 (by decide) (fun c32 => ?_) (fun c32 => ?_)
        · have c32 : 0 = 0 := (nI_eq (a := 0) (b := 0) (by omega) (by omega)).mp c32
          refine lv_iconst (v := 0) hx hb d_MD_line_66 (by decide) ?_
          refine lv_istore (lv' := [(4, .int 0), (3, .int 0), (0, .ref (ad 0)), (1, .int x), (2, .int y)]) hx hb d_MD_line_67 hl (by decide) rfl (fun ls hl => ?_)
          refine lv_aload_n hx hb d_MD_line_69 rfl (lv_at hl 2 rfl) ?_
          refine lv_aload_n hx hb d_MD_line_70 rfl (lv_at hl 2 rfl) ?_
          refine g_MD_92 M hI d_MD_line_71 ?_
          refine q_as (y := 0) h5 ?_
          refine lv_if_ne (tgt := 81) hx hb d_MD_line_74 (by decide) (fun c74 => ?_) (fun c74 => ?_)
          · have c74 : ¬ 0 = 0 := fun h => c74 ((nI_eq (a := 0) (b := 0) (by omega) (by omega)).mpr h)
            exfalso; omega
          · have c74 : 0 = 0 := (nI_eq (a := 0) (b := 0) (by omega) (by omega)).mp c74
            refine lv_iconst (v := 1) hx hb d_MD_line_77 (by decide) ?_
            refine lv_goto (tgt := 99) hx hb d_MD_line_78 (by decide) ?_
            refine q_calliV [.int 1] M hI (c_MD_refused l g ad ar fl 1) ok_MD_refused m5_56 m5_58 ms_45 0 rfl rfl rfl rfl hl.1 ⟨rfl, rfl⟩ ⟨Nat.le_of_ble_eq_true rfl, Nat.le_of_ble_eq_true rfl⟩ (Nat.le_of_ble_eq_true rfl) ⟨Nat.le_of_ble_eq_true rfl, Nat.le_of_ble_eq_true rfl⟩ d_MD_line_99 (fun r99 u99 H locs hp99 hI => ?_)
            have hI : CI g A s (mw g ad ar (va_up fl 0 1)) H locs := hI
            refine q_as (y := bI (¬ 1 ≤ 0)) hp99 ?_
            refine lv_if_eq (tgt := 107) hx hb d_MD_line_102 (by decide) (fun c102 => ?_) (fun c102 => ?_)
            · have c102 := bI_eq0.mp c102
              exact absurd (by decide) c102
            · have c102 := bI_ne0.mp c102
              refine lv_iconst (v := 0) hx hb d_MD_line_105 (by decide) ?_
              exact hret 0 () _ _ _ _ _ _ d_MD_line_106 hI (trivial) (Nat.le_refl 0) (Nat.le_refl 0)
        · have c32 : ¬ 0 = 0 := fun h => c32 ((nI_eq (a := 0) (b := 0) (by omega) (by omega)).mpr h)
          exfalso; omega
      · refine lv_iload_n hx hb d_MD_line_17 rfl (lv_at hl 2 rfl) ?_
        refine lv_aload_n hx hb d_MD_line_18 rfl (lv_at hl 0 rfl) ?_
        refine g_MD_119 M hI d_MD_line_19 ?_
        refine q_as (y := nI cn) h1 ?_
        refine lv_icmp_gt (tgt := 29) hx hb d_MD_line_22 (by decide) (fun c22 => ?_) (fun c22 => ?_)
        · refine lv_iconst (v := 0) hx hb d_MD_line_29 (by decide) ?_
          refine lv_istore_n (lv' := [(3, .int 0), (0, .ref (ad 0)), (1, .int x), (2, .int y)]) hx hb d_MD_line_30 rfl hl (by decide) rfl (fun ls hl => ?_)
          refine lv_iload_n hx hb d_MD_line_31 rfl (lv_at hl 0 rfl) ?_
          refine lv_if_eq (tgt := 66) hx hb d_MD_line_32 (by decide) (fun c32 => ?_) (fun c32 => ?_)
          · have c32 : 0 = 0 := (nI_eq (a := 0) (b := 0) (by omega) (by omega)).mp c32
            refine lv_iconst (v := 0) hx hb d_MD_line_66 (by decide) ?_
            refine lv_istore (lv' := [(4, .int 0), (3, .int 0), (0, .ref (ad 0)), (1, .int x), (2, .int y)]) hx hb d_MD_line_67 hl (by decide) rfl (fun ls hl => ?_)
            refine lv_aload_n hx hb d_MD_line_69 rfl (lv_at hl 2 rfl) ?_
            refine lv_aload_n hx hb d_MD_line_70 rfl (lv_at hl 2 rfl) ?_
            refine g_MD_92 M hI d_MD_line_71 ?_
            refine q_as (y := 0) h5 ?_
            refine lv_if_ne (tgt := 81) hx hb d_MD_line_74 (by decide) (fun c74 => ?_) (fun c74 => ?_)
            · have c74 : ¬ 0 = 0 := fun h => c74 ((nI_eq (a := 0) (b := 0) (by omega) (by omega)).mpr h)
              exfalso; omega
            · have c74 : 0 = 0 := (nI_eq (a := 0) (b := 0) (by omega) (by omega)).mp c74
              refine lv_iconst (v := 1) hx hb d_MD_line_77 (by decide) ?_
              refine lv_goto (tgt := 99) hx hb d_MD_line_78 (by decide) ?_
              refine q_calliV [.int 1] M hI (c_MD_refused l g ad ar fl 1) ok_MD_refused m5_56 m5_58 ms_45 0 rfl rfl rfl rfl hl.1 ⟨rfl, rfl⟩ ⟨Nat.le_of_ble_eq_true rfl, Nat.le_of_ble_eq_true rfl⟩ (Nat.le_of_ble_eq_true rfl) ⟨Nat.le_of_ble_eq_true rfl, Nat.le_of_ble_eq_true rfl⟩ d_MD_line_99 (fun r99 u99 H locs hp99 hI => ?_)
              have hI : CI g A s (mw g ad ar (va_up fl 0 1)) H locs := hI
              refine q_as (y := bI (¬ 1 ≤ 0)) hp99 ?_
              refine lv_if_eq (tgt := 107) hx hb d_MD_line_102 (by decide) (fun c102 => ?_) (fun c102 => ?_)
              · have c102 := bI_eq0.mp c102
                exact absurd (by decide) c102
              · have c102 := bI_ne0.mp c102
                refine lv_iconst (v := 0) hx hb d_MD_line_105 (by decide) ?_
                exact hret 0 () _ _ _ _ _ _ d_MD_line_106 hI (trivial) (Nat.le_refl 0) (Nat.le_refl 0)
          · have c32 : ¬ 0 = 0 := fun h => c32 ((nI_eq (a := 0) (b := 0) (by omega) (by omega)).mpr h)
            exfalso; omega
        · refine lv_iconst (v := 1) hx hb d_MD_line_25 (by decide) ?_
          refine lv_goto (tgt := 30) hx hb d_MD_line_26 (by decide) ?_
          refine lv_istore_n (lv' := [(3, .int 1), (0, .ref (ad 0)), (1, .int x), (2, .int y)]) hx hb d_MD_line_30 rfl hl (by decide) rfl (fun ls hl => ?_)
          refine lv_iload_n hx hb d_MD_line_31 rfl (lv_at hl 0 rfl) ?_
          refine lv_if_eq (tgt := 66) hx hb d_MD_line_32 (by decide) (fun c32 => ?_) (fun c32 => ?_)
          · have c32 : 1 = 0 := (nI_eq (a := 1) (b := 0) (by omega) (by omega)).mp c32
            exfalso; omega
          · have c32 : ¬ 1 = 0 := fun h => c32 ((nI_eq (a := 1) (b := 0) (by omega) (by omega)).mpr h)
            refine lv_aload_n hx hb d_MD_line_35 rfl (lv_at hl 1 rfl) ?_
            refine g_MD_92 M hI d_MD_line_36 ?_
            refine q_as (y := 0) h5 ?_
            refine lv_if_eq (tgt := 66) hx hb d_MD_line_39 (by decide) (fun c39 => ?_) (fun c39 => ?_)
            · have c39 : 0 = 0 := (nI_eq (a := 0) (b := 0) (by omega) (by omega)).mp c39
              refine lv_iconst (v := 0) hx hb d_MD_line_66 (by decide) ?_
              refine lv_istore (lv' := [(4, .int 0), (3, .int 1), (0, .ref (ad 0)), (1, .int x), (2, .int y)]) hx hb d_MD_line_67 hl (by decide) rfl (fun ls hl => ?_)
              refine lv_aload_n hx hb d_MD_line_69 rfl (lv_at hl 2 rfl) ?_
              refine lv_aload_n hx hb d_MD_line_70 rfl (lv_at hl 2 rfl) ?_
              refine g_MD_92 M hI d_MD_line_71 ?_
              refine q_as (y := 0) h5 ?_
              refine lv_if_ne (tgt := 81) hx hb d_MD_line_74 (by decide) (fun c74 => ?_) (fun c74 => ?_)
              · have c74 : ¬ 0 = 0 := fun h => c74 ((nI_eq (a := 0) (b := 0) (by omega) (by omega)).mpr h)
                exfalso; omega
              · have c74 : 0 = 0 := (nI_eq (a := 0) (b := 0) (by omega) (by omega)).mp c74
                refine lv_iconst (v := 1) hx hb d_MD_line_77 (by decide) ?_
                refine lv_goto (tgt := 99) hx hb d_MD_line_78 (by decide) ?_
                refine q_calliV [.int 1] M hI (c_MD_refused l g ad ar fl 1) ok_MD_refused m5_56 m5_58 ms_45 0 rfl rfl rfl rfl hl.1 ⟨rfl, rfl⟩ ⟨Nat.le_of_ble_eq_true rfl, Nat.le_of_ble_eq_true rfl⟩ (Nat.le_of_ble_eq_true rfl) ⟨Nat.le_of_ble_eq_true rfl, Nat.le_of_ble_eq_true rfl⟩ d_MD_line_99 (fun r99 u99 H locs hp99 hI => ?_)
                have hI : CI g A s (mw g ad ar (va_up fl 0 1)) H locs := hI
                refine q_as (y := bI (¬ 1 ≤ 0)) hp99 ?_
                refine lv_if_eq (tgt := 107) hx hb d_MD_line_102 (by decide) (fun c102 => ?_) (fun c102 => ?_)
                · have c102 := bI_eq0.mp c102
                  exact absurd (by decide) c102
                · have c102 := bI_ne0.mp c102
                  refine lv_iconst (v := 0) hx hb d_MD_line_105 (by decide) ?_
                  exact hret 0 () _ _ _ _ _ _ d_MD_line_106 hI (trivial) (Nat.le_refl 0) (Nat.le_refl 0)
            · have c39 : ¬ 0 = 0 := fun h => c39 ((nI_eq (a := 0) (b := 0) (by omega) (by omega)).mpr h)
              exfalso; omega
abbrev rm_MD_line_c_MD_line_2 : Room := { frames := 1, cells := 0, slots := 0, locals := 21 }
set_option maxHeartbeats 4000000 in
set_option maxRecDepth 100000 in
theorem c_MD_line_2 (l : Launch) (g : Geo) (ad : Nat → Nat) (ar : Nat → Nat → Int32) (fl : Nat → Int32) (x : Int32) (y : Int32) (cn : Nat) (h5 : fl 5 = 1) (h1 : fl 1 = nI cn) (hcN : cn ≤ 2000) (hS : x < 0 ∨ nI cn ≤ x ∨ y < 1 ∨ nI cn < y) : cMi l y_MD_line (.code y_MD_line b_MD_line 7 (some .int) :: gw) rm_MD_line_c_MD_line_2 g [.ref (ad 0), .int x, .int y] (mw g ad ar fl) (fun (r : Int32) (_ : Unit) => True) (fun (_ : Unit) => mw g ad ar (va_up fl 0 2)) 0 0 := by
  refine cMi_of (by decide) (Nat.le_of_ble_eq_true rfl) ?_
  intro p e s m below meth c A Q ls M hret hl hI
  have M : MC p s m ([.ref (ad 0), .int x, .int y] : List Value).toArray meth c R_MD b_MD_line 7 := M
  have hl : lv_has ls 7 [(0, .ref (ad 0)), (1, .int x), (2, .int y)] := hl
  generalize ([.ref (ad 0), .int x, .int y] : List Value).toArray = args at M hret ⊢
  have hx := M.1
  have hb := M.2.1
  refine lv_iload_n hx hb d_MD_line_0 rfl (lv_at hl 1 rfl) ?_
  refine lv_if_lt (tgt := 29) hx hb d_MD_line_1 (by decide) (fun c1 => ?_) (fun c1 => ?_)
  · refine lv_iconst (v := 0) hx hb d_MD_line_29 (by decide) ?_
    refine lv_istore_n (lv' := [(3, .int 0), (0, .ref (ad 0)), (1, .int x), (2, .int y)]) hx hb d_MD_line_30 rfl hl (by decide) rfl (fun ls hl => ?_)
    refine lv_iload_n hx hb d_MD_line_31 rfl (lv_at hl 0 rfl) ?_
    refine lv_if_eq (tgt := 66) hx hb d_MD_line_32 (by decide) (fun c32 => ?_) (fun c32 => ?_)
    · have c32 : 0 = 0 := (nI_eq (a := 0) (b := 0) (by omega) (by omega)).mp c32
      refine lv_iconst (v := 0) hx hb d_MD_line_66 (by decide) ?_
      refine lv_istore (lv' := [(4, .int 0), (3, .int 0), (0, .ref (ad 0)), (1, .int x), (2, .int y)]) hx hb d_MD_line_67 hl (by decide) rfl (fun ls hl => ?_)
      refine lv_aload_n hx hb d_MD_line_69 rfl (lv_at hl 2 rfl) ?_
      refine lv_aload_n hx hb d_MD_line_70 rfl (lv_at hl 2 rfl) ?_
      refine g_MD_92 M hI d_MD_line_71 ?_
      refine q_as (y := 1) h5 ?_
      refine lv_if_ne (tgt := 81) hx hb d_MD_line_74 (by decide) (fun c74 => ?_) (fun c74 => ?_)
      · have c74 : ¬ 1 = 0 := fun h => c74 ((nI_eq (a := 1) (b := 0) (by omega) (by omega)).mpr h)
        refine lv_iload_n hx hb d_MD_line_81 rfl (lv_at hl 1 rfl) ?_
        refine lv_if_ne (tgt := 89) hx hb d_MD_line_82 (by decide) (fun c82 => ?_) (fun c82 => ?_)
        · have c82 : ¬ 0 = 0 := fun h => c82 ((nI_eq (a := 0) (b := 0) (by omega) (by omega)).mpr h)
          exfalso; omega
        · have c82 : 0 = 0 := (nI_eq (a := 0) (b := 0) (by omega) (by omega)).mp c82
          refine lv_iconst (v := 2) hx hb d_MD_line_85 (by decide) ?_
          refine lv_goto (tgt := 99) hx hb d_MD_line_86 (by decide) ?_
          refine q_calliV [.int 2] M hI (c_MD_refused l g ad ar fl 2) ok_MD_refused m5_56 m5_58 ms_45 0 rfl rfl rfl rfl hl.1 ⟨rfl, rfl⟩ ⟨Nat.le_of_ble_eq_true rfl, Nat.le_of_ble_eq_true rfl⟩ (Nat.le_of_ble_eq_true rfl) ⟨Nat.le_of_ble_eq_true rfl, Nat.le_of_ble_eq_true rfl⟩ d_MD_line_99 (fun r99 u99 H locs hp99 hI => ?_)
          have hI : CI g A s (mw g ad ar (va_up fl 0 2)) H locs := hI
          refine q_as (y := bI (¬ 2 ≤ 0)) hp99 ?_
          refine lv_if_eq (tgt := 107) hx hb d_MD_line_102 (by decide) (fun c102 => ?_) (fun c102 => ?_)
          · have c102 := bI_eq0.mp c102
            exact absurd (by decide) c102
          · have c102 := bI_ne0.mp c102
            refine lv_iconst (v := 0) hx hb d_MD_line_105 (by decide) ?_
            exact hret 0 () _ _ _ _ _ _ d_MD_line_106 hI (trivial) (Nat.le_refl 0) (Nat.le_refl 0)
      · have c74 : 1 = 0 := (nI_eq (a := 1) (b := 0) (by omega) (by omega)).mp c74
        exfalso; omega
    · have c32 : ¬ 0 = 0 := fun h => c32 ((nI_eq (a := 0) (b := 0) (by omega) (by omega)).mpr h)
      exfalso; omega
  · refine lv_iload_n hx hb d_MD_line_4 rfl (lv_at hl 1 rfl) ?_
    refine lv_aload_n hx hb d_MD_line_5 rfl (lv_at hl 0 rfl) ?_
    refine g_MD_119 M hI d_MD_line_6 ?_
    refine q_as (y := nI cn) h1 ?_
    refine lv_icmp_ge (tgt := 29) hx hb d_MD_line_9 (by decide) (fun c9 => ?_) (fun c9 => ?_)
    · refine lv_iconst (v := 0) hx hb d_MD_line_29 (by decide) ?_
      refine lv_istore_n (lv' := [(3, .int 0), (0, .ref (ad 0)), (1, .int x), (2, .int y)]) hx hb d_MD_line_30 rfl hl (by decide) rfl (fun ls hl => ?_)
      refine lv_iload_n hx hb d_MD_line_31 rfl (lv_at hl 0 rfl) ?_
      refine lv_if_eq (tgt := 66) hx hb d_MD_line_32 (by decide) (fun c32 => ?_) (fun c32 => ?_)
      · have c32 : 0 = 0 := (nI_eq (a := 0) (b := 0) (by omega) (by omega)).mp c32
        refine lv_iconst (v := 0) hx hb d_MD_line_66 (by decide) ?_
        refine lv_istore (lv' := [(4, .int 0), (3, .int 0), (0, .ref (ad 0)), (1, .int x), (2, .int y)]) hx hb d_MD_line_67 hl (by decide) rfl (fun ls hl => ?_)
        refine lv_aload_n hx hb d_MD_line_69 rfl (lv_at hl 2 rfl) ?_
        refine lv_aload_n hx hb d_MD_line_70 rfl (lv_at hl 2 rfl) ?_
        refine g_MD_92 M hI d_MD_line_71 ?_
        refine q_as (y := 1) h5 ?_
        refine lv_if_ne (tgt := 81) hx hb d_MD_line_74 (by decide) (fun c74 => ?_) (fun c74 => ?_)
        · have c74 : ¬ 1 = 0 := fun h => c74 ((nI_eq (a := 1) (b := 0) (by omega) (by omega)).mpr h)
          refine lv_iload_n hx hb d_MD_line_81 rfl (lv_at hl 1 rfl) ?_
          refine lv_if_ne (tgt := 89) hx hb d_MD_line_82 (by decide) (fun c82 => ?_) (fun c82 => ?_)
          · have c82 : ¬ 0 = 0 := fun h => c82 ((nI_eq (a := 0) (b := 0) (by omega) (by omega)).mpr h)
            exfalso; omega
          · have c82 : 0 = 0 := (nI_eq (a := 0) (b := 0) (by omega) (by omega)).mp c82
            refine lv_iconst (v := 2) hx hb d_MD_line_85 (by decide) ?_
            refine lv_goto (tgt := 99) hx hb d_MD_line_86 (by decide) ?_
            refine q_calliV [.int 2] M hI (c_MD_refused l g ad ar fl 2) ok_MD_refused m5_56 m5_58 ms_45 0 rfl rfl rfl rfl hl.1 ⟨rfl, rfl⟩ ⟨Nat.le_of_ble_eq_true rfl, Nat.le_of_ble_eq_true rfl⟩ (Nat.le_of_ble_eq_true rfl) ⟨Nat.le_of_ble_eq_true rfl, Nat.le_of_ble_eq_true rfl⟩ d_MD_line_99 (fun r99 u99 H locs hp99 hI => ?_)
            have hI : CI g A s (mw g ad ar (va_up fl 0 2)) H locs := hI
            refine q_as (y := bI (¬ 2 ≤ 0)) hp99 ?_
            refine lv_if_eq (tgt := 107) hx hb d_MD_line_102 (by decide) (fun c102 => ?_) (fun c102 => ?_)
            · have c102 := bI_eq0.mp c102
              exact absurd (by decide) c102
            · have c102 := bI_ne0.mp c102
              refine lv_iconst (v := 0) hx hb d_MD_line_105 (by decide) ?_
              exact hret 0 () _ _ _ _ _ _ d_MD_line_106 hI (trivial) (Nat.le_refl 0) (Nat.le_refl 0)
        · have c74 : 1 = 0 := (nI_eq (a := 1) (b := 0) (by omega) (by omega)).mp c74
          exfalso; omega
      · have c32 : ¬ 0 = 0 := fun h => c32 ((nI_eq (a := 0) (b := 0) (by omega) (by omega)).mpr h)
        exfalso; omega
    · refine lv_iload_n hx hb d_MD_line_12 rfl (lv_at hl 2 rfl) ?_
      refine lv_iconst (v := 1) hx hb d_MD_line_13 (by decide) ?_
      refine lv_icmp_lt (tgt := 29) hx hb d_MD_line_14 (by decide) (fun c14 => ?_) (fun c14 => ?_)
      · refine lv_iconst (v := 0) hx hb d_MD_line_29 (by decide) ?_
        refine lv_istore_n (lv' := [(3, .int 0), (0, .ref (ad 0)), (1, .int x), (2, .int y)]) hx hb d_MD_line_30 rfl hl (by decide) rfl (fun ls hl => ?_)
        refine lv_iload_n hx hb d_MD_line_31 rfl (lv_at hl 0 rfl) ?_
        refine lv_if_eq (tgt := 66) hx hb d_MD_line_32 (by decide) (fun c32 => ?_) (fun c32 => ?_)
        · have c32 : 0 = 0 := (nI_eq (a := 0) (b := 0) (by omega) (by omega)).mp c32
          refine lv_iconst (v := 0) hx hb d_MD_line_66 (by decide) ?_
          refine lv_istore (lv' := [(4, .int 0), (3, .int 0), (0, .ref (ad 0)), (1, .int x), (2, .int y)]) hx hb d_MD_line_67 hl (by decide) rfl (fun ls hl => ?_)
          refine lv_aload_n hx hb d_MD_line_69 rfl (lv_at hl 2 rfl) ?_
          refine lv_aload_n hx hb d_MD_line_70 rfl (lv_at hl 2 rfl) ?_
          refine g_MD_92 M hI d_MD_line_71 ?_
          refine q_as (y := 1) h5 ?_
          refine lv_if_ne (tgt := 81) hx hb d_MD_line_74 (by decide) (fun c74 => ?_) (fun c74 => ?_)
          · have c74 : ¬ 1 = 0 := fun h => c74 ((nI_eq (a := 1) (b := 0) (by omega) (by omega)).mpr h)
            refine lv_iload_n hx hb d_MD_line_81 rfl (lv_at hl 1 rfl) ?_
            refine lv_if_ne (tgt := 89) hx hb d_MD_line_82 (by decide) (fun c82 => ?_) (fun c82 => ?_)
            · have c82 : ¬ 0 = 0 := fun h => c82 ((nI_eq (a := 0) (b := 0) (by omega) (by omega)).mpr h)
              exfalso; omega
            · have c82 : 0 = 0 := (nI_eq (a := 0) (b := 0) (by omega) (by omega)).mp c82
              refine lv_iconst (v := 2) hx hb d_MD_line_85 (by decide) ?_
              refine lv_goto (tgt := 99) hx hb d_MD_line_86 (by decide) ?_
              refine q_calliV [.int 2] M hI (c_MD_refused l g ad ar fl 2) ok_MD_refused m5_56 m5_58 ms_45 0 rfl rfl rfl rfl hl.1 ⟨rfl, rfl⟩ ⟨Nat.le_of_ble_eq_true rfl, Nat.le_of_ble_eq_true rfl⟩ (Nat.le_of_ble_eq_true rfl) ⟨Nat.le_of_ble_eq_true rfl, Nat.le_of_ble_eq_true rfl⟩ d_MD_line_99 (fun r99 u99 H locs hp99 hI => ?_)
              have hI : CI g A s (mw g ad ar (va_up fl 0 2)) H locs := hI
              refine q_as (y := bI (¬ 2 ≤ 0)) hp99 ?_
              refine lv_if_eq (tgt := 107) hx hb d_MD_line_102 (by decide) (fun c102 => ?_) (fun c102 => ?_)
              · have c102 := bI_eq0.mp c102
                exact absurd (by decide) c102
              · have c102 := bI_ne0.mp c102
                refine lv_iconst (v := 0) hx hb d_MD_line_105 (by decide) ?_
                exact hret 0 () _ _ _ _ _ _ d_MD_line_106 hI (trivial) (Nat.le_refl 0) (Nat.le_refl 0)
          · have c74 : 1 = 0 := (nI_eq (a := 1) (b := 0) (by omega) (by omega)).mp c74
            exfalso; omega
        · have c32 : ¬ 0 = 0 := fun h => c32 ((nI_eq (a := 0) (b := 0) (by omega) (by omega)).mpr h)
          exfalso; omega
      · refine lv_iload_n hx hb d_MD_line_17 rfl (lv_at hl 2 rfl) ?_
        refine lv_aload_n hx hb d_MD_line_18 rfl (lv_at hl 0 rfl) ?_
        refine g_MD_119 M hI d_MD_line_19 ?_
        refine q_as (y := nI cn) h1 ?_
        refine lv_icmp_gt (tgt := 29) hx hb d_MD_line_22 (by decide) (fun c22 => ?_) (fun c22 => ?_)
        · refine lv_iconst (v := 0) hx hb d_MD_line_29 (by decide) ?_
          refine lv_istore_n (lv' := [(3, .int 0), (0, .ref (ad 0)), (1, .int x), (2, .int y)]) hx hb d_MD_line_30 rfl hl (by decide) rfl (fun ls hl => ?_)
          refine lv_iload_n hx hb d_MD_line_31 rfl (lv_at hl 0 rfl) ?_
          refine lv_if_eq (tgt := 66) hx hb d_MD_line_32 (by decide) (fun c32 => ?_) (fun c32 => ?_)
          · have c32 : 0 = 0 := (nI_eq (a := 0) (b := 0) (by omega) (by omega)).mp c32
            refine lv_iconst (v := 0) hx hb d_MD_line_66 (by decide) ?_
            refine lv_istore (lv' := [(4, .int 0), (3, .int 0), (0, .ref (ad 0)), (1, .int x), (2, .int y)]) hx hb d_MD_line_67 hl (by decide) rfl (fun ls hl => ?_)
            refine lv_aload_n hx hb d_MD_line_69 rfl (lv_at hl 2 rfl) ?_
            refine lv_aload_n hx hb d_MD_line_70 rfl (lv_at hl 2 rfl) ?_
            refine g_MD_92 M hI d_MD_line_71 ?_
            refine q_as (y := 1) h5 ?_
            refine lv_if_ne (tgt := 81) hx hb d_MD_line_74 (by decide) (fun c74 => ?_) (fun c74 => ?_)
            · have c74 : ¬ 1 = 0 := fun h => c74 ((nI_eq (a := 1) (b := 0) (by omega) (by omega)).mpr h)
              refine lv_iload_n hx hb d_MD_line_81 rfl (lv_at hl 1 rfl) ?_
              refine lv_if_ne (tgt := 89) hx hb d_MD_line_82 (by decide) (fun c82 => ?_) (fun c82 => ?_)
              · have c82 : ¬ 0 = 0 := fun h => c82 ((nI_eq (a := 0) (b := 0) (by omega) (by omega)).mpr h)
                exfalso; omega
              · have c82 : 0 = 0 := (nI_eq (a := 0) (b := 0) (by omega) (by omega)).mp c82
                refine lv_iconst (v := 2) hx hb d_MD_line_85 (by decide) ?_
                refine lv_goto (tgt := 99) hx hb d_MD_line_86 (by decide) ?_
                refine q_calliV [.int 2] M hI (c_MD_refused l g ad ar fl 2) ok_MD_refused m5_56 m5_58 ms_45 0 rfl rfl rfl rfl hl.1 ⟨rfl, rfl⟩ ⟨Nat.le_of_ble_eq_true rfl, Nat.le_of_ble_eq_true rfl⟩ (Nat.le_of_ble_eq_true rfl) ⟨Nat.le_of_ble_eq_true rfl, Nat.le_of_ble_eq_true rfl⟩ d_MD_line_99 (fun r99 u99 H locs hp99 hI => ?_)
                have hI : CI g A s (mw g ad ar (va_up fl 0 2)) H locs := hI
                refine q_as (y := bI (¬ 2 ≤ 0)) hp99 ?_
                refine lv_if_eq (tgt := 107) hx hb d_MD_line_102 (by decide) (fun c102 => ?_) (fun c102 => ?_)
                · have c102 := bI_eq0.mp c102
                  exact absurd (by decide) c102
                · have c102 := bI_ne0.mp c102
                  refine lv_iconst (v := 0) hx hb d_MD_line_105 (by decide) ?_
                  exact hret 0 () _ _ _ _ _ _ d_MD_line_106 hI (trivial) (Nat.le_refl 0) (Nat.le_refl 0)
            · have c74 : 1 = 0 := (nI_eq (a := 1) (b := 0) (by omega) (by omega)).mp c74
              exfalso; omega
          · have c32 : ¬ 0 = 0 := fun h => c32 ((nI_eq (a := 0) (b := 0) (by omega) (by omega)).mpr h)
            exfalso; omega
        · exact absurd hS (fun h => h.elim c1 (fun h => h.elim c9 (fun h => h.elim c14 c22)))
abbrev rm_MD_line_c_MD_line_3 : Room := { frames := 1, cells := 0, slots := 0, locals := 23 }
set_option maxHeartbeats 4000000 in
set_option maxRecDepth 100000 in
theorem c_MD_line_3 (l : Launch) (g : Geo) (ad : Nat → Nat) (ar : Nat → Nat → Int32) (fl : Nat → Int32) (fr : Nat) (to : Nat) (cn np : Nat) (h5 : fl 5 = 1) (h1 : fl 1 = nI cn) (hcN : cn ≤ 2000) (h6 : fl 6 = nI np) (hnN : np ≤ 2000) (hf : fr < cn) (ht1 : 1 ≤ to) (ht2 : to ≤ cn) (hS : to ≤ fr ∨ ¬ ptO (ar 14) fr np = ptO (ar 14) (to - 1) np) : cMi l y_MD_line (.code y_MD_line b_MD_line 7 (some .int) :: gw) rm_MD_line_c_MD_line_3 g [.ref (ad 0), .int (nI fr), .int (nI to)] (mw g ad ar fl) (fun (r : Int32) (_ : Unit) => True) (fun (_ : Unit) => mw g ad ar (va_up fl 0 3)) 0 0 := by
  refine cMi_of (by decide) (Nat.le_of_ble_eq_true rfl) ?_
  intro p e s m below meth c A Q ls M hret hl hI
  have M : MC p s m ([.ref (ad 0), .int (nI fr), .int (nI to)] : List Value).toArray meth c R_MD b_MD_line 7 := M
  have hl : lv_has ls 7 [(0, .ref (ad 0)), (1, .int (nI fr)), (2, .int (nI to))] := hl
  generalize ([.ref (ad 0), .int (nI fr), .int (nI to)] : List Value).toArray = args at M hret ⊢
  have hx := M.1
  have hb := M.2.1
  refine lv_iload_n hx hb d_MD_line_0 rfl (lv_at hl 1 rfl) ?_
  refine lv_if_lt (tgt := 29) hx hb d_MD_line_1 (by decide) (fun c1 => ?_) (fun c1 => ?_)
  · have c1 : fr < 0 := (nI_ltI (a := fr) (b := 0) (by omega) (by omega)).mp c1
    exfalso; omega
  · have c1 : ¬ fr < 0 := fun h => c1 ((nI_ltI (a := fr) (b := 0) (by omega) (by omega)).mpr h)
    refine lv_iload_n hx hb d_MD_line_4 rfl (lv_at hl 1 rfl) ?_
    refine lv_aload_n hx hb d_MD_line_5 rfl (lv_at hl 0 rfl) ?_
    refine g_MD_119 M hI d_MD_line_6 ?_
    refine q_as (y := nI cn) h1 ?_
    refine lv_icmp_ge (tgt := 29) hx hb d_MD_line_9 (by decide) (fun c9 => ?_) (fun c9 => ?_)
    · have c9 : cn ≤ fr := (nI_leI (a := cn) (b := fr) (by omega) (by omega)).mp c9
      exfalso; omega
    · have c9 : ¬ cn ≤ fr := fun h => c9 ((nI_leI (a := cn) (b := fr) (by omega) (by omega)).mpr h)
      refine lv_iload_n hx hb d_MD_line_12 rfl (lv_at hl 2 rfl) ?_
      refine lv_iconst (v := 1) hx hb d_MD_line_13 (by decide) ?_
      refine lv_icmp_lt (tgt := 29) hx hb d_MD_line_14 (by decide) (fun c14 => ?_) (fun c14 => ?_)
      · have c14 : to < 1 := (nI_ltI (a := to) (b := 1) (by omega) (by omega)).mp c14
        exfalso; omega
      · have c14 : ¬ to < 1 := fun h => c14 ((nI_ltI (a := to) (b := 1) (by omega) (by omega)).mpr h)
        refine lv_iload_n hx hb d_MD_line_17 rfl (lv_at hl 2 rfl) ?_
        refine lv_aload_n hx hb d_MD_line_18 rfl (lv_at hl 0 rfl) ?_
        refine g_MD_119 M hI d_MD_line_19 ?_
        refine q_as (y := nI cn) h1 ?_
        refine lv_icmp_gt (tgt := 29) hx hb d_MD_line_22 (by decide) (fun c22 => ?_) (fun c22 => ?_)
        · have c22 : cn < to := (nI_ltI (a := cn) (b := to) (by omega) (by omega)).mp c22
          exfalso; omega
        · have c22 : ¬ cn < to := fun h => c22 ((nI_ltI (a := cn) (b := to) (by omega) (by omega)).mpr h)
          refine lv_iconst (v := 1) hx hb d_MD_line_25 (by decide) ?_
          refine lv_goto (tgt := 30) hx hb d_MD_line_26 (by decide) ?_
          refine lv_istore_n (lv' := [(3, .int 1), (0, .ref (ad 0)), (1, .int (nI fr)), (2, .int (nI to))]) hx hb d_MD_line_30 rfl hl (by decide) rfl (fun ls hl => ?_)
          refine lv_iload_n hx hb d_MD_line_31 rfl (lv_at hl 0 rfl) ?_
          refine lv_if_eq (tgt := 66) hx hb d_MD_line_32 (by decide) (fun c32 => ?_) (fun c32 => ?_)
          · have c32 : 1 = 0 := (nI_eq (a := 1) (b := 0) (by omega) (by omega)).mp c32
            exfalso; omega
          · have c32 : ¬ 1 = 0 := fun h => c32 ((nI_eq (a := 1) (b := 0) (by omega) (by omega)).mpr h)
            refine lv_aload_n hx hb d_MD_line_35 rfl (lv_at hl 1 rfl) ?_
            refine g_MD_92 M hI d_MD_line_36 ?_
            refine q_as (y := 1) h5 ?_
            refine lv_if_eq (tgt := 66) hx hb d_MD_line_39 (by decide) (fun c39 => ?_) (fun c39 => ?_)
            · have c39 : 1 = 0 := (nI_eq (a := 1) (b := 0) (by omega) (by omega)).mp c39
              exfalso; omega
            · have c39 : ¬ 1 = 0 := fun h => c39 ((nI_eq (a := 1) (b := 0) (by omega) (by omega)).mpr h)
              refine lv_iload_n hx hb d_MD_line_42 rfl (lv_at hl 2 rfl) ?_
              refine lv_iload_n hx hb d_MD_line_43 rfl (lv_at hl 3 rfl) ?_
              refine lv_icmp_ge (tgt := 66) hx hb d_MD_line_44 (by decide) (fun c44 => ?_) (fun c44 => ?_)
              · have c44 : to ≤ fr := (nI_leI (a := to) (b := fr) (by omega) (by omega)).mp c44
                refine lv_iconst (v := 0) hx hb d_MD_line_66 (by decide) ?_
                refine lv_istore (lv' := [(4, .int 0), (3, .int 1), (0, .ref (ad 0)), (1, .int (nI fr)), (2, .int (nI to))]) hx hb d_MD_line_67 hl (by decide) rfl (fun ls hl => ?_)
                refine lv_aload_n hx hb d_MD_line_69 rfl (lv_at hl 2 rfl) ?_
                refine lv_aload_n hx hb d_MD_line_70 rfl (lv_at hl 2 rfl) ?_
                refine g_MD_92 M hI d_MD_line_71 ?_
                refine q_as (y := 1) h5 ?_
                refine lv_if_ne (tgt := 81) hx hb d_MD_line_74 (by decide) (fun c74 => ?_) (fun c74 => ?_)
                · have c74 : ¬ 1 = 0 := fun h => c74 ((nI_eq (a := 1) (b := 0) (by omega) (by omega)).mpr h)
                  refine lv_iload_n hx hb d_MD_line_81 rfl (lv_at hl 1 rfl) ?_
                  refine lv_if_ne (tgt := 89) hx hb d_MD_line_82 (by decide) (fun c82 => ?_) (fun c82 => ?_)
                  · have c82 : ¬ 1 = 0 := fun h => c82 ((nI_eq (a := 1) (b := 0) (by omega) (by omega)).mpr h)
                    refine lv_iload hx hb d_MD_line_89 (lv_at hl 0 rfl) ?_
                    refine lv_if_ne (tgt := 98) hx hb d_MD_line_91 (by decide) (fun c91 => ?_) (fun c91 => ?_)
                    · have c91 : ¬ 0 = 0 := fun h => c91 ((nI_eq (a := 0) (b := 0) (by omega) (by omega)).mpr h)
                      exfalso; omega
                    · have c91 : 0 = 0 := (nI_eq (a := 0) (b := 0) (by omega) (by omega)).mp c91
                      refine lv_iconst (v := 3) hx hb d_MD_line_94 (by decide) ?_
                      refine lv_goto (tgt := 99) hx hb d_MD_line_95 (by decide) ?_
                      refine q_calliV [.int 3] M hI (c_MD_refused l g ad ar fl 3) ok_MD_refused m5_56 m5_58 ms_45 0 rfl rfl rfl rfl hl.1 ⟨rfl, rfl⟩ ⟨Nat.le_of_ble_eq_true rfl, Nat.le_of_ble_eq_true rfl⟩ (Nat.le_of_ble_eq_true rfl) ⟨Nat.le_of_ble_eq_true rfl, Nat.le_of_ble_eq_true rfl⟩ d_MD_line_99 (fun r99 u99 H locs hp99 hI => ?_)
                      have hI : CI g A s (mw g ad ar (va_up fl 0 3)) H locs := hI
                      refine q_as (y := bI (¬ 3 ≤ 0)) hp99 ?_
                      refine lv_if_eq (tgt := 107) hx hb d_MD_line_102 (by decide) (fun c102 => ?_) (fun c102 => ?_)
                      · have c102 := bI_eq0.mp c102
                        exact absurd (by decide) c102
                      · have c102 := bI_ne0.mp c102
                        refine lv_iconst (v := 0) hx hb d_MD_line_105 (by decide) ?_
                        exact hret 0 () _ _ _ _ _ _ d_MD_line_106 hI (trivial) (Nat.le_refl 0) (Nat.le_refl 0)
                  · have c82 : 1 = 0 := (nI_eq (a := 1) (b := 0) (by omega) (by omega)).mp c82
                    exfalso; omega
                · have c74 : 1 = 0 := (nI_eq (a := 1) (b := 0) (by omega) (by omega)).mp c74
                  exfalso; omega
              · have c44 : ¬ to ≤ fr := fun h => c44 ((nI_leI (a := to) (b := fr) (by omega) (by omega)).mpr h)
                refine lv_aload_n hx hb d_MD_line_47 rfl (lv_at hl 1 rfl) ?_
                refine lv_iload_n hx hb d_MD_line_48 rfl (lv_at hl 2 rfl) ?_
                refine q_calliV [.int (nI fr)] M hI (c_MD_partOf l g ad ar fl fr np (h6) (hnN)) ok_MD_partOf m6_3 m6_5 ms_78 0 rfl rfl rfl rfl hl.1 ⟨rfl, rfl⟩ ⟨Nat.le_of_ble_eq_true rfl, Nat.le_of_ble_eq_true rfl⟩ (Nat.le_of_ble_eq_true rfl) ⟨Nat.le_of_ble_eq_true rfl, Nat.le_of_ble_eq_true rfl⟩ d_MD_line_49 (fun r49 u49 H locs hp49 hI => ?_)
                refine q_as (y := ptO (ar 14) fr np) hp49 ?_
                refine lv_aload_n hx hb d_MD_line_52 rfl (lv_at hl 1 rfl) ?_
                refine lv_iload_n hx hb d_MD_line_53 rfl (lv_at hl 3 rfl) ?_
                refine lv_iconst (v := 1) hx hb d_MD_line_54 (by decide) ?_
                refine lv_isub hx hb d_MD_line_55 ?_
                refine q_as (y := nI (to - 1)) (pk_sub (a := to) (b := 1) (by omega)) ?_
                refine q_calliV [.int (nI (to - 1))] M hI (c_MD_partOf l g ad ar fl (to - 1) np (h6) (hnN)) ok_MD_partOf m6_3 m6_5 ms_78 0 rfl rfl rfl rfl hl.1 ⟨rfl, rfl⟩ ⟨Nat.le_of_ble_eq_true rfl, Nat.le_of_ble_eq_true rfl⟩ (Nat.le_of_ble_eq_true rfl) ⟨Nat.le_of_ble_eq_true rfl, Nat.le_of_ble_eq_true rfl⟩ d_MD_line_56 (fun r56 u56 H locs hp56 hI => ?_)
                refine q_as (y := ptO (ar 14) (to - 1) np) hp56 ?_
                refine lv_icmp_ne (tgt := 66) hx hb d_MD_line_59 (by decide) (fun c59 => ?_) (fun c59 => ?_)
                · refine lv_iconst (v := 0) hx hb d_MD_line_66 (by decide) ?_
                  refine lv_istore (lv' := [(4, .int 0), (3, .int 1), (0, .ref (ad 0)), (1, .int (nI fr)), (2, .int (nI to))]) hx hb d_MD_line_67 hl (by decide) rfl (fun ls hl => ?_)
                  refine lv_aload_n hx hb d_MD_line_69 rfl (lv_at hl 2 rfl) ?_
                  refine lv_aload_n hx hb d_MD_line_70 rfl (lv_at hl 2 rfl) ?_
                  refine g_MD_92 M hI d_MD_line_71 ?_
                  refine q_as (y := 1) h5 ?_
                  refine lv_if_ne (tgt := 81) hx hb d_MD_line_74 (by decide) (fun c74 => ?_) (fun c74 => ?_)
                  · have c74 : ¬ 1 = 0 := fun h => c74 ((nI_eq (a := 1) (b := 0) (by omega) (by omega)).mpr h)
                    refine lv_iload_n hx hb d_MD_line_81 rfl (lv_at hl 1 rfl) ?_
                    refine lv_if_ne (tgt := 89) hx hb d_MD_line_82 (by decide) (fun c82 => ?_) (fun c82 => ?_)
                    · have c82 : ¬ 1 = 0 := fun h => c82 ((nI_eq (a := 1) (b := 0) (by omega) (by omega)).mpr h)
                      refine lv_iload hx hb d_MD_line_89 (lv_at hl 0 rfl) ?_
                      refine lv_if_ne (tgt := 98) hx hb d_MD_line_91 (by decide) (fun c91 => ?_) (fun c91 => ?_)
                      · have c91 : ¬ 0 = 0 := fun h => c91 ((nI_eq (a := 0) (b := 0) (by omega) (by omega)).mpr h)
                        exfalso; omega
                      · have c91 : 0 = 0 := (nI_eq (a := 0) (b := 0) (by omega) (by omega)).mp c91
                        refine lv_iconst (v := 3) hx hb d_MD_line_94 (by decide) ?_
                        refine lv_goto (tgt := 99) hx hb d_MD_line_95 (by decide) ?_
                        refine q_calliV [.int 3] M hI (c_MD_refused l g ad ar fl 3) ok_MD_refused m5_56 m5_58 ms_45 0 rfl rfl rfl rfl hl.1 ⟨rfl, rfl⟩ ⟨Nat.le_of_ble_eq_true rfl, Nat.le_of_ble_eq_true rfl⟩ (Nat.le_of_ble_eq_true rfl) ⟨Nat.le_of_ble_eq_true rfl, Nat.le_of_ble_eq_true rfl⟩ d_MD_line_99 (fun r99 u99 H locs hp99 hI => ?_)
                        have hI : CI g A s (mw g ad ar (va_up fl 0 3)) H locs := hI
                        refine q_as (y := bI (¬ 3 ≤ 0)) hp99 ?_
                        refine lv_if_eq (tgt := 107) hx hb d_MD_line_102 (by decide) (fun c102 => ?_) (fun c102 => ?_)
                        · have c102 := bI_eq0.mp c102
                          exact absurd (by decide) c102
                        · have c102 := bI_ne0.mp c102
                          refine lv_iconst (v := 0) hx hb d_MD_line_105 (by decide) ?_
                          exact hret 0 () _ _ _ _ _ _ d_MD_line_106 hI (trivial) (Nat.le_refl 0) (Nat.le_refl 0)
                    · have c82 : 1 = 0 := (nI_eq (a := 1) (b := 0) (by omega) (by omega)).mp c82
                      exfalso; omega
                  · have c74 : 1 = 0 := (nI_eq (a := 1) (b := 0) (by omega) (by omega)).mp c74
                    exfalso; omega
                · exact absurd c59 (hS.resolve_left c44)
abbrev rm_MD_line_c_MD_line_0 : Room := { frames := 2, cells := 0, slots := 0, locals := 49 }
set_option maxHeartbeats 4000000 in
set_option maxRecDepth 100000 in
theorem c_MD_line_0 (l : Launch) (g : Geo) (ad : Nat → Nat) (ar : Nat → Nat → Int32) (fl : Nat → Int32) (fr : Nat) (to : Nat) (cn np kp base : Nat) (h5 : fl 5 = 1) (h1 : fl 1 = nI cn) (hcN : cn ≤ 2000) (h6 : fl 6 = nI np) (hnN : np ≤ 2000) (hft : fr < to) (ht2 : to ≤ cn) (hp1 : ptO (ar 14) fr np = nI kp) (hp2 : ptO (ar 14) (to - 1) np = nI kp) (hkp : kp < np) (hbp : ar 14 (4 * kp + 2) = nI base) (hbs : base ≤ 1) (h12 : okV (ar 12)) : cMi l y_MD_line (.code y_MD_line b_MD_line 7 (some .int) :: gw) rm_MD_line_c_MD_line_0 g [.ref (ad 0), .int (nI fr), .int (nI to)] (mw g ad ar fl) (fun (r : Int32) (u : (Nat → Int32) × (Nat → Int32)) => r = nI (lineL (ar 12) fr (to - fr)).length ∧ oR u.1 (dn (lvM (ar 12) (ar 9) base to) (lineL (ar 12) fr (to - fr)).length 1 128 (fun j => (lineL (ar 12) fr (to - fr)).getD j 0)) (lineL (ar 12) fr (to - fr)).length ∧ oR u.2 (fun j => lvM (ar 12) (ar 9) base to (dn (lvM (ar 12) (ar 9) base to) (lineL (ar 12) fr (to - fr)).length 1 128 (fun j => (lineL (ar 12) fr (to - fr)).getD j 0) j)) (lineL (ar 12) fr (to - fr)).length) (fun (u : (Nat → Int32) × (Nat → Int32)) => mw g ad (va_up (va_up ar 21 u.1) 22 u.2) (va_up (va_up (va_up fl 0 0) 14 (nI (lineL (ar 12) fr (to - fr)).length)) 13 1)) 0 0 := by
  refine cMi_of (by decide) (Nat.le_of_ble_eq_true rfl) ?_
  intro p e s m below meth c A Q ls M hret hl hI
  have M : MC p s m ([.ref (ad 0), .int (nI fr), .int (nI to)] : List Value).toArray meth c R_MD b_MD_line 7 := M
  have hl : lv_has ls 7 [(0, .ref (ad 0)), (1, .int (nI fr)), (2, .int (nI to))] := hl
  generalize ([.ref (ad 0), .int (nI fr), .int (nI to)] : List Value).toArray = args at M hret ⊢
  have hx := M.1
  have hb := M.2.1
  have hLb : ∀ q, q < to → ¬ ar 12 q = -1 → lvM (ar 12) (ar 9) base to q ≤ 127 := fun q hq hn => by unfold lvM; split; omega; exact (okV_n h12 (by omega) hn).2
  refine lv_iload_n hx hb d_MD_line_0 rfl (lv_at hl 1 rfl) ?_
  refine lv_if_lt (tgt := 29) hx hb d_MD_line_1 (by decide) (fun c1 => ?_) (fun c1 => ?_)
  · have c1 : fr < 0 := (nI_ltI (a := fr) (b := 0) (by omega) (by omega)).mp c1
    exfalso; omega
  · have c1 : ¬ fr < 0 := fun h => c1 ((nI_ltI (a := fr) (b := 0) (by omega) (by omega)).mpr h)
    refine lv_iload_n hx hb d_MD_line_4 rfl (lv_at hl 1 rfl) ?_
    refine lv_aload_n hx hb d_MD_line_5 rfl (lv_at hl 0 rfl) ?_
    refine g_MD_119 M hI d_MD_line_6 ?_
    refine q_as (y := nI cn) h1 ?_
    refine lv_icmp_ge (tgt := 29) hx hb d_MD_line_9 (by decide) (fun c9 => ?_) (fun c9 => ?_)
    · have c9 : cn ≤ fr := (nI_leI (a := cn) (b := fr) (by omega) (by omega)).mp c9
      exfalso; omega
    · have c9 : ¬ cn ≤ fr := fun h => c9 ((nI_leI (a := cn) (b := fr) (by omega) (by omega)).mpr h)
      refine lv_iload_n hx hb d_MD_line_12 rfl (lv_at hl 2 rfl) ?_
      refine lv_iconst (v := 1) hx hb d_MD_line_13 (by decide) ?_
      refine lv_icmp_lt (tgt := 29) hx hb d_MD_line_14 (by decide) (fun c14 => ?_) (fun c14 => ?_)
      · have c14 : to < 1 := (nI_ltI (a := to) (b := 1) (by omega) (by omega)).mp c14
        exfalso; omega
      · have c14 : ¬ to < 1 := fun h => c14 ((nI_ltI (a := to) (b := 1) (by omega) (by omega)).mpr h)
        refine lv_iload_n hx hb d_MD_line_17 rfl (lv_at hl 2 rfl) ?_
        refine lv_aload_n hx hb d_MD_line_18 rfl (lv_at hl 0 rfl) ?_
        refine g_MD_119 M hI d_MD_line_19 ?_
        refine q_as (y := nI cn) h1 ?_
        refine lv_icmp_gt (tgt := 29) hx hb d_MD_line_22 (by decide) (fun c22 => ?_) (fun c22 => ?_)
        · have c22 : cn < to := (nI_ltI (a := cn) (b := to) (by omega) (by omega)).mp c22
          exfalso; omega
        · have c22 : ¬ cn < to := fun h => c22 ((nI_ltI (a := cn) (b := to) (by omega) (by omega)).mpr h)
          refine lv_iconst (v := 1) hx hb d_MD_line_25 (by decide) ?_
          refine lv_goto (tgt := 30) hx hb d_MD_line_26 (by decide) ?_
          refine lv_istore_n (lv' := [(3, .int 1), (0, .ref (ad 0)), (1, .int (nI fr)), (2, .int (nI to))]) hx hb d_MD_line_30 rfl hl (by decide) rfl (fun ls hl => ?_)
          refine lv_iload_n hx hb d_MD_line_31 rfl (lv_at hl 0 rfl) ?_
          refine lv_if_eq (tgt := 66) hx hb d_MD_line_32 (by decide) (fun c32 => ?_) (fun c32 => ?_)
          · have c32 : 1 = 0 := (nI_eq (a := 1) (b := 0) (by omega) (by omega)).mp c32
            exfalso; omega
          · have c32 : ¬ 1 = 0 := fun h => c32 ((nI_eq (a := 1) (b := 0) (by omega) (by omega)).mpr h)
            refine lv_aload_n hx hb d_MD_line_35 rfl (lv_at hl 1 rfl) ?_
            refine g_MD_92 M hI d_MD_line_36 ?_
            refine q_as (y := 1) h5 ?_
            refine lv_if_eq (tgt := 66) hx hb d_MD_line_39 (by decide) (fun c39 => ?_) (fun c39 => ?_)
            · have c39 : 1 = 0 := (nI_eq (a := 1) (b := 0) (by omega) (by omega)).mp c39
              exfalso; omega
            · have c39 : ¬ 1 = 0 := fun h => c39 ((nI_eq (a := 1) (b := 0) (by omega) (by omega)).mpr h)
              refine lv_iload_n hx hb d_MD_line_42 rfl (lv_at hl 2 rfl) ?_
              refine lv_iload_n hx hb d_MD_line_43 rfl (lv_at hl 3 rfl) ?_
              refine lv_icmp_ge (tgt := 66) hx hb d_MD_line_44 (by decide) (fun c44 => ?_) (fun c44 => ?_)
              · have c44 : to ≤ fr := (nI_leI (a := to) (b := fr) (by omega) (by omega)).mp c44
                exfalso; omega
              · have c44 : ¬ to ≤ fr := fun h => c44 ((nI_leI (a := to) (b := fr) (by omega) (by omega)).mpr h)
                refine lv_aload_n hx hb d_MD_line_47 rfl (lv_at hl 1 rfl) ?_
                refine lv_iload_n hx hb d_MD_line_48 rfl (lv_at hl 2 rfl) ?_
                refine q_calliV [.int (nI fr)] M hI (c_MD_partOf l g ad ar fl fr np (h6) (hnN)) ok_MD_partOf m6_3 m6_5 ms_78 0 rfl rfl rfl rfl hl.1 ⟨rfl, rfl⟩ ⟨Nat.le_of_ble_eq_true rfl, Nat.le_of_ble_eq_true rfl⟩ (Nat.le_of_ble_eq_true rfl) ⟨Nat.le_of_ble_eq_true rfl, Nat.le_of_ble_eq_true rfl⟩ d_MD_line_49 (fun r49 u49 H locs hp49 hI => ?_)
                refine q_as (y := ptO (ar 14) fr np) hp49 ?_
                refine lv_aload_n hx hb d_MD_line_52 rfl (lv_at hl 1 rfl) ?_
                refine lv_iload_n hx hb d_MD_line_53 rfl (lv_at hl 3 rfl) ?_
                refine lv_iconst (v := 1) hx hb d_MD_line_54 (by decide) ?_
                refine lv_isub hx hb d_MD_line_55 ?_
                refine q_as (y := nI (to - 1)) (pk_sub (a := to) (b := 1) (by omega)) ?_
                refine q_calliV [.int (nI (to - 1))] M hI (c_MD_partOf l g ad ar fl (to - 1) np (h6) (hnN)) ok_MD_partOf m6_3 m6_5 ms_78 0 rfl rfl rfl rfl hl.1 ⟨rfl, rfl⟩ ⟨Nat.le_of_ble_eq_true rfl, Nat.le_of_ble_eq_true rfl⟩ (Nat.le_of_ble_eq_true rfl) ⟨Nat.le_of_ble_eq_true rfl, Nat.le_of_ble_eq_true rfl⟩ d_MD_line_56 (fun r56 u56 H locs hp56 hI => ?_)
                refine q_as (y := ptO (ar 14) (to - 1) np) hp56 ?_
                refine lv_icmp_ne (tgt := 66) hx hb d_MD_line_59 (by decide) (fun c59 => ?_) (fun c59 => ?_)
                · exact absurd (hp1.trans hp2.symm) c59
                · refine lv_iconst (v := 1) hx hb d_MD_line_62 (by decide) ?_
                  refine lv_goto (tgt := 67) hx hb d_MD_line_63 (by decide) ?_
                  refine lv_istore (lv' := [(4, .int 1), (3, .int 1), (0, .ref (ad 0)), (1, .int (nI fr)), (2, .int (nI to))]) hx hb d_MD_line_67 hl (by decide) rfl (fun ls hl => ?_)
                  refine lv_aload_n hx hb d_MD_line_69 rfl (lv_at hl 2 rfl) ?_
                  refine lv_aload_n hx hb d_MD_line_70 rfl (lv_at hl 2 rfl) ?_
                  refine g_MD_92 M hI d_MD_line_71 ?_
                  refine q_as (y := 1) h5 ?_
                  refine lv_if_ne (tgt := 81) hx hb d_MD_line_74 (by decide) (fun c74 => ?_) (fun c74 => ?_)
                  · have c74 : ¬ 1 = 0 := fun h => c74 ((nI_eq (a := 1) (b := 0) (by omega) (by omega)).mpr h)
                    refine lv_iload_n hx hb d_MD_line_81 rfl (lv_at hl 1 rfl) ?_
                    refine lv_if_ne (tgt := 89) hx hb d_MD_line_82 (by decide) (fun c82 => ?_) (fun c82 => ?_)
                    · have c82 : ¬ 1 = 0 := fun h => c82 ((nI_eq (a := 1) (b := 0) (by omega) (by omega)).mpr h)
                      refine lv_iload hx hb d_MD_line_89 (lv_at hl 0 rfl) ?_
                      refine lv_if_ne (tgt := 98) hx hb d_MD_line_91 (by decide) (fun c91 => ?_) (fun c91 => ?_)
                      · have c91 : ¬ 1 = 0 := fun h => c91 ((nI_eq (a := 1) (b := 0) (by omega) (by omega)).mpr h)
                        refine lv_iconst (v := 0) hx hb d_MD_line_98 (by decide) ?_
                        refine q_calliV [.int 0] M hI (c_MD_refused l g ad ar fl 0) ok_MD_refused m5_56 m5_58 ms_45 0 rfl rfl rfl rfl hl.1 ⟨rfl, rfl⟩ ⟨Nat.le_of_ble_eq_true rfl, Nat.le_of_ble_eq_true rfl⟩ (Nat.le_of_ble_eq_true rfl) ⟨Nat.le_of_ble_eq_true rfl, Nat.le_of_ble_eq_true rfl⟩ d_MD_line_99 (fun r99 u99 H locs hp99 hI => ?_)
                        have hI : CI g A s (mw g ad ar (va_up fl 0 0)) H locs := hI
                        refine q_as (y := bI (¬ 0 ≤ 0)) hp99 ?_
                        refine lv_if_eq (tgt := 107) hx hb d_MD_line_102 (by decide) (fun c102 => ?_) (fun c102 => ?_)
                        · have c102 := bI_eq0.mp c102
                          refine lv_aload_n hx hb d_MD_line_107 rfl (lv_at hl 2 rfl) ?_
                          refine g_MD_49 M hI d_MD_line_108 ?_
                          refine lv_iconst (v := 4) hx hb d_MD_line_111 (by decide) ?_
                          refine lv_aload_n hx hb d_MD_line_112 rfl (lv_at hl 2 rfl) ?_
                          refine lv_iload_n hx hb d_MD_line_113 rfl (lv_at hl 3 rfl) ?_
                          refine q_calliV [.int (nI fr)] M hI (c_MD_partOf l g ad ar (va_up fl 0 0) fr np (h6) (hnN)) ok_MD_partOf m6_3 m6_5 ms_78 0 rfl rfl rfl rfl hl.1 ⟨rfl, rfl⟩ ⟨Nat.le_of_ble_eq_true rfl, Nat.le_of_ble_eq_true rfl⟩ (Nat.le_of_ble_eq_true rfl) ⟨Nat.le_of_ble_eq_true rfl, Nat.le_of_ble_eq_true rfl⟩ d_MD_line_114 (fun r114 u114 H locs hp114 hI => ?_)
                          refine q_as (y := ptO (ar 14) fr np) hp114 ?_
                          refine q_as (y := nI kp) (hp1) ?_
                          refine lv_imul hx hb d_MD_line_117 ?_
                          refine q_as (y := nI (4 * kp)) (pk_mul 4 kp) ?_
                          refine lv_iconst (v := 2) hx hb d_MD_line_118 (by decide) ?_
                          refine lv_iadd hx hb d_MD_line_119 ?_
                          refine q_as (y := nI (4 * kp + 2)) (nI_add (4 * kp) 2) ?_
                          refine bl_14 M hI (4 * kp + 2) rfl (by omega) d_MD_line_120 ?_
                          refine q_as (y := nI base) (hbp) ?_
                          refine lv_istore (lv' := [(5, .int (nI base)), (4, .int 1), (3, .int 1), (0, .ref (ad 0)), (1, .int (nI fr)), (2, .int (nI to))]) hx hb d_MD_line_121 hl (by decide) rfl (fun ls hl => ?_)
                          refine lv_aload_n hx hb d_MD_line_123 rfl (lv_at hl 3 rfl) ?_
                          refine lv_iconst (v := 0) hx hb d_MD_line_124 (by decide) ?_
                          refine p_MD_251 M hI d_MD_line_125 (fun H locs hI => ?_)
                          have hI : CI g A s (mw g ad ar (va_up (va_up fl 0 0) 14 0)) H locs := hI
                          refine lv_iload_n hx hb d_MD_line_128 rfl (lv_at hl 4 rfl) ?_
                          refine lv_istore (lv' := [(6, .int (nI fr)), (5, .int (nI base)), (4, .int 1), (3, .int 1), (0, .ref (ad 0)), (1, .int (nI fr)), (2, .int (nI to))]) hx hb d_MD_line_129 hl (by decide) rfl (fun ls hl => ?_)
                          have L131 : ∀ (fu : Nat) (d : Nat) (y1 : Nat → Int32) (y2 : Nat → Int32), (to - (fr + d)) < fu → (fr + d ≤ to) → (oR y1 (fun j => (lineL (ar 12) fr d).getD j 0) (lineL (ar 12) fr d).length) → (oR y2 (fun j => lvM (ar 12) (ar 9) base to ((lineL (ar 12) fr d).getD j 0)) (lineL (ar 12) fr d).length) → ∀ (H : Heap) (locs : List Loc) (ls : Array Slot), CI g A s (mw g ad (va_up (va_up ar 21 y1) 22 y2) (va_up (va_up fl 0 0) 14 (nI ((lineL (ar 12) fr d).length)))) H locs → lv_has ls 7 [(0, .ref (ad 0)), (1, .int (nI fr)), (2, .int (nI to)), (5, .int (nI base)), (6, .int (nI (fr + d)))] → W p l e rm_MD_line_c_MD_line_0 s m args below meth c H locs 0 0 Q (F0 m 131 ls []) := by
                            intro fu
                            induction fu with
                            | zero => intro d y1 y2 hm; exact absurd hm (Nat.not_lt_zero _)
                            | succ fu ih131 =>
                              intro d y1 y2 hm hd hy1 hy2 H locs ls hI hl
                              refine lv_iload hx hb d_MD_line_131 (lv_at hl 4 rfl) ?_
                              refine lv_iload_n hx hb d_MD_line_133 rfl (lv_at hl 2 rfl) ?_
                              refine lv_icmp_ge (tgt := 205) hx hb d_MD_line_134 (by decide) (fun c134 => ?_) (fun c134 => ?_)
                              · have c134 : to ≤ fr + d := (nI_leI (a := to) (b := fr + d) (by omega) (by omega)).mp c134
                                have e9 : d = to - fr := by omega
                                rw [e9] at hy1 hy2
                                have hL0 : ∀ j, j < (lineL (ar 12) fr (to - fr)).length → lvM (ar 12) (ar 9) base to ((lineL (ar 12) fr (to - fr)).getD j 0) ≤ 127 := fun j hj => by have := lineL_mem (lv := ar 12) (fr := fr) (to - fr) _ (getD_mem hj); exact hLb _ (by omega) this.2.2
                                have hmn := lineL_len (ar 12) fr (to - fr)
                                have hI := CI.to (w2 := mw g ad (va_up (va_up ar 21 y1) 22 y2) (va_up (va_up fl 0 0) 14 (nI ((lineL (ar 12) fr (to - fr)).length)))) hI (by rw [e9])
                                refine lv_bipush (v := 127) hx hb d_MD_line_205 (by decide) ?_
                                refine lv_istore (lv' := [(6, .int 127), (0, .ref (ad 0)), (1, .int (nI fr)), (2, .int (nI to)), (5, .int (nI base))]) hx hb d_MD_line_207 hl (by decide) rfl (fun ls hl => ?_)
                                have L209 : ∀ (fu : Nat) (z : Nat) (y1 : Nat → Int32) (y2 : Nat → Int32) (O2 : Nat → Nat), z < fu → (z ≤ 127) → (oR y1 O2 (lineL (ar 12) fr (to - fr)).length) → (oR y2 (fun j => lvM (ar 12) (ar 9) base to (O2 j)) (lineL (ar 12) fr (to - fr)).length) → (∀ j, j < (lineL (ar 12) fr (to - fr)).length → lvM (ar 12) (ar 9) base to (O2 j) ≤ 127) → (dn (lvM (ar 12) (ar 9) base to) (lineL (ar 12) fr (to - fr)).length 1 128 (fun j => (lineL (ar 12) fr (to - fr)).getD j 0) = dn (lvM (ar 12) (ar 9) base to) (lineL (ar 12) fr (to - fr)).length 1 (z + 1) O2) → ∀ (H : Heap) (locs : List Loc) (ls : Array Slot), CI g A s (mw g ad (va_up (va_up ar 21 y1) 22 y2) (va_up (va_up fl 0 0) 14 (nI ((lineL (ar 12) fr (to - fr)).length)))) H locs → lv_has ls 7 [(0, .ref (ad 0)), (6, .int (nI z))] → W p l e rm_MD_line_c_MD_line_0 s m args below meth c H locs 0 0 Q (F0 m 209 ls []) := by
                                  intro fu
                                  induction fu with
                                  | zero => intro z y1 y2 O2 hm; exact absurd hm (Nat.not_lt_zero _)
                                  | succ fu ih209 =>
                                    intro z y1 y2 O2 hm hz hy1 hy2 hL2 hqd H locs ls hI hl
                                    refine lv_iload hx hb d_MD_line_209 (lv_at hl 1 rfl) ?_
                                    refine lv_if_le (tgt := 226) hx hb d_MD_line_211 (by decide) (fun c211 => ?_) (fun c211 => ?_)
                                    · have c211 : z ≤ 0 := (nI_leI (a := z) (b := 0) (by omega) (by omega)).mp c211
                                      refine lv_aload_n hx hb d_MD_line_226 rfl (lv_at hl 0 rfl) ?_
                                      refine lv_iconst (v := 1) hx hb d_MD_line_227 (by decide) ?_
                                      refine p_MD_245 M hI rfl rfl d_MD_line_228 (fun H locs hI => ?_)
                                      have hI : CI g A s (mw g ad (va_up (va_up ar 21 y1) 22 y2) (va_up (va_up (va_up fl 0 0) 14 (nI ((lineL (ar 12) fr (to - fr)).length))) 13 1)) H locs := hI
                                      refine lv_aload_n hx hb d_MD_line_231 rfl (lv_at hl 0 rfl) ?_
                                      refine g_MD_251 M hI d_MD_line_232 ?_
                                      refine q_as (y := nI ((lineL (ar 12) fr (to - fr)).length)) rfl ?_
                                      exact hret (nI ((lineL (ar 12) fr (to - fr)).length)) (y1, y2) _ _ _ _ _ _ d_MD_line_235 hI (by have e9 : dn (lvM (ar 12) (ar 9) base to) (lineL (ar 12) fr (to - fr)).length 1 128 (fun j => (lineL (ar 12) fr (to - fr)).getD j 0) = O2 := (by rw [hqd, show z = 0 by omega]; rfl); rw [e9]; exact ⟨rfl, hy1, hy2⟩) (Nat.le_refl 0) (Nat.le_refl 0)
                                    · have c211 : ¬ z ≤ 0 := fun h => c211 ((nI_leI (a := z) (b := 0) (by omega) (by omega)).mpr h)
                                      refine lv_aload_n hx hb d_MD_line_214 rfl (lv_at hl 0 rfl) ?_
                                      refine lv_iload hx hb d_MD_line_215 (lv_at hl 1 rfl) ?_
                                      refine q_callvV [.int (nI z)] M hI (c_MD_turnAll l g ad (va_up (va_up ar 21 y1) 22 y2) (va_up (va_up fl 0 0) 14 (nI ((lineL (ar 12) fr (to - fr)).length))) z ((lineL (ar 12) fr (to - fr)).length) O2 (lvM (ar 12) (ar 9) base to) (rfl) (by omega) (by omega) (hy1) (hy2) (hL2)) ok_MD_turnAll m6_11 m6_13 ms_80 0 rfl rfl rfl rfl hl.1 ⟨rfl, rfl⟩ ⟨Nat.le_of_ble_eq_true rfl, Nat.le_of_ble_eq_true rfl⟩ (Nat.le_of_ble_eq_true rfl) ⟨Nat.le_of_ble_eq_true rfl, Nat.le_of_ble_eq_true rfl⟩ d_MD_line_217 (fun u217 H locs hp217 hI => ?_)
                                      obtain ⟨y1_217, y2_217⟩ := u217
                                      have hI : CI g A s (mw g ad (va_up (va_up ar 21 y1_217) 22 y2_217) (va_up (va_up fl 0 0) 14 (nI ((lineL (ar 12) fr (to - fr)).length)))) H locs := hI
                                      refine lv_iinc (v := nI (z - 1)) (lv' := [(6, .int (nI (z - 1))), (0, .ref (ad 0))]) hx hb d_MD_line_220 hl (k := 1) rfl (nI_decp (by omega)) (by decide) rfl (fun ls hl => ?_)
                                      refine lv_goto (tgt := 209) hx hb d_MD_line_223 (by decide) ?_
                                      exact ih209 (z - 1) y1_217 y2_217 (trow (lvM (ar 12) (ar 9) base to) (lineL (ar 12) fr (to - fr)).length z O2) (by omega) (by omega) (hp217.1) (hp217.2) (trow_lv (P := fun q => lvM (ar 12) (ar 9) base to q ≤ 127) hL2) (by rw [hqd, show z - 1 + 1 = z by omega]; show (if z < 1 then _ else _) = _; rw [if_neg (by omega)]) _ _ _ hI (lv_sub hl [1, 0] rfl)
                                exact L209 _ 127 y1 y2 (fun j => (lineL (ar 12) fr (to - fr)).getD j 0) (Nat.lt_succ_self _) (by omega) (hy1) (hy2) (hL0) (rfl) _ _ _ hI (lv_sub hl [1, 0] rfl)
                              · have c134 : ¬ to ≤ fr + d := fun h => c134 ((nI_leI (a := to) (b := fr + d) (by omega) (by omega)).mpr h)
                                have hll := lineL_len (ar 12) fr d
                                refine lv_aload_n hx hb d_MD_line_137 rfl (lv_at hl 0 rfl) ?_
                                refine g_MD_43 M hI d_MD_line_138 ?_
                                refine lv_iload hx hb d_MD_line_141 (lv_at hl 4 rfl) ?_
                                refine bl_12 M hI (fr + d) rfl (by omega) d_MD_line_143 ?_
                                refine q_as (y := ar 12 (fr + d)) rfl ?_
                                refine lv_if_lt (tgt := 199) hx hb d_MD_line_144 (by decide) (fun c144 => ?_) (fun c144 => ?_)
                                · have hm1 : ar 12 (fr + d) = -1 := (h12 (fr + d) (by omega)).resolve_right (fun ⟨v, v1, v2⟩ => by rw [v2] at c144; exact nI_pos (by omega) c144)
                                  have eV : lineL (ar 12) fr (d + 1) = lineL (ar 12) fr d := by simp only [lineL]; rw [if_pos hm1]
                                  have hz1 : oR y1 (fun j => (lineL (ar 12) fr (d + 1)).getD j 0) (lineL (ar 12) fr (d + 1)).length := by rw [eV]; exact hy1
                                  have hz2 : oR y2 (fun j => lvM (ar 12) (ar 9) base to ((lineL (ar 12) fr (d + 1)).getD j 0)) (lineL (ar 12) fr (d + 1)).length := by rw [eV]; exact hy2
                                  have hI := CI.to (w2 := mw g ad (va_up (va_up ar 21 y1) 22 y2) (va_up (va_up fl 0 0) 14 (nI ((lineL (ar 12) fr (d + 1)).length)))) hI (by rw [eV])
                                  refine lv_iinc (v := nI (fr + d + 1)) (lv' := [(6, .int (nI (fr + d + 1))), (0, .ref (ad 0)), (1, .int (nI fr)), (2, .int (nI to)), (5, .int (nI base))]) hx hb d_MD_line_199 hl (k := 4) rfl (nI_add _ 1) (by decide) rfl (fun ls hl => ?_)
                                  refine lv_goto (tgt := 131) hx hb d_MD_line_202 (by decide) ?_
                                  exact ih131 (d + 1) y1 y2 (by omega) (by omega) (hz1) (hz2) _ _ _ hI (lv_sub hl [1, 2, 3, 4, 0] rfl)
                                · have hne : ¬ ar 12 (fr + d) = -1 := fun z => by rw [z] at c144; exact c144 (by decide)
                                  have eV : lineL (ar 12) fr (d + 1) = lineL (ar 12) fr d ++ [fr + d] := by simp only [lineL]; rw [if_neg hne]
                                  have hz1 : oR (upd y1 (lineL (ar 12) fr d).length (nI (fr + d))) (fun j => (lineL (ar 12) fr (d + 1)).getD j 0) (lineL (ar 12) fr (d + 1)).length := by rw [eV]; exact oR_snoc hy1
                                  have hz2 : oR (upd y2 (lineL (ar 12) fr d).length (nI (lvM (ar 12) (ar 9) base to (fr + d)))) (fun j => lvM (ar 12) (ar 9) base to ((lineL (ar 12) fr (d + 1)).getD j 0)) (lineL (ar 12) fr (d + 1)).length := by rw [eV]; exact oR2_snoc hy2
                                  refine lv_aload_n hx hb d_MD_line_147 rfl (lv_at hl 0 rfl) ?_
                                  refine g_MD_71 M hI d_MD_line_148 ?_
                                  refine lv_aload_n hx hb d_MD_line_151 rfl (lv_at hl 0 rfl) ?_
                                  refine g_MD_251 M hI d_MD_line_152 ?_
                                  refine q_as (y := nI ((lineL (ar 12) fr d).length)) rfl ?_
                                  refine lv_iload hx hb d_MD_line_155 (lv_at hl 4 rfl) ?_
                                  refine bs_21 M hI ((lineL (ar 12) fr d).length) rfl (by omega) d_MD_line_157 (fun H locs hI => ?_)
                                  have hI : CI g A s (mw g ad (va_up (va_up ar 22 y2) 21 (upd y1 ((lineL (ar 12) fr d).length) (nI (fr + d)))) (va_up (va_up fl 0 0) 14 (nI ((lineL (ar 12) fr d).length)))) H locs := hI
                                  refine lv_aload_n hx hb d_MD_line_158 rfl (lv_at hl 0 rfl) ?_
                                  refine g_MD_74 M hI d_MD_line_159 ?_
                                  refine lv_aload_n hx hb d_MD_line_162 rfl (lv_at hl 0 rfl) ?_
                                  refine g_MD_251 M hI d_MD_line_163 ?_
                                  refine q_as (y := nI ((lineL (ar 12) fr d).length)) rfl ?_
                                  refine lv_aload_n hx hb d_MD_line_166 rfl (lv_at hl 0 rfl) ?_
                                  refine lv_iload hx hb d_MD_line_167 (lv_at hl 4 rfl) ?_
                                  refine lv_iload_n hx hb d_MD_line_169 rfl (lv_at hl 2 rfl) ?_
                                  refine q_calliV [.int (nI (fr + d)), .int (nI to)] M hI (c_MD_isBlankEnd l g ad (va_up (va_up ar 22 y2) 21 (upd y1 ((lineL (ar 12) fr d).length) (nI (fr + d)))) (va_up (va_up fl 0 0) 14 (nI ((lineL (ar 12) fr d).length))) (fr + d) to (by omega) (by omega)) ok_MD_isBlankEnd m6_7 m6_9 ms_79 0 rfl rfl rfl rfl hl.1 ⟨rfl, rfl⟩ ⟨Nat.le_of_ble_eq_true rfl, Nat.le_of_ble_eq_true rfl⟩ (Nat.le_of_ble_eq_true rfl) ⟨Nat.le_of_ble_eq_true rfl, Nat.le_of_ble_eq_true rfl⟩ d_MD_line_170 (fun r170 u170 H locs hp170 hI => ?_)
                                  refine q_as (y := bI (beM (ar 12) (ar 9) to (fr + d))) hp170 ?_
                                  refine lv_if_eq (tgt := 181) hx hb d_MD_line_173 (by decide) (fun c173 => ?_) (fun c173 => ?_)
                                  · have c173 := bI_eq0.mp c173
                                    refine lv_aload_n hx hb d_MD_line_181 rfl (lv_at hl 0 rfl) ?_
                                    refine g_MD_43 M hI d_MD_line_182 ?_
                                    refine lv_iload hx hb d_MD_line_185 (lv_at hl 4 rfl) ?_
                                    refine bl_12 M hI (fr + d) rfl (by omega) d_MD_line_187 ?_
                                    refine q_as (y := nI (lvM (ar 12) (ar 9) base to (fr + d))) (by unfold lvM; rw [if_neg c173]; exact (okV_n h12 (by omega) hne).1) ?_
                                    refine bs_22 M hI ((lineL (ar 12) fr d).length) rfl (by omega) d_MD_line_188 (fun H locs hI => ?_)
                                    have hI : CI g A s (mw g ad (va_up (va_up ar 21 (upd y1 ((lineL (ar 12) fr d).length) (nI (fr + d)))) 22 (upd y2 ((lineL (ar 12) fr d).length) (nI (lvM (ar 12) (ar 9) base to (fr + d))))) (va_up (va_up fl 0 0) 14 (nI ((lineL (ar 12) fr d).length)))) H locs := hI
                                    refine lv_aload_n hx hb d_MD_line_189 rfl (lv_at hl 0 rfl) ?_
                                    refine lv_dup hx hb d_MD_line_190 rfl ?_
                                    refine g_MD_251 M hI d_MD_line_191 ?_
                                    refine q_as (y := nI ((lineL (ar 12) fr d).length)) rfl ?_
                                    refine lv_iconst (v := 1) hx hb d_MD_line_194 (by decide) ?_
                                    refine lv_iadd hx hb d_MD_line_195 ?_
                                    refine q_as (y := nI ((lineL (ar 12) fr (d + 1)).length)) (by rw [eV, List.length_append]; exact nI_add _ 1) ?_
                                    refine p_MD_251 M hI d_MD_line_196 (fun H locs hI => ?_)
                                    have hI : CI g A s (mw g ad (va_up (va_up ar 21 (upd y1 ((lineL (ar 12) fr d).length) (nI (fr + d)))) 22 (upd y2 ((lineL (ar 12) fr d).length) (nI (lvM (ar 12) (ar 9) base to (fr + d))))) (va_up (va_up fl 0 0) 14 (nI ((lineL (ar 12) fr (d + 1)).length)))) H locs := hI
                                    refine lv_iinc (v := nI (fr + d + 1)) (lv' := [(6, .int (nI (fr + d + 1))), (0, .ref (ad 0)), (1, .int (nI fr)), (2, .int (nI to)), (5, .int (nI base))]) hx hb d_MD_line_199 hl (k := 4) rfl (nI_add _ 1) (by decide) rfl (fun ls hl => ?_)
                                    refine lv_goto (tgt := 131) hx hb d_MD_line_202 (by decide) ?_
                                    exact ih131 (d + 1) (upd y1 ((lineL (ar 12) fr d).length) (nI (fr + d))) (upd y2 ((lineL (ar 12) fr d).length) (nI (lvM (ar 12) (ar 9) base to (fr + d)))) (by omega) (by omega) (hz1) (hz2) _ _ _ hI (lv_sub hl [1, 2, 3, 4, 0] rfl)
                                  · have c173 := bI_ne0.mp c173
                                    refine lv_iload hx hb d_MD_line_176 (lv_at hl 3 rfl) ?_
                                    refine q_as (y := nI (lvM (ar 12) (ar 9) base to (fr + d))) (congrArg nI (by unfold lvM; rw [if_pos c173])) ?_
                                    refine lv_goto (tgt := 188) hx hb d_MD_line_178 (by decide) ?_
                                    refine bs_22 M hI ((lineL (ar 12) fr d).length) rfl (by omega) d_MD_line_188 (fun H locs hI => ?_)
                                    have hI : CI g A s (mw g ad (va_up (va_up ar 21 (upd y1 ((lineL (ar 12) fr d).length) (nI (fr + d)))) 22 (upd y2 ((lineL (ar 12) fr d).length) (nI (lvM (ar 12) (ar 9) base to (fr + d))))) (va_up (va_up fl 0 0) 14 (nI ((lineL (ar 12) fr d).length)))) H locs := hI
                                    refine lv_aload_n hx hb d_MD_line_189 rfl (lv_at hl 0 rfl) ?_
                                    refine lv_dup hx hb d_MD_line_190 rfl ?_
                                    refine g_MD_251 M hI d_MD_line_191 ?_
                                    refine q_as (y := nI ((lineL (ar 12) fr d).length)) rfl ?_
                                    refine lv_iconst (v := 1) hx hb d_MD_line_194 (by decide) ?_
                                    refine lv_iadd hx hb d_MD_line_195 ?_
                                    refine q_as (y := nI ((lineL (ar 12) fr (d + 1)).length)) (by rw [eV, List.length_append]; exact nI_add _ 1) ?_
                                    refine p_MD_251 M hI d_MD_line_196 (fun H locs hI => ?_)
                                    have hI : CI g A s (mw g ad (va_up (va_up ar 21 (upd y1 ((lineL (ar 12) fr d).length) (nI (fr + d)))) 22 (upd y2 ((lineL (ar 12) fr d).length) (nI (lvM (ar 12) (ar 9) base to (fr + d))))) (va_up (va_up fl 0 0) 14 (nI ((lineL (ar 12) fr (d + 1)).length)))) H locs := hI
                                    refine lv_iinc (v := nI (fr + d + 1)) (lv' := [(6, .int (nI (fr + d + 1))), (0, .ref (ad 0)), (1, .int (nI fr)), (2, .int (nI to)), (5, .int (nI base))]) hx hb d_MD_line_199 hl (k := 4) rfl (nI_add _ 1) (by decide) rfl (fun ls hl => ?_)
                                    refine lv_goto (tgt := 131) hx hb d_MD_line_202 (by decide) ?_
                                    exact ih131 (d + 1) (upd y1 ((lineL (ar 12) fr d).length) (nI (fr + d))) (upd y2 ((lineL (ar 12) fr d).length) (nI (lvM (ar 12) (ar 9) base to (fr + d)))) (by omega) (by omega) (hz1) (hz2) _ _ _ hI (lv_sub hl [1, 2, 3, 4, 0] rfl)
                          have hI := CI.to (w2 := mw g ad (va_up (va_up ar 21 (ar 21)) 22 (ar 22)) (va_up (va_up fl 0 0) 14 (nI ((lineL (ar 12) fr 0).length)))) hI (by rfl)
                          exact L131 _ 0 (ar 21) (ar 22) (Nat.lt_succ_self _) (by omega) (fun j h => absurd h (Nat.not_lt_zero j)) (fun j h => absurd h (Nat.not_lt_zero j)) _ _ _ hI (lv_sub hl [4, 5, 6, 1, 0] rfl)
                        · have c102 := bI_ne0.mp c102
                          exact absurd (by decide) c102
                      · have c91 : 1 = 0 := (nI_eq (a := 1) (b := 0) (by omega) (by omega)).mp c91
                        exfalso; omega
                    · have c82 : 1 = 0 := (nI_eq (a := 1) (b := 0) (by omega) (by omega)).mp c82
                      exfalso; omega
                  · have c74 : 1 = 0 := (nI_eq (a := 1) (b := 0) (by omega) (by omega)).mp c74
                    exfalso; omega
abbrev rm_MD_seen_c_MD_seen_1 : Room := { frames := 1, cells := 0, slots := 0, locals := 21 }
set_option maxHeartbeats 4000000 in
set_option maxRecDepth 100000 in
theorem c_MD_seen_1 (l : Launch) (g : Geo) (ad : Nat → Nat) (ar : Nat → Nat → Int32) (fl : Nat → Int32) (x : Int32) (y : Int32) (r5 r13 : Int32) (mm : Nat) (h5 : fl 5 = r5) (h13 : fl 13 = r13) (hS : r5 = 0 ∨ r13 = 0) (hmm : fl 14 = nI mm) (hM : mm ≤ 2000) : cMi l y_MD_seen (.code y_MD_seen b_MD_seen 6 (some .int) :: gw) rm_MD_seen_c_MD_seen_1 g [.ref (ad 0), .int x, .int y] (mw g ad ar fl) (fun (r : Int32) (_ : Unit) => True) (fun (_ : Unit) => mw g ad ar (va_up fl 0 1)) 0 0 := by
  refine cMi_of (by decide) (Nat.le_of_ble_eq_true rfl) ?_
  intro p e s m below meth c A Q ls M hret hl hI
  have M : MC p s m ([.ref (ad 0), .int x, .int y] : List Value).toArray meth c R_MD b_MD_seen 6 := M
  have hl : lv_has ls 6 [(0, .ref (ad 0)), (1, .int x), (2, .int y)] := hl
  generalize ([.ref (ad 0), .int x, .int y] : List Value).toArray = args at M hret ⊢
  have hx := M.1
  have hb := M.2.1
  refine lv_iload_n hx hb d_MD_seen_0 rfl (lv_at hl 1 rfl) ?_
  refine lv_if_lt (tgt := 25) hx hb d_MD_seen_1 (by decide) (fun c1 => ?_) (fun c1 => ?_)
  · refine lv_iconst (v := 0) hx hb d_MD_seen_25 (by decide) ?_
    refine lv_istore_n (lv' := [(3, .int 0), (0, .ref (ad 0)), (1, .int x), (2, .int y)]) hx hb d_MD_seen_26 rfl hl (by decide) rfl (fun ls hl => ?_)
    refine lv_aload_n hx hb d_MD_seen_27 rfl (lv_at hl 1 rfl) ?_
    refine lv_aload_n hx hb d_MD_seen_28 rfl (lv_at hl 1 rfl) ?_
    refine g_MD_92 M hI d_MD_seen_29 ?_
    refine q_as (y := r5) h5 ?_
    refine lv_if_eq (tgt := 42) hx hb d_MD_seen_32 (by decide) (fun c32 => ?_) (fun c32 => ?_)
    · refine lv_iconst (v := 1) hx hb d_MD_seen_42 (by decide) ?_
      refine lv_goto (tgt := 55) hx hb d_MD_seen_43 (by decide) ?_
      refine q_calliV [.int 1] M hI (c_MD_refused l g ad ar fl 1) ok_MD_refused m5_56 m5_58 ms_45 0 rfl rfl rfl rfl hl.1 ⟨rfl, rfl⟩ ⟨Nat.le_of_ble_eq_true rfl, Nat.le_of_ble_eq_true rfl⟩ (Nat.le_of_ble_eq_true rfl) ⟨Nat.le_of_ble_eq_true rfl, Nat.le_of_ble_eq_true rfl⟩ d_MD_seen_55 (fun r55 u55 H locs hp55 hI => ?_)
      have hI : CI g A s (mw g ad ar (va_up fl 0 1)) H locs := hI
      refine q_as (y := bI (¬ 1 ≤ 0)) hp55 ?_
      refine lv_if_eq (tgt := 63) hx hb d_MD_seen_58 (by decide) (fun c58 => ?_) (fun c58 => ?_)
      · have c58 := bI_eq0.mp c58
        exact absurd (by decide) c58
      · have c58 := bI_ne0.mp c58
        refine lv_iconst (v := 0) hx hb d_MD_seen_61 (by decide) ?_
        exact hret 0 () _ _ _ _ _ _ d_MD_seen_62 hI (trivial) (Nat.le_refl 0) (Nat.le_refl 0)
    · refine lv_aload_n hx hb d_MD_seen_35 rfl (lv_at hl 1 rfl) ?_
      refine g_MD_245 M hI d_MD_seen_36 ?_
      refine q_as (y := r13) h13 ?_
      refine lv_if_ne (tgt := 46) hx hb d_MD_seen_39 (by decide) (fun c39 => ?_) (fun c39 => ?_)
      · exact absurd (hS.resolve_left c32) c39
      · refine lv_iconst (v := 1) hx hb d_MD_seen_42 (by decide) ?_
        refine lv_goto (tgt := 55) hx hb d_MD_seen_43 (by decide) ?_
        refine q_calliV [.int 1] M hI (c_MD_refused l g ad ar fl 1) ok_MD_refused m5_56 m5_58 ms_45 0 rfl rfl rfl rfl hl.1 ⟨rfl, rfl⟩ ⟨Nat.le_of_ble_eq_true rfl, Nat.le_of_ble_eq_true rfl⟩ (Nat.le_of_ble_eq_true rfl) ⟨Nat.le_of_ble_eq_true rfl, Nat.le_of_ble_eq_true rfl⟩ d_MD_seen_55 (fun r55 u55 H locs hp55 hI => ?_)
        have hI : CI g A s (mw g ad ar (va_up fl 0 1)) H locs := hI
        refine q_as (y := bI (¬ 1 ≤ 0)) hp55 ?_
        refine lv_if_eq (tgt := 63) hx hb d_MD_seen_58 (by decide) (fun c58 => ?_) (fun c58 => ?_)
        · have c58 := bI_eq0.mp c58
          exact absurd (by decide) c58
        · have c58 := bI_ne0.mp c58
          refine lv_iconst (v := 0) hx hb d_MD_seen_61 (by decide) ?_
          exact hret 0 () _ _ _ _ _ _ d_MD_seen_62 hI (trivial) (Nat.le_refl 0) (Nat.le_refl 0)
  · refine lv_iload_n hx hb d_MD_seen_4 rfl (lv_at hl 1 rfl) ?_
    refine lv_aload_n hx hb d_MD_seen_5 rfl (lv_at hl 0 rfl) ?_
    refine g_MD_251 M hI d_MD_seen_6 ?_
    refine q_as (y := nI mm) hmm ?_
    refine lv_icmp_ge (tgt := 25) hx hb d_MD_seen_9 (by decide) (fun c9 => ?_) (fun c9 => ?_)
    · refine lv_iconst (v := 0) hx hb d_MD_seen_25 (by decide) ?_
      refine lv_istore_n (lv' := [(3, .int 0), (0, .ref (ad 0)), (1, .int x), (2, .int y)]) hx hb d_MD_seen_26 rfl hl (by decide) rfl (fun ls hl => ?_)
      refine lv_aload_n hx hb d_MD_seen_27 rfl (lv_at hl 1 rfl) ?_
      refine lv_aload_n hx hb d_MD_seen_28 rfl (lv_at hl 1 rfl) ?_
      refine g_MD_92 M hI d_MD_seen_29 ?_
      refine q_as (y := r5) h5 ?_
      refine lv_if_eq (tgt := 42) hx hb d_MD_seen_32 (by decide) (fun c32 => ?_) (fun c32 => ?_)
      · refine lv_iconst (v := 1) hx hb d_MD_seen_42 (by decide) ?_
        refine lv_goto (tgt := 55) hx hb d_MD_seen_43 (by decide) ?_
        refine q_calliV [.int 1] M hI (c_MD_refused l g ad ar fl 1) ok_MD_refused m5_56 m5_58 ms_45 0 rfl rfl rfl rfl hl.1 ⟨rfl, rfl⟩ ⟨Nat.le_of_ble_eq_true rfl, Nat.le_of_ble_eq_true rfl⟩ (Nat.le_of_ble_eq_true rfl) ⟨Nat.le_of_ble_eq_true rfl, Nat.le_of_ble_eq_true rfl⟩ d_MD_seen_55 (fun r55 u55 H locs hp55 hI => ?_)
        have hI : CI g A s (mw g ad ar (va_up fl 0 1)) H locs := hI
        refine q_as (y := bI (¬ 1 ≤ 0)) hp55 ?_
        refine lv_if_eq (tgt := 63) hx hb d_MD_seen_58 (by decide) (fun c58 => ?_) (fun c58 => ?_)
        · have c58 := bI_eq0.mp c58
          exact absurd (by decide) c58
        · have c58 := bI_ne0.mp c58
          refine lv_iconst (v := 0) hx hb d_MD_seen_61 (by decide) ?_
          exact hret 0 () _ _ _ _ _ _ d_MD_seen_62 hI (trivial) (Nat.le_refl 0) (Nat.le_refl 0)
      · refine lv_aload_n hx hb d_MD_seen_35 rfl (lv_at hl 1 rfl) ?_
        refine g_MD_245 M hI d_MD_seen_36 ?_
        refine q_as (y := r13) h13 ?_
        refine lv_if_ne (tgt := 46) hx hb d_MD_seen_39 (by decide) (fun c39 => ?_) (fun c39 => ?_)
        · exact absurd (hS.resolve_left c32) c39
        · refine lv_iconst (v := 1) hx hb d_MD_seen_42 (by decide) ?_
          refine lv_goto (tgt := 55) hx hb d_MD_seen_43 (by decide) ?_
          refine q_calliV [.int 1] M hI (c_MD_refused l g ad ar fl 1) ok_MD_refused m5_56 m5_58 ms_45 0 rfl rfl rfl rfl hl.1 ⟨rfl, rfl⟩ ⟨Nat.le_of_ble_eq_true rfl, Nat.le_of_ble_eq_true rfl⟩ (Nat.le_of_ble_eq_true rfl) ⟨Nat.le_of_ble_eq_true rfl, Nat.le_of_ble_eq_true rfl⟩ d_MD_seen_55 (fun r55 u55 H locs hp55 hI => ?_)
          have hI : CI g A s (mw g ad ar (va_up fl 0 1)) H locs := hI
          refine q_as (y := bI (¬ 1 ≤ 0)) hp55 ?_
          refine lv_if_eq (tgt := 63) hx hb d_MD_seen_58 (by decide) (fun c58 => ?_) (fun c58 => ?_)
          · have c58 := bI_eq0.mp c58
            exact absurd (by decide) c58
          · have c58 := bI_ne0.mp c58
            refine lv_iconst (v := 0) hx hb d_MD_seen_61 (by decide) ?_
            exact hret 0 () _ _ _ _ _ _ d_MD_seen_62 hI (trivial) (Nat.le_refl 0) (Nat.le_refl 0)
    · refine lv_iload_n hx hb d_MD_seen_12 rfl (lv_at hl 2 rfl) ?_
      refine lv_if_lt (tgt := 25) hx hb d_MD_seen_13 (by decide) (fun c13 => ?_) (fun c13 => ?_)
      · refine lv_iconst (v := 0) hx hb d_MD_seen_25 (by decide) ?_
        refine lv_istore_n (lv' := [(3, .int 0), (0, .ref (ad 0)), (1, .int x), (2, .int y)]) hx hb d_MD_seen_26 rfl hl (by decide) rfl (fun ls hl => ?_)
        refine lv_aload_n hx hb d_MD_seen_27 rfl (lv_at hl 1 rfl) ?_
        refine lv_aload_n hx hb d_MD_seen_28 rfl (lv_at hl 1 rfl) ?_
        refine g_MD_92 M hI d_MD_seen_29 ?_
        refine q_as (y := r5) h5 ?_
        refine lv_if_eq (tgt := 42) hx hb d_MD_seen_32 (by decide) (fun c32 => ?_) (fun c32 => ?_)
        · refine lv_iconst (v := 1) hx hb d_MD_seen_42 (by decide) ?_
          refine lv_goto (tgt := 55) hx hb d_MD_seen_43 (by decide) ?_
          refine q_calliV [.int 1] M hI (c_MD_refused l g ad ar fl 1) ok_MD_refused m5_56 m5_58 ms_45 0 rfl rfl rfl rfl hl.1 ⟨rfl, rfl⟩ ⟨Nat.le_of_ble_eq_true rfl, Nat.le_of_ble_eq_true rfl⟩ (Nat.le_of_ble_eq_true rfl) ⟨Nat.le_of_ble_eq_true rfl, Nat.le_of_ble_eq_true rfl⟩ d_MD_seen_55 (fun r55 u55 H locs hp55 hI => ?_)
          have hI : CI g A s (mw g ad ar (va_up fl 0 1)) H locs := hI
          refine q_as (y := bI (¬ 1 ≤ 0)) hp55 ?_
          refine lv_if_eq (tgt := 63) hx hb d_MD_seen_58 (by decide) (fun c58 => ?_) (fun c58 => ?_)
          · have c58 := bI_eq0.mp c58
            exact absurd (by decide) c58
          · have c58 := bI_ne0.mp c58
            refine lv_iconst (v := 0) hx hb d_MD_seen_61 (by decide) ?_
            exact hret 0 () _ _ _ _ _ _ d_MD_seen_62 hI (trivial) (Nat.le_refl 0) (Nat.le_refl 0)
        · refine lv_aload_n hx hb d_MD_seen_35 rfl (lv_at hl 1 rfl) ?_
          refine g_MD_245 M hI d_MD_seen_36 ?_
          refine q_as (y := r13) h13 ?_
          refine lv_if_ne (tgt := 46) hx hb d_MD_seen_39 (by decide) (fun c39 => ?_) (fun c39 => ?_)
          · exact absurd (hS.resolve_left c32) c39
          · refine lv_iconst (v := 1) hx hb d_MD_seen_42 (by decide) ?_
            refine lv_goto (tgt := 55) hx hb d_MD_seen_43 (by decide) ?_
            refine q_calliV [.int 1] M hI (c_MD_refused l g ad ar fl 1) ok_MD_refused m5_56 m5_58 ms_45 0 rfl rfl rfl rfl hl.1 ⟨rfl, rfl⟩ ⟨Nat.le_of_ble_eq_true rfl, Nat.le_of_ble_eq_true rfl⟩ (Nat.le_of_ble_eq_true rfl) ⟨Nat.le_of_ble_eq_true rfl, Nat.le_of_ble_eq_true rfl⟩ d_MD_seen_55 (fun r55 u55 H locs hp55 hI => ?_)
            have hI : CI g A s (mw g ad ar (va_up fl 0 1)) H locs := hI
            refine q_as (y := bI (¬ 1 ≤ 0)) hp55 ?_
            refine lv_if_eq (tgt := 63) hx hb d_MD_seen_58 (by decide) (fun c58 => ?_) (fun c58 => ?_)
            · have c58 := bI_eq0.mp c58
              exact absurd (by decide) c58
            · have c58 := bI_ne0.mp c58
              refine lv_iconst (v := 0) hx hb d_MD_seen_61 (by decide) ?_
              exact hret 0 () _ _ _ _ _ _ d_MD_seen_62 hI (trivial) (Nat.le_refl 0) (Nat.le_refl 0)
      · refine lv_iload_n hx hb d_MD_seen_16 rfl (lv_at hl 2 rfl) ?_
        refine lv_iconst (v := 3) hx hb d_MD_seen_17 (by decide) ?_
        refine lv_icmp_ge (tgt := 25) hx hb d_MD_seen_18 (by decide) (fun c18 => ?_) (fun c18 => ?_)
        · refine lv_iconst (v := 0) hx hb d_MD_seen_25 (by decide) ?_
          refine lv_istore_n (lv' := [(3, .int 0), (0, .ref (ad 0)), (1, .int x), (2, .int y)]) hx hb d_MD_seen_26 rfl hl (by decide) rfl (fun ls hl => ?_)
          refine lv_aload_n hx hb d_MD_seen_27 rfl (lv_at hl 1 rfl) ?_
          refine lv_aload_n hx hb d_MD_seen_28 rfl (lv_at hl 1 rfl) ?_
          refine g_MD_92 M hI d_MD_seen_29 ?_
          refine q_as (y := r5) h5 ?_
          refine lv_if_eq (tgt := 42) hx hb d_MD_seen_32 (by decide) (fun c32 => ?_) (fun c32 => ?_)
          · refine lv_iconst (v := 1) hx hb d_MD_seen_42 (by decide) ?_
            refine lv_goto (tgt := 55) hx hb d_MD_seen_43 (by decide) ?_
            refine q_calliV [.int 1] M hI (c_MD_refused l g ad ar fl 1) ok_MD_refused m5_56 m5_58 ms_45 0 rfl rfl rfl rfl hl.1 ⟨rfl, rfl⟩ ⟨Nat.le_of_ble_eq_true rfl, Nat.le_of_ble_eq_true rfl⟩ (Nat.le_of_ble_eq_true rfl) ⟨Nat.le_of_ble_eq_true rfl, Nat.le_of_ble_eq_true rfl⟩ d_MD_seen_55 (fun r55 u55 H locs hp55 hI => ?_)
            have hI : CI g A s (mw g ad ar (va_up fl 0 1)) H locs := hI
            refine q_as (y := bI (¬ 1 ≤ 0)) hp55 ?_
            refine lv_if_eq (tgt := 63) hx hb d_MD_seen_58 (by decide) (fun c58 => ?_) (fun c58 => ?_)
            · have c58 := bI_eq0.mp c58
              exact absurd (by decide) c58
            · have c58 := bI_ne0.mp c58
              refine lv_iconst (v := 0) hx hb d_MD_seen_61 (by decide) ?_
              exact hret 0 () _ _ _ _ _ _ d_MD_seen_62 hI (trivial) (Nat.le_refl 0) (Nat.le_refl 0)
          · refine lv_aload_n hx hb d_MD_seen_35 rfl (lv_at hl 1 rfl) ?_
            refine g_MD_245 M hI d_MD_seen_36 ?_
            refine q_as (y := r13) h13 ?_
            refine lv_if_ne (tgt := 46) hx hb d_MD_seen_39 (by decide) (fun c39 => ?_) (fun c39 => ?_)
            · exact absurd (hS.resolve_left c32) c39
            · refine lv_iconst (v := 1) hx hb d_MD_seen_42 (by decide) ?_
              refine lv_goto (tgt := 55) hx hb d_MD_seen_43 (by decide) ?_
              refine q_calliV [.int 1] M hI (c_MD_refused l g ad ar fl 1) ok_MD_refused m5_56 m5_58 ms_45 0 rfl rfl rfl rfl hl.1 ⟨rfl, rfl⟩ ⟨Nat.le_of_ble_eq_true rfl, Nat.le_of_ble_eq_true rfl⟩ (Nat.le_of_ble_eq_true rfl) ⟨Nat.le_of_ble_eq_true rfl, Nat.le_of_ble_eq_true rfl⟩ d_MD_seen_55 (fun r55 u55 H locs hp55 hI => ?_)
              have hI : CI g A s (mw g ad ar (va_up fl 0 1)) H locs := hI
              refine q_as (y := bI (¬ 1 ≤ 0)) hp55 ?_
              refine lv_if_eq (tgt := 63) hx hb d_MD_seen_58 (by decide) (fun c58 => ?_) (fun c58 => ?_)
              · have c58 := bI_eq0.mp c58
                exact absurd (by decide) c58
              · have c58 := bI_ne0.mp c58
                refine lv_iconst (v := 0) hx hb d_MD_seen_61 (by decide) ?_
                exact hret 0 () _ _ _ _ _ _ d_MD_seen_62 hI (trivial) (Nat.le_refl 0) (Nat.le_refl 0)
        · refine lv_iconst (v := 1) hx hb d_MD_seen_21 (by decide) ?_
          refine lv_goto (tgt := 26) hx hb d_MD_seen_22 (by decide) ?_
          refine lv_istore_n (lv' := [(3, .int 1), (0, .ref (ad 0)), (1, .int x), (2, .int y)]) hx hb d_MD_seen_26 rfl hl (by decide) rfl (fun ls hl => ?_)
          refine lv_aload_n hx hb d_MD_seen_27 rfl (lv_at hl 1 rfl) ?_
          refine lv_aload_n hx hb d_MD_seen_28 rfl (lv_at hl 1 rfl) ?_
          refine g_MD_92 M hI d_MD_seen_29 ?_
          refine q_as (y := r5) h5 ?_
          refine lv_if_eq (tgt := 42) hx hb d_MD_seen_32 (by decide) (fun c32 => ?_) (fun c32 => ?_)
          · refine lv_iconst (v := 1) hx hb d_MD_seen_42 (by decide) ?_
            refine lv_goto (tgt := 55) hx hb d_MD_seen_43 (by decide) ?_
            refine q_calliV [.int 1] M hI (c_MD_refused l g ad ar fl 1) ok_MD_refused m5_56 m5_58 ms_45 0 rfl rfl rfl rfl hl.1 ⟨rfl, rfl⟩ ⟨Nat.le_of_ble_eq_true rfl, Nat.le_of_ble_eq_true rfl⟩ (Nat.le_of_ble_eq_true rfl) ⟨Nat.le_of_ble_eq_true rfl, Nat.le_of_ble_eq_true rfl⟩ d_MD_seen_55 (fun r55 u55 H locs hp55 hI => ?_)
            have hI : CI g A s (mw g ad ar (va_up fl 0 1)) H locs := hI
            refine q_as (y := bI (¬ 1 ≤ 0)) hp55 ?_
            refine lv_if_eq (tgt := 63) hx hb d_MD_seen_58 (by decide) (fun c58 => ?_) (fun c58 => ?_)
            · have c58 := bI_eq0.mp c58
              exact absurd (by decide) c58
            · have c58 := bI_ne0.mp c58
              refine lv_iconst (v := 0) hx hb d_MD_seen_61 (by decide) ?_
              exact hret 0 () _ _ _ _ _ _ d_MD_seen_62 hI (trivial) (Nat.le_refl 0) (Nat.le_refl 0)
          · refine lv_aload_n hx hb d_MD_seen_35 rfl (lv_at hl 1 rfl) ?_
            refine g_MD_245 M hI d_MD_seen_36 ?_
            refine q_as (y := r13) h13 ?_
            refine lv_if_ne (tgt := 46) hx hb d_MD_seen_39 (by decide) (fun c39 => ?_) (fun c39 => ?_)
            · exact absurd (hS.resolve_left c32) c39
            · refine lv_iconst (v := 1) hx hb d_MD_seen_42 (by decide) ?_
              refine lv_goto (tgt := 55) hx hb d_MD_seen_43 (by decide) ?_
              refine q_calliV [.int 1] M hI (c_MD_refused l g ad ar fl 1) ok_MD_refused m5_56 m5_58 ms_45 0 rfl rfl rfl rfl hl.1 ⟨rfl, rfl⟩ ⟨Nat.le_of_ble_eq_true rfl, Nat.le_of_ble_eq_true rfl⟩ (Nat.le_of_ble_eq_true rfl) ⟨Nat.le_of_ble_eq_true rfl, Nat.le_of_ble_eq_true rfl⟩ d_MD_seen_55 (fun r55 u55 H locs hp55 hI => ?_)
              have hI : CI g A s (mw g ad ar (va_up fl 0 1)) H locs := hI
              refine q_as (y := bI (¬ 1 ≤ 0)) hp55 ?_
              refine lv_if_eq (tgt := 63) hx hb d_MD_seen_58 (by decide) (fun c58 => ?_) (fun c58 => ?_)
              · have c58 := bI_eq0.mp c58
                exact absurd (by decide) c58
              · have c58 := bI_ne0.mp c58
                refine lv_iconst (v := 0) hx hb d_MD_seen_61 (by decide) ?_
                exact hret 0 () _ _ _ _ _ _ d_MD_seen_62 hI (trivial) (Nat.le_refl 0) (Nat.le_refl 0)
abbrev rm_MD_seen_c_MD_seen_2 : Room := { frames := 1, cells := 0, slots := 0, locals := 21 }
set_option maxHeartbeats 4000000 in
set_option maxRecDepth 100000 in
theorem c_MD_seen_2 (l : Launch) (g : Geo) (ad : Nat → Nat) (ar : Nat → Nat → Int32) (fl : Nat → Int32) (x : Int32) (y : Int32) (mm : Nat) (h5 : fl 5 = 1) (h13 : fl 13 = 1) (hS : x < 0 ∨ nI mm ≤ x ∨ y < 0 ∨ 3 ≤ y) (hmm : fl 14 = nI mm) (hM : mm ≤ 2000) : cMi l y_MD_seen (.code y_MD_seen b_MD_seen 6 (some .int) :: gw) rm_MD_seen_c_MD_seen_2 g [.ref (ad 0), .int x, .int y] (mw g ad ar fl) (fun (r : Int32) (_ : Unit) => True) (fun (_ : Unit) => mw g ad ar (va_up fl 0 2)) 0 0 := by
  refine cMi_of (by decide) (Nat.le_of_ble_eq_true rfl) ?_
  intro p e s m below meth c A Q ls M hret hl hI
  have M : MC p s m ([.ref (ad 0), .int x, .int y] : List Value).toArray meth c R_MD b_MD_seen 6 := M
  have hl : lv_has ls 6 [(0, .ref (ad 0)), (1, .int x), (2, .int y)] := hl
  generalize ([.ref (ad 0), .int x, .int y] : List Value).toArray = args at M hret ⊢
  have hx := M.1
  have hb := M.2.1
  refine lv_iload_n hx hb d_MD_seen_0 rfl (lv_at hl 1 rfl) ?_
  refine lv_if_lt (tgt := 25) hx hb d_MD_seen_1 (by decide) (fun c1 => ?_) (fun c1 => ?_)
  · refine lv_iconst (v := 0) hx hb d_MD_seen_25 (by decide) ?_
    refine lv_istore_n (lv' := [(3, .int 0), (0, .ref (ad 0)), (1, .int x), (2, .int y)]) hx hb d_MD_seen_26 rfl hl (by decide) rfl (fun ls hl => ?_)
    refine lv_aload_n hx hb d_MD_seen_27 rfl (lv_at hl 1 rfl) ?_
    refine lv_aload_n hx hb d_MD_seen_28 rfl (lv_at hl 1 rfl) ?_
    refine g_MD_92 M hI d_MD_seen_29 ?_
    refine q_as (y := 1) h5 ?_
    refine lv_if_eq (tgt := 42) hx hb d_MD_seen_32 (by decide) (fun c32 => ?_) (fun c32 => ?_)
    · have c32 : 1 = 0 := (nI_eq (a := 1) (b := 0) (by omega) (by omega)).mp c32
      exfalso; omega
    · have c32 : ¬ 1 = 0 := fun h => c32 ((nI_eq (a := 1) (b := 0) (by omega) (by omega)).mpr h)
      refine lv_aload_n hx hb d_MD_seen_35 rfl (lv_at hl 1 rfl) ?_
      refine g_MD_245 M hI d_MD_seen_36 ?_
      refine q_as (y := 1) h13 ?_
      refine lv_if_ne (tgt := 46) hx hb d_MD_seen_39 (by decide) (fun c39 => ?_) (fun c39 => ?_)
      · have c39 : ¬ 1 = 0 := fun h => c39 ((nI_eq (a := 1) (b := 0) (by omega) (by omega)).mpr h)
        refine lv_iload_n hx hb d_MD_seen_46 rfl (lv_at hl 0 rfl) ?_
        refine lv_if_ne (tgt := 54) hx hb d_MD_seen_47 (by decide) (fun c47 => ?_) (fun c47 => ?_)
        · have c47 : ¬ 0 = 0 := fun h => c47 ((nI_eq (a := 0) (b := 0) (by omega) (by omega)).mpr h)
          exfalso; omega
        · have c47 : 0 = 0 := (nI_eq (a := 0) (b := 0) (by omega) (by omega)).mp c47
          refine lv_iconst (v := 2) hx hb d_MD_seen_50 (by decide) ?_
          refine lv_goto (tgt := 55) hx hb d_MD_seen_51 (by decide) ?_
          refine q_calliV [.int 2] M hI (c_MD_refused l g ad ar fl 2) ok_MD_refused m5_56 m5_58 ms_45 0 rfl rfl rfl rfl hl.1 ⟨rfl, rfl⟩ ⟨Nat.le_of_ble_eq_true rfl, Nat.le_of_ble_eq_true rfl⟩ (Nat.le_of_ble_eq_true rfl) ⟨Nat.le_of_ble_eq_true rfl, Nat.le_of_ble_eq_true rfl⟩ d_MD_seen_55 (fun r55 u55 H locs hp55 hI => ?_)
          have hI : CI g A s (mw g ad ar (va_up fl 0 2)) H locs := hI
          refine q_as (y := bI (¬ 2 ≤ 0)) hp55 ?_
          refine lv_if_eq (tgt := 63) hx hb d_MD_seen_58 (by decide) (fun c58 => ?_) (fun c58 => ?_)
          · have c58 := bI_eq0.mp c58
            exact absurd (by decide) c58
          · have c58 := bI_ne0.mp c58
            refine lv_iconst (v := 0) hx hb d_MD_seen_61 (by decide) ?_
            exact hret 0 () _ _ _ _ _ _ d_MD_seen_62 hI (trivial) (Nat.le_refl 0) (Nat.le_refl 0)
      · have c39 : 1 = 0 := (nI_eq (a := 1) (b := 0) (by omega) (by omega)).mp c39
        exfalso; omega
  · refine lv_iload_n hx hb d_MD_seen_4 rfl (lv_at hl 1 rfl) ?_
    refine lv_aload_n hx hb d_MD_seen_5 rfl (lv_at hl 0 rfl) ?_
    refine g_MD_251 M hI d_MD_seen_6 ?_
    refine q_as (y := nI mm) hmm ?_
    refine lv_icmp_ge (tgt := 25) hx hb d_MD_seen_9 (by decide) (fun c9 => ?_) (fun c9 => ?_)
    · refine lv_iconst (v := 0) hx hb d_MD_seen_25 (by decide) ?_
      refine lv_istore_n (lv' := [(3, .int 0), (0, .ref (ad 0)), (1, .int x), (2, .int y)]) hx hb d_MD_seen_26 rfl hl (by decide) rfl (fun ls hl => ?_)
      refine lv_aload_n hx hb d_MD_seen_27 rfl (lv_at hl 1 rfl) ?_
      refine lv_aload_n hx hb d_MD_seen_28 rfl (lv_at hl 1 rfl) ?_
      refine g_MD_92 M hI d_MD_seen_29 ?_
      refine q_as (y := 1) h5 ?_
      refine lv_if_eq (tgt := 42) hx hb d_MD_seen_32 (by decide) (fun c32 => ?_) (fun c32 => ?_)
      · have c32 : 1 = 0 := (nI_eq (a := 1) (b := 0) (by omega) (by omega)).mp c32
        exfalso; omega
      · have c32 : ¬ 1 = 0 := fun h => c32 ((nI_eq (a := 1) (b := 0) (by omega) (by omega)).mpr h)
        refine lv_aload_n hx hb d_MD_seen_35 rfl (lv_at hl 1 rfl) ?_
        refine g_MD_245 M hI d_MD_seen_36 ?_
        refine q_as (y := 1) h13 ?_
        refine lv_if_ne (tgt := 46) hx hb d_MD_seen_39 (by decide) (fun c39 => ?_) (fun c39 => ?_)
        · have c39 : ¬ 1 = 0 := fun h => c39 ((nI_eq (a := 1) (b := 0) (by omega) (by omega)).mpr h)
          refine lv_iload_n hx hb d_MD_seen_46 rfl (lv_at hl 0 rfl) ?_
          refine lv_if_ne (tgt := 54) hx hb d_MD_seen_47 (by decide) (fun c47 => ?_) (fun c47 => ?_)
          · have c47 : ¬ 0 = 0 := fun h => c47 ((nI_eq (a := 0) (b := 0) (by omega) (by omega)).mpr h)
            exfalso; omega
          · have c47 : 0 = 0 := (nI_eq (a := 0) (b := 0) (by omega) (by omega)).mp c47
            refine lv_iconst (v := 2) hx hb d_MD_seen_50 (by decide) ?_
            refine lv_goto (tgt := 55) hx hb d_MD_seen_51 (by decide) ?_
            refine q_calliV [.int 2] M hI (c_MD_refused l g ad ar fl 2) ok_MD_refused m5_56 m5_58 ms_45 0 rfl rfl rfl rfl hl.1 ⟨rfl, rfl⟩ ⟨Nat.le_of_ble_eq_true rfl, Nat.le_of_ble_eq_true rfl⟩ (Nat.le_of_ble_eq_true rfl) ⟨Nat.le_of_ble_eq_true rfl, Nat.le_of_ble_eq_true rfl⟩ d_MD_seen_55 (fun r55 u55 H locs hp55 hI => ?_)
            have hI : CI g A s (mw g ad ar (va_up fl 0 2)) H locs := hI
            refine q_as (y := bI (¬ 2 ≤ 0)) hp55 ?_
            refine lv_if_eq (tgt := 63) hx hb d_MD_seen_58 (by decide) (fun c58 => ?_) (fun c58 => ?_)
            · have c58 := bI_eq0.mp c58
              exact absurd (by decide) c58
            · have c58 := bI_ne0.mp c58
              refine lv_iconst (v := 0) hx hb d_MD_seen_61 (by decide) ?_
              exact hret 0 () _ _ _ _ _ _ d_MD_seen_62 hI (trivial) (Nat.le_refl 0) (Nat.le_refl 0)
        · have c39 : 1 = 0 := (nI_eq (a := 1) (b := 0) (by omega) (by omega)).mp c39
          exfalso; omega
    · refine lv_iload_n hx hb d_MD_seen_12 rfl (lv_at hl 2 rfl) ?_
      refine lv_if_lt (tgt := 25) hx hb d_MD_seen_13 (by decide) (fun c13 => ?_) (fun c13 => ?_)
      · refine lv_iconst (v := 0) hx hb d_MD_seen_25 (by decide) ?_
        refine lv_istore_n (lv' := [(3, .int 0), (0, .ref (ad 0)), (1, .int x), (2, .int y)]) hx hb d_MD_seen_26 rfl hl (by decide) rfl (fun ls hl => ?_)
        refine lv_aload_n hx hb d_MD_seen_27 rfl (lv_at hl 1 rfl) ?_
        refine lv_aload_n hx hb d_MD_seen_28 rfl (lv_at hl 1 rfl) ?_
        refine g_MD_92 M hI d_MD_seen_29 ?_
        refine q_as (y := 1) h5 ?_
        refine lv_if_eq (tgt := 42) hx hb d_MD_seen_32 (by decide) (fun c32 => ?_) (fun c32 => ?_)
        · have c32 : 1 = 0 := (nI_eq (a := 1) (b := 0) (by omega) (by omega)).mp c32
          exfalso; omega
        · have c32 : ¬ 1 = 0 := fun h => c32 ((nI_eq (a := 1) (b := 0) (by omega) (by omega)).mpr h)
          refine lv_aload_n hx hb d_MD_seen_35 rfl (lv_at hl 1 rfl) ?_
          refine g_MD_245 M hI d_MD_seen_36 ?_
          refine q_as (y := 1) h13 ?_
          refine lv_if_ne (tgt := 46) hx hb d_MD_seen_39 (by decide) (fun c39 => ?_) (fun c39 => ?_)
          · have c39 : ¬ 1 = 0 := fun h => c39 ((nI_eq (a := 1) (b := 0) (by omega) (by omega)).mpr h)
            refine lv_iload_n hx hb d_MD_seen_46 rfl (lv_at hl 0 rfl) ?_
            refine lv_if_ne (tgt := 54) hx hb d_MD_seen_47 (by decide) (fun c47 => ?_) (fun c47 => ?_)
            · have c47 : ¬ 0 = 0 := fun h => c47 ((nI_eq (a := 0) (b := 0) (by omega) (by omega)).mpr h)
              exfalso; omega
            · have c47 : 0 = 0 := (nI_eq (a := 0) (b := 0) (by omega) (by omega)).mp c47
              refine lv_iconst (v := 2) hx hb d_MD_seen_50 (by decide) ?_
              refine lv_goto (tgt := 55) hx hb d_MD_seen_51 (by decide) ?_
              refine q_calliV [.int 2] M hI (c_MD_refused l g ad ar fl 2) ok_MD_refused m5_56 m5_58 ms_45 0 rfl rfl rfl rfl hl.1 ⟨rfl, rfl⟩ ⟨Nat.le_of_ble_eq_true rfl, Nat.le_of_ble_eq_true rfl⟩ (Nat.le_of_ble_eq_true rfl) ⟨Nat.le_of_ble_eq_true rfl, Nat.le_of_ble_eq_true rfl⟩ d_MD_seen_55 (fun r55 u55 H locs hp55 hI => ?_)
              have hI : CI g A s (mw g ad ar (va_up fl 0 2)) H locs := hI
              refine q_as (y := bI (¬ 2 ≤ 0)) hp55 ?_
              refine lv_if_eq (tgt := 63) hx hb d_MD_seen_58 (by decide) (fun c58 => ?_) (fun c58 => ?_)
              · have c58 := bI_eq0.mp c58
                exact absurd (by decide) c58
              · have c58 := bI_ne0.mp c58
                refine lv_iconst (v := 0) hx hb d_MD_seen_61 (by decide) ?_
                exact hret 0 () _ _ _ _ _ _ d_MD_seen_62 hI (trivial) (Nat.le_refl 0) (Nat.le_refl 0)
          · have c39 : 1 = 0 := (nI_eq (a := 1) (b := 0) (by omega) (by omega)).mp c39
            exfalso; omega
      · refine lv_iload_n hx hb d_MD_seen_16 rfl (lv_at hl 2 rfl) ?_
        refine lv_iconst (v := 3) hx hb d_MD_seen_17 (by decide) ?_
        refine lv_icmp_ge (tgt := 25) hx hb d_MD_seen_18 (by decide) (fun c18 => ?_) (fun c18 => ?_)
        · refine lv_iconst (v := 0) hx hb d_MD_seen_25 (by decide) ?_
          refine lv_istore_n (lv' := [(3, .int 0), (0, .ref (ad 0)), (1, .int x), (2, .int y)]) hx hb d_MD_seen_26 rfl hl (by decide) rfl (fun ls hl => ?_)
          refine lv_aload_n hx hb d_MD_seen_27 rfl (lv_at hl 1 rfl) ?_
          refine lv_aload_n hx hb d_MD_seen_28 rfl (lv_at hl 1 rfl) ?_
          refine g_MD_92 M hI d_MD_seen_29 ?_
          refine q_as (y := 1) h5 ?_
          refine lv_if_eq (tgt := 42) hx hb d_MD_seen_32 (by decide) (fun c32 => ?_) (fun c32 => ?_)
          · have c32 : 1 = 0 := (nI_eq (a := 1) (b := 0) (by omega) (by omega)).mp c32
            exfalso; omega
          · have c32 : ¬ 1 = 0 := fun h => c32 ((nI_eq (a := 1) (b := 0) (by omega) (by omega)).mpr h)
            refine lv_aload_n hx hb d_MD_seen_35 rfl (lv_at hl 1 rfl) ?_
            refine g_MD_245 M hI d_MD_seen_36 ?_
            refine q_as (y := 1) h13 ?_
            refine lv_if_ne (tgt := 46) hx hb d_MD_seen_39 (by decide) (fun c39 => ?_) (fun c39 => ?_)
            · have c39 : ¬ 1 = 0 := fun h => c39 ((nI_eq (a := 1) (b := 0) (by omega) (by omega)).mpr h)
              refine lv_iload_n hx hb d_MD_seen_46 rfl (lv_at hl 0 rfl) ?_
              refine lv_if_ne (tgt := 54) hx hb d_MD_seen_47 (by decide) (fun c47 => ?_) (fun c47 => ?_)
              · have c47 : ¬ 0 = 0 := fun h => c47 ((nI_eq (a := 0) (b := 0) (by omega) (by omega)).mpr h)
                exfalso; omega
              · have c47 : 0 = 0 := (nI_eq (a := 0) (b := 0) (by omega) (by omega)).mp c47
                refine lv_iconst (v := 2) hx hb d_MD_seen_50 (by decide) ?_
                refine lv_goto (tgt := 55) hx hb d_MD_seen_51 (by decide) ?_
                refine q_calliV [.int 2] M hI (c_MD_refused l g ad ar fl 2) ok_MD_refused m5_56 m5_58 ms_45 0 rfl rfl rfl rfl hl.1 ⟨rfl, rfl⟩ ⟨Nat.le_of_ble_eq_true rfl, Nat.le_of_ble_eq_true rfl⟩ (Nat.le_of_ble_eq_true rfl) ⟨Nat.le_of_ble_eq_true rfl, Nat.le_of_ble_eq_true rfl⟩ d_MD_seen_55 (fun r55 u55 H locs hp55 hI => ?_)
                have hI : CI g A s (mw g ad ar (va_up fl 0 2)) H locs := hI
                refine q_as (y := bI (¬ 2 ≤ 0)) hp55 ?_
                refine lv_if_eq (tgt := 63) hx hb d_MD_seen_58 (by decide) (fun c58 => ?_) (fun c58 => ?_)
                · have c58 := bI_eq0.mp c58
                  exact absurd (by decide) c58
                · have c58 := bI_ne0.mp c58
                  refine lv_iconst (v := 0) hx hb d_MD_seen_61 (by decide) ?_
                  exact hret 0 () _ _ _ _ _ _ d_MD_seen_62 hI (trivial) (Nat.le_refl 0) (Nat.le_refl 0)
            · have c39 : 1 = 0 := (nI_eq (a := 1) (b := 0) (by omega) (by omega)).mp c39
              exfalso; omega
        · exact absurd hS (fun h => h.elim c1 (fun h => h.elim c9 (fun h => h.elim c13 c18)))
abbrev rm_MD_seen_c_MD_seen_0 : Room := { frames := 1, cells := 0, slots := 0, locals := 23 }
set_option maxHeartbeats 4000000 in
set_option maxRecDepth 100000 in
theorem c_MD_seen_0 (l : Launch) (g : Geo) (ad : Nat → Nat) (ar : Nat → Nat → Int32) (fl : Nat → Int32) (k : Nat) (y : Nat) (mm mn : Nat) (O LV : Nat → Nat) (h5 : fl 5 = 1) (h13 : fl 13 = 1) (hk : k < mm) (hy : y < 3) (hmm : fl 14 = nI mm) (hM : mm ≤ 2000) (hmn : fl 4 = nI mn) (hmN : mn ≤ 40) (hO : oR (ar 21) O mm) (hV : oR (ar 22) (fun j => LV (O j)) mm) (hOb : O k < 2000) (hLb : LV (O k) ≤ 127) : cMi l y_MD_seen (.code y_MD_seen b_MD_seen 6 (some .int) :: gw) rm_MD_seen_c_MD_seen_0 g [.ref (ad 0), .int (nI k), .int (nI y)] (mw g ad ar fl) (fun (r : Int32) (_ : Unit) => r = snM (ar 1) (ar 7) (ar 8) mn (O k) (LV (O k)) y) (fun (_ : Unit) => mw g ad ar (va_up fl 0 0)) 0 0 := by
  refine cMi_of (by decide) (Nat.le_of_ble_eq_true rfl) ?_
  intro p e s m below meth c A Q ls M hret hl hI
  have M : MC p s m ([.ref (ad 0), .int (nI k), .int (nI y)] : List Value).toArray meth c R_MD b_MD_seen 6 := M
  have hl : lv_has ls 6 [(0, .ref (ad 0)), (1, .int (nI k)), (2, .int (nI y))] := hl
  generalize ([.ref (ad 0), .int (nI k), .int (nI y)] : List Value).toArray = args at M hret ⊢
  have hx := M.1
  have hb := M.2.1
  refine lv_iload_n hx hb d_MD_seen_0 rfl (lv_at hl 1 rfl) ?_
  refine lv_if_lt (tgt := 25) hx hb d_MD_seen_1 (by decide) (fun c1 => ?_) (fun c1 => ?_)
  · have c1 : k < 0 := (nI_ltI (a := k) (b := 0) (by omega) (by omega)).mp c1
    exfalso; omega
  · have c1 : ¬ k < 0 := fun h => c1 ((nI_ltI (a := k) (b := 0) (by omega) (by omega)).mpr h)
    refine lv_iload_n hx hb d_MD_seen_4 rfl (lv_at hl 1 rfl) ?_
    refine lv_aload_n hx hb d_MD_seen_5 rfl (lv_at hl 0 rfl) ?_
    refine g_MD_251 M hI d_MD_seen_6 ?_
    refine q_as (y := nI mm) hmm ?_
    refine lv_icmp_ge (tgt := 25) hx hb d_MD_seen_9 (by decide) (fun c9 => ?_) (fun c9 => ?_)
    · have c9 : mm ≤ k := (nI_leI (a := mm) (b := k) (by omega) (by omega)).mp c9
      exfalso; omega
    · have c9 : ¬ mm ≤ k := fun h => c9 ((nI_leI (a := mm) (b := k) (by omega) (by omega)).mpr h)
      refine lv_iload_n hx hb d_MD_seen_12 rfl (lv_at hl 2 rfl) ?_
      refine lv_if_lt (tgt := 25) hx hb d_MD_seen_13 (by decide) (fun c13 => ?_) (fun c13 => ?_)
      · have c13 : y < 0 := (nI_ltI (a := y) (b := 0) (by omega) (by omega)).mp c13
        exfalso; omega
      · have c13 : ¬ y < 0 := fun h => c13 ((nI_ltI (a := y) (b := 0) (by omega) (by omega)).mpr h)
        refine lv_iload_n hx hb d_MD_seen_16 rfl (lv_at hl 2 rfl) ?_
        refine lv_iconst (v := 3) hx hb d_MD_seen_17 (by decide) ?_
        refine lv_icmp_ge (tgt := 25) hx hb d_MD_seen_18 (by decide) (fun c18 => ?_) (fun c18 => ?_)
        · have c18 : 3 ≤ y := (nI_leI (a := 3) (b := y) (by omega) (by omega)).mp c18
          exfalso; omega
        · have c18 : ¬ 3 ≤ y := fun h => c18 ((nI_leI (a := 3) (b := y) (by omega) (by omega)).mpr h)
          refine lv_iconst (v := 1) hx hb d_MD_seen_21 (by decide) ?_
          refine lv_goto (tgt := 26) hx hb d_MD_seen_22 (by decide) ?_
          refine lv_istore_n (lv' := [(3, .int 1), (0, .ref (ad 0)), (1, .int (nI k)), (2, .int (nI y))]) hx hb d_MD_seen_26 rfl hl (by decide) rfl (fun ls hl => ?_)
          refine lv_aload_n hx hb d_MD_seen_27 rfl (lv_at hl 1 rfl) ?_
          refine lv_aload_n hx hb d_MD_seen_28 rfl (lv_at hl 1 rfl) ?_
          refine g_MD_92 M hI d_MD_seen_29 ?_
          refine q_as (y := 1) h5 ?_
          refine lv_if_eq (tgt := 42) hx hb d_MD_seen_32 (by decide) (fun c32 => ?_) (fun c32 => ?_)
          · have c32 : 1 = 0 := (nI_eq (a := 1) (b := 0) (by omega) (by omega)).mp c32
            exfalso; omega
          · have c32 : ¬ 1 = 0 := fun h => c32 ((nI_eq (a := 1) (b := 0) (by omega) (by omega)).mpr h)
            refine lv_aload_n hx hb d_MD_seen_35 rfl (lv_at hl 1 rfl) ?_
            refine g_MD_245 M hI d_MD_seen_36 ?_
            refine q_as (y := 1) h13 ?_
            refine lv_if_ne (tgt := 46) hx hb d_MD_seen_39 (by decide) (fun c39 => ?_) (fun c39 => ?_)
            · have c39 : ¬ 1 = 0 := fun h => c39 ((nI_eq (a := 1) (b := 0) (by omega) (by omega)).mpr h)
              refine lv_iload_n hx hb d_MD_seen_46 rfl (lv_at hl 0 rfl) ?_
              refine lv_if_ne (tgt := 54) hx hb d_MD_seen_47 (by decide) (fun c47 => ?_) (fun c47 => ?_)
              · have c47 : ¬ 1 = 0 := fun h => c47 ((nI_eq (a := 1) (b := 0) (by omega) (by omega)).mpr h)
                refine lv_iconst (v := 0) hx hb d_MD_seen_54 (by decide) ?_
                refine q_calliV [.int 0] M hI (c_MD_refused l g ad ar fl 0) ok_MD_refused m5_56 m5_58 ms_45 0 rfl rfl rfl rfl hl.1 ⟨rfl, rfl⟩ ⟨Nat.le_of_ble_eq_true rfl, Nat.le_of_ble_eq_true rfl⟩ (Nat.le_of_ble_eq_true rfl) ⟨Nat.le_of_ble_eq_true rfl, Nat.le_of_ble_eq_true rfl⟩ d_MD_seen_55 (fun r55 u55 H locs hp55 hI => ?_)
                have hI : CI g A s (mw g ad ar (va_up fl 0 0)) H locs := hI
                refine q_as (y := bI (¬ 0 ≤ 0)) hp55 ?_
                refine lv_if_eq (tgt := 63) hx hb d_MD_seen_58 (by decide) (fun c58 => ?_) (fun c58 => ?_)
                · have c58 := bI_eq0.mp c58
                  refine lv_aload_n hx hb d_MD_seen_63 rfl (lv_at hl 1 rfl) ?_
                  refine g_MD_7 M hI d_MD_seen_64 ?_
                  refine lv_aload_n hx hb d_MD_seen_67 rfl (lv_at hl 1 rfl) ?_
                  refine g_MD_71 M hI d_MD_seen_68 ?_
                  refine lv_iload_n hx hb d_MD_seen_71 rfl (lv_at hl 2 rfl) ?_
                  refine bl_21 M hI k rfl (by omega) d_MD_seen_72 ?_
                  refine q_as (y := nI (O k)) (hO k hk) ?_
                  refine bl_1 M hI (O k) rfl (hOb) d_MD_seen_73 ?_
                  refine lv_istore (lv' := [(4, .int (ar 1 (O k))), (3, .int 1), (0, .ref (ad 0)), (1, .int (nI k)), (2, .int (nI y))]) hx hb d_MD_seen_74 hl (by decide) rfl (fun ls hl => ?_)
                  refine lv_aload_n hx hb d_MD_seen_76 rfl (lv_at hl 2 rfl) ?_
                  refine lv_iload hx hb d_MD_seen_77 (lv_at hl 0 rfl) ?_
                  refine q_calliV [.int (ar 1 (O k))] M hI (c_MD_mirrorOf l g ad ar (va_up fl 0 0) (ar 1 (O k)) mn (hmn) (hmN)) ok_MD_mirrorOf m5_80 m5_82 ms_49 0 rfl rfl rfl rfl hl.1 ⟨rfl, rfl⟩ ⟨Nat.le_of_ble_eq_true rfl, Nat.le_of_ble_eq_true rfl⟩ (Nat.le_of_ble_eq_true rfl) ⟨Nat.le_of_ble_eq_true rfl, Nat.le_of_ble_eq_true rfl⟩ d_MD_seen_79 (fun r79 u79 H locs hp79 hI => ?_)
                  refine q_as (y := mir (ar 7) (ar 8) (ar 1 (O k)) mn) hp79 ?_
                  refine lv_istore (lv' := [(5, .int (mir (ar 7) (ar 8) (ar 1 (O k)) mn)), (4, .int (ar 1 (O k))), (3, .int 1), (0, .ref (ad 0)), (1, .int (nI k)), (2, .int (nI y))]) hx hb d_MD_seen_82 hl (by decide) rfl (fun ls hl => ?_)
                  refine lv_iload_n hx hb d_MD_seen_84 rfl (lv_at hl 5 rfl) ?_
                  refine lv_if_ne (tgt := 97) hx hb d_MD_seen_85 (by decide) (fun c85 => ?_) (fun c85 => ?_)
                  · have c85 : ¬ y = 0 := fun h => c85 ((nI_eq (a := y) (b := 0) (by omega) (by omega)).mpr h)
                    refine lv_iload_n hx hb d_MD_seen_97 rfl (lv_at hl 5 rfl) ?_
                    refine lv_iconst (v := 1) hx hb d_MD_seen_98 (by decide) ?_
                    refine lv_icmp_ne (tgt := 111) hx hb d_MD_seen_99 (by decide) (fun c99 => ?_) (fun c99 => ?_)
                    · have c99 : ¬ y = 1 := fun h => c99 ((nI_eq (a := y) (b := 1) (by omega) (by omega)).mpr h)
                      refine lv_aload_n hx hb d_MD_seen_111 rfl (lv_at hl 3 rfl) ?_
                      refine g_MD_74 M hI d_MD_seen_112 ?_
                      refine lv_iload_n hx hb d_MD_seen_115 rfl (lv_at hl 4 rfl) ?_
                      refine bl_22 M hI k rfl (by omega) d_MD_seen_116 ?_
                      refine q_as (y := nI (LV (O k))) (hV k hk) ?_
                      refine lv_iconst (v := 2) hx hb d_MD_seen_117 (by decide) ?_
                      refine lv_irem hx hb d_MD_seen_118 (by decide) ?_
                      refine q_as (y := nI (LV (O k) % 2)) (pk_rem (by omega) (by decide) (by decide)) ?_
                      refine lv_iconst (v := 1) hx hb d_MD_seen_119 (by decide) ?_
                      refine lv_icmp_ne (tgt := 133) hx hb d_MD_seen_120 (by decide) (fun c120 => ?_) (fun c120 => ?_)
                      · have c120 : ¬ LV (O k) % 2 = 1 := fun h => c120 ((nI_eq (a := LV (O k) % 2) (b := 1) (by omega) (by omega)).mpr h)
                        have hno : ¬ (LV (O k) % 2 = 1 ∧ 0 ≤ mir (ar 7) (ar 8) (ar 1 (O k)) mn) := fun z => c120 z.1
                        refine lv_iload hx hb d_MD_seen_133 (lv_at hl 1 rfl) ?_
                        refine q_as (y := snM (ar 1) (ar 7) (ar 8) mn (O k) (LV (O k)) y) (by unfold snM; rw [if_neg c85, if_neg c99, if_neg hno]) ?_
                        exact hret (snM (ar 1) (ar 7) (ar 8) mn (O k) (LV (O k)) y) () _ _ _ _ _ _ d_MD_seen_135 hI (rfl) (Nat.le_refl 0) (Nat.le_refl 0)
                      · have c120 : LV (O k) % 2 = 1 := (nI_eq (a := LV (O k) % 2) (b := 1) (by omega) (by omega)).mp c120
                        refine lv_iload hx hb d_MD_seen_123 (lv_at hl 0 rfl) ?_
                        refine lv_if_lt (tgt := 133) hx hb d_MD_seen_125 (by decide) (fun c125 => ?_) (fun c125 => ?_)
                        · have hno : ¬ (LV (O k) % 2 = 1 ∧ 0 ≤ mir (ar 7) (ar 8) (ar 1 (O k)) mn) := fun z => Int32.not_lt.mpr z.2 c125
                          refine lv_iload hx hb d_MD_seen_133 (lv_at hl 1 rfl) ?_
                          refine q_as (y := snM (ar 1) (ar 7) (ar 8) mn (O k) (LV (O k)) y) (by unfold snM; rw [if_neg c85, if_neg c99, if_neg hno]) ?_
                          exact hret (snM (ar 1) (ar 7) (ar 8) mn (O k) (LV (O k)) y) () _ _ _ _ _ _ d_MD_seen_135 hI (rfl) (Nat.le_refl 0) (Nat.le_refl 0)
                        · refine lv_iload hx hb d_MD_seen_128 (lv_at hl 0 rfl) ?_
                          refine q_as (y := snM (ar 1) (ar 7) (ar 8) mn (O k) (LV (O k)) y) (by unfold snM; rw [if_neg c85, if_neg c99, if_pos ⟨c120, Int32.not_lt.mp c125⟩]) ?_
                          refine lv_goto (tgt := 135) hx hb d_MD_seen_130 (by decide) ?_
                          exact hret (snM (ar 1) (ar 7) (ar 8) mn (O k) (LV (O k)) y) () _ _ _ _ _ _ d_MD_seen_135 hI (rfl) (Nat.le_refl 0) (Nat.le_refl 0)
                    · have c99 : y = 1 := (nI_eq (a := y) (b := 1) (by omega) (by omega)).mp c99
                      refine lv_aload_n hx hb d_MD_seen_102 rfl (lv_at hl 3 rfl) ?_
                      refine g_MD_74 M hI d_MD_seen_103 ?_
                      refine lv_iload_n hx hb d_MD_seen_106 rfl (lv_at hl 4 rfl) ?_
                      refine bl_22 M hI k rfl (by omega) d_MD_seen_107 ?_
                      refine q_as (y := snM (ar 1) (ar 7) (ar 8) mn (O k) (LV (O k)) y) (by unfold snM; rw [if_neg c85, if_pos c99]; exact hV k hk) ?_
                      refine lv_goto (tgt := 135) hx hb d_MD_seen_108 (by decide) ?_
                      exact hret (snM (ar 1) (ar 7) (ar 8) mn (O k) (LV (O k)) y) () _ _ _ _ _ _ d_MD_seen_135 hI (rfl) (Nat.le_refl 0) (Nat.le_refl 0)
                  · have c85 : y = 0 := (nI_eq (a := y) (b := 0) (by omega) (by omega)).mp c85
                    refine lv_aload_n hx hb d_MD_seen_88 rfl (lv_at hl 3 rfl) ?_
                    refine g_MD_71 M hI d_MD_seen_89 ?_
                    refine lv_iload_n hx hb d_MD_seen_92 rfl (lv_at hl 4 rfl) ?_
                    refine bl_21 M hI k rfl (by omega) d_MD_seen_93 ?_
                    refine q_as (y := snM (ar 1) (ar 7) (ar 8) mn (O k) (LV (O k)) y) (by unfold snM; rw [if_pos c85]; exact hO k hk) ?_
                    refine lv_goto (tgt := 135) hx hb d_MD_seen_94 (by decide) ?_
                    exact hret (snM (ar 1) (ar 7) (ar 8) mn (O k) (LV (O k)) y) () _ _ _ _ _ _ d_MD_seen_135 hI (rfl) (Nat.le_refl 0) (Nat.le_refl 0)
                · have c58 := bI_ne0.mp c58
                  exact absurd (by decide) c58
              · have c47 : 1 = 0 := (nI_eq (a := 1) (b := 0) (by omega) (by omega)).mp c47
                exfalso; omega
            · have c39 : 1 = 0 := (nI_eq (a := 1) (b := 0) (by omega) (by omega)).mp c39
              exfalso; omega
abbrev rm_MD_place_c_MD_place_1 : Room := { frames := 1, cells := 0, slots := 0, locals := 21 }
set_option maxHeartbeats 4000000 in
set_option maxRecDepth 100000 in
theorem c_MD_place_1 (l : Launch) (g : Geo) (ad : Nat → Nat) (ar : Nat → Nat → Int32) (fl : Nat → Int32) (x : Int32) (r5 r13 : Int32) (h5 : fl 5 = r5) (h13 : fl 13 = r13) (hS : r5 = 0 ∨ r13 = 0) : cMi l y_MD_place (.code y_MD_place b_MD_place 4 (some .int) :: gw) rm_MD_place_c_MD_place_1 g [.ref (ad 0), .int x] (mw g ad ar fl) (fun (r : Int32) (_ : Unit) => True) (fun (_ : Unit) => mw g ad ar (va_up fl 0 1)) 0 0 := by
  refine cMi_of (by decide) (Nat.le_of_ble_eq_true rfl) ?_
  intro p e s m below meth c A Q ls M hret hl hI
  have M : MC p s m ([.ref (ad 0), .int x] : List Value).toArray meth c R_MD b_MD_place 4 := M
  have hl : lv_has ls 4 [(0, .ref (ad 0)), (1, .int x)] := hl
  generalize ([.ref (ad 0), .int x] : List Value).toArray = args at M hret ⊢
  have hx := M.1
  have hb := M.2.1
  refine lv_aload_n hx hb d_MD_place_0 rfl (lv_at hl 0 rfl) ?_
  refine lv_aload_n hx hb d_MD_place_1 rfl (lv_at hl 0 rfl) ?_
  refine g_MD_92 M hI d_MD_place_2 ?_
  refine q_as (y := r5) h5 ?_
  refine lv_if_eq (tgt := 15) hx hb d_MD_place_5 (by decide) (fun c5 => ?_) (fun c5 => ?_)
  · refine lv_iconst (v := 1) hx hb d_MD_place_15 (by decide) ?_
    refine lv_goto (tgt := 36) hx hb d_MD_place_16 (by decide) ?_
    refine q_calliV [.int 1] M hI (c_MD_refused l g ad ar fl 1) ok_MD_refused m5_56 m5_58 ms_45 0 rfl rfl rfl rfl hl.1 ⟨rfl, rfl⟩ ⟨Nat.le_of_ble_eq_true rfl, Nat.le_of_ble_eq_true rfl⟩ (Nat.le_of_ble_eq_true rfl) ⟨Nat.le_of_ble_eq_true rfl, Nat.le_of_ble_eq_true rfl⟩ d_MD_place_36 (fun r36 u36 H locs hp36 hI => ?_)
    have hI : CI g A s (mw g ad ar (va_up fl 0 1)) H locs := hI
    refine q_as (y := bI (¬ 1 ≤ 0)) hp36 ?_
    refine lv_if_eq (tgt := 44) hx hb d_MD_place_39 (by decide) (fun c39 => ?_) (fun c39 => ?_)
    · have c39 := bI_eq0.mp c39
      exact absurd (by decide) c39
    · have c39 := bI_ne0.mp c39
      refine lv_iconst (v := 0) hx hb d_MD_place_42 (by decide) ?_
      exact hret 0 () _ _ _ _ _ _ d_MD_place_43 hI (trivial) (Nat.le_refl 0) (Nat.le_refl 0)
  · refine lv_aload_n hx hb d_MD_place_8 rfl (lv_at hl 0 rfl) ?_
    refine g_MD_245 M hI d_MD_place_9 ?_
    refine q_as (y := r13) h13 ?_
    refine lv_if_ne (tgt := 19) hx hb d_MD_place_12 (by decide) (fun c12 => ?_) (fun c12 => ?_)
    · exact absurd (hS.resolve_left c5) c12
    · refine lv_iconst (v := 1) hx hb d_MD_place_15 (by decide) ?_
      refine lv_goto (tgt := 36) hx hb d_MD_place_16 (by decide) ?_
      refine q_calliV [.int 1] M hI (c_MD_refused l g ad ar fl 1) ok_MD_refused m5_56 m5_58 ms_45 0 rfl rfl rfl rfl hl.1 ⟨rfl, rfl⟩ ⟨Nat.le_of_ble_eq_true rfl, Nat.le_of_ble_eq_true rfl⟩ (Nat.le_of_ble_eq_true rfl) ⟨Nat.le_of_ble_eq_true rfl, Nat.le_of_ble_eq_true rfl⟩ d_MD_place_36 (fun r36 u36 H locs hp36 hI => ?_)
      have hI : CI g A s (mw g ad ar (va_up fl 0 1)) H locs := hI
      refine q_as (y := bI (¬ 1 ≤ 0)) hp36 ?_
      refine lv_if_eq (tgt := 44) hx hb d_MD_place_39 (by decide) (fun c39 => ?_) (fun c39 => ?_)
      · have c39 := bI_eq0.mp c39
        exact absurd (by decide) c39
      · have c39 := bI_ne0.mp c39
        refine lv_iconst (v := 0) hx hb d_MD_place_42 (by decide) ?_
        exact hret 0 () _ _ _ _ _ _ d_MD_place_43 hI (trivial) (Nat.le_refl 0) (Nat.le_refl 0)
abbrev rm_MD_place_c_MD_place_2 : Room := { frames := 1, cells := 0, slots := 0, locals := 21 }
set_option maxHeartbeats 4000000 in
set_option maxRecDepth 100000 in
theorem c_MD_place_2 (l : Launch) (g : Geo) (ad : Nat → Nat) (ar : Nat → Nat → Int32) (fl : Nat → Int32) (x : Int32) (cn : Nat) (h5 : fl 5 = 1) (h13 : fl 13 = 1) (h1 : fl 1 = nI cn) (hcN : cn ≤ 2000) (hS : x < 0 ∨ nI cn ≤ x) : cMi l y_MD_place (.code y_MD_place b_MD_place 4 (some .int) :: gw) rm_MD_place_c_MD_place_2 g [.ref (ad 0), .int x] (mw g ad ar fl) (fun (r : Int32) (_ : Unit) => True) (fun (_ : Unit) => mw g ad ar (va_up fl 0 2)) 0 0 := by
  refine cMi_of (by decide) (Nat.le_of_ble_eq_true rfl) ?_
  intro p e s m below meth c A Q ls M hret hl hI
  have M : MC p s m ([.ref (ad 0), .int x] : List Value).toArray meth c R_MD b_MD_place 4 := M
  have hl : lv_has ls 4 [(0, .ref (ad 0)), (1, .int x)] := hl
  generalize ([.ref (ad 0), .int x] : List Value).toArray = args at M hret ⊢
  have hx := M.1
  have hb := M.2.1
  refine lv_aload_n hx hb d_MD_place_0 rfl (lv_at hl 0 rfl) ?_
  refine lv_aload_n hx hb d_MD_place_1 rfl (lv_at hl 0 rfl) ?_
  refine g_MD_92 M hI d_MD_place_2 ?_
  refine q_as (y := 1) h5 ?_
  refine lv_if_eq (tgt := 15) hx hb d_MD_place_5 (by decide) (fun c5 => ?_) (fun c5 => ?_)
  · have c5 : 1 = 0 := (nI_eq (a := 1) (b := 0) (by omega) (by omega)).mp c5
    exfalso; omega
  · have c5 : ¬ 1 = 0 := fun h => c5 ((nI_eq (a := 1) (b := 0) (by omega) (by omega)).mpr h)
    refine lv_aload_n hx hb d_MD_place_8 rfl (lv_at hl 0 rfl) ?_
    refine g_MD_245 M hI d_MD_place_9 ?_
    refine q_as (y := 1) h13 ?_
    refine lv_if_ne (tgt := 19) hx hb d_MD_place_12 (by decide) (fun c12 => ?_) (fun c12 => ?_)
    · have c12 : ¬ 1 = 0 := fun h => c12 ((nI_eq (a := 1) (b := 0) (by omega) (by omega)).mpr h)
      refine lv_iload_n hx hb d_MD_place_19 rfl (lv_at hl 1 rfl) ?_
      refine lv_if_lt (tgt := 31) hx hb d_MD_place_20 (by decide) (fun c20 => ?_) (fun c20 => ?_)
      · refine lv_iconst (v := 2) hx hb d_MD_place_31 (by decide) ?_
        refine lv_goto (tgt := 36) hx hb d_MD_place_32 (by decide) ?_
        refine q_calliV [.int 2] M hI (c_MD_refused l g ad ar fl 2) ok_MD_refused m5_56 m5_58 ms_45 0 rfl rfl rfl rfl hl.1 ⟨rfl, rfl⟩ ⟨Nat.le_of_ble_eq_true rfl, Nat.le_of_ble_eq_true rfl⟩ (Nat.le_of_ble_eq_true rfl) ⟨Nat.le_of_ble_eq_true rfl, Nat.le_of_ble_eq_true rfl⟩ d_MD_place_36 (fun r36 u36 H locs hp36 hI => ?_)
        have hI : CI g A s (mw g ad ar (va_up fl 0 2)) H locs := hI
        refine q_as (y := bI (¬ 2 ≤ 0)) hp36 ?_
        refine lv_if_eq (tgt := 44) hx hb d_MD_place_39 (by decide) (fun c39 => ?_) (fun c39 => ?_)
        · have c39 := bI_eq0.mp c39
          exact absurd (by decide) c39
        · have c39 := bI_ne0.mp c39
          refine lv_iconst (v := 0) hx hb d_MD_place_42 (by decide) ?_
          exact hret 0 () _ _ _ _ _ _ d_MD_place_43 hI (trivial) (Nat.le_refl 0) (Nat.le_refl 0)
      · refine lv_iload_n hx hb d_MD_place_23 rfl (lv_at hl 1 rfl) ?_
        refine lv_aload_n hx hb d_MD_place_24 rfl (lv_at hl 0 rfl) ?_
        refine g_MD_119 M hI d_MD_place_25 ?_
        refine q_as (y := nI cn) h1 ?_
        refine lv_icmp_lt (tgt := 35) hx hb d_MD_place_28 (by decide) (fun c28 => ?_) (fun c28 => ?_)
        · exact absurd (hS.resolve_left c20) (Int32.not_le.mpr c28)
        · refine lv_iconst (v := 2) hx hb d_MD_place_31 (by decide) ?_
          refine lv_goto (tgt := 36) hx hb d_MD_place_32 (by decide) ?_
          refine q_calliV [.int 2] M hI (c_MD_refused l g ad ar fl 2) ok_MD_refused m5_56 m5_58 ms_45 0 rfl rfl rfl rfl hl.1 ⟨rfl, rfl⟩ ⟨Nat.le_of_ble_eq_true rfl, Nat.le_of_ble_eq_true rfl⟩ (Nat.le_of_ble_eq_true rfl) ⟨Nat.le_of_ble_eq_true rfl, Nat.le_of_ble_eq_true rfl⟩ d_MD_place_36 (fun r36 u36 H locs hp36 hI => ?_)
          have hI : CI g A s (mw g ad ar (va_up fl 0 2)) H locs := hI
          refine q_as (y := bI (¬ 2 ≤ 0)) hp36 ?_
          refine lv_if_eq (tgt := 44) hx hb d_MD_place_39 (by decide) (fun c39 => ?_) (fun c39 => ?_)
          · have c39 := bI_eq0.mp c39
            exact absurd (by decide) c39
          · have c39 := bI_ne0.mp c39
            refine lv_iconst (v := 0) hx hb d_MD_place_42 (by decide) ?_
            exact hret 0 () _ _ _ _ _ _ d_MD_place_43 hI (trivial) (Nat.le_refl 0) (Nat.le_refl 0)
    · have c12 : 1 = 0 := (nI_eq (a := 1) (b := 0) (by omega) (by omega)).mp c12
      exfalso; omega
abbrev rm_MD_place_c_MD_place_0 : Room := { frames := 1, cells := 0, slots := 0, locals := 21 }
set_option maxHeartbeats 4000000 in
set_option maxRecDepth 100000 in
theorem c_MD_place_0 (l : Launch) (g : Geo) (ad : Nat → Nat) (ar : Nat → Nat → Int32) (fl : Nat → Int32) (q : Nat) (cn mm : Nat) (h5 : fl 5 = 1) (h13 : fl 13 = 1) (h1 : fl 1 = nI cn) (hcN : cn ≤ 2000) (hq : q < cn) (hmm : fl 14 = nI mm) (hM : mm ≤ 2000) : cMi l y_MD_place (.code y_MD_place b_MD_place 4 (some .int) :: gw) rm_MD_place_c_MD_place_0 g [.ref (ad 0), .int (nI q)] (mw g ad ar fl) (fun (r : Int32) (_ : Unit) => r = fndM (ar 21) q mm) (fun (_ : Unit) => mw g ad ar (va_up fl 0 0)) 0 0 := by
  refine cMi_of (by decide) (Nat.le_of_ble_eq_true rfl) ?_
  intro p e s m below meth c A Q ls M hret hl hI
  have M : MC p s m ([.ref (ad 0), .int (nI q)] : List Value).toArray meth c R_MD b_MD_place 4 := M
  have hl : lv_has ls 4 [(0, .ref (ad 0)), (1, .int (nI q))] := hl
  generalize ([.ref (ad 0), .int (nI q)] : List Value).toArray = args at M hret ⊢
  have hx := M.1
  have hb := M.2.1
  refine lv_aload_n hx hb d_MD_place_0 rfl (lv_at hl 0 rfl) ?_
  refine lv_aload_n hx hb d_MD_place_1 rfl (lv_at hl 0 rfl) ?_
  refine g_MD_92 M hI d_MD_place_2 ?_
  refine q_as (y := 1) h5 ?_
  refine lv_if_eq (tgt := 15) hx hb d_MD_place_5 (by decide) (fun c5 => ?_) (fun c5 => ?_)
  · have c5 : 1 = 0 := (nI_eq (a := 1) (b := 0) (by omega) (by omega)).mp c5
    exfalso; omega
  · have c5 : ¬ 1 = 0 := fun h => c5 ((nI_eq (a := 1) (b := 0) (by omega) (by omega)).mpr h)
    refine lv_aload_n hx hb d_MD_place_8 rfl (lv_at hl 0 rfl) ?_
    refine g_MD_245 M hI d_MD_place_9 ?_
    refine q_as (y := 1) h13 ?_
    refine lv_if_ne (tgt := 19) hx hb d_MD_place_12 (by decide) (fun c12 => ?_) (fun c12 => ?_)
    · have c12 : ¬ 1 = 0 := fun h => c12 ((nI_eq (a := 1) (b := 0) (by omega) (by omega)).mpr h)
      refine lv_iload_n hx hb d_MD_place_19 rfl (lv_at hl 1 rfl) ?_
      refine lv_if_lt (tgt := 31) hx hb d_MD_place_20 (by decide) (fun c20 => ?_) (fun c20 => ?_)
      · have c20 : q < 0 := (nI_ltI (a := q) (b := 0) (by omega) (by omega)).mp c20
        exfalso; omega
      · have c20 : ¬ q < 0 := fun h => c20 ((nI_ltI (a := q) (b := 0) (by omega) (by omega)).mpr h)
        refine lv_iload_n hx hb d_MD_place_23 rfl (lv_at hl 1 rfl) ?_
        refine lv_aload_n hx hb d_MD_place_24 rfl (lv_at hl 0 rfl) ?_
        refine g_MD_119 M hI d_MD_place_25 ?_
        refine q_as (y := nI cn) h1 ?_
        refine lv_icmp_lt (tgt := 35) hx hb d_MD_place_28 (by decide) (fun c28 => ?_) (fun c28 => ?_)
        · have c28 : q < cn := (nI_ltI (a := q) (b := cn) (by omega) (by omega)).mp c28
          refine lv_iconst (v := 0) hx hb d_MD_place_35 (by decide) ?_
          refine q_calliV [.int 0] M hI (c_MD_refused l g ad ar fl 0) ok_MD_refused m5_56 m5_58 ms_45 0 rfl rfl rfl rfl hl.1 ⟨rfl, rfl⟩ ⟨Nat.le_of_ble_eq_true rfl, Nat.le_of_ble_eq_true rfl⟩ (Nat.le_of_ble_eq_true rfl) ⟨Nat.le_of_ble_eq_true rfl, Nat.le_of_ble_eq_true rfl⟩ d_MD_place_36 (fun r36 u36 H locs hp36 hI => ?_)
          have hI : CI g A s (mw g ad ar (va_up fl 0 0)) H locs := hI
          refine q_as (y := bI (¬ 0 ≤ 0)) hp36 ?_
          refine lv_if_eq (tgt := 44) hx hb d_MD_place_39 (by decide) (fun c39 => ?_) (fun c39 => ?_)
          · have c39 := bI_eq0.mp c39
            refine lv_iconst (v := (-1)) hx hb d_MD_place_44 (by decide) ?_
            refine q_as (y := fndM (ar 21) q 0) (rfl) ?_
            refine lv_istore_n (lv' := [(2, .int (fndM (ar 21) q 0)), (0, .ref (ad 0)), (1, .int (nI q))]) hx hb d_MD_place_45 rfl hl (by decide) rfl (fun ls hl => ?_)
            refine lv_iconst (v := 0) hx hb d_MD_place_46 (by decide) ?_
            refine lv_istore_n (lv' := [(3, .int 0), (2, .int (fndM (ar 21) q 0)), (0, .ref (ad 0)), (1, .int (nI q))]) hx hb d_MD_place_47 rfl hl (by decide) rfl (fun ls hl => ?_)
            have L48 : ∀ (fu : Nat) (i : Nat), (mm - i) < fu → (i ≤ mm) → ∀ (H : Heap) (locs : List Loc) (ls : Array Slot), CI g A s (mw g ad ar (va_up fl 0 0)) H locs → lv_has ls 4 [(0, .ref (ad 0)), (1, .int (nI q)), (2, .int (fndM (ar 21) q i)), (3, .int (nI i))] → W p l e rm_MD_place_c_MD_place_0 s m args below meth c H locs 0 0 Q (F0 m 48 ls []) := by
              intro fu
              induction fu with
              | zero => intro i hm; exact absurd hm (Nat.not_lt_zero _)
              | succ fu ih48 =>
                intro i hm hi H locs ls hI hl
                refine lv_iload_n hx hb d_MD_place_48 rfl (lv_at hl 3 rfl) ?_
                refine lv_aload_n hx hb d_MD_place_49 rfl (lv_at hl 0 rfl) ?_
                refine g_MD_251 M hI d_MD_place_50 ?_
                refine q_as (y := nI mm) hmm ?_
                refine lv_icmp_ge (tgt := 78) hx hb d_MD_place_53 (by decide) (fun c53 => ?_) (fun c53 => ?_)
                · have c53 : mm ≤ i := (nI_leI (a := mm) (b := i) (by omega) (by omega)).mp c53
                  refine lv_iload_n hx hb d_MD_place_78 rfl (lv_at hl 2 rfl) ?_
                  exact hret (fndM (ar 21) q i) () _ _ _ _ _ _ d_MD_place_79 hI (by rw [show i = mm by omega]) (Nat.le_refl 0) (Nat.le_refl 0)
                · have c53 : ¬ mm ≤ i := fun h => c53 ((nI_leI (a := mm) (b := i) (by omega) (by omega)).mpr h)
                  refine lv_aload_n hx hb d_MD_place_56 rfl (lv_at hl 0 rfl) ?_
                  refine g_MD_71 M hI d_MD_place_57 ?_
                  refine lv_iload_n hx hb d_MD_place_60 rfl (lv_at hl 3 rfl) ?_
                  refine bl_21 M hI i rfl (by omega) d_MD_place_61 ?_
                  refine lv_iload_n hx hb d_MD_place_62 rfl (lv_at hl 1 rfl) ?_
                  refine lv_icmp_ne (tgt := 70) hx hb d_MD_place_63 (by decide) (fun c63 => ?_) (fun c63 => ?_)
                  · refine lv_iload_n hx hb d_MD_place_70 rfl (lv_at hl 2 rfl) ?_
                    refine q_as (y := fndM (ar 21) q (i + 1)) (by simp only [fndM]; rw [if_neg c63]) ?_
                    refine lv_istore_n (lv' := [(2, .int (fndM (ar 21) q (i + 1))), (0, .ref (ad 0)), (1, .int (nI q)), (3, .int (nI i))]) hx hb d_MD_place_71 rfl hl (by decide) rfl (fun ls hl => ?_)
                    refine lv_iinc (v := nI (i + 1)) (lv' := [(3, .int (nI (i + 1))), (2, .int (fndM (ar 21) q (i + 1))), (0, .ref (ad 0)), (1, .int (nI q))]) hx hb d_MD_place_72 hl (k := 3) rfl (nI_add _ 1) (by decide) rfl (fun ls hl => ?_)
                    refine lv_goto (tgt := 48) hx hb d_MD_place_75 (by decide) ?_
                    exact ih48 (i + 1) (by omega) (by first | assumption | omega) _ _ _ hI (lv_sub hl [2, 3, 1, 0] rfl)
                  · refine lv_iload_n hx hb d_MD_place_66 rfl (lv_at hl 3 rfl) ?_
                    refine q_as (y := fndM (ar 21) q (i + 1)) (by simp only [fndM]; rw [if_pos c63]) ?_
                    refine lv_goto (tgt := 71) hx hb d_MD_place_67 (by decide) ?_
                    refine lv_istore_n (lv' := [(2, .int (fndM (ar 21) q (i + 1))), (0, .ref (ad 0)), (1, .int (nI q)), (3, .int (nI i))]) hx hb d_MD_place_71 rfl hl (by decide) rfl (fun ls hl => ?_)
                    refine lv_iinc (v := nI (i + 1)) (lv' := [(3, .int (nI (i + 1))), (2, .int (fndM (ar 21) q (i + 1))), (0, .ref (ad 0)), (1, .int (nI q))]) hx hb d_MD_place_72 hl (k := 3) rfl (nI_add _ 1) (by decide) rfl (fun ls hl => ?_)
                    refine lv_goto (tgt := 48) hx hb d_MD_place_75 (by decide) ?_
                    exact ih48 (i + 1) (by omega) (by first | assumption | omega) _ _ _ hI (lv_sub hl [2, 3, 1, 0] rfl)
            exact L48 _ 0 (Nat.lt_succ_self _) (by first | assumption | omega) _ _ _ hI (lv_sub hl [2, 3, 1, 0] rfl)
          · have c39 := bI_ne0.mp c39
            exact absurd (by decide) c39
        · have c28 : ¬ q < cn := fun h => c28 ((nI_ltI (a := q) (b := cn) (by omega) (by omega)).mpr h)
          exfalso; omega
    · have c12 : 1 = 0 := (nI_eq (a := 1) (b := 0) (by omega) (by omega)).mp c12
      exfalso; omega
abbrev rm_MD_add_c_MD_add_2 : Room := { frames := 1, cells := 0, slots := 0, locals := 25 }
set_option maxHeartbeats 4000000 in
set_option maxRecDepth 100000 in
theorem c_MD_add_2 (l : Launch) (g : Geo) (ad : Nat → Nat) (ar : Nat → Nat → Int32) (fl : Nat → Int32) (xa : Int32) (xb : Int32) (xc : Int32) (xd : Int32) (xe : Int32) (m5 cn : Nat) (hm5 : m5 ≤ 5) (hm1 : ∀ j, j < m5 → ¬ fif j xa xb xc xd xe = -1) (hm2 : m5 = 5 ∨ fif m5 xa xb xc xd xe = -1) (h1 : fl 1 = nI cn) (hcN : cn ≤ 2000) (hS : (∀ j, j < m5 → isch (fif j xa xb xc xd xe))) (hS2 : 2000 < cn + m5) : cMi l y_MD_add (.code y_MD_add b_MD_add 9 (some .int) :: gw) rm_MD_add_c_MD_add_2 g [.ref (ad 0), .int xa, .int xb, .int xc, .int xd, .int xe] (mw g ad ar fl) (fun (r : Int32) (_ : Unit) => True) (fun (_ : Unit) => mw g ad ar (va_up fl 0 2)) 0 0 := by
  refine cMi_of (by decide) (Nat.le_of_ble_eq_true rfl) ?_
  intro p e s m below meth c A Q ls M hret hl hI
  have M : MC p s m ([.ref (ad 0), .int xa, .int xb, .int xc, .int xd, .int xe] : List Value).toArray meth c R_MD b_MD_add 9 := M
  have hl : lv_has ls 9 [(0, .ref (ad 0)), (1, .int xa), (2, .int xb), (3, .int xc), (4, .int xd), (5, .int xe)] := hl
  generalize ([.ref (ad 0), .int xa, .int xb, .int xc, .int xd, .int xe] : List Value).toArray = args at M hret ⊢
  have hx := M.1
  have hb := M.2.1
  have L31 : ∀ (H : Heap) (locs : List Loc) (ls : Array Slot), CI g A s (mw g ad ar fl) H locs → lv_has ls 9 [(0, .ref (ad 0)), (1, .int xa), (2, .int xb), (3, .int xc), (4, .int xd), (5, .int xe), (6, .int (nI m5))] → W p l e rm_MD_add_c_MD_add_2 s m args below meth c H locs 0 0 Q (F0 m 31 ls []) := by
    intro   H locs ls hI hl
    refine lv_iconst (v := 1) hx hb d_MD_add_31 (by decide) ?_
    refine lv_istore (lv' := [(7, .int 1), (0, .ref (ad 0)), (1, .int xa), (2, .int xb), (3, .int xc), (4, .int xd), (5, .int xe), (6, .int (nI m5))]) hx hb d_MD_add_32 hl (by decide) rfl (fun ls hl => ?_)
    refine lv_iconst (v := 0) hx hb d_MD_add_34 (by decide) ?_
    refine lv_istore (lv' := [(8, .int 0), (7, .int 1), (0, .ref (ad 0)), (1, .int xa), (2, .int xb), (3, .int xc), (4, .int xd), (5, .int xe), (6, .int (nI m5))]) hx hb d_MD_add_35 hl (by decide) rfl (fun ls hl => ?_)
    have L37 : ∀ (fu : Nat) (i : Nat), (m5 - i) < fu → (i ≤ m5) → ∀ (H : Heap) (locs : List Loc) (ls : Array Slot), CI g A s (mw g ad ar fl) H locs → lv_has ls 9 [(0, .ref (ad 0)), (1, .int xa), (2, .int xb), (3, .int xc), (4, .int xd), (5, .int xe), (6, .int (nI m5)), (7, .int 1), (8, .int (nI i))] → W p l e rm_MD_add_c_MD_add_2 s m args below meth c H locs 0 0 Q (F0 m 37 ls []) := by
      intro fu
      induction fu with
      | zero => intro i hm; exact absurd hm (Nat.not_lt_zero _)
      | succ fu ih37 =>
        intro i hm hi H locs ls hI hl
        refine lv_iload hx hb d_MD_add_37 (lv_at hl 8 rfl) ?_
        refine lv_iload hx hb d_MD_add_39 (lv_at hl 6 rfl) ?_
        refine lv_icmp_ge (tgt := 80) hx hb d_MD_add_41 (by decide) (fun c41 => ?_) (fun c41 => ?_)
        · have c41 : m5 ≤ i := (nI_leI (a := m5) (b := i) (by omega) (by omega)).mp c41
          refine lv_aload_n hx hb d_MD_add_80 rfl (lv_at hl 0 rfl) ?_
          refine lv_iload hx hb d_MD_add_81 (lv_at hl 7 rfl) ?_
          refine lv_if_ne (tgt := 90) hx hb d_MD_add_83 (by decide) (fun c83 => ?_) (fun c83 => ?_)
          · have c83 : ¬ 1 = 0 := fun h => c83 ((nI_eq (a := 1) (b := 0) (by omega) (by omega)).mpr h)
            refine lv_aload_n hx hb d_MD_add_90 rfl (lv_at hl 0 rfl) ?_
            refine g_MD_119 M hI d_MD_add_91 ?_
            refine q_as (y := nI cn) h1 ?_
            refine lv_iload hx hb d_MD_add_94 (lv_at hl 6 rfl) ?_
            refine lv_iadd hx hb d_MD_add_96 ?_
            refine q_as (y := nI (cn + m5)) (nI_add cn m5) ?_
            refine lv_sipush (v := 2000) hx hb d_MD_add_97 (by decide) ?_
            refine lv_icmp_le (tgt := 107) hx hb d_MD_add_100 (by decide) (fun c100 => ?_) (fun c100 => ?_)
            · have c100 : cn + m5 ≤ 2000 := (nI_leI (a := cn + m5) (b := 2000) (by omega) (by omega)).mp c100
              exfalso; omega
            · have c100 : ¬ cn + m5 ≤ 2000 := fun h => c100 ((nI_leI (a := cn + m5) (b := 2000) (by omega) (by omega)).mpr h)
              refine lv_iconst (v := 2) hx hb d_MD_add_103 (by decide) ?_
              refine lv_goto (tgt := 108) hx hb d_MD_add_104 (by decide) ?_
              refine q_calliV [.int 2] M hI (c_MD_refused l g ad ar fl 2) ok_MD_refused m5_56 m5_58 ms_45 0 rfl rfl rfl rfl hl.1 ⟨rfl, rfl⟩ ⟨Nat.le_of_ble_eq_true rfl, Nat.le_of_ble_eq_true rfl⟩ (Nat.le_of_ble_eq_true rfl) ⟨Nat.le_of_ble_eq_true rfl, Nat.le_of_ble_eq_true rfl⟩ d_MD_add_108 (fun r108 u108 H locs hp108 hI => ?_)
              have hI : CI g A s (mw g ad ar (va_up fl 0 2)) H locs := hI
              refine q_as (y := bI (¬ 2 ≤ 0)) hp108 ?_
              refine lv_if_eq (tgt := 116) hx hb d_MD_add_111 (by decide) (fun c111 => ?_) (fun c111 => ?_)
              · have c111 := bI_eq0.mp c111
                exact absurd (by decide) c111
              · have c111 := bI_ne0.mp c111
                refine lv_iconst (v := 0) hx hb d_MD_add_114 (by decide) ?_
                exact hret 0 () _ _ _ _ _ _ d_MD_add_115 hI (trivial) (Nat.le_refl 0) (Nat.le_refl 0)
          · have c83 : 1 = 0 := (nI_eq (a := 1) (b := 0) (by omega) (by omega)).mp c83
            exfalso; omega
        · have c41 : ¬ m5 ≤ i := fun h => c41 ((nI_leI (a := m5) (b := i) (by omega) (by omega)).mpr h)
          refine lv_iload hx hb d_MD_add_44 (lv_at hl 7 rfl) ?_
          refine lv_if_eq (tgt := 71) hx hb d_MD_add_46 (by decide) (fun c46 => ?_) (fun c46 => ?_)
          · have c46 : 1 = 0 := (nI_eq (a := 1) (b := 0) (by omega) (by omega)).mp c46
            exfalso; omega
          · have c46 : ¬ 1 = 0 := fun h => c46 ((nI_eq (a := 1) (b := 0) (by omega) (by omega)).mpr h)
            refine lv_iload hx hb d_MD_add_49 (lv_at hl 8 rfl) ?_
            refine lv_iload_n hx hb d_MD_add_51 rfl (lv_at hl 1 rfl) ?_
            refine lv_iload_n hx hb d_MD_add_52 rfl (lv_at hl 2 rfl) ?_
            refine lv_iload_n hx hb d_MD_add_53 rfl (lv_at hl 3 rfl) ?_
            refine lv_iload hx hb d_MD_add_54 (lv_at hl 4 rfl) ?_
            refine lv_iload hx hb d_MD_add_56 (lv_at hl 5 rfl) ?_
            refine q_calliS [.int (nI i), .int xa, .int xb, .int xc, .int xd, .int xe] M hI (c_MD_fifth l g (mw g ad ar fl) i xa xb xc xd xe (by omega)) ok_MD_fifth m5_88 m5_89 rfl rfl hl.1 ⟨rfl, rfl⟩ ⟨Nat.le_of_ble_eq_true rfl, Nat.le_of_ble_eq_true rfl⟩ (Nat.le_of_ble_eq_true rfl) ⟨Nat.le_of_ble_eq_true rfl, Nat.le_of_ble_eq_true rfl⟩ d_MD_add_58 (fun r58 u58 H locs hp58 hI => ?_)
            refine q_as (y := fif i xa xb xc xd xe) hp58 ?_
            refine q_calliS [.int (fif i xa xb xc xd xe)] M hI (c_MD_isCharacter l g (mw g ad ar fl) (fif i xa xb xc xd xe)) ok_MD_isCharacter m5_52 m5_53 rfl rfl hl.1 ⟨rfl, rfl⟩ ⟨Nat.le_of_ble_eq_true rfl, Nat.le_of_ble_eq_true rfl⟩ (Nat.le_of_ble_eq_true rfl) ⟨Nat.le_of_ble_eq_true rfl, Nat.le_of_ble_eq_true rfl⟩ d_MD_add_61 (fun r61 u61 H locs hp61 hI => ?_)
            refine q_as (y := bI (isch (fif i xa xb xc xd xe))) hp61 ?_
            refine lv_if_eq (tgt := 71) hx hb d_MD_add_64 (by decide) (fun c64 => ?_) (fun c64 => ?_)
            · have c64 := bI_eq0.mp c64
              exact absurd (hS i (by omega)) c64
            · have c64 := bI_ne0.mp c64
              refine lv_iconst (v := 1) hx hb d_MD_add_67 (by decide) ?_
              refine lv_goto (tgt := 72) hx hb d_MD_add_68 (by decide) ?_
              refine lv_istore (lv' := [(7, .int 1), (0, .ref (ad 0)), (1, .int xa), (2, .int xb), (3, .int xc), (4, .int xd), (5, .int xe), (6, .int (nI m5)), (8, .int (nI i))]) hx hb d_MD_add_72 hl (by decide) rfl (fun ls hl => ?_)
              refine lv_iinc (v := nI (i + 1)) (lv' := [(8, .int (nI (i + 1))), (7, .int 1), (0, .ref (ad 0)), (1, .int xa), (2, .int xb), (3, .int xc), (4, .int xd), (5, .int xe), (6, .int (nI m5))]) hx hb d_MD_add_74 hl (k := 8) rfl (nI_add _ 1) (by decide) rfl (fun ls hl => ?_)
              refine lv_goto (tgt := 37) hx hb d_MD_add_77 (by decide) ?_
              exact ih37 (i + 1) (by omega) (by first | assumption | omega) _ _ _ hI (lv_sub hl [2, 3, 4, 5, 6, 7, 8, 1, 0] rfl)
    exact L37 _ 0 (Nat.lt_succ_self _) (by first | assumption | omega) _ _ _ hI (lv_sub hl [2, 3, 4, 5, 6, 7, 8, 1, 0] rfl)
  refine lv_iconst (v := 0) hx hb d_MD_add_0 (by decide) ?_
  refine lv_istore (lv' := [(6, .int 0), (0, .ref (ad 0)), (1, .int xa), (2, .int xb), (3, .int xc), (4, .int xd), (5, .int xe)]) hx hb d_MD_add_1 hl (by decide) rfl (fun ls hl => ?_)
  have L3 : ∀ (fu : Nat) (i : Nat), (5 - i) < fu → (i ≤ m5) → ∀ (H : Heap) (locs : List Loc) (ls : Array Slot), CI g A s (mw g ad ar fl) H locs → lv_has ls 9 [(0, .ref (ad 0)), (1, .int xa), (2, .int xb), (3, .int xc), (4, .int xd), (5, .int xe), (6, .int (nI i))] → W p l e rm_MD_add_c_MD_add_2 s m args below meth c H locs 0 0 Q (F0 m 3 ls []) := by
    intro fu
    induction fu with
    | zero => intro i hm; exact absurd hm (Nat.not_lt_zero _)
    | succ fu ih3 =>
      intro i hm hi H locs ls hI hl
      refine lv_iload hx hb d_MD_add_3 (lv_at hl 6 rfl) ?_
      refine lv_iconst (v := 5) hx hb d_MD_add_5 (by decide) ?_
      refine lv_icmp_ge (tgt := 31) hx hb d_MD_add_6 (by decide) (fun c6 => ?_) (fun c6 => ?_)
      · have c6 : 5 ≤ i := (nI_leI (a := 5) (b := i) (by omega) (by omega)).mp c6
        have e5 : i = m5 := by omega
        rw [e5] at hl
        exact L31    _ _ _ hI (lv_sub hl [0, 1, 2, 3, 4, 5, 6] rfl)
      · have c6 : ¬ 5 ≤ i := fun h => c6 ((nI_leI (a := 5) (b := i) (by omega) (by omega)).mpr h)
        have h31 : i < 5 := by omega
        refine lv_iload hx hb d_MD_add_9 (lv_at hl 6 rfl) ?_
        refine lv_iload_n hx hb d_MD_add_11 rfl (lv_at hl 1 rfl) ?_
        refine lv_iload_n hx hb d_MD_add_12 rfl (lv_at hl 2 rfl) ?_
        refine lv_iload_n hx hb d_MD_add_13 rfl (lv_at hl 3 rfl) ?_
        refine lv_iload hx hb d_MD_add_14 (lv_at hl 4 rfl) ?_
        refine lv_iload hx hb d_MD_add_16 (lv_at hl 5 rfl) ?_
        refine q_calliS [.int (nI i), .int xa, .int xb, .int xc, .int xd, .int xe] M hI (c_MD_fifth l g (mw g ad ar fl) i xa xb xc xd xe (by omega)) ok_MD_fifth m5_88 m5_89 rfl rfl hl.1 ⟨rfl, rfl⟩ ⟨Nat.le_of_ble_eq_true rfl, Nat.le_of_ble_eq_true rfl⟩ (Nat.le_of_ble_eq_true rfl) ⟨Nat.le_of_ble_eq_true rfl, Nat.le_of_ble_eq_true rfl⟩ d_MD_add_18 (fun r18 u18 H locs hp18 hI => ?_)
        refine q_as (y := fif i xa xb xc xd xe) hp18 ?_
        refine lv_iconst (v := (-1)) hx hb d_MD_add_21 (by decide) ?_
        refine lv_icmp_eq (tgt := 31) hx hb d_MD_add_22 (by decide) (fun c22 => ?_) (fun c22 => ?_)
        · have e5 : i = m5 := by rcases Nat.lt_or_ge i m5 with z | z; exact absurd c22 (hm1 i z); omega
          rw [e5] at hl
          exact L31    _ _ _ hI (lv_sub hl [0, 1, 2, 3, 4, 5, 6] rfl)
        · have hi2 : i + 1 ≤ m5 := by rcases Nat.lt_or_ge i m5 with z | z; exact z; exact absurd (hm2.resolve_left (by omega)) (by rw [show m5 = i by omega]; exact c22)
          refine lv_iinc (v := nI (i + 1)) (lv' := [(6, .int (nI (i + 1))), (0, .ref (ad 0)), (1, .int xa), (2, .int xb), (3, .int xc), (4, .int xd), (5, .int xe)]) hx hb d_MD_add_25 hl (k := 6) rfl (nI_add _ 1) (by decide) rfl (fun ls hl => ?_)
          refine lv_goto (tgt := 3) hx hb d_MD_add_28 (by decide) ?_
          exact ih3 (i + 1) (by omega) (hi2) _ _ _ hI (lv_sub hl [1, 2, 3, 4, 5, 6, 0] rfl)
  exact L3 _ 0 (Nat.lt_succ_self _) (Nat.zero_le _) _ _ _ hI (lv_sub hl [1, 2, 3, 4, 5, 6, 0] rfl)
abbrev rm_MD_add_c_MD_add_0 : Room := { frames := 1, cells := 0, slots := 0, locals := 25 }
set_option maxHeartbeats 4000000 in
set_option maxRecDepth 100000 in
theorem c_MD_add_0 (l : Launch) (g : Geo) (ad : Nat → Nat) (ar : Nat → Nat → Int32) (fl : Nat → Int32) (xa : Int32) (xb : Int32) (xc : Int32) (xd : Int32) (xe : Int32) (m5 cn : Nat) (hm5 : m5 ≤ 5) (hm1 : ∀ j, j < m5 → ¬ fif j xa xb xc xd xe = -1) (hm2 : m5 = 5 ∨ fif m5 xa xb xc xd xe = -1) (h1 : fl 1 = nI cn) (hcN : cn ≤ 2000) (hS : (∀ j, j < m5 → isch (fif j xa xb xc xd xe))) (hS2 : cn + m5 ≤ 2000) : cMi l y_MD_add (.code y_MD_add b_MD_add 9 (some .int) :: gw) rm_MD_add_c_MD_add_0 g [.ref (ad 0), .int xa, .int xb, .int xc, .int xd, .int xe] (mw g ad ar fl) (fun (r : Int32) (_ : Unit) => r = nI (cn + m5)) (fun (_ : Unit) => mw g ad (va_up ar 1 (apF (ar 1) cn (fun j => fif j xa xb xc xd xe) m5)) (va_up (va_up (va_up fl 0 0) 1 (nI (cn + m5))) 5 0)) 0 0 := by
  refine cMi_of (by decide) (Nat.le_of_ble_eq_true rfl) ?_
  intro p e s m below meth c A Q ls M hret hl hI
  have M : MC p s m ([.ref (ad 0), .int xa, .int xb, .int xc, .int xd, .int xe] : List Value).toArray meth c R_MD b_MD_add 9 := M
  have hl : lv_has ls 9 [(0, .ref (ad 0)), (1, .int xa), (2, .int xb), (3, .int xc), (4, .int xd), (5, .int xe)] := hl
  generalize ([.ref (ad 0), .int xa, .int xb, .int xc, .int xd, .int xe] : List Value).toArray = args at M hret ⊢
  have hx := M.1
  have hb := M.2.1
  have L31 : ∀ (H : Heap) (locs : List Loc) (ls : Array Slot), CI g A s (mw g ad ar fl) H locs → lv_has ls 9 [(0, .ref (ad 0)), (1, .int xa), (2, .int xb), (3, .int xc), (4, .int xd), (5, .int xe), (6, .int (nI m5))] → W p l e rm_MD_add_c_MD_add_0 s m args below meth c H locs 0 0 Q (F0 m 31 ls []) := by
    intro   H locs ls hI hl
    refine lv_iconst (v := 1) hx hb d_MD_add_31 (by decide) ?_
    refine lv_istore (lv' := [(7, .int 1), (0, .ref (ad 0)), (1, .int xa), (2, .int xb), (3, .int xc), (4, .int xd), (5, .int xe), (6, .int (nI m5))]) hx hb d_MD_add_32 hl (by decide) rfl (fun ls hl => ?_)
    refine lv_iconst (v := 0) hx hb d_MD_add_34 (by decide) ?_
    refine lv_istore (lv' := [(8, .int 0), (7, .int 1), (0, .ref (ad 0)), (1, .int xa), (2, .int xb), (3, .int xc), (4, .int xd), (5, .int xe), (6, .int (nI m5))]) hx hb d_MD_add_35 hl (by decide) rfl (fun ls hl => ?_)
    have L37 : ∀ (fu : Nat) (i : Nat), (m5 - i) < fu → (i ≤ m5) → ∀ (H : Heap) (locs : List Loc) (ls : Array Slot), CI g A s (mw g ad ar fl) H locs → lv_has ls 9 [(0, .ref (ad 0)), (1, .int xa), (2, .int xb), (3, .int xc), (4, .int xd), (5, .int xe), (6, .int (nI m5)), (7, .int 1), (8, .int (nI i))] → W p l e rm_MD_add_c_MD_add_0 s m args below meth c H locs 0 0 Q (F0 m 37 ls []) := by
      intro fu
      induction fu with
      | zero => intro i hm; exact absurd hm (Nat.not_lt_zero _)
      | succ fu ih37 =>
        intro i hm hi H locs ls hI hl
        refine lv_iload hx hb d_MD_add_37 (lv_at hl 8 rfl) ?_
        refine lv_iload hx hb d_MD_add_39 (lv_at hl 6 rfl) ?_
        refine lv_icmp_ge (tgt := 80) hx hb d_MD_add_41 (by decide) (fun c41 => ?_) (fun c41 => ?_)
        · have c41 : m5 ≤ i := (nI_leI (a := m5) (b := i) (by omega) (by omega)).mp c41
          refine lv_aload_n hx hb d_MD_add_80 rfl (lv_at hl 0 rfl) ?_
          refine lv_iload hx hb d_MD_add_81 (lv_at hl 7 rfl) ?_
          refine lv_if_ne (tgt := 90) hx hb d_MD_add_83 (by decide) (fun c83 => ?_) (fun c83 => ?_)
          · have c83 : ¬ 1 = 0 := fun h => c83 ((nI_eq (a := 1) (b := 0) (by omega) (by omega)).mpr h)
            refine lv_aload_n hx hb d_MD_add_90 rfl (lv_at hl 0 rfl) ?_
            refine g_MD_119 M hI d_MD_add_91 ?_
            refine q_as (y := nI cn) h1 ?_
            refine lv_iload hx hb d_MD_add_94 (lv_at hl 6 rfl) ?_
            refine lv_iadd hx hb d_MD_add_96 ?_
            refine q_as (y := nI (cn + m5)) (nI_add cn m5) ?_
            refine lv_sipush (v := 2000) hx hb d_MD_add_97 (by decide) ?_
            refine lv_icmp_le (tgt := 107) hx hb d_MD_add_100 (by decide) (fun c100 => ?_) (fun c100 => ?_)
            · have c100 : cn + m5 ≤ 2000 := (nI_leI (a := cn + m5) (b := 2000) (by omega) (by omega)).mp c100
              refine lv_iconst (v := 0) hx hb d_MD_add_107 (by decide) ?_
              refine q_calliV [.int 0] M hI (c_MD_refused l g ad ar fl 0) ok_MD_refused m5_56 m5_58 ms_45 0 rfl rfl rfl rfl hl.1 ⟨rfl, rfl⟩ ⟨Nat.le_of_ble_eq_true rfl, Nat.le_of_ble_eq_true rfl⟩ (Nat.le_of_ble_eq_true rfl) ⟨Nat.le_of_ble_eq_true rfl, Nat.le_of_ble_eq_true rfl⟩ d_MD_add_108 (fun r108 u108 H locs hp108 hI => ?_)
              have hI : CI g A s (mw g ad ar (va_up fl 0 0)) H locs := hI
              refine q_as (y := bI (¬ 0 ≤ 0)) hp108 ?_
              refine lv_if_eq (tgt := 116) hx hb d_MD_add_111 (by decide) (fun c111 => ?_) (fun c111 => ?_)
              · have c111 := bI_eq0.mp c111
                refine lv_iconst (v := 0) hx hb d_MD_add_116 (by decide) ?_
                refine lv_istore (lv' := [(8, .int 0), (0, .ref (ad 0)), (1, .int xa), (2, .int xb), (3, .int xc), (4, .int xd), (5, .int xe), (6, .int (nI m5)), (7, .int 1)]) hx hb d_MD_add_117 hl (by decide) rfl (fun ls hl => ?_)
                have L119 : ∀ (fu : Nat) (i : Nat), (m5 - i) < fu → (i ≤ m5) → ∀ (H : Heap) (locs : List Loc) (ls : Array Slot), CI g A s (mw g ad (va_up ar 1 (apF (ar 1) cn (fun j => fif j xa xb xc xd xe) i)) (va_up (va_up fl 0 0) 1 (nI (cn + i)))) H locs → lv_has ls 9 [(0, .ref (ad 0)), (1, .int xa), (2, .int xb), (3, .int xc), (4, .int xd), (5, .int xe), (6, .int (nI m5)), (8, .int (nI i))] → W p l e rm_MD_add_c_MD_add_0 s m args below meth c H locs 0 0 Q (F0 m 119 ls []) := by
                  intro fu
                  induction fu with
                  | zero => intro i hm; exact absurd hm (Nat.not_lt_zero _)
                  | succ fu ih119 =>
                    intro i hm hi H locs ls hI hl
                    refine lv_iload hx hb d_MD_add_119 (lv_at hl 7 rfl) ?_
                    refine lv_iload hx hb d_MD_add_121 (lv_at hl 6 rfl) ?_
                    refine lv_icmp_ge (tgt := 163) hx hb d_MD_add_123 (by decide) (fun c123 => ?_) (fun c123 => ?_)
                    · have c123 : m5 ≤ i := (nI_leI (a := m5) (b := i) (by omega) (by omega)).mp c123
                      refine lv_aload_n hx hb d_MD_add_163 rfl (lv_at hl 0 rfl) ?_
                      refine lv_iconst (v := 0) hx hb d_MD_add_164 (by decide) ?_
                      refine p_MD_92 M hI rfl rfl d_MD_add_165 (fun H locs hI => ?_)
                      have hI : CI g A s (mw g ad (va_up ar 1 (apF (ar 1) cn (fun j => fif j xa xb xc xd xe) i)) (va_up (va_up (va_up fl 0 0) 1 (nI (cn + i))) 5 0)) H locs := hI
                      refine lv_aload_n hx hb d_MD_add_168 rfl (lv_at hl 0 rfl) ?_
                      refine g_MD_119 M hI d_MD_add_169 ?_
                      refine q_as (y := nI (cn + i)) rfl ?_
                      have e9 : i = m5 := by omega
                      have hI := CI.to (w2 := mw g ad (va_up ar 1 (apF (ar 1) cn (fun j => fif j xa xb xc xd xe) m5)) (va_up (va_up (va_up fl 0 0) 1 (nI (cn + m5))) 5 0)) hI (by rw [e9]; first | done | rfl)
                      exact hret (nI (cn + i)) () _ _ _ _ _ _ d_MD_add_172 hI (by rw [e9]) (Nat.le_refl 0) (Nat.le_refl 0)
                    · have c123 : ¬ m5 ≤ i := fun h => c123 ((nI_leI (a := m5) (b := i) (by omega) (by omega)).mpr h)
                      refine lv_aload_n hx hb d_MD_add_126 rfl (lv_at hl 0 rfl) ?_
                      refine g_MD_7 M hI d_MD_add_127 ?_
                      refine lv_aload_n hx hb d_MD_add_130 rfl (lv_at hl 0 rfl) ?_
                      refine g_MD_119 M hI d_MD_add_131 ?_
                      refine q_as (y := nI (cn + i)) rfl ?_
                      refine lv_iload hx hb d_MD_add_134 (lv_at hl 7 rfl) ?_
                      refine lv_iload_n hx hb d_MD_add_136 rfl (lv_at hl 1 rfl) ?_
                      refine lv_iload_n hx hb d_MD_add_137 rfl (lv_at hl 2 rfl) ?_
                      refine lv_iload_n hx hb d_MD_add_138 rfl (lv_at hl 3 rfl) ?_
                      refine lv_iload hx hb d_MD_add_139 (lv_at hl 4 rfl) ?_
                      refine lv_iload hx hb d_MD_add_141 (lv_at hl 5 rfl) ?_
                      refine q_calliS [.int (nI i), .int xa, .int xb, .int xc, .int xd, .int xe] M hI (c_MD_fifth l g (mw g ad (va_up ar 1 (apF (ar 1) cn (fun j => fif j xa xb xc xd xe) i)) (va_up (va_up fl 0 0) 1 (nI (cn + i)))) i xa xb xc xd xe (by omega)) ok_MD_fifth m5_88 m5_89 rfl rfl hl.1 ⟨rfl, rfl⟩ ⟨Nat.le_of_ble_eq_true rfl, Nat.le_of_ble_eq_true rfl⟩ (Nat.le_of_ble_eq_true rfl) ⟨Nat.le_of_ble_eq_true rfl, Nat.le_of_ble_eq_true rfl⟩ d_MD_add_143 (fun r143 u143 H locs hp143 hI => ?_)
                      refine q_as (y := fif i xa xb xc xd xe) hp143 ?_
                      refine bs_1 M hI (cn + i) rfl (by omega) d_MD_add_146 (fun H locs hI => ?_)
                      have hI : CI g A s (mw g ad (va_up ar 1 (upd (apF (ar 1) cn (fun j => fif j xa xb xc xd xe) i) (cn + i) (fif i xa xb xc xd xe))) (va_up (va_up fl 0 0) 1 (nI (cn + i)))) H locs := hI
                      refine lv_aload_n hx hb d_MD_add_147 rfl (lv_at hl 0 rfl) ?_
                      refine lv_dup hx hb d_MD_add_148 rfl ?_
                      refine g_MD_119 M hI d_MD_add_149 ?_
                      refine q_as (y := nI (cn + i)) rfl ?_
                      refine lv_iconst (v := 1) hx hb d_MD_add_152 (by decide) ?_
                      refine lv_iadd hx hb d_MD_add_153 ?_
                      refine q_as (y := nI (cn + i + 1)) (nI_add (cn + i) 1) ?_
                      refine p_MD_119 M hI d_MD_add_154 (fun H locs hI => ?_)
                      have hI : CI g A s (mw g ad (va_up ar 1 (upd (apF (ar 1) cn (fun j => fif j xa xb xc xd xe) i) (cn + i) (fif i xa xb xc xd xe))) (va_up (va_up fl 0 0) 1 (nI (cn + i + 1)))) H locs := hI
                      refine lv_iinc (v := nI (i + 1)) (lv' := [(8, .int (nI (i + 1))), (0, .ref (ad 0)), (1, .int xa), (2, .int xb), (3, .int xc), (4, .int xd), (5, .int xe), (6, .int (nI m5))]) hx hb d_MD_add_157 hl (k := 7) rfl (nI_add _ 1) (by decide) rfl (fun ls hl => ?_)
                      refine lv_goto (tgt := 119) hx hb d_MD_add_160 (by decide) ?_
                      exact ih119 (i + 1) (by omega) (by first | assumption | omega) _ _ _ hI (lv_sub hl [1, 2, 3, 4, 5, 6, 7, 0] rfl)
                have hI := CI.to (w2 := mw g ad (va_up ar 1 (apF (ar 1) cn (fun j => fif j xa xb xc xd xe) 0)) (va_up (va_up fl 0 0) 1 (nI (cn + 0)))) hI (by rw [show cn + 0 = cn from rfl, ← h1]; rfl)
                exact L119 _ 0 (Nat.lt_succ_self _) (by first | assumption | omega) _ _ _ hI (lv_sub hl [1, 2, 3, 4, 5, 6, 7, 0] rfl)
              · have c111 := bI_ne0.mp c111
                exact absurd (by decide) c111
            · have c100 : ¬ cn + m5 ≤ 2000 := fun h => c100 ((nI_leI (a := cn + m5) (b := 2000) (by omega) (by omega)).mpr h)
              exfalso; omega
          · have c83 : 1 = 0 := (nI_eq (a := 1) (b := 0) (by omega) (by omega)).mp c83
            exfalso; omega
        · have c41 : ¬ m5 ≤ i := fun h => c41 ((nI_leI (a := m5) (b := i) (by omega) (by omega)).mpr h)
          refine lv_iload hx hb d_MD_add_44 (lv_at hl 7 rfl) ?_
          refine lv_if_eq (tgt := 71) hx hb d_MD_add_46 (by decide) (fun c46 => ?_) (fun c46 => ?_)
          · have c46 : 1 = 0 := (nI_eq (a := 1) (b := 0) (by omega) (by omega)).mp c46
            exfalso; omega
          · have c46 : ¬ 1 = 0 := fun h => c46 ((nI_eq (a := 1) (b := 0) (by omega) (by omega)).mpr h)
            refine lv_iload hx hb d_MD_add_49 (lv_at hl 8 rfl) ?_
            refine lv_iload_n hx hb d_MD_add_51 rfl (lv_at hl 1 rfl) ?_
            refine lv_iload_n hx hb d_MD_add_52 rfl (lv_at hl 2 rfl) ?_
            refine lv_iload_n hx hb d_MD_add_53 rfl (lv_at hl 3 rfl) ?_
            refine lv_iload hx hb d_MD_add_54 (lv_at hl 4 rfl) ?_
            refine lv_iload hx hb d_MD_add_56 (lv_at hl 5 rfl) ?_
            refine q_calliS [.int (nI i), .int xa, .int xb, .int xc, .int xd, .int xe] M hI (c_MD_fifth l g (mw g ad ar fl) i xa xb xc xd xe (by omega)) ok_MD_fifth m5_88 m5_89 rfl rfl hl.1 ⟨rfl, rfl⟩ ⟨Nat.le_of_ble_eq_true rfl, Nat.le_of_ble_eq_true rfl⟩ (Nat.le_of_ble_eq_true rfl) ⟨Nat.le_of_ble_eq_true rfl, Nat.le_of_ble_eq_true rfl⟩ d_MD_add_58 (fun r58 u58 H locs hp58 hI => ?_)
            refine q_as (y := fif i xa xb xc xd xe) hp58 ?_
            refine q_calliS [.int (fif i xa xb xc xd xe)] M hI (c_MD_isCharacter l g (mw g ad ar fl) (fif i xa xb xc xd xe)) ok_MD_isCharacter m5_52 m5_53 rfl rfl hl.1 ⟨rfl, rfl⟩ ⟨Nat.le_of_ble_eq_true rfl, Nat.le_of_ble_eq_true rfl⟩ (Nat.le_of_ble_eq_true rfl) ⟨Nat.le_of_ble_eq_true rfl, Nat.le_of_ble_eq_true rfl⟩ d_MD_add_61 (fun r61 u61 H locs hp61 hI => ?_)
            refine q_as (y := bI (isch (fif i xa xb xc xd xe))) hp61 ?_
            refine lv_if_eq (tgt := 71) hx hb d_MD_add_64 (by decide) (fun c64 => ?_) (fun c64 => ?_)
            · have c64 := bI_eq0.mp c64
              exact absurd (hS i (by omega)) c64
            · have c64 := bI_ne0.mp c64
              refine lv_iconst (v := 1) hx hb d_MD_add_67 (by decide) ?_
              refine lv_goto (tgt := 72) hx hb d_MD_add_68 (by decide) ?_
              refine lv_istore (lv' := [(7, .int 1), (0, .ref (ad 0)), (1, .int xa), (2, .int xb), (3, .int xc), (4, .int xd), (5, .int xe), (6, .int (nI m5)), (8, .int (nI i))]) hx hb d_MD_add_72 hl (by decide) rfl (fun ls hl => ?_)
              refine lv_iinc (v := nI (i + 1)) (lv' := [(8, .int (nI (i + 1))), (7, .int 1), (0, .ref (ad 0)), (1, .int xa), (2, .int xb), (3, .int xc), (4, .int xd), (5, .int xe), (6, .int (nI m5))]) hx hb d_MD_add_74 hl (k := 8) rfl (nI_add _ 1) (by decide) rfl (fun ls hl => ?_)
              refine lv_goto (tgt := 37) hx hb d_MD_add_77 (by decide) ?_
              exact ih37 (i + 1) (by omega) (by first | assumption | omega) _ _ _ hI (lv_sub hl [2, 3, 4, 5, 6, 7, 8, 1, 0] rfl)
    exact L37 _ 0 (Nat.lt_succ_self _) (by first | assumption | omega) _ _ _ hI (lv_sub hl [2, 3, 4, 5, 6, 7, 8, 1, 0] rfl)
  refine lv_iconst (v := 0) hx hb d_MD_add_0 (by decide) ?_
  refine lv_istore (lv' := [(6, .int 0), (0, .ref (ad 0)), (1, .int xa), (2, .int xb), (3, .int xc), (4, .int xd), (5, .int xe)]) hx hb d_MD_add_1 hl (by decide) rfl (fun ls hl => ?_)
  have L3 : ∀ (fu : Nat) (i : Nat), (5 - i) < fu → (i ≤ m5) → ∀ (H : Heap) (locs : List Loc) (ls : Array Slot), CI g A s (mw g ad ar fl) H locs → lv_has ls 9 [(0, .ref (ad 0)), (1, .int xa), (2, .int xb), (3, .int xc), (4, .int xd), (5, .int xe), (6, .int (nI i))] → W p l e rm_MD_add_c_MD_add_0 s m args below meth c H locs 0 0 Q (F0 m 3 ls []) := by
    intro fu
    induction fu with
    | zero => intro i hm; exact absurd hm (Nat.not_lt_zero _)
    | succ fu ih3 =>
      intro i hm hi H locs ls hI hl
      refine lv_iload hx hb d_MD_add_3 (lv_at hl 6 rfl) ?_
      refine lv_iconst (v := 5) hx hb d_MD_add_5 (by decide) ?_
      refine lv_icmp_ge (tgt := 31) hx hb d_MD_add_6 (by decide) (fun c6 => ?_) (fun c6 => ?_)
      · have c6 : 5 ≤ i := (nI_leI (a := 5) (b := i) (by omega) (by omega)).mp c6
        have e5 : i = m5 := by omega
        rw [e5] at hl
        exact L31    _ _ _ hI (lv_sub hl [0, 1, 2, 3, 4, 5, 6] rfl)
      · have c6 : ¬ 5 ≤ i := fun h => c6 ((nI_leI (a := 5) (b := i) (by omega) (by omega)).mpr h)
        have h31 : i < 5 := by omega
        refine lv_iload hx hb d_MD_add_9 (lv_at hl 6 rfl) ?_
        refine lv_iload_n hx hb d_MD_add_11 rfl (lv_at hl 1 rfl) ?_
        refine lv_iload_n hx hb d_MD_add_12 rfl (lv_at hl 2 rfl) ?_
        refine lv_iload_n hx hb d_MD_add_13 rfl (lv_at hl 3 rfl) ?_
        refine lv_iload hx hb d_MD_add_14 (lv_at hl 4 rfl) ?_
        refine lv_iload hx hb d_MD_add_16 (lv_at hl 5 rfl) ?_
        refine q_calliS [.int (nI i), .int xa, .int xb, .int xc, .int xd, .int xe] M hI (c_MD_fifth l g (mw g ad ar fl) i xa xb xc xd xe (by omega)) ok_MD_fifth m5_88 m5_89 rfl rfl hl.1 ⟨rfl, rfl⟩ ⟨Nat.le_of_ble_eq_true rfl, Nat.le_of_ble_eq_true rfl⟩ (Nat.le_of_ble_eq_true rfl) ⟨Nat.le_of_ble_eq_true rfl, Nat.le_of_ble_eq_true rfl⟩ d_MD_add_18 (fun r18 u18 H locs hp18 hI => ?_)
        refine q_as (y := fif i xa xb xc xd xe) hp18 ?_
        refine lv_iconst (v := (-1)) hx hb d_MD_add_21 (by decide) ?_
        refine lv_icmp_eq (tgt := 31) hx hb d_MD_add_22 (by decide) (fun c22 => ?_) (fun c22 => ?_)
        · have e5 : i = m5 := by rcases Nat.lt_or_ge i m5 with z | z; exact absurd c22 (hm1 i z); omega
          rw [e5] at hl
          exact L31    _ _ _ hI (lv_sub hl [0, 1, 2, 3, 4, 5, 6] rfl)
        · have hi2 : i + 1 ≤ m5 := by rcases Nat.lt_or_ge i m5 with z | z; exact z; exact absurd (hm2.resolve_left (by omega)) (by rw [show m5 = i by omega]; exact c22)
          refine lv_iinc (v := nI (i + 1)) (lv' := [(6, .int (nI (i + 1))), (0, .ref (ad 0)), (1, .int xa), (2, .int xb), (3, .int xc), (4, .int xd), (5, .int xe)]) hx hb d_MD_add_25 hl (k := 6) rfl (nI_add _ 1) (by decide) rfl (fun ls hl => ?_)
          refine lv_goto (tgt := 3) hx hb d_MD_add_28 (by decide) ?_
          exact ih3 (i + 1) (by omega) (hi2) _ _ _ hI (lv_sub hl [1, 2, 3, 4, 5, 6, 0] rfl)
  exact L3 _ 0 (Nat.lt_succ_self _) (Nat.zero_le _) _ _ _ hI (lv_sub hl [1, 2, 3, 4, 5, 6, 0] rfl)
abbrev rm_MD_add_c_MD_add_1 : Room := { frames := 1, cells := 0, slots := 0, locals := 25 }
set_option maxHeartbeats 4000000 in
set_option maxRecDepth 100000 in
theorem c_MD_add_1 (l : Launch) (g : Geo) (ad : Nat → Nat) (ar : Nat → Nat → Int32) (fl : Nat → Int32) (xa : Int32) (xb : Int32) (xc : Int32) (xd : Int32) (xe : Int32) (m5 cn : Nat) (hm5 : m5 ≤ 5) (hm1 : ∀ j, j < m5 → ¬ fif j xa xb xc xd xe = -1) (hm2 : m5 = 5 ∨ fif m5 xa xb xc xd xe = -1) (h1 : fl 1 = nI cn) (hcN : cn ≤ 2000) (hS : ¬ (∀ j, j < m5 → isch (fif j xa xb xc xd xe))) : cMi l y_MD_add (.code y_MD_add b_MD_add 9 (some .int) :: gw) rm_MD_add_c_MD_add_1 g [.ref (ad 0), .int xa, .int xb, .int xc, .int xd, .int xe] (mw g ad ar fl) (fun (r : Int32) (_ : Unit) => True) (fun (_ : Unit) => mw g ad ar (va_up fl 0 1)) 0 0 := by
  refine cMi_of (by decide) (Nat.le_of_ble_eq_true rfl) ?_
  intro p e s m below meth c A Q ls M hret hl hI
  have M : MC p s m ([.ref (ad 0), .int xa, .int xb, .int xc, .int xd, .int xe] : List Value).toArray meth c R_MD b_MD_add 9 := M
  have hl : lv_has ls 9 [(0, .ref (ad 0)), (1, .int xa), (2, .int xb), (3, .int xc), (4, .int xd), (5, .int xe)] := hl
  generalize ([.ref (ad 0), .int xa, .int xb, .int xc, .int xd, .int xe] : List Value).toArray = args at M hret ⊢
  have hx := M.1
  have hb := M.2.1
  have L31 : ∀ (H : Heap) (locs : List Loc) (ls : Array Slot), CI g A s (mw g ad ar fl) H locs → lv_has ls 9 [(0, .ref (ad 0)), (1, .int xa), (2, .int xb), (3, .int xc), (4, .int xd), (5, .int xe), (6, .int (nI m5))] → W p l e rm_MD_add_c_MD_add_1 s m args below meth c H locs 0 0 Q (F0 m 31 ls []) := by
    intro   H locs ls hI hl
    refine lv_iconst (v := 1) hx hb d_MD_add_31 (by decide) ?_
    refine q_as (y := bI (∀ j, j < 0 → isch (fif j xa xb xc xd xe))) ((bI_t (fun j h => absurd h (Nat.not_lt_zero j))).symm) ?_
    refine lv_istore (lv' := [(7, .int (bI (∀ j, j < 0 → isch (fif j xa xb xc xd xe)))), (0, .ref (ad 0)), (1, .int xa), (2, .int xb), (3, .int xc), (4, .int xd), (5, .int xe), (6, .int (nI m5))]) hx hb d_MD_add_32 hl (by decide) rfl (fun ls hl => ?_)
    refine lv_iconst (v := 0) hx hb d_MD_add_34 (by decide) ?_
    refine lv_istore (lv' := [(8, .int 0), (7, .int (bI (∀ j, j < 0 → isch (fif j xa xb xc xd xe)))), (0, .ref (ad 0)), (1, .int xa), (2, .int xb), (3, .int xc), (4, .int xd), (5, .int xe), (6, .int (nI m5))]) hx hb d_MD_add_35 hl (by decide) rfl (fun ls hl => ?_)
    have L37 : ∀ (fu : Nat) (i : Nat), (m5 - i) < fu → (i ≤ m5) → ∀ (H : Heap) (locs : List Loc) (ls : Array Slot), CI g A s (mw g ad ar fl) H locs → lv_has ls 9 [(0, .ref (ad 0)), (1, .int xa), (2, .int xb), (3, .int xc), (4, .int xd), (5, .int xe), (6, .int (nI m5)), (7, .int (bI (∀ j, j < i → isch (fif j xa xb xc xd xe)))), (8, .int (nI i))] → W p l e rm_MD_add_c_MD_add_1 s m args below meth c H locs 0 0 Q (F0 m 37 ls []) := by
      intro fu
      induction fu with
      | zero => intro i hm; exact absurd hm (Nat.not_lt_zero _)
      | succ fu ih37 =>
        intro i hm hi H locs ls hI hl
        refine lv_iload hx hb d_MD_add_37 (lv_at hl 8 rfl) ?_
        refine lv_iload hx hb d_MD_add_39 (lv_at hl 6 rfl) ?_
        refine lv_icmp_ge (tgt := 80) hx hb d_MD_add_41 (by decide) (fun c41 => ?_) (fun c41 => ?_)
        · have c41 : m5 ≤ i := (nI_leI (a := m5) (b := i) (by omega) (by omega)).mp c41
          refine lv_aload_n hx hb d_MD_add_80 rfl (lv_at hl 0 rfl) ?_
          refine lv_iload hx hb d_MD_add_81 (lv_at hl 7 rfl) ?_
          refine lv_if_ne (tgt := 90) hx hb d_MD_add_83 (by decide) (fun c83 => ?_) (fun c83 => ?_)
          · have c83 := bI_ne0.mp c83
            exact absurd (by rw [show m5 = i by omega]; exact c83) hS
          · have c83 := bI_eq0.mp c83
            refine lv_iconst (v := 1) hx hb d_MD_add_86 (by decide) ?_
            refine lv_goto (tgt := 108) hx hb d_MD_add_87 (by decide) ?_
            refine q_calliV [.int 1] M hI (c_MD_refused l g ad ar fl 1) ok_MD_refused m5_56 m5_58 ms_45 0 rfl rfl rfl rfl hl.1 ⟨rfl, rfl⟩ ⟨Nat.le_of_ble_eq_true rfl, Nat.le_of_ble_eq_true rfl⟩ (Nat.le_of_ble_eq_true rfl) ⟨Nat.le_of_ble_eq_true rfl, Nat.le_of_ble_eq_true rfl⟩ d_MD_add_108 (fun r108 u108 H locs hp108 hI => ?_)
            have hI : CI g A s (mw g ad ar (va_up fl 0 1)) H locs := hI
            refine q_as (y := bI (¬ 1 ≤ 0)) hp108 ?_
            refine lv_if_eq (tgt := 116) hx hb d_MD_add_111 (by decide) (fun c111 => ?_) (fun c111 => ?_)
            · have c111 := bI_eq0.mp c111
              exact absurd (by decide) c111
            · have c111 := bI_ne0.mp c111
              refine lv_iconst (v := 0) hx hb d_MD_add_114 (by decide) ?_
              exact hret 0 () _ _ _ _ _ _ d_MD_add_115 hI (trivial) (Nat.le_refl 0) (Nat.le_refl 0)
        · have c41 : ¬ m5 ≤ i := fun h => c41 ((nI_leI (a := m5) (b := i) (by omega) (by omega)).mpr h)
          refine lv_iload hx hb d_MD_add_44 (lv_at hl 7 rfl) ?_
          refine lv_if_eq (tgt := 71) hx hb d_MD_add_46 (by decide) (fun c46 => ?_) (fun c46 => ?_)
          · have c46 := bI_eq0.mp c46
            refine lv_iconst (v := 0) hx hb d_MD_add_71 (by decide) ?_
            refine q_as (y := bI (∀ j, j < i + 1 → isch (fif j xa xb xc xd xe))) (by symm; first | (apply bI_f; intro z; exact c64 (z i (by omega))) | (apply bI_f; intro z; exact c46 (fun j h => z j (by omega)))) ?_
            refine lv_istore (lv' := [(7, .int (bI (∀ j, j < i + 1 → isch (fif j xa xb xc xd xe)))), (0, .ref (ad 0)), (1, .int xa), (2, .int xb), (3, .int xc), (4, .int xd), (5, .int xe), (6, .int (nI m5)), (8, .int (nI i))]) hx hb d_MD_add_72 hl (by decide) rfl (fun ls hl => ?_)
            refine lv_iinc (v := nI (i + 1)) (lv' := [(8, .int (nI (i + 1))), (7, .int (bI (∀ j, j < i + 1 → isch (fif j xa xb xc xd xe)))), (0, .ref (ad 0)), (1, .int xa), (2, .int xb), (3, .int xc), (4, .int xd), (5, .int xe), (6, .int (nI m5))]) hx hb d_MD_add_74 hl (k := 8) rfl (nI_add _ 1) (by decide) rfl (fun ls hl => ?_)
            refine lv_goto (tgt := 37) hx hb d_MD_add_77 (by decide) ?_
            exact ih37 (i + 1) (by omega) (by first | assumption | omega) _ _ _ hI (lv_sub hl [2, 3, 4, 5, 6, 7, 8, 1, 0] rfl)
          · have c46 := bI_ne0.mp c46
            refine lv_iload hx hb d_MD_add_49 (lv_at hl 8 rfl) ?_
            refine lv_iload_n hx hb d_MD_add_51 rfl (lv_at hl 1 rfl) ?_
            refine lv_iload_n hx hb d_MD_add_52 rfl (lv_at hl 2 rfl) ?_
            refine lv_iload_n hx hb d_MD_add_53 rfl (lv_at hl 3 rfl) ?_
            refine lv_iload hx hb d_MD_add_54 (lv_at hl 4 rfl) ?_
            refine lv_iload hx hb d_MD_add_56 (lv_at hl 5 rfl) ?_
            refine q_calliS [.int (nI i), .int xa, .int xb, .int xc, .int xd, .int xe] M hI (c_MD_fifth l g (mw g ad ar fl) i xa xb xc xd xe (by omega)) ok_MD_fifth m5_88 m5_89 rfl rfl hl.1 ⟨rfl, rfl⟩ ⟨Nat.le_of_ble_eq_true rfl, Nat.le_of_ble_eq_true rfl⟩ (Nat.le_of_ble_eq_true rfl) ⟨Nat.le_of_ble_eq_true rfl, Nat.le_of_ble_eq_true rfl⟩ d_MD_add_58 (fun r58 u58 H locs hp58 hI => ?_)
            refine q_as (y := fif i xa xb xc xd xe) hp58 ?_
            refine q_calliS [.int (fif i xa xb xc xd xe)] M hI (c_MD_isCharacter l g (mw g ad ar fl) (fif i xa xb xc xd xe)) ok_MD_isCharacter m5_52 m5_53 rfl rfl hl.1 ⟨rfl, rfl⟩ ⟨Nat.le_of_ble_eq_true rfl, Nat.le_of_ble_eq_true rfl⟩ (Nat.le_of_ble_eq_true rfl) ⟨Nat.le_of_ble_eq_true rfl, Nat.le_of_ble_eq_true rfl⟩ d_MD_add_61 (fun r61 u61 H locs hp61 hI => ?_)
            refine q_as (y := bI (isch (fif i xa xb xc xd xe))) hp61 ?_
            refine lv_if_eq (tgt := 71) hx hb d_MD_add_64 (by decide) (fun c64 => ?_) (fun c64 => ?_)
            · have c64 := bI_eq0.mp c64
              refine lv_iconst (v := 0) hx hb d_MD_add_71 (by decide) ?_
              refine q_as (y := bI (∀ j, j < i + 1 → isch (fif j xa xb xc xd xe))) (by symm; first | (apply bI_f; intro z; exact c64 (z i (by omega))) | (apply bI_f; intro z; exact c46 (fun j h => z j (by omega)))) ?_
              refine lv_istore (lv' := [(7, .int (bI (∀ j, j < i + 1 → isch (fif j xa xb xc xd xe)))), (0, .ref (ad 0)), (1, .int xa), (2, .int xb), (3, .int xc), (4, .int xd), (5, .int xe), (6, .int (nI m5)), (8, .int (nI i))]) hx hb d_MD_add_72 hl (by decide) rfl (fun ls hl => ?_)
              refine lv_iinc (v := nI (i + 1)) (lv' := [(8, .int (nI (i + 1))), (7, .int (bI (∀ j, j < i + 1 → isch (fif j xa xb xc xd xe)))), (0, .ref (ad 0)), (1, .int xa), (2, .int xb), (3, .int xc), (4, .int xd), (5, .int xe), (6, .int (nI m5))]) hx hb d_MD_add_74 hl (k := 8) rfl (nI_add _ 1) (by decide) rfl (fun ls hl => ?_)
              refine lv_goto (tgt := 37) hx hb d_MD_add_77 (by decide) ?_
              exact ih37 (i + 1) (by omega) (by first | assumption | omega) _ _ _ hI (lv_sub hl [2, 3, 4, 5, 6, 7, 8, 1, 0] rfl)
            · have c64 := bI_ne0.mp c64
              refine lv_iconst (v := 1) hx hb d_MD_add_67 (by decide) ?_
              refine q_as (y := bI (∀ j, j < i + 1 → isch (fif j xa xb xc xd xe))) ((bI_t (fun j h => by rcases Nat.lt_or_ge j i with z | z; exact c46 j z; rw [show j = i by omega]; exact c64)).symm) ?_
              refine lv_goto (tgt := 72) hx hb d_MD_add_68 (by decide) ?_
              refine lv_istore (lv' := [(7, .int (bI (∀ j, j < i + 1 → isch (fif j xa xb xc xd xe)))), (0, .ref (ad 0)), (1, .int xa), (2, .int xb), (3, .int xc), (4, .int xd), (5, .int xe), (6, .int (nI m5)), (8, .int (nI i))]) hx hb d_MD_add_72 hl (by decide) rfl (fun ls hl => ?_)
              refine lv_iinc (v := nI (i + 1)) (lv' := [(8, .int (nI (i + 1))), (7, .int (bI (∀ j, j < i + 1 → isch (fif j xa xb xc xd xe)))), (0, .ref (ad 0)), (1, .int xa), (2, .int xb), (3, .int xc), (4, .int xd), (5, .int xe), (6, .int (nI m5))]) hx hb d_MD_add_74 hl (k := 8) rfl (nI_add _ 1) (by decide) rfl (fun ls hl => ?_)
              refine lv_goto (tgt := 37) hx hb d_MD_add_77 (by decide) ?_
              exact ih37 (i + 1) (by omega) (by first | assumption | omega) _ _ _ hI (lv_sub hl [2, 3, 4, 5, 6, 7, 8, 1, 0] rfl)
    exact L37 _ 0 (Nat.lt_succ_self _) (by first | assumption | omega) _ _ _ hI (lv_sub hl [2, 3, 4, 5, 6, 7, 8, 1, 0] rfl)
  refine lv_iconst (v := 0) hx hb d_MD_add_0 (by decide) ?_
  refine lv_istore (lv' := [(6, .int 0), (0, .ref (ad 0)), (1, .int xa), (2, .int xb), (3, .int xc), (4, .int xd), (5, .int xe)]) hx hb d_MD_add_1 hl (by decide) rfl (fun ls hl => ?_)
  have L3 : ∀ (fu : Nat) (i : Nat), (5 - i) < fu → (i ≤ m5) → ∀ (H : Heap) (locs : List Loc) (ls : Array Slot), CI g A s (mw g ad ar fl) H locs → lv_has ls 9 [(0, .ref (ad 0)), (1, .int xa), (2, .int xb), (3, .int xc), (4, .int xd), (5, .int xe), (6, .int (nI i))] → W p l e rm_MD_add_c_MD_add_1 s m args below meth c H locs 0 0 Q (F0 m 3 ls []) := by
    intro fu
    induction fu with
    | zero => intro i hm; exact absurd hm (Nat.not_lt_zero _)
    | succ fu ih3 =>
      intro i hm hi H locs ls hI hl
      refine lv_iload hx hb d_MD_add_3 (lv_at hl 6 rfl) ?_
      refine lv_iconst (v := 5) hx hb d_MD_add_5 (by decide) ?_
      refine lv_icmp_ge (tgt := 31) hx hb d_MD_add_6 (by decide) (fun c6 => ?_) (fun c6 => ?_)
      · have c6 : 5 ≤ i := (nI_leI (a := 5) (b := i) (by omega) (by omega)).mp c6
        have e5 : i = m5 := by omega
        rw [e5] at hl
        exact L31    _ _ _ hI (lv_sub hl [0, 1, 2, 3, 4, 5, 6] rfl)
      · have c6 : ¬ 5 ≤ i := fun h => c6 ((nI_leI (a := 5) (b := i) (by omega) (by omega)).mpr h)
        have h31 : i < 5 := by omega
        refine lv_iload hx hb d_MD_add_9 (lv_at hl 6 rfl) ?_
        refine lv_iload_n hx hb d_MD_add_11 rfl (lv_at hl 1 rfl) ?_
        refine lv_iload_n hx hb d_MD_add_12 rfl (lv_at hl 2 rfl) ?_
        refine lv_iload_n hx hb d_MD_add_13 rfl (lv_at hl 3 rfl) ?_
        refine lv_iload hx hb d_MD_add_14 (lv_at hl 4 rfl) ?_
        refine lv_iload hx hb d_MD_add_16 (lv_at hl 5 rfl) ?_
        refine q_calliS [.int (nI i), .int xa, .int xb, .int xc, .int xd, .int xe] M hI (c_MD_fifth l g (mw g ad ar fl) i xa xb xc xd xe (by omega)) ok_MD_fifth m5_88 m5_89 rfl rfl hl.1 ⟨rfl, rfl⟩ ⟨Nat.le_of_ble_eq_true rfl, Nat.le_of_ble_eq_true rfl⟩ (Nat.le_of_ble_eq_true rfl) ⟨Nat.le_of_ble_eq_true rfl, Nat.le_of_ble_eq_true rfl⟩ d_MD_add_18 (fun r18 u18 H locs hp18 hI => ?_)
        refine q_as (y := fif i xa xb xc xd xe) hp18 ?_
        refine lv_iconst (v := (-1)) hx hb d_MD_add_21 (by decide) ?_
        refine lv_icmp_eq (tgt := 31) hx hb d_MD_add_22 (by decide) (fun c22 => ?_) (fun c22 => ?_)
        · have e5 : i = m5 := by rcases Nat.lt_or_ge i m5 with z | z; exact absurd c22 (hm1 i z); omega
          rw [e5] at hl
          exact L31    _ _ _ hI (lv_sub hl [0, 1, 2, 3, 4, 5, 6] rfl)
        · have hi2 : i + 1 ≤ m5 := by rcases Nat.lt_or_ge i m5 with z | z; exact z; exact absurd (hm2.resolve_left (by omega)) (by rw [show m5 = i by omega]; exact c22)
          refine lv_iinc (v := nI (i + 1)) (lv' := [(6, .int (nI (i + 1))), (0, .ref (ad 0)), (1, .int xa), (2, .int xb), (3, .int xc), (4, .int xd), (5, .int xe)]) hx hb d_MD_add_25 hl (k := 6) rfl (nI_add _ 1) (by decide) rfl (fun ls hl => ?_)
          refine lv_goto (tgt := 3) hx hb d_MD_add_28 (by decide) ?_
          exact ih3 (i + 1) (by omega) (hi2) _ _ _ hI (lv_sub hl [1, 2, 3, 4, 5, 6, 0] rfl)
  exact L3 _ 0 (Nat.lt_succ_self _) (Nat.zero_le _) _ _ _ hI (lv_sub hl [1, 2, 3, 4, 5, 6, 0] rfl)
