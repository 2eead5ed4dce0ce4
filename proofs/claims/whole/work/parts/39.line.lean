/-! 39: Line -/
theorem rvs_ne {m b e : Nat} {O : Nat → Nat} {P : Nat → Prop} (h : ∀ j, j < m → P (O j)) (he : e ≤ m) : ∀ j, j < m → P (rvs b e O j) := by
  intro j hj
  simp only [rvs]
  split
  · exact h _ (by omega)
  · exact h j hj
theorem trS_ne {LV : Nat → Nat} {m v : Nat} {O : Nat → Nat} {P : Nat → Prop} (h : ∀ j, j < m → P (O j)) : ∀ i, i ≤ m + 1 → ∀ {j}, j < m → P ((trS LV m v O i).2 j)
  | 0, _, j, hj => h j hj
  | i + 1, hi, j, hj => by
    have ih := fun j hj => trS_ne (LV := LV) (v := v) h i (by omega) (j := j) hj
    simp only [trS]
    split
    · exact rvs_ne ih (by omega) j hj
    · exact ih j hj
abbrev rm_LN_turn : Room := { frames := 0, cells := 0, slots := 0, locals := 0 }
set_option maxHeartbeats 4000000 in
set_option maxRecDepth 100000 in
theorem c_LN_turn (l : Launch) (g : Geo) (ad : Nat → Nat) (ar : Nat → Nat → Int32) (fl : Nat → Int32) (b : Nat) (x : Int32) (ed mm : Nat) (O : Nat → Nat) (hxe : x = nI ed - 1) (hbe : b ≤ ed) (hem : ed ≤ mm) (hM : mm ≤ 2000) (hO : oR (ar 41) O mm) : cMv l y_LN_turn (.code y_LN_turn b_LN_turn 6 none :: gw) rm_LN_turn g [.ref (ad 11), .int (nI b), .int x] (cw g ad ar fl) (fun (u : (Nat → Int32)) => oR u (rvs b ed O) mm) (fun (u : (Nat → Int32)) => cw g ad (va_up ar 41 u) fl) 0 0 := by
  refine cMv_of (by decide) (Nat.le_of_ble_eq_true rfl) ?_
  intro p e s m below meth c A Q ls M hnm hret hl hI
  have M : MC p s m ([.ref (ad 11), .int (nI b), .int x] : List Value).toArray meth c R_LN b_LN_turn 6 := M
  have hl : lv_has ls 6 [(0, .ref (ad 11)), (1, .int (nI b)), (2, .int x)] := hl
  generalize ([.ref (ad 11), .int (nI b), .int x] : List Value).toArray = args at M hret ⊢
  have hx := M.1
  have hb := M.2.1
  rw [hxe] at hl
  refine lv_iload_n hx hb d_LN_turn_0 rfl (lv_at hl 1 rfl) ?_
  refine lv_istore_n (lv' := [(3, .int (nI b)), (0, .ref (ad 11)), (1, .int (nI b)), (2, .int (nI ed - 1))]) hx hb d_LN_turn_1 rfl hl (by decide) rfl (fun ls hl => ?_)
  refine lv_iload_n hx hb d_LN_turn_2 rfl (lv_at hl 3 rfl) ?_
  refine lv_istore (lv' := [(4, .int (nI ed - 1)), (3, .int (nI b)), (0, .ref (ad 11)), (1, .int (nI b)), (2, .int (nI ed - 1))]) hx hb d_LN_turn_3 hl (by decide) rfl (fun ls hl => ?_)
  have L5 : ∀ (fu : Nat) (t : Nat) (y : Nat → Int32), (ed - t) < fu → (2 * t ≤ ed - b) → (oR y (swp b ed t O) mm) → ∀ (H : Heap) (locs : List Loc) (ls : Array Slot), CI g A s (cw g ad (va_up ar 41 y) fl) H locs → lv_has ls 6 [(0, .ref (ad 11)), (3, .int (nI (b + t))), (4, .int (nI (ed - t) - 1))] → W p l e rm_LN_turn s m args below meth c H locs 0 0 Q (F0 m 5 ls []) := by
    intro fu
    induction fu with
    | zero => intro t y hm; exact absurd hm (Nat.not_lt_zero _)
    | succ fu ih5 =>
      intro t y hm ht hy H locs ls hI hl
      refine lv_iload_n hx hb d_LN_turn_5 rfl (lv_at hl 1 rfl) ?_
      refine lv_iload hx hb d_LN_turn_6 (lv_at hl 2 rfl) ?_
      refine lv_icmp_ge (tgt := 50) hx hb d_LN_turn_8 (by decide) (fun c8 => ?_) (fun c8 => ?_)
      · have c8 := (nI_m1le (by omega) (by omega)).mp c8
        exact hret y _ _ _ _ _ _ d_LN_turn_50 hI (by rw [← swp_e c8 ht]; exact hy) (Nat.le_refl 0) (Nat.le_refl 0)
      · have c8 : ¬ ed - t ≤ b + t + 1 := fun q => c8 ((nI_m1le (by omega) (by omega)).mpr q)
        rw [nI_p1 (show 0 < ed - t by omega)] at hl
        have hy2 := swp_s hy (by omega) ht hem
        refine lv_aload_n hx hb d_LN_turn_11 rfl (lv_at hl 0 rfl) ?_
        refine g_LN_9 M hI d_LN_turn_12 ?_
        refine lv_iload_n hx hb d_LN_turn_15 rfl (lv_at hl 1 rfl) ?_
        refine al_41 M hI (b + t) rfl (by omega) d_LN_turn_16 ?_
        refine q_as (y := y (b + t)) rfl ?_
        refine lv_istore (lv' := [(5, .int (y (b + t))), (0, .ref (ad 11)), (3, .int (nI (b + t))), (4, .int (nI (ed - t - 1)))]) hx hb d_LN_turn_17 hl (by decide) rfl (fun ls hl => ?_)
        refine lv_aload_n hx hb d_LN_turn_19 rfl (lv_at hl 1 rfl) ?_
        refine g_LN_9 M hI d_LN_turn_20 ?_
        refine lv_iload_n hx hb d_LN_turn_23 rfl (lv_at hl 2 rfl) ?_
        refine lv_aload_n hx hb d_LN_turn_24 rfl (lv_at hl 1 rfl) ?_
        refine g_LN_9 M hI d_LN_turn_25 ?_
        refine lv_iload hx hb d_LN_turn_28 (lv_at hl 3 rfl) ?_
        refine al_41 M hI (ed - t - 1) rfl (by omega) d_LN_turn_30 ?_
        refine q_as (y := y (ed - t - 1)) rfl ?_
        refine as_41 M hI (b + t) rfl (by omega) d_LN_turn_31 (fun H locs hI => ?_)
        have hI : CI g A s (cw g ad (va_up ar 41 (upd y (b + t) (y (ed - t - 1)))) fl) H locs := hI
        refine lv_aload_n hx hb d_LN_turn_32 rfl (lv_at hl 1 rfl) ?_
        refine g_LN_9 M hI d_LN_turn_33 ?_
        refine lv_iload hx hb d_LN_turn_36 (lv_at hl 3 rfl) ?_
        refine lv_iload hx hb d_LN_turn_38 (lv_at hl 0 rfl) ?_
        refine as_41 M hI (ed - t - 1) rfl (by omega) d_LN_turn_40 (fun H locs hI => ?_)
        have hI : CI g A s (cw g ad (va_up ar 41 (upd (upd y (b + t) (y (ed - t - 1))) (ed - t - 1) (y (b + t)))) fl) H locs := hI
        refine lv_iinc (v := nI (b + t + 1)) (lv' := [(3, .int (nI (b + t + 1))), (5, .int (y (b + t))), (0, .ref (ad 11)), (4, .int (nI (ed - t - 1)))]) hx hb d_LN_turn_41 hl (k := 2) rfl (nI_add _ 1) (by decide) rfl (fun ls hl => ?_)
        refine lv_iinc (v := nI (ed - (t + 1)) - 1) (lv' := [(4, .int (nI (ed - (t + 1)) - 1)), (3, .int (nI (b + t + 1))), (5, .int (y (b + t))), (0, .ref (ad 11))]) hx hb d_LN_turn_44 hl (k := 3) rfl (by rw [nI_dec, show ed - (t + 1) = ed - t - 1 by omega]) (by decide) rfl (fun ls hl => ?_)
        refine lv_goto (tgt := 5) hx hb d_LN_turn_47 (by decide) ?_
        exact ih5 (t + 1) (upd (upd y (b + t) (y (ed - t - 1))) (ed - t - 1) (y (b + t))) (by omega) (by first | assumption | omega) (hy2) _ _ _ hI (lv_sub hl [3, 1, 0] rfl)
  have hI := CI.to (w2 := cw g ad (va_up ar 41 (ar 41)) fl) hI (by rfl)
  exact L5 _ 0 (ar 41) (Nat.lt_succ_self _) (by first | assumption | omega) (by rw [swp_0]; exact hO) _ _ _ hI (lv_sub hl [2, 1, 0] rfl)
abbrev rm_LN_turnRowsFrom : Room := { frames := 1, cells := 0, slots := 0, locals := 25 }
set_option maxHeartbeats 4000000 in
set_option maxRecDepth 100000 in
theorem c_LN_turnRowsFrom (l : Launch) (g : Geo) (ad : Nat → Nat) (ar : Nat → Nat → Int32) (fl : Nat → Int32) (v : Nat) (mm cn : Nat) (O LV : Nat → Nat) (hmm : fl 18 = nI mm) (hM : mm ≤ 2000) (hcn : cn ≤ 2000) (hv : v < 2 ^ 31) (hO : oR (ar 41) O mm) (hps : pos2 mm O cn) (hLV : ∀ q, q < cn → ¬ ar 42 q = -1 → ar 42 q = nI (LV q) ∧ LV q ≤ 127) (hne : ∀ j, j < mm → ¬ ar 42 (O j) = -1) : cMv l y_LN_turnRowsFrom (.code y_LN_turnRowsFrom b_LN_turnRowsFrom 4 none :: gw) rm_LN_turnRowsFrom g [.ref (ad 11), .int (nI v)] (cw g ad ar fl) (fun (u : (Nat → Int32)) => oR u (trow LV mm v O) mm) (fun (u : (Nat → Int32)) => cw g ad (va_up ar 41 u) fl) 0 0 := by
  refine cMv_of (by decide) (Nat.le_of_ble_eq_true rfl) ?_
  intro p e s m below meth c A Q ls M hnm hret hl hI
  have M : MC p s m ([.ref (ad 11), .int (nI v)] : List Value).toArray meth c R_LN b_LN_turnRowsFrom 4 := M
  have hl : lv_has ls 4 [(0, .ref (ad 11)), (1, .int (nI v))] := hl
  generalize ([.ref (ad 11), .int (nI v)] : List Value).toArray = args at M hret ⊢
  have hx := M.1
  have hb := M.2.1
  have hnn := trS_ne (LV := LV) (m := mm) (v := v) (O := O) (P := fun q => ¬ ar 42 q = -1) hne
  refine lv_iconst (v := 0) hx hb d_LN_turnRowsFrom_0 (by decide) ?_
  refine lv_istore_n (lv' := [(2, .int 0), (0, .ref (ad 11)), (1, .int (nI v))]) hx hb d_LN_turnRowsFrom_1 rfl hl (by decide) rfl (fun ls hl => ?_)
  refine lv_iconst (v := 0) hx hb d_LN_turnRowsFrom_2 (by decide) ?_
  refine lv_istore_n (lv' := [(3, .int 0), (2, .int 0), (0, .ref (ad 11)), (1, .int (nI v))]) hx hb d_LN_turnRowsFrom_3 rfl hl (by decide) rfl (fun ls hl => ?_)
  have L4 : ∀ (fu : Nat) (i : Nat) (y : Nat → Int32), (mm + 1 - i) < fu → (i ≤ mm + 1) → (oR y (trS LV mm v O i).2 mm) → ∀ (H : Heap) (locs : List Loc) (ls : Array Slot), CI g A s (cw g ad (va_up ar 41 y) fl) H locs → lv_has ls 4 [(0, .ref (ad 11)), (1, .int (nI v)), (2, .int (nI ((trS LV mm v O i).1))), (3, .int (nI i))] → W p l e rm_LN_turnRowsFrom s m args below meth c H locs 0 0 Q (F0 m 4 ls []) := by
    intro fu
    induction fu with
    | zero => intro i y hm; exact absurd hm (Nat.not_lt_zero _)
    | succ fu ih4 =>
      intro i y hm hi hy H locs ls hI hl
      refine lv_iload_n hx hb d_LN_turnRowsFrom_4 rfl (lv_at hl 3 rfl) ?_
      refine lv_aload_n hx hb d_LN_turnRowsFrom_5 rfl (lv_at hl 0 rfl) ?_
      refine g_LN_21 M hI d_LN_turnRowsFrom_6 ?_
      refine q_as (y := nI mm) hmm ?_
      refine lv_icmp_gt (tgt := 53) hx hb d_LN_turnRowsFrom_9 (by decide) (fun c9 => ?_) (fun c9 => ?_)
      · have c9 : mm < i := (nI_ltI (a := mm) (b := i) (by omega) (by omega)).mp c9
        exact hret y _ _ _ _ _ _ d_LN_turnRowsFrom_53 hI (by unfold trow; rw [show mm + 1 = i by omega]; exact hy) (Nat.le_refl 0) (Nat.le_refl 0)
      · have c9 : ¬ mm < i := fun h => c9 ((nI_ltI (a := mm) (b := i) (by omega) (by omega)).mpr h)
        have htb := trS_b LV mm v O i
        have htp := trS_pos (LV := LV) (v := v) hps i (by omega)
        refine lv_iload_n hx hb d_LN_turnRowsFrom_12 rfl (lv_at hl 3 rfl) ?_
        refine lv_aload_n hx hb d_LN_turnRowsFrom_13 rfl (lv_at hl 0 rfl) ?_
        refine g_LN_21 M hI d_LN_turnRowsFrom_14 ?_
        refine q_as (y := nI mm) hmm ?_
        refine lv_icmp_eq (tgt := 35) hx hb d_LN_turnRowsFrom_17 (by decide) (fun c17 => ?_) (fun c17 => ?_)
        · have c17 : i = mm := (nI_eq (a := i) (b := mm) (by omega) (by omega)).mp c17
          have hz : i = mm ∨ LV ((trS LV mm v O i).2 i) < v := Or.inl c17
          refine lv_aload_n hx hb d_LN_turnRowsFrom_35 rfl (lv_at hl 0 rfl) ?_
          refine lv_iload_n hx hb d_LN_turnRowsFrom_36 rfl (lv_at hl 2 rfl) ?_
          refine lv_iload_n hx hb d_LN_turnRowsFrom_37 rfl (lv_at hl 3 rfl) ?_
          refine lv_iconst (v := 1) hx hb d_LN_turnRowsFrom_38 (by decide) ?_
          refine lv_isub hx hb d_LN_turnRowsFrom_39 ?_
          refine q_callvV [.int (nI ((trS LV mm v O i).1)), .int ((nI i) - 1)] M hI (c_LN_turn l g ad (va_up ar 41 y) fl ((trS LV mm v O i).1) ((nI i) - 1) i mm ((trS LV mm v O i).2) (rfl) (by omega) (by omega) (hM) (hy)) ok_LN_turn m4_132 m4_134 ms_41 11 rfl rfl rfl rfl hl.1 ⟨rfl, rfl⟩ ⟨Nat.le_of_ble_eq_true rfl, Nat.le_of_ble_eq_true rfl⟩ (Nat.le_of_ble_eq_true rfl) ⟨Nat.le_of_ble_eq_true rfl, Nat.le_of_ble_eq_true rfl⟩ d_LN_turnRowsFrom_40 (fun u40 H locs hp40 hI => ?_)
          obtain ⟨y_40, rfl⟩ : ∃ z, z = u40 := ⟨_, rfl⟩
          have hI : CI g A s (cw g ad (va_up ar 41 y_40) fl) H locs := hI
          have eT : trS LV mm v O (i + 1) = (i + 1, rvs (trS LV mm v O i).1 i (trS LV mm v O i).2) := by simp only [trS]; rw [if_pos hz]
          have hy2 : oR y_40 (trS LV mm v O (i + 1)).2 mm := by rw [eT]; exact hp40
          refine lv_iload_n hx hb d_LN_turnRowsFrom_43 rfl (lv_at hl 3 rfl) ?_
          refine lv_iconst (v := 1) hx hb d_LN_turnRowsFrom_44 (by decide) ?_
          refine lv_iadd hx hb d_LN_turnRowsFrom_45 ?_
          refine q_as (y := nI ((trS LV mm v O (i + 1)).1)) (by rw [eT]; exact nI_add i 1) ?_
          refine lv_istore_n (lv' := [(2, .int (nI ((trS LV mm v O (i + 1)).1))), (0, .ref (ad 11)), (1, .int (nI v)), (3, .int (nI i))]) hx hb d_LN_turnRowsFrom_46 rfl hl (by decide) rfl (fun ls hl => ?_)
          refine lv_iinc (v := nI (i + 1)) (lv' := [(3, .int (nI (i + 1))), (2, .int (nI ((trS LV mm v O (i + 1)).1))), (0, .ref (ad 11)), (1, .int (nI v))]) hx hb d_LN_turnRowsFrom_47 hl (k := 3) rfl (nI_add _ 1) (by decide) rfl (fun ls hl => ?_)
          refine lv_goto (tgt := 4) hx hb d_LN_turnRowsFrom_50 (by decide) ?_
          exact ih4 (i + 1) y_40 (by omega) (by first | assumption | omega) (hy2) _ _ _ hI (lv_sub hl [2, 3, 1, 0] rfl)
        · have c17 : ¬ i = mm := fun h => c17 ((nI_eq (a := i) (b := mm) (by omega) (by omega)).mpr h)
          have hpi := htp i (by omega)
          have hlv := hLV _ hpi (hnn i (by omega) (by omega))
          refine lv_aload_n hx hb d_LN_turnRowsFrom_20 rfl (lv_at hl 0 rfl) ?_
          refine g_LN_15 M hI d_LN_turnRowsFrom_21 ?_
          refine lv_aload_n hx hb d_LN_turnRowsFrom_24 rfl (lv_at hl 0 rfl) ?_
          refine g_LN_9 M hI d_LN_turnRowsFrom_25 ?_
          refine lv_iload_n hx hb d_LN_turnRowsFrom_28 rfl (lv_at hl 3 rfl) ?_
          refine al_41 M hI i rfl (by omega) d_LN_turnRowsFrom_29 ?_
          refine q_as (y := nI ((trS LV mm v O i).2 i)) (hy i (by omega)) ?_
          refine al_42 M hI ((trS LV mm v O i).2 i) rfl (by omega) d_LN_turnRowsFrom_30 ?_
          refine q_as (y := nI (LV ((trS LV mm v O i).2 i))) (hlv.1) ?_
          refine lv_iload_n hx hb d_LN_turnRowsFrom_31 rfl (lv_at hl 1 rfl) ?_
          refine lv_icmp_ge (tgt := 47) hx hb d_LN_turnRowsFrom_32 (by decide) (fun c32 => ?_) (fun c32 => ?_)
          · have c32 : v ≤ LV ((trS LV mm v O i).2 i) := (nI_leI (a := v) (b := LV ((trS LV mm v O i).2 i)) (by omega) (by omega)).mp c32
            have eT : trS LV mm v O (i + 1) = trS LV mm v O i := by simp only [trS]; rw [if_neg (by omega)]
            have hy2 : oR y (trS LV mm v O (i + 1)).2 mm := by rw [eT]; exact hy
            rw [← eT] at hl
            refine lv_iinc (v := nI (i + 1)) (lv' := [(3, .int (nI (i + 1))), (0, .ref (ad 11)), (1, .int (nI v)), (2, .int (nI ((trS LV mm v O (i + 1)).1)))]) hx hb d_LN_turnRowsFrom_47 hl (k := 3) rfl (nI_add _ 1) (by decide) rfl (fun ls hl => ?_)
            refine lv_goto (tgt := 4) hx hb d_LN_turnRowsFrom_50 (by decide) ?_
            exact ih4 (i + 1) y (by omega) (by first | assumption | omega) (hy2) _ _ _ hI (lv_sub hl [1, 2, 3, 0] rfl)
          · have c32 : ¬ v ≤ LV ((trS LV mm v O i).2 i) := fun h => c32 ((nI_leI (a := v) (b := LV ((trS LV mm v O i).2 i)) (by omega) (by omega)).mpr h)
            have hz : i = mm ∨ LV ((trS LV mm v O i).2 i) < v := Or.inr (by omega)
            refine lv_aload_n hx hb d_LN_turnRowsFrom_35 rfl (lv_at hl 0 rfl) ?_
            refine lv_iload_n hx hb d_LN_turnRowsFrom_36 rfl (lv_at hl 2 rfl) ?_
            refine lv_iload_n hx hb d_LN_turnRowsFrom_37 rfl (lv_at hl 3 rfl) ?_
            refine lv_iconst (v := 1) hx hb d_LN_turnRowsFrom_38 (by decide) ?_
            refine lv_isub hx hb d_LN_turnRowsFrom_39 ?_
            refine q_callvV [.int (nI ((trS LV mm v O i).1)), .int ((nI i) - 1)] M hI (c_LN_turn l g ad (va_up ar 41 y) fl ((trS LV mm v O i).1) ((nI i) - 1) i mm ((trS LV mm v O i).2) (rfl) (by omega) (by omega) (hM) (hy)) ok_LN_turn m4_132 m4_134 ms_41 11 rfl rfl rfl rfl hl.1 ⟨rfl, rfl⟩ ⟨Nat.le_of_ble_eq_true rfl, Nat.le_of_ble_eq_true rfl⟩ (Nat.le_of_ble_eq_true rfl) ⟨Nat.le_of_ble_eq_true rfl, Nat.le_of_ble_eq_true rfl⟩ d_LN_turnRowsFrom_40 (fun u40 H locs hp40 hI => ?_)
            obtain ⟨y_40, rfl⟩ : ∃ z, z = u40 := ⟨_, rfl⟩
            have hI : CI g A s (cw g ad (va_up ar 41 y_40) fl) H locs := hI
            have eT : trS LV mm v O (i + 1) = (i + 1, rvs (trS LV mm v O i).1 i (trS LV mm v O i).2) := by simp only [trS]; rw [if_pos hz]
            have hy2 : oR y_40 (trS LV mm v O (i + 1)).2 mm := by rw [eT]; exact hp40
            refine lv_iload_n hx hb d_LN_turnRowsFrom_43 rfl (lv_at hl 3 rfl) ?_
            refine lv_iconst (v := 1) hx hb d_LN_turnRowsFrom_44 (by decide) ?_
            refine lv_iadd hx hb d_LN_turnRowsFrom_45 ?_
            refine q_as (y := nI ((trS LV mm v O (i + 1)).1)) (by rw [eT]; exact nI_add i 1) ?_
            refine lv_istore_n (lv' := [(2, .int (nI ((trS LV mm v O (i + 1)).1))), (0, .ref (ad 11)), (1, .int (nI v)), (3, .int (nI i))]) hx hb d_LN_turnRowsFrom_46 rfl hl (by decide) rfl (fun ls hl => ?_)
            refine lv_iinc (v := nI (i + 1)) (lv' := [(3, .int (nI (i + 1))), (2, .int (nI ((trS LV mm v O (i + 1)).1))), (0, .ref (ad 11)), (1, .int (nI v))]) hx hb d_LN_turnRowsFrom_47 hl (k := 3) rfl (nI_add _ 1) (by decide) rfl (fun ls hl => ?_)
            refine lv_goto (tgt := 4) hx hb d_LN_turnRowsFrom_50 (by decide) ?_
            exact ih4 (i + 1) y_40 (by omega) (by first | assumption | omega) (hy2) _ _ _ hI (lv_sub hl [2, 3, 1, 0] rfl)
  have hI := CI.to (w2 := cw g ad (va_up ar 41 (ar 41)) fl) hI (by rfl)
  exact L4 _ 0 (ar 41) (Nat.lt_succ_self _) (by first | assumption | omega) (hO) _ _ _ hI (lv_sub hl [2, 3, 1, 0] rfl)
abbrev rm_LN_setOrder : Room := { frames := 0, cells := 0, slots := 0, locals := 0 }
set_option maxHeartbeats 4000000 in
set_option maxRecDepth 100000 in
theorem c_LN_setOrder (l : Launch) (g : Geo) (ad : Nat → Nat) (ar : Nat → Nat → Int32) (fl : Nat → Int32) (fr : Nat) (to : Nat) (hft : fr ≤ to) (hto : to ≤ 2000) : cMv l y_LN_setOrder (.code y_LN_setOrder b_LN_setOrder 4 none :: gw) rm_LN_setOrder g [.ref (ad 11), .int (nI fr), .int (nI to)] (cw g ad ar fl) (fun (u : (Nat → Int32)) => oR u (fun j => (lineL (ar 42) fr (to - fr)).getD j 0) (lineL (ar 42) fr (to - fr)).length) (fun (u : (Nat → Int32)) => cw g ad (va_up ar 41 u) (va_up fl 18 (nI (lineL (ar 42) fr (to - fr)).length))) 0 0 := by
  refine cMv_of (by decide) (Nat.le_of_ble_eq_true rfl) ?_
  intro p e s m below meth c A Q ls M hnm hret hl hI
  have M : MC p s m ([.ref (ad 11), .int (nI fr), .int (nI to)] : List Value).toArray meth c R_LN b_LN_setOrder 4 := M
  have hl : lv_has ls 4 [(0, .ref (ad 11)), (1, .int (nI fr)), (2, .int (nI to))] := hl
  generalize ([.ref (ad 11), .int (nI fr), .int (nI to)] : List Value).toArray = args at M hret ⊢
  have hx := M.1
  have hb := M.2.1
  refine lv_aload_n hx hb d_LN_setOrder_0 rfl (lv_at hl 0 rfl) ?_
  refine lv_iconst (v := 0) hx hb d_LN_setOrder_1 (by decide) ?_
  refine p_LN_21 M hI d_LN_setOrder_2 (fun H locs hI => ?_)
  have hI : CI g A s (cw g ad ar (va_up fl 18 0)) H locs := hI
  refine lv_iload_n hx hb d_LN_setOrder_5 rfl (lv_at hl 1 rfl) ?_
  refine lv_istore_n (lv' := [(3, .int (nI fr)), (0, .ref (ad 11)), (1, .int (nI fr)), (2, .int (nI to))]) hx hb d_LN_setOrder_6 rfl hl (by decide) rfl (fun ls hl => ?_)
  have L7 : ∀ (fu : Nat) (d : Nat) (y : Nat → Int32), (to - (fr + d)) < fu → (fr + d ≤ to) → (oR y (fun j => (lineL (ar 42) fr d).getD j 0) (lineL (ar 42) fr d).length) → ∀ (H : Heap) (locs : List Loc) (ls : Array Slot), CI g A s (cw g ad (va_up ar 41 y) (va_up fl 18 (nI ((lineL (ar 42) fr d).length)))) H locs → lv_has ls 4 [(0, .ref (ad 11)), (2, .int (nI to)), (3, .int (nI (fr + d)))] → W p l e rm_LN_setOrder s m args below meth c H locs 0 0 Q (F0 m 7 ls []) := by
    intro fu
    induction fu with
    | zero => intro d y hm; exact absurd hm (Nat.not_lt_zero _)
    | succ fu ih7 =>
      intro d y hm hd hy H locs ls hI hl
      refine lv_iload_n hx hb d_LN_setOrder_7 rfl (lv_at hl 2 rfl) ?_
      refine lv_iload_n hx hb d_LN_setOrder_8 rfl (lv_at hl 1 rfl) ?_
      refine lv_icmp_ge (tgt := 48) hx hb d_LN_setOrder_9 (by decide) (fun c9 => ?_) (fun c9 => ?_)
      · have c9 : to ≤ fr + d := (nI_leI (a := to) (b := fr + d) (by omega) (by omega)).mp c9
        have hI := CI.to (w2 := cw g ad (va_up ar 41 y) (va_up fl 18 (nI (lineL (ar 42) fr (to - fr)).length))) hI (by rw [show to - fr = d by omega] <;> rfl)
        exact hret y _ _ _ _ _ _ d_LN_setOrder_48 hI (by rw [show to - fr = d by omega]; exact hy) (Nat.le_refl 0) (Nat.le_refl 0)
      · have c9 : ¬ to ≤ fr + d := fun h => c9 ((nI_leI (a := to) (b := fr + d) (by omega) (by omega)).mpr h)
        have hll := lineL_len (ar 42) fr d
        refine lv_aload_n hx hb d_LN_setOrder_12 rfl (lv_at hl 0 rfl) ?_
        refine g_LN_15 M hI d_LN_setOrder_13 ?_
        refine lv_iload_n hx hb d_LN_setOrder_16 rfl (lv_at hl 2 rfl) ?_
        refine al_42 M hI (fr + d) rfl (by omega) d_LN_setOrder_17 ?_
        refine q_as (y := ar 42 (fr + d)) rfl ?_
        refine lv_iconst (v := (-1)) hx hb d_LN_setOrder_18 (by decide) ?_
        refine lv_icmp_eq (tgt := 42) hx hb d_LN_setOrder_19 (by decide) (fun c19 => ?_) (fun c19 => ?_)
        · have eV : lineL (ar 42) fr (d + 1) = lineL (ar 42) fr d := by simp only [lineL]; rw [if_pos c19]
          have hy2 : oR y (fun j => (lineL (ar 42) fr (d + 1)).getD j 0) (lineL (ar 42) fr (d + 1)).length := by rw [eV]; exact hy
          have hI := CI.to (w2 := cw g ad (va_up ar 41 y) (va_up fl 18 (nI ((lineL (ar 42) fr (d + 1)).length)))) hI (by rw [eV])
          refine lv_iinc (v := nI (fr + d + 1)) (lv' := [(3, .int (nI (fr + d + 1))), (0, .ref (ad 11)), (2, .int (nI to))]) hx hb d_LN_setOrder_42 hl (k := 2) rfl (nI_add _ 1) (by decide) rfl (fun ls hl => ?_)
          refine lv_goto (tgt := 7) hx hb d_LN_setOrder_45 (by decide) ?_
          exact ih7 (d + 1) y (by omega) (by first | assumption | omega) (hy2) _ _ _ hI (lv_sub hl [1, 2, 0] rfl)
        · have eV : lineL (ar 42) fr (d + 1) = lineL (ar 42) fr d ++ [fr + d] := by simp only [lineL]; rw [if_neg c19]
          have hy2 : oR (upd y (lineL (ar 42) fr d).length (nI (fr + d))) (fun j => (lineL (ar 42) fr (d + 1)).getD j 0) (lineL (ar 42) fr (d + 1)).length := by rw [eV]; exact oR_snoc hy
          refine lv_aload_n hx hb d_LN_setOrder_22 rfl (lv_at hl 0 rfl) ?_
          refine g_LN_9 M hI d_LN_setOrder_23 ?_
          refine lv_aload_n hx hb d_LN_setOrder_26 rfl (lv_at hl 0 rfl) ?_
          refine g_LN_21 M hI d_LN_setOrder_27 ?_
          refine q_as (y := nI ((lineL (ar 42) fr d).length)) rfl ?_
          refine lv_iload_n hx hb d_LN_setOrder_30 rfl (lv_at hl 2 rfl) ?_
          refine as_41 M hI ((lineL (ar 42) fr d).length) rfl (by omega) d_LN_setOrder_31 (fun H locs hI => ?_)
          have hI : CI g A s (cw g ad (va_up ar 41 (upd y ((lineL (ar 42) fr d).length) (nI (fr + d)))) (va_up fl 18 (nI ((lineL (ar 42) fr d).length)))) H locs := hI
          refine lv_aload_n hx hb d_LN_setOrder_32 rfl (lv_at hl 0 rfl) ?_
          refine lv_dup hx hb d_LN_setOrder_33 rfl ?_
          refine g_LN_21 M hI d_LN_setOrder_34 ?_
          refine q_as (y := nI ((lineL (ar 42) fr d).length)) rfl ?_
          refine lv_iconst (v := 1) hx hb d_LN_setOrder_37 (by decide) ?_
          refine lv_iadd hx hb d_LN_setOrder_38 ?_
          refine q_as (y := nI ((lineL (ar 42) fr (d + 1)).length)) (by rw [eV, List.length_append]; exact nI_add _ 1) ?_
          refine p_LN_21 M hI d_LN_setOrder_39 (fun H locs hI => ?_)
          have hI : CI g A s (cw g ad (va_up ar 41 (upd y ((lineL (ar 42) fr d).length) (nI (fr + d)))) (va_up fl 18 (nI ((lineL (ar 42) fr (d + 1)).length)))) H locs := hI
          refine lv_iinc (v := nI (fr + d + 1)) (lv' := [(3, .int (nI (fr + d + 1))), (0, .ref (ad 11)), (2, .int (nI to))]) hx hb d_LN_setOrder_42 hl (k := 2) rfl (nI_add _ 1) (by decide) rfl (fun ls hl => ?_)
          refine lv_goto (tgt := 7) hx hb d_LN_setOrder_45 (by decide) ?_
          exact ih7 (d + 1) (upd y ((lineL (ar 42) fr d).length) (nI (fr + d))) (by omega) (by first | assumption | omega) (hy2) _ _ _ hI (lv_sub hl [1, 2, 0] rfl)
  have hI := CI.to (w2 := cw g ad (va_up ar 41 (ar 41)) (va_up fl 18 (nI ((lineL (ar 42) fr 0).length)))) hI (by rfl)
  exact L7 _ 0 (ar 41) (Nat.lt_succ_self _) (by first | assumption | omega) (fun j h => absurd h (Nat.not_lt_zero j)) _ _ _ hI (lv_sub hl [1, 3, 0] rfl)
abbrev rm_LN_setPlaces : Room := { frames := 0, cells := 0, slots := 0, locals := 0 }
set_option maxHeartbeats 4000000 in
set_option maxRecDepth 100000 in
theorem c_LN_setPlaces (l : Launch) (g : Geo) (ad : Nat → Nat) (ar : Nat → Nat → Int32) (fl : Nat → Int32) (mm cn : Nat) (O : Nat → Nat) (hmm : fl 18 = nI mm) (hM : mm ≤ 2000) (hcn : fl 2 = nI cn) (hcN : cn ≤ 2000) (hO : oR (ar 41) O mm) (hps : pos2 mm O cn) : cMv l y_LN_setPlaces (.code y_LN_setPlaces b_LN_setPlaces 2 none :: gw) rm_LN_setPlaces g [.ref (ad 11)] (cw g ad ar fl) (fun (_ : Unit) => True) (fun (_ : Unit) => cw g ad (va_up ar 43 (plc O (pre cn (fun _ => -1) (ar 43)) mm)) fl) 0 0 := by
  refine cMv_of (by decide) (Nat.le_of_ble_eq_true rfl) ?_
  intro p e s m below meth c A Q ls M hnm hret hl hI
  have M : MC p s m ([.ref (ad 11)] : List Value).toArray meth c R_LN b_LN_setPlaces 2 := M
  have hl : lv_has ls 2 [(0, .ref (ad 11))] := hl
  generalize ([.ref (ad 11)] : List Value).toArray = args at M hret ⊢
  have hx := M.1
  have hb := M.2.1
  refine lv_iconst (v := 0) hx hb d_LN_setPlaces_0 (by decide) ?_
  refine lv_istore_n (lv' := [(1, .int 0), (0, .ref (ad 11))]) hx hb d_LN_setPlaces_1 rfl hl (by decide) rfl (fun ls hl => ?_)
  have L2 : ∀ (fu : Nat) (i : Nat), (cn - i) < fu → (i ≤ cn) → ∀ (H : Heap) (locs : List Loc) (ls : Array Slot), CI g A s (cw g ad (va_up ar 43 (pre i (fun _ => -1) (ar 43))) fl) H locs → lv_has ls 2 [(0, .ref (ad 11)), (1, .int (nI i))] → W p l e rm_LN_setPlaces s m args below meth c H locs 0 0 Q (F0 m 2 ls []) := by
    intro fu
    induction fu with
    | zero => intro i hm; exact absurd hm (Nat.not_lt_zero _)
    | succ fu ih2 =>
      intro i hm hi H locs ls hI hl
      refine lv_iload_n hx hb d_LN_setPlaces_2 rfl (lv_at hl 1 rfl) ?_
      refine lv_aload_n hx hb d_LN_setPlaces_3 rfl (lv_at hl 0 rfl) ?_
      refine g_LN_25 M hI d_LN_setPlaces_4 ?_
      refine g_LN_72 M hI d_LN_setPlaces_7 ?_
      refine q_as (y := nI cn) hcn ?_
      refine lv_icmp_ge (tgt := 26) hx hb d_LN_setPlaces_10 (by decide) (fun c10 => ?_) (fun c10 => ?_)
      · have c10 : cn ≤ i := (nI_leI (a := cn) (b := i) (by omega) (by omega)).mp c10
        have hI := CI.to (w2 := cw g ad (va_up ar 43 (pre cn (fun _ => -1) (ar 43))) fl) hI (by rw [show i = cn by omega])
        refine lv_iconst (v := 0) hx hb d_LN_setPlaces_26 (by decide) ?_
        refine lv_istore_n (lv' := [(1, .int 0), (0, .ref (ad 11))]) hx hb d_LN_setPlaces_27 rfl hl (by decide) rfl (fun ls hl => ?_)
        have L28 : ∀ (fu : Nat) (i : Nat), (mm - i) < fu → (i ≤ mm) → ∀ (H : Heap) (locs : List Loc) (ls : Array Slot), CI g A s (cw g ad (va_up ar 43 (plc O (pre cn (fun _ => -1) (ar 43)) i)) fl) H locs → lv_has ls 2 [(0, .ref (ad 11)), (1, .int (nI i))] → W p l e rm_LN_setPlaces s m args below meth c H locs 0 0 Q (F0 m 28 ls []) := by
          intro fu
          induction fu with
          | zero => intro i hm; exact absurd hm (Nat.not_lt_zero _)
          | succ fu ih28 =>
            intro i hm hi H locs ls hI hl
            refine lv_iload_n hx hb d_LN_setPlaces_28 rfl (lv_at hl 1 rfl) ?_
            refine lv_aload_n hx hb d_LN_setPlaces_29 rfl (lv_at hl 0 rfl) ?_
            refine g_LN_21 M hI d_LN_setPlaces_30 ?_
            refine q_as (y := nI mm) hmm ?_
            refine lv_icmp_ge (tgt := 54) hx hb d_LN_setPlaces_33 (by decide) (fun c33 => ?_) (fun c33 => ?_)
            · have c33 : mm ≤ i := (nI_leI (a := mm) (b := i) (by omega) (by omega)).mp c33
              have hI := CI.to (w2 := cw g ad (va_up ar 43 (plc O (pre cn (fun _ => -1) (ar 43)) mm)) fl) hI (by rw [show i = mm by omega])
              exact hret () _ _ _ _ _ _ d_LN_setPlaces_54 hI (trivial) (Nat.le_refl 0) (Nat.le_refl 0)
            · have c33 : ¬ mm ≤ i := fun h => c33 ((nI_leI (a := mm) (b := i) (by omega) (by omega)).mpr h)
              refine lv_aload_n hx hb d_LN_setPlaces_36 rfl (lv_at hl 0 rfl) ?_
              refine g_LN_18 M hI d_LN_setPlaces_37 ?_
              refine lv_aload_n hx hb d_LN_setPlaces_40 rfl (lv_at hl 0 rfl) ?_
              refine g_LN_9 M hI d_LN_setPlaces_41 ?_
              refine lv_iload_n hx hb d_LN_setPlaces_44 rfl (lv_at hl 1 rfl) ?_
              refine al_41 M hI i rfl (by omega) d_LN_setPlaces_45 ?_
              refine q_as (y := nI (O i)) (hO i (by omega)) ?_
              refine lv_iload_n hx hb d_LN_setPlaces_46 rfl (lv_at hl 1 rfl) ?_
              refine as_43 M hI (O i) rfl (by have := hps i (by omega); omega) d_LN_setPlaces_47 (fun H locs hI => ?_)
              have hI : CI g A s (cw g ad (va_up ar 43 (upd (plc O (pre cn (fun _ => -1) (ar 43)) i) (O i) (nI i))) fl) H locs := hI
              rw [show upd (plc O (pre cn (fun _ => -1) (ar 43)) i) (O i) (nI i) = plc O (pre cn (fun _ => -1) (ar 43)) (i + 1) from rfl] at hI
              have hI : CI g A s (cw g ad (va_up ar 43 (plc O (pre cn (fun _ => -1) (ar 43)) (i + 1))) fl) H locs := hI
              refine lv_iinc (v := nI (i + 1)) (lv' := [(1, .int (nI (i + 1))), (0, .ref (ad 11))]) hx hb d_LN_setPlaces_48 hl (k := 1) rfl (nI_add _ 1) (by decide) rfl (fun ls hl => ?_)
              refine lv_goto (tgt := 28) hx hb d_LN_setPlaces_51 (by decide) ?_
              exact ih28 (i + 1) (by omega) (by first | assumption | omega) _ _ _ hI (lv_sub hl [1, 0] rfl)
        have hI := CI.to (w2 := cw g ad (va_up ar 43 (plc O (pre cn (fun _ => -1) (ar 43)) 0)) fl) hI (by rfl)
        exact L28 _ 0 (Nat.lt_succ_self _) (by first | assumption | omega) _ _ _ hI (lv_sub hl [1, 0] rfl)
      · have c10 : ¬ cn ≤ i := fun h => c10 ((nI_leI (a := cn) (b := i) (by omega) (by omega)).mpr h)
        refine lv_aload_n hx hb d_LN_setPlaces_13 rfl (lv_at hl 0 rfl) ?_
        refine g_LN_18 M hI d_LN_setPlaces_14 ?_
        refine lv_iload_n hx hb d_LN_setPlaces_17 rfl (lv_at hl 1 rfl) ?_
        refine lv_iconst (v := (-1)) hx hb d_LN_setPlaces_18 (by decide) ?_
        refine as_43 M hI i rfl (by omega) d_LN_setPlaces_19 (fun H locs hI => ?_)
        have hI : CI g A s (cw g ad (va_up ar 43 (upd (pre i (fun _ => -1) (ar 43)) i (-1))) fl) H locs := hI
        rw [show upd (pre i (fun _ => -1) (ar 43)) i (-1) = pre (i + 1) (fun _ => -1) (ar 43) from pre_up rfl] at hI
        have hI : CI g A s (cw g ad (va_up ar 43 (pre (i + 1) (fun _ => -1) (ar 43))) fl) H locs := hI
        refine lv_iinc (v := nI (i + 1)) (lv' := [(1, .int (nI (i + 1))), (0, .ref (ad 11))]) hx hb d_LN_setPlaces_20 hl (k := 1) rfl (nI_add _ 1) (by decide) rfl (fun ls hl => ?_)
        refine lv_goto (tgt := 2) hx hb d_LN_setPlaces_23 (by decide) ?_
        exact ih2 (i + 1) (by omega) (by first | assumption | omega) _ _ _ hI (lv_sub hl [1, 0] rfl)
  have hI := CI.to (w2 := cw g ad (va_up ar 43 (pre 0 (fun _ => -1) (ar 43))) fl) hI (by rw [pre_0]; rfl)
  exact L2 _ 0 (Nat.lt_succ_self _) (by first | assumption | omega) _ _ _ hI (lv_sub hl [1, 0] rfl)
