/-! 24: Explicit -/
theorem max_pred {n : Nat} (hn : n < 2 ^ 31) : (if nI n - 1 < 0 then 0 else nI n - 1) = nI (n - 1) := by
  cases n with
  | zero => rw [if_pos nI_0m1]; rfl
  | succ j => rw [nI_pred, if_neg (nI_pos (by omega))]; rfl
theorem popI_stop {x : XE} {t : List XE} (h : t = [] ∨ x.2.2 = true) : (popI (x :: t)).length - 1 = t.length - 1 := by
  cases t with
  | nil => rfl
  | cons y r => simp only [popI]; rw [if_pos (h.elim (fun q => absurd q (by simp)) id)]
theorem z_true {b : Bool} (h : ¬ (if b = true then (1 : Int32) else 0) = 0) : b = true := by cases b with | true => rfl | false => exact absurd rfl h
theorem z_false {b : Bool} (h : (if b = true then (1 : Int32) else 0) = 0) : b = false := by cases b with | false => rfl | true => exact absurd h (by decide)
abbrev rm_EX_nextLevel : Room := { frames := 1, cells := 0, slots := 0, locals := 20 }
set_option maxHeartbeats 4000000 in
set_option maxRecDepth 100000 in
theorem c_EX_nextLevel (l : Launch) (g : Geo) (ad : Nat → Nat) (ar : Nat → Nat → Int32) (fl : Nat → Int32) (dd : Int32) (lv : Nat) (ov : Int32) (ib : Bool) (rs : List XE) (h7 : fl 7 = nI rs.length) (hrel : xrel (ar 29) (ar 30) (ar 31) ((lv, ov, ib) :: rs)) (hl1 : rs.length ≤ 125) (hl2 : lv ≤ 125) : cMi l y_EX_nextLevel (.code y_EX_nextLevel b_EX_nextLevel 3 (some .int) :: gw) rm_EX_nextLevel g [.ref (ad 6), .int dd] (cw g ad ar fl) (fun (r : Int32) (_ : Unit) => r = nI (nxt lv dd)) (fun (_ : Unit) => cw g ad ar fl) 0 0 := by
  refine cMi_of (by decide) (Nat.le_of_ble_eq_true rfl) ?_
  intro p e s m below meth c A Q ls M hret hl hI
  have M : MC p s m ([.ref (ad 6), .int dd] : List Value).toArray meth c R_EX b_EX_nextLevel 3 := M
  have hl : lv_has ls 3 [(0, .ref (ad 6)), (1, .int dd)] := hl
  generalize ([.ref (ad 6), .int dd] : List Value).toArray = args at M hret ⊢
  have hx := M.1
  have hb := M.2.1
  refine lv_aload_n hx hb d_EX_nextLevel_0 rfl (lv_at hl 0 rfl) ?_
  refine g_EX_9 M hI d_EX_nextLevel_1 ?_
  refine lv_aload_n hx hb d_EX_nextLevel_4 rfl (lv_at hl 0 rfl) ?_
  refine g_EX_22 M hI d_EX_nextLevel_5 ?_
  refine q_as (y := nI rs.length) h7 ?_
  refine al_29 M hI rs.length rfl (by omega) d_EX_nextLevel_8 ?_
  refine q_as (y := nI lv) (hrel.1) ?_
  refine lv_iconst (v := 1) hx hb d_EX_nextLevel_9 (by decide) ?_
  refine lv_iadd hx hb d_EX_nextLevel_10 ?_
  refine q_as (y := nI (lv + 1)) (nI_add lv 1) ?_
  refine lv_istore_n (lv' := [(2, .int (nI (lv + 1))), (0, .ref (ad 6)), (1, .int dd)]) hx hb d_EX_nextLevel_11 rfl hl (by decide) rfl (fun ls hl => ?_)
  refine lv_iload_n hx hb d_EX_nextLevel_12 rfl (lv_at hl 0 rfl) ?_
  refine q_calliSN [.int (nI (lv + 1))] M hI (c_BL_directionOf l g (cw g ad ar fl) (lv + 1) (by first | exact hv | assumption | omega | rfl)) ok_BL_directionOf (List.mem_of_getElem? (i := 4) rfl) m3_98 rfl rfl hl.1 ⟨rfl, rfl⟩ ⟨Nat.le_of_ble_eq_true rfl, Nat.le_of_ble_eq_true rfl⟩ (Nat.le_of_ble_eq_true rfl) ⟨Nat.le_of_ble_eq_true rfl, Nat.le_of_ble_eq_true rfl⟩ d_EX_nextLevel_13 (fun r13 u13 H locs hp13 hI => ?_)
  refine q_as (y := nI ((lv + 1) % 2)) hp13 ?_
  refine lv_iload_n hx hb d_EX_nextLevel_16 rfl (lv_at hl 2 rfl) ?_
  refine lv_icmp_ne (tgt := 24) hx hb d_EX_nextLevel_17 (by decide) (fun c17 => ?_) (fun c17 => ?_)
  · refine lv_iload_n hx hb d_EX_nextLevel_24 rfl (lv_at hl 0 rfl) ?_
    refine lv_iconst (v := 1) hx hb d_EX_nextLevel_25 (by decide) ?_
    refine lv_iadd hx hb d_EX_nextLevel_26 ?_
    refine q_as (y := nI (lv + 1 + 1)) (nI_add (lv + 1) 1) ?_
    exact hret (nI (lv + 1 + 1)) () _ _ _ _ _ _ d_EX_nextLevel_27 hI (by unfold nxt; first | rw [if_pos c17] | rw [if_neg c17]) (Nat.le_refl 0) (Nat.le_refl 0)
  · refine lv_iload_n hx hb d_EX_nextLevel_20 rfl (lv_at hl 0 rfl) ?_
    refine lv_goto (tgt := 27) hx hb d_EX_nextLevel_21 (by decide) ?_
    exact hret (nI (lv + 1)) () _ _ _ _ _ _ d_EX_nextLevel_27 hI (by unfold nxt; first | rw [if_pos c17] | rw [if_neg c17]) (Nat.le_refl 0) (Nat.le_refl 0)
abbrev rm_EX_canOpen : Room := { frames := 0, cells := 0, slots := 0, locals := 0 }
set_option maxHeartbeats 4000000 in
set_option maxRecDepth 100000 in
theorem c_EX_canOpen (l : Launch) (g : Geo) (ad : Nat → Nat) (ar : Nat → Nat → Int32) (fl : Nat → Int32) (nx : Nat) (xi xe : Nat) (h8 : fl 8 = nI xi) (h9 : fl 9 = nI xe) (hx1 : nx < 2 ^ 31) (hx2 : xi < 2 ^ 31) (hx3 : xe < 2 ^ 31) : cMi l y_EX_canOpen (.code y_EX_canOpen b_EX_canOpen 2 (some .boolean) :: gw) rm_EX_canOpen g [.ref (ad 6), .int (nI nx)] (cw g ad ar fl) (fun (r : Int32) (_ : Unit) => r = bI (canO nx xi xe)) (fun (_ : Unit) => cw g ad ar fl) 0 0 := by
  refine cMz_of (by decide) (Nat.le_of_ble_eq_true rfl) ?_
  intro p e s m below meth c A Q ls M hret hl hI
  have M : MC p s m ([.ref (ad 6), .int (nI nx)] : List Value).toArray meth c R_EX b_EX_canOpen 2 := M
  have hl : lv_has ls 2 [(0, .ref (ad 6)), (1, .int (nI nx))] := hl
  generalize ([.ref (ad 6), .int (nI nx)] : List Value).toArray = args at M hret ⊢
  have hx := M.1
  have hb := M.2.1
  refine lv_iload_n hx hb d_EX_canOpen_0 rfl (lv_at hl 1 rfl) ?_
  refine lv_bipush (v := 125) hx hb d_EX_canOpen_1 (by decide) ?_
  refine lv_icmp_gt (tgt := 24) hx hb d_EX_canOpen_3 (by decide) (fun c3 => ?_) (fun c3 => ?_)
  · have c3 : 125 < nx := (nI_ltI (a := 125) (b := nx) (by omega) (by omega)).mp c3
    refine lv_iconst (v := 0) hx hb d_EX_canOpen_24 (by decide) ?_
    exact hret 0 () _ _ _ _ _ _ d_EX_canOpen_25 hI (by symm; first | exact bI_t ⟨by omega, by omega, by omega⟩ | (apply bI_f; intro q; obtain ⟨q1, q2, q3⟩ := q; omega)) (by first | rfl | exact bI_narrow) (Nat.le_refl 0) (Nat.le_refl 0)
  · have c3 : ¬ 125 < nx := fun h => c3 ((nI_ltI (a := 125) (b := nx) (by omega) (by omega)).mpr h)
    refine lv_aload_n hx hb d_EX_canOpen_6 rfl (lv_at hl 0 rfl) ?_
    refine g_EX_26 M hI d_EX_canOpen_7 ?_
    refine q_as (y := nI xi) h8 ?_
    refine lv_if_ne (tgt := 24) hx hb d_EX_canOpen_10 (by decide) (fun c10 => ?_) (fun c10 => ?_)
    · have c10 : ¬ xi = 0 := fun h => c10 ((nI_eq (a := xi) (b := 0) (by omega) (by omega)).mpr h)
      refine lv_iconst (v := 0) hx hb d_EX_canOpen_24 (by decide) ?_
      exact hret 0 () _ _ _ _ _ _ d_EX_canOpen_25 hI (by symm; first | exact bI_t ⟨by omega, by omega, by omega⟩ | (apply bI_f; intro q; obtain ⟨q1, q2, q3⟩ := q; omega)) (by first | rfl | exact bI_narrow) (Nat.le_refl 0) (Nat.le_refl 0)
    · have c10 : xi = 0 := (nI_eq (a := xi) (b := 0) (by omega) (by omega)).mp c10
      refine lv_aload_n hx hb d_EX_canOpen_13 rfl (lv_at hl 0 rfl) ?_
      refine g_EX_29 M hI d_EX_canOpen_14 ?_
      refine q_as (y := nI xe) h9 ?_
      refine lv_if_ne (tgt := 24) hx hb d_EX_canOpen_17 (by decide) (fun c17 => ?_) (fun c17 => ?_)
      · have c17 : ¬ xe = 0 := fun h => c17 ((nI_eq (a := xe) (b := 0) (by omega) (by omega)).mpr h)
        refine lv_iconst (v := 0) hx hb d_EX_canOpen_24 (by decide) ?_
        exact hret 0 () _ _ _ _ _ _ d_EX_canOpen_25 hI (by symm; first | exact bI_t ⟨by omega, by omega, by omega⟩ | (apply bI_f; intro q; obtain ⟨q1, q2, q3⟩ := q; omega)) (by first | rfl | exact bI_narrow) (Nat.le_refl 0) (Nat.le_refl 0)
      · have c17 : xe = 0 := (nI_eq (a := xe) (b := 0) (by omega) (by omega)).mp c17
        refine lv_iconst (v := 1) hx hb d_EX_canOpen_20 (by decide) ?_
        refine lv_goto (tgt := 25) hx hb d_EX_canOpen_21 (by decide) ?_
        exact hret 1 () _ _ _ _ _ _ d_EX_canOpen_25 hI (by symm; first | exact bI_t ⟨by omega, by omega, by omega⟩ | (apply bI_f; intro q; obtain ⟨q1, q2, q3⟩ := q; omega)) (by first | rfl | exact bI_narrow) (Nat.le_refl 0) (Nat.le_refl 0)
abbrev rm_EX_push : Room := { frames := 0, cells := 0, slots := 0, locals := 0 }
set_option maxHeartbeats 4000000 in
set_option maxRecDepth 100000 in
theorem c_EX_push (l : Launch) (g : Geo) (ad : Nat → Nat) (ar : Nat → Nat → Int32) (fl : Nat → Int32) (nx : Nat) (o2 : Int32) (bz : Int32) (rs : List XE) (h7 : fl 7 = nI rs.length) (hl1 : rs.length + 1 < 127) (hbz : narrow .boolean (.int bz) = .int bz) : cMv l y_EX_push (.code y_EX_push b_EX_push 4 none :: gw) rm_EX_push g [.ref (ad 6), .int (nI nx), .int o2, .int bz] (cw g ad ar fl) (fun (_ : Unit) => True) (fun (_ : Unit) => cw g ad (va_up (va_up (va_up ar 29 (upd (ar 29) (rs.length + 1) (nI nx))) 30 (upd (ar 30) (rs.length + 1) o2)) 31 (upd (ar 31) (rs.length + 1) bz)) (va_up fl 7 (nI (rs.length + 1)))) 0 0 := by
  refine cMv_of (by decide) (Nat.le_of_ble_eq_true rfl) ?_
  intro p e s m below meth c A Q ls M hnm hret hl hI
  have M : MC p s m ([.ref (ad 6), .int (nI nx), .int o2, .int bz] : List Value).toArray meth c R_EX b_EX_push 4 := M
  have hl : lv_has ls 4 [(0, .ref (ad 6)), (1, .int (nI nx)), (2, .int o2), (3, .int bz)] := hl
  generalize ([.ref (ad 6), .int (nI nx), .int o2, .int bz] : List Value).toArray = args at M hret ⊢
  have hx := M.1
  have hb := M.2.1
  refine lv_aload_n hx hb d_EX_push_0 rfl (lv_at hl 0 rfl) ?_
  refine g_EX_22 M hI d_EX_push_1 ?_
  refine q_as (y := nI rs.length) h7 ?_
  refine lv_iconst (v := 1) hx hb d_EX_push_4 (by decide) ?_
  refine lv_iadd hx hb d_EX_push_5 ?_
  refine q_as (y := nI (rs.length + 1)) (nI_add rs.length 1) ?_
  refine lv_bipush (v := 127) hx hb d_EX_push_6 (by decide) ?_
  refine lv_icmp_lt (tgt := 12) hx hb d_EX_push_8 (by decide) (fun c8 => ?_) (fun c8 => ?_)
  · have c8 : rs.length + 1 < 127 := (nI_ltI (a := rs.length + 1) (b := 127) (by omega) (by omega)).mp c8
    refine lv_aload_n hx hb d_EX_push_12 rfl (lv_at hl 0 rfl) ?_
    refine lv_dup hx hb d_EX_push_13 rfl ?_
    refine g_EX_22 M hI d_EX_push_14 ?_
    refine q_as (y := nI rs.length) h7 ?_
    refine lv_iconst (v := 1) hx hb d_EX_push_17 (by decide) ?_
    refine lv_iadd hx hb d_EX_push_18 ?_
    refine q_as (y := nI (rs.length + 1)) (nI_add rs.length 1) ?_
    refine p_EX_22 M hI d_EX_push_19 (fun H locs hI => ?_)
    have hI : CI g A s (cw g ad ar (va_up fl 7 (nI (rs.length + 1)))) H locs := hI
    refine lv_aload_n hx hb d_EX_push_22 rfl (lv_at hl 0 rfl) ?_
    refine g_EX_9 M hI d_EX_push_23 ?_
    refine lv_aload_n hx hb d_EX_push_26 rfl (lv_at hl 0 rfl) ?_
    refine g_EX_22 M hI d_EX_push_27 ?_
    refine q_as (y := nI (rs.length + 1)) rfl ?_
    refine lv_iload_n hx hb d_EX_push_30 rfl (lv_at hl 1 rfl) ?_
    refine as_29 M hI (rs.length + 1) rfl (by omega) d_EX_push_31 (fun H locs hI => ?_)
    have hI : CI g A s (cw g ad (va_up ar 29 (upd (ar 29) (rs.length + 1) (nI nx))) (va_up fl 7 (nI (rs.length + 1)))) H locs := hI
    refine lv_aload_n hx hb d_EX_push_32 rfl (lv_at hl 0 rfl) ?_
    refine g_EX_15 M hI d_EX_push_33 ?_
    refine lv_aload_n hx hb d_EX_push_36 rfl (lv_at hl 0 rfl) ?_
    refine g_EX_22 M hI d_EX_push_37 ?_
    refine q_as (y := nI (rs.length + 1)) rfl ?_
    refine lv_iload_n hx hb d_EX_push_40 rfl (lv_at hl 2 rfl) ?_
    refine as_30 M hI (rs.length + 1) rfl (by omega) d_EX_push_41 (fun H locs hI => ?_)
    have hI : CI g A s (cw g ad (va_up (va_up ar 29 (upd (ar 29) (rs.length + 1) (nI nx))) 30 (upd (ar 30) (rs.length + 1) o2)) (va_up fl 7 (nI (rs.length + 1)))) H locs := hI
    refine lv_aload_n hx hb d_EX_push_42 rfl (lv_at hl 0 rfl) ?_
    refine g_EX_18 M hI d_EX_push_43 ?_
    refine lv_aload_n hx hb d_EX_push_46 rfl (lv_at hl 0 rfl) ?_
    refine g_EX_22 M hI d_EX_push_47 ?_
    refine q_as (y := nI (rs.length + 1)) rfl ?_
    refine lv_iload_n hx hb d_EX_push_50 rfl (lv_at hl 3 rfl) ?_
    refine as_31 M hI (rs.length + 1) rfl (by omega) hbz d_EX_push_51 (fun H locs hI => ?_)
    have hI : CI g A s (cw g ad (va_up (va_up (va_up ar 29 (upd (ar 29) (rs.length + 1) (nI nx))) 30 (upd (ar 30) (rs.length + 1) o2)) 31 (upd (ar 31) (rs.length + 1) bz)) (va_up fl 7 (nI (rs.length + 1)))) H locs := hI
    exact hret () _ _ _ _ _ _ d_EX_push_52 hI (trivial) (Nat.le_refl 0) (Nat.le_refl 0)
  · have c8 : ¬ rs.length + 1 < 127 := fun h => c8 ((nI_ltI (a := rs.length + 1) (b := 127) (by omega) (by omega)).mpr h)
    exfalso; omega
abbrev rm_EX_openEmbedding : Room := { frames := 2, cells := 0, slots := 0, locals := 42 }
set_option maxHeartbeats 4000000 in
set_option maxRecDepth 100000 in
theorem c_EX_openEmbedding (l : Launch) (g : Geo) (ad : Nat → Nat) (ar : Nat → Nat → Int32) (fl : Nat → Int32) (k : Int32) (lv : Nat) (ov : Int32) (ib : Bool) (rs : List XE) (xi xe xv N : Nat) (h7 : fl 7 = nI rs.length) (h8 : fl 8 = nI xi) (h9 : fl 9 = nI xe) (h10 : fl 10 = nI xv) (hrel : xrel (ar 29) (ar 30) (ar 31) ((lv, ov, ib) :: rs)) (hok : xok N ((lv, ov, ib) :: rs, xi, xe, xv)) (hN : N ≤ 2000) : cMv l y_EX_openEmbedding (.code y_EX_openEmbedding b_EX_openEmbedding 4 none :: gw) rm_EX_openEmbedding g [.ref (ad 6), .int k] (cw g ad ar fl) (fun (u : (Nat → Int32) × (Nat → Int32) × (Nat → Int32)) => xrel u.1 u.2.1 u.2.2 (xEmb k ((lv, ov, ib) :: rs, xi, xe, xv)).1) (fun (u : (Nat → Int32) × (Nat → Int32) × (Nat → Int32)) => cw g ad (va_up (va_up (va_up ar 29 u.1) 30 u.2.1) 31 u.2.2) (va_up (va_up (va_up (va_up fl 7 (xt (xEmb k ((lv, ov, ib) :: rs, xi, xe, xv)))) 8 (nI (xEmb k ((lv, ov, ib) :: rs, xi, xe, xv)).2.1)) 9 (nI (xEmb k ((lv, ov, ib) :: rs, xi, xe, xv)).2.2.1)) 10 (nI (xEmb k ((lv, ov, ib) :: rs, xi, xe, xv)).2.2.2))) 0 0 := by
  refine cMv_of (by decide) (Nat.le_of_ble_eq_true rfl) ?_
  intro p e s m below meth c A Q ls M hnm hret hl hI
  have M : MC p s m ([.ref (ad 6), .int k] : List Value).toArray meth c R_EX b_EX_openEmbedding 4 := M
  have hl : lv_has ls 4 [(0, .ref (ad 6)), (1, .int k)] := hl
  generalize ([.ref (ad 6), .int k] : List Value).toArray = args at M hret ⊢
  have hx := M.1
  have hb := M.2.1
  have hb1 : rs.length ≤ lv := hok.2.1.1
  have hb2 : lv ≤ 125 := hok.2.1.2.1
  have hb3 : xi ≤ N := hok.2.2.1
  have hb4 : xe ≤ N := hok.2.2.2.1
  have hb5 : xv ≤ N := hok.2.2.2.2
  have hI := CI.to (w2 := cw g ad ar (va_up (va_up (va_up (va_up fl 7 (nI rs.length)) 8 (nI xi)) 9 (nI xe)) 10 (nI xv))) hI (by rw [← h7, ← h8, ← h9, ← h10]; rfl)
  have L18 : ∀ (H : Heap) (locs : List Loc) (ls : Array Slot), CI g A s (cw g ad ar (va_up (va_up (va_up (va_up fl 7 (nI rs.length)) 8 (nI xi)) 9 (nI xe)) 10 (nI xv))) H locs → lv_has ls 4 [(0, .ref (ad 6)), (1, .int k)] → W p l e rm_EX_openEmbedding s m args below meth c H locs 0 0 Q (F0 m 18 ls [.int (emD k), .ref (ad 6)]) := by
    intro   H locs ls hI hl
    refine q_calliV [.int (emD k)] M hI (c_EX_nextLevel l g ad ar (va_up (va_up (va_up (va_up fl 7 (nI rs.length)) 8 (nI xi)) 9 (nI xe)) 10 (nI xv)) (emD k) lv ov ib rs (by first | exact h7 | assumption | omega | rfl) (by first | exact hrel | assumption | omega | rfl) (by omega) (by omega)) ok_EX_nextLevel m3_93 m3_95 ms_7 6 rfl rfl rfl rfl hl.1 ⟨rfl, rfl⟩ ⟨Nat.le_of_ble_eq_true rfl, Nat.le_of_ble_eq_true rfl⟩ (Nat.le_of_ble_eq_true rfl) ⟨Nat.le_of_ble_eq_true rfl, Nat.le_of_ble_eq_true rfl⟩ d_EX_openEmbedding_18 (fun r18 u18 H locs hp18 hI => ?_)
    refine q_as (y := nI (nxt lv (emD k))) hp18 ?_
    refine lv_istore_n (lv' := [(2, .int (nI (nxt lv (emD k)))), (0, .ref (ad 6)), (1, .int k)]) hx hb d_EX_openEmbedding_21 rfl hl (by decide) rfl (fun ls hl => ?_)
    refine lv_aload_n hx hb d_EX_openEmbedding_22 rfl (lv_at hl 1 rfl) ?_
    refine lv_iload_n hx hb d_EX_openEmbedding_23 rfl (lv_at hl 0 rfl) ?_
    refine q_calliV [.int (nI (nxt lv (emD k)))] M hI (c_EX_canOpen l g ad ar (va_up (va_up (va_up (va_up fl 7 (nI rs.length)) 8 (nI xi)) 9 (nI xe)) 10 (nI xv)) (nxt lv (emD k)) xi xe (by first | exact h8 | assumption | omega | rfl) (by first | exact h9 | assumption | omega | rfl) (by have := (nxt_gt lv (emD k)).2; omega) (by omega) (by omega)) ok_EX_canOpen m3_100 m3_102 ms_8 6 rfl rfl rfl rfl hl.1 ⟨rfl, rfl⟩ ⟨Nat.le_of_ble_eq_true rfl, Nat.le_of_ble_eq_true rfl⟩ (Nat.le_of_ble_eq_true rfl) ⟨Nat.le_of_ble_eq_true rfl, Nat.le_of_ble_eq_true rfl⟩ d_EX_openEmbedding_24 (fun r24 u24 H locs hp24 hI => ?_)
    refine q_as (y := bI (canO (nxt lv (emD k)) xi xe)) hp24 ?_
    refine lv_if_eq (tgt := 62) hx hb d_EX_openEmbedding_27 (by decide) (fun c27 => ?_) (fun c27 => ?_)
    · have c27 := bI_eq0.mp c27
      refine lv_aload_n hx hb d_EX_openEmbedding_62 rfl (lv_at hl 1 rfl) ?_
      refine g_EX_26 M hI d_EX_openEmbedding_63 ?_
      refine q_as (y := nI xi) rfl ?_
      refine lv_if_ne (tgt := 79) hx hb d_EX_openEmbedding_66 (by decide) (fun c66 => ?_) (fun c66 => ?_)
      · have c66 : ¬ xi = 0 := fun h => c66 ((nI_eq (a := xi) (b := 0) (by omega) (by omega)).mpr h)
        have eX : xEmb k ((lv, ov, ib) :: rs, xi, xe, xv) = ((lv, ov, ib) :: rs, xi, xe, xv) := by unfold xEmb; exact (if_neg c27).trans (if_neg c66)
        have hp9 : xrel (ar 29) (ar 30) (ar 31) (xEmb k ((lv, ov, ib) :: rs, xi, xe, xv)).1 := by rw [eX]; exact hrel
        have hI := CI.to (w2 := cw g ad (va_up (va_up (va_up ar 29 (ar 29)) 30 (ar 30)) 31 (ar 31)) (va_up (va_up (va_up (va_up fl 7 (xt (xEmb k ((lv, ov, ib) :: rs, xi, xe, xv)))) 8 (nI (xEmb k ((lv, ov, ib) :: rs, xi, xe, xv)).2.1)) 9 (nI (xEmb k ((lv, ov, ib) :: rs, xi, xe, xv)).2.2.1)) 10 (nI (xEmb k ((lv, ov, ib) :: rs, xi, xe, xv)).2.2.2))) hI (by rw [eX] <;> rfl)
        exact hret (ar 29, ar 30, ar 31) _ _ _ _ _ _ d_EX_openEmbedding_79 hI (hp9) (Nat.le_refl 0) (Nat.le_refl 0)
      · have c66 : xi = 0 := (nI_eq (a := xi) (b := 0) (by omega) (by omega)).mp c66
        have eX : xEmb k ((lv, ov, ib) :: rs, xi, xe, xv) = ((lv, ov, ib) :: rs, xi, xe + 1, xv) := by unfold xEmb; exact (if_neg c27).trans (if_pos c66)
        have hp9 : xrel (ar 29) (ar 30) (ar 31) (xEmb k ((lv, ov, ib) :: rs, xi, xe, xv)).1 := by rw [eX]; exact hrel
        refine lv_aload_n hx hb d_EX_openEmbedding_69 rfl (lv_at hl 1 rfl) ?_
        refine lv_dup hx hb d_EX_openEmbedding_70 rfl ?_
        refine g_EX_29 M hI d_EX_openEmbedding_71 ?_
        refine q_as (y := nI xe) rfl ?_
        refine lv_iconst (v := 1) hx hb d_EX_openEmbedding_74 (by decide) ?_
        refine lv_iadd hx hb d_EX_openEmbedding_75 ?_
        refine q_as (y := nI (xe + 1)) (nI_add xe 1) ?_
        refine p_EX_29 M hI d_EX_openEmbedding_76 (fun H locs hI => ?_)
        have hI : CI g A s (cw g ad ar (va_up (va_up (va_up (va_up fl 7 (nI rs.length)) 8 (nI xi)) 10 (nI xv)) 9 (nI (xe + 1)))) H locs := hI
        have hI := CI.to (w2 := cw g ad (va_up (va_up (va_up ar 29 (ar 29)) 30 (ar 30)) 31 (ar 31)) (va_up (va_up (va_up (va_up fl 7 (xt (xEmb k ((lv, ov, ib) :: rs, xi, xe, xv)))) 8 (nI (xEmb k ((lv, ov, ib) :: rs, xi, xe, xv)).2.1)) 9 (nI (xEmb k ((lv, ov, ib) :: rs, xi, xe, xv)).2.2.1)) 10 (nI (xEmb k ((lv, ov, ib) :: rs, xi, xe, xv)).2.2.2))) hI (by rw [eX] <;> rfl)
        exact hret (ar 29, ar 30, ar 31) _ _ _ _ _ _ d_EX_openEmbedding_79 hI (hp9) (Nat.le_refl 0) (Nat.le_refl 0)
    · have c27 := bI_ne0.mp c27
      have eX : xEmb k ((lv, ov, ib) :: rs, xi, xe, xv) = ((nxt lv (emD k), emO k, false) :: (lv, ov, ib) :: rs, xi, xe, xv) := by unfold xEmb; exact if_pos c27
      refine lv_iload_n hx hb d_EX_openEmbedding_30 rfl (lv_at hl 2 rfl) ?_
      refine lv_bipush (v := 17) hx hb d_EX_openEmbedding_31 (by decide) ?_
      refine lv_icmp_ne (tgt := 40) hx hb d_EX_openEmbedding_33 (by decide) (fun c33 => ?_) (fun c33 => ?_)
      · refine lv_iload_n hx hb d_EX_openEmbedding_40 rfl (lv_at hl 2 rfl) ?_
        refine lv_bipush (v := 15) hx hb d_EX_openEmbedding_41 (by decide) ?_
        refine lv_icmp_ne (tgt := 50) hx hb d_EX_openEmbedding_43 (by decide) (fun c43 => ?_) (fun c43 => ?_)
        · refine lv_iconst (v := (-1)) hx hb d_EX_openEmbedding_50 (by decide) ?_
          refine q_as (y := emO k) (by unfold emO; rw [if_neg c33, if_neg c43]) ?_
          refine lv_istore_n (lv' := [(3, .int (emO k)), (2, .int (nI (nxt lv (emD k)))), (0, .ref (ad 6)), (1, .int k)]) hx hb d_EX_openEmbedding_51 rfl hl (by decide) rfl (fun ls hl => ?_)
          refine lv_aload_n hx hb d_EX_openEmbedding_52 rfl (lv_at hl 2 rfl) ?_
          refine lv_iload_n hx hb d_EX_openEmbedding_53 rfl (lv_at hl 1 rfl) ?_
          refine lv_iload_n hx hb d_EX_openEmbedding_54 rfl (lv_at hl 0 rfl) ?_
          refine lv_iconst (v := 0) hx hb d_EX_openEmbedding_55 (by decide) ?_
          refine q_callvV [.int (nI (nxt lv (emD k))), .int (emO k), .int 0] M hI (c_EX_push l g ad ar (va_up (va_up (va_up (va_up fl 7 (nI rs.length)) 8 (nI xi)) 9 (nI xe)) 10 (nI xv)) (nxt lv (emD k)) (emO k) 0 rs (by first | exact h7 | assumption | omega | rfl) (by omega) (rfl)) ok_EX_push m3_104 m3_106 ms_9 6 rfl rfl rfl rfl hl.1 ⟨rfl, rfl⟩ ⟨Nat.le_of_ble_eq_true rfl, Nat.le_of_ble_eq_true rfl⟩ (Nat.le_of_ble_eq_true rfl) ⟨Nat.le_of_ble_eq_true rfl, Nat.le_of_ble_eq_true rfl⟩ d_EX_openEmbedding_56 (fun u56 H locs hp56 hI => ?_)
          have hI : CI g A s (cw g ad (va_up (va_up (va_up ar 29 (upd (ar 29) (rs.length + 1) (nI (nxt lv (emD k))))) 30 (upd (ar 30) (rs.length + 1) (emO k))) 31 (upd (ar 31) (rs.length + 1) 0)) (va_up (va_up (va_up (va_up fl 8 (nI xi)) 9 (nI xe)) 10 (nI xv)) 7 (nI (rs.length + 1)))) H locs := hI
          have hp9 : xrel (upd (ar 29) (rs.length + 1) (nI (nxt lv (emD k)))) (upd (ar 30) (rs.length + 1) (emO k)) (upd (ar 31) (rs.length + 1) 0) (xEmb k ((lv, ov, ib) :: rs, xi, xe, xv)).1 := by rw [eX]; exact xrel_push (x := (nxt lv (emD k), emO k, false)) hrel
          refine lv_goto (tgt := 79) hx hb d_EX_openEmbedding_59 (by decide) ?_
          have hI := CI.to (w2 := cw g ad (va_up (va_up (va_up ar 29 (upd (ar 29) (rs.length + 1) (nI (nxt lv (emD k))))) 30 (upd (ar 30) (rs.length + 1) (emO k))) 31 (upd (ar 31) (rs.length + 1) 0)) (va_up (va_up (va_up (va_up fl 7 (xt (xEmb k ((lv, ov, ib) :: rs, xi, xe, xv)))) 8 (nI (xEmb k ((lv, ov, ib) :: rs, xi, xe, xv)).2.1)) 9 (nI (xEmb k ((lv, ov, ib) :: rs, xi, xe, xv)).2.2.1)) 10 (nI (xEmb k ((lv, ov, ib) :: rs, xi, xe, xv)).2.2.2))) hI (by rw [eX] <;> rfl)
          exact hret (upd (ar 29) (rs.length + 1) (nI (nxt lv (emD k))), upd (ar 30) (rs.length + 1) (emO k), upd (ar 31) (rs.length + 1) 0) _ _ _ _ _ _ d_EX_openEmbedding_79 hI (hp9) (Nat.le_refl 0) (Nat.le_refl 0)
        · refine lv_iconst (v := 0) hx hb d_EX_openEmbedding_46 (by decide) ?_
          refine q_as (y := emO k) (by unfold emO; rw [if_neg c33, if_pos c43]) ?_
          refine lv_goto (tgt := 51) hx hb d_EX_openEmbedding_47 (by decide) ?_
          refine lv_istore_n (lv' := [(3, .int (emO k)), (2, .int (nI (nxt lv (emD k)))), (0, .ref (ad 6)), (1, .int k)]) hx hb d_EX_openEmbedding_51 rfl hl (by decide) rfl (fun ls hl => ?_)
          refine lv_aload_n hx hb d_EX_openEmbedding_52 rfl (lv_at hl 2 rfl) ?_
          refine lv_iload_n hx hb d_EX_openEmbedding_53 rfl (lv_at hl 1 rfl) ?_
          refine lv_iload_n hx hb d_EX_openEmbedding_54 rfl (lv_at hl 0 rfl) ?_
          refine lv_iconst (v := 0) hx hb d_EX_openEmbedding_55 (by decide) ?_
          refine q_callvV [.int (nI (nxt lv (emD k))), .int (emO k), .int 0] M hI (c_EX_push l g ad ar (va_up (va_up (va_up (va_up fl 7 (nI rs.length)) 8 (nI xi)) 9 (nI xe)) 10 (nI xv)) (nxt lv (emD k)) (emO k) 0 rs (by first | exact h7 | assumption | omega | rfl) (by omega) (rfl)) ok_EX_push m3_104 m3_106 ms_9 6 rfl rfl rfl rfl hl.1 ⟨rfl, rfl⟩ ⟨Nat.le_of_ble_eq_true rfl, Nat.le_of_ble_eq_true rfl⟩ (Nat.le_of_ble_eq_true rfl) ⟨Nat.le_of_ble_eq_true rfl, Nat.le_of_ble_eq_true rfl⟩ d_EX_openEmbedding_56 (fun u56 H locs hp56 hI => ?_)
          have hI : CI g A s (cw g ad (va_up (va_up (va_up ar 29 (upd (ar 29) (rs.length + 1) (nI (nxt lv (emD k))))) 30 (upd (ar 30) (rs.length + 1) (emO k))) 31 (upd (ar 31) (rs.length + 1) 0)) (va_up (va_up (va_up (va_up fl 8 (nI xi)) 9 (nI xe)) 10 (nI xv)) 7 (nI (rs.length + 1)))) H locs := hI
          have hp9 : xrel (upd (ar 29) (rs.length + 1) (nI (nxt lv (emD k)))) (upd (ar 30) (rs.length + 1) (emO k)) (upd (ar 31) (rs.length + 1) 0) (xEmb k ((lv, ov, ib) :: rs, xi, xe, xv)).1 := by rw [eX]; exact xrel_push (x := (nxt lv (emD k), emO k, false)) hrel
          refine lv_goto (tgt := 79) hx hb d_EX_openEmbedding_59 (by decide) ?_
          have hI := CI.to (w2 := cw g ad (va_up (va_up (va_up ar 29 (upd (ar 29) (rs.length + 1) (nI (nxt lv (emD k))))) 30 (upd (ar 30) (rs.length + 1) (emO k))) 31 (upd (ar 31) (rs.length + 1) 0)) (va_up (va_up (va_up (va_up fl 7 (xt (xEmb k ((lv, ov, ib) :: rs, xi, xe, xv)))) 8 (nI (xEmb k ((lv, ov, ib) :: rs, xi, xe, xv)).2.1)) 9 (nI (xEmb k ((lv, ov, ib) :: rs, xi, xe, xv)).2.2.1)) 10 (nI (xEmb k ((lv, ov, ib) :: rs, xi, xe, xv)).2.2.2))) hI (by rw [eX] <;> rfl)
          exact hret (upd (ar 29) (rs.length + 1) (nI (nxt lv (emD k))), upd (ar 30) (rs.length + 1) (emO k), upd (ar 31) (rs.length + 1) 0) _ _ _ _ _ _ d_EX_openEmbedding_79 hI (hp9) (Nat.le_refl 0) (Nat.le_refl 0)
      · refine lv_iconst (v := 1) hx hb d_EX_openEmbedding_36 (by decide) ?_
        refine q_as (y := emO k) (by unfold emO; rw [if_pos c33]) ?_
        refine lv_goto (tgt := 51) hx hb d_EX_openEmbedding_37 (by decide) ?_
        refine lv_istore_n (lv' := [(3, .int (emO k)), (2, .int (nI (nxt lv (emD k)))), (0, .ref (ad 6)), (1, .int k)]) hx hb d_EX_openEmbedding_51 rfl hl (by decide) rfl (fun ls hl => ?_)
        refine lv_aload_n hx hb d_EX_openEmbedding_52 rfl (lv_at hl 2 rfl) ?_
        refine lv_iload_n hx hb d_EX_openEmbedding_53 rfl (lv_at hl 1 rfl) ?_
        refine lv_iload_n hx hb d_EX_openEmbedding_54 rfl (lv_at hl 0 rfl) ?_
        refine lv_iconst (v := 0) hx hb d_EX_openEmbedding_55 (by decide) ?_
        refine q_callvV [.int (nI (nxt lv (emD k))), .int (emO k), .int 0] M hI (c_EX_push l g ad ar (va_up (va_up (va_up (va_up fl 7 (nI rs.length)) 8 (nI xi)) 9 (nI xe)) 10 (nI xv)) (nxt lv (emD k)) (emO k) 0 rs (by first | exact h7 | assumption | omega | rfl) (by omega) (rfl)) ok_EX_push m3_104 m3_106 ms_9 6 rfl rfl rfl rfl hl.1 ⟨rfl, rfl⟩ ⟨Nat.le_of_ble_eq_true rfl, Nat.le_of_ble_eq_true rfl⟩ (Nat.le_of_ble_eq_true rfl) ⟨Nat.le_of_ble_eq_true rfl, Nat.le_of_ble_eq_true rfl⟩ d_EX_openEmbedding_56 (fun u56 H locs hp56 hI => ?_)
        have hI : CI g A s (cw g ad (va_up (va_up (va_up ar 29 (upd (ar 29) (rs.length + 1) (nI (nxt lv (emD k))))) 30 (upd (ar 30) (rs.length + 1) (emO k))) 31 (upd (ar 31) (rs.length + 1) 0)) (va_up (va_up (va_up (va_up fl 8 (nI xi)) 9 (nI xe)) 10 (nI xv)) 7 (nI (rs.length + 1)))) H locs := hI
        have hp9 : xrel (upd (ar 29) (rs.length + 1) (nI (nxt lv (emD k)))) (upd (ar 30) (rs.length + 1) (emO k)) (upd (ar 31) (rs.length + 1) 0) (xEmb k ((lv, ov, ib) :: rs, xi, xe, xv)).1 := by rw [eX]; exact xrel_push (x := (nxt lv (emD k), emO k, false)) hrel
        refine lv_goto (tgt := 79) hx hb d_EX_openEmbedding_59 (by decide) ?_
        have hI := CI.to (w2 := cw g ad (va_up (va_up (va_up ar 29 (upd (ar 29) (rs.length + 1) (nI (nxt lv (emD k))))) 30 (upd (ar 30) (rs.length + 1) (emO k))) 31 (upd (ar 31) (rs.length + 1) 0)) (va_up (va_up (va_up (va_up fl 7 (xt (xEmb k ((lv, ov, ib) :: rs, xi, xe, xv)))) 8 (nI (xEmb k ((lv, ov, ib) :: rs, xi, xe, xv)).2.1)) 9 (nI (xEmb k ((lv, ov, ib) :: rs, xi, xe, xv)).2.2.1)) 10 (nI (xEmb k ((lv, ov, ib) :: rs, xi, xe, xv)).2.2.2))) hI (by rw [eX] <;> rfl)
        exact hret (upd (ar 29) (rs.length + 1) (nI (nxt lv (emD k))), upd (ar 30) (rs.length + 1) (emO k), upd (ar 31) (rs.length + 1) 0) _ _ _ _ _ _ d_EX_openEmbedding_79 hI (hp9) (Nat.le_refl 0) (Nat.le_refl 0)
  refine lv_aload_n hx hb d_EX_openEmbedding_0 rfl (lv_at hl 0 rfl) ?_
  refine lv_iload_n hx hb d_EX_openEmbedding_1 rfl (lv_at hl 1 rfl) ?_
  refine lv_bipush (v := 16) hx hb d_EX_openEmbedding_2 (by decide) ?_
  refine lv_icmp_eq (tgt := 13) hx hb d_EX_openEmbedding_4 (by decide) (fun c4 => ?_) (fun c4 => ?_)
  · refine lv_iconst (v := 1) hx hb d_EX_openEmbedding_13 (by decide) ?_
    refine q_as (y := emD k) (by unfold emD; rw [if_pos]; first | exact Or.inl c4 | exact Or.inr c10) ?_
    refine lv_goto (tgt := 18) hx hb d_EX_openEmbedding_14 (by decide) ?_
    exact L18    _ _ _ hI (lv_sub hl [0, 1] rfl)
  · refine lv_iload_n hx hb d_EX_openEmbedding_7 rfl (lv_at hl 1 rfl) ?_
    refine lv_bipush (v := 17) hx hb d_EX_openEmbedding_8 (by decide) ?_
    refine lv_icmp_ne (tgt := 17) hx hb d_EX_openEmbedding_10 (by decide) (fun c10 => ?_) (fun c10 => ?_)
    · refine lv_iconst (v := 0) hx hb d_EX_openEmbedding_17 (by decide) ?_
      refine q_as (y := emD k) (by unfold emD; rw [if_neg (fun q => q.elim c4 c10)]) ?_
      exact L18    _ _ _ hI (lv_sub hl [0, 1] rfl)
    · refine lv_iconst (v := 1) hx hb d_EX_openEmbedding_13 (by decide) ?_
      refine q_as (y := emD k) (by unfold emD; rw [if_pos]; first | exact Or.inl c4 | exact Or.inr c10) ?_
      refine lv_goto (tgt := 18) hx hb d_EX_openEmbedding_14 (by decide) ?_
      exact L18    _ _ _ hI (lv_sub hl [0, 1] rfl)
abbrev rm_EX_openIsolate : Room := { frames := 2, cells := 0, slots := 0, locals := 42 }
set_option maxHeartbeats 4000000 in
set_option maxRecDepth 100000 in
theorem c_EX_openIsolate (l : Launch) (g : Geo) (ad : Nat → Nat) (ar : Nat → Nat → Int32) (fl : Nat → Int32) (dd : Int32) (lv : Nat) (ov : Int32) (ib : Bool) (rs : List XE) (xi xe xv N : Nat) (h7 : fl 7 = nI rs.length) (h8 : fl 8 = nI xi) (h9 : fl 9 = nI xe) (h10 : fl 10 = nI xv) (hrel : xrel (ar 29) (ar 30) (ar 31) ((lv, ov, ib) :: rs)) (hok : xok N ((lv, ov, ib) :: rs, xi, xe, xv)) (hN : N ≤ 2000) : cMv l y_EX_openIsolate (.code y_EX_openIsolate b_EX_openIsolate 3 none :: gw) rm_EX_openIsolate g [.ref (ad 6), .int dd] (cw g ad ar fl) (fun (u : (Nat → Int32) × (Nat → Int32) × (Nat → Int32)) => xrel u.1 u.2.1 u.2.2 (xIso dd ((lv, ov, ib) :: rs, xi, xe, xv)).1) (fun (u : (Nat → Int32) × (Nat → Int32) × (Nat → Int32)) => cw g ad (va_up (va_up (va_up ar 29 u.1) 30 u.2.1) 31 u.2.2) (va_up (va_up (va_up (va_up fl 7 (xt (xIso dd ((lv, ov, ib) :: rs, xi, xe, xv)))) 8 (nI (xIso dd ((lv, ov, ib) :: rs, xi, xe, xv)).2.1)) 9 (nI (xIso dd ((lv, ov, ib) :: rs, xi, xe, xv)).2.2.1)) 10 (nI (xIso dd ((lv, ov, ib) :: rs, xi, xe, xv)).2.2.2))) 0 0 := by
  refine cMv_of (by decide) (Nat.le_of_ble_eq_true rfl) ?_
  intro p e s m below meth c A Q ls M hnm hret hl hI
  have M : MC p s m ([.ref (ad 6), .int dd] : List Value).toArray meth c R_EX b_EX_openIsolate 3 := M
  have hl : lv_has ls 3 [(0, .ref (ad 6)), (1, .int dd)] := hl
  generalize ([.ref (ad 6), .int dd] : List Value).toArray = args at M hret ⊢
  have hx := M.1
  have hb := M.2.1
  have hb1 : rs.length ≤ lv := hok.2.1.1
  have hb2 : lv ≤ 125 := hok.2.1.2.1
  have hb3 : xi ≤ N := hok.2.2.1
  have hb4 : xe ≤ N := hok.2.2.2.1
  have hb5 : xv ≤ N := hok.2.2.2.2
  have hI := CI.to (w2 := cw g ad ar (va_up (va_up (va_up (va_up fl 7 (nI rs.length)) 8 (nI xi)) 9 (nI xe)) 10 (nI xv))) hI (by rw [← h7, ← h8, ← h9, ← h10]; rfl)
  refine lv_aload_n hx hb d_EX_openIsolate_0 rfl (lv_at hl 0 rfl) ?_
  refine lv_iload_n hx hb d_EX_openIsolate_1 rfl (lv_at hl 1 rfl) ?_
  refine q_calliV [.int dd] M hI (c_EX_nextLevel l g ad ar (va_up (va_up (va_up (va_up fl 7 (nI rs.length)) 8 (nI xi)) 9 (nI xe)) 10 (nI xv)) dd lv ov ib rs (by first | exact h7 | assumption | omega | rfl) (by first | exact hrel | assumption | omega | rfl) (by omega) (by omega)) ok_EX_nextLevel m3_93 m3_95 ms_7 6 rfl rfl rfl rfl hl.1 ⟨rfl, rfl⟩ ⟨Nat.le_of_ble_eq_true rfl, Nat.le_of_ble_eq_true rfl⟩ (Nat.le_of_ble_eq_true rfl) ⟨Nat.le_of_ble_eq_true rfl, Nat.le_of_ble_eq_true rfl⟩ d_EX_openIsolate_2 (fun r2 u2 H locs hp2 hI => ?_)
  refine q_as (y := nI (nxt lv dd)) hp2 ?_
  refine lv_istore_n (lv' := [(2, .int (nI (nxt lv dd))), (0, .ref (ad 6)), (1, .int dd)]) hx hb d_EX_openIsolate_5 rfl hl (by decide) rfl (fun ls hl => ?_)
  refine lv_aload_n hx hb d_EX_openIsolate_6 rfl (lv_at hl 1 rfl) ?_
  refine lv_iload_n hx hb d_EX_openIsolate_7 rfl (lv_at hl 0 rfl) ?_
  refine q_calliV [.int (nI (nxt lv dd))] M hI (c_EX_canOpen l g ad ar (va_up (va_up (va_up (va_up fl 7 (nI rs.length)) 8 (nI xi)) 9 (nI xe)) 10 (nI xv)) (nxt lv dd) xi xe (by first | exact h8 | assumption | omega | rfl) (by first | exact h9 | assumption | omega | rfl) (by have := (nxt_gt lv dd).2; omega) (by omega) (by omega)) ok_EX_canOpen m3_100 m3_102 ms_8 6 rfl rfl rfl rfl hl.1 ⟨rfl, rfl⟩ ⟨Nat.le_of_ble_eq_true rfl, Nat.le_of_ble_eq_true rfl⟩ (Nat.le_of_ble_eq_true rfl) ⟨Nat.le_of_ble_eq_true rfl, Nat.le_of_ble_eq_true rfl⟩ d_EX_openIsolate_8 (fun r8 u8 H locs hp8 hI => ?_)
  refine q_as (y := bI (canO (nxt lv dd) xi xe)) hp8 ?_
  refine lv_if_eq (tgt := 34) hx hb d_EX_openIsolate_11 (by decide) (fun c11 => ?_) (fun c11 => ?_)
  · have c11 := bI_eq0.mp c11
    have eX : xIso dd ((lv, ov, ib) :: rs, xi, xe, xv) = ((lv, ov, ib) :: rs, xi + 1, xe, xv) := by unfold xIso; exact if_neg c11
    have hp9 : xrel (ar 29) (ar 30) (ar 31) (xIso dd ((lv, ov, ib) :: rs, xi, xe, xv)).1 := by rw [eX]; exact hrel
    refine lv_aload_n hx hb d_EX_openIsolate_34 rfl (lv_at hl 1 rfl) ?_
    refine lv_dup hx hb d_EX_openIsolate_35 rfl ?_
    refine g_EX_26 M hI d_EX_openIsolate_36 ?_
    refine q_as (y := nI xi) rfl ?_
    refine lv_iconst (v := 1) hx hb d_EX_openIsolate_39 (by decide) ?_
    refine lv_iadd hx hb d_EX_openIsolate_40 ?_
    refine q_as (y := nI (xi + 1)) (nI_add xi 1) ?_
    refine p_EX_26 M hI d_EX_openIsolate_41 (fun H locs hI => ?_)
    have hI : CI g A s (cw g ad ar (va_up (va_up (va_up (va_up fl 7 (nI rs.length)) 9 (nI xe)) 10 (nI xv)) 8 (nI (xi + 1)))) H locs := hI
    have hI := CI.to (w2 := cw g ad (va_up (va_up (va_up ar 29 (ar 29)) 30 (ar 30)) 31 (ar 31)) (va_up (va_up (va_up (va_up fl 7 (xt (xIso dd ((lv, ov, ib) :: rs, xi, xe, xv)))) 8 (nI (xIso dd ((lv, ov, ib) :: rs, xi, xe, xv)).2.1)) 9 (nI (xIso dd ((lv, ov, ib) :: rs, xi, xe, xv)).2.2.1)) 10 (nI (xIso dd ((lv, ov, ib) :: rs, xi, xe, xv)).2.2.2))) hI (by rw [eX] <;> rfl)
    exact hret (ar 29, ar 30, ar 31) _ _ _ _ _ _ d_EX_openIsolate_44 hI (hp9) (Nat.le_refl 0) (Nat.le_refl 0)
  · have c11 := bI_ne0.mp c11
    have eX : xIso dd ((lv, ov, ib) :: rs, xi, xe, xv) = ((nxt lv dd, -1, true) :: (lv, ov, ib) :: rs, xi, xe, xv + 1) := by unfold xIso; exact if_pos c11
    refine lv_aload_n hx hb d_EX_openIsolate_14 rfl (lv_at hl 1 rfl) ?_
    refine lv_dup hx hb d_EX_openIsolate_15 rfl ?_
    refine g_EX_32 M hI d_EX_openIsolate_16 ?_
    refine q_as (y := nI xv) rfl ?_
    refine lv_iconst (v := 1) hx hb d_EX_openIsolate_19 (by decide) ?_
    refine lv_iadd hx hb d_EX_openIsolate_20 ?_
    refine q_as (y := nI (xv + 1)) (nI_add xv 1) ?_
    refine p_EX_32 M hI d_EX_openIsolate_21 (fun H locs hI => ?_)
    have hI : CI g A s (cw g ad ar (va_up (va_up (va_up (va_up fl 7 (nI rs.length)) 8 (nI xi)) 9 (nI xe)) 10 (nI (xv + 1)))) H locs := hI
    refine lv_aload_n hx hb d_EX_openIsolate_24 rfl (lv_at hl 1 rfl) ?_
    refine lv_iload_n hx hb d_EX_openIsolate_25 rfl (lv_at hl 0 rfl) ?_
    refine lv_iconst (v := (-1)) hx hb d_EX_openIsolate_26 (by decide) ?_
    refine lv_iconst (v := 1) hx hb d_EX_openIsolate_27 (by decide) ?_
    refine q_callvV [.int (nI (nxt lv dd)), .int (-1), .int 1] M hI (c_EX_push l g ad ar (va_up (va_up (va_up (va_up fl 7 (nI rs.length)) 8 (nI xi)) 9 (nI xe)) 10 (nI (xv + 1))) (nxt lv dd) (-1) 1 rs (by first | exact h7 | assumption | omega | rfl) (by omega) (rfl)) ok_EX_push m3_104 m3_106 ms_9 6 rfl rfl rfl rfl hl.1 ⟨rfl, rfl⟩ ⟨Nat.le_of_ble_eq_true rfl, Nat.le_of_ble_eq_true rfl⟩ (Nat.le_of_ble_eq_true rfl) ⟨Nat.le_of_ble_eq_true rfl, Nat.le_of_ble_eq_true rfl⟩ d_EX_openIsolate_28 (fun u28 H locs hp28 hI => ?_)
    have hI : CI g A s (cw g ad (va_up (va_up (va_up ar 29 (upd (ar 29) (rs.length + 1) (nI (nxt lv dd)))) 30 (upd (ar 30) (rs.length + 1) (-1))) 31 (upd (ar 31) (rs.length + 1) 1)) (va_up (va_up (va_up (va_up fl 8 (nI xi)) 9 (nI xe)) 10 (nI (xv + 1))) 7 (nI (rs.length + 1)))) H locs := hI
    have hp9 : xrel (upd (ar 29) (rs.length + 1) (nI (nxt lv dd))) (upd (ar 30) (rs.length + 1) (-1)) (upd (ar 31) (rs.length + 1) 1) (xIso dd ((lv, ov, ib) :: rs, xi, xe, xv)).1 := by rw [eX]; exact xrel_push (x := (nxt lv dd, -1, true)) hrel
    refine lv_goto (tgt := 44) hx hb d_EX_openIsolate_31 (by decide) ?_
    have hI := CI.to (w2 := cw g ad (va_up (va_up (va_up ar 29 (upd (ar 29) (rs.length + 1) (nI (nxt lv dd)))) 30 (upd (ar 30) (rs.length + 1) (-1))) 31 (upd (ar 31) (rs.length + 1) 1)) (va_up (va_up (va_up (va_up fl 7 (xt (xIso dd ((lv, ov, ib) :: rs, xi, xe, xv)))) 8 (nI (xIso dd ((lv, ov, ib) :: rs, xi, xe, xv)).2.1)) 9 (nI (xIso dd ((lv, ov, ib) :: rs, xi, xe, xv)).2.2.1)) 10 (nI (xIso dd ((lv, ov, ib) :: rs, xi, xe, xv)).2.2.2))) hI (by rw [eX] <;> rfl)
    exact hret (upd (ar 29) (rs.length + 1) (nI (nxt lv dd)), upd (ar 30) (rs.length + 1) (-1), upd (ar 31) (rs.length + 1) 1) _ _ _ _ _ _ d_EX_openIsolate_44 hI (hp9) (Nat.le_refl 0) (Nat.le_refl 0)
abbrev rm_EX_closeIsolate : Room := { frames := 1, cells := 0, slots := 0, locals := 40 }
set_option maxHeartbeats 4000000 in
set_option maxRecDepth 100000 in
theorem c_EX_closeIsolate (l : Launch) (g : Geo) (ad : Nat → Nat) (ar : Nat → Nat → Int32) (fl : Nat → Int32) (lv : Nat) (ov : Int32) (ib : Bool) (rs : List XE) (xi xe xv N : Nat) (h7 : fl 7 = nI rs.length) (h8 : fl 8 = nI xi) (h9 : fl 9 = nI xe) (h10 : fl 10 = nI xv) (hrel : xrel (ar 29) (ar 30) (ar 31) ((lv, ov, ib) :: rs)) (hok : xok N ((lv, ov, ib) :: rs, xi, xe, xv)) (hN : N ≤ 2000) : cMv l y_EX_closeIsolate (.code y_EX_closeIsolate b_EX_closeIsolate 1 none :: gw) rm_EX_closeIsolate g [.ref (ad 6)] (cw g ad ar fl) (fun (_ : Unit) => xrel (ar 29) (ar 30) (ar 31) (xPdi ((lv, ov, ib) :: rs, xi, xe, xv)).1) (fun (_ : Unit) => cw g ad ar (va_up (va_up (va_up (va_up fl 7 (xt (xPdi ((lv, ov, ib) :: rs, xi, xe, xv)))) 8 (nI (xPdi ((lv, ov, ib) :: rs, xi, xe, xv)).2.1)) 9 (nI (xPdi ((lv, ov, ib) :: rs, xi, xe, xv)).2.2.1)) 10 (nI (xPdi ((lv, ov, ib) :: rs, xi, xe, xv)).2.2.2))) 0 0 := by
  refine cMv_of (by decide) (Nat.le_of_ble_eq_true rfl) ?_
  intro p e s m below meth c A Q ls M hnm hret hl hI
  have M : MC p s m ([.ref (ad 6)] : List Value).toArray meth c R_EX b_EX_closeIsolate 1 := M
  have hl : lv_has ls 1 [(0, .ref (ad 6))] := hl
  generalize ([.ref (ad 6)] : List Value).toArray = args at M hret ⊢
  have hx := M.1
  have hb := M.2.1
  have hb1 : rs.length ≤ lv := hok.2.1.1
  have hb2 : lv ≤ 125 := hok.2.1.2.1
  have hb3 : xi ≤ N := hok.2.2.1
  have hb4 : xe ≤ N := hok.2.2.2.1
  have hb5 : xv ≤ N := hok.2.2.2.2
  have hI := CI.to (w2 := cw g ad ar (va_up (va_up (va_up (va_up fl 7 (nI rs.length)) 8 (nI xi)) 9 (nI xe)) 10 (nI xv))) hI (by rw [← h7, ← h8, ← h9, ← h10]; rfl)
  refine lv_aload_n hx hb d_EX_closeIsolate_0 rfl (lv_at hl 0 rfl) ?_
  refine g_EX_26 M hI d_EX_closeIsolate_1 ?_
  refine q_as (y := nI xi) rfl ?_
  refine lv_if_le (tgt := 20) hx hb d_EX_closeIsolate_4 (by decide) (fun c4 => ?_) (fun c4 => ?_)
  · have c4 : xi ≤ 0 := (nI_leI (a := xi) (b := 0) (by omega) (by omega)).mp c4
    refine lv_aload_n hx hb d_EX_closeIsolate_20 rfl (lv_at hl 0 rfl) ?_
    refine g_EX_32 M hI d_EX_closeIsolate_21 ?_
    refine q_as (y := nI xv) rfl ?_
    refine lv_if_le (tgt := 88) hx hb d_EX_closeIsolate_24 (by decide) (fun c24 => ?_) (fun c24 => ?_)
    · have c24 : xv ≤ 0 := (nI_leI (a := xv) (b := 0) (by omega) (by omega)).mp c24
      have eX : xPdi ((lv, ov, ib) :: rs, xi, xe, xv) = ((lv, ov, ib) :: rs, xi, xe, xv) := by unfold xPdi; exact (if_neg (show ¬ 0 < xi by omega)).trans (if_neg (show ¬ 0 < xv by omega))
      have e7 : xt (xPdi ((lv, ov, ib) :: rs, xi, xe, xv)) = nI rs.length := by rw [eX]; rfl
      have hp9 : xrel (ar 29) (ar 30) (ar 31) (xPdi ((lv, ov, ib) :: rs, xi, xe, xv)).1 := by rw [eX]; exact hrel
      have hI := CI.to (w2 := cw g ad ar (va_up (va_up (va_up (va_up fl 7 (xt (xPdi ((lv, ov, ib) :: rs, xi, xe, xv)))) 8 (nI (xPdi ((lv, ov, ib) :: rs, xi, xe, xv)).2.1)) 9 (nI (xPdi ((lv, ov, ib) :: rs, xi, xe, xv)).2.2.1)) 10 (nI (xPdi ((lv, ov, ib) :: rs, xi, xe, xv)).2.2.2))) hI (by rw [e7, eX] <;> rfl)
      exact hret () _ _ _ _ _ _ d_EX_closeIsolate_88 hI (hp9) (Nat.le_refl 0) (Nat.le_refl 0)
    · have c24 : ¬ xv ≤ 0 := fun h => c24 ((nI_leI (a := xv) (b := 0) (by omega) (by omega)).mpr h)
      have eX : xPdi ((lv, ov, ib) :: rs, xi, xe, xv) = (popI ((lv, ov, ib) :: rs), xi, 0, xv - 1) := by unfold xPdi; exact (if_neg (show ¬ 0 < xi by omega)).trans (if_pos (show 0 < xv by omega))
      have hp9 : xrel (ar 29) (ar 30) (ar 31) (xPdi ((lv, ov, ib) :: rs, xi, xe, xv)).1 := by rw [eX]; exact popI_rel hrel
      have L64 : ∀  (x1 : Nat) (o1 : Int32) (b1 : Bool) (t1 : List XE), (popI ((lv, ov, ib) :: rs) = popI ((x1, o1, b1) :: t1)) → (t1.length ≤ 125) → (t1 = [] ∨ b1 = true) → ∀ (H : Heap) (locs : List Loc) (ls : Array Slot), CI g A s (cw g ad ar (va_up (va_up (va_up (va_up fl 7 (nI t1.length)) 8 (nI xi)) 9 (nI 0)) 10 (nI xv))) H locs → lv_has ls 1 [(0, .ref (ad 6))] → W p l e rm_EX_closeIsolate s m args below meth c H locs 0 0 Q (F0 m 64 ls []) := by
        intro x1 o1 b1 t1 hp hl1 hs H locs ls hI hl
        refine lv_aload_n hx hb d_EX_closeIsolate_64 rfl (lv_at hl 0 rfl) ?_
        refine lv_aload_n hx hb d_EX_closeIsolate_65 rfl (lv_at hl 0 rfl) ?_
        refine g_EX_22 M hI d_EX_closeIsolate_66 ?_
        refine q_as (y := nI t1.length) rfl ?_
        refine lv_iconst (v := 1) hx hb d_EX_closeIsolate_69 (by decide) ?_
        refine lv_isub hx hb d_EX_closeIsolate_70 ?_
        refine lv_iconst (v := 0) hx hb d_EX_closeIsolate_71 (by decide) ?_
        refine va_mmax hx hb (by rw [hl.1]; exact M.2.2.1) M.2.2.2.1 (M.2.2.2.2.1 _ m3_130) (M.2.2.2.2.1 _ m3_76) (M.2.2.2.2.1 _ m1_18) (M.2.2.2.2.1 _ m3_77) (Nat.le_of_ble_eq_true rfl) (Nat.le_of_ble_eq_true rfl) (Nat.le_of_ble_eq_true rfl) (Nat.le_of_ble_eq_true rfl) d_EX_closeIsolate_72 ?_
        refine q_as (y := nI (t1.length - 1)) (max_pred (by omega)) ?_
        have e7 : xt (xPdi ((lv, ov, ib) :: rs, xi, xe, xv)) = nI (t1.length - 1) := by rw [eX]; unfold xt; simp only; rw [hp, popI_stop hs]
        refine p_EX_22 M hI d_EX_closeIsolate_75 (fun H locs hI => ?_)
        have hI : CI g A s (cw g ad ar (va_up (va_up (va_up (va_up fl 8 (nI xi)) 9 (nI 0)) 10 (nI xv)) 7 (nI (t1.length - 1)))) H locs := hI
        refine lv_aload_n hx hb d_EX_closeIsolate_78 rfl (lv_at hl 0 rfl) ?_
        refine lv_dup hx hb d_EX_closeIsolate_79 rfl ?_
        refine g_EX_32 M hI d_EX_closeIsolate_80 ?_
        refine q_as (y := nI xv) rfl ?_
        refine lv_iconst (v := 1) hx hb d_EX_closeIsolate_83 (by decide) ?_
        refine lv_isub hx hb d_EX_closeIsolate_84 ?_
        refine q_as (y := nI (xv - 1)) (pk_sub (a := xv) (b := 1) (by omega)) ?_
        refine p_EX_32 M hI d_EX_closeIsolate_85 (fun H locs hI => ?_)
        have hI : CI g A s (cw g ad ar (va_up (va_up (va_up (va_up fl 8 (nI xi)) 9 (nI 0)) 7 (nI (t1.length - 1))) 10 (nI (xv - 1)))) H locs := hI
        have hI := CI.to (w2 := cw g ad ar (va_up (va_up (va_up (va_up fl 7 (xt (xPdi ((lv, ov, ib) :: rs, xi, xe, xv)))) 8 (nI (xPdi ((lv, ov, ib) :: rs, xi, xe, xv)).2.1)) 9 (nI (xPdi ((lv, ov, ib) :: rs, xi, xe, xv)).2.2.1)) 10 (nI (xPdi ((lv, ov, ib) :: rs, xi, xe, xv)).2.2.2))) hI (by rw [e7, eX] <;> rfl)
        exact hret () _ _ _ _ _ _ d_EX_closeIsolate_88 hI (hp9) (Nat.le_refl 0) (Nat.le_refl 0)
      refine lv_aload_n hx hb d_EX_closeIsolate_27 rfl (lv_at hl 0 rfl) ?_
      refine lv_iconst (v := 0) hx hb d_EX_closeIsolate_28 (by decide) ?_
      refine p_EX_29 M hI d_EX_closeIsolate_29 (fun H locs hI => ?_)
      have hI : CI g A s (cw g ad ar (va_up (va_up (va_up (va_up fl 7 (nI rs.length)) 8 (nI xi)) 10 (nI xv)) 9 0)) H locs := hI
      have L32 : ∀ (fu : Nat) (x1 : Nat) (o1 : Int32) (b1 : Bool) (t1 : List XE), t1.length < fu → (xrel (ar 29) (ar 30) (ar 31) ((x1, o1, b1) :: t1)) → (popI ((lv, ov, ib) :: rs) = popI ((x1, o1, b1) :: t1)) → (t1.length ≤ 125) → ∀ (H : Heap) (locs : List Loc) (ls : Array Slot), CI g A s (cw g ad ar (va_up (va_up (va_up (va_up fl 7 (nI t1.length)) 8 (nI xi)) 9 (nI 0)) 10 (nI xv))) H locs → lv_has ls 1 [(0, .ref (ad 6))] → W p l e rm_EX_closeIsolate s m args below meth c H locs 0 0 Q (F0 m 32 ls []) := by
        intro fu
        induction fu with
        | zero => intro x1 o1 b1 t1 hm; exact absurd hm (Nat.not_lt_zero _)
        | succ fu ih32 =>
          intro x1 o1 b1 t1 hm hr1 hp hl1 H locs ls hI hl
          refine lv_aload_n hx hb d_EX_closeIsolate_32 rfl (lv_at hl 0 rfl) ?_
          refine g_EX_22 M hI d_EX_closeIsolate_33 ?_
          refine q_as (y := nI t1.length) rfl ?_
          refine lv_if_le (tgt := 64) hx hb d_EX_closeIsolate_36 (by decide) (fun c36 => ?_) (fun c36 => ?_)
          · have c36 : t1.length ≤ 0 := (nI_leI (a := t1.length) (b := 0) (by omega) (by omega)).mp c36
            exact L64 x1 o1 b1 t1  (by first | assumption | omega) (by first | assumption | omega) (Or.inl (List.eq_nil_of_length_eq_zero (by omega))) _ _ _ hI (lv_sub hl [0] rfl)
          · have c36 : ¬ t1.length ≤ 0 := fun h => c36 ((nI_leI (a := t1.length) (b := 0) (by omega) (by omega)).mpr h)
            refine lv_aload_n hx hb d_EX_closeIsolate_39 rfl (lv_at hl 0 rfl) ?_
            refine g_EX_18 M hI d_EX_closeIsolate_40 ?_
            refine lv_aload_n hx hb d_EX_closeIsolate_43 rfl (lv_at hl 0 rfl) ?_
            refine g_EX_22 M hI d_EX_closeIsolate_44 ?_
            refine q_as (y := nI t1.length) rfl ?_
            refine al_31 M hI t1.length rfl (by omega) d_EX_closeIsolate_47 ?_
            refine q_as (y := if b1 = true then 1 else 0) (hr1.2.2.1) ?_
            refine lv_if_ne (tgt := 64) hx hb d_EX_closeIsolate_48 (by decide) (fun c48 => ?_) (fun c48 => ?_)
            · have c48 := z_true c48
              exact L64 x1 o1 b1 t1  (by first | assumption | omega) (by first | assumption | omega) (Or.inr c48) _ _ _ hI (lv_sub hl [0] rfl)
            · have c48 := z_false c48
              obtain ⟨y, t2, ht2⟩ : ∃ y t2, t1 = y :: t2 := by cases t1 with | nil => exact absurd (Nat.le_refl 0) c36 | cons y t2 => exact ⟨y, t2, rfl⟩
              have hl2 : t1.length = t2.length + 1 := by rw [ht2]; rfl
              have hr2 : xrel (ar 29) (ar 30) (ar 31) ((y.1, y.2.1, y.2.2) :: t2) := (ht2 ▸ hr1).2.2.2
              have hp2 : popI ((lv, ov, ib) :: rs) = popI ((y.1, y.2.1, y.2.2) :: t2) := by rw [hp, ht2]; simp only [popI]; rw [if_neg (by rw [c48]; decide)]
              refine lv_aload_n hx hb d_EX_closeIsolate_51 rfl (lv_at hl 0 rfl) ?_
              refine lv_dup hx hb d_EX_closeIsolate_52 rfl ?_
              refine g_EX_22 M hI d_EX_closeIsolate_53 ?_
              refine q_as (y := nI t1.length) rfl ?_
              refine lv_iconst (v := 1) hx hb d_EX_closeIsolate_56 (by decide) ?_
              refine lv_isub hx hb d_EX_closeIsolate_57 ?_
              refine q_as (y := nI t2.length) (by rw [hl2]; exact nI_pred _) ?_
              refine p_EX_22 M hI d_EX_closeIsolate_58 (fun H locs hI => ?_)
              have hI : CI g A s (cw g ad ar (va_up (va_up (va_up (va_up fl 8 (nI xi)) 9 (nI 0)) 10 (nI xv)) 7 (nI t2.length))) H locs := hI
              refine lv_goto (tgt := 32) hx hb d_EX_closeIsolate_61 (by decide) ?_
              exact ih32 y.1 y.2.1 y.2.2 t2 (by omega) (hr2) (hp2) (by first | assumption | omega) _ _ _ hI (lv_sub hl [0] rfl)
      have hI := CI.to (w2 := cw g ad ar (va_up (va_up (va_up (va_up fl 7 (nI rs.length)) 8 (nI xi)) 9 (nI 0)) 10 (nI xv))) hI (by rfl)
      exact L32 _ lv ov ib rs (Nat.lt_succ_self _) (hrel) (rfl) (by first | assumption | omega) _ _ _ hI (lv_sub hl [0] rfl)
  · have c4 : ¬ xi ≤ 0 := fun h => c4 ((nI_leI (a := xi) (b := 0) (by omega) (by omega)).mpr h)
    have eX : xPdi ((lv, ov, ib) :: rs, xi, xe, xv) = ((lv, ov, ib) :: rs, xi - 1, xe, xv) := by unfold xPdi; exact if_pos (show 0 < xi by omega)
    have e7 : xt (xPdi ((lv, ov, ib) :: rs, xi, xe, xv)) = nI rs.length := by rw [eX]; rfl
    have hp9 : xrel (ar 29) (ar 30) (ar 31) (xPdi ((lv, ov, ib) :: rs, xi, xe, xv)).1 := by rw [eX]; exact hrel
    refine lv_aload_n hx hb d_EX_closeIsolate_7 rfl (lv_at hl 0 rfl) ?_
    refine lv_dup hx hb d_EX_closeIsolate_8 rfl ?_
    refine g_EX_26 M hI d_EX_closeIsolate_9 ?_
    refine q_as (y := nI xi) rfl ?_
    refine lv_iconst (v := 1) hx hb d_EX_closeIsolate_12 (by decide) ?_
    refine lv_isub hx hb d_EX_closeIsolate_13 ?_
    refine q_as (y := nI (xi - 1)) (pk_sub (a := xi) (b := 1) (by omega)) ?_
    refine p_EX_26 M hI d_EX_closeIsolate_14 (fun H locs hI => ?_)
    have hI : CI g A s (cw g ad ar (va_up (va_up (va_up (va_up fl 7 (nI rs.length)) 9 (nI xe)) 10 (nI xv)) 8 (nI (xi - 1)))) H locs := hI
    refine lv_goto (tgt := 88) hx hb d_EX_closeIsolate_17 (by decide) ?_
    have hI := CI.to (w2 := cw g ad ar (va_up (va_up (va_up (va_up fl 7 (xt (xPdi ((lv, ov, ib) :: rs, xi, xe, xv)))) 8 (nI (xPdi ((lv, ov, ib) :: rs, xi, xe, xv)).2.1)) 9 (nI (xPdi ((lv, ov, ib) :: rs, xi, xe, xv)).2.2.1)) 10 (nI (xPdi ((lv, ov, ib) :: rs, xi, xe, xv)).2.2.2))) hI (by rw [e7, eX] <;> rfl)
    exact hret () _ _ _ _ _ _ d_EX_closeIsolate_88 hI (hp9) (Nat.le_refl 0) (Nat.le_refl 0)
abbrev rm_EX_closeEmbedding : Room := { frames := 0, cells := 0, slots := 0, locals := 0 }
set_option maxHeartbeats 4000000 in
set_option maxRecDepth 100000 in
theorem c_EX_closeEmbedding (l : Launch) (g : Geo) (ad : Nat → Nat) (ar : Nat → Nat → Int32) (fl : Nat → Int32) (lv : Nat) (ov : Int32) (ib : Bool) (rs : List XE) (xi xe xv N : Nat) (h7 : fl 7 = nI rs.length) (h8 : fl 8 = nI xi) (h9 : fl 9 = nI xe) (h10 : fl 10 = nI xv) (hrel : xrel (ar 29) (ar 30) (ar 31) ((lv, ov, ib) :: rs)) (hok : xok N ((lv, ov, ib) :: rs, xi, xe, xv)) (hN : N ≤ 2000) : cMv l y_EX_closeEmbedding (.code y_EX_closeEmbedding b_EX_closeEmbedding 1 none :: gw) rm_EX_closeEmbedding g [.ref (ad 6)] (cw g ad ar fl) (fun (_ : Unit) => xrel (ar 29) (ar 30) (ar 31) (xPdf ((lv, ov, ib) :: rs, xi, xe, xv)).1) (fun (_ : Unit) => cw g ad ar (va_up (va_up (va_up (va_up fl 7 (xt (xPdf ((lv, ov, ib) :: rs, xi, xe, xv)))) 8 (nI (xPdf ((lv, ov, ib) :: rs, xi, xe, xv)).2.1)) 9 (nI (xPdf ((lv, ov, ib) :: rs, xi, xe, xv)).2.2.1)) 10 (nI (xPdf ((lv, ov, ib) :: rs, xi, xe, xv)).2.2.2))) 0 0 := by
  refine cMv_of (by decide) (Nat.le_of_ble_eq_true rfl) ?_
  intro p e s m below meth c A Q ls M hnm hret hl hI
  have M : MC p s m ([.ref (ad 6)] : List Value).toArray meth c R_EX b_EX_closeEmbedding 1 := M
  have hl : lv_has ls 1 [(0, .ref (ad 6))] := hl
  generalize ([.ref (ad 6)] : List Value).toArray = args at M hret ⊢
  have hx := M.1
  have hb := M.2.1
  have hb1 : rs.length ≤ lv := hok.2.1.1
  have hb2 : lv ≤ 125 := hok.2.1.2.1
  have hb3 : xi ≤ N := hok.2.2.1
  have hb4 : xe ≤ N := hok.2.2.2.1
  have hb5 : xv ≤ N := hok.2.2.2.2
  have hI := CI.to (w2 := cw g ad ar (va_up (va_up (va_up (va_up fl 7 (nI rs.length)) 8 (nI xi)) 9 (nI xe)) 10 (nI xv))) hI (by rw [← h7, ← h8, ← h9, ← h10]; rfl)
  refine lv_aload_n hx hb d_EX_closeEmbedding_0 rfl (lv_at hl 0 rfl) ?_
  refine g_EX_26 M hI d_EX_closeEmbedding_1 ?_
  refine q_as (y := nI xi) rfl ?_
  refine lv_if_le (tgt := 8) hx hb d_EX_closeEmbedding_4 (by decide) (fun c4 => ?_) (fun c4 => ?_)
  · have c4 : xi ≤ 0 := (nI_leI (a := xi) (b := 0) (by omega) (by omega)).mp c4
    refine lv_aload_n hx hb d_EX_closeEmbedding_8 rfl (lv_at hl 0 rfl) ?_
    refine g_EX_29 M hI d_EX_closeEmbedding_9 ?_
    refine q_as (y := nI xe) rfl ?_
    refine lv_if_le (tgt := 28) hx hb d_EX_closeEmbedding_12 (by decide) (fun c12 => ?_) (fun c12 => ?_)
    · have c12 : xe ≤ 0 := (nI_leI (a := xe) (b := 0) (by omega) (by omega)).mp c12
      have eX0 : xPdf ((lv, ov, ib) :: rs, xi, xe, xv) = (popE ((lv, ov, ib) :: rs), xi, xe, xv) := by unfold xPdf; exact (if_neg (show ¬ 0 < xi by omega)).trans (if_neg (show ¬ 0 < xe by omega))
      refine lv_aload_n hx hb d_EX_closeEmbedding_28 rfl (lv_at hl 0 rfl) ?_
      refine g_EX_22 M hI d_EX_closeEmbedding_29 ?_
      refine q_as (y := nI rs.length) rfl ?_
      refine lv_if_le (tgt := 57) hx hb d_EX_closeEmbedding_32 (by decide) (fun c32 => ?_) (fun c32 => ?_)
      · have c32 : rs.length ≤ 0 := (nI_leI (a := rs.length) (b := 0) (by omega) (by omega)).mp c32
        have hrs : rs = [] := List.eq_nil_of_length_eq_zero (by omega)
        have eX : xPdf ((lv, ov, ib) :: rs, xi, xe, xv) = ((lv, ov, ib) :: rs, xi, xe, xv) := by rw [eX0, hrs]; rfl
        have e7 : xt (xPdf ((lv, ov, ib) :: rs, xi, xe, xv)) = nI rs.length := by rw [eX]; rfl
        have hp9 : xrel (ar 29) (ar 30) (ar 31) (xPdf ((lv, ov, ib) :: rs, xi, xe, xv)).1 := by rw [eX]; exact hrel
        have hI := CI.to (w2 := cw g ad ar (va_up (va_up (va_up (va_up fl 7 (xt (xPdf ((lv, ov, ib) :: rs, xi, xe, xv)))) 8 (nI (xPdf ((lv, ov, ib) :: rs, xi, xe, xv)).2.1)) 9 (nI (xPdf ((lv, ov, ib) :: rs, xi, xe, xv)).2.2.1)) 10 (nI (xPdf ((lv, ov, ib) :: rs, xi, xe, xv)).2.2.2))) hI (by rw [e7, eX] <;> rfl)
        exact hret () _ _ _ _ _ _ d_EX_closeEmbedding_57 hI (hp9) (Nat.le_refl 0) (Nat.le_refl 0)
      · have c32 : ¬ rs.length ≤ 0 := fun h => c32 ((nI_leI (a := rs.length) (b := 0) (by omega) (by omega)).mpr h)
        obtain ⟨y, t2, hrs⟩ : ∃ y t2, rs = y :: t2 := by cases rs with | nil => exact absurd (Nat.le_refl 0) c32 | cons y t2 => exact ⟨y, t2, rfl⟩
        refine lv_aload_n hx hb d_EX_closeEmbedding_35 rfl (lv_at hl 0 rfl) ?_
        refine g_EX_18 M hI d_EX_closeEmbedding_36 ?_
        refine lv_aload_n hx hb d_EX_closeEmbedding_39 rfl (lv_at hl 0 rfl) ?_
        refine g_EX_22 M hI d_EX_closeEmbedding_40 ?_
        refine q_as (y := nI rs.length) rfl ?_
        refine al_31 M hI rs.length rfl (by omega) d_EX_closeEmbedding_43 ?_
        refine q_as (y := if ib = true then 1 else 0) (hrel.2.2.1) ?_
        refine lv_if_ne (tgt := 57) hx hb d_EX_closeEmbedding_44 (by decide) (fun c44 => ?_) (fun c44 => ?_)
        · have c44 := z_true c44
          have eX : xPdf ((lv, ov, ib) :: rs, xi, xe, xv) = ((lv, ov, ib) :: rs, xi, xe, xv) := by rw [eX0, hrs]; simp only [popE]; rw [if_pos c44]
          have e7 : xt (xPdf ((lv, ov, ib) :: rs, xi, xe, xv)) = nI rs.length := by rw [eX]; rfl
          have hp9 : xrel (ar 29) (ar 30) (ar 31) (xPdf ((lv, ov, ib) :: rs, xi, xe, xv)).1 := by rw [eX]; exact hrel
          have hI := CI.to (w2 := cw g ad ar (va_up (va_up (va_up (va_up fl 7 (xt (xPdf ((lv, ov, ib) :: rs, xi, xe, xv)))) 8 (nI (xPdf ((lv, ov, ib) :: rs, xi, xe, xv)).2.1)) 9 (nI (xPdf ((lv, ov, ib) :: rs, xi, xe, xv)).2.2.1)) 10 (nI (xPdf ((lv, ov, ib) :: rs, xi, xe, xv)).2.2.2))) hI (by rw [e7, eX] <;> rfl)
          exact hret () _ _ _ _ _ _ d_EX_closeEmbedding_57 hI (hp9) (Nat.le_refl 0) (Nat.le_refl 0)
        · have c44 := z_false c44
          have eX : xPdf ((lv, ov, ib) :: rs, xi, xe, xv) = (y :: t2, xi, xe, xv) := by rw [eX0, hrs]; simp only [popE]; rw [if_neg (by rw [c44]; decide)]
          have e7 : xt (xPdf ((lv, ov, ib) :: rs, xi, xe, xv)) = nI (rs.length - 1) := by rw [eX, hrs]; rfl
          have hp9 : xrel (ar 29) (ar 30) (ar 31) (xPdf ((lv, ov, ib) :: rs, xi, xe, xv)).1 := by rw [eX]; exact (hrs ▸ hrel).2.2.2
          refine lv_aload_n hx hb d_EX_closeEmbedding_47 rfl (lv_at hl 0 rfl) ?_
          refine lv_dup hx hb d_EX_closeEmbedding_48 rfl ?_
          refine g_EX_22 M hI d_EX_closeEmbedding_49 ?_
          refine q_as (y := nI rs.length) rfl ?_
          refine lv_iconst (v := 1) hx hb d_EX_closeEmbedding_52 (by decide) ?_
          refine lv_isub hx hb d_EX_closeEmbedding_53 ?_
          refine q_as (y := nI (rs.length - 1)) (pk_sub (a := rs.length) (b := 1) (by omega)) ?_
          refine p_EX_22 M hI d_EX_closeEmbedding_54 (fun H locs hI => ?_)
          have hI : CI g A s (cw g ad ar (va_up (va_up (va_up (va_up fl 8 (nI xi)) 9 (nI xe)) 10 (nI xv)) 7 (nI (rs.length - 1)))) H locs := hI
          have hI := CI.to (w2 := cw g ad ar (va_up (va_up (va_up (va_up fl 7 (xt (xPdf ((lv, ov, ib) :: rs, xi, xe, xv)))) 8 (nI (xPdf ((lv, ov, ib) :: rs, xi, xe, xv)).2.1)) 9 (nI (xPdf ((lv, ov, ib) :: rs, xi, xe, xv)).2.2.1)) 10 (nI (xPdf ((lv, ov, ib) :: rs, xi, xe, xv)).2.2.2))) hI (by rw [e7, eX] <;> rfl)
          exact hret () _ _ _ _ _ _ d_EX_closeEmbedding_57 hI (hp9) (Nat.le_refl 0) (Nat.le_refl 0)
    · have c12 : ¬ xe ≤ 0 := fun h => c12 ((nI_leI (a := xe) (b := 0) (by omega) (by omega)).mpr h)
      have eX : xPdf ((lv, ov, ib) :: rs, xi, xe, xv) = ((lv, ov, ib) :: rs, xi, xe - 1, xv) := by unfold xPdf; exact (if_neg (show ¬ 0 < xi by omega)).trans (if_pos (show 0 < xe by omega))
      have e7 : xt (xPdf ((lv, ov, ib) :: rs, xi, xe, xv)) = nI rs.length := by rw [eX]; rfl
      have hp9 : xrel (ar 29) (ar 30) (ar 31) (xPdf ((lv, ov, ib) :: rs, xi, xe, xv)).1 := by rw [eX]; exact hrel
      refine lv_aload_n hx hb d_EX_closeEmbedding_15 rfl (lv_at hl 0 rfl) ?_
      refine lv_dup hx hb d_EX_closeEmbedding_16 rfl ?_
      refine g_EX_29 M hI d_EX_closeEmbedding_17 ?_
      refine q_as (y := nI xe) rfl ?_
      refine lv_iconst (v := 1) hx hb d_EX_closeEmbedding_20 (by decide) ?_
      refine lv_isub hx hb d_EX_closeEmbedding_21 ?_
      refine q_as (y := nI (xe - 1)) (pk_sub (a := xe) (b := 1) (by omega)) ?_
      refine p_EX_29 M hI d_EX_closeEmbedding_22 (fun H locs hI => ?_)
      have hI : CI g A s (cw g ad ar (va_up (va_up (va_up (va_up fl 7 (nI rs.length)) 8 (nI xi)) 10 (nI xv)) 9 (nI (xe - 1)))) H locs := hI
      refine lv_goto (tgt := 57) hx hb d_EX_closeEmbedding_25 (by decide) ?_
      have hI := CI.to (w2 := cw g ad ar (va_up (va_up (va_up (va_up fl 7 (xt (xPdf ((lv, ov, ib) :: rs, xi, xe, xv)))) 8 (nI (xPdf ((lv, ov, ib) :: rs, xi, xe, xv)).2.1)) 9 (nI (xPdf ((lv, ov, ib) :: rs, xi, xe, xv)).2.2.1)) 10 (nI (xPdf ((lv, ov, ib) :: rs, xi, xe, xv)).2.2.2))) hI (by rw [e7, eX] <;> rfl)
      exact hret () _ _ _ _ _ _ d_EX_closeEmbedding_57 hI (hp9) (Nat.le_refl 0) (Nat.le_refl 0)
  · have c4 : ¬ xi ≤ 0 := fun h => c4 ((nI_leI (a := xi) (b := 0) (by omega) (by omega)).mpr h)
    have eX : xPdf ((lv, ov, ib) :: rs, xi, xe, xv) = ((lv, ov, ib) :: rs, xi, xe, xv) := by unfold xPdf; exact if_pos (show 0 < xi by omega)
    have e7 : xt (xPdf ((lv, ov, ib) :: rs, xi, xe, xv)) = nI rs.length := by rw [eX]; rfl
    have hp9 : xrel (ar 29) (ar 30) (ar 31) (xPdf ((lv, ov, ib) :: rs, xi, xe, xv)).1 := by rw [eX]; exact hrel
    have hI := CI.to (w2 := cw g ad ar (va_up (va_up (va_up (va_up fl 7 (xt (xPdf ((lv, ov, ib) :: rs, xi, xe, xv)))) 8 (nI (xPdf ((lv, ov, ib) :: rs, xi, xe, xv)).2.1)) 9 (nI (xPdf ((lv, ov, ib) :: rs, xi, xe, xv)).2.2.1)) 10 (nI (xPdf ((lv, ov, ib) :: rs, xi, xe, xv)).2.2.2))) hI (by rw [e7, eX] <;> rfl)
    exact hret () _ _ _ _ _ _ d_EX_closeEmbedding_7 hI (hp9) (Nat.le_refl 0) (Nat.le_refl 0)
abbrev rm_EX_remove : Room := { frames := 0, cells := 0, slots := 0, locals := 0 }
set_option maxHeartbeats 4000000 in
set_option maxRecDepth 100000 in
theorem c_EX_remove (l : Launch) (g : Geo) (ad : Nat → Nat) (ar : Nat → Nat → Int32) (fl : Nat → Int32) (q : Nat) (hq : q < 2000) : cMv l y_EX_remove (.code y_EX_remove b_EX_remove 2 none :: gw) rm_EX_remove g [.ref (ad 6), .int (nI q)] (cw g ad ar fl) (fun (_ : Unit) => True) (fun (_ : Unit) => cw g ad (va_up (va_up ar 15 (upd (ar 15) q (-1))) 14 (upd (ar 14) q (-1))) fl) 0 0 := by
  refine cMv_of (by decide) (Nat.le_of_ble_eq_true rfl) ?_
  intro p e s m below meth c A Q ls M hnm hret hl hI
  have M : MC p s m ([.ref (ad 6), .int (nI q)] : List Value).toArray meth c R_EX b_EX_remove 2 := M
  have hl : lv_has ls 2 [(0, .ref (ad 6)), (1, .int (nI q))] := hl
  generalize ([.ref (ad 6), .int (nI q)] : List Value).toArray = args at M hret ⊢
  have hx := M.1
  have hb := M.2.1
  refine lv_aload_n hx hb d_EX_remove_0 rfl (lv_at hl 0 rfl) ?_
  refine g_EX_35 M hI d_EX_remove_1 ?_
  refine g_EX_84 M hI d_EX_remove_4 ?_
  refine lv_iload_n hx hb d_EX_remove_7 rfl (lv_at hl 1 rfl) ?_
  refine lv_iconst (v := (-1)) hx hb d_EX_remove_8 (by decide) ?_
  refine as_15 M hI q rfl (by omega) d_EX_remove_9 (fun H locs hI => ?_)
  have hI : CI g A s (cw g ad (va_up ar 15 (upd (ar 15) q (-1))) fl) H locs := hI
  refine lv_aload_n hx hb d_EX_remove_10 rfl (lv_at hl 0 rfl) ?_
  refine g_EX_35 M hI d_EX_remove_11 ?_
  refine g_EX_87 M hI d_EX_remove_14 ?_
  refine lv_iload_n hx hb d_EX_remove_17 rfl (lv_at hl 1 rfl) ?_
  refine lv_iconst (v := (-1)) hx hb d_EX_remove_18 (by decide) ?_
  refine as_14 M hI q rfl (by omega) d_EX_remove_19 (fun H locs hI => ?_)
  have hI : CI g A s (cw g ad (va_up (va_up ar 15 (upd (ar 15) q (-1))) 14 (upd (ar 14) q (-1))) fl) H locs := hI
  exact hret () _ _ _ _ _ _ d_EX_remove_20 hI (trivial) (Nat.le_refl 0) (Nat.le_refl 0)
abbrev rm_EX_takeTop : Room := { frames := 0, cells := 0, slots := 0, locals := 0 }
set_option maxHeartbeats 4000000 in
set_option maxRecDepth 100000 in
theorem c_EX_takeTop (l : Launch) (g : Geo) (ad : Nat → Nat) (ar : Nat → Nat → Int32) (fl : Nat → Int32) (q : Nat) (lv : Nat) (ov : Int32) (ib : Bool) (rs : List XE) (h7 : fl 7 = nI rs.length) (hrel : xrel (ar 29) (ar 30) (ar 31) ((lv, ov, ib) :: rs)) (hl1 : rs.length ≤ 125) (hq : q < 2000) : cMv l y_EX_takeTop (.code y_EX_takeTop b_EX_takeTop 3 none :: gw) rm_EX_takeTop g [.ref (ad 6), .int (nI q)] (cw g ad ar fl) (fun (_ : Unit) => True) (fun (_ : Unit) => cw g ad (va_up (va_up ar 15 (upd (ar 15) q (nI lv))) 14 (upd (ar 14) q (if ov = -1 then ar 13 q else ov))) fl) 0 0 := by
  refine cMv_of (by decide) (Nat.le_of_ble_eq_true rfl) ?_
  intro p e s m below meth c A Q ls M hnm hret hl hI
  have M : MC p s m ([.ref (ad 6), .int (nI q)] : List Value).toArray meth c R_EX b_EX_takeTop 3 := M
  have hl : lv_has ls 3 [(0, .ref (ad 6)), (1, .int (nI q))] := hl
  generalize ([.ref (ad 6), .int (nI q)] : List Value).toArray = args at M hret ⊢
  have hx := M.1
  have hb := M.2.1
  refine lv_aload_n hx hb d_EX_takeTop_0 rfl (lv_at hl 0 rfl) ?_
  refine g_EX_15 M hI d_EX_takeTop_1 ?_
  refine lv_aload_n hx hb d_EX_takeTop_4 rfl (lv_at hl 0 rfl) ?_
  refine g_EX_22 M hI d_EX_takeTop_5 ?_
  refine q_as (y := nI rs.length) h7 ?_
  refine al_30 M hI rs.length rfl (by omega) d_EX_takeTop_8 ?_
  refine q_as (y := ov) (hrel.2.1) ?_
  refine lv_istore_n (lv' := [(2, .int ov), (0, .ref (ad 6)), (1, .int (nI q))]) hx hb d_EX_takeTop_9 rfl hl (by decide) rfl (fun ls hl => ?_)
  refine lv_aload_n hx hb d_EX_takeTop_10 rfl (lv_at hl 1 rfl) ?_
  refine g_EX_35 M hI d_EX_takeTop_11 ?_
  refine g_EX_84 M hI d_EX_takeTop_14 ?_
  refine lv_iload_n hx hb d_EX_takeTop_17 rfl (lv_at hl 2 rfl) ?_
  refine lv_aload_n hx hb d_EX_takeTop_18 rfl (lv_at hl 1 rfl) ?_
  refine g_EX_9 M hI d_EX_takeTop_19 ?_
  refine lv_aload_n hx hb d_EX_takeTop_22 rfl (lv_at hl 1 rfl) ?_
  refine g_EX_22 M hI d_EX_takeTop_23 ?_
  refine q_as (y := nI rs.length) h7 ?_
  refine al_29 M hI rs.length rfl (by omega) d_EX_takeTop_26 ?_
  refine q_as (y := nI lv) (hrel.1) ?_
  refine as_15 M hI q rfl (by omega) d_EX_takeTop_27 (fun H locs hI => ?_)
  have hI : CI g A s (cw g ad (va_up ar 15 (upd (ar 15) q (nI lv))) fl) H locs := hI
  refine lv_aload_n hx hb d_EX_takeTop_28 rfl (lv_at hl 1 rfl) ?_
  refine g_EX_35 M hI d_EX_takeTop_29 ?_
  refine g_EX_87 M hI d_EX_takeTop_32 ?_
  refine lv_iload_n hx hb d_EX_takeTop_35 rfl (lv_at hl 2 rfl) ?_
  refine lv_iload_n hx hb d_EX_takeTop_36 rfl (lv_at hl 0 rfl) ?_
  refine lv_iconst (v := (-1)) hx hb d_EX_takeTop_37 (by decide) ?_
  refine lv_icmp_ne (tgt := 53) hx hb d_EX_takeTop_38 (by decide) (fun c38 => ?_) (fun c38 => ?_)
  · refine lv_iload_n hx hb d_EX_takeTop_53 rfl (lv_at hl 0 rfl) ?_
    refine q_as (y := if ov = -1 then ar 13 q else ov) (by rw [if_neg c38]) ?_
    refine as_14 M hI q rfl (by omega) d_EX_takeTop_54 (fun H locs hI => ?_)
    have hI : CI g A s (cw g ad (va_up (va_up ar 15 (upd (ar 15) q (nI lv))) 14 (upd (ar 14) q (if ov = -1 then ar 13 q else ov))) fl) H locs := hI
    exact hret () _ _ _ _ _ _ d_EX_takeTop_55 hI (trivial) (Nat.le_refl 0) (Nat.le_refl 0)
  · refine lv_aload_n hx hb d_EX_takeTop_41 rfl (lv_at hl 1 rfl) ?_
    refine g_EX_35 M hI d_EX_takeTop_42 ?_
    refine g_EX_47 M hI d_EX_takeTop_45 ?_
    refine lv_iload_n hx hb d_EX_takeTop_48 rfl (lv_at hl 2 rfl) ?_
    refine al_13 M hI q rfl (by omega) d_EX_takeTop_49 ?_
    refine q_as (y := if ov = -1 then ar 13 q else ov) (by rw [if_pos c38]; rfl) ?_
    refine lv_goto (tgt := 54) hx hb d_EX_takeTop_50 (by decide) ?_
    refine as_14 M hI q rfl (by omega) d_EX_takeTop_54 (fun H locs hI => ?_)
    have hI : CI g A s (cw g ad (va_up (va_up ar 15 (upd (ar 15) q (nI lv))) 14 (upd (ar 14) q (if ov = -1 then ar 13 q else ov))) fl) H locs := hI
    exact hret () _ _ _ _ _ _ d_EX_takeTop_55 hI (trivial) (Nat.le_refl 0) (Nat.le_refl 0)
