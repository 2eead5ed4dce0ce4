/-! 53: the model: its stack; what is left -/
def lfr (lv : Nat → Int32) : Nat → Nat → Nat
  | 0, k => k
  | f + 1, k => if 0 ≤ lv k then k else lfr lv f (k + 1)
/-- one more than the position left before z (0 if there is none, and it went down to 0) -/
def lbZ (lv : Nat → Int32) (fr : Nat) : Nat → Nat
  | 0 => 0
  | z + 1 => if z < fr then z + 1 else if 0 ≤ lv z then z + 1 else lbZ lv fr z
theorem lfr_le (lv : Nat → Int32) : ∀ f k, k ≤ lfr lv f k ∧ lfr lv f k ≤ k + f
  | 0, k => ⟨Nat.le_refl k, Nat.le_refl k⟩
  | f + 1, k => by
    have := lfr_le lv f (k + 1)
    simp only [lfr]
    split <;> omega
theorem lbZ_le (lv : Nat → Int32) (fr : Nat) : ∀ z, lbZ lv fr z ≤ z
  | 0 => Nat.le_refl 0
  | z + 1 => by
    have := lbZ_le lv fr z
    simp only [lbZ]
    split
    · exact Nat.le_refl _
    · split <;> omega
abbrev rm_MD_topLevel : Room := { frames := 0, cells := 0, slots := 0, locals := 0 }
set_option maxHeartbeats 4000000 in
set_option maxRecDepth 100000 in
theorem c_MD_topLevel (l : Launch) (g : Geo) (ad : Nat → Nat) (ar : Nat → Nat → Int32) (fl : Nat → Int32) (lv : Nat) (ov : Int32) (ib : Bool) (rs : List XE) (h7 : fl 7 = nI (rs.length + 1)) (hrel : xrel (ar 15) (ar 16) (ar 17) ((lv, ov, ib) :: rs)) (hl1 : rs.length ≤ 125) : cMi l y_MD_topLevel (.code y_MD_topLevel b_MD_topLevel 1 (some .int) :: gw) rm_MD_topLevel g [.ref (ad 0)] (mw g ad ar fl) (fun (r : Int32) (_ : Unit) => r = nI lv) (fun (_ : Unit) => mw g ad ar fl) 0 0 := by
  refine cMi_of (by decide) (Nat.le_of_ble_eq_true rfl) ?_
  intro p e s m below meth c A Q ls M hret hl hI
  have M : MC p s m ([.ref (ad 0)] : List Value).toArray meth c R_MD b_MD_topLevel 1 := M
  have hl : lv_has ls 1 [(0, .ref (ad 0))] := hl
  generalize ([.ref (ad 0)] : List Value).toArray = args at M hret ⊢
  have hx := M.1
  have hb := M.2.1
  refine lv_aload_n hx hb d_MD_topLevel_0 rfl (lv_at hl 0 rfl) ?_
  refine g_MD_52 M hI d_MD_topLevel_1 ?_
  refine lv_aload_n hx hb d_MD_topLevel_4 rfl (lv_at hl 0 rfl) ?_
  refine g_MD_129 M hI d_MD_topLevel_5 ?_
  refine q_as (y := nI (rs.length + 1)) h7 ?_
  refine lv_iconst (v := 1) hx hb d_MD_topLevel_8 (by decide) ?_
  refine lv_isub hx hb d_MD_topLevel_9 ?_
  refine q_as (y := nI rs.length) (nI_pred _) ?_
  refine bl_15 M hI rs.length rfl (by omega) d_MD_topLevel_10 ?_
  refine q_as (y := nI lv) (hrel.1) ?_
  exact hret (nI lv) () _ _ _ _ _ _ d_MD_topLevel_11 hI (rfl) (Nat.le_refl 0) (Nat.le_refl 0)
abbrev rm_MD_next : Room := { frames := 1, cells := 0, slots := 0, locals := 20 }
set_option maxHeartbeats 4000000 in
set_option maxRecDepth 100000 in
theorem c_MD_next (l : Launch) (g : Geo) (ad : Nat → Nat) (ar : Nat → Nat → Int32) (fl : Nat → Int32) (x : Int32) (lv : Nat) (ov : Int32) (ib : Bool) (rs : List XE) (h7 : fl 7 = nI (rs.length + 1)) (hrel : xrel (ar 15) (ar 16) (ar 17) ((lv, ov, ib) :: rs)) (hl1 : rs.length ≤ 125) (hl2 : lv ≤ 125) (hx01 : x = 0 ∨ x = 1) : cMi l y_MD_next (.code y_MD_next b_MD_next 3 (some .int) :: gw) rm_MD_next g [.ref (ad 0), .int x] (mw g ad ar fl) (fun (r : Int32) (_ : Unit) => r = nI (nxt lv x)) (fun (_ : Unit) => mw g ad ar fl) 0 0 := by
  refine cMi_of (by decide) (Nat.le_of_ble_eq_true rfl) ?_
  intro p e s m below meth c A Q ls M hret hl hI
  have M : MC p s m ([.ref (ad 0), .int x] : List Value).toArray meth c R_MD b_MD_next 3 := M
  have hl : lv_has ls 3 [(0, .ref (ad 0)), (1, .int x)] := hl
  generalize ([.ref (ad 0), .int x] : List Value).toArray = args at M hret ⊢
  have hx := M.1
  have hb := M.2.1
  refine lv_aload_n hx hb d_MD_next_0 rfl (lv_at hl 0 rfl) ?_
  refine q_calliV [] M hI (c_MD_topLevel l g ad ar fl lv ov ib rs (by first | exact h7 | assumption | omega | rfl) (by first | exact hrel | assumption | omega | rfl) (by first | exact hl1 | assumption | omega | rfl)) ok_MD_topLevel m5_130 m5_132 ms_57 0 rfl rfl rfl rfl hl.1 ⟨rfl, rfl⟩ ⟨Nat.le_of_ble_eq_true rfl, Nat.le_of_ble_eq_true rfl⟩ (Nat.le_of_ble_eq_true rfl) ⟨Nat.le_of_ble_eq_true rfl, Nat.le_of_ble_eq_true rfl⟩ d_MD_next_1 (fun r1 u1 H locs hp1 hI => ?_)
  refine q_as (y := nI lv) hp1 ?_
  refine lv_iconst (v := 1) hx hb d_MD_next_4 (by decide) ?_
  refine lv_iadd hx hb d_MD_next_5 ?_
  refine q_as (y := nI (lv + 1)) (nI_add lv 1) ?_
  refine lv_istore_n (lv' := [(2, .int (nI (lv + 1))), (0, .ref (ad 0)), (1, .int x)]) hx hb d_MD_next_6 rfl hl (by decide) rfl (fun ls hl => ?_)
  refine lv_iload_n hx hb d_MD_next_7 rfl (lv_at hl 0 rfl) ?_
  refine lv_iconst (v := 2) hx hb d_MD_next_8 (by decide) ?_
  refine lv_irem hx hb d_MD_next_9 (by decide) ?_
  refine q_as (y := nI ((lv + 1) % 2)) (pk_rem (by omega) (by decide) (by decide)) ?_
  refine lv_iload_n hx hb d_MD_next_10 rfl (lv_at hl 2 rfl) ?_
  refine lv_if_eq (tgt := 18) hx hb d_MD_next_11 (by decide) (fun c11 => ?_) (fun c11 => ?_)
  · refine lv_iconst (v := 0) hx hb d_MD_next_18 (by decide) ?_
    refine q_as (y := x) (c11.symm) ?_
    refine lv_icmp_ne (tgt := 26) hx hb d_MD_next_19 (by decide) (fun c19 => ?_) (fun c19 => ?_)
    · refine lv_iload_n hx hb d_MD_next_26 rfl (lv_at hl 0 rfl) ?_
      refine lv_iconst (v := 1) hx hb d_MD_next_27 (by decide) ?_
      refine lv_iadd hx hb d_MD_next_28 ?_
      refine q_as (y := nI (lv + 1 + 1)) (nI_add (lv + 1) 1) ?_
      exact hret (nI (lv + 1 + 1)) () _ _ _ _ _ _ d_MD_next_29 hI (by unfold nxt; first | rw [if_pos c19] | rw [if_neg c19]) (Nat.le_refl 0) (Nat.le_refl 0)
    · refine lv_iload_n hx hb d_MD_next_22 rfl (lv_at hl 0 rfl) ?_
      refine lv_goto (tgt := 29) hx hb d_MD_next_23 (by decide) ?_
      exact hret (nI (lv + 1)) () _ _ _ _ _ _ d_MD_next_29 hI (by unfold nxt; first | rw [if_pos c19] | rw [if_neg c19]) (Nat.le_refl 0) (Nat.le_refl 0)
  · refine lv_iconst (v := 1) hx hb d_MD_next_14 (by decide) ?_
    refine q_as (y := x) ((hx01.resolve_left c11).symm) ?_
    refine lv_goto (tgt := 19) hx hb d_MD_next_15 (by decide) ?_
    refine lv_icmp_ne (tgt := 26) hx hb d_MD_next_19 (by decide) (fun c19 => ?_) (fun c19 => ?_)
    · refine lv_iload_n hx hb d_MD_next_26 rfl (lv_at hl 0 rfl) ?_
      refine lv_iconst (v := 1) hx hb d_MD_next_27 (by decide) ?_
      refine lv_iadd hx hb d_MD_next_28 ?_
      refine q_as (y := nI (lv + 1 + 1)) (nI_add (lv + 1) 1) ?_
      exact hret (nI (lv + 1 + 1)) () _ _ _ _ _ _ d_MD_next_29 hI (by unfold nxt; first | rw [if_pos c19] | rw [if_neg c19]) (Nat.le_refl 0) (Nat.le_refl 0)
    · refine lv_iload_n hx hb d_MD_next_22 rfl (lv_at hl 0 rfl) ?_
      refine lv_goto (tgt := 29) hx hb d_MD_next_23 (by decide) ?_
      exact hret (nI (lv + 1)) () _ _ _ _ _ _ d_MD_next_29 hI (by unfold nxt; first | rw [if_pos c19] | rw [if_neg c19]) (Nat.le_refl 0) (Nat.le_refl 0)
abbrev rm_MD_settle : Room := { frames := 1, cells := 0, slots := 0, locals := 20 }
set_option maxHeartbeats 4000000 in
set_option maxRecDepth 100000 in
theorem c_MD_settle (l : Launch) (g : Geo) (ad : Nat → Nat) (ar : Nat → Nat → Int32) (fl : Nat → Int32) (q : Nat) (lv : Nat) (ov : Int32) (ib : Bool) (rs : List XE) (h7 : fl 7 = nI (rs.length + 1)) (hrel : xrel (ar 15) (ar 16) (ar 17) ((lv, ov, ib) :: rs)) (hl1 : rs.length ≤ 125) (hq : q < 2000) : cMv l y_MD_settle (.code y_MD_settle b_MD_settle 3 none :: gw) rm_MD_settle g [.ref (ad 0), .int (nI q)] (mw g ad ar fl) (fun (_ : Unit) => True) (fun (_ : Unit) => mw g ad (va_up (va_up ar 12 (upd (ar 12) q (nI lv))) 10 (upd (ar 10) q (if ov < 0 then ar 10 q else ov))) fl) 0 0 := by
  refine cMv_of (by decide) (Nat.le_of_ble_eq_true rfl) ?_
  intro p e s m below meth c A Q ls M hnm hret hl hI
  have M : MC p s m ([.ref (ad 0), .int (nI q)] : List Value).toArray meth c R_MD b_MD_settle 3 := M
  have hl : lv_has ls 3 [(0, .ref (ad 0)), (1, .int (nI q))] := hl
  generalize ([.ref (ad 0), .int (nI q)] : List Value).toArray = args at M hret ⊢
  have hx := M.1
  have hb := M.2.1
  refine lv_aload_n hx hb d_MD_settle_0 rfl (lv_at hl 0 rfl) ?_
  refine g_MD_43 M hI d_MD_settle_1 ?_
  refine lv_iload_n hx hb d_MD_settle_4 rfl (lv_at hl 1 rfl) ?_
  refine lv_aload_n hx hb d_MD_settle_5 rfl (lv_at hl 0 rfl) ?_
  refine q_calliV [] M hI (c_MD_topLevel l g ad ar fl lv ov ib rs (by first | exact h7 | assumption | omega | rfl) (by first | exact hrel | assumption | omega | rfl) (by first | exact hl1 | assumption | omega | rfl)) ok_MD_topLevel m5_130 m5_132 ms_57 0 rfl rfl rfl rfl hl.1 ⟨rfl, rfl⟩ ⟨Nat.le_of_ble_eq_true rfl, Nat.le_of_ble_eq_true rfl⟩ (Nat.le_of_ble_eq_true rfl) ⟨Nat.le_of_ble_eq_true rfl, Nat.le_of_ble_eq_true rfl⟩ d_MD_settle_6 (fun r6 u6 H locs hp6 hI => ?_)
  refine q_as (y := nI lv) hp6 ?_
  refine bs_12 M hI q rfl (by omega) d_MD_settle_9 (fun H locs hI => ?_)
  have hI : CI g A s (mw g ad (va_up ar 12 (upd (ar 12) q (nI lv))) fl) H locs := hI
  refine lv_aload_n hx hb d_MD_settle_10 rfl (lv_at hl 0 rfl) ?_
  refine g_MD_55 M hI d_MD_settle_11 ?_
  refine lv_aload_n hx hb d_MD_settle_14 rfl (lv_at hl 0 rfl) ?_
  refine g_MD_129 M hI d_MD_settle_15 ?_
  refine q_as (y := nI (rs.length + 1)) h7 ?_
  refine lv_iconst (v := 1) hx hb d_MD_settle_18 (by decide) ?_
  refine lv_isub hx hb d_MD_settle_19 ?_
  refine q_as (y := nI rs.length) (nI_pred _) ?_
  refine bl_16 M hI rs.length rfl (by omega) d_MD_settle_20 ?_
  refine q_as (y := ov) (hrel.2.1) ?_
  refine lv_istore_n (lv' := [(2, .int ov), (0, .ref (ad 0)), (1, .int (nI q))]) hx hb d_MD_settle_21 rfl hl (by decide) rfl (fun ls hl => ?_)
  refine lv_aload_n hx hb d_MD_settle_22 rfl (lv_at hl 1 rfl) ?_
  refine g_MD_37 M hI d_MD_settle_23 ?_
  refine lv_iload_n hx hb d_MD_settle_26 rfl (lv_at hl 2 rfl) ?_
  refine lv_iload_n hx hb d_MD_settle_27 rfl (lv_at hl 0 rfl) ?_
  refine lv_if_lt (tgt := 35) hx hb d_MD_settle_28 (by decide) (fun c28 => ?_) (fun c28 => ?_)
  · refine lv_aload_n hx hb d_MD_settle_35 rfl (lv_at hl 1 rfl) ?_
    refine g_MD_37 M hI d_MD_settle_36 ?_
    refine lv_iload_n hx hb d_MD_settle_39 rfl (lv_at hl 2 rfl) ?_
    refine bl_10 M hI q rfl (by omega) d_MD_settle_40 ?_
    refine q_as (y := if ov < 0 then ar 10 q else ov) (by rw [if_pos c28]; rfl) ?_
    refine bs_10 M hI q rfl (by omega) d_MD_settle_41 (fun H locs hI => ?_)
    have hI : CI g A s (mw g ad (va_up (va_up ar 12 (upd (ar 12) q (nI lv))) 10 (upd (ar 10) q (if ov < 0 then ar 10 q else ov))) fl) H locs := hI
    exact hret () _ _ _ _ _ _ d_MD_settle_42 hI (trivial) (Nat.le_refl 0) (Nat.le_refl 0)
  · refine lv_iload_n hx hb d_MD_settle_31 rfl (lv_at hl 0 rfl) ?_
    refine q_as (y := if ov < 0 then ar 10 q else ov) (by rw [if_neg c28]) ?_
    refine lv_goto (tgt := 41) hx hb d_MD_settle_32 (by decide) ?_
    refine bs_10 M hI q rfl (by omega) d_MD_settle_41 (fun H locs hI => ?_)
    have hI : CI g A s (mw g ad (va_up (va_up ar 12 (upd (ar 12) q (nI lv))) 10 (upd (ar 10) q (if ov < 0 then ar 10 q else ov))) fl) H locs := hI
    exact hret () _ _ _ _ _ _ d_MD_settle_42 hI (trivial) (Nat.le_refl 0) (Nat.le_refl 0)
abbrev rm_MD_push : Room := { frames := 0, cells := 0, slots := 0, locals := 0 }
set_option maxHeartbeats 4000000 in
set_option maxRecDepth 100000 in
theorem c_MD_push (l : Launch) (g : Geo) (ad : Nat → Nat) (ar : Nat → Nat → Int32) (fl : Nat → Int32) (nx : Nat) (o2 : Int32) (bz9 : Int32) (L : List XE) (h7 : fl 7 = nI L.length) (hl1 : L.length < 130) (hbz : narrow .boolean (.int bz9) = .int bz9) : cMv l y_MD_push (.code y_MD_push b_MD_push 4 none :: gw) rm_MD_push g [.ref (ad 0), .int (nI nx), .int o2, .int bz9] (mw g ad ar fl) (fun (_ : Unit) => True) (fun (_ : Unit) => mw g ad (va_up (va_up (va_up ar 15 (upd (ar 15) L.length (nI nx))) 16 (upd (ar 16) L.length o2)) 17 (upd (ar 17) L.length bz9)) (va_up fl 7 (nI (L.length + 1)))) 0 0 := by
  refine cMv_of (by decide) (Nat.le_of_ble_eq_true rfl) ?_
  intro p e s m below meth c A Q ls M hnm hret hl hI
  have M : MC p s m ([.ref (ad 0), .int (nI nx), .int o2, .int bz9] : List Value).toArray meth c R_MD b_MD_push 4 := M
  have hl : lv_has ls 4 [(0, .ref (ad 0)), (1, .int (nI nx)), (2, .int o2), (3, .int bz9)] := hl
  generalize ([.ref (ad 0), .int (nI nx), .int o2, .int bz9] : List Value).toArray = args at M hret ⊢
  have hx := M.1
  have hb := M.2.1
  refine lv_aload_n hx hb d_MD_push_0 rfl (lv_at hl 0 rfl) ?_
  refine g_MD_52 M hI d_MD_push_1 ?_
  refine lv_aload_n hx hb d_MD_push_4 rfl (lv_at hl 0 rfl) ?_
  refine g_MD_129 M hI d_MD_push_5 ?_
  refine q_as (y := nI L.length) h7 ?_
  refine lv_iload_n hx hb d_MD_push_8 rfl (lv_at hl 1 rfl) ?_
  refine bs_15 M hI L.length rfl (by omega) d_MD_push_9 (fun H locs hI => ?_)
  have hI : CI g A s (mw g ad (va_up ar 15 (upd (ar 15) L.length (nI nx))) fl) H locs := hI
  refine lv_aload_n hx hb d_MD_push_10 rfl (lv_at hl 0 rfl) ?_
  refine g_MD_55 M hI d_MD_push_11 ?_
  refine lv_aload_n hx hb d_MD_push_14 rfl (lv_at hl 0 rfl) ?_
  refine g_MD_129 M hI d_MD_push_15 ?_
  refine q_as (y := nI L.length) h7 ?_
  refine lv_iload_n hx hb d_MD_push_18 rfl (lv_at hl 2 rfl) ?_
  refine bs_16 M hI L.length rfl (by omega) d_MD_push_19 (fun H locs hI => ?_)
  have hI : CI g A s (mw g ad (va_up (va_up ar 15 (upd (ar 15) L.length (nI nx))) 16 (upd (ar 16) L.length o2)) fl) H locs := hI
  refine lv_aload_n hx hb d_MD_push_20 rfl (lv_at hl 0 rfl) ?_
  refine g_MD_58 M hI d_MD_push_21 ?_
  refine lv_aload_n hx hb d_MD_push_24 rfl (lv_at hl 0 rfl) ?_
  refine g_MD_129 M hI d_MD_push_25 ?_
  refine q_as (y := nI L.length) h7 ?_
  refine lv_iload_n hx hb d_MD_push_28 rfl (lv_at hl 3 rfl) ?_
  refine bs_17 M hI L.length rfl (by omega) hbz d_MD_push_29 (fun H locs hI => ?_)
  have hI : CI g A s (mw g ad (va_up (va_up (va_up ar 15 (upd (ar 15) L.length (nI nx))) 16 (upd (ar 16) L.length o2)) 17 (upd (ar 17) L.length bz9)) fl) H locs := hI
  refine lv_aload_n hx hb d_MD_push_30 rfl (lv_at hl 0 rfl) ?_
  refine lv_dup hx hb d_MD_push_31 rfl ?_
  refine g_MD_129 M hI d_MD_push_32 ?_
  refine q_as (y := nI L.length) h7 ?_
  refine lv_iconst (v := 1) hx hb d_MD_push_35 (by decide) ?_
  refine lv_iadd hx hb d_MD_push_36 ?_
  refine q_as (y := nI (L.length + 1)) (nI_add L.length 1) ?_
  refine p_MD_129 M hI d_MD_push_37 (fun H locs hI => ?_)
  have hI : CI g A s (mw g ad (va_up (va_up (va_up ar 15 (upd (ar 15) L.length (nI nx))) 16 (upd (ar 16) L.length o2)) 17 (upd (ar 17) L.length bz9)) (va_up fl 7 (nI (L.length + 1)))) H locs := hI
  exact hret () _ _ _ _ _ _ d_MD_push_40 hI (trivial) (Nat.le_refl 0) (Nat.le_refl 0)
abbrev rm_MD_leftFrom : Room := { frames := 0, cells := 0, slots := 0, locals := 0 }
set_option maxHeartbeats 4000000 in
set_option maxRecDepth 100000 in
theorem c_MD_leftFrom (l : Launch) (g : Geo) (ad : Nat → Nat) (ar : Nat → Nat → Int32) (fl : Nat → Int32) (k0 : Nat) (to : Nat) (hto : to ≤ 2000) (hk0 : k0 ≤ 2001) : cMi l y_MD_leftFrom (.code y_MD_leftFrom b_MD_leftFrom 4 (some .int) :: gw) rm_MD_leftFrom g [.ref (ad 0), .int (nI k0), .int (nI to)] (mw g ad ar fl) (fun (r : Int32) (_ : Unit) => r = nI (lfr (ar 12) (to - k0) k0)) (fun (_ : Unit) => mw g ad ar fl) 0 0 := by
  refine cMi_of (by decide) (Nat.le_of_ble_eq_true rfl) ?_
  intro p e s m below meth c A Q ls M hret hl hI
  have M : MC p s m ([.ref (ad 0), .int (nI k0), .int (nI to)] : List Value).toArray meth c R_MD b_MD_leftFrom 4 := M
  have hl : lv_has ls 4 [(0, .ref (ad 0)), (1, .int (nI k0)), (2, .int (nI to))] := hl
  generalize ([.ref (ad 0), .int (nI k0), .int (nI to)] : List Value).toArray = args at M hret ⊢
  have hx := M.1
  have hb := M.2.1
  refine lv_iload_n hx hb d_MD_leftFrom_0 rfl (lv_at hl 1 rfl) ?_
  refine lv_istore_n (lv' := [(3, .int (nI k0)), (0, .ref (ad 0)), (1, .int (nI k0)), (2, .int (nI to))]) hx hb d_MD_leftFrom_1 rfl hl (by decide) rfl (fun ls hl => ?_)
  have L2 : ∀ (fu : Nat) (k : Nat), (2002 - k) < fu → (k ≤ 2001) → (lfr (ar 12) (to - k0) k0 = lfr (ar 12) (to - k) k) → ∀ (H : Heap) (locs : List Loc) (ls : Array Slot), CI g A s (mw g ad ar fl) H locs → lv_has ls 4 [(0, .ref (ad 0)), (2, .int (nI to)), (3, .int (nI k))] → W p l e rm_MD_leftFrom s m args below meth c H locs 0 0 Q (F0 m 2 ls []) := by
    intro fu
    induction fu with
    | zero => intro k hm; exact absurd hm (Nat.not_lt_zero _)
    | succ fu ih2 =>
      intro k hm hk hq H locs ls hI hl
      refine lv_iload_n hx hb d_MD_leftFrom_2 rfl (lv_at hl 2 rfl) ?_
      refine lv_iload_n hx hb d_MD_leftFrom_3 rfl (lv_at hl 1 rfl) ?_
      refine lv_icmp_ge (tgt := 22) hx hb d_MD_leftFrom_4 (by decide) (fun c4 => ?_) (fun c4 => ?_)
      · have c4 : to ≤ k := (nI_leI (a := to) (b := k) (by omega) (by omega)).mp c4
        refine lv_iload_n hx hb d_MD_leftFrom_22 rfl (lv_at hl 2 rfl) ?_
        exact hret (nI k) () _ _ _ _ _ _ d_MD_leftFrom_23 hI (by rw [hq]; first | (rw [show to - k = 0 by omega]; rfl) | (rw [show to - k = (to - (k + 1)) + 1 by omega]; simp only [lfr]; rw [if_pos c13])) (Nat.le_refl 0) (Nat.le_refl 0)
      · have c4 : ¬ to ≤ k := fun h => c4 ((nI_leI (a := to) (b := k) (by omega) (by omega)).mpr h)
        refine lv_aload_n hx hb d_MD_leftFrom_7 rfl (lv_at hl 0 rfl) ?_
        refine g_MD_43 M hI d_MD_leftFrom_8 ?_
        refine lv_iload_n hx hb d_MD_leftFrom_11 rfl (lv_at hl 2 rfl) ?_
        refine bl_12 M hI k rfl (by omega) d_MD_leftFrom_12 ?_
        refine lv_if_ge (tgt := 22) hx hb d_MD_leftFrom_13 (by decide) (fun c13 => ?_) (fun c13 => ?_)
        · refine lv_iload_n hx hb d_MD_leftFrom_22 rfl (lv_at hl 2 rfl) ?_
          exact hret (nI k) () _ _ _ _ _ _ d_MD_leftFrom_23 hI (by rw [hq]; first | (rw [show to - k = 0 by omega]; rfl) | (rw [show to - k = (to - (k + 1)) + 1 by omega]; simp only [lfr]; rw [if_pos c13])) (Nat.le_refl 0) (Nat.le_refl 0)
        · refine lv_iinc (v := nI (k + 1)) (lv' := [(3, .int (nI (k + 1))), (0, .ref (ad 0)), (2, .int (nI to))]) hx hb d_MD_leftFrom_16 hl (k := 2) rfl (nI_add _ 1) (by decide) rfl (fun ls hl => ?_)
          refine lv_goto (tgt := 2) hx hb d_MD_leftFrom_19 (by decide) ?_
          exact ih2 (k + 1) (by omega) (by first | assumption | omega) (by rw [hq, show to - k = (to - (k + 1)) + 1 by omega]; simp only [lfr]; rw [if_neg c13]) _ _ _ hI (lv_sub hl [1, 2, 0] rfl)
  exact L2 _ k0 (Nat.lt_succ_self _) (by first | assumption | omega) (rfl) _ _ _ hI (lv_sub hl [1, 3, 0] rfl)
abbrev rm_MD_leftBefore : Room := { frames := 0, cells := 0, slots := 0, locals := 0 }
set_option maxHeartbeats 4000000 in
set_option maxRecDepth 100000 in
theorem c_MD_leftBefore (l : Launch) (g : Geo) (ad : Nat → Nat) (ar : Nat → Nat → Int32) (fl : Nat → Int32) (k0 : Nat) (fr : Nat) (hk0 : k0 ≤ 2000) (hfr : fr ≤ 2000) : cMi l y_MD_leftBefore (.code y_MD_leftBefore b_MD_leftBefore 4 (some .int) :: gw) rm_MD_leftBefore g [.ref (ad 0), .int (nI k0), .int (nI fr)] (mw g ad ar fl) (fun (r : Int32) (_ : Unit) => r = nI (lbZ (ar 12) fr k0) - 1) (fun (_ : Unit) => mw g ad ar fl) 0 0 := by
  refine cMi_of (by decide) (Nat.le_of_ble_eq_true rfl) ?_
  intro p e s m below meth c A Q ls M hret hl hI
  have M : MC p s m ([.ref (ad 0), .int (nI k0), .int (nI fr)] : List Value).toArray meth c R_MD b_MD_leftBefore 4 := M
  have hl : lv_has ls 4 [(0, .ref (ad 0)), (1, .int (nI k0)), (2, .int (nI fr))] := hl
  generalize ([.ref (ad 0), .int (nI k0), .int (nI fr)] : List Value).toArray = args at M hret ⊢
  have hx := M.1
  have hb := M.2.1
  refine lv_iload_n hx hb d_MD_leftBefore_0 rfl (lv_at hl 1 rfl) ?_
  refine lv_iconst (v := 1) hx hb d_MD_leftBefore_1 (by decide) ?_
  refine lv_isub hx hb d_MD_leftBefore_2 ?_
  refine lv_istore_n (lv' := [(3, .int ((nI k0) - 1)), (0, .ref (ad 0)), (1, .int (nI k0)), (2, .int (nI fr))]) hx hb d_MD_leftBefore_3 rfl hl (by decide) rfl (fun ls hl => ?_)
  have L4 : ∀ (fu : Nat) (z : Nat), z < fu → (z ≤ 2000) → (lbZ (ar 12) fr k0 = lbZ (ar 12) fr z) → ∀ (H : Heap) (locs : List Loc) (ls : Array Slot), CI g A s (mw g ad ar fl) H locs → lv_has ls 4 [(0, .ref (ad 0)), (2, .int (nI fr)), (3, .int (nI z - 1))] → W p l e rm_MD_leftBefore s m args below meth c H locs 0 0 Q (F0 m 4 ls []) := by
    intro fu
    induction fu with
    | zero => intro z hm; exact absurd hm (Nat.not_lt_zero _)
    | succ fu ih4 =>
      intro z hm hz hq H locs ls hI hl
      refine lv_iload_n hx hb d_MD_leftBefore_4 rfl (lv_at hl 2 rfl) ?_
      refine lv_iload_n hx hb d_MD_leftBefore_5 rfl (lv_at hl 1 rfl) ?_
      refine lv_icmp_lt (tgt := 24) hx hb d_MD_leftBefore_6 (by decide) (fun c6 => ?_) (fun c6 => ?_)
      · have c6 := (nI_m1lt (by omega) (by omega)).mp c6
        refine lv_iload_n hx hb d_MD_leftBefore_24 rfl (lv_at hl 2 rfl) ?_
        exact hret (nI z - 1) () _ _ _ _ _ _ d_MD_leftBefore_25 hI (by rw [hq]; first | (simp only [lbZ]; rw [if_neg (by omega), if_pos c15]; exact (nI_pred j).symm) | (cases z with | zero => rfl | succ z => simp only [lbZ]; rw [if_pos (by omega)])) (Nat.le_refl 0) (Nat.le_refl 0)
      · have c6 : ¬ z < fr + 1 := fun q => c6 ((nI_m1lt (by omega) (by omega)).mpr q)
        obtain ⟨j, rfl⟩ : ∃ j, z = j + 1 := ⟨z - 1, by omega⟩
        rw [nI_pred] at hl
        refine lv_aload_n hx hb d_MD_leftBefore_9 rfl (lv_at hl 0 rfl) ?_
        refine g_MD_43 M hI d_MD_leftBefore_10 ?_
        refine lv_iload_n hx hb d_MD_leftBefore_13 rfl (lv_at hl 2 rfl) ?_
        refine bl_12 M hI j rfl (by omega) d_MD_leftBefore_14 ?_
        refine lv_if_ge (tgt := 24) hx hb d_MD_leftBefore_15 (by decide) (fun c15 => ?_) (fun c15 => ?_)
        · refine lv_iload_n hx hb d_MD_leftBefore_24 rfl (lv_at hl 2 rfl) ?_
          exact hret (nI j) () _ _ _ _ _ _ d_MD_leftBefore_25 hI (by rw [hq]; first | (simp only [lbZ]; rw [if_neg (by omega), if_pos c15]; exact (nI_pred j).symm) | (cases z with | zero => rfl | succ z => simp only [lbZ]; rw [if_pos (by omega)])) (Nat.le_refl 0) (Nat.le_refl 0)
        · refine lv_iinc (v := nI j - 1) (lv' := [(3, .int (nI j - 1)), (0, .ref (ad 0)), (2, .int (nI fr))]) hx hb d_MD_leftBefore_18 hl (k := 2) rfl (nI_dec j) (by decide) rfl (fun ls hl => ?_)
          refine lv_goto (tgt := 4) hx hb d_MD_leftBefore_21 (by decide) ?_
          exact ih4 j (by omega) (by first | assumption | omega) (by rw [hq]; simp only [lbZ]; rw [if_neg (by omega), if_neg c15]) _ _ _ hI (lv_sub hl [1, 2, 0] rfl)
  exact L4 _ k0 (Nat.lt_succ_self _) (by first | assumption | omega) (rfl) _ _ _ hI (lv_sub hl [1, 3, 0] rfl)
