/-! 84: the face: answers -/
abbrev rm_BL_forgetLevels : Room := { frames := 0, cells := 0, slots := 0, locals := 0 }
set_option maxHeartbeats 4000000 in
set_option maxRecDepth 100000 in
theorem c_BL_forgetLevels (l : Launch) (g : Geo) (ad : Nat → Nat) (ar : Nat → Nat → Int32) (fl : Nat → Int32) : cMv l y_BL_forgetLevels (.code y_BL_forgetLevels b_BL_forgetLevels 1 none :: gw) rm_BL_forgetLevels g [.ref (ad 0)] (cw g ad ar fl) (fun (_ : Unit) => True) (fun (_ : Unit) => cw g ad ar (va_up (va_up fl 0 0) 1 0)) 0 0 := by
  refine cMv_of (by decide) (Nat.le_of_ble_eq_true rfl) ?_
  intro p e s m below meth c A Q ls M hnm hret hl hI
  have M : MC p s m ([.ref (ad 0)] : List Value).toArray meth c R_BL b_BL_forgetLevels 1 := M
  have hl : lv_has ls 1 [(0, .ref (ad 0))] := hl
  generalize ([.ref (ad 0)] : List Value).toArray = args at M hret ⊢
  have hx := M.1
  have hb := M.2.1
  refine lv_aload_n hx hb d_BL_forgetLevels_0 rfl (lv_at hl 0 rfl) ?_
  refine lv_iconst (v := 0) hx hb d_BL_forgetLevels_1 (by decide) ?_
  refine p_BL_44 M hI rfl rfl d_BL_forgetLevels_2 (fun H locs hI => ?_)
  have hI : CI g A s (cw g ad ar (va_up fl 0 0)) H locs := hI
  refine lv_aload_n hx hb d_BL_forgetLevels_5 rfl (lv_at hl 0 rfl) ?_
  refine lv_iconst (v := 0) hx hb d_BL_forgetLevels_6 (by decide) ?_
  refine p_BL_48 M hI rfl rfl d_BL_forgetLevels_7 (fun H locs hI => ?_)
  have hI : CI g A s (cw g ad ar (va_up (va_up fl 0 0) 1 0)) H locs := hI
  exact hret () _ _ _ _ _ _ d_BL_forgetLevels_10 hI (trivial) (Nat.le_refl 0) (Nat.le_refl 0)
abbrev rm_BL_clear_c_BL_clear_0 : Room := { frames := 1, cells := 0, slots := 0, locals := 20 }
set_option maxHeartbeats 4000000 in
set_option maxRecDepth 100000 in
theorem c_BL_clear_0 (l : Launch) (g : Geo) (ad : Nat → Nat) (ar : Nat → Nat → Int32) (fl : Nat → Int32) (cn : Nat) (h2 : fl 2 = nI cn) : cMi l y_BL_clear (.code y_BL_clear b_BL_clear 2 (some .int) :: gw) rm_BL_clear_c_BL_clear_0 g [.ref (ad 0)] (cw g ad ar fl) (fun (r : Int32) (_ : Unit) => r = nI cn) (fun (_ : Unit) => cw g ad ar (va_up (va_up (va_up fl 2 0) 0 0) 1 0)) 0 0 := by
  refine cMi_of (by decide) (Nat.le_of_ble_eq_true rfl) ?_
  intro p e s m below meth c A Q ls M hret hl hI
  have M : MC p s m ([.ref (ad 0)] : List Value).toArray meth c R_BL b_BL_clear 2 := M
  have hl : lv_has ls 2 [(0, .ref (ad 0))] := hl
  generalize ([.ref (ad 0)] : List Value).toArray = args at M hret ⊢
  have hx := M.1
  have hb := M.2.1
  refine lv_aload_n hx hb d_BL_clear_0 rfl (lv_at hl 0 rfl) ?_
  refine g_BL_12 M hI d_BL_clear_1 ?_
  refine g_BL_86 M hI d_BL_clear_4 ?_
  refine q_as (y := nI cn) h2 ?_
  refine lv_istore_n (lv' := [(1, .int (nI cn)), (0, .ref (ad 0))]) hx hb d_BL_clear_7 rfl hl (by decide) rfl (fun ls hl => ?_)
  refine lv_aload_n hx hb d_BL_clear_8 rfl (lv_at hl 1 rfl) ?_
  refine g_BL_12 M hI d_BL_clear_9 ?_
  refine lv_iconst (v := 0) hx hb d_BL_clear_12 (by decide) ?_
  refine p_BL_86 M hI d_BL_clear_13 (fun H locs hI => ?_)
  have hI : CI g A s (cw g ad ar (va_up fl 2 0)) H locs := hI
  refine lv_aload_n hx hb d_BL_clear_16 rfl (lv_at hl 1 rfl) ?_
  refine q_callvV [] M hI (c_BL_forgetLevels l g ad ar (va_up fl 2 0) ) ok_BL_forgetLevels m2_124 m2_126 ms_0 0 rfl rfl rfl rfl hl.1 ⟨rfl, rfl⟩ ⟨Nat.le_of_ble_eq_true rfl, Nat.le_of_ble_eq_true rfl⟩ (Nat.le_of_ble_eq_true rfl) ⟨Nat.le_of_ble_eq_true rfl, Nat.le_of_ble_eq_true rfl⟩ d_BL_clear_17 (fun u17 H locs hp17 hI => ?_)
  have hI : CI g A s (cw g ad ar (va_up (va_up (va_up fl 2 0) 0 0) 1 0)) H locs := hI
  refine lv_iload_n hx hb d_BL_clear_20 rfl (lv_at hl 0 rfl) ?_
  exact hret (nI cn) () _ _ _ _ _ _ d_BL_clear_21 hI (rfl) (Nat.le_refl 0) (Nat.le_refl 0)
abbrev rm_BL_property_c_BL_property_0 : Room := { frames := 1, cells := 0, slots := 0, locals := 24 }
set_option maxHeartbeats 4000000 in
set_option maxRecDepth 100000 in
theorem c_BL_property_0 (l : Launch) (g : Geo) (ad : Nat → Nat) (ar : Nat → Nat → Int32) (fl : Nat → Int32) (x : Int32) (y : Int32) (z : Int32) (cn rn : Nat) (h2 : fl 2 = nI cn) (hcN : cn ≤ 2000) (h3 : fl 3 = nI rn) (hrl : rn < 100) (hS : prOK x y z) : cMv l y_BL_property (.code y_BL_property b_BL_property 4 none :: gw) rm_BL_property_c_BL_property_0 g [.ref (ad 0), .int x, .int y, .int z] (cw g ad ar fl) (fun (_ : Unit) => True) (fun (_ : Unit) => cw g ad (va_up (va_up (va_up (va_up ar 17 (upd (ar 17) rn x)) 18 (upd (ar 18) rn y)) 19 (upd (ar 19) rn z)) 13 (pre cn (fun j => if ¬ ar 12 j < x ∧ ¬ y < ar 12 j then z else ar 13 j) (ar 13))) (va_up (va_up (va_up fl 3 (nI (rn + 1))) 0 0) 1 0)) 0 0 := by
  refine cMv_of (by decide) (Nat.le_of_ble_eq_true rfl) ?_
  intro p e s m below meth c A Q ls M hnm hret hl hI
  have M : MC p s m ([.ref (ad 0), .int x, .int y, .int z] : List Value).toArray meth c R_BL b_BL_property 4 := M
  have hl : lv_has ls 4 [(0, .ref (ad 0)), (1, .int x), (2, .int y), (3, .int z)] := hl
  generalize ([.ref (ad 0), .int x, .int y, .int z] : List Value).toArray = args at M hret ⊢
  have hx := M.1
  have hb := M.2.1
  refine lv_iload_n hx hb d_BL_property_0 rfl (lv_at hl 1 rfl) ?_
  refine q_calliS [.int x] M hI (c_BL_isCharacter l g (cw g ad ar fl) x) ok_BL_isCharacter m2_137 m2_138 rfl rfl hl.1 ⟨rfl, rfl⟩ ⟨Nat.le_of_ble_eq_true rfl, Nat.le_of_ble_eq_true rfl⟩ (Nat.le_of_ble_eq_true rfl) ⟨Nat.le_of_ble_eq_true rfl, Nat.le_of_ble_eq_true rfl⟩ d_BL_property_1 (fun r1 u1 H locs hp1 hI => ?_)
  refine q_as (y := bI (isch x)) hp1 ?_
  refine lv_if_eq (tgt := 19) hx hb d_BL_property_4 (by decide) (fun c4 => ?_) (fun c4 => ?_)
  · have c4 := bI_eq0.mp c4
    exact absurd hS.1 c4
  · have c4 := bI_ne0.mp c4
    refine lv_iload_n hx hb d_BL_property_7 rfl (lv_at hl 2 rfl) ?_
    refine q_calliS [.int y] M hI (c_BL_isCharacter l g (cw g ad ar fl) y) ok_BL_isCharacter m2_137 m2_138 rfl rfl hl.1 ⟨rfl, rfl⟩ ⟨Nat.le_of_ble_eq_true rfl, Nat.le_of_ble_eq_true rfl⟩ (Nat.le_of_ble_eq_true rfl) ⟨Nat.le_of_ble_eq_true rfl, Nat.le_of_ble_eq_true rfl⟩ d_BL_property_8 (fun r8 u8 H locs hp8 hI => ?_)
    refine q_as (y := bI (isch y)) hp8 ?_
    refine lv_if_eq (tgt := 19) hx hb d_BL_property_11 (by decide) (fun c11 => ?_) (fun c11 => ?_)
    · have c11 := bI_eq0.mp c11
      exact absurd hS.2.1 c11
    · have c11 := bI_ne0.mp c11
      refine lv_iload_n hx hb d_BL_property_14 rfl (lv_at hl 1 rfl) ?_
      refine lv_iload_n hx hb d_BL_property_15 rfl (lv_at hl 2 rfl) ?_
      refine lv_icmp_le (tgt := 29) hx hb d_BL_property_16 (by decide) (fun c16 => ?_) (fun c16 => ?_)
      · refine lv_iload_n hx hb d_BL_property_29 rfl (lv_at hl 3 rfl) ?_
        refine lv_if_lt (tgt := 39) hx hb d_BL_property_30 (by decide) (fun c30 => ?_) (fun c30 => ?_)
        · exact absurd c30 hS.2.2.2.1
        · refine lv_iload_n hx hb d_BL_property_33 rfl (lv_at hl 3 rfl) ?_
          refine lv_bipush (v := 22) hx hb d_BL_property_34 (by decide) ?_
          refine lv_icmp_le (tgt := 49) hx hb d_BL_property_36 (by decide) (fun c36 => ?_) (fun c36 => ?_)
          · refine lv_aload_n hx hb d_BL_property_49 rfl (lv_at hl 0 rfl) ?_
            refine g_BL_12 M hI d_BL_property_50 ?_
            refine g_BL_64 M hI d_BL_property_53 ?_
            refine q_as (y := nI rn) h3 ?_
            refine lv_bipush (v := 100) hx hb d_BL_property_56 (by decide) ?_
            refine lv_icmp_lt (tgt := 71) hx hb d_BL_property_58 (by decide) (fun c58 => ?_) (fun c58 => ?_)
            · have c58 : rn < 100 := (nI_ltI (a := rn) (b := 100) (by omega) (by omega)).mp c58
              refine lv_aload_n hx hb d_BL_property_71 rfl (lv_at hl 0 rfl) ?_
              refine g_BL_12 M hI d_BL_property_72 ?_
              refine lv_iload_n hx hb d_BL_property_75 rfl (lv_at hl 1 rfl) ?_
              refine lv_iload_n hx hb d_BL_property_76 rfl (lv_at hl 2 rfl) ?_
              refine lv_iload_n hx hb d_BL_property_77 rfl (lv_at hl 3 rfl) ?_
              refine q_callvV [.int x, .int y, .int z] M hI (c_TX_tellRange l g ad ar fl x y z cn rn (h2) (hcN) (h3) (hrl)) ok_TX_tellRange m2_226 m2_227 m2_228 1 rfl rfl rfl rfl hl.1 ⟨rfl, rfl⟩ ⟨Nat.le_of_ble_eq_true rfl, Nat.le_of_ble_eq_true rfl⟩ (Nat.le_of_ble_eq_true rfl) ⟨Nat.le_of_ble_eq_true rfl, Nat.le_of_ble_eq_true rfl⟩ d_BL_property_78 (fun u78 H locs hp78 hI => ?_)
              have hI : CI g A s (cw g ad (va_up (va_up (va_up (va_up ar 17 (upd (ar 17) rn x)) 18 (upd (ar 18) rn y)) 19 (upd (ar 19) rn z)) 13 (pre cn (fun j => if ¬ ar 12 j < x ∧ ¬ y < ar 12 j then z else ar 13 j) (ar 13))) (va_up fl 3 (nI (rn + 1)))) H locs := hI
              refine lv_aload_n hx hb d_BL_property_81 rfl (lv_at hl 0 rfl) ?_
              refine q_callvV [] M hI (c_BL_forgetLevels l g ad (va_up (va_up (va_up (va_up ar 17 (upd (ar 17) rn x)) 18 (upd (ar 18) rn y)) 19 (upd (ar 19) rn z)) 13 (pre cn (fun j => if ¬ ar 12 j < x ∧ ¬ y < ar 12 j then z else ar 13 j) (ar 13))) (va_up fl 3 (nI (rn + 1))) ) ok_BL_forgetLevels m2_124 m2_126 ms_0 0 rfl rfl rfl rfl hl.1 ⟨rfl, rfl⟩ ⟨Nat.le_of_ble_eq_true rfl, Nat.le_of_ble_eq_true rfl⟩ (Nat.le_of_ble_eq_true rfl) ⟨Nat.le_of_ble_eq_true rfl, Nat.le_of_ble_eq_true rfl⟩ d_BL_property_82 (fun u82 H locs hp82 hI => ?_)
              have hI : CI g A s (cw g ad (va_up (va_up (va_up (va_up ar 17 (upd (ar 17) rn x)) 18 (upd (ar 18) rn y)) 19 (upd (ar 19) rn z)) 13 (pre cn (fun j => if ¬ ar 12 j < x ∧ ¬ y < ar 12 j then z else ar 13 j) (ar 13))) (va_up (va_up (va_up fl 3 (nI (rn + 1))) 0 0) 1 0)) H locs := hI
              exact hret () _ _ _ _ _ _ d_BL_property_85 hI (trivial) (Nat.le_refl 0) (Nat.le_refl 0)
            · have c58 : ¬ rn < 100 := fun h => c58 ((nI_ltI (a := rn) (b := 100) (by omega) (by omega)).mpr h)
              exfalso; omega
          · exact absurd (Int32.not_le.mp c36) hS.2.2.2.2
      · exact absurd (Int32.not_le.mp c16) hS.2.2.1
abbrev rm_BL_tellPair_c_BL_tellPair_2_0 : Room := { frames := 3, cells := 0, slots := 0, locals := 65 }
set_option maxHeartbeats 4000000 in
set_option maxRecDepth 100000 in
theorem c_BL_tellPair_2_0 (l : Launch) (g : Geo) (ad : Nat → Nat) (ar : Nat → Nat → Int32) (fl : Nat → Int32) (x : Int32) (y : Int32) (n : Nat) (hn : fl 4 = nI n) (hN : n < 40) (hd1 : dst n (ar 20)) (hd2 : dst n (ar 21)) (hS : (isch x ∧ isch y ∧ ¬ x = y ∧ ¬ ptn n (ar 20) (ar 21) x ≠ -1 ∧ ¬ ptn n (ar 20) (ar 21) y ≠ -1)) : cMv l y_BL_tellPair (.code y_BL_tellPair b_BL_tellPair 4 none :: gw) rm_BL_tellPair_c_BL_tellPair_2_0 g [.ref (ad 0), .ref (ad 2), .int x, .int y] (cw g ad ar fl) (fun (_ : Unit) => True) (fun (_ : Unit) => cw g ad (va_up (va_up ar 20 (upd (ar 20) n x)) 21 (upd (ar 21) n y)) (va_up (va_up (va_up fl 4 (nI (n + 1))) 0 0) 1 0)) 0 0 := by
  refine cMv_of (by decide) (Nat.le_of_ble_eq_true rfl) ?_
  intro p e s m below meth c A Q ls M hnm hret hl hI
  have M : MC p s m ([.ref (ad 0), .ref (ad 2), .int x, .int y] : List Value).toArray meth c R_BL b_BL_tellPair 4 := M
  have hl : lv_has ls 4 [(0, .ref (ad 0)), (1, .ref (ad 2)), (2, .int x), (3, .int y)] := hl
  generalize ([.ref (ad 0), .ref (ad 2), .int x, .int y] : List Value).toArray = args at M hret ⊢
  have hx := M.1
  have hb := M.2.1
  refine lv_iload_n hx hb d_BL_tellPair_0 rfl (lv_at hl 2 rfl) ?_
  refine q_calliS [.int x] M hI (c_BL_isCharacter l g (cw g ad ar fl) x) ok_BL_isCharacter m2_137 m2_138 rfl rfl hl.1 ⟨rfl, rfl⟩ ⟨Nat.le_of_ble_eq_true rfl, Nat.le_of_ble_eq_true rfl⟩ (Nat.le_of_ble_eq_true rfl) ⟨Nat.le_of_ble_eq_true rfl, Nat.le_of_ble_eq_true rfl⟩ d_BL_tellPair_1 (fun r1 u1 H locs hp1 hI => ?_)
  refine q_as (y := bI (isch x)) hp1 ?_
  refine lv_if_eq (tgt := 19) hx hb d_BL_tellPair_4 (by decide) (fun c4 => ?_) (fun c4 => ?_)
  · have c4 := bI_eq0.mp c4
    exact absurd hS.1 c4
  · have c4 := bI_ne0.mp c4
    refine lv_iload_n hx hb d_BL_tellPair_7 rfl (lv_at hl 3 rfl) ?_
    refine q_calliS [.int y] M hI (c_BL_isCharacter l g (cw g ad ar fl) y) ok_BL_isCharacter m2_137 m2_138 rfl rfl hl.1 ⟨rfl, rfl⟩ ⟨Nat.le_of_ble_eq_true rfl, Nat.le_of_ble_eq_true rfl⟩ (Nat.le_of_ble_eq_true rfl) ⟨Nat.le_of_ble_eq_true rfl, Nat.le_of_ble_eq_true rfl⟩ d_BL_tellPair_8 (fun r8 u8 H locs hp8 hI => ?_)
    refine q_as (y := bI (isch y)) hp8 ?_
    refine lv_if_eq (tgt := 19) hx hb d_BL_tellPair_11 (by decide) (fun c11 => ?_) (fun c11 => ?_)
    · have c11 := bI_eq0.mp c11
      exact absurd hS.2.1 c11
    · have c11 := bI_ne0.mp c11
      refine lv_iload_n hx hb d_BL_tellPair_14 rfl (lv_at hl 2 rfl) ?_
      refine lv_iload_n hx hb d_BL_tellPair_15 rfl (lv_at hl 3 rfl) ?_
      refine lv_icmp_ne (tgt := 29) hx hb d_BL_tellPair_16 (by decide) (fun c16 => ?_) (fun c16 => ?_)
      · refine lv_aload_n hx hb d_BL_tellPair_29 rfl (lv_at hl 1 rfl) ?_
        refine lv_iload_n hx hb d_BL_tellPair_30 rfl (lv_at hl 2 rfl) ?_
        refine q_calliV [.int x] M hI (c_PR_has_2 l g ad ar fl x n (hn) (by omega) (hd1) (hd2)) ok_PR_has m3_2 m3_3 m3_4 2 rfl rfl rfl rfl hl.1 ⟨rfl, rfl⟩ ⟨Nat.le_of_ble_eq_true rfl, Nat.le_of_ble_eq_true rfl⟩ (Nat.le_of_ble_eq_true rfl) ⟨Nat.le_of_ble_eq_true rfl, Nat.le_of_ble_eq_true rfl⟩ d_BL_tellPair_31 (fun r31 u31 H locs hp31 hI => ?_)
        refine q_as (y := bI (ptn n (ar 20) (ar 21) x ≠ -1)) hp31 ?_
        refine lv_if_ne (tgt := 45) hx hb d_BL_tellPair_34 (by decide) (fun c34 => ?_) (fun c34 => ?_)
        · have c34 := bI_ne0.mp c34
          exact absurd c34 hS.2.2.2.1
        · have c34 := bI_eq0.mp c34
          refine lv_aload_n hx hb d_BL_tellPair_37 rfl (lv_at hl 1 rfl) ?_
          refine lv_iload_n hx hb d_BL_tellPair_38 rfl (lv_at hl 3 rfl) ?_
          refine q_calliV [.int y] M hI (c_PR_has_2 l g ad ar fl y n (hn) (by omega) (hd1) (hd2)) ok_PR_has m3_2 m3_3 m3_4 2 rfl rfl rfl rfl hl.1 ⟨rfl, rfl⟩ ⟨Nat.le_of_ble_eq_true rfl, Nat.le_of_ble_eq_true rfl⟩ (Nat.le_of_ble_eq_true rfl) ⟨Nat.le_of_ble_eq_true rfl, Nat.le_of_ble_eq_true rfl⟩ d_BL_tellPair_39 (fun r39 u39 H locs hp39 hI => ?_)
          refine q_as (y := bI (ptn n (ar 20) (ar 21) y ≠ -1)) hp39 ?_
          refine lv_if_eq (tgt := 55) hx hb d_BL_tellPair_42 (by decide) (fun c42 => ?_) (fun c42 => ?_)
          · have c42 := bI_eq0.mp c42
            refine lv_aload_n hx hb d_BL_tellPair_55 rfl (lv_at hl 1 rfl) ?_
            refine g_BL_174_2 M hI d_BL_tellPair_56 ?_
            refine q_as (y := nI n) hn ?_
            refine lv_bipush (v := 40) hx hb d_BL_tellPair_59 (by decide) ?_
            refine lv_icmp_lt (tgt := 74) hx hb d_BL_tellPair_61 (by decide) (fun c61 => ?_) (fun c61 => ?_)
            · have c61 : n < 40 := (nI_ltI (a := n) (b := 40) (by omega) (by omega)).mp c61
              refine lv_aload_n hx hb d_BL_tellPair_74 rfl (lv_at hl 1 rfl) ?_
              refine lv_iload_n hx hb d_BL_tellPair_75 rfl (lv_at hl 2 rfl) ?_
              refine lv_iload_n hx hb d_BL_tellPair_76 rfl (lv_at hl 3 rfl) ?_
              refine q_callvV [.int x, .int y] M hI (c_PR_tell_2 l g ad ar fl x y n (hn) (hN)) ok_PR_tell m3_20 m3_21 m3_22 2 rfl rfl rfl rfl hl.1 ⟨rfl, rfl⟩ ⟨Nat.le_of_ble_eq_true rfl, Nat.le_of_ble_eq_true rfl⟩ (Nat.le_of_ble_eq_true rfl) ⟨Nat.le_of_ble_eq_true rfl, Nat.le_of_ble_eq_true rfl⟩ d_BL_tellPair_77 (fun u77 H locs hp77 hI => ?_)
              have hI : CI g A s (cw g ad (va_up (va_up ar 20 (upd (ar 20) n x)) 21 (upd (ar 21) n y)) (va_up fl 4 (nI (n + 1)))) H locs := hI
              refine lv_aload_n hx hb d_BL_tellPair_80 rfl (lv_at hl 0 rfl) ?_
              refine q_callvV [] M hI (c_BL_forgetLevels l g ad (va_up (va_up ar 20 (upd (ar 20) n x)) 21 (upd (ar 21) n y)) (va_up fl 4 (nI (n + 1))) ) ok_BL_forgetLevels m2_124 m2_126 ms_0 0 rfl rfl rfl rfl hl.1 ⟨rfl, rfl⟩ ⟨Nat.le_of_ble_eq_true rfl, Nat.le_of_ble_eq_true rfl⟩ (Nat.le_of_ble_eq_true rfl) ⟨Nat.le_of_ble_eq_true rfl, Nat.le_of_ble_eq_true rfl⟩ d_BL_tellPair_81 (fun u81 H locs hp81 hI => ?_)
              have hI : CI g A s (cw g ad (va_up (va_up ar 20 (upd (ar 20) n x)) 21 (upd (ar 21) n y)) (va_up (va_up (va_up fl 4 (nI (n + 1))) 0 0) 1 0)) H locs := hI
              exact hret () _ _ _ _ _ _ d_BL_tellPair_84 hI (trivial) (Nat.le_refl 0) (Nat.le_refl 0)
            · have c61 : ¬ n < 40 := fun h => c61 ((nI_ltI (a := n) (b := 40) (by omega) (by omega)).mpr h)
              exfalso; omega
          · have c42 := bI_ne0.mp c42
            exact absurd c42 hS.2.2.2.2
      · exact absurd c16 hS.2.2.1
abbrev rm_BL_bracket_c_BL_bracket_0 : Room := { frames := 4, cells := 0, slots := 0, locals := 88 }
set_option maxHeartbeats 4000000 in
set_option maxRecDepth 100000 in
theorem c_BL_bracket_0 (l : Launch) (g : Geo) (ad : Nat → Nat) (ar : Nat → Nat → Int32) (fl : Nat → Int32) (x : Int32) (y : Int32) (n : Nat) (hn : fl 4 = nI n) (hN : n < 40) (hd1 : dst n (ar 20)) (hd2 : dst n (ar 21)) (hS : (isch x ∧ isch y ∧ ¬ x = y ∧ ¬ ptn n (ar 20) (ar 21) x ≠ -1 ∧ ¬ ptn n (ar 20) (ar 21) y ≠ -1)) : cMv l y_BL_bracket (.code y_BL_bracket b_BL_bracket 3 none :: gw) rm_BL_bracket_c_BL_bracket_0 g [.ref (ad 0), .int x, .int y] (cw g ad ar fl) (fun (_ : Unit) => True) (fun (_ : Unit) => cw g ad (va_up (va_up ar 20 (upd (ar 20) n x)) 21 (upd (ar 21) n y)) (va_up (va_up (va_up fl 4 (nI (n + 1))) 0 0) 1 0)) 0 0 := by
  refine cMv_of (by decide) (Nat.le_of_ble_eq_true rfl) ?_
  intro p e s m below meth c A Q ls M hnm hret hl hI
  have M : MC p s m ([.ref (ad 0), .int x, .int y] : List Value).toArray meth c R_BL b_BL_bracket 3 := M
  have hl : lv_has ls 3 [(0, .ref (ad 0)), (1, .int x), (2, .int y)] := hl
  generalize ([.ref (ad 0), .int x, .int y] : List Value).toArray = args at M hret ⊢
  have hx := M.1
  have hb := M.2.1
  refine lv_aload_n hx hb d_BL_bracket_0 rfl (lv_at hl 0 rfl) ?_
  refine lv_aload_n hx hb d_BL_bracket_1 rfl (lv_at hl 0 rfl) ?_
  refine g_BL_19 M hI d_BL_bracket_2 ?_
  refine lv_iload_n hx hb d_BL_bracket_5 rfl (lv_at hl 1 rfl) ?_
  refine lv_iload_n hx hb d_BL_bracket_6 rfl (lv_at hl 2 rfl) ?_
  refine q_callvV [.ref (ad 2), .int x, .int y] M hI (c_BL_tellPair_2_0 l g ad ar fl x y n (by first | exact hn | assumption | omega | rfl) (by first | exact hN | assumption | omega | rfl) (by first | exact hd1 | assumption | omega | rfl) (by first | exact hd2 | assumption | omega | rfl) (by first | exact hS | assumption | omega | rfl)) ok_BL_tellPair m2_237 m2_239 ms_2 0 rfl rfl rfl rfl hl.1 ⟨rfl, rfl⟩ ⟨Nat.le_of_ble_eq_true rfl, Nat.le_of_ble_eq_true rfl⟩ (Nat.le_of_ble_eq_true rfl) ⟨Nat.le_of_ble_eq_true rfl, Nat.le_of_ble_eq_true rfl⟩ d_BL_bracket_7 (fun u7 H locs hp7 hI => ?_)
  have hI : CI g A s (cw g ad (va_up (va_up ar 20 (upd (ar 20) n x)) 21 (upd (ar 21) n y)) (va_up (va_up (va_up fl 4 (nI (n + 1))) 0 0) 1 0)) H locs := hI
  exact hret () _ _ _ _ _ _ d_BL_bracket_10 hI (trivial) (Nat.le_refl 0) (Nat.le_refl 0)
abbrev rm_BL_tellPair_c_BL_tellPair_3_0 : Room := { frames := 3, cells := 0, slots := 0, locals := 65 }
set_option maxHeartbeats 4000000 in
set_option maxRecDepth 100000 in
theorem c_BL_tellPair_3_0 (l : Launch) (g : Geo) (ad : Nat → Nat) (ar : Nat → Nat → Int32) (fl : Nat → Int32) (x : Int32) (y : Int32) (n : Nat) (hn : fl 5 = nI n) (hN : n < 40) (hd1 : dst n (ar 22)) (hd2 : dst n (ar 23)) (hS : (isch x ∧ isch y ∧ ¬ x = y ∧ ¬ ptn n (ar 22) (ar 23) x ≠ -1 ∧ ¬ ptn n (ar 22) (ar 23) y ≠ -1)) : cMv l y_BL_tellPair (.code y_BL_tellPair b_BL_tellPair 4 none :: gw) rm_BL_tellPair_c_BL_tellPair_3_0 g [.ref (ad 0), .ref (ad 3), .int x, .int y] (cw g ad ar fl) (fun (_ : Unit) => True) (fun (_ : Unit) => cw g ad (va_up (va_up ar 22 (upd (ar 22) n x)) 23 (upd (ar 23) n y)) (va_up (va_up (va_up fl 5 (nI (n + 1))) 0 0) 1 0)) 0 0 := by
  refine cMv_of (by decide) (Nat.le_of_ble_eq_true rfl) ?_
  intro p e s m below meth c A Q ls M hnm hret hl hI
  have M : MC p s m ([.ref (ad 0), .ref (ad 3), .int x, .int y] : List Value).toArray meth c R_BL b_BL_tellPair 4 := M
  have hl : lv_has ls 4 [(0, .ref (ad 0)), (1, .ref (ad 3)), (2, .int x), (3, .int y)] := hl
  generalize ([.ref (ad 0), .ref (ad 3), .int x, .int y] : List Value).toArray = args at M hret ⊢
  have hx := M.1
  have hb := M.2.1
  refine lv_iload_n hx hb d_BL_tellPair_0 rfl (lv_at hl 2 rfl) ?_
  refine q_calliS [.int x] M hI (c_BL_isCharacter l g (cw g ad ar fl) x) ok_BL_isCharacter m2_137 m2_138 rfl rfl hl.1 ⟨rfl, rfl⟩ ⟨Nat.le_of_ble_eq_true rfl, Nat.le_of_ble_eq_true rfl⟩ (Nat.le_of_ble_eq_true rfl) ⟨Nat.le_of_ble_eq_true rfl, Nat.le_of_ble_eq_true rfl⟩ d_BL_tellPair_1 (fun r1 u1 H locs hp1 hI => ?_)
  refine q_as (y := bI (isch x)) hp1 ?_
  refine lv_if_eq (tgt := 19) hx hb d_BL_tellPair_4 (by decide) (fun c4 => ?_) (fun c4 => ?_)
  · have c4 := bI_eq0.mp c4
    exact absurd hS.1 c4
  · have c4 := bI_ne0.mp c4
    refine lv_iload_n hx hb d_BL_tellPair_7 rfl (lv_at hl 3 rfl) ?_
    refine q_calliS [.int y] M hI (c_BL_isCharacter l g (cw g ad ar fl) y) ok_BL_isCharacter m2_137 m2_138 rfl rfl hl.1 ⟨rfl, rfl⟩ ⟨Nat.le_of_ble_eq_true rfl, Nat.le_of_ble_eq_true rfl⟩ (Nat.le_of_ble_eq_true rfl) ⟨Nat.le_of_ble_eq_true rfl, Nat.le_of_ble_eq_true rfl⟩ d_BL_tellPair_8 (fun r8 u8 H locs hp8 hI => ?_)
    refine q_as (y := bI (isch y)) hp8 ?_
    refine lv_if_eq (tgt := 19) hx hb d_BL_tellPair_11 (by decide) (fun c11 => ?_) (fun c11 => ?_)
    · have c11 := bI_eq0.mp c11
      exact absurd hS.2.1 c11
    · have c11 := bI_ne0.mp c11
      refine lv_iload_n hx hb d_BL_tellPair_14 rfl (lv_at hl 2 rfl) ?_
      refine lv_iload_n hx hb d_BL_tellPair_15 rfl (lv_at hl 3 rfl) ?_
      refine lv_icmp_ne (tgt := 29) hx hb d_BL_tellPair_16 (by decide) (fun c16 => ?_) (fun c16 => ?_)
      · refine lv_aload_n hx hb d_BL_tellPair_29 rfl (lv_at hl 1 rfl) ?_
        refine lv_iload_n hx hb d_BL_tellPair_30 rfl (lv_at hl 2 rfl) ?_
        refine q_calliV [.int x] M hI (c_PR_has_3 l g ad ar fl x n (hn) (by omega) (hd1) (hd2)) ok_PR_has m3_2 m3_3 m3_4 3 rfl rfl rfl rfl hl.1 ⟨rfl, rfl⟩ ⟨Nat.le_of_ble_eq_true rfl, Nat.le_of_ble_eq_true rfl⟩ (Nat.le_of_ble_eq_true rfl) ⟨Nat.le_of_ble_eq_true rfl, Nat.le_of_ble_eq_true rfl⟩ d_BL_tellPair_31 (fun r31 u31 H locs hp31 hI => ?_)
        refine q_as (y := bI (ptn n (ar 22) (ar 23) x ≠ -1)) hp31 ?_
        refine lv_if_ne (tgt := 45) hx hb d_BL_tellPair_34 (by decide) (fun c34 => ?_) (fun c34 => ?_)
        · have c34 := bI_ne0.mp c34
          exact absurd c34 hS.2.2.2.1
        · have c34 := bI_eq0.mp c34
          refine lv_aload_n hx hb d_BL_tellPair_37 rfl (lv_at hl 1 rfl) ?_
          refine lv_iload_n hx hb d_BL_tellPair_38 rfl (lv_at hl 3 rfl) ?_
          refine q_calliV [.int y] M hI (c_PR_has_3 l g ad ar fl y n (hn) (by omega) (hd1) (hd2)) ok_PR_has m3_2 m3_3 m3_4 3 rfl rfl rfl rfl hl.1 ⟨rfl, rfl⟩ ⟨Nat.le_of_ble_eq_true rfl, Nat.le_of_ble_eq_true rfl⟩ (Nat.le_of_ble_eq_true rfl) ⟨Nat.le_of_ble_eq_true rfl, Nat.le_of_ble_eq_true rfl⟩ d_BL_tellPair_39 (fun r39 u39 H locs hp39 hI => ?_)
          refine q_as (y := bI (ptn n (ar 22) (ar 23) y ≠ -1)) hp39 ?_
          refine lv_if_eq (tgt := 55) hx hb d_BL_tellPair_42 (by decide) (fun c42 => ?_) (fun c42 => ?_)
          · have c42 := bI_eq0.mp c42
            refine lv_aload_n hx hb d_BL_tellPair_55 rfl (lv_at hl 1 rfl) ?_
            refine g_BL_174_3 M hI d_BL_tellPair_56 ?_
            refine q_as (y := nI n) hn ?_
            refine lv_bipush (v := 40) hx hb d_BL_tellPair_59 (by decide) ?_
            refine lv_icmp_lt (tgt := 74) hx hb d_BL_tellPair_61 (by decide) (fun c61 => ?_) (fun c61 => ?_)
            · have c61 : n < 40 := (nI_ltI (a := n) (b := 40) (by omega) (by omega)).mp c61
              refine lv_aload_n hx hb d_BL_tellPair_74 rfl (lv_at hl 1 rfl) ?_
              refine lv_iload_n hx hb d_BL_tellPair_75 rfl (lv_at hl 2 rfl) ?_
              refine lv_iload_n hx hb d_BL_tellPair_76 rfl (lv_at hl 3 rfl) ?_
              refine q_callvV [.int x, .int y] M hI (c_PR_tell_3 l g ad ar fl x y n (hn) (hN)) ok_PR_tell m3_20 m3_21 m3_22 3 rfl rfl rfl rfl hl.1 ⟨rfl, rfl⟩ ⟨Nat.le_of_ble_eq_true rfl, Nat.le_of_ble_eq_true rfl⟩ (Nat.le_of_ble_eq_true rfl) ⟨Nat.le_of_ble_eq_true rfl, Nat.le_of_ble_eq_true rfl⟩ d_BL_tellPair_77 (fun u77 H locs hp77 hI => ?_)
              have hI : CI g A s (cw g ad (va_up (va_up ar 22 (upd (ar 22) n x)) 23 (upd (ar 23) n y)) (va_up fl 5 (nI (n + 1)))) H locs := hI
              refine lv_aload_n hx hb d_BL_tellPair_80 rfl (lv_at hl 0 rfl) ?_
              refine q_callvV [] M hI (c_BL_forgetLevels l g ad (va_up (va_up ar 22 (upd (ar 22) n x)) 23 (upd (ar 23) n y)) (va_up fl 5 (nI (n + 1))) ) ok_BL_forgetLevels m2_124 m2_126 ms_0 0 rfl rfl rfl rfl hl.1 ⟨rfl, rfl⟩ ⟨Nat.le_of_ble_eq_true rfl, Nat.le_of_ble_eq_true rfl⟩ (Nat.le_of_ble_eq_true rfl) ⟨Nat.le_of_ble_eq_true rfl, Nat.le_of_ble_eq_true rfl⟩ d_BL_tellPair_81 (fun u81 H locs hp81 hI => ?_)
              have hI : CI g A s (cw g ad (va_up (va_up ar 22 (upd (ar 22) n x)) 23 (upd (ar 23) n y)) (va_up (va_up (va_up fl 5 (nI (n + 1))) 0 0) 1 0)) H locs := hI
              exact hret () _ _ _ _ _ _ d_BL_tellPair_84 hI (trivial) (Nat.le_refl 0) (Nat.le_refl 0)
            · have c61 : ¬ n < 40 := fun h => c61 ((nI_ltI (a := n) (b := 40) (by omega) (by omega)).mpr h)
              exfalso; omega
          · have c42 := bI_ne0.mp c42
            exact absurd c42 hS.2.2.2.2
      · exact absurd c16 hS.2.2.1
abbrev rm_BL_mirror_c_BL_mirror_0 : Room := { frames := 4, cells := 0, slots := 0, locals := 88 }
set_option maxHeartbeats 4000000 in
set_option maxRecDepth 100000 in
theorem c_BL_mirror_0 (l : Launch) (g : Geo) (ad : Nat → Nat) (ar : Nat → Nat → Int32) (fl : Nat → Int32) (x : Int32) (y : Int32) (n : Nat) (hn : fl 5 = nI n) (hN : n < 40) (hd1 : dst n (ar 22)) (hd2 : dst n (ar 23)) (hS : (isch x ∧ isch y ∧ ¬ x = y ∧ ¬ ptn n (ar 22) (ar 23) x ≠ -1 ∧ ¬ ptn n (ar 22) (ar 23) y ≠ -1)) : cMv l y_BL_mirror (.code y_BL_mirror b_BL_mirror 3 none :: gw) rm_BL_mirror_c_BL_mirror_0 g [.ref (ad 0), .int x, .int y] (cw g ad ar fl) (fun (_ : Unit) => True) (fun (_ : Unit) => cw g ad (va_up (va_up ar 22 (upd (ar 22) n x)) 23 (upd (ar 23) n y)) (va_up (va_up (va_up fl 5 (nI (n + 1))) 0 0) 1 0)) 0 0 := by
  refine cMv_of (by decide) (Nat.le_of_ble_eq_true rfl) ?_
  intro p e s m below meth c A Q ls M hnm hret hl hI
  have M : MC p s m ([.ref (ad 0), .int x, .int y] : List Value).toArray meth c R_BL b_BL_mirror 3 := M
  have hl : lv_has ls 3 [(0, .ref (ad 0)), (1, .int x), (2, .int y)] := hl
  generalize ([.ref (ad 0), .int x, .int y] : List Value).toArray = args at M hret ⊢
  have hx := M.1
  have hb := M.2.1
  refine lv_aload_n hx hb d_BL_mirror_0 rfl (lv_at hl 0 rfl) ?_
  refine lv_aload_n hx hb d_BL_mirror_1 rfl (lv_at hl 0 rfl) ?_
  refine g_BL_23 M hI d_BL_mirror_2 ?_
  refine lv_iload_n hx hb d_BL_mirror_5 rfl (lv_at hl 1 rfl) ?_
  refine lv_iload_n hx hb d_BL_mirror_6 rfl (lv_at hl 2 rfl) ?_
  refine q_callvV [.ref (ad 3), .int x, .int y] M hI (c_BL_tellPair_3_0 l g ad ar fl x y n (by first | exact hn | assumption | omega | rfl) (by first | exact hN | assumption | omega | rfl) (by first | exact hd1 | assumption | omega | rfl) (by first | exact hd2 | assumption | omega | rfl) (by first | exact hS | assumption | omega | rfl)) ok_BL_tellPair m2_237 m2_239 ms_2 0 rfl rfl rfl rfl hl.1 ⟨rfl, rfl⟩ ⟨Nat.le_of_ble_eq_true rfl, Nat.le_of_ble_eq_true rfl⟩ (Nat.le_of_ble_eq_true rfl) ⟨Nat.le_of_ble_eq_true rfl, Nat.le_of_ble_eq_true rfl⟩ d_BL_mirror_7 (fun u7 H locs hp7 hI => ?_)
  have hI : CI g A s (cw g ad (va_up (va_up ar 22 (upd (ar 22) n x)) 23 (upd (ar 23) n y)) (va_up (va_up (va_up fl 5 (nI (n + 1))) 0 0) 1 0)) H locs := hI
  exact hret () _ _ _ _ _ _ d_BL_mirror_10 hI (trivial) (Nat.le_refl 0) (Nat.le_refl 0)
abbrev rm_BL_resolve_c_BL_resolve_0 : Room := { frames := 6, cells := 0, slots := 0, locals := 160 }
set_option maxHeartbeats 4000000 in
set_option maxRecDepth 100000 in
theorem c_BL_resolve_0 (l : Launch) (g : Geo) (ad : Nat → Nat) (ar : Nat → Nat → Int32) (fl : Nat → Int32) (told : Nat) (cn bn : Nat) (htl : told ≤ 2) (hcn : fl 2 = nI cn) (hcN : cn ≤ 2000) (hmt0 : okM (ar 16)) (hbn : fl 4 = nI bn) (hbN : bn ≤ 40) (hbd : dst bn (ar 20)) : cMi l y_BL_resolve (.code y_BL_resolve b_BL_resolve 2 (some .int) :: gw) rm_BL_resolve_c_BL_resolve_0 g [.ref (ad 0), .int (nI told)] (cw g ad ar fl) (fun (r : Int32) (u : (Nat → Int32) × (Nat → Int32) × (Nat → Int32) × (Nat → Int32) × (Nat → Int32) × (Nat → Int32) × (Nat → Int32) × (Nat → Int32) × (Nat → Int32) × (Nat → Int32) × (Nat → Int32) × (Nat → Int32) × (Nat → Int32) × (Nat → Int32) × (Nat → Int32) × (Nat → Int32) × (Nat → Int32) × Int32 × Int32 × Int32 × Int32 × Int32 × Int32 × Int32 × Int32 × Int32 × Int32 × Int32) => r = nI ((pgL (ar 13) cn cn).1.length) ∧ (prel u.1 u.2.1 (pgL (ar 13) cn cn).1 ∧ okM (rsT (ar 13) (ar 12) (fun x => lk (ar 20) (ar 21) x bn) told (pgL (ar 13) cn cn).1 (ar 16, ar 15, ar 14) (pgL (ar 13) cn cn).1.length).1 ∧ ∀ j, j < (pgL (ar 13) cn cn).1.length → u.2.2.1 j = nI (pB (ar 13) told (pgAt (pgL (ar 13) cn cn).1 j).1 (pgAt (pgL (ar 13) cn cn).1 j).2 (rsT (ar 13) (ar 12) (fun x => lk (ar 20) (ar 21) x bn) told (pgL (ar 13) cn cn).1 (ar 16, ar 15, ar 14) j).1) ∧ u.2.2.2.1 j = nI (pN (ar 13) told (pgAt (pgL (ar 13) cn cn).1 j).1 (pgAt (pgL (ar 13) cn cn).1 j).2 (rsT (ar 13) (ar 12) (fun x => lk (ar 20) (ar 21) x bn) told (pgL (ar 13) cn cn).1 (ar 16, ar 15, ar 14) j).1 (rsT (ar 13) (ar 12) (fun x => lk (ar 20) (ar 21) x bn) told (pgL (ar 13) cn cn).1 (ar 16, ar 15, ar 14) j).2.1))) (fun (u : (Nat → Int32) × (Nat → Int32) × (Nat → Int32) × (Nat → Int32) × (Nat → Int32) × (Nat → Int32) × (Nat → Int32) × (Nat → Int32) × (Nat → Int32) × (Nat → Int32) × (Nat → Int32) × (Nat → Int32) × (Nat → Int32) × (Nat → Int32) × (Nat → Int32) × (Nat → Int32) × (Nat → Int32) × Int32 × Int32 × Int32 × Int32 × Int32 × Int32 × Int32 × Int32 × Int32 × Int32 × Int32) => cw g ad (AR32 (ar 12) (ar 13) ((rsT (ar 13) (ar 12) (fun x => lk (ar 20) (ar 21) x bn) told (pgL (ar 13) cn cn).1 (ar 16, ar 15, ar 14) (pgL (ar 13) cn cn).1.length).2.2) ((rsT (ar 13) (ar 12) (fun x => lk (ar 20) (ar 21) x bn) told (pgL (ar 13) cn cn).1 (ar 16, ar 15, ar 14) (pgL (ar 13) cn cn).1.length).2.1) ((rsT (ar 13) (ar 12) (fun x => lk (ar 20) (ar 21) x bn) told (pgL (ar 13) cn cn).1 (ar 16, ar 15, ar 14) (pgL (ar 13) cn cn).1.length).1) (ar 17) (ar 18) (ar 19) (ar 20) (ar 21) (ar 22) (ar 23) u.1 u.2.1 u.2.2.1 u.2.2.2.1 u.2.2.2.2.1 u.2.2.2.2.2.1 u.2.2.2.2.2.2.1 u.2.2.2.2.2.2.2.1 u.2.2.2.2.2.2.2.2.1 u.2.2.2.2.2.2.2.2.2.1 u.2.2.2.2.2.2.2.2.2.2.1 u.2.2.2.2.2.2.2.2.2.2.2.1 u.2.2.2.2.2.2.2.2.2.2.2.2.1 u.2.2.2.2.2.2.2.2.2.2.2.2.2.1 u.2.2.2.2.2.2.2.2.2.2.2.2.2.2.1 u.2.2.2.2.2.2.2.2.2.2.2.2.2.2.2.1 u.2.2.2.2.2.2.2.2.2.2.2.2.2.2.2.2.1 (ar 41) (ar 42) (ar 43)) (FL19 1 0 (fl 2) (fl 3) (fl 4) (fl 5) (nI (pgL (ar 13) cn cn).1.length) u.2.2.2.2.2.2.2.2.2.2.2.2.2.2.2.2.2.1 u.2.2.2.2.2.2.2.2.2.2.2.2.2.2.2.2.2.2.1 u.2.2.2.2.2.2.2.2.2.2.2.2.2.2.2.2.2.2.2.1 u.2.2.2.2.2.2.2.2.2.2.2.2.2.2.2.2.2.2.2.2.1 u.2.2.2.2.2.2.2.2.2.2.2.2.2.2.2.2.2.2.2.2.2.1 u.2.2.2.2.2.2.2.2.2.2.2.2.2.2.2.2.2.2.2.2.2.2.1 u.2.2.2.2.2.2.2.2.2.2.2.2.2.2.2.2.2.2.2.2.2.2.2.1 u.2.2.2.2.2.2.2.2.2.2.2.2.2.2.2.2.2.2.2.2.2.2.2.2.1 u.2.2.2.2.2.2.2.2.2.2.2.2.2.2.2.2.2.2.2.2.2.2.2.2.2.1 u.2.2.2.2.2.2.2.2.2.2.2.2.2.2.2.2.2.2.2.2.2.2.2.2.2.2.1 u.2.2.2.2.2.2.2.2.2.2.2.2.2.2.2.2.2.2.2.2.2.2.2.2.2.2.2 (fl 18))) 0 0 := by
  refine cMi_of (by decide) (Nat.le_of_ble_eq_true rfl) ?_
  intro p e s m below meth c A Q ls M hret hl hI
  have M : MC p s m ([.ref (ad 0), .int (nI told)] : List Value).toArray meth c R_BL b_BL_resolve 2 := M
  have hl : lv_has ls 2 [(0, .ref (ad 0)), (1, .int (nI told))] := hl
  generalize ([.ref (ad 0), .int (nI told)] : List Value).toArray = args at M hret ⊢
  have hx := M.1
  have hb := M.2.1
  have hI := CI.to (w2 := cw g ad (AR32 (ar 12) (ar 13) (ar 14) (ar 15) (ar 16) (ar 17) (ar 18) (ar 19) (ar 20) (ar 21) (ar 22) (ar 23) (ar 24) (ar 25) (ar 26) (ar 27) (ar 28) (ar 29) (ar 30) (ar 31) (ar 32) (ar 33) (ar 34) (ar 35) (ar 36) (ar 37) (ar 38) (ar 39) (ar 40) (ar 41) (ar 42) (ar 43)) (FL19 (fl 0) (fl 1) (fl 2) (fl 3) (fl 4) (fl 5) (fl 6) (fl 7) (fl 8) (fl 9) (fl 10) (fl 11) (fl 12) (fl 13) (fl 14) (fl 15) (fl 16) (fl 17) (fl 18))) hI rfl
  refine lv_iload_n hx hb d_BL_resolve_0 rfl (lv_at hl 1 rfl) ?_
  refine lv_if_lt (tgt := 9) hx hb d_BL_resolve_1 (by decide) (fun c1 => ?_) (fun c1 => ?_)
  · have c1 : told < 0 := (nI_ltI (a := told) (b := 0) (by omega) (by omega)).mp c1
    exfalso; omega
  · have c1 : ¬ told < 0 := fun h => c1 ((nI_ltI (a := told) (b := 0) (by omega) (by omega)).mpr h)
    refine lv_iload_n hx hb d_BL_resolve_4 rfl (lv_at hl 1 rfl) ?_
    refine lv_iconst (v := 2) hx hb d_BL_resolve_5 (by decide) ?_
    refine lv_icmp_le (tgt := 19) hx hb d_BL_resolve_6 (by decide) (fun c6 => ?_) (fun c6 => ?_)
    · have c6 : told ≤ 2 := (nI_leI (a := told) (b := 2) (by omega) (by omega)).mp c6
      refine lv_aload_n hx hb d_BL_resolve_19 rfl (lv_at hl 0 rfl) ?_
      refine g_BL_31 M hI d_BL_resolve_20 ?_
      refine lv_iload_n hx hb d_BL_resolve_23 rfl (lv_at hl 1 rfl) ?_
      refine q_callvV [.int (nI told)] M hI (c_RS_resolveText l g ad (AR32 (ar 12) (ar 13) (ar 14) (ar 15) (ar 16) (ar 17) (ar 18) (ar 19) (ar 20) (ar 21) (ar 22) (ar 23) (ar 24) (ar 25) (ar 26) (ar 27) (ar 28) (ar 29) (ar 30) (ar 31) (ar 32) (ar 33) (ar 34) (ar 35) (ar 36) (ar 37) (ar 38) (ar 39) (ar 40) (ar 41) (ar 42) (ar 43)) (FL19 (fl 0) (fl 1) (fl 2) (fl 3) (fl 4) (fl 5) (fl 6) (fl 7) (fl 8) (fl 9) (fl 10) (fl 11) (fl 12) (fl 13) (fl 14) (fl 15) (fl 16) (fl 17) (fl 18)) told cn bn (htl) (hcn) (hcN) (hmt0) (hbn) (hbN) (hbd)) ok_RS_resolveText m3_56 m3_57 m3_58 4 rfl rfl rfl rfl hl.1 ⟨rfl, rfl⟩ ⟨Nat.le_of_ble_eq_true rfl, Nat.le_of_ble_eq_true rfl⟩ (Nat.le_of_ble_eq_true rfl) ⟨Nat.le_of_ble_eq_true rfl, Nat.le_of_ble_eq_true rfl⟩ d_BL_resolve_24 (fun u24 H locs hp24 hI => ?_)
      obtain ⟨y1_24, y2_24, yb_24, ys_24, w28_24, z29_24, z30_24, z31_24, z32_24, z33_24, z34_24, z35_24, z36_24, z37_24, z38_24, z39_24, z40_24, g7_24, g8_24, g9_24, g10_24, g11_24, g12_24, g13_24, g14_24, g15_24, g16_24, g17_24⟩ := u24
      have hI : CI g A s (cw g ad (AR32 (ar 12) (ar 13) ((rsT (ar 13) (ar 12) (fun x => lk (ar 20) (ar 21) x bn) told (pgL (ar 13) cn cn).1 (ar 16, ar 15, ar 14) (pgL (ar 13) cn cn).1.length).2.2) ((rsT (ar 13) (ar 12) (fun x => lk (ar 20) (ar 21) x bn) told (pgL (ar 13) cn cn).1 (ar 16, ar 15, ar 14) (pgL (ar 13) cn cn).1.length).2.1) ((rsT (ar 13) (ar 12) (fun x => lk (ar 20) (ar 21) x bn) told (pgL (ar 13) cn cn).1 (ar 16, ar 15, ar 14) (pgL (ar 13) cn cn).1.length).1) (ar 17) (ar 18) (ar 19) (ar 20) (ar 21) (ar 22) (ar 23) y1_24 y2_24 yb_24 ys_24 w28_24 z29_24 z30_24 z31_24 z32_24 z33_24 z34_24 z35_24 z36_24 z37_24 z38_24 z39_24 z40_24 (ar 41) (ar 42) (ar 43)) (FL19 (fl 0) (fl 1) (fl 2) (fl 3) (fl 4) (fl 5) (nI (pgL (ar 13) cn cn).1.length) g7_24 g8_24 g9_24 g10_24 g11_24 g12_24 g13_24 g14_24 g15_24 g16_24 g17_24 (fl 18))) H locs := hI
      refine lv_aload_n hx hb d_BL_resolve_27 rfl (lv_at hl 0 rfl) ?_
      refine lv_iconst (v := 1) hx hb d_BL_resolve_28 (by decide) ?_
      refine p_BL_44 M hI rfl rfl d_BL_resolve_29 (fun H locs hI => ?_)
      have hI : CI g A s (cw g ad (AR32 (ar 12) (ar 13) ((rsT (ar 13) (ar 12) (fun x => lk (ar 20) (ar 21) x bn) told (pgL (ar 13) cn cn).1 (ar 16, ar 15, ar 14) (pgL (ar 13) cn cn).1.length).2.2) ((rsT (ar 13) (ar 12) (fun x => lk (ar 20) (ar 21) x bn) told (pgL (ar 13) cn cn).1 (ar 16, ar 15, ar 14) (pgL (ar 13) cn cn).1.length).2.1) ((rsT (ar 13) (ar 12) (fun x => lk (ar 20) (ar 21) x bn) told (pgL (ar 13) cn cn).1 (ar 16, ar 15, ar 14) (pgL (ar 13) cn cn).1.length).1) (ar 17) (ar 18) (ar 19) (ar 20) (ar 21) (ar 22) (ar 23) y1_24 y2_24 yb_24 ys_24 w28_24 z29_24 z30_24 z31_24 z32_24 z33_24 z34_24 z35_24 z36_24 z37_24 z38_24 z39_24 z40_24 (ar 41) (ar 42) (ar 43)) (FL19 1 (fl 1) (fl 2) (fl 3) (fl 4) (fl 5) (nI (pgL (ar 13) cn cn).1.length) g7_24 g8_24 g9_24 g10_24 g11_24 g12_24 g13_24 g14_24 g15_24 g16_24 g17_24 (fl 18))) H locs := hI
      refine lv_aload_n hx hb d_BL_resolve_32 rfl (lv_at hl 0 rfl) ?_
      refine lv_iconst (v := 0) hx hb d_BL_resolve_33 (by decide) ?_
      refine p_BL_48 M hI rfl rfl d_BL_resolve_34 (fun H locs hI => ?_)
      have hI : CI g A s (cw g ad (AR32 (ar 12) (ar 13) ((rsT (ar 13) (ar 12) (fun x => lk (ar 20) (ar 21) x bn) told (pgL (ar 13) cn cn).1 (ar 16, ar 15, ar 14) (pgL (ar 13) cn cn).1.length).2.2) ((rsT (ar 13) (ar 12) (fun x => lk (ar 20) (ar 21) x bn) told (pgL (ar 13) cn cn).1 (ar 16, ar 15, ar 14) (pgL (ar 13) cn cn).1.length).2.1) ((rsT (ar 13) (ar 12) (fun x => lk (ar 20) (ar 21) x bn) told (pgL (ar 13) cn cn).1 (ar 16, ar 15, ar 14) (pgL (ar 13) cn cn).1.length).1) (ar 17) (ar 18) (ar 19) (ar 20) (ar 21) (ar 22) (ar 23) y1_24 y2_24 yb_24 ys_24 w28_24 z29_24 z30_24 z31_24 z32_24 z33_24 z34_24 z35_24 z36_24 z37_24 z38_24 z39_24 z40_24 (ar 41) (ar 42) (ar 43)) (FL19 1 0 (fl 2) (fl 3) (fl 4) (fl 5) (nI (pgL (ar 13) cn cn).1.length) g7_24 g8_24 g9_24 g10_24 g11_24 g12_24 g13_24 g14_24 g15_24 g16_24 g17_24 (fl 18))) H locs := hI
      refine lv_aload_n hx hb d_BL_resolve_37 rfl (lv_at hl 0 rfl) ?_
      refine g_BL_31 M hI d_BL_resolve_38 ?_
      refine g_BL_100 M hI d_BL_resolve_41 ?_
      refine q_as (y := nI (pgL (ar 13) cn cn).1.length) rfl ?_
      exact hret (nI (pgL (ar 13) cn cn).1.length) (y1_24, y2_24, yb_24, ys_24, w28_24, z29_24, z30_24, z31_24, z32_24, z33_24, z34_24, z35_24, z36_24, z37_24, z38_24, z39_24, z40_24, g7_24, g8_24, g9_24, g10_24, g11_24, g12_24, g13_24, g14_24, g15_24, g16_24, g17_24) _ _ _ _ _ _ d_BL_resolve_44 hI (⟨rfl, hp24⟩) (Nat.le_refl 0) (Nat.le_refl 0)
    · have c6 : ¬ told ≤ 2 := fun h => c6 ((nI_leI (a := told) (b := 2) (by omega) (by omega)).mpr h)
      exfalso; omega
abbrev rm_BL_paragraph_c_BL_paragraph_0 : Room := { frames := 1, cells := 0, slots := 0, locals := 20 }
set_option maxHeartbeats 4000000 in
set_option maxRecDepth 100000 in
theorem c_BL_paragraph_0 (l : Launch) (g : Geo) (ad : Nat → Nat) (ar : Nat → Nat → Int32) (fl : Nat → Int32) (k : Nat) (y : Nat) (np : Nat) (h0 : fl 0 = 1) (h6 : fl 6 = nI np) (hnP : np ≤ 2000) (hk : k < np) (hy : y < 4) : cMi l y_BL_paragraph (.code y_BL_paragraph b_BL_paragraph 3 (some .int) :: gw) rm_BL_paragraph_c_BL_paragraph_0 g [.ref (ad 0), .int (nI k), .int (nI y)] (cw g ad ar fl) (fun (r : Int32) (_ : Unit) => r = (if y = 0 then ar 24 k else if y = 1 then ar 25 k else if y = 2 then ar 26 k else ar 27 k)) (fun (_ : Unit) => cw g ad ar fl) 0 0 := by
  refine cMi_of (by decide) (Nat.le_of_ble_eq_true rfl) ?_
  intro p e s m below meth c A Q ls M hret hl hI
  have M : MC p s m ([.ref (ad 0), .int (nI k), .int (nI y)] : List Value).toArray meth c R_BL b_BL_paragraph 3 := M
  have hl : lv_has ls 3 [(0, .ref (ad 0)), (1, .int (nI k)), (2, .int (nI y))] := hl
  generalize ([.ref (ad 0), .int (nI k), .int (nI y)] : List Value).toArray = args at M hret ⊢
  have hx := M.1
  have hb := M.2.1
  refine lv_aload_n hx hb d_BL_paragraph_0 rfl (lv_at hl 0 rfl) ?_
  refine q_callvV [] M hI (c_BL_needLevels_p l g ad ar fl (by first | exact h0 | assumption | omega | rfl)).toM ok_BL_needLevels m4_44 m4_46 ms_35 0 rfl rfl rfl rfl hl.1 ⟨rfl, rfl⟩ ⟨Nat.le_of_ble_eq_true rfl, Nat.le_of_ble_eq_true rfl⟩ (Nat.le_of_ble_eq_true rfl) ⟨Nat.le_of_ble_eq_true rfl, Nat.le_of_ble_eq_true rfl⟩ d_BL_paragraph_1 (fun u1 H locs hp1 hI => ?_)
  refine lv_iload_n hx hb d_BL_paragraph_4 rfl (lv_at hl 1 rfl) ?_
  refine lv_if_lt (tgt := 19) hx hb d_BL_paragraph_5 (by decide) (fun c5 => ?_) (fun c5 => ?_)
  · have c5 : k < 0 := (nI_ltI (a := k) (b := 0) (by omega) (by omega)).mp c5
    exfalso; omega
  · have c5 : ¬ k < 0 := fun h => c5 ((nI_ltI (a := k) (b := 0) (by omega) (by omega)).mpr h)
    refine lv_iload_n hx hb d_BL_paragraph_8 rfl (lv_at hl 1 rfl) ?_
    refine lv_aload_n hx hb d_BL_paragraph_9 rfl (lv_at hl 0 rfl) ?_
    refine g_BL_31 M hI d_BL_paragraph_10 ?_
    refine g_BL_100 M hI d_BL_paragraph_13 ?_
    refine q_as (y := nI np) h6 ?_
    refine lv_icmp_lt (tgt := 29) hx hb d_BL_paragraph_16 (by decide) (fun c16 => ?_) (fun c16 => ?_)
    · have c16 : k < np := (nI_ltI (a := k) (b := np) (by omega) (by omega)).mp c16
      refine lv_iload_n hx hb d_BL_paragraph_29 rfl (lv_at hl 2 rfl) ?_
      rcases (show y = 0 ∨ y = 1 ∨ y = 2 ∨ y = 3 by omega) with h7 | h7 | h7 | h7
      · refine q_as (y := 0) (by rw [h7]; rfl) ?_
        refine lv_tableIn (off := 30) (tgt := 60) hx hb d_BL_paragraph_30 (by decide) (by decide) (by decide) (by decide) ?_
        refine lv_aload_n hx hb d_BL_paragraph_60 rfl (lv_at hl 0 rfl) ?_
        refine g_BL_31 M hI d_BL_paragraph_61 ?_
        refine g_BL_111 M hI d_BL_paragraph_64 ?_
        refine lv_iload_n hx hb d_BL_paragraph_67 rfl (lv_at hl 1 rfl) ?_
        refine al_24 M hI k rfl (by omega) d_BL_paragraph_68 ?_
        exact hret (ar 24 k) () _ _ _ _ _ _ d_BL_paragraph_69 hI (by rw [h7]; rfl) (Nat.le_refl 0) (Nat.le_refl 0)
      · refine q_as (y := 1) (by rw [h7]; rfl) ?_
        refine lv_tableIn (off := 40) (tgt := 70) hx hb d_BL_paragraph_30 (by decide) (by decide) (by decide) (by decide) ?_
        refine lv_aload_n hx hb d_BL_paragraph_70 rfl (lv_at hl 0 rfl) ?_
        refine g_BL_31 M hI d_BL_paragraph_71 ?_
        refine g_BL_115 M hI d_BL_paragraph_74 ?_
        refine lv_iload_n hx hb d_BL_paragraph_77 rfl (lv_at hl 1 rfl) ?_
        refine al_25 M hI k rfl (by omega) d_BL_paragraph_78 ?_
        exact hret (ar 25 k) () _ _ _ _ _ _ d_BL_paragraph_79 hI (by rw [h7]; rfl) (Nat.le_refl 0) (Nat.le_refl 0)
      · refine q_as (y := 2) (by rw [h7]; rfl) ?_
        refine lv_tableIn (off := 50) (tgt := 80) hx hb d_BL_paragraph_30 (by decide) (by decide) (by decide) (by decide) ?_
        refine lv_aload_n hx hb d_BL_paragraph_80 rfl (lv_at hl 0 rfl) ?_
        refine g_BL_31 M hI d_BL_paragraph_81 ?_
        refine g_BL_118 M hI d_BL_paragraph_84 ?_
        refine lv_iload_n hx hb d_BL_paragraph_87 rfl (lv_at hl 1 rfl) ?_
        refine al_26 M hI k rfl (by omega) d_BL_paragraph_88 ?_
        exact hret (ar 26 k) () _ _ _ _ _ _ d_BL_paragraph_89 hI (by rw [h7]; rfl) (Nat.le_refl 0) (Nat.le_refl 0)
      · refine q_as (y := 3) (by rw [h7]; rfl) ?_
        refine lv_tableIn (off := 60) (tgt := 90) hx hb d_BL_paragraph_30 (by decide) (by decide) (by decide) (by decide) ?_
        refine lv_aload_n hx hb d_BL_paragraph_90 rfl (lv_at hl 0 rfl) ?_
        refine g_BL_31 M hI d_BL_paragraph_91 ?_
        refine g_BL_121 M hI d_BL_paragraph_94 ?_
        refine lv_iload_n hx hb d_BL_paragraph_97 rfl (lv_at hl 1 rfl) ?_
        refine al_27 M hI k rfl (by omega) d_BL_paragraph_98 ?_
        exact hret (ar 27 k) () _ _ _ _ _ _ d_BL_paragraph_99 hI (by rw [h7]; rfl) (Nat.le_refl 0) (Nat.le_refl 0)
    · have c16 : ¬ k < np := fun h => c16 ((nI_ltI (a := k) (b := np) (by omega) (by omega)).mpr h)
      exfalso; omega
abbrev rm_BL_level_c_BL_level_0 : Room := { frames := 1, cells := 0, slots := 0, locals := 21 }
set_option maxHeartbeats 4000000 in
set_option maxRecDepth 100000 in
theorem c_BL_level_0 (l : Launch) (g : Geo) (ad : Nat → Nat) (ar : Nat → Nat → Int32) (fl : Nat → Int32) (q : Nat) (cn : Nat) (h0 : fl 0 = 1) (h2 : fl 2 = nI cn) (hcN : cn ≤ 2000) (hq : q < cn) : cMi l y_BL_level (.code y_BL_level b_BL_level 2 (some .int) :: gw) rm_BL_level_c_BL_level_0 g [.ref (ad 0), .int (nI q)] (cw g ad ar fl) (fun (r : Int32) (_ : Unit) => r = ar 15 q) (fun (_ : Unit) => cw g ad ar fl) 0 0 := by
  refine cMi_of (by decide) (Nat.le_of_ble_eq_true rfl) ?_
  intro p e s m below meth c A Q ls M hret hl hI
  have M : MC p s m ([.ref (ad 0), .int (nI q)] : List Value).toArray meth c R_BL b_BL_level 2 := M
  have hl : lv_has ls 2 [(0, .ref (ad 0)), (1, .int (nI q))] := hl
  generalize ([.ref (ad 0), .int (nI q)] : List Value).toArray = args at M hret ⊢
  have hx := M.1
  have hb := M.2.1
  refine lv_aload_n hx hb d_BL_level_0 rfl (lv_at hl 0 rfl) ?_
  refine q_callvV [] M hI (c_BL_needLevels_p l g ad ar fl (by first | exact h0 | assumption | omega | rfl)).toM ok_BL_needLevels m4_44 m4_46 ms_35 0 rfl rfl rfl rfl hl.1 ⟨rfl, rfl⟩ ⟨Nat.le_of_ble_eq_true rfl, Nat.le_of_ble_eq_true rfl⟩ (Nat.le_of_ble_eq_true rfl) ⟨Nat.le_of_ble_eq_true rfl, Nat.le_of_ble_eq_true rfl⟩ d_BL_level_1 (fun u1 H locs hp1 hI => ?_)
  refine lv_aload_n hx hb d_BL_level_4 rfl (lv_at hl 0 rfl) ?_
  refine lv_iload_n hx hb d_BL_level_5 rfl (lv_at hl 1 rfl) ?_
  refine q_callvV [.int (nI q)] M hI (c_BL_needPosition_p l g ad ar fl q cn (by first | exact h2 | assumption | omega | rfl) (by first | exact hcN | assumption | omega | rfl) (hq)).toM ok_BL_needPosition m4_73 m4_75 ms_36 0 rfl rfl rfl rfl hl.1 ⟨rfl, rfl⟩ ⟨Nat.le_of_ble_eq_true rfl, Nat.le_of_ble_eq_true rfl⟩ (Nat.le_of_ble_eq_true rfl) ⟨Nat.le_of_ble_eq_true rfl, Nat.le_of_ble_eq_true rfl⟩ d_BL_level_6 (fun u6 H locs hp6 hI => ?_)
  refine lv_aload_n hx hb d_BL_level_9 rfl (lv_at hl 0 rfl) ?_
  refine g_BL_12 M hI d_BL_level_10 ?_
  refine g_BL_129 M hI d_BL_level_13 ?_
  refine lv_iload_n hx hb d_BL_level_16 rfl (lv_at hl 1 rfl) ?_
  refine al_15 M hI q rfl (by omega) d_BL_level_17 ?_
  exact hret (ar 15 q) () _ _ _ _ _ _ d_BL_level_18 hI (rfl) (Nat.le_refl 0) (Nat.le_refl 0)
abbrev rm_BL_kind_c_BL_kind_0 : Room := { frames := 1, cells := 0, slots := 0, locals := 21 }
set_option maxHeartbeats 4000000 in
set_option maxRecDepth 100000 in
theorem c_BL_kind_0 (l : Launch) (g : Geo) (ad : Nat → Nat) (ar : Nat → Nat → Int32) (fl : Nat → Int32) (q : Nat) (cn : Nat) (h0 : fl 0 = 1) (h2 : fl 2 = nI cn) (hcN : cn ≤ 2000) (hq : q < cn) : cMi l y_BL_kind (.code y_BL_kind b_BL_kind 2 (some .int) :: gw) rm_BL_kind_c_BL_kind_0 g [.ref (ad 0), .int (nI q)] (cw g ad ar fl) (fun (r : Int32) (_ : Unit) => r = ar 14 q) (fun (_ : Unit) => cw g ad ar fl) 0 0 := by
  refine cMi_of (by decide) (Nat.le_of_ble_eq_true rfl) ?_
  intro p e s m below meth c A Q ls M hret hl hI
  have M : MC p s m ([.ref (ad 0), .int (nI q)] : List Value).toArray meth c R_BL b_BL_kind 2 := M
  have hl : lv_has ls 2 [(0, .ref (ad 0)), (1, .int (nI q))] := hl
  generalize ([.ref (ad 0), .int (nI q)] : List Value).toArray = args at M hret ⊢
  have hx := M.1
  have hb := M.2.1
  refine lv_aload_n hx hb d_BL_kind_0 rfl (lv_at hl 0 rfl) ?_
  refine q_callvV [] M hI (c_BL_needLevels_p l g ad ar fl (by first | exact h0 | assumption | omega | rfl)).toM ok_BL_needLevels m4_44 m4_46 ms_35 0 rfl rfl rfl rfl hl.1 ⟨rfl, rfl⟩ ⟨Nat.le_of_ble_eq_true rfl, Nat.le_of_ble_eq_true rfl⟩ (Nat.le_of_ble_eq_true rfl) ⟨Nat.le_of_ble_eq_true rfl, Nat.le_of_ble_eq_true rfl⟩ d_BL_kind_1 (fun u1 H locs hp1 hI => ?_)
  refine lv_aload_n hx hb d_BL_kind_4 rfl (lv_at hl 0 rfl) ?_
  refine lv_iload_n hx hb d_BL_kind_5 rfl (lv_at hl 1 rfl) ?_
  refine q_callvV [.int (nI q)] M hI (c_BL_needPosition_p l g ad ar fl q cn (by first | exact h2 | assumption | omega | rfl) (by first | exact hcN | assumption | omega | rfl) (hq)).toM ok_BL_needPosition m4_73 m4_75 ms_36 0 rfl rfl rfl rfl hl.1 ⟨rfl, rfl⟩ ⟨Nat.le_of_ble_eq_true rfl, Nat.le_of_ble_eq_true rfl⟩ (Nat.le_of_ble_eq_true rfl) ⟨Nat.le_of_ble_eq_true rfl, Nat.le_of_ble_eq_true rfl⟩ d_BL_kind_6 (fun u6 H locs hp6 hI => ?_)
  refine lv_aload_n hx hb d_BL_kind_9 rfl (lv_at hl 0 rfl) ?_
  refine g_BL_12 M hI d_BL_kind_10 ?_
  refine g_BL_132 M hI d_BL_kind_13 ?_
  refine lv_iload_n hx hb d_BL_kind_16 rfl (lv_at hl 1 rfl) ?_
  refine al_14 M hI q rfl (by omega) d_BL_kind_17 ?_
  exact hret (ar 14 q) () _ _ _ _ _ _ d_BL_kind_18 hI (rfl) (Nat.le_refl 0) (Nat.le_refl 0)
abbrev rm_BL_match_c_BL_match_0 : Room := { frames := 1, cells := 0, slots := 0, locals := 21 }
set_option maxHeartbeats 4000000 in
set_option maxRecDepth 100000 in
theorem c_BL_match_0 (l : Launch) (g : Geo) (ad : Nat → Nat) (ar : Nat → Nat → Int32) (fl : Nat → Int32) (q : Nat) (cn : Nat) (h0 : fl 0 = 1) (h2 : fl 2 = nI cn) (hcN : cn ≤ 2000) (hq : q < cn) : cMi l y_BL_match (.code y_BL_match b_BL_match 2 (some .int) :: gw) rm_BL_match_c_BL_match_0 g [.ref (ad 0), .int (nI q)] (cw g ad ar fl) (fun (r : Int32) (_ : Unit) => r = ar 16 q) (fun (_ : Unit) => cw g ad ar fl) 0 0 := by
  refine cMi_of (by decide) (Nat.le_of_ble_eq_true rfl) ?_
  intro p e s m below meth c A Q ls M hret hl hI
  have M : MC p s m ([.ref (ad 0), .int (nI q)] : List Value).toArray meth c R_BL b_BL_match 2 := M
  have hl : lv_has ls 2 [(0, .ref (ad 0)), (1, .int (nI q))] := hl
  generalize ([.ref (ad 0), .int (nI q)] : List Value).toArray = args at M hret ⊢
  have hx := M.1
  have hb := M.2.1
  refine lv_aload_n hx hb d_BL_match_0 rfl (lv_at hl 0 rfl) ?_
  refine q_callvV [] M hI (c_BL_needLevels_p l g ad ar fl (by first | exact h0 | assumption | omega | rfl)).toM ok_BL_needLevels m4_44 m4_46 ms_35 0 rfl rfl rfl rfl hl.1 ⟨rfl, rfl⟩ ⟨Nat.le_of_ble_eq_true rfl, Nat.le_of_ble_eq_true rfl⟩ (Nat.le_of_ble_eq_true rfl) ⟨Nat.le_of_ble_eq_true rfl, Nat.le_of_ble_eq_true rfl⟩ d_BL_match_1 (fun u1 H locs hp1 hI => ?_)
  refine lv_aload_n hx hb d_BL_match_4 rfl (lv_at hl 0 rfl) ?_
  refine lv_iload_n hx hb d_BL_match_5 rfl (lv_at hl 1 rfl) ?_
  refine q_callvV [.int (nI q)] M hI (c_BL_needPosition_p l g ad ar fl q cn (by first | exact h2 | assumption | omega | rfl) (by first | exact hcN | assumption | omega | rfl) (hq)).toM ok_BL_needPosition m4_73 m4_75 ms_36 0 rfl rfl rfl rfl hl.1 ⟨rfl, rfl⟩ ⟨Nat.le_of_ble_eq_true rfl, Nat.le_of_ble_eq_true rfl⟩ (Nat.le_of_ble_eq_true rfl) ⟨Nat.le_of_ble_eq_true rfl, Nat.le_of_ble_eq_true rfl⟩ d_BL_match_6 (fun u6 H locs hp6 hI => ?_)
  refine lv_aload_n hx hb d_BL_match_9 rfl (lv_at hl 0 rfl) ?_
  refine g_BL_12 M hI d_BL_match_10 ?_
  refine g_BL_135 M hI d_BL_match_13 ?_
  refine lv_iload_n hx hb d_BL_match_16 rfl (lv_at hl 1 rfl) ?_
  refine al_16 M hI q rfl (by omega) d_BL_match_17 ?_
  exact hret (ar 16 q) () _ _ _ _ _ _ d_BL_match_18 hI (rfl) (Nat.le_refl 0) (Nat.le_refl 0)
abbrev rm_BL_line_c_BL_line_0 : Room := { frames := 4, cells := 0, slots := 0, locals := 95 }
set_option maxHeartbeats 4000000 in
set_option maxRecDepth 100000 in
theorem c_BL_line_0 (l : Launch) (g : Geo) (ad : Nat → Nat) (ar : Nat → Nat → Int32) (fl : Nat → Int32) (fr : Nat) (to : Nat) (cn np kp base : Nat) (E : Nat → Nat) (h0 : fl 0 = 1) (h2 : fl 2 = nI cn) (hcN : cn ≤ 2000) (h6 : fl 6 = nI np) (hnP : np ≤ 2000) (hE : ∀ k, k < np → ar 25 k = nI (E k) ∧ E k ≤ 2000) (hft : fr < to) (ht2 : to ≤ cn) (hkp : kp < np) (hpw : pwF E fr np 0 = nI kp) (hEk : to ≤ E kp) (hbk : ar 26 kp = nI base) (hbs : base ≤ 1) (h15 : okV (ar 15)) (h42 : okV (ar 42)) : cMi l y_BL_line (.code y_BL_line b_BL_line 4 (some .int) :: gw) rm_BL_line_c_BL_line_0 g [.ref (ad 0), .int (nI fr), .int (nI to)] (cw g ad ar fl) (fun (r : Int32) (u : (Nat → Int32)) => r = nI (shN (ar 15) (ar 13) base fr to (ar 42)) ∧ oR u (shD (ar 15) (ar 13) base fr to (ar 42)) (shN (ar 15) (ar 13) base fr to (ar 42))) (fun (u : (Nat → Int32)) => cw g ad (va_up (va_up (va_up ar 42 (shL (ar 15) (ar 13) base fr to (ar 42))) 41 u) 43 (plc (shD (ar 15) (ar 13) base fr to (ar 42)) (pre cn (fun _ => -1) (ar 43)) (shN (ar 15) (ar 13) base fr to (ar 42)))) (va_up (va_up fl 18 (nI (shN (ar 15) (ar 13) base fr to (ar 42)))) 1 1)) 0 0 := by
  refine cMi_of (by decide) (Nat.le_of_ble_eq_true rfl) ?_
  intro p e s m below meth c A Q ls M hret hl hI
  have M : MC p s m ([.ref (ad 0), .int (nI fr), .int (nI to)] : List Value).toArray meth c R_BL b_BL_line 4 := M
  have hl : lv_has ls 4 [(0, .ref (ad 0)), (1, .int (nI fr)), (2, .int (nI to))] := hl
  generalize ([.ref (ad 0), .int (nI fr), .int (nI to)] : List Value).toArray = args at M hret ⊢
  have hx := M.1
  have hb := M.2.1
  refine lv_aload_n hx hb d_BL_line_0 rfl (lv_at hl 0 rfl) ?_
  refine q_callvV [] M hI (c_BL_needLevels_p l g ad ar fl (by first | exact h0 | assumption | omega | rfl)).toM ok_BL_needLevels m4_44 m4_46 ms_35 0 rfl rfl rfl rfl hl.1 ⟨rfl, rfl⟩ ⟨Nat.le_of_ble_eq_true rfl, Nat.le_of_ble_eq_true rfl⟩ (Nat.le_of_ble_eq_true rfl) ⟨Nat.le_of_ble_eq_true rfl, Nat.le_of_ble_eq_true rfl⟩ d_BL_line_1 (fun u1 H locs hp1 hI => ?_)
  refine lv_aload_n hx hb d_BL_line_4 rfl (lv_at hl 0 rfl) ?_
  refine lv_iload_n hx hb d_BL_line_5 rfl (lv_at hl 1 rfl) ?_
  refine q_callvV [.int (nI fr)] M hI (c_BL_needPosition_p l g ad ar fl fr cn (by first | exact h2 | assumption | omega | rfl) (by first | exact hcN | assumption | omega | rfl) (by omega)).toM ok_BL_needPosition m4_73 m4_75 ms_36 0 rfl rfl rfl rfl hl.1 ⟨rfl, rfl⟩ ⟨Nat.le_of_ble_eq_true rfl, Nat.le_of_ble_eq_true rfl⟩ (Nat.le_of_ble_eq_true rfl) ⟨Nat.le_of_ble_eq_true rfl, Nat.le_of_ble_eq_true rfl⟩ d_BL_line_6 (fun u6 H locs hp6 hI => ?_)
  refine lv_iload_n hx hb d_BL_line_9 rfl (lv_at hl 2 rfl) ?_
  refine lv_iconst (v := 1) hx hb d_BL_line_10 (by decide) ?_
  refine lv_icmp_lt (tgt := 25) hx hb d_BL_line_11 (by decide) (fun c11 => ?_) (fun c11 => ?_)
  · have c11 : to < 1 := (nI_ltI (a := to) (b := 1) (by omega) (by omega)).mp c11
    exfalso; omega
  · have c11 : ¬ to < 1 := fun h => c11 ((nI_ltI (a := to) (b := 1) (by omega) (by omega)).mpr h)
    refine lv_iload_n hx hb d_BL_line_14 rfl (lv_at hl 2 rfl) ?_
    refine lv_aload_n hx hb d_BL_line_15 rfl (lv_at hl 0 rfl) ?_
    refine g_BL_12 M hI d_BL_line_16 ?_
    refine g_BL_86 M hI d_BL_line_19 ?_
    refine q_as (y := nI cn) h2 ?_
    refine lv_icmp_le (tgt := 35) hx hb d_BL_line_22 (by decide) (fun c22 => ?_) (fun c22 => ?_)
    · have c22 : to ≤ cn := (nI_leI (a := to) (b := cn) (by omega) (by omega)).mp c22
      refine lv_iload_n hx hb d_BL_line_35 rfl (lv_at hl 1 rfl) ?_
      refine lv_iload_n hx hb d_BL_line_36 rfl (lv_at hl 2 rfl) ?_
      refine lv_icmp_lt (tgt := 50) hx hb d_BL_line_37 (by decide) (fun c37 => ?_) (fun c37 => ?_)
      · have c37 : fr < to := (nI_ltI (a := fr) (b := to) (by omega) (by omega)).mp c37
        refine lv_aload_n hx hb d_BL_line_50 rfl (lv_at hl 0 rfl) ?_
        refine g_BL_31 M hI d_BL_line_51 ?_
        refine lv_iload_n hx hb d_BL_line_54 rfl (lv_at hl 1 rfl) ?_
        refine q_calliV [.int (nI fr)] M hI (c_RS_paragraphWith l g ad ar fl fr np E (h6) (hnP) (hE) (by omega)) ok_RS_paragraphWith m4_101 m4_102 m4_103 4 rfl rfl rfl rfl hl.1 ⟨rfl, rfl⟩ ⟨Nat.le_of_ble_eq_true rfl, Nat.le_of_ble_eq_true rfl⟩ (Nat.le_of_ble_eq_true rfl) ⟨Nat.le_of_ble_eq_true rfl, Nat.le_of_ble_eq_true rfl⟩ d_BL_line_55 (fun r55 u55 H locs hp55 hI => ?_)
        refine q_as (y := pwF E fr np 0) hp55 ?_
        refine q_as (y := nI kp) (hpw) ?_
        have hEk2 := hE kp hkp
        refine lv_istore_n (lv' := [(3, .int (nI kp)), (0, .ref (ad 0)), (1, .int (nI fr)), (2, .int (nI to))]) hx hb d_BL_line_58 rfl hl (by decide) rfl (fun ls hl => ?_)
        refine lv_iload_n hx hb d_BL_line_59 rfl (lv_at hl 0 rfl) ?_
        refine lv_iconst (v := (-1)) hx hb d_BL_line_60 (by decide) ?_
        refine lv_icmp_eq (tgt := 77) hx hb d_BL_line_61 (by decide) (fun c61 => ?_) (fun c61 => ?_)
        · exact absurd c61 (m1_ne (by omega))
        · refine lv_iload_n hx hb d_BL_line_64 rfl (lv_at hl 3 rfl) ?_
          refine lv_aload_n hx hb d_BL_line_65 rfl (lv_at hl 1 rfl) ?_
          refine g_BL_31 M hI d_BL_line_66 ?_
          refine g_BL_115 M hI d_BL_line_69 ?_
          refine lv_iload_n hx hb d_BL_line_72 rfl (lv_at hl 0 rfl) ?_
          refine al_25 M hI kp rfl (by omega) d_BL_line_73 ?_
          refine q_as (y := nI (E kp)) (hEk2.1) ?_
          refine lv_icmp_le (tgt := 87) hx hb d_BL_line_74 (by decide) (fun c74 => ?_) (fun c74 => ?_)
          · have c74 : to ≤ E kp := (nI_leI (a := to) (b := E kp) (by omega) (by omega)).mp c74
            refine lv_aload_n hx hb d_BL_line_87 rfl (lv_at hl 1 rfl) ?_
            refine g_BL_40 M hI d_BL_line_88 ?_
            refine lv_iload_n hx hb d_BL_line_91 rfl (lv_at hl 2 rfl) ?_
            refine lv_iload_n hx hb d_BL_line_92 rfl (lv_at hl 3 rfl) ?_
            refine lv_aload_n hx hb d_BL_line_93 rfl (lv_at hl 1 rfl) ?_
            refine g_BL_31 M hI d_BL_line_94 ?_
            refine g_BL_118 M hI d_BL_line_97 ?_
            refine lv_iload_n hx hb d_BL_line_100 rfl (lv_at hl 0 rfl) ?_
            refine al_26 M hI kp rfl (by omega) d_BL_line_101 ?_
            refine q_as (y := nI base) (hbk) ?_
            refine q_callvV [.int (nI fr), .int (nI to), .int (nI base)] M hI (c_LN_show l g ad ar fl fr to base cn (by omega) (ht2) (h2) (hcN) (hbs) (h15) (h42)) ok_LN_show m4_106 m4_107 m4_108 11 rfl rfl rfl rfl hl.1 ⟨rfl, rfl⟩ ⟨Nat.le_of_ble_eq_true rfl, Nat.le_of_ble_eq_true rfl⟩ (Nat.le_of_ble_eq_true rfl) ⟨Nat.le_of_ble_eq_true rfl, Nat.le_of_ble_eq_true rfl⟩ d_BL_line_102 (fun u102 H locs hp102 hI => ?_)
            obtain ⟨y_102, rfl⟩ : ∃ z, z = u102 := ⟨_, rfl⟩
            have hI : CI g A s (cw g ad (va_up (va_up (va_up ar 42 (shL (ar 15) (ar 13) base fr to (ar 42))) 41 y_102) 43 (plc (shD (ar 15) (ar 13) base fr to (ar 42)) (pre cn (fun _ => -1) (ar 43)) (shN (ar 15) (ar 13) base fr to (ar 42)))) (va_up fl 18 (nI (shN (ar 15) (ar 13) base fr to (ar 42))))) H locs := hI
            refine lv_aload_n hx hb d_BL_line_105 rfl (lv_at hl 1 rfl) ?_
            refine lv_iconst (v := 1) hx hb d_BL_line_106 (by decide) ?_
            refine p_BL_48 M hI rfl rfl d_BL_line_107 (fun H locs hI => ?_)
            have hI : CI g A s (cw g ad (va_up (va_up (va_up ar 42 (shL (ar 15) (ar 13) base fr to (ar 42))) 41 y_102) 43 (plc (shD (ar 15) (ar 13) base fr to (ar 42)) (pre cn (fun _ => -1) (ar 43)) (shN (ar 15) (ar 13) base fr to (ar 42)))) (va_up (va_up fl 18 (nI (shN (ar 15) (ar 13) base fr to (ar 42)))) 1 1)) H locs := hI
            refine lv_aload_n hx hb d_BL_line_110 rfl (lv_at hl 1 rfl) ?_
            refine g_BL_40 M hI d_BL_line_111 ?_
            refine g_BL_151 M hI d_BL_line_114 ?_
            refine q_as (y := nI (shN (ar 15) (ar 13) base fr to (ar 42))) rfl ?_
            exact hret (nI (shN (ar 15) (ar 13) base fr to (ar 42))) y_102 _ _ _ _ _ _ d_BL_line_117 hI (⟨rfl, hp102⟩) (Nat.le_refl 0) (Nat.le_refl 0)
          · have c74 : ¬ to ≤ E kp := fun h => c74 ((nI_leI (a := to) (b := E kp) (by omega) (by omega)).mpr h)
            exfalso; omega
      · have c37 : ¬ fr < to := fun h => c37 ((nI_ltI (a := fr) (b := to) (by omega) (by omega)).mpr h)
        exfalso; omega
    · have c22 : ¬ to ≤ cn := fun h => c22 ((nI_leI (a := to) (b := cn) (by omega) (by omega)).mpr h)
      exfalso; omega
abbrev rm_BL_asSeen : Room := { frames := 2, cells := 0, slots := 0, locals := 44 }
set_option maxHeartbeats 4000000 in
set_option maxRecDepth 100000 in
theorem c_BL_asSeen (l : Launch) (g : Geo) (ad : Nat → Nat) (ar : Nat → Nat → Int32) (fl : Nat → Int32) (q : Nat) (mn v : Nat) (hmn : fl 5 = nI mn) (hmN : mn ≤ 40) (hd1 : dst mn (ar 22)) (hd2 : dst mn (ar 23)) (hq : q < 2000) (hv1 : ar 42 q = nI v) (hv2 : v ≤ 127) : cMi l y_BL_asSeen (.code y_BL_asSeen b_BL_asSeen 4 (some .int) :: gw) rm_BL_asSeen g [.ref (ad 0), .int (nI q)] (cw g ad ar fl) (fun (r : Int32) (_ : Unit) => r = (if v % 2 = 1 ∧ ptn mn (ar 22) (ar 23) (ar 12 q) ≠ -1 then ptn mn (ar 22) (ar 23) (ar 12 q) else ar 12 q)) (fun (_ : Unit) => cw g ad ar fl) 0 0 := by
  refine cMi_of (by decide) (Nat.le_of_ble_eq_true rfl) ?_
  intro p e s m below meth c A Q ls M hret hl hI
  have M : MC p s m ([.ref (ad 0), .int (nI q)] : List Value).toArray meth c R_BL b_BL_asSeen 4 := M
  have hl : lv_has ls 4 [(0, .ref (ad 0)), (1, .int (nI q))] := hl
  generalize ([.ref (ad 0), .int (nI q)] : List Value).toArray = args at M hret ⊢
  have hx := M.1
  have hb := M.2.1
  refine lv_aload_n hx hb d_BL_asSeen_0 rfl (lv_at hl 0 rfl) ?_
  refine g_BL_12 M hI d_BL_asSeen_1 ?_
  refine g_BL_187 M hI d_BL_asSeen_4 ?_
  refine lv_iload_n hx hb d_BL_asSeen_7 rfl (lv_at hl 1 rfl) ?_
  refine al_12 M hI q rfl (by omega) d_BL_asSeen_8 ?_
  refine lv_istore_n (lv' := [(2, .int (ar 12 q)), (0, .ref (ad 0)), (1, .int (nI q))]) hx hb d_BL_asSeen_9 rfl hl (by decide) rfl (fun ls hl => ?_)
  refine lv_aload_n hx hb d_BL_asSeen_10 rfl (lv_at hl 1 rfl) ?_
  refine g_BL_23 M hI d_BL_asSeen_11 ?_
  refine lv_iload_n hx hb d_BL_asSeen_14 rfl (lv_at hl 0 rfl) ?_
  refine q_calliV [.int (ar 12 q)] M hI (c_PR_partnerOf_3 l g ad ar fl (ar 12 q) mn (hmn) (hmN) (hd1) (hd2)) ok_PR_partnerOf m4_157 m3_7 m3_8 3 rfl rfl rfl rfl hl.1 ⟨rfl, rfl⟩ ⟨Nat.le_of_ble_eq_true rfl, Nat.le_of_ble_eq_true rfl⟩ (Nat.le_of_ble_eq_true rfl) ⟨Nat.le_of_ble_eq_true rfl, Nat.le_of_ble_eq_true rfl⟩ d_BL_asSeen_15 (fun r15 u15 H locs hp15 hI => ?_)
  refine q_as (y := ptn mn (ar 22) (ar 23) (ar 12 q)) hp15 ?_
  refine lv_istore_n (lv' := [(3, .int (ptn mn (ar 22) (ar 23) (ar 12 q))), (2, .int (ar 12 q)), (0, .ref (ad 0)), (1, .int (nI q))]) hx hb d_BL_asSeen_18 rfl hl (by decide) rfl (fun ls hl => ?_)
  refine lv_aload_n hx hb d_BL_asSeen_19 rfl (lv_at hl 2 rfl) ?_
  refine g_BL_40 M hI d_BL_asSeen_20 ?_
  refine g_BL_160 M hI d_BL_asSeen_23 ?_
  refine lv_iload_n hx hb d_BL_asSeen_26 rfl (lv_at hl 3 rfl) ?_
  refine al_42 M hI q rfl (by omega) d_BL_asSeen_27 ?_
  refine q_as (y := nI v) (hv1) ?_
  refine q_calliS [.int (nI v)] M hI (c_BL_isOdd l g (cw g ad ar fl) v (by omega)) ok_BL_isOdd m4_158 m4_34 rfl rfl hl.1 ⟨rfl, rfl⟩ ⟨Nat.le_of_ble_eq_true rfl, Nat.le_of_ble_eq_true rfl⟩ (Nat.le_of_ble_eq_true rfl) ⟨Nat.le_of_ble_eq_true rfl, Nat.le_of_ble_eq_true rfl⟩ d_BL_asSeen_28 (fun r28 u28 H locs hp28 hI => ?_)
  refine q_as (y := bI (v % 2 = 1)) hp28 ?_
  refine lv_if_eq (tgt := 43) hx hb d_BL_asSeen_31 (by decide) (fun c31 => ?_) (fun c31 => ?_)
  · have c31 := bI_eq0.mp c31
    refine lv_iload_n hx hb d_BL_asSeen_43 rfl (lv_at hl 1 rfl) ?_
    exact hret (ar 12 q) () _ _ _ _ _ _ d_BL_asSeen_44 hI (by symm; first | exact if_pos ⟨c31, c36⟩ | (apply if_neg; intro z; exact c31 z.1) | (apply if_neg; intro z; exact z.2 c36)) (Nat.le_refl 0) (Nat.le_refl 0)
  · have c31 := bI_ne0.mp c31
    refine lv_iload_n hx hb d_BL_asSeen_34 rfl (lv_at hl 0 rfl) ?_
    refine lv_iconst (v := (-1)) hx hb d_BL_asSeen_35 (by decide) ?_
    refine lv_icmp_eq (tgt := 43) hx hb d_BL_asSeen_36 (by decide) (fun c36 => ?_) (fun c36 => ?_)
    · refine lv_iload_n hx hb d_BL_asSeen_43 rfl (lv_at hl 1 rfl) ?_
      exact hret (ar 12 q) () _ _ _ _ _ _ d_BL_asSeen_44 hI (by symm; first | exact if_pos ⟨c31, c36⟩ | (apply if_neg; intro z; exact c31 z.1) | (apply if_neg; intro z; exact z.2 c36)) (Nat.le_refl 0) (Nat.le_refl 0)
    · refine lv_iload_n hx hb d_BL_asSeen_39 rfl (lv_at hl 0 rfl) ?_
      refine lv_goto (tgt := 44) hx hb d_BL_asSeen_40 (by decide) ?_
      exact hret (ptn mn (ar 22) (ar 23) (ar 12 q)) () _ _ _ _ _ _ d_BL_asSeen_44 hI (by symm; first | exact if_pos ⟨c31, c36⟩ | (apply if_neg; intro z; exact c31 z.1) | (apply if_neg; intro z; exact z.2 c36)) (Nat.le_refl 0) (Nat.le_refl 0)
abbrev rm_BL_seen_c_BL_seen_0 : Room := { frames := 3, cells := 0, slots := 0, locals := 67 }
set_option maxHeartbeats 4000000 in
set_option maxRecDepth 100000 in
theorem c_BL_seen_0 (l : Launch) (g : Geo) (ad : Nat → Nat) (ar : Nat → Nat → Int32) (fl : Nat → Int32) (k : Nat) (y : Nat) (mm mn : Nat) (O LV : Nat → Nat) (h1 : fl 1 = 1) (h18 : fl 18 = nI mm) (hM : mm ≤ 2000) (hO : oR (ar 41) O mm) (hk : k < mm) (hy : y < 3) (hOb : O k < 2000) (hL : ar 42 (O k) = nI (LV (O k))) (hL2 : LV (O k) ≤ 127) (hmn : fl 5 = nI mn) (hmN : mn ≤ 40) (hd1 : dst mn (ar 22)) (hd2 : dst mn (ar 23)) : cMi l y_BL_seen (.code y_BL_seen b_BL_seen 4 (some .int) :: gw) rm_BL_seen_c_BL_seen_0 g [.ref (ad 0), .int (nI k), .int (nI y)] (cw g ad ar fl) (fun (r : Int32) (_ : Unit) => r = (if y = 0 then nI (O k) else if y = 1 then nI (LV (O k)) else if LV (O k) % 2 = 1 ∧ ptn mn (ar 22) (ar 23) (ar 12 (O k)) ≠ -1 then ptn mn (ar 22) (ar 23) (ar 12 (O k)) else ar 12 (O k))) (fun (_ : Unit) => cw g ad ar fl) 0 0 := by
  refine cMi_of (by decide) (Nat.le_of_ble_eq_true rfl) ?_
  intro p e s m below meth c A Q ls M hret hl hI
  have M : MC p s m ([.ref (ad 0), .int (nI k), .int (nI y)] : List Value).toArray meth c R_BL b_BL_seen 4 := M
  have hl : lv_has ls 4 [(0, .ref (ad 0)), (1, .int (nI k)), (2, .int (nI y))] := hl
  generalize ([.ref (ad 0), .int (nI k), .int (nI y)] : List Value).toArray = args at M hret ⊢
  have hx := M.1
  have hb := M.2.1
  refine lv_aload_n hx hb d_BL_seen_0 rfl (lv_at hl 0 rfl) ?_
  refine q_callvV [] M hI (c_BL_needLine_p l g ad ar fl (by first | exact h1 | assumption | omega | rfl)).toM ok_BL_needLine m4_147 m4_149 ms_43 0 rfl rfl rfl rfl hl.1 ⟨rfl, rfl⟩ ⟨Nat.le_of_ble_eq_true rfl, Nat.le_of_ble_eq_true rfl⟩ (Nat.le_of_ble_eq_true rfl) ⟨Nat.le_of_ble_eq_true rfl, Nat.le_of_ble_eq_true rfl⟩ d_BL_seen_1 (fun u1 H locs hp1 hI => ?_)
  refine lv_iload_n hx hb d_BL_seen_4 rfl (lv_at hl 1 rfl) ?_
  refine lv_if_lt (tgt := 19) hx hb d_BL_seen_5 (by decide) (fun c5 => ?_) (fun c5 => ?_)
  · have c5 : k < 0 := (nI_ltI (a := k) (b := 0) (by omega) (by omega)).mp c5
    exfalso; omega
  · have c5 : ¬ k < 0 := fun h => c5 ((nI_ltI (a := k) (b := 0) (by omega) (by omega)).mpr h)
    refine lv_iload_n hx hb d_BL_seen_8 rfl (lv_at hl 1 rfl) ?_
    refine lv_aload_n hx hb d_BL_seen_9 rfl (lv_at hl 0 rfl) ?_
    refine g_BL_40 M hI d_BL_seen_10 ?_
    refine g_BL_151 M hI d_BL_seen_13 ?_
    refine q_as (y := nI mm) h18 ?_
    refine lv_icmp_lt (tgt := 29) hx hb d_BL_seen_16 (by decide) (fun c16 => ?_) (fun c16 => ?_)
    · have c16 : k < mm := (nI_ltI (a := k) (b := mm) (by omega) (by omega)).mp c16
      refine lv_aload_n hx hb d_BL_seen_29 rfl (lv_at hl 0 rfl) ?_
      refine g_BL_40 M hI d_BL_seen_30 ?_
      refine g_BL_157 M hI d_BL_seen_33 ?_
      refine lv_iload_n hx hb d_BL_seen_36 rfl (lv_at hl 1 rfl) ?_
      refine al_41 M hI k rfl (by omega) d_BL_seen_37 ?_
      refine q_as (y := nI (O k)) (hO k hk) ?_
      refine lv_istore_n (lv' := [(3, .int (nI (O k))), (0, .ref (ad 0)), (1, .int (nI k)), (2, .int (nI y))]) hx hb d_BL_seen_38 rfl hl (by decide) rfl (fun ls hl => ?_)
      refine lv_iload_n hx hb d_BL_seen_39 rfl (lv_at hl 3 rfl) ?_
      rcases (show y = 0 ∨ y = 1 ∨ y = 2 by omega) with h7 | h7 | h7
      · refine q_as (y := 0) (by rw [h7]; rfl) ?_
        refine lv_tableIn (off := 28) (tgt := 68) hx hb d_BL_seen_40 (by decide) (by decide) (by decide) (by decide) ?_
        refine lv_iload_n hx hb d_BL_seen_68 rfl (lv_at hl 0 rfl) ?_
        exact hret (nI (O k)) () _ _ _ _ _ _ d_BL_seen_69 hI (by rw [h7]; rfl) (Nat.le_refl 0) (Nat.le_refl 0)
      · refine q_as (y := 1) (by rw [h7]; rfl) ?_
        refine lv_tableIn (off := 30) (tgt := 70) hx hb d_BL_seen_40 (by decide) (by decide) (by decide) (by decide) ?_
        refine lv_aload_n hx hb d_BL_seen_70 rfl (lv_at hl 1 rfl) ?_
        refine g_BL_40 M hI d_BL_seen_71 ?_
        refine g_BL_160 M hI d_BL_seen_74 ?_
        refine lv_iload_n hx hb d_BL_seen_77 rfl (lv_at hl 0 rfl) ?_
        refine al_42 M hI (O k) rfl (hOb) d_BL_seen_78 ?_
        refine q_as (y := nI (LV (O k))) (hL) ?_
        exact hret (nI (LV (O k))) () _ _ _ _ _ _ d_BL_seen_79 hI (by rw [h7]; rfl) (Nat.le_refl 0) (Nat.le_refl 0)
      · refine q_as (y := 2) (by rw [h7]; rfl) ?_
        refine lv_tableIn (off := 40) (tgt := 80) hx hb d_BL_seen_40 (by decide) (by decide) (by decide) (by decide) ?_
        refine lv_aload_n hx hb d_BL_seen_80 rfl (lv_at hl 1 rfl) ?_
        refine lv_iload_n hx hb d_BL_seen_81 rfl (lv_at hl 0 rfl) ?_
        refine q_calliV [.int (nI (O k))] M hI (c_BL_asSeen l g ad ar fl (O k) mn (LV (O k)) (hmn) (hmN) (hd1) (hd2) (hOb) (hL) (hL2)) ok_BL_asSeen m4_153 m4_155 ms_44 0 rfl rfl rfl rfl hl.1 ⟨rfl, rfl⟩ ⟨Nat.le_of_ble_eq_true rfl, Nat.le_of_ble_eq_true rfl⟩ (Nat.le_of_ble_eq_true rfl) ⟨Nat.le_of_ble_eq_true rfl, Nat.le_of_ble_eq_true rfl⟩ d_BL_seen_82 (fun r82 u82 H locs hp82 hI => ?_)
        refine q_as (y := (if (LV (O k)) % 2 = 1 ∧ ptn mn (ar 22) (ar 23) (ar 12 (O k)) ≠ -1 then ptn mn (ar 22) (ar 23) (ar 12 (O k)) else ar 12 (O k))) hp82 ?_
        exact hret (if (LV (O k)) % 2 = 1 ∧ ptn mn (ar 22) (ar 23) (ar 12 (O k)) ≠ -1 then ptn mn (ar 22) (ar 23) (ar 12 (O k)) else ar 12 (O k)) () _ _ _ _ _ _ d_BL_seen_85 hI (by rw [h7]; rfl) (Nat.le_refl 0) (Nat.le_refl 0)
    · have c16 : ¬ k < mm := fun h => c16 ((nI_ltI (a := k) (b := mm) (by omega) (by omega)).mpr h)
      exfalso; omega
abbrev rm_BL_place_c_BL_place_0 : Room := { frames := 1, cells := 0, slots := 0, locals := 21 }
set_option maxHeartbeats 4000000 in
set_option maxRecDepth 100000 in
theorem c_BL_place_0 (l : Launch) (g : Geo) (ad : Nat → Nat) (ar : Nat → Nat → Int32) (fl : Nat → Int32) (q : Nat) (cn : Nat) (h1 : fl 1 = 1) (h2 : fl 2 = nI cn) (hcN : cn ≤ 2000) (hq : q < cn) : cMi l y_BL_place (.code y_BL_place b_BL_place 2 (some .int) :: gw) rm_BL_place_c_BL_place_0 g [.ref (ad 0), .int (nI q)] (cw g ad ar fl) (fun (r : Int32) (_ : Unit) => r = ar 43 q) (fun (_ : Unit) => cw g ad ar fl) 0 0 := by
  refine cMi_of (by decide) (Nat.le_of_ble_eq_true rfl) ?_
  intro p e s m below meth c A Q ls M hret hl hI
  have M : MC p s m ([.ref (ad 0), .int (nI q)] : List Value).toArray meth c R_BL b_BL_place 2 := M
  have hl : lv_has ls 2 [(0, .ref (ad 0)), (1, .int (nI q))] := hl
  generalize ([.ref (ad 0), .int (nI q)] : List Value).toArray = args at M hret ⊢
  have hx := M.1
  have hb := M.2.1
  refine lv_aload_n hx hb d_BL_place_0 rfl (lv_at hl 0 rfl) ?_
  refine q_callvV [] M hI (c_BL_needLine_p l g ad ar fl (by first | exact h1 | assumption | omega | rfl)).toM ok_BL_needLine m4_147 m4_149 ms_43 0 rfl rfl rfl rfl hl.1 ⟨rfl, rfl⟩ ⟨Nat.le_of_ble_eq_true rfl, Nat.le_of_ble_eq_true rfl⟩ (Nat.le_of_ble_eq_true rfl) ⟨Nat.le_of_ble_eq_true rfl, Nat.le_of_ble_eq_true rfl⟩ d_BL_place_1 (fun u1 H locs hp1 hI => ?_)
  refine lv_aload_n hx hb d_BL_place_4 rfl (lv_at hl 0 rfl) ?_
  refine lv_iload_n hx hb d_BL_place_5 rfl (lv_at hl 1 rfl) ?_
  refine q_callvV [.int (nI q)] M hI (c_BL_needPosition_p l g ad ar fl q cn (by first | exact h2 | assumption | omega | rfl) (by first | exact hcN | assumption | omega | rfl) (hq)).toM ok_BL_needPosition m4_73 m4_75 ms_36 0 rfl rfl rfl rfl hl.1 ⟨rfl, rfl⟩ ⟨Nat.le_of_ble_eq_true rfl, Nat.le_of_ble_eq_true rfl⟩ (Nat.le_of_ble_eq_true rfl) ⟨Nat.le_of_ble_eq_true rfl, Nat.le_of_ble_eq_true rfl⟩ d_BL_place_6 (fun u6 H locs hp6 hI => ?_)
  refine lv_aload_n hx hb d_BL_place_9 rfl (lv_at hl 0 rfl) ?_
  refine g_BL_40 M hI d_BL_place_10 ?_
  refine g_BL_164 M hI d_BL_place_13 ?_
  refine lv_iload_n hx hb d_BL_place_16 rfl (lv_at hl 1 rfl) ?_
  refine al_43 M hI q rfl (by omega) d_BL_place_17 ?_
  exact hret (ar 43 q) () _ _ _ _ _ _ d_BL_place_18 hI (rfl) (Nat.le_refl 0) (Nat.le_refl 0)
