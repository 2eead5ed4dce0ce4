/-! 78: the model: calls that tell, and calls that ask -/
abbrev prOK (x y z : Int32) : Prop := isch x ∧ isch y ∧ ¬ y < x ∧ ¬ z < 0 ∧ ¬ 22 < z
abbrev rm_MD_property_c_MD_property_1 : Room := { frames := 1, cells := 0, slots := 0, locals := 21 }
set_option maxHeartbeats 4000000 in
set_option maxRecDepth 100000 in
theorem c_MD_property_1 (l : Launch) (g : Geo) (ad : Nat → Nat) (ar : Nat → Nat → Int32) (fl : Nat → Int32) (x : Int32) (y : Int32) (z : Int32) (rn : Nat) (hcnt : fl 2 = nI rn) (hcN : rn ≤ 100) (hS : ¬ prOK x y z) : cMv l y_MD_property (.code y_MD_property b_MD_property 5 none :: gw) rm_MD_property_c_MD_property_1 g [.ref (ad 0), .int x, .int y, .int z] (mw g ad ar fl) (fun (_ : Unit) => True) (fun (_ : Unit) => mw g ad ar (va_up fl 0 1)) 0 0 := by
  refine cMv_of (by decide) (Nat.le_of_ble_eq_true rfl) ?_
  intro p e s m below meth c A Q ls M hnm hret hl hI
  have M : MC p s m ([.ref (ad 0), .int x, .int y, .int z] : List Value).toArray meth c R_MD b_MD_property 5 := M
  have hl : lv_has ls 5 [(0, .ref (ad 0)), (1, .int x), (2, .int y), (3, .int z)] := hl
  generalize ([.ref (ad 0), .int x, .int y, .int z] : List Value).toArray = args at M hret ⊢
  have hx := M.1
  have hb := M.2.1
  refine lv_iload_n hx hb d_MD_property_0 rfl (lv_at hl 1 rfl) ?_
  refine q_calliS [.int x] M hI (c_MD_isCharacter l g (mw g ad ar fl) x) ok_MD_isCharacter m5_52 m5_53 rfl rfl hl.1 ⟨rfl, rfl⟩ ⟨Nat.le_of_ble_eq_true rfl, Nat.le_of_ble_eq_true rfl⟩ (Nat.le_of_ble_eq_true rfl) ⟨Nat.le_of_ble_eq_true rfl, Nat.le_of_ble_eq_true rfl⟩ d_MD_property_1 (fun r1 u1 H locs hp1 hI => ?_)
  refine q_as (y := bI (isch x)) hp1 ?_
  refine lv_if_eq (tgt := 33) hx hb d_MD_property_4 (by decide) (fun c4 => ?_) (fun c4 => ?_)
  · have c4 := bI_eq0.mp c4
    refine lv_iconst (v := 0) hx hb d_MD_property_33 (by decide) ?_
    refine lv_istore (lv' := [(4, .int 0), (0, .ref (ad 0)), (1, .int x), (2, .int y), (3, .int z)]) hx hb d_MD_property_34 hl (by decide) rfl (fun ls hl => ?_)
    refine lv_aload_n hx hb d_MD_property_36 rfl (lv_at hl 1 rfl) ?_
    refine lv_iload hx hb d_MD_property_37 (lv_at hl 0 rfl) ?_
    refine lv_if_ne (tgt := 46) hx hb d_MD_property_39 (by decide) (fun c39 => ?_) (fun c39 => ?_)
    · have c39 : ¬ 0 = 0 := fun h => c39 ((nI_eq (a := 0) (b := 0) (by omega) (by omega)).mpr h)
      exfalso; omega
    · have c39 : 0 = 0 := (nI_eq (a := 0) (b := 0) (by omega) (by omega)).mp c39
      refine lv_iconst (v := 1) hx hb d_MD_property_42 (by decide) ?_
      refine lv_goto (tgt := 60) hx hb d_MD_property_43 (by decide) ?_
      refine q_calliV [.int 1] M hI (c_MD_refused l g ad ar fl 1) ok_MD_refused m5_56 m5_58 ms_45 0 rfl rfl rfl rfl hl.1 ⟨rfl, rfl⟩ ⟨Nat.le_of_ble_eq_true rfl, Nat.le_of_ble_eq_true rfl⟩ (Nat.le_of_ble_eq_true rfl) ⟨Nat.le_of_ble_eq_true rfl, Nat.le_of_ble_eq_true rfl⟩ d_MD_property_60 (fun r60 u60 H locs hp60 hI => ?_)
      have hI : CI g A s (mw g ad ar (va_up fl 0 1)) H locs := hI
      refine q_as (y := bI (¬ 1 ≤ 0)) hp60 ?_
      refine lv_if_ne (tgt := 111) hx hb d_MD_property_63 (by decide) (fun c63 => ?_) (fun c63 => ?_)
      · have c63 := bI_ne0.mp c63
        exact hret () _ _ _ _ _ _ d_MD_property_111 hI (trivial) (Nat.le_refl 0) (Nat.le_refl 0)
      · have c63 := bI_eq0.mp c63
        exact absurd (by decide) c63
  · have c4 := bI_ne0.mp c4
    refine lv_iload_n hx hb d_MD_property_7 rfl (lv_at hl 2 rfl) ?_
    refine q_calliS [.int y] M hI (c_MD_isCharacter l g (mw g ad ar fl) y) ok_MD_isCharacter m5_52 m5_53 rfl rfl hl.1 ⟨rfl, rfl⟩ ⟨Nat.le_of_ble_eq_true rfl, Nat.le_of_ble_eq_true rfl⟩ (Nat.le_of_ble_eq_true rfl) ⟨Nat.le_of_ble_eq_true rfl, Nat.le_of_ble_eq_true rfl⟩ d_MD_property_8 (fun r8 u8 H locs hp8 hI => ?_)
    refine q_as (y := bI (isch y)) hp8 ?_
    refine lv_if_eq (tgt := 33) hx hb d_MD_property_11 (by decide) (fun c11 => ?_) (fun c11 => ?_)
    · have c11 := bI_eq0.mp c11
      refine lv_iconst (v := 0) hx hb d_MD_property_33 (by decide) ?_
      refine lv_istore (lv' := [(4, .int 0), (0, .ref (ad 0)), (1, .int x), (2, .int y), (3, .int z)]) hx hb d_MD_property_34 hl (by decide) rfl (fun ls hl => ?_)
      refine lv_aload_n hx hb d_MD_property_36 rfl (lv_at hl 1 rfl) ?_
      refine lv_iload hx hb d_MD_property_37 (lv_at hl 0 rfl) ?_
      refine lv_if_ne (tgt := 46) hx hb d_MD_property_39 (by decide) (fun c39 => ?_) (fun c39 => ?_)
      · have c39 : ¬ 0 = 0 := fun h => c39 ((nI_eq (a := 0) (b := 0) (by omega) (by omega)).mpr h)
        exfalso; omega
      · have c39 : 0 = 0 := (nI_eq (a := 0) (b := 0) (by omega) (by omega)).mp c39
        refine lv_iconst (v := 1) hx hb d_MD_property_42 (by decide) ?_
        refine lv_goto (tgt := 60) hx hb d_MD_property_43 (by decide) ?_
        refine q_calliV [.int 1] M hI (c_MD_refused l g ad ar fl 1) ok_MD_refused m5_56 m5_58 ms_45 0 rfl rfl rfl rfl hl.1 ⟨rfl, rfl⟩ ⟨Nat.le_of_ble_eq_true rfl, Nat.le_of_ble_eq_true rfl⟩ (Nat.le_of_ble_eq_true rfl) ⟨Nat.le_of_ble_eq_true rfl, Nat.le_of_ble_eq_true rfl⟩ d_MD_property_60 (fun r60 u60 H locs hp60 hI => ?_)
        have hI : CI g A s (mw g ad ar (va_up fl 0 1)) H locs := hI
        refine q_as (y := bI (¬ 1 ≤ 0)) hp60 ?_
        refine lv_if_ne (tgt := 111) hx hb d_MD_property_63 (by decide) (fun c63 => ?_) (fun c63 => ?_)
        · have c63 := bI_ne0.mp c63
          exact hret () _ _ _ _ _ _ d_MD_property_111 hI (trivial) (Nat.le_refl 0) (Nat.le_refl 0)
        · have c63 := bI_eq0.mp c63
          exact absurd (by decide) c63
    · have c11 := bI_ne0.mp c11
      refine lv_iload_n hx hb d_MD_property_14 rfl (lv_at hl 1 rfl) ?_
      refine lv_iload_n hx hb d_MD_property_15 rfl (lv_at hl 2 rfl) ?_
      refine lv_icmp_gt (tgt := 33) hx hb d_MD_property_16 (by decide) (fun c16 => ?_) (fun c16 => ?_)
      · refine lv_iconst (v := 0) hx hb d_MD_property_33 (by decide) ?_
        refine lv_istore (lv' := [(4, .int 0), (0, .ref (ad 0)), (1, .int x), (2, .int y), (3, .int z)]) hx hb d_MD_property_34 hl (by decide) rfl (fun ls hl => ?_)
        refine lv_aload_n hx hb d_MD_property_36 rfl (lv_at hl 1 rfl) ?_
        refine lv_iload hx hb d_MD_property_37 (lv_at hl 0 rfl) ?_
        refine lv_if_ne (tgt := 46) hx hb d_MD_property_39 (by decide) (fun c39 => ?_) (fun c39 => ?_)
        · have c39 : ¬ 0 = 0 := fun h => c39 ((nI_eq (a := 0) (b := 0) (by omega) (by omega)).mpr h)
          exfalso; omega
        · have c39 : 0 = 0 := (nI_eq (a := 0) (b := 0) (by omega) (by omega)).mp c39
          refine lv_iconst (v := 1) hx hb d_MD_property_42 (by decide) ?_
          refine lv_goto (tgt := 60) hx hb d_MD_property_43 (by decide) ?_
          refine q_calliV [.int 1] M hI (c_MD_refused l g ad ar fl 1) ok_MD_refused m5_56 m5_58 ms_45 0 rfl rfl rfl rfl hl.1 ⟨rfl, rfl⟩ ⟨Nat.le_of_ble_eq_true rfl, Nat.le_of_ble_eq_true rfl⟩ (Nat.le_of_ble_eq_true rfl) ⟨Nat.le_of_ble_eq_true rfl, Nat.le_of_ble_eq_true rfl⟩ d_MD_property_60 (fun r60 u60 H locs hp60 hI => ?_)
          have hI : CI g A s (mw g ad ar (va_up fl 0 1)) H locs := hI
          refine q_as (y := bI (¬ 1 ≤ 0)) hp60 ?_
          refine lv_if_ne (tgt := 111) hx hb d_MD_property_63 (by decide) (fun c63 => ?_) (fun c63 => ?_)
          · have c63 := bI_ne0.mp c63
            exact hret () _ _ _ _ _ _ d_MD_property_111 hI (trivial) (Nat.le_refl 0) (Nat.le_refl 0)
          · have c63 := bI_eq0.mp c63
            exact absurd (by decide) c63
      · refine lv_iload_n hx hb d_MD_property_19 rfl (lv_at hl 3 rfl) ?_
        refine lv_if_lt (tgt := 33) hx hb d_MD_property_20 (by decide) (fun c20 => ?_) (fun c20 => ?_)
        · refine lv_iconst (v := 0) hx hb d_MD_property_33 (by decide) ?_
          refine lv_istore (lv' := [(4, .int 0), (0, .ref (ad 0)), (1, .int x), (2, .int y), (3, .int z)]) hx hb d_MD_property_34 hl (by decide) rfl (fun ls hl => ?_)
          refine lv_aload_n hx hb d_MD_property_36 rfl (lv_at hl 1 rfl) ?_
          refine lv_iload hx hb d_MD_property_37 (lv_at hl 0 rfl) ?_
          refine lv_if_ne (tgt := 46) hx hb d_MD_property_39 (by decide) (fun c39 => ?_) (fun c39 => ?_)
          · have c39 : ¬ 0 = 0 := fun h => c39 ((nI_eq (a := 0) (b := 0) (by omega) (by omega)).mpr h)
            exfalso; omega
          · have c39 : 0 = 0 := (nI_eq (a := 0) (b := 0) (by omega) (by omega)).mp c39
            refine lv_iconst (v := 1) hx hb d_MD_property_42 (by decide) ?_
            refine lv_goto (tgt := 60) hx hb d_MD_property_43 (by decide) ?_
            refine q_calliV [.int 1] M hI (c_MD_refused l g ad ar fl 1) ok_MD_refused m5_56 m5_58 ms_45 0 rfl rfl rfl rfl hl.1 ⟨rfl, rfl⟩ ⟨Nat.le_of_ble_eq_true rfl, Nat.le_of_ble_eq_true rfl⟩ (Nat.le_of_ble_eq_true rfl) ⟨Nat.le_of_ble_eq_true rfl, Nat.le_of_ble_eq_true rfl⟩ d_MD_property_60 (fun r60 u60 H locs hp60 hI => ?_)
            have hI : CI g A s (mw g ad ar (va_up fl 0 1)) H locs := hI
            refine q_as (y := bI (¬ 1 ≤ 0)) hp60 ?_
            refine lv_if_ne (tgt := 111) hx hb d_MD_property_63 (by decide) (fun c63 => ?_) (fun c63 => ?_)
            · have c63 := bI_ne0.mp c63
              exact hret () _ _ _ _ _ _ d_MD_property_111 hI (trivial) (Nat.le_refl 0) (Nat.le_refl 0)
            · have c63 := bI_eq0.mp c63
              exact absurd (by decide) c63
        · refine lv_iload_n hx hb d_MD_property_23 rfl (lv_at hl 3 rfl) ?_
          refine lv_bipush (v := 22) hx hb d_MD_property_24 (by decide) ?_
          refine lv_icmp_gt (tgt := 33) hx hb d_MD_property_26 (by decide) (fun c26 => ?_) (fun c26 => ?_)
          · refine lv_iconst (v := 0) hx hb d_MD_property_33 (by decide) ?_
            refine lv_istore (lv' := [(4, .int 0), (0, .ref (ad 0)), (1, .int x), (2, .int y), (3, .int z)]) hx hb d_MD_property_34 hl (by decide) rfl (fun ls hl => ?_)
            refine lv_aload_n hx hb d_MD_property_36 rfl (lv_at hl 1 rfl) ?_
            refine lv_iload hx hb d_MD_property_37 (lv_at hl 0 rfl) ?_
            refine lv_if_ne (tgt := 46) hx hb d_MD_property_39 (by decide) (fun c39 => ?_) (fun c39 => ?_)
            · have c39 : ¬ 0 = 0 := fun h => c39 ((nI_eq (a := 0) (b := 0) (by omega) (by omega)).mpr h)
              exfalso; omega
            · have c39 : 0 = 0 := (nI_eq (a := 0) (b := 0) (by omega) (by omega)).mp c39
              refine lv_iconst (v := 1) hx hb d_MD_property_42 (by decide) ?_
              refine lv_goto (tgt := 60) hx hb d_MD_property_43 (by decide) ?_
              refine q_calliV [.int 1] M hI (c_MD_refused l g ad ar fl 1) ok_MD_refused m5_56 m5_58 ms_45 0 rfl rfl rfl rfl hl.1 ⟨rfl, rfl⟩ ⟨Nat.le_of_ble_eq_true rfl, Nat.le_of_ble_eq_true rfl⟩ (Nat.le_of_ble_eq_true rfl) ⟨Nat.le_of_ble_eq_true rfl, Nat.le_of_ble_eq_true rfl⟩ d_MD_property_60 (fun r60 u60 H locs hp60 hI => ?_)
              have hI : CI g A s (mw g ad ar (va_up fl 0 1)) H locs := hI
              refine q_as (y := bI (¬ 1 ≤ 0)) hp60 ?_
              refine lv_if_ne (tgt := 111) hx hb d_MD_property_63 (by decide) (fun c63 => ?_) (fun c63 => ?_)
              · have c63 := bI_ne0.mp c63
                exact hret () _ _ _ _ _ _ d_MD_property_111 hI (trivial) (Nat.le_refl 0) (Nat.le_refl 0)
              · have c63 := bI_eq0.mp c63
                exact absurd (by decide) c63
          · exact absurd ⟨c4, c11, c16, c20, c26⟩ hS
abbrev rm_MD_property_c_MD_property_2 : Room := { frames := 1, cells := 0, slots := 0, locals := 21 }
set_option maxHeartbeats 4000000 in
set_option maxRecDepth 100000 in
theorem c_MD_property_2 (l : Launch) (g : Geo) (ad : Nat → Nat) (ar : Nat → Nat → Int32) (fl : Nat → Int32) (x : Int32) (y : Int32) (z : Int32) (rn : Nat) (hcnt : fl 2 = nI rn) (hcN : rn ≤ 100) (hS : prOK x y z) (hfu : rn = 100) : cMv l y_MD_property (.code y_MD_property b_MD_property 5 none :: gw) rm_MD_property_c_MD_property_2 g [.ref (ad 0), .int x, .int y, .int z] (mw g ad ar fl) (fun (_ : Unit) => True) (fun (_ : Unit) => mw g ad ar (va_up fl 0 2)) 0 0 := by
  refine cMv_of (by decide) (Nat.le_of_ble_eq_true rfl) ?_
  intro p e s m below meth c A Q ls M hnm hret hl hI
  have M : MC p s m ([.ref (ad 0), .int x, .int y, .int z] : List Value).toArray meth c R_MD b_MD_property 5 := M
  have hl : lv_has ls 5 [(0, .ref (ad 0)), (1, .int x), (2, .int y), (3, .int z)] := hl
  generalize ([.ref (ad 0), .int x, .int y, .int z] : List Value).toArray = args at M hret ⊢
  have hx := M.1
  have hb := M.2.1
  refine lv_iload_n hx hb d_MD_property_0 rfl (lv_at hl 1 rfl) ?_
  refine q_calliS [.int x] M hI (c_MD_isCharacter l g (mw g ad ar fl) x) ok_MD_isCharacter m5_52 m5_53 rfl rfl hl.1 ⟨rfl, rfl⟩ ⟨Nat.le_of_ble_eq_true rfl, Nat.le_of_ble_eq_true rfl⟩ (Nat.le_of_ble_eq_true rfl) ⟨Nat.le_of_ble_eq_true rfl, Nat.le_of_ble_eq_true rfl⟩ d_MD_property_1 (fun r1 u1 H locs hp1 hI => ?_)
  refine q_as (y := bI (isch x)) hp1 ?_
  refine lv_if_eq (tgt := 33) hx hb d_MD_property_4 (by decide) (fun c4 => ?_) (fun c4 => ?_)
  · have c4 := bI_eq0.mp c4
    exact absurd hS.1 c4
  · have c4 := bI_ne0.mp c4
    refine lv_iload_n hx hb d_MD_property_7 rfl (lv_at hl 2 rfl) ?_
    refine q_calliS [.int y] M hI (c_MD_isCharacter l g (mw g ad ar fl) y) ok_MD_isCharacter m5_52 m5_53 rfl rfl hl.1 ⟨rfl, rfl⟩ ⟨Nat.le_of_ble_eq_true rfl, Nat.le_of_ble_eq_true rfl⟩ (Nat.le_of_ble_eq_true rfl) ⟨Nat.le_of_ble_eq_true rfl, Nat.le_of_ble_eq_true rfl⟩ d_MD_property_8 (fun r8 u8 H locs hp8 hI => ?_)
    refine q_as (y := bI (isch y)) hp8 ?_
    refine lv_if_eq (tgt := 33) hx hb d_MD_property_11 (by decide) (fun c11 => ?_) (fun c11 => ?_)
    · have c11 := bI_eq0.mp c11
      exact absurd hS.2.1 c11
    · have c11 := bI_ne0.mp c11
      refine lv_iload_n hx hb d_MD_property_14 rfl (lv_at hl 1 rfl) ?_
      refine lv_iload_n hx hb d_MD_property_15 rfl (lv_at hl 2 rfl) ?_
      refine lv_icmp_gt (tgt := 33) hx hb d_MD_property_16 (by decide) (fun c16 => ?_) (fun c16 => ?_)
      · exact absurd c16 hS.2.2.1
      · refine lv_iload_n hx hb d_MD_property_19 rfl (lv_at hl 3 rfl) ?_
        refine lv_if_lt (tgt := 33) hx hb d_MD_property_20 (by decide) (fun c20 => ?_) (fun c20 => ?_)
        · exact absurd c20 hS.2.2.2.1
        · refine lv_iload_n hx hb d_MD_property_23 rfl (lv_at hl 3 rfl) ?_
          refine lv_bipush (v := 22) hx hb d_MD_property_24 (by decide) ?_
          refine lv_icmp_gt (tgt := 33) hx hb d_MD_property_26 (by decide) (fun c26 => ?_) (fun c26 => ?_)
          · exact absurd c26 hS.2.2.2.2
          · refine lv_iconst (v := 1) hx hb d_MD_property_29 (by decide) ?_
            refine lv_goto (tgt := 34) hx hb d_MD_property_30 (by decide) ?_
            refine lv_istore (lv' := [(4, .int 1), (0, .ref (ad 0)), (1, .int x), (2, .int y), (3, .int z)]) hx hb d_MD_property_34 hl (by decide) rfl (fun ls hl => ?_)
            refine lv_aload_n hx hb d_MD_property_36 rfl (lv_at hl 1 rfl) ?_
            refine lv_iload hx hb d_MD_property_37 (lv_at hl 0 rfl) ?_
            refine lv_if_ne (tgt := 46) hx hb d_MD_property_39 (by decide) (fun c39 => ?_) (fun c39 => ?_)
            · have c39 : ¬ 1 = 0 := fun h => c39 ((nI_eq (a := 1) (b := 0) (by omega) (by omega)).mpr h)
              refine lv_aload_n hx hb d_MD_property_46 rfl (lv_at hl 1 rfl) ?_
              refine g_MD_86 M hI d_MD_property_47 ?_
              refine q_as (y := nI rn) hcnt ?_
              refine lv_bipush (v := 100) hx hb d_MD_property_50 (by decide) ?_
              refine lv_icmp_ne (tgt := 59) hx hb d_MD_property_52 (by decide) (fun c52 => ?_) (fun c52 => ?_)
              · have c52 : ¬ rn = 100 := fun h => c52 ((nI_eq (a := rn) (b := 100) (by omega) (by omega)).mpr h)
                exfalso; omega
              · have c52 : rn = 100 := (nI_eq (a := rn) (b := 100) (by omega) (by omega)).mp c52
                refine lv_iconst (v := 2) hx hb d_MD_property_55 (by decide) ?_
                refine lv_goto (tgt := 60) hx hb d_MD_property_56 (by decide) ?_
                refine q_calliV [.int 2] M hI (c_MD_refused l g ad ar fl 2) ok_MD_refused m5_56 m5_58 ms_45 0 rfl rfl rfl rfl hl.1 ⟨rfl, rfl⟩ ⟨Nat.le_of_ble_eq_true rfl, Nat.le_of_ble_eq_true rfl⟩ (Nat.le_of_ble_eq_true rfl) ⟨Nat.le_of_ble_eq_true rfl, Nat.le_of_ble_eq_true rfl⟩ d_MD_property_60 (fun r60 u60 H locs hp60 hI => ?_)
                have hI : CI g A s (mw g ad ar (va_up fl 0 2)) H locs := hI
                refine q_as (y := bI (¬ 2 ≤ 0)) hp60 ?_
                refine lv_if_ne (tgt := 111) hx hb d_MD_property_63 (by decide) (fun c63 => ?_) (fun c63 => ?_)
                · have c63 := bI_ne0.mp c63
                  exact hret () _ _ _ _ _ _ d_MD_property_111 hI (trivial) (Nat.le_refl 0) (Nat.le_refl 0)
                · have c63 := bI_eq0.mp c63
                  exact absurd (by decide) c63
            · have c39 : 1 = 0 := (nI_eq (a := 1) (b := 0) (by omega) (by omega)).mp c39
              exfalso; omega
abbrev rm_MD_property_c_MD_property_0 : Room := { frames := 1, cells := 0, slots := 0, locals := 21 }
set_option maxHeartbeats 4000000 in
set_option maxRecDepth 100000 in
theorem c_MD_property_0 (l : Launch) (g : Geo) (ad : Nat → Nat) (ar : Nat → Nat → Int32) (fl : Nat → Int32) (x : Int32) (y : Int32) (z : Int32) (rn : Nat) (hcnt : fl 2 = nI rn) (hcN : rn ≤ 100) (hS : prOK x y z) (hfu : rn < 100) : cMv l y_MD_property (.code y_MD_property b_MD_property 5 none :: gw) rm_MD_property_c_MD_property_0 g [.ref (ad 0), .int x, .int y, .int z] (mw g ad ar fl) (fun (_ : Unit) => True) (fun (_ : Unit) => mw g ad (va_up (va_up (va_up ar 2 (upd (ar 2) rn x)) 3 (upd (ar 3) rn y)) 4 (upd (ar 4) rn z)) (va_up (va_up (va_up fl 0 0) 2 (nI (rn + 1))) 5 0)) 0 0 := by
  refine cMv_of (by decide) (Nat.le_of_ble_eq_true rfl) ?_
  intro p e s m below meth c A Q ls M hnm hret hl hI
  have M : MC p s m ([.ref (ad 0), .int x, .int y, .int z] : List Value).toArray meth c R_MD b_MD_property 5 := M
  have hl : lv_has ls 5 [(0, .ref (ad 0)), (1, .int x), (2, .int y), (3, .int z)] := hl
  generalize ([.ref (ad 0), .int x, .int y, .int z] : List Value).toArray = args at M hret ⊢
  have hx := M.1
  have hb := M.2.1
  refine lv_iload_n hx hb d_MD_property_0 rfl (lv_at hl 1 rfl) ?_
  refine q_calliS [.int x] M hI (c_MD_isCharacter l g (mw g ad ar fl) x) ok_MD_isCharacter m5_52 m5_53 rfl rfl hl.1 ⟨rfl, rfl⟩ ⟨Nat.le_of_ble_eq_true rfl, Nat.le_of_ble_eq_true rfl⟩ (Nat.le_of_ble_eq_true rfl) ⟨Nat.le_of_ble_eq_true rfl, Nat.le_of_ble_eq_true rfl⟩ d_MD_property_1 (fun r1 u1 H locs hp1 hI => ?_)
  refine q_as (y := bI (isch x)) hp1 ?_
  refine lv_if_eq (tgt := 33) hx hb d_MD_property_4 (by decide) (fun c4 => ?_) (fun c4 => ?_)
  · have c4 := bI_eq0.mp c4
    exact absurd hS.1 c4
  · have c4 := bI_ne0.mp c4
    refine lv_iload_n hx hb d_MD_property_7 rfl (lv_at hl 2 rfl) ?_
    refine q_calliS [.int y] M hI (c_MD_isCharacter l g (mw g ad ar fl) y) ok_MD_isCharacter m5_52 m5_53 rfl rfl hl.1 ⟨rfl, rfl⟩ ⟨Nat.le_of_ble_eq_true rfl, Nat.le_of_ble_eq_true rfl⟩ (Nat.le_of_ble_eq_true rfl) ⟨Nat.le_of_ble_eq_true rfl, Nat.le_of_ble_eq_true rfl⟩ d_MD_property_8 (fun r8 u8 H locs hp8 hI => ?_)
    refine q_as (y := bI (isch y)) hp8 ?_
    refine lv_if_eq (tgt := 33) hx hb d_MD_property_11 (by decide) (fun c11 => ?_) (fun c11 => ?_)
    · have c11 := bI_eq0.mp c11
      exact absurd hS.2.1 c11
    · have c11 := bI_ne0.mp c11
      refine lv_iload_n hx hb d_MD_property_14 rfl (lv_at hl 1 rfl) ?_
      refine lv_iload_n hx hb d_MD_property_15 rfl (lv_at hl 2 rfl) ?_
      refine lv_icmp_gt (tgt := 33) hx hb d_MD_property_16 (by decide) (fun c16 => ?_) (fun c16 => ?_)
      · exact absurd c16 hS.2.2.1
      · refine lv_iload_n hx hb d_MD_property_19 rfl (lv_at hl 3 rfl) ?_
        refine lv_if_lt (tgt := 33) hx hb d_MD_property_20 (by decide) (fun c20 => ?_) (fun c20 => ?_)
        · exact absurd c20 hS.2.2.2.1
        · refine lv_iload_n hx hb d_MD_property_23 rfl (lv_at hl 3 rfl) ?_
          refine lv_bipush (v := 22) hx hb d_MD_property_24 (by decide) ?_
          refine lv_icmp_gt (tgt := 33) hx hb d_MD_property_26 (by decide) (fun c26 => ?_) (fun c26 => ?_)
          · exact absurd c26 hS.2.2.2.2
          · refine lv_iconst (v := 1) hx hb d_MD_property_29 (by decide) ?_
            refine lv_goto (tgt := 34) hx hb d_MD_property_30 (by decide) ?_
            refine lv_istore (lv' := [(4, .int 1), (0, .ref (ad 0)), (1, .int x), (2, .int y), (3, .int z)]) hx hb d_MD_property_34 hl (by decide) rfl (fun ls hl => ?_)
            refine lv_aload_n hx hb d_MD_property_36 rfl (lv_at hl 1 rfl) ?_
            refine lv_iload hx hb d_MD_property_37 (lv_at hl 0 rfl) ?_
            refine lv_if_ne (tgt := 46) hx hb d_MD_property_39 (by decide) (fun c39 => ?_) (fun c39 => ?_)
            · have c39 : ¬ 1 = 0 := fun h => c39 ((nI_eq (a := 1) (b := 0) (by omega) (by omega)).mpr h)
              refine lv_aload_n hx hb d_MD_property_46 rfl (lv_at hl 1 rfl) ?_
              refine g_MD_86 M hI d_MD_property_47 ?_
              refine q_as (y := nI rn) hcnt ?_
              refine lv_bipush (v := 100) hx hb d_MD_property_50 (by decide) ?_
              refine lv_icmp_ne (tgt := 59) hx hb d_MD_property_52 (by decide) (fun c52 => ?_) (fun c52 => ?_)
              · have c52 : ¬ rn = 100 := fun h => c52 ((nI_eq (a := rn) (b := 100) (by omega) (by omega)).mpr h)
                refine lv_iconst (v := 0) hx hb d_MD_property_59 (by decide) ?_
                refine q_calliV [.int 0] M hI (c_MD_refused l g ad ar fl 0) ok_MD_refused m5_56 m5_58 ms_45 0 rfl rfl rfl rfl hl.1 ⟨rfl, rfl⟩ ⟨Nat.le_of_ble_eq_true rfl, Nat.le_of_ble_eq_true rfl⟩ (Nat.le_of_ble_eq_true rfl) ⟨Nat.le_of_ble_eq_true rfl, Nat.le_of_ble_eq_true rfl⟩ d_MD_property_60 (fun r60 u60 H locs hp60 hI => ?_)
                have hI : CI g A s (mw g ad ar (va_up fl 0 0)) H locs := hI
                refine q_as (y := bI (¬ 0 ≤ 0)) hp60 ?_
                refine lv_if_ne (tgt := 111) hx hb d_MD_property_63 (by decide) (fun c63 => ?_) (fun c63 => ?_)
                · have c63 := bI_ne0.mp c63
                  exact absurd (by decide) c63
                · have c63 := bI_eq0.mp c63
                  refine lv_aload_n hx hb d_MD_property_66 rfl (lv_at hl 1 rfl) ?_
                  refine g_MD_13 M hI d_MD_property_67 ?_
                  refine lv_aload_n hx hb d_MD_property_70 rfl (lv_at hl 1 rfl) ?_
                  refine g_MD_86 M hI d_MD_property_71 ?_
                  refine q_as (y := nI rn) hcnt ?_
                  refine lv_iload_n hx hb d_MD_property_74 rfl (lv_at hl 2 rfl) ?_
                  refine bs_2 M hI rn rfl (by omega) d_MD_property_75 (fun H locs hI => ?_)
                  have hI : CI g A s (mw g ad (va_up ar 2 (upd (ar 2) rn x)) (va_up fl 0 0)) H locs := hI
                  refine lv_aload_n hx hb d_MD_property_76 rfl (lv_at hl 1 rfl) ?_
                  refine g_MD_16 M hI d_MD_property_77 ?_
                  refine lv_aload_n hx hb d_MD_property_80 rfl (lv_at hl 1 rfl) ?_
                  refine g_MD_86 M hI d_MD_property_81 ?_
                  refine q_as (y := nI rn) hcnt ?_
                  refine lv_iload_n hx hb d_MD_property_84 rfl (lv_at hl 3 rfl) ?_
                  refine bs_3 M hI rn rfl (by omega) d_MD_property_85 (fun H locs hI => ?_)
                  have hI : CI g A s (mw g ad (va_up (va_up ar 2 (upd (ar 2) rn x)) 3 (upd (ar 3) rn y)) (va_up fl 0 0)) H locs := hI
                  refine lv_aload_n hx hb d_MD_property_86 rfl (lv_at hl 1 rfl) ?_
                  refine g_MD_19 M hI d_MD_property_87 ?_
                  refine lv_aload_n hx hb d_MD_property_90 rfl (lv_at hl 1 rfl) ?_
                  refine g_MD_86 M hI d_MD_property_91 ?_
                  refine q_as (y := nI rn) hcnt ?_
                  refine lv_iload_n hx hb d_MD_property_94 rfl (lv_at hl 4 rfl) ?_
                  refine bs_4 M hI rn rfl (by omega) d_MD_property_95 (fun H locs hI => ?_)
                  have hI : CI g A s (mw g ad (va_up (va_up (va_up ar 2 (upd (ar 2) rn x)) 3 (upd (ar 3) rn y)) 4 (upd (ar 4) rn z)) (va_up fl 0 0)) H locs := hI
                  refine lv_aload_n hx hb d_MD_property_96 rfl (lv_at hl 1 rfl) ?_
                  refine lv_dup hx hb d_MD_property_97 rfl ?_
                  refine g_MD_86 M hI d_MD_property_98 ?_
                  refine q_as (y := nI rn) hcnt ?_
                  refine lv_iconst (v := 1) hx hb d_MD_property_101 (by decide) ?_
                  refine lv_iadd hx hb d_MD_property_102 ?_
                  refine q_as (y := nI (rn + 1)) (nI_add rn 1) ?_
                  refine p_MD_86 M hI d_MD_property_103 (fun H locs hI => ?_)
                  have hI : CI g A s (mw g ad (va_up (va_up (va_up ar 2 (upd (ar 2) rn x)) 3 (upd (ar 3) rn y)) 4 (upd (ar 4) rn z)) (va_up (va_up fl 0 0) 2 (nI (rn + 1)))) H locs := hI
                  refine lv_aload_n hx hb d_MD_property_106 rfl (lv_at hl 1 rfl) ?_
                  refine lv_iconst (v := 0) hx hb d_MD_property_107 (by decide) ?_
                  refine p_MD_92 M hI rfl rfl d_MD_property_108 (fun H locs hI => ?_)
                  have hI : CI g A s (mw g ad (va_up (va_up (va_up ar 2 (upd (ar 2) rn x)) 3 (upd (ar 3) rn y)) 4 (upd (ar 4) rn z)) (va_up (va_up (va_up fl 0 0) 2 (nI (rn + 1))) 5 0)) H locs := hI
                  exact hret () _ _ _ _ _ _ d_MD_property_111 hI (trivial) (Nat.le_refl 0) (Nat.le_refl 0)
              · have c52 : rn = 100 := (nI_eq (a := rn) (b := 100) (by omega) (by omega)).mp c52
                exfalso; omega
            · have c39 : 1 = 0 := (nI_eq (a := 1) (b := 0) (by omega) (by omega)).mp c39
              exfalso; omega
abbrev rm_MD_bracket_c_MD_bracket_1 : Room := { frames := 2, cells := 0, slots := 0, locals := 44 }
set_option maxHeartbeats 4000000 in
set_option maxRecDepth 100000 in
theorem c_MD_bracket_1 (l : Launch) (g : Geo) (ad : Nat → Nat) (ar : Nat → Nat → Int32) (fl : Nat → Int32) (x : Int32) (y : Int32) (bn : Nat) (hcnt : fl 3 = nI bn) (hcN : bn ≤ 40) (hS : ¬ (isch x ∧ isch y ∧ ¬ x = y ∧ ¬ (0 ≤ lk (ar 5) (ar 6) x bn ∨ clo (ar 6) x bn) ∧ ¬ (0 ≤ lk (ar 5) (ar 6) y bn ∨ clo (ar 6) y bn))) : cMv l y_MD_bracket (.code y_MD_bracket b_MD_bracket 4 none :: gw) rm_MD_bracket_c_MD_bracket_1 g [.ref (ad 0), .int x, .int y] (mw g ad ar fl) (fun (_ : Unit) => True) (fun (_ : Unit) => mw g ad ar (va_up fl 0 1)) 0 0 := by
  refine cMv_of (by decide) (Nat.le_of_ble_eq_true rfl) ?_
  intro p e s m below meth c A Q ls M hnm hret hl hI
  have M : MC p s m ([.ref (ad 0), .int x, .int y] : List Value).toArray meth c R_MD b_MD_bracket 4 := M
  have hl : lv_has ls 4 [(0, .ref (ad 0)), (1, .int x), (2, .int y)] := hl
  generalize ([.ref (ad 0), .int x, .int y] : List Value).toArray = args at M hret ⊢
  have hx := M.1
  have hb := M.2.1
  refine lv_iload_n hx hb d_MD_bracket_0 rfl (lv_at hl 1 rfl) ?_
  refine q_calliS [.int x] M hI (c_MD_isCharacter l g (mw g ad ar fl) x) ok_MD_isCharacter m5_52 m5_53 rfl rfl hl.1 ⟨rfl, rfl⟩ ⟨Nat.le_of_ble_eq_true rfl, Nat.le_of_ble_eq_true rfl⟩ (Nat.le_of_ble_eq_true rfl) ⟨Nat.le_of_ble_eq_true rfl, Nat.le_of_ble_eq_true rfl⟩ d_MD_bracket_1 (fun r1 u1 H locs hp1 hI => ?_)
  refine q_as (y := bI (isch x)) hp1 ?_
  refine lv_if_eq (tgt := 39) hx hb d_MD_bracket_4 (by decide) (fun c4 => ?_) (fun c4 => ?_)
  · have c4 := bI_eq0.mp c4
    refine lv_iconst (v := 0) hx hb d_MD_bracket_39 (by decide) ?_
    refine lv_istore_n (lv' := [(3, .int 0), (0, .ref (ad 0)), (1, .int x), (2, .int y)]) hx hb d_MD_bracket_40 rfl hl (by decide) rfl (fun ls hl => ?_)
    refine lv_aload_n hx hb d_MD_bracket_41 rfl (lv_at hl 1 rfl) ?_
    refine lv_iload_n hx hb d_MD_bracket_42 rfl (lv_at hl 0 rfl) ?_
    refine lv_if_ne (tgt := 50) hx hb d_MD_bracket_43 (by decide) (fun c43 => ?_) (fun c43 => ?_)
    · have c43 : ¬ 0 = 0 := fun h => c43 ((nI_eq (a := 0) (b := 0) (by omega) (by omega)).mpr h)
      exfalso; omega
    · have c43 : 0 = 0 := (nI_eq (a := 0) (b := 0) (by omega) (by omega)).mp c43
      refine lv_iconst (v := 1) hx hb d_MD_bracket_46 (by decide) ?_
      refine lv_goto (tgt := 64) hx hb d_MD_bracket_47 (by decide) ?_
      refine q_calliV [.int 1] M hI (c_MD_refused l g ad ar fl 1) ok_MD_refused m5_56 m5_58 ms_45 0 rfl rfl rfl rfl hl.1 ⟨rfl, rfl⟩ ⟨Nat.le_of_ble_eq_true rfl, Nat.le_of_ble_eq_true rfl⟩ (Nat.le_of_ble_eq_true rfl) ⟨Nat.le_of_ble_eq_true rfl, Nat.le_of_ble_eq_true rfl⟩ d_MD_bracket_64 (fun r64 u64 H locs hp64 hI => ?_)
      have hI : CI g A s (mw g ad ar (va_up fl 0 1)) H locs := hI
      refine q_as (y := bI (¬ 1 ≤ 0)) hp64 ?_
      refine lv_if_ne (tgt := 105) hx hb d_MD_bracket_67 (by decide) (fun c67 => ?_) (fun c67 => ?_)
      · have c67 := bI_ne0.mp c67
        exact hret () _ _ _ _ _ _ d_MD_bracket_105 hI (trivial) (Nat.le_refl 0) (Nat.le_refl 0)
      · have c67 := bI_eq0.mp c67
        exact absurd (by decide) c67
  · have c4 := bI_ne0.mp c4
    refine lv_iload_n hx hb d_MD_bracket_7 rfl (lv_at hl 2 rfl) ?_
    refine q_calliS [.int y] M hI (c_MD_isCharacter l g (mw g ad ar fl) y) ok_MD_isCharacter m5_52 m5_53 rfl rfl hl.1 ⟨rfl, rfl⟩ ⟨Nat.le_of_ble_eq_true rfl, Nat.le_of_ble_eq_true rfl⟩ (Nat.le_of_ble_eq_true rfl) ⟨Nat.le_of_ble_eq_true rfl, Nat.le_of_ble_eq_true rfl⟩ d_MD_bracket_8 (fun r8 u8 H locs hp8 hI => ?_)
    refine q_as (y := bI (isch y)) hp8 ?_
    refine lv_if_eq (tgt := 39) hx hb d_MD_bracket_11 (by decide) (fun c11 => ?_) (fun c11 => ?_)
    · have c11 := bI_eq0.mp c11
      refine lv_iconst (v := 0) hx hb d_MD_bracket_39 (by decide) ?_
      refine lv_istore_n (lv' := [(3, .int 0), (0, .ref (ad 0)), (1, .int x), (2, .int y)]) hx hb d_MD_bracket_40 rfl hl (by decide) rfl (fun ls hl => ?_)
      refine lv_aload_n hx hb d_MD_bracket_41 rfl (lv_at hl 1 rfl) ?_
      refine lv_iload_n hx hb d_MD_bracket_42 rfl (lv_at hl 0 rfl) ?_
      refine lv_if_ne (tgt := 50) hx hb d_MD_bracket_43 (by decide) (fun c43 => ?_) (fun c43 => ?_)
      · have c43 : ¬ 0 = 0 := fun h => c43 ((nI_eq (a := 0) (b := 0) (by omega) (by omega)).mpr h)
        exfalso; omega
      · have c43 : 0 = 0 := (nI_eq (a := 0) (b := 0) (by omega) (by omega)).mp c43
        refine lv_iconst (v := 1) hx hb d_MD_bracket_46 (by decide) ?_
        refine lv_goto (tgt := 64) hx hb d_MD_bracket_47 (by decide) ?_
        refine q_calliV [.int 1] M hI (c_MD_refused l g ad ar fl 1) ok_MD_refused m5_56 m5_58 ms_45 0 rfl rfl rfl rfl hl.1 ⟨rfl, rfl⟩ ⟨Nat.le_of_ble_eq_true rfl, Nat.le_of_ble_eq_true rfl⟩ (Nat.le_of_ble_eq_true rfl) ⟨Nat.le_of_ble_eq_true rfl, Nat.le_of_ble_eq_true rfl⟩ d_MD_bracket_64 (fun r64 u64 H locs hp64 hI => ?_)
        have hI : CI g A s (mw g ad ar (va_up fl 0 1)) H locs := hI
        refine q_as (y := bI (¬ 1 ≤ 0)) hp64 ?_
        refine lv_if_ne (tgt := 105) hx hb d_MD_bracket_67 (by decide) (fun c67 => ?_) (fun c67 => ?_)
        · have c67 := bI_ne0.mp c67
          exact hret () _ _ _ _ _ _ d_MD_bracket_105 hI (trivial) (Nat.le_refl 0) (Nat.le_refl 0)
        · have c67 := bI_eq0.mp c67
          exact absurd (by decide) c67
    · have c11 := bI_ne0.mp c11
      refine lv_iload_n hx hb d_MD_bracket_14 rfl (lv_at hl 1 rfl) ?_
      refine lv_iload_n hx hb d_MD_bracket_15 rfl (lv_at hl 2 rfl) ?_
      refine lv_icmp_eq (tgt := 39) hx hb d_MD_bracket_16 (by decide) (fun c16 => ?_) (fun c16 => ?_)
      · refine lv_iconst (v := 0) hx hb d_MD_bracket_39 (by decide) ?_
        refine lv_istore_n (lv' := [(3, .int 0), (0, .ref (ad 0)), (1, .int x), (2, .int y)]) hx hb d_MD_bracket_40 rfl hl (by decide) rfl (fun ls hl => ?_)
        refine lv_aload_n hx hb d_MD_bracket_41 rfl (lv_at hl 1 rfl) ?_
        refine lv_iload_n hx hb d_MD_bracket_42 rfl (lv_at hl 0 rfl) ?_
        refine lv_if_ne (tgt := 50) hx hb d_MD_bracket_43 (by decide) (fun c43 => ?_) (fun c43 => ?_)
        · have c43 : ¬ 0 = 0 := fun h => c43 ((nI_eq (a := 0) (b := 0) (by omega) (by omega)).mpr h)
          exfalso; omega
        · have c43 : 0 = 0 := (nI_eq (a := 0) (b := 0) (by omega) (by omega)).mp c43
          refine lv_iconst (v := 1) hx hb d_MD_bracket_46 (by decide) ?_
          refine lv_goto (tgt := 64) hx hb d_MD_bracket_47 (by decide) ?_
          refine q_calliV [.int 1] M hI (c_MD_refused l g ad ar fl 1) ok_MD_refused m5_56 m5_58 ms_45 0 rfl rfl rfl rfl hl.1 ⟨rfl, rfl⟩ ⟨Nat.le_of_ble_eq_true rfl, Nat.le_of_ble_eq_true rfl⟩ (Nat.le_of_ble_eq_true rfl) ⟨Nat.le_of_ble_eq_true rfl, Nat.le_of_ble_eq_true rfl⟩ d_MD_bracket_64 (fun r64 u64 H locs hp64 hI => ?_)
          have hI : CI g A s (mw g ad ar (va_up fl 0 1)) H locs := hI
          refine q_as (y := bI (¬ 1 ≤ 0)) hp64 ?_
          refine lv_if_ne (tgt := 105) hx hb d_MD_bracket_67 (by decide) (fun c67 => ?_) (fun c67 => ?_)
          · have c67 := bI_ne0.mp c67
            exact hret () _ _ _ _ _ _ d_MD_bracket_105 hI (trivial) (Nat.le_refl 0) (Nat.le_refl 0)
          · have c67 := bI_eq0.mp c67
            exact absurd (by decide) c67
      · refine lv_aload_n hx hb d_MD_bracket_19 rfl (lv_at hl 0 rfl) ?_
        refine lv_iload_n hx hb d_MD_bracket_20 rfl (lv_at hl 1 rfl) ?_
        refine q_calliV [.int x] M hI (c_MD_isBracket l g ad ar fl x bn (hcnt) (hcN)) ok_MD_isBracket m5_64 m5_66 ms_46 0 rfl rfl rfl rfl hl.1 ⟨rfl, rfl⟩ ⟨Nat.le_of_ble_eq_true rfl, Nat.le_of_ble_eq_true rfl⟩ (Nat.le_of_ble_eq_true rfl) ⟨Nat.le_of_ble_eq_true rfl, Nat.le_of_ble_eq_true rfl⟩ d_MD_bracket_21 (fun r21 u21 H locs hp21 hI => ?_)
        refine q_as (y := bI (0 ≤ lk (ar 5) (ar 6) x bn ∨ clo (ar 6) x bn)) hp21 ?_
        refine lv_if_ne (tgt := 39) hx hb d_MD_bracket_24 (by decide) (fun c24 => ?_) (fun c24 => ?_)
        · have c24 := bI_ne0.mp c24
          refine lv_iconst (v := 0) hx hb d_MD_bracket_39 (by decide) ?_
          refine lv_istore_n (lv' := [(3, .int 0), (0, .ref (ad 0)), (1, .int x), (2, .int y)]) hx hb d_MD_bracket_40 rfl hl (by decide) rfl (fun ls hl => ?_)
          refine lv_aload_n hx hb d_MD_bracket_41 rfl (lv_at hl 1 rfl) ?_
          refine lv_iload_n hx hb d_MD_bracket_42 rfl (lv_at hl 0 rfl) ?_
          refine lv_if_ne (tgt := 50) hx hb d_MD_bracket_43 (by decide) (fun c43 => ?_) (fun c43 => ?_)
          · have c43 : ¬ 0 = 0 := fun h => c43 ((nI_eq (a := 0) (b := 0) (by omega) (by omega)).mpr h)
            exfalso; omega
          · have c43 : 0 = 0 := (nI_eq (a := 0) (b := 0) (by omega) (by omega)).mp c43
            refine lv_iconst (v := 1) hx hb d_MD_bracket_46 (by decide) ?_
            refine lv_goto (tgt := 64) hx hb d_MD_bracket_47 (by decide) ?_
            refine q_calliV [.int 1] M hI (c_MD_refused l g ad ar fl 1) ok_MD_refused m5_56 m5_58 ms_45 0 rfl rfl rfl rfl hl.1 ⟨rfl, rfl⟩ ⟨Nat.le_of_ble_eq_true rfl, Nat.le_of_ble_eq_true rfl⟩ (Nat.le_of_ble_eq_true rfl) ⟨Nat.le_of_ble_eq_true rfl, Nat.le_of_ble_eq_true rfl⟩ d_MD_bracket_64 (fun r64 u64 H locs hp64 hI => ?_)
            have hI : CI g A s (mw g ad ar (va_up fl 0 1)) H locs := hI
            refine q_as (y := bI (¬ 1 ≤ 0)) hp64 ?_
            refine lv_if_ne (tgt := 105) hx hb d_MD_bracket_67 (by decide) (fun c67 => ?_) (fun c67 => ?_)
            · have c67 := bI_ne0.mp c67
              exact hret () _ _ _ _ _ _ d_MD_bracket_105 hI (trivial) (Nat.le_refl 0) (Nat.le_refl 0)
            · have c67 := bI_eq0.mp c67
              exact absurd (by decide) c67
        · have c24 := bI_eq0.mp c24
          refine lv_aload_n hx hb d_MD_bracket_27 rfl (lv_at hl 0 rfl) ?_
          refine lv_iload_n hx hb d_MD_bracket_28 rfl (lv_at hl 2 rfl) ?_
          refine q_calliV [.int y] M hI (c_MD_isBracket l g ad ar fl y bn (hcnt) (hcN)) ok_MD_isBracket m5_64 m5_66 ms_46 0 rfl rfl rfl rfl hl.1 ⟨rfl, rfl⟩ ⟨Nat.le_of_ble_eq_true rfl, Nat.le_of_ble_eq_true rfl⟩ (Nat.le_of_ble_eq_true rfl) ⟨Nat.le_of_ble_eq_true rfl, Nat.le_of_ble_eq_true rfl⟩ d_MD_bracket_29 (fun r29 u29 H locs hp29 hI => ?_)
          refine q_as (y := bI (0 ≤ lk (ar 5) (ar 6) y bn ∨ clo (ar 6) y bn)) hp29 ?_
          refine lv_if_ne (tgt := 39) hx hb d_MD_bracket_32 (by decide) (fun c32 => ?_) (fun c32 => ?_)
          · have c32 := bI_ne0.mp c32
            refine lv_iconst (v := 0) hx hb d_MD_bracket_39 (by decide) ?_
            refine lv_istore_n (lv' := [(3, .int 0), (0, .ref (ad 0)), (1, .int x), (2, .int y)]) hx hb d_MD_bracket_40 rfl hl (by decide) rfl (fun ls hl => ?_)
            refine lv_aload_n hx hb d_MD_bracket_41 rfl (lv_at hl 1 rfl) ?_
            refine lv_iload_n hx hb d_MD_bracket_42 rfl (lv_at hl 0 rfl) ?_
            refine lv_if_ne (tgt := 50) hx hb d_MD_bracket_43 (by decide) (fun c43 => ?_) (fun c43 => ?_)
            · have c43 : ¬ 0 = 0 := fun h => c43 ((nI_eq (a := 0) (b := 0) (by omega) (by omega)).mpr h)
              exfalso; omega
            · have c43 : 0 = 0 := (nI_eq (a := 0) (b := 0) (by omega) (by omega)).mp c43
              refine lv_iconst (v := 1) hx hb d_MD_bracket_46 (by decide) ?_
              refine lv_goto (tgt := 64) hx hb d_MD_bracket_47 (by decide) ?_
              refine q_calliV [.int 1] M hI (c_MD_refused l g ad ar fl 1) ok_MD_refused m5_56 m5_58 ms_45 0 rfl rfl rfl rfl hl.1 ⟨rfl, rfl⟩ ⟨Nat.le_of_ble_eq_true rfl, Nat.le_of_ble_eq_true rfl⟩ (Nat.le_of_ble_eq_true rfl) ⟨Nat.le_of_ble_eq_true rfl, Nat.le_of_ble_eq_true rfl⟩ d_MD_bracket_64 (fun r64 u64 H locs hp64 hI => ?_)
              have hI : CI g A s (mw g ad ar (va_up fl 0 1)) H locs := hI
              refine q_as (y := bI (¬ 1 ≤ 0)) hp64 ?_
              refine lv_if_ne (tgt := 105) hx hb d_MD_bracket_67 (by decide) (fun c67 => ?_) (fun c67 => ?_)
              · have c67 := bI_ne0.mp c67
                exact hret () _ _ _ _ _ _ d_MD_bracket_105 hI (trivial) (Nat.le_refl 0) (Nat.le_refl 0)
              · have c67 := bI_eq0.mp c67
                exact absurd (by decide) c67
          · have c32 := bI_eq0.mp c32
            exact absurd ⟨c4, c11, c16, c24, c32⟩ hS
abbrev rm_MD_bracket_c_MD_bracket_2 : Room := { frames := 2, cells := 0, slots := 0, locals := 44 }
set_option maxHeartbeats 4000000 in
set_option maxRecDepth 100000 in
theorem c_MD_bracket_2 (l : Launch) (g : Geo) (ad : Nat → Nat) (ar : Nat → Nat → Int32) (fl : Nat → Int32) (x : Int32) (y : Int32) (bn : Nat) (hcnt : fl 3 = nI bn) (hcN : bn ≤ 40) (hS : (isch x ∧ isch y ∧ ¬ x = y ∧ ¬ (0 ≤ lk (ar 5) (ar 6) x bn ∨ clo (ar 6) x bn) ∧ ¬ (0 ≤ lk (ar 5) (ar 6) y bn ∨ clo (ar 6) y bn))) (hfu : bn = 40) : cMv l y_MD_bracket (.code y_MD_bracket b_MD_bracket 4 none :: gw) rm_MD_bracket_c_MD_bracket_2 g [.ref (ad 0), .int x, .int y] (mw g ad ar fl) (fun (_ : Unit) => True) (fun (_ : Unit) => mw g ad ar (va_up fl 0 2)) 0 0 := by
  refine cMv_of (by decide) (Nat.le_of_ble_eq_true rfl) ?_
  intro p e s m below meth c A Q ls M hnm hret hl hI
  have M : MC p s m ([.ref (ad 0), .int x, .int y] : List Value).toArray meth c R_MD b_MD_bracket 4 := M
  have hl : lv_has ls 4 [(0, .ref (ad 0)), (1, .int x), (2, .int y)] := hl
  generalize ([.ref (ad 0), .int x, .int y] : List Value).toArray = args at M hret ⊢
  have hx := M.1
  have hb := M.2.1
  refine lv_iload_n hx hb d_MD_bracket_0 rfl (lv_at hl 1 rfl) ?_
  refine q_calliS [.int x] M hI (c_MD_isCharacter l g (mw g ad ar fl) x) ok_MD_isCharacter m5_52 m5_53 rfl rfl hl.1 ⟨rfl, rfl⟩ ⟨Nat.le_of_ble_eq_true rfl, Nat.le_of_ble_eq_true rfl⟩ (Nat.le_of_ble_eq_true rfl) ⟨Nat.le_of_ble_eq_true rfl, Nat.le_of_ble_eq_true rfl⟩ d_MD_bracket_1 (fun r1 u1 H locs hp1 hI => ?_)
  refine q_as (y := bI (isch x)) hp1 ?_
  refine lv_if_eq (tgt := 39) hx hb d_MD_bracket_4 (by decide) (fun c4 => ?_) (fun c4 => ?_)
  · have c4 := bI_eq0.mp c4
    exact absurd hS.1 c4
  · have c4 := bI_ne0.mp c4
    refine lv_iload_n hx hb d_MD_bracket_7 rfl (lv_at hl 2 rfl) ?_
    refine q_calliS [.int y] M hI (c_MD_isCharacter l g (mw g ad ar fl) y) ok_MD_isCharacter m5_52 m5_53 rfl rfl hl.1 ⟨rfl, rfl⟩ ⟨Nat.le_of_ble_eq_true rfl, Nat.le_of_ble_eq_true rfl⟩ (Nat.le_of_ble_eq_true rfl) ⟨Nat.le_of_ble_eq_true rfl, Nat.le_of_ble_eq_true rfl⟩ d_MD_bracket_8 (fun r8 u8 H locs hp8 hI => ?_)
    refine q_as (y := bI (isch y)) hp8 ?_
    refine lv_if_eq (tgt := 39) hx hb d_MD_bracket_11 (by decide) (fun c11 => ?_) (fun c11 => ?_)
    · have c11 := bI_eq0.mp c11
      exact absurd hS.2.1 c11
    · have c11 := bI_ne0.mp c11
      refine lv_iload_n hx hb d_MD_bracket_14 rfl (lv_at hl 1 rfl) ?_
      refine lv_iload_n hx hb d_MD_bracket_15 rfl (lv_at hl 2 rfl) ?_
      refine lv_icmp_eq (tgt := 39) hx hb d_MD_bracket_16 (by decide) (fun c16 => ?_) (fun c16 => ?_)
      · exact absurd c16 hS.2.2.1
      · refine lv_aload_n hx hb d_MD_bracket_19 rfl (lv_at hl 0 rfl) ?_
        refine lv_iload_n hx hb d_MD_bracket_20 rfl (lv_at hl 1 rfl) ?_
        refine q_calliV [.int x] M hI (c_MD_isBracket l g ad ar fl x bn (hcnt) (hcN)) ok_MD_isBracket m5_64 m5_66 ms_46 0 rfl rfl rfl rfl hl.1 ⟨rfl, rfl⟩ ⟨Nat.le_of_ble_eq_true rfl, Nat.le_of_ble_eq_true rfl⟩ (Nat.le_of_ble_eq_true rfl) ⟨Nat.le_of_ble_eq_true rfl, Nat.le_of_ble_eq_true rfl⟩ d_MD_bracket_21 (fun r21 u21 H locs hp21 hI => ?_)
        refine q_as (y := bI (0 ≤ lk (ar 5) (ar 6) x bn ∨ clo (ar 6) x bn)) hp21 ?_
        refine lv_if_ne (tgt := 39) hx hb d_MD_bracket_24 (by decide) (fun c24 => ?_) (fun c24 => ?_)
        · have c24 := bI_ne0.mp c24
          exact absurd c24 hS.2.2.2.1
        · have c24 := bI_eq0.mp c24
          refine lv_aload_n hx hb d_MD_bracket_27 rfl (lv_at hl 0 rfl) ?_
          refine lv_iload_n hx hb d_MD_bracket_28 rfl (lv_at hl 2 rfl) ?_
          refine q_calliV [.int y] M hI (c_MD_isBracket l g ad ar fl y bn (hcnt) (hcN)) ok_MD_isBracket m5_64 m5_66 ms_46 0 rfl rfl rfl rfl hl.1 ⟨rfl, rfl⟩ ⟨Nat.le_of_ble_eq_true rfl, Nat.le_of_ble_eq_true rfl⟩ (Nat.le_of_ble_eq_true rfl) ⟨Nat.le_of_ble_eq_true rfl, Nat.le_of_ble_eq_true rfl⟩ d_MD_bracket_29 (fun r29 u29 H locs hp29 hI => ?_)
          refine q_as (y := bI (0 ≤ lk (ar 5) (ar 6) y bn ∨ clo (ar 6) y bn)) hp29 ?_
          refine lv_if_ne (tgt := 39) hx hb d_MD_bracket_32 (by decide) (fun c32 => ?_) (fun c32 => ?_)
          · have c32 := bI_ne0.mp c32
            exact absurd c32 hS.2.2.2.2
          · have c32 := bI_eq0.mp c32
            refine lv_iconst (v := 1) hx hb d_MD_bracket_35 (by decide) ?_
            refine lv_goto (tgt := 40) hx hb d_MD_bracket_36 (by decide) ?_
            refine lv_istore_n (lv' := [(3, .int 1), (0, .ref (ad 0)), (1, .int x), (2, .int y)]) hx hb d_MD_bracket_40 rfl hl (by decide) rfl (fun ls hl => ?_)
            refine lv_aload_n hx hb d_MD_bracket_41 rfl (lv_at hl 1 rfl) ?_
            refine lv_iload_n hx hb d_MD_bracket_42 rfl (lv_at hl 0 rfl) ?_
            refine lv_if_ne (tgt := 50) hx hb d_MD_bracket_43 (by decide) (fun c43 => ?_) (fun c43 => ?_)
            · have c43 : ¬ 1 = 0 := fun h => c43 ((nI_eq (a := 1) (b := 0) (by omega) (by omega)).mpr h)
              refine lv_aload_n hx hb d_MD_bracket_50 rfl (lv_at hl 1 rfl) ?_
              refine g_MD_103 M hI d_MD_bracket_51 ?_
              refine q_as (y := nI bn) hcnt ?_
              refine lv_bipush (v := 40) hx hb d_MD_bracket_54 (by decide) ?_
              refine lv_icmp_ne (tgt := 63) hx hb d_MD_bracket_56 (by decide) (fun c56 => ?_) (fun c56 => ?_)
              · have c56 : ¬ bn = 40 := fun h => c56 ((nI_eq (a := bn) (b := 40) (by omega) (by omega)).mpr h)
                exfalso; omega
              · have c56 : bn = 40 := (nI_eq (a := bn) (b := 40) (by omega) (by omega)).mp c56
                refine lv_iconst (v := 2) hx hb d_MD_bracket_59 (by decide) ?_
                refine lv_goto (tgt := 64) hx hb d_MD_bracket_60 (by decide) ?_
                refine q_calliV [.int 2] M hI (c_MD_refused l g ad ar fl 2) ok_MD_refused m5_56 m5_58 ms_45 0 rfl rfl rfl rfl hl.1 ⟨rfl, rfl⟩ ⟨Nat.le_of_ble_eq_true rfl, Nat.le_of_ble_eq_true rfl⟩ (Nat.le_of_ble_eq_true rfl) ⟨Nat.le_of_ble_eq_true rfl, Nat.le_of_ble_eq_true rfl⟩ d_MD_bracket_64 (fun r64 u64 H locs hp64 hI => ?_)
                have hI : CI g A s (mw g ad ar (va_up fl 0 2)) H locs := hI
                refine q_as (y := bI (¬ 2 ≤ 0)) hp64 ?_
                refine lv_if_ne (tgt := 105) hx hb d_MD_bracket_67 (by decide) (fun c67 => ?_) (fun c67 => ?_)
                · have c67 := bI_ne0.mp c67
                  exact hret () _ _ _ _ _ _ d_MD_bracket_105 hI (trivial) (Nat.le_refl 0) (Nat.le_refl 0)
                · have c67 := bI_eq0.mp c67
                  exact absurd (by decide) c67
            · have c43 : 1 = 0 := (nI_eq (a := 1) (b := 0) (by omega) (by omega)).mp c43
              exfalso; omega
abbrev rm_MD_bracket_c_MD_bracket_0 : Room := { frames := 2, cells := 0, slots := 0, locals := 44 }
set_option maxHeartbeats 4000000 in
set_option maxRecDepth 100000 in
theorem c_MD_bracket_0 (l : Launch) (g : Geo) (ad : Nat → Nat) (ar : Nat → Nat → Int32) (fl : Nat → Int32) (x : Int32) (y : Int32) (bn : Nat) (hcnt : fl 3 = nI bn) (hcN : bn ≤ 40) (hS : (isch x ∧ isch y ∧ ¬ x = y ∧ ¬ (0 ≤ lk (ar 5) (ar 6) x bn ∨ clo (ar 6) x bn) ∧ ¬ (0 ≤ lk (ar 5) (ar 6) y bn ∨ clo (ar 6) y bn))) (hfu : bn < 40) : cMv l y_MD_bracket (.code y_MD_bracket b_MD_bracket 4 none :: gw) rm_MD_bracket_c_MD_bracket_0 g [.ref (ad 0), .int x, .int y] (mw g ad ar fl) (fun (_ : Unit) => True) (fun (_ : Unit) => mw g ad (va_up (va_up ar 5 (upd (ar 5) bn x)) 6 (upd (ar 6) bn y)) (va_up (va_up (va_up fl 0 0) 3 (nI (bn + 1))) 5 0)) 0 0 := by
  refine cMv_of (by decide) (Nat.le_of_ble_eq_true rfl) ?_
  intro p e s m below meth c A Q ls M hnm hret hl hI
  have M : MC p s m ([.ref (ad 0), .int x, .int y] : List Value).toArray meth c R_MD b_MD_bracket 4 := M
  have hl : lv_has ls 4 [(0, .ref (ad 0)), (1, .int x), (2, .int y)] := hl
  generalize ([.ref (ad 0), .int x, .int y] : List Value).toArray = args at M hret ⊢
  have hx := M.1
  have hb := M.2.1
  refine lv_iload_n hx hb d_MD_bracket_0 rfl (lv_at hl 1 rfl) ?_
  refine q_calliS [.int x] M hI (c_MD_isCharacter l g (mw g ad ar fl) x) ok_MD_isCharacter m5_52 m5_53 rfl rfl hl.1 ⟨rfl, rfl⟩ ⟨Nat.le_of_ble_eq_true rfl, Nat.le_of_ble_eq_true rfl⟩ (Nat.le_of_ble_eq_true rfl) ⟨Nat.le_of_ble_eq_true rfl, Nat.le_of_ble_eq_true rfl⟩ d_MD_bracket_1 (fun r1 u1 H locs hp1 hI => ?_)
  refine q_as (y := bI (isch x)) hp1 ?_
  refine lv_if_eq (tgt := 39) hx hb d_MD_bracket_4 (by decide) (fun c4 => ?_) (fun c4 => ?_)
  · have c4 := bI_eq0.mp c4
    exact absurd hS.1 c4
  · have c4 := bI_ne0.mp c4
    refine lv_iload_n hx hb d_MD_bracket_7 rfl (lv_at hl 2 rfl) ?_
    refine q_calliS [.int y] M hI (c_MD_isCharacter l g (mw g ad ar fl) y) ok_MD_isCharacter m5_52 m5_53 rfl rfl hl.1 ⟨rfl, rfl⟩ ⟨Nat.le_of_ble_eq_true rfl, Nat.le_of_ble_eq_true rfl⟩ (Nat.le_of_ble_eq_true rfl) ⟨Nat.le_of_ble_eq_true rfl, Nat.le_of_ble_eq_true rfl⟩ d_MD_bracket_8 (fun r8 u8 H locs hp8 hI => ?_)
    refine q_as (y := bI (isch y)) hp8 ?_
    refine lv_if_eq (tgt := 39) hx hb d_MD_bracket_11 (by decide) (fun c11 => ?_) (fun c11 => ?_)
    · have c11 := bI_eq0.mp c11
      exact absurd hS.2.1 c11
    · have c11 := bI_ne0.mp c11
      refine lv_iload_n hx hb d_MD_bracket_14 rfl (lv_at hl 1 rfl) ?_
      refine lv_iload_n hx hb d_MD_bracket_15 rfl (lv_at hl 2 rfl) ?_
      refine lv_icmp_eq (tgt := 39) hx hb d_MD_bracket_16 (by decide) (fun c16 => ?_) (fun c16 => ?_)
      · exact absurd c16 hS.2.2.1
      · refine lv_aload_n hx hb d_MD_bracket_19 rfl (lv_at hl 0 rfl) ?_
        refine lv_iload_n hx hb d_MD_bracket_20 rfl (lv_at hl 1 rfl) ?_
        refine q_calliV [.int x] M hI (c_MD_isBracket l g ad ar fl x bn (hcnt) (hcN)) ok_MD_isBracket m5_64 m5_66 ms_46 0 rfl rfl rfl rfl hl.1 ⟨rfl, rfl⟩ ⟨Nat.le_of_ble_eq_true rfl, Nat.le_of_ble_eq_true rfl⟩ (Nat.le_of_ble_eq_true rfl) ⟨Nat.le_of_ble_eq_true rfl, Nat.le_of_ble_eq_true rfl⟩ d_MD_bracket_21 (fun r21 u21 H locs hp21 hI => ?_)
        refine q_as (y := bI (0 ≤ lk (ar 5) (ar 6) x bn ∨ clo (ar 6) x bn)) hp21 ?_
        refine lv_if_ne (tgt := 39) hx hb d_MD_bracket_24 (by decide) (fun c24 => ?_) (fun c24 => ?_)
        · have c24 := bI_ne0.mp c24
          exact absurd c24 hS.2.2.2.1
        · have c24 := bI_eq0.mp c24
          refine lv_aload_n hx hb d_MD_bracket_27 rfl (lv_at hl 0 rfl) ?_
          refine lv_iload_n hx hb d_MD_bracket_28 rfl (lv_at hl 2 rfl) ?_
          refine q_calliV [.int y] M hI (c_MD_isBracket l g ad ar fl y bn (hcnt) (hcN)) ok_MD_isBracket m5_64 m5_66 ms_46 0 rfl rfl rfl rfl hl.1 ⟨rfl, rfl⟩ ⟨Nat.le_of_ble_eq_true rfl, Nat.le_of_ble_eq_true rfl⟩ (Nat.le_of_ble_eq_true rfl) ⟨Nat.le_of_ble_eq_true rfl, Nat.le_of_ble_eq_true rfl⟩ d_MD_bracket_29 (fun r29 u29 H locs hp29 hI => ?_)
          refine q_as (y := bI (0 ≤ lk (ar 5) (ar 6) y bn ∨ clo (ar 6) y bn)) hp29 ?_
          refine lv_if_ne (tgt := 39) hx hb d_MD_bracket_32 (by decide) (fun c32 => ?_) (fun c32 => ?_)
          · have c32 := bI_ne0.mp c32
            exact absurd c32 hS.2.2.2.2
          · have c32 := bI_eq0.mp c32
            refine lv_iconst (v := 1) hx hb d_MD_bracket_35 (by decide) ?_
            refine lv_goto (tgt := 40) hx hb d_MD_bracket_36 (by decide) ?_
            refine lv_istore_n (lv' := [(3, .int 1), (0, .ref (ad 0)), (1, .int x), (2, .int y)]) hx hb d_MD_bracket_40 rfl hl (by decide) rfl (fun ls hl => ?_)
            refine lv_aload_n hx hb d_MD_bracket_41 rfl (lv_at hl 1 rfl) ?_
            refine lv_iload_n hx hb d_MD_bracket_42 rfl (lv_at hl 0 rfl) ?_
            refine lv_if_ne (tgt := 50) hx hb d_MD_bracket_43 (by decide) (fun c43 => ?_) (fun c43 => ?_)
            · have c43 : ¬ 1 = 0 := fun h => c43 ((nI_eq (a := 1) (b := 0) (by omega) (by omega)).mpr h)
              refine lv_aload_n hx hb d_MD_bracket_50 rfl (lv_at hl 1 rfl) ?_
              refine g_MD_103 M hI d_MD_bracket_51 ?_
              refine q_as (y := nI bn) hcnt ?_
              refine lv_bipush (v := 40) hx hb d_MD_bracket_54 (by decide) ?_
              refine lv_icmp_ne (tgt := 63) hx hb d_MD_bracket_56 (by decide) (fun c56 => ?_) (fun c56 => ?_)
              · have c56 : ¬ bn = 40 := fun h => c56 ((nI_eq (a := bn) (b := 40) (by omega) (by omega)).mpr h)
                refine lv_iconst (v := 0) hx hb d_MD_bracket_63 (by decide) ?_
                refine q_calliV [.int 0] M hI (c_MD_refused l g ad ar fl 0) ok_MD_refused m5_56 m5_58 ms_45 0 rfl rfl rfl rfl hl.1 ⟨rfl, rfl⟩ ⟨Nat.le_of_ble_eq_true rfl, Nat.le_of_ble_eq_true rfl⟩ (Nat.le_of_ble_eq_true rfl) ⟨Nat.le_of_ble_eq_true rfl, Nat.le_of_ble_eq_true rfl⟩ d_MD_bracket_64 (fun r64 u64 H locs hp64 hI => ?_)
                have hI : CI g A s (mw g ad ar (va_up fl 0 0)) H locs := hI
                refine q_as (y := bI (¬ 0 ≤ 0)) hp64 ?_
                refine lv_if_ne (tgt := 105) hx hb d_MD_bracket_67 (by decide) (fun c67 => ?_) (fun c67 => ?_)
                · have c67 := bI_ne0.mp c67
                  exact absurd (by decide) c67
                · have c67 := bI_eq0.mp c67
                  refine lv_aload_n hx hb d_MD_bracket_70 rfl (lv_at hl 1 rfl) ?_
                  refine g_MD_22 M hI d_MD_bracket_71 ?_
                  refine lv_aload_n hx hb d_MD_bracket_74 rfl (lv_at hl 1 rfl) ?_
                  refine g_MD_103 M hI d_MD_bracket_75 ?_
                  refine q_as (y := nI bn) hcnt ?_
                  refine lv_iload_n hx hb d_MD_bracket_78 rfl (lv_at hl 2 rfl) ?_
                  refine bs_5 M hI bn rfl (by omega) d_MD_bracket_79 (fun H locs hI => ?_)
                  have hI : CI g A s (mw g ad (va_up ar 5 (upd (ar 5) bn x)) (va_up fl 0 0)) H locs := hI
                  refine lv_aload_n hx hb d_MD_bracket_80 rfl (lv_at hl 1 rfl) ?_
                  refine g_MD_25 M hI d_MD_bracket_81 ?_
                  refine lv_aload_n hx hb d_MD_bracket_84 rfl (lv_at hl 1 rfl) ?_
                  refine g_MD_103 M hI d_MD_bracket_85 ?_
                  refine q_as (y := nI bn) hcnt ?_
                  refine lv_iload_n hx hb d_MD_bracket_88 rfl (lv_at hl 3 rfl) ?_
                  refine bs_6 M hI bn rfl (by omega) d_MD_bracket_89 (fun H locs hI => ?_)
                  have hI : CI g A s (mw g ad (va_up (va_up ar 5 (upd (ar 5) bn x)) 6 (upd (ar 6) bn y)) (va_up fl 0 0)) H locs := hI
                  refine lv_aload_n hx hb d_MD_bracket_90 rfl (lv_at hl 1 rfl) ?_
                  refine lv_dup hx hb d_MD_bracket_91 rfl ?_
                  refine g_MD_103 M hI d_MD_bracket_92 ?_
                  refine q_as (y := nI bn) hcnt ?_
                  refine lv_iconst (v := 1) hx hb d_MD_bracket_95 (by decide) ?_
                  refine lv_iadd hx hb d_MD_bracket_96 ?_
                  refine q_as (y := nI (bn + 1)) (nI_add bn 1) ?_
                  refine p_MD_103 M hI d_MD_bracket_97 (fun H locs hI => ?_)
                  have hI : CI g A s (mw g ad (va_up (va_up ar 5 (upd (ar 5) bn x)) 6 (upd (ar 6) bn y)) (va_up (va_up fl 0 0) 3 (nI (bn + 1)))) H locs := hI
                  refine lv_aload_n hx hb d_MD_bracket_100 rfl (lv_at hl 1 rfl) ?_
                  refine lv_iconst (v := 0) hx hb d_MD_bracket_101 (by decide) ?_
                  refine p_MD_92 M hI rfl rfl d_MD_bracket_102 (fun H locs hI => ?_)
                  have hI : CI g A s (mw g ad (va_up (va_up ar 5 (upd (ar 5) bn x)) 6 (upd (ar 6) bn y)) (va_up (va_up (va_up fl 0 0) 3 (nI (bn + 1))) 5 0)) H locs := hI
                  exact hret () _ _ _ _ _ _ d_MD_bracket_105 hI (trivial) (Nat.le_refl 0) (Nat.le_refl 0)
              · have c56 : bn = 40 := (nI_eq (a := bn) (b := 40) (by omega) (by omega)).mp c56
                exfalso; omega
            · have c43 : 1 = 0 := (nI_eq (a := 1) (b := 0) (by omega) (by omega)).mp c43
              exfalso; omega
abbrev rm_MD_mirror_c_MD_mirror_1 : Room := { frames := 1, cells := 0, slots := 0, locals := 23 }
set_option maxHeartbeats 4000000 in
set_option maxRecDepth 100000 in
theorem c_MD_mirror_1 (l : Launch) (g : Geo) (ad : Nat → Nat) (ar : Nat → Nat → Int32) (fl : Nat → Int32) (x : Int32) (y : Int32) (mn : Nat) (hcnt : fl 4 = nI mn) (hcN : mn ≤ 40) (hS : ¬ (isch x ∧ isch y ∧ ¬ x = y ∧ ¬ 0 ≤ mir (ar 7) (ar 8) x mn ∧ ¬ 0 ≤ mir (ar 7) (ar 8) y mn)) : cMv l y_MD_mirror (.code y_MD_mirror b_MD_mirror 4 none :: gw) rm_MD_mirror_c_MD_mirror_1 g [.ref (ad 0), .int x, .int y] (mw g ad ar fl) (fun (_ : Unit) => True) (fun (_ : Unit) => mw g ad ar (va_up fl 0 1)) 0 0 := by
  refine cMv_of (by decide) (Nat.le_of_ble_eq_true rfl) ?_
  intro p e s m below meth c A Q ls M hnm hret hl hI
  have M : MC p s m ([.ref (ad 0), .int x, .int y] : List Value).toArray meth c R_MD b_MD_mirror 4 := M
  have hl : lv_has ls 4 [(0, .ref (ad 0)), (1, .int x), (2, .int y)] := hl
  generalize ([.ref (ad 0), .int x, .int y] : List Value).toArray = args at M hret ⊢
  have hx := M.1
  have hb := M.2.1
  refine lv_iload_n hx hb d_MD_mirror_0 rfl (lv_at hl 1 rfl) ?_
  refine q_calliS [.int x] M hI (c_MD_isCharacter l g (mw g ad ar fl) x) ok_MD_isCharacter m5_52 m5_53 rfl rfl hl.1 ⟨rfl, rfl⟩ ⟨Nat.le_of_ble_eq_true rfl, Nat.le_of_ble_eq_true rfl⟩ (Nat.le_of_ble_eq_true rfl) ⟨Nat.le_of_ble_eq_true rfl, Nat.le_of_ble_eq_true rfl⟩ d_MD_mirror_1 (fun r1 u1 H locs hp1 hI => ?_)
  refine q_as (y := bI (isch x)) hp1 ?_
  refine lv_if_eq (tgt := 39) hx hb d_MD_mirror_4 (by decide) (fun c4 => ?_) (fun c4 => ?_)
  · have c4 := bI_eq0.mp c4
    refine lv_iconst (v := 0) hx hb d_MD_mirror_39 (by decide) ?_
    refine lv_istore_n (lv' := [(3, .int 0), (0, .ref (ad 0)), (1, .int x), (2, .int y)]) hx hb d_MD_mirror_40 rfl hl (by decide) rfl (fun ls hl => ?_)
    refine lv_aload_n hx hb d_MD_mirror_41 rfl (lv_at hl 1 rfl) ?_
    refine lv_iload_n hx hb d_MD_mirror_42 rfl (lv_at hl 0 rfl) ?_
    refine lv_if_ne (tgt := 50) hx hb d_MD_mirror_43 (by decide) (fun c43 => ?_) (fun c43 => ?_)
    · have c43 : ¬ 0 = 0 := fun h => c43 ((nI_eq (a := 0) (b := 0) (by omega) (by omega)).mpr h)
      exfalso; omega
    · have c43 : 0 = 0 := (nI_eq (a := 0) (b := 0) (by omega) (by omega)).mp c43
      refine lv_iconst (v := 1) hx hb d_MD_mirror_46 (by decide) ?_
      refine lv_goto (tgt := 64) hx hb d_MD_mirror_47 (by decide) ?_
      refine q_calliV [.int 1] M hI (c_MD_refused l g ad ar fl 1) ok_MD_refused m5_56 m5_58 ms_45 0 rfl rfl rfl rfl hl.1 ⟨rfl, rfl⟩ ⟨Nat.le_of_ble_eq_true rfl, Nat.le_of_ble_eq_true rfl⟩ (Nat.le_of_ble_eq_true rfl) ⟨Nat.le_of_ble_eq_true rfl, Nat.le_of_ble_eq_true rfl⟩ d_MD_mirror_64 (fun r64 u64 H locs hp64 hI => ?_)
      have hI : CI g A s (mw g ad ar (va_up fl 0 1)) H locs := hI
      refine q_as (y := bI (¬ 1 ≤ 0)) hp64 ?_
      refine lv_if_ne (tgt := 105) hx hb d_MD_mirror_67 (by decide) (fun c67 => ?_) (fun c67 => ?_)
      · have c67 := bI_ne0.mp c67
        exact hret () _ _ _ _ _ _ d_MD_mirror_105 hI (trivial) (Nat.le_refl 0) (Nat.le_refl 0)
      · have c67 := bI_eq0.mp c67
        exact absurd (by decide) c67
  · have c4 := bI_ne0.mp c4
    refine lv_iload_n hx hb d_MD_mirror_7 rfl (lv_at hl 2 rfl) ?_
    refine q_calliS [.int y] M hI (c_MD_isCharacter l g (mw g ad ar fl) y) ok_MD_isCharacter m5_52 m5_53 rfl rfl hl.1 ⟨rfl, rfl⟩ ⟨Nat.le_of_ble_eq_true rfl, Nat.le_of_ble_eq_true rfl⟩ (Nat.le_of_ble_eq_true rfl) ⟨Nat.le_of_ble_eq_true rfl, Nat.le_of_ble_eq_true rfl⟩ d_MD_mirror_8 (fun r8 u8 H locs hp8 hI => ?_)
    refine q_as (y := bI (isch y)) hp8 ?_
    refine lv_if_eq (tgt := 39) hx hb d_MD_mirror_11 (by decide) (fun c11 => ?_) (fun c11 => ?_)
    · have c11 := bI_eq0.mp c11
      refine lv_iconst (v := 0) hx hb d_MD_mirror_39 (by decide) ?_
      refine lv_istore_n (lv' := [(3, .int 0), (0, .ref (ad 0)), (1, .int x), (2, .int y)]) hx hb d_MD_mirror_40 rfl hl (by decide) rfl (fun ls hl => ?_)
      refine lv_aload_n hx hb d_MD_mirror_41 rfl (lv_at hl 1 rfl) ?_
      refine lv_iload_n hx hb d_MD_mirror_42 rfl (lv_at hl 0 rfl) ?_
      refine lv_if_ne (tgt := 50) hx hb d_MD_mirror_43 (by decide) (fun c43 => ?_) (fun c43 => ?_)
      · have c43 : ¬ 0 = 0 := fun h => c43 ((nI_eq (a := 0) (b := 0) (by omega) (by omega)).mpr h)
        exfalso; omega
      · have c43 : 0 = 0 := (nI_eq (a := 0) (b := 0) (by omega) (by omega)).mp c43
        refine lv_iconst (v := 1) hx hb d_MD_mirror_46 (by decide) ?_
        refine lv_goto (tgt := 64) hx hb d_MD_mirror_47 (by decide) ?_
        refine q_calliV [.int 1] M hI (c_MD_refused l g ad ar fl 1) ok_MD_refused m5_56 m5_58 ms_45 0 rfl rfl rfl rfl hl.1 ⟨rfl, rfl⟩ ⟨Nat.le_of_ble_eq_true rfl, Nat.le_of_ble_eq_true rfl⟩ (Nat.le_of_ble_eq_true rfl) ⟨Nat.le_of_ble_eq_true rfl, Nat.le_of_ble_eq_true rfl⟩ d_MD_mirror_64 (fun r64 u64 H locs hp64 hI => ?_)
        have hI : CI g A s (mw g ad ar (va_up fl 0 1)) H locs := hI
        refine q_as (y := bI (¬ 1 ≤ 0)) hp64 ?_
        refine lv_if_ne (tgt := 105) hx hb d_MD_mirror_67 (by decide) (fun c67 => ?_) (fun c67 => ?_)
        · have c67 := bI_ne0.mp c67
          exact hret () _ _ _ _ _ _ d_MD_mirror_105 hI (trivial) (Nat.le_refl 0) (Nat.le_refl 0)
        · have c67 := bI_eq0.mp c67
          exact absurd (by decide) c67
    · have c11 := bI_ne0.mp c11
      refine lv_iload_n hx hb d_MD_mirror_14 rfl (lv_at hl 1 rfl) ?_
      refine lv_iload_n hx hb d_MD_mirror_15 rfl (lv_at hl 2 rfl) ?_
      refine lv_icmp_eq (tgt := 39) hx hb d_MD_mirror_16 (by decide) (fun c16 => ?_) (fun c16 => ?_)
      · refine lv_iconst (v := 0) hx hb d_MD_mirror_39 (by decide) ?_
        refine lv_istore_n (lv' := [(3, .int 0), (0, .ref (ad 0)), (1, .int x), (2, .int y)]) hx hb d_MD_mirror_40 rfl hl (by decide) rfl (fun ls hl => ?_)
        refine lv_aload_n hx hb d_MD_mirror_41 rfl (lv_at hl 1 rfl) ?_
        refine lv_iload_n hx hb d_MD_mirror_42 rfl (lv_at hl 0 rfl) ?_
        refine lv_if_ne (tgt := 50) hx hb d_MD_mirror_43 (by decide) (fun c43 => ?_) (fun c43 => ?_)
        · have c43 : ¬ 0 = 0 := fun h => c43 ((nI_eq (a := 0) (b := 0) (by omega) (by omega)).mpr h)
          exfalso; omega
        · have c43 : 0 = 0 := (nI_eq (a := 0) (b := 0) (by omega) (by omega)).mp c43
          refine lv_iconst (v := 1) hx hb d_MD_mirror_46 (by decide) ?_
          refine lv_goto (tgt := 64) hx hb d_MD_mirror_47 (by decide) ?_
          refine q_calliV [.int 1] M hI (c_MD_refused l g ad ar fl 1) ok_MD_refused m5_56 m5_58 ms_45 0 rfl rfl rfl rfl hl.1 ⟨rfl, rfl⟩ ⟨Nat.le_of_ble_eq_true rfl, Nat.le_of_ble_eq_true rfl⟩ (Nat.le_of_ble_eq_true rfl) ⟨Nat.le_of_ble_eq_true rfl, Nat.le_of_ble_eq_true rfl⟩ d_MD_mirror_64 (fun r64 u64 H locs hp64 hI => ?_)
          have hI : CI g A s (mw g ad ar (va_up fl 0 1)) H locs := hI
          refine q_as (y := bI (¬ 1 ≤ 0)) hp64 ?_
          refine lv_if_ne (tgt := 105) hx hb d_MD_mirror_67 (by decide) (fun c67 => ?_) (fun c67 => ?_)
          · have c67 := bI_ne0.mp c67
            exact hret () _ _ _ _ _ _ d_MD_mirror_105 hI (trivial) (Nat.le_refl 0) (Nat.le_refl 0)
          · have c67 := bI_eq0.mp c67
            exact absurd (by decide) c67
      · refine lv_aload_n hx hb d_MD_mirror_19 rfl (lv_at hl 0 rfl) ?_
        refine lv_iload_n hx hb d_MD_mirror_20 rfl (lv_at hl 1 rfl) ?_
        refine q_calliV [.int x] M hI (c_MD_mirrorOf l g ad ar fl x mn (hcnt) (hcN)) ok_MD_mirrorOf m5_80 m5_82 ms_49 0 rfl rfl rfl rfl hl.1 ⟨rfl, rfl⟩ ⟨Nat.le_of_ble_eq_true rfl, Nat.le_of_ble_eq_true rfl⟩ (Nat.le_of_ble_eq_true rfl) ⟨Nat.le_of_ble_eq_true rfl, Nat.le_of_ble_eq_true rfl⟩ d_MD_mirror_21 (fun r21 u21 H locs hp21 hI => ?_)
        refine q_as (y := mir (ar 7) (ar 8) x mn) hp21 ?_
        refine lv_if_ge (tgt := 39) hx hb d_MD_mirror_24 (by decide) (fun c24 => ?_) (fun c24 => ?_)
        · refine lv_iconst (v := 0) hx hb d_MD_mirror_39 (by decide) ?_
          refine lv_istore_n (lv' := [(3, .int 0), (0, .ref (ad 0)), (1, .int x), (2, .int y)]) hx hb d_MD_mirror_40 rfl hl (by decide) rfl (fun ls hl => ?_)
          refine lv_aload_n hx hb d_MD_mirror_41 rfl (lv_at hl 1 rfl) ?_
          refine lv_iload_n hx hb d_MD_mirror_42 rfl (lv_at hl 0 rfl) ?_
          refine lv_if_ne (tgt := 50) hx hb d_MD_mirror_43 (by decide) (fun c43 => ?_) (fun c43 => ?_)
          · have c43 : ¬ 0 = 0 := fun h => c43 ((nI_eq (a := 0) (b := 0) (by omega) (by omega)).mpr h)
            exfalso; omega
          · have c43 : 0 = 0 := (nI_eq (a := 0) (b := 0) (by omega) (by omega)).mp c43
            refine lv_iconst (v := 1) hx hb d_MD_mirror_46 (by decide) ?_
            refine lv_goto (tgt := 64) hx hb d_MD_mirror_47 (by decide) ?_
            refine q_calliV [.int 1] M hI (c_MD_refused l g ad ar fl 1) ok_MD_refused m5_56 m5_58 ms_45 0 rfl rfl rfl rfl hl.1 ⟨rfl, rfl⟩ ⟨Nat.le_of_ble_eq_true rfl, Nat.le_of_ble_eq_true rfl⟩ (Nat.le_of_ble_eq_true rfl) ⟨Nat.le_of_ble_eq_true rfl, Nat.le_of_ble_eq_true rfl⟩ d_MD_mirror_64 (fun r64 u64 H locs hp64 hI => ?_)
            have hI : CI g A s (mw g ad ar (va_up fl 0 1)) H locs := hI
            refine q_as (y := bI (¬ 1 ≤ 0)) hp64 ?_
            refine lv_if_ne (tgt := 105) hx hb d_MD_mirror_67 (by decide) (fun c67 => ?_) (fun c67 => ?_)
            · have c67 := bI_ne0.mp c67
              exact hret () _ _ _ _ _ _ d_MD_mirror_105 hI (trivial) (Nat.le_refl 0) (Nat.le_refl 0)
            · have c67 := bI_eq0.mp c67
              exact absurd (by decide) c67
        · refine lv_aload_n hx hb d_MD_mirror_27 rfl (lv_at hl 0 rfl) ?_
          refine lv_iload_n hx hb d_MD_mirror_28 rfl (lv_at hl 2 rfl) ?_
          refine q_calliV [.int y] M hI (c_MD_mirrorOf l g ad ar fl y mn (hcnt) (hcN)) ok_MD_mirrorOf m5_80 m5_82 ms_49 0 rfl rfl rfl rfl hl.1 ⟨rfl, rfl⟩ ⟨Nat.le_of_ble_eq_true rfl, Nat.le_of_ble_eq_true rfl⟩ (Nat.le_of_ble_eq_true rfl) ⟨Nat.le_of_ble_eq_true rfl, Nat.le_of_ble_eq_true rfl⟩ d_MD_mirror_29 (fun r29 u29 H locs hp29 hI => ?_)
          refine q_as (y := mir (ar 7) (ar 8) y mn) hp29 ?_
          refine lv_if_ge (tgt := 39) hx hb d_MD_mirror_32 (by decide) (fun c32 => ?_) (fun c32 => ?_)
          · refine lv_iconst (v := 0) hx hb d_MD_mirror_39 (by decide) ?_
            refine lv_istore_n (lv' := [(3, .int 0), (0, .ref (ad 0)), (1, .int x), (2, .int y)]) hx hb d_MD_mirror_40 rfl hl (by decide) rfl (fun ls hl => ?_)
            refine lv_aload_n hx hb d_MD_mirror_41 rfl (lv_at hl 1 rfl) ?_
            refine lv_iload_n hx hb d_MD_mirror_42 rfl (lv_at hl 0 rfl) ?_
            refine lv_if_ne (tgt := 50) hx hb d_MD_mirror_43 (by decide) (fun c43 => ?_) (fun c43 => ?_)
            · have c43 : ¬ 0 = 0 := fun h => c43 ((nI_eq (a := 0) (b := 0) (by omega) (by omega)).mpr h)
              exfalso; omega
            · have c43 : 0 = 0 := (nI_eq (a := 0) (b := 0) (by omega) (by omega)).mp c43
              refine lv_iconst (v := 1) hx hb d_MD_mirror_46 (by decide) ?_
              refine lv_goto (tgt := 64) hx hb d_MD_mirror_47 (by decide) ?_
              refine q_calliV [.int 1] M hI (c_MD_refused l g ad ar fl 1) ok_MD_refused m5_56 m5_58 ms_45 0 rfl rfl rfl rfl hl.1 ⟨rfl, rfl⟩ ⟨Nat.le_of_ble_eq_true rfl, Nat.le_of_ble_eq_true rfl⟩ (Nat.le_of_ble_eq_true rfl) ⟨Nat.le_of_ble_eq_true rfl, Nat.le_of_ble_eq_true rfl⟩ d_MD_mirror_64 (fun r64 u64 H locs hp64 hI => ?_)
              have hI : CI g A s (mw g ad ar (va_up fl 0 1)) H locs := hI
              refine q_as (y := bI (¬ 1 ≤ 0)) hp64 ?_
              refine lv_if_ne (tgt := 105) hx hb d_MD_mirror_67 (by decide) (fun c67 => ?_) (fun c67 => ?_)
              · have c67 := bI_ne0.mp c67
                exact hret () _ _ _ _ _ _ d_MD_mirror_105 hI (trivial) (Nat.le_refl 0) (Nat.le_refl 0)
              · have c67 := bI_eq0.mp c67
                exact absurd (by decide) c67
          · exact absurd ⟨c4, c11, c16, c24, c32⟩ hS
abbrev rm_MD_mirror_c_MD_mirror_2 : Room := { frames := 1, cells := 0, slots := 0, locals := 23 }
set_option maxHeartbeats 4000000 in
set_option maxRecDepth 100000 in
theorem c_MD_mirror_2 (l : Launch) (g : Geo) (ad : Nat → Nat) (ar : Nat → Nat → Int32) (fl : Nat → Int32) (x : Int32) (y : Int32) (mn : Nat) (hcnt : fl 4 = nI mn) (hcN : mn ≤ 40) (hS : (isch x ∧ isch y ∧ ¬ x = y ∧ ¬ 0 ≤ mir (ar 7) (ar 8) x mn ∧ ¬ 0 ≤ mir (ar 7) (ar 8) y mn)) (hfu : mn = 40) : cMv l y_MD_mirror (.code y_MD_mirror b_MD_mirror 4 none :: gw) rm_MD_mirror_c_MD_mirror_2 g [.ref (ad 0), .int x, .int y] (mw g ad ar fl) (fun (_ : Unit) => True) (fun (_ : Unit) => mw g ad ar (va_up fl 0 2)) 0 0 := by
  refine cMv_of (by decide) (Nat.le_of_ble_eq_true rfl) ?_
  intro p e s m below meth c A Q ls M hnm hret hl hI
  have M : MC p s m ([.ref (ad 0), .int x, .int y] : List Value).toArray meth c R_MD b_MD_mirror 4 := M
  have hl : lv_has ls 4 [(0, .ref (ad 0)), (1, .int x), (2, .int y)] := hl
  generalize ([.ref (ad 0), .int x, .int y] : List Value).toArray = args at M hret ⊢
  have hx := M.1
  have hb := M.2.1
  refine lv_iload_n hx hb d_MD_mirror_0 rfl (lv_at hl 1 rfl) ?_
  refine q_calliS [.int x] M hI (c_MD_isCharacter l g (mw g ad ar fl) x) ok_MD_isCharacter m5_52 m5_53 rfl rfl hl.1 ⟨rfl, rfl⟩ ⟨Nat.le_of_ble_eq_true rfl, Nat.le_of_ble_eq_true rfl⟩ (Nat.le_of_ble_eq_true rfl) ⟨Nat.le_of_ble_eq_true rfl, Nat.le_of_ble_eq_true rfl⟩ d_MD_mirror_1 (fun r1 u1 H locs hp1 hI => ?_)
  refine q_as (y := bI (isch x)) hp1 ?_
  refine lv_if_eq (tgt := 39) hx hb d_MD_mirror_4 (by decide) (fun c4 => ?_) (fun c4 => ?_)
  · have c4 := bI_eq0.mp c4
    exact absurd hS.1 c4
  · have c4 := bI_ne0.mp c4
    refine lv_iload_n hx hb d_MD_mirror_7 rfl (lv_at hl 2 rfl) ?_
    refine q_calliS [.int y] M hI (c_MD_isCharacter l g (mw g ad ar fl) y) ok_MD_isCharacter m5_52 m5_53 rfl rfl hl.1 ⟨rfl, rfl⟩ ⟨Nat.le_of_ble_eq_true rfl, Nat.le_of_ble_eq_true rfl⟩ (Nat.le_of_ble_eq_true rfl) ⟨Nat.le_of_ble_eq_true rfl, Nat.le_of_ble_eq_true rfl⟩ d_MD_mirror_8 (fun r8 u8 H locs hp8 hI => ?_)
    refine q_as (y := bI (isch y)) hp8 ?_
    refine lv_if_eq (tgt := 39) hx hb d_MD_mirror_11 (by decide) (fun c11 => ?_) (fun c11 => ?_)
    · have c11 := bI_eq0.mp c11
      exact absurd hS.2.1 c11
    · have c11 := bI_ne0.mp c11
      refine lv_iload_n hx hb d_MD_mirror_14 rfl (lv_at hl 1 rfl) ?_
      refine lv_iload_n hx hb d_MD_mirror_15 rfl (lv_at hl 2 rfl) ?_
      refine lv_icmp_eq (tgt := 39) hx hb d_MD_mirror_16 (by decide) (fun c16 => ?_) (fun c16 => ?_)
      · exact absurd c16 hS.2.2.1
      · refine lv_aload_n hx hb d_MD_mirror_19 rfl (lv_at hl 0 rfl) ?_
        refine lv_iload_n hx hb d_MD_mirror_20 rfl (lv_at hl 1 rfl) ?_
        refine q_calliV [.int x] M hI (c_MD_mirrorOf l g ad ar fl x mn (hcnt) (hcN)) ok_MD_mirrorOf m5_80 m5_82 ms_49 0 rfl rfl rfl rfl hl.1 ⟨rfl, rfl⟩ ⟨Nat.le_of_ble_eq_true rfl, Nat.le_of_ble_eq_true rfl⟩ (Nat.le_of_ble_eq_true rfl) ⟨Nat.le_of_ble_eq_true rfl, Nat.le_of_ble_eq_true rfl⟩ d_MD_mirror_21 (fun r21 u21 H locs hp21 hI => ?_)
        refine q_as (y := mir (ar 7) (ar 8) x mn) hp21 ?_
        refine lv_if_ge (tgt := 39) hx hb d_MD_mirror_24 (by decide) (fun c24 => ?_) (fun c24 => ?_)
        · exact absurd c24 hS.2.2.2.1
        · refine lv_aload_n hx hb d_MD_mirror_27 rfl (lv_at hl 0 rfl) ?_
          refine lv_iload_n hx hb d_MD_mirror_28 rfl (lv_at hl 2 rfl) ?_
          refine q_calliV [.int y] M hI (c_MD_mirrorOf l g ad ar fl y mn (hcnt) (hcN)) ok_MD_mirrorOf m5_80 m5_82 ms_49 0 rfl rfl rfl rfl hl.1 ⟨rfl, rfl⟩ ⟨Nat.le_of_ble_eq_true rfl, Nat.le_of_ble_eq_true rfl⟩ (Nat.le_of_ble_eq_true rfl) ⟨Nat.le_of_ble_eq_true rfl, Nat.le_of_ble_eq_true rfl⟩ d_MD_mirror_29 (fun r29 u29 H locs hp29 hI => ?_)
          refine q_as (y := mir (ar 7) (ar 8) y mn) hp29 ?_
          refine lv_if_ge (tgt := 39) hx hb d_MD_mirror_32 (by decide) (fun c32 => ?_) (fun c32 => ?_)
          · exact absurd c32 hS.2.2.2.2
          · refine lv_iconst (v := 1) hx hb d_MD_mirror_35 (by decide) ?_
            refine lv_goto (tgt := 40) hx hb d_MD_mirror_36 (by decide) ?_
            refine lv_istore_n (lv' := [(3, .int 1), (0, .ref (ad 0)), (1, .int x), (2, .int y)]) hx hb d_MD_mirror_40 rfl hl (by decide) rfl (fun ls hl => ?_)
            refine lv_aload_n hx hb d_MD_mirror_41 rfl (lv_at hl 1 rfl) ?_
            refine lv_iload_n hx hb d_MD_mirror_42 rfl (lv_at hl 0 rfl) ?_
            refine lv_if_ne (tgt := 50) hx hb d_MD_mirror_43 (by decide) (fun c43 => ?_) (fun c43 => ?_)
            · have c43 : ¬ 1 = 0 := fun h => c43 ((nI_eq (a := 1) (b := 0) (by omega) (by omega)).mpr h)
              refine lv_aload_n hx hb d_MD_mirror_50 rfl (lv_at hl 1 rfl) ?_
              refine g_MD_109 M hI d_MD_mirror_51 ?_
              refine q_as (y := nI mn) hcnt ?_
              refine lv_bipush (v := 40) hx hb d_MD_mirror_54 (by decide) ?_
              refine lv_icmp_ne (tgt := 63) hx hb d_MD_mirror_56 (by decide) (fun c56 => ?_) (fun c56 => ?_)
              · have c56 : ¬ mn = 40 := fun h => c56 ((nI_eq (a := mn) (b := 40) (by omega) (by omega)).mpr h)
                exfalso; omega
              · have c56 : mn = 40 := (nI_eq (a := mn) (b := 40) (by omega) (by omega)).mp c56
                refine lv_iconst (v := 2) hx hb d_MD_mirror_59 (by decide) ?_
                refine lv_goto (tgt := 64) hx hb d_MD_mirror_60 (by decide) ?_
                refine q_calliV [.int 2] M hI (c_MD_refused l g ad ar fl 2) ok_MD_refused m5_56 m5_58 ms_45 0 rfl rfl rfl rfl hl.1 ⟨rfl, rfl⟩ ⟨Nat.le_of_ble_eq_true rfl, Nat.le_of_ble_eq_true rfl⟩ (Nat.le_of_ble_eq_true rfl) ⟨Nat.le_of_ble_eq_true rfl, Nat.le_of_ble_eq_true rfl⟩ d_MD_mirror_64 (fun r64 u64 H locs hp64 hI => ?_)
                have hI : CI g A s (mw g ad ar (va_up fl 0 2)) H locs := hI
                refine q_as (y := bI (¬ 2 ≤ 0)) hp64 ?_
                refine lv_if_ne (tgt := 105) hx hb d_MD_mirror_67 (by decide) (fun c67 => ?_) (fun c67 => ?_)
                · have c67 := bI_ne0.mp c67
                  exact hret () _ _ _ _ _ _ d_MD_mirror_105 hI (trivial) (Nat.le_refl 0) (Nat.le_refl 0)
                · have c67 := bI_eq0.mp c67
                  exact absurd (by decide) c67
            · have c43 : 1 = 0 := (nI_eq (a := 1) (b := 0) (by omega) (by omega)).mp c43
              exfalso; omega
abbrev rm_MD_mirror_c_MD_mirror_0 : Room := { frames := 1, cells := 0, slots := 0, locals := 23 }
set_option maxHeartbeats 4000000 in
set_option maxRecDepth 100000 in
theorem c_MD_mirror_0 (l : Launch) (g : Geo) (ad : Nat → Nat) (ar : Nat → Nat → Int32) (fl : Nat → Int32) (x : Int32) (y : Int32) (mn : Nat) (hcnt : fl 4 = nI mn) (hcN : mn ≤ 40) (hS : (isch x ∧ isch y ∧ ¬ x = y ∧ ¬ 0 ≤ mir (ar 7) (ar 8) x mn ∧ ¬ 0 ≤ mir (ar 7) (ar 8) y mn)) (hfu : mn < 40) : cMv l y_MD_mirror (.code y_MD_mirror b_MD_mirror 4 none :: gw) rm_MD_mirror_c_MD_mirror_0 g [.ref (ad 0), .int x, .int y] (mw g ad ar fl) (fun (_ : Unit) => True) (fun (_ : Unit) => mw g ad (va_up (va_up ar 7 (upd (ar 7) mn x)) 8 (upd (ar 8) mn y)) (va_up (va_up (va_up fl 0 0) 4 (nI (mn + 1))) 5 0)) 0 0 := by
  refine cMv_of (by decide) (Nat.le_of_ble_eq_true rfl) ?_
  intro p e s m below meth c A Q ls M hnm hret hl hI
  have M : MC p s m ([.ref (ad 0), .int x, .int y] : List Value).toArray meth c R_MD b_MD_mirror 4 := M
  have hl : lv_has ls 4 [(0, .ref (ad 0)), (1, .int x), (2, .int y)] := hl
  generalize ([.ref (ad 0), .int x, .int y] : List Value).toArray = args at M hret ⊢
  have hx := M.1
  have hb := M.2.1
  refine lv_iload_n hx hb d_MD_mirror_0 rfl (lv_at hl 1 rfl) ?_
  refine q_calliS [.int x] M hI (c_MD_isCharacter l g (mw g ad ar fl) x) ok_MD_isCharacter m5_52 m5_53 rfl rfl hl.1 ⟨rfl, rfl⟩ ⟨Nat.le_of_ble_eq_true rfl, Nat.le_of_ble_eq_true rfl⟩ (Nat.le_of_ble_eq_true rfl) ⟨Nat.le_of_ble_eq_true rfl, Nat.le_of_ble_eq_true rfl⟩ d_MD_mirror_1 (fun r1 u1 H locs hp1 hI => ?_)
  refine q_as (y := bI (isch x)) hp1 ?_
  refine lv_if_eq (tgt := 39) hx hb d_MD_mirror_4 (by decide) (fun c4 => ?_) (fun c4 => ?_)
  · have c4 := bI_eq0.mp c4
    exact absurd hS.1 c4
  · have c4 := bI_ne0.mp c4
    refine lv_iload_n hx hb d_MD_mirror_7 rfl (lv_at hl 2 rfl) ?_
    refine q_calliS [.int y] M hI (c_MD_isCharacter l g (mw g ad ar fl) y) ok_MD_isCharacter m5_52 m5_53 rfl rfl hl.1 ⟨rfl, rfl⟩ ⟨Nat.le_of_ble_eq_true rfl, Nat.le_of_ble_eq_true rfl⟩ (Nat.le_of_ble_eq_true rfl) ⟨Nat.le_of_ble_eq_true rfl, Nat.le_of_ble_eq_true rfl⟩ d_MD_mirror_8 (fun r8 u8 H locs hp8 hI => ?_)
    refine q_as (y := bI (isch y)) hp8 ?_
    refine lv_if_eq (tgt := 39) hx hb d_MD_mirror_11 (by decide) (fun c11 => ?_) (fun c11 => ?_)
    · have c11 := bI_eq0.mp c11
      exact absurd hS.2.1 c11
    · have c11 := bI_ne0.mp c11
      refine lv_iload_n hx hb d_MD_mirror_14 rfl (lv_at hl 1 rfl) ?_
      refine lv_iload_n hx hb d_MD_mirror_15 rfl (lv_at hl 2 rfl) ?_
      refine lv_icmp_eq (tgt := 39) hx hb d_MD_mirror_16 (by decide) (fun c16 => ?_) (fun c16 => ?_)
      · exact absurd c16 hS.2.2.1
      · refine lv_aload_n hx hb d_MD_mirror_19 rfl (lv_at hl 0 rfl) ?_
        refine lv_iload_n hx hb d_MD_mirror_20 rfl (lv_at hl 1 rfl) ?_
        refine q_calliV [.int x] M hI (c_MD_mirrorOf l g ad ar fl x mn (hcnt) (hcN)) ok_MD_mirrorOf m5_80 m5_82 ms_49 0 rfl rfl rfl rfl hl.1 ⟨rfl, rfl⟩ ⟨Nat.le_of_ble_eq_true rfl, Nat.le_of_ble_eq_true rfl⟩ (Nat.le_of_ble_eq_true rfl) ⟨Nat.le_of_ble_eq_true rfl, Nat.le_of_ble_eq_true rfl⟩ d_MD_mirror_21 (fun r21 u21 H locs hp21 hI => ?_)
        refine q_as (y := mir (ar 7) (ar 8) x mn) hp21 ?_
        refine lv_if_ge (tgt := 39) hx hb d_MD_mirror_24 (by decide) (fun c24 => ?_) (fun c24 => ?_)
        · exact absurd c24 hS.2.2.2.1
        · refine lv_aload_n hx hb d_MD_mirror_27 rfl (lv_at hl 0 rfl) ?_
          refine lv_iload_n hx hb d_MD_mirror_28 rfl (lv_at hl 2 rfl) ?_
          refine q_calliV [.int y] M hI (c_MD_mirrorOf l g ad ar fl y mn (hcnt) (hcN)) ok_MD_mirrorOf m5_80 m5_82 ms_49 0 rfl rfl rfl rfl hl.1 ⟨rfl, rfl⟩ ⟨Nat.le_of_ble_eq_true rfl, Nat.le_of_ble_eq_true rfl⟩ (Nat.le_of_ble_eq_true rfl) ⟨Nat.le_of_ble_eq_true rfl, Nat.le_of_ble_eq_true rfl⟩ d_MD_mirror_29 (fun r29 u29 H locs hp29 hI => ?_)
          refine q_as (y := mir (ar 7) (ar 8) y mn) hp29 ?_
          refine lv_if_ge (tgt := 39) hx hb d_MD_mirror_32 (by decide) (fun c32 => ?_) (fun c32 => ?_)
          · exact absurd c32 hS.2.2.2.2
          · refine lv_iconst (v := 1) hx hb d_MD_mirror_35 (by decide) ?_
            refine lv_goto (tgt := 40) hx hb d_MD_mirror_36 (by decide) ?_
            refine lv_istore_n (lv' := [(3, .int 1), (0, .ref (ad 0)), (1, .int x), (2, .int y)]) hx hb d_MD_mirror_40 rfl hl (by decide) rfl (fun ls hl => ?_)
            refine lv_aload_n hx hb d_MD_mirror_41 rfl (lv_at hl 1 rfl) ?_
            refine lv_iload_n hx hb d_MD_mirror_42 rfl (lv_at hl 0 rfl) ?_
            refine lv_if_ne (tgt := 50) hx hb d_MD_mirror_43 (by decide) (fun c43 => ?_) (fun c43 => ?_)
            · have c43 : ¬ 1 = 0 := fun h => c43 ((nI_eq (a := 1) (b := 0) (by omega) (by omega)).mpr h)
              refine lv_aload_n hx hb d_MD_mirror_50 rfl (lv_at hl 1 rfl) ?_
              refine g_MD_109 M hI d_MD_mirror_51 ?_
              refine q_as (y := nI mn) hcnt ?_
              refine lv_bipush (v := 40) hx hb d_MD_mirror_54 (by decide) ?_
              refine lv_icmp_ne (tgt := 63) hx hb d_MD_mirror_56 (by decide) (fun c56 => ?_) (fun c56 => ?_)
              · have c56 : ¬ mn = 40 := fun h => c56 ((nI_eq (a := mn) (b := 40) (by omega) (by omega)).mpr h)
                refine lv_iconst (v := 0) hx hb d_MD_mirror_63 (by decide) ?_
                refine q_calliV [.int 0] M hI (c_MD_refused l g ad ar fl 0) ok_MD_refused m5_56 m5_58 ms_45 0 rfl rfl rfl rfl hl.1 ⟨rfl, rfl⟩ ⟨Nat.le_of_ble_eq_true rfl, Nat.le_of_ble_eq_true rfl⟩ (Nat.le_of_ble_eq_true rfl) ⟨Nat.le_of_ble_eq_true rfl, Nat.le_of_ble_eq_true rfl⟩ d_MD_mirror_64 (fun r64 u64 H locs hp64 hI => ?_)
                have hI : CI g A s (mw g ad ar (va_up fl 0 0)) H locs := hI
                refine q_as (y := bI (¬ 0 ≤ 0)) hp64 ?_
                refine lv_if_ne (tgt := 105) hx hb d_MD_mirror_67 (by decide) (fun c67 => ?_) (fun c67 => ?_)
                · have c67 := bI_ne0.mp c67
                  exact absurd (by decide) c67
                · have c67 := bI_eq0.mp c67
                  refine lv_aload_n hx hb d_MD_mirror_70 rfl (lv_at hl 1 rfl) ?_
                  refine g_MD_28 M hI d_MD_mirror_71 ?_
                  refine lv_aload_n hx hb d_MD_mirror_74 rfl (lv_at hl 1 rfl) ?_
                  refine g_MD_109 M hI d_MD_mirror_75 ?_
                  refine q_as (y := nI mn) hcnt ?_
                  refine lv_iload_n hx hb d_MD_mirror_78 rfl (lv_at hl 2 rfl) ?_
                  refine bs_7 M hI mn rfl (by omega) d_MD_mirror_79 (fun H locs hI => ?_)
                  have hI : CI g A s (mw g ad (va_up ar 7 (upd (ar 7) mn x)) (va_up fl 0 0)) H locs := hI
                  refine lv_aload_n hx hb d_MD_mirror_80 rfl (lv_at hl 1 rfl) ?_
                  refine g_MD_31 M hI d_MD_mirror_81 ?_
                  refine lv_aload_n hx hb d_MD_mirror_84 rfl (lv_at hl 1 rfl) ?_
                  refine g_MD_109 M hI d_MD_mirror_85 ?_
                  refine q_as (y := nI mn) hcnt ?_
                  refine lv_iload_n hx hb d_MD_mirror_88 rfl (lv_at hl 3 rfl) ?_
                  refine bs_8 M hI mn rfl (by omega) d_MD_mirror_89 (fun H locs hI => ?_)
                  have hI : CI g A s (mw g ad (va_up (va_up ar 7 (upd (ar 7) mn x)) 8 (upd (ar 8) mn y)) (va_up fl 0 0)) H locs := hI
                  refine lv_aload_n hx hb d_MD_mirror_90 rfl (lv_at hl 1 rfl) ?_
                  refine lv_dup hx hb d_MD_mirror_91 rfl ?_
                  refine g_MD_109 M hI d_MD_mirror_92 ?_
                  refine q_as (y := nI mn) hcnt ?_
                  refine lv_iconst (v := 1) hx hb d_MD_mirror_95 (by decide) ?_
                  refine lv_iadd hx hb d_MD_mirror_96 ?_
                  refine q_as (y := nI (mn + 1)) (nI_add mn 1) ?_
                  refine p_MD_109 M hI d_MD_mirror_97 (fun H locs hI => ?_)
                  have hI : CI g A s (mw g ad (va_up (va_up ar 7 (upd (ar 7) mn x)) 8 (upd (ar 8) mn y)) (va_up (va_up fl 0 0) 4 (nI (mn + 1)))) H locs := hI
                  refine lv_aload_n hx hb d_MD_mirror_100 rfl (lv_at hl 1 rfl) ?_
                  refine lv_iconst (v := 0) hx hb d_MD_mirror_101 (by decide) ?_
                  refine p_MD_92 M hI rfl rfl d_MD_mirror_102 (fun H locs hI => ?_)
                  have hI : CI g A s (mw g ad (va_up (va_up ar 7 (upd (ar 7) mn x)) 8 (upd (ar 8) mn y)) (va_up (va_up (va_up fl 0 0) 4 (nI (mn + 1))) 5 0)) H locs := hI
                  exact hret () _ _ _ _ _ _ d_MD_mirror_105 hI (trivial) (Nat.le_refl 0) (Nat.le_refl 0)
              · have c56 : mn = 40 := (nI_eq (a := mn) (b := 40) (by omega) (by omega)).mp c56
                exfalso; omega
            · have c43 : 1 = 0 := (nI_eq (a := 1) (b := 0) (by omega) (by omega)).mp c43
              exfalso; omega
abbrev rm_MD_clear : Room := { frames := 0, cells := 0, slots := 0, locals := 0 }
set_option maxHeartbeats 4000000 in
set_option maxRecDepth 100000 in
theorem c_MD_clear (l : Launch) (g : Geo) (ad : Nat → Nat) (ar : Nat → Nat → Int32) (fl : Nat → Int32) (cn : Nat) (hcn : fl 1 = nI cn) : cMi l y_MD_clear (.code y_MD_clear b_MD_clear 2 (some .int) :: gw) rm_MD_clear g [.ref (ad 0)] (mw g ad ar fl) (fun (r : Int32) (_ : Unit) => r = nI cn) (fun (_ : Unit) => mw g ad ar (va_up (va_up (va_up fl 0 0) 1 0) 5 0)) 0 0 := by
  refine cMi_of (by decide) (Nat.le_of_ble_eq_true rfl) ?_
  intro p e s m below meth c A Q ls M hret hl hI
  have M : MC p s m ([.ref (ad 0)] : List Value).toArray meth c R_MD b_MD_clear 2 := M
  have hl : lv_has ls 2 [(0, .ref (ad 0))] := hl
  generalize ([.ref (ad 0)] : List Value).toArray = args at M hret ⊢
  have hx := M.1
  have hb := M.2.1
  refine lv_aload_n hx hb d_MD_clear_0 rfl (lv_at hl 0 rfl) ?_
  refine lv_iconst (v := 0) hx hb d_MD_clear_1 (by decide) ?_
  refine p_MD_77 M hI d_MD_clear_2 (fun H locs hI => ?_)
  have hI : CI g A s (mw g ad ar (va_up fl 0 0)) H locs := hI
  refine lv_aload_n hx hb d_MD_clear_5 rfl (lv_at hl 0 rfl) ?_
  refine g_MD_119 M hI d_MD_clear_6 ?_
  refine q_as (y := nI cn) hcn ?_
  refine lv_istore_n (lv' := [(1, .int (nI cn)), (0, .ref (ad 0))]) hx hb d_MD_clear_9 rfl hl (by decide) rfl (fun ls hl => ?_)
  refine lv_aload_n hx hb d_MD_clear_10 rfl (lv_at hl 1 rfl) ?_
  refine lv_iconst (v := 0) hx hb d_MD_clear_11 (by decide) ?_
  refine p_MD_119 M hI d_MD_clear_12 (fun H locs hI => ?_)
  have hI : CI g A s (mw g ad ar (va_up (va_up fl 0 0) 1 0)) H locs := hI
  refine lv_aload_n hx hb d_MD_clear_15 rfl (lv_at hl 1 rfl) ?_
  refine lv_iconst (v := 0) hx hb d_MD_clear_16 (by decide) ?_
  refine p_MD_92 M hI rfl rfl d_MD_clear_17 (fun H locs hI => ?_)
  have hI : CI g A s (mw g ad ar (va_up (va_up (va_up fl 0 0) 1 0) 5 0)) H locs := hI
  refine lv_iload_n hx hb d_MD_clear_20 rfl (lv_at hl 0 rfl) ?_
  exact hret (nI cn) () _ _ _ _ _ _ d_MD_clear_21 hI (rfl) (Nat.le_refl 0) (Nat.le_refl 0)
abbrev rm_MD_resolve_c_MD_resolve_1 : Room := { frames := 1, cells := 0, slots := 0, locals := 21 }
set_option maxHeartbeats 4000000 in
set_option maxRecDepth 100000 in
theorem c_MD_resolve_1 (l : Launch) (g : Geo) (ad : Nat → Nat) (ar : Nat → Nat → Int32) (fl : Nat → Int32) (x : Int32) (hS : x < 0 ∨ 2 < x) : cMi l y_MD_resolve (.code y_MD_resolve b_MD_resolve 4 (some .int) :: gw) rm_MD_resolve_c_MD_resolve_1 g [.ref (ad 0), .int x] (mw g ad ar fl) (fun (r : Int32) (_ : Unit) => True) (fun (_ : Unit) => mw g ad ar (va_up fl 0 1)) 0 0 := by
  refine cMi_of (by decide) (Nat.le_of_ble_eq_true rfl) ?_
  intro p e s m below meth c A Q ls M hret hl hI
  have M : MC p s m ([.ref (ad 0), .int x] : List Value).toArray meth c R_MD b_MD_resolve 4 := M
  have hl : lv_has ls 4 [(0, .ref (ad 0)), (1, .int x)] := hl
  generalize ([.ref (ad 0), .int x] : List Value).toArray = args at M hret ⊢
  have hx := M.1
  have hb := M.2.1
  refine lv_aload_n hx hb d_MD_resolve_0 rfl (lv_at hl 0 rfl) ?_
  refine lv_iload_n hx hb d_MD_resolve_1 rfl (lv_at hl 1 rfl) ?_
  refine lv_if_lt (tgt := 10) hx hb d_MD_resolve_2 (by decide) (fun c2 => ?_) (fun c2 => ?_)
  · refine lv_iconst (v := 1) hx hb d_MD_resolve_10 (by decide) ?_
    refine lv_goto (tgt := 15) hx hb d_MD_resolve_11 (by decide) ?_
    refine q_calliV [.int 1] M hI (c_MD_refused l g ad ar fl 1) ok_MD_refused m5_56 m5_58 ms_45 0 rfl rfl rfl rfl hl.1 ⟨rfl, rfl⟩ ⟨Nat.le_of_ble_eq_true rfl, Nat.le_of_ble_eq_true rfl⟩ (Nat.le_of_ble_eq_true rfl) ⟨Nat.le_of_ble_eq_true rfl, Nat.le_of_ble_eq_true rfl⟩ d_MD_resolve_15 (fun r15 u15 H locs hp15 hI => ?_)
    have hI : CI g A s (mw g ad ar (va_up fl 0 1)) H locs := hI
    refine q_as (y := bI (¬ 1 ≤ 0)) hp15 ?_
    refine lv_if_eq (tgt := 23) hx hb d_MD_resolve_18 (by decide) (fun c18 => ?_) (fun c18 => ?_)
    · have c18 := bI_eq0.mp c18
      exact absurd (by decide) c18
    · have c18 := bI_ne0.mp c18
      refine lv_iconst (v := 0) hx hb d_MD_resolve_21 (by decide) ?_
      exact hret 0 () _ _ _ _ _ _ d_MD_resolve_22 hI (trivial) (Nat.le_refl 0) (Nat.le_refl 0)
  · refine lv_iload_n hx hb d_MD_resolve_5 rfl (lv_at hl 1 rfl) ?_
    refine lv_iconst (v := 2) hx hb d_MD_resolve_6 (by decide) ?_
    refine lv_icmp_le (tgt := 14) hx hb d_MD_resolve_7 (by decide) (fun c7 => ?_) (fun c7 => ?_)
    · exact absurd (hS.resolve_left c2) (Int32.not_lt.mpr c7)
    · refine lv_iconst (v := 1) hx hb d_MD_resolve_10 (by decide) ?_
      refine lv_goto (tgt := 15) hx hb d_MD_resolve_11 (by decide) ?_
      refine q_calliV [.int 1] M hI (c_MD_refused l g ad ar fl 1) ok_MD_refused m5_56 m5_58 ms_45 0 rfl rfl rfl rfl hl.1 ⟨rfl, rfl⟩ ⟨Nat.le_of_ble_eq_true rfl, Nat.le_of_ble_eq_true rfl⟩ (Nat.le_of_ble_eq_true rfl) ⟨Nat.le_of_ble_eq_true rfl, Nat.le_of_ble_eq_true rfl⟩ d_MD_resolve_15 (fun r15 u15 H locs hp15 hI => ?_)
      have hI : CI g A s (mw g ad ar (va_up fl 0 1)) H locs := hI
      refine q_as (y := bI (¬ 1 ≤ 0)) hp15 ?_
      refine lv_if_eq (tgt := 23) hx hb d_MD_resolve_18 (by decide) (fun c18 => ?_) (fun c18 => ?_)
      · have c18 := bI_eq0.mp c18
        exact absurd (by decide) c18
      · have c18 := bI_ne0.mp c18
        refine lv_iconst (v := 0) hx hb d_MD_resolve_21 (by decide) ?_
        exact hret 0 () _ _ _ _ _ _ d_MD_resolve_22 hI (trivial) (Nat.le_refl 0) (Nat.le_refl 0)
abbrev rm_MD_isWrong_c_MD_isWrong_1 : Room := { frames := 1, cells := 0, slots := 0, locals := 21 }
set_option maxHeartbeats 4000000 in
set_option maxRecDepth 100000 in
theorem c_MD_isWrong_1 (l : Launch) (g : Geo) (ad : Nat → Nat) (ar : Nat → Nat → Int32) (fl : Nat → Int32) (x : Int32) (h5 : fl 5 = 0) : cMi l y_MD_isWrong (.code y_MD_isWrong b_MD_isWrong 2 (some .boolean) :: gw) rm_MD_isWrong_c_MD_isWrong_1 g [.ref (ad 0), .int x] (mw g ad ar fl) (fun (r : Int32) (_ : Unit) => r = 1) (fun (_ : Unit) => mw g ad ar (va_up fl 0 1)) 0 0 := by
  refine cMz_of (by decide) (Nat.le_of_ble_eq_true rfl) ?_
  intro p e s m below meth c A Q ls M hret hl hI
  have M : MC p s m ([.ref (ad 0), .int x] : List Value).toArray meth c R_MD b_MD_isWrong 2 := M
  have hl : lv_has ls 2 [(0, .ref (ad 0)), (1, .int x)] := hl
  generalize ([.ref (ad 0), .int x] : List Value).toArray = args at M hret ⊢
  have hx := M.1
  have hb := M.2.1
  refine lv_aload_n hx hb d_MD_isWrong_0 rfl (lv_at hl 0 rfl) ?_
  refine lv_aload_n hx hb d_MD_isWrong_1 rfl (lv_at hl 0 rfl) ?_
  refine g_MD_92 M hI d_MD_isWrong_2 ?_
  refine q_as (y := 0) h5 ?_
  refine lv_if_ne (tgt := 12) hx hb d_MD_isWrong_5 (by decide) (fun c5 => ?_) (fun c5 => ?_)
  · have c5 : ¬ 0 = 0 := fun h => c5 ((nI_eq (a := 0) (b := 0) (by omega) (by omega)).mpr h)
    exfalso; omega
  · have c5 : 0 = 0 := (nI_eq (a := 0) (b := 0) (by omega) (by omega)).mp c5
    refine lv_iconst (v := 1) hx hb d_MD_isWrong_8 (by decide) ?_
    refine lv_goto (tgt := 29) hx hb d_MD_isWrong_9 (by decide) ?_
    refine q_calliV [.int 1] M hI (c_MD_refused l g ad ar fl 1) ok_MD_refused m5_56 m5_58 ms_45 0 rfl rfl rfl rfl hl.1 ⟨rfl, rfl⟩ ⟨Nat.le_of_ble_eq_true rfl, Nat.le_of_ble_eq_true rfl⟩ (Nat.le_of_ble_eq_true rfl) ⟨Nat.le_of_ble_eq_true rfl, Nat.le_of_ble_eq_true rfl⟩ d_MD_isWrong_29 (fun r29 u29 H locs hp29 hI => ?_)
    have hI : CI g A s (mw g ad ar (va_up fl 0 1)) H locs := hI
    refine q_as (y := bI (¬ 1 ≤ 0)) hp29 ?_
    exact hret (bI (¬ 1 ≤ 0)) () _ _ _ _ _ _ d_MD_isWrong_32 hI (bI_t (by decide)) (by first | rfl | exact bI_narrow) (Nat.le_refl 0) (Nat.le_refl 0)
abbrev rm_MD_isWrong_c_MD_isWrong_2 : Room := { frames := 1, cells := 0, slots := 0, locals := 21 }
set_option maxHeartbeats 4000000 in
set_option maxRecDepth 100000 in
theorem c_MD_isWrong_2 (l : Launch) (g : Geo) (ad : Nat → Nat) (ar : Nat → Nat → Int32) (fl : Nat → Int32) (x : Int32) (cn : Nat) (h5 : fl 5 = 1) (h1 : fl 1 = nI cn) (hcN : cn ≤ 2000) (hS : x < 0 ∨ nI cn ≤ x) : cMi l y_MD_isWrong (.code y_MD_isWrong b_MD_isWrong 2 (some .boolean) :: gw) rm_MD_isWrong_c_MD_isWrong_2 g [.ref (ad 0), .int x] (mw g ad ar fl) (fun (r : Int32) (_ : Unit) => r = 1) (fun (_ : Unit) => mw g ad ar (va_up fl 0 2)) 0 0 := by
  refine cMz_of (by decide) (Nat.le_of_ble_eq_true rfl) ?_
  intro p e s m below meth c A Q ls M hret hl hI
  have M : MC p s m ([.ref (ad 0), .int x] : List Value).toArray meth c R_MD b_MD_isWrong 2 := M
  have hl : lv_has ls 2 [(0, .ref (ad 0)), (1, .int x)] := hl
  generalize ([.ref (ad 0), .int x] : List Value).toArray = args at M hret ⊢
  have hx := M.1
  have hb := M.2.1
  refine lv_aload_n hx hb d_MD_isWrong_0 rfl (lv_at hl 0 rfl) ?_
  refine lv_aload_n hx hb d_MD_isWrong_1 rfl (lv_at hl 0 rfl) ?_
  refine g_MD_92 M hI d_MD_isWrong_2 ?_
  refine q_as (y := 1) h5 ?_
  refine lv_if_ne (tgt := 12) hx hb d_MD_isWrong_5 (by decide) (fun c5 => ?_) (fun c5 => ?_)
  · have c5 : ¬ 1 = 0 := fun h => c5 ((nI_eq (a := 1) (b := 0) (by omega) (by omega)).mpr h)
    refine lv_iload_n hx hb d_MD_isWrong_12 rfl (lv_at hl 1 rfl) ?_
    refine lv_if_lt (tgt := 24) hx hb d_MD_isWrong_13 (by decide) (fun c13 => ?_) (fun c13 => ?_)
    · refine lv_iconst (v := 2) hx hb d_MD_isWrong_24 (by decide) ?_
      refine lv_goto (tgt := 29) hx hb d_MD_isWrong_25 (by decide) ?_
      refine q_calliV [.int 2] M hI (c_MD_refused l g ad ar fl 2) ok_MD_refused m5_56 m5_58 ms_45 0 rfl rfl rfl rfl hl.1 ⟨rfl, rfl⟩ ⟨Nat.le_of_ble_eq_true rfl, Nat.le_of_ble_eq_true rfl⟩ (Nat.le_of_ble_eq_true rfl) ⟨Nat.le_of_ble_eq_true rfl, Nat.le_of_ble_eq_true rfl⟩ d_MD_isWrong_29 (fun r29 u29 H locs hp29 hI => ?_)
      have hI : CI g A s (mw g ad ar (va_up fl 0 2)) H locs := hI
      refine q_as (y := bI (¬ 2 ≤ 0)) hp29 ?_
      exact hret (bI (¬ 2 ≤ 0)) () _ _ _ _ _ _ d_MD_isWrong_32 hI (bI_t (by decide)) (by first | rfl | exact bI_narrow) (Nat.le_refl 0) (Nat.le_refl 0)
    · refine lv_iload_n hx hb d_MD_isWrong_16 rfl (lv_at hl 1 rfl) ?_
      refine lv_aload_n hx hb d_MD_isWrong_17 rfl (lv_at hl 0 rfl) ?_
      refine g_MD_119 M hI d_MD_isWrong_18 ?_
      refine q_as (y := nI cn) h1 ?_
      refine lv_icmp_lt (tgt := 28) hx hb d_MD_isWrong_21 (by decide) (fun c21 => ?_) (fun c21 => ?_)
      · exact absurd (hS.resolve_left c13) (Int32.not_le.mpr c21)
      · refine lv_iconst (v := 2) hx hb d_MD_isWrong_24 (by decide) ?_
        refine lv_goto (tgt := 29) hx hb d_MD_isWrong_25 (by decide) ?_
        refine q_calliV [.int 2] M hI (c_MD_refused l g ad ar fl 2) ok_MD_refused m5_56 m5_58 ms_45 0 rfl rfl rfl rfl hl.1 ⟨rfl, rfl⟩ ⟨Nat.le_of_ble_eq_true rfl, Nat.le_of_ble_eq_true rfl⟩ (Nat.le_of_ble_eq_true rfl) ⟨Nat.le_of_ble_eq_true rfl, Nat.le_of_ble_eq_true rfl⟩ d_MD_isWrong_29 (fun r29 u29 H locs hp29 hI => ?_)
        have hI : CI g A s (mw g ad ar (va_up fl 0 2)) H locs := hI
        refine q_as (y := bI (¬ 2 ≤ 0)) hp29 ?_
        exact hret (bI (¬ 2 ≤ 0)) () _ _ _ _ _ _ d_MD_isWrong_32 hI (bI_t (by decide)) (by first | rfl | exact bI_narrow) (Nat.le_refl 0) (Nat.le_refl 0)
  · have c5 : 1 = 0 := (nI_eq (a := 1) (b := 0) (by omega) (by omega)).mp c5
    exfalso; omega
abbrev rm_MD_isWrong_c_MD_isWrong_0 : Room := { frames := 1, cells := 0, slots := 0, locals := 21 }
set_option maxHeartbeats 4000000 in
set_option maxRecDepth 100000 in
theorem c_MD_isWrong_0 (l : Launch) (g : Geo) (ad : Nat → Nat) (ar : Nat → Nat → Int32) (fl : Nat → Int32) (q : Nat) (cn : Nat) (h5 : fl 5 = 1) (h1 : fl 1 = nI cn) (hcN : cn ≤ 2000) (hS : q < cn) : cMi l y_MD_isWrong (.code y_MD_isWrong b_MD_isWrong 2 (some .boolean) :: gw) rm_MD_isWrong_c_MD_isWrong_0 g [.ref (ad 0), .int (nI q)] (mw g ad ar fl) (fun (r : Int32) (_ : Unit) => r = 0) (fun (_ : Unit) => mw g ad ar (va_up fl 0 0)) 0 0 := by
  refine cMz_of (by decide) (Nat.le_of_ble_eq_true rfl) ?_
  intro p e s m below meth c A Q ls M hret hl hI
  have M : MC p s m ([.ref (ad 0), .int (nI q)] : List Value).toArray meth c R_MD b_MD_isWrong 2 := M
  have hl : lv_has ls 2 [(0, .ref (ad 0)), (1, .int (nI q))] := hl
  generalize ([.ref (ad 0), .int (nI q)] : List Value).toArray = args at M hret ⊢
  have hx := M.1
  have hb := M.2.1
  refine lv_aload_n hx hb d_MD_isWrong_0 rfl (lv_at hl 0 rfl) ?_
  refine lv_aload_n hx hb d_MD_isWrong_1 rfl (lv_at hl 0 rfl) ?_
  refine g_MD_92 M hI d_MD_isWrong_2 ?_
  refine q_as (y := 1) h5 ?_
  refine lv_if_ne (tgt := 12) hx hb d_MD_isWrong_5 (by decide) (fun c5 => ?_) (fun c5 => ?_)
  · have c5 : ¬ 1 = 0 := fun h => c5 ((nI_eq (a := 1) (b := 0) (by omega) (by omega)).mpr h)
    refine lv_iload_n hx hb d_MD_isWrong_12 rfl (lv_at hl 1 rfl) ?_
    refine lv_if_lt (tgt := 24) hx hb d_MD_isWrong_13 (by decide) (fun c13 => ?_) (fun c13 => ?_)
    · have c13 : q < 0 := (nI_ltI (a := q) (b := 0) (by omega) (by omega)).mp c13
      exfalso; omega
    · have c13 : ¬ q < 0 := fun h => c13 ((nI_ltI (a := q) (b := 0) (by omega) (by omega)).mpr h)
      refine lv_iload_n hx hb d_MD_isWrong_16 rfl (lv_at hl 1 rfl) ?_
      refine lv_aload_n hx hb d_MD_isWrong_17 rfl (lv_at hl 0 rfl) ?_
      refine g_MD_119 M hI d_MD_isWrong_18 ?_
      refine q_as (y := nI cn) h1 ?_
      refine lv_icmp_lt (tgt := 28) hx hb d_MD_isWrong_21 (by decide) (fun c21 => ?_) (fun c21 => ?_)
      · have c21 : q < cn := (nI_ltI (a := q) (b := cn) (by omega) (by omega)).mp c21
        refine lv_iconst (v := 0) hx hb d_MD_isWrong_28 (by decide) ?_
        refine q_calliV [.int 0] M hI (c_MD_refused l g ad ar fl 0) ok_MD_refused m5_56 m5_58 ms_45 0 rfl rfl rfl rfl hl.1 ⟨rfl, rfl⟩ ⟨Nat.le_of_ble_eq_true rfl, Nat.le_of_ble_eq_true rfl⟩ (Nat.le_of_ble_eq_true rfl) ⟨Nat.le_of_ble_eq_true rfl, Nat.le_of_ble_eq_true rfl⟩ d_MD_isWrong_29 (fun r29 u29 H locs hp29 hI => ?_)
        have hI : CI g A s (mw g ad ar (va_up fl 0 0)) H locs := hI
        refine q_as (y := bI (¬ 0 ≤ 0)) hp29 ?_
        exact hret (bI (¬ 0 ≤ 0)) () _ _ _ _ _ _ d_MD_isWrong_32 hI (bI_f (by decide)) (by first | rfl | exact bI_narrow) (Nat.le_refl 0) (Nat.le_refl 0)
      · have c21 : ¬ q < cn := fun h => c21 ((nI_ltI (a := q) (b := cn) (by omega) (by omega)).mpr h)
        exfalso; omega
  · have c5 : 1 = 0 := (nI_eq (a := 1) (b := 0) (by omega) (by omega)).mp c5
    exfalso; omega
abbrev rm_MD_level_c_MD_level_1 : Room := { frames := 2, cells := 0, slots := 0, locals := 42 }
set_option maxHeartbeats 4000000 in
set_option maxRecDepth 100000 in
theorem c_MD_level_1 (l : Launch) (g : Geo) (ad : Nat → Nat) (ar : Nat → Nat → Int32) (fl : Nat → Int32) (x : Int32) (h5 : fl 5 = 0) : cMi l y_MD_level (.code y_MD_level b_MD_level 2 (some .int) :: gw) rm_MD_level_c_MD_level_1 g [.ref (ad 0), .int x] (mw g ad ar fl) (fun (r : Int32) (_ : Unit) => True) (fun (_ : Unit) => mw g ad ar (va_up fl 0 1)) 0 0 := by
  refine cMi_of (by decide) (Nat.le_of_ble_eq_true rfl) ?_
  intro p e s m below meth c A Q ls M hret hl hI
  have M : MC p s m ([.ref (ad 0), .int x] : List Value).toArray meth c R_MD b_MD_level 2 := M
  have hl : lv_has ls 2 [(0, .ref (ad 0)), (1, .int x)] := hl
  generalize ([.ref (ad 0), .int x] : List Value).toArray = args at M hret ⊢
  have hx := M.1
  have hb := M.2.1
  refine lv_aload_n hx hb d_MD_level_0 rfl (lv_at hl 0 rfl) ?_
  refine lv_iload_n hx hb d_MD_level_1 rfl (lv_at hl 1 rfl) ?_
  refine q_calliV [.int x] M hI (c_MD_isWrong_1 l g ad ar fl x (by first | exact h5 | assumption | omega | rfl)) ok_MD_isWrong m5_227 m5_229 ms_77 0 rfl rfl rfl rfl hl.1 ⟨rfl, rfl⟩ ⟨Nat.le_of_ble_eq_true rfl, Nat.le_of_ble_eq_true rfl⟩ (Nat.le_of_ble_eq_true rfl) ⟨Nat.le_of_ble_eq_true rfl, Nat.le_of_ble_eq_true rfl⟩ d_MD_level_2 (fun r2 u2 H locs hp2 hI => ?_)
  have hI : CI g A s (mw g ad ar (va_up fl 0 1)) H locs := hI
  refine q_as (y := 1) hp2 ?_
  refine lv_if_eq (tgt := 12) hx hb d_MD_level_5 (by decide) (fun c5 => ?_) (fun c5 => ?_)
  · have c5 : 1 = 0 := (nI_eq (a := 1) (b := 0) (by omega) (by omega)).mp c5
    exfalso; omega
  · have c5 : ¬ 1 = 0 := fun h => c5 ((nI_eq (a := 1) (b := 0) (by omega) (by omega)).mpr h)
    refine lv_iconst (v := 0) hx hb d_MD_level_8 (by decide) ?_
    refine lv_goto (tgt := 18) hx hb d_MD_level_9 (by decide) ?_
    exact hret 0 () _ _ _ _ _ _ d_MD_level_18 hI (trivial) (Nat.le_refl 0) (Nat.le_refl 0)
abbrev rm_MD_level_c_MD_level_2 : Room := { frames := 2, cells := 0, slots := 0, locals := 42 }
set_option maxHeartbeats 4000000 in
set_option maxRecDepth 100000 in
theorem c_MD_level_2 (l : Launch) (g : Geo) (ad : Nat → Nat) (ar : Nat → Nat → Int32) (fl : Nat → Int32) (x : Int32) (cn : Nat) (h5 : fl 5 = 1) (h1 : fl 1 = nI cn) (hcN : cn ≤ 2000) (hS : x < 0 ∨ nI cn ≤ x) : cMi l y_MD_level (.code y_MD_level b_MD_level 2 (some .int) :: gw) rm_MD_level_c_MD_level_2 g [.ref (ad 0), .int x] (mw g ad ar fl) (fun (r : Int32) (_ : Unit) => True) (fun (_ : Unit) => mw g ad ar (va_up fl 0 2)) 0 0 := by
  refine cMi_of (by decide) (Nat.le_of_ble_eq_true rfl) ?_
  intro p e s m below meth c A Q ls M hret hl hI
  have M : MC p s m ([.ref (ad 0), .int x] : List Value).toArray meth c R_MD b_MD_level 2 := M
  have hl : lv_has ls 2 [(0, .ref (ad 0)), (1, .int x)] := hl
  generalize ([.ref (ad 0), .int x] : List Value).toArray = args at M hret ⊢
  have hx := M.1
  have hb := M.2.1
  refine lv_aload_n hx hb d_MD_level_0 rfl (lv_at hl 0 rfl) ?_
  refine lv_iload_n hx hb d_MD_level_1 rfl (lv_at hl 1 rfl) ?_
  refine q_calliV [.int x] M hI (c_MD_isWrong_2 l g ad ar fl x cn (by first | exact h5 | assumption | omega | rfl) (by first | exact h1 | assumption | omega | rfl) (by first | exact hcN | assumption | omega | rfl) (by first | exact hS | assumption | omega | rfl)) ok_MD_isWrong m5_227 m5_229 ms_77 0 rfl rfl rfl rfl hl.1 ⟨rfl, rfl⟩ ⟨Nat.le_of_ble_eq_true rfl, Nat.le_of_ble_eq_true rfl⟩ (Nat.le_of_ble_eq_true rfl) ⟨Nat.le_of_ble_eq_true rfl, Nat.le_of_ble_eq_true rfl⟩ d_MD_level_2 (fun r2 u2 H locs hp2 hI => ?_)
  have hI : CI g A s (mw g ad ar (va_up fl 0 2)) H locs := hI
  refine q_as (y := 1) hp2 ?_
  refine lv_if_eq (tgt := 12) hx hb d_MD_level_5 (by decide) (fun c5 => ?_) (fun c5 => ?_)
  · have c5 : 1 = 0 := (nI_eq (a := 1) (b := 0) (by omega) (by omega)).mp c5
    exfalso; omega
  · have c5 : ¬ 1 = 0 := fun h => c5 ((nI_eq (a := 1) (b := 0) (by omega) (by omega)).mpr h)
    refine lv_iconst (v := 0) hx hb d_MD_level_8 (by decide) ?_
    refine lv_goto (tgt := 18) hx hb d_MD_level_9 (by decide) ?_
    exact hret 0 () _ _ _ _ _ _ d_MD_level_18 hI (trivial) (Nat.le_refl 0) (Nat.le_refl 0)
abbrev rm_MD_level_c_MD_level_0 : Room := { frames := 2, cells := 0, slots := 0, locals := 42 }
set_option maxHeartbeats 4000000 in
set_option maxRecDepth 100000 in
theorem c_MD_level_0 (l : Launch) (g : Geo) (ad : Nat → Nat) (ar : Nat → Nat → Int32) (fl : Nat → Int32) (q : Nat) (cn : Nat) (h5 : fl 5 = 1) (h1 : fl 1 = nI cn) (hcN : cn ≤ 2000) (hS : q < cn) : cMi l y_MD_level (.code y_MD_level b_MD_level 2 (some .int) :: gw) rm_MD_level_c_MD_level_0 g [.ref (ad 0), .int (nI q)] (mw g ad ar fl) (fun (r : Int32) (_ : Unit) => r = ar 12 q) (fun (_ : Unit) => mw g ad ar (va_up fl 0 0)) 0 0 := by
  refine cMi_of (by decide) (Nat.le_of_ble_eq_true rfl) ?_
  intro p e s m below meth c A Q ls M hret hl hI
  have M : MC p s m ([.ref (ad 0), .int (nI q)] : List Value).toArray meth c R_MD b_MD_level 2 := M
  have hl : lv_has ls 2 [(0, .ref (ad 0)), (1, .int (nI q))] := hl
  generalize ([.ref (ad 0), .int (nI q)] : List Value).toArray = args at M hret ⊢
  have hx := M.1
  have hb := M.2.1
  refine lv_aload_n hx hb d_MD_level_0 rfl (lv_at hl 0 rfl) ?_
  refine lv_iload_n hx hb d_MD_level_1 rfl (lv_at hl 1 rfl) ?_
  refine q_calliV [.int (nI q)] M hI (c_MD_isWrong_0 l g ad ar fl q cn (by first | exact h5 | assumption | omega | rfl) (by first | exact h1 | assumption | omega | rfl) (by first | exact hcN | assumption | omega | rfl) (by first | exact hS | assumption | omega | rfl)) ok_MD_isWrong m5_227 m5_229 ms_77 0 rfl rfl rfl rfl hl.1 ⟨rfl, rfl⟩ ⟨Nat.le_of_ble_eq_true rfl, Nat.le_of_ble_eq_true rfl⟩ (Nat.le_of_ble_eq_true rfl) ⟨Nat.le_of_ble_eq_true rfl, Nat.le_of_ble_eq_true rfl⟩ d_MD_level_2 (fun r2 u2 H locs hp2 hI => ?_)
  have hI : CI g A s (mw g ad ar (va_up fl 0 0)) H locs := hI
  refine q_as (y := 0) hp2 ?_
  refine lv_if_eq (tgt := 12) hx hb d_MD_level_5 (by decide) (fun c5 => ?_) (fun c5 => ?_)
  · have c5 : 0 = 0 := (nI_eq (a := 0) (b := 0) (by omega) (by omega)).mp c5
    refine lv_aload_n hx hb d_MD_level_12 rfl (lv_at hl 0 rfl) ?_
    refine g_MD_43 M hI d_MD_level_13 ?_
    refine lv_iload_n hx hb d_MD_level_16 rfl (lv_at hl 1 rfl) ?_
    refine bl_12 M hI q rfl (by omega) d_MD_level_17 ?_
    exact hret (ar 12 q) () _ _ _ _ _ _ d_MD_level_18 hI (rfl) (Nat.le_refl 0) (Nat.le_refl 0)
  · have c5 : ¬ 0 = 0 := fun h => c5 ((nI_eq (a := 0) (b := 0) (by omega) (by omega)).mpr h)
    exfalso; omega
abbrev rm_MD_match_c_MD_match_1 : Room := { frames := 2, cells := 0, slots := 0, locals := 42 }
set_option maxHeartbeats 4000000 in
set_option maxRecDepth 100000 in
theorem c_MD_match_1 (l : Launch) (g : Geo) (ad : Nat → Nat) (ar : Nat → Nat → Int32) (fl : Nat → Int32) (x : Int32) (h5 : fl 5 = 0) : cMi l y_MD_match (.code y_MD_match b_MD_match 2 (some .int) :: gw) rm_MD_match_c_MD_match_1 g [.ref (ad 0), .int x] (mw g ad ar fl) (fun (r : Int32) (_ : Unit) => True) (fun (_ : Unit) => mw g ad ar (va_up fl 0 1)) 0 0 := by
  refine cMi_of (by decide) (Nat.le_of_ble_eq_true rfl) ?_
  intro p e s m below meth c A Q ls M hret hl hI
  have M : MC p s m ([.ref (ad 0), .int x] : List Value).toArray meth c R_MD b_MD_match 2 := M
  have hl : lv_has ls 2 [(0, .ref (ad 0)), (1, .int x)] := hl
  generalize ([.ref (ad 0), .int x] : List Value).toArray = args at M hret ⊢
  have hx := M.1
  have hb := M.2.1
  refine lv_aload_n hx hb d_MD_match_0 rfl (lv_at hl 0 rfl) ?_
  refine lv_iload_n hx hb d_MD_match_1 rfl (lv_at hl 1 rfl) ?_
  refine q_calliV [.int x] M hI (c_MD_isWrong_1 l g ad ar fl x (by first | exact h5 | assumption | omega | rfl)) ok_MD_isWrong m5_227 m5_229 ms_77 0 rfl rfl rfl rfl hl.1 ⟨rfl, rfl⟩ ⟨Nat.le_of_ble_eq_true rfl, Nat.le_of_ble_eq_true rfl⟩ (Nat.le_of_ble_eq_true rfl) ⟨Nat.le_of_ble_eq_true rfl, Nat.le_of_ble_eq_true rfl⟩ d_MD_match_2 (fun r2 u2 H locs hp2 hI => ?_)
  have hI : CI g A s (mw g ad ar (va_up fl 0 1)) H locs := hI
  refine q_as (y := 1) hp2 ?_
  refine lv_if_eq (tgt := 12) hx hb d_MD_match_5 (by decide) (fun c5 => ?_) (fun c5 => ?_)
  · have c5 : 1 = 0 := (nI_eq (a := 1) (b := 0) (by omega) (by omega)).mp c5
    exfalso; omega
  · have c5 : ¬ 1 = 0 := fun h => c5 ((nI_eq (a := 1) (b := 0) (by omega) (by omega)).mpr h)
    refine lv_iconst (v := 0) hx hb d_MD_match_8 (by decide) ?_
    refine lv_goto (tgt := 18) hx hb d_MD_match_9 (by decide) ?_
    exact hret 0 () _ _ _ _ _ _ d_MD_match_18 hI (trivial) (Nat.le_refl 0) (Nat.le_refl 0)
abbrev rm_MD_match_c_MD_match_2 : Room := { frames := 2, cells := 0, slots := 0, locals := 42 }
set_option maxHeartbeats 4000000 in
set_option maxRecDepth 100000 in
theorem c_MD_match_2 (l : Launch) (g : Geo) (ad : Nat → Nat) (ar : Nat → Nat → Int32) (fl : Nat → Int32) (x : Int32) (cn : Nat) (h5 : fl 5 = 1) (h1 : fl 1 = nI cn) (hcN : cn ≤ 2000) (hS : x < 0 ∨ nI cn ≤ x) : cMi l y_MD_match (.code y_MD_match b_MD_match 2 (some .int) :: gw) rm_MD_match_c_MD_match_2 g [.ref (ad 0), .int x] (mw g ad ar fl) (fun (r : Int32) (_ : Unit) => True) (fun (_ : Unit) => mw g ad ar (va_up fl 0 2)) 0 0 := by
  refine cMi_of (by decide) (Nat.le_of_ble_eq_true rfl) ?_
  intro p e s m below meth c A Q ls M hret hl hI
  have M : MC p s m ([.ref (ad 0), .int x] : List Value).toArray meth c R_MD b_MD_match 2 := M
  have hl : lv_has ls 2 [(0, .ref (ad 0)), (1, .int x)] := hl
  generalize ([.ref (ad 0), .int x] : List Value).toArray = args at M hret ⊢
  have hx := M.1
  have hb := M.2.1
  refine lv_aload_n hx hb d_MD_match_0 rfl (lv_at hl 0 rfl) ?_
  refine lv_iload_n hx hb d_MD_match_1 rfl (lv_at hl 1 rfl) ?_
  refine q_calliV [.int x] M hI (c_MD_isWrong_2 l g ad ar fl x cn (by first | exact h5 | assumption | omega | rfl) (by first | exact h1 | assumption | omega | rfl) (by first | exact hcN | assumption | omega | rfl) (by first | exact hS | assumption | omega | rfl)) ok_MD_isWrong m5_227 m5_229 ms_77 0 rfl rfl rfl rfl hl.1 ⟨rfl, rfl⟩ ⟨Nat.le_of_ble_eq_true rfl, Nat.le_of_ble_eq_true rfl⟩ (Nat.le_of_ble_eq_true rfl) ⟨Nat.le_of_ble_eq_true rfl, Nat.le_of_ble_eq_true rfl⟩ d_MD_match_2 (fun r2 u2 H locs hp2 hI => ?_)
  have hI : CI g A s (mw g ad ar (va_up fl 0 2)) H locs := hI
  refine q_as (y := 1) hp2 ?_
  refine lv_if_eq (tgt := 12) hx hb d_MD_match_5 (by decide) (fun c5 => ?_) (fun c5 => ?_)
  · have c5 : 1 = 0 := (nI_eq (a := 1) (b := 0) (by omega) (by omega)).mp c5
    exfalso; omega
  · have c5 : ¬ 1 = 0 := fun h => c5 ((nI_eq (a := 1) (b := 0) (by omega) (by omega)).mpr h)
    refine lv_iconst (v := 0) hx hb d_MD_match_8 (by decide) ?_
    refine lv_goto (tgt := 18) hx hb d_MD_match_9 (by decide) ?_
    exact hret 0 () _ _ _ _ _ _ d_MD_match_18 hI (trivial) (Nat.le_refl 0) (Nat.le_refl 0)
abbrev rm_MD_match_c_MD_match_0 : Room := { frames := 2, cells := 0, slots := 0, locals := 42 }
set_option maxHeartbeats 4000000 in
set_option maxRecDepth 100000 in
theorem c_MD_match_0 (l : Launch) (g : Geo) (ad : Nat → Nat) (ar : Nat → Nat → Int32) (fl : Nat → Int32) (q : Nat) (cn : Nat) (h5 : fl 5 = 1) (h1 : fl 1 = nI cn) (hcN : cn ≤ 2000) (hS : q < cn) : cMi l y_MD_match (.code y_MD_match b_MD_match 2 (some .int) :: gw) rm_MD_match_c_MD_match_0 g [.ref (ad 0), .int (nI q)] (mw g ad ar fl) (fun (r : Int32) (_ : Unit) => r = ar 13 q) (fun (_ : Unit) => mw g ad ar (va_up fl 0 0)) 0 0 := by
  refine cMi_of (by decide) (Nat.le_of_ble_eq_true rfl) ?_
  intro p e s m below meth c A Q ls M hret hl hI
  have M : MC p s m ([.ref (ad 0), .int (nI q)] : List Value).toArray meth c R_MD b_MD_match 2 := M
  have hl : lv_has ls 2 [(0, .ref (ad 0)), (1, .int (nI q))] := hl
  generalize ([.ref (ad 0), .int (nI q)] : List Value).toArray = args at M hret ⊢
  have hx := M.1
  have hb := M.2.1
  refine lv_aload_n hx hb d_MD_match_0 rfl (lv_at hl 0 rfl) ?_
  refine lv_iload_n hx hb d_MD_match_1 rfl (lv_at hl 1 rfl) ?_
  refine q_calliV [.int (nI q)] M hI (c_MD_isWrong_0 l g ad ar fl q cn (by first | exact h5 | assumption | omega | rfl) (by first | exact h1 | assumption | omega | rfl) (by first | exact hcN | assumption | omega | rfl) (by first | exact hS | assumption | omega | rfl)) ok_MD_isWrong m5_227 m5_229 ms_77 0 rfl rfl rfl rfl hl.1 ⟨rfl, rfl⟩ ⟨Nat.le_of_ble_eq_true rfl, Nat.le_of_ble_eq_true rfl⟩ (Nat.le_of_ble_eq_true rfl) ⟨Nat.le_of_ble_eq_true rfl, Nat.le_of_ble_eq_true rfl⟩ d_MD_match_2 (fun r2 u2 H locs hp2 hI => ?_)
  have hI : CI g A s (mw g ad ar (va_up fl 0 0)) H locs := hI
  refine q_as (y := 0) hp2 ?_
  refine lv_if_eq (tgt := 12) hx hb d_MD_match_5 (by decide) (fun c5 => ?_) (fun c5 => ?_)
  · have c5 : 0 = 0 := (nI_eq (a := 0) (b := 0) (by omega) (by omega)).mp c5
    refine lv_aload_n hx hb d_MD_match_12 rfl (lv_at hl 0 rfl) ?_
    refine g_MD_46 M hI d_MD_match_13 ?_
    refine lv_iload_n hx hb d_MD_match_16 rfl (lv_at hl 1 rfl) ?_
    refine bl_13 M hI q rfl (by omega) d_MD_match_17 ?_
    exact hret (ar 13 q) () _ _ _ _ _ _ d_MD_match_18 hI (rfl) (Nat.le_refl 0) (Nat.le_refl 0)
  · have c5 : ¬ 0 = 0 := fun h => c5 ((nI_eq (a := 0) (b := 0) (by omega) (by omega)).mpr h)
    exfalso; omega
abbrev rm_MD_kind_c_MD_kind_1 : Room := { frames := 2, cells := 0, slots := 0, locals := 42 }
set_option maxHeartbeats 4000000 in
set_option maxRecDepth 100000 in
theorem c_MD_kind_1 (l : Launch) (g : Geo) (ad : Nat → Nat) (ar : Nat → Nat → Int32) (fl : Nat → Int32) (x : Int32) (h5 : fl 5 = 0) : cMi l y_MD_kind (.code y_MD_kind b_MD_kind 2 (some .int) :: gw) rm_MD_kind_c_MD_kind_1 g [.ref (ad 0), .int x] (mw g ad ar fl) (fun (r : Int32) (_ : Unit) => True) (fun (_ : Unit) => mw g ad ar (va_up fl 0 1)) 0 0 := by
  refine cMi_of (by decide) (Nat.le_of_ble_eq_true rfl) ?_
  intro p e s m below meth c A Q ls M hret hl hI
  have M : MC p s m ([.ref (ad 0), .int x] : List Value).toArray meth c R_MD b_MD_kind 2 := M
  have hl : lv_has ls 2 [(0, .ref (ad 0)), (1, .int x)] := hl
  generalize ([.ref (ad 0), .int x] : List Value).toArray = args at M hret ⊢
  have hx := M.1
  have hb := M.2.1
  refine lv_aload_n hx hb d_MD_kind_0 rfl (lv_at hl 0 rfl) ?_
  refine lv_iload_n hx hb d_MD_kind_1 rfl (lv_at hl 1 rfl) ?_
  refine q_calliV [.int x] M hI (c_MD_isWrong_1 l g ad ar fl x (by first | exact h5 | assumption | omega | rfl)) ok_MD_isWrong m5_227 m5_229 ms_77 0 rfl rfl rfl rfl hl.1 ⟨rfl, rfl⟩ ⟨Nat.le_of_ble_eq_true rfl, Nat.le_of_ble_eq_true rfl⟩ (Nat.le_of_ble_eq_true rfl) ⟨Nat.le_of_ble_eq_true rfl, Nat.le_of_ble_eq_true rfl⟩ d_MD_kind_2 (fun r2 u2 H locs hp2 hI => ?_)
  have hI : CI g A s (mw g ad ar (va_up fl 0 1)) H locs := hI
  refine q_as (y := 1) hp2 ?_
  refine lv_if_eq (tgt := 12) hx hb d_MD_kind_5 (by decide) (fun c5 => ?_) (fun c5 => ?_)
  · have c5 : 1 = 0 := (nI_eq (a := 1) (b := 0) (by omega) (by omega)).mp c5
    exfalso; omega
  · have c5 : ¬ 1 = 0 := fun h => c5 ((nI_eq (a := 1) (b := 0) (by omega) (by omega)).mpr h)
    refine lv_iconst (v := 0) hx hb d_MD_kind_8 (by decide) ?_
    refine lv_goto (tgt := 31) hx hb d_MD_kind_9 (by decide) ?_
    exact hret 0 () _ _ _ _ _ _ d_MD_kind_31 hI (trivial) (Nat.le_refl 0) (Nat.le_refl 0)
abbrev rm_MD_kind_c_MD_kind_2 : Room := { frames := 2, cells := 0, slots := 0, locals := 42 }
set_option maxHeartbeats 4000000 in
set_option maxRecDepth 100000 in
theorem c_MD_kind_2 (l : Launch) (g : Geo) (ad : Nat → Nat) (ar : Nat → Nat → Int32) (fl : Nat → Int32) (x : Int32) (cn : Nat) (h5 : fl 5 = 1) (h1 : fl 1 = nI cn) (hcN : cn ≤ 2000) (hS : x < 0 ∨ nI cn ≤ x) : cMi l y_MD_kind (.code y_MD_kind b_MD_kind 2 (some .int) :: gw) rm_MD_kind_c_MD_kind_2 g [.ref (ad 0), .int x] (mw g ad ar fl) (fun (r : Int32) (_ : Unit) => True) (fun (_ : Unit) => mw g ad ar (va_up fl 0 2)) 0 0 := by
  refine cMi_of (by decide) (Nat.le_of_ble_eq_true rfl) ?_
  intro p e s m below meth c A Q ls M hret hl hI
  have M : MC p s m ([.ref (ad 0), .int x] : List Value).toArray meth c R_MD b_MD_kind 2 := M
  have hl : lv_has ls 2 [(0, .ref (ad 0)), (1, .int x)] := hl
  generalize ([.ref (ad 0), .int x] : List Value).toArray = args at M hret ⊢
  have hx := M.1
  have hb := M.2.1
  refine lv_aload_n hx hb d_MD_kind_0 rfl (lv_at hl 0 rfl) ?_
  refine lv_iload_n hx hb d_MD_kind_1 rfl (lv_at hl 1 rfl) ?_
  refine q_calliV [.int x] M hI (c_MD_isWrong_2 l g ad ar fl x cn (by first | exact h5 | assumption | omega | rfl) (by first | exact h1 | assumption | omega | rfl) (by first | exact hcN | assumption | omega | rfl) (by first | exact hS | assumption | omega | rfl)) ok_MD_isWrong m5_227 m5_229 ms_77 0 rfl rfl rfl rfl hl.1 ⟨rfl, rfl⟩ ⟨Nat.le_of_ble_eq_true rfl, Nat.le_of_ble_eq_true rfl⟩ (Nat.le_of_ble_eq_true rfl) ⟨Nat.le_of_ble_eq_true rfl, Nat.le_of_ble_eq_true rfl⟩ d_MD_kind_2 (fun r2 u2 H locs hp2 hI => ?_)
  have hI : CI g A s (mw g ad ar (va_up fl 0 2)) H locs := hI
  refine q_as (y := 1) hp2 ?_
  refine lv_if_eq (tgt := 12) hx hb d_MD_kind_5 (by decide) (fun c5 => ?_) (fun c5 => ?_)
  · have c5 : 1 = 0 := (nI_eq (a := 1) (b := 0) (by omega) (by omega)).mp c5
    exfalso; omega
  · have c5 : ¬ 1 = 0 := fun h => c5 ((nI_eq (a := 1) (b := 0) (by omega) (by omega)).mpr h)
    refine lv_iconst (v := 0) hx hb d_MD_kind_8 (by decide) ?_
    refine lv_goto (tgt := 31) hx hb d_MD_kind_9 (by decide) ?_
    exact hret 0 () _ _ _ _ _ _ d_MD_kind_31 hI (trivial) (Nat.le_refl 0) (Nat.le_refl 0)
abbrev rm_MD_kind_c_MD_kind_0 : Room := { frames := 2, cells := 0, slots := 0, locals := 42 }
set_option maxHeartbeats 4000000 in
set_option maxRecDepth 100000 in
theorem c_MD_kind_0 (l : Launch) (g : Geo) (ad : Nat → Nat) (ar : Nat → Nat → Int32) (fl : Nat → Int32) (q : Nat) (cn : Nat) (h5 : fl 5 = 1) (h1 : fl 1 = nI cn) (hcN : cn ≤ 2000) (hS : q < cn) : cMi l y_MD_kind (.code y_MD_kind b_MD_kind 2 (some .int) :: gw) rm_MD_kind_c_MD_kind_0 g [.ref (ad 0), .int (nI q)] (mw g ad ar fl) (fun (r : Int32) (_ : Unit) => r = if ar 12 q < 0 then -1 else ar 10 q) (fun (_ : Unit) => mw g ad ar (va_up fl 0 0)) 0 0 := by
  refine cMi_of (by decide) (Nat.le_of_ble_eq_true rfl) ?_
  intro p e s m below meth c A Q ls M hret hl hI
  have M : MC p s m ([.ref (ad 0), .int (nI q)] : List Value).toArray meth c R_MD b_MD_kind 2 := M
  have hl : lv_has ls 2 [(0, .ref (ad 0)), (1, .int (nI q))] := hl
  generalize ([.ref (ad 0), .int (nI q)] : List Value).toArray = args at M hret ⊢
  have hx := M.1
  have hb := M.2.1
  refine lv_aload_n hx hb d_MD_kind_0 rfl (lv_at hl 0 rfl) ?_
  refine lv_iload_n hx hb d_MD_kind_1 rfl (lv_at hl 1 rfl) ?_
  refine q_calliV [.int (nI q)] M hI (c_MD_isWrong_0 l g ad ar fl q cn (by first | exact h5 | assumption | omega | rfl) (by first | exact h1 | assumption | omega | rfl) (by first | exact hcN | assumption | omega | rfl) (by first | exact hS | assumption | omega | rfl)) ok_MD_isWrong m5_227 m5_229 ms_77 0 rfl rfl rfl rfl hl.1 ⟨rfl, rfl⟩ ⟨Nat.le_of_ble_eq_true rfl, Nat.le_of_ble_eq_true rfl⟩ (Nat.le_of_ble_eq_true rfl) ⟨Nat.le_of_ble_eq_true rfl, Nat.le_of_ble_eq_true rfl⟩ d_MD_kind_2 (fun r2 u2 H locs hp2 hI => ?_)
  have hI : CI g A s (mw g ad ar (va_up fl 0 0)) H locs := hI
  refine q_as (y := 0) hp2 ?_
  refine lv_if_eq (tgt := 12) hx hb d_MD_kind_5 (by decide) (fun c5 => ?_) (fun c5 => ?_)
  · have c5 : 0 = 0 := (nI_eq (a := 0) (b := 0) (by omega) (by omega)).mp c5
    refine lv_aload_n hx hb d_MD_kind_12 rfl (lv_at hl 0 rfl) ?_
    refine g_MD_43 M hI d_MD_kind_13 ?_
    refine lv_iload_n hx hb d_MD_kind_16 rfl (lv_at hl 1 rfl) ?_
    refine bl_12 M hI q rfl (by omega) d_MD_kind_17 ?_
    refine lv_if_ge (tgt := 25) hx hb d_MD_kind_18 (by decide) (fun c18 => ?_) (fun c18 => ?_)
    · refine lv_aload_n hx hb d_MD_kind_25 rfl (lv_at hl 0 rfl) ?_
      refine g_MD_37 M hI d_MD_kind_26 ?_
      refine lv_iload_n hx hb d_MD_kind_29 rfl (lv_at hl 1 rfl) ?_
      refine bl_10 M hI q rfl (by omega) d_MD_kind_30 ?_
      refine q_as (y := if ar 12 q < 0 then -1 else ar 10 q) ((if_neg (Int32.not_lt.mpr c18)).symm) ?_
      exact hret (if ar 12 q < 0 then -1 else ar 10 q) () _ _ _ _ _ _ d_MD_kind_31 hI (rfl) (Nat.le_refl 0) (Nat.le_refl 0)
    · refine lv_iconst (v := (-1)) hx hb d_MD_kind_21 (by decide) ?_
      refine q_as (y := if ar 12 q < 0 then -1 else ar 10 q) ((if_pos (Int32.not_le.mp c18)).symm) ?_
      refine lv_goto (tgt := 31) hx hb d_MD_kind_22 (by decide) ?_
      exact hret (if ar 12 q < 0 then -1 else ar 10 q) () _ _ _ _ _ _ d_MD_kind_31 hI (rfl) (Nat.le_refl 0) (Nat.le_refl 0)
  · have c5 : ¬ 0 = 0 := fun h => c5 ((nI_eq (a := 0) (b := 0) (by omega) (by omega)).mpr h)
    exfalso; omega
abbrev rm_MD_paragraph_c_MD_paragraph_1 : Room := { frames := 1, cells := 0, slots := 0, locals := 21 }
set_option maxHeartbeats 4000000 in
set_option maxRecDepth 100000 in
theorem c_MD_paragraph_1 (l : Launch) (g : Geo) (ad : Nat → Nat) (ar : Nat → Nat → Int32) (fl : Nat → Int32) (x : Int32) (y : Int32) (np : Nat) (h5 : fl 5 = 0) (h6 : fl 6 = nI np) (hnN : np ≤ 2000) : cMi l y_MD_paragraph (.code y_MD_paragraph b_MD_paragraph 4 (some .int) :: gw) rm_MD_paragraph_c_MD_paragraph_1 g [.ref (ad 0), .int x, .int y] (mw g ad ar fl) (fun (r : Int32) (_ : Unit) => True) (fun (_ : Unit) => mw g ad ar (va_up fl 0 1)) 0 0 := by
  refine cMi_of (by decide) (Nat.le_of_ble_eq_true rfl) ?_
  intro p e s m below meth c A Q ls M hret hl hI
  have M : MC p s m ([.ref (ad 0), .int x, .int y] : List Value).toArray meth c R_MD b_MD_paragraph 4 := M
  have hl : lv_has ls 4 [(0, .ref (ad 0)), (1, .int x), (2, .int y)] := hl
  generalize ([.ref (ad 0), .int x, .int y] : List Value).toArray = args at M hret ⊢
  have hx := M.1
  have hb := M.2.1
  refine lv_iload_n hx hb d_MD_paragraph_0 rfl (lv_at hl 1 rfl) ?_
  refine lv_if_lt (tgt := 25) hx hb d_MD_paragraph_1 (by decide) (fun c1 => ?_) (fun c1 => ?_)
  · refine lv_iconst (v := 0) hx hb d_MD_paragraph_25 (by decide) ?_
    refine lv_istore_n (lv' := [(3, .int 0), (0, .ref (ad 0)), (1, .int x), (2, .int y)]) hx hb d_MD_paragraph_26 rfl hl (by decide) rfl (fun ls hl => ?_)
    refine lv_aload_n hx hb d_MD_paragraph_27 rfl (lv_at hl 1 rfl) ?_
    refine lv_aload_n hx hb d_MD_paragraph_28 rfl (lv_at hl 1 rfl) ?_
    refine g_MD_92 M hI d_MD_paragraph_29 ?_
    refine q_as (y := 0) h5 ?_
    refine lv_if_ne (tgt := 39) hx hb d_MD_paragraph_32 (by decide) (fun c32 => ?_) (fun c32 => ?_)
    · have c32 : ¬ 0 = 0 := fun h => c32 ((nI_eq (a := 0) (b := 0) (by omega) (by omega)).mpr h)
      exfalso; omega
    · have c32 : 0 = 0 := (nI_eq (a := 0) (b := 0) (by omega) (by omega)).mp c32
      refine lv_iconst (v := 1) hx hb d_MD_paragraph_35 (by decide) ?_
      refine lv_goto (tgt := 48) hx hb d_MD_paragraph_36 (by decide) ?_
      refine q_calliV [.int 1] M hI (c_MD_refused l g ad ar fl 1) ok_MD_refused m5_56 m5_58 ms_45 0 rfl rfl rfl rfl hl.1 ⟨rfl, rfl⟩ ⟨Nat.le_of_ble_eq_true rfl, Nat.le_of_ble_eq_true rfl⟩ (Nat.le_of_ble_eq_true rfl) ⟨Nat.le_of_ble_eq_true rfl, Nat.le_of_ble_eq_true rfl⟩ d_MD_paragraph_48 (fun r48 u48 H locs hp48 hI => ?_)
      have hI : CI g A s (mw g ad ar (va_up fl 0 1)) H locs := hI
      refine q_as (y := bI (¬ 1 ≤ 0)) hp48 ?_
      refine lv_if_eq (tgt := 58) hx hb d_MD_paragraph_51 (by decide) (fun c51 => ?_) (fun c51 => ?_)
      · have c51 := bI_eq0.mp c51
        exact absurd (by decide) c51
      · have c51 := bI_ne0.mp c51
        refine lv_iconst (v := 0) hx hb d_MD_paragraph_54 (by decide) ?_
        refine lv_goto (tgt := 68) hx hb d_MD_paragraph_55 (by decide) ?_
        exact hret 0 () _ _ _ _ _ _ d_MD_paragraph_68 hI (trivial) (Nat.le_refl 0) (Nat.le_refl 0)
  · refine lv_iload_n hx hb d_MD_paragraph_4 rfl (lv_at hl 1 rfl) ?_
    refine lv_aload_n hx hb d_MD_paragraph_5 rfl (lv_at hl 0 rfl) ?_
    refine g_MD_236 M hI d_MD_paragraph_6 ?_
    refine q_as (y := nI np) h6 ?_
    refine lv_icmp_ge (tgt := 25) hx hb d_MD_paragraph_9 (by decide) (fun c9 => ?_) (fun c9 => ?_)
    · refine lv_iconst (v := 0) hx hb d_MD_paragraph_25 (by decide) ?_
      refine lv_istore_n (lv' := [(3, .int 0), (0, .ref (ad 0)), (1, .int x), (2, .int y)]) hx hb d_MD_paragraph_26 rfl hl (by decide) rfl (fun ls hl => ?_)
      refine lv_aload_n hx hb d_MD_paragraph_27 rfl (lv_at hl 1 rfl) ?_
      refine lv_aload_n hx hb d_MD_paragraph_28 rfl (lv_at hl 1 rfl) ?_
      refine g_MD_92 M hI d_MD_paragraph_29 ?_
      refine q_as (y := 0) h5 ?_
      refine lv_if_ne (tgt := 39) hx hb d_MD_paragraph_32 (by decide) (fun c32 => ?_) (fun c32 => ?_)
      · have c32 : ¬ 0 = 0 := fun h => c32 ((nI_eq (a := 0) (b := 0) (by omega) (by omega)).mpr h)
        exfalso; omega
      · have c32 : 0 = 0 := (nI_eq (a := 0) (b := 0) (by omega) (by omega)).mp c32
        refine lv_iconst (v := 1) hx hb d_MD_paragraph_35 (by decide) ?_
        refine lv_goto (tgt := 48) hx hb d_MD_paragraph_36 (by decide) ?_
        refine q_calliV [.int 1] M hI (c_MD_refused l g ad ar fl 1) ok_MD_refused m5_56 m5_58 ms_45 0 rfl rfl rfl rfl hl.1 ⟨rfl, rfl⟩ ⟨Nat.le_of_ble_eq_true rfl, Nat.le_of_ble_eq_true rfl⟩ (Nat.le_of_ble_eq_true rfl) ⟨Nat.le_of_ble_eq_true rfl, Nat.le_of_ble_eq_true rfl⟩ d_MD_paragraph_48 (fun r48 u48 H locs hp48 hI => ?_)
        have hI : CI g A s (mw g ad ar (va_up fl 0 1)) H locs := hI
        refine q_as (y := bI (¬ 1 ≤ 0)) hp48 ?_
        refine lv_if_eq (tgt := 58) hx hb d_MD_paragraph_51 (by decide) (fun c51 => ?_) (fun c51 => ?_)
        · have c51 := bI_eq0.mp c51
          exact absurd (by decide) c51
        · have c51 := bI_ne0.mp c51
          refine lv_iconst (v := 0) hx hb d_MD_paragraph_54 (by decide) ?_
          refine lv_goto (tgt := 68) hx hb d_MD_paragraph_55 (by decide) ?_
          exact hret 0 () _ _ _ _ _ _ d_MD_paragraph_68 hI (trivial) (Nat.le_refl 0) (Nat.le_refl 0)
    · refine lv_iload_n hx hb d_MD_paragraph_12 rfl (lv_at hl 2 rfl) ?_
      refine lv_if_lt (tgt := 25) hx hb d_MD_paragraph_13 (by decide) (fun c13 => ?_) (fun c13 => ?_)
      · refine lv_iconst (v := 0) hx hb d_MD_paragraph_25 (by decide) ?_
        refine lv_istore_n (lv' := [(3, .int 0), (0, .ref (ad 0)), (1, .int x), (2, .int y)]) hx hb d_MD_paragraph_26 rfl hl (by decide) rfl (fun ls hl => ?_)
        refine lv_aload_n hx hb d_MD_paragraph_27 rfl (lv_at hl 1 rfl) ?_
        refine lv_aload_n hx hb d_MD_paragraph_28 rfl (lv_at hl 1 rfl) ?_
        refine g_MD_92 M hI d_MD_paragraph_29 ?_
        refine q_as (y := 0) h5 ?_
        refine lv_if_ne (tgt := 39) hx hb d_MD_paragraph_32 (by decide) (fun c32 => ?_) (fun c32 => ?_)
        · have c32 : ¬ 0 = 0 := fun h => c32 ((nI_eq (a := 0) (b := 0) (by omega) (by omega)).mpr h)
          exfalso; omega
        · have c32 : 0 = 0 := (nI_eq (a := 0) (b := 0) (by omega) (by omega)).mp c32
          refine lv_iconst (v := 1) hx hb d_MD_paragraph_35 (by decide) ?_
          refine lv_goto (tgt := 48) hx hb d_MD_paragraph_36 (by decide) ?_
          refine q_calliV [.int 1] M hI (c_MD_refused l g ad ar fl 1) ok_MD_refused m5_56 m5_58 ms_45 0 rfl rfl rfl rfl hl.1 ⟨rfl, rfl⟩ ⟨Nat.le_of_ble_eq_true rfl, Nat.le_of_ble_eq_true rfl⟩ (Nat.le_of_ble_eq_true rfl) ⟨Nat.le_of_ble_eq_true rfl, Nat.le_of_ble_eq_true rfl⟩ d_MD_paragraph_48 (fun r48 u48 H locs hp48 hI => ?_)
          have hI : CI g A s (mw g ad ar (va_up fl 0 1)) H locs := hI
          refine q_as (y := bI (¬ 1 ≤ 0)) hp48 ?_
          refine lv_if_eq (tgt := 58) hx hb d_MD_paragraph_51 (by decide) (fun c51 => ?_) (fun c51 => ?_)
          · have c51 := bI_eq0.mp c51
            exact absurd (by decide) c51
          · have c51 := bI_ne0.mp c51
            refine lv_iconst (v := 0) hx hb d_MD_paragraph_54 (by decide) ?_
            refine lv_goto (tgt := 68) hx hb d_MD_paragraph_55 (by decide) ?_
            exact hret 0 () _ _ _ _ _ _ d_MD_paragraph_68 hI (trivial) (Nat.le_refl 0) (Nat.le_refl 0)
      · refine lv_iload_n hx hb d_MD_paragraph_16 rfl (lv_at hl 2 rfl) ?_
        refine lv_iconst (v := 4) hx hb d_MD_paragraph_17 (by decide) ?_
        refine lv_icmp_ge (tgt := 25) hx hb d_MD_paragraph_18 (by decide) (fun c18 => ?_) (fun c18 => ?_)
        · refine lv_iconst (v := 0) hx hb d_MD_paragraph_25 (by decide) ?_
          refine lv_istore_n (lv' := [(3, .int 0), (0, .ref (ad 0)), (1, .int x), (2, .int y)]) hx hb d_MD_paragraph_26 rfl hl (by decide) rfl (fun ls hl => ?_)
          refine lv_aload_n hx hb d_MD_paragraph_27 rfl (lv_at hl 1 rfl) ?_
          refine lv_aload_n hx hb d_MD_paragraph_28 rfl (lv_at hl 1 rfl) ?_
          refine g_MD_92 M hI d_MD_paragraph_29 ?_
          refine q_as (y := 0) h5 ?_
          refine lv_if_ne (tgt := 39) hx hb d_MD_paragraph_32 (by decide) (fun c32 => ?_) (fun c32 => ?_)
          · have c32 : ¬ 0 = 0 := fun h => c32 ((nI_eq (a := 0) (b := 0) (by omega) (by omega)).mpr h)
            exfalso; omega
          · have c32 : 0 = 0 := (nI_eq (a := 0) (b := 0) (by omega) (by omega)).mp c32
            refine lv_iconst (v := 1) hx hb d_MD_paragraph_35 (by decide) ?_
            refine lv_goto (tgt := 48) hx hb d_MD_paragraph_36 (by decide) ?_
            refine q_calliV [.int 1] M hI (c_MD_refused l g ad ar fl 1) ok_MD_refused m5_56 m5_58 ms_45 0 rfl rfl rfl rfl hl.1 ⟨rfl, rfl⟩ ⟨Nat.le_of_ble_eq_true rfl, Nat.le_of_ble_eq_true rfl⟩ (Nat.le_of_ble_eq_true rfl) ⟨Nat.le_of_ble_eq_true rfl, Nat.le_of_ble_eq_true rfl⟩ d_MD_paragraph_48 (fun r48 u48 H locs hp48 hI => ?_)
            have hI : CI g A s (mw g ad ar (va_up fl 0 1)) H locs := hI
            refine q_as (y := bI (¬ 1 ≤ 0)) hp48 ?_
            refine lv_if_eq (tgt := 58) hx hb d_MD_paragraph_51 (by decide) (fun c51 => ?_) (fun c51 => ?_)
            · have c51 := bI_eq0.mp c51
              exact absurd (by decide) c51
            · have c51 := bI_ne0.mp c51
              refine lv_iconst (v := 0) hx hb d_MD_paragraph_54 (by decide) ?_
              refine lv_goto (tgt := 68) hx hb d_MD_paragraph_55 (by decide) ?_
              exact hret 0 () _ _ _ _ _ _ d_MD_paragraph_68 hI (trivial) (Nat.le_refl 0) (Nat.le_refl 0)
        · refine lv_iconst (v := 1) hx hb d_MD_paragraph_21 (by decide) ?_
          refine lv_goto (tgt := 26) hx hb d_MD_paragraph_22 (by decide) ?_
          refine lv_istore_n (lv' := [(3, .int 1), (0, .ref (ad 0)), (1, .int x), (2, .int y)]) hx hb d_MD_paragraph_26 rfl hl (by decide) rfl (fun ls hl => ?_)
          refine lv_aload_n hx hb d_MD_paragraph_27 rfl (lv_at hl 1 rfl) ?_
          refine lv_aload_n hx hb d_MD_paragraph_28 rfl (lv_at hl 1 rfl) ?_
          refine g_MD_92 M hI d_MD_paragraph_29 ?_
          refine q_as (y := 0) h5 ?_
          refine lv_if_ne (tgt := 39) hx hb d_MD_paragraph_32 (by decide) (fun c32 => ?_) (fun c32 => ?_)
          · have c32 : ¬ 0 = 0 := fun h => c32 ((nI_eq (a := 0) (b := 0) (by omega) (by omega)).mpr h)
            exfalso; omega
          · have c32 : 0 = 0 := (nI_eq (a := 0) (b := 0) (by omega) (by omega)).mp c32
            refine lv_iconst (v := 1) hx hb d_MD_paragraph_35 (by decide) ?_
            refine lv_goto (tgt := 48) hx hb d_MD_paragraph_36 (by decide) ?_
            refine q_calliV [.int 1] M hI (c_MD_refused l g ad ar fl 1) ok_MD_refused m5_56 m5_58 ms_45 0 rfl rfl rfl rfl hl.1 ⟨rfl, rfl⟩ ⟨Nat.le_of_ble_eq_true rfl, Nat.le_of_ble_eq_true rfl⟩ (Nat.le_of_ble_eq_true rfl) ⟨Nat.le_of_ble_eq_true rfl, Nat.le_of_ble_eq_true rfl⟩ d_MD_paragraph_48 (fun r48 u48 H locs hp48 hI => ?_)
            have hI : CI g A s (mw g ad ar (va_up fl 0 1)) H locs := hI
            refine q_as (y := bI (¬ 1 ≤ 0)) hp48 ?_
            refine lv_if_eq (tgt := 58) hx hb d_MD_paragraph_51 (by decide) (fun c51 => ?_) (fun c51 => ?_)
            · have c51 := bI_eq0.mp c51
              exact absurd (by decide) c51
            · have c51 := bI_ne0.mp c51
              refine lv_iconst (v := 0) hx hb d_MD_paragraph_54 (by decide) ?_
              refine lv_goto (tgt := 68) hx hb d_MD_paragraph_55 (by decide) ?_
              exact hret 0 () _ _ _ _ _ _ d_MD_paragraph_68 hI (trivial) (Nat.le_refl 0) (Nat.le_refl 0)
abbrev rm_MD_paragraph_c_MD_paragraph_2 : Room := { frames := 1, cells := 0, slots := 0, locals := 21 }
set_option maxHeartbeats 4000000 in
set_option maxRecDepth 100000 in
theorem c_MD_paragraph_2 (l : Launch) (g : Geo) (ad : Nat → Nat) (ar : Nat → Nat → Int32) (fl : Nat → Int32) (x : Int32) (y : Int32) (np : Nat) (h5 : fl 5 = 1) (h6 : fl 6 = nI np) (hnN : np ≤ 2000) (hS : x < 0 ∨ nI np ≤ x ∨ y < 0 ∨ 4 ≤ y) : cMi l y_MD_paragraph (.code y_MD_paragraph b_MD_paragraph 4 (some .int) :: gw) rm_MD_paragraph_c_MD_paragraph_2 g [.ref (ad 0), .int x, .int y] (mw g ad ar fl) (fun (r : Int32) (_ : Unit) => True) (fun (_ : Unit) => mw g ad ar (va_up fl 0 2)) 0 0 := by
  refine cMi_of (by decide) (Nat.le_of_ble_eq_true rfl) ?_
  intro p e s m below meth c A Q ls M hret hl hI
  have M : MC p s m ([.ref (ad 0), .int x, .int y] : List Value).toArray meth c R_MD b_MD_paragraph 4 := M
  have hl : lv_has ls 4 [(0, .ref (ad 0)), (1, .int x), (2, .int y)] := hl
  generalize ([.ref (ad 0), .int x, .int y] : List Value).toArray = args at M hret ⊢
  have hx := M.1
  have hb := M.2.1
  refine lv_iload_n hx hb d_MD_paragraph_0 rfl (lv_at hl 1 rfl) ?_
  refine lv_if_lt (tgt := 25) hx hb d_MD_paragraph_1 (by decide) (fun c1 => ?_) (fun c1 => ?_)
  · refine lv_iconst (v := 0) hx hb d_MD_paragraph_25 (by decide) ?_
    refine lv_istore_n (lv' := [(3, .int 0), (0, .ref (ad 0)), (1, .int x), (2, .int y)]) hx hb d_MD_paragraph_26 rfl hl (by decide) rfl (fun ls hl => ?_)
    refine lv_aload_n hx hb d_MD_paragraph_27 rfl (lv_at hl 1 rfl) ?_
    refine lv_aload_n hx hb d_MD_paragraph_28 rfl (lv_at hl 1 rfl) ?_
    refine g_MD_92 M hI d_MD_paragraph_29 ?_
    refine q_as (y := 1) h5 ?_
    refine lv_if_ne (tgt := 39) hx hb d_MD_paragraph_32 (by decide) (fun c32 => ?_) (fun c32 => ?_)
    · have c32 : ¬ 1 = 0 := fun h => c32 ((nI_eq (a := 1) (b := 0) (by omega) (by omega)).mpr h)
      refine lv_iload_n hx hb d_MD_paragraph_39 rfl (lv_at hl 0 rfl) ?_
      refine lv_if_ne (tgt := 47) hx hb d_MD_paragraph_40 (by decide) (fun c40 => ?_) (fun c40 => ?_)
      · have c40 : ¬ 0 = 0 := fun h => c40 ((nI_eq (a := 0) (b := 0) (by omega) (by omega)).mpr h)
        exfalso; omega
      · have c40 : 0 = 0 := (nI_eq (a := 0) (b := 0) (by omega) (by omega)).mp c40
        refine lv_iconst (v := 2) hx hb d_MD_paragraph_43 (by decide) ?_
        refine lv_goto (tgt := 48) hx hb d_MD_paragraph_44 (by decide) ?_
        refine q_calliV [.int 2] M hI (c_MD_refused l g ad ar fl 2) ok_MD_refused m5_56 m5_58 ms_45 0 rfl rfl rfl rfl hl.1 ⟨rfl, rfl⟩ ⟨Nat.le_of_ble_eq_true rfl, Nat.le_of_ble_eq_true rfl⟩ (Nat.le_of_ble_eq_true rfl) ⟨Nat.le_of_ble_eq_true rfl, Nat.le_of_ble_eq_true rfl⟩ d_MD_paragraph_48 (fun r48 u48 H locs hp48 hI => ?_)
        have hI : CI g A s (mw g ad ar (va_up fl 0 2)) H locs := hI
        refine q_as (y := bI (¬ 2 ≤ 0)) hp48 ?_
        refine lv_if_eq (tgt := 58) hx hb d_MD_paragraph_51 (by decide) (fun c51 => ?_) (fun c51 => ?_)
        · have c51 := bI_eq0.mp c51
          exact absurd (by decide) c51
        · have c51 := bI_ne0.mp c51
          refine lv_iconst (v := 0) hx hb d_MD_paragraph_54 (by decide) ?_
          refine lv_goto (tgt := 68) hx hb d_MD_paragraph_55 (by decide) ?_
          exact hret 0 () _ _ _ _ _ _ d_MD_paragraph_68 hI (trivial) (Nat.le_refl 0) (Nat.le_refl 0)
    · have c32 : 1 = 0 := (nI_eq (a := 1) (b := 0) (by omega) (by omega)).mp c32
      exfalso; omega
  · refine lv_iload_n hx hb d_MD_paragraph_4 rfl (lv_at hl 1 rfl) ?_
    refine lv_aload_n hx hb d_MD_paragraph_5 rfl (lv_at hl 0 rfl) ?_
    refine g_MD_236 M hI d_MD_paragraph_6 ?_
    refine q_as (y := nI np) h6 ?_
    refine lv_icmp_ge (tgt := 25) hx hb d_MD_paragraph_9 (by decide) (fun c9 => ?_) (fun c9 => ?_)
    · refine lv_iconst (v := 0) hx hb d_MD_paragraph_25 (by decide) ?_
      refine lv_istore_n (lv' := [(3, .int 0), (0, .ref (ad 0)), (1, .int x), (2, .int y)]) hx hb d_MD_paragraph_26 rfl hl (by decide) rfl (fun ls hl => ?_)
      refine lv_aload_n hx hb d_MD_paragraph_27 rfl (lv_at hl 1 rfl) ?_
      refine lv_aload_n hx hb d_MD_paragraph_28 rfl (lv_at hl 1 rfl) ?_
      refine g_MD_92 M hI d_MD_paragraph_29 ?_
      refine q_as (y := 1) h5 ?_
      refine lv_if_ne (tgt := 39) hx hb d_MD_paragraph_32 (by decide) (fun c32 => ?_) (fun c32 => ?_)
      · have c32 : ¬ 1 = 0 := fun h => c32 ((nI_eq (a := 1) (b := 0) (by omega) (by omega)).mpr h)
        refine lv_iload_n hx hb d_MD_paragraph_39 rfl (lv_at hl 0 rfl) ?_
        refine lv_if_ne (tgt := 47) hx hb d_MD_paragraph_40 (by decide) (fun c40 => ?_) (fun c40 => ?_)
        · have c40 : ¬ 0 = 0 := fun h => c40 ((nI_eq (a := 0) (b := 0) (by omega) (by omega)).mpr h)
          exfalso; omega
        · have c40 : 0 = 0 := (nI_eq (a := 0) (b := 0) (by omega) (by omega)).mp c40
          refine lv_iconst (v := 2) hx hb d_MD_paragraph_43 (by decide) ?_
          refine lv_goto (tgt := 48) hx hb d_MD_paragraph_44 (by decide) ?_
          refine q_calliV [.int 2] M hI (c_MD_refused l g ad ar fl 2) ok_MD_refused m5_56 m5_58 ms_45 0 rfl rfl rfl rfl hl.1 ⟨rfl, rfl⟩ ⟨Nat.le_of_ble_eq_true rfl, Nat.le_of_ble_eq_true rfl⟩ (Nat.le_of_ble_eq_true rfl) ⟨Nat.le_of_ble_eq_true rfl, Nat.le_of_ble_eq_true rfl⟩ d_MD_paragraph_48 (fun r48 u48 H locs hp48 hI => ?_)
          have hI : CI g A s (mw g ad ar (va_up fl 0 2)) H locs := hI
          refine q_as (y := bI (¬ 2 ≤ 0)) hp48 ?_
          refine lv_if_eq (tgt := 58) hx hb d_MD_paragraph_51 (by decide) (fun c51 => ?_) (fun c51 => ?_)
          · have c51 := bI_eq0.mp c51
            exact absurd (by decide) c51
          · have c51 := bI_ne0.mp c51
            refine lv_iconst (v := 0) hx hb d_MD_paragraph_54 (by decide) ?_
            refine lv_goto (tgt := 68) hx hb d_MD_paragraph_55 (by decide) ?_
            exact hret 0 () _ _ _ _ _ _ d_MD_paragraph_68 hI (trivial) (Nat.le_refl 0) (Nat.le_refl 0)
      · have c32 : 1 = 0 := (nI_eq (a := 1) (b := 0) (by omega) (by omega)).mp c32
        exfalso; omega
    · refine lv_iload_n hx hb d_MD_paragraph_12 rfl (lv_at hl 2 rfl) ?_
      refine lv_if_lt (tgt := 25) hx hb d_MD_paragraph_13 (by decide) (fun c13 => ?_) (fun c13 => ?_)
      · refine lv_iconst (v := 0) hx hb d_MD_paragraph_25 (by decide) ?_
        refine lv_istore_n (lv' := [(3, .int 0), (0, .ref (ad 0)), (1, .int x), (2, .int y)]) hx hb d_MD_paragraph_26 rfl hl (by decide) rfl (fun ls hl => ?_)
        refine lv_aload_n hx hb d_MD_paragraph_27 rfl (lv_at hl 1 rfl) ?_
        refine lv_aload_n hx hb d_MD_paragraph_28 rfl (lv_at hl 1 rfl) ?_
        refine g_MD_92 M hI d_MD_paragraph_29 ?_
        refine q_as (y := 1) h5 ?_
        refine lv_if_ne (tgt := 39) hx hb d_MD_paragraph_32 (by decide) (fun c32 => ?_) (fun c32 => ?_)
        · have c32 : ¬ 1 = 0 := fun h => c32 ((nI_eq (a := 1) (b := 0) (by omega) (by omega)).mpr h)
          refine lv_iload_n hx hb d_MD_paragraph_39 rfl (lv_at hl 0 rfl) ?_
          refine lv_if_ne (tgt := 47) hx hb d_MD_paragraph_40 (by decide) (fun c40 => ?_) (fun c40 => ?_)
          · have c40 : ¬ 0 = 0 := fun h => c40 ((nI_eq (a := 0) (b := 0) (by omega) (by omega)).mpr h)
            exfalso; omega
          · have c40 : 0 = 0 := (nI_eq (a := 0) (b := 0) (by omega) (by omega)).mp c40
            refine lv_iconst (v := 2) hx hb d_MD_paragraph_43 (by decide) ?_
            refine lv_goto (tgt := 48) hx hb d_MD_paragraph_44 (by decide) ?_
            refine q_calliV [.int 2] M hI (c_MD_refused l g ad ar fl 2) ok_MD_refused m5_56 m5_58 ms_45 0 rfl rfl rfl rfl hl.1 ⟨rfl, rfl⟩ ⟨Nat.le_of_ble_eq_true rfl, Nat.le_of_ble_eq_true rfl⟩ (Nat.le_of_ble_eq_true rfl) ⟨Nat.le_of_ble_eq_true rfl, Nat.le_of_ble_eq_true rfl⟩ d_MD_paragraph_48 (fun r48 u48 H locs hp48 hI => ?_)
            have hI : CI g A s (mw g ad ar (va_up fl 0 2)) H locs := hI
            refine q_as (y := bI (¬ 2 ≤ 0)) hp48 ?_
            refine lv_if_eq (tgt := 58) hx hb d_MD_paragraph_51 (by decide) (fun c51 => ?_) (fun c51 => ?_)
            · have c51 := bI_eq0.mp c51
              exact absurd (by decide) c51
            · have c51 := bI_ne0.mp c51
              refine lv_iconst (v := 0) hx hb d_MD_paragraph_54 (by decide) ?_
              refine lv_goto (tgt := 68) hx hb d_MD_paragraph_55 (by decide) ?_
              exact hret 0 () _ _ _ _ _ _ d_MD_paragraph_68 hI (trivial) (Nat.le_refl 0) (Nat.le_refl 0)
        · have c32 : 1 = 0 := (nI_eq (a := 1) (b := 0) (by omega) (by omega)).mp c32
          exfalso; omega
      · refine lv_iload_n hx hb d_MD_paragraph_16 rfl (lv_at hl 2 rfl) ?_
        refine lv_iconst (v := 4) hx hb d_MD_paragraph_17 (by decide) ?_
        refine lv_icmp_ge (tgt := 25) hx hb d_MD_paragraph_18 (by decide) (fun c18 => ?_) (fun c18 => ?_)
        · refine lv_iconst (v := 0) hx hb d_MD_paragraph_25 (by decide) ?_
          refine lv_istore_n (lv' := [(3, .int 0), (0, .ref (ad 0)), (1, .int x), (2, .int y)]) hx hb d_MD_paragraph_26 rfl hl (by decide) rfl (fun ls hl => ?_)
          refine lv_aload_n hx hb d_MD_paragraph_27 rfl (lv_at hl 1 rfl) ?_
          refine lv_aload_n hx hb d_MD_paragraph_28 rfl (lv_at hl 1 rfl) ?_
          refine g_MD_92 M hI d_MD_paragraph_29 ?_
          refine q_as (y := 1) h5 ?_
          refine lv_if_ne (tgt := 39) hx hb d_MD_paragraph_32 (by decide) (fun c32 => ?_) (fun c32 => ?_)
          · have c32 : ¬ 1 = 0 := fun h => c32 ((nI_eq (a := 1) (b := 0) (by omega) (by omega)).mpr h)
            refine lv_iload_n hx hb d_MD_paragraph_39 rfl (lv_at hl 0 rfl) ?_
            refine lv_if_ne (tgt := 47) hx hb d_MD_paragraph_40 (by decide) (fun c40 => ?_) (fun c40 => ?_)
            · have c40 : ¬ 0 = 0 := fun h => c40 ((nI_eq (a := 0) (b := 0) (by omega) (by omega)).mpr h)
              exfalso; omega
            · have c40 : 0 = 0 := (nI_eq (a := 0) (b := 0) (by omega) (by omega)).mp c40
              refine lv_iconst (v := 2) hx hb d_MD_paragraph_43 (by decide) ?_
              refine lv_goto (tgt := 48) hx hb d_MD_paragraph_44 (by decide) ?_
              refine q_calliV [.int 2] M hI (c_MD_refused l g ad ar fl 2) ok_MD_refused m5_56 m5_58 ms_45 0 rfl rfl rfl rfl hl.1 ⟨rfl, rfl⟩ ⟨Nat.le_of_ble_eq_true rfl, Nat.le_of_ble_eq_true rfl⟩ (Nat.le_of_ble_eq_true rfl) ⟨Nat.le_of_ble_eq_true rfl, Nat.le_of_ble_eq_true rfl⟩ d_MD_paragraph_48 (fun r48 u48 H locs hp48 hI => ?_)
              have hI : CI g A s (mw g ad ar (va_up fl 0 2)) H locs := hI
              refine q_as (y := bI (¬ 2 ≤ 0)) hp48 ?_
              refine lv_if_eq (tgt := 58) hx hb d_MD_paragraph_51 (by decide) (fun c51 => ?_) (fun c51 => ?_)
              · have c51 := bI_eq0.mp c51
                exact absurd (by decide) c51
              · have c51 := bI_ne0.mp c51
                refine lv_iconst (v := 0) hx hb d_MD_paragraph_54 (by decide) ?_
                refine lv_goto (tgt := 68) hx hb d_MD_paragraph_55 (by decide) ?_
                exact hret 0 () _ _ _ _ _ _ d_MD_paragraph_68 hI (trivial) (Nat.le_refl 0) (Nat.le_refl 0)
          · have c32 : 1 = 0 := (nI_eq (a := 1) (b := 0) (by omega) (by omega)).mp c32
            exfalso; omega
        · exact absurd hS (fun h => h.elim c1 (fun h => h.elim c9 (fun h => h.elim c13 c18)))
abbrev rm_MD_paragraph_c_MD_paragraph_0 : Room := { frames := 1, cells := 0, slots := 0, locals := 21 }
set_option maxHeartbeats 4000000 in
set_option maxRecDepth 100000 in
theorem c_MD_paragraph_0 (l : Launch) (g : Geo) (ad : Nat → Nat) (ar : Nat → Nat → Int32) (fl : Nat → Int32) (k : Nat) (y : Nat) (np : Nat) (h5 : fl 5 = 1) (h6 : fl 6 = nI np) (hnN : np ≤ 2000) (hk : k < np) (hy : y < 4) : cMi l y_MD_paragraph (.code y_MD_paragraph b_MD_paragraph 4 (some .int) :: gw) rm_MD_paragraph_c_MD_paragraph_0 g [.ref (ad 0), .int (nI k), .int (nI y)] (mw g ad ar fl) (fun (r : Int32) (_ : Unit) => r = ar 14 (4 * k + y)) (fun (_ : Unit) => mw g ad ar (va_up fl 0 0)) 0 0 := by
  refine cMi_of (by decide) (Nat.le_of_ble_eq_true rfl) ?_
  intro p e s m below meth c A Q ls M hret hl hI
  have M : MC p s m ([.ref (ad 0), .int (nI k), .int (nI y)] : List Value).toArray meth c R_MD b_MD_paragraph 4 := M
  have hl : lv_has ls 4 [(0, .ref (ad 0)), (1, .int (nI k)), (2, .int (nI y))] := hl
  generalize ([.ref (ad 0), .int (nI k), .int (nI y)] : List Value).toArray = args at M hret ⊢
  have hx := M.1
  have hb := M.2.1
  refine lv_iload_n hx hb d_MD_paragraph_0 rfl (lv_at hl 1 rfl) ?_
  refine lv_if_lt (tgt := 25) hx hb d_MD_paragraph_1 (by decide) (fun c1 => ?_) (fun c1 => ?_)
  · have c1 : k < 0 := (nI_ltI (a := k) (b := 0) (by omega) (by omega)).mp c1
    exfalso; omega
  · have c1 : ¬ k < 0 := fun h => c1 ((nI_ltI (a := k) (b := 0) (by omega) (by omega)).mpr h)
    refine lv_iload_n hx hb d_MD_paragraph_4 rfl (lv_at hl 1 rfl) ?_
    refine lv_aload_n hx hb d_MD_paragraph_5 rfl (lv_at hl 0 rfl) ?_
    refine g_MD_236 M hI d_MD_paragraph_6 ?_
    refine q_as (y := nI np) h6 ?_
    refine lv_icmp_ge (tgt := 25) hx hb d_MD_paragraph_9 (by decide) (fun c9 => ?_) (fun c9 => ?_)
    · have c9 : np ≤ k := (nI_leI (a := np) (b := k) (by omega) (by omega)).mp c9
      exfalso; omega
    · have c9 : ¬ np ≤ k := fun h => c9 ((nI_leI (a := np) (b := k) (by omega) (by omega)).mpr h)
      refine lv_iload_n hx hb d_MD_paragraph_12 rfl (lv_at hl 2 rfl) ?_
      refine lv_if_lt (tgt := 25) hx hb d_MD_paragraph_13 (by decide) (fun c13 => ?_) (fun c13 => ?_)
      · have c13 : y < 0 := (nI_ltI (a := y) (b := 0) (by omega) (by omega)).mp c13
        exfalso; omega
      · have c13 : ¬ y < 0 := fun h => c13 ((nI_ltI (a := y) (b := 0) (by omega) (by omega)).mpr h)
        refine lv_iload_n hx hb d_MD_paragraph_16 rfl (lv_at hl 2 rfl) ?_
        refine lv_iconst (v := 4) hx hb d_MD_paragraph_17 (by decide) ?_
        refine lv_icmp_ge (tgt := 25) hx hb d_MD_paragraph_18 (by decide) (fun c18 => ?_) (fun c18 => ?_)
        · have c18 : 4 ≤ y := (nI_leI (a := 4) (b := y) (by omega) (by omega)).mp c18
          exfalso; omega
        · have c18 : ¬ 4 ≤ y := fun h => c18 ((nI_leI (a := 4) (b := y) (by omega) (by omega)).mpr h)
          refine lv_iconst (v := 1) hx hb d_MD_paragraph_21 (by decide) ?_
          refine lv_goto (tgt := 26) hx hb d_MD_paragraph_22 (by decide) ?_
          refine lv_istore_n (lv' := [(3, .int 1), (0, .ref (ad 0)), (1, .int (nI k)), (2, .int (nI y))]) hx hb d_MD_paragraph_26 rfl hl (by decide) rfl (fun ls hl => ?_)
          refine lv_aload_n hx hb d_MD_paragraph_27 rfl (lv_at hl 1 rfl) ?_
          refine lv_aload_n hx hb d_MD_paragraph_28 rfl (lv_at hl 1 rfl) ?_
          refine g_MD_92 M hI d_MD_paragraph_29 ?_
          refine q_as (y := 1) h5 ?_
          refine lv_if_ne (tgt := 39) hx hb d_MD_paragraph_32 (by decide) (fun c32 => ?_) (fun c32 => ?_)
          · have c32 : ¬ 1 = 0 := fun h => c32 ((nI_eq (a := 1) (b := 0) (by omega) (by omega)).mpr h)
            refine lv_iload_n hx hb d_MD_paragraph_39 rfl (lv_at hl 0 rfl) ?_
            refine lv_if_ne (tgt := 47) hx hb d_MD_paragraph_40 (by decide) (fun c40 => ?_) (fun c40 => ?_)
            · have c40 : ¬ 1 = 0 := fun h => c40 ((nI_eq (a := 1) (b := 0) (by omega) (by omega)).mpr h)
              refine lv_iconst (v := 0) hx hb d_MD_paragraph_47 (by decide) ?_
              refine q_calliV [.int 0] M hI (c_MD_refused l g ad ar fl 0) ok_MD_refused m5_56 m5_58 ms_45 0 rfl rfl rfl rfl hl.1 ⟨rfl, rfl⟩ ⟨Nat.le_of_ble_eq_true rfl, Nat.le_of_ble_eq_true rfl⟩ (Nat.le_of_ble_eq_true rfl) ⟨Nat.le_of_ble_eq_true rfl, Nat.le_of_ble_eq_true rfl⟩ d_MD_paragraph_48 (fun r48 u48 H locs hp48 hI => ?_)
              have hI : CI g A s (mw g ad ar (va_up fl 0 0)) H locs := hI
              refine q_as (y := bI (¬ 0 ≤ 0)) hp48 ?_
              refine lv_if_eq (tgt := 58) hx hb d_MD_paragraph_51 (by decide) (fun c51 => ?_) (fun c51 => ?_)
              · have c51 := bI_eq0.mp c51
                refine lv_aload_n hx hb d_MD_paragraph_58 rfl (lv_at hl 1 rfl) ?_
                refine g_MD_49 M hI d_MD_paragraph_59 ?_
                refine lv_iconst (v := 4) hx hb d_MD_paragraph_62 (by decide) ?_
                refine lv_iload_n hx hb d_MD_paragraph_63 rfl (lv_at hl 2 rfl) ?_
                refine lv_imul hx hb d_MD_paragraph_64 ?_
                refine q_as (y := nI (4 * k)) (pk_mul 4 k) ?_
                refine lv_iload_n hx hb d_MD_paragraph_65 rfl (lv_at hl 3 rfl) ?_
                refine lv_iadd hx hb d_MD_paragraph_66 ?_
                refine q_as (y := nI (4 * k + y)) (nI_add (4 * k) y) ?_
                refine bl_14 M hI (4 * k + y) rfl (by omega) d_MD_paragraph_67 ?_
                exact hret (ar 14 (4 * k + y)) () _ _ _ _ _ _ d_MD_paragraph_68 hI (rfl) (Nat.le_refl 0) (Nat.le_refl 0)
              · have c51 := bI_ne0.mp c51
                exact absurd (by decide) c51
            · have c40 : 1 = 0 := (nI_eq (a := 1) (b := 0) (by omega) (by omega)).mp c40
              exfalso; omega
          · have c32 : 1 = 0 := (nI_eq (a := 1) (b := 0) (by omega) (by omega)).mp c32
            exfalso; omega
