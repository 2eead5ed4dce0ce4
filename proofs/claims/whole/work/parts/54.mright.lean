/-! 54: the model: isRight, isBesideNumber -/
theorem mOf_ok {fst : Nat → Int32} : ∀ f k o, mOf fst f k o = -1 ∨ ∃ j, k ≤ j ∧ j < k + f ∧ mOf fst f k o = nI j
  | 0, _, _ => Or.inl rfl
  | f + 1, k, o => by
    simp only [mOf]
    split
    · exact Or.inr ⟨k, Nat.le_refl k, by omega, rfl⟩
    · rcases mOf_ok (fst := fst) f (k + 1) (stp (fst k) o) with h | ⟨j, h1, h2, h3⟩
      · exact Or.inl h
      · exact Or.inr ⟨j, by omega, by omega, h3⟩
/-- where the model looks next -/
def rnx (fst : Nat → Int32) (en k : Nat) : Nat := if isol (fst k) then (if mOf fst (en - (k + 1)) (k + 1) 1 = -1 then en else (mOf fst (en - (k + 1)) (k + 1) 1).toNatClampNeg + 1) else k + 1
theorem rnx_gt {fst : Nat → Int32} {en k : Nat} (h : k < en) (he : en ≤ 2000) : k < rnx fst en k ∧ rnx fst en k ≤ en := by
  unfold rnx
  split
  · split
    · exact ⟨h, Nat.le_refl _⟩
    · rename_i hn
      obtain ⟨j, h1, h2, h3⟩ := (mOf_ok (fst := fst) (en - (k + 1)) (k + 1) 1).resolve_left hn
      rw [h3, nI_clamp (by omega)]; omega
  · omega
def riF (fst : Nat → Int32) (en : Nat) : Nat → Nat → Prop
  | 0, _ => False
  | f + 1, k => if en ≤ k then False else if strg (fst k) then ¬ fst k = 0 else riF fst en f (rnx fst en k)
theorem riF_ge {fst : Nat → Int32} {en k : Nat} (h : en ≤ k) : ∀ f, riF fst en f k = False
  | 0 => rfl
  | f + 1 => by simp only [riF]; rw [if_pos h]
theorem riF_f {fst : Nat → Int32} {en : Nat} (he : en ≤ 2000) : ∀ f f' k, en ≤ k + f → en ≤ k + f' → riF fst en f k = riF fst en f' k
  | 0, f', k, h1, _ => by rw [riF_ge (by omega), riF_ge (by omega)]
  | f + 1, 0, k, _, h2 => by rw [riF_ge (by omega), riF_ge (by omega)]
  | f + 1, f' + 1, k, h1, h2 => by
    simp only [riF]
    by_cases q : en ≤ k
    · rw [if_pos q, if_pos q]
    · have := rnx_gt (fst := fst) (en := en) (k := k) (by omega) he
      rw [if_neg q, if_neg q, riF_f he f f' (rnx fst en k) (by omega) (by omega)]
def RI (fst : Nat → Int32) (en k : Nat) : Prop := riF fst en (en - k) k
theorem RI_eq {fst : Nat → Int32} {en k : Nat} (he : en ≤ 2000) (h : k < en) : RI fst en k = if strg (fst k) then ¬ fst k = 0 else RI fst en (rnx fst en k) := by
  unfold RI
  have hg := rnx_gt (fst := fst) (en := en) (k := k) h he
  rw [show en - k = (en - k - 1) + 1 by omega]
  simp only [riF]
  rw [if_neg (by omega), riF_f he (en - k - 1) (en - rnx fst en k) (rnx fst en k) (by omega) (by omega)]
theorem RI_ge {fst : Nat → Int32} {en k : Nat} (h : en ≤ k) : RI fst en k = False := riF_ge h _
abbrev rm_MD_isRight : Room := { frames := 2, cells := 0, slots := 0, locals := 44 }
set_option maxHeartbeats 4000000 in
set_option maxRecDepth 100000 in
theorem c_MD_isRight (l : Launch) (g : Geo) (ad : Nat → Nat) (ar : Nat → Nat → Int32) (fl : Nat → Int32) (b : Nat) (en : Nat) (hb0 : b ≤ 2000) (he : en ≤ 2000) : cMi l y_MD_isRight (.code y_MD_isRight b_MD_isRight 6 (some .boolean) :: gw) rm_MD_isRight g [.ref (ad 0), .int (nI b), .int (nI en)] (mw g ad ar fl) (fun (r : Int32) (_ : Unit) => r = bI (RI (ar 9) en b)) (fun (_ : Unit) => mw g ad ar fl) 0 0 := by
  refine cMz_of (by decide) (Nat.le_of_ble_eq_true rfl) ?_
  intro p e s m below meth c A Q ls M hret hl hI
  have M : MC p s m ([.ref (ad 0), .int (nI b), .int (nI en)] : List Value).toArray meth c R_MD b_MD_isRight 6 := M
  have hl : lv_has ls 6 [(0, .ref (ad 0)), (1, .int (nI b)), (2, .int (nI en))] := hl
  generalize ([.ref (ad 0), .int (nI b), .int (nI en)] : List Value).toArray = args at M hret ⊢
  have hx := M.1
  have hb := M.2.1
  refine lv_iload_n hx hb d_MD_isRight_0 rfl (lv_at hl 1 rfl) ?_
  refine lv_istore_n (lv' := [(3, .int (nI b)), (0, .ref (ad 0)), (1, .int (nI b)), (2, .int (nI en))]) hx hb d_MD_isRight_1 rfl hl (by decide) rfl (fun ls hl => ?_)
  have L2 : ∀ (fu : Nat) (k : Nat), (2001 - k) < fu → (k ≤ 2000) → (RI (ar 9) en b = RI (ar 9) en k) → ∀ (H : Heap) (locs : List Loc) (ls : Array Slot), CI g A s (mw g ad ar fl) H locs → lv_has ls 6 [(0, .ref (ad 0)), (2, .int (nI en)), (3, .int (nI k))] → W p l e rm_MD_isRight s m args below meth c H locs 0 0 Q (F0 m 2 ls []) := by
    intro fu
    induction fu with
    | zero => intro k hm; exact absurd hm (Nat.not_lt_zero _)
    | succ fu ih2 =>
      intro k hm hk hq H locs ls hI hl
      refine lv_iload_n hx hb d_MD_isRight_2 rfl (lv_at hl 2 rfl) ?_
      refine lv_iload_n hx hb d_MD_isRight_3 rfl (lv_at hl 1 rfl) ?_
      refine lv_icmp_ge (tgt := 80) hx hb d_MD_isRight_4 (by decide) (fun c4 => ?_) (fun c4 => ?_)
      · have c4 : en ≤ k := (nI_leI (a := en) (b := k) (by omega) (by omega)).mp c4
        refine lv_iconst (v := 0) hx hb d_MD_isRight_80 (by decide) ?_
        exact hret 0 () _ _ _ _ _ _ d_MD_isRight_81 hI (by rw [hq, RI_ge c4]; exact (bI_f id).symm) (by first | rfl | exact bI_narrow) (Nat.le_refl 0) (Nat.le_refl 0)
      · have c4 : ¬ en ≤ k := fun h => c4 ((nI_leI (a := en) (b := k) (by omega) (by omega)).mpr h)
        have hst := RI_eq (fst := ar 9) he (show k < en by omega)
        have hng := rnx_gt (fst := ar 9) (show k < en by omega) he
        refine lv_aload_n hx hb d_MD_isRight_7 rfl (lv_at hl 0 rfl) ?_
        refine g_MD_34 M hI d_MD_isRight_8 ?_
        refine lv_iload_n hx hb d_MD_isRight_11 rfl (lv_at hl 2 rfl) ?_
        refine bl_9 M hI k rfl (by omega) d_MD_isRight_12 ?_
        refine lv_istore (lv' := [(4, .int (ar 9 k)), (0, .ref (ad 0)), (2, .int (nI en)), (3, .int (nI k))]) hx hb d_MD_isRight_13 hl (by decide) rfl (fun ls hl => ?_)
        refine lv_iload hx hb d_MD_isRight_15 (lv_at hl 0 rfl) ?_
        refine lv_if_eq (tgt := 32) hx hb d_MD_isRight_17 (by decide) (fun c17 => ?_) (fun c17 => ?_)
        · have hs : strg (ar 9 k) := Or.inl c17
          refine lv_iload hx hb d_MD_isRight_32 (lv_at hl 0 rfl) ?_
          refine lv_if_eq (tgt := 41) hx hb d_MD_isRight_34 (by decide) (fun c34 => ?_) (fun c34 => ?_)
          · refine lv_iconst (v := 0) hx hb d_MD_isRight_41 (by decide) ?_
            exact hret 0 () _ _ _ _ _ _ d_MD_isRight_42 hI (by rw [hq, hst, if_pos hs]; symm; first | exact bI_t c34 | (apply bI_f; intro q; exact q c34)) (by first | rfl | exact bI_narrow) (Nat.le_refl 0) (Nat.le_refl 0)
          · refine lv_iconst (v := 1) hx hb d_MD_isRight_37 (by decide) ?_
            refine lv_goto (tgt := 42) hx hb d_MD_isRight_38 (by decide) ?_
            exact hret 1 () _ _ _ _ _ _ d_MD_isRight_42 hI (by rw [hq, hst, if_pos hs]; symm; first | exact bI_t c34 | (apply bI_f; intro q; exact q c34)) (by first | rfl | exact bI_narrow) (Nat.le_refl 0) (Nat.le_refl 0)
        · refine lv_iload hx hb d_MD_isRight_20 (lv_at hl 0 rfl) ?_
          refine lv_iconst (v := 1) hx hb d_MD_isRight_22 (by decide) ?_
          refine lv_icmp_eq (tgt := 32) hx hb d_MD_isRight_23 (by decide) (fun c23 => ?_) (fun c23 => ?_)
          · have hs : strg (ar 9 k) := Or.inr (Or.inl c23)
            refine lv_iload hx hb d_MD_isRight_32 (lv_at hl 0 rfl) ?_
            refine lv_if_eq (tgt := 41) hx hb d_MD_isRight_34 (by decide) (fun c34 => ?_) (fun c34 => ?_)
            · refine lv_iconst (v := 0) hx hb d_MD_isRight_41 (by decide) ?_
              exact hret 0 () _ _ _ _ _ _ d_MD_isRight_42 hI (by rw [hq, hst, if_pos hs]; symm; first | exact bI_t c34 | (apply bI_f; intro q; exact q c34)) (by first | rfl | exact bI_narrow) (Nat.le_refl 0) (Nat.le_refl 0)
            · refine lv_iconst (v := 1) hx hb d_MD_isRight_37 (by decide) ?_
              refine lv_goto (tgt := 42) hx hb d_MD_isRight_38 (by decide) ?_
              exact hret 1 () _ _ _ _ _ _ d_MD_isRight_42 hI (by rw [hq, hst, if_pos hs]; symm; first | exact bI_t c34 | (apply bI_f; intro q; exact q c34)) (by first | rfl | exact bI_narrow) (Nat.le_refl 0) (Nat.le_refl 0)
          · refine lv_iload hx hb d_MD_isRight_26 (lv_at hl 0 rfl) ?_
            refine lv_iconst (v := 2) hx hb d_MD_isRight_28 (by decide) ?_
            refine lv_icmp_ne (tgt := 43) hx hb d_MD_isRight_29 (by decide) (fun c29 => ?_) (fun c29 => ?_)
            · have hs : ¬ strg (ar 9 k) := fun q => q.elim c17 (fun q => q.elim c23 c29)
              have hq1 : RI (ar 9) en b = RI (ar 9) en (rnx (ar 9) en k) := by rw [hq, hst, if_neg hs]
              refine lv_iload hx hb d_MD_isRight_43 (lv_at hl 0 rfl) ?_
              refine q_calliS [.int (ar 9 k)] M hI (c_MD_isIsolate l g (mw g ad ar fl) (ar 9 k)) ok_MD_isIsolate m5_107 m5_108 rfl rfl hl.1 ⟨rfl, rfl⟩ ⟨Nat.le_of_ble_eq_true rfl, Nat.le_of_ble_eq_true rfl⟩ (Nat.le_of_ble_eq_true rfl) ⟨Nat.le_of_ble_eq_true rfl, Nat.le_of_ble_eq_true rfl⟩ d_MD_isRight_45 (fun r45 u45 H locs hp45 hI => ?_)
              refine q_as (y := bI (isol (ar 9 k))) hp45 ?_
              refine lv_if_eq (tgt := 60) hx hb d_MD_isRight_48 (by decide) (fun c48 => ?_) (fun c48 => ?_)
              · have c48 := bI_eq0.mp c48
                have hnx : rnx (ar 9) en k = k + 1 := by unfold rnx; rw [if_neg c48]
                refine lv_iload_n hx hb d_MD_isRight_60 rfl (lv_at hl 3 rfl) ?_
                refine lv_istore (lv' := [(5, .int (nI k)), (4, .int (ar 9 k)), (0, .ref (ad 0)), (2, .int (nI en)), (3, .int (nI k))]) hx hb d_MD_isRight_61 hl (by decide) rfl (fun ls hl => ?_)
                refine lv_iload hx hb d_MD_isRight_63 (lv_at hl 0 rfl) ?_
                refine lv_if_ge (tgt := 72) hx hb d_MD_isRight_65 (by decide) (fun c65 => ?_) (fun c65 => ?_)
                · have c65 : 0 ≤ k := (nI_leI (a := 0) (b := k) (by omega) (by omega)).mp c65
                  have hq2 : RI (ar 9) en b = RI (ar 9) en (k + 1) := by rw [hq1, hnx]
                  refine lv_iload hx hb d_MD_isRight_72 (lv_at hl 0 rfl) ?_
                  refine lv_iconst (v := 1) hx hb d_MD_isRight_74 (by decide) ?_
                  refine lv_iadd hx hb d_MD_isRight_75 ?_
                  refine q_as (y := nI (k + 1)) (nI_add k 1) ?_
                  refine lv_istore_n (lv' := [(3, .int (nI (k + 1))), (5, .int (nI k)), (4, .int (ar 9 k)), (0, .ref (ad 0)), (2, .int (nI en))]) hx hb d_MD_isRight_76 rfl hl (by decide) rfl (fun ls hl => ?_)
                  refine lv_goto (tgt := 2) hx hb d_MD_isRight_77 (by decide) ?_
                  exact ih2 (k + 1) (by omega) (by omega) (hq2) _ _ _ hI (lv_sub hl [3, 4, 0] rfl)
                · have c65 : ¬ 0 ≤ k := fun h => c65 ((nI_leI (a := 0) (b := k) (by omega) (by omega)).mpr h)
                  exfalso; omega
              · have c48 := bI_ne0.mp c48
                have hmo := mOf_ok (fst := ar 9) (en - (k + 1)) (k + 1) 1
                refine lv_aload_n hx hb d_MD_isRight_51 rfl (lv_at hl 1 rfl) ?_
                refine lv_iload_n hx hb d_MD_isRight_52 rfl (lv_at hl 3 rfl) ?_
                refine lv_iload_n hx hb d_MD_isRight_53 rfl (lv_at hl 2 rfl) ?_
                refine q_calliV [.int (nI k), .int (nI en)] M hI (c_MD_matchOf l g ad ar fl k en (by omega) (he)) ok_MD_matchOf m5_110 m5_112 ms_52 0 rfl rfl rfl rfl hl.1 ⟨rfl, rfl⟩ ⟨Nat.le_of_ble_eq_true rfl, Nat.le_of_ble_eq_true rfl⟩ (Nat.le_of_ble_eq_true rfl) ⟨Nat.le_of_ble_eq_true rfl, Nat.le_of_ble_eq_true rfl⟩ d_MD_isRight_54 (fun r54 u54 H locs hp54 hI => ?_)
                refine q_as (y := mOf (ar 9) (en - (k + 1)) (k + 1) 1) hp54 ?_
                refine lv_goto (tgt := 61) hx hb d_MD_isRight_57 (by decide) ?_
                refine lv_istore (lv' := [(5, .int (mOf (ar 9) (en - (k + 1)) (k + 1) 1)), (4, .int (ar 9 k)), (0, .ref (ad 0)), (2, .int (nI en)), (3, .int (nI k))]) hx hb d_MD_isRight_61 hl (by decide) rfl (fun ls hl => ?_)
                refine lv_iload hx hb d_MD_isRight_63 (lv_at hl 0 rfl) ?_
                refine lv_if_ge (tgt := 72) hx hb d_MD_isRight_65 (by decide) (fun c65 => ?_) (fun c65 => ?_)
                · obtain ⟨j9, hj1, hj2, hm⟩ := hmo.resolve_left (fun q => by rw [q] at c65; exact absurd c65 (by decide))
                  have hnx : rnx (ar 9) en k = j9 + 1 := by unfold rnx; rw [if_pos c48, hm, if_neg (m1_ne (by omega)), nI_clamp (by omega)]
                  rw [hm] at hl
                  have hq2 : RI (ar 9) en b = RI (ar 9) en (j9 + 1) := by rw [hq1, hnx]
                  refine lv_iload hx hb d_MD_isRight_72 (lv_at hl 0 rfl) ?_
                  refine lv_iconst (v := 1) hx hb d_MD_isRight_74 (by decide) ?_
                  refine lv_iadd hx hb d_MD_isRight_75 ?_
                  refine q_as (y := nI (j9 + 1)) (nI_add j9 1) ?_
                  refine lv_istore_n (lv' := [(3, .int (nI (j9 + 1))), (5, .int (nI j9)), (4, .int (ar 9 k)), (0, .ref (ad 0)), (2, .int (nI en))]) hx hb d_MD_isRight_76 rfl hl (by decide) rfl (fun ls hl => ?_)
                  refine lv_goto (tgt := 2) hx hb d_MD_isRight_77 (by decide) ?_
                  exact ih2 (j9 + 1) (by omega) (by omega) (hq2) _ _ _ hI (lv_sub hl [3, 4, 0] rfl)
                · have hm : mOf (ar 9) (en - (k + 1)) (k + 1) 1 = -1 := by rcases hmo with q | ⟨j9, h1, h2, h3⟩; exact q; exact absurd (by rw [h3]; exact nI_pos' (by omega)) c65
                  have hnx : rnx (ar 9) en k = en := by unfold rnx; rw [if_pos c48, if_pos hm]
                  have hq2 : RI (ar 9) en b = RI (ar 9) en en := by rw [hq1, hnx]
                  refine lv_iload_n hx hb d_MD_isRight_68 rfl (lv_at hl 3 rfl) ?_
                  refine lv_goto (tgt := 76) hx hb d_MD_isRight_69 (by decide) ?_
                  refine lv_istore_n (lv' := [(3, .int (nI en)), (5, .int (mOf (ar 9) (en - (k + 1)) (k + 1) 1)), (4, .int (ar 9 k)), (0, .ref (ad 0)), (2, .int (nI en))]) hx hb d_MD_isRight_76 rfl hl (by decide) rfl (fun ls hl => ?_)
                  refine lv_goto (tgt := 2) hx hb d_MD_isRight_77 (by decide) ?_
                  exact ih2 en (by omega) (by omega) (hq2) _ _ _ hI (lv_sub hl [3, 4, 0] rfl)
            · have hs : strg (ar 9 k) := Or.inr (Or.inr c29)
              refine lv_iload hx hb d_MD_isRight_32 (lv_at hl 0 rfl) ?_
              refine lv_if_eq (tgt := 41) hx hb d_MD_isRight_34 (by decide) (fun c34 => ?_) (fun c34 => ?_)
              · refine lv_iconst (v := 0) hx hb d_MD_isRight_41 (by decide) ?_
                exact hret 0 () _ _ _ _ _ _ d_MD_isRight_42 hI (by rw [hq, hst, if_pos hs]; symm; first | exact bI_t c34 | (apply bI_f; intro q; exact q c34)) (by first | rfl | exact bI_narrow) (Nat.le_refl 0) (Nat.le_refl 0)
              · refine lv_iconst (v := 1) hx hb d_MD_isRight_37 (by decide) ?_
                refine lv_goto (tgt := 42) hx hb d_MD_isRight_38 (by decide) ?_
                exact hret 1 () _ _ _ _ _ _ d_MD_isRight_42 hI (by rw [hq, hst, if_pos hs]; symm; first | exact bI_t c34 | (apply bI_f; intro q; exact q c34)) (by first | rfl | exact bI_narrow) (Nat.le_refl 0) (Nat.le_refl 0)
  exact L2 _ b (Nat.lt_succ_self _) (by omega) (rfl) _ _ _ hI (lv_sub hl [1, 3, 0] rfl)
