/-! 50: the model: statics and tables -/
def clo (b : Nat → Int32) (x : Int32) : Nat → Prop
  | 0 => False
  | z + 1 => clo b x z ∨ b z = x
def mir (a b : Nat → Int32) (x : Int32) : Nat → Int32
  | 0 => -1
  | z + 1 => if a z = x then b z else if b z = x then a z else mir a b x z
def stp (k : Int32) (o : Nat) : Nat := if isol k then o + 1 else if k = 22 then o - 1 else o
def mOf (fst : Nat → Int32) : Nat → Nat → Nat → Int32
  | 0, _, _ => -1
  | f + 1, k, o => if stp (fst k) o = 0 then nI k else mOf fst f (k + 1) (stp (fst k) o)
def neut (k : Int32) : Prop := k = 10 ∨ k = 11 ∨ k = 12 ∨ k = 13 ∨ isol k ∨ k = 22
def fif (i : Nat) (a b c d e : Int32) : Int32 := if i = 0 then a else if i = 1 then b else if i = 2 then c else if i = 3 then d else e
abbrev rm_MD_isIsolate : Room := { frames := 0, cells := 0, slots := 0, locals := 0 }
set_option maxHeartbeats 4000000 in
set_option maxRecDepth 100000 in
theorem c_MD_isIsolate (l : Launch) (g : Geo) (w : va_W) (k : Int32) : cMi l y_MD_isIsolate (.code y_MD_isIsolate b_MD_isIsolate 1 (some .boolean) :: gw) rm_MD_isIsolate g [.int k] (w) (fun (r : Int32) (_ : Unit) => r = bI (isol k)) (fun (_ : Unit) => w) 0 0 := by
  refine cMz_of (by decide) (Nat.le_of_ble_eq_true rfl) ?_
  intro p e s m below meth c A Q ls M hret hl hI
  have M : MC p s m ([.int k] : List Value).toArray meth c R_MD b_MD_isIsolate 1 := M
  have hl : lv_has ls 1 [(0, .int k)] := hl
  generalize ([.int k] : List Value).toArray = args at M hret ⊢
  have hx := M.1
  have hb := M.2.1
  refine lv_iload_n hx hb d_MD_isIsolate_0 rfl (lv_at hl 0 rfl) ?_
  refine lv_bipush (v := 19) hx hb d_MD_isIsolate_1 (by decide) ?_
  refine lv_icmp_lt (tgt := 16) hx hb d_MD_isIsolate_3 (by decide) (fun c3 => ?_) (fun c3 => ?_)
  · refine lv_iconst (v := 0) hx hb d_MD_isIsolate_16 (by decide) ?_
    exact hret 0 () _ _ _ _ _ _ d_MD_isIsolate_17 hI (by unfold isol; first | exact (bI_t (by simp_all)).symm | exact (bI_f (by simp_all)).symm) (by first | rfl | exact bI_narrow) (Nat.le_refl 0) (Nat.le_refl 0)
  · refine lv_iload_n hx hb d_MD_isIsolate_6 rfl (lv_at hl 0 rfl) ?_
    refine lv_bipush (v := 21) hx hb d_MD_isIsolate_7 (by decide) ?_
    refine lv_icmp_gt (tgt := 16) hx hb d_MD_isIsolate_9 (by decide) (fun c9 => ?_) (fun c9 => ?_)
    · refine lv_iconst (v := 0) hx hb d_MD_isIsolate_16 (by decide) ?_
      exact hret 0 () _ _ _ _ _ _ d_MD_isIsolate_17 hI (by unfold isol; first | exact (bI_t (by simp_all)).symm | exact (bI_f (by simp_all)).symm) (by first | rfl | exact bI_narrow) (Nat.le_refl 0) (Nat.le_refl 0)
    · refine lv_iconst (v := 1) hx hb d_MD_isIsolate_12 (by decide) ?_
      refine lv_goto (tgt := 17) hx hb d_MD_isIsolate_13 (by decide) ?_
      exact hret 1 () _ _ _ _ _ _ d_MD_isIsolate_17 hI (by unfold isol; first | exact (bI_t (by simp_all)).symm | exact (bI_f (by simp_all)).symm) (by first | rfl | exact bI_narrow) (Nat.le_refl 0) (Nat.le_refl 0)
abbrev rm_MD_isCharacter : Room := { frames := 0, cells := 0, slots := 0, locals := 0 }
set_option maxHeartbeats 4000000 in
set_option maxRecDepth 100000 in
theorem c_MD_isCharacter (l : Launch) (g : Geo) (w : va_W) (k : Int32) : cMi l y_MD_isCharacter (.code y_MD_isCharacter b_MD_isCharacter 1 (some .boolean) :: gw) rm_MD_isCharacter g [.int k] (w) (fun (r : Int32) (_ : Unit) => r = bI (isch k)) (fun (_ : Unit) => w) 0 0 := by
  refine cMz_of (by decide) (Nat.le_of_ble_eq_true rfl) ?_
  intro p e s m below meth c A Q ls M hret hl hI
  have M : MC p s m ([.int k] : List Value).toArray meth c R_MD b_MD_isCharacter 1 := M
  have hl : lv_has ls 1 [(0, .int k)] := hl
  generalize ([.int k] : List Value).toArray = args at M hret ⊢
  have hx := M.1
  have hb := M.2.1
  refine lv_iload_n hx hb d_MD_isCharacter_0 rfl (lv_at hl 0 rfl) ?_
  refine lv_if_lt (tgt := 14) hx hb d_MD_isCharacter_1 (by decide) (fun c1 => ?_) (fun c1 => ?_)
  · refine lv_iconst (v := 0) hx hb d_MD_isCharacter_14 (by decide) ?_
    exact hret 0 () _ _ _ _ _ _ d_MD_isCharacter_15 hI (by unfold isch; first | exact (bI_t (by simp_all)).symm | exact (bI_f (by simp_all)).symm) (by first | rfl | exact bI_narrow) (Nat.le_refl 0) (Nat.le_refl 0)
  · refine lv_iload_n hx hb d_MD_isCharacter_4 rfl (lv_at hl 0 rfl) ?_
    refine lv_ldc (v := 1114111) hx hb M.2.2.2.1 (M.2.2.2.2.1 _ m5_55) d_MD_isCharacter_5 ?_
    refine lv_icmp_gt (tgt := 14) hx hb d_MD_isCharacter_7 (by decide) (fun c7 => ?_) (fun c7 => ?_)
    · refine lv_iconst (v := 0) hx hb d_MD_isCharacter_14 (by decide) ?_
      exact hret 0 () _ _ _ _ _ _ d_MD_isCharacter_15 hI (by unfold isch; first | exact (bI_t (by simp_all)).symm | exact (bI_f (by simp_all)).symm) (by first | rfl | exact bI_narrow) (Nat.le_refl 0) (Nat.le_refl 0)
    · refine lv_iconst (v := 1) hx hb d_MD_isCharacter_10 (by decide) ?_
      refine lv_goto (tgt := 15) hx hb d_MD_isCharacter_11 (by decide) ?_
      exact hret 1 () _ _ _ _ _ _ d_MD_isCharacter_15 hI (by unfold isch; first | exact (bI_t (by simp_all)).symm | exact (bI_f (by simp_all)).symm) (by first | rfl | exact bI_narrow) (Nat.le_refl 0) (Nat.le_refl 0)
abbrev rm_MD_directionOf : Room := { frames := 0, cells := 0, slots := 0, locals := 0 }
set_option maxHeartbeats 4000000 in
set_option maxRecDepth 100000 in
theorem c_MD_directionOf (l : Launch) (g : Geo) (w : va_W) (v : Nat) (hv : v < 2 ^ 31) : cMi l y_MD_directionOf (.code y_MD_directionOf b_MD_directionOf 1 (some .int) :: gw) rm_MD_directionOf g [.int (nI v)] (w) (fun (r : Int32) (_ : Unit) => r = nI (v % 2)) (fun (_ : Unit) => w) 0 0 := by
  refine cMi_of (by decide) (Nat.le_of_ble_eq_true rfl) ?_
  intro p e s m below meth c A Q ls M hret hl hI
  have M : MC p s m ([.int (nI v)] : List Value).toArray meth c R_MD b_MD_directionOf 1 := M
  have hl : lv_has ls 1 [(0, .int (nI v))] := hl
  generalize ([.int (nI v)] : List Value).toArray = args at M hret ⊢
  have hx := M.1
  have hb := M.2.1
  refine lv_iload_n hx hb d_MD_directionOf_0 rfl (lv_at hl 0 rfl) ?_
  refine lv_iconst (v := 2) hx hb d_MD_directionOf_1 (by decide) ?_
  refine lv_irem hx hb d_MD_directionOf_2 (by decide) ?_
  refine q_as (y := nI (v % 2)) (pk_rem (by omega) (by decide) (by decide)) ?_
  refine lv_iconst (v := 1) hx hb d_MD_directionOf_3 (by decide) ?_
  refine lv_icmp_ne (tgt := 11) hx hb d_MD_directionOf_4 (by decide) (fun c4 => ?_) (fun c4 => ?_)
  · have c4 : ¬ v % 2 = 1 := fun h => c4 ((nI_eq (a := v % 2) (b := 1) (by omega) (by omega)).mpr h)
    refine lv_iconst (v := 0) hx hb d_MD_directionOf_11 (by decide) ?_
    exact hret 0 () _ _ _ _ _ _ d_MD_directionOf_12 hI (by first | (rw [show v % 2 = 1 by omega]; rfl) | (rw [show v % 2 = 0 by omega]; rfl)) (Nat.le_refl 0) (Nat.le_refl 0)
  · have c4 : v % 2 = 1 := (nI_eq (a := v % 2) (b := 1) (by omega) (by omega)).mp c4
    refine lv_iconst (v := 1) hx hb d_MD_directionOf_7 (by decide) ?_
    refine lv_goto (tgt := 12) hx hb d_MD_directionOf_8 (by decide) ?_
    exact hret 1 () _ _ _ _ _ _ d_MD_directionOf_12 hI (by first | (rw [show v % 2 = 1 by omega]; rfl) | (rw [show v % 2 = 0 by omega]; rfl)) (Nat.le_refl 0) (Nat.le_refl 0)
abbrev rm_MD_side : Room := { frames := 0, cells := 0, slots := 0, locals := 0 }
set_option maxHeartbeats 4000000 in
set_option maxRecDepth 100000 in
theorem c_MD_side (l : Launch) (g : Geo) (w : va_W) (k : Int32) : cMi l y_MD_side (.code y_MD_side b_MD_side 1 (some .int) :: gw) rm_MD_side g [.int k] (w) (fun (r : Int32) (_ : Unit) => r = sd k) (fun (_ : Unit) => w) 0 0 := by
  refine cMi_of (by decide) (Nat.le_of_ble_eq_true rfl) ?_
  intro p e s m below meth c A Q ls M hret hl hI
  have M : MC p s m ([.int k] : List Value).toArray meth c R_MD b_MD_side 1 := M
  have hl : lv_has ls 1 [(0, .int k)] := hl
  generalize ([.int k] : List Value).toArray = args at M hret ⊢
  have hx := M.1
  have hb := M.2.1
  refine lv_iload_n hx hb d_MD_side_0 rfl (lv_at hl 0 rfl) ?_
  refine lv_if_ne (tgt := 8) hx hb d_MD_side_1 (by decide) (fun c1 => ?_) (fun c1 => ?_)
  · refine lv_iload_n hx hb d_MD_side_8 rfl (lv_at hl 0 rfl) ?_
    refine lv_iconst (v := 1) hx hb d_MD_side_9 (by decide) ?_
    refine lv_icmp_eq (tgt := 24) hx hb d_MD_side_10 (by decide) (fun c10 => ?_) (fun c10 => ?_)
    · have hq : k = 1 ∨ k = 3 ∨ k = 6 := Or.inl c10
      refine lv_iconst (v := 1) hx hb d_MD_side_24 (by decide) ?_
      refine lv_goto (tgt := 29) hx hb d_MD_side_25 (by decide) ?_
      exact hret 1 () _ _ _ _ _ _ d_MD_side_29 hI (by unfold sd; first | rw [if_pos c1] | (rw [if_neg c1]; first | rw [if_pos hq] | rw [if_neg hq])) (Nat.le_refl 0) (Nat.le_refl 0)
    · refine lv_iload_n hx hb d_MD_side_13 rfl (lv_at hl 0 rfl) ?_
      refine lv_iconst (v := 3) hx hb d_MD_side_14 (by decide) ?_
      refine lv_icmp_eq (tgt := 24) hx hb d_MD_side_15 (by decide) (fun c15 => ?_) (fun c15 => ?_)
      · have hq : k = 1 ∨ k = 3 ∨ k = 6 := Or.inr (Or.inl c15)
        refine lv_iconst (v := 1) hx hb d_MD_side_24 (by decide) ?_
        refine lv_goto (tgt := 29) hx hb d_MD_side_25 (by decide) ?_
        exact hret 1 () _ _ _ _ _ _ d_MD_side_29 hI (by unfold sd; first | rw [if_pos c1] | (rw [if_neg c1]; first | rw [if_pos hq] | rw [if_neg hq])) (Nat.le_refl 0) (Nat.le_refl 0)
      · refine lv_iload_n hx hb d_MD_side_18 rfl (lv_at hl 0 rfl) ?_
        refine lv_bipush (v := 6) hx hb d_MD_side_19 (by decide) ?_
        refine lv_icmp_ne (tgt := 28) hx hb d_MD_side_21 (by decide) (fun c21 => ?_) (fun c21 => ?_)
        · have hq : ¬ (k = 1 ∨ k = 3 ∨ k = 6) := fun q => q.elim c10 (fun q => q.elim c15 c21)
          refine lv_iconst (v := (-1)) hx hb d_MD_side_28 (by decide) ?_
          exact hret (-1) () _ _ _ _ _ _ d_MD_side_29 hI (by unfold sd; first | rw [if_pos c1] | (rw [if_neg c1]; first | rw [if_pos hq] | rw [if_neg hq])) (Nat.le_refl 0) (Nat.le_refl 0)
        · have hq : k = 1 ∨ k = 3 ∨ k = 6 := Or.inr (Or.inr c21)
          refine lv_iconst (v := 1) hx hb d_MD_side_24 (by decide) ?_
          refine lv_goto (tgt := 29) hx hb d_MD_side_25 (by decide) ?_
          exact hret 1 () _ _ _ _ _ _ d_MD_side_29 hI (by unfold sd; first | rw [if_pos c1] | (rw [if_neg c1]; first | rw [if_pos hq] | rw [if_neg hq])) (Nat.le_refl 0) (Nat.le_refl 0)
  · refine lv_iconst (v := 0) hx hb d_MD_side_4 (by decide) ?_
    refine lv_goto (tgt := 29) hx hb d_MD_side_5 (by decide) ?_
    exact hret 0 () _ _ _ _ _ _ d_MD_side_29 hI (by unfold sd; first | rw [if_pos c1] | (rw [if_neg c1]; first | rw [if_pos hq] | rw [if_neg hq])) (Nat.le_refl 0) (Nat.le_refl 0)
abbrev rm_MD_isNeutral : Room := { frames := 1, cells := 0, slots := 0, locals := 20 }
set_option maxHeartbeats 4000000 in
set_option maxRecDepth 100000 in
theorem c_MD_isNeutral (l : Launch) (g : Geo) (w : va_W) (k : Int32) : cMi l y_MD_isNeutral (.code y_MD_isNeutral b_MD_isNeutral 1 (some .boolean) :: gw) rm_MD_isNeutral g [.int k] (w) (fun (r : Int32) (_ : Unit) => r = bI (neut k)) (fun (_ : Unit) => w) 0 0 := by
  refine cMz_of (by decide) (Nat.le_of_ble_eq_true rfl) ?_
  intro p e s m below meth c A Q ls M hret hl hI
  have M : MC p s m ([.int k] : List Value).toArray meth c R_MD b_MD_isNeutral 1 := M
  have hl : lv_has ls 1 [(0, .int k)] := hl
  generalize ([.int k] : List Value).toArray = args at M hret ⊢
  have hx := M.1
  have hb := M.2.1
  refine lv_iload_n hx hb d_MD_isNeutral_0 rfl (lv_at hl 0 rfl) ?_
  refine lv_bipush (v := 10) hx hb d_MD_isNeutral_1 (by decide) ?_
  refine lv_icmp_eq (tgt := 37) hx hb d_MD_isNeutral_3 (by decide) (fun c3 => ?_) (fun c3 => ?_)
  · refine lv_iconst (v := 1) hx hb d_MD_isNeutral_37 (by decide) ?_
    refine lv_goto (tgt := 42) hx hb d_MD_isNeutral_38 (by decide) ?_
    exact hret 1 () _ _ _ _ _ _ d_MD_isNeutral_42 hI (by symm; first | (apply bI_t; exact Or.inl c3) | (apply bI_t; exact Or.inr (Or.inl c9)) | (apply bI_t; exact Or.inr (Or.inr (Or.inl c15))) | (apply bI_t; exact Or.inr (Or.inr (Or.inr (Or.inl c21)))) | (apply bI_t; exact Or.inr (Or.inr (Or.inr (Or.inr (Or.inl c28))))) | (apply bI_t; exact Or.inr (Or.inr (Or.inr (Or.inr (Or.inr c34))))) | (apply bI_f; intro q; exact q.elim c3 (fun q => q.elim c9 (fun q => q.elim c15 (fun q => q.elim c21 (fun q => q.elim c28 c34)))))) (by first | rfl | exact bI_narrow) (Nat.le_refl 0) (Nat.le_refl 0)
  · refine lv_iload_n hx hb d_MD_isNeutral_6 rfl (lv_at hl 0 rfl) ?_
    refine lv_bipush (v := 11) hx hb d_MD_isNeutral_7 (by decide) ?_
    refine lv_icmp_eq (tgt := 37) hx hb d_MD_isNeutral_9 (by decide) (fun c9 => ?_) (fun c9 => ?_)
    · refine lv_iconst (v := 1) hx hb d_MD_isNeutral_37 (by decide) ?_
      refine lv_goto (tgt := 42) hx hb d_MD_isNeutral_38 (by decide) ?_
      exact hret 1 () _ _ _ _ _ _ d_MD_isNeutral_42 hI (by symm; first | (apply bI_t; exact Or.inl c3) | (apply bI_t; exact Or.inr (Or.inl c9)) | (apply bI_t; exact Or.inr (Or.inr (Or.inl c15))) | (apply bI_t; exact Or.inr (Or.inr (Or.inr (Or.inl c21)))) | (apply bI_t; exact Or.inr (Or.inr (Or.inr (Or.inr (Or.inl c28))))) | (apply bI_t; exact Or.inr (Or.inr (Or.inr (Or.inr (Or.inr c34))))) | (apply bI_f; intro q; exact q.elim c3 (fun q => q.elim c9 (fun q => q.elim c15 (fun q => q.elim c21 (fun q => q.elim c28 c34)))))) (by first | rfl | exact bI_narrow) (Nat.le_refl 0) (Nat.le_refl 0)
    · refine lv_iload_n hx hb d_MD_isNeutral_12 rfl (lv_at hl 0 rfl) ?_
      refine lv_bipush (v := 12) hx hb d_MD_isNeutral_13 (by decide) ?_
      refine lv_icmp_eq (tgt := 37) hx hb d_MD_isNeutral_15 (by decide) (fun c15 => ?_) (fun c15 => ?_)
      · refine lv_iconst (v := 1) hx hb d_MD_isNeutral_37 (by decide) ?_
        refine lv_goto (tgt := 42) hx hb d_MD_isNeutral_38 (by decide) ?_
        exact hret 1 () _ _ _ _ _ _ d_MD_isNeutral_42 hI (by symm; first | (apply bI_t; exact Or.inl c3) | (apply bI_t; exact Or.inr (Or.inl c9)) | (apply bI_t; exact Or.inr (Or.inr (Or.inl c15))) | (apply bI_t; exact Or.inr (Or.inr (Or.inr (Or.inl c21)))) | (apply bI_t; exact Or.inr (Or.inr (Or.inr (Or.inr (Or.inl c28))))) | (apply bI_t; exact Or.inr (Or.inr (Or.inr (Or.inr (Or.inr c34))))) | (apply bI_f; intro q; exact q.elim c3 (fun q => q.elim c9 (fun q => q.elim c15 (fun q => q.elim c21 (fun q => q.elim c28 c34)))))) (by first | rfl | exact bI_narrow) (Nat.le_refl 0) (Nat.le_refl 0)
      · refine lv_iload_n hx hb d_MD_isNeutral_18 rfl (lv_at hl 0 rfl) ?_
        refine lv_bipush (v := 13) hx hb d_MD_isNeutral_19 (by decide) ?_
        refine lv_icmp_eq (tgt := 37) hx hb d_MD_isNeutral_21 (by decide) (fun c21 => ?_) (fun c21 => ?_)
        · refine lv_iconst (v := 1) hx hb d_MD_isNeutral_37 (by decide) ?_
          refine lv_goto (tgt := 42) hx hb d_MD_isNeutral_38 (by decide) ?_
          exact hret 1 () _ _ _ _ _ _ d_MD_isNeutral_42 hI (by symm; first | (apply bI_t; exact Or.inl c3) | (apply bI_t; exact Or.inr (Or.inl c9)) | (apply bI_t; exact Or.inr (Or.inr (Or.inl c15))) | (apply bI_t; exact Or.inr (Or.inr (Or.inr (Or.inl c21)))) | (apply bI_t; exact Or.inr (Or.inr (Or.inr (Or.inr (Or.inl c28))))) | (apply bI_t; exact Or.inr (Or.inr (Or.inr (Or.inr (Or.inr c34))))) | (apply bI_f; intro q; exact q.elim c3 (fun q => q.elim c9 (fun q => q.elim c15 (fun q => q.elim c21 (fun q => q.elim c28 c34)))))) (by first | rfl | exact bI_narrow) (Nat.le_refl 0) (Nat.le_refl 0)
        · refine lv_iload_n hx hb d_MD_isNeutral_24 rfl (lv_at hl 0 rfl) ?_
          refine q_calliS [.int k] M hI (c_MD_isIsolate l g (w) k) ok_MD_isIsolate m5_107 m5_108 rfl rfl hl.1 ⟨rfl, rfl⟩ ⟨Nat.le_of_ble_eq_true rfl, Nat.le_of_ble_eq_true rfl⟩ (Nat.le_of_ble_eq_true rfl) ⟨Nat.le_of_ble_eq_true rfl, Nat.le_of_ble_eq_true rfl⟩ d_MD_isNeutral_25 (fun r25 u25 H locs hp25 hI => ?_)
          refine q_as (y := bI (isol k)) hp25 ?_
          refine lv_if_ne (tgt := 37) hx hb d_MD_isNeutral_28 (by decide) (fun c28 => ?_) (fun c28 => ?_)
          · have c28 := bI_ne0.mp c28
            refine lv_iconst (v := 1) hx hb d_MD_isNeutral_37 (by decide) ?_
            refine lv_goto (tgt := 42) hx hb d_MD_isNeutral_38 (by decide) ?_
            exact hret 1 () _ _ _ _ _ _ d_MD_isNeutral_42 hI (by symm; first | (apply bI_t; exact Or.inl c3) | (apply bI_t; exact Or.inr (Or.inl c9)) | (apply bI_t; exact Or.inr (Or.inr (Or.inl c15))) | (apply bI_t; exact Or.inr (Or.inr (Or.inr (Or.inl c21)))) | (apply bI_t; exact Or.inr (Or.inr (Or.inr (Or.inr (Or.inl c28))))) | (apply bI_t; exact Or.inr (Or.inr (Or.inr (Or.inr (Or.inr c34))))) | (apply bI_f; intro q; exact q.elim c3 (fun q => q.elim c9 (fun q => q.elim c15 (fun q => q.elim c21 (fun q => q.elim c28 c34)))))) (by first | rfl | exact bI_narrow) (Nat.le_refl 0) (Nat.le_refl 0)
          · have c28 := bI_eq0.mp c28
            refine lv_iload_n hx hb d_MD_isNeutral_31 rfl (lv_at hl 0 rfl) ?_
            refine lv_bipush (v := 22) hx hb d_MD_isNeutral_32 (by decide) ?_
            refine lv_icmp_ne (tgt := 41) hx hb d_MD_isNeutral_34 (by decide) (fun c34 => ?_) (fun c34 => ?_)
            · refine lv_iconst (v := 0) hx hb d_MD_isNeutral_41 (by decide) ?_
              exact hret 0 () _ _ _ _ _ _ d_MD_isNeutral_42 hI (by symm; first | (apply bI_t; exact Or.inl c3) | (apply bI_t; exact Or.inr (Or.inl c9)) | (apply bI_t; exact Or.inr (Or.inr (Or.inl c15))) | (apply bI_t; exact Or.inr (Or.inr (Or.inr (Or.inl c21)))) | (apply bI_t; exact Or.inr (Or.inr (Or.inr (Or.inr (Or.inl c28))))) | (apply bI_t; exact Or.inr (Or.inr (Or.inr (Or.inr (Or.inr c34))))) | (apply bI_f; intro q; exact q.elim c3 (fun q => q.elim c9 (fun q => q.elim c15 (fun q => q.elim c21 (fun q => q.elim c28 c34)))))) (by first | rfl | exact bI_narrow) (Nat.le_refl 0) (Nat.le_refl 0)
            · refine lv_iconst (v := 1) hx hb d_MD_isNeutral_37 (by decide) ?_
              refine lv_goto (tgt := 42) hx hb d_MD_isNeutral_38 (by decide) ?_
              exact hret 1 () _ _ _ _ _ _ d_MD_isNeutral_42 hI (by symm; first | (apply bI_t; exact Or.inl c3) | (apply bI_t; exact Or.inr (Or.inl c9)) | (apply bI_t; exact Or.inr (Or.inr (Or.inl c15))) | (apply bI_t; exact Or.inr (Or.inr (Or.inr (Or.inl c21)))) | (apply bI_t; exact Or.inr (Or.inr (Or.inr (Or.inr (Or.inl c28))))) | (apply bI_t; exact Or.inr (Or.inr (Or.inr (Or.inr (Or.inr c34))))) | (apply bI_f; intro q; exact q.elim c3 (fun q => q.elim c9 (fun q => q.elim c15 (fun q => q.elim c21 (fun q => q.elim c28 c34)))))) (by first | rfl | exact bI_narrow) (Nat.le_refl 0) (Nat.le_refl 0)
abbrev rm_MD_fifth : Room := { frames := 0, cells := 0, slots := 0, locals := 0 }
set_option maxHeartbeats 4000000 in
set_option maxRecDepth 100000 in
theorem c_MD_fifth (l : Launch) (g : Geo) (w : va_W) (i : Nat) (xa : Int32) (xb : Int32) (xc : Int32) (xd : Int32) (xe : Int32) (hi : i < 2 ^ 31) : cMi l y_MD_fifth (.code y_MD_fifth b_MD_fifth 6 (some .int) :: gw) rm_MD_fifth g [.int (nI i), .int xa, .int xb, .int xc, .int xd, .int xe] (w) (fun (r : Int32) (_ : Unit) => r = fif i xa xb xc xd xe) (fun (_ : Unit) => w) 0 0 := by
  refine cMi_of (by decide) (Nat.le_of_ble_eq_true rfl) ?_
  intro p e s m below meth c A Q ls M hret hl hI
  have M : MC p s m ([.int (nI i), .int xa, .int xb, .int xc, .int xd, .int xe] : List Value).toArray meth c R_MD b_MD_fifth 6 := M
  have hl : lv_has ls 6 [(0, .int (nI i)), (1, .int xa), (2, .int xb), (3, .int xc), (4, .int xd), (5, .int xe)] := hl
  generalize ([.int (nI i), .int xa, .int xb, .int xc, .int xd, .int xe] : List Value).toArray = args at M hret ⊢
  have hx := M.1
  have hb := M.2.1
  refine lv_iload_n hx hb d_MD_fifth_0 rfl (lv_at hl 0 rfl) ?_
  refine lv_if_ne (tgt := 8) hx hb d_MD_fifth_1 (by decide) (fun c1 => ?_) (fun c1 => ?_)
  · have c1 : ¬ i = 0 := fun h => c1 ((nI_eq (a := i) (b := 0) (by omega) (by omega)).mpr h)
    refine lv_iload_n hx hb d_MD_fifth_8 rfl (lv_at hl 0 rfl) ?_
    refine lv_iconst (v := 1) hx hb d_MD_fifth_9 (by decide) ?_
    refine lv_icmp_ne (tgt := 17) hx hb d_MD_fifth_10 (by decide) (fun c10 => ?_) (fun c10 => ?_)
    · have c10 : ¬ i = 1 := fun h => c10 ((nI_eq (a := i) (b := 1) (by omega) (by omega)).mpr h)
      refine lv_iload_n hx hb d_MD_fifth_17 rfl (lv_at hl 0 rfl) ?_
      refine lv_iconst (v := 2) hx hb d_MD_fifth_18 (by decide) ?_
      refine lv_icmp_ne (tgt := 26) hx hb d_MD_fifth_19 (by decide) (fun c19 => ?_) (fun c19 => ?_)
      · have c19 : ¬ i = 2 := fun h => c19 ((nI_eq (a := i) (b := 2) (by omega) (by omega)).mpr h)
        refine lv_iload_n hx hb d_MD_fifth_26 rfl (lv_at hl 0 rfl) ?_
        refine lv_iconst (v := 3) hx hb d_MD_fifth_27 (by decide) ?_
        refine lv_icmp_ne (tgt := 36) hx hb d_MD_fifth_28 (by decide) (fun c28 => ?_) (fun c28 => ?_)
        · have c28 : ¬ i = 3 := fun h => c28 ((nI_eq (a := i) (b := 3) (by omega) (by omega)).mpr h)
          refine lv_iload hx hb d_MD_fifth_36 (lv_at hl 5 rfl) ?_
          exact hret xe () _ _ _ _ _ _ d_MD_fifth_38 hI (by unfold fif; first | rw [if_pos c1] | (rw [if_neg c1]; first | rw [if_pos c10] | (rw [if_neg c10]; first | rw [if_pos c19] | (rw [if_neg c19]; first | rw [if_pos c28] | rw [if_neg c28])))) (Nat.le_refl 0) (Nat.le_refl 0)
        · have c28 : i = 3 := (nI_eq (a := i) (b := 3) (by omega) (by omega)).mp c28
          refine lv_iload hx hb d_MD_fifth_31 (lv_at hl 4 rfl) ?_
          refine lv_goto (tgt := 38) hx hb d_MD_fifth_33 (by decide) ?_
          exact hret xd () _ _ _ _ _ _ d_MD_fifth_38 hI (by unfold fif; first | rw [if_pos c1] | (rw [if_neg c1]; first | rw [if_pos c10] | (rw [if_neg c10]; first | rw [if_pos c19] | (rw [if_neg c19]; first | rw [if_pos c28] | rw [if_neg c28])))) (Nat.le_refl 0) (Nat.le_refl 0)
      · have c19 : i = 2 := (nI_eq (a := i) (b := 2) (by omega) (by omega)).mp c19
        refine lv_iload_n hx hb d_MD_fifth_22 rfl (lv_at hl 3 rfl) ?_
        refine lv_goto (tgt := 38) hx hb d_MD_fifth_23 (by decide) ?_
        exact hret xc () _ _ _ _ _ _ d_MD_fifth_38 hI (by unfold fif; first | rw [if_pos c1] | (rw [if_neg c1]; first | rw [if_pos c10] | (rw [if_neg c10]; first | rw [if_pos c19] | (rw [if_neg c19]; first | rw [if_pos c28] | rw [if_neg c28])))) (Nat.le_refl 0) (Nat.le_refl 0)
    · have c10 : i = 1 := (nI_eq (a := i) (b := 1) (by omega) (by omega)).mp c10
      refine lv_iload_n hx hb d_MD_fifth_13 rfl (lv_at hl 2 rfl) ?_
      refine lv_goto (tgt := 38) hx hb d_MD_fifth_14 (by decide) ?_
      exact hret xb () _ _ _ _ _ _ d_MD_fifth_38 hI (by unfold fif; first | rw [if_pos c1] | (rw [if_neg c1]; first | rw [if_pos c10] | (rw [if_neg c10]; first | rw [if_pos c19] | (rw [if_neg c19]; first | rw [if_pos c28] | rw [if_neg c28])))) (Nat.le_refl 0) (Nat.le_refl 0)
  · have c1 : i = 0 := (nI_eq (a := i) (b := 0) (by omega) (by omega)).mp c1
    refine lv_iload_n hx hb d_MD_fifth_4 rfl (lv_at hl 1 rfl) ?_
    refine lv_goto (tgt := 38) hx hb d_MD_fifth_5 (by decide) ?_
    exact hret xa () _ _ _ _ _ _ d_MD_fifth_38 hI (by unfold fif; first | rw [if_pos c1] | (rw [if_neg c1]; first | rw [if_pos c10] | (rw [if_neg c10]; first | rw [if_pos c19] | (rw [if_neg c19]; first | rw [if_pos c28] | rw [if_neg c28])))) (Nat.le_refl 0) (Nat.le_refl 0)
abbrev rm_MD_thrown : Room := { frames := 0, cells := 0, slots := 0, locals := 0 }
set_option maxHeartbeats 4000000 in
set_option maxRecDepth 100000 in
theorem c_MD_thrown (l : Launch) (g : Geo) (ad : Nat → Nat) (ar : Nat → Nat → Int32) (fl : Nat → Int32) : cMi l y_MD_thrown (.code y_MD_thrown b_MD_thrown 1 (some .int) :: gw) rm_MD_thrown g [.ref (ad 0)] (mw g ad ar fl) (fun (r : Int32) (_ : Unit) => r = fl 0) (fun (_ : Unit) => mw g ad ar fl) 0 0 := by
  refine cMi_of (by decide) (Nat.le_of_ble_eq_true rfl) ?_
  intro p e s m below meth c A Q ls M hret hl hI
  have M : MC p s m ([.ref (ad 0)] : List Value).toArray meth c R_MD b_MD_thrown 1 := M
  have hl : lv_has ls 1 [(0, .ref (ad 0))] := hl
  generalize ([.ref (ad 0)] : List Value).toArray = args at M hret ⊢
  have hx := M.1
  have hb := M.2.1
  refine lv_aload_n hx hb d_MD_thrown_0 rfl (lv_at hl 0 rfl) ?_
  refine g_MD_77 M hI d_MD_thrown_1 ?_
  exact hret (fl 0) () _ _ _ _ _ _ d_MD_thrown_4 hI (rfl) (Nat.le_refl 0) (Nat.le_refl 0)
abbrev rm_MD_refused : Room := { frames := 0, cells := 0, slots := 0, locals := 0 }
set_option maxHeartbeats 4000000 in
set_option maxRecDepth 100000 in
theorem c_MD_refused (l : Launch) (g : Geo) (ad : Nat → Nat) (ar : Nat → Nat → Int32) (fl : Nat → Int32) (x : Int32) : cMi l y_MD_refused (.code y_MD_refused b_MD_refused 2 (some .boolean) :: gw) rm_MD_refused g [.ref (ad 0), .int x] (mw g ad ar fl) (fun (r : Int32) (_ : Unit) => r = bI (¬ x ≤ 0)) (fun (_ : Unit) => mw g ad ar (va_up fl 0 x)) 0 0 := by
  refine cMz_of (by decide) (Nat.le_of_ble_eq_true rfl) ?_
  intro p e s m below meth c A Q ls M hret hl hI
  have M : MC p s m ([.ref (ad 0), .int x] : List Value).toArray meth c R_MD b_MD_refused 2 := M
  have hl : lv_has ls 2 [(0, .ref (ad 0)), (1, .int x)] := hl
  generalize ([.ref (ad 0), .int x] : List Value).toArray = args at M hret ⊢
  have hx := M.1
  have hb := M.2.1
  refine lv_aload_n hx hb d_MD_refused_0 rfl (lv_at hl 0 rfl) ?_
  refine lv_iload_n hx hb d_MD_refused_1 rfl (lv_at hl 1 rfl) ?_
  refine p_MD_77 M hI d_MD_refused_2 (fun H locs hI => ?_)
  have hI : CI g A s (mw g ad ar (va_up fl 0 x)) H locs := hI
  refine lv_iload_n hx hb d_MD_refused_5 rfl (lv_at hl 1 rfl) ?_
  refine lv_if_le (tgt := 13) hx hb d_MD_refused_6 (by decide) (fun c6 => ?_) (fun c6 => ?_)
  · refine lv_iconst (v := 0) hx hb d_MD_refused_13 (by decide) ?_
    exact hret 0 () _ _ _ _ _ _ d_MD_refused_14 hI (by symm; first | exact bI_t c6 | (apply bI_f; intro q; exact q c6)) (by first | rfl | exact bI_narrow) (Nat.le_refl 0) (Nat.le_refl 0)
  · refine lv_iconst (v := 1) hx hb d_MD_refused_9 (by decide) ?_
    refine lv_goto (tgt := 14) hx hb d_MD_refused_10 (by decide) ?_
    exact hret 1 () _ _ _ _ _ _ d_MD_refused_14 hI (by symm; first | exact bI_t c6 | (apply bI_f; intro q; exact q c6)) (by first | rfl | exact bI_narrow) (Nat.le_refl 0) (Nat.le_refl 0)
abbrev rm_MD_asked : Room := { frames := 0, cells := 0, slots := 0, locals := 0 }
set_option maxHeartbeats 4000000 in
set_option maxRecDepth 100000 in
theorem c_MD_asked (l : Launch) (g : Geo) (ad : Nat → Nat) (ar : Nat → Nat → Int32) (fl : Nat → Int32) (x : Int32) (bn : Nat) (hbn : fl 3 = nI bn) (hbN : bn ≤ 40) : cMi l y_MD_asked (.code y_MD_asked b_MD_asked 4 (some .int) :: gw) rm_MD_asked g [.ref (ad 0), .int x] (mw g ad ar fl) (fun (r : Int32) (_ : Unit) => r = lk (ar 5) (ar 6) x bn) (fun (_ : Unit) => mw g ad ar fl) 0 0 := by
  refine cMi_of (by decide) (Nat.le_of_ble_eq_true rfl) ?_
  intro p e s m below meth c A Q ls M hret hl hI
  have M : MC p s m ([.ref (ad 0), .int x] : List Value).toArray meth c R_MD b_MD_asked 4 := M
  have hl : lv_has ls 4 [(0, .ref (ad 0)), (1, .int x)] := hl
  generalize ([.ref (ad 0), .int x] : List Value).toArray = args at M hret ⊢
  have hx := M.1
  have hb := M.2.1
  refine lv_iconst (v := (-1)) hx hb d_MD_asked_0 (by decide) ?_
  refine q_as (y := lk (ar 5) (ar 6) x 0) (rfl) ?_
  refine lv_istore_n (lv' := [(2, .int (lk (ar 5) (ar 6) x 0)), (0, .ref (ad 0)), (1, .int x)]) hx hb d_MD_asked_1 rfl hl (by decide) rfl (fun ls hl => ?_)
  refine lv_iconst (v := 0) hx hb d_MD_asked_2 (by decide) ?_
  refine lv_istore_n (lv' := [(3, .int 0), (2, .int (lk (ar 5) (ar 6) x 0)), (0, .ref (ad 0)), (1, .int x)]) hx hb d_MD_asked_3 rfl hl (by decide) rfl (fun ls hl => ?_)
  have L4 : ∀ (fu : Nat) (i : Nat), (bn - i) < fu → (i ≤ bn) → ∀ (H : Heap) (locs : List Loc) (ls : Array Slot), CI g A s (mw g ad ar fl) H locs → lv_has ls 4 [(0, .ref (ad 0)), (1, .int x), (2, .int (lk (ar 5) (ar 6) x i)), (3, .int (nI i))] → W p l e rm_MD_asked s m args below meth c H locs 0 0 Q (F0 m 4 ls []) := by
    intro fu
    induction fu with
    | zero => intro i hm; exact absurd hm (Nat.not_lt_zero _)
    | succ fu ih4 =>
      intro i hm hi H locs ls hI hl
      refine lv_iload_n hx hb d_MD_asked_4 rfl (lv_at hl 3 rfl) ?_
      refine lv_aload_n hx hb d_MD_asked_5 rfl (lv_at hl 0 rfl) ?_
      refine g_MD_103 M hI d_MD_asked_6 ?_
      refine q_as (y := nI bn) hbn ?_
      refine lv_icmp_ge (tgt := 39) hx hb d_MD_asked_9 (by decide) (fun c9 => ?_) (fun c9 => ?_)
      · have c9 : bn ≤ i := (nI_leI (a := bn) (b := i) (by omega) (by omega)).mp c9
        refine lv_iload_n hx hb d_MD_asked_39 rfl (lv_at hl 2 rfl) ?_
        exact hret (lk (ar 5) (ar 6) x i) () _ _ _ _ _ _ d_MD_asked_40 hI (by rw [show i = bn by omega]) (Nat.le_refl 0) (Nat.le_refl 0)
      · have c9 : ¬ bn ≤ i := fun h => c9 ((nI_leI (a := bn) (b := i) (by omega) (by omega)).mpr h)
        refine lv_aload_n hx hb d_MD_asked_12 rfl (lv_at hl 0 rfl) ?_
        refine g_MD_22 M hI d_MD_asked_13 ?_
        refine lv_iload_n hx hb d_MD_asked_16 rfl (lv_at hl 3 rfl) ?_
        refine bl_5 M hI i rfl (by omega) d_MD_asked_17 ?_
        refine lv_iload_n hx hb d_MD_asked_18 rfl (lv_at hl 1 rfl) ?_
        refine lv_icmp_ne (tgt := 31) hx hb d_MD_asked_19 (by decide) (fun c19 => ?_) (fun c19 => ?_)
        · refine lv_iload_n hx hb d_MD_asked_31 rfl (lv_at hl 2 rfl) ?_
          refine q_as (y := lk (ar 5) (ar 6) x (i + 1)) (by simp only [lk]; rw [if_neg c19]) ?_
          refine lv_istore_n (lv' := [(2, .int (lk (ar 5) (ar 6) x (i + 1))), (0, .ref (ad 0)), (1, .int x), (3, .int (nI i))]) hx hb d_MD_asked_32 rfl hl (by decide) rfl (fun ls hl => ?_)
          refine lv_iinc (v := nI (i + 1)) (lv' := [(3, .int (nI (i + 1))), (2, .int (lk (ar 5) (ar 6) x (i + 1))), (0, .ref (ad 0)), (1, .int x)]) hx hb d_MD_asked_33 hl (k := 3) rfl (nI_add _ 1) (by decide) rfl (fun ls hl => ?_)
          refine lv_goto (tgt := 4) hx hb d_MD_asked_36 (by decide) ?_
          exact ih4 (i + 1) (by omega) (by first | assumption | omega) _ _ _ hI (lv_sub hl [2, 3, 1, 0] rfl)
        · refine lv_aload_n hx hb d_MD_asked_22 rfl (lv_at hl 0 rfl) ?_
          refine g_MD_25 M hI d_MD_asked_23 ?_
          refine lv_iload_n hx hb d_MD_asked_26 rfl (lv_at hl 3 rfl) ?_
          refine bl_6 M hI i rfl (by omega) d_MD_asked_27 ?_
          refine q_as (y := lk (ar 5) (ar 6) x (i + 1)) (by simp only [lk]; rw [if_pos c19]) ?_
          refine lv_goto (tgt := 32) hx hb d_MD_asked_28 (by decide) ?_
          refine lv_istore_n (lv' := [(2, .int (lk (ar 5) (ar 6) x (i + 1))), (0, .ref (ad 0)), (1, .int x), (3, .int (nI i))]) hx hb d_MD_asked_32 rfl hl (by decide) rfl (fun ls hl => ?_)
          refine lv_iinc (v := nI (i + 1)) (lv' := [(3, .int (nI (i + 1))), (2, .int (lk (ar 5) (ar 6) x (i + 1))), (0, .ref (ad 0)), (1, .int x)]) hx hb d_MD_asked_33 hl (k := 3) rfl (nI_add _ 1) (by decide) rfl (fun ls hl => ?_)
          refine lv_goto (tgt := 4) hx hb d_MD_asked_36 (by decide) ?_
          exact ih4 (i + 1) (by omega) (by first | assumption | omega) _ _ _ hI (lv_sub hl [2, 3, 1, 0] rfl)
  exact L4 _ 0 (Nat.lt_succ_self _) (by first | assumption | omega) _ _ _ hI (lv_sub hl [2, 3, 1, 0] rfl)
abbrev rm_MD_closes : Room := { frames := 0, cells := 0, slots := 0, locals := 0 }
set_option maxHeartbeats 4000000 in
set_option maxRecDepth 100000 in
theorem c_MD_closes (l : Launch) (g : Geo) (ad : Nat → Nat) (ar : Nat → Nat → Int32) (fl : Nat → Int32) (x : Int32) (bn : Nat) (hbn : fl 3 = nI bn) (hbN : bn ≤ 40) : cMi l y_MD_closes (.code y_MD_closes b_MD_closes 4 (some .boolean) :: gw) rm_MD_closes g [.ref (ad 0), .int x] (mw g ad ar fl) (fun (r : Int32) (_ : Unit) => r = bI (clo (ar 6) x bn)) (fun (_ : Unit) => mw g ad ar fl) 0 0 := by
  refine cMz_of (by decide) (Nat.le_of_ble_eq_true rfl) ?_
  intro p e s m below meth c A Q ls M hret hl hI
  have M : MC p s m ([.ref (ad 0), .int x] : List Value).toArray meth c R_MD b_MD_closes 4 := M
  have hl : lv_has ls 4 [(0, .ref (ad 0)), (1, .int x)] := hl
  generalize ([.ref (ad 0), .int x] : List Value).toArray = args at M hret ⊢
  have hx := M.1
  have hb := M.2.1
  refine lv_iconst (v := 0) hx hb d_MD_closes_0 (by decide) ?_
  refine q_as (y := bI (clo (ar 6) x 0)) ((bI_f (fun q => q)).symm) ?_
  refine lv_istore_n (lv' := [(2, .int (bI (clo (ar 6) x 0))), (0, .ref (ad 0)), (1, .int x)]) hx hb d_MD_closes_1 rfl hl (by decide) rfl (fun ls hl => ?_)
  refine lv_iconst (v := 0) hx hb d_MD_closes_2 (by decide) ?_
  refine lv_istore_n (lv' := [(3, .int 0), (2, .int (bI (clo (ar 6) x 0))), (0, .ref (ad 0)), (1, .int x)]) hx hb d_MD_closes_3 rfl hl (by decide) rfl (fun ls hl => ?_)
  have L4 : ∀ (fu : Nat) (i : Nat), (bn - i) < fu → (i ≤ bn) → ∀ (H : Heap) (locs : List Loc) (ls : Array Slot), CI g A s (mw g ad ar fl) H locs → lv_has ls 4 [(0, .ref (ad 0)), (1, .int x), (2, .int (bI (clo (ar 6) x i))), (3, .int (nI i))] → W p l e rm_MD_closes s m args below meth c H locs 0 0 Q (F0 m 4 ls []) := by
    intro fu
    induction fu with
    | zero => intro i hm; exact absurd hm (Nat.not_lt_zero _)
    | succ fu ih4 =>
      intro i hm hi H locs ls hI hl
      refine lv_iload_n hx hb d_MD_closes_4 rfl (lv_at hl 3 rfl) ?_
      refine lv_aload_n hx hb d_MD_closes_5 rfl (lv_at hl 0 rfl) ?_
      refine g_MD_103 M hI d_MD_closes_6 ?_
      refine q_as (y := nI bn) hbn ?_
      refine lv_icmp_ge (tgt := 38) hx hb d_MD_closes_9 (by decide) (fun c9 => ?_) (fun c9 => ?_)
      · have c9 : bn ≤ i := (nI_leI (a := bn) (b := i) (by omega) (by omega)).mp c9
        refine lv_iload_n hx hb d_MD_closes_38 rfl (lv_at hl 2 rfl) ?_
        exact hret (bI (clo (ar 6) x i)) () _ _ _ _ _ _ d_MD_closes_39 hI (by rw [show i = bn by omega]) (by first | rfl | exact bI_narrow) (Nat.le_refl 0) (Nat.le_refl 0)
      · have c9 : ¬ bn ≤ i := fun h => c9 ((nI_leI (a := bn) (b := i) (by omega) (by omega)).mpr h)
        refine lv_iload_n hx hb d_MD_closes_12 rfl (lv_at hl 2 rfl) ?_
        refine lv_if_ne (tgt := 26) hx hb d_MD_closes_13 (by decide) (fun c13 => ?_) (fun c13 => ?_)
        · have c13 := bI_ne0.mp c13
          refine lv_iconst (v := 1) hx hb d_MD_closes_26 (by decide) ?_
          refine q_as (y := bI (clo (ar 6) x (i + 1))) (by symm; first | (apply bI_t; exact Or.inl c13) | (apply bI_t; exact Or.inr c23)) ?_
          refine lv_goto (tgt := 31) hx hb d_MD_closes_27 (by decide) ?_
          refine lv_istore_n (lv' := [(2, .int (bI (clo (ar 6) x (i + 1)))), (0, .ref (ad 0)), (1, .int x), (3, .int (nI i))]) hx hb d_MD_closes_31 rfl hl (by decide) rfl (fun ls hl => ?_)
          refine lv_iinc (v := nI (i + 1)) (lv' := [(3, .int (nI (i + 1))), (2, .int (bI (clo (ar 6) x (i + 1)))), (0, .ref (ad 0)), (1, .int x)]) hx hb d_MD_closes_32 hl (k := 3) rfl (nI_add _ 1) (by decide) rfl (fun ls hl => ?_)
          refine lv_goto (tgt := 4) hx hb d_MD_closes_35 (by decide) ?_
          exact ih4 (i + 1) (by omega) (by first | assumption | omega) _ _ _ hI (lv_sub hl [2, 3, 1, 0] rfl)
        · have c13 := bI_eq0.mp c13
          refine lv_aload_n hx hb d_MD_closes_16 rfl (lv_at hl 0 rfl) ?_
          refine g_MD_25 M hI d_MD_closes_17 ?_
          refine lv_iload_n hx hb d_MD_closes_20 rfl (lv_at hl 3 rfl) ?_
          refine bl_6 M hI i rfl (by omega) d_MD_closes_21 ?_
          refine lv_iload_n hx hb d_MD_closes_22 rfl (lv_at hl 1 rfl) ?_
          refine lv_icmp_ne (tgt := 30) hx hb d_MD_closes_23 (by decide) (fun c23 => ?_) (fun c23 => ?_)
          · refine lv_iconst (v := 0) hx hb d_MD_closes_30 (by decide) ?_
            refine q_as (y := bI (clo (ar 6) x (i + 1))) ((bI_f (fun q => q.elim c13 c23)).symm) ?_
            refine lv_istore_n (lv' := [(2, .int (bI (clo (ar 6) x (i + 1)))), (0, .ref (ad 0)), (1, .int x), (3, .int (nI i))]) hx hb d_MD_closes_31 rfl hl (by decide) rfl (fun ls hl => ?_)
            refine lv_iinc (v := nI (i + 1)) (lv' := [(3, .int (nI (i + 1))), (2, .int (bI (clo (ar 6) x (i + 1)))), (0, .ref (ad 0)), (1, .int x)]) hx hb d_MD_closes_32 hl (k := 3) rfl (nI_add _ 1) (by decide) rfl (fun ls hl => ?_)
            refine lv_goto (tgt := 4) hx hb d_MD_closes_35 (by decide) ?_
            exact ih4 (i + 1) (by omega) (by first | assumption | omega) _ _ _ hI (lv_sub hl [2, 3, 1, 0] rfl)
          · refine lv_iconst (v := 1) hx hb d_MD_closes_26 (by decide) ?_
            refine q_as (y := bI (clo (ar 6) x (i + 1))) (by symm; first | (apply bI_t; exact Or.inl c13) | (apply bI_t; exact Or.inr c23)) ?_
            refine lv_goto (tgt := 31) hx hb d_MD_closes_27 (by decide) ?_
            refine lv_istore_n (lv' := [(2, .int (bI (clo (ar 6) x (i + 1)))), (0, .ref (ad 0)), (1, .int x), (3, .int (nI i))]) hx hb d_MD_closes_31 rfl hl (by decide) rfl (fun ls hl => ?_)
            refine lv_iinc (v := nI (i + 1)) (lv' := [(3, .int (nI (i + 1))), (2, .int (bI (clo (ar 6) x (i + 1)))), (0, .ref (ad 0)), (1, .int x)]) hx hb d_MD_closes_32 hl (k := 3) rfl (nI_add _ 1) (by decide) rfl (fun ls hl => ?_)
            refine lv_goto (tgt := 4) hx hb d_MD_closes_35 (by decide) ?_
            exact ih4 (i + 1) (by omega) (by first | assumption | omega) _ _ _ hI (lv_sub hl [2, 3, 1, 0] rfl)
  exact L4 _ 0 (Nat.lt_succ_self _) (by first | assumption | omega) _ _ _ hI (lv_sub hl [2, 3, 1, 0] rfl)
abbrev rm_MD_isBracket : Room := { frames := 1, cells := 0, slots := 0, locals := 23 }
set_option maxHeartbeats 4000000 in
set_option maxRecDepth 100000 in
theorem c_MD_isBracket (l : Launch) (g : Geo) (ad : Nat → Nat) (ar : Nat → Nat → Int32) (fl : Nat → Int32) (x : Int32) (bn : Nat) (hbn : fl 3 = nI bn) (hbN : bn ≤ 40) : cMi l y_MD_isBracket (.code y_MD_isBracket b_MD_isBracket 2 (some .boolean) :: gw) rm_MD_isBracket g [.ref (ad 0), .int x] (mw g ad ar fl) (fun (r : Int32) (_ : Unit) => r = bI (0 ≤ lk (ar 5) (ar 6) x bn ∨ clo (ar 6) x bn)) (fun (_ : Unit) => mw g ad ar fl) 0 0 := by
  refine cMz_of (by decide) (Nat.le_of_ble_eq_true rfl) ?_
  intro p e s m below meth c A Q ls M hret hl hI
  have M : MC p s m ([.ref (ad 0), .int x] : List Value).toArray meth c R_MD b_MD_isBracket 2 := M
  have hl : lv_has ls 2 [(0, .ref (ad 0)), (1, .int x)] := hl
  generalize ([.ref (ad 0), .int x] : List Value).toArray = args at M hret ⊢
  have hx := M.1
  have hb := M.2.1
  refine lv_aload_n hx hb d_MD_isBracket_0 rfl (lv_at hl 0 rfl) ?_
  refine lv_iload_n hx hb d_MD_isBracket_1 rfl (lv_at hl 1 rfl) ?_
  refine q_calliV [.int x] M hI (c_MD_asked l g ad ar fl x bn (by first | exact hbn | assumption | omega | rfl) (by first | exact hbN | assumption | omega | rfl)) ok_MD_asked m5_68 m5_70 ms_47 0 rfl rfl rfl rfl hl.1 ⟨rfl, rfl⟩ ⟨Nat.le_of_ble_eq_true rfl, Nat.le_of_ble_eq_true rfl⟩ (Nat.le_of_ble_eq_true rfl) ⟨Nat.le_of_ble_eq_true rfl, Nat.le_of_ble_eq_true rfl⟩ d_MD_isBracket_2 (fun r2 u2 H locs hp2 hI => ?_)
  refine q_as (y := lk (ar 5) (ar 6) x bn) hp2 ?_
  refine lv_if_ge (tgt := 16) hx hb d_MD_isBracket_5 (by decide) (fun c5 => ?_) (fun c5 => ?_)
  · refine lv_iconst (v := 1) hx hb d_MD_isBracket_16 (by decide) ?_
    refine lv_goto (tgt := 21) hx hb d_MD_isBracket_17 (by decide) ?_
    exact hret 1 () _ _ _ _ _ _ d_MD_isBracket_21 hI (by symm; first | (apply bI_t; exact Or.inl c5) | (apply bI_t; exact Or.inr c13) | (apply bI_f; intro q; exact q.elim c5 c13)) (by first | rfl | exact bI_narrow) (Nat.le_refl 0) (Nat.le_refl 0)
  · refine lv_aload_n hx hb d_MD_isBracket_8 rfl (lv_at hl 0 rfl) ?_
    refine lv_iload_n hx hb d_MD_isBracket_9 rfl (lv_at hl 1 rfl) ?_
    refine q_calliV [.int x] M hI (c_MD_closes l g ad ar fl x bn (by first | exact hbn | assumption | omega | rfl) (by first | exact hbN | assumption | omega | rfl)) ok_MD_closes m5_72 m5_74 ms_48 0 rfl rfl rfl rfl hl.1 ⟨rfl, rfl⟩ ⟨Nat.le_of_ble_eq_true rfl, Nat.le_of_ble_eq_true rfl⟩ (Nat.le_of_ble_eq_true rfl) ⟨Nat.le_of_ble_eq_true rfl, Nat.le_of_ble_eq_true rfl⟩ d_MD_isBracket_10 (fun r10 u10 H locs hp10 hI => ?_)
    refine q_as (y := bI (clo (ar 6) x bn)) hp10 ?_
    refine lv_if_eq (tgt := 20) hx hb d_MD_isBracket_13 (by decide) (fun c13 => ?_) (fun c13 => ?_)
    · have c13 := bI_eq0.mp c13
      refine lv_iconst (v := 0) hx hb d_MD_isBracket_20 (by decide) ?_
      exact hret 0 () _ _ _ _ _ _ d_MD_isBracket_21 hI (by symm; first | (apply bI_t; exact Or.inl c5) | (apply bI_t; exact Or.inr c13) | (apply bI_f; intro q; exact q.elim c5 c13)) (by first | rfl | exact bI_narrow) (Nat.le_refl 0) (Nat.le_refl 0)
    · have c13 := bI_ne0.mp c13
      refine lv_iconst (v := 1) hx hb d_MD_isBracket_16 (by decide) ?_
      refine lv_goto (tgt := 21) hx hb d_MD_isBracket_17 (by decide) ?_
      exact hret 1 () _ _ _ _ _ _ d_MD_isBracket_21 hI (by symm; first | (apply bI_t; exact Or.inl c5) | (apply bI_t; exact Or.inr c13) | (apply bI_f; intro q; exact q.elim c5 c13)) (by first | rfl | exact bI_narrow) (Nat.le_refl 0) (Nat.le_refl 0)
abbrev rm_MD_mirrorOf : Room := { frames := 0, cells := 0, slots := 0, locals := 0 }
set_option maxHeartbeats 4000000 in
set_option maxRecDepth 100000 in
theorem c_MD_mirrorOf (l : Launch) (g : Geo) (ad : Nat → Nat) (ar : Nat → Nat → Int32) (fl : Nat → Int32) (x : Int32) (mn : Nat) (hmn : fl 4 = nI mn) (hmN : mn ≤ 40) : cMi l y_MD_mirrorOf (.code y_MD_mirrorOf b_MD_mirrorOf 4 (some .int) :: gw) rm_MD_mirrorOf g [.ref (ad 0), .int x] (mw g ad ar fl) (fun (r : Int32) (_ : Unit) => r = mir (ar 7) (ar 8) x mn) (fun (_ : Unit) => mw g ad ar fl) 0 0 := by
  refine cMi_of (by decide) (Nat.le_of_ble_eq_true rfl) ?_
  intro p e s m below meth c A Q ls M hret hl hI
  have M : MC p s m ([.ref (ad 0), .int x] : List Value).toArray meth c R_MD b_MD_mirrorOf 4 := M
  have hl : lv_has ls 4 [(0, .ref (ad 0)), (1, .int x)] := hl
  generalize ([.ref (ad 0), .int x] : List Value).toArray = args at M hret ⊢
  have hx := M.1
  have hb := M.2.1
  refine lv_iconst (v := (-1)) hx hb d_MD_mirrorOf_0 (by decide) ?_
  refine q_as (y := mir (ar 7) (ar 8) x 0) (rfl) ?_
  refine lv_istore_n (lv' := [(2, .int (mir (ar 7) (ar 8) x 0)), (0, .ref (ad 0)), (1, .int x)]) hx hb d_MD_mirrorOf_1 rfl hl (by decide) rfl (fun ls hl => ?_)
  refine lv_iconst (v := 0) hx hb d_MD_mirrorOf_2 (by decide) ?_
  refine lv_istore_n (lv' := [(3, .int 0), (2, .int (mir (ar 7) (ar 8) x 0)), (0, .ref (ad 0)), (1, .int x)]) hx hb d_MD_mirrorOf_3 rfl hl (by decide) rfl (fun ls hl => ?_)
  have L4 : ∀ (fu : Nat) (i : Nat), (mn - i) < fu → (i ≤ mn) → ∀ (H : Heap) (locs : List Loc) (ls : Array Slot), CI g A s (mw g ad ar fl) H locs → lv_has ls 4 [(0, .ref (ad 0)), (1, .int x), (2, .int (mir (ar 7) (ar 8) x i)), (3, .int (nI i))] → W p l e rm_MD_mirrorOf s m args below meth c H locs 0 0 Q (F0 m 4 ls []) := by
    intro fu
    induction fu with
    | zero => intro i hm; exact absurd hm (Nat.not_lt_zero _)
    | succ fu ih4 =>
      intro i hm hi H locs ls hI hl
      refine lv_iload_n hx hb d_MD_mirrorOf_4 rfl (lv_at hl 3 rfl) ?_
      refine lv_aload_n hx hb d_MD_mirrorOf_5 rfl (lv_at hl 0 rfl) ?_
      refine g_MD_109 M hI d_MD_mirrorOf_6 ?_
      refine q_as (y := nI mn) hmn ?_
      refine lv_icmp_ge (tgt := 58) hx hb d_MD_mirrorOf_9 (by decide) (fun c9 => ?_) (fun c9 => ?_)
      · have c9 : mn ≤ i := (nI_leI (a := mn) (b := i) (by omega) (by omega)).mp c9
        refine lv_iload_n hx hb d_MD_mirrorOf_58 rfl (lv_at hl 2 rfl) ?_
        exact hret (mir (ar 7) (ar 8) x i) () _ _ _ _ _ _ d_MD_mirrorOf_59 hI (by rw [show i = mn by omega]) (Nat.le_refl 0) (Nat.le_refl 0)
      · have c9 : ¬ mn ≤ i := fun h => c9 ((nI_leI (a := mn) (b := i) (by omega) (by omega)).mpr h)
        refine lv_aload_n hx hb d_MD_mirrorOf_12 rfl (lv_at hl 0 rfl) ?_
        refine g_MD_28 M hI d_MD_mirrorOf_13 ?_
        refine lv_iload_n hx hb d_MD_mirrorOf_16 rfl (lv_at hl 3 rfl) ?_
        refine bl_7 M hI i rfl (by omega) d_MD_mirrorOf_17 ?_
        refine lv_iload_n hx hb d_MD_mirrorOf_18 rfl (lv_at hl 1 rfl) ?_
        refine lv_icmp_ne (tgt := 31) hx hb d_MD_mirrorOf_19 (by decide) (fun c19 => ?_) (fun c19 => ?_)
        · refine lv_aload_n hx hb d_MD_mirrorOf_31 rfl (lv_at hl 0 rfl) ?_
          refine g_MD_31 M hI d_MD_mirrorOf_32 ?_
          refine lv_iload_n hx hb d_MD_mirrorOf_35 rfl (lv_at hl 3 rfl) ?_
          refine bl_8 M hI i rfl (by omega) d_MD_mirrorOf_36 ?_
          refine lv_iload_n hx hb d_MD_mirrorOf_37 rfl (lv_at hl 1 rfl) ?_
          refine lv_icmp_ne (tgt := 50) hx hb d_MD_mirrorOf_38 (by decide) (fun c38 => ?_) (fun c38 => ?_)
          · refine lv_iload_n hx hb d_MD_mirrorOf_50 rfl (lv_at hl 2 rfl) ?_
            refine q_as (y := mir (ar 7) (ar 8) x (i + 1)) (by simp only [mir]; rw [if_neg c19, if_neg c38]) ?_
            refine lv_istore_n (lv' := [(2, .int (mir (ar 7) (ar 8) x (i + 1))), (0, .ref (ad 0)), (1, .int x), (3, .int (nI i))]) hx hb d_MD_mirrorOf_51 rfl hl (by decide) rfl (fun ls hl => ?_)
            refine lv_iinc (v := nI (i + 1)) (lv' := [(3, .int (nI (i + 1))), (2, .int (mir (ar 7) (ar 8) x (i + 1))), (0, .ref (ad 0)), (1, .int x)]) hx hb d_MD_mirrorOf_52 hl (k := 3) rfl (nI_add _ 1) (by decide) rfl (fun ls hl => ?_)
            refine lv_goto (tgt := 4) hx hb d_MD_mirrorOf_55 (by decide) ?_
            exact ih4 (i + 1) (by omega) (by first | assumption | omega) _ _ _ hI (lv_sub hl [2, 3, 1, 0] rfl)
          · refine lv_aload_n hx hb d_MD_mirrorOf_41 rfl (lv_at hl 0 rfl) ?_
            refine g_MD_28 M hI d_MD_mirrorOf_42 ?_
            refine lv_iload_n hx hb d_MD_mirrorOf_45 rfl (lv_at hl 3 rfl) ?_
            refine bl_7 M hI i rfl (by omega) d_MD_mirrorOf_46 ?_
            refine q_as (y := mir (ar 7) (ar 8) x (i + 1)) (by simp only [mir]; rw [if_neg c19, if_pos c38]) ?_
            refine lv_goto (tgt := 51) hx hb d_MD_mirrorOf_47 (by decide) ?_
            refine lv_istore_n (lv' := [(2, .int (mir (ar 7) (ar 8) x (i + 1))), (0, .ref (ad 0)), (1, .int x), (3, .int (nI i))]) hx hb d_MD_mirrorOf_51 rfl hl (by decide) rfl (fun ls hl => ?_)
            refine lv_iinc (v := nI (i + 1)) (lv' := [(3, .int (nI (i + 1))), (2, .int (mir (ar 7) (ar 8) x (i + 1))), (0, .ref (ad 0)), (1, .int x)]) hx hb d_MD_mirrorOf_52 hl (k := 3) rfl (nI_add _ 1) (by decide) rfl (fun ls hl => ?_)
            refine lv_goto (tgt := 4) hx hb d_MD_mirrorOf_55 (by decide) ?_
            exact ih4 (i + 1) (by omega) (by first | assumption | omega) _ _ _ hI (lv_sub hl [2, 3, 1, 0] rfl)
        · refine lv_aload_n hx hb d_MD_mirrorOf_22 rfl (lv_at hl 0 rfl) ?_
          refine g_MD_31 M hI d_MD_mirrorOf_23 ?_
          refine lv_iload_n hx hb d_MD_mirrorOf_26 rfl (lv_at hl 3 rfl) ?_
          refine bl_8 M hI i rfl (by omega) d_MD_mirrorOf_27 ?_
          refine q_as (y := mir (ar 7) (ar 8) x (i + 1)) (by simp only [mir]; rw [if_pos c19]) ?_
          refine lv_goto (tgt := 51) hx hb d_MD_mirrorOf_28 (by decide) ?_
          refine lv_istore_n (lv' := [(2, .int (mir (ar 7) (ar 8) x (i + 1))), (0, .ref (ad 0)), (1, .int x), (3, .int (nI i))]) hx hb d_MD_mirrorOf_51 rfl hl (by decide) rfl (fun ls hl => ?_)
          refine lv_iinc (v := nI (i + 1)) (lv' := [(3, .int (nI (i + 1))), (2, .int (mir (ar 7) (ar 8) x (i + 1))), (0, .ref (ad 0)), (1, .int x)]) hx hb d_MD_mirrorOf_52 hl (k := 3) rfl (nI_add _ 1) (by decide) rfl (fun ls hl => ?_)
          refine lv_goto (tgt := 4) hx hb d_MD_mirrorOf_55 (by decide) ?_
          exact ih4 (i + 1) (by omega) (by first | assumption | omega) _ _ _ hI (lv_sub hl [2, 3, 1, 0] rfl)
  exact L4 _ 0 (Nat.lt_succ_self _) (by first | assumption | omega) _ _ _ hI (lv_sub hl [2, 3, 1, 0] rfl)
abbrev rm_MD_classOf : Room := { frames := 0, cells := 0, slots := 0, locals := 0 }
set_option maxHeartbeats 4000000 in
set_option maxRecDepth 100000 in
theorem c_MD_classOf (l : Launch) (g : Geo) (ad : Nat → Nat) (ar : Nat → Nat → Int32) (fl : Nat → Int32) (x : Int32) (rn : Nat) (hrn : fl 2 = nI rn) (hrN : rn ≤ 100) : cMi l y_MD_classOf (.code y_MD_classOf b_MD_classOf 4 (some .int) :: gw) rm_MD_classOf g [.ref (ad 0), .int x] (mw g ad ar fl) (fun (r : Int32) (_ : Unit) => r = clsOf (ar 2) (ar 3) (ar 4) x rn) (fun (_ : Unit) => mw g ad ar fl) 0 0 := by
  refine cMi_of (by decide) (Nat.le_of_ble_eq_true rfl) ?_
  intro p e s m below meth c A Q ls M hret hl hI
  have M : MC p s m ([.ref (ad 0), .int x] : List Value).toArray meth c R_MD b_MD_classOf 4 := M
  have hl : lv_has ls 4 [(0, .ref (ad 0)), (1, .int x)] := hl
  generalize ([.ref (ad 0), .int x] : List Value).toArray = args at M hret ⊢
  have hx := M.1
  have hb := M.2.1
  refine lv_iconst (v := 0) hx hb d_MD_classOf_0 (by decide) ?_
  refine q_as (y := clsOf (ar 2) (ar 3) (ar 4) x 0) (rfl) ?_
  refine lv_istore_n (lv' := [(2, .int (clsOf (ar 2) (ar 3) (ar 4) x 0)), (0, .ref (ad 0)), (1, .int x)]) hx hb d_MD_classOf_1 rfl hl (by decide) rfl (fun ls hl => ?_)
  refine lv_iconst (v := 0) hx hb d_MD_classOf_2 (by decide) ?_
  refine lv_istore_n (lv' := [(3, .int 0), (2, .int (clsOf (ar 2) (ar 3) (ar 4) x 0)), (0, .ref (ad 0)), (1, .int x)]) hx hb d_MD_classOf_3 rfl hl (by decide) rfl (fun ls hl => ?_)
  have L4 : ∀ (fu : Nat) (i : Nat), (rn - i) < fu → (i ≤ rn) → ∀ (H : Heap) (locs : List Loc) (ls : Array Slot), CI g A s (mw g ad ar fl) H locs → lv_has ls 4 [(0, .ref (ad 0)), (1, .int x), (2, .int (clsOf (ar 2) (ar 3) (ar 4) x i)), (3, .int (nI i))] → W p l e rm_MD_classOf s m args below meth c H locs 0 0 Q (F0 m 4 ls []) := by
    intro fu
    induction fu with
    | zero => intro i hm; exact absurd hm (Nat.not_lt_zero _)
    | succ fu ih4 =>
      intro i hm hi H locs ls hI hl
      refine lv_iload_n hx hb d_MD_classOf_4 rfl (lv_at hl 3 rfl) ?_
      refine lv_aload_n hx hb d_MD_classOf_5 rfl (lv_at hl 0 rfl) ?_
      refine g_MD_86 M hI d_MD_classOf_6 ?_
      refine q_as (y := nI rn) hrn ?_
      refine lv_icmp_ge (tgt := 49) hx hb d_MD_classOf_9 (by decide) (fun c9 => ?_) (fun c9 => ?_)
      · have c9 : rn ≤ i := (nI_leI (a := rn) (b := i) (by omega) (by omega)).mp c9
        refine lv_iload_n hx hb d_MD_classOf_49 rfl (lv_at hl 2 rfl) ?_
        exact hret (clsOf (ar 2) (ar 3) (ar 4) x i) () _ _ _ _ _ _ d_MD_classOf_50 hI (by rw [show i = rn by omega]) (Nat.le_refl 0) (Nat.le_refl 0)
      · have c9 : ¬ rn ≤ i := fun h => c9 ((nI_leI (a := rn) (b := i) (by omega) (by omega)).mpr h)
        refine lv_iload_n hx hb d_MD_classOf_12 rfl (lv_at hl 1 rfl) ?_
        refine lv_aload_n hx hb d_MD_classOf_13 rfl (lv_at hl 0 rfl) ?_
        refine g_MD_13 M hI d_MD_classOf_14 ?_
        refine lv_iload_n hx hb d_MD_classOf_17 rfl (lv_at hl 3 rfl) ?_
        refine bl_2 M hI i rfl (by omega) d_MD_classOf_18 ?_
        refine lv_icmp_lt (tgt := 41) hx hb d_MD_classOf_19 (by decide) (fun c19 => ?_) (fun c19 => ?_)
        · have hno : ¬ (¬ x < ar 2 i ∧ ¬ ar 3 i < x) := fun q => q.1 c19
          refine lv_iload_n hx hb d_MD_classOf_41 rfl (lv_at hl 2 rfl) ?_
          refine q_as (y := clsOf (ar 2) (ar 3) (ar 4) x (i + 1)) (by simp only [clsOf]; rw [if_neg hno]) ?_
          refine lv_istore_n (lv' := [(2, .int (clsOf (ar 2) (ar 3) (ar 4) x (i + 1))), (0, .ref (ad 0)), (1, .int x), (3, .int (nI i))]) hx hb d_MD_classOf_42 rfl hl (by decide) rfl (fun ls hl => ?_)
          refine lv_iinc (v := nI (i + 1)) (lv' := [(3, .int (nI (i + 1))), (2, .int (clsOf (ar 2) (ar 3) (ar 4) x (i + 1))), (0, .ref (ad 0)), (1, .int x)]) hx hb d_MD_classOf_43 hl (k := 3) rfl (nI_add _ 1) (by decide) rfl (fun ls hl => ?_)
          refine lv_goto (tgt := 4) hx hb d_MD_classOf_46 (by decide) ?_
          exact ih4 (i + 1) (by omega) (by first | assumption | omega) _ _ _ hI (lv_sub hl [2, 3, 1, 0] rfl)
        · refine lv_iload_n hx hb d_MD_classOf_22 rfl (lv_at hl 1 rfl) ?_
          refine lv_aload_n hx hb d_MD_classOf_23 rfl (lv_at hl 0 rfl) ?_
          refine g_MD_16 M hI d_MD_classOf_24 ?_
          refine lv_iload_n hx hb d_MD_classOf_27 rfl (lv_at hl 3 rfl) ?_
          refine bl_3 M hI i rfl (by omega) d_MD_classOf_28 ?_
          refine lv_icmp_gt (tgt := 41) hx hb d_MD_classOf_29 (by decide) (fun c29 => ?_) (fun c29 => ?_)
          · have hno : ¬ (¬ x < ar 2 i ∧ ¬ ar 3 i < x) := fun q => q.2 c29
            refine lv_iload_n hx hb d_MD_classOf_41 rfl (lv_at hl 2 rfl) ?_
            refine q_as (y := clsOf (ar 2) (ar 3) (ar 4) x (i + 1)) (by simp only [clsOf]; rw [if_neg hno]) ?_
            refine lv_istore_n (lv' := [(2, .int (clsOf (ar 2) (ar 3) (ar 4) x (i + 1))), (0, .ref (ad 0)), (1, .int x), (3, .int (nI i))]) hx hb d_MD_classOf_42 rfl hl (by decide) rfl (fun ls hl => ?_)
            refine lv_iinc (v := nI (i + 1)) (lv' := [(3, .int (nI (i + 1))), (2, .int (clsOf (ar 2) (ar 3) (ar 4) x (i + 1))), (0, .ref (ad 0)), (1, .int x)]) hx hb d_MD_classOf_43 hl (k := 3) rfl (nI_add _ 1) (by decide) rfl (fun ls hl => ?_)
            refine lv_goto (tgt := 4) hx hb d_MD_classOf_46 (by decide) ?_
            exact ih4 (i + 1) (by omega) (by first | assumption | omega) _ _ _ hI (lv_sub hl [2, 3, 1, 0] rfl)
          · refine lv_aload_n hx hb d_MD_classOf_32 rfl (lv_at hl 0 rfl) ?_
            refine g_MD_19 M hI d_MD_classOf_33 ?_
            refine lv_iload_n hx hb d_MD_classOf_36 rfl (lv_at hl 3 rfl) ?_
            refine bl_4 M hI i rfl (by omega) d_MD_classOf_37 ?_
            refine q_as (y := clsOf (ar 2) (ar 3) (ar 4) x (i + 1)) (by simp only [clsOf]; rw [if_pos ⟨c19, c29⟩]) ?_
            refine lv_goto (tgt := 42) hx hb d_MD_classOf_38 (by decide) ?_
            refine lv_istore_n (lv' := [(2, .int (clsOf (ar 2) (ar 3) (ar 4) x (i + 1))), (0, .ref (ad 0)), (1, .int x), (3, .int (nI i))]) hx hb d_MD_classOf_42 rfl hl (by decide) rfl (fun ls hl => ?_)
            refine lv_iinc (v := nI (i + 1)) (lv' := [(3, .int (nI (i + 1))), (2, .int (clsOf (ar 2) (ar 3) (ar 4) x (i + 1))), (0, .ref (ad 0)), (1, .int x)]) hx hb d_MD_classOf_43 hl (k := 3) rfl (nI_add _ 1) (by decide) rfl (fun ls hl => ?_)
            refine lv_goto (tgt := 4) hx hb d_MD_classOf_46 (by decide) ?_
            exact ih4 (i + 1) (by omega) (by first | assumption | omega) _ _ _ hI (lv_sub hl [2, 3, 1, 0] rfl)
  exact L4 _ 0 (Nat.lt_succ_self _) (by first | assumption | omega) _ _ _ hI (lv_sub hl [2, 3, 1, 0] rfl)
abbrev rm_MD_matchOf : Room := { frames := 1, cells := 0, slots := 0, locals := 20 }
set_option maxHeartbeats 4000000 in
set_option maxRecDepth 100000 in
theorem c_MD_matchOf (l : Launch) (g : Geo) (ad : Nat → Nat) (ar : Nat → Nat → Int32) (fl : Nat → Int32) (q : Nat) (en : Nat) (hq : q < 2000) (he : en ≤ 2000) : cMi l y_MD_matchOf (.code y_MD_matchOf b_MD_matchOf 5 (some .int) :: gw) rm_MD_matchOf g [.ref (ad 0), .int (nI q), .int (nI en)] (mw g ad ar fl) (fun (r : Int32) (_ : Unit) => r = mOf (ar 9) (en - (q + 1)) (q + 1) 1) (fun (_ : Unit) => mw g ad ar fl) 0 0 := by
  refine cMi_of (by decide) (Nat.le_of_ble_eq_true rfl) ?_
  intro p e s m below meth c A Q ls M hret hl hI
  have M : MC p s m ([.ref (ad 0), .int (nI q), .int (nI en)] : List Value).toArray meth c R_MD b_MD_matchOf 5 := M
  have hl : lv_has ls 5 [(0, .ref (ad 0)), (1, .int (nI q)), (2, .int (nI en))] := hl
  generalize ([.ref (ad 0), .int (nI q), .int (nI en)] : List Value).toArray = args at M hret ⊢
  have hx := M.1
  have hb := M.2.1
  refine lv_iconst (v := 1) hx hb d_MD_matchOf_0 (by decide) ?_
  refine lv_istore_n (lv' := [(3, .int 1), (0, .ref (ad 0)), (1, .int (nI q)), (2, .int (nI en))]) hx hb d_MD_matchOf_1 rfl hl (by decide) rfl (fun ls hl => ?_)
  refine lv_iload_n hx hb d_MD_matchOf_2 rfl (lv_at hl 2 rfl) ?_
  refine lv_iconst (v := 1) hx hb d_MD_matchOf_3 (by decide) ?_
  refine lv_iadd hx hb d_MD_matchOf_4 ?_
  refine q_as (y := nI (q + 1)) (nI_add q 1) ?_
  refine lv_istore (lv' := [(4, .int (nI (q + 1))), (3, .int 1), (0, .ref (ad 0)), (1, .int (nI q)), (2, .int (nI en))]) hx hb d_MD_matchOf_5 hl (by decide) rfl (fun ls hl => ?_)
  have L7 : ∀ (fu : Nat) (k : Nat) (o : Nat), (2001 - k) < fu → (k ≤ 2000) → (0 < o) → (o ≤ k + 1) → (mOf (ar 9) (en - (q + 1)) (q + 1) 1 = mOf (ar 9) (en - k) k o) → ∀ (H : Heap) (locs : List Loc) (ls : Array Slot), CI g A s (mw g ad ar fl) H locs → lv_has ls 5 [(0, .ref (ad 0)), (2, .int (nI en)), (3, .int (nI o)), (4, .int (nI k))] → W p l e rm_MD_matchOf s m args below meth c H locs 0 0 Q (F0 m 7 ls []) := by
    intro fu
    induction fu with
    | zero => intro k o hm; exact absurd hm (Nat.not_lt_zero _)
    | succ fu ih7 =>
      intro k o hm hk ho ho2 hqq H locs ls hI hl
      refine lv_iload hx hb d_MD_matchOf_7 (lv_at hl 3 rfl) ?_
      refine lv_iload_n hx hb d_MD_matchOf_9 rfl (lv_at hl 1 rfl) ?_
      refine lv_icmp_ge (tgt := 65) hx hb d_MD_matchOf_10 (by decide) (fun c10 => ?_) (fun c10 => ?_)
      · have c10 : en ≤ k := (nI_leI (a := en) (b := k) (by omega) (by omega)).mp c10
        refine lv_iconst (v := (-1)) hx hb d_MD_matchOf_65 (by decide) ?_
        exact hret (-1) () _ _ _ _ _ _ d_MD_matchOf_66 hI (by rw [hqq, show en - k = 0 by omega]; rfl) (Nat.le_refl 0) (Nat.le_refl 0)
      · have c10 : ¬ en ≤ k := fun h => c10 ((nI_leI (a := en) (b := k) (by omega) (by omega)).mpr h)
        have hms : mOf (ar 9) (en - k) k o = if stp (ar 9 k) o = 0 then nI k else mOf (ar 9) (en - (k + 1)) (k + 1) (stp (ar 9 k) o) := by rw [show en - k = (en - (k + 1)) + 1 by omega]; simp only [mOf]
        have hst : stp (ar 9 k) o ≤ o + 1 := by unfold stp; split; omega; split <;> omega
        refine lv_aload_n hx hb d_MD_matchOf_13 rfl (lv_at hl 0 rfl) ?_
        refine g_MD_34 M hI d_MD_matchOf_14 ?_
        refine lv_iload hx hb d_MD_matchOf_17 (lv_at hl 3 rfl) ?_
        refine bl_9 M hI k rfl (by omega) d_MD_matchOf_19 ?_
        refine q_calliS [.int (ar 9 k)] M hI (c_MD_isIsolate l g (mw g ad ar fl) (ar 9 k)) ok_MD_isIsolate m5_107 m5_108 rfl rfl hl.1 ⟨rfl, rfl⟩ ⟨Nat.le_of_ble_eq_true rfl, Nat.le_of_ble_eq_true rfl⟩ (Nat.le_of_ble_eq_true rfl) ⟨Nat.le_of_ble_eq_true rfl, Nat.le_of_ble_eq_true rfl⟩ d_MD_matchOf_20 (fun r20 u20 H locs hp20 hI => ?_)
        refine q_as (y := bI (isol (ar 9 k))) hp20 ?_
        refine lv_if_eq (tgt := 32) hx hb d_MD_matchOf_23 (by decide) (fun c23 => ?_) (fun c23 => ?_)
        · have c23 := bI_eq0.mp c23
          refine lv_aload_n hx hb d_MD_matchOf_32 rfl (lv_at hl 0 rfl) ?_
          refine g_MD_34 M hI d_MD_matchOf_33 ?_
          refine lv_iload hx hb d_MD_matchOf_36 (lv_at hl 3 rfl) ?_
          refine bl_9 M hI k rfl (by omega) d_MD_matchOf_38 ?_
          refine lv_bipush (v := 22) hx hb d_MD_matchOf_39 (by decide) ?_
          refine lv_icmp_ne (tgt := 50) hx hb d_MD_matchOf_41 (by decide) (fun c41 => ?_) (fun c41 => ?_)
          · refine lv_iload_n hx hb d_MD_matchOf_50 rfl (lv_at hl 2 rfl) ?_
            refine q_as (y := nI (stp (ar 9 k) o)) (by unfold stp; rw [if_neg c23, if_neg c41]) ?_
            refine lv_istore_n (lv' := [(3, .int (nI (stp (ar 9 k) o))), (0, .ref (ad 0)), (2, .int (nI en)), (4, .int (nI k))]) hx hb d_MD_matchOf_51 rfl hl (by decide) rfl (fun ls hl => ?_)
            refine lv_iload_n hx hb d_MD_matchOf_52 rfl (lv_at hl 0 rfl) ?_
            refine lv_if_ne (tgt := 59) hx hb d_MD_matchOf_53 (by decide) (fun c53 => ?_) (fun c53 => ?_)
            · have c53 : ¬ stp (ar 9 k) o = 0 := fun h => c53 ((nI_eq (a := stp (ar 9 k) o) (b := 0) (by omega) (by omega)).mpr h)
              refine lv_iinc (v := nI (k + 1)) (lv' := [(4, .int (nI (k + 1))), (3, .int (nI (stp (ar 9 k) o))), (0, .ref (ad 0)), (2, .int (nI en))]) hx hb d_MD_matchOf_59 hl (k := 3) rfl (nI_add _ 1) (by decide) rfl (fun ls hl => ?_)
              refine lv_goto (tgt := 7) hx hb d_MD_matchOf_62 (by decide) ?_
              exact ih7 (k + 1) (stp (ar 9 k) o) (by omega) (by first | assumption | omega) (by omega) (by first | assumption | omega) (by rw [hqq, hms, if_neg c53]) _ _ _ hI (lv_sub hl [2, 3, 1, 0] rfl)
            · have c53 : stp (ar 9 k) o = 0 := (nI_eq (a := stp (ar 9 k) o) (b := 0) (by omega) (by omega)).mp c53
              refine lv_iload hx hb d_MD_matchOf_56 (lv_at hl 3 rfl) ?_
              exact hret (nI k) () _ _ _ _ _ _ d_MD_matchOf_58 hI (by rw [hqq, hms, if_pos c53]) (Nat.le_refl 0) (Nat.le_refl 0)
          · refine lv_iload_n hx hb d_MD_matchOf_44 rfl (lv_at hl 2 rfl) ?_
            refine lv_iconst (v := 1) hx hb d_MD_matchOf_45 (by decide) ?_
            refine lv_isub hx hb d_MD_matchOf_46 ?_
            refine q_as (y := nI (stp (ar 9 k) o)) (by unfold stp; rw [if_neg c23, if_pos c41]; exact pk_sub (a := o) (b := 1) (by omega)) ?_
            refine lv_goto (tgt := 51) hx hb d_MD_matchOf_47 (by decide) ?_
            refine lv_istore_n (lv' := [(3, .int (nI (stp (ar 9 k) o))), (0, .ref (ad 0)), (2, .int (nI en)), (4, .int (nI k))]) hx hb d_MD_matchOf_51 rfl hl (by decide) rfl (fun ls hl => ?_)
            refine lv_iload_n hx hb d_MD_matchOf_52 rfl (lv_at hl 0 rfl) ?_
            refine lv_if_ne (tgt := 59) hx hb d_MD_matchOf_53 (by decide) (fun c53 => ?_) (fun c53 => ?_)
            · have c53 : ¬ stp (ar 9 k) o = 0 := fun h => c53 ((nI_eq (a := stp (ar 9 k) o) (b := 0) (by omega) (by omega)).mpr h)
              refine lv_iinc (v := nI (k + 1)) (lv' := [(4, .int (nI (k + 1))), (3, .int (nI (stp (ar 9 k) o))), (0, .ref (ad 0)), (2, .int (nI en))]) hx hb d_MD_matchOf_59 hl (k := 3) rfl (nI_add _ 1) (by decide) rfl (fun ls hl => ?_)
              refine lv_goto (tgt := 7) hx hb d_MD_matchOf_62 (by decide) ?_
              exact ih7 (k + 1) (stp (ar 9 k) o) (by omega) (by first | assumption | omega) (by omega) (by first | assumption | omega) (by rw [hqq, hms, if_neg c53]) _ _ _ hI (lv_sub hl [2, 3, 1, 0] rfl)
            · have c53 : stp (ar 9 k) o = 0 := (nI_eq (a := stp (ar 9 k) o) (b := 0) (by omega) (by omega)).mp c53
              refine lv_iload hx hb d_MD_matchOf_56 (lv_at hl 3 rfl) ?_
              exact hret (nI k) () _ _ _ _ _ _ d_MD_matchOf_58 hI (by rw [hqq, hms, if_pos c53]) (Nat.le_refl 0) (Nat.le_refl 0)
        · have c23 := bI_ne0.mp c23
          refine lv_iload_n hx hb d_MD_matchOf_26 rfl (lv_at hl 2 rfl) ?_
          refine lv_iconst (v := 1) hx hb d_MD_matchOf_27 (by decide) ?_
          refine lv_iadd hx hb d_MD_matchOf_28 ?_
          refine q_as (y := nI (stp (ar 9 k) o)) (by unfold stp; rw [if_pos c23]; exact nI_add o 1) ?_
          refine lv_goto (tgt := 51) hx hb d_MD_matchOf_29 (by decide) ?_
          refine lv_istore_n (lv' := [(3, .int (nI (stp (ar 9 k) o))), (0, .ref (ad 0)), (2, .int (nI en)), (4, .int (nI k))]) hx hb d_MD_matchOf_51 rfl hl (by decide) rfl (fun ls hl => ?_)
          refine lv_iload_n hx hb d_MD_matchOf_52 rfl (lv_at hl 0 rfl) ?_
          refine lv_if_ne (tgt := 59) hx hb d_MD_matchOf_53 (by decide) (fun c53 => ?_) (fun c53 => ?_)
          · have c53 : ¬ stp (ar 9 k) o = 0 := fun h => c53 ((nI_eq (a := stp (ar 9 k) o) (b := 0) (by omega) (by omega)).mpr h)
            refine lv_iinc (v := nI (k + 1)) (lv' := [(4, .int (nI (k + 1))), (3, .int (nI (stp (ar 9 k) o))), (0, .ref (ad 0)), (2, .int (nI en))]) hx hb d_MD_matchOf_59 hl (k := 3) rfl (nI_add _ 1) (by decide) rfl (fun ls hl => ?_)
            refine lv_goto (tgt := 7) hx hb d_MD_matchOf_62 (by decide) ?_
            exact ih7 (k + 1) (stp (ar 9 k) o) (by omega) (by first | assumption | omega) (by omega) (by first | assumption | omega) (by rw [hqq, hms, if_neg c53]) _ _ _ hI (lv_sub hl [2, 3, 1, 0] rfl)
          · have c53 : stp (ar 9 k) o = 0 := (nI_eq (a := stp (ar 9 k) o) (b := 0) (by omega) (by omega)).mp c53
            refine lv_iload hx hb d_MD_matchOf_56 (lv_at hl 3 rfl) ?_
            exact hret (nI k) () _ _ _ _ _ _ d_MD_matchOf_58 hI (by rw [hqq, hms, if_pos c53]) (Nat.le_refl 0) (Nat.le_refl 0)
  exact L7 _ (q + 1) 1 (Nat.lt_succ_self _) (by first | assumption | omega) (by omega) (by first | assumption | omega) (rfl) _ _ _ hI (lv_sub hl [2, 4, 1, 0] rfl)
