/-! 20: static methods -/
abbrev rm_BL_isIsolate : Room := { frames := 0, cells := 0, slots := 0, locals := 0 }
set_option maxHeartbeats 4000000 in
set_option maxRecDepth 100000 in
theorem c_BL_isIsolate (l : Launch) (g : Geo) (w : va_W) (k : Int32) : cMi l y_BL_isIsolate (.code y_BL_isIsolate b_BL_isIsolate 1 (some .boolean) :: gw) rm_BL_isIsolate g [.int k] (w) (fun (r : Int32) (_ : Unit) => r = bI (isol k)) (fun (_ : Unit) => w) 0 0 := by
  refine cMz_of (by decide) (Nat.le_of_ble_eq_true rfl) ?_
  intro p e s m below meth c A Q ls M hret hl hI
  have M : MC p s m ([.int k] : List Value).toArray meth c R_BL b_BL_isIsolate 1 := M
  have hl : lv_has ls 1 [(0, .int k)] := hl
  generalize ([.int k] : List Value).toArray = args at M hret ⊢
  have hx := M.1
  have hb := M.2.1
  refine lv_iload_n hx hb d_BL_isIsolate_0 rfl (lv_at hl 0 rfl) ?_
  refine lv_bipush (v := 19) hx hb d_BL_isIsolate_1 (by decide) ?_
  refine lv_icmp_lt (tgt := 16) hx hb d_BL_isIsolate_3 (by decide) (fun c3 => ?_) (fun c3 => ?_)
  · refine lv_iconst (v := 0) hx hb d_BL_isIsolate_16 (by decide) ?_
    exact hret 0 () _ _ _ _ _ _ d_BL_isIsolate_17 hI (by unfold isol; first | exact (bI_t (by simp_all)).symm | exact (bI_f (by simp_all)).symm) (by first | rfl | exact bI_narrow) (Nat.le_refl 0) (Nat.le_refl 0)
  · refine lv_iload_n hx hb d_BL_isIsolate_6 rfl (lv_at hl 0 rfl) ?_
    refine lv_bipush (v := 21) hx hb d_BL_isIsolate_7 (by decide) ?_
    refine lv_icmp_gt (tgt := 16) hx hb d_BL_isIsolate_9 (by decide) (fun c9 => ?_) (fun c9 => ?_)
    · refine lv_iconst (v := 0) hx hb d_BL_isIsolate_16 (by decide) ?_
      exact hret 0 () _ _ _ _ _ _ d_BL_isIsolate_17 hI (by unfold isol; first | exact (bI_t (by simp_all)).symm | exact (bI_f (by simp_all)).symm) (by first | rfl | exact bI_narrow) (Nat.le_refl 0) (Nat.le_refl 0)
    · refine lv_iconst (v := 1) hx hb d_BL_isIsolate_12 (by decide) ?_
      refine lv_goto (tgt := 17) hx hb d_BL_isIsolate_13 (by decide) ?_
      exact hret 1 () _ _ _ _ _ _ d_BL_isIsolate_17 hI (by unfold isol; first | exact (bI_t (by simp_all)).symm | exact (bI_f (by simp_all)).symm) (by first | rfl | exact bI_narrow) (Nat.le_refl 0) (Nat.le_refl 0)
abbrev rm_BL_isEmbedding : Room := { frames := 0, cells := 0, slots := 0, locals := 0 }
set_option maxHeartbeats 4000000 in
set_option maxRecDepth 100000 in
theorem c_BL_isEmbedding (l : Launch) (g : Geo) (w : va_W) (k : Int32) : cMi l y_BL_isEmbedding (.code y_BL_isEmbedding b_BL_isEmbedding 1 (some .boolean) :: gw) rm_BL_isEmbedding g [.int k] (w) (fun (r : Int32) (_ : Unit) => r = bI (isemb k)) (fun (_ : Unit) => w) 0 0 := by
  refine cMz_of (by decide) (Nat.le_of_ble_eq_true rfl) ?_
  intro p e s m below meth c A Q ls M hret hl hI
  have M : MC p s m ([.int k] : List Value).toArray meth c R_BL b_BL_isEmbedding 1 := M
  have hl : lv_has ls 1 [(0, .int k)] := hl
  generalize ([.int k] : List Value).toArray = args at M hret ⊢
  have hx := M.1
  have hb := M.2.1
  refine lv_iload_n hx hb d_BL_isEmbedding_0 rfl (lv_at hl 0 rfl) ?_
  refine lv_bipush (v := 14) hx hb d_BL_isEmbedding_1 (by decide) ?_
  refine lv_icmp_lt (tgt := 16) hx hb d_BL_isEmbedding_3 (by decide) (fun c3 => ?_) (fun c3 => ?_)
  · refine lv_iconst (v := 0) hx hb d_BL_isEmbedding_16 (by decide) ?_
    exact hret 0 () _ _ _ _ _ _ d_BL_isEmbedding_17 hI (by unfold isemb; first | exact (bI_t (by simp_all)).symm | exact (bI_f (by simp_all)).symm) (by first | rfl | exact bI_narrow) (Nat.le_refl 0) (Nat.le_refl 0)
  · refine lv_iload_n hx hb d_BL_isEmbedding_6 rfl (lv_at hl 0 rfl) ?_
    refine lv_bipush (v := 17) hx hb d_BL_isEmbedding_7 (by decide) ?_
    refine lv_icmp_gt (tgt := 16) hx hb d_BL_isEmbedding_9 (by decide) (fun c9 => ?_) (fun c9 => ?_)
    · refine lv_iconst (v := 0) hx hb d_BL_isEmbedding_16 (by decide) ?_
      exact hret 0 () _ _ _ _ _ _ d_BL_isEmbedding_17 hI (by unfold isemb; first | exact (bI_t (by simp_all)).symm | exact (bI_f (by simp_all)).symm) (by first | rfl | exact bI_narrow) (Nat.le_refl 0) (Nat.le_refl 0)
    · refine lv_iconst (v := 1) hx hb d_BL_isEmbedding_12 (by decide) ?_
      refine lv_goto (tgt := 17) hx hb d_BL_isEmbedding_13 (by decide) ?_
      exact hret 1 () _ _ _ _ _ _ d_BL_isEmbedding_17 hI (by unfold isemb; first | exact (bI_t (by simp_all)).symm | exact (bI_f (by simp_all)).symm) (by first | rfl | exact bI_narrow) (Nat.le_refl 0) (Nat.le_refl 0)
abbrev rm_BL_isCharacter : Room := { frames := 0, cells := 0, slots := 0, locals := 0 }
set_option maxHeartbeats 4000000 in
set_option maxRecDepth 100000 in
theorem c_BL_isCharacter (l : Launch) (g : Geo) (w : va_W) (k : Int32) : cMi l y_BL_isCharacter (.code y_BL_isCharacter b_BL_isCharacter 1 (some .boolean) :: gw) rm_BL_isCharacter g [.int k] (w) (fun (r : Int32) (_ : Unit) => r = bI (isch k)) (fun (_ : Unit) => w) 0 0 := by
  refine cMz_of (by decide) (Nat.le_of_ble_eq_true rfl) ?_
  intro p e s m below meth c A Q ls M hret hl hI
  have M : MC p s m ([.int k] : List Value).toArray meth c R_BL b_BL_isCharacter 1 := M
  have hl : lv_has ls 1 [(0, .int k)] := hl
  generalize ([.int k] : List Value).toArray = args at M hret ⊢
  have hx := M.1
  have hb := M.2.1
  refine lv_iload_n hx hb d_BL_isCharacter_0 rfl (lv_at hl 0 rfl) ?_
  refine lv_if_lt (tgt := 14) hx hb d_BL_isCharacter_1 (by decide) (fun c1 => ?_) (fun c1 => ?_)
  · refine lv_iconst (v := 0) hx hb d_BL_isCharacter_14 (by decide) ?_
    exact hret 0 () _ _ _ _ _ _ d_BL_isCharacter_15 hI (by unfold isch; first | exact (bI_t (by simp_all)).symm | exact (bI_f (by simp_all)).symm) (by first | rfl | exact bI_narrow) (Nat.le_refl 0) (Nat.le_refl 0)
  · refine lv_iload_n hx hb d_BL_isCharacter_4 rfl (lv_at hl 0 rfl) ?_
    refine lv_ldc (v := 1114111) hx hb M.2.2.2.1 (M.2.2.2.2.1 _ m2_140) d_BL_isCharacter_5 ?_
    refine lv_icmp_gt (tgt := 14) hx hb d_BL_isCharacter_7 (by decide) (fun c7 => ?_) (fun c7 => ?_)
    · refine lv_iconst (v := 0) hx hb d_BL_isCharacter_14 (by decide) ?_
      exact hret 0 () _ _ _ _ _ _ d_BL_isCharacter_15 hI (by unfold isch; first | exact (bI_t (by simp_all)).symm | exact (bI_f (by simp_all)).symm) (by first | rfl | exact bI_narrow) (Nat.le_refl 0) (Nat.le_refl 0)
    · refine lv_iconst (v := 1) hx hb d_BL_isCharacter_10 (by decide) ?_
      refine lv_goto (tgt := 15) hx hb d_BL_isCharacter_11 (by decide) ?_
      exact hret 1 () _ _ _ _ _ _ d_BL_isCharacter_15 hI (by unfold isch; first | exact (bI_t (by simp_all)).symm | exact (bI_f (by simp_all)).symm) (by first | rfl | exact bI_narrow) (Nat.le_refl 0) (Nat.le_refl 0)
abbrev rm_BL_isOdd : Room := { frames := 0, cells := 0, slots := 0, locals := 0 }
set_option maxHeartbeats 4000000 in
set_option maxRecDepth 100000 in
theorem c_BL_isOdd (l : Launch) (g : Geo) (w : va_W) (v : Nat) (hv : v < 2 ^ 31) : cMi l y_BL_isOdd (.code y_BL_isOdd b_BL_isOdd 1 (some .boolean) :: gw) rm_BL_isOdd g [.int (nI v)] (w) (fun (r : Int32) (_ : Unit) => r = bI (v % 2 = 1)) (fun (_ : Unit) => w) 0 0 := by
  refine cMz_of (by decide) (Nat.le_of_ble_eq_true rfl) ?_
  intro p e s m below meth c A Q ls M hret hl hI
  have M : MC p s m ([.int (nI v)] : List Value).toArray meth c R_BL b_BL_isOdd 1 := M
  have hl : lv_has ls 1 [(0, .int (nI v))] := hl
  generalize ([.int (nI v)] : List Value).toArray = args at M hret ⊢
  have hx := M.1
  have hb := M.2.1
  refine lv_iload_n hx hb d_BL_isOdd_0 rfl (lv_at hl 0 rfl) ?_
  refine lv_iconst (v := 1) hx hb d_BL_isOdd_1 (by decide) ?_
  refine lv_iand hx hb d_BL_isOdd_2 ?_
  refine q_as (y := nI (v % 2)) (by rw [pk_andN (by omega) 1 rfl]) ?_
  refine lv_iconst (v := 1) hx hb d_BL_isOdd_3 (by decide) ?_
  refine lv_icmp_ne (tgt := 11) hx hb d_BL_isOdd_4 (by decide) (fun c4 => ?_) (fun c4 => ?_)
  · have c4 : ¬ v % 2 = 1 := fun h => c4 ((nI_eq (a := v % 2) (b := 1) (by omega) (by omega)).mpr h)
    refine lv_iconst (v := 0) hx hb d_BL_isOdd_11 (by decide) ?_
    exact hret 0 () _ _ _ _ _ _ d_BL_isOdd_12 hI (by first | exact (bI_t (by omega)).symm | exact (bI_f (by omega)).symm) (by first | rfl | exact bI_narrow) (Nat.le_refl 0) (Nat.le_refl 0)
  · have c4 : v % 2 = 1 := (nI_eq (a := v % 2) (b := 1) (by omega) (by omega)).mp c4
    refine lv_iconst (v := 1) hx hb d_BL_isOdd_7 (by decide) ?_
    refine lv_goto (tgt := 12) hx hb d_BL_isOdd_8 (by decide) ?_
    exact hret 1 () _ _ _ _ _ _ d_BL_isOdd_12 hI (by first | exact (bI_t (by omega)).symm | exact (bI_f (by omega)).symm) (by first | rfl | exact bI_narrow) (Nat.le_refl 0) (Nat.le_refl 0)
abbrev rm_BL_directionOf : Room := { frames := 0, cells := 0, slots := 0, locals := 0 }
set_option maxHeartbeats 4000000 in
set_option maxRecDepth 100000 in
theorem c_BL_directionOf (l : Launch) (g : Geo) (w : va_W) (v : Nat) (hv : v < 2 ^ 31) : cMi l y_BL_directionOf (.code y_BL_directionOf b_BL_directionOf 1 (some .int) :: gw) rm_BL_directionOf g [.int (nI v)] (w) (fun (r : Int32) (_ : Unit) => r = nI (v % 2)) (fun (_ : Unit) => w) 0 0 := by
  refine cMi_of (by decide) (Nat.le_of_ble_eq_true rfl) ?_
  intro p e s m below meth c A Q ls M hret hl hI
  have M : MC p s m ([.int (nI v)] : List Value).toArray meth c R_BL b_BL_directionOf 1 := M
  have hl : lv_has ls 1 [(0, .int (nI v))] := hl
  generalize ([.int (nI v)] : List Value).toArray = args at M hret ⊢
  have hx := M.1
  have hb := M.2.1
  refine lv_iload_n hx hb d_BL_directionOf_0 rfl (lv_at hl 0 rfl) ?_
  refine lv_iconst (v := 1) hx hb d_BL_directionOf_1 (by decide) ?_
  refine lv_iand hx hb d_BL_directionOf_2 ?_
  refine q_as (y := nI (v % 2)) (by rw [pk_andN (by omega) 1 rfl]) ?_
  refine lv_iconst (v := 1) hx hb d_BL_directionOf_3 (by decide) ?_
  refine lv_icmp_ne (tgt := 11) hx hb d_BL_directionOf_4 (by decide) (fun c4 => ?_) (fun c4 => ?_)
  · have c4 : ¬ v % 2 = 1 := fun h => c4 ((nI_eq (a := v % 2) (b := 1) (by omega) (by omega)).mpr h)
    refine lv_iconst (v := 0) hx hb d_BL_directionOf_11 (by decide) ?_
    exact hret 0 () _ _ _ _ _ _ d_BL_directionOf_12 hI (by first | (rw [show v % 2 = 1 by omega]; rfl) | (rw [show v % 2 = 0 by omega]; rfl)) (Nat.le_refl 0) (Nat.le_refl 0)
  · have c4 : v % 2 = 1 := (nI_eq (a := v % 2) (b := 1) (by omega) (by omega)).mp c4
    refine lv_iconst (v := 1) hx hb d_BL_directionOf_7 (by decide) ?_
    refine lv_goto (tgt := 12) hx hb d_BL_directionOf_8 (by decide) ?_
    exact hret 1 () _ _ _ _ _ _ d_BL_directionOf_12 hI (by first | (rw [show v % 2 = 1 by omega]; rfl) | (rw [show v % 2 = 0 by omega]; rfl)) (Nat.le_refl 0) (Nat.le_refl 0)
