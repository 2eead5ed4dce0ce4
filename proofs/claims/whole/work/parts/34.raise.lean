/-! 34: Resolver: raising levels, paragraphs -/
abbrev isnum (k : Int32) : Prop := k = 3 ∨ k = 6
def raO (v : Nat) (k : Int32) : Nat := if v % 2 = 1 then (if k = 0 ∨ isnum k then 1 else 0) else if isnum k then 2 else if k = 1 then 1 else 0
theorem raO_le (v : Nat) (k : Int32) : raO v k ≤ 2 := by
  unfold raO
  split
  · split <;> decide
  · split
    · decide
    · split <;> decide
def raF (b : Nat) (lv kn : Nat → Int32) (L : Nat → Nat) : Nat → Int32 := fun j => if j < b ∨ lv j = -1 then lv j else nI (L j + raO (L j) (kn j))
theorem raF_lo {b : Nat} {lv kn : Nat → Int32} {L : Nat → Nat} : pre b (raF b lv kn L) lv = lv := by
  funext j
  simp only [pre, raF]
  by_cases h : j < b
  · rw [if_pos h, if_pos (Or.inl h)]
  · rw [if_neg h]
/-- paragraphs, the last one first, and where the next one begins -/
def pgL (fst : Nat → Int32) (cn : Nat) : Nat → List (Nat × Nat) × Nat
  | 0 => ([], 0)
  | d + 1 => if fst d = 10 ∨ d + 1 = cn then (((pgL fst cn d).2, d + 1) :: (pgL fst cn d).1, d + 1) else pgL fst cn d
def prel (a b : Nat → Int32) : List (Nat × Nat) → Prop
  | [] => True
  | x :: r => a r.length = nI x.1 ∧ b r.length = nI x.2 ∧ prel a b r
theorem prel_upd {a b : Nat → Int32} {x y : Int32} {n : Nat} : ∀ {L : List (Nat × Nat)}, L.length ≤ n → prel a b L → prel (upd a n x) (upd b n y) L
  | [], _, _ => trivial
  | e :: r, h, q => by
    simp only [List.length_cons] at h
    exact ⟨by rw [pk_un (by omega)]; exact q.1, by rw [pk_un (by omega)]; exact q.2.1, prel_upd (by omega) q.2.2⟩
theorem prel_push {a b : Nat → Int32} {L : List (Nat × Nat)} {i j : Nat} (h : prel a b L) : prel (upd a L.length (nI i)) (upd b L.length (nI j)) ((i, j) :: L) := ⟨pk_us, pk_us, prel_upd (Nat.le_refl _) h⟩
theorem pgL_len (fst : Nat → Int32) (cn : Nat) : ∀ d, (pgL fst cn d).1.length ≤ d ∧ (pgL fst cn d).2 ≤ d
  | 0 => ⟨Nat.le_refl 0, Nat.le_refl 0⟩
  | d + 1 => by
    have := pgL_len fst cn d
    simp only [pgL]
    split
    · exact ⟨by simp only [List.length_cons]; omega, Nat.le_refl _⟩
    · omega
def pwF (E : Nat → Nat) (q : Nat) : Nat → Nat → Int32
  | 0, _ => -1
  | f + 1, k => if q < E k then nI k else pwF E q f (k + 1)
abbrev rm_RS_raiseOf : Room := { frames := 1, cells := 0, slots := 0, locals := 20 }
set_option maxHeartbeats 4000000 in
set_option maxRecDepth 100000 in
theorem c_RS_raiseOf (l : Launch) (g : Geo) (w : va_W) (v : Nat) (k : Int32) (hv : v < 2 ^ 31) : cMi l y_RS_raiseOf (.code y_RS_raiseOf b_RS_raiseOf 3 (some .int) :: gw) rm_RS_raiseOf g [.int (nI v), .int k] (w) (fun (r : Int32) (_ : Unit) => r = nI (raO v k)) (fun (_ : Unit) => w) 0 0 := by
  refine cMi_of (by decide) (Nat.le_of_ble_eq_true rfl) ?_
  intro p e s m below meth c A Q ls M hret hl hI
  have M : MC p s m ([.int (nI v), .int k] : List Value).toArray meth c R_RS b_RS_raiseOf 3 := M
  have hl : lv_has ls 3 [(0, .int (nI v)), (1, .int k)] := hl
  generalize ([.int (nI v), .int k] : List Value).toArray = args at M hret ⊢
  have hx := M.1
  have hb := M.2.1
  refine lv_iload_n hx hb d_RS_raiseOf_0 rfl (lv_at hl 1 rfl) ?_
  refine lv_iconst (v := 3) hx hb d_RS_raiseOf_1 (by decide) ?_
  refine lv_icmp_eq (tgt := 11) hx hb d_RS_raiseOf_2 (by decide) (fun c2 => ?_) (fun c2 => ?_)
  · have hnn : isnum k := Or.inl c2
    refine lv_iconst (v := 1) hx hb d_RS_raiseOf_11 (by decide) ?_
    refine lv_goto (tgt := 16) hx hb d_RS_raiseOf_12 (by decide) ?_
    refine lv_istore_n (lv' := [(2, .int 1), (0, .int (nI v)), (1, .int k)]) hx hb d_RS_raiseOf_16 rfl hl (by decide) rfl (fun ls hl => ?_)
    refine lv_iload_n hx hb d_RS_raiseOf_17 rfl (lv_at hl 1 rfl) ?_
    refine q_calliSN [.int (nI v)] M hI (c_BL_isOdd l g (w) v (by first | exact hv | assumption | omega | rfl)) ok_BL_isOdd (List.mem_of_getElem? (i := 10) rfl) m4_34 rfl rfl hl.1 ⟨rfl, rfl⟩ ⟨Nat.le_of_ble_eq_true rfl, Nat.le_of_ble_eq_true rfl⟩ (Nat.le_of_ble_eq_true rfl) ⟨Nat.le_of_ble_eq_true rfl, Nat.le_of_ble_eq_true rfl⟩ d_RS_raiseOf_18 (fun r18 u18 H locs hp18 hI => ?_)
    refine q_as (y := bI (v % 2 = 1)) hp18 ?_
    refine lv_if_eq (tgt := 38) hx hb d_RS_raiseOf_21 (by decide) (fun c21 => ?_) (fun c21 => ?_)
    · have c21 := bI_eq0.mp c21
      refine lv_iload_n hx hb d_RS_raiseOf_38 rfl (lv_at hl 0 rfl) ?_
      refine lv_if_eq (tgt := 44) hx hb d_RS_raiseOf_39 (by decide) (fun c39 => ?_) (fun c39 => ?_)
      · have c39 : 1 = 0 := (nI_eq (a := 1) (b := 0) (by omega) (by omega)).mp c39
        exfalso; omega
      · have c39 : ¬ 1 = 0 := fun h => c39 ((nI_eq (a := 1) (b := 0) (by omega) (by omega)).mpr h)
        refine lv_iconst (v := 2) hx hb d_RS_raiseOf_42 (by decide) ?_
        exact hret 2 () _ _ _ _ _ _ d_RS_raiseOf_43 hI (by unfold raO; rw [if_neg c21, if_pos hnn]; rfl) (Nat.le_refl 0) (Nat.le_refl 0)
    · have c21 := bI_ne0.mp c21
      refine lv_iload_n hx hb d_RS_raiseOf_24 rfl (lv_at hl 2 rfl) ?_
      refine lv_if_eq (tgt := 32) hx hb d_RS_raiseOf_25 (by decide) (fun c25 => ?_) (fun c25 => ?_)
      · refine lv_iconst (v := 1) hx hb d_RS_raiseOf_32 (by decide) ?_
        refine lv_goto (tgt := 37) hx hb d_RS_raiseOf_33 (by decide) ?_
        exact hret 1 () _ _ _ _ _ _ d_RS_raiseOf_37 hI (by unfold raO; rw [if_pos c21]; first | (refine (congrArg nI (if_pos ?_)).symm; exact Or.inl c25) | (refine (congrArg nI (if_pos ?_)).symm; exact Or.inr hnn) | (refine (congrArg nI (if_neg ?_)).symm; intro q; exact q.elim c25 hnn)) (Nat.le_refl 0) (Nat.le_refl 0)
      · refine lv_iload_n hx hb d_RS_raiseOf_28 rfl (lv_at hl 0 rfl) ?_
        refine lv_if_eq (tgt := 36) hx hb d_RS_raiseOf_29 (by decide) (fun c29 => ?_) (fun c29 => ?_)
        · have c29 : 1 = 0 := (nI_eq (a := 1) (b := 0) (by omega) (by omega)).mp c29
          exfalso; omega
        · have c29 : ¬ 1 = 0 := fun h => c29 ((nI_eq (a := 1) (b := 0) (by omega) (by omega)).mpr h)
          refine lv_iconst (v := 1) hx hb d_RS_raiseOf_32 (by decide) ?_
          refine lv_goto (tgt := 37) hx hb d_RS_raiseOf_33 (by decide) ?_
          exact hret 1 () _ _ _ _ _ _ d_RS_raiseOf_37 hI (by unfold raO; rw [if_pos c21]; first | (refine (congrArg nI (if_pos ?_)).symm; exact Or.inl c25) | (refine (congrArg nI (if_pos ?_)).symm; exact Or.inr hnn) | (refine (congrArg nI (if_neg ?_)).symm; intro q; exact q.elim c25 hnn)) (Nat.le_refl 0) (Nat.le_refl 0)
  · refine lv_iload_n hx hb d_RS_raiseOf_5 rfl (lv_at hl 1 rfl) ?_
    refine lv_bipush (v := 6) hx hb d_RS_raiseOf_6 (by decide) ?_
    refine lv_icmp_ne (tgt := 15) hx hb d_RS_raiseOf_8 (by decide) (fun c8 => ?_) (fun c8 => ?_)
    · have hnn : ¬ isnum k := fun q => q.elim c2 c8
      refine lv_iconst (v := 0) hx hb d_RS_raiseOf_15 (by decide) ?_
      refine lv_istore_n (lv' := [(2, .int 0), (0, .int (nI v)), (1, .int k)]) hx hb d_RS_raiseOf_16 rfl hl (by decide) rfl (fun ls hl => ?_)
      refine lv_iload_n hx hb d_RS_raiseOf_17 rfl (lv_at hl 1 rfl) ?_
      refine q_calliSN [.int (nI v)] M hI (c_BL_isOdd l g (w) v (by first | exact hv | assumption | omega | rfl)) ok_BL_isOdd (List.mem_of_getElem? (i := 10) rfl) m4_34 rfl rfl hl.1 ⟨rfl, rfl⟩ ⟨Nat.le_of_ble_eq_true rfl, Nat.le_of_ble_eq_true rfl⟩ (Nat.le_of_ble_eq_true rfl) ⟨Nat.le_of_ble_eq_true rfl, Nat.le_of_ble_eq_true rfl⟩ d_RS_raiseOf_18 (fun r18 u18 H locs hp18 hI => ?_)
      refine q_as (y := bI (v % 2 = 1)) hp18 ?_
      refine lv_if_eq (tgt := 38) hx hb d_RS_raiseOf_21 (by decide) (fun c21 => ?_) (fun c21 => ?_)
      · have c21 := bI_eq0.mp c21
        refine lv_iload_n hx hb d_RS_raiseOf_38 rfl (lv_at hl 0 rfl) ?_
        refine lv_if_eq (tgt := 44) hx hb d_RS_raiseOf_39 (by decide) (fun c39 => ?_) (fun c39 => ?_)
        · have c39 : 0 = 0 := (nI_eq (a := 0) (b := 0) (by omega) (by omega)).mp c39
          refine lv_iload_n hx hb d_RS_raiseOf_44 rfl (lv_at hl 2 rfl) ?_
          refine lv_iconst (v := 1) hx hb d_RS_raiseOf_45 (by decide) ?_
          refine lv_icmp_ne (tgt := 53) hx hb d_RS_raiseOf_46 (by decide) (fun c46 => ?_) (fun c46 => ?_)
          · refine lv_iconst (v := 0) hx hb d_RS_raiseOf_53 (by decide) ?_
            exact hret 0 () _ _ _ _ _ _ d_RS_raiseOf_54 hI (by unfold raO; rw [if_neg c21, if_neg hnn]; first | (refine (congrArg nI (if_pos ?_)).symm; exact c46) | (refine (congrArg nI (if_neg ?_)).symm; exact c46)) (Nat.le_refl 0) (Nat.le_refl 0)
          · refine lv_iconst (v := 1) hx hb d_RS_raiseOf_49 (by decide) ?_
            refine lv_goto (tgt := 54) hx hb d_RS_raiseOf_50 (by decide) ?_
            exact hret 1 () _ _ _ _ _ _ d_RS_raiseOf_54 hI (by unfold raO; rw [if_neg c21, if_neg hnn]; first | (refine (congrArg nI (if_pos ?_)).symm; exact c46) | (refine (congrArg nI (if_neg ?_)).symm; exact c46)) (Nat.le_refl 0) (Nat.le_refl 0)
        · have c39 : ¬ 0 = 0 := fun h => c39 ((nI_eq (a := 0) (b := 0) (by omega) (by omega)).mpr h)
          exfalso; omega
      · have c21 := bI_ne0.mp c21
        refine lv_iload_n hx hb d_RS_raiseOf_24 rfl (lv_at hl 2 rfl) ?_
        refine lv_if_eq (tgt := 32) hx hb d_RS_raiseOf_25 (by decide) (fun c25 => ?_) (fun c25 => ?_)
        · refine lv_iconst (v := 1) hx hb d_RS_raiseOf_32 (by decide) ?_
          refine lv_goto (tgt := 37) hx hb d_RS_raiseOf_33 (by decide) ?_
          exact hret 1 () _ _ _ _ _ _ d_RS_raiseOf_37 hI (by unfold raO; rw [if_pos c21]; first | (refine (congrArg nI (if_pos ?_)).symm; exact Or.inl c25) | (refine (congrArg nI (if_pos ?_)).symm; exact Or.inr hnn) | (refine (congrArg nI (if_neg ?_)).symm; intro q; exact q.elim c25 hnn)) (Nat.le_refl 0) (Nat.le_refl 0)
        · refine lv_iload_n hx hb d_RS_raiseOf_28 rfl (lv_at hl 0 rfl) ?_
          refine lv_if_eq (tgt := 36) hx hb d_RS_raiseOf_29 (by decide) (fun c29 => ?_) (fun c29 => ?_)
          · have c29 : 0 = 0 := (nI_eq (a := 0) (b := 0) (by omega) (by omega)).mp c29
            refine lv_iconst (v := 0) hx hb d_RS_raiseOf_36 (by decide) ?_
            exact hret 0 () _ _ _ _ _ _ d_RS_raiseOf_37 hI (by unfold raO; rw [if_pos c21]; first | (refine (congrArg nI (if_pos ?_)).symm; exact Or.inl c25) | (refine (congrArg nI (if_pos ?_)).symm; exact Or.inr hnn) | (refine (congrArg nI (if_neg ?_)).symm; intro q; exact q.elim c25 hnn)) (Nat.le_refl 0) (Nat.le_refl 0)
          · have c29 : ¬ 0 = 0 := fun h => c29 ((nI_eq (a := 0) (b := 0) (by omega) (by omega)).mpr h)
            exfalso; omega
    · have hnn : isnum k := Or.inr c8
      refine lv_iconst (v := 1) hx hb d_RS_raiseOf_11 (by decide) ?_
      refine lv_goto (tgt := 16) hx hb d_RS_raiseOf_12 (by decide) ?_
      refine lv_istore_n (lv' := [(2, .int 1), (0, .int (nI v)), (1, .int k)]) hx hb d_RS_raiseOf_16 rfl hl (by decide) rfl (fun ls hl => ?_)
      refine lv_iload_n hx hb d_RS_raiseOf_17 rfl (lv_at hl 1 rfl) ?_
      refine q_calliSN [.int (nI v)] M hI (c_BL_isOdd l g (w) v (by first | exact hv | assumption | omega | rfl)) ok_BL_isOdd (List.mem_of_getElem? (i := 10) rfl) m4_34 rfl rfl hl.1 ⟨rfl, rfl⟩ ⟨Nat.le_of_ble_eq_true rfl, Nat.le_of_ble_eq_true rfl⟩ (Nat.le_of_ble_eq_true rfl) ⟨Nat.le_of_ble_eq_true rfl, Nat.le_of_ble_eq_true rfl⟩ d_RS_raiseOf_18 (fun r18 u18 H locs hp18 hI => ?_)
      refine q_as (y := bI (v % 2 = 1)) hp18 ?_
      refine lv_if_eq (tgt := 38) hx hb d_RS_raiseOf_21 (by decide) (fun c21 => ?_) (fun c21 => ?_)
      · have c21 := bI_eq0.mp c21
        refine lv_iload_n hx hb d_RS_raiseOf_38 rfl (lv_at hl 0 rfl) ?_
        refine lv_if_eq (tgt := 44) hx hb d_RS_raiseOf_39 (by decide) (fun c39 => ?_) (fun c39 => ?_)
        · have c39 : 1 = 0 := (nI_eq (a := 1) (b := 0) (by omega) (by omega)).mp c39
          exfalso; omega
        · have c39 : ¬ 1 = 0 := fun h => c39 ((nI_eq (a := 1) (b := 0) (by omega) (by omega)).mpr h)
          refine lv_iconst (v := 2) hx hb d_RS_raiseOf_42 (by decide) ?_
          exact hret 2 () _ _ _ _ _ _ d_RS_raiseOf_43 hI (by unfold raO; rw [if_neg c21, if_pos hnn]; rfl) (Nat.le_refl 0) (Nat.le_refl 0)
      · have c21 := bI_ne0.mp c21
        refine lv_iload_n hx hb d_RS_raiseOf_24 rfl (lv_at hl 2 rfl) ?_
        refine lv_if_eq (tgt := 32) hx hb d_RS_raiseOf_25 (by decide) (fun c25 => ?_) (fun c25 => ?_)
        · refine lv_iconst (v := 1) hx hb d_RS_raiseOf_32 (by decide) ?_
          refine lv_goto (tgt := 37) hx hb d_RS_raiseOf_33 (by decide) ?_
          exact hret 1 () _ _ _ _ _ _ d_RS_raiseOf_37 hI (by unfold raO; rw [if_pos c21]; first | (refine (congrArg nI (if_pos ?_)).symm; exact Or.inl c25) | (refine (congrArg nI (if_pos ?_)).symm; exact Or.inr hnn) | (refine (congrArg nI (if_neg ?_)).symm; intro q; exact q.elim c25 hnn)) (Nat.le_refl 0) (Nat.le_refl 0)
        · refine lv_iload_n hx hb d_RS_raiseOf_28 rfl (lv_at hl 0 rfl) ?_
          refine lv_if_eq (tgt := 36) hx hb d_RS_raiseOf_29 (by decide) (fun c29 => ?_) (fun c29 => ?_)
          · have c29 : 1 = 0 := (nI_eq (a := 1) (b := 0) (by omega) (by omega)).mp c29
            exfalso; omega
          · have c29 : ¬ 1 = 0 := fun h => c29 ((nI_eq (a := 1) (b := 0) (by omega) (by omega)).mpr h)
            refine lv_iconst (v := 1) hx hb d_RS_raiseOf_32 (by decide) ?_
            refine lv_goto (tgt := 37) hx hb d_RS_raiseOf_33 (by decide) ?_
            exact hret 1 () _ _ _ _ _ _ d_RS_raiseOf_37 hI (by unfold raO; rw [if_pos c21]; first | (refine (congrArg nI (if_pos ?_)).symm; exact Or.inl c25) | (refine (congrArg nI (if_pos ?_)).symm; exact Or.inr hnn) | (refine (congrArg nI (if_neg ?_)).symm; intro q; exact q.elim c25 hnn)) (Nat.le_refl 0) (Nat.le_refl 0)
abbrev rm_RS_raiseLevels : Room := { frames := 2, cells := 0, slots := 0, locals := 42 }
set_option maxHeartbeats 4000000 in
set_option maxRecDepth 100000 in
theorem c_RS_raiseLevels (l : Launch) (g : Geo) (ad : Nat → Nat) (ar : Nat → Nat → Int32) (fl : Nat → Int32) (b : Nat) (en : Nat) (L : Nat → Nat) (hbe : b ≤ en) (he : en ≤ 2000) (hL : ∀ j, b ≤ j → j < en → ¬ ar 15 j = -1 → ar 15 j = nI (L j) ∧ L j ≤ 125) : cMv l y_RS_raiseLevels (.code y_RS_raiseLevels b_RS_raiseLevels 4 none :: gw) rm_RS_raiseLevels g [.ref (ad 4), .int (nI b), .int (nI en)] (cw g ad ar fl) (fun (_ : Unit) => True) (fun (_ : Unit) => cw g ad (va_up ar 15 (pre en (raF b (ar 15) (ar 14) L) (ar 15))) fl) 0 0 := by
  refine cMv_of (by decide) (Nat.le_of_ble_eq_true rfl) ?_
  intro p e s m below meth c A Q ls M hnm hret hl hI
  have M : MC p s m ([.ref (ad 4), .int (nI b), .int (nI en)] : List Value).toArray meth c R_RS b_RS_raiseLevels 4 := M
  have hl : lv_has ls 4 [(0, .ref (ad 4)), (1, .int (nI b)), (2, .int (nI en))] := hl
  generalize ([.ref (ad 4), .int (nI b), .int (nI en)] : List Value).toArray = args at M hret ⊢
  have hx := M.1
  have hb := M.2.1
  refine lv_iload_n hx hb d_RS_raiseLevels_0 rfl (lv_at hl 1 rfl) ?_
  refine lv_istore_n (lv' := [(3, .int (nI b)), (0, .ref (ad 4)), (1, .int (nI b)), (2, .int (nI en))]) hx hb d_RS_raiseLevels_1 rfl hl (by decide) rfl (fun ls hl => ?_)
  have L2 : ∀ (fu : Nat) (i : Nat), (en - i) < fu → (b ≤ i) → (i ≤ en) → ∀ (H : Heap) (locs : List Loc) (ls : Array Slot), CI g A s (cw g ad (va_up ar 15 (pre i (raF b (ar 15) (ar 14) L) (ar 15))) fl) H locs → lv_has ls 4 [(0, .ref (ad 4)), (1, .int (nI b)), (2, .int (nI en)), (3, .int (nI i))] → W p l e rm_RS_raiseLevels s m args below meth c H locs 0 0 Q (F0 m 2 ls []) := by
    intro fu
    induction fu with
    | zero => intro i hm; exact absurd hm (Nat.not_lt_zero _)
    | succ fu ih2 =>
      intro i hm hi hi2 H locs ls hI hl
      refine lv_iload_n hx hb d_RS_raiseLevels_2 rfl (lv_at hl 3 rfl) ?_
      refine lv_iload_n hx hb d_RS_raiseLevels_3 rfl (lv_at hl 2 rfl) ?_
      refine lv_icmp_ge (tgt := 59) hx hb d_RS_raiseLevels_4 (by decide) (fun c4 => ?_) (fun c4 => ?_)
      · have c4 : en ≤ i := (nI_leI (a := en) (b := i) (by omega) (by omega)).mp c4
        have e9 : i = en := by omega
        subst e9
        exact hret () _ _ _ _ _ _ d_RS_raiseLevels_59 hI (trivial) (Nat.le_refl 0) (Nat.le_refl 0)
      · have c4 : ¬ en ≤ i := fun h => c4 ((nI_leI (a := en) (b := i) (by omega) (by omega)).mpr h)
        refine lv_aload_n hx hb d_RS_raiseLevels_7 rfl (lv_at hl 0 rfl) ?_
        refine g_RS_28 M hI d_RS_raiseLevels_8 ?_
        refine g_RS_134 M hI d_RS_raiseLevels_11 ?_
        refine lv_iload_n hx hb d_RS_raiseLevels_14 rfl (lv_at hl 3 rfl) ?_
        refine al_15 M hI i rfl (by omega) d_RS_raiseLevels_15 ?_
        refine q_as (y := ar 15 i) (pre_at) ?_
        refine lv_iconst (v := (-1)) hx hb d_RS_raiseLevels_16 (by decide) ?_
        refine lv_icmp_eq (tgt := 53) hx hb d_RS_raiseLevels_17 (by decide) (fun c17 => ?_) (fun c17 => ?_)
        · rw [pre_same (i := i) (f := raF b (ar 15) (ar 14) L) (f0 := ar 15) (by unfold raF; rw [if_pos (Or.inr c17)])] at hI
          refine lv_iinc (v := nI (i + 1)) (lv' := [(3, .int (nI (i + 1))), (0, .ref (ad 4)), (1, .int (nI b)), (2, .int (nI en))]) hx hb d_RS_raiseLevels_53 hl (k := 3) rfl (nI_add _ 1) (by decide) rfl (fun ls hl => ?_)
          refine lv_goto (tgt := 2) hx hb d_RS_raiseLevels_56 (by decide) ?_
          exact ih2 (i + 1) (by omega) (by first | assumption | omega) (by first | assumption | omega) _ _ _ hI (lv_sub hl [1, 2, 3, 0] rfl)
        · have hLi := hL i (by omega) (by omega) c17
          refine lv_aload_n hx hb d_RS_raiseLevels_20 rfl (lv_at hl 0 rfl) ?_
          refine g_RS_28 M hI d_RS_raiseLevels_21 ?_
          refine g_RS_134 M hI d_RS_raiseLevels_24 ?_
          refine lv_iload_n hx hb d_RS_raiseLevels_27 rfl (lv_at hl 3 rfl) ?_
          refine lv_dup2_11 hx hb d_RS_raiseLevels_28 rfl rfl ?_
          refine al_15 M hI i rfl (by omega) d_RS_raiseLevels_29 ?_
          refine q_as (y := nI (L i)) (by show pre i _ _ i = _; rw [pre_at]; exact hLi.1) ?_
          refine lv_aload_n hx hb d_RS_raiseLevels_30 rfl (lv_at hl 0 rfl) ?_
          refine g_RS_28 M hI d_RS_raiseLevels_31 ?_
          refine g_RS_134 M hI d_RS_raiseLevels_34 ?_
          refine lv_iload_n hx hb d_RS_raiseLevels_37 rfl (lv_at hl 3 rfl) ?_
          refine al_15 M hI i rfl (by omega) d_RS_raiseLevels_38 ?_
          refine q_as (y := nI (L i)) (by show pre i _ _ i = _; rw [pre_at]; exact hLi.1) ?_
          refine lv_aload_n hx hb d_RS_raiseLevels_39 rfl (lv_at hl 0 rfl) ?_
          refine g_RS_28 M hI d_RS_raiseLevels_40 ?_
          refine g_RS_137 M hI d_RS_raiseLevels_43 ?_
          refine lv_iload_n hx hb d_RS_raiseLevels_46 rfl (lv_at hl 3 rfl) ?_
          refine al_14 M hI i rfl (by omega) d_RS_raiseLevels_47 ?_
          refine q_as (y := ar 14 i) rfl ?_
          refine q_calliS [.int (nI (L i)), .int (ar 14 i)] M hI (c_RS_raiseOf l g (cw g ad (va_up ar 15 (pre i (raF b (ar 15) (ar 14) L) (ar 15))) fl) (L i) (ar 14 i) (by have := hLi.2; omega)) ok_RS_raiseOf m4_30 m4_31 rfl rfl hl.1 ⟨rfl, rfl⟩ ⟨Nat.le_of_ble_eq_true rfl, Nat.le_of_ble_eq_true rfl⟩ (Nat.le_of_ble_eq_true rfl) ⟨Nat.le_of_ble_eq_true rfl, Nat.le_of_ble_eq_true rfl⟩ d_RS_raiseLevels_48 (fun r48 u48 H locs hp48 hI => ?_)
          refine q_as (y := nI (raO (L i) (ar 14 i))) hp48 ?_
          refine lv_iadd hx hb d_RS_raiseLevels_51 ?_
          refine q_as (y := nI (L i + raO (L i) (ar 14 i))) (nI_add (L i) (raO (L i) (ar 14 i))) ?_
          refine as_15 M hI i rfl (by omega) d_RS_raiseLevels_52 (fun H locs hI => ?_)
          have hI : CI g A s (cw g ad (va_up ar 15 (upd (pre i (raF b (ar 15) (ar 14) L) (ar 15)) i (nI (L i + raO (L i) (ar 14 i))))) fl) H locs := hI
          rw [show upd (pre i (raF b (ar 15) (ar 14) L) (ar 15)) i (nI (L i + raO (L i) (ar 14 i))) = pre (i + 1) (raF b (ar 15) (ar 14) L) (ar 15) from pre_up (by unfold raF; rw [if_neg (fun q => q.elim (by omega) c17)])] at hI
          have hI : CI g A s (cw g ad (va_up ar 15 (pre (i + 1) (raF b (ar 15) (ar 14) L) (ar 15))) fl) H locs := hI
          refine lv_iinc (v := nI (i + 1)) (lv' := [(3, .int (nI (i + 1))), (0, .ref (ad 4)), (1, .int (nI b)), (2, .int (nI en))]) hx hb d_RS_raiseLevels_53 hl (k := 3) rfl (nI_add _ 1) (by decide) rfl (fun ls hl => ?_)
          refine lv_goto (tgt := 2) hx hb d_RS_raiseLevels_56 (by decide) ?_
          exact ih2 (i + 1) (by omega) (by first | assumption | omega) (by first | assumption | omega) _ _ _ hI (lv_sub hl [1, 2, 3, 0] rfl)
  have hI := CI.to (w2 := cw g ad (va_up ar 15 (pre b (raF b (ar 15) (ar 14) L) (ar 15))) fl) hI (by rw [raF_lo]; rfl)
  exact L2 _ b (Nat.lt_succ_self _) (by first | assumption | omega) (by first | assumption | omega) _ _ _ hI (lv_sub hl [1, 2, 3, 0] rfl)
abbrev rm_RS_findParagraphs : Room := { frames := 0, cells := 0, slots := 0, locals := 0 }
set_option maxHeartbeats 4000000 in
set_option maxRecDepth 100000 in
theorem c_RS_findParagraphs (l : Launch) (g : Geo) (ad : Nat → Nat) (ar : Nat → Nat → Int32) (fl : Nat → Int32) (cn : Nat) (hcn : fl 2 = nI cn) (hcN : cn ≤ 2000) : cMv l y_RS_findParagraphs (.code y_RS_findParagraphs b_RS_findParagraphs 3 none :: gw) rm_RS_findParagraphs g [.ref (ad 4)] (cw g ad ar fl) (fun (u : (Nat → Int32) × (Nat → Int32)) => prel u.1 u.2 (pgL (ar 13) cn cn).1) (fun (u : (Nat → Int32) × (Nat → Int32)) => cw g ad (va_up (va_up ar 24 u.1) 25 u.2) (va_up fl 6 (nI (pgL (ar 13) cn cn).1.length))) 0 0 := by
  refine cMv_of (by decide) (Nat.le_of_ble_eq_true rfl) ?_
  intro p e s m below meth c A Q ls M hnm hret hl hI
  have M : MC p s m ([.ref (ad 4)] : List Value).toArray meth c R_RS b_RS_findParagraphs 3 := M
  have hl : lv_has ls 3 [(0, .ref (ad 4))] := hl
  generalize ([.ref (ad 4)] : List Value).toArray = args at M hret ⊢
  have hx := M.1
  have hb := M.2.1
  refine lv_aload_n hx hb d_RS_findParagraphs_0 rfl (lv_at hl 0 rfl) ?_
  refine lv_iconst (v := 0) hx hb d_RS_findParagraphs_1 (by decide) ?_
  refine p_RS_24 M hI d_RS_findParagraphs_2 (fun H locs hI => ?_)
  have hI : CI g A s (cw g ad ar (va_up fl 6 0)) H locs := hI
  refine lv_iconst (v := 0) hx hb d_RS_findParagraphs_5 (by decide) ?_
  refine lv_istore_n (lv' := [(1, .int 0), (0, .ref (ad 4))]) hx hb d_RS_findParagraphs_6 rfl hl (by decide) rfl (fun ls hl => ?_)
  refine lv_iconst (v := 0) hx hb d_RS_findParagraphs_7 (by decide) ?_
  refine lv_istore_n (lv' := [(2, .int 0), (1, .int 0), (0, .ref (ad 4))]) hx hb d_RS_findParagraphs_8 rfl hl (by decide) rfl (fun ls hl => ?_)
  have L9 : ∀ (fu : Nat) (d : Nat) (y1 : Nat → Int32) (y2 : Nat → Int32), (cn - d) < fu → (d ≤ cn) → (prel y1 y2 (pgL (ar 13) cn d).1) → ∀ (H : Heap) (locs : List Loc) (ls : Array Slot), CI g A s (cw g ad (va_up (va_up ar 24 y1) 25 y2) (va_up fl 6 (nI ((pgL (ar 13) cn d).1.length)))) H locs → lv_has ls 3 [(0, .ref (ad 4)), (1, .int (nI ((pgL (ar 13) cn d).2))), (2, .int (nI d))] → W p l e rm_RS_findParagraphs s m args below meth c H locs 0 0 Q (F0 m 9 ls []) := by
    intro fu
    induction fu with
    | zero => intro d y1 y2 hm; exact absurd hm (Nat.not_lt_zero _)
    | succ fu ih9 =>
      intro d y1 y2 hm hd hr H locs ls hI hl
      refine lv_iload_n hx hb d_RS_findParagraphs_9 rfl (lv_at hl 2 rfl) ?_
      refine lv_aload_n hx hb d_RS_findParagraphs_10 rfl (lv_at hl 0 rfl) ?_
      refine g_RS_28 M hI d_RS_findParagraphs_11 ?_
      refine g_RS_107 M hI d_RS_findParagraphs_14 ?_
      refine q_as (y := nI cn) hcn ?_
      refine lv_icmp_ge (tgt := 89) hx hb d_RS_findParagraphs_17 (by decide) (fun c17 => ?_) (fun c17 => ?_)
      · have c17 : cn ≤ d := (nI_leI (a := cn) (b := d) (by omega) (by omega)).mp c17
        have e9 : d = cn := by omega
        subst e9
        exact hret (y1, y2) _ _ _ _ _ _ d_RS_findParagraphs_89 hI (hr) (Nat.le_refl 0) (Nat.le_refl 0)
      · have c17 : ¬ cn ≤ d := fun h => c17 ((nI_leI (a := cn) (b := d) (by omega) (by omega)).mpr h)
        have hpl := pgL_len (ar 13) cn d
        refine lv_aload_n hx hb d_RS_findParagraphs_20 rfl (lv_at hl 0 rfl) ?_
        refine g_RS_28 M hI d_RS_findParagraphs_21 ?_
        refine g_RS_112 M hI d_RS_findParagraphs_24 ?_
        refine lv_iload_n hx hb d_RS_findParagraphs_27 rfl (lv_at hl 2 rfl) ?_
        refine al_13 M hI d rfl (by omega) d_RS_findParagraphs_28 ?_
        refine q_as (y := ar 13 d) rfl ?_
        refine lv_bipush (v := 10) hx hb d_RS_findParagraphs_29 (by decide) ?_
        refine lv_icmp_eq (tgt := 47) hx hb d_RS_findParagraphs_31 (by decide) (fun c31 => ?_) (fun c31 => ?_)
        · have hz : ar 13 d = 10 ∨ d + 1 = cn := Or.inl c31
          have eV : pgL (ar 13) cn (d + 1) = (((pgL (ar 13) cn d).2, d + 1) :: (pgL (ar 13) cn d).1, d + 1) := by simp only [pgL]; rw [if_pos hz]
          have hr2 : prel (upd y1 (pgL (ar 13) cn d).1.length (nI (pgL (ar 13) cn d).2)) (upd y2 (pgL (ar 13) cn d).1.length (nI (d + 1))) (pgL (ar 13) cn (d + 1)).1 := by rw [eV]; exact prel_push hr
          refine lv_aload_n hx hb d_RS_findParagraphs_47 rfl (lv_at hl 0 rfl) ?_
          refine g_RS_9 M hI d_RS_findParagraphs_48 ?_
          refine lv_aload_n hx hb d_RS_findParagraphs_51 rfl (lv_at hl 0 rfl) ?_
          refine g_RS_24 M hI d_RS_findParagraphs_52 ?_
          refine q_as (y := nI ((pgL (ar 13) cn d).1.length)) rfl ?_
          refine lv_iload_n hx hb d_RS_findParagraphs_55 rfl (lv_at hl 1 rfl) ?_
          refine as_24 M hI ((pgL (ar 13) cn d).1.length) rfl (by omega) d_RS_findParagraphs_56 (fun H locs hI => ?_)
          have hI : CI g A s (cw g ad (va_up (va_up ar 25 y2) 24 (upd y1 ((pgL (ar 13) cn d).1.length) (nI ((pgL (ar 13) cn d).2)))) (va_up fl 6 (nI ((pgL (ar 13) cn d).1.length)))) H locs := hI
          refine lv_aload_n hx hb d_RS_findParagraphs_57 rfl (lv_at hl 0 rfl) ?_
          refine g_RS_15 M hI d_RS_findParagraphs_58 ?_
          refine lv_aload_n hx hb d_RS_findParagraphs_61 rfl (lv_at hl 0 rfl) ?_
          refine g_RS_24 M hI d_RS_findParagraphs_62 ?_
          refine q_as (y := nI ((pgL (ar 13) cn d).1.length)) rfl ?_
          refine lv_iload_n hx hb d_RS_findParagraphs_65 rfl (lv_at hl 2 rfl) ?_
          refine lv_iconst (v := 1) hx hb d_RS_findParagraphs_66 (by decide) ?_
          refine lv_iadd hx hb d_RS_findParagraphs_67 ?_
          refine q_as (y := nI (d + 1)) (nI_add d 1) ?_
          refine as_25 M hI ((pgL (ar 13) cn d).1.length) rfl (by omega) d_RS_findParagraphs_68 (fun H locs hI => ?_)
          have hI : CI g A s (cw g ad (va_up (va_up ar 24 (upd y1 ((pgL (ar 13) cn d).1.length) (nI ((pgL (ar 13) cn d).2)))) 25 (upd y2 ((pgL (ar 13) cn d).1.length) (nI (d + 1)))) (va_up fl 6 (nI ((pgL (ar 13) cn d).1.length)))) H locs := hI
          refine lv_aload_n hx hb d_RS_findParagraphs_69 rfl (lv_at hl 0 rfl) ?_
          refine lv_dup hx hb d_RS_findParagraphs_70 rfl ?_
          refine g_RS_24 M hI d_RS_findParagraphs_71 ?_
          refine q_as (y := nI ((pgL (ar 13) cn d).1.length)) rfl ?_
          refine lv_iconst (v := 1) hx hb d_RS_findParagraphs_74 (by decide) ?_
          refine lv_iadd hx hb d_RS_findParagraphs_75 ?_
          refine q_as (y := nI ((pgL (ar 13) cn d).1.length + 1)) (nI_add ((pgL (ar 13) cn d).1.length) 1) ?_
          refine p_RS_24 M hI d_RS_findParagraphs_76 (fun H locs hI => ?_)
          have hI : CI g A s (cw g ad (va_up (va_up ar 24 (upd y1 ((pgL (ar 13) cn d).1.length) (nI ((pgL (ar 13) cn d).2)))) 25 (upd y2 ((pgL (ar 13) cn d).1.length) (nI (d + 1)))) (va_up fl 6 (nI ((pgL (ar 13) cn d).1.length + 1)))) H locs := hI
          have hI := CI.to (w2 := cw g ad (va_up (va_up ar 24 (upd y1 ((pgL (ar 13) cn d).1.length) (nI ((pgL (ar 13) cn d).2)))) 25 (upd y2 ((pgL (ar 13) cn d).1.length) (nI (d + 1)))) (va_up fl 6 (nI ((pgL (ar 13) cn (d + 1)).1.length)))) hI (by rw [eV] <;> rfl)
          refine lv_iload_n hx hb d_RS_findParagraphs_79 rfl (lv_at hl 2 rfl) ?_
          refine lv_iconst (v := 1) hx hb d_RS_findParagraphs_80 (by decide) ?_
          refine lv_iadd hx hb d_RS_findParagraphs_81 ?_
          refine q_as (y := nI ((pgL (ar 13) cn (d + 1)).2)) (by rw [eV]; exact nI_add d 1) ?_
          refine lv_istore_n (lv' := [(1, .int (nI ((pgL (ar 13) cn (d + 1)).2))), (0, .ref (ad 4)), (2, .int (nI d))]) hx hb d_RS_findParagraphs_82 rfl hl (by decide) rfl (fun ls hl => ?_)
          refine lv_iinc (v := nI (d + 1)) (lv' := [(2, .int (nI (d + 1))), (1, .int (nI ((pgL (ar 13) cn (d + 1)).2))), (0, .ref (ad 4))]) hx hb d_RS_findParagraphs_83 hl (k := 2) rfl (nI_add _ 1) (by decide) rfl (fun ls hl => ?_)
          refine lv_goto (tgt := 9) hx hb d_RS_findParagraphs_86 (by decide) ?_
          exact ih9 (d + 1) (upd y1 ((pgL (ar 13) cn d).1.length) (nI ((pgL (ar 13) cn d).2))) (upd y2 ((pgL (ar 13) cn d).1.length) (nI (d + 1))) (by omega) (by first | assumption | omega) (hr2) _ _ _ hI (lv_sub hl [2, 1, 0] rfl)
        · refine lv_iload_n hx hb d_RS_findParagraphs_34 rfl (lv_at hl 2 rfl) ?_
          refine lv_iconst (v := 1) hx hb d_RS_findParagraphs_35 (by decide) ?_
          refine lv_iadd hx hb d_RS_findParagraphs_36 ?_
          refine q_as (y := nI (d + 1)) (nI_add d 1) ?_
          refine lv_aload_n hx hb d_RS_findParagraphs_37 rfl (lv_at hl 0 rfl) ?_
          refine g_RS_28 M hI d_RS_findParagraphs_38 ?_
          refine g_RS_107 M hI d_RS_findParagraphs_41 ?_
          refine q_as (y := nI cn) hcn ?_
          refine lv_icmp_ne (tgt := 83) hx hb d_RS_findParagraphs_44 (by decide) (fun c44 => ?_) (fun c44 => ?_)
          · have c44 : ¬ d + 1 = cn := fun h => c44 ((nI_eq (a := d + 1) (b := cn) (by omega) (by omega)).mpr h)
            have eV : pgL (ar 13) cn (d + 1) = pgL (ar 13) cn d := by simp only [pgL]; rw [if_neg (fun q => q.elim c31 c44)]
            have hr2 : prel y1 y2 (pgL (ar 13) cn (d + 1)).1 := by rw [eV]; exact hr
            rw [← eV] at hl
            have hI := CI.to (w2 := cw g ad (va_up (va_up ar 24 y1) 25 y2) (va_up fl 6 (nI ((pgL (ar 13) cn (d + 1)).1.length)))) hI (by rw [eV] <;> rfl)
            refine lv_iinc (v := nI (d + 1)) (lv' := [(2, .int (nI (d + 1))), (0, .ref (ad 4)), (1, .int (nI ((pgL (ar 13) cn (d + 1)).2)))]) hx hb d_RS_findParagraphs_83 hl (k := 2) rfl (nI_add _ 1) (by decide) rfl (fun ls hl => ?_)
            refine lv_goto (tgt := 9) hx hb d_RS_findParagraphs_86 (by decide) ?_
            exact ih9 (d + 1) y1 y2 (by omega) (by first | assumption | omega) (hr2) _ _ _ hI (lv_sub hl [1, 2, 0] rfl)
          · have c44 : d + 1 = cn := (nI_eq (a := d + 1) (b := cn) (by omega) (by omega)).mp c44
            have hz : ar 13 d = 10 ∨ d + 1 = cn := Or.inr c44
            have eV : pgL (ar 13) cn (d + 1) = (((pgL (ar 13) cn d).2, d + 1) :: (pgL (ar 13) cn d).1, d + 1) := by simp only [pgL]; rw [if_pos hz]
            have hr2 : prel (upd y1 (pgL (ar 13) cn d).1.length (nI (pgL (ar 13) cn d).2)) (upd y2 (pgL (ar 13) cn d).1.length (nI (d + 1))) (pgL (ar 13) cn (d + 1)).1 := by rw [eV]; exact prel_push hr
            refine lv_aload_n hx hb d_RS_findParagraphs_47 rfl (lv_at hl 0 rfl) ?_
            refine g_RS_9 M hI d_RS_findParagraphs_48 ?_
            refine lv_aload_n hx hb d_RS_findParagraphs_51 rfl (lv_at hl 0 rfl) ?_
            refine g_RS_24 M hI d_RS_findParagraphs_52 ?_
            refine q_as (y := nI ((pgL (ar 13) cn d).1.length)) rfl ?_
            refine lv_iload_n hx hb d_RS_findParagraphs_55 rfl (lv_at hl 1 rfl) ?_
            refine as_24 M hI ((pgL (ar 13) cn d).1.length) rfl (by omega) d_RS_findParagraphs_56 (fun H locs hI => ?_)
            have hI : CI g A s (cw g ad (va_up (va_up ar 25 y2) 24 (upd y1 ((pgL (ar 13) cn d).1.length) (nI ((pgL (ar 13) cn d).2)))) (va_up fl 6 (nI ((pgL (ar 13) cn d).1.length)))) H locs := hI
            refine lv_aload_n hx hb d_RS_findParagraphs_57 rfl (lv_at hl 0 rfl) ?_
            refine g_RS_15 M hI d_RS_findParagraphs_58 ?_
            refine lv_aload_n hx hb d_RS_findParagraphs_61 rfl (lv_at hl 0 rfl) ?_
            refine g_RS_24 M hI d_RS_findParagraphs_62 ?_
            refine q_as (y := nI ((pgL (ar 13) cn d).1.length)) rfl ?_
            refine lv_iload_n hx hb d_RS_findParagraphs_65 rfl (lv_at hl 2 rfl) ?_
            refine lv_iconst (v := 1) hx hb d_RS_findParagraphs_66 (by decide) ?_
            refine lv_iadd hx hb d_RS_findParagraphs_67 ?_
            refine q_as (y := nI (d + 1)) (nI_add d 1) ?_
            refine as_25 M hI ((pgL (ar 13) cn d).1.length) rfl (by omega) d_RS_findParagraphs_68 (fun H locs hI => ?_)
            have hI : CI g A s (cw g ad (va_up (va_up ar 24 (upd y1 ((pgL (ar 13) cn d).1.length) (nI ((pgL (ar 13) cn d).2)))) 25 (upd y2 ((pgL (ar 13) cn d).1.length) (nI (d + 1)))) (va_up fl 6 (nI ((pgL (ar 13) cn d).1.length)))) H locs := hI
            refine lv_aload_n hx hb d_RS_findParagraphs_69 rfl (lv_at hl 0 rfl) ?_
            refine lv_dup hx hb d_RS_findParagraphs_70 rfl ?_
            refine g_RS_24 M hI d_RS_findParagraphs_71 ?_
            refine q_as (y := nI ((pgL (ar 13) cn d).1.length)) rfl ?_
            refine lv_iconst (v := 1) hx hb d_RS_findParagraphs_74 (by decide) ?_
            refine lv_iadd hx hb d_RS_findParagraphs_75 ?_
            refine q_as (y := nI ((pgL (ar 13) cn d).1.length + 1)) (nI_add ((pgL (ar 13) cn d).1.length) 1) ?_
            refine p_RS_24 M hI d_RS_findParagraphs_76 (fun H locs hI => ?_)
            have hI : CI g A s (cw g ad (va_up (va_up ar 24 (upd y1 ((pgL (ar 13) cn d).1.length) (nI ((pgL (ar 13) cn d).2)))) 25 (upd y2 ((pgL (ar 13) cn d).1.length) (nI (d + 1)))) (va_up fl 6 (nI ((pgL (ar 13) cn d).1.length + 1)))) H locs := hI
            have hI := CI.to (w2 := cw g ad (va_up (va_up ar 24 (upd y1 ((pgL (ar 13) cn d).1.length) (nI ((pgL (ar 13) cn d).2)))) 25 (upd y2 ((pgL (ar 13) cn d).1.length) (nI (d + 1)))) (va_up fl 6 (nI ((pgL (ar 13) cn (d + 1)).1.length)))) hI (by rw [eV] <;> rfl)
            refine lv_iload_n hx hb d_RS_findParagraphs_79 rfl (lv_at hl 2 rfl) ?_
            refine lv_iconst (v := 1) hx hb d_RS_findParagraphs_80 (by decide) ?_
            refine lv_iadd hx hb d_RS_findParagraphs_81 ?_
            refine q_as (y := nI ((pgL (ar 13) cn (d + 1)).2)) (by rw [eV]; exact nI_add d 1) ?_
            refine lv_istore_n (lv' := [(1, .int (nI ((pgL (ar 13) cn (d + 1)).2))), (0, .ref (ad 4)), (2, .int (nI d))]) hx hb d_RS_findParagraphs_82 rfl hl (by decide) rfl (fun ls hl => ?_)
            refine lv_iinc (v := nI (d + 1)) (lv' := [(2, .int (nI (d + 1))), (1, .int (nI ((pgL (ar 13) cn (d + 1)).2))), (0, .ref (ad 4))]) hx hb d_RS_findParagraphs_83 hl (k := 2) rfl (nI_add _ 1) (by decide) rfl (fun ls hl => ?_)
            refine lv_goto (tgt := 9) hx hb d_RS_findParagraphs_86 (by decide) ?_
            exact ih9 (d + 1) (upd y1 ((pgL (ar 13) cn d).1.length) (nI ((pgL (ar 13) cn d).2))) (upd y2 ((pgL (ar 13) cn d).1.length) (nI (d + 1))) (by omega) (by first | assumption | omega) (hr2) _ _ _ hI (lv_sub hl [2, 1, 0] rfl)
  have hI := CI.to (w2 := cw g ad (va_up (va_up ar 24 (ar 24)) 25 (ar 25)) (va_up fl 6 (nI ((pgL (ar 13) cn 0).1.length)))) hI (by rfl)
  exact L9 _ 0 (ar 24) (ar 25) (Nat.lt_succ_self _) (by first | assumption | omega) (trivial) _ _ _ hI (lv_sub hl [2, 1, 0] rfl)
abbrev rm_RS_paragraphWith : Room := { frames := 0, cells := 0, slots := 0, locals := 0 }
set_option maxHeartbeats 4000000 in
set_option maxRecDepth 100000 in
theorem c_RS_paragraphWith (l : Launch) (g : Geo) (ad : Nat → Nat) (ar : Nat → Nat → Int32) (fl : Nat → Int32) (q : Nat) (np : Nat) (E : Nat → Nat) (hnp : fl 6 = nI np) (hnN : np ≤ 2000) (hE : ∀ k, k < np → ar 25 k = nI (E k) ∧ E k ≤ 2000) (hq : q < 2 ^ 31) : cMi l y_RS_paragraphWith (.code y_RS_paragraphWith b_RS_paragraphWith 3 (some .int) :: gw) rm_RS_paragraphWith g [.ref (ad 4), .int (nI q)] (cw g ad ar fl) (fun (r : Int32) (_ : Unit) => r = pwF E q np 0) (fun (_ : Unit) => cw g ad ar fl) 0 0 := by
  refine cMi_of (by decide) (Nat.le_of_ble_eq_true rfl) ?_
  intro p e s m below meth c A Q ls M hret hl hI
  have M : MC p s m ([.ref (ad 4), .int (nI q)] : List Value).toArray meth c R_RS b_RS_paragraphWith 3 := M
  have hl : lv_has ls 3 [(0, .ref (ad 4)), (1, .int (nI q))] := hl
  generalize ([.ref (ad 4), .int (nI q)] : List Value).toArray = args at M hret ⊢
  have hx := M.1
  have hb := M.2.1
  refine lv_iconst (v := 0) hx hb d_RS_paragraphWith_0 (by decide) ?_
  refine lv_istore_n (lv' := [(2, .int 0), (0, .ref (ad 4)), (1, .int (nI q))]) hx hb d_RS_paragraphWith_1 rfl hl (by decide) rfl (fun ls hl => ?_)
  have L2 : ∀ (fu : Nat) (i : Nat), (np - i) < fu → (i ≤ np) → (pwF E q np 0 = pwF E q (np - i) i) → ∀ (H : Heap) (locs : List Loc) (ls : Array Slot), CI g A s (cw g ad ar fl) H locs → lv_has ls 3 [(0, .ref (ad 4)), (1, .int (nI q)), (2, .int (nI i))] → W p l e rm_RS_paragraphWith s m args below meth c H locs 0 0 Q (F0 m 2 ls []) := by
    intro fu
    induction fu with
    | zero => intro i hm; exact absurd hm (Nat.not_lt_zero _)
    | succ fu ih2 =>
      intro i hm hi he H locs ls hI hl
      refine lv_iload_n hx hb d_RS_paragraphWith_2 rfl (lv_at hl 2 rfl) ?_
      refine lv_aload_n hx hb d_RS_paragraphWith_3 rfl (lv_at hl 0 rfl) ?_
      refine g_RS_24 M hI d_RS_paragraphWith_4 ?_
      refine q_as (y := nI np) hnp ?_
      refine lv_icmp_ge (tgt := 28) hx hb d_RS_paragraphWith_7 (by decide) (fun c7 => ?_) (fun c7 => ?_)
      · have c7 : np ≤ i := (nI_leI (a := np) (b := i) (by omega) (by omega)).mp c7
        refine lv_iconst (v := (-1)) hx hb d_RS_paragraphWith_28 (by decide) ?_
        exact hret (-1) () _ _ _ _ _ _ d_RS_paragraphWith_29 hI (by rw [he, show np - i = 0 by omega]; rfl) (Nat.le_refl 0) (Nat.le_refl 0)
      · have c7 : ¬ np ≤ i := fun h => c7 ((nI_leI (a := np) (b := i) (by omega) (by omega)).mpr h)
        have hEi := (hE i (by omega)).2
        refine lv_iload_n hx hb d_RS_paragraphWith_10 rfl (lv_at hl 1 rfl) ?_
        refine lv_aload_n hx hb d_RS_paragraphWith_11 rfl (lv_at hl 0 rfl) ?_
        refine g_RS_15 M hI d_RS_paragraphWith_12 ?_
        refine lv_iload_n hx hb d_RS_paragraphWith_15 rfl (lv_at hl 2 rfl) ?_
        refine al_25 M hI i rfl (by omega) d_RS_paragraphWith_16 ?_
        refine q_as (y := nI (E i)) ((hE i (by omega)).1) ?_
        refine lv_icmp_ge (tgt := 22) hx hb d_RS_paragraphWith_17 (by decide) (fun c17 => ?_) (fun c17 => ?_)
        · have c17 : E i ≤ q := (nI_leI (a := E i) (b := q) (by omega) (by omega)).mp c17
          refine lv_iinc (v := nI (i + 1)) (lv' := [(2, .int (nI (i + 1))), (0, .ref (ad 4)), (1, .int (nI q))]) hx hb d_RS_paragraphWith_22 hl (k := 2) rfl (nI_add _ 1) (by decide) rfl (fun ls hl => ?_)
          refine lv_goto (tgt := 2) hx hb d_RS_paragraphWith_25 (by decide) ?_
          exact ih2 (i + 1) (by omega) (by first | assumption | omega) (by rw [he, show np - i = (np - (i + 1)) + 1 by omega]; simp only [pwF]; rw [if_neg (by omega)]) _ _ _ hI (lv_sub hl [1, 2, 0] rfl)
        · have c17 : ¬ E i ≤ q := fun h => c17 ((nI_leI (a := E i) (b := q) (by omega) (by omega)).mpr h)
          refine lv_iload_n hx hb d_RS_paragraphWith_20 rfl (lv_at hl 2 rfl) ?_
          exact hret (nI i) () _ _ _ _ _ _ d_RS_paragraphWith_21 hI (by rw [he, show np - i = (np - (i + 1)) + 1 by omega]; simp only [pwF]; rw [if_pos (by omega)]) (Nat.le_refl 0) (Nat.le_refl 0)
  exact L2 _ 0 (Nat.lt_succ_self _) (by first | assumption | omega) (rfl) _ _ _ hI (lv_sub hl [1, 2, 0] rfl)
