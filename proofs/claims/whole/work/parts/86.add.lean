/-! 86: add -/
theorem fif_5 {xa xb xc xd xe : Int32} : upd (upd (upd (upd (upd (fun _ => 0) 0 xa) 1 xb) 2 xc) 3 xd) 4 xe = fun j => if j < 5 then fif j xa xb xc xd xe else 0 := by
  funext j
  simp only [upd, fif]
  rcases (show j = 0 ∨ j = 1 ∨ j = 2 ∨ j = 3 ∨ j = 4 ∨ 5 ≤ j by omega) with h | h | h | h | h | h
  · subst h; rfl
  · subst h; rfl
  · subst h; rfl
  · subst h; rfl
  · subst h; rfl
  · simp [show ¬ j = 0 by omega, show ¬ j = 1 by omega, show ¬ j = 2 by omega, show ¬ j = 3 by omega, show ¬ j = 4 by omega, show ¬ j < 5 by omega]
abbrev rm_BL_add_c_BL_add_1 : Room := { frames := 6, cells := 2, slots := 11, locals := 90 }
set_option maxHeartbeats 4000000 in
set_option maxRecDepth 100000 in
theorem c_BL_add_1 (l : Launch) (g : Geo) (ad : Nat → Nat) (ar : Nat → Nat → Int32) (fl : Nat → Int32) (xa : Int32) (xb : Int32) (xc : Int32) (xd : Int32) (xe : Int32) (hfl : l.flags = flags0) (m5 cn : Nat) (hm5 : m5 ≤ 5) (hm1 : ∀ j, j < m5 → ¬ fif j xa xb xc xd xe = -1) (hm2 : m5 = 5 ∨ fif m5 xa xb xc xd xe = -1) (h2 : fl 2 = nI cn) (hcN : cn ≤ 2000) (hS : ¬ (∀ j, j < m5 → isch (fif j xa xb xc xd xe))) : cMx l y_BL_add (.code y_BL_add b_BL_add 9 (some .int) :: gw) rm_BL_add_c_BL_add_1 g [.ref (ad 0), .int xa, .int xb, .int xc, .int xd, .int xe] (cw g ad ar fl) IAE 2 11 := by
  refine cMx_of (by decide) (Nat.le_of_ble_eq_true rfl) ?_
  intro p e s m below meth c A ls M hX hnh hl hI
  have M : MC p s m ([.ref (ad 0), .int xa, .int xb, .int xc, .int xd, .int xe] : List Value).toArray meth c R_BL b_BL_add 9 := M
  have hl : lv_has ls 9 [(0, .ref (ad 0)), (1, .int xa), (2, .int xb), (3, .int xc), (4, .int xd), (5, .int xe)] := hl
  generalize ([.ref (ad 0), .int xa, .int xb, .int xc, .int xd, .int xe] : List Value).toArray = args at M ⊢
  have hx := M.1
  have hb := M.2.1
  refine lv_iconst (v := 5) hx hb d_BL_add_0 (by decide) ?_
  refine q_new5 M hI ⟨Nat.le_of_ble_eq_true rfl, Nat.le_of_ble_eq_true rfl⟩ d_BL_add_1 (fun a5 H ha5 hB => ?_)
  have hlo : ∀ z ∈ ([] : List Loc), s.heap.size ≤ z.base := fun _ h => absurd h List.not_mem_nil
  have hI := hB.left
  refine lv_dup hx hb d_BL_add_3 rfl ?_
  refine lv_iconst (v := 0) hx hb d_BL_add_4 (by decide) ?_
  refine lv_iload_n hx hb d_BL_add_5 rfl (lv_at hl 1 rfl) ?_
  refine q_st5 M hB hlo ha5 0 rfl (by omega) d_BL_add_6 (fun H locs hlo hB => ?_)
  have hI := hB.left
  refine lv_dup hx hb d_BL_add_7 rfl ?_
  refine lv_iconst (v := 1) hx hb d_BL_add_8 (by decide) ?_
  refine lv_iload_n hx hb d_BL_add_9 rfl (lv_at hl 2 rfl) ?_
  refine q_st5 M hB hlo ha5 1 rfl (by omega) d_BL_add_10 (fun H locs hlo hB => ?_)
  have hI := hB.left
  refine lv_dup hx hb d_BL_add_11 rfl ?_
  refine lv_iconst (v := 2) hx hb d_BL_add_12 (by decide) ?_
  refine lv_iload_n hx hb d_BL_add_13 rfl (lv_at hl 3 rfl) ?_
  refine q_st5 M hB hlo ha5 2 rfl (by omega) d_BL_add_14 (fun H locs hlo hB => ?_)
  have hI := hB.left
  refine lv_dup hx hb d_BL_add_15 rfl ?_
  refine lv_iconst (v := 3) hx hb d_BL_add_16 (by decide) ?_
  refine lv_iload hx hb d_BL_add_17 (lv_at hl 4 rfl) ?_
  refine q_st5 M hB hlo ha5 3 rfl (by omega) d_BL_add_19 (fun H locs hlo hB => ?_)
  have hI := hB.left
  refine lv_dup hx hb d_BL_add_20 rfl ?_
  refine lv_iconst (v := 4) hx hb d_BL_add_21 (by decide) ?_
  refine lv_iload hx hb d_BL_add_22 (lv_at hl 5 rfl) ?_
  refine q_st5 M hB hlo ha5 4 rfl (by omega) d_BL_add_24 (fun H locs hlo hB => ?_)
  have hI := hB.left
  have hB := CI.to hB (show _ = cw g ad ar fl ++ x5 g a5 (fun j => if j < 5 then fif j xa xb xc xd xe else 0) by rw [show (upd (upd (upd (upd (upd (fun _ => 0) 0 xa) 1 xb) 2 xc) 3 xd) 4 xe) = fun j => if j < 5 then fif j xa xb xc xd xe else 0 from fif_5])
  refine lv_astore (lv' := [(6, .ref a5), (0, .ref (ad 0)), (1, .int xa), (2, .int xb), (3, .int xc), (4, .int xd), (5, .int xe)]) hx hb d_BL_add_25 hl (by decide) rfl (fun ls hl => ?_)
  refine lv_iconst (v := 0) hx hb d_BL_add_27 (by decide) ?_
  refine lv_istore (lv' := [(7, .int 0), (6, .ref a5), (0, .ref (ad 0)), (1, .int xa), (2, .int xb), (3, .int xc), (4, .int xd), (5, .int xe)]) hx hb d_BL_add_28 hl (by decide) rfl (fun ls hl => ?_)
  have L30 : ∀ (fu : Nat) (i : Nat), (5 - i) < fu → (i ≤ m5) → (∀ j, j < i → isch (fif j xa xb xc xd xe)) → ∀ (H : Heap) (locs : List Loc) (ls : Array Slot), (∀ z ∈ locs, s.heap.size ≤ z.base) → CI g A s (cw g ad ar fl ++ x5 g a5 (fun j => if j < 5 then fif j xa xb xc xd xe else 0)) H locs → lv_has ls 9 [(0, .ref (ad 0)), (1, .int xa), (2, .int xb), (3, .int xc), (4, .int xd), (5, .int xe), (6, .ref a5), (7, .int (nI i))] → W p l e rm_BL_add_c_BL_add_1 s m args below meth c H locs 1 5 (XQ below IAE s 2 11) (F0 m 30 ls []) := by
    intro fu
    induction fu with
    | zero => intro i hm; exact absurd hm (Nat.not_lt_zero _)
    | succ fu ih30 =>
      intro i hm hi hal H locs ls hlo hB hl
      have hI := hB.left
      refine lv_iload hx hb d_BL_add_30 (lv_at hl 7 rfl) ?_
      refine lv_aload hx hb d_BL_add_32 (lv_at hl 6 rfl) ?_
      refine q_len5 M hB d_BL_add_34 ?_
      refine lv_icmp_ge (tgt := 74) hx hb d_BL_add_35 (by decide) (fun c35 => ?_) (fun c35 => ?_)
      · have c35 : 5 ≤ i := (nI_leI (a := 5) (b := i) (by omega) (by omega)).mp c35
        exact absurd (show (∀ j, j < m5 → isch (fif j xa xb xc xd xe)) by rw [show m5 = i by omega]; exact hal) hS
      · have c35 : ¬ 5 ≤ i := fun h => c35 ((nI_leI (a := 5) (b := i) (by omega) (by omega)).mpr h)
        have h31 : i < 5 := by omega
        refine lv_aload hx hb d_BL_add_38 (lv_at hl 6 rfl) ?_
        refine lv_iload hx hb d_BL_add_40 (lv_at hl 7 rfl) ?_
        refine q_ld5 M hB i rfl (by omega) d_BL_add_42 ?_
        refine q_as (y := fif i xa xb xc xd xe) (if_pos (by omega)) ?_
        refine lv_iconst (v := (-1)) hx hb d_BL_add_43 (by decide) ?_
        refine lv_icmp_eq (tgt := 74) hx hb d_BL_add_44 (by decide) (fun c44 => ?_) (fun c44 => ?_)
        · exact absurd (show (∀ j, j < m5 → isch (fif j xa xb xc xd xe)) by rw [show m5 = i by rcases Nat.lt_or_ge i m5 with z | z; exact absurd c44 (hm1 i z); omega]; exact hal) hS
        · have hi2 : i + 1 ≤ m5 := by rcases Nat.lt_or_ge i m5 with z | z; exact z; exact absurd (hm2.resolve_left (by omega)) (by rw [show m5 = i by omega]; exact c44)
          refine lv_aload hx hb d_BL_add_47 (lv_at hl 6 rfl) ?_
          refine lv_iload hx hb d_BL_add_49 (lv_at hl 7 rfl) ?_
          refine q_ld5 M hB i rfl (by omega) d_BL_add_51 ?_
          refine q_as (y := fif i xa xb xc xd xe) (if_pos (by omega)) ?_
          refine q_callpiS [.int (fif i xa xb xc xd xe)] M hI (c_BL_isCharacter_p l g (cw g ad ar fl) (fif i xa xb xc xd xe)) ok_BL_isCharacter m2_137 m2_138 rfl rfl hl.1 ⟨rfl, rfl⟩ ⟨Nat.le_of_ble_eq_true rfl, Nat.le_of_ble_eq_true rfl⟩ (Nat.le_of_ble_eq_true rfl) ⟨Nat.le_of_ble_eq_true rfl, Nat.le_of_ble_eq_true rfl⟩ d_BL_add_52 (fun r52 hp52 => ?_)
          refine q_as (y := bI (isch (fif i xa xb xc xd xe))) hp52 ?_
          refine lv_if_ne (tgt := 68) hx hb d_BL_add_55 (by decide) (fun c55 => ?_) (fun c55 => ?_)
          · have c55 := bI_ne0.mp c55
            have hal2 : (∀ j, j < i + 1 → isch (fif j xa xb xc xd xe)) := fun j h => by rcases Nat.lt_or_ge j i with z | z; exact hal j z; rw [show j = i by omega]; exact c55
            refine lv_iinc (v := nI (i + 1)) (lv' := [(7, .int (nI (i + 1))), (0, .ref (ad 0)), (1, .int xa), (2, .int xb), (3, .int xc), (4, .int xd), (5, .int xe), (6, .ref a5)]) hx hb d_BL_add_68 hl (k := 7) rfl (nI_add _ 1) (by decide) rfl (fun ls hl => ?_)
            refine lv_goto (tgt := 30) hx hb d_BL_add_71 (by decide) ?_
            exact ih30 (i + 1) (by omega) (hi2) (hal2) _ _ _ hlo hB (lv_sub hl [1, 2, 3, 4, 5, 6, 7, 0] rfl)
          · have c55 := bI_eq0.mp c55
            exact q_thA M hX hnh hfl (List.mem_of_getElem? (i := 6) rfl) hl.1 hI.2.2.2.2.1.1 hlo ⟨Nat.le_of_ble_eq_true rfl, Nat.le_of_ble_eq_true rfl, Nat.le_of_ble_eq_true rfl, Nat.le_of_ble_eq_true rfl⟩ (Nat.le_of_ble_eq_true rfl) (Nat.le_of_ble_eq_true rfl) d_BL_add_58 d_BL_add_61 d_BL_add_62 d_BL_add_64 d_BL_add_67
  exact L30 _ 0 (Nat.lt_succ_self _) (Nat.zero_le _) (fun j h => absurd h (Nat.not_lt_zero j)) _ _ _ hlo hB (lv_sub hl [2, 3, 4, 5, 6, 7, 1, 0] rfl)
abbrev rm_BL_add_c_BL_add_2 : Room := { frames := 6, cells := 2, slots := 11, locals := 90 }
set_option maxHeartbeats 4000000 in
set_option maxRecDepth 100000 in
theorem c_BL_add_2 (l : Launch) (g : Geo) (ad : Nat → Nat) (ar : Nat → Nat → Int32) (fl : Nat → Int32) (xa : Int32) (xb : Int32) (xc : Int32) (xd : Int32) (xe : Int32) (hfl : l.flags = flags0) (m5 cn : Nat) (hm5 : m5 ≤ 5) (hm1 : ∀ j, j < m5 → ¬ fif j xa xb xc xd xe = -1) (hm2 : m5 = 5 ∨ fif m5 xa xb xc xd xe = -1) (h2 : fl 2 = nI cn) (hcN : cn ≤ 2000) (hS : (∀ j, j < m5 → isch (fif j xa xb xc xd xe))) (hf : 2000 < cn + m5) : cMx l y_BL_add (.code y_BL_add b_BL_add 9 (some .int) :: gw) rm_BL_add_c_BL_add_2 g [.ref (ad 0), .int xa, .int xb, .int xc, .int xd, .int xe] (cw g ad ar fl) ISE 2 11 := by
  refine cMx_of (by decide) (Nat.le_of_ble_eq_true rfl) ?_
  intro p e s m below meth c A ls M hX hnh hl hI
  have M : MC p s m ([.ref (ad 0), .int xa, .int xb, .int xc, .int xd, .int xe] : List Value).toArray meth c R_BL b_BL_add 9 := M
  have hl : lv_has ls 9 [(0, .ref (ad 0)), (1, .int xa), (2, .int xb), (3, .int xc), (4, .int xd), (5, .int xe)] := hl
  generalize ([.ref (ad 0), .int xa, .int xb, .int xc, .int xd, .int xe] : List Value).toArray = args at M ⊢
  have hx := M.1
  have hb := M.2.1
  refine lv_iconst (v := 5) hx hb d_BL_add_0 (by decide) ?_
  refine q_new5 M hI ⟨Nat.le_of_ble_eq_true rfl, Nat.le_of_ble_eq_true rfl⟩ d_BL_add_1 (fun a5 H ha5 hB => ?_)
  have hlo : ∀ z ∈ ([] : List Loc), s.heap.size ≤ z.base := fun _ h => absurd h List.not_mem_nil
  have hI := hB.left
  refine lv_dup hx hb d_BL_add_3 rfl ?_
  refine lv_iconst (v := 0) hx hb d_BL_add_4 (by decide) ?_
  refine lv_iload_n hx hb d_BL_add_5 rfl (lv_at hl 1 rfl) ?_
  refine q_st5 M hB hlo ha5 0 rfl (by omega) d_BL_add_6 (fun H locs hlo hB => ?_)
  have hI := hB.left
  refine lv_dup hx hb d_BL_add_7 rfl ?_
  refine lv_iconst (v := 1) hx hb d_BL_add_8 (by decide) ?_
  refine lv_iload_n hx hb d_BL_add_9 rfl (lv_at hl 2 rfl) ?_
  refine q_st5 M hB hlo ha5 1 rfl (by omega) d_BL_add_10 (fun H locs hlo hB => ?_)
  have hI := hB.left
  refine lv_dup hx hb d_BL_add_11 rfl ?_
  refine lv_iconst (v := 2) hx hb d_BL_add_12 (by decide) ?_
  refine lv_iload_n hx hb d_BL_add_13 rfl (lv_at hl 3 rfl) ?_
  refine q_st5 M hB hlo ha5 2 rfl (by omega) d_BL_add_14 (fun H locs hlo hB => ?_)
  have hI := hB.left
  refine lv_dup hx hb d_BL_add_15 rfl ?_
  refine lv_iconst (v := 3) hx hb d_BL_add_16 (by decide) ?_
  refine lv_iload hx hb d_BL_add_17 (lv_at hl 4 rfl) ?_
  refine q_st5 M hB hlo ha5 3 rfl (by omega) d_BL_add_19 (fun H locs hlo hB => ?_)
  have hI := hB.left
  refine lv_dup hx hb d_BL_add_20 rfl ?_
  refine lv_iconst (v := 4) hx hb d_BL_add_21 (by decide) ?_
  refine lv_iload hx hb d_BL_add_22 (lv_at hl 5 rfl) ?_
  refine q_st5 M hB hlo ha5 4 rfl (by omega) d_BL_add_24 (fun H locs hlo hB => ?_)
  have hI := hB.left
  have hB := CI.to hB (show _ = cw g ad ar fl ++ x5 g a5 (fun j => if j < 5 then fif j xa xb xc xd xe else 0) by rw [show (upd (upd (upd (upd (upd (fun _ => 0) 0 xa) 1 xb) 2 xc) 3 xd) 4 xe) = fun j => if j < 5 then fif j xa xb xc xd xe else 0 from fif_5])
  refine lv_astore (lv' := [(6, .ref a5), (0, .ref (ad 0)), (1, .int xa), (2, .int xb), (3, .int xc), (4, .int xd), (5, .int xe)]) hx hb d_BL_add_25 hl (by decide) rfl (fun ls hl => ?_)
  refine lv_iconst (v := 0) hx hb d_BL_add_27 (by decide) ?_
  refine lv_istore (lv' := [(7, .int 0), (6, .ref a5), (0, .ref (ad 0)), (1, .int xa), (2, .int xb), (3, .int xc), (4, .int xd), (5, .int xe)]) hx hb d_BL_add_28 hl (by decide) rfl (fun ls hl => ?_)
  have L30 : ∀ (fu : Nat) (i : Nat), (5 - i) < fu → (i ≤ m5) → (∀ j, j < i → isch (fif j xa xb xc xd xe)) → ∀ (H : Heap) (locs : List Loc) (ls : Array Slot), (∀ z ∈ locs, s.heap.size ≤ z.base) → CI g A s (cw g ad ar fl ++ x5 g a5 (fun j => if j < 5 then fif j xa xb xc xd xe else 0)) H locs → lv_has ls 9 [(0, .ref (ad 0)), (1, .int xa), (2, .int xb), (3, .int xc), (4, .int xd), (5, .int xe), (6, .ref a5), (7, .int (nI i))] → W p l e rm_BL_add_c_BL_add_2 s m args below meth c H locs 1 5 (XQ below ISE s 2 11) (F0 m 30 ls []) := by
    intro fu
    induction fu with
    | zero => intro i hm; exact absurd hm (Nat.not_lt_zero _)
    | succ fu ih30 =>
      intro i hm hi hal H locs ls hlo hB hl
      have hI := hB.left
      have L74 : (∀ j, j < m5 → isch (fif j xa xb xc xd xe)) → ∀ (H : Heap) (locs : List Loc) (ls : Array Slot), (∀ z ∈ locs, s.heap.size ≤ z.base) → CI g A s (cw g ad ar fl ++ x5 g a5 (fun j => if j < 5 then fif j xa xb xc xd xe else 0)) H locs → lv_has ls 9 [(0, .ref (ad 0)), (1, .int xa), (2, .int xb), (3, .int xc), (4, .int xd), (5, .int xe), (6, .ref a5), (7, .int (nI m5))] → W p l e rm_BL_add_c_BL_add_2 s m args below meth c H locs 1 5 (XQ below ISE s 2 11) (F0 m 74 ls []) := by
        intro  hal H locs ls hlo hB hl
        have hI := hB.left
        refine lv_aload_n hx hb d_BL_add_74 rfl (lv_at hl 0 rfl) ?_
        refine g_BL_12 M hI d_BL_add_75 ?_
        refine g_BL_86 M hI d_BL_add_78 ?_
        refine q_as (y := nI cn) h2 ?_
        refine lv_iload hx hb d_BL_add_81 (lv_at hl 7 rfl) ?_
        refine lv_iadd hx hb d_BL_add_83 ?_
        refine q_as (y := nI (cn + m5)) (nI_add cn m5) ?_
        refine lv_sipush (v := 2000) hx hb d_BL_add_84 (by decide) ?_
        refine lv_icmp_le (tgt := 100) hx hb d_BL_add_87 (by decide) (fun c87 => ?_) (fun c87 => ?_)
        · have c87 : cn + m5 ≤ 2000 := (nI_leI (a := cn + m5) (b := 2000) (by omega) (by omega)).mp c87
          exfalso; omega
        · have c87 : ¬ cn + m5 ≤ 2000 := fun h => c87 ((nI_leI (a := cn + m5) (b := 2000) (by omega) (by omega)).mpr h)
          exact q_thS M hX hnh hfl (List.mem_of_getElem? (i := 7) rfl) hl.1 hI.2.2.2.2.1.1 hlo ⟨Nat.le_of_ble_eq_true rfl, Nat.le_of_ble_eq_true rfl, Nat.le_of_ble_eq_true rfl, Nat.le_of_ble_eq_true rfl⟩ (Nat.le_of_ble_eq_true rfl) (Nat.le_of_ble_eq_true rfl) d_BL_add_90 d_BL_add_93 d_BL_add_94 d_BL_add_96 d_BL_add_99
      refine lv_iload hx hb d_BL_add_30 (lv_at hl 7 rfl) ?_
      refine lv_aload hx hb d_BL_add_32 (lv_at hl 6 rfl) ?_
      refine q_len5 M hB d_BL_add_34 ?_
      refine lv_icmp_ge (tgt := 74) hx hb d_BL_add_35 (by decide) (fun c35 => ?_) (fun c35 => ?_)
      · have c35 : 5 ≤ i := (nI_leI (a := 5) (b := i) (by omega) (by omega)).mp c35
        have e5 : i = m5 := by omega
        rw [e5] at hl hal
        exact L74   (by first | assumption | omega) _ _ _ hlo hB (lv_sub hl [0, 1, 2, 3, 4, 5, 6, 7] rfl)
      · have c35 : ¬ 5 ≤ i := fun h => c35 ((nI_leI (a := 5) (b := i) (by omega) (by omega)).mpr h)
        have h31 : i < 5 := by omega
        refine lv_aload hx hb d_BL_add_38 (lv_at hl 6 rfl) ?_
        refine lv_iload hx hb d_BL_add_40 (lv_at hl 7 rfl) ?_
        refine q_ld5 M hB i rfl (by omega) d_BL_add_42 ?_
        refine q_as (y := fif i xa xb xc xd xe) (if_pos (by omega)) ?_
        refine lv_iconst (v := (-1)) hx hb d_BL_add_43 (by decide) ?_
        refine lv_icmp_eq (tgt := 74) hx hb d_BL_add_44 (by decide) (fun c44 => ?_) (fun c44 => ?_)
        · have e5 : i = m5 := by rcases Nat.lt_or_ge i m5 with z | z; exact absurd c44 (hm1 i z); omega
          rw [e5] at hl hal
          exact L74   (by first | assumption | omega) _ _ _ hlo hB (lv_sub hl [0, 1, 2, 3, 4, 5, 6, 7] rfl)
        · have hi2 : i + 1 ≤ m5 := by rcases Nat.lt_or_ge i m5 with z | z; exact z; exact absurd (hm2.resolve_left (by omega)) (by rw [show m5 = i by omega]; exact c44)
          refine lv_aload hx hb d_BL_add_47 (lv_at hl 6 rfl) ?_
          refine lv_iload hx hb d_BL_add_49 (lv_at hl 7 rfl) ?_
          refine q_ld5 M hB i rfl (by omega) d_BL_add_51 ?_
          refine q_as (y := fif i xa xb xc xd xe) (if_pos (by omega)) ?_
          refine q_callpiS [.int (fif i xa xb xc xd xe)] M hI (c_BL_isCharacter_p l g (cw g ad ar fl) (fif i xa xb xc xd xe)) ok_BL_isCharacter m2_137 m2_138 rfl rfl hl.1 ⟨rfl, rfl⟩ ⟨Nat.le_of_ble_eq_true rfl, Nat.le_of_ble_eq_true rfl⟩ (Nat.le_of_ble_eq_true rfl) ⟨Nat.le_of_ble_eq_true rfl, Nat.le_of_ble_eq_true rfl⟩ d_BL_add_52 (fun r52 hp52 => ?_)
          refine q_as (y := bI (isch (fif i xa xb xc xd xe))) hp52 ?_
          refine lv_if_ne (tgt := 68) hx hb d_BL_add_55 (by decide) (fun c55 => ?_) (fun c55 => ?_)
          · have c55 := bI_ne0.mp c55
            have hal2 : (∀ j, j < i + 1 → isch (fif j xa xb xc xd xe)) := fun j h => by rcases Nat.lt_or_ge j i with z | z; exact hal j z; rw [show j = i by omega]; exact c55
            refine lv_iinc (v := nI (i + 1)) (lv' := [(7, .int (nI (i + 1))), (0, .ref (ad 0)), (1, .int xa), (2, .int xb), (3, .int xc), (4, .int xd), (5, .int xe), (6, .ref a5)]) hx hb d_BL_add_68 hl (k := 7) rfl (nI_add _ 1) (by decide) rfl (fun ls hl => ?_)
            refine lv_goto (tgt := 30) hx hb d_BL_add_71 (by decide) ?_
            exact ih30 (i + 1) (by omega) (hi2) (hal2) _ _ _ hlo hB (lv_sub hl [1, 2, 3, 4, 5, 6, 7, 0] rfl)
          · have c55 := bI_eq0.mp c55
            exact absurd (hS i (by omega)) c55
  exact L30 _ 0 (Nat.lt_succ_self _) (Nat.zero_le _) (fun j h => absurd h (Nat.not_lt_zero j)) _ _ _ hlo hB (lv_sub hl [2, 3, 4, 5, 6, 7, 1, 0] rfl)
abbrev rm_BL_add_c_BL_add_0 : Room := { frames := 2, cells := 1, slots := 5, locals := 43 }
set_option maxHeartbeats 4000000 in
set_option maxRecDepth 100000 in
theorem c_BL_add_0 (l : Launch) (g : Geo) (ad : Nat → Nat) (ar : Nat → Nat → Int32) (fl : Nat → Int32) (xa : Int32) (xb : Int32) (xc : Int32) (xd : Int32) (xe : Int32) (m5 cn rn : Nat) (hm5 : m5 ≤ 5) (hm1 : ∀ j, j < m5 → ¬ fif j xa xb xc xd xe = -1) (hm2 : m5 = 5 ∨ fif m5 xa xb xc xd xe = -1) (h2 : fl 2 = nI cn) (hcN : cn ≤ 2000) (h3 : fl 3 = nI rn) (hrN : rn ≤ 100) (hS : (∀ j, j < m5 → isch (fif j xa xb xc xd xe))) (hf : cn + m5 ≤ 2000) : cMi l y_BL_add (.code y_BL_add b_BL_add 9 (some .int) :: gw) rm_BL_add_c_BL_add_0 g [.ref (ad 0), .int xa, .int xb, .int xc, .int xd, .int xe] (cw g ad ar fl) (fun (r : Int32) (_ : Unit) => r = nI (cn + m5)) (fun (_ : Unit) => cw g ad (va_up (va_up ar 12 (apF (ar 12) cn (fun j => fif j xa xb xc xd xe) m5)) 13 (apF (ar 13) cn (fun j => clsOf (ar 17) (ar 18) (ar 19) (fif j xa xb xc xd xe) rn) m5)) (va_up (va_up (va_up fl 2 (nI (cn + m5))) 0 0) 1 0)) 1 5 := by
  refine cMi_of (by decide) (Nat.le_of_ble_eq_true rfl) ?_
  intro p e s m below meth c A Q ls M hret hl hI
  have M : MC p s m ([.ref (ad 0), .int xa, .int xb, .int xc, .int xd, .int xe] : List Value).toArray meth c R_BL b_BL_add 9 := M
  have hl : lv_has ls 9 [(0, .ref (ad 0)), (1, .int xa), (2, .int xb), (3, .int xc), (4, .int xd), (5, .int xe)] := hl
  generalize ([.ref (ad 0), .int xa, .int xb, .int xc, .int xd, .int xe] : List Value).toArray = args at M hret ⊢
  have hx := M.1
  have hb := M.2.1
  refine lv_iconst (v := 5) hx hb d_BL_add_0 (by decide) ?_
  refine q_new5 M hI ⟨Nat.le_of_ble_eq_true rfl, Nat.le_of_ble_eq_true rfl⟩ d_BL_add_1 (fun a5 H ha5 hB => ?_)
  have hlo : ∀ z ∈ ([] : List Loc), s.heap.size ≤ z.base := fun _ h => absurd h List.not_mem_nil
  have hI := hB.left
  refine lv_dup hx hb d_BL_add_3 rfl ?_
  refine lv_iconst (v := 0) hx hb d_BL_add_4 (by decide) ?_
  refine lv_iload_n hx hb d_BL_add_5 rfl (lv_at hl 1 rfl) ?_
  refine q_st5 M hB hlo ha5 0 rfl (by omega) d_BL_add_6 (fun H locs hlo hB => ?_)
  have hI := hB.left
  refine lv_dup hx hb d_BL_add_7 rfl ?_
  refine lv_iconst (v := 1) hx hb d_BL_add_8 (by decide) ?_
  refine lv_iload_n hx hb d_BL_add_9 rfl (lv_at hl 2 rfl) ?_
  refine q_st5 M hB hlo ha5 1 rfl (by omega) d_BL_add_10 (fun H locs hlo hB => ?_)
  have hI := hB.left
  refine lv_dup hx hb d_BL_add_11 rfl ?_
  refine lv_iconst (v := 2) hx hb d_BL_add_12 (by decide) ?_
  refine lv_iload_n hx hb d_BL_add_13 rfl (lv_at hl 3 rfl) ?_
  refine q_st5 M hB hlo ha5 2 rfl (by omega) d_BL_add_14 (fun H locs hlo hB => ?_)
  have hI := hB.left
  refine lv_dup hx hb d_BL_add_15 rfl ?_
  refine lv_iconst (v := 3) hx hb d_BL_add_16 (by decide) ?_
  refine lv_iload hx hb d_BL_add_17 (lv_at hl 4 rfl) ?_
  refine q_st5 M hB hlo ha5 3 rfl (by omega) d_BL_add_19 (fun H locs hlo hB => ?_)
  have hI := hB.left
  refine lv_dup hx hb d_BL_add_20 rfl ?_
  refine lv_iconst (v := 4) hx hb d_BL_add_21 (by decide) ?_
  refine lv_iload hx hb d_BL_add_22 (lv_at hl 5 rfl) ?_
  refine q_st5 M hB hlo ha5 4 rfl (by omega) d_BL_add_24 (fun H locs hlo hB => ?_)
  have hI := hB.left
  have hB := CI.to hB (show _ = cw g ad ar fl ++ x5 g a5 (fun j => if j < 5 then fif j xa xb xc xd xe else 0) by rw [show (upd (upd (upd (upd (upd (fun _ => 0) 0 xa) 1 xb) 2 xc) 3 xd) 4 xe) = fun j => if j < 5 then fif j xa xb xc xd xe else 0 from fif_5])
  refine lv_astore (lv' := [(6, .ref a5), (0, .ref (ad 0)), (1, .int xa), (2, .int xb), (3, .int xc), (4, .int xd), (5, .int xe)]) hx hb d_BL_add_25 hl (by decide) rfl (fun ls hl => ?_)
  refine lv_iconst (v := 0) hx hb d_BL_add_27 (by decide) ?_
  refine lv_istore (lv' := [(7, .int 0), (6, .ref a5), (0, .ref (ad 0)), (1, .int xa), (2, .int xb), (3, .int xc), (4, .int xd), (5, .int xe)]) hx hb d_BL_add_28 hl (by decide) rfl (fun ls hl => ?_)
  have L30 : ∀ (fu : Nat) (i : Nat), (5 - i) < fu → (i ≤ m5) → (∀ j, j < i → isch (fif j xa xb xc xd xe)) → ∀ (H : Heap) (locs : List Loc) (ls : Array Slot), (∀ z ∈ locs, s.heap.size ≤ z.base) → CI g A s (cw g ad ar fl ++ x5 g a5 (fun j => if j < 5 then fif j xa xb xc xd xe else 0)) H locs → lv_has ls 9 [(0, .ref (ad 0)), (1, .int xa), (2, .int xb), (3, .int xc), (4, .int xd), (5, .int xe), (6, .ref a5), (7, .int (nI i))] → W p l e rm_BL_add_c_BL_add_0 s m args below meth c H locs 1 5 Q (F0 m 30 ls []) := by
    intro fu
    induction fu with
    | zero => intro i hm; exact absurd hm (Nat.not_lt_zero _)
    | succ fu ih30 =>
      intro i hm hi hal H locs ls hlo hB hl
      have hI := hB.left
      have L74 : (∀ j, j < m5 → isch (fif j xa xb xc xd xe)) → ∀ (H : Heap) (locs : List Loc) (ls : Array Slot), (∀ z ∈ locs, s.heap.size ≤ z.base) → CI g A s (cw g ad ar fl ++ x5 g a5 (fun j => if j < 5 then fif j xa xb xc xd xe else 0)) H locs → lv_has ls 9 [(0, .ref (ad 0)), (1, .int xa), (2, .int xb), (3, .int xc), (4, .int xd), (5, .int xe), (6, .ref a5), (7, .int (nI m5))] → W p l e rm_BL_add_c_BL_add_0 s m args below meth c H locs 1 5 Q (F0 m 74 ls []) := by
        intro  hal H locs ls hlo hB hl
        have hI := hB.left
        refine lv_aload_n hx hb d_BL_add_74 rfl (lv_at hl 0 rfl) ?_
        refine g_BL_12 M hI d_BL_add_75 ?_
        refine g_BL_86 M hI d_BL_add_78 ?_
        refine q_as (y := nI cn) h2 ?_
        refine lv_iload hx hb d_BL_add_81 (lv_at hl 7 rfl) ?_
        refine lv_iadd hx hb d_BL_add_83 ?_
        refine q_as (y := nI (cn + m5)) (nI_add cn m5) ?_
        refine lv_sipush (v := 2000) hx hb d_BL_add_84 (by decide) ?_
        refine lv_icmp_le (tgt := 100) hx hb d_BL_add_87 (by decide) (fun c87 => ?_) (fun c87 => ?_)
        · have c87 : cn + m5 ≤ 2000 := (nI_leI (a := cn + m5) (b := 2000) (by omega) (by omega)).mp c87
          have hB := CI.to hB (show _ = cw g ad (va_up (va_up ar 12 (apF (ar 12) cn (fun j => fif j xa xb xc xd xe) 0)) 13 (apF (ar 13) cn (fun j => clsOf (ar 17) (ar 18) (ar 19) (fif j xa xb xc xd xe) rn) 0)) (va_up fl 2 (nI (cn + 0))) ++ x5 g a5 (fun j => if j < 5 then fif j xa xb xc xd xe else 0) by rw [show nI (cn + 0) = fl 2 from h2.symm]; rfl)
          refine lv_iconst (v := 0) hx hb d_BL_add_100 (by decide) ?_
          refine lv_istore (lv' := [(8, .int 0), (0, .ref (ad 0)), (1, .int xa), (2, .int xb), (3, .int xc), (4, .int xd), (5, .int xe), (6, .ref a5), (7, .int (nI m5))]) hx hb d_BL_add_101 hl (by decide) rfl (fun ls hl => ?_)
          have L103 : ∀ (fu : Nat) (i : Nat), (m5 - i) < fu → (i ≤ m5) → ∀ (H : Heap) (locs : List Loc) (ls : Array Slot), CI g A s (cw g ad (va_up (va_up ar 12 (apF (ar 12) cn (fun j => fif j xa xb xc xd xe) i)) 13 (apF (ar 13) cn (fun j => clsOf (ar 17) (ar 18) (ar 19) (fif j xa xb xc xd xe) rn) i)) (va_up fl 2 (nI (cn + i))) ++ x5 g a5 (fun j => if j < 5 then fif j xa xb xc xd xe else 0)) H locs → lv_has ls 9 [(0, .ref (ad 0)), (1, .int xa), (2, .int xb), (3, .int xc), (4, .int xd), (5, .int xe), (6, .ref a5), (7, .int (nI m5)), (8, .int (nI i))] → W p l e rm_BL_add_c_BL_add_0 s m args below meth c H locs 1 5 Q (F0 m 103 ls []) := by
            intro fu
            induction fu with
            | zero => intro i hm; exact absurd hm (Nat.not_lt_zero _)
            | succ fu ih103 =>
              intro i hm hi H locs ls hB hl
              have hI := hB.left
              refine lv_iload hx hb d_BL_add_103 (lv_at hl 8 rfl) ?_
              refine lv_iload hx hb d_BL_add_105 (lv_at hl 7 rfl) ?_
              refine lv_icmp_ge (tgt := 128) hx hb d_BL_add_107 (by decide) (fun c107 => ?_) (fun c107 => ?_)
              · have c107 : m5 ≤ i := (nI_leI (a := m5) (b := i) (by omega) (by omega)).mp c107
                refine lv_aload_n hx hb d_BL_add_128 rfl (lv_at hl 0 rfl) ?_
                refine q_callvV [] M hI (c_BL_forgetLevels l g ad (va_up (va_up ar 12 (apF (ar 12) cn (fun j => fif j xa xb xc xd xe) i)) 13 (apF (ar 13) cn (fun j => clsOf (ar 17) (ar 18) (ar 19) (fif j xa xb xc xd xe) rn) i)) (va_up fl 2 (nI (cn + i))) ) ok_BL_forgetLevels m2_124 m2_126 ms_0 0 rfl rfl rfl rfl hl.1 ⟨rfl, rfl⟩ ⟨Nat.le_of_ble_eq_true rfl, Nat.le_of_ble_eq_true rfl⟩ (Nat.le_of_ble_eq_true rfl) ⟨Nat.le_of_ble_eq_true rfl, Nat.le_of_ble_eq_true rfl⟩ d_BL_add_129 (fun u129 H locs hp129 hI => ?_)
                have hI : CI g A s (cw g ad (va_up (va_up ar 12 (apF (ar 12) cn (fun j => fif j xa xb xc xd xe) i)) 13 (apF (ar 13) cn (fun j => clsOf (ar 17) (ar 18) (ar 19) (fif j xa xb xc xd xe) rn) i)) (va_up (va_up (va_up fl 2 (nI (cn + i))) 0 0) 1 0)) H locs := hI
                refine lv_aload_n hx hb d_BL_add_132 rfl (lv_at hl 0 rfl) ?_
                refine g_BL_12 M hI d_BL_add_133 ?_
                refine g_BL_86 M hI d_BL_add_136 ?_
                refine q_as (y := nI (cn + i)) rfl ?_
                have e9 : i = m5 := by omega
                have hI := CI.to (w2 := cw g ad (va_up (va_up ar 12 (apF (ar 12) cn (fun j => fif j xa xb xc xd xe) m5)) 13 (apF (ar 13) cn (fun j => clsOf (ar 17) (ar 18) (ar 19) (fif j xa xb xc xd xe) rn) m5)) (va_up (va_up (va_up fl 2 (nI (cn + m5))) 0 0) 1 0)) hI (by rw [e9]; first | done | rfl)
                exact hret (nI (cn + i)) () _ _ _ _ _ _ d_BL_add_139 hI (by rw [e9]) (Nat.le_of_ble_eq_true rfl) (Nat.le_of_ble_eq_true rfl)
              · have c107 : ¬ m5 ≤ i := fun h => c107 ((nI_leI (a := m5) (b := i) (by omega) (by omega)).mpr h)
                refine lv_aload_n hx hb d_BL_add_110 rfl (lv_at hl 0 rfl) ?_
                refine g_BL_12 M hI d_BL_add_111 ?_
                refine lv_aload hx hb d_BL_add_114 (lv_at hl 6 rfl) ?_
                refine lv_iload hx hb d_BL_add_116 (lv_at hl 8 rfl) ?_
                refine q_ld5 M hB i rfl (by omega) d_BL_add_118 ?_
                refine q_as (y := fif i xa xb xc xd xe) (if_pos (by omega)) ?_
                refine q_callvB [.int (fif i xa xb xc xd xe)] M hB (c_TX_append l g ad (va_up (va_up ar 12 (apF (ar 12) cn (fun j => fif j xa xb xc xd xe) i)) 13 (apF (ar 13) cn (fun j => clsOf (ar 17) (ar 18) (ar 19) (fif j xa xb xc xd xe) rn) i)) (va_up fl 2 (nI (cn + i))) (fif i xa xb xc xd xe) (cn + i) rn (rfl) (by omega) (h3) (hrN)) ok_TX_append m3_40 m3_41 m3_42 1 rfl rfl rfl rfl hl.1 ⟨rfl, rfl⟩ ⟨Nat.le_of_ble_eq_true rfl, Nat.le_of_ble_eq_true rfl⟩ (Nat.le_of_ble_eq_true rfl) ⟨Nat.le_of_ble_eq_true rfl, Nat.le_of_ble_eq_true rfl⟩ d_BL_add_119 (fun u119 H locs hp119 hB => ?_)
                have hB : CI g A s (cw g ad (va_up (va_up ar 12 (upd (apF (ar 12) cn (fun j => fif j xa xb xc xd xe) i) (cn + i) (fif i xa xb xc xd xe))) 13 (upd (apF (ar 13) cn (fun j => clsOf (ar 17) (ar 18) (ar 19) (fif j xa xb xc xd xe) rn) i) (cn + i) (clsOf (ar 17) (ar 18) (ar 19) (fif i xa xb xc xd xe) rn))) (va_up fl 2 (nI ((cn + i) + 1))) ++ x5 g a5 (fun j => if j < 5 then fif j xa xb xc xd xe else 0)) H locs := hB
                have hI := hB.left
                refine lv_iinc (v := nI (i + 1)) (lv' := [(8, .int (nI (i + 1))), (0, .ref (ad 0)), (1, .int xa), (2, .int xb), (3, .int xc), (4, .int xd), (5, .int xe), (6, .ref a5), (7, .int (nI m5))]) hx hb d_BL_add_122 hl (k := 8) rfl (nI_add _ 1) (by decide) rfl (fun ls hl => ?_)
                refine lv_goto (tgt := 103) hx hb d_BL_add_125 (by decide) ?_
                exact ih103 (i + 1) (by omega) (by first | assumption | omega) _ _ _ hB (lv_sub hl [1, 2, 3, 4, 5, 6, 7, 8, 0] rfl)
          exact L103 _ 0 (Nat.lt_succ_self _) (by first | assumption | omega) _ _ _ hB (lv_sub hl [1, 2, 3, 4, 5, 6, 7, 8, 0] rfl)
        · have c87 : ¬ cn + m5 ≤ 2000 := fun h => c87 ((nI_leI (a := cn + m5) (b := 2000) (by omega) (by omega)).mpr h)
          exfalso; omega
      refine lv_iload hx hb d_BL_add_30 (lv_at hl 7 rfl) ?_
      refine lv_aload hx hb d_BL_add_32 (lv_at hl 6 rfl) ?_
      refine q_len5 M hB d_BL_add_34 ?_
      refine lv_icmp_ge (tgt := 74) hx hb d_BL_add_35 (by decide) (fun c35 => ?_) (fun c35 => ?_)
      · have c35 : 5 ≤ i := (nI_leI (a := 5) (b := i) (by omega) (by omega)).mp c35
        have e5 : i = m5 := by omega
        rw [e5] at hl hal
        exact L74   (by first | assumption | omega) _ _ _ hlo hB (lv_sub hl [0, 1, 2, 3, 4, 5, 6, 7] rfl)
      · have c35 : ¬ 5 ≤ i := fun h => c35 ((nI_leI (a := 5) (b := i) (by omega) (by omega)).mpr h)
        have h31 : i < 5 := by omega
        refine lv_aload hx hb d_BL_add_38 (lv_at hl 6 rfl) ?_
        refine lv_iload hx hb d_BL_add_40 (lv_at hl 7 rfl) ?_
        refine q_ld5 M hB i rfl (by omega) d_BL_add_42 ?_
        refine q_as (y := fif i xa xb xc xd xe) (if_pos (by omega)) ?_
        refine lv_iconst (v := (-1)) hx hb d_BL_add_43 (by decide) ?_
        refine lv_icmp_eq (tgt := 74) hx hb d_BL_add_44 (by decide) (fun c44 => ?_) (fun c44 => ?_)
        · have e5 : i = m5 := by rcases Nat.lt_or_ge i m5 with z | z; exact absurd c44 (hm1 i z); omega
          rw [e5] at hl hal
          exact L74   (by first | assumption | omega) _ _ _ hlo hB (lv_sub hl [0, 1, 2, 3, 4, 5, 6, 7] rfl)
        · have hi2 : i + 1 ≤ m5 := by rcases Nat.lt_or_ge i m5 with z | z; exact z; exact absurd (hm2.resolve_left (by omega)) (by rw [show m5 = i by omega]; exact c44)
          refine lv_aload hx hb d_BL_add_47 (lv_at hl 6 rfl) ?_
          refine lv_iload hx hb d_BL_add_49 (lv_at hl 7 rfl) ?_
          refine q_ld5 M hB i rfl (by omega) d_BL_add_51 ?_
          refine q_as (y := fif i xa xb xc xd xe) (if_pos (by omega)) ?_
          refine q_callpiS [.int (fif i xa xb xc xd xe)] M hI (c_BL_isCharacter_p l g (cw g ad ar fl) (fif i xa xb xc xd xe)) ok_BL_isCharacter m2_137 m2_138 rfl rfl hl.1 ⟨rfl, rfl⟩ ⟨Nat.le_of_ble_eq_true rfl, Nat.le_of_ble_eq_true rfl⟩ (Nat.le_of_ble_eq_true rfl) ⟨Nat.le_of_ble_eq_true rfl, Nat.le_of_ble_eq_true rfl⟩ d_BL_add_52 (fun r52 hp52 => ?_)
          refine q_as (y := bI (isch (fif i xa xb xc xd xe))) hp52 ?_
          refine lv_if_ne (tgt := 68) hx hb d_BL_add_55 (by decide) (fun c55 => ?_) (fun c55 => ?_)
          · have c55 := bI_ne0.mp c55
            have hal2 : (∀ j, j < i + 1 → isch (fif j xa xb xc xd xe)) := fun j h => by rcases Nat.lt_or_ge j i with z | z; exact hal j z; rw [show j = i by omega]; exact c55
            refine lv_iinc (v := nI (i + 1)) (lv' := [(7, .int (nI (i + 1))), (0, .ref (ad 0)), (1, .int xa), (2, .int xb), (3, .int xc), (4, .int xd), (5, .int xe), (6, .ref a5)]) hx hb d_BL_add_68 hl (k := 7) rfl (nI_add _ 1) (by decide) rfl (fun ls hl => ?_)
            refine lv_goto (tgt := 30) hx hb d_BL_add_71 (by decide) ?_
            exact ih30 (i + 1) (by omega) (hi2) (hal2) _ _ _ hlo hB (lv_sub hl [1, 2, 3, 4, 5, 6, 7, 0] rfl)
          · have c55 := bI_eq0.mp c55
            exact absurd (hS i (by omega)) c55
  exact L30 _ 0 (Nat.lt_succ_self _) (Nat.zero_le _) (fun j h => absurd h (Nat.not_lt_zero j)) _ _ _ hlo hB (lv_sub hl [2, 3, 4, 5, 6, 7, 1, 0] rfl)
