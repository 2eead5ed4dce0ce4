/-! 89: the law: wrappers -/
theorem d_LW_property_0 : decode b_LW_property 0 = .ok (.aload_n 0, 1) := by decide +kernel
theorem d_LW_property_1 : decode b_LW_property 1 = .ok (.iload_n 1, 1) := by decide +kernel
theorem d_LW_property_2 : decode b_LW_property 2 = .ok (.iload_n 2, 1) := by decide +kernel
theorem d_LW_property_3 : decode b_LW_property 3 = .ok (.iload_n 3, 1) := by decide +kernel
theorem d_LW_property_4 : decode b_LW_property 4 = .ok (.invokevirtual 7, 3) := by decide +kernel
theorem d_LW_property_7 : decode b_LW_property 7 = .ok (.goto 11, 3) := by decide +kernel
theorem d_LW_property_10 : decode b_LW_property 10 = .ok (.astore 4, 2) := by decide +kernel
theorem d_LW_property_12 : decode b_LW_property 12 = .ok (.iconst 1, 1) := by decide +kernel
theorem d_LW_property_13 : decode b_LW_property 13 = .ok (.ireturn, 1) := by decide +kernel
theorem d_LW_property_14 : decode b_LW_property 14 = .ok (.astore 4, 2) := by decide +kernel
theorem d_LW_property_16 : decode b_LW_property 16 = .ok (.iconst 2, 1) := by decide +kernel
theorem d_LW_property_17 : decode b_LW_property 17 = .ok (.ireturn, 1) := by decide +kernel
theorem d_LW_property_18 : decode b_LW_property 18 = .ok (.iconst 0, 1) := by decide +kernel
theorem d_LW_property_19 : decode b_LW_property 19 = .ok (.ireturn, 1) := by decide +kernel
set_option maxRecDepth 100000 in
theorem lw_property_0 (l : Launch) (g : Geo) (ad : Nat → Nat) (ar : Nat → Nat → Int32) (fl : Nat → Int32) (x1 : Int32) (x2 : Int32) (x3 : Int32) {S : Type} {rm : Room} {mc ms : Nat} {post : S → Prop} {w1 : S → va_W} (hC : cMv l y_BL_property (.code y_BL_property b_BL_property 4 none :: gw) rm g [.ref (ad 0), .int x1, .int x2, .int x3] (cw g ad ar fl) post w1 mc ms) (hrm : rm.cells = mc ∧ rm.slots = ms) : cWi l y_LW_property (.codeWith y_LW_property b_LW_property 5 (some .int) [(0, 7, 10, 13), (0, 7, 14, 15)] :: gw) { frames := rm.frames + 1, cells := mc, slots := ms, locals := 8 + (4 + 11) + rm.locals } g [.ref (ad 0), .int x1, .int x2, .int x3] (cw g ad ar fl) (fun (r : Int32) (u : S) => r = 0 ∧ post u) w1 mc ms := by
  refine cWi_of (by decide) (Nat.le_of_ble_eq_true rfl) ?_
  intro p e s m below meth c A Q ls M hX hmap hret hl hI
  have hl : lv_has ls 5 [(0, .ref (ad 0)), (1, .int x1), (2, .int x2), (3, .int x3)] := hl
  generalize ([.ref (ad 0), .int x1, .int x2, .int x3] : List Value).toArray = args at M hret ⊢
  have hx := M.1
  have hb := M.2.1
  refine lv_aload_n hx hb d_LW_property_0 rfl (lv_at hl 0 rfl) ?_
  refine lv_iload_n hx hb d_LW_property_1 rfl (lv_at hl 1 rfl) ?_
  refine lv_iload_n hx hb d_LW_property_2 rfl (lv_at hl 2 rfl) ?_
  refine lv_iload_n hx hb d_LW_property_3 rfl (lv_at hl 3 rfl) ?_
  refine q_callvV [.int x1, .int x2, .int x3] M hI hC ok_BL_property m2_133 m2_134 m2_135 0 rfl rfl rfl rfl hl.1 hrm ⟨Nat.le_refl _, Nat.le_refl _⟩ (Nat.le_of_ble_eq_true rfl) ⟨Nat.le_of_eq (Nat.zero_add _), Nat.le_of_eq (Nat.zero_add _)⟩ d_LW_property_4 (fun u H locs hp hI => ?_)
  refine lv_goto (tgt := 18) hx hb d_LW_property_7 (by decide) ?_
  refine lv_iconst (v := 0) hx hb d_LW_property_18 (by decide) ?_
  exact hret 0 u _ _ _ _ _ _ d_LW_property_19 hI ⟨rfl, hp⟩ (Nat.le_of_eq (Nat.zero_add _)) (Nat.le_of_eq (Nat.zero_add _))
set_option maxRecDepth 100000 in
theorem lw_property_1 (l : Launch) (g : Geo) (ad : Nat → Nat) (ar : Nat → Nat → Int32) (fl : Nat → Int32) (x1 : Int32) (x2 : Int32) (x3 : Int32) {rm : Room} {mc ms : Nat} (hC : cMx l y_BL_property (.code y_BL_property b_BL_property 4 none :: gw) rm g [.ref (ad 0), .int x1, .int x2, .int x3] (cw g ad ar fl) IAE mc ms) (hrm : rm.cells = mc ∧ rm.slots = ms) : cWi l y_LW_property (.codeWith y_LW_property b_LW_property 5 (some .int) [(0, 7, 10, 13), (0, 7, 14, 15)] :: gw) { frames := rm.frames + 1, cells := mc, slots := ms, locals := 8 + (4 + 11) + rm.locals } g [.ref (ad 0), .int x1, .int x2, .int x3] (cw g ad ar fl) (fun (r : Int32) (_ : Unit) => r = 1) (fun _ => cw g ad ar fl) mc ms := by
  refine cWi_of (by decide) (Nat.le_of_ble_eq_true rfl) ?_
  intro p e s m below meth c A Q ls M hX hmap hret hl hI
  have hl : lv_has ls 5 [(0, .ref (ad 0)), (1, .int x1), (2, .int x2), (3, .int x3)] := hl
  generalize ([.ref (ad 0), .int x1, .int x2, .int x3] : List Value).toArray = args at M hret ⊢
  have hx := M.1
  have hb := M.2.1
  refine lv_aload_n hx hb d_LW_property_0 rfl (lv_at hl 0 rfl) ?_
  refine lv_iload_n hx hb d_LW_property_1 rfl (lv_at hl 1 rfl) ?_
  refine lv_iload_n hx hb d_LW_property_2 rfl (lv_at hl 2 rfl) ?_
  refine lv_iload_n hx hb d_LW_property_3 rfl (lv_at hl 3 rfl) ?_
  obtain ⟨e0, e1, hL, f0, f1⟩ := ex_2 hmap
  obtain ⟨v0, n0, p0, t0⟩ := ex_f (pc := 4) f0 (by decide) (by decide) (by decide)
  refine q_catch [.int x1, .int x2, .int x3] M hX hI hC ok_BL_property m2_133 m2_134 m2_135 0 rfl rfl rfl rfl hl.1 hrm ⟨Nat.le_refl _, Nat.le_refl _⟩ (Nat.le_of_ble_eq_true rfl) ⟨Nat.le_refl _, Nat.le_refl _⟩ d_LW_property_4 (pre := []) (x := e0) (post := [e1]) hL v0 n0 (by rw [t0]; exact m2_131) (fun _ h => absurd h List.not_mem_nil) (fun H1 v hsz hold => ?_)
  rw [p0]
  refine lv_astore (lv' := [(4, .ref v), (0, .ref (ad 0)), (1, .int x1), (2, .int x2), (3, .int x3)]) hx hb d_LW_property_10 hl (by decide) rfl (fun ls hl => ?_)
  refine lv_iconst (v := 1) hx hb d_LW_property_12 (by decide) ?_
  exact hret 1 () _ _ _ _ _ _ d_LW_property_13 (hI.old hsz hold) rfl (Nat.le_refl _) (Nat.le_refl _)
set_option maxRecDepth 100000 in
theorem lw_property_2 (l : Launch) (g : Geo) (ad : Nat → Nat) (ar : Nat → Nat → Int32) (fl : Nat → Int32) (x1 : Int32) (x2 : Int32) (x3 : Int32) {rm : Room} {mc ms : Nat} (hC : cMx l y_BL_property (.code y_BL_property b_BL_property 4 none :: gw) rm g [.ref (ad 0), .int x1, .int x2, .int x3] (cw g ad ar fl) ISE mc ms) (hrm : rm.cells = mc ∧ rm.slots = ms) : cWi l y_LW_property (.codeWith y_LW_property b_LW_property 5 (some .int) [(0, 7, 10, 13), (0, 7, 14, 15)] :: gw) { frames := rm.frames + 1, cells := mc, slots := ms, locals := 8 + (4 + 11) + rm.locals } g [.ref (ad 0), .int x1, .int x2, .int x3] (cw g ad ar fl) (fun (r : Int32) (_ : Unit) => r = 2) (fun _ => cw g ad ar fl) mc ms := by
  refine cWi_of (by decide) (Nat.le_of_ble_eq_true rfl) ?_
  intro p e s m below meth c A Q ls M hX hmap hret hl hI
  have hl : lv_has ls 5 [(0, .ref (ad 0)), (1, .int x1), (2, .int x2), (3, .int x3)] := hl
  generalize ([.ref (ad 0), .int x1, .int x2, .int x3] : List Value).toArray = args at M hret ⊢
  have hx := M.1
  have hb := M.2.1
  refine lv_aload_n hx hb d_LW_property_0 rfl (lv_at hl 0 rfl) ?_
  refine lv_iload_n hx hb d_LW_property_1 rfl (lv_at hl 1 rfl) ?_
  refine lv_iload_n hx hb d_LW_property_2 rfl (lv_at hl 2 rfl) ?_
  refine lv_iload_n hx hb d_LW_property_3 rfl (lv_at hl 3 rfl) ?_
  obtain ⟨e0, e1, hL, f0, f1⟩ := ex_2 hmap
  obtain ⟨v0, n0, p0, t0⟩ := ex_f (pc := 4) f0 (by decide) (by decide) (by decide)
  obtain ⟨v1, n1, p1, t1⟩ := ex_f (pc := 4) f1 (by decide) (by decide) (by decide)
  refine q_catch [.int x1, .int x2, .int x3] M hX hI hC ok_BL_property m2_133 m2_134 m2_135 0 rfl rfl rfl rfl hl.1 hrm ⟨Nat.le_refl _, Nat.le_refl _⟩ (Nat.le_of_ble_eq_true rfl) ⟨Nat.le_refl _, Nat.le_refl _⟩ d_LW_property_4 (pre := [e0]) (x := e1) (post := []) hL v1 n1 (by rw [t1]; exact m2_132) (List.forall_mem_cons.mpr ⟨⟨v0, n0, IAE, by rw [t0]; exact m2_131, by decide⟩, fun _ h => absurd h List.not_mem_nil⟩) (fun H1 v hsz hold => ?_)
  rw [p1]
  refine lv_astore (lv' := [(4, .ref v), (0, .ref (ad 0)), (1, .int x1), (2, .int x2), (3, .int x3)]) hx hb d_LW_property_14 hl (by decide) rfl (fun ls hl => ?_)
  refine lv_iconst (v := 2) hx hb d_LW_property_16 (by decide) ?_
  exact hret 2 () _ _ _ _ _ _ d_LW_property_17 (hI.old hsz hold) rfl (Nat.le_refl _) (Nat.le_refl _)
theorem d_LW_bracket_0 : decode b_LW_bracket 0 = .ok (.aload_n 0, 1) := by decide +kernel
theorem d_LW_bracket_1 : decode b_LW_bracket 1 = .ok (.iload_n 1, 1) := by decide +kernel
theorem d_LW_bracket_2 : decode b_LW_bracket 2 = .ok (.iload_n 2, 1) := by decide +kernel
theorem d_LW_bracket_3 : decode b_LW_bracket 3 = .ok (.invokevirtual 17, 3) := by decide +kernel
theorem d_LW_bracket_6 : decode b_LW_bracket 6 = .ok (.goto 9, 3) := by decide +kernel
theorem d_LW_bracket_9 : decode b_LW_bracket 9 = .ok (.astore_n 3, 1) := by decide +kernel
theorem d_LW_bracket_10 : decode b_LW_bracket 10 = .ok (.iconst 1, 1) := by decide +kernel
theorem d_LW_bracket_11 : decode b_LW_bracket 11 = .ok (.ireturn, 1) := by decide +kernel
theorem d_LW_bracket_12 : decode b_LW_bracket 12 = .ok (.astore_n 3, 1) := by decide +kernel
theorem d_LW_bracket_13 : decode b_LW_bracket 13 = .ok (.iconst 2, 1) := by decide +kernel
theorem d_LW_bracket_14 : decode b_LW_bracket 14 = .ok (.ireturn, 1) := by decide +kernel
theorem d_LW_bracket_15 : decode b_LW_bracket 15 = .ok (.iconst 0, 1) := by decide +kernel
theorem d_LW_bracket_16 : decode b_LW_bracket 16 = .ok (.ireturn, 1) := by decide +kernel
set_option maxRecDepth 100000 in
theorem lw_bracket_0 (l : Launch) (g : Geo) (ad : Nat → Nat) (ar : Nat → Nat → Int32) (fl : Nat → Int32) (x1 : Int32) (x2 : Int32) {S : Type} {rm : Room} {mc ms : Nat} {post : S → Prop} {w1 : S → va_W} (hC : cMv l y_BL_bracket (.code y_BL_bracket b_BL_bracket 3 none :: gw) rm g [.ref (ad 0), .int x1, .int x2] (cw g ad ar fl) post w1 mc ms) (hrm : rm.cells = mc ∧ rm.slots = ms) : cWi l y_LW_bracket (.codeWith y_LW_bracket b_LW_bracket 4 (some .int) [(0, 6, 9, 13), (0, 6, 12, 15)] :: gw) { frames := rm.frames + 1, cells := mc, slots := ms, locals := 8 + (3 + 11) + rm.locals } g [.ref (ad 0), .int x1, .int x2] (cw g ad ar fl) (fun (r : Int32) (u : S) => r = 0 ∧ post u) w1 mc ms := by
  refine cWi_of (by decide) (Nat.le_of_ble_eq_true rfl) ?_
  intro p e s m below meth c A Q ls M hX hmap hret hl hI
  have hl : lv_has ls 4 [(0, .ref (ad 0)), (1, .int x1), (2, .int x2)] := hl
  generalize ([.ref (ad 0), .int x1, .int x2] : List Value).toArray = args at M hret ⊢
  have hx := M.1
  have hb := M.2.1
  refine lv_aload_n hx hb d_LW_bracket_0 rfl (lv_at hl 0 rfl) ?_
  refine lv_iload_n hx hb d_LW_bracket_1 rfl (lv_at hl 1 rfl) ?_
  refine lv_iload_n hx hb d_LW_bracket_2 rfl (lv_at hl 2 rfl) ?_
  refine q_callvV [.int x1, .int x2] M hI hC ok_BL_bracket m2_233 m2_234 m2_235 0 rfl rfl rfl rfl hl.1 hrm ⟨Nat.le_refl _, Nat.le_refl _⟩ (Nat.le_of_ble_eq_true rfl) ⟨Nat.le_of_eq (Nat.zero_add _), Nat.le_of_eq (Nat.zero_add _)⟩ d_LW_bracket_3 (fun u H locs hp hI => ?_)
  refine lv_goto (tgt := 15) hx hb d_LW_bracket_6 (by decide) ?_
  refine lv_iconst (v := 0) hx hb d_LW_bracket_15 (by decide) ?_
  exact hret 0 u _ _ _ _ _ _ d_LW_bracket_16 hI ⟨rfl, hp⟩ (Nat.le_of_eq (Nat.zero_add _)) (Nat.le_of_eq (Nat.zero_add _))
set_option maxRecDepth 100000 in
theorem lw_bracket_1 (l : Launch) (g : Geo) (ad : Nat → Nat) (ar : Nat → Nat → Int32) (fl : Nat → Int32) (x1 : Int32) (x2 : Int32) {rm : Room} {mc ms : Nat} (hC : cMx l y_BL_bracket (.code y_BL_bracket b_BL_bracket 3 none :: gw) rm g [.ref (ad 0), .int x1, .int x2] (cw g ad ar fl) IAE mc ms) (hrm : rm.cells = mc ∧ rm.slots = ms) : cWi l y_LW_bracket (.codeWith y_LW_bracket b_LW_bracket 4 (some .int) [(0, 6, 9, 13), (0, 6, 12, 15)] :: gw) { frames := rm.frames + 1, cells := mc, slots := ms, locals := 8 + (3 + 11) + rm.locals } g [.ref (ad 0), .int x1, .int x2] (cw g ad ar fl) (fun (r : Int32) (_ : Unit) => r = 1) (fun _ => cw g ad ar fl) mc ms := by
  refine cWi_of (by decide) (Nat.le_of_ble_eq_true rfl) ?_
  intro p e s m below meth c A Q ls M hX hmap hret hl hI
  have hl : lv_has ls 4 [(0, .ref (ad 0)), (1, .int x1), (2, .int x2)] := hl
  generalize ([.ref (ad 0), .int x1, .int x2] : List Value).toArray = args at M hret ⊢
  have hx := M.1
  have hb := M.2.1
  refine lv_aload_n hx hb d_LW_bracket_0 rfl (lv_at hl 0 rfl) ?_
  refine lv_iload_n hx hb d_LW_bracket_1 rfl (lv_at hl 1 rfl) ?_
  refine lv_iload_n hx hb d_LW_bracket_2 rfl (lv_at hl 2 rfl) ?_
  obtain ⟨e0, e1, hL, f0, f1⟩ := ex_2 hmap
  obtain ⟨v0, n0, p0, t0⟩ := ex_f (pc := 3) f0 (by decide) (by decide) (by decide)
  refine q_catch [.int x1, .int x2] M hX hI hC ok_BL_bracket m2_233 m2_234 m2_235 0 rfl rfl rfl rfl hl.1 hrm ⟨Nat.le_refl _, Nat.le_refl _⟩ (Nat.le_of_ble_eq_true rfl) ⟨Nat.le_refl _, Nat.le_refl _⟩ d_LW_bracket_3 (pre := []) (x := e0) (post := [e1]) hL v0 n0 (by rw [t0]; exact m2_131) (fun _ h => absurd h List.not_mem_nil) (fun H1 v hsz hold => ?_)
  rw [p0]
  refine lv_astore_n (lv' := [(3, .ref v), (0, .ref (ad 0)), (1, .int x1), (2, .int x2)]) hx hb d_LW_bracket_9 rfl hl (by decide) rfl (fun ls hl => ?_)
  refine lv_iconst (v := 1) hx hb d_LW_bracket_10 (by decide) ?_
  exact hret 1 () _ _ _ _ _ _ d_LW_bracket_11 (hI.old hsz hold) rfl (Nat.le_refl _) (Nat.le_refl _)
set_option maxRecDepth 100000 in
theorem lw_bracket_2 (l : Launch) (g : Geo) (ad : Nat → Nat) (ar : Nat → Nat → Int32) (fl : Nat → Int32) (x1 : Int32) (x2 : Int32) {rm : Room} {mc ms : Nat} (hC : cMx l y_BL_bracket (.code y_BL_bracket b_BL_bracket 3 none :: gw) rm g [.ref (ad 0), .int x1, .int x2] (cw g ad ar fl) ISE mc ms) (hrm : rm.cells = mc ∧ rm.slots = ms) : cWi l y_LW_bracket (.codeWith y_LW_bracket b_LW_bracket 4 (some .int) [(0, 6, 9, 13), (0, 6, 12, 15)] :: gw) { frames := rm.frames + 1, cells := mc, slots := ms, locals := 8 + (3 + 11) + rm.locals } g [.ref (ad 0), .int x1, .int x2] (cw g ad ar fl) (fun (r : Int32) (_ : Unit) => r = 2) (fun _ => cw g ad ar fl) mc ms := by
  refine cWi_of (by decide) (Nat.le_of_ble_eq_true rfl) ?_
  intro p e s m below meth c A Q ls M hX hmap hret hl hI
  have hl : lv_has ls 4 [(0, .ref (ad 0)), (1, .int x1), (2, .int x2)] := hl
  generalize ([.ref (ad 0), .int x1, .int x2] : List Value).toArray = args at M hret ⊢
  have hx := M.1
  have hb := M.2.1
  refine lv_aload_n hx hb d_LW_bracket_0 rfl (lv_at hl 0 rfl) ?_
  refine lv_iload_n hx hb d_LW_bracket_1 rfl (lv_at hl 1 rfl) ?_
  refine lv_iload_n hx hb d_LW_bracket_2 rfl (lv_at hl 2 rfl) ?_
  obtain ⟨e0, e1, hL, f0, f1⟩ := ex_2 hmap
  obtain ⟨v0, n0, p0, t0⟩ := ex_f (pc := 3) f0 (by decide) (by decide) (by decide)
  obtain ⟨v1, n1, p1, t1⟩ := ex_f (pc := 3) f1 (by decide) (by decide) (by decide)
  refine q_catch [.int x1, .int x2] M hX hI hC ok_BL_bracket m2_233 m2_234 m2_235 0 rfl rfl rfl rfl hl.1 hrm ⟨Nat.le_refl _, Nat.le_refl _⟩ (Nat.le_of_ble_eq_true rfl) ⟨Nat.le_refl _, Nat.le_refl _⟩ d_LW_bracket_3 (pre := [e0]) (x := e1) (post := []) hL v1 n1 (by rw [t1]; exact m2_132) (List.forall_mem_cons.mpr ⟨⟨v0, n0, IAE, by rw [t0]; exact m2_131, by decide⟩, fun _ h => absurd h List.not_mem_nil⟩) (fun H1 v hsz hold => ?_)
  rw [p1]
  refine lv_astore_n (lv' := [(3, .ref v), (0, .ref (ad 0)), (1, .int x1), (2, .int x2)]) hx hb d_LW_bracket_12 rfl hl (by decide) rfl (fun ls hl => ?_)
  refine lv_iconst (v := 2) hx hb d_LW_bracket_13 (by decide) ?_
  exact hret 2 () _ _ _ _ _ _ d_LW_bracket_14 (hI.old hsz hold) rfl (Nat.le_refl _) (Nat.le_refl _)
theorem d_LW_mirror_0 : decode b_LW_mirror 0 = .ok (.aload_n 0, 1) := by decide +kernel
theorem d_LW_mirror_1 : decode b_LW_mirror 1 = .ok (.iload_n 1, 1) := by decide +kernel
theorem d_LW_mirror_2 : decode b_LW_mirror 2 = .ok (.iload_n 2, 1) := by decide +kernel
theorem d_LW_mirror_3 : decode b_LW_mirror 3 = .ok (.invokevirtual 21, 3) := by decide +kernel
theorem d_LW_mirror_6 : decode b_LW_mirror 6 = .ok (.goto 9, 3) := by decide +kernel
theorem d_LW_mirror_9 : decode b_LW_mirror 9 = .ok (.astore_n 3, 1) := by decide +kernel
theorem d_LW_mirror_10 : decode b_LW_mirror 10 = .ok (.iconst 1, 1) := by decide +kernel
theorem d_LW_mirror_11 : decode b_LW_mirror 11 = .ok (.ireturn, 1) := by decide +kernel
theorem d_LW_mirror_12 : decode b_LW_mirror 12 = .ok (.astore_n 3, 1) := by decide +kernel
theorem d_LW_mirror_13 : decode b_LW_mirror 13 = .ok (.iconst 2, 1) := by decide +kernel
theorem d_LW_mirror_14 : decode b_LW_mirror 14 = .ok (.ireturn, 1) := by decide +kernel
theorem d_LW_mirror_15 : decode b_LW_mirror 15 = .ok (.iconst 0, 1) := by decide +kernel
theorem d_LW_mirror_16 : decode b_LW_mirror 16 = .ok (.ireturn, 1) := by decide +kernel
set_option maxRecDepth 100000 in
theorem lw_mirror_0 (l : Launch) (g : Geo) (ad : Nat → Nat) (ar : Nat → Nat → Int32) (fl : Nat → Int32) (x1 : Int32) (x2 : Int32) {S : Type} {rm : Room} {mc ms : Nat} {post : S → Prop} {w1 : S → va_W} (hC : cMv l y_BL_mirror (.code y_BL_mirror b_BL_mirror 3 none :: gw) rm g [.ref (ad 0), .int x1, .int x2] (cw g ad ar fl) post w1 mc ms) (hrm : rm.cells = mc ∧ rm.slots = ms) : cWi l y_LW_mirror (.codeWith y_LW_mirror b_LW_mirror 4 (some .int) [(0, 6, 9, 13), (0, 6, 12, 15)] :: gw) { frames := rm.frames + 1, cells := mc, slots := ms, locals := 8 + (3 + 11) + rm.locals } g [.ref (ad 0), .int x1, .int x2] (cw g ad ar fl) (fun (r : Int32) (u : S) => r = 0 ∧ post u) w1 mc ms := by
  refine cWi_of (by decide) (Nat.le_of_ble_eq_true rfl) ?_
  intro p e s m below meth c A Q ls M hX hmap hret hl hI
  have hl : lv_has ls 4 [(0, .ref (ad 0)), (1, .int x1), (2, .int x2)] := hl
  generalize ([.ref (ad 0), .int x1, .int x2] : List Value).toArray = args at M hret ⊢
  have hx := M.1
  have hb := M.2.1
  refine lv_aload_n hx hb d_LW_mirror_0 rfl (lv_at hl 0 rfl) ?_
  refine lv_iload_n hx hb d_LW_mirror_1 rfl (lv_at hl 1 rfl) ?_
  refine lv_iload_n hx hb d_LW_mirror_2 rfl (lv_at hl 2 rfl) ?_
  refine q_callvV [.int x1, .int x2] M hI hC ok_BL_mirror m3_27 m3_28 m3_29 0 rfl rfl rfl rfl hl.1 hrm ⟨Nat.le_refl _, Nat.le_refl _⟩ (Nat.le_of_ble_eq_true rfl) ⟨Nat.le_of_eq (Nat.zero_add _), Nat.le_of_eq (Nat.zero_add _)⟩ d_LW_mirror_3 (fun u H locs hp hI => ?_)
  refine lv_goto (tgt := 15) hx hb d_LW_mirror_6 (by decide) ?_
  refine lv_iconst (v := 0) hx hb d_LW_mirror_15 (by decide) ?_
  exact hret 0 u _ _ _ _ _ _ d_LW_mirror_16 hI ⟨rfl, hp⟩ (Nat.le_of_eq (Nat.zero_add _)) (Nat.le_of_eq (Nat.zero_add _))
set_option maxRecDepth 100000 in
theorem lw_mirror_1 (l : Launch) (g : Geo) (ad : Nat → Nat) (ar : Nat → Nat → Int32) (fl : Nat → Int32) (x1 : Int32) (x2 : Int32) {rm : Room} {mc ms : Nat} (hC : cMx l y_BL_mirror (.code y_BL_mirror b_BL_mirror 3 none :: gw) rm g [.ref (ad 0), .int x1, .int x2] (cw g ad ar fl) IAE mc ms) (hrm : rm.cells = mc ∧ rm.slots = ms) : cWi l y_LW_mirror (.codeWith y_LW_mirror b_LW_mirror 4 (some .int) [(0, 6, 9, 13), (0, 6, 12, 15)] :: gw) { frames := rm.frames + 1, cells := mc, slots := ms, locals := 8 + (3 + 11) + rm.locals } g [.ref (ad 0), .int x1, .int x2] (cw g ad ar fl) (fun (r : Int32) (_ : Unit) => r = 1) (fun _ => cw g ad ar fl) mc ms := by
  refine cWi_of (by decide) (Nat.le_of_ble_eq_true rfl) ?_
  intro p e s m below meth c A Q ls M hX hmap hret hl hI
  have hl : lv_has ls 4 [(0, .ref (ad 0)), (1, .int x1), (2, .int x2)] := hl
  generalize ([.ref (ad 0), .int x1, .int x2] : List Value).toArray = args at M hret ⊢
  have hx := M.1
  have hb := M.2.1
  refine lv_aload_n hx hb d_LW_mirror_0 rfl (lv_at hl 0 rfl) ?_
  refine lv_iload_n hx hb d_LW_mirror_1 rfl (lv_at hl 1 rfl) ?_
  refine lv_iload_n hx hb d_LW_mirror_2 rfl (lv_at hl 2 rfl) ?_
  obtain ⟨e0, e1, hL, f0, f1⟩ := ex_2 hmap
  obtain ⟨v0, n0, p0, t0⟩ := ex_f (pc := 3) f0 (by decide) (by decide) (by decide)
  refine q_catch [.int x1, .int x2] M hX hI hC ok_BL_mirror m3_27 m3_28 m3_29 0 rfl rfl rfl rfl hl.1 hrm ⟨Nat.le_refl _, Nat.le_refl _⟩ (Nat.le_of_ble_eq_true rfl) ⟨Nat.le_refl _, Nat.le_refl _⟩ d_LW_mirror_3 (pre := []) (x := e0) (post := [e1]) hL v0 n0 (by rw [t0]; exact m2_131) (fun _ h => absurd h List.not_mem_nil) (fun H1 v hsz hold => ?_)
  rw [p0]
  refine lv_astore_n (lv' := [(3, .ref v), (0, .ref (ad 0)), (1, .int x1), (2, .int x2)]) hx hb d_LW_mirror_9 rfl hl (by decide) rfl (fun ls hl => ?_)
  refine lv_iconst (v := 1) hx hb d_LW_mirror_10 (by decide) ?_
  exact hret 1 () _ _ _ _ _ _ d_LW_mirror_11 (hI.old hsz hold) rfl (Nat.le_refl _) (Nat.le_refl _)
set_option maxRecDepth 100000 in
theorem lw_mirror_2 (l : Launch) (g : Geo) (ad : Nat → Nat) (ar : Nat → Nat → Int32) (fl : Nat → Int32) (x1 : Int32) (x2 : Int32) {rm : Room} {mc ms : Nat} (hC : cMx l y_BL_mirror (.code y_BL_mirror b_BL_mirror 3 none :: gw) rm g [.ref (ad 0), .int x1, .int x2] (cw g ad ar fl) ISE mc ms) (hrm : rm.cells = mc ∧ rm.slots = ms) : cWi l y_LW_mirror (.codeWith y_LW_mirror b_LW_mirror 4 (some .int) [(0, 6, 9, 13), (0, 6, 12, 15)] :: gw) { frames := rm.frames + 1, cells := mc, slots := ms, locals := 8 + (3 + 11) + rm.locals } g [.ref (ad 0), .int x1, .int x2] (cw g ad ar fl) (fun (r : Int32) (_ : Unit) => r = 2) (fun _ => cw g ad ar fl) mc ms := by
  refine cWi_of (by decide) (Nat.le_of_ble_eq_true rfl) ?_
  intro p e s m below meth c A Q ls M hX hmap hret hl hI
  have hl : lv_has ls 4 [(0, .ref (ad 0)), (1, .int x1), (2, .int x2)] := hl
  generalize ([.ref (ad 0), .int x1, .int x2] : List Value).toArray = args at M hret ⊢
  have hx := M.1
  have hb := M.2.1
  refine lv_aload_n hx hb d_LW_mirror_0 rfl (lv_at hl 0 rfl) ?_
  refine lv_iload_n hx hb d_LW_mirror_1 rfl (lv_at hl 1 rfl) ?_
  refine lv_iload_n hx hb d_LW_mirror_2 rfl (lv_at hl 2 rfl) ?_
  obtain ⟨e0, e1, hL, f0, f1⟩ := ex_2 hmap
  obtain ⟨v0, n0, p0, t0⟩ := ex_f (pc := 3) f0 (by decide) (by decide) (by decide)
  obtain ⟨v1, n1, p1, t1⟩ := ex_f (pc := 3) f1 (by decide) (by decide) (by decide)
  refine q_catch [.int x1, .int x2] M hX hI hC ok_BL_mirror m3_27 m3_28 m3_29 0 rfl rfl rfl rfl hl.1 hrm ⟨Nat.le_refl _, Nat.le_refl _⟩ (Nat.le_of_ble_eq_true rfl) ⟨Nat.le_refl _, Nat.le_refl _⟩ d_LW_mirror_3 (pre := [e0]) (x := e1) (post := []) hL v1 n1 (by rw [t1]; exact m2_132) (List.forall_mem_cons.mpr ⟨⟨v0, n0, IAE, by rw [t0]; exact m2_131, by decide⟩, fun _ h => absurd h List.not_mem_nil⟩) (fun H1 v hsz hold => ?_)
  rw [p1]
  refine lv_astore_n (lv' := [(3, .ref v), (0, .ref (ad 0)), (1, .int x1), (2, .int x2)]) hx hb d_LW_mirror_12 rfl hl (by decide) rfl (fun ls hl => ?_)
  refine lv_iconst (v := 2) hx hb d_LW_mirror_13 (by decide) ?_
  exact hret 2 () _ _ _ _ _ _ d_LW_mirror_14 (hI.old hsz hold) rfl (Nat.le_refl _) (Nat.le_refl _)
theorem d_LW_add_0 : decode b_LW_add 0 = .ok (.aload 6, 2) := by decide +kernel
theorem d_LW_add_2 : decode b_LW_add 2 = .ok (.iconst 0, 1) := by decide +kernel
theorem d_LW_add_3 : decode b_LW_add 3 = .ok (.aload_n 0, 1) := by decide +kernel
theorem d_LW_add_4 : decode b_LW_add 4 = .ok (.iload_n 1, 1) := by decide +kernel
theorem d_LW_add_5 : decode b_LW_add 5 = .ok (.iload_n 2, 1) := by decide +kernel
theorem d_LW_add_6 : decode b_LW_add 6 = .ok (.iload_n 3, 1) := by decide +kernel
theorem d_LW_add_7 : decode b_LW_add 7 = .ok (.iload 4, 2) := by decide +kernel
theorem d_LW_add_9 : decode b_LW_add 9 = .ok (.iload 5, 2) := by decide +kernel
theorem d_LW_add_11 : decode b_LW_add 11 = .ok (.invokevirtual 24, 3) := by decide +kernel
theorem d_LW_add_14 : decode b_LW_add 14 = .ok (.i2l, 1) := by decide +kernel
theorem d_LW_add_15 : decode b_LW_add 15 = .ok (.lastore, 1) := by decide +kernel
theorem d_LW_add_16 : decode b_LW_add 16 = .ok (.goto 11, 3) := by decide +kernel
theorem d_LW_add_19 : decode b_LW_add 19 = .ok (.astore 7, 2) := by decide +kernel
theorem d_LW_add_21 : decode b_LW_add 21 = .ok (.iconst 1, 1) := by decide +kernel
theorem d_LW_add_22 : decode b_LW_add 22 = .ok (.ireturn, 1) := by decide +kernel
theorem d_LW_add_23 : decode b_LW_add 23 = .ok (.astore 7, 2) := by decide +kernel
theorem d_LW_add_25 : decode b_LW_add 25 = .ok (.iconst 2, 1) := by decide +kernel
theorem d_LW_add_26 : decode b_LW_add 26 = .ok (.ireturn, 1) := by decide +kernel
theorem d_LW_add_27 : decode b_LW_add 27 = .ok (.iconst 0, 1) := by decide +kernel
theorem d_LW_add_28 : decode b_LW_add 28 = .ok (.ireturn, 1) := by decide +kernel
set_option maxRecDepth 100000 in
theorem lw_add_0 (l : Launch) (g : Geo) (ad : Nat → Nat) (ar : Nat → Nat → Int32) (fl : Nat → Int32) (ao : Nat) (fo : Nat → Int64) (x1 : Int32) (x2 : Int32) (x3 : Int32) (x4 : Int32) (x5 : Int32) {S : Type} {rm : Room} {mc ms : Nat} {post : Int32 → S → Prop} {w1 : S → va_W} (hC : cMi l y_BL_add (.code y_BL_add b_BL_add 9 (some .int) :: gw) rm g [.ref (ad 0), .int x1, .int x2, .int x3, .int x4, .int x5] (cw g ad ar fl) post w1 mc ms) (hrm : rm.cells = mc ∧ rm.slots = ms) : cWi l y_LW_add (.codeWith y_LW_add b_LW_add 8 (some .int) [(0, 16, 19, 13), (0, 16, 23, 15)] :: gw) { frames := rm.frames + 1, cells := mc, slots := ms, locals := 8 + (9 + 11) + rm.locals } g [.ref (ad 0), .int x1, .int x2, .int x3, .int x4, .int x5, .ref ao] (cw g ad ar fl ++ xo g ao fo) (fun (r : Int32) (u : S × Int32) => r = 0 ∧ post u.2 u.1) (fun u => w1 u.1 ++ xo g ao (vp_updL fo 0 u.2.toInt64)) mc ms := by
  refine cWi_of (by decide) (Nat.le_of_ble_eq_true rfl) ?_
  intro p e s m below meth c A Q ls M hX hmap hret hl hI
  have hl : lv_has ls 8 [(0, .ref (ad 0)), (1, .int x1), (2, .int x2), (3, .int x3), (4, .int x4), (5, .int x5), (6, .ref ao)] := hl
  generalize ([.ref (ad 0), .int x1, .int x2, .int x3, .int x4, .int x5, .ref ao] : List Value).toArray = args at M hret ⊢
  have hx := M.1
  have hb := M.2.1
  refine lv_aload hx hb d_LW_add_0 (lv_at hl 6 rfl) ?_
  refine lv_iconst (v := 0) hx hb d_LW_add_2 (by decide) ?_
  refine lv_aload_n hx hb d_LW_add_3 rfl (lv_at hl 0 rfl) ?_
  refine lv_iload_n hx hb d_LW_add_4 rfl (lv_at hl 1 rfl) ?_
  refine lv_iload_n hx hb d_LW_add_5 rfl (lv_at hl 2 rfl) ?_
  refine lv_iload_n hx hb d_LW_add_6 rfl (lv_at hl 3 rfl) ?_
  refine lv_iload hx hb d_LW_add_7 (lv_at hl 4 rfl) ?_
  refine lv_iload hx hb d_LW_add_9 (lv_at hl 5 rfl) ?_
  refine q_calliB [.int x1, .int x2, .int x3, .int x4, .int x5] M hI hC ok_BL_add m3_34 m3_35 m3_36 0 rfl rfl rfl rfl hl.1 hrm ⟨Nat.le_refl _, Nat.le_refl _⟩ (Nat.le_of_ble_eq_true rfl) ⟨Nat.le_of_eq (Nat.zero_add _), Nat.le_of_eq (Nat.zero_add _)⟩ d_LW_add_11 (fun r u H locs hp hB => ?_)
  refine lv_i2l (v := r.toInt64) hx hb d_LW_add_14 rfl ?_
  refine q_stO M hB d_LW_add_15 (fun H locs hB => ?_)
  refine lv_goto (tgt := 27) hx hb d_LW_add_16 (by decide) ?_
  refine lv_iconst (v := 0) hx hb d_LW_add_27 (by decide) ?_
  exact hret 0 (u, r) _ _ _ _ _ _ d_LW_add_28 hB ⟨rfl, hp⟩ (Nat.le_of_eq (Nat.zero_add _)) (Nat.le_of_eq (Nat.zero_add _))
set_option maxRecDepth 100000 in
theorem lw_add_1 (l : Launch) (g : Geo) (ad : Nat → Nat) (ar : Nat → Nat → Int32) (fl : Nat → Int32) (ao : Nat) (fo : Nat → Int64) (x1 : Int32) (x2 : Int32) (x3 : Int32) (x4 : Int32) (x5 : Int32) {rm : Room} {mc ms : Nat} (hC : cMx l y_BL_add (.code y_BL_add b_BL_add 9 (some .int) :: gw) rm g [.ref (ad 0), .int x1, .int x2, .int x3, .int x4, .int x5] (cw g ad ar fl) IAE mc ms) (hrm : rm.cells = mc ∧ rm.slots = ms) : cWi l y_LW_add (.codeWith y_LW_add b_LW_add 8 (some .int) [(0, 16, 19, 13), (0, 16, 23, 15)] :: gw) { frames := rm.frames + 1, cells := mc, slots := ms, locals := 8 + (9 + 11) + rm.locals } g [.ref (ad 0), .int x1, .int x2, .int x3, .int x4, .int x5, .ref ao] (cw g ad ar fl ++ xo g ao fo) (fun (r : Int32) (_ : Unit) => r = 1) (fun _ => cw g ad ar fl ++ xo g ao fo) mc ms := by
  refine cWi_of (by decide) (Nat.le_of_ble_eq_true rfl) ?_
  intro p e s m below meth c A Q ls M hX hmap hret hl hI
  have hl : lv_has ls 8 [(0, .ref (ad 0)), (1, .int x1), (2, .int x2), (3, .int x3), (4, .int x4), (5, .int x5), (6, .ref ao)] := hl
  generalize ([.ref (ad 0), .int x1, .int x2, .int x3, .int x4, .int x5, .ref ao] : List Value).toArray = args at M hret ⊢
  have hx := M.1
  have hb := M.2.1
  refine lv_aload hx hb d_LW_add_0 (lv_at hl 6 rfl) ?_
  refine lv_iconst (v := 0) hx hb d_LW_add_2 (by decide) ?_
  refine lv_aload_n hx hb d_LW_add_3 rfl (lv_at hl 0 rfl) ?_
  refine lv_iload_n hx hb d_LW_add_4 rfl (lv_at hl 1 rfl) ?_
  refine lv_iload_n hx hb d_LW_add_5 rfl (lv_at hl 2 rfl) ?_
  refine lv_iload_n hx hb d_LW_add_6 rfl (lv_at hl 3 rfl) ?_
  refine lv_iload hx hb d_LW_add_7 (lv_at hl 4 rfl) ?_
  refine lv_iload hx hb d_LW_add_9 (lv_at hl 5 rfl) ?_
  obtain ⟨e0, e1, hL, f0, f1⟩ := ex_2 hmap
  obtain ⟨v0, n0, p0, t0⟩ := ex_f (pc := 11) f0 (by decide) (by decide) (by decide)
  refine q_catch [.int x1, .int x2, .int x3, .int x4, .int x5] M hX hI.left hC ok_BL_add m3_34 m3_35 m3_36 0 rfl rfl rfl rfl hl.1 hrm ⟨Nat.le_refl _, Nat.le_refl _⟩ (Nat.le_of_ble_eq_true rfl) ⟨Nat.le_refl _, Nat.le_refl _⟩ d_LW_add_11 (pre := []) (x := e0) (post := [e1]) hL v0 n0 (by rw [t0]; exact m2_131) (fun _ h => absurd h List.not_mem_nil) (fun H1 v hsz hold => ?_)
  rw [p0]
  refine lv_astore (lv' := [(7, .ref v), (0, .ref (ad 0)), (1, .int x1), (2, .int x2), (3, .int x3), (4, .int x4), (5, .int x5), (6, .ref ao)]) hx hb d_LW_add_19 hl (by decide) rfl (fun ls hl => ?_)
  refine lv_iconst (v := 1) hx hb d_LW_add_21 (by decide) ?_
  exact hret 1 () _ _ _ _ _ _ d_LW_add_22 (hI.old hsz hold) rfl (Nat.le_refl _) (Nat.le_refl _)
set_option maxRecDepth 100000 in
theorem lw_add_2 (l : Launch) (g : Geo) (ad : Nat → Nat) (ar : Nat → Nat → Int32) (fl : Nat → Int32) (ao : Nat) (fo : Nat → Int64) (x1 : Int32) (x2 : Int32) (x3 : Int32) (x4 : Int32) (x5 : Int32) {rm : Room} {mc ms : Nat} (hC : cMx l y_BL_add (.code y_BL_add b_BL_add 9 (some .int) :: gw) rm g [.ref (ad 0), .int x1, .int x2, .int x3, .int x4, .int x5] (cw g ad ar fl) ISE mc ms) (hrm : rm.cells = mc ∧ rm.slots = ms) : cWi l y_LW_add (.codeWith y_LW_add b_LW_add 8 (some .int) [(0, 16, 19, 13), (0, 16, 23, 15)] :: gw) { frames := rm.frames + 1, cells := mc, slots := ms, locals := 8 + (9 + 11) + rm.locals } g [.ref (ad 0), .int x1, .int x2, .int x3, .int x4, .int x5, .ref ao] (cw g ad ar fl ++ xo g ao fo) (fun (r : Int32) (_ : Unit) => r = 2) (fun _ => cw g ad ar fl ++ xo g ao fo) mc ms := by
  refine cWi_of (by decide) (Nat.le_of_ble_eq_true rfl) ?_
  intro p e s m below meth c A Q ls M hX hmap hret hl hI
  have hl : lv_has ls 8 [(0, .ref (ad 0)), (1, .int x1), (2, .int x2), (3, .int x3), (4, .int x4), (5, .int x5), (6, .ref ao)] := hl
  generalize ([.ref (ad 0), .int x1, .int x2, .int x3, .int x4, .int x5, .ref ao] : List Value).toArray = args at M hret ⊢
  have hx := M.1
  have hb := M.2.1
  refine lv_aload hx hb d_LW_add_0 (lv_at hl 6 rfl) ?_
  refine lv_iconst (v := 0) hx hb d_LW_add_2 (by decide) ?_
  refine lv_aload_n hx hb d_LW_add_3 rfl (lv_at hl 0 rfl) ?_
  refine lv_iload_n hx hb d_LW_add_4 rfl (lv_at hl 1 rfl) ?_
  refine lv_iload_n hx hb d_LW_add_5 rfl (lv_at hl 2 rfl) ?_
  refine lv_iload_n hx hb d_LW_add_6 rfl (lv_at hl 3 rfl) ?_
  refine lv_iload hx hb d_LW_add_7 (lv_at hl 4 rfl) ?_
  refine lv_iload hx hb d_LW_add_9 (lv_at hl 5 rfl) ?_
  obtain ⟨e0, e1, hL, f0, f1⟩ := ex_2 hmap
  obtain ⟨v0, n0, p0, t0⟩ := ex_f (pc := 11) f0 (by decide) (by decide) (by decide)
  obtain ⟨v1, n1, p1, t1⟩ := ex_f (pc := 11) f1 (by decide) (by decide) (by decide)
  refine q_catch [.int x1, .int x2, .int x3, .int x4, .int x5] M hX hI.left hC ok_BL_add m3_34 m3_35 m3_36 0 rfl rfl rfl rfl hl.1 hrm ⟨Nat.le_refl _, Nat.le_refl _⟩ (Nat.le_of_ble_eq_true rfl) ⟨Nat.le_refl _, Nat.le_refl _⟩ d_LW_add_11 (pre := [e0]) (x := e1) (post := []) hL v1 n1 (by rw [t1]; exact m2_132) (List.forall_mem_cons.mpr ⟨⟨v0, n0, IAE, by rw [t0]; exact m2_131, by decide⟩, fun _ h => absurd h List.not_mem_nil⟩) (fun H1 v hsz hold => ?_)
  rw [p1]
  refine lv_astore (lv' := [(7, .ref v), (0, .ref (ad 0)), (1, .int x1), (2, .int x2), (3, .int x3), (4, .int x4), (5, .int x5), (6, .ref ao)]) hx hb d_LW_add_23 hl (by decide) rfl (fun ls hl => ?_)
  refine lv_iconst (v := 2) hx hb d_LW_add_25 (by decide) ?_
  exact hret 2 () _ _ _ _ _ _ d_LW_add_26 (hI.old hsz hold) rfl (Nat.le_refl _) (Nat.le_refl _)
theorem d_LW_resolve_0 : decode b_LW_resolve 0 = .ok (.aload_n 2, 1) := by decide +kernel
theorem d_LW_resolve_1 : decode b_LW_resolve 1 = .ok (.iconst 0, 1) := by decide +kernel
theorem d_LW_resolve_2 : decode b_LW_resolve 2 = .ok (.aload_n 0, 1) := by decide +kernel
theorem d_LW_resolve_3 : decode b_LW_resolve 3 = .ok (.iload_n 1, 1) := by decide +kernel
theorem d_LW_resolve_4 : decode b_LW_resolve 4 = .ok (.invokevirtual 28, 3) := by decide +kernel
theorem d_LW_resolve_7 : decode b_LW_resolve 7 = .ok (.i2l, 1) := by decide +kernel
theorem d_LW_resolve_8 : decode b_LW_resolve 8 = .ok (.lastore, 1) := by decide +kernel
theorem d_LW_resolve_9 : decode b_LW_resolve 9 = .ok (.goto 6, 3) := by decide +kernel
theorem d_LW_resolve_12 : decode b_LW_resolve 12 = .ok (.astore_n 3, 1) := by decide +kernel
theorem d_LW_resolve_13 : decode b_LW_resolve 13 = .ok (.iconst 1, 1) := by decide +kernel
theorem d_LW_resolve_14 : decode b_LW_resolve 14 = .ok (.ireturn, 1) := by decide +kernel
theorem d_LW_resolve_15 : decode b_LW_resolve 15 = .ok (.iconst 0, 1) := by decide +kernel
theorem d_LW_resolve_16 : decode b_LW_resolve 16 = .ok (.ireturn, 1) := by decide +kernel
set_option maxRecDepth 100000 in
theorem lw_resolve_0 (l : Launch) (g : Geo) (ad : Nat → Nat) (ar : Nat → Nat → Int32) (fl : Nat → Int32) (ao : Nat) (fo : Nat → Int64) (x1 : Int32) {S : Type} {rm : Room} {mc ms : Nat} {post : Int32 → S → Prop} {w1 : S → va_W} (hC : cMi l y_BL_resolve (.code y_BL_resolve b_BL_resolve 2 (some .int) :: gw) rm g [.ref (ad 0), .int x1] (cw g ad ar fl) post w1 mc ms) (hrm : rm.cells = mc ∧ rm.slots = ms) : cWi l y_LW_resolve (.codeWith y_LW_resolve b_LW_resolve 4 (some .int) [(0, 9, 12, 13)] :: gw) { frames := rm.frames + 1, cells := mc, slots := ms, locals := 8 + (2 + 11) + rm.locals } g [.ref (ad 0), .int x1, .ref ao] (cw g ad ar fl ++ xo g ao fo) (fun (r : Int32) (u : S × Int32) => r = 0 ∧ post u.2 u.1) (fun u => w1 u.1 ++ xo g ao (vp_updL fo 0 u.2.toInt64)) mc ms := by
  refine cWi_of (by decide) (Nat.le_of_ble_eq_true rfl) ?_
  intro p e s m below meth c A Q ls M hX hmap hret hl hI
  have hl : lv_has ls 4 [(0, .ref (ad 0)), (1, .int x1), (2, .ref ao)] := hl
  generalize ([.ref (ad 0), .int x1, .ref ao] : List Value).toArray = args at M hret ⊢
  have hx := M.1
  have hb := M.2.1
  refine lv_aload_n hx hb d_LW_resolve_0 rfl (lv_at hl 2 rfl) ?_
  refine lv_iconst (v := 0) hx hb d_LW_resolve_1 (by decide) ?_
  refine lv_aload_n hx hb d_LW_resolve_2 rfl (lv_at hl 0 rfl) ?_
  refine lv_iload_n hx hb d_LW_resolve_3 rfl (lv_at hl 1 rfl) ?_
  refine q_calliB [.int x1] M hI hC ok_BL_resolve m3_51 m3_52 m3_53 0 rfl rfl rfl rfl hl.1 hrm ⟨Nat.le_refl _, Nat.le_refl _⟩ (Nat.le_of_ble_eq_true rfl) ⟨Nat.le_of_eq (Nat.zero_add _), Nat.le_of_eq (Nat.zero_add _)⟩ d_LW_resolve_4 (fun r u H locs hp hB => ?_)
  refine lv_i2l (v := r.toInt64) hx hb d_LW_resolve_7 rfl ?_
  refine q_stO M hB d_LW_resolve_8 (fun H locs hB => ?_)
  refine lv_goto (tgt := 15) hx hb d_LW_resolve_9 (by decide) ?_
  refine lv_iconst (v := 0) hx hb d_LW_resolve_15 (by decide) ?_
  exact hret 0 (u, r) _ _ _ _ _ _ d_LW_resolve_16 hB ⟨rfl, hp⟩ (Nat.le_of_eq (Nat.zero_add _)) (Nat.le_of_eq (Nat.zero_add _))
set_option maxRecDepth 100000 in
theorem lw_resolve_1 (l : Launch) (g : Geo) (ad : Nat → Nat) (ar : Nat → Nat → Int32) (fl : Nat → Int32) (ao : Nat) (fo : Nat → Int64) (x1 : Int32) {rm : Room} {mc ms : Nat} (hC : cMx l y_BL_resolve (.code y_BL_resolve b_BL_resolve 2 (some .int) :: gw) rm g [.ref (ad 0), .int x1] (cw g ad ar fl) IAE mc ms) (hrm : rm.cells = mc ∧ rm.slots = ms) : cWi l y_LW_resolve (.codeWith y_LW_resolve b_LW_resolve 4 (some .int) [(0, 9, 12, 13)] :: gw) { frames := rm.frames + 1, cells := mc, slots := ms, locals := 8 + (2 + 11) + rm.locals } g [.ref (ad 0), .int x1, .ref ao] (cw g ad ar fl ++ xo g ao fo) (fun (r : Int32) (_ : Unit) => r = 1) (fun _ => cw g ad ar fl ++ xo g ao fo) mc ms := by
  refine cWi_of (by decide) (Nat.le_of_ble_eq_true rfl) ?_
  intro p e s m below meth c A Q ls M hX hmap hret hl hI
  have hl : lv_has ls 4 [(0, .ref (ad 0)), (1, .int x1), (2, .ref ao)] := hl
  generalize ([.ref (ad 0), .int x1, .ref ao] : List Value).toArray = args at M hret ⊢
  have hx := M.1
  have hb := M.2.1
  refine lv_aload_n hx hb d_LW_resolve_0 rfl (lv_at hl 2 rfl) ?_
  refine lv_iconst (v := 0) hx hb d_LW_resolve_1 (by decide) ?_
  refine lv_aload_n hx hb d_LW_resolve_2 rfl (lv_at hl 0 rfl) ?_
  refine lv_iload_n hx hb d_LW_resolve_3 rfl (lv_at hl 1 rfl) ?_
  obtain ⟨e0, hL, f0⟩ := ex_1 hmap
  obtain ⟨v0, n0, p0, t0⟩ := ex_f (pc := 4) f0 (by decide) (by decide) (by decide)
  refine q_catch [.int x1] M hX hI.left hC ok_BL_resolve m3_51 m3_52 m3_53 0 rfl rfl rfl rfl hl.1 hrm ⟨Nat.le_refl _, Nat.le_refl _⟩ (Nat.le_of_ble_eq_true rfl) ⟨Nat.le_refl _, Nat.le_refl _⟩ d_LW_resolve_4 (pre := []) (x := e0) (post := []) hL v0 n0 (by rw [t0]; exact m2_131) (fun _ h => absurd h List.not_mem_nil) (fun H1 v hsz hold => ?_)
  rw [p0]
  refine lv_astore_n (lv' := [(3, .ref v), (0, .ref (ad 0)), (1, .int x1), (2, .ref ao)]) hx hb d_LW_resolve_12 rfl hl (by decide) rfl (fun ls hl => ?_)
  refine lv_iconst (v := 1) hx hb d_LW_resolve_13 (by decide) ?_
  exact hret 1 () _ _ _ _ _ _ d_LW_resolve_14 (hI.old hsz hold) rfl (Nat.le_refl _) (Nat.le_refl _)
theorem d_LW_paragraph_0 : decode b_LW_paragraph 0 = .ok (.aload_n 3, 1) := by decide +kernel
theorem d_LW_paragraph_1 : decode b_LW_paragraph 1 = .ok (.iconst 0, 1) := by decide +kernel
theorem d_LW_paragraph_2 : decode b_LW_paragraph 2 = .ok (.aload_n 0, 1) := by decide +kernel
theorem d_LW_paragraph_3 : decode b_LW_paragraph 3 = .ok (.iload_n 1, 1) := by decide +kernel
theorem d_LW_paragraph_4 : decode b_LW_paragraph 4 = .ok (.iload_n 2, 1) := by decide +kernel
theorem d_LW_paragraph_5 : decode b_LW_paragraph 5 = .ok (.invokevirtual 32, 3) := by decide +kernel
theorem d_LW_paragraph_8 : decode b_LW_paragraph 8 = .ok (.i2l, 1) := by decide +kernel
theorem d_LW_paragraph_9 : decode b_LW_paragraph 9 = .ok (.lastore, 1) := by decide +kernel
theorem d_LW_paragraph_10 : decode b_LW_paragraph 10 = .ok (.goto 11, 3) := by decide +kernel
theorem d_LW_paragraph_13 : decode b_LW_paragraph 13 = .ok (.astore 4, 2) := by decide +kernel
theorem d_LW_paragraph_15 : decode b_LW_paragraph 15 = .ok (.iconst 1, 1) := by decide +kernel
theorem d_LW_paragraph_16 : decode b_LW_paragraph 16 = .ok (.ireturn, 1) := by decide +kernel
theorem d_LW_paragraph_17 : decode b_LW_paragraph 17 = .ok (.astore 4, 2) := by decide +kernel
theorem d_LW_paragraph_19 : decode b_LW_paragraph 19 = .ok (.iconst 2, 1) := by decide +kernel
theorem d_LW_paragraph_20 : decode b_LW_paragraph 20 = .ok (.ireturn, 1) := by decide +kernel
theorem d_LW_paragraph_21 : decode b_LW_paragraph 21 = .ok (.iconst 0, 1) := by decide +kernel
theorem d_LW_paragraph_22 : decode b_LW_paragraph 22 = .ok (.ireturn, 1) := by decide +kernel
set_option maxRecDepth 100000 in
theorem lw_paragraph_0 (l : Launch) (g : Geo) (ad : Nat → Nat) (ar : Nat → Nat → Int32) (fl : Nat → Int32) (ao : Nat) (fo : Nat → Int64) (x1 : Int32) (x2 : Int32) {S : Type} {rm : Room} {mc ms : Nat} {post : Int32 → S → Prop} {w1 : S → va_W} (hC : cMi l y_BL_paragraph (.code y_BL_paragraph b_BL_paragraph 3 (some .int) :: gw) rm g [.ref (ad 0), .int x1, .int x2] (cw g ad ar fl) post w1 mc ms) (hrm : rm.cells = mc ∧ rm.slots = ms) : cWi l y_LW_paragraph (.codeWith y_LW_paragraph b_LW_paragraph 5 (some .int) [(0, 10, 13, 15), (0, 10, 17, 36)] :: gw) { frames := rm.frames + 1, cells := mc, slots := ms, locals := 8 + (3 + 11) + rm.locals } g [.ref (ad 0), .int x1, .int x2, .ref ao] (cw g ad ar fl ++ xo g ao fo) (fun (r : Int32) (u : S × Int32) => r = 0 ∧ post u.2 u.1) (fun u => w1 u.1 ++ xo g ao (vp_updL fo 0 u.2.toInt64)) mc ms := by
  refine cWi_of (by decide) (Nat.le_of_ble_eq_true rfl) ?_
  intro p e s m below meth c A Q ls M hX hmap hret hl hI
  have hl : lv_has ls 5 [(0, .ref (ad 0)), (1, .int x1), (2, .int x2), (3, .ref ao)] := hl
  generalize ([.ref (ad 0), .int x1, .int x2, .ref ao] : List Value).toArray = args at M hret ⊢
  have hx := M.1
  have hb := M.2.1
  refine lv_aload_n hx hb d_LW_paragraph_0 rfl (lv_at hl 3 rfl) ?_
  refine lv_iconst (v := 0) hx hb d_LW_paragraph_1 (by decide) ?_
  refine lv_aload_n hx hb d_LW_paragraph_2 rfl (lv_at hl 0 rfl) ?_
  refine lv_iload_n hx hb d_LW_paragraph_3 rfl (lv_at hl 1 rfl) ?_
  refine lv_iload_n hx hb d_LW_paragraph_4 rfl (lv_at hl 2 rfl) ?_
  refine q_calliB [.int x1, .int x2] M hI hC ok_BL_paragraph m4_40 m4_41 m4_42 0 rfl rfl rfl rfl hl.1 hrm ⟨Nat.le_refl _, Nat.le_refl _⟩ (Nat.le_of_ble_eq_true rfl) ⟨Nat.le_of_eq (Nat.zero_add _), Nat.le_of_eq (Nat.zero_add _)⟩ d_LW_paragraph_5 (fun r u H locs hp hB => ?_)
  refine lv_i2l (v := r.toInt64) hx hb d_LW_paragraph_8 rfl ?_
  refine q_stO M hB d_LW_paragraph_9 (fun H locs hB => ?_)
  refine lv_goto (tgt := 21) hx hb d_LW_paragraph_10 (by decide) ?_
  refine lv_iconst (v := 0) hx hb d_LW_paragraph_21 (by decide) ?_
  exact hret 0 (u, r) _ _ _ _ _ _ d_LW_paragraph_22 hB ⟨rfl, hp⟩ (Nat.le_of_eq (Nat.zero_add _)) (Nat.le_of_eq (Nat.zero_add _))
set_option maxRecDepth 100000 in
theorem lw_paragraph_1 (l : Launch) (g : Geo) (ad : Nat → Nat) (ar : Nat → Nat → Int32) (fl : Nat → Int32) (ao : Nat) (fo : Nat → Int64) (x1 : Int32) (x2 : Int32) {rm : Room} {mc ms : Nat} (hC : cMx l y_BL_paragraph (.code y_BL_paragraph b_BL_paragraph 3 (some .int) :: gw) rm g [.ref (ad 0), .int x1, .int x2] (cw g ad ar fl) ISE mc ms) (hrm : rm.cells = mc ∧ rm.slots = ms) : cWi l y_LW_paragraph (.codeWith y_LW_paragraph b_LW_paragraph 5 (some .int) [(0, 10, 13, 15), (0, 10, 17, 36)] :: gw) { frames := rm.frames + 1, cells := mc, slots := ms, locals := 8 + (3 + 11) + rm.locals } g [.ref (ad 0), .int x1, .int x2, .ref ao] (cw g ad ar fl ++ xo g ao fo) (fun (r : Int32) (_ : Unit) => r = 1) (fun _ => cw g ad ar fl ++ xo g ao fo) mc ms := by
  refine cWi_of (by decide) (Nat.le_of_ble_eq_true rfl) ?_
  intro p e s m below meth c A Q ls M hX hmap hret hl hI
  have hl : lv_has ls 5 [(0, .ref (ad 0)), (1, .int x1), (2, .int x2), (3, .ref ao)] := hl
  generalize ([.ref (ad 0), .int x1, .int x2, .ref ao] : List Value).toArray = args at M hret ⊢
  have hx := M.1
  have hb := M.2.1
  refine lv_aload_n hx hb d_LW_paragraph_0 rfl (lv_at hl 3 rfl) ?_
  refine lv_iconst (v := 0) hx hb d_LW_paragraph_1 (by decide) ?_
  refine lv_aload_n hx hb d_LW_paragraph_2 rfl (lv_at hl 0 rfl) ?_
  refine lv_iload_n hx hb d_LW_paragraph_3 rfl (lv_at hl 1 rfl) ?_
  refine lv_iload_n hx hb d_LW_paragraph_4 rfl (lv_at hl 2 rfl) ?_
  obtain ⟨e0, e1, hL, f0, f1⟩ := ex_2 hmap
  obtain ⟨v0, n0, p0, t0⟩ := ex_f (pc := 5) f0 (by decide) (by decide) (by decide)
  refine q_catch [.int x1, .int x2] M hX hI.left hC ok_BL_paragraph m4_40 m4_41 m4_42 0 rfl rfl rfl rfl hl.1 hrm ⟨Nat.le_refl _, Nat.le_refl _⟩ (Nat.le_of_ble_eq_true rfl) ⟨Nat.le_refl _, Nat.le_refl _⟩ d_LW_paragraph_5 (pre := []) (x := e0) (post := [e1]) hL v0 n0 (by rw [t0]; exact m2_132) (fun _ h => absurd h List.not_mem_nil) (fun H1 v hsz hold => ?_)
  rw [p0]
  refine lv_astore (lv' := [(4, .ref v), (0, .ref (ad 0)), (1, .int x1), (2, .int x2), (3, .ref ao)]) hx hb d_LW_paragraph_13 hl (by decide) rfl (fun ls hl => ?_)
  refine lv_iconst (v := 1) hx hb d_LW_paragraph_15 (by decide) ?_
  exact hret 1 () _ _ _ _ _ _ d_LW_paragraph_16 (hI.old hsz hold) rfl (Nat.le_refl _) (Nat.le_refl _)
set_option maxRecDepth 100000 in
theorem lw_paragraph_2 (l : Launch) (g : Geo) (ad : Nat → Nat) (ar : Nat → Nat → Int32) (fl : Nat → Int32) (ao : Nat) (fo : Nat → Int64) (x1 : Int32) (x2 : Int32) {rm : Room} {mc ms : Nat} (hC : cMx l y_BL_paragraph (.code y_BL_paragraph b_BL_paragraph 3 (some .int) :: gw) rm g [.ref (ad 0), .int x1, .int x2] (cw g ad ar fl) IOB mc ms) (hrm : rm.cells = mc ∧ rm.slots = ms) : cWi l y_LW_paragraph (.codeWith y_LW_paragraph b_LW_paragraph 5 (some .int) [(0, 10, 13, 15), (0, 10, 17, 36)] :: gw) { frames := rm.frames + 1, cells := mc, slots := ms, locals := 8 + (3 + 11) + rm.locals } g [.ref (ad 0), .int x1, .int x2, .ref ao] (cw g ad ar fl ++ xo g ao fo) (fun (r : Int32) (_ : Unit) => r = 2) (fun _ => cw g ad ar fl ++ xo g ao fo) mc ms := by
  refine cWi_of (by decide) (Nat.le_of_ble_eq_true rfl) ?_
  intro p e s m below meth c A Q ls M hX hmap hret hl hI
  have hl : lv_has ls 5 [(0, .ref (ad 0)), (1, .int x1), (2, .int x2), (3, .ref ao)] := hl
  generalize ([.ref (ad 0), .int x1, .int x2, .ref ao] : List Value).toArray = args at M hret ⊢
  have hx := M.1
  have hb := M.2.1
  refine lv_aload_n hx hb d_LW_paragraph_0 rfl (lv_at hl 3 rfl) ?_
  refine lv_iconst (v := 0) hx hb d_LW_paragraph_1 (by decide) ?_
  refine lv_aload_n hx hb d_LW_paragraph_2 rfl (lv_at hl 0 rfl) ?_
  refine lv_iload_n hx hb d_LW_paragraph_3 rfl (lv_at hl 1 rfl) ?_
  refine lv_iload_n hx hb d_LW_paragraph_4 rfl (lv_at hl 2 rfl) ?_
  obtain ⟨e0, e1, hL, f0, f1⟩ := ex_2 hmap
  obtain ⟨v0, n0, p0, t0⟩ := ex_f (pc := 5) f0 (by decide) (by decide) (by decide)
  obtain ⟨v1, n1, p1, t1⟩ := ex_f (pc := 5) f1 (by decide) (by decide) (by decide)
  refine q_catch [.int x1, .int x2] M hX hI.left hC ok_BL_paragraph m4_40 m4_41 m4_42 0 rfl rfl rfl rfl hl.1 hrm ⟨Nat.le_refl _, Nat.le_refl _⟩ (Nat.le_of_ble_eq_true rfl) ⟨Nat.le_refl _, Nat.le_refl _⟩ d_LW_paragraph_5 (pre := [e0]) (x := e1) (post := []) hL v1 n1 (by rw [t1]; exact m4_39) (List.forall_mem_cons.mpr ⟨⟨v0, n0, ISE, by rw [t0]; exact m2_132, by decide⟩, fun _ h => absurd h List.not_mem_nil⟩) (fun H1 v hsz hold => ?_)
  rw [p1]
  refine lv_astore (lv' := [(4, .ref v), (0, .ref (ad 0)), (1, .int x1), (2, .int x2), (3, .ref ao)]) hx hb d_LW_paragraph_17 hl (by decide) rfl (fun ls hl => ?_)
  refine lv_iconst (v := 2) hx hb d_LW_paragraph_19 (by decide) ?_
  exact hret 2 () _ _ _ _ _ _ d_LW_paragraph_20 (hI.old hsz hold) rfl (Nat.le_refl _) (Nat.le_refl _)
theorem d_LW_level_0 : decode b_LW_level 0 = .ok (.aload_n 2, 1) := by decide +kernel
theorem d_LW_level_1 : decode b_LW_level 1 = .ok (.iconst 0, 1) := by decide +kernel
theorem d_LW_level_2 : decode b_LW_level 2 = .ok (.aload_n 0, 1) := by decide +kernel
theorem d_LW_level_3 : decode b_LW_level 3 = .ok (.iload_n 1, 1) := by decide +kernel
theorem d_LW_level_4 : decode b_LW_level 4 = .ok (.invokevirtual 38, 3) := by decide +kernel
theorem d_LW_level_7 : decode b_LW_level 7 = .ok (.i2l, 1) := by decide +kernel
theorem d_LW_level_8 : decode b_LW_level 8 = .ok (.lastore, 1) := by decide +kernel
theorem d_LW_level_9 : decode b_LW_level 9 = .ok (.goto 9, 3) := by decide +kernel
theorem d_LW_level_12 : decode b_LW_level 12 = .ok (.astore_n 3, 1) := by decide +kernel
theorem d_LW_level_13 : decode b_LW_level 13 = .ok (.iconst 1, 1) := by decide +kernel
theorem d_LW_level_14 : decode b_LW_level 14 = .ok (.ireturn, 1) := by decide +kernel
theorem d_LW_level_15 : decode b_LW_level 15 = .ok (.astore_n 3, 1) := by decide +kernel
theorem d_LW_level_16 : decode b_LW_level 16 = .ok (.iconst 2, 1) := by decide +kernel
theorem d_LW_level_17 : decode b_LW_level 17 = .ok (.ireturn, 1) := by decide +kernel
theorem d_LW_level_18 : decode b_LW_level 18 = .ok (.iconst 0, 1) := by decide +kernel
theorem d_LW_level_19 : decode b_LW_level 19 = .ok (.ireturn, 1) := by decide +kernel
set_option maxRecDepth 100000 in
theorem lw_level_0 (l : Launch) (g : Geo) (ad : Nat → Nat) (ar : Nat → Nat → Int32) (fl : Nat → Int32) (ao : Nat) (fo : Nat → Int64) (x1 : Int32) {S : Type} {rm : Room} {mc ms : Nat} {post : Int32 → S → Prop} {w1 : S → va_W} (hC : cMi l y_BL_level (.code y_BL_level b_BL_level 2 (some .int) :: gw) rm g [.ref (ad 0), .int x1] (cw g ad ar fl) post w1 mc ms) (hrm : rm.cells = mc ∧ rm.slots = ms) : cWi l y_LW_level (.codeWith y_LW_level b_LW_level 4 (some .int) [(0, 9, 12, 15), (0, 9, 15, 36)] :: gw) { frames := rm.frames + 1, cells := mc, slots := ms, locals := 8 + (2 + 11) + rm.locals } g [.ref (ad 0), .int x1, .ref ao] (cw g ad ar fl ++ xo g ao fo) (fun (r : Int32) (u : S × Int32) => r = 0 ∧ post u.2 u.1) (fun u => w1 u.1 ++ xo g ao (vp_updL fo 0 u.2.toInt64)) mc ms := by
  refine cWi_of (by decide) (Nat.le_of_ble_eq_true rfl) ?_
  intro p e s m below meth c A Q ls M hX hmap hret hl hI
  have hl : lv_has ls 4 [(0, .ref (ad 0)), (1, .int x1), (2, .ref ao)] := hl
  generalize ([.ref (ad 0), .int x1, .ref ao] : List Value).toArray = args at M hret ⊢
  have hx := M.1
  have hb := M.2.1
  refine lv_aload_n hx hb d_LW_level_0 rfl (lv_at hl 2 rfl) ?_
  refine lv_iconst (v := 0) hx hb d_LW_level_1 (by decide) ?_
  refine lv_aload_n hx hb d_LW_level_2 rfl (lv_at hl 0 rfl) ?_
  refine lv_iload_n hx hb d_LW_level_3 rfl (lv_at hl 1 rfl) ?_
  refine q_calliB [.int x1] M hI hC ok_BL_level m4_69 m4_70 m4_71 0 rfl rfl rfl rfl hl.1 hrm ⟨Nat.le_refl _, Nat.le_refl _⟩ (Nat.le_of_ble_eq_true rfl) ⟨Nat.le_of_eq (Nat.zero_add _), Nat.le_of_eq (Nat.zero_add _)⟩ d_LW_level_4 (fun r u H locs hp hB => ?_)
  refine lv_i2l (v := r.toInt64) hx hb d_LW_level_7 rfl ?_
  refine q_stO M hB d_LW_level_8 (fun H locs hB => ?_)
  refine lv_goto (tgt := 18) hx hb d_LW_level_9 (by decide) ?_
  refine lv_iconst (v := 0) hx hb d_LW_level_18 (by decide) ?_
  exact hret 0 (u, r) _ _ _ _ _ _ d_LW_level_19 hB ⟨rfl, hp⟩ (Nat.le_of_eq (Nat.zero_add _)) (Nat.le_of_eq (Nat.zero_add _))
set_option maxRecDepth 100000 in
theorem lw_level_1 (l : Launch) (g : Geo) (ad : Nat → Nat) (ar : Nat → Nat → Int32) (fl : Nat → Int32) (ao : Nat) (fo : Nat → Int64) (x1 : Int32) {rm : Room} {mc ms : Nat} (hC : cMx l y_BL_level (.code y_BL_level b_BL_level 2 (some .int) :: gw) rm g [.ref (ad 0), .int x1] (cw g ad ar fl) ISE mc ms) (hrm : rm.cells = mc ∧ rm.slots = ms) : cWi l y_LW_level (.codeWith y_LW_level b_LW_level 4 (some .int) [(0, 9, 12, 15), (0, 9, 15, 36)] :: gw) { frames := rm.frames + 1, cells := mc, slots := ms, locals := 8 + (2 + 11) + rm.locals } g [.ref (ad 0), .int x1, .ref ao] (cw g ad ar fl ++ xo g ao fo) (fun (r : Int32) (_ : Unit) => r = 1) (fun _ => cw g ad ar fl ++ xo g ao fo) mc ms := by
  refine cWi_of (by decide) (Nat.le_of_ble_eq_true rfl) ?_
  intro p e s m below meth c A Q ls M hX hmap hret hl hI
  have hl : lv_has ls 4 [(0, .ref (ad 0)), (1, .int x1), (2, .ref ao)] := hl
  generalize ([.ref (ad 0), .int x1, .ref ao] : List Value).toArray = args at M hret ⊢
  have hx := M.1
  have hb := M.2.1
  refine lv_aload_n hx hb d_LW_level_0 rfl (lv_at hl 2 rfl) ?_
  refine lv_iconst (v := 0) hx hb d_LW_level_1 (by decide) ?_
  refine lv_aload_n hx hb d_LW_level_2 rfl (lv_at hl 0 rfl) ?_
  refine lv_iload_n hx hb d_LW_level_3 rfl (lv_at hl 1 rfl) ?_
  obtain ⟨e0, e1, hL, f0, f1⟩ := ex_2 hmap
  obtain ⟨v0, n0, p0, t0⟩ := ex_f (pc := 4) f0 (by decide) (by decide) (by decide)
  refine q_catch [.int x1] M hX hI.left hC ok_BL_level m4_69 m4_70 m4_71 0 rfl rfl rfl rfl hl.1 hrm ⟨Nat.le_refl _, Nat.le_refl _⟩ (Nat.le_of_ble_eq_true rfl) ⟨Nat.le_refl _, Nat.le_refl _⟩ d_LW_level_4 (pre := []) (x := e0) (post := [e1]) hL v0 n0 (by rw [t0]; exact m2_132) (fun _ h => absurd h List.not_mem_nil) (fun H1 v hsz hold => ?_)
  rw [p0]
  refine lv_astore_n (lv' := [(3, .ref v), (0, .ref (ad 0)), (1, .int x1), (2, .ref ao)]) hx hb d_LW_level_12 rfl hl (by decide) rfl (fun ls hl => ?_)
  refine lv_iconst (v := 1) hx hb d_LW_level_13 (by decide) ?_
  exact hret 1 () _ _ _ _ _ _ d_LW_level_14 (hI.old hsz hold) rfl (Nat.le_refl _) (Nat.le_refl _)
set_option maxRecDepth 100000 in
theorem lw_level_2 (l : Launch) (g : Geo) (ad : Nat → Nat) (ar : Nat → Nat → Int32) (fl : Nat → Int32) (ao : Nat) (fo : Nat → Int64) (x1 : Int32) {rm : Room} {mc ms : Nat} (hC : cMx l y_BL_level (.code y_BL_level b_BL_level 2 (some .int) :: gw) rm g [.ref (ad 0), .int x1] (cw g ad ar fl) IOB mc ms) (hrm : rm.cells = mc ∧ rm.slots = ms) : cWi l y_LW_level (.codeWith y_LW_level b_LW_level 4 (some .int) [(0, 9, 12, 15), (0, 9, 15, 36)] :: gw) { frames := rm.frames + 1, cells := mc, slots := ms, locals := 8 + (2 + 11) + rm.locals } g [.ref (ad 0), .int x1, .ref ao] (cw g ad ar fl ++ xo g ao fo) (fun (r : Int32) (_ : Unit) => r = 2) (fun _ => cw g ad ar fl ++ xo g ao fo) mc ms := by
  refine cWi_of (by decide) (Nat.le_of_ble_eq_true rfl) ?_
  intro p e s m below meth c A Q ls M hX hmap hret hl hI
  have hl : lv_has ls 4 [(0, .ref (ad 0)), (1, .int x1), (2, .ref ao)] := hl
  generalize ([.ref (ad 0), .int x1, .ref ao] : List Value).toArray = args at M hret ⊢
  have hx := M.1
  have hb := M.2.1
  refine lv_aload_n hx hb d_LW_level_0 rfl (lv_at hl 2 rfl) ?_
  refine lv_iconst (v := 0) hx hb d_LW_level_1 (by decide) ?_
  refine lv_aload_n hx hb d_LW_level_2 rfl (lv_at hl 0 rfl) ?_
  refine lv_iload_n hx hb d_LW_level_3 rfl (lv_at hl 1 rfl) ?_
  obtain ⟨e0, e1, hL, f0, f1⟩ := ex_2 hmap
  obtain ⟨v0, n0, p0, t0⟩ := ex_f (pc := 4) f0 (by decide) (by decide) (by decide)
  obtain ⟨v1, n1, p1, t1⟩ := ex_f (pc := 4) f1 (by decide) (by decide) (by decide)
  refine q_catch [.int x1] M hX hI.left hC ok_BL_level m4_69 m4_70 m4_71 0 rfl rfl rfl rfl hl.1 hrm ⟨Nat.le_refl _, Nat.le_refl _⟩ (Nat.le_of_ble_eq_true rfl) ⟨Nat.le_refl _, Nat.le_refl _⟩ d_LW_level_4 (pre := [e0]) (x := e1) (post := []) hL v1 n1 (by rw [t1]; exact m4_39) (List.forall_mem_cons.mpr ⟨⟨v0, n0, ISE, by rw [t0]; exact m2_132, by decide⟩, fun _ h => absurd h List.not_mem_nil⟩) (fun H1 v hsz hold => ?_)
  rw [p1]
  refine lv_astore_n (lv' := [(3, .ref v), (0, .ref (ad 0)), (1, .int x1), (2, .ref ao)]) hx hb d_LW_level_15 rfl hl (by decide) rfl (fun ls hl => ?_)
  refine lv_iconst (v := 2) hx hb d_LW_level_16 (by decide) ?_
  exact hret 2 () _ _ _ _ _ _ d_LW_level_17 (hI.old hsz hold) rfl (Nat.le_refl _) (Nat.le_refl _)
theorem d_LW_kind_0 : decode b_LW_kind 0 = .ok (.aload_n 2, 1) := by decide +kernel
theorem d_LW_kind_1 : decode b_LW_kind 1 = .ok (.iconst 0, 1) := by decide +kernel
theorem d_LW_kind_2 : decode b_LW_kind 2 = .ok (.aload_n 0, 1) := by decide +kernel
theorem d_LW_kind_3 : decode b_LW_kind 3 = .ok (.iload_n 1, 1) := by decide +kernel
theorem d_LW_kind_4 : decode b_LW_kind 4 = .ok (.invokevirtual 41, 3) := by decide +kernel
theorem d_LW_kind_7 : decode b_LW_kind 7 = .ok (.i2l, 1) := by decide +kernel
theorem d_LW_kind_8 : decode b_LW_kind 8 = .ok (.lastore, 1) := by decide +kernel
theorem d_LW_kind_9 : decode b_LW_kind 9 = .ok (.goto 9, 3) := by decide +kernel
theorem d_LW_kind_12 : decode b_LW_kind 12 = .ok (.astore_n 3, 1) := by decide +kernel
theorem d_LW_kind_13 : decode b_LW_kind 13 = .ok (.iconst 1, 1) := by decide +kernel
theorem d_LW_kind_14 : decode b_LW_kind 14 = .ok (.ireturn, 1) := by decide +kernel
theorem d_LW_kind_15 : decode b_LW_kind 15 = .ok (.astore_n 3, 1) := by decide +kernel
theorem d_LW_kind_16 : decode b_LW_kind 16 = .ok (.iconst 2, 1) := by decide +kernel
theorem d_LW_kind_17 : decode b_LW_kind 17 = .ok (.ireturn, 1) := by decide +kernel
theorem d_LW_kind_18 : decode b_LW_kind 18 = .ok (.iconst 0, 1) := by decide +kernel
theorem d_LW_kind_19 : decode b_LW_kind 19 = .ok (.ireturn, 1) := by decide +kernel
set_option maxRecDepth 100000 in
theorem lw_kind_0 (l : Launch) (g : Geo) (ad : Nat → Nat) (ar : Nat → Nat → Int32) (fl : Nat → Int32) (ao : Nat) (fo : Nat → Int64) (x1 : Int32) {S : Type} {rm : Room} {mc ms : Nat} {post : Int32 → S → Prop} {w1 : S → va_W} (hC : cMi l y_BL_kind (.code y_BL_kind b_BL_kind 2 (some .int) :: gw) rm g [.ref (ad 0), .int x1] (cw g ad ar fl) post w1 mc ms) (hrm : rm.cells = mc ∧ rm.slots = ms) : cWi l y_LW_kind (.codeWith y_LW_kind b_LW_kind 4 (some .int) [(0, 9, 12, 15), (0, 9, 15, 36)] :: gw) { frames := rm.frames + 1, cells := mc, slots := ms, locals := 8 + (2 + 11) + rm.locals } g [.ref (ad 0), .int x1, .ref ao] (cw g ad ar fl ++ xo g ao fo) (fun (r : Int32) (u : S × Int32) => r = 0 ∧ post u.2 u.1) (fun u => w1 u.1 ++ xo g ao (vp_updL fo 0 u.2.toInt64)) mc ms := by
  refine cWi_of (by decide) (Nat.le_of_ble_eq_true rfl) ?_
  intro p e s m below meth c A Q ls M hX hmap hret hl hI
  have hl : lv_has ls 4 [(0, .ref (ad 0)), (1, .int x1), (2, .ref ao)] := hl
  generalize ([.ref (ad 0), .int x1, .ref ao] : List Value).toArray = args at M hret ⊢
  have hx := M.1
  have hb := M.2.1
  refine lv_aload_n hx hb d_LW_kind_0 rfl (lv_at hl 2 rfl) ?_
  refine lv_iconst (v := 0) hx hb d_LW_kind_1 (by decide) ?_
  refine lv_aload_n hx hb d_LW_kind_2 rfl (lv_at hl 0 rfl) ?_
  refine lv_iload_n hx hb d_LW_kind_3 rfl (lv_at hl 1 rfl) ?_
  refine q_calliB [.int x1] M hI hC ok_BL_kind m4_81 m4_82 m4_83 0 rfl rfl rfl rfl hl.1 hrm ⟨Nat.le_refl _, Nat.le_refl _⟩ (Nat.le_of_ble_eq_true rfl) ⟨Nat.le_of_eq (Nat.zero_add _), Nat.le_of_eq (Nat.zero_add _)⟩ d_LW_kind_4 (fun r u H locs hp hB => ?_)
  refine lv_i2l (v := r.toInt64) hx hb d_LW_kind_7 rfl ?_
  refine q_stO M hB d_LW_kind_8 (fun H locs hB => ?_)
  refine lv_goto (tgt := 18) hx hb d_LW_kind_9 (by decide) ?_
  refine lv_iconst (v := 0) hx hb d_LW_kind_18 (by decide) ?_
  exact hret 0 (u, r) _ _ _ _ _ _ d_LW_kind_19 hB ⟨rfl, hp⟩ (Nat.le_of_eq (Nat.zero_add _)) (Nat.le_of_eq (Nat.zero_add _))
set_option maxRecDepth 100000 in
theorem lw_kind_1 (l : Launch) (g : Geo) (ad : Nat → Nat) (ar : Nat → Nat → Int32) (fl : Nat → Int32) (ao : Nat) (fo : Nat → Int64) (x1 : Int32) {rm : Room} {mc ms : Nat} (hC : cMx l y_BL_kind (.code y_BL_kind b_BL_kind 2 (some .int) :: gw) rm g [.ref (ad 0), .int x1] (cw g ad ar fl) ISE mc ms) (hrm : rm.cells = mc ∧ rm.slots = ms) : cWi l y_LW_kind (.codeWith y_LW_kind b_LW_kind 4 (some .int) [(0, 9, 12, 15), (0, 9, 15, 36)] :: gw) { frames := rm.frames + 1, cells := mc, slots := ms, locals := 8 + (2 + 11) + rm.locals } g [.ref (ad 0), .int x1, .ref ao] (cw g ad ar fl ++ xo g ao fo) (fun (r : Int32) (_ : Unit) => r = 1) (fun _ => cw g ad ar fl ++ xo g ao fo) mc ms := by
  refine cWi_of (by decide) (Nat.le_of_ble_eq_true rfl) ?_
  intro p e s m below meth c A Q ls M hX hmap hret hl hI
  have hl : lv_has ls 4 [(0, .ref (ad 0)), (1, .int x1), (2, .ref ao)] := hl
  generalize ([.ref (ad 0), .int x1, .ref ao] : List Value).toArray = args at M hret ⊢
  have hx := M.1
  have hb := M.2.1
  refine lv_aload_n hx hb d_LW_kind_0 rfl (lv_at hl 2 rfl) ?_
  refine lv_iconst (v := 0) hx hb d_LW_kind_1 (by decide) ?_
  refine lv_aload_n hx hb d_LW_kind_2 rfl (lv_at hl 0 rfl) ?_
  refine lv_iload_n hx hb d_LW_kind_3 rfl (lv_at hl 1 rfl) ?_
  obtain ⟨e0, e1, hL, f0, f1⟩ := ex_2 hmap
  obtain ⟨v0, n0, p0, t0⟩ := ex_f (pc := 4) f0 (by decide) (by decide) (by decide)
  refine q_catch [.int x1] M hX hI.left hC ok_BL_kind m4_81 m4_82 m4_83 0 rfl rfl rfl rfl hl.1 hrm ⟨Nat.le_refl _, Nat.le_refl _⟩ (Nat.le_of_ble_eq_true rfl) ⟨Nat.le_refl _, Nat.le_refl _⟩ d_LW_kind_4 (pre := []) (x := e0) (post := [e1]) hL v0 n0 (by rw [t0]; exact m2_132) (fun _ h => absurd h List.not_mem_nil) (fun H1 v hsz hold => ?_)
  rw [p0]
  refine lv_astore_n (lv' := [(3, .ref v), (0, .ref (ad 0)), (1, .int x1), (2, .ref ao)]) hx hb d_LW_kind_12 rfl hl (by decide) rfl (fun ls hl => ?_)
  refine lv_iconst (v := 1) hx hb d_LW_kind_13 (by decide) ?_
  exact hret 1 () _ _ _ _ _ _ d_LW_kind_14 (hI.old hsz hold) rfl (Nat.le_refl _) (Nat.le_refl _)
set_option maxRecDepth 100000 in
theorem lw_kind_2 (l : Launch) (g : Geo) (ad : Nat → Nat) (ar : Nat → Nat → Int32) (fl : Nat → Int32) (ao : Nat) (fo : Nat → Int64) (x1 : Int32) {rm : Room} {mc ms : Nat} (hC : cMx l y_BL_kind (.code y_BL_kind b_BL_kind 2 (some .int) :: gw) rm g [.ref (ad 0), .int x1] (cw g ad ar fl) IOB mc ms) (hrm : rm.cells = mc ∧ rm.slots = ms) : cWi l y_LW_kind (.codeWith y_LW_kind b_LW_kind 4 (some .int) [(0, 9, 12, 15), (0, 9, 15, 36)] :: gw) { frames := rm.frames + 1, cells := mc, slots := ms, locals := 8 + (2 + 11) + rm.locals } g [.ref (ad 0), .int x1, .ref ao] (cw g ad ar fl ++ xo g ao fo) (fun (r : Int32) (_ : Unit) => r = 2) (fun _ => cw g ad ar fl ++ xo g ao fo) mc ms := by
  refine cWi_of (by decide) (Nat.le_of_ble_eq_true rfl) ?_
  intro p e s m below meth c A Q ls M hX hmap hret hl hI
  have hl : lv_has ls 4 [(0, .ref (ad 0)), (1, .int x1), (2, .ref ao)] := hl
  generalize ([.ref (ad 0), .int x1, .ref ao] : List Value).toArray = args at M hret ⊢
  have hx := M.1
  have hb := M.2.1
  refine lv_aload_n hx hb d_LW_kind_0 rfl (lv_at hl 2 rfl) ?_
  refine lv_iconst (v := 0) hx hb d_LW_kind_1 (by decide) ?_
  refine lv_aload_n hx hb d_LW_kind_2 rfl (lv_at hl 0 rfl) ?_
  refine lv_iload_n hx hb d_LW_kind_3 rfl (lv_at hl 1 rfl) ?_
  obtain ⟨e0, e1, hL, f0, f1⟩ := ex_2 hmap
  obtain ⟨v0, n0, p0, t0⟩ := ex_f (pc := 4) f0 (by decide) (by decide) (by decide)
  obtain ⟨v1, n1, p1, t1⟩ := ex_f (pc := 4) f1 (by decide) (by decide) (by decide)
  refine q_catch [.int x1] M hX hI.left hC ok_BL_kind m4_81 m4_82 m4_83 0 rfl rfl rfl rfl hl.1 hrm ⟨Nat.le_refl _, Nat.le_refl _⟩ (Nat.le_of_ble_eq_true rfl) ⟨Nat.le_refl _, Nat.le_refl _⟩ d_LW_kind_4 (pre := [e0]) (x := e1) (post := []) hL v1 n1 (by rw [t1]; exact m4_39) (List.forall_mem_cons.mpr ⟨⟨v0, n0, ISE, by rw [t0]; exact m2_132, by decide⟩, fun _ h => absurd h List.not_mem_nil⟩) (fun H1 v hsz hold => ?_)
  rw [p1]
  refine lv_astore_n (lv' := [(3, .ref v), (0, .ref (ad 0)), (1, .int x1), (2, .ref ao)]) hx hb d_LW_kind_15 rfl hl (by decide) rfl (fun ls hl => ?_)
  refine lv_iconst (v := 2) hx hb d_LW_kind_16 (by decide) ?_
  exact hret 2 () _ _ _ _ _ _ d_LW_kind_17 (hI.old hsz hold) rfl (Nat.le_refl _) (Nat.le_refl _)
theorem d_LW_match_0 : decode b_LW_match 0 = .ok (.aload_n 2, 1) := by decide +kernel
theorem d_LW_match_1 : decode b_LW_match 1 = .ok (.iconst 0, 1) := by decide +kernel
theorem d_LW_match_2 : decode b_LW_match 2 = .ok (.aload_n 0, 1) := by decide +kernel
theorem d_LW_match_3 : decode b_LW_match 3 = .ok (.iload_n 1, 1) := by decide +kernel
theorem d_LW_match_4 : decode b_LW_match 4 = .ok (.invokevirtual 44, 3) := by decide +kernel
theorem d_LW_match_7 : decode b_LW_match 7 = .ok (.i2l, 1) := by decide +kernel
theorem d_LW_match_8 : decode b_LW_match 8 = .ok (.lastore, 1) := by decide +kernel
theorem d_LW_match_9 : decode b_LW_match 9 = .ok (.goto 9, 3) := by decide +kernel
theorem d_LW_match_12 : decode b_LW_match 12 = .ok (.astore_n 3, 1) := by decide +kernel
theorem d_LW_match_13 : decode b_LW_match 13 = .ok (.iconst 1, 1) := by decide +kernel
theorem d_LW_match_14 : decode b_LW_match 14 = .ok (.ireturn, 1) := by decide +kernel
theorem d_LW_match_15 : decode b_LW_match 15 = .ok (.astore_n 3, 1) := by decide +kernel
theorem d_LW_match_16 : decode b_LW_match 16 = .ok (.iconst 2, 1) := by decide +kernel
theorem d_LW_match_17 : decode b_LW_match 17 = .ok (.ireturn, 1) := by decide +kernel
theorem d_LW_match_18 : decode b_LW_match 18 = .ok (.iconst 0, 1) := by decide +kernel
theorem d_LW_match_19 : decode b_LW_match 19 = .ok (.ireturn, 1) := by decide +kernel
set_option maxRecDepth 100000 in
theorem lw_match_0 (l : Launch) (g : Geo) (ad : Nat → Nat) (ar : Nat → Nat → Int32) (fl : Nat → Int32) (ao : Nat) (fo : Nat → Int64) (x1 : Int32) {S : Type} {rm : Room} {mc ms : Nat} {post : Int32 → S → Prop} {w1 : S → va_W} (hC : cMi l y_BL_match (.code y_BL_match b_BL_match 2 (some .int) :: gw) rm g [.ref (ad 0), .int x1] (cw g ad ar fl) post w1 mc ms) (hrm : rm.cells = mc ∧ rm.slots = ms) : cWi l y_LW_match (.codeWith y_LW_match b_LW_match 4 (some .int) [(0, 9, 12, 15), (0, 9, 15, 36)] :: gw) { frames := rm.frames + 1, cells := mc, slots := ms, locals := 8 + (2 + 11) + rm.locals } g [.ref (ad 0), .int x1, .ref ao] (cw g ad ar fl ++ xo g ao fo) (fun (r : Int32) (u : S × Int32) => r = 0 ∧ post u.2 u.1) (fun u => w1 u.1 ++ xo g ao (vp_updL fo 0 u.2.toInt64)) mc ms := by
  refine cWi_of (by decide) (Nat.le_of_ble_eq_true rfl) ?_
  intro p e s m below meth c A Q ls M hX hmap hret hl hI
  have hl : lv_has ls 4 [(0, .ref (ad 0)), (1, .int x1), (2, .ref ao)] := hl
  generalize ([.ref (ad 0), .int x1, .ref ao] : List Value).toArray = args at M hret ⊢
  have hx := M.1
  have hb := M.2.1
  refine lv_aload_n hx hb d_LW_match_0 rfl (lv_at hl 2 rfl) ?_
  refine lv_iconst (v := 0) hx hb d_LW_match_1 (by decide) ?_
  refine lv_aload_n hx hb d_LW_match_2 rfl (lv_at hl 0 rfl) ?_
  refine lv_iload_n hx hb d_LW_match_3 rfl (lv_at hl 1 rfl) ?_
  refine q_calliB [.int x1] M hI hC ok_BL_match m4_88 m4_89 m4_90 0 rfl rfl rfl rfl hl.1 hrm ⟨Nat.le_refl _, Nat.le_refl _⟩ (Nat.le_of_ble_eq_true rfl) ⟨Nat.le_of_eq (Nat.zero_add _), Nat.le_of_eq (Nat.zero_add _)⟩ d_LW_match_4 (fun r u H locs hp hB => ?_)
  refine lv_i2l (v := r.toInt64) hx hb d_LW_match_7 rfl ?_
  refine q_stO M hB d_LW_match_8 (fun H locs hB => ?_)
  refine lv_goto (tgt := 18) hx hb d_LW_match_9 (by decide) ?_
  refine lv_iconst (v := 0) hx hb d_LW_match_18 (by decide) ?_
  exact hret 0 (u, r) _ _ _ _ _ _ d_LW_match_19 hB ⟨rfl, hp⟩ (Nat.le_of_eq (Nat.zero_add _)) (Nat.le_of_eq (Nat.zero_add _))
set_option maxRecDepth 100000 in
theorem lw_match_1 (l : Launch) (g : Geo) (ad : Nat → Nat) (ar : Nat → Nat → Int32) (fl : Nat → Int32) (ao : Nat) (fo : Nat → Int64) (x1 : Int32) {rm : Room} {mc ms : Nat} (hC : cMx l y_BL_match (.code y_BL_match b_BL_match 2 (some .int) :: gw) rm g [.ref (ad 0), .int x1] (cw g ad ar fl) ISE mc ms) (hrm : rm.cells = mc ∧ rm.slots = ms) : cWi l y_LW_match (.codeWith y_LW_match b_LW_match 4 (some .int) [(0, 9, 12, 15), (0, 9, 15, 36)] :: gw) { frames := rm.frames + 1, cells := mc, slots := ms, locals := 8 + (2 + 11) + rm.locals } g [.ref (ad 0), .int x1, .ref ao] (cw g ad ar fl ++ xo g ao fo) (fun (r : Int32) (_ : Unit) => r = 1) (fun _ => cw g ad ar fl ++ xo g ao fo) mc ms := by
  refine cWi_of (by decide) (Nat.le_of_ble_eq_true rfl) ?_
  intro p e s m below meth c A Q ls M hX hmap hret hl hI
  have hl : lv_has ls 4 [(0, .ref (ad 0)), (1, .int x1), (2, .ref ao)] := hl
  generalize ([.ref (ad 0), .int x1, .ref ao] : List Value).toArray = args at M hret ⊢
  have hx := M.1
  have hb := M.2.1
  refine lv_aload_n hx hb d_LW_match_0 rfl (lv_at hl 2 rfl) ?_
  refine lv_iconst (v := 0) hx hb d_LW_match_1 (by decide) ?_
  refine lv_aload_n hx hb d_LW_match_2 rfl (lv_at hl 0 rfl) ?_
  refine lv_iload_n hx hb d_LW_match_3 rfl (lv_at hl 1 rfl) ?_
  obtain ⟨e0, e1, hL, f0, f1⟩ := ex_2 hmap
  obtain ⟨v0, n0, p0, t0⟩ := ex_f (pc := 4) f0 (by decide) (by decide) (by decide)
  refine q_catch [.int x1] M hX hI.left hC ok_BL_match m4_88 m4_89 m4_90 0 rfl rfl rfl rfl hl.1 hrm ⟨Nat.le_refl _, Nat.le_refl _⟩ (Nat.le_of_ble_eq_true rfl) ⟨Nat.le_refl _, Nat.le_refl _⟩ d_LW_match_4 (pre := []) (x := e0) (post := [e1]) hL v0 n0 (by rw [t0]; exact m2_132) (fun _ h => absurd h List.not_mem_nil) (fun H1 v hsz hold => ?_)
  rw [p0]
  refine lv_astore_n (lv' := [(3, .ref v), (0, .ref (ad 0)), (1, .int x1), (2, .ref ao)]) hx hb d_LW_match_12 rfl hl (by decide) rfl (fun ls hl => ?_)
  refine lv_iconst (v := 1) hx hb d_LW_match_13 (by decide) ?_
  exact hret 1 () _ _ _ _ _ _ d_LW_match_14 (hI.old hsz hold) rfl (Nat.le_refl _) (Nat.le_refl _)
set_option maxRecDepth 100000 in
theorem lw_match_2 (l : Launch) (g : Geo) (ad : Nat → Nat) (ar : Nat → Nat → Int32) (fl : Nat → Int32) (ao : Nat) (fo : Nat → Int64) (x1 : Int32) {rm : Room} {mc ms : Nat} (hC : cMx l y_BL_match (.code y_BL_match b_BL_match 2 (some .int) :: gw) rm g [.ref (ad 0), .int x1] (cw g ad ar fl) IOB mc ms) (hrm : rm.cells = mc ∧ rm.slots = ms) : cWi l y_LW_match (.codeWith y_LW_match b_LW_match 4 (some .int) [(0, 9, 12, 15), (0, 9, 15, 36)] :: gw) { frames := rm.frames + 1, cells := mc, slots := ms, locals := 8 + (2 + 11) + rm.locals } g [.ref (ad 0), .int x1, .ref ao] (cw g ad ar fl ++ xo g ao fo) (fun (r : Int32) (_ : Unit) => r = 2) (fun _ => cw g ad ar fl ++ xo g ao fo) mc ms := by
  refine cWi_of (by decide) (Nat.le_of_ble_eq_true rfl) ?_
  intro p e s m below meth c A Q ls M hX hmap hret hl hI
  have hl : lv_has ls 4 [(0, .ref (ad 0)), (1, .int x1), (2, .ref ao)] := hl
  generalize ([.ref (ad 0), .int x1, .ref ao] : List Value).toArray = args at M hret ⊢
  have hx := M.1
  have hb := M.2.1
  refine lv_aload_n hx hb d_LW_match_0 rfl (lv_at hl 2 rfl) ?_
  refine lv_iconst (v := 0) hx hb d_LW_match_1 (by decide) ?_
  refine lv_aload_n hx hb d_LW_match_2 rfl (lv_at hl 0 rfl) ?_
  refine lv_iload_n hx hb d_LW_match_3 rfl (lv_at hl 1 rfl) ?_
  obtain ⟨e0, e1, hL, f0, f1⟩ := ex_2 hmap
  obtain ⟨v0, n0, p0, t0⟩ := ex_f (pc := 4) f0 (by decide) (by decide) (by decide)
  obtain ⟨v1, n1, p1, t1⟩ := ex_f (pc := 4) f1 (by decide) (by decide) (by decide)
  refine q_catch [.int x1] M hX hI.left hC ok_BL_match m4_88 m4_89 m4_90 0 rfl rfl rfl rfl hl.1 hrm ⟨Nat.le_refl _, Nat.le_refl _⟩ (Nat.le_of_ble_eq_true rfl) ⟨Nat.le_refl _, Nat.le_refl _⟩ d_LW_match_4 (pre := [e0]) (x := e1) (post := []) hL v1 n1 (by rw [t1]; exact m4_39) (List.forall_mem_cons.mpr ⟨⟨v0, n0, ISE, by rw [t0]; exact m2_132, by decide⟩, fun _ h => absurd h List.not_mem_nil⟩) (fun H1 v hsz hold => ?_)
  rw [p1]
  refine lv_astore_n (lv' := [(3, .ref v), (0, .ref (ad 0)), (1, .int x1), (2, .ref ao)]) hx hb d_LW_match_15 rfl hl (by decide) rfl (fun ls hl => ?_)
  refine lv_iconst (v := 2) hx hb d_LW_match_16 (by decide) ?_
  exact hret 2 () _ _ _ _ _ _ d_LW_match_17 (hI.old hsz hold) rfl (Nat.le_refl _) (Nat.le_refl _)
theorem d_LW_line_0 : decode b_LW_line 0 = .ok (.aload_n 3, 1) := by decide +kernel
theorem d_LW_line_1 : decode b_LW_line 1 = .ok (.iconst 0, 1) := by decide +kernel
theorem d_LW_line_2 : decode b_LW_line 2 = .ok (.aload_n 0, 1) := by decide +kernel
theorem d_LW_line_3 : decode b_LW_line 3 = .ok (.iload_n 1, 1) := by decide +kernel
theorem d_LW_line_4 : decode b_LW_line 4 = .ok (.iload_n 2, 1) := by decide +kernel
theorem d_LW_line_5 : decode b_LW_line 5 = .ok (.invokevirtual 47, 3) := by decide +kernel
theorem d_LW_line_8 : decode b_LW_line 8 = .ok (.i2l, 1) := by decide +kernel
theorem d_LW_line_9 : decode b_LW_line 9 = .ok (.lastore, 1) := by decide +kernel
theorem d_LW_line_10 : decode b_LW_line 10 = .ok (.goto 15, 3) := by decide +kernel
theorem d_LW_line_13 : decode b_LW_line 13 = .ok (.astore 4, 2) := by decide +kernel
theorem d_LW_line_15 : decode b_LW_line 15 = .ok (.iconst 1, 1) := by decide +kernel
theorem d_LW_line_16 : decode b_LW_line 16 = .ok (.ireturn, 1) := by decide +kernel
theorem d_LW_line_17 : decode b_LW_line 17 = .ok (.astore 4, 2) := by decide +kernel
theorem d_LW_line_19 : decode b_LW_line 19 = .ok (.iconst 2, 1) := by decide +kernel
theorem d_LW_line_20 : decode b_LW_line 20 = .ok (.ireturn, 1) := by decide +kernel
theorem d_LW_line_21 : decode b_LW_line 21 = .ok (.astore 4, 2) := by decide +kernel
theorem d_LW_line_23 : decode b_LW_line 23 = .ok (.iconst 3, 1) := by decide +kernel
theorem d_LW_line_24 : decode b_LW_line 24 = .ok (.ireturn, 1) := by decide +kernel
theorem d_LW_line_25 : decode b_LW_line 25 = .ok (.iconst 0, 1) := by decide +kernel
theorem d_LW_line_26 : decode b_LW_line 26 = .ok (.ireturn, 1) := by decide +kernel
set_option maxRecDepth 100000 in
theorem lw_line_0 (l : Launch) (g : Geo) (ad : Nat → Nat) (ar : Nat → Nat → Int32) (fl : Nat → Int32) (ao : Nat) (fo : Nat → Int64) (x1 : Int32) (x2 : Int32) {S : Type} {rm : Room} {mc ms : Nat} {post : Int32 → S → Prop} {w1 : S → va_W} (hC : cMi l y_BL_line (.code y_BL_line b_BL_line 4 (some .int) :: gw) rm g [.ref (ad 0), .int x1, .int x2] (cw g ad ar fl) post w1 mc ms) (hrm : rm.cells = mc ∧ rm.slots = ms) : cWi l y_LW_line (.codeWith y_LW_line b_LW_line 5 (some .int) [(0, 10, 13, 15), (0, 10, 17, 36), (0, 10, 21, 13)] :: gw) { frames := rm.frames + 1, cells := mc, slots := ms, locals := 8 + (4 + 11) + rm.locals } g [.ref (ad 0), .int x1, .int x2, .ref ao] (cw g ad ar fl ++ xo g ao fo) (fun (r : Int32) (u : S × Int32) => r = 0 ∧ post u.2 u.1) (fun u => w1 u.1 ++ xo g ao (vp_updL fo 0 u.2.toInt64)) mc ms := by
  refine cWi_of (by decide) (Nat.le_of_ble_eq_true rfl) ?_
  intro p e s m below meth c A Q ls M hX hmap hret hl hI
  have hl : lv_has ls 5 [(0, .ref (ad 0)), (1, .int x1), (2, .int x2), (3, .ref ao)] := hl
  generalize ([.ref (ad 0), .int x1, .int x2, .ref ao] : List Value).toArray = args at M hret ⊢
  have hx := M.1
  have hb := M.2.1
  refine lv_aload_n hx hb d_LW_line_0 rfl (lv_at hl 3 rfl) ?_
  refine lv_iconst (v := 0) hx hb d_LW_line_1 (by decide) ?_
  refine lv_aload_n hx hb d_LW_line_2 rfl (lv_at hl 0 rfl) ?_
  refine lv_iload_n hx hb d_LW_line_3 rfl (lv_at hl 1 rfl) ?_
  refine lv_iload_n hx hb d_LW_line_4 rfl (lv_at hl 2 rfl) ?_
  refine q_calliB [.int x1, .int x2] M hI hC ok_BL_line m4_95 m4_96 m4_97 0 rfl rfl rfl rfl hl.1 hrm ⟨Nat.le_refl _, Nat.le_refl _⟩ (Nat.le_of_ble_eq_true rfl) ⟨Nat.le_of_eq (Nat.zero_add _), Nat.le_of_eq (Nat.zero_add _)⟩ d_LW_line_5 (fun r u H locs hp hB => ?_)
  refine lv_i2l (v := r.toInt64) hx hb d_LW_line_8 rfl ?_
  refine q_stO M hB d_LW_line_9 (fun H locs hB => ?_)
  refine lv_goto (tgt := 25) hx hb d_LW_line_10 (by decide) ?_
  refine lv_iconst (v := 0) hx hb d_LW_line_25 (by decide) ?_
  exact hret 0 (u, r) _ _ _ _ _ _ d_LW_line_26 hB ⟨rfl, hp⟩ (Nat.le_of_eq (Nat.zero_add _)) (Nat.le_of_eq (Nat.zero_add _))
set_option maxRecDepth 100000 in
theorem lw_line_1 (l : Launch) (g : Geo) (ad : Nat → Nat) (ar : Nat → Nat → Int32) (fl : Nat → Int32) (ao : Nat) (fo : Nat → Int64) (x1 : Int32) (x2 : Int32) {rm : Room} {mc ms : Nat} (hC : cMx l y_BL_line (.code y_BL_line b_BL_line 4 (some .int) :: gw) rm g [.ref (ad 0), .int x1, .int x2] (cw g ad ar fl) ISE mc ms) (hrm : rm.cells = mc ∧ rm.slots = ms) : cWi l y_LW_line (.codeWith y_LW_line b_LW_line 5 (some .int) [(0, 10, 13, 15), (0, 10, 17, 36), (0, 10, 21, 13)] :: gw) { frames := rm.frames + 1, cells := mc, slots := ms, locals := 8 + (4 + 11) + rm.locals } g [.ref (ad 0), .int x1, .int x2, .ref ao] (cw g ad ar fl ++ xo g ao fo) (fun (r : Int32) (_ : Unit) => r = 1) (fun _ => cw g ad ar fl ++ xo g ao fo) mc ms := by
  refine cWi_of (by decide) (Nat.le_of_ble_eq_true rfl) ?_
  intro p e s m below meth c A Q ls M hX hmap hret hl hI
  have hl : lv_has ls 5 [(0, .ref (ad 0)), (1, .int x1), (2, .int x2), (3, .ref ao)] := hl
  generalize ([.ref (ad 0), .int x1, .int x2, .ref ao] : List Value).toArray = args at M hret ⊢
  have hx := M.1
  have hb := M.2.1
  refine lv_aload_n hx hb d_LW_line_0 rfl (lv_at hl 3 rfl) ?_
  refine lv_iconst (v := 0) hx hb d_LW_line_1 (by decide) ?_
  refine lv_aload_n hx hb d_LW_line_2 rfl (lv_at hl 0 rfl) ?_
  refine lv_iload_n hx hb d_LW_line_3 rfl (lv_at hl 1 rfl) ?_
  refine lv_iload_n hx hb d_LW_line_4 rfl (lv_at hl 2 rfl) ?_
  obtain ⟨e0, e1, e2, hL, f0, f1, f2⟩ := ex_3 hmap
  obtain ⟨v0, n0, p0, t0⟩ := ex_f (pc := 5) f0 (by decide) (by decide) (by decide)
  refine q_catch [.int x1, .int x2] M hX hI.left hC ok_BL_line m4_95 m4_96 m4_97 0 rfl rfl rfl rfl hl.1 hrm ⟨Nat.le_refl _, Nat.le_refl _⟩ (Nat.le_of_ble_eq_true rfl) ⟨Nat.le_refl _, Nat.le_refl _⟩ d_LW_line_5 (pre := []) (x := e0) (post := [e1, e2]) hL v0 n0 (by rw [t0]; exact m2_132) (fun _ h => absurd h List.not_mem_nil) (fun H1 v hsz hold => ?_)
  rw [p0]
  refine lv_astore (lv' := [(4, .ref v), (0, .ref (ad 0)), (1, .int x1), (2, .int x2), (3, .ref ao)]) hx hb d_LW_line_13 hl (by decide) rfl (fun ls hl => ?_)
  refine lv_iconst (v := 1) hx hb d_LW_line_15 (by decide) ?_
  exact hret 1 () _ _ _ _ _ _ d_LW_line_16 (hI.old hsz hold) rfl (Nat.le_refl _) (Nat.le_refl _)
set_option maxRecDepth 100000 in
theorem lw_line_2 (l : Launch) (g : Geo) (ad : Nat → Nat) (ar : Nat → Nat → Int32) (fl : Nat → Int32) (ao : Nat) (fo : Nat → Int64) (x1 : Int32) (x2 : Int32) {rm : Room} {mc ms : Nat} (hC : cMx l y_BL_line (.code y_BL_line b_BL_line 4 (some .int) :: gw) rm g [.ref (ad 0), .int x1, .int x2] (cw g ad ar fl) IOB mc ms) (hrm : rm.cells = mc ∧ rm.slots = ms) : cWi l y_LW_line (.codeWith y_LW_line b_LW_line 5 (some .int) [(0, 10, 13, 15), (0, 10, 17, 36), (0, 10, 21, 13)] :: gw) { frames := rm.frames + 1, cells := mc, slots := ms, locals := 8 + (4 + 11) + rm.locals } g [.ref (ad 0), .int x1, .int x2, .ref ao] (cw g ad ar fl ++ xo g ao fo) (fun (r : Int32) (_ : Unit) => r = 2) (fun _ => cw g ad ar fl ++ xo g ao fo) mc ms := by
  refine cWi_of (by decide) (Nat.le_of_ble_eq_true rfl) ?_
  intro p e s m below meth c A Q ls M hX hmap hret hl hI
  have hl : lv_has ls 5 [(0, .ref (ad 0)), (1, .int x1), (2, .int x2), (3, .ref ao)] := hl
  generalize ([.ref (ad 0), .int x1, .int x2, .ref ao] : List Value).toArray = args at M hret ⊢
  have hx := M.1
  have hb := M.2.1
  refine lv_aload_n hx hb d_LW_line_0 rfl (lv_at hl 3 rfl) ?_
  refine lv_iconst (v := 0) hx hb d_LW_line_1 (by decide) ?_
  refine lv_aload_n hx hb d_LW_line_2 rfl (lv_at hl 0 rfl) ?_
  refine lv_iload_n hx hb d_LW_line_3 rfl (lv_at hl 1 rfl) ?_
  refine lv_iload_n hx hb d_LW_line_4 rfl (lv_at hl 2 rfl) ?_
  obtain ⟨e0, e1, e2, hL, f0, f1, f2⟩ := ex_3 hmap
  obtain ⟨v0, n0, p0, t0⟩ := ex_f (pc := 5) f0 (by decide) (by decide) (by decide)
  obtain ⟨v1, n1, p1, t1⟩ := ex_f (pc := 5) f1 (by decide) (by decide) (by decide)
  refine q_catch [.int x1, .int x2] M hX hI.left hC ok_BL_line m4_95 m4_96 m4_97 0 rfl rfl rfl rfl hl.1 hrm ⟨Nat.le_refl _, Nat.le_refl _⟩ (Nat.le_of_ble_eq_true rfl) ⟨Nat.le_refl _, Nat.le_refl _⟩ d_LW_line_5 (pre := [e0]) (x := e1) (post := [e2]) hL v1 n1 (by rw [t1]; exact m4_39) (List.forall_mem_cons.mpr ⟨⟨v0, n0, ISE, by rw [t0]; exact m2_132, by decide⟩, fun _ h => absurd h List.not_mem_nil⟩) (fun H1 v hsz hold => ?_)
  rw [p1]
  refine lv_astore (lv' := [(4, .ref v), (0, .ref (ad 0)), (1, .int x1), (2, .int x2), (3, .ref ao)]) hx hb d_LW_line_17 hl (by decide) rfl (fun ls hl => ?_)
  refine lv_iconst (v := 2) hx hb d_LW_line_19 (by decide) ?_
  exact hret 2 () _ _ _ _ _ _ d_LW_line_20 (hI.old hsz hold) rfl (Nat.le_refl _) (Nat.le_refl _)
set_option maxRecDepth 100000 in
theorem lw_line_3 (l : Launch) (g : Geo) (ad : Nat → Nat) (ar : Nat → Nat → Int32) (fl : Nat → Int32) (ao : Nat) (fo : Nat → Int64) (x1 : Int32) (x2 : Int32) {rm : Room} {mc ms : Nat} (hC : cMx l y_BL_line (.code y_BL_line b_BL_line 4 (some .int) :: gw) rm g [.ref (ad 0), .int x1, .int x2] (cw g ad ar fl) IAE mc ms) (hrm : rm.cells = mc ∧ rm.slots = ms) : cWi l y_LW_line (.codeWith y_LW_line b_LW_line 5 (some .int) [(0, 10, 13, 15), (0, 10, 17, 36), (0, 10, 21, 13)] :: gw) { frames := rm.frames + 1, cells := mc, slots := ms, locals := 8 + (4 + 11) + rm.locals } g [.ref (ad 0), .int x1, .int x2, .ref ao] (cw g ad ar fl ++ xo g ao fo) (fun (r : Int32) (_ : Unit) => r = 3) (fun _ => cw g ad ar fl ++ xo g ao fo) mc ms := by
  refine cWi_of (by decide) (Nat.le_of_ble_eq_true rfl) ?_
  intro p e s m below meth c A Q ls M hX hmap hret hl hI
  have hl : lv_has ls 5 [(0, .ref (ad 0)), (1, .int x1), (2, .int x2), (3, .ref ao)] := hl
  generalize ([.ref (ad 0), .int x1, .int x2, .ref ao] : List Value).toArray = args at M hret ⊢
  have hx := M.1
  have hb := M.2.1
  refine lv_aload_n hx hb d_LW_line_0 rfl (lv_at hl 3 rfl) ?_
  refine lv_iconst (v := 0) hx hb d_LW_line_1 (by decide) ?_
  refine lv_aload_n hx hb d_LW_line_2 rfl (lv_at hl 0 rfl) ?_
  refine lv_iload_n hx hb d_LW_line_3 rfl (lv_at hl 1 rfl) ?_
  refine lv_iload_n hx hb d_LW_line_4 rfl (lv_at hl 2 rfl) ?_
  obtain ⟨e0, e1, e2, hL, f0, f1, f2⟩ := ex_3 hmap
  obtain ⟨v0, n0, p0, t0⟩ := ex_f (pc := 5) f0 (by decide) (by decide) (by decide)
  obtain ⟨v1, n1, p1, t1⟩ := ex_f (pc := 5) f1 (by decide) (by decide) (by decide)
  obtain ⟨v2, n2, p2, t2⟩ := ex_f (pc := 5) f2 (by decide) (by decide) (by decide)
  refine q_catch [.int x1, .int x2] M hX hI.left hC ok_BL_line m4_95 m4_96 m4_97 0 rfl rfl rfl rfl hl.1 hrm ⟨Nat.le_refl _, Nat.le_refl _⟩ (Nat.le_of_ble_eq_true rfl) ⟨Nat.le_refl _, Nat.le_refl _⟩ d_LW_line_5 (pre := [e0, e1]) (x := e2) (post := []) hL v2 n2 (by rw [t2]; exact m2_131) (List.forall_mem_cons.mpr ⟨⟨v0, n0, ISE, by rw [t0]; exact m2_132, by decide⟩, List.forall_mem_cons.mpr ⟨⟨v1, n1, IOB, by rw [t1]; exact m4_39, by decide⟩, fun _ h => absurd h List.not_mem_nil⟩⟩) (fun H1 v hsz hold => ?_)
  rw [p2]
  refine lv_astore (lv' := [(4, .ref v), (0, .ref (ad 0)), (1, .int x1), (2, .int x2), (3, .ref ao)]) hx hb d_LW_line_21 hl (by decide) rfl (fun ls hl => ?_)
  refine lv_iconst (v := 3) hx hb d_LW_line_23 (by decide) ?_
  exact hret 3 () _ _ _ _ _ _ d_LW_line_24 (hI.old hsz hold) rfl (Nat.le_refl _) (Nat.le_refl _)
theorem d_LW_seen_0 : decode b_LW_seen 0 = .ok (.aload_n 3, 1) := by decide +kernel
theorem d_LW_seen_1 : decode b_LW_seen 1 = .ok (.iconst 0, 1) := by decide +kernel
theorem d_LW_seen_2 : decode b_LW_seen 2 = .ok (.aload_n 0, 1) := by decide +kernel
theorem d_LW_seen_3 : decode b_LW_seen 3 = .ok (.iload_n 1, 1) := by decide +kernel
theorem d_LW_seen_4 : decode b_LW_seen 4 = .ok (.iload_n 2, 1) := by decide +kernel
theorem d_LW_seen_5 : decode b_LW_seen 5 = .ok (.invokevirtual 50, 3) := by decide +kernel
theorem d_LW_seen_8 : decode b_LW_seen 8 = .ok (.i2l, 1) := by decide +kernel
theorem d_LW_seen_9 : decode b_LW_seen 9 = .ok (.lastore, 1) := by decide +kernel
theorem d_LW_seen_10 : decode b_LW_seen 10 = .ok (.goto 11, 3) := by decide +kernel
theorem d_LW_seen_13 : decode b_LW_seen 13 = .ok (.astore 4, 2) := by decide +kernel
theorem d_LW_seen_15 : decode b_LW_seen 15 = .ok (.iconst 1, 1) := by decide +kernel
theorem d_LW_seen_16 : decode b_LW_seen 16 = .ok (.ireturn, 1) := by decide +kernel
theorem d_LW_seen_17 : decode b_LW_seen 17 = .ok (.astore 4, 2) := by decide +kernel
theorem d_LW_seen_19 : decode b_LW_seen 19 = .ok (.iconst 2, 1) := by decide +kernel
theorem d_LW_seen_20 : decode b_LW_seen 20 = .ok (.ireturn, 1) := by decide +kernel
theorem d_LW_seen_21 : decode b_LW_seen 21 = .ok (.iconst 0, 1) := by decide +kernel
theorem d_LW_seen_22 : decode b_LW_seen 22 = .ok (.ireturn, 1) := by decide +kernel
set_option maxRecDepth 100000 in
theorem lw_seen_0 (l : Launch) (g : Geo) (ad : Nat → Nat) (ar : Nat → Nat → Int32) (fl : Nat → Int32) (ao : Nat) (fo : Nat → Int64) (x1 : Int32) (x2 : Int32) {S : Type} {rm : Room} {mc ms : Nat} {post : Int32 → S → Prop} {w1 : S → va_W} (hC : cMi l y_BL_seen (.code y_BL_seen b_BL_seen 4 (some .int) :: gw) rm g [.ref (ad 0), .int x1, .int x2] (cw g ad ar fl) post w1 mc ms) (hrm : rm.cells = mc ∧ rm.slots = ms) : cWi l y_LW_seen (.codeWith y_LW_seen b_LW_seen 5 (some .int) [(0, 10, 13, 15), (0, 10, 17, 36)] :: gw) { frames := rm.frames + 1, cells := mc, slots := ms, locals := 8 + (4 + 11) + rm.locals } g [.ref (ad 0), .int x1, .int x2, .ref ao] (cw g ad ar fl ++ xo g ao fo) (fun (r : Int32) (u : S × Int32) => r = 0 ∧ post u.2 u.1) (fun u => w1 u.1 ++ xo g ao (vp_updL fo 0 u.2.toInt64)) mc ms := by
  refine cWi_of (by decide) (Nat.le_of_ble_eq_true rfl) ?_
  intro p e s m below meth c A Q ls M hX hmap hret hl hI
  have hl : lv_has ls 5 [(0, .ref (ad 0)), (1, .int x1), (2, .int x2), (3, .ref ao)] := hl
  generalize ([.ref (ad 0), .int x1, .int x2, .ref ao] : List Value).toArray = args at M hret ⊢
  have hx := M.1
  have hb := M.2.1
  refine lv_aload_n hx hb d_LW_seen_0 rfl (lv_at hl 3 rfl) ?_
  refine lv_iconst (v := 0) hx hb d_LW_seen_1 (by decide) ?_
  refine lv_aload_n hx hb d_LW_seen_2 rfl (lv_at hl 0 rfl) ?_
  refine lv_iload_n hx hb d_LW_seen_3 rfl (lv_at hl 1 rfl) ?_
  refine lv_iload_n hx hb d_LW_seen_4 rfl (lv_at hl 2 rfl) ?_
  refine q_calliB [.int x1, .int x2] M hI hC ok_BL_seen m4_143 m4_144 m4_145 0 rfl rfl rfl rfl hl.1 hrm ⟨Nat.le_refl _, Nat.le_refl _⟩ (Nat.le_of_ble_eq_true rfl) ⟨Nat.le_of_eq (Nat.zero_add _), Nat.le_of_eq (Nat.zero_add _)⟩ d_LW_seen_5 (fun r u H locs hp hB => ?_)
  refine lv_i2l (v := r.toInt64) hx hb d_LW_seen_8 rfl ?_
  refine q_stO M hB d_LW_seen_9 (fun H locs hB => ?_)
  refine lv_goto (tgt := 21) hx hb d_LW_seen_10 (by decide) ?_
  refine lv_iconst (v := 0) hx hb d_LW_seen_21 (by decide) ?_
  exact hret 0 (u, r) _ _ _ _ _ _ d_LW_seen_22 hB ⟨rfl, hp⟩ (Nat.le_of_eq (Nat.zero_add _)) (Nat.le_of_eq (Nat.zero_add _))
set_option maxRecDepth 100000 in
theorem lw_seen_1 (l : Launch) (g : Geo) (ad : Nat → Nat) (ar : Nat → Nat → Int32) (fl : Nat → Int32) (ao : Nat) (fo : Nat → Int64) (x1 : Int32) (x2 : Int32) {rm : Room} {mc ms : Nat} (hC : cMx l y_BL_seen (.code y_BL_seen b_BL_seen 4 (some .int) :: gw) rm g [.ref (ad 0), .int x1, .int x2] (cw g ad ar fl) ISE mc ms) (hrm : rm.cells = mc ∧ rm.slots = ms) : cWi l y_LW_seen (.codeWith y_LW_seen b_LW_seen 5 (some .int) [(0, 10, 13, 15), (0, 10, 17, 36)] :: gw) { frames := rm.frames + 1, cells := mc, slots := ms, locals := 8 + (4 + 11) + rm.locals } g [.ref (ad 0), .int x1, .int x2, .ref ao] (cw g ad ar fl ++ xo g ao fo) (fun (r : Int32) (_ : Unit) => r = 1) (fun _ => cw g ad ar fl ++ xo g ao fo) mc ms := by
  refine cWi_of (by decide) (Nat.le_of_ble_eq_true rfl) ?_
  intro p e s m below meth c A Q ls M hX hmap hret hl hI
  have hl : lv_has ls 5 [(0, .ref (ad 0)), (1, .int x1), (2, .int x2), (3, .ref ao)] := hl
  generalize ([.ref (ad 0), .int x1, .int x2, .ref ao] : List Value).toArray = args at M hret ⊢
  have hx := M.1
  have hb := M.2.1
  refine lv_aload_n hx hb d_LW_seen_0 rfl (lv_at hl 3 rfl) ?_
  refine lv_iconst (v := 0) hx hb d_LW_seen_1 (by decide) ?_
  refine lv_aload_n hx hb d_LW_seen_2 rfl (lv_at hl 0 rfl) ?_
  refine lv_iload_n hx hb d_LW_seen_3 rfl (lv_at hl 1 rfl) ?_
  refine lv_iload_n hx hb d_LW_seen_4 rfl (lv_at hl 2 rfl) ?_
  obtain ⟨e0, e1, hL, f0, f1⟩ := ex_2 hmap
  obtain ⟨v0, n0, p0, t0⟩ := ex_f (pc := 5) f0 (by decide) (by decide) (by decide)
  refine q_catch [.int x1, .int x2] M hX hI.left hC ok_BL_seen m4_143 m4_144 m4_145 0 rfl rfl rfl rfl hl.1 hrm ⟨Nat.le_refl _, Nat.le_refl _⟩ (Nat.le_of_ble_eq_true rfl) ⟨Nat.le_refl _, Nat.le_refl _⟩ d_LW_seen_5 (pre := []) (x := e0) (post := [e1]) hL v0 n0 (by rw [t0]; exact m2_132) (fun _ h => absurd h List.not_mem_nil) (fun H1 v hsz hold => ?_)
  rw [p0]
  refine lv_astore (lv' := [(4, .ref v), (0, .ref (ad 0)), (1, .int x1), (2, .int x2), (3, .ref ao)]) hx hb d_LW_seen_13 hl (by decide) rfl (fun ls hl => ?_)
  refine lv_iconst (v := 1) hx hb d_LW_seen_15 (by decide) ?_
  exact hret 1 () _ _ _ _ _ _ d_LW_seen_16 (hI.old hsz hold) rfl (Nat.le_refl _) (Nat.le_refl _)
set_option maxRecDepth 100000 in
theorem lw_seen_2 (l : Launch) (g : Geo) (ad : Nat → Nat) (ar : Nat → Nat → Int32) (fl : Nat → Int32) (ao : Nat) (fo : Nat → Int64) (x1 : Int32) (x2 : Int32) {rm : Room} {mc ms : Nat} (hC : cMx l y_BL_seen (.code y_BL_seen b_BL_seen 4 (some .int) :: gw) rm g [.ref (ad 0), .int x1, .int x2] (cw g ad ar fl) IOB mc ms) (hrm : rm.cells = mc ∧ rm.slots = ms) : cWi l y_LW_seen (.codeWith y_LW_seen b_LW_seen 5 (some .int) [(0, 10, 13, 15), (0, 10, 17, 36)] :: gw) { frames := rm.frames + 1, cells := mc, slots := ms, locals := 8 + (4 + 11) + rm.locals } g [.ref (ad 0), .int x1, .int x2, .ref ao] (cw g ad ar fl ++ xo g ao fo) (fun (r : Int32) (_ : Unit) => r = 2) (fun _ => cw g ad ar fl ++ xo g ao fo) mc ms := by
  refine cWi_of (by decide) (Nat.le_of_ble_eq_true rfl) ?_
  intro p e s m below meth c A Q ls M hX hmap hret hl hI
  have hl : lv_has ls 5 [(0, .ref (ad 0)), (1, .int x1), (2, .int x2), (3, .ref ao)] := hl
  generalize ([.ref (ad 0), .int x1, .int x2, .ref ao] : List Value).toArray = args at M hret ⊢
  have hx := M.1
  have hb := M.2.1
  refine lv_aload_n hx hb d_LW_seen_0 rfl (lv_at hl 3 rfl) ?_
  refine lv_iconst (v := 0) hx hb d_LW_seen_1 (by decide) ?_
  refine lv_aload_n hx hb d_LW_seen_2 rfl (lv_at hl 0 rfl) ?_
  refine lv_iload_n hx hb d_LW_seen_3 rfl (lv_at hl 1 rfl) ?_
  refine lv_iload_n hx hb d_LW_seen_4 rfl (lv_at hl 2 rfl) ?_
  obtain ⟨e0, e1, hL, f0, f1⟩ := ex_2 hmap
  obtain ⟨v0, n0, p0, t0⟩ := ex_f (pc := 5) f0 (by decide) (by decide) (by decide)
  obtain ⟨v1, n1, p1, t1⟩ := ex_f (pc := 5) f1 (by decide) (by decide) (by decide)
  refine q_catch [.int x1, .int x2] M hX hI.left hC ok_BL_seen m4_143 m4_144 m4_145 0 rfl rfl rfl rfl hl.1 hrm ⟨Nat.le_refl _, Nat.le_refl _⟩ (Nat.le_of_ble_eq_true rfl) ⟨Nat.le_refl _, Nat.le_refl _⟩ d_LW_seen_5 (pre := [e0]) (x := e1) (post := []) hL v1 n1 (by rw [t1]; exact m4_39) (List.forall_mem_cons.mpr ⟨⟨v0, n0, ISE, by rw [t0]; exact m2_132, by decide⟩, fun _ h => absurd h List.not_mem_nil⟩) (fun H1 v hsz hold => ?_)
  rw [p1]
  refine lv_astore (lv' := [(4, .ref v), (0, .ref (ad 0)), (1, .int x1), (2, .int x2), (3, .ref ao)]) hx hb d_LW_seen_17 hl (by decide) rfl (fun ls hl => ?_)
  refine lv_iconst (v := 2) hx hb d_LW_seen_19 (by decide) ?_
  exact hret 2 () _ _ _ _ _ _ d_LW_seen_20 (hI.old hsz hold) rfl (Nat.le_refl _) (Nat.le_refl _)
theorem d_LW_place_0 : decode b_LW_place 0 = .ok (.aload_n 2, 1) := by decide +kernel
theorem d_LW_place_1 : decode b_LW_place 1 = .ok (.iconst 0, 1) := by decide +kernel
theorem d_LW_place_2 : decode b_LW_place 2 = .ok (.aload_n 0, 1) := by decide +kernel
theorem d_LW_place_3 : decode b_LW_place 3 = .ok (.iload_n 1, 1) := by decide +kernel
theorem d_LW_place_4 : decode b_LW_place 4 = .ok (.invokevirtual 53, 3) := by decide +kernel
theorem d_LW_place_7 : decode b_LW_place 7 = .ok (.i2l, 1) := by decide +kernel
theorem d_LW_place_8 : decode b_LW_place 8 = .ok (.lastore, 1) := by decide +kernel
theorem d_LW_place_9 : decode b_LW_place 9 = .ok (.goto 9, 3) := by decide +kernel
theorem d_LW_place_12 : decode b_LW_place 12 = .ok (.astore_n 3, 1) := by decide +kernel
theorem d_LW_place_13 : decode b_LW_place 13 = .ok (.iconst 1, 1) := by decide +kernel
theorem d_LW_place_14 : decode b_LW_place 14 = .ok (.ireturn, 1) := by decide +kernel
theorem d_LW_place_15 : decode b_LW_place 15 = .ok (.astore_n 3, 1) := by decide +kernel
theorem d_LW_place_16 : decode b_LW_place 16 = .ok (.iconst 2, 1) := by decide +kernel
theorem d_LW_place_17 : decode b_LW_place 17 = .ok (.ireturn, 1) := by decide +kernel
theorem d_LW_place_18 : decode b_LW_place 18 = .ok (.iconst 0, 1) := by decide +kernel
theorem d_LW_place_19 : decode b_LW_place 19 = .ok (.ireturn, 1) := by decide +kernel
set_option maxRecDepth 100000 in
theorem lw_place_0 (l : Launch) (g : Geo) (ad : Nat → Nat) (ar : Nat → Nat → Int32) (fl : Nat → Int32) (ao : Nat) (fo : Nat → Int64) (x1 : Int32) {S : Type} {rm : Room} {mc ms : Nat} {post : Int32 → S → Prop} {w1 : S → va_W} (hC : cMi l y_BL_place (.code y_BL_place b_BL_place 2 (some .int) :: gw) rm g [.ref (ad 0), .int x1] (cw g ad ar fl) post w1 mc ms) (hrm : rm.cells = mc ∧ rm.slots = ms) : cWi l y_LW_place (.codeWith y_LW_place b_LW_place 4 (some .int) [(0, 9, 12, 15), (0, 9, 15, 36)] :: gw) { frames := rm.frames + 1, cells := mc, slots := ms, locals := 8 + (2 + 11) + rm.locals } g [.ref (ad 0), .int x1, .ref ao] (cw g ad ar fl ++ xo g ao fo) (fun (r : Int32) (u : S × Int32) => r = 0 ∧ post u.2 u.1) (fun u => w1 u.1 ++ xo g ao (vp_updL fo 0 u.2.toInt64)) mc ms := by
  refine cWi_of (by decide) (Nat.le_of_ble_eq_true rfl) ?_
  intro p e s m below meth c A Q ls M hX hmap hret hl hI
  have hl : lv_has ls 4 [(0, .ref (ad 0)), (1, .int x1), (2, .ref ao)] := hl
  generalize ([.ref (ad 0), .int x1, .ref ao] : List Value).toArray = args at M hret ⊢
  have hx := M.1
  have hb := M.2.1
  refine lv_aload_n hx hb d_LW_place_0 rfl (lv_at hl 2 rfl) ?_
  refine lv_iconst (v := 0) hx hb d_LW_place_1 (by decide) ?_
  refine lv_aload_n hx hb d_LW_place_2 rfl (lv_at hl 0 rfl) ?_
  refine lv_iload_n hx hb d_LW_place_3 rfl (lv_at hl 1 rfl) ?_
  refine q_calliB [.int x1] M hI hC ok_BL_place m4_162 m4_163 m4_164 0 rfl rfl rfl rfl hl.1 hrm ⟨Nat.le_refl _, Nat.le_refl _⟩ (Nat.le_of_ble_eq_true rfl) ⟨Nat.le_of_eq (Nat.zero_add _), Nat.le_of_eq (Nat.zero_add _)⟩ d_LW_place_4 (fun r u H locs hp hB => ?_)
  refine lv_i2l (v := r.toInt64) hx hb d_LW_place_7 rfl ?_
  refine q_stO M hB d_LW_place_8 (fun H locs hB => ?_)
  refine lv_goto (tgt := 18) hx hb d_LW_place_9 (by decide) ?_
  refine lv_iconst (v := 0) hx hb d_LW_place_18 (by decide) ?_
  exact hret 0 (u, r) _ _ _ _ _ _ d_LW_place_19 hB ⟨rfl, hp⟩ (Nat.le_of_eq (Nat.zero_add _)) (Nat.le_of_eq (Nat.zero_add _))
set_option maxRecDepth 100000 in
theorem lw_place_1 (l : Launch) (g : Geo) (ad : Nat → Nat) (ar : Nat → Nat → Int32) (fl : Nat → Int32) (ao : Nat) (fo : Nat → Int64) (x1 : Int32) {rm : Room} {mc ms : Nat} (hC : cMx l y_BL_place (.code y_BL_place b_BL_place 2 (some .int) :: gw) rm g [.ref (ad 0), .int x1] (cw g ad ar fl) ISE mc ms) (hrm : rm.cells = mc ∧ rm.slots = ms) : cWi l y_LW_place (.codeWith y_LW_place b_LW_place 4 (some .int) [(0, 9, 12, 15), (0, 9, 15, 36)] :: gw) { frames := rm.frames + 1, cells := mc, slots := ms, locals := 8 + (2 + 11) + rm.locals } g [.ref (ad 0), .int x1, .ref ao] (cw g ad ar fl ++ xo g ao fo) (fun (r : Int32) (_ : Unit) => r = 1) (fun _ => cw g ad ar fl ++ xo g ao fo) mc ms := by
  refine cWi_of (by decide) (Nat.le_of_ble_eq_true rfl) ?_
  intro p e s m below meth c A Q ls M hX hmap hret hl hI
  have hl : lv_has ls 4 [(0, .ref (ad 0)), (1, .int x1), (2, .ref ao)] := hl
  generalize ([.ref (ad 0), .int x1, .ref ao] : List Value).toArray = args at M hret ⊢
  have hx := M.1
  have hb := M.2.1
  refine lv_aload_n hx hb d_LW_place_0 rfl (lv_at hl 2 rfl) ?_
  refine lv_iconst (v := 0) hx hb d_LW_place_1 (by decide) ?_
  refine lv_aload_n hx hb d_LW_place_2 rfl (lv_at hl 0 rfl) ?_
  refine lv_iload_n hx hb d_LW_place_3 rfl (lv_at hl 1 rfl) ?_
  obtain ⟨e0, e1, hL, f0, f1⟩ := ex_2 hmap
  obtain ⟨v0, n0, p0, t0⟩ := ex_f (pc := 4) f0 (by decide) (by decide) (by decide)
  refine q_catch [.int x1] M hX hI.left hC ok_BL_place m4_162 m4_163 m4_164 0 rfl rfl rfl rfl hl.1 hrm ⟨Nat.le_refl _, Nat.le_refl _⟩ (Nat.le_of_ble_eq_true rfl) ⟨Nat.le_refl _, Nat.le_refl _⟩ d_LW_place_4 (pre := []) (x := e0) (post := [e1]) hL v0 n0 (by rw [t0]; exact m2_132) (fun _ h => absurd h List.not_mem_nil) (fun H1 v hsz hold => ?_)
  rw [p0]
  refine lv_astore_n (lv' := [(3, .ref v), (0, .ref (ad 0)), (1, .int x1), (2, .ref ao)]) hx hb d_LW_place_12 rfl hl (by decide) rfl (fun ls hl => ?_)
  refine lv_iconst (v := 1) hx hb d_LW_place_13 (by decide) ?_
  exact hret 1 () _ _ _ _ _ _ d_LW_place_14 (hI.old hsz hold) rfl (Nat.le_refl _) (Nat.le_refl _)
set_option maxRecDepth 100000 in
theorem lw_place_2 (l : Launch) (g : Geo) (ad : Nat → Nat) (ar : Nat → Nat → Int32) (fl : Nat → Int32) (ao : Nat) (fo : Nat → Int64) (x1 : Int32) {rm : Room} {mc ms : Nat} (hC : cMx l y_BL_place (.code y_BL_place b_BL_place 2 (some .int) :: gw) rm g [.ref (ad 0), .int x1] (cw g ad ar fl) IOB mc ms) (hrm : rm.cells = mc ∧ rm.slots = ms) : cWi l y_LW_place (.codeWith y_LW_place b_LW_place 4 (some .int) [(0, 9, 12, 15), (0, 9, 15, 36)] :: gw) { frames := rm.frames + 1, cells := mc, slots := ms, locals := 8 + (2 + 11) + rm.locals } g [.ref (ad 0), .int x1, .ref ao] (cw g ad ar fl ++ xo g ao fo) (fun (r : Int32) (_ : Unit) => r = 2) (fun _ => cw g ad ar fl ++ xo g ao fo) mc ms := by
  refine cWi_of (by decide) (Nat.le_of_ble_eq_true rfl) ?_
  intro p e s m below meth c A Q ls M hX hmap hret hl hI
  have hl : lv_has ls 4 [(0, .ref (ad 0)), (1, .int x1), (2, .ref ao)] := hl
  generalize ([.ref (ad 0), .int x1, .ref ao] : List Value).toArray = args at M hret ⊢
  have hx := M.1
  have hb := M.2.1
  refine lv_aload_n hx hb d_LW_place_0 rfl (lv_at hl 2 rfl) ?_
  refine lv_iconst (v := 0) hx hb d_LW_place_1 (by decide) ?_
  refine lv_aload_n hx hb d_LW_place_2 rfl (lv_at hl 0 rfl) ?_
  refine lv_iload_n hx hb d_LW_place_3 rfl (lv_at hl 1 rfl) ?_
  obtain ⟨e0, e1, hL, f0, f1⟩ := ex_2 hmap
  obtain ⟨v0, n0, p0, t0⟩ := ex_f (pc := 4) f0 (by decide) (by decide) (by decide)
  obtain ⟨v1, n1, p1, t1⟩ := ex_f (pc := 4) f1 (by decide) (by decide) (by decide)
  refine q_catch [.int x1] M hX hI.left hC ok_BL_place m4_162 m4_163 m4_164 0 rfl rfl rfl rfl hl.1 hrm ⟨Nat.le_refl _, Nat.le_refl _⟩ (Nat.le_of_ble_eq_true rfl) ⟨Nat.le_refl _, Nat.le_refl _⟩ d_LW_place_4 (pre := [e0]) (x := e1) (post := []) hL v1 n1 (by rw [t1]; exact m4_39) (List.forall_mem_cons.mpr ⟨⟨v0, n0, ISE, by rw [t0]; exact m2_132, by decide⟩, fun _ h => absurd h List.not_mem_nil⟩) (fun H1 v hsz hold => ?_)
  rw [p1]
  refine lv_astore_n (lv' := [(3, .ref v), (0, .ref (ad 0)), (1, .int x1), (2, .ref ao)]) hx hb d_LW_place_15 rfl hl (by decide) rfl (fun ls hl => ?_)
  refine lv_iconst (v := 2) hx hb d_LW_place_16 (by decide) ?_
  exact hret 2 () _ _ _ _ _ _ d_LW_place_17 (hI.old hsz hold) rfl (Nat.le_refl _) (Nat.le_refl _)
