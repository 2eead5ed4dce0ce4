/-! 70: the model: runs and sequences -/
theorem nxP_ge {V : List (List Nat)} {pe i : Nat} (h : ∀ i, i < tot V → LFn V i < pe) (q : pe ≤ nxP V pe i) : tot V ≤ i := by
  rcases Nat.lt_or_ge i (tot V) with z | z
  · have e : nxP V pe i = LFn V i := if_pos z
    have := h i z
    omega
  · exact z
theorem nxP_lt {V : List (List Nat)} {pe i : Nat} (q : ¬ pe ≤ nxP V pe i) : i < tot V ∧ nxP V pe i = LFn V i := by
  rcases Nat.lt_or_ge i (tot V) with z | z
  · exact ⟨z, if_pos z⟩
  · have e : nxP V pe i = pe := if_neg (by omega)
    omega
theorem nxP_le {V : List (List Nat)} {pe i : Nat} (h : ∀ i, i < tot V → LFn V i < pe) : nxP V pe i ≤ pe := by
  unfold nxP
  split
  · rename_i q; exact Nat.le_of_lt (h i q)
  · exact Nat.le_refl _
abbrev rm_MD_addRun : Room := { frames := 1, cells := 0, slots := 0, locals := 23 }
set_option maxHeartbeats 4000000 in
set_option maxRecDepth 100000 in
theorem c_MD_addRun (l : Launch) (g : Geo) (ad : Nat → Nat) (ar : Nat → Nat → Int32) (fl : Nat → Int32) (x : Nat) (b : Nat) (pe : Nat) (V : List (List Nat)) (r t : Nat) (acc : List Nat) (hV : V = rv (ar 12) b (pe - b)) (hbp : b ≤ pe) (hpe : pe ≤ 2000) (hs : lvS (ar 12) b pe) (hr : r < V.length) (ht : t < (runAt V r).length) (hx9 : x = LFn V (off V r + t)) (hac : sP (ar 18) acc) (h8 : fl 8 = nI acc.length) (hcap : acc.length + (runAt V r).length ≤ 2000) : cMv l y_MD_addRun (.code y_MD_addRun b_MD_addRun 7 none :: gw) rm_MD_addRun g [.ref (ad 0), .int (nI x), .int (nI b), .int (nI pe)] (mw g ad ar fl) (fun (u : (Nat → Int32)) => sP u (acc ++ runAt V r)) (fun (u : (Nat → Int32)) => mw g ad (va_up ar 18 u) (va_up fl 8 (nI (acc ++ runAt V r).length))) 0 0 := by
  refine cMv_of (by decide) (Nat.le_of_ble_eq_true rfl) ?_
  intro p e s m below meth c A Q ls M hnm hret hl hI
  have M : MC p s m ([.ref (ad 0), .int (nI x), .int (nI b), .int (nI pe)] : List Value).toArray meth c R_MD b_MD_addRun 7 := M
  have hl : lv_has ls 7 [(0, .ref (ad 0)), (1, .int (nI x)), (2, .int (nI b)), (3, .int (nI pe))] := hl
  generalize ([.ref (ad 0), .int (nI x), .int (nI b), .int (nI pe)] : List Value).toArray = args at M hret ⊢
  have hx := M.1
  have hb := M.2.1
  have hv : vlt (b + (pe - b)) V := hV ▸ (vlt_rv (lv := ar 12) (b := b) (pe - b)).1
  have htv : tot V ≤ pe - b := hV ▸ (vlt_rv (lv := ar 12) (b := b) (pe - b)).2
  have hrk : rok (ar 12) V := hV ▸ rok_rv (lv := ar 12) (b := b) (pe - b)
  have hLp : ∀ i, i < tot V → LFn V i < pe := fun i hi => by subst hV; have := LF_in hi; omega
  have hLF : ∀ i, i < tot V → b ≤ LFn V i ∧ LFn V i < 2000 := fun i hi => by subst hV; have := LF_in hi; omega
  have hrt := (runAt_flat (V := V) (r := r) (t := t) hr ht).2
  have hlx : ar 12 x = ar 12 (LFn V (off V r)) := by rw [hx9]; exact run_in hv hrk hr ht
  have hx2 : x < 2000 := by rw [hx9]; exact (hLF _ (by omega)).2
  refine lv_iload_n hx hb d_MD_addRun_0 rfl (lv_at hl 1 rfl) ?_
  refine q_as (y := nI (LFn V (off V r + t))) (by rw [hx9]) ?_
  refine lv_istore (lv' := [(4, .int (nI (LFn V (off V r + t)))), (0, .ref (ad 0)), (1, .int (nI x)), (2, .int (nI b)), (3, .int (nI pe))]) hx hb d_MD_addRun_1 hl (by decide) rfl (fun ls hl => ?_)
  refine lv_aload_n hx hb d_MD_addRun_3 rfl (lv_at hl 1 rfl) ?_
  refine lv_iload hx hb d_MD_addRun_4 (lv_at hl 0 rfl) ?_
  refine lv_iload_n hx hb d_MD_addRun_6 rfl (lv_at hl 3 rfl) ?_
  refine q_calliV [.int (nI (LFn V (off V r + t))), .int (nI b)] M hI (c_MD_leftBefore l g ad ar fl (LFn V (off V r + t)) b (by have := hLF (off V r + t) (by omega); omega) (by omega)) ok_MD_leftBefore m5_142 m5_144 ms_60 0 rfl rfl rfl rfl hl.1 ⟨rfl, rfl⟩ ⟨Nat.le_of_ble_eq_true rfl, Nat.le_of_ble_eq_true rfl⟩ (Nat.le_of_ble_eq_true rfl) ⟨Nat.le_of_ble_eq_true rfl, Nat.le_of_ble_eq_true rfl⟩ d_MD_addRun_7 (fun r7 u7 H locs hp7 hI => ?_)
  refine q_as (y := nI (lbZ (ar 12) b (LFn V (off V r + t))) - 1) hp7 ?_
  refine q_as (y := bk V b (off V r + t)) (by subst hV; exact bk_of hbp hs (by omega)) ?_
  refine lv_istore (lv' := [(5, .int (bk V b (off V r + t))), (4, .int (nI (LFn V (off V r + t)))), (0, .ref (ad 0)), (1, .int (nI x)), (2, .int (nI b)), (3, .int (nI pe))]) hx hb d_MD_addRun_10 hl (by decide) rfl (fun ls hl => ?_)
  have L12 : ∀ (fu : Nat) (w : Nat), w < fu → (w ≤ t) → ∀ (H : Heap) (locs : List Loc) (ls : Array Slot), CI g A s (mw g ad ar fl) H locs → lv_has ls 7 [(0, .ref (ad 0)), (1, .int (nI x)), (2, .int (nI b)), (3, .int (nI pe)), (4, .int (nI (LFn V (off V r + w)))), (5, .int (bk V b (off V r + w)))] → W p l e rm_MD_addRun s m args below meth c H locs 0 0 Q (F0 m 12 ls []) := by
    intro fu
    induction fu with
    | zero => intro w hm; exact absurd hm (Nat.not_lt_zero _)
    | succ fu ih12 =>
      intro w hm hw H locs ls hI hl
      refine lv_iload hx hb d_MD_addRun_12 (lv_at hl 5 rfl) ?_
      refine lv_iload_n hx hb d_MD_addRun_14 rfl (lv_at hl 2 rfl) ?_
      refine lv_icmp_lt (tgt := 50) hx hb d_MD_addRun_15 (by decide) (fun c15 => ?_) (fun c15 => ?_)
      · have hw0 : w = 0 := by have := bk_lt (V := V) (i := off V r + w) (by omega) c15 (fun h => by have := hLF (off V r + w - 1) (by omega); omega); omega
        refine lv_iload hx hb d_MD_addRun_50 (lv_at hl 4 rfl) ?_
        refine q_as (y := nI (nxP V pe (off V r + 0))) (by rw [hw0]; unfold nxP; rw [if_pos (show off V r + 0 < tot V by omega)]) ?_
        refine lv_istore (lv' := [(6, .int (nI (nxP V pe (off V r + 0)))), (0, .ref (ad 0)), (1, .int (nI x)), (2, .int (nI b)), (3, .int (nI pe)), (4, .int (nI (LFn V (off V r + w)))), (5, .int (bk V b (off V r + w)))]) hx hb d_MD_addRun_52 hl (by decide) rfl (fun ls hl => ?_)
        have L54 : ∀ (fu : Nat) (j : Nat) (y : Nat → Int32), ((runAt V r).length - j) < fu → (j ≤ (runAt V r).length) → (sP y (acc ++ (runAt V r).take j)) → ∀ (H : Heap) (locs : List Loc) (ls : Array Slot), CI g A s (mw g ad (va_up ar 18 y) (va_up fl 8 (nI (acc.length + j)))) H locs → lv_has ls 7 [(0, .ref (ad 0)), (1, .int (nI x)), (2, .int (nI b)), (3, .int (nI pe)), (6, .int (nI (nxP V pe (off V r + j))))] → W p l e rm_MD_addRun s m args below meth c H locs 0 0 Q (F0 m 54 ls []) := by
          intro fu
          induction fu with
          | zero => intro j y hm; exact absurd hm (Nat.not_lt_zero _)
          | succ fu ih54 =>
            intro j y hm hj hy H locs ls hI hl
            have hnb9 : nxP V pe (off V r + j) ≤ pe := nxP_le hLp
            refine lv_iload hx hb d_MD_addRun_54 (lv_at hl 4 rfl) ?_
            refine lv_iload_n hx hb d_MD_addRun_56 rfl (lv_at hl 3 rfl) ?_
            refine lv_icmp_ge (tgt := 111) hx hb d_MD_addRun_57 (by decide) (fun c57 => ?_) (fun c57 => ?_)
            · have c57 : pe ≤ nxP V pe (off V r + j) := (nI_leI (a := pe) (b := nxP V pe (off V r + j)) (by omega) (by omega)).mp c57
              have hje : j = (runAt V r).length := by have := nxP_ge hLp c57; omega
              have hI := CI.to (w2 := mw g ad (va_up ar 18 y) (va_up fl 8 (nI (acc ++ runAt V r).length))) hI (by rw [List.length_append, ← hje] <;> rfl)
              exact hret y _ _ _ _ _ _ d_MD_addRun_111 hI (by rw [hje, List.take_length] at hy; exact hy) (Nat.le_refl 0) (Nat.le_refl 0)
            · have c57 : ¬ pe ≤ nxP V pe (off V r + j) := fun h => c57 ((nI_leI (a := pe) (b := nxP V pe (off V r + j)) (by omega) (by omega)).mpr h)
              have hz9 : off V r + j < tot V := (nxP_lt c57).1
              have q9 : nxP V pe (off V r + j) = LFn V (off V r + j) := (nxP_lt c57).2
              have hb9 := hLF _ hz9
              rw [q9] at hl
              refine lv_aload_n hx hb d_MD_addRun_60 rfl (lv_at hl 0 rfl) ?_
              refine g_MD_43 M hI d_MD_addRun_61 ?_
              refine lv_iload hx hb d_MD_addRun_64 (lv_at hl 4 rfl) ?_
              refine bl_12 M hI (LFn V (off V r + j)) rfl (by omega) d_MD_addRun_66 ?_
              refine q_as (y := ar 12 (LFn V (off V r + j))) rfl ?_
              refine lv_aload_n hx hb d_MD_addRun_67 rfl (lv_at hl 0 rfl) ?_
              refine g_MD_43 M hI d_MD_addRun_68 ?_
              refine lv_iload_n hx hb d_MD_addRun_71 rfl (lv_at hl 1 rfl) ?_
              refine bl_12 M hI x rfl (by omega) d_MD_addRun_72 ?_
              refine q_as (y := ar 12 x) rfl ?_
              refine lv_icmp_ne (tgt := 111) hx hb d_MD_addRun_73 (by decide) (fun c73 => ?_) (fun c73 => ?_)
              · have hje : j = (runAt V r).length := by rcases Nat.lt_or_ge j (runAt V r).length with z | z; exact absurd (by rw [hlx]; exact run_in hv hrk hr z) c73; omega
                have hI := CI.to (w2 := mw g ad (va_up ar 18 y) (va_up fl 8 (nI (acc ++ runAt V r).length))) hI (by rw [List.length_append, ← hje] <;> rfl)
                exact hret y _ _ _ _ _ _ d_MD_addRun_111 hI (by rw [hje, List.take_length] at hy; exact hy) (Nat.le_refl 0) (Nat.le_refl 0)
              · have hjl : j < (runAt V r).length := by rcases Nat.lt_or_ge j (runAt V r).length with z | z; exact z; exact absurd (by rw [← hlx, ← show j = (runAt V r).length by omega]; exact c73) (run_post hv hrk hr (by rw [← show j = (runAt V r).length by omega]; exact hz9))
                have hy2 : sP (upd y (acc.length + j) (nI (LFn V (off V r + j)))) (acc ++ (runAt V r).take (j + 1)) := by have hln : (acc ++ (runAt V r).take j).length = acc.length + j := (by rw [List.length_append, List.length_take]; omega); have := sP_push (q := LFn V (off V r + j)) hy; rw [hln] at this; rw [take_step hjl, ← (runAt_flat hr hjl).1, ← List.append_assoc]; exact this
                refine lv_aload_n hx hb d_MD_addRun_76 rfl (lv_at hl 0 rfl) ?_
                refine g_MD_62 M hI d_MD_addRun_77 ?_
                refine lv_aload_n hx hb d_MD_addRun_80 rfl (lv_at hl 0 rfl) ?_
                refine g_MD_155 M hI d_MD_addRun_81 ?_
                refine q_as (y := nI (acc.length + j)) rfl ?_
                refine lv_iload hx hb d_MD_addRun_84 (lv_at hl 4 rfl) ?_
                refine bs_18 M hI (acc.length + j) rfl (by omega) d_MD_addRun_86 (fun H locs hI => ?_)
                have hI : CI g A s (mw g ad (va_up ar 18 (upd y (acc.length + j) (nI (LFn V (off V r + j))))) (va_up fl 8 (nI (acc.length + j)))) H locs := hI
                refine lv_aload_n hx hb d_MD_addRun_87 rfl (lv_at hl 0 rfl) ?_
                refine lv_dup hx hb d_MD_addRun_88 rfl ?_
                refine g_MD_155 M hI d_MD_addRun_89 ?_
                refine q_as (y := nI (acc.length + j)) rfl ?_
                refine lv_iconst (v := 1) hx hb d_MD_addRun_92 (by decide) ?_
                refine lv_iadd hx hb d_MD_addRun_93 ?_
                refine q_as (y := nI (acc.length + j + 1)) (nI_add (acc.length + j) 1) ?_
                refine p_MD_155 M hI d_MD_addRun_94 (fun H locs hI => ?_)
                have hI : CI g A s (mw g ad (va_up ar 18 (upd y (acc.length + j) (nI (LFn V (off V r + j))))) (va_up fl 8 (nI (acc.length + j + 1)))) H locs := hI
                refine lv_aload_n hx hb d_MD_addRun_97 rfl (lv_at hl 0 rfl) ?_
                refine lv_iload hx hb d_MD_addRun_98 (lv_at hl 4 rfl) ?_
                refine lv_iconst (v := 1) hx hb d_MD_addRun_100 (by decide) ?_
                refine lv_iadd hx hb d_MD_addRun_101 ?_
                refine q_as (y := nI (LFn V (off V r + j) + 1)) (nI_add (LFn V (off V r + j)) 1) ?_
                refine lv_iload_n hx hb d_MD_addRun_102 rfl (lv_at hl 3 rfl) ?_
                refine q_calliV [.int (nI (LFn V (off V r + j) + 1)), .int (nI pe)] M hI (c_MD_leftFrom l g ad (va_up ar 18 (upd y (acc.length + j) (nI (LFn V (off V r + j))))) (va_up fl 8 (nI (acc.length + j + 1))) (LFn V (off V r + j) + 1) pe (by omega) (by omega)) ok_MD_leftFrom m5_154 m5_156 ms_63 0 rfl rfl rfl rfl hl.1 ⟨rfl, rfl⟩ ⟨Nat.le_of_ble_eq_true rfl, Nat.le_of_ble_eq_true rfl⟩ (Nat.le_of_ble_eq_true rfl) ⟨Nat.le_of_ble_eq_true rfl, Nat.le_of_ble_eq_true rfl⟩ d_MD_addRun_103 (fun r103 u103 H locs hp103 hI => ?_)
                refine q_as (y := nI (lfr (ar 12) (pe - (LFn V (off V r + j) + 1)) (LFn V (off V r + j) + 1))) hp103 ?_
                refine q_as (y := nI (nxP V pe (off V r + (j + 1)))) (by subst hV; exact congrArg nI (nx_of hbp hs (by omega))) ?_
                refine lv_istore (lv' := [(6, .int (nI (nxP V pe (off V r + (j + 1))))), (0, .ref (ad 0)), (1, .int (nI x)), (2, .int (nI b)), (3, .int (nI pe))]) hx hb d_MD_addRun_106 hl (by decide) rfl (fun ls hl => ?_)
                refine lv_goto (tgt := 54) hx hb d_MD_addRun_108 (by decide) ?_
                exact ih54 (j + 1) (upd y (acc.length + j) (nI (LFn V (off V r + j)))) (by omega) (by first | assumption | omega) (by first | assumption | omega) _ _ _ hI (lv_sub hl [1, 2, 3, 4, 0] rfl)
        have hI := CI.to (w2 := mw g ad (va_up ar 18 (ar 18)) (va_up fl 8 (nI (acc.length + 0)))) hI (by rw [show acc.length + 0 = acc.length from rfl, ← h8]; rfl)
        exact L54 _ 0 (ar 18) (Nat.lt_succ_self _) (Nat.zero_le _) (by rw [List.take_zero, List.append_nil]; exact hac) _ _ _ hI (lv_sub hl [1, 2, 3, 4, 0] rfl)
      · have hbk := bk_ge (V := V) (i := off V r + w) (by omega) c15
        have hbi := hLF (off V r + w - 1) (by omega)
        rw [hbk.2] at hl
        have L54 : ∀ (fu : Nat) (j : Nat) (y : Nat → Int32), ((runAt V r).length - j) < fu → (j ≤ (runAt V r).length) → (sP y (acc ++ (runAt V r).take j)) → ∀ (H : Heap) (locs : List Loc) (ls : Array Slot), CI g A s (mw g ad (va_up ar 18 y) (va_up fl 8 (nI (acc.length + j)))) H locs → lv_has ls 7 [(0, .ref (ad 0)), (1, .int (nI x)), (2, .int (nI b)), (3, .int (nI pe)), (6, .int (nI (nxP V pe (off V r + j))))] → W p l e rm_MD_addRun s m args below meth c H locs 0 0 Q (F0 m 54 ls []) := by
          intro fu
          induction fu with
          | zero => intro j y hm; exact absurd hm (Nat.not_lt_zero _)
          | succ fu ih54 =>
            intro j y hm hj hy H locs ls hI hl
            have hnb9 : nxP V pe (off V r + j) ≤ pe := nxP_le hLp
            refine lv_iload hx hb d_MD_addRun_54 (lv_at hl 4 rfl) ?_
            refine lv_iload_n hx hb d_MD_addRun_56 rfl (lv_at hl 3 rfl) ?_
            refine lv_icmp_ge (tgt := 111) hx hb d_MD_addRun_57 (by decide) (fun c57 => ?_) (fun c57 => ?_)
            · have c57 : pe ≤ nxP V pe (off V r + j) := (nI_leI (a := pe) (b := nxP V pe (off V r + j)) (by omega) (by omega)).mp c57
              have hje : j = (runAt V r).length := by have := nxP_ge hLp c57; omega
              have hI := CI.to (w2 := mw g ad (va_up ar 18 y) (va_up fl 8 (nI (acc ++ runAt V r).length))) hI (by rw [List.length_append, ← hje] <;> rfl)
              exact hret y _ _ _ _ _ _ d_MD_addRun_111 hI (by rw [hje, List.take_length] at hy; exact hy) (Nat.le_refl 0) (Nat.le_refl 0)
            · have c57 : ¬ pe ≤ nxP V pe (off V r + j) := fun h => c57 ((nI_leI (a := pe) (b := nxP V pe (off V r + j)) (by omega) (by omega)).mpr h)
              have hz9 : off V r + j < tot V := (nxP_lt c57).1
              have q9 : nxP V pe (off V r + j) = LFn V (off V r + j) := (nxP_lt c57).2
              have hb9 := hLF _ hz9
              rw [q9] at hl
              refine lv_aload_n hx hb d_MD_addRun_60 rfl (lv_at hl 0 rfl) ?_
              refine g_MD_43 M hI d_MD_addRun_61 ?_
              refine lv_iload hx hb d_MD_addRun_64 (lv_at hl 4 rfl) ?_
              refine bl_12 M hI (LFn V (off V r + j)) rfl (by omega) d_MD_addRun_66 ?_
              refine q_as (y := ar 12 (LFn V (off V r + j))) rfl ?_
              refine lv_aload_n hx hb d_MD_addRun_67 rfl (lv_at hl 0 rfl) ?_
              refine g_MD_43 M hI d_MD_addRun_68 ?_
              refine lv_iload_n hx hb d_MD_addRun_71 rfl (lv_at hl 1 rfl) ?_
              refine bl_12 M hI x rfl (by omega) d_MD_addRun_72 ?_
              refine q_as (y := ar 12 x) rfl ?_
              refine lv_icmp_ne (tgt := 111) hx hb d_MD_addRun_73 (by decide) (fun c73 => ?_) (fun c73 => ?_)
              · have hje : j = (runAt V r).length := by rcases Nat.lt_or_ge j (runAt V r).length with z | z; exact absurd (by rw [hlx]; exact run_in hv hrk hr z) c73; omega
                have hI := CI.to (w2 := mw g ad (va_up ar 18 y) (va_up fl 8 (nI (acc ++ runAt V r).length))) hI (by rw [List.length_append, ← hje] <;> rfl)
                exact hret y _ _ _ _ _ _ d_MD_addRun_111 hI (by rw [hje, List.take_length] at hy; exact hy) (Nat.le_refl 0) (Nat.le_refl 0)
              · have hjl : j < (runAt V r).length := by rcases Nat.lt_or_ge j (runAt V r).length with z | z; exact z; exact absurd (by rw [← hlx, ← show j = (runAt V r).length by omega]; exact c73) (run_post hv hrk hr (by rw [← show j = (runAt V r).length by omega]; exact hz9))
                have hy2 : sP (upd y (acc.length + j) (nI (LFn V (off V r + j)))) (acc ++ (runAt V r).take (j + 1)) := by have hln : (acc ++ (runAt V r).take j).length = acc.length + j := (by rw [List.length_append, List.length_take]; omega); have := sP_push (q := LFn V (off V r + j)) hy; rw [hln] at this; rw [take_step hjl, ← (runAt_flat hr hjl).1, ← List.append_assoc]; exact this
                refine lv_aload_n hx hb d_MD_addRun_76 rfl (lv_at hl 0 rfl) ?_
                refine g_MD_62 M hI d_MD_addRun_77 ?_
                refine lv_aload_n hx hb d_MD_addRun_80 rfl (lv_at hl 0 rfl) ?_
                refine g_MD_155 M hI d_MD_addRun_81 ?_
                refine q_as (y := nI (acc.length + j)) rfl ?_
                refine lv_iload hx hb d_MD_addRun_84 (lv_at hl 4 rfl) ?_
                refine bs_18 M hI (acc.length + j) rfl (by omega) d_MD_addRun_86 (fun H locs hI => ?_)
                have hI : CI g A s (mw g ad (va_up ar 18 (upd y (acc.length + j) (nI (LFn V (off V r + j))))) (va_up fl 8 (nI (acc.length + j)))) H locs := hI
                refine lv_aload_n hx hb d_MD_addRun_87 rfl (lv_at hl 0 rfl) ?_
                refine lv_dup hx hb d_MD_addRun_88 rfl ?_
                refine g_MD_155 M hI d_MD_addRun_89 ?_
                refine q_as (y := nI (acc.length + j)) rfl ?_
                refine lv_iconst (v := 1) hx hb d_MD_addRun_92 (by decide) ?_
                refine lv_iadd hx hb d_MD_addRun_93 ?_
                refine q_as (y := nI (acc.length + j + 1)) (nI_add (acc.length + j) 1) ?_
                refine p_MD_155 M hI d_MD_addRun_94 (fun H locs hI => ?_)
                have hI : CI g A s (mw g ad (va_up ar 18 (upd y (acc.length + j) (nI (LFn V (off V r + j))))) (va_up fl 8 (nI (acc.length + j + 1)))) H locs := hI
                refine lv_aload_n hx hb d_MD_addRun_97 rfl (lv_at hl 0 rfl) ?_
                refine lv_iload hx hb d_MD_addRun_98 (lv_at hl 4 rfl) ?_
                refine lv_iconst (v := 1) hx hb d_MD_addRun_100 (by decide) ?_
                refine lv_iadd hx hb d_MD_addRun_101 ?_
                refine q_as (y := nI (LFn V (off V r + j) + 1)) (nI_add (LFn V (off V r + j)) 1) ?_
                refine lv_iload_n hx hb d_MD_addRun_102 rfl (lv_at hl 3 rfl) ?_
                refine q_calliV [.int (nI (LFn V (off V r + j) + 1)), .int (nI pe)] M hI (c_MD_leftFrom l g ad (va_up ar 18 (upd y (acc.length + j) (nI (LFn V (off V r + j))))) (va_up fl 8 (nI (acc.length + j + 1))) (LFn V (off V r + j) + 1) pe (by omega) (by omega)) ok_MD_leftFrom m5_154 m5_156 ms_63 0 rfl rfl rfl rfl hl.1 ⟨rfl, rfl⟩ ⟨Nat.le_of_ble_eq_true rfl, Nat.le_of_ble_eq_true rfl⟩ (Nat.le_of_ble_eq_true rfl) ⟨Nat.le_of_ble_eq_true rfl, Nat.le_of_ble_eq_true rfl⟩ d_MD_addRun_103 (fun r103 u103 H locs hp103 hI => ?_)
                refine q_as (y := nI (lfr (ar 12) (pe - (LFn V (off V r + j) + 1)) (LFn V (off V r + j) + 1))) hp103 ?_
                refine q_as (y := nI (nxP V pe (off V r + (j + 1)))) (by subst hV; exact congrArg nI (nx_of hbp hs (by omega))) ?_
                refine lv_istore (lv' := [(6, .int (nI (nxP V pe (off V r + (j + 1))))), (0, .ref (ad 0)), (1, .int (nI x)), (2, .int (nI b)), (3, .int (nI pe))]) hx hb d_MD_addRun_106 hl (by decide) rfl (fun ls hl => ?_)
                refine lv_goto (tgt := 54) hx hb d_MD_addRun_108 (by decide) ?_
                exact ih54 (j + 1) (upd y (acc.length + j) (nI (LFn V (off V r + j)))) (by omega) (by first | assumption | omega) (by first | assumption | omega) _ _ _ hI (lv_sub hl [1, 2, 3, 4, 0] rfl)
        refine lv_aload_n hx hb d_MD_addRun_18 rfl (lv_at hl 0 rfl) ?_
        refine g_MD_43 M hI d_MD_addRun_19 ?_
        refine lv_iload hx hb d_MD_addRun_22 (lv_at hl 5 rfl) ?_
        refine bl_12 M hI (LFn V (off V r + w - 1)) rfl (by omega) d_MD_addRun_24 ?_
        refine lv_aload_n hx hb d_MD_addRun_25 rfl (lv_at hl 0 rfl) ?_
        refine g_MD_43 M hI d_MD_addRun_26 ?_
        refine lv_iload_n hx hb d_MD_addRun_29 rfl (lv_at hl 1 rfl) ?_
        refine bl_12 M hI x rfl (by omega) d_MD_addRun_30 ?_
        refine lv_icmp_ne (tgt := 50) hx hb d_MD_addRun_31 (by decide) (fun c31 => ?_) (fun c31 => ?_)
        · have hw0 : w = 0 := by rcases Nat.eq_zero_or_pos w with z | z; exact z; exact absurd (by rw [hlx, show off V r + w - 1 = off V r + (w - 1) by omega]; exact run_in hv hrk hr (by omega)) c31
          refine lv_iload hx hb d_MD_addRun_50 (lv_at hl 4 rfl) ?_
          refine q_as (y := nI (nxP V pe (off V r + 0))) (by rw [hw0]; unfold nxP; rw [if_pos (show off V r + 0 < tot V by omega)]) ?_
          refine lv_istore (lv' := [(6, .int (nI (nxP V pe (off V r + 0)))), (0, .ref (ad 0)), (1, .int (nI x)), (2, .int (nI b)), (3, .int (nI pe)), (4, .int (nI (LFn V (off V r + w)))), (5, .int (nI (LFn V (off V r + w - 1))))]) hx hb d_MD_addRun_52 hl (by decide) rfl (fun ls hl => ?_)
          have hI := CI.to (w2 := mw g ad (va_up ar 18 (ar 18)) (va_up fl 8 (nI (acc.length + 0)))) hI (by rw [show acc.length + 0 = acc.length from rfl, ← h8]; rfl)
          exact L54 _ 0 (ar 18) (Nat.lt_succ_self _) (Nat.zero_le _) (by rw [List.take_zero, List.append_nil]; exact hac) _ _ _ hI (lv_sub hl [1, 2, 3, 4, 0] rfl)
        · obtain ⟨w9, hw9⟩ : ∃ w9, w = w9 + 1 := by rcases Nat.eq_zero_or_pos w with z | z; exact absurd (by rw [z, hlx] at c31; exact c31) (run_pre hv hrk hr (by omega)); exact ⟨w - 1, by omega⟩
          have e9 : off V r + w - 1 = off V r + w9 := by omega
          rw [e9] at hl
          refine lv_iload hx hb d_MD_addRun_34 (lv_at hl 5 rfl) ?_
          refine lv_istore (lv' := [(4, .int (nI (LFn V (off V r + w9)))), (0, .ref (ad 0)), (1, .int (nI x)), (2, .int (nI b)), (3, .int (nI pe)), (5, .int (nI (LFn V (off V r + w9))))]) hx hb d_MD_addRun_36 hl (by decide) rfl (fun ls hl => ?_)
          refine lv_aload_n hx hb d_MD_addRun_38 rfl (lv_at hl 1 rfl) ?_
          refine lv_iload hx hb d_MD_addRun_39 (lv_at hl 0 rfl) ?_
          refine lv_iload_n hx hb d_MD_addRun_41 rfl (lv_at hl 3 rfl) ?_
          refine q_calliV [.int (nI (LFn V (off V r + w9))), .int (nI b)] M hI (c_MD_leftBefore l g ad ar fl (LFn V (off V r + w9)) b (by have := hLF (off V r + w9) (by omega); omega) (by omega)) ok_MD_leftBefore m5_142 m5_144 ms_60 0 rfl rfl rfl rfl hl.1 ⟨rfl, rfl⟩ ⟨Nat.le_of_ble_eq_true rfl, Nat.le_of_ble_eq_true rfl⟩ (Nat.le_of_ble_eq_true rfl) ⟨Nat.le_of_ble_eq_true rfl, Nat.le_of_ble_eq_true rfl⟩ d_MD_addRun_42 (fun r42 u42 H locs hp42 hI => ?_)
          refine q_as (y := nI (lbZ (ar 12) b (LFn V (off V r + w9))) - 1) hp42 ?_
          refine q_as (y := bk V b (off V r + w9)) (by subst hV; exact bk_of hbp hs (by omega)) ?_
          refine lv_istore (lv' := [(5, .int (bk V b (off V r + w9))), (4, .int (nI (LFn V (off V r + w9)))), (0, .ref (ad 0)), (1, .int (nI x)), (2, .int (nI b)), (3, .int (nI pe))]) hx hb d_MD_addRun_45 hl (by decide) rfl (fun ls hl => ?_)
          refine lv_goto (tgt := 12) hx hb d_MD_addRun_47 (by decide) ?_
          exact ih12 w9 (by omega) (by first | assumption | omega) _ _ _ hI (lv_sub hl [2, 3, 4, 5, 1, 0] rfl)
  exact L12 _ t (Nat.lt_succ_self _) (by first | assumption | omega) _ _ _ hI (lv_sub hl [2, 3, 4, 5, 1, 0] rfl)
abbrev rm_MD_begins : Room := { frames := 1, cells := 0, slots := 0, locals := 23 }
set_option maxHeartbeats 4000000 in
set_option maxRecDepth 100000 in
theorem c_MD_begins (l : Launch) (g : Geo) (ad : Nat → Nat) (ar : Nat → Nat → Int32) (fl : Nat → Int32) (x : Nat) (b : Nat) (d pe : Nat) (hx9 : x = b + d) (hd : b + d < pe) (hpe : pe ≤ 2000) (hs : lvS (ar 12) b pe) : cMi l y_MD_begins (.code y_MD_begins b_MD_begins 5 (some .boolean) :: gw) rm_MD_begins g [.ref (ad 0), .int (nI x), .int (nI b)] (mw g ad ar fl) (fun (r : Int32) (_ : Unit) => r = bI (nwR (ar 12) x (rv (ar 12) b d) ∧ ¬ (ar 9 x = 22 ∧ ¬ ar 13 x < 0))) (fun (_ : Unit) => mw g ad ar fl) 0 0 := by
  refine cMz_of (by decide) (Nat.le_of_ble_eq_true rfl) ?_
  intro p e s m below meth c A Q ls M hret hl hI
  have M : MC p s m ([.ref (ad 0), .int (nI x), .int (nI b)] : List Value).toArray meth c R_MD b_MD_begins 5 := M
  have hl : lv_has ls 5 [(0, .ref (ad 0)), (1, .int (nI x)), (2, .int (nI b))] := hl
  generalize ([.ref (ad 0), .int (nI x), .int (nI b)] : List Value).toArray = args at M hret ⊢
  have hx := M.1
  have hb := M.2.1
  have hrv := lbZ_rv hs d (by omega)
  refine lv_aload_n hx hb d_MD_begins_0 rfl (lv_at hl 0 rfl) ?_
  refine lv_iload_n hx hb d_MD_begins_1 rfl (lv_at hl 1 rfl) ?_
  refine lv_iload_n hx hb d_MD_begins_2 rfl (lv_at hl 2 rfl) ?_
  refine q_calliV [.int (nI x), .int (nI b)] M hI (c_MD_leftBefore l g ad ar fl x b (by omega) (by omega)) ok_MD_leftBefore m5_142 m5_144 ms_60 0 rfl rfl rfl rfl hl.1 ⟨rfl, rfl⟩ ⟨Nat.le_of_ble_eq_true rfl, Nat.le_of_ble_eq_true rfl⟩ (Nat.le_of_ble_eq_true rfl) ⟨Nat.le_of_ble_eq_true rfl, Nat.le_of_ble_eq_true rfl⟩ d_MD_begins_3 (fun r3 u3 H locs hp3 hI => ?_)
  refine q_as (y := nI (lbZ (ar 12) b x) - 1) hp3 ?_
  refine lv_istore_n (lv' := [(3, .int (nI (lbZ (ar 12) b x) - 1)), (0, .ref (ad 0)), (1, .int (nI x)), (2, .int (nI b))]) hx hb d_MD_begins_6 rfl hl (by decide) rfl (fun ls hl => ?_)
  refine lv_iload_n hx hb d_MD_begins_7 rfl (lv_at hl 0 rfl) ?_
  refine lv_iload_n hx hb d_MD_begins_8 rfl (lv_at hl 3 rfl) ?_
  refine lv_icmp_lt (tgt := 27) hx hb d_MD_begins_9 (by decide) (fun c9 => ?_) (fun c9 => ?_)
  · have hnw : nwR (ar 12) x (rv (ar 12) b d) := by rcases hrv with h | ⟨p9, t9, r9, h1, h2, h3, h4⟩; rw [h.1]; trivial; exfalso; rw [hx9, h2, nI_pred] at c9; have := (nI_ltI (by omega) (by omega)).mp c9; omega
    refine lv_iconst (v := 1) hx hb d_MD_begins_27 (by decide) ?_
    refine lv_goto (tgt := 32) hx hb d_MD_begins_28 (by decide) ?_
    refine lv_istore (lv' := [(4, .int 1), (3, .int (nI (lbZ (ar 12) b x) - 1)), (0, .ref (ad 0)), (1, .int (nI x)), (2, .int (nI b))]) hx hb d_MD_begins_32 hl (by decide) rfl (fun ls hl => ?_)
    refine lv_iload hx hb d_MD_begins_34 (lv_at hl 0 rfl) ?_
    refine lv_if_eq (tgt := 63) hx hb d_MD_begins_36 (by decide) (fun c36 => ?_) (fun c36 => ?_)
    · have c36 : 1 = 0 := (nI_eq (a := 1) (b := 0) (by omega) (by omega)).mp c36
      exfalso; omega
    · have c36 : ¬ 1 = 0 := fun h => c36 ((nI_eq (a := 1) (b := 0) (by omega) (by omega)).mpr h)
      refine lv_aload_n hx hb d_MD_begins_39 rfl (lv_at hl 2 rfl) ?_
      refine g_MD_34 M hI d_MD_begins_40 ?_
      refine lv_iload_n hx hb d_MD_begins_43 rfl (lv_at hl 3 rfl) ?_
      refine bl_9 M hI x rfl (by omega) d_MD_begins_44 ?_
      refine lv_bipush (v := 22) hx hb d_MD_begins_45 (by decide) ?_
      refine lv_icmp_ne (tgt := 59) hx hb d_MD_begins_47 (by decide) (fun c47 => ?_) (fun c47 => ?_)
      · refine lv_iconst (v := 1) hx hb d_MD_begins_59 (by decide) ?_
        refine lv_goto (tgt := 64) hx hb d_MD_begins_60 (by decide) ?_
        exact hret 1 () _ _ _ _ _ _ d_MD_begins_64 hI (by symm; first | exact bI_t ⟨hnw, fun z => c47 z.1⟩ | exact bI_t ⟨hnw, fun z => z.2 (Int32.not_le.mp c56)⟩ | exact bI_t ⟨hnw, fun z => z.2 c56⟩ | (apply bI_f; intro z; exact hnw z.1) | (apply bI_f; intro z; exact z.2 ⟨c47, fun w => c56 w⟩) | (apply bI_f; intro z; exact z.2 ⟨c47, Int32.not_lt.mpr c56⟩)) (by first | rfl | exact bI_narrow) (Nat.le_refl 0) (Nat.le_refl 0)
      · refine lv_aload_n hx hb d_MD_begins_50 rfl (lv_at hl 2 rfl) ?_
        refine g_MD_46 M hI d_MD_begins_51 ?_
        refine lv_iload_n hx hb d_MD_begins_54 rfl (lv_at hl 3 rfl) ?_
        refine bl_13 M hI x rfl (by omega) d_MD_begins_55 ?_
        refine lv_if_ge (tgt := 63) hx hb d_MD_begins_56 (by decide) (fun c56 => ?_) (fun c56 => ?_)
        · refine lv_iconst (v := 0) hx hb d_MD_begins_63 (by decide) ?_
          exact hret 0 () _ _ _ _ _ _ d_MD_begins_64 hI (by symm; first | exact bI_t ⟨hnw, fun z => c47 z.1⟩ | exact bI_t ⟨hnw, fun z => z.2 (Int32.not_le.mp c56)⟩ | exact bI_t ⟨hnw, fun z => z.2 c56⟩ | (apply bI_f; intro z; exact hnw z.1) | (apply bI_f; intro z; exact z.2 ⟨c47, fun w => c56 w⟩) | (apply bI_f; intro z; exact z.2 ⟨c47, Int32.not_lt.mpr c56⟩)) (by first | rfl | exact bI_narrow) (Nat.le_refl 0) (Nat.le_refl 0)
        · refine lv_iconst (v := 1) hx hb d_MD_begins_59 (by decide) ?_
          refine lv_goto (tgt := 64) hx hb d_MD_begins_60 (by decide) ?_
          exact hret 1 () _ _ _ _ _ _ d_MD_begins_64 hI (by symm; first | exact bI_t ⟨hnw, fun z => c47 z.1⟩ | exact bI_t ⟨hnw, fun z => z.2 (Int32.not_le.mp c56)⟩ | exact bI_t ⟨hnw, fun z => z.2 c56⟩ | (apply bI_f; intro z; exact hnw z.1) | (apply bI_f; intro z; exact z.2 ⟨c47, fun w => c56 w⟩) | (apply bI_f; intro z; exact z.2 ⟨c47, Int32.not_lt.mpr c56⟩)) (by first | rfl | exact bI_narrow) (Nat.le_refl 0) (Nat.le_refl 0)
  · obtain ⟨p9, t9, r9, h1, h2, h3, h4⟩ := hrv.resolve_left (fun h => c9 (by rw [hx9, h.2]; exact nI_m1lts (by omega)))
    have e9 : nI (lbZ (ar 12) b x) - 1 = nI p9 := by rw [hx9, h2]; exact nI_pred _
    rw [e9] at hl
    refine lv_aload_n hx hb d_MD_begins_12 rfl (lv_at hl 1 rfl) ?_
    refine g_MD_43 M hI d_MD_begins_13 ?_
    refine lv_iload_n hx hb d_MD_begins_16 rfl (lv_at hl 0 rfl) ?_
    refine bl_12 M hI p9 rfl (by omega) d_MD_begins_17 ?_
    refine lv_aload_n hx hb d_MD_begins_18 rfl (lv_at hl 1 rfl) ?_
    refine g_MD_43 M hI d_MD_begins_19 ?_
    refine lv_iload_n hx hb d_MD_begins_22 rfl (lv_at hl 2 rfl) ?_
    refine bl_12 M hI x rfl (by omega) d_MD_begins_23 ?_
    refine lv_icmp_eq (tgt := 31) hx hb d_MD_begins_24 (by decide) (fun c24 => ?_) (fun c24 => ?_)
    · have hnw : ¬ nwR (ar 12) x (rv (ar 12) b d) := by rw [h1]; exact fun z => z c24
      refine lv_iconst (v := 0) hx hb d_MD_begins_31 (by decide) ?_
      refine lv_istore (lv' := [(4, .int 0), (3, .int (nI p9)), (0, .ref (ad 0)), (1, .int (nI x)), (2, .int (nI b))]) hx hb d_MD_begins_32 hl (by decide) rfl (fun ls hl => ?_)
      refine lv_iload hx hb d_MD_begins_34 (lv_at hl 0 rfl) ?_
      refine lv_if_eq (tgt := 63) hx hb d_MD_begins_36 (by decide) (fun c36 => ?_) (fun c36 => ?_)
      · have c36 : 0 = 0 := (nI_eq (a := 0) (b := 0) (by omega) (by omega)).mp c36
        refine lv_iconst (v := 0) hx hb d_MD_begins_63 (by decide) ?_
        exact hret 0 () _ _ _ _ _ _ d_MD_begins_64 hI (by symm; first | exact bI_t ⟨hnw, fun z => c47 z.1⟩ | exact bI_t ⟨hnw, fun z => z.2 (Int32.not_le.mp c56)⟩ | exact bI_t ⟨hnw, fun z => z.2 c56⟩ | (apply bI_f; intro z; exact hnw z.1) | (apply bI_f; intro z; exact z.2 ⟨c47, fun w => c56 w⟩) | (apply bI_f; intro z; exact z.2 ⟨c47, Int32.not_lt.mpr c56⟩)) (by first | rfl | exact bI_narrow) (Nat.le_refl 0) (Nat.le_refl 0)
      · have c36 : ¬ 0 = 0 := fun h => c36 ((nI_eq (a := 0) (b := 0) (by omega) (by omega)).mpr h)
        exfalso; omega
    · have hnw : nwR (ar 12) x (rv (ar 12) b d) := by rw [h1]; exact c24
      refine lv_iconst (v := 1) hx hb d_MD_begins_27 (by decide) ?_
      refine lv_goto (tgt := 32) hx hb d_MD_begins_28 (by decide) ?_
      refine lv_istore (lv' := [(4, .int 1), (3, .int (nI p9)), (0, .ref (ad 0)), (1, .int (nI x)), (2, .int (nI b))]) hx hb d_MD_begins_32 hl (by decide) rfl (fun ls hl => ?_)
      refine lv_iload hx hb d_MD_begins_34 (lv_at hl 0 rfl) ?_
      refine lv_if_eq (tgt := 63) hx hb d_MD_begins_36 (by decide) (fun c36 => ?_) (fun c36 => ?_)
      · have c36 : 1 = 0 := (nI_eq (a := 1) (b := 0) (by omega) (by omega)).mp c36
        exfalso; omega
      · have c36 : ¬ 1 = 0 := fun h => c36 ((nI_eq (a := 1) (b := 0) (by omega) (by omega)).mpr h)
        refine lv_aload_n hx hb d_MD_begins_39 rfl (lv_at hl 2 rfl) ?_
        refine g_MD_34 M hI d_MD_begins_40 ?_
        refine lv_iload_n hx hb d_MD_begins_43 rfl (lv_at hl 3 rfl) ?_
        refine bl_9 M hI x rfl (by omega) d_MD_begins_44 ?_
        refine lv_bipush (v := 22) hx hb d_MD_begins_45 (by decide) ?_
        refine lv_icmp_ne (tgt := 59) hx hb d_MD_begins_47 (by decide) (fun c47 => ?_) (fun c47 => ?_)
        · refine lv_iconst (v := 1) hx hb d_MD_begins_59 (by decide) ?_
          refine lv_goto (tgt := 64) hx hb d_MD_begins_60 (by decide) ?_
          exact hret 1 () _ _ _ _ _ _ d_MD_begins_64 hI (by symm; first | exact bI_t ⟨hnw, fun z => c47 z.1⟩ | exact bI_t ⟨hnw, fun z => z.2 (Int32.not_le.mp c56)⟩ | exact bI_t ⟨hnw, fun z => z.2 c56⟩ | (apply bI_f; intro z; exact hnw z.1) | (apply bI_f; intro z; exact z.2 ⟨c47, fun w => c56 w⟩) | (apply bI_f; intro z; exact z.2 ⟨c47, Int32.not_lt.mpr c56⟩)) (by first | rfl | exact bI_narrow) (Nat.le_refl 0) (Nat.le_refl 0)
        · refine lv_aload_n hx hb d_MD_begins_50 rfl (lv_at hl 2 rfl) ?_
          refine g_MD_46 M hI d_MD_begins_51 ?_
          refine lv_iload_n hx hb d_MD_begins_54 rfl (lv_at hl 3 rfl) ?_
          refine bl_13 M hI x rfl (by omega) d_MD_begins_55 ?_
          refine lv_if_ge (tgt := 63) hx hb d_MD_begins_56 (by decide) (fun c56 => ?_) (fun c56 => ?_)
          · refine lv_iconst (v := 0) hx hb d_MD_begins_63 (by decide) ?_
            exact hret 0 () _ _ _ _ _ _ d_MD_begins_64 hI (by symm; first | exact bI_t ⟨hnw, fun z => c47 z.1⟩ | exact bI_t ⟨hnw, fun z => z.2 (Int32.not_le.mp c56)⟩ | exact bI_t ⟨hnw, fun z => z.2 c56⟩ | (apply bI_f; intro z; exact hnw z.1) | (apply bI_f; intro z; exact z.2 ⟨c47, fun w => c56 w⟩) | (apply bI_f; intro z; exact z.2 ⟨c47, Int32.not_lt.mpr c56⟩)) (by first | rfl | exact bI_narrow) (Nat.le_refl 0) (Nat.le_refl 0)
          · refine lv_iconst (v := 1) hx hb d_MD_begins_59 (by decide) ?_
            refine lv_goto (tgt := 64) hx hb d_MD_begins_60 (by decide) ?_
            exact hret 1 () _ _ _ _ _ _ d_MD_begins_64 hI (by symm; first | exact bI_t ⟨hnw, fun z => c47 z.1⟩ | exact bI_t ⟨hnw, fun z => z.2 (Int32.not_le.mp c56)⟩ | exact bI_t ⟨hnw, fun z => z.2 c56⟩ | (apply bI_f; intro z; exact hnw z.1) | (apply bI_f; intro z; exact z.2 ⟨c47, fun w => c56 w⟩) | (apply bI_f; intro z; exact z.2 ⟨c47, Int32.not_lt.mpr c56⟩)) (by first | rfl | exact bI_narrow) (Nat.le_refl 0) (Nat.le_refl 0)
abbrev rm_MD_makeSequence : Room := { frames := 2, cells := 0, slots := 0, locals := 49 }
set_option maxHeartbeats 4000000 in
set_option maxRecDepth 100000 in
theorem c_MD_makeSequence (l : Launch) (g : Geo) (ad : Nat → Nat) (ar : Nat → Nat → Int32) (fl : Nat → Int32) (x : Nat) (b : Nat) (pe : Nat) (base : Nat) (V : List (List Nat)) (L : Nat → Nat) (r0 : Nat) (hV : V = rv (ar 12) b (pe - b)) (hbp : b ≤ pe) (hpe : pe ≤ 2000) (hs : lvS (ar 12) b pe) (hr0 : r0 < V.length) (hx9 : x = LFn V (off V r0)) (hi : incR V (ar 9) (ar 13)) (hgo : ∀ r, r < V.length → goes V (ar 9) (ar 13) r → (ar 13 (lastP V r)).toNatClampNeg ∈ flat V) (hmt : okM (ar 13)) (hL : ∀ q ∈ flat V, ar 12 q = nI (L q) ∧ L q ≤ 125) (hbs : base ≤ 1) : cMv l y_MD_makeSequence (.code y_MD_makeSequence b_MD_makeSequence 10 none :: gw) rm_MD_makeSequence g [.ref (ad 0), .int (nI x), .int (nI b), .int (nI pe), .int (nI base)] (mw g ad ar fl) (fun (u : (Nat → Int32)) => sP u (SQ V (ar 9) (ar 13) r0)) (fun (u : (Nat → Int32)) => mw g ad (va_up ar 18 u) (va_up (va_up (va_up (va_up fl 8 (nI (SQ V (ar 9) (ar 13) r0).length)) 11 (nI (L (LFn V (off V r0))))) 9 (nI (max (L (LFn V (off V r0))) (lvA V L (off V r0) base) % 2))) 10 (nI (max (L (LFn V (off V r0))) (lvB V (ar 9) L (off V (LR V (ar 9) (ar 13) r0) + (runAt V (LR V (ar 9) (ar 13) r0)).length) base) % 2)))) 0 0 := by
  refine cMv_of (by decide) (Nat.le_of_ble_eq_true rfl) ?_
  intro p e s m below meth c A Q ls M hnm hret hl hI
  have M : MC p s m ([.ref (ad 0), .int (nI x), .int (nI b), .int (nI pe), .int (nI base)] : List Value).toArray meth c R_MD b_MD_makeSequence 10 := M
  have hl : lv_has ls 10 [(0, .ref (ad 0)), (1, .int (nI x)), (2, .int (nI b)), (3, .int (nI pe)), (4, .int (nI base))] := hl
  generalize ([.ref (ad 0), .int (nI x), .int (nI b), .int (nI pe), .int (nI base)] : List Value).toArray = args at M hret ⊢
  have hx := M.1
  have hb := M.2.1
  have hv : vlt (b + (pe - b)) V := hV ▸ (vlt_rv (lv := ar 12) (b := b) (pe - b)).1
  have htv : tot V ≤ pe - b := hV ▸ (vlt_rv (lv := ar 12) (b := b) (pe - b)).2
  have hrk : rok (ar 12) V := hV ▸ rok_rv (lv := ar 12) (b := b) (pe - b)
  have hLp : ∀ i, i < tot V → LFn V i < pe := fun i hi => by subst hV; have := LF_in hi; omega
  have hLF : ∀ i, i < tot V → b ≤ LFn V i ∧ LFn V i < 2000 := fun i hi => by subst hV; have := LF_in hi; omega
  have hp0 := runAt_pos hv hr0
  have ho0 := (runAt_flat (V := V) (r := r0) (t := 0) hr0 hp0).2
  have hP0 := hLF (off V r0) (by omega)
  have hL0 := hL _ (LFn_mem (V := V) (j := off V r0) (by omega))
  have hlst : ∀ r, r < V.length → lastP V r < 2000 ∧ off V r + (runAt V r).length ≤ tot V ∧ 0 < (runAt V r).length := fun r hr => by have h1 := runAt_pos hv hr; have h2 := (runAt_flat (V := V) (r := r) (t := 0) hr h1).2; exact ⟨(hLF _ (by omega)).2, h2, h1⟩
  refine lv_aload_n hx hb d_MD_makeSequence_0 rfl (lv_at hl 0 rfl) ?_
  refine lv_iconst (v := 0) hx hb d_MD_makeSequence_1 (by decide) ?_
  refine p_MD_155 M hI d_MD_makeSequence_2 (fun H locs hI => ?_)
  have hI : CI g A s (mw g ad ar (va_up fl 8 0)) H locs := hI
  refine lv_aload_n hx hb d_MD_makeSequence_5 rfl (lv_at hl 0 rfl) ?_
  refine lv_iload_n hx hb d_MD_makeSequence_6 rfl (lv_at hl 1 rfl) ?_
  refine lv_iload_n hx hb d_MD_makeSequence_7 rfl (lv_at hl 2 rfl) ?_
  refine lv_iload_n hx hb d_MD_makeSequence_8 rfl (lv_at hl 3 rfl) ?_
  refine q_callvV [.int (nI x), .int (nI b), .int (nI pe)] M hI (c_MD_addRun l g ad ar (va_up fl 8 0) x b pe V r0 0 ([] : List Nat) (by first | exact hV | assumption | omega | rfl) (by first | exact hbp | assumption | omega | rfl) (by first | exact hpe | assumption | omega | rfl) (by first | exact hs | assumption | omega | rfl) (hr0) (hp0) (hx9) (fun j hj => absurd hj (Nat.not_lt_zero j)) (rfl) (by simp only [List.length_nil]; omega)) ok_MD_addRun m5_150 m5_152 ms_62 0 rfl rfl rfl rfl hl.1 ⟨rfl, rfl⟩ ⟨Nat.le_of_ble_eq_true rfl, Nat.le_of_ble_eq_true rfl⟩ (Nat.le_of_ble_eq_true rfl) ⟨Nat.le_of_ble_eq_true rfl, Nat.le_of_ble_eq_true rfl⟩ d_MD_makeSequence_9 (fun u9 H locs hp9 hI => ?_)
  obtain ⟨y_9, rfl⟩ : ∃ z, z = u9 := ⟨_, rfl⟩
  have hI : CI g A s (mw g ad (va_up ar 18 y_9) (va_up fl 8 (nI (([] : List Nat) ++ runAt V r0).length))) H locs := hI
  have hp9 : sP y_9 ([] ++ runAt V r0) := hp9
  have hln9 : 0 < (([] : List Nat) ++ runAt V r0).length ∧ (([] : List Nat) ++ runAt V r0).length ≤ 2000 := by rw [List.nil_append]; omega
  refine lv_aload_n hx hb d_MD_makeSequence_12 rfl (lv_at hl 0 rfl) ?_
  refine g_MD_62 M hI d_MD_makeSequence_13 ?_
  refine lv_aload_n hx hb d_MD_makeSequence_16 rfl (lv_at hl 0 rfl) ?_
  refine g_MD_155 M hI d_MD_makeSequence_17 ?_
  refine q_as (y := nI (([] : List Nat) ++ runAt V r0).length) rfl ?_
  refine lv_iconst (v := 1) hx hb d_MD_makeSequence_20 (by decide) ?_
  refine lv_isub hx hb d_MD_makeSequence_21 ?_
  refine q_as (y := nI ((([] : List Nat) ++ runAt V r0).length - 1)) (pk_sub (a := (([] : List Nat) ++ runAt V r0).length) (b := 1) (by omega)) ?_
  refine bl_18 M hI ((([] : List Nat) ++ runAt V r0).length - 1) rfl (by omega) d_MD_makeSequence_22 ?_
  refine q_as (y := nI (lastP V r0)) (sP_last hv hr0 hp9) ?_
  refine lv_istore (lv' := [(5, .int (nI (lastP V r0))), (0, .ref (ad 0)), (1, .int (nI x)), (2, .int (nI b)), (3, .int (nI pe)), (4, .int (nI base))]) hx hb d_MD_makeSequence_23 hl (by decide) rfl (fun ls hl => ?_)
  have L25 : ∀ (fu : Nat) (r1 : Nat) (pr : List Nat) (y : Nat → Int32), (V.length - r1) < fu → (r1 < V.length) → (pr ++ SQ V (ar 9) (ar 13) r1 = SQ V (ar 9) (ar 13) r0) → (LR V (ar 9) (ar 13) r1 = LR V (ar 9) (ar 13) r0) → (pr.length ≤ off V r1) → (sP y (pr ++ runAt V r1)) → ∀ (H : Heap) (locs : List Loc) (ls : Array Slot), CI g A s (mw g ad (va_up ar 18 y) (va_up fl 8 (nI ((pr ++ runAt V r1).length)))) H locs → lv_has ls 10 [(0, .ref (ad 0)), (1, .int (nI x)), (2, .int (nI b)), (3, .int (nI pe)), (4, .int (nI base)), (5, .int (nI (lastP V r1)))] → W p l e rm_MD_makeSequence s m args below meth c H locs 0 0 Q (F0 m 25 ls []) := by
    intro fu
    induction fu with
    | zero => intro r1 pr y hm; exact absurd hm (Nat.not_lt_zero _)
    | succ fu ih25 =>
      intro r1 pr y hm hr1 hsq hlr hcl hy H locs ls hI hl
      have hl1 := hlst r1 hr1
      have hln : 0 < (pr ++ runAt V r1).length ∧ (pr ++ runAt V r1).length ≤ 2000 := by rw [List.length_append]; omega
      refine lv_aload_n hx hb d_MD_makeSequence_25 rfl (lv_at hl 0 rfl) ?_
      refine g_MD_34 M hI d_MD_makeSequence_26 ?_
      refine lv_iload hx hb d_MD_makeSequence_29 (lv_at hl 5 rfl) ?_
      refine bl_9 M hI (lastP V r1) rfl (hl1.1) d_MD_makeSequence_31 ?_
      refine q_as (y := ar 9 (lastP V r1)) rfl ?_
      refine q_calliS [.int (ar 9 (lastP V r1))] M hI (c_MD_isIsolate l g (mw g ad (va_up ar 18 y) (va_up fl 8 (nI ((pr ++ runAt V r1).length)))) (ar 9 (lastP V r1))) ok_MD_isIsolate m5_107 m5_108 rfl rfl hl.1 ⟨rfl, rfl⟩ ⟨Nat.le_of_ble_eq_true rfl, Nat.le_of_ble_eq_true rfl⟩ (Nat.le_of_ble_eq_true rfl) ⟨Nat.le_of_ble_eq_true rfl, Nat.le_of_ble_eq_true rfl⟩ d_MD_makeSequence_32 (fun r32 u32 H locs hp32 hI => ?_)
      refine q_as (y := bI (isol (ar 9 (lastP V r1)))) hp32 ?_
      refine lv_if_eq (tgt := 77) hx hb d_MD_makeSequence_35 (by decide) (fun c35 => ?_) (fun c35 => ?_)
      · have c35 := bI_eq0.mp c35
        have hng : ¬ goes V (ar 9) (ar 13) r1 := fun z => c35 z.1
        have hSQ : SQ V (ar 9) (ar 13) r0 = pr ++ runAt V r1 := by rw [← hsq, SQ_eq hi hr1, if_neg hng, List.append_nil]
        have hLR : LR V (ar 9) (ar 13) r0 = r1 := by rw [← hlr, LR_eq hi hr1, if_neg hng]
        have hx2 : x < 2000 := by rw [hx9]; exact hP0.2
        have hsf := SQ_first hv hi hr0 (fst := ar 9) (mt := ar 13)
        refine lv_aload_n hx hb d_MD_makeSequence_77 rfl (lv_at hl 0 rfl) ?_
        refine lv_aload_n hx hb d_MD_makeSequence_78 rfl (lv_at hl 0 rfl) ?_
        refine g_MD_43 M hI d_MD_makeSequence_79 ?_
        refine lv_iload_n hx hb d_MD_makeSequence_82 rfl (lv_at hl 1 rfl) ?_
        refine bl_12 M hI x rfl (by omega) d_MD_makeSequence_83 ?_
        refine q_as (y := nI (L (LFn V (off V r0)))) (by rw [hx9]; exact hL0.1) ?_
        refine p_MD_165 M hI d_MD_makeSequence_84 (fun H locs hI => ?_)
        have hI : CI g A s (mw g ad (va_up ar 18 y) (va_up (va_up fl 8 (nI ((pr ++ runAt V r1).length))) 11 (nI (L (LFn V (off V r0)))))) H locs := hI
        refine lv_aload_n hx hb d_MD_makeSequence_87 rfl (lv_at hl 0 rfl) ?_
        refine lv_aload_n hx hb d_MD_makeSequence_88 rfl (lv_at hl 0 rfl) ?_
        refine g_MD_62 M hI d_MD_makeSequence_89 ?_
        refine lv_iconst (v := 0) hx hb d_MD_makeSequence_92 (by decide) ?_
        refine bl_18 M hI 0 rfl (by omega) d_MD_makeSequence_93 ?_
        refine q_as (y := nI (LFn V (off V r0))) (by rw [← hsf.1]; exact (hSQ ▸ hy) 0 hsf.2) ?_
        refine lv_iload_n hx hb d_MD_makeSequence_94 rfl (lv_at hl 2 rfl) ?_
        refine q_calliV [.int (nI (LFn V (off V r0))), .int (nI b)] M hI (c_MD_leftBefore l g ad (va_up ar 18 y) (va_up (va_up fl 8 (nI ((pr ++ runAt V r1).length))) 11 (nI (L (LFn V (off V r0))))) (LFn V (off V r0)) b (by omega) (by omega)) ok_MD_leftBefore m5_142 m5_144 ms_60 0 rfl rfl rfl rfl hl.1 ⟨rfl, rfl⟩ ⟨Nat.le_of_ble_eq_true rfl, Nat.le_of_ble_eq_true rfl⟩ (Nat.le_of_ble_eq_true rfl) ⟨Nat.le_of_ble_eq_true rfl, Nat.le_of_ble_eq_true rfl⟩ d_MD_makeSequence_95 (fun r95 u95 H locs hp95 hI => ?_)
        refine q_as (y := nI (lbZ (ar 12) b (LFn V (off V r0))) - 1) hp95 ?_
        refine q_as (y := bk V b (off V r0)) (by subst hV; exact bk_of hbp hs (by omega)) ?_
        refine lv_istore (lv' := [(6, .int (bk V b (off V r0))), (0, .ref (ad 0)), (1, .int (nI x)), (2, .int (nI b)), (3, .int (nI pe)), (4, .int (nI base)), (5, .int (nI (lastP V r1)))]) hx hb d_MD_makeSequence_98 hl (by decide) rfl (fun ls hl => ?_)
        refine lv_iload hx hb d_MD_makeSequence_100 (lv_at hl 0 rfl) ?_
        refine lv_iload_n hx hb d_MD_makeSequence_102 rfl (lv_at hl 3 rfl) ?_
        refine lv_icmp_ge (tgt := 111) hx hb d_MD_makeSequence_103 (by decide) (fun c103 => ?_) (fun c103 => ?_)
        · have hbk := bk_ge (V := V) (i := off V r0) (b := b) (by omega) (Int32.not_lt.mpr c103)
          have hbi := hLF (off V r0 - 1) (by omega)
          rw [hbk.2] at hl
          refine lv_aload_n hx hb d_MD_makeSequence_111 rfl (lv_at hl 1 rfl) ?_
          refine g_MD_43 M hI d_MD_makeSequence_112 ?_
          refine lv_iload hx hb d_MD_makeSequence_115 (lv_at hl 0 rfl) ?_
          refine bl_12 M hI (LFn V (off V r0 - 1)) rfl (by omega) d_MD_makeSequence_117 ?_
          refine q_as (y := nI (lvA V L (off V r0) base)) (by unfold lvA; rw [if_pos hbk.1]; exact (hL _ (LFn_mem (by omega))).1) ?_
          have hla : lvA V L (off V r0) base ≤ 125 := by unfold lvA; split; exact (hL _ (LFn_mem (by omega))).2; omega
          have hl0 := hL0.2
          refine lv_istore (lv' := [(7, .int (nI (lvA V L (off V r0) base))), (6, .int (nI (LFn V (off V r0 - 1)))), (0, .ref (ad 0)), (1, .int (nI x)), (2, .int (nI b)), (3, .int (nI pe)), (4, .int (nI base)), (5, .int (nI (lastP V r1)))]) hx hb d_MD_makeSequence_118 hl (by decide) rfl (fun ls hl => ?_)
          refine lv_aload_n hx hb d_MD_makeSequence_120 rfl (lv_at hl 2 rfl) ?_
          refine lv_iload hx hb d_MD_makeSequence_121 (lv_at hl 0 rfl) ?_
          refine lv_aload_n hx hb d_MD_makeSequence_123 rfl (lv_at hl 2 rfl) ?_
          refine g_MD_165 M hI d_MD_makeSequence_124 ?_
          refine q_as (y := nI (L (LFn V (off V r0)))) rfl ?_
          refine lv_icmp_le (tgt := 135) hx hb d_MD_makeSequence_127 (by decide) (fun c127 => ?_) (fun c127 => ?_)
          · have c127 : lvA V L (off V r0) base ≤ L (LFn V (off V r0)) := (nI_leI (a := lvA V L (off V r0) base) (b := L (LFn V (off V r0))) (by omega) (by omega)).mp c127
            refine lv_aload_n hx hb d_MD_makeSequence_135 rfl (lv_at hl 2 rfl) ?_
            refine g_MD_165 M hI d_MD_makeSequence_136 ?_
            refine q_as (y := nI (L (LFn V (off V r0)))) rfl ?_
            refine q_as (y := nI (max (L (LFn V (off V r0))) (lvA V L (off V r0) base))) (congrArg nI (by omega)) ?_
            refine q_calliS [.int (nI (max (L (LFn V (off V r0))) (lvA V L (off V r0) base)))] M hI (c_MD_directionOf l g (mw g ad (va_up ar 18 y) (va_up (va_up fl 8 (nI ((pr ++ runAt V r1).length))) 11 (nI (L (LFn V (off V r0)))))) (max (L (LFn V (off V r0))) (lvA V L (off V r0) base)) (by omega)) ok_MD_directionOf m5_158 m5_159 rfl rfl hl.1 ⟨rfl, rfl⟩ ⟨Nat.le_of_ble_eq_true rfl, Nat.le_of_ble_eq_true rfl⟩ (Nat.le_of_ble_eq_true rfl) ⟨Nat.le_of_ble_eq_true rfl, Nat.le_of_ble_eq_true rfl⟩ d_MD_makeSequence_139 (fun r139 u139 H locs hp139 hI => ?_)
            refine q_as (y := nI ((max (L (LFn V (off V r0))) (lvA V L (off V r0) base)) % 2)) hp139 ?_
            refine p_MD_171 M hI d_MD_makeSequence_142 (fun H locs hI => ?_)
            have hI : CI g A s (mw g ad (va_up ar 18 y) (va_up (va_up (va_up fl 8 (nI ((pr ++ runAt V r1).length))) 11 (nI (L (LFn V (off V r0))))) 9 (nI ((max (L (LFn V (off V r0))) (lvA V L (off V r0) base)) % 2)))) H locs := hI
            refine lv_aload_n hx hb d_MD_makeSequence_145 rfl (lv_at hl 2 rfl) ?_
            refine lv_iload hx hb d_MD_makeSequence_146 (lv_at hl 7 rfl) ?_
            refine lv_iconst (v := 1) hx hb d_MD_makeSequence_148 (by decide) ?_
            refine lv_iadd hx hb d_MD_makeSequence_149 ?_
            refine q_as (y := nI (lastP V r1 + 1)) (nI_add (lastP V r1) 1) ?_
            refine lv_iload_n hx hb d_MD_makeSequence_150 rfl (lv_at hl 5 rfl) ?_
            refine q_calliV [.int (nI (lastP V r1 + 1)), .int (nI pe)] M hI (c_MD_leftFrom l g ad (va_up ar 18 y) (va_up (va_up (va_up fl 8 (nI ((pr ++ runAt V r1).length))) 11 (nI (L (LFn V (off V r0))))) 9 (nI ((max (L (LFn V (off V r0))) (lvA V L (off V r0) base)) % 2))) (lastP V r1 + 1) pe (by omega) (by omega)) ok_MD_leftFrom m5_154 m5_156 ms_63 0 rfl rfl rfl rfl hl.1 ⟨rfl, rfl⟩ ⟨Nat.le_of_ble_eq_true rfl, Nat.le_of_ble_eq_true rfl⟩ (Nat.le_of_ble_eq_true rfl) ⟨Nat.le_of_ble_eq_true rfl, Nat.le_of_ble_eq_true rfl⟩ d_MD_makeSequence_151 (fun r151 u151 H locs hp151 hI => ?_)
            refine q_as (y := nI (lfr (ar 12) (pe - (lastP V r1 + 1)) (lastP V r1 + 1))) hp151 ?_
            refine q_as (y := nI (nxP V pe (off V r1 + (runAt V r1).length))) (by have := nx_of hbp hs (i := off V r1 + (runAt V r1).length - 1) (by rw [← hV]; omega); rw [← hV, show off V r1 + (runAt V r1).length - 1 + 1 = off V r1 + (runAt V r1).length by omega] at this; exact congrArg nI this) ?_
            have hnb : nxP V pe (off V r1 + (runAt V r1).length) ≤ pe := nxP_le hLp
            refine lv_istore (lv' := [(8, .int (nI (nxP V pe (off V r1 + (runAt V r1).length)))), (7, .int (nI (lvA V L (off V r0) base))), (6, .int (nI (LFn V (off V r0 - 1)))), (0, .ref (ad 0)), (1, .int (nI x)), (2, .int (nI b)), (3, .int (nI pe)), (4, .int (nI base)), (5, .int (nI (lastP V r1)))]) hx hb d_MD_makeSequence_154 hl (by decide) rfl (fun ls hl => ?_)
            refine lv_aload_n hx hb d_MD_makeSequence_156 rfl (lv_at hl 3 rfl) ?_
            refine g_MD_34 M hI d_MD_makeSequence_157 ?_
            refine lv_iload hx hb d_MD_makeSequence_160 (lv_at hl 8 rfl) ?_
            refine bl_9 M hI (lastP V r1) rfl (hl1.1) d_MD_makeSequence_162 ?_
            refine q_as (y := ar 9 (lastP V r1)) rfl ?_
            refine q_calliS [.int (ar 9 (lastP V r1))] M hI (c_MD_isIsolate l g (mw g ad (va_up ar 18 y) (va_up (va_up (va_up fl 8 (nI ((pr ++ runAt V r1).length))) 11 (nI (L (LFn V (off V r0))))) 9 (nI ((max (L (LFn V (off V r0))) (lvA V L (off V r0) base)) % 2)))) (ar 9 (lastP V r1))) ok_MD_isIsolate m5_107 m5_108 rfl rfl hl.1 ⟨rfl, rfl⟩ ⟨Nat.le_of_ble_eq_true rfl, Nat.le_of_ble_eq_true rfl⟩ (Nat.le_of_ble_eq_true rfl) ⟨Nat.le_of_ble_eq_true rfl, Nat.le_of_ble_eq_true rfl⟩ d_MD_makeSequence_163 (fun r163 u163 H locs hp163 hI => ?_)
            refine q_as (y := bI (isol (ar 9 (lastP V r1)))) hp163 ?_
            refine lv_istore (lv' := [(9, .int (bI (isol (ar 9 (lastP V r1))))), (8, .int (nI (nxP V pe (off V r1 + (runAt V r1).length)))), (7, .int (nI (lvA V L (off V r0) base))), (6, .int (nI (LFn V (off V r0 - 1)))), (0, .ref (ad 0)), (1, .int (nI x)), (2, .int (nI b)), (3, .int (nI pe)), (4, .int (nI base)), (5, .int (nI (lastP V r1)))]) hx hb d_MD_makeSequence_166 hl (by decide) rfl (fun ls hl => ?_)
            refine lv_iload hx hb d_MD_makeSequence_168 (lv_at hl 1 rfl) ?_
            refine lv_iload_n hx hb d_MD_makeSequence_170 rfl (lv_at hl 7 rfl) ?_
            refine lv_icmp_ge (tgt := 179) hx hb d_MD_makeSequence_171 (by decide) (fun c171 => ?_) (fun c171 => ?_)
            · have c171 : pe ≤ nxP V pe (off V r1 + (runAt V r1).length) := (nI_leI (a := pe) (b := nxP V pe (off V r1 + (runAt V r1).length)) (by omega) (by omega)).mp c171
              have hlb9 : lvB V (ar 9) L (off V r1 + (runAt V r1).length) base = base := by unfold lvB; apply if_neg; intro z; have := nxP_ge hLp c171; omega
              refine lv_iload hx hb d_MD_makeSequence_179 (lv_at hl 8 rfl) ?_
              refine q_as (y := nI (lvB V (ar 9) L (off V r1 + (runAt V r1).length) base)) (by rw [hlb9]) ?_
              refine lv_goto (tgt := 191) hx hb d_MD_makeSequence_181 (by decide) ?_
              have hlb : lvB V (ar 9) L (off V r1 + (runAt V r1).length) base ≤ 125 := by unfold lvB; split; (rename_i q; exact (hL _ (LFn_mem q.1)).2); omega
              refine lv_istore (lv' := [(7, .int (nI (lvB V (ar 9) L (off V r1 + (runAt V r1).length) base))), (9, .int (bI (isol (ar 9 (lastP V r1))))), (8, .int (nI (nxP V pe (off V r1 + (runAt V r1).length)))), (6, .int (nI (LFn V (off V r0 - 1)))), (0, .ref (ad 0)), (1, .int (nI x)), (2, .int (nI b)), (3, .int (nI pe)), (4, .int (nI base)), (5, .int (nI (lastP V r1)))]) hx hb d_MD_makeSequence_191 hl (by decide) rfl (fun ls hl => ?_)
              refine lv_aload_n hx hb d_MD_makeSequence_193 rfl (lv_at hl 4 rfl) ?_
              refine lv_iload hx hb d_MD_makeSequence_194 (lv_at hl 0 rfl) ?_
              refine lv_aload_n hx hb d_MD_makeSequence_196 rfl (lv_at hl 4 rfl) ?_
              refine g_MD_165 M hI d_MD_makeSequence_197 ?_
              refine q_as (y := nI (L (LFn V (off V r0)))) rfl ?_
              refine lv_icmp_le (tgt := 208) hx hb d_MD_makeSequence_200 (by decide) (fun c200 => ?_) (fun c200 => ?_)
              · have c200 : lvB V (ar 9) L (off V r1 + (runAt V r1).length) base ≤ L (LFn V (off V r0)) := (nI_leI (a := lvB V (ar 9) L (off V r1 + (runAt V r1).length) base) (b := L (LFn V (off V r0))) (by omega) (by omega)).mp c200
                refine lv_aload_n hx hb d_MD_makeSequence_208 rfl (lv_at hl 4 rfl) ?_
                refine g_MD_165 M hI d_MD_makeSequence_209 ?_
                refine q_as (y := nI (L (LFn V (off V r0)))) rfl ?_
                refine q_as (y := nI (max (L (LFn V (off V r0))) (lvB V (ar 9) L (off V r1 + (runAt V r1).length) base))) (congrArg nI (by omega)) ?_
                refine q_calliS [.int (nI (max (L (LFn V (off V r0))) (lvB V (ar 9) L (off V r1 + (runAt V r1).length) base)))] M hI (c_MD_directionOf l g (mw g ad (va_up ar 18 y) (va_up (va_up (va_up fl 8 (nI ((pr ++ runAt V r1).length))) 11 (nI (L (LFn V (off V r0))))) 9 (nI ((max (L (LFn V (off V r0))) (lvA V L (off V r0) base)) % 2)))) (max (L (LFn V (off V r0))) (lvB V (ar 9) L (off V r1 + (runAt V r1).length) base)) (by omega)) ok_MD_directionOf m5_158 m5_159 rfl rfl hl.1 ⟨rfl, rfl⟩ ⟨Nat.le_of_ble_eq_true rfl, Nat.le_of_ble_eq_true rfl⟩ (Nat.le_of_ble_eq_true rfl) ⟨Nat.le_of_ble_eq_true rfl, Nat.le_of_ble_eq_true rfl⟩ d_MD_makeSequence_212 (fun r212 u212 H locs hp212 hI => ?_)
                refine q_as (y := nI ((max (L (LFn V (off V r0))) (lvB V (ar 9) L (off V r1 + (runAt V r1).length) base)) % 2)) hp212 ?_
                refine p_MD_174 M hI d_MD_makeSequence_215 (fun H locs hI => ?_)
                have hI : CI g A s (mw g ad (va_up ar 18 y) (va_up (va_up (va_up (va_up fl 8 (nI ((pr ++ runAt V r1).length))) 11 (nI (L (LFn V (off V r0))))) 9 (nI ((max (L (LFn V (off V r0))) (lvA V L (off V r0) base)) % 2))) 10 (nI ((max (L (LFn V (off V r0))) (lvB V (ar 9) L (off V r1 + (runAt V r1).length) base)) % 2)))) H locs := hI
                have hI := CI.to (w2 := mw g ad (va_up ar 18 y) (va_up (va_up (va_up (va_up fl 8 (nI (SQ V (ar 9) (ar 13) r0).length)) 11 (nI (L (LFn V (off V r0))))) 9 (nI (max (L (LFn V (off V r0))) (lvA V L (off V r0) base) % 2))) 10 (nI (max (L (LFn V (off V r0))) (lvB V (ar 9) L (off V (LR V (ar 9) (ar 13) r0) + (runAt V (LR V (ar 9) (ar 13) r0)).length) base) % 2)))) hI (by rw [hSQ, hLR] <;> rfl)
                exact hret y _ _ _ _ _ _ d_MD_makeSequence_218 hI (by rw [hSQ]; exact hy) (Nat.le_refl 0) (Nat.le_refl 0)
              · have c200 : ¬ lvB V (ar 9) L (off V r1 + (runAt V r1).length) base ≤ L (LFn V (off V r0)) := fun h => c200 ((nI_leI (a := lvB V (ar 9) L (off V r1 + (runAt V r1).length) base) (b := L (LFn V (off V r0))) (by omega) (by omega)).mpr h)
                refine lv_iload hx hb d_MD_makeSequence_203 (lv_at hl 0 rfl) ?_
                refine q_as (y := nI (max (L (LFn V (off V r0))) (lvB V (ar 9) L (off V r1 + (runAt V r1).length) base))) (congrArg nI (by omega)) ?_
                refine lv_goto (tgt := 212) hx hb d_MD_makeSequence_205 (by decide) ?_
                refine q_calliS [.int (nI (max (L (LFn V (off V r0))) (lvB V (ar 9) L (off V r1 + (runAt V r1).length) base)))] M hI (c_MD_directionOf l g (mw g ad (va_up ar 18 y) (va_up (va_up (va_up fl 8 (nI ((pr ++ runAt V r1).length))) 11 (nI (L (LFn V (off V r0))))) 9 (nI ((max (L (LFn V (off V r0))) (lvA V L (off V r0) base)) % 2)))) (max (L (LFn V (off V r0))) (lvB V (ar 9) L (off V r1 + (runAt V r1).length) base)) (by omega)) ok_MD_directionOf m5_158 m5_159 rfl rfl hl.1 ⟨rfl, rfl⟩ ⟨Nat.le_of_ble_eq_true rfl, Nat.le_of_ble_eq_true rfl⟩ (Nat.le_of_ble_eq_true rfl) ⟨Nat.le_of_ble_eq_true rfl, Nat.le_of_ble_eq_true rfl⟩ d_MD_makeSequence_212 (fun r212 u212 H locs hp212 hI => ?_)
                refine q_as (y := nI ((max (L (LFn V (off V r0))) (lvB V (ar 9) L (off V r1 + (runAt V r1).length) base)) % 2)) hp212 ?_
                refine p_MD_174 M hI d_MD_makeSequence_215 (fun H locs hI => ?_)
                have hI : CI g A s (mw g ad (va_up ar 18 y) (va_up (va_up (va_up (va_up fl 8 (nI ((pr ++ runAt V r1).length))) 11 (nI (L (LFn V (off V r0))))) 9 (nI ((max (L (LFn V (off V r0))) (lvA V L (off V r0) base)) % 2))) 10 (nI ((max (L (LFn V (off V r0))) (lvB V (ar 9) L (off V r1 + (runAt V r1).length) base)) % 2)))) H locs := hI
                have hI := CI.to (w2 := mw g ad (va_up ar 18 y) (va_up (va_up (va_up (va_up fl 8 (nI (SQ V (ar 9) (ar 13) r0).length)) 11 (nI (L (LFn V (off V r0))))) 9 (nI (max (L (LFn V (off V r0))) (lvA V L (off V r0) base) % 2))) 10 (nI (max (L (LFn V (off V r0))) (lvB V (ar 9) L (off V (LR V (ar 9) (ar 13) r0) + (runAt V (LR V (ar 9) (ar 13) r0)).length) base) % 2)))) hI (by rw [hSQ, hLR] <;> rfl)
                exact hret y _ _ _ _ _ _ d_MD_makeSequence_218 hI (by rw [hSQ]; exact hy) (Nat.le_refl 0) (Nat.le_refl 0)
            · have c171 : ¬ pe ≤ nxP V pe (off V r1 + (runAt V r1).length) := fun h => c171 ((nI_leI (a := pe) (b := nxP V pe (off V r1 + (runAt V r1).length)) (by omega) (by omega)).mpr h)
              have hz9 : off V r1 + (runAt V r1).length < tot V := (nxP_lt c171).1
              have q9 : nxP V pe (off V r1 + (runAt V r1).length) = LFn V (off V r1 + (runAt V r1).length) := (nxP_lt c171).2
              have hb9 := hLF _ hz9
              rw [q9] at hl
              refine lv_iload hx hb d_MD_makeSequence_174 (lv_at hl 0 rfl) ?_
              refine lv_if_eq (tgt := 184) hx hb d_MD_makeSequence_176 (by decide) (fun c176 => ?_) (fun c176 => ?_)
              · have c176 := bI_eq0.mp c176
                have hlb9 : lvB V (ar 9) L (off V r1 + (runAt V r1).length) base = L (LFn V (off V r1 + (runAt V r1).length)) := by unfold lvB; exact if_pos ⟨hz9, c176⟩
                refine lv_aload_n hx hb d_MD_makeSequence_184 rfl (lv_at hl 4 rfl) ?_
                refine g_MD_43 M hI d_MD_makeSequence_185 ?_
                refine lv_iload hx hb d_MD_makeSequence_188 (lv_at hl 1 rfl) ?_
                refine bl_12 M hI (LFn V (off V r1 + (runAt V r1).length)) rfl (by omega) d_MD_makeSequence_190 ?_
                refine q_as (y := nI (lvB V (ar 9) L (off V r1 + (runAt V r1).length) base)) (by rw [hlb9]; exact (hL _ (LFn_mem hz9)).1) ?_
                have hlb : lvB V (ar 9) L (off V r1 + (runAt V r1).length) base ≤ 125 := by unfold lvB; split; (rename_i q; exact (hL _ (LFn_mem q.1)).2); omega
                refine lv_istore (lv' := [(7, .int (nI (lvB V (ar 9) L (off V r1 + (runAt V r1).length) base))), (9, .int (bI (isol (ar 9 (lastP V r1))))), (8, .int (nI (LFn V (off V r1 + (runAt V r1).length)))), (6, .int (nI (LFn V (off V r0 - 1)))), (0, .ref (ad 0)), (1, .int (nI x)), (2, .int (nI b)), (3, .int (nI pe)), (4, .int (nI base)), (5, .int (nI (lastP V r1)))]) hx hb d_MD_makeSequence_191 hl (by decide) rfl (fun ls hl => ?_)
                refine lv_aload_n hx hb d_MD_makeSequence_193 rfl (lv_at hl 4 rfl) ?_
                refine lv_iload hx hb d_MD_makeSequence_194 (lv_at hl 0 rfl) ?_
                refine lv_aload_n hx hb d_MD_makeSequence_196 rfl (lv_at hl 4 rfl) ?_
                refine g_MD_165 M hI d_MD_makeSequence_197 ?_
                refine q_as (y := nI (L (LFn V (off V r0)))) rfl ?_
                refine lv_icmp_le (tgt := 208) hx hb d_MD_makeSequence_200 (by decide) (fun c200 => ?_) (fun c200 => ?_)
                · have c200 : lvB V (ar 9) L (off V r1 + (runAt V r1).length) base ≤ L (LFn V (off V r0)) := (nI_leI (a := lvB V (ar 9) L (off V r1 + (runAt V r1).length) base) (b := L (LFn V (off V r0))) (by omega) (by omega)).mp c200
                  refine lv_aload_n hx hb d_MD_makeSequence_208 rfl (lv_at hl 4 rfl) ?_
                  refine g_MD_165 M hI d_MD_makeSequence_209 ?_
                  refine q_as (y := nI (L (LFn V (off V r0)))) rfl ?_
                  refine q_as (y := nI (max (L (LFn V (off V r0))) (lvB V (ar 9) L (off V r1 + (runAt V r1).length) base))) (congrArg nI (by omega)) ?_
                  refine q_calliS [.int (nI (max (L (LFn V (off V r0))) (lvB V (ar 9) L (off V r1 + (runAt V r1).length) base)))] M hI (c_MD_directionOf l g (mw g ad (va_up ar 18 y) (va_up (va_up (va_up fl 8 (nI ((pr ++ runAt V r1).length))) 11 (nI (L (LFn V (off V r0))))) 9 (nI ((max (L (LFn V (off V r0))) (lvA V L (off V r0) base)) % 2)))) (max (L (LFn V (off V r0))) (lvB V (ar 9) L (off V r1 + (runAt V r1).length) base)) (by omega)) ok_MD_directionOf m5_158 m5_159 rfl rfl hl.1 ⟨rfl, rfl⟩ ⟨Nat.le_of_ble_eq_true rfl, Nat.le_of_ble_eq_true rfl⟩ (Nat.le_of_ble_eq_true rfl) ⟨Nat.le_of_ble_eq_true rfl, Nat.le_of_ble_eq_true rfl⟩ d_MD_makeSequence_212 (fun r212 u212 H locs hp212 hI => ?_)
                  refine q_as (y := nI ((max (L (LFn V (off V r0))) (lvB V (ar 9) L (off V r1 + (runAt V r1).length) base)) % 2)) hp212 ?_
                  refine p_MD_174 M hI d_MD_makeSequence_215 (fun H locs hI => ?_)
                  have hI : CI g A s (mw g ad (va_up ar 18 y) (va_up (va_up (va_up (va_up fl 8 (nI ((pr ++ runAt V r1).length))) 11 (nI (L (LFn V (off V r0))))) 9 (nI ((max (L (LFn V (off V r0))) (lvA V L (off V r0) base)) % 2))) 10 (nI ((max (L (LFn V (off V r0))) (lvB V (ar 9) L (off V r1 + (runAt V r1).length) base)) % 2)))) H locs := hI
                  have hI := CI.to (w2 := mw g ad (va_up ar 18 y) (va_up (va_up (va_up (va_up fl 8 (nI (SQ V (ar 9) (ar 13) r0).length)) 11 (nI (L (LFn V (off V r0))))) 9 (nI (max (L (LFn V (off V r0))) (lvA V L (off V r0) base) % 2))) 10 (nI (max (L (LFn V (off V r0))) (lvB V (ar 9) L (off V (LR V (ar 9) (ar 13) r0) + (runAt V (LR V (ar 9) (ar 13) r0)).length) base) % 2)))) hI (by rw [hSQ, hLR] <;> rfl)
                  exact hret y _ _ _ _ _ _ d_MD_makeSequence_218 hI (by rw [hSQ]; exact hy) (Nat.le_refl 0) (Nat.le_refl 0)
                · have c200 : ¬ lvB V (ar 9) L (off V r1 + (runAt V r1).length) base ≤ L (LFn V (off V r0)) := fun h => c200 ((nI_leI (a := lvB V (ar 9) L (off V r1 + (runAt V r1).length) base) (b := L (LFn V (off V r0))) (by omega) (by omega)).mpr h)
                  refine lv_iload hx hb d_MD_makeSequence_203 (lv_at hl 0 rfl) ?_
                  refine q_as (y := nI (max (L (LFn V (off V r0))) (lvB V (ar 9) L (off V r1 + (runAt V r1).length) base))) (congrArg nI (by omega)) ?_
                  refine lv_goto (tgt := 212) hx hb d_MD_makeSequence_205 (by decide) ?_
                  refine q_calliS [.int (nI (max (L (LFn V (off V r0))) (lvB V (ar 9) L (off V r1 + (runAt V r1).length) base)))] M hI (c_MD_directionOf l g (mw g ad (va_up ar 18 y) (va_up (va_up (va_up fl 8 (nI ((pr ++ runAt V r1).length))) 11 (nI (L (LFn V (off V r0))))) 9 (nI ((max (L (LFn V (off V r0))) (lvA V L (off V r0) base)) % 2)))) (max (L (LFn V (off V r0))) (lvB V (ar 9) L (off V r1 + (runAt V r1).length) base)) (by omega)) ok_MD_directionOf m5_158 m5_159 rfl rfl hl.1 ⟨rfl, rfl⟩ ⟨Nat.le_of_ble_eq_true rfl, Nat.le_of_ble_eq_true rfl⟩ (Nat.le_of_ble_eq_true rfl) ⟨Nat.le_of_ble_eq_true rfl, Nat.le_of_ble_eq_true rfl⟩ d_MD_makeSequence_212 (fun r212 u212 H locs hp212 hI => ?_)
                  refine q_as (y := nI ((max (L (LFn V (off V r0))) (lvB V (ar 9) L (off V r1 + (runAt V r1).length) base)) % 2)) hp212 ?_
                  refine p_MD_174 M hI d_MD_makeSequence_215 (fun H locs hI => ?_)
                  have hI : CI g A s (mw g ad (va_up ar 18 y) (va_up (va_up (va_up (va_up fl 8 (nI ((pr ++ runAt V r1).length))) 11 (nI (L (LFn V (off V r0))))) 9 (nI ((max (L (LFn V (off V r0))) (lvA V L (off V r0) base)) % 2))) 10 (nI ((max (L (LFn V (off V r0))) (lvB V (ar 9) L (off V r1 + (runAt V r1).length) base)) % 2)))) H locs := hI
                  have hI := CI.to (w2 := mw g ad (va_up ar 18 y) (va_up (va_up (va_up (va_up fl 8 (nI (SQ V (ar 9) (ar 13) r0).length)) 11 (nI (L (LFn V (off V r0))))) 9 (nI (max (L (LFn V (off V r0))) (lvA V L (off V r0) base) % 2))) 10 (nI (max (L (LFn V (off V r0))) (lvB V (ar 9) L (off V (LR V (ar 9) (ar 13) r0) + (runAt V (LR V (ar 9) (ar 13) r0)).length) base) % 2)))) hI (by rw [hSQ, hLR] <;> rfl)
                  exact hret y _ _ _ _ _ _ d_MD_makeSequence_218 hI (by rw [hSQ]; exact hy) (Nat.le_refl 0) (Nat.le_refl 0)
              · have c176 := bI_ne0.mp c176
                have hlb9 : lvB V (ar 9) L (off V r1 + (runAt V r1).length) base = base := by unfold lvB; apply if_neg; intro z; exact z.2 c176
                refine lv_iload hx hb d_MD_makeSequence_179 (lv_at hl 8 rfl) ?_
                refine q_as (y := nI (lvB V (ar 9) L (off V r1 + (runAt V r1).length) base)) (by rw [hlb9]) ?_
                refine lv_goto (tgt := 191) hx hb d_MD_makeSequence_181 (by decide) ?_
                have hlb : lvB V (ar 9) L (off V r1 + (runAt V r1).length) base ≤ 125 := by unfold lvB; split; (rename_i q; exact (hL _ (LFn_mem q.1)).2); omega
                refine lv_istore (lv' := [(7, .int (nI (lvB V (ar 9) L (off V r1 + (runAt V r1).length) base))), (9, .int (bI (isol (ar 9 (lastP V r1))))), (8, .int (nI (LFn V (off V r1 + (runAt V r1).length)))), (6, .int (nI (LFn V (off V r0 - 1)))), (0, .ref (ad 0)), (1, .int (nI x)), (2, .int (nI b)), (3, .int (nI pe)), (4, .int (nI base)), (5, .int (nI (lastP V r1)))]) hx hb d_MD_makeSequence_191 hl (by decide) rfl (fun ls hl => ?_)
                refine lv_aload_n hx hb d_MD_makeSequence_193 rfl (lv_at hl 4 rfl) ?_
                refine lv_iload hx hb d_MD_makeSequence_194 (lv_at hl 0 rfl) ?_
                refine lv_aload_n hx hb d_MD_makeSequence_196 rfl (lv_at hl 4 rfl) ?_
                refine g_MD_165 M hI d_MD_makeSequence_197 ?_
                refine q_as (y := nI (L (LFn V (off V r0)))) rfl ?_
                refine lv_icmp_le (tgt := 208) hx hb d_MD_makeSequence_200 (by decide) (fun c200 => ?_) (fun c200 => ?_)
                · have c200 : lvB V (ar 9) L (off V r1 + (runAt V r1).length) base ≤ L (LFn V (off V r0)) := (nI_leI (a := lvB V (ar 9) L (off V r1 + (runAt V r1).length) base) (b := L (LFn V (off V r0))) (by omega) (by omega)).mp c200
                  refine lv_aload_n hx hb d_MD_makeSequence_208 rfl (lv_at hl 4 rfl) ?_
                  refine g_MD_165 M hI d_MD_makeSequence_209 ?_
                  refine q_as (y := nI (L (LFn V (off V r0)))) rfl ?_
                  refine q_as (y := nI (max (L (LFn V (off V r0))) (lvB V (ar 9) L (off V r1 + (runAt V r1).length) base))) (congrArg nI (by omega)) ?_
                  refine q_calliS [.int (nI (max (L (LFn V (off V r0))) (lvB V (ar 9) L (off V r1 + (runAt V r1).length) base)))] M hI (c_MD_directionOf l g (mw g ad (va_up ar 18 y) (va_up (va_up (va_up fl 8 (nI ((pr ++ runAt V r1).length))) 11 (nI (L (LFn V (off V r0))))) 9 (nI ((max (L (LFn V (off V r0))) (lvA V L (off V r0) base)) % 2)))) (max (L (LFn V (off V r0))) (lvB V (ar 9) L (off V r1 + (runAt V r1).length) base)) (by omega)) ok_MD_directionOf m5_158 m5_159 rfl rfl hl.1 ⟨rfl, rfl⟩ ⟨Nat.le_of_ble_eq_true rfl, Nat.le_of_ble_eq_true rfl⟩ (Nat.le_of_ble_eq_true rfl) ⟨Nat.le_of_ble_eq_true rfl, Nat.le_of_ble_eq_true rfl⟩ d_MD_makeSequence_212 (fun r212 u212 H locs hp212 hI => ?_)
                  refine q_as (y := nI ((max (L (LFn V (off V r0))) (lvB V (ar 9) L (off V r1 + (runAt V r1).length) base)) % 2)) hp212 ?_
                  refine p_MD_174 M hI d_MD_makeSequence_215 (fun H locs hI => ?_)
                  have hI : CI g A s (mw g ad (va_up ar 18 y) (va_up (va_up (va_up (va_up fl 8 (nI ((pr ++ runAt V r1).length))) 11 (nI (L (LFn V (off V r0))))) 9 (nI ((max (L (LFn V (off V r0))) (lvA V L (off V r0) base)) % 2))) 10 (nI ((max (L (LFn V (off V r0))) (lvB V (ar 9) L (off V r1 + (runAt V r1).length) base)) % 2)))) H locs := hI
                  have hI := CI.to (w2 := mw g ad (va_up ar 18 y) (va_up (va_up (va_up (va_up fl 8 (nI (SQ V (ar 9) (ar 13) r0).length)) 11 (nI (L (LFn V (off V r0))))) 9 (nI (max (L (LFn V (off V r0))) (lvA V L (off V r0) base) % 2))) 10 (nI (max (L (LFn V (off V r0))) (lvB V (ar 9) L (off V (LR V (ar 9) (ar 13) r0) + (runAt V (LR V (ar 9) (ar 13) r0)).length) base) % 2)))) hI (by rw [hSQ, hLR] <;> rfl)
                  exact hret y _ _ _ _ _ _ d_MD_makeSequence_218 hI (by rw [hSQ]; exact hy) (Nat.le_refl 0) (Nat.le_refl 0)
                · have c200 : ¬ lvB V (ar 9) L (off V r1 + (runAt V r1).length) base ≤ L (LFn V (off V r0)) := fun h => c200 ((nI_leI (a := lvB V (ar 9) L (off V r1 + (runAt V r1).length) base) (b := L (LFn V (off V r0))) (by omega) (by omega)).mpr h)
                  refine lv_iload hx hb d_MD_makeSequence_203 (lv_at hl 0 rfl) ?_
                  refine q_as (y := nI (max (L (LFn V (off V r0))) (lvB V (ar 9) L (off V r1 + (runAt V r1).length) base))) (congrArg nI (by omega)) ?_
                  refine lv_goto (tgt := 212) hx hb d_MD_makeSequence_205 (by decide) ?_
                  refine q_calliS [.int (nI (max (L (LFn V (off V r0))) (lvB V (ar 9) L (off V r1 + (runAt V r1).length) base)))] M hI (c_MD_directionOf l g (mw g ad (va_up ar 18 y) (va_up (va_up (va_up fl 8 (nI ((pr ++ runAt V r1).length))) 11 (nI (L (LFn V (off V r0))))) 9 (nI ((max (L (LFn V (off V r0))) (lvA V L (off V r0) base)) % 2)))) (max (L (LFn V (off V r0))) (lvB V (ar 9) L (off V r1 + (runAt V r1).length) base)) (by omega)) ok_MD_directionOf m5_158 m5_159 rfl rfl hl.1 ⟨rfl, rfl⟩ ⟨Nat.le_of_ble_eq_true rfl, Nat.le_of_ble_eq_true rfl⟩ (Nat.le_of_ble_eq_true rfl) ⟨Nat.le_of_ble_eq_true rfl, Nat.le_of_ble_eq_true rfl⟩ d_MD_makeSequence_212 (fun r212 u212 H locs hp212 hI => ?_)
                  refine q_as (y := nI ((max (L (LFn V (off V r0))) (lvB V (ar 9) L (off V r1 + (runAt V r1).length) base)) % 2)) hp212 ?_
                  refine p_MD_174 M hI d_MD_makeSequence_215 (fun H locs hI => ?_)
                  have hI : CI g A s (mw g ad (va_up ar 18 y) (va_up (va_up (va_up (va_up fl 8 (nI ((pr ++ runAt V r1).length))) 11 (nI (L (LFn V (off V r0))))) 9 (nI ((max (L (LFn V (off V r0))) (lvA V L (off V r0) base)) % 2))) 10 (nI ((max (L (LFn V (off V r0))) (lvB V (ar 9) L (off V r1 + (runAt V r1).length) base)) % 2)))) H locs := hI
                  have hI := CI.to (w2 := mw g ad (va_up ar 18 y) (va_up (va_up (va_up (va_up fl 8 (nI (SQ V (ar 9) (ar 13) r0).length)) 11 (nI (L (LFn V (off V r0))))) 9 (nI (max (L (LFn V (off V r0))) (lvA V L (off V r0) base) % 2))) 10 (nI (max (L (LFn V (off V r0))) (lvB V (ar 9) L (off V (LR V (ar 9) (ar 13) r0) + (runAt V (LR V (ar 9) (ar 13) r0)).length) base) % 2)))) hI (by rw [hSQ, hLR] <;> rfl)
                  exact hret y _ _ _ _ _ _ d_MD_makeSequence_218 hI (by rw [hSQ]; exact hy) (Nat.le_refl 0) (Nat.le_refl 0)
          · have c127 : ¬ lvA V L (off V r0) base ≤ L (LFn V (off V r0)) := fun h => c127 ((nI_leI (a := lvA V L (off V r0) base) (b := L (LFn V (off V r0))) (by omega) (by omega)).mpr h)
            refine lv_iload hx hb d_MD_makeSequence_130 (lv_at hl 0 rfl) ?_
            refine q_as (y := nI (max (L (LFn V (off V r0))) (lvA V L (off V r0) base))) (congrArg nI (by omega)) ?_
            refine lv_goto (tgt := 139) hx hb d_MD_makeSequence_132 (by decide) ?_
            refine q_calliS [.int (nI (max (L (LFn V (off V r0))) (lvA V L (off V r0) base)))] M hI (c_MD_directionOf l g (mw g ad (va_up ar 18 y) (va_up (va_up fl 8 (nI ((pr ++ runAt V r1).length))) 11 (nI (L (LFn V (off V r0)))))) (max (L (LFn V (off V r0))) (lvA V L (off V r0) base)) (by omega)) ok_MD_directionOf m5_158 m5_159 rfl rfl hl.1 ⟨rfl, rfl⟩ ⟨Nat.le_of_ble_eq_true rfl, Nat.le_of_ble_eq_true rfl⟩ (Nat.le_of_ble_eq_true rfl) ⟨Nat.le_of_ble_eq_true rfl, Nat.le_of_ble_eq_true rfl⟩ d_MD_makeSequence_139 (fun r139 u139 H locs hp139 hI => ?_)
            refine q_as (y := nI ((max (L (LFn V (off V r0))) (lvA V L (off V r0) base)) % 2)) hp139 ?_
            refine p_MD_171 M hI d_MD_makeSequence_142 (fun H locs hI => ?_)
            have hI : CI g A s (mw g ad (va_up ar 18 y) (va_up (va_up (va_up fl 8 (nI ((pr ++ runAt V r1).length))) 11 (nI (L (LFn V (off V r0))))) 9 (nI ((max (L (LFn V (off V r0))) (lvA V L (off V r0) base)) % 2)))) H locs := hI
            refine lv_aload_n hx hb d_MD_makeSequence_145 rfl (lv_at hl 2 rfl) ?_
            refine lv_iload hx hb d_MD_makeSequence_146 (lv_at hl 7 rfl) ?_
            refine lv_iconst (v := 1) hx hb d_MD_makeSequence_148 (by decide) ?_
            refine lv_iadd hx hb d_MD_makeSequence_149 ?_
            refine q_as (y := nI (lastP V r1 + 1)) (nI_add (lastP V r1) 1) ?_
            refine lv_iload_n hx hb d_MD_makeSequence_150 rfl (lv_at hl 5 rfl) ?_
            refine q_calliV [.int (nI (lastP V r1 + 1)), .int (nI pe)] M hI (c_MD_leftFrom l g ad (va_up ar 18 y) (va_up (va_up (va_up fl 8 (nI ((pr ++ runAt V r1).length))) 11 (nI (L (LFn V (off V r0))))) 9 (nI ((max (L (LFn V (off V r0))) (lvA V L (off V r0) base)) % 2))) (lastP V r1 + 1) pe (by omega) (by omega)) ok_MD_leftFrom m5_154 m5_156 ms_63 0 rfl rfl rfl rfl hl.1 ⟨rfl, rfl⟩ ⟨Nat.le_of_ble_eq_true rfl, Nat.le_of_ble_eq_true rfl⟩ (Nat.le_of_ble_eq_true rfl) ⟨Nat.le_of_ble_eq_true rfl, Nat.le_of_ble_eq_true rfl⟩ d_MD_makeSequence_151 (fun r151 u151 H locs hp151 hI => ?_)
            refine q_as (y := nI (lfr (ar 12) (pe - (lastP V r1 + 1)) (lastP V r1 + 1))) hp151 ?_
            refine q_as (y := nI (nxP V pe (off V r1 + (runAt V r1).length))) (by have := nx_of hbp hs (i := off V r1 + (runAt V r1).length - 1) (by rw [← hV]; omega); rw [← hV, show off V r1 + (runAt V r1).length - 1 + 1 = off V r1 + (runAt V r1).length by omega] at this; exact congrArg nI this) ?_
            have hnb : nxP V pe (off V r1 + (runAt V r1).length) ≤ pe := nxP_le hLp
            refine lv_istore (lv' := [(8, .int (nI (nxP V pe (off V r1 + (runAt V r1).length)))), (7, .int (nI (lvA V L (off V r0) base))), (6, .int (nI (LFn V (off V r0 - 1)))), (0, .ref (ad 0)), (1, .int (nI x)), (2, .int (nI b)), (3, .int (nI pe)), (4, .int (nI base)), (5, .int (nI (lastP V r1)))]) hx hb d_MD_makeSequence_154 hl (by decide) rfl (fun ls hl => ?_)
            refine lv_aload_n hx hb d_MD_makeSequence_156 rfl (lv_at hl 3 rfl) ?_
            refine g_MD_34 M hI d_MD_makeSequence_157 ?_
            refine lv_iload hx hb d_MD_makeSequence_160 (lv_at hl 8 rfl) ?_
            refine bl_9 M hI (lastP V r1) rfl (hl1.1) d_MD_makeSequence_162 ?_
            refine q_as (y := ar 9 (lastP V r1)) rfl ?_
            refine q_calliS [.int (ar 9 (lastP V r1))] M hI (c_MD_isIsolate l g (mw g ad (va_up ar 18 y) (va_up (va_up (va_up fl 8 (nI ((pr ++ runAt V r1).length))) 11 (nI (L (LFn V (off V r0))))) 9 (nI ((max (L (LFn V (off V r0))) (lvA V L (off V r0) base)) % 2)))) (ar 9 (lastP V r1))) ok_MD_isIsolate m5_107 m5_108 rfl rfl hl.1 ⟨rfl, rfl⟩ ⟨Nat.le_of_ble_eq_true rfl, Nat.le_of_ble_eq_true rfl⟩ (Nat.le_of_ble_eq_true rfl) ⟨Nat.le_of_ble_eq_true rfl, Nat.le_of_ble_eq_true rfl⟩ d_MD_makeSequence_163 (fun r163 u163 H locs hp163 hI => ?_)
            refine q_as (y := bI (isol (ar 9 (lastP V r1)))) hp163 ?_
            refine lv_istore (lv' := [(9, .int (bI (isol (ar 9 (lastP V r1))))), (8, .int (nI (nxP V pe (off V r1 + (runAt V r1).length)))), (7, .int (nI (lvA V L (off V r0) base))), (6, .int (nI (LFn V (off V r0 - 1)))), (0, .ref (ad 0)), (1, .int (nI x)), (2, .int (nI b)), (3, .int (nI pe)), (4, .int (nI base)), (5, .int (nI (lastP V r1)))]) hx hb d_MD_makeSequence_166 hl (by decide) rfl (fun ls hl => ?_)
            refine lv_iload hx hb d_MD_makeSequence_168 (lv_at hl 1 rfl) ?_
            refine lv_iload_n hx hb d_MD_makeSequence_170 rfl (lv_at hl 7 rfl) ?_
            refine lv_icmp_ge (tgt := 179) hx hb d_MD_makeSequence_171 (by decide) (fun c171 => ?_) (fun c171 => ?_)
            · have c171 : pe ≤ nxP V pe (off V r1 + (runAt V r1).length) := (nI_leI (a := pe) (b := nxP V pe (off V r1 + (runAt V r1).length)) (by omega) (by omega)).mp c171
              have hlb9 : lvB V (ar 9) L (off V r1 + (runAt V r1).length) base = base := by unfold lvB; apply if_neg; intro z; have := nxP_ge hLp c171; omega
              refine lv_iload hx hb d_MD_makeSequence_179 (lv_at hl 8 rfl) ?_
              refine q_as (y := nI (lvB V (ar 9) L (off V r1 + (runAt V r1).length) base)) (by rw [hlb9]) ?_
              refine lv_goto (tgt := 191) hx hb d_MD_makeSequence_181 (by decide) ?_
              have hlb : lvB V (ar 9) L (off V r1 + (runAt V r1).length) base ≤ 125 := by unfold lvB; split; (rename_i q; exact (hL _ (LFn_mem q.1)).2); omega
              refine lv_istore (lv' := [(7, .int (nI (lvB V (ar 9) L (off V r1 + (runAt V r1).length) base))), (9, .int (bI (isol (ar 9 (lastP V r1))))), (8, .int (nI (nxP V pe (off V r1 + (runAt V r1).length)))), (6, .int (nI (LFn V (off V r0 - 1)))), (0, .ref (ad 0)), (1, .int (nI x)), (2, .int (nI b)), (3, .int (nI pe)), (4, .int (nI base)), (5, .int (nI (lastP V r1)))]) hx hb d_MD_makeSequence_191 hl (by decide) rfl (fun ls hl => ?_)
              refine lv_aload_n hx hb d_MD_makeSequence_193 rfl (lv_at hl 4 rfl) ?_
              refine lv_iload hx hb d_MD_makeSequence_194 (lv_at hl 0 rfl) ?_
              refine lv_aload_n hx hb d_MD_makeSequence_196 rfl (lv_at hl 4 rfl) ?_
              refine g_MD_165 M hI d_MD_makeSequence_197 ?_
              refine q_as (y := nI (L (LFn V (off V r0)))) rfl ?_
              refine lv_icmp_le (tgt := 208) hx hb d_MD_makeSequence_200 (by decide) (fun c200 => ?_) (fun c200 => ?_)
              · have c200 : lvB V (ar 9) L (off V r1 + (runAt V r1).length) base ≤ L (LFn V (off V r0)) := (nI_leI (a := lvB V (ar 9) L (off V r1 + (runAt V r1).length) base) (b := L (LFn V (off V r0))) (by omega) (by omega)).mp c200
                refine lv_aload_n hx hb d_MD_makeSequence_208 rfl (lv_at hl 4 rfl) ?_
                refine g_MD_165 M hI d_MD_makeSequence_209 ?_
                refine q_as (y := nI (L (LFn V (off V r0)))) rfl ?_
                refine q_as (y := nI (max (L (LFn V (off V r0))) (lvB V (ar 9) L (off V r1 + (runAt V r1).length) base))) (congrArg nI (by omega)) ?_
                refine q_calliS [.int (nI (max (L (LFn V (off V r0))) (lvB V (ar 9) L (off V r1 + (runAt V r1).length) base)))] M hI (c_MD_directionOf l g (mw g ad (va_up ar 18 y) (va_up (va_up (va_up fl 8 (nI ((pr ++ runAt V r1).length))) 11 (nI (L (LFn V (off V r0))))) 9 (nI ((max (L (LFn V (off V r0))) (lvA V L (off V r0) base)) % 2)))) (max (L (LFn V (off V r0))) (lvB V (ar 9) L (off V r1 + (runAt V r1).length) base)) (by omega)) ok_MD_directionOf m5_158 m5_159 rfl rfl hl.1 ⟨rfl, rfl⟩ ⟨Nat.le_of_ble_eq_true rfl, Nat.le_of_ble_eq_true rfl⟩ (Nat.le_of_ble_eq_true rfl) ⟨Nat.le_of_ble_eq_true rfl, Nat.le_of_ble_eq_true rfl⟩ d_MD_makeSequence_212 (fun r212 u212 H locs hp212 hI => ?_)
                refine q_as (y := nI ((max (L (LFn V (off V r0))) (lvB V (ar 9) L (off V r1 + (runAt V r1).length) base)) % 2)) hp212 ?_
                refine p_MD_174 M hI d_MD_makeSequence_215 (fun H locs hI => ?_)
                have hI : CI g A s (mw g ad (va_up ar 18 y) (va_up (va_up (va_up (va_up fl 8 (nI ((pr ++ runAt V r1).length))) 11 (nI (L (LFn V (off V r0))))) 9 (nI ((max (L (LFn V (off V r0))) (lvA V L (off V r0) base)) % 2))) 10 (nI ((max (L (LFn V (off V r0))) (lvB V (ar 9) L (off V r1 + (runAt V r1).length) base)) % 2)))) H locs := hI
                have hI := CI.to (w2 := mw g ad (va_up ar 18 y) (va_up (va_up (va_up (va_up fl 8 (nI (SQ V (ar 9) (ar 13) r0).length)) 11 (nI (L (LFn V (off V r0))))) 9 (nI (max (L (LFn V (off V r0))) (lvA V L (off V r0) base) % 2))) 10 (nI (max (L (LFn V (off V r0))) (lvB V (ar 9) L (off V (LR V (ar 9) (ar 13) r0) + (runAt V (LR V (ar 9) (ar 13) r0)).length) base) % 2)))) hI (by rw [hSQ, hLR] <;> rfl)
                exact hret y _ _ _ _ _ _ d_MD_makeSequence_218 hI (by rw [hSQ]; exact hy) (Nat.le_refl 0) (Nat.le_refl 0)
              · have c200 : ¬ lvB V (ar 9) L (off V r1 + (runAt V r1).length) base ≤ L (LFn V (off V r0)) := fun h => c200 ((nI_leI (a := lvB V (ar 9) L (off V r1 + (runAt V r1).length) base) (b := L (LFn V (off V r0))) (by omega) (by omega)).mpr h)
                refine lv_iload hx hb d_MD_makeSequence_203 (lv_at hl 0 rfl) ?_
                refine q_as (y := nI (max (L (LFn V (off V r0))) (lvB V (ar 9) L (off V r1 + (runAt V r1).length) base))) (congrArg nI (by omega)) ?_
                refine lv_goto (tgt := 212) hx hb d_MD_makeSequence_205 (by decide) ?_
                refine q_calliS [.int (nI (max (L (LFn V (off V r0))) (lvB V (ar 9) L (off V r1 + (runAt V r1).length) base)))] M hI (c_MD_directionOf l g (mw g ad (va_up ar 18 y) (va_up (va_up (va_up fl 8 (nI ((pr ++ runAt V r1).length))) 11 (nI (L (LFn V (off V r0))))) 9 (nI ((max (L (LFn V (off V r0))) (lvA V L (off V r0) base)) % 2)))) (max (L (LFn V (off V r0))) (lvB V (ar 9) L (off V r1 + (runAt V r1).length) base)) (by omega)) ok_MD_directionOf m5_158 m5_159 rfl rfl hl.1 ⟨rfl, rfl⟩ ⟨Nat.le_of_ble_eq_true rfl, Nat.le_of_ble_eq_true rfl⟩ (Nat.le_of_ble_eq_true rfl) ⟨Nat.le_of_ble_eq_true rfl, Nat.le_of_ble_eq_true rfl⟩ d_MD_makeSequence_212 (fun r212 u212 H locs hp212 hI => ?_)
                refine q_as (y := nI ((max (L (LFn V (off V r0))) (lvB V (ar 9) L (off V r1 + (runAt V r1).length) base)) % 2)) hp212 ?_
                refine p_MD_174 M hI d_MD_makeSequence_215 (fun H locs hI => ?_)
                have hI : CI g A s (mw g ad (va_up ar 18 y) (va_up (va_up (va_up (va_up fl 8 (nI ((pr ++ runAt V r1).length))) 11 (nI (L (LFn V (off V r0))))) 9 (nI ((max (L (LFn V (off V r0))) (lvA V L (off V r0) base)) % 2))) 10 (nI ((max (L (LFn V (off V r0))) (lvB V (ar 9) L (off V r1 + (runAt V r1).length) base)) % 2)))) H locs := hI
                have hI := CI.to (w2 := mw g ad (va_up ar 18 y) (va_up (va_up (va_up (va_up fl 8 (nI (SQ V (ar 9) (ar 13) r0).length)) 11 (nI (L (LFn V (off V r0))))) 9 (nI (max (L (LFn V (off V r0))) (lvA V L (off V r0) base) % 2))) 10 (nI (max (L (LFn V (off V r0))) (lvB V (ar 9) L (off V (LR V (ar 9) (ar 13) r0) + (runAt V (LR V (ar 9) (ar 13) r0)).length) base) % 2)))) hI (by rw [hSQ, hLR] <;> rfl)
                exact hret y _ _ _ _ _ _ d_MD_makeSequence_218 hI (by rw [hSQ]; exact hy) (Nat.le_refl 0) (Nat.le_refl 0)
            · have c171 : ¬ pe ≤ nxP V pe (off V r1 + (runAt V r1).length) := fun h => c171 ((nI_leI (a := pe) (b := nxP V pe (off V r1 + (runAt V r1).length)) (by omega) (by omega)).mpr h)
              have hz9 : off V r1 + (runAt V r1).length < tot V := (nxP_lt c171).1
              have q9 : nxP V pe (off V r1 + (runAt V r1).length) = LFn V (off V r1 + (runAt V r1).length) := (nxP_lt c171).2
              have hb9 := hLF _ hz9
              rw [q9] at hl
              refine lv_iload hx hb d_MD_makeSequence_174 (lv_at hl 0 rfl) ?_
              refine lv_if_eq (tgt := 184) hx hb d_MD_makeSequence_176 (by decide) (fun c176 => ?_) (fun c176 => ?_)
              · have c176 := bI_eq0.mp c176
                have hlb9 : lvB V (ar 9) L (off V r1 + (runAt V r1).length) base = L (LFn V (off V r1 + (runAt V r1).length)) := by unfold lvB; exact if_pos ⟨hz9, c176⟩
                refine lv_aload_n hx hb d_MD_makeSequence_184 rfl (lv_at hl 4 rfl) ?_
                refine g_MD_43 M hI d_MD_makeSequence_185 ?_
                refine lv_iload hx hb d_MD_makeSequence_188 (lv_at hl 1 rfl) ?_
                refine bl_12 M hI (LFn V (off V r1 + (runAt V r1).length)) rfl (by omega) d_MD_makeSequence_190 ?_
                refine q_as (y := nI (lvB V (ar 9) L (off V r1 + (runAt V r1).length) base)) (by rw [hlb9]; exact (hL _ (LFn_mem hz9)).1) ?_
                have hlb : lvB V (ar 9) L (off V r1 + (runAt V r1).length) base ≤ 125 := by unfold lvB; split; (rename_i q; exact (hL _ (LFn_mem q.1)).2); omega
                refine lv_istore (lv' := [(7, .int (nI (lvB V (ar 9) L (off V r1 + (runAt V r1).length) base))), (9, .int (bI (isol (ar 9 (lastP V r1))))), (8, .int (nI (LFn V (off V r1 + (runAt V r1).length)))), (6, .int (nI (LFn V (off V r0 - 1)))), (0, .ref (ad 0)), (1, .int (nI x)), (2, .int (nI b)), (3, .int (nI pe)), (4, .int (nI base)), (5, .int (nI (lastP V r1)))]) hx hb d_MD_makeSequence_191 hl (by decide) rfl (fun ls hl => ?_)
                refine lv_aload_n hx hb d_MD_makeSequence_193 rfl (lv_at hl 4 rfl) ?_
                refine lv_iload hx hb d_MD_makeSequence_194 (lv_at hl 0 rfl) ?_
                refine lv_aload_n hx hb d_MD_makeSequence_196 rfl (lv_at hl 4 rfl) ?_
                refine g_MD_165 M hI d_MD_makeSequence_197 ?_
                refine q_as (y := nI (L (LFn V (off V r0)))) rfl ?_
                refine lv_icmp_le (tgt := 208) hx hb d_MD_makeSequence_200 (by decide) (fun c200 => ?_) (fun c200 => ?_)
                · have c200 : lvB V (ar 9) L (off V r1 + (runAt V r1).length) base ≤ L (LFn V (off V r0)) := (nI_leI (a := lvB V (ar 9) L (off V r1 + (runAt V r1).length) base) (b := L (LFn V (off V r0))) (by omega) (by omega)).mp c200
                  refine lv_aload_n hx hb d_MD_makeSequence_208 rfl (lv_at hl 4 rfl) ?_
                  refine g_MD_165 M hI d_MD_makeSequence_209 ?_
                  refine q_as (y := nI (L (LFn V (off V r0)))) rfl ?_
                  refine q_as (y := nI (max (L (LFn V (off V r0))) (lvB V (ar 9) L (off V r1 + (runAt V r1).length) base))) (congrArg nI (by omega)) ?_
                  refine q_calliS [.int (nI (max (L (LFn V (off V r0))) (lvB V (ar 9) L (off V r1 + (runAt V r1).length) base)))] M hI (c_MD_directionOf l g (mw g ad (va_up ar 18 y) (va_up (va_up (va_up fl 8 (nI ((pr ++ runAt V r1).length))) 11 (nI (L (LFn V (off V r0))))) 9 (nI ((max (L (LFn V (off V r0))) (lvA V L (off V r0) base)) % 2)))) (max (L (LFn V (off V r0))) (lvB V (ar 9) L (off V r1 + (runAt V r1).length) base)) (by omega)) ok_MD_directionOf m5_158 m5_159 rfl rfl hl.1 ⟨rfl, rfl⟩ ⟨Nat.le_of_ble_eq_true rfl, Nat.le_of_ble_eq_true rfl⟩ (Nat.le_of_ble_eq_true rfl) ⟨Nat.le_of_ble_eq_true rfl, Nat.le_of_ble_eq_true rfl⟩ d_MD_makeSequence_212 (fun r212 u212 H locs hp212 hI => ?_)
                  refine q_as (y := nI ((max (L (LFn V (off V r0))) (lvB V (ar 9) L (off V r1 + (runAt V r1).length) base)) % 2)) hp212 ?_
                  refine p_MD_174 M hI d_MD_makeSequence_215 (fun H locs hI => ?_)
                  have hI : CI g A s (mw g ad (va_up ar 18 y) (va_up (va_up (va_up (va_up fl 8 (nI ((pr ++ runAt V r1).length))) 11 (nI (L (LFn V (off V r0))))) 9 (nI ((max (L (LFn V (off V r0))) (lvA V L (off V r0) base)) % 2))) 10 (nI ((max (L (LFn V (off V r0))) (lvB V (ar 9) L (off V r1 + (runAt V r1).length) base)) % 2)))) H locs := hI
                  have hI := CI.to (w2 := mw g ad (va_up ar 18 y) (va_up (va_up (va_up (va_up fl 8 (nI (SQ V (ar 9) (ar 13) r0).length)) 11 (nI (L (LFn V (off V r0))))) 9 (nI (max (L (LFn V (off V r0))) (lvA V L (off V r0) base) % 2))) 10 (nI (max (L (LFn V (off V r0))) (lvB V (ar 9) L (off V (LR V (ar 9) (ar 13) r0) + (runAt V (LR V (ar 9) (ar 13) r0)).length) base) % 2)))) hI (by rw [hSQ, hLR] <;> rfl)
                  exact hret y _ _ _ _ _ _ d_MD_makeSequence_218 hI (by rw [hSQ]; exact hy) (Nat.le_refl 0) (Nat.le_refl 0)
                · have c200 : ¬ lvB V (ar 9) L (off V r1 + (runAt V r1).length) base ≤ L (LFn V (off V r0)) := fun h => c200 ((nI_leI (a := lvB V (ar 9) L (off V r1 + (runAt V r1).length) base) (b := L (LFn V (off V r0))) (by omega) (by omega)).mpr h)
                  refine lv_iload hx hb d_MD_makeSequence_203 (lv_at hl 0 rfl) ?_
                  refine q_as (y := nI (max (L (LFn V (off V r0))) (lvB V (ar 9) L (off V r1 + (runAt V r1).length) base))) (congrArg nI (by omega)) ?_
                  refine lv_goto (tgt := 212) hx hb d_MD_makeSequence_205 (by decide) ?_
                  refine q_calliS [.int (nI (max (L (LFn V (off V r0))) (lvB V (ar 9) L (off V r1 + (runAt V r1).length) base)))] M hI (c_MD_directionOf l g (mw g ad (va_up ar 18 y) (va_up (va_up (va_up fl 8 (nI ((pr ++ runAt V r1).length))) 11 (nI (L (LFn V (off V r0))))) 9 (nI ((max (L (LFn V (off V r0))) (lvA V L (off V r0) base)) % 2)))) (max (L (LFn V (off V r0))) (lvB V (ar 9) L (off V r1 + (runAt V r1).length) base)) (by omega)) ok_MD_directionOf m5_158 m5_159 rfl rfl hl.1 ⟨rfl, rfl⟩ ⟨Nat.le_of_ble_eq_true rfl, Nat.le_of_ble_eq_true rfl⟩ (Nat.le_of_ble_eq_true rfl) ⟨Nat.le_of_ble_eq_true rfl, Nat.le_of_ble_eq_true rfl⟩ d_MD_makeSequence_212 (fun r212 u212 H locs hp212 hI => ?_)
                  refine q_as (y := nI ((max (L (LFn V (off V r0))) (lvB V (ar 9) L (off V r1 + (runAt V r1).length) base)) % 2)) hp212 ?_
                  refine p_MD_174 M hI d_MD_makeSequence_215 (fun H locs hI => ?_)
                  have hI : CI g A s (mw g ad (va_up ar 18 y) (va_up (va_up (va_up (va_up fl 8 (nI ((pr ++ runAt V r1).length))) 11 (nI (L (LFn V (off V r0))))) 9 (nI ((max (L (LFn V (off V r0))) (lvA V L (off V r0) base)) % 2))) 10 (nI ((max (L (LFn V (off V r0))) (lvB V (ar 9) L (off V r1 + (runAt V r1).length) base)) % 2)))) H locs := hI
                  have hI := CI.to (w2 := mw g ad (va_up ar 18 y) (va_up (va_up (va_up (va_up fl 8 (nI (SQ V (ar 9) (ar 13) r0).length)) 11 (nI (L (LFn V (off V r0))))) 9 (nI (max (L (LFn V (off V r0))) (lvA V L (off V r0) base) % 2))) 10 (nI (max (L (LFn V (off V r0))) (lvB V (ar 9) L (off V (LR V (ar 9) (ar 13) r0) + (runAt V (LR V (ar 9) (ar 13) r0)).length) base) % 2)))) hI (by rw [hSQ, hLR] <;> rfl)
                  exact hret y _ _ _ _ _ _ d_MD_makeSequence_218 hI (by rw [hSQ]; exact hy) (Nat.le_refl 0) (Nat.le_refl 0)
              · have c176 := bI_ne0.mp c176
                have hlb9 : lvB V (ar 9) L (off V r1 + (runAt V r1).length) base = base := by unfold lvB; apply if_neg; intro z; exact z.2 c176
                refine lv_iload hx hb d_MD_makeSequence_179 (lv_at hl 8 rfl) ?_
                refine q_as (y := nI (lvB V (ar 9) L (off V r1 + (runAt V r1).length) base)) (by rw [hlb9]) ?_
                refine lv_goto (tgt := 191) hx hb d_MD_makeSequence_181 (by decide) ?_
                have hlb : lvB V (ar 9) L (off V r1 + (runAt V r1).length) base ≤ 125 := by unfold lvB; split; (rename_i q; exact (hL _ (LFn_mem q.1)).2); omega
                refine lv_istore (lv' := [(7, .int (nI (lvB V (ar 9) L (off V r1 + (runAt V r1).length) base))), (9, .int (bI (isol (ar 9 (lastP V r1))))), (8, .int (nI (LFn V (off V r1 + (runAt V r1).length)))), (6, .int (nI (LFn V (off V r0 - 1)))), (0, .ref (ad 0)), (1, .int (nI x)), (2, .int (nI b)), (3, .int (nI pe)), (4, .int (nI base)), (5, .int (nI (lastP V r1)))]) hx hb d_MD_makeSequence_191 hl (by decide) rfl (fun ls hl => ?_)
                refine lv_aload_n hx hb d_MD_makeSequence_193 rfl (lv_at hl 4 rfl) ?_
                refine lv_iload hx hb d_MD_makeSequence_194 (lv_at hl 0 rfl) ?_
                refine lv_aload_n hx hb d_MD_makeSequence_196 rfl (lv_at hl 4 rfl) ?_
                refine g_MD_165 M hI d_MD_makeSequence_197 ?_
                refine q_as (y := nI (L (LFn V (off V r0)))) rfl ?_
                refine lv_icmp_le (tgt := 208) hx hb d_MD_makeSequence_200 (by decide) (fun c200 => ?_) (fun c200 => ?_)
                · have c200 : lvB V (ar 9) L (off V r1 + (runAt V r1).length) base ≤ L (LFn V (off V r0)) := (nI_leI (a := lvB V (ar 9) L (off V r1 + (runAt V r1).length) base) (b := L (LFn V (off V r0))) (by omega) (by omega)).mp c200
                  refine lv_aload_n hx hb d_MD_makeSequence_208 rfl (lv_at hl 4 rfl) ?_
                  refine g_MD_165 M hI d_MD_makeSequence_209 ?_
                  refine q_as (y := nI (L (LFn V (off V r0)))) rfl ?_
                  refine q_as (y := nI (max (L (LFn V (off V r0))) (lvB V (ar 9) L (off V r1 + (runAt V r1).length) base))) (congrArg nI (by omega)) ?_
                  refine q_calliS [.int (nI (max (L (LFn V (off V r0))) (lvB V (ar 9) L (off V r1 + (runAt V r1).length) base)))] M hI (c_MD_directionOf l g (mw g ad (va_up ar 18 y) (va_up (va_up (va_up fl 8 (nI ((pr ++ runAt V r1).length))) 11 (nI (L (LFn V (off V r0))))) 9 (nI ((max (L (LFn V (off V r0))) (lvA V L (off V r0) base)) % 2)))) (max (L (LFn V (off V r0))) (lvB V (ar 9) L (off V r1 + (runAt V r1).length) base)) (by omega)) ok_MD_directionOf m5_158 m5_159 rfl rfl hl.1 ⟨rfl, rfl⟩ ⟨Nat.le_of_ble_eq_true rfl, Nat.le_of_ble_eq_true rfl⟩ (Nat.le_of_ble_eq_true rfl) ⟨Nat.le_of_ble_eq_true rfl, Nat.le_of_ble_eq_true rfl⟩ d_MD_makeSequence_212 (fun r212 u212 H locs hp212 hI => ?_)
                  refine q_as (y := nI ((max (L (LFn V (off V r0))) (lvB V (ar 9) L (off V r1 + (runAt V r1).length) base)) % 2)) hp212 ?_
                  refine p_MD_174 M hI d_MD_makeSequence_215 (fun H locs hI => ?_)
                  have hI : CI g A s (mw g ad (va_up ar 18 y) (va_up (va_up (va_up (va_up fl 8 (nI ((pr ++ runAt V r1).length))) 11 (nI (L (LFn V (off V r0))))) 9 (nI ((max (L (LFn V (off V r0))) (lvA V L (off V r0) base)) % 2))) 10 (nI ((max (L (LFn V (off V r0))) (lvB V (ar 9) L (off V r1 + (runAt V r1).length) base)) % 2)))) H locs := hI
                  have hI := CI.to (w2 := mw g ad (va_up ar 18 y) (va_up (va_up (va_up (va_up fl 8 (nI (SQ V (ar 9) (ar 13) r0).length)) 11 (nI (L (LFn V (off V r0))))) 9 (nI (max (L (LFn V (off V r0))) (lvA V L (off V r0) base) % 2))) 10 (nI (max (L (LFn V (off V r0))) (lvB V (ar 9) L (off V (LR V (ar 9) (ar 13) r0) + (runAt V (LR V (ar 9) (ar 13) r0)).length) base) % 2)))) hI (by rw [hSQ, hLR] <;> rfl)
                  exact hret y _ _ _ _ _ _ d_MD_makeSequence_218 hI (by rw [hSQ]; exact hy) (Nat.le_refl 0) (Nat.le_refl 0)
                · have c200 : ¬ lvB V (ar 9) L (off V r1 + (runAt V r1).length) base ≤ L (LFn V (off V r0)) := fun h => c200 ((nI_leI (a := lvB V (ar 9) L (off V r1 + (runAt V r1).length) base) (b := L (LFn V (off V r0))) (by omega) (by omega)).mpr h)
                  refine lv_iload hx hb d_MD_makeSequence_203 (lv_at hl 0 rfl) ?_
                  refine q_as (y := nI (max (L (LFn V (off V r0))) (lvB V (ar 9) L (off V r1 + (runAt V r1).length) base))) (congrArg nI (by omega)) ?_
                  refine lv_goto (tgt := 212) hx hb d_MD_makeSequence_205 (by decide) ?_
                  refine q_calliS [.int (nI (max (L (LFn V (off V r0))) (lvB V (ar 9) L (off V r1 + (runAt V r1).length) base)))] M hI (c_MD_directionOf l g (mw g ad (va_up ar 18 y) (va_up (va_up (va_up fl 8 (nI ((pr ++ runAt V r1).length))) 11 (nI (L (LFn V (off V r0))))) 9 (nI ((max (L (LFn V (off V r0))) (lvA V L (off V r0) base)) % 2)))) (max (L (LFn V (off V r0))) (lvB V (ar 9) L (off V r1 + (runAt V r1).length) base)) (by omega)) ok_MD_directionOf m5_158 m5_159 rfl rfl hl.1 ⟨rfl, rfl⟩ ⟨Nat.le_of_ble_eq_true rfl, Nat.le_of_ble_eq_true rfl⟩ (Nat.le_of_ble_eq_true rfl) ⟨Nat.le_of_ble_eq_true rfl, Nat.le_of_ble_eq_true rfl⟩ d_MD_makeSequence_212 (fun r212 u212 H locs hp212 hI => ?_)
                  refine q_as (y := nI ((max (L (LFn V (off V r0))) (lvB V (ar 9) L (off V r1 + (runAt V r1).length) base)) % 2)) hp212 ?_
                  refine p_MD_174 M hI d_MD_makeSequence_215 (fun H locs hI => ?_)
                  have hI : CI g A s (mw g ad (va_up ar 18 y) (va_up (va_up (va_up (va_up fl 8 (nI ((pr ++ runAt V r1).length))) 11 (nI (L (LFn V (off V r0))))) 9 (nI ((max (L (LFn V (off V r0))) (lvA V L (off V r0) base)) % 2))) 10 (nI ((max (L (LFn V (off V r0))) (lvB V (ar 9) L (off V r1 + (runAt V r1).length) base)) % 2)))) H locs := hI
                  have hI := CI.to (w2 := mw g ad (va_up ar 18 y) (va_up (va_up (va_up (va_up fl 8 (nI (SQ V (ar 9) (ar 13) r0).length)) 11 (nI (L (LFn V (off V r0))))) 9 (nI (max (L (LFn V (off V r0))) (lvA V L (off V r0) base) % 2))) 10 (nI (max (L (LFn V (off V r0))) (lvB V (ar 9) L (off V (LR V (ar 9) (ar 13) r0) + (runAt V (LR V (ar 9) (ar 13) r0)).length) base) % 2)))) hI (by rw [hSQ, hLR] <;> rfl)
                  exact hret y _ _ _ _ _ _ d_MD_makeSequence_218 hI (by rw [hSQ]; exact hy) (Nat.le_refl 0) (Nat.le_refl 0)
        · have ho9 : off V r0 = 0 := bk_lt (V := V) (by omega) (Int32.not_le.mp c103) (fun h => by have := hLF (off V r0 - 1) (by omega); omega)
          refine lv_iload hx hb d_MD_makeSequence_106 (lv_at hl 5 rfl) ?_
          refine q_as (y := nI (lvA V L (off V r0) base)) (by unfold lvA; rw [if_neg (by omega)]) ?_
          refine lv_goto (tgt := 118) hx hb d_MD_makeSequence_108 (by decide) ?_
          have hla : lvA V L (off V r0) base ≤ 125 := by unfold lvA; split; exact (hL _ (LFn_mem (by omega))).2; omega
          have hl0 := hL0.2
          refine lv_istore (lv' := [(7, .int (nI (lvA V L (off V r0) base))), (6, .int (bk V b (off V r0))), (0, .ref (ad 0)), (1, .int (nI x)), (2, .int (nI b)), (3, .int (nI pe)), (4, .int (nI base)), (5, .int (nI (lastP V r1)))]) hx hb d_MD_makeSequence_118 hl (by decide) rfl (fun ls hl => ?_)
          refine lv_aload_n hx hb d_MD_makeSequence_120 rfl (lv_at hl 2 rfl) ?_
          refine lv_iload hx hb d_MD_makeSequence_121 (lv_at hl 0 rfl) ?_
          refine lv_aload_n hx hb d_MD_makeSequence_123 rfl (lv_at hl 2 rfl) ?_
          refine g_MD_165 M hI d_MD_makeSequence_124 ?_
          refine q_as (y := nI (L (LFn V (off V r0)))) rfl ?_
          refine lv_icmp_le (tgt := 135) hx hb d_MD_makeSequence_127 (by decide) (fun c127 => ?_) (fun c127 => ?_)
          · have c127 : lvA V L (off V r0) base ≤ L (LFn V (off V r0)) := (nI_leI (a := lvA V L (off V r0) base) (b := L (LFn V (off V r0))) (by omega) (by omega)).mp c127
            refine lv_aload_n hx hb d_MD_makeSequence_135 rfl (lv_at hl 2 rfl) ?_
            refine g_MD_165 M hI d_MD_makeSequence_136 ?_
            refine q_as (y := nI (L (LFn V (off V r0)))) rfl ?_
            refine q_as (y := nI (max (L (LFn V (off V r0))) (lvA V L (off V r0) base))) (congrArg nI (by omega)) ?_
            refine q_calliS [.int (nI (max (L (LFn V (off V r0))) (lvA V L (off V r0) base)))] M hI (c_MD_directionOf l g (mw g ad (va_up ar 18 y) (va_up (va_up fl 8 (nI ((pr ++ runAt V r1).length))) 11 (nI (L (LFn V (off V r0)))))) (max (L (LFn V (off V r0))) (lvA V L (off V r0) base)) (by omega)) ok_MD_directionOf m5_158 m5_159 rfl rfl hl.1 ⟨rfl, rfl⟩ ⟨Nat.le_of_ble_eq_true rfl, Nat.le_of_ble_eq_true rfl⟩ (Nat.le_of_ble_eq_true rfl) ⟨Nat.le_of_ble_eq_true rfl, Nat.le_of_ble_eq_true rfl⟩ d_MD_makeSequence_139 (fun r139 u139 H locs hp139 hI => ?_)
            refine q_as (y := nI ((max (L (LFn V (off V r0))) (lvA V L (off V r0) base)) % 2)) hp139 ?_
            refine p_MD_171 M hI d_MD_makeSequence_142 (fun H locs hI => ?_)
            have hI : CI g A s (mw g ad (va_up ar 18 y) (va_up (va_up (va_up fl 8 (nI ((pr ++ runAt V r1).length))) 11 (nI (L (LFn V (off V r0))))) 9 (nI ((max (L (LFn V (off V r0))) (lvA V L (off V r0) base)) % 2)))) H locs := hI
            refine lv_aload_n hx hb d_MD_makeSequence_145 rfl (lv_at hl 2 rfl) ?_
            refine lv_iload hx hb d_MD_makeSequence_146 (lv_at hl 7 rfl) ?_
            refine lv_iconst (v := 1) hx hb d_MD_makeSequence_148 (by decide) ?_
            refine lv_iadd hx hb d_MD_makeSequence_149 ?_
            refine q_as (y := nI (lastP V r1 + 1)) (nI_add (lastP V r1) 1) ?_
            refine lv_iload_n hx hb d_MD_makeSequence_150 rfl (lv_at hl 5 rfl) ?_
            refine q_calliV [.int (nI (lastP V r1 + 1)), .int (nI pe)] M hI (c_MD_leftFrom l g ad (va_up ar 18 y) (va_up (va_up (va_up fl 8 (nI ((pr ++ runAt V r1).length))) 11 (nI (L (LFn V (off V r0))))) 9 (nI ((max (L (LFn V (off V r0))) (lvA V L (off V r0) base)) % 2))) (lastP V r1 + 1) pe (by omega) (by omega)) ok_MD_leftFrom m5_154 m5_156 ms_63 0 rfl rfl rfl rfl hl.1 ⟨rfl, rfl⟩ ⟨Nat.le_of_ble_eq_true rfl, Nat.le_of_ble_eq_true rfl⟩ (Nat.le_of_ble_eq_true rfl) ⟨Nat.le_of_ble_eq_true rfl, Nat.le_of_ble_eq_true rfl⟩ d_MD_makeSequence_151 (fun r151 u151 H locs hp151 hI => ?_)
            refine q_as (y := nI (lfr (ar 12) (pe - (lastP V r1 + 1)) (lastP V r1 + 1))) hp151 ?_
            refine q_as (y := nI (nxP V pe (off V r1 + (runAt V r1).length))) (by have := nx_of hbp hs (i := off V r1 + (runAt V r1).length - 1) (by rw [← hV]; omega); rw [← hV, show off V r1 + (runAt V r1).length - 1 + 1 = off V r1 + (runAt V r1).length by omega] at this; exact congrArg nI this) ?_
            have hnb : nxP V pe (off V r1 + (runAt V r1).length) ≤ pe := nxP_le hLp
            refine lv_istore (lv' := [(8, .int (nI (nxP V pe (off V r1 + (runAt V r1).length)))), (7, .int (nI (lvA V L (off V r0) base))), (6, .int (bk V b (off V r0))), (0, .ref (ad 0)), (1, .int (nI x)), (2, .int (nI b)), (3, .int (nI pe)), (4, .int (nI base)), (5, .int (nI (lastP V r1)))]) hx hb d_MD_makeSequence_154 hl (by decide) rfl (fun ls hl => ?_)
            refine lv_aload_n hx hb d_MD_makeSequence_156 rfl (lv_at hl 3 rfl) ?_
            refine g_MD_34 M hI d_MD_makeSequence_157 ?_
            refine lv_iload hx hb d_MD_makeSequence_160 (lv_at hl 8 rfl) ?_
            refine bl_9 M hI (lastP V r1) rfl (hl1.1) d_MD_makeSequence_162 ?_
            refine q_as (y := ar 9 (lastP V r1)) rfl ?_
            refine q_calliS [.int (ar 9 (lastP V r1))] M hI (c_MD_isIsolate l g (mw g ad (va_up ar 18 y) (va_up (va_up (va_up fl 8 (nI ((pr ++ runAt V r1).length))) 11 (nI (L (LFn V (off V r0))))) 9 (nI ((max (L (LFn V (off V r0))) (lvA V L (off V r0) base)) % 2)))) (ar 9 (lastP V r1))) ok_MD_isIsolate m5_107 m5_108 rfl rfl hl.1 ⟨rfl, rfl⟩ ⟨Nat.le_of_ble_eq_true rfl, Nat.le_of_ble_eq_true rfl⟩ (Nat.le_of_ble_eq_true rfl) ⟨Nat.le_of_ble_eq_true rfl, Nat.le_of_ble_eq_true rfl⟩ d_MD_makeSequence_163 (fun r163 u163 H locs hp163 hI => ?_)
            refine q_as (y := bI (isol (ar 9 (lastP V r1)))) hp163 ?_
            refine lv_istore (lv' := [(9, .int (bI (isol (ar 9 (lastP V r1))))), (8, .int (nI (nxP V pe (off V r1 + (runAt V r1).length)))), (7, .int (nI (lvA V L (off V r0) base))), (6, .int (bk V b (off V r0))), (0, .ref (ad 0)), (1, .int (nI x)), (2, .int (nI b)), (3, .int (nI pe)), (4, .int (nI base)), (5, .int (nI (lastP V r1)))]) hx hb d_MD_makeSequence_166 hl (by decide) rfl (fun ls hl => ?_)
            refine lv_iload hx hb d_MD_makeSequence_168 (lv_at hl 1 rfl) ?_
            refine lv_iload_n hx hb d_MD_makeSequence_170 rfl (lv_at hl 7 rfl) ?_
            refine lv_icmp_ge (tgt := 179) hx hb d_MD_makeSequence_171 (by decide) (fun c171 => ?_) (fun c171 => ?_)
            · have c171 : pe ≤ nxP V pe (off V r1 + (runAt V r1).length) := (nI_leI (a := pe) (b := nxP V pe (off V r1 + (runAt V r1).length)) (by omega) (by omega)).mp c171
              have hlb9 : lvB V (ar 9) L (off V r1 + (runAt V r1).length) base = base := by unfold lvB; apply if_neg; intro z; have := nxP_ge hLp c171; omega
              refine lv_iload hx hb d_MD_makeSequence_179 (lv_at hl 8 rfl) ?_
              refine q_as (y := nI (lvB V (ar 9) L (off V r1 + (runAt V r1).length) base)) (by rw [hlb9]) ?_
              refine lv_goto (tgt := 191) hx hb d_MD_makeSequence_181 (by decide) ?_
              have hlb : lvB V (ar 9) L (off V r1 + (runAt V r1).length) base ≤ 125 := by unfold lvB; split; (rename_i q; exact (hL _ (LFn_mem q.1)).2); omega
              refine lv_istore (lv' := [(7, .int (nI (lvB V (ar 9) L (off V r1 + (runAt V r1).length) base))), (9, .int (bI (isol (ar 9 (lastP V r1))))), (8, .int (nI (nxP V pe (off V r1 + (runAt V r1).length)))), (6, .int (bk V b (off V r0))), (0, .ref (ad 0)), (1, .int (nI x)), (2, .int (nI b)), (3, .int (nI pe)), (4, .int (nI base)), (5, .int (nI (lastP V r1)))]) hx hb d_MD_makeSequence_191 hl (by decide) rfl (fun ls hl => ?_)
              refine lv_aload_n hx hb d_MD_makeSequence_193 rfl (lv_at hl 4 rfl) ?_
              refine lv_iload hx hb d_MD_makeSequence_194 (lv_at hl 0 rfl) ?_
              refine lv_aload_n hx hb d_MD_makeSequence_196 rfl (lv_at hl 4 rfl) ?_
              refine g_MD_165 M hI d_MD_makeSequence_197 ?_
              refine q_as (y := nI (L (LFn V (off V r0)))) rfl ?_
              refine lv_icmp_le (tgt := 208) hx hb d_MD_makeSequence_200 (by decide) (fun c200 => ?_) (fun c200 => ?_)
              · have c200 : lvB V (ar 9) L (off V r1 + (runAt V r1).length) base ≤ L (LFn V (off V r0)) := (nI_leI (a := lvB V (ar 9) L (off V r1 + (runAt V r1).length) base) (b := L (LFn V (off V r0))) (by omega) (by omega)).mp c200
                refine lv_aload_n hx hb d_MD_makeSequence_208 rfl (lv_at hl 4 rfl) ?_
                refine g_MD_165 M hI d_MD_makeSequence_209 ?_
                refine q_as (y := nI (L (LFn V (off V r0)))) rfl ?_
                refine q_as (y := nI (max (L (LFn V (off V r0))) (lvB V (ar 9) L (off V r1 + (runAt V r1).length) base))) (congrArg nI (by omega)) ?_
                refine q_calliS [.int (nI (max (L (LFn V (off V r0))) (lvB V (ar 9) L (off V r1 + (runAt V r1).length) base)))] M hI (c_MD_directionOf l g (mw g ad (va_up ar 18 y) (va_up (va_up (va_up fl 8 (nI ((pr ++ runAt V r1).length))) 11 (nI (L (LFn V (off V r0))))) 9 (nI ((max (L (LFn V (off V r0))) (lvA V L (off V r0) base)) % 2)))) (max (L (LFn V (off V r0))) (lvB V (ar 9) L (off V r1 + (runAt V r1).length) base)) (by omega)) ok_MD_directionOf m5_158 m5_159 rfl rfl hl.1 ⟨rfl, rfl⟩ ⟨Nat.le_of_ble_eq_true rfl, Nat.le_of_ble_eq_true rfl⟩ (Nat.le_of_ble_eq_true rfl) ⟨Nat.le_of_ble_eq_true rfl, Nat.le_of_ble_eq_true rfl⟩ d_MD_makeSequence_212 (fun r212 u212 H locs hp212 hI => ?_)
                refine q_as (y := nI ((max (L (LFn V (off V r0))) (lvB V (ar 9) L (off V r1 + (runAt V r1).length) base)) % 2)) hp212 ?_
                refine p_MD_174 M hI d_MD_makeSequence_215 (fun H locs hI => ?_)
                have hI : CI g A s (mw g ad (va_up ar 18 y) (va_up (va_up (va_up (va_up fl 8 (nI ((pr ++ runAt V r1).length))) 11 (nI (L (LFn V (off V r0))))) 9 (nI ((max (L (LFn V (off V r0))) (lvA V L (off V r0) base)) % 2))) 10 (nI ((max (L (LFn V (off V r0))) (lvB V (ar 9) L (off V r1 + (runAt V r1).length) base)) % 2)))) H locs := hI
                have hI := CI.to (w2 := mw g ad (va_up ar 18 y) (va_up (va_up (va_up (va_up fl 8 (nI (SQ V (ar 9) (ar 13) r0).length)) 11 (nI (L (LFn V (off V r0))))) 9 (nI (max (L (LFn V (off V r0))) (lvA V L (off V r0) base) % 2))) 10 (nI (max (L (LFn V (off V r0))) (lvB V (ar 9) L (off V (LR V (ar 9) (ar 13) r0) + (runAt V (LR V (ar 9) (ar 13) r0)).length) base) % 2)))) hI (by rw [hSQ, hLR] <;> rfl)
                exact hret y _ _ _ _ _ _ d_MD_makeSequence_218 hI (by rw [hSQ]; exact hy) (Nat.le_refl 0) (Nat.le_refl 0)
              · have c200 : ¬ lvB V (ar 9) L (off V r1 + (runAt V r1).length) base ≤ L (LFn V (off V r0)) := fun h => c200 ((nI_leI (a := lvB V (ar 9) L (off V r1 + (runAt V r1).length) base) (b := L (LFn V (off V r0))) (by omega) (by omega)).mpr h)
                refine lv_iload hx hb d_MD_makeSequence_203 (lv_at hl 0 rfl) ?_
                refine q_as (y := nI (max (L (LFn V (off V r0))) (lvB V (ar 9) L (off V r1 + (runAt V r1).length) base))) (congrArg nI (by omega)) ?_
                refine lv_goto (tgt := 212) hx hb d_MD_makeSequence_205 (by decide) ?_
                refine q_calliS [.int (nI (max (L (LFn V (off V r0))) (lvB V (ar 9) L (off V r1 + (runAt V r1).length) base)))] M hI (c_MD_directionOf l g (mw g ad (va_up ar 18 y) (va_up (va_up (va_up fl 8 (nI ((pr ++ runAt V r1).length))) 11 (nI (L (LFn V (off V r0))))) 9 (nI ((max (L (LFn V (off V r0))) (lvA V L (off V r0) base)) % 2)))) (max (L (LFn V (off V r0))) (lvB V (ar 9) L (off V r1 + (runAt V r1).length) base)) (by omega)) ok_MD_directionOf m5_158 m5_159 rfl rfl hl.1 ⟨rfl, rfl⟩ ⟨Nat.le_of_ble_eq_true rfl, Nat.le_of_ble_eq_true rfl⟩ (Nat.le_of_ble_eq_true rfl) ⟨Nat.le_of_ble_eq_true rfl, Nat.le_of_ble_eq_true rfl⟩ d_MD_makeSequence_212 (fun r212 u212 H locs hp212 hI => ?_)
                refine q_as (y := nI ((max (L (LFn V (off V r0))) (lvB V (ar 9) L (off V r1 + (runAt V r1).length) base)) % 2)) hp212 ?_
                refine p_MD_174 M hI d_MD_makeSequence_215 (fun H locs hI => ?_)
                have hI : CI g A s (mw g ad (va_up ar 18 y) (va_up (va_up (va_up (va_up fl 8 (nI ((pr ++ runAt V r1).length))) 11 (nI (L (LFn V (off V r0))))) 9 (nI ((max (L (LFn V (off V r0))) (lvA V L (off V r0) base)) % 2))) 10 (nI ((max (L (LFn V (off V r0))) (lvB V (ar 9) L (off V r1 + (runAt V r1).length) base)) % 2)))) H locs := hI
                have hI := CI.to (w2 := mw g ad (va_up ar 18 y) (va_up (va_up (va_up (va_up fl 8 (nI (SQ V (ar 9) (ar 13) r0).length)) 11 (nI (L (LFn V (off V r0))))) 9 (nI (max (L (LFn V (off V r0))) (lvA V L (off V r0) base) % 2))) 10 (nI (max (L (LFn V (off V r0))) (lvB V (ar 9) L (off V (LR V (ar 9) (ar 13) r0) + (runAt V (LR V (ar 9) (ar 13) r0)).length) base) % 2)))) hI (by rw [hSQ, hLR] <;> rfl)
                exact hret y _ _ _ _ _ _ d_MD_makeSequence_218 hI (by rw [hSQ]; exact hy) (Nat.le_refl 0) (Nat.le_refl 0)
            · have c171 : ¬ pe ≤ nxP V pe (off V r1 + (runAt V r1).length) := fun h => c171 ((nI_leI (a := pe) (b := nxP V pe (off V r1 + (runAt V r1).length)) (by omega) (by omega)).mpr h)
              have hz9 : off V r1 + (runAt V r1).length < tot V := (nxP_lt c171).1
              have q9 : nxP V pe (off V r1 + (runAt V r1).length) = LFn V (off V r1 + (runAt V r1).length) := (nxP_lt c171).2
              have hb9 := hLF _ hz9
              rw [q9] at hl
              refine lv_iload hx hb d_MD_makeSequence_174 (lv_at hl 0 rfl) ?_
              refine lv_if_eq (tgt := 184) hx hb d_MD_makeSequence_176 (by decide) (fun c176 => ?_) (fun c176 => ?_)
              · have c176 := bI_eq0.mp c176
                have hlb9 : lvB V (ar 9) L (off V r1 + (runAt V r1).length) base = L (LFn V (off V r1 + (runAt V r1).length)) := by unfold lvB; exact if_pos ⟨hz9, c176⟩
                refine lv_aload_n hx hb d_MD_makeSequence_184 rfl (lv_at hl 4 rfl) ?_
                refine g_MD_43 M hI d_MD_makeSequence_185 ?_
                refine lv_iload hx hb d_MD_makeSequence_188 (lv_at hl 1 rfl) ?_
                refine bl_12 M hI (LFn V (off V r1 + (runAt V r1).length)) rfl (by omega) d_MD_makeSequence_190 ?_
                refine q_as (y := nI (lvB V (ar 9) L (off V r1 + (runAt V r1).length) base)) (by rw [hlb9]; exact (hL _ (LFn_mem hz9)).1) ?_
                have hlb : lvB V (ar 9) L (off V r1 + (runAt V r1).length) base ≤ 125 := by unfold lvB; split; (rename_i q; exact (hL _ (LFn_mem q.1)).2); omega
                refine lv_istore (lv' := [(7, .int (nI (lvB V (ar 9) L (off V r1 + (runAt V r1).length) base))), (9, .int (bI (isol (ar 9 (lastP V r1))))), (8, .int (nI (LFn V (off V r1 + (runAt V r1).length)))), (6, .int (bk V b (off V r0))), (0, .ref (ad 0)), (1, .int (nI x)), (2, .int (nI b)), (3, .int (nI pe)), (4, .int (nI base)), (5, .int (nI (lastP V r1)))]) hx hb d_MD_makeSequence_191 hl (by decide) rfl (fun ls hl => ?_)
                refine lv_aload_n hx hb d_MD_makeSequence_193 rfl (lv_at hl 4 rfl) ?_
                refine lv_iload hx hb d_MD_makeSequence_194 (lv_at hl 0 rfl) ?_
                refine lv_aload_n hx hb d_MD_makeSequence_196 rfl (lv_at hl 4 rfl) ?_
                refine g_MD_165 M hI d_MD_makeSequence_197 ?_
                refine q_as (y := nI (L (LFn V (off V r0)))) rfl ?_
                refine lv_icmp_le (tgt := 208) hx hb d_MD_makeSequence_200 (by decide) (fun c200 => ?_) (fun c200 => ?_)
                · have c200 : lvB V (ar 9) L (off V r1 + (runAt V r1).length) base ≤ L (LFn V (off V r0)) := (nI_leI (a := lvB V (ar 9) L (off V r1 + (runAt V r1).length) base) (b := L (LFn V (off V r0))) (by omega) (by omega)).mp c200
                  refine lv_aload_n hx hb d_MD_makeSequence_208 rfl (lv_at hl 4 rfl) ?_
                  refine g_MD_165 M hI d_MD_makeSequence_209 ?_
                  refine q_as (y := nI (L (LFn V (off V r0)))) rfl ?_
                  refine q_as (y := nI (max (L (LFn V (off V r0))) (lvB V (ar 9) L (off V r1 + (runAt V r1).length) base))) (congrArg nI (by omega)) ?_
                  refine q_calliS [.int (nI (max (L (LFn V (off V r0))) (lvB V (ar 9) L (off V r1 + (runAt V r1).length) base)))] M hI (c_MD_directionOf l g (mw g ad (va_up ar 18 y) (va_up (va_up (va_up fl 8 (nI ((pr ++ runAt V r1).length))) 11 (nI (L (LFn V (off V r0))))) 9 (nI ((max (L (LFn V (off V r0))) (lvA V L (off V r0) base)) % 2)))) (max (L (LFn V (off V r0))) (lvB V (ar 9) L (off V r1 + (runAt V r1).length) base)) (by omega)) ok_MD_directionOf m5_158 m5_159 rfl rfl hl.1 ⟨rfl, rfl⟩ ⟨Nat.le_of_ble_eq_true rfl, Nat.le_of_ble_eq_true rfl⟩ (Nat.le_of_ble_eq_true rfl) ⟨Nat.le_of_ble_eq_true rfl, Nat.le_of_ble_eq_true rfl⟩ d_MD_makeSequence_212 (fun r212 u212 H locs hp212 hI => ?_)
                  refine q_as (y := nI ((max (L (LFn V (off V r0))) (lvB V (ar 9) L (off V r1 + (runAt V r1).length) base)) % 2)) hp212 ?_
                  refine p_MD_174 M hI d_MD_makeSequence_215 (fun H locs hI => ?_)
                  have hI : CI g A s (mw g ad (va_up ar 18 y) (va_up (va_up (va_up (va_up fl 8 (nI ((pr ++ runAt V r1).length))) 11 (nI (L (LFn V (off V r0))))) 9 (nI ((max (L (LFn V (off V r0))) (lvA V L (off V r0) base)) % 2))) 10 (nI ((max (L (LFn V (off V r0))) (lvB V (ar 9) L (off V r1 + (runAt V r1).length) base)) % 2)))) H locs := hI
                  have hI := CI.to (w2 := mw g ad (va_up ar 18 y) (va_up (va_up (va_up (va_up fl 8 (nI (SQ V (ar 9) (ar 13) r0).length)) 11 (nI (L (LFn V (off V r0))))) 9 (nI (max (L (LFn V (off V r0))) (lvA V L (off V r0) base) % 2))) 10 (nI (max (L (LFn V (off V r0))) (lvB V (ar 9) L (off V (LR V (ar 9) (ar 13) r0) + (runAt V (LR V (ar 9) (ar 13) r0)).length) base) % 2)))) hI (by rw [hSQ, hLR] <;> rfl)
                  exact hret y _ _ _ _ _ _ d_MD_makeSequence_218 hI (by rw [hSQ]; exact hy) (Nat.le_refl 0) (Nat.le_refl 0)
                · have c200 : ¬ lvB V (ar 9) L (off V r1 + (runAt V r1).length) base ≤ L (LFn V (off V r0)) := fun h => c200 ((nI_leI (a := lvB V (ar 9) L (off V r1 + (runAt V r1).length) base) (b := L (LFn V (off V r0))) (by omega) (by omega)).mpr h)
                  refine lv_iload hx hb d_MD_makeSequence_203 (lv_at hl 0 rfl) ?_
                  refine q_as (y := nI (max (L (LFn V (off V r0))) (lvB V (ar 9) L (off V r1 + (runAt V r1).length) base))) (congrArg nI (by omega)) ?_
                  refine lv_goto (tgt := 212) hx hb d_MD_makeSequence_205 (by decide) ?_
                  refine q_calliS [.int (nI (max (L (LFn V (off V r0))) (lvB V (ar 9) L (off V r1 + (runAt V r1).length) base)))] M hI (c_MD_directionOf l g (mw g ad (va_up ar 18 y) (va_up (va_up (va_up fl 8 (nI ((pr ++ runAt V r1).length))) 11 (nI (L (LFn V (off V r0))))) 9 (nI ((max (L (LFn V (off V r0))) (lvA V L (off V r0) base)) % 2)))) (max (L (LFn V (off V r0))) (lvB V (ar 9) L (off V r1 + (runAt V r1).length) base)) (by omega)) ok_MD_directionOf m5_158 m5_159 rfl rfl hl.1 ⟨rfl, rfl⟩ ⟨Nat.le_of_ble_eq_true rfl, Nat.le_of_ble_eq_true rfl⟩ (Nat.le_of_ble_eq_true rfl) ⟨Nat.le_of_ble_eq_true rfl, Nat.le_of_ble_eq_true rfl⟩ d_MD_makeSequence_212 (fun r212 u212 H locs hp212 hI => ?_)
                  refine q_as (y := nI ((max (L (LFn V (off V r0))) (lvB V (ar 9) L (off V r1 + (runAt V r1).length) base)) % 2)) hp212 ?_
                  refine p_MD_174 M hI d_MD_makeSequence_215 (fun H locs hI => ?_)
                  have hI : CI g A s (mw g ad (va_up ar 18 y) (va_up (va_up (va_up (va_up fl 8 (nI ((pr ++ runAt V r1).length))) 11 (nI (L (LFn V (off V r0))))) 9 (nI ((max (L (LFn V (off V r0))) (lvA V L (off V r0) base)) % 2))) 10 (nI ((max (L (LFn V (off V r0))) (lvB V (ar 9) L (off V r1 + (runAt V r1).length) base)) % 2)))) H locs := hI
                  have hI := CI.to (w2 := mw g ad (va_up ar 18 y) (va_up (va_up (va_up (va_up fl 8 (nI (SQ V (ar 9) (ar 13) r0).length)) 11 (nI (L (LFn V (off V r0))))) 9 (nI (max (L (LFn V (off V r0))) (lvA V L (off V r0) base) % 2))) 10 (nI (max (L (LFn V (off V r0))) (lvB V (ar 9) L (off V (LR V (ar 9) (ar 13) r0) + (runAt V (LR V (ar 9) (ar 13) r0)).length) base) % 2)))) hI (by rw [hSQ, hLR] <;> rfl)
                  exact hret y _ _ _ _ _ _ d_MD_makeSequence_218 hI (by rw [hSQ]; exact hy) (Nat.le_refl 0) (Nat.le_refl 0)
              · have c176 := bI_ne0.mp c176
                have hlb9 : lvB V (ar 9) L (off V r1 + (runAt V r1).length) base = base := by unfold lvB; apply if_neg; intro z; exact z.2 c176
                refine lv_iload hx hb d_MD_makeSequence_179 (lv_at hl 8 rfl) ?_
                refine q_as (y := nI (lvB V (ar 9) L (off V r1 + (runAt V r1).length) base)) (by rw [hlb9]) ?_
                refine lv_goto (tgt := 191) hx hb d_MD_makeSequence_181 (by decide) ?_
                have hlb : lvB V (ar 9) L (off V r1 + (runAt V r1).length) base ≤ 125 := by unfold lvB; split; (rename_i q; exact (hL _ (LFn_mem q.1)).2); omega
                refine lv_istore (lv' := [(7, .int (nI (lvB V (ar 9) L (off V r1 + (runAt V r1).length) base))), (9, .int (bI (isol (ar 9 (lastP V r1))))), (8, .int (nI (LFn V (off V r1 + (runAt V r1).length)))), (6, .int (bk V b (off V r0))), (0, .ref (ad 0)), (1, .int (nI x)), (2, .int (nI b)), (3, .int (nI pe)), (4, .int (nI base)), (5, .int (nI (lastP V r1)))]) hx hb d_MD_makeSequence_191 hl (by decide) rfl (fun ls hl => ?_)
                refine lv_aload_n hx hb d_MD_makeSequence_193 rfl (lv_at hl 4 rfl) ?_
                refine lv_iload hx hb d_MD_makeSequence_194 (lv_at hl 0 rfl) ?_
                refine lv_aload_n hx hb d_MD_makeSequence_196 rfl (lv_at hl 4 rfl) ?_
                refine g_MD_165 M hI d_MD_makeSequence_197 ?_
                refine q_as (y := nI (L (LFn V (off V r0)))) rfl ?_
                refine lv_icmp_le (tgt := 208) hx hb d_MD_makeSequence_200 (by decide) (fun c200 => ?_) (fun c200 => ?_)
                · have c200 : lvB V (ar 9) L (off V r1 + (runAt V r1).length) base ≤ L (LFn V (off V r0)) := (nI_leI (a := lvB V (ar 9) L (off V r1 + (runAt V r1).length) base) (b := L (LFn V (off V r0))) (by omega) (by omega)).mp c200
                  refine lv_aload_n hx hb d_MD_makeSequence_208 rfl (lv_at hl 4 rfl) ?_
                  refine g_MD_165 M hI d_MD_makeSequence_209 ?_
                  refine q_as (y := nI (L (LFn V (off V r0)))) rfl ?_
                  refine q_as (y := nI (max (L (LFn V (off V r0))) (lvB V (ar 9) L (off V r1 + (runAt V r1).length) base))) (congrArg nI (by omega)) ?_
                  refine q_calliS [.int (nI (max (L (LFn V (off V r0))) (lvB V (ar 9) L (off V r1 + (runAt V r1).length) base)))] M hI (c_MD_directionOf l g (mw g ad (va_up ar 18 y) (va_up (va_up (va_up fl 8 (nI ((pr ++ runAt V r1).length))) 11 (nI (L (LFn V (off V r0))))) 9 (nI ((max (L (LFn V (off V r0))) (lvA V L (off V r0) base)) % 2)))) (max (L (LFn V (off V r0))) (lvB V (ar 9) L (off V r1 + (runAt V r1).length) base)) (by omega)) ok_MD_directionOf m5_158 m5_159 rfl rfl hl.1 ⟨rfl, rfl⟩ ⟨Nat.le_of_ble_eq_true rfl, Nat.le_of_ble_eq_true rfl⟩ (Nat.le_of_ble_eq_true rfl) ⟨Nat.le_of_ble_eq_true rfl, Nat.le_of_ble_eq_true rfl⟩ d_MD_makeSequence_212 (fun r212 u212 H locs hp212 hI => ?_)
                  refine q_as (y := nI ((max (L (LFn V (off V r0))) (lvB V (ar 9) L (off V r1 + (runAt V r1).length) base)) % 2)) hp212 ?_
                  refine p_MD_174 M hI d_MD_makeSequence_215 (fun H locs hI => ?_)
                  have hI : CI g A s (mw g ad (va_up ar 18 y) (va_up (va_up (va_up (va_up fl 8 (nI ((pr ++ runAt V r1).length))) 11 (nI (L (LFn V (off V r0))))) 9 (nI ((max (L (LFn V (off V r0))) (lvA V L (off V r0) base)) % 2))) 10 (nI ((max (L (LFn V (off V r0))) (lvB V (ar 9) L (off V r1 + (runAt V r1).length) base)) % 2)))) H locs := hI
                  have hI := CI.to (w2 := mw g ad (va_up ar 18 y) (va_up (va_up (va_up (va_up fl 8 (nI (SQ V (ar 9) (ar 13) r0).length)) 11 (nI (L (LFn V (off V r0))))) 9 (nI (max (L (LFn V (off V r0))) (lvA V L (off V r0) base) % 2))) 10 (nI (max (L (LFn V (off V r0))) (lvB V (ar 9) L (off V (LR V (ar 9) (ar 13) r0) + (runAt V (LR V (ar 9) (ar 13) r0)).length) base) % 2)))) hI (by rw [hSQ, hLR] <;> rfl)
                  exact hret y _ _ _ _ _ _ d_MD_makeSequence_218 hI (by rw [hSQ]; exact hy) (Nat.le_refl 0) (Nat.le_refl 0)
                · have c200 : ¬ lvB V (ar 9) L (off V r1 + (runAt V r1).length) base ≤ L (LFn V (off V r0)) := fun h => c200 ((nI_leI (a := lvB V (ar 9) L (off V r1 + (runAt V r1).length) base) (b := L (LFn V (off V r0))) (by omega) (by omega)).mpr h)
                  refine lv_iload hx hb d_MD_makeSequence_203 (lv_at hl 0 rfl) ?_
                  refine q_as (y := nI (max (L (LFn V (off V r0))) (lvB V (ar 9) L (off V r1 + (runAt V r1).length) base))) (congrArg nI (by omega)) ?_
                  refine lv_goto (tgt := 212) hx hb d_MD_makeSequence_205 (by decide) ?_
                  refine q_calliS [.int (nI (max (L (LFn V (off V r0))) (lvB V (ar 9) L (off V r1 + (runAt V r1).length) base)))] M hI (c_MD_directionOf l g (mw g ad (va_up ar 18 y) (va_up (va_up (va_up fl 8 (nI ((pr ++ runAt V r1).length))) 11 (nI (L (LFn V (off V r0))))) 9 (nI ((max (L (LFn V (off V r0))) (lvA V L (off V r0) base)) % 2)))) (max (L (LFn V (off V r0))) (lvB V (ar 9) L (off V r1 + (runAt V r1).length) base)) (by omega)) ok_MD_directionOf m5_158 m5_159 rfl rfl hl.1 ⟨rfl, rfl⟩ ⟨Nat.le_of_ble_eq_true rfl, Nat.le_of_ble_eq_true rfl⟩ (Nat.le_of_ble_eq_true rfl) ⟨Nat.le_of_ble_eq_true rfl, Nat.le_of_ble_eq_true rfl⟩ d_MD_makeSequence_212 (fun r212 u212 H locs hp212 hI => ?_)
                  refine q_as (y := nI ((max (L (LFn V (off V r0))) (lvB V (ar 9) L (off V r1 + (runAt V r1).length) base)) % 2)) hp212 ?_
                  refine p_MD_174 M hI d_MD_makeSequence_215 (fun H locs hI => ?_)
                  have hI : CI g A s (mw g ad (va_up ar 18 y) (va_up (va_up (va_up (va_up fl 8 (nI ((pr ++ runAt V r1).length))) 11 (nI (L (LFn V (off V r0))))) 9 (nI ((max (L (LFn V (off V r0))) (lvA V L (off V r0) base)) % 2))) 10 (nI ((max (L (LFn V (off V r0))) (lvB V (ar 9) L (off V r1 + (runAt V r1).length) base)) % 2)))) H locs := hI
                  have hI := CI.to (w2 := mw g ad (va_up ar 18 y) (va_up (va_up (va_up (va_up fl 8 (nI (SQ V (ar 9) (ar 13) r0).length)) 11 (nI (L (LFn V (off V r0))))) 9 (nI (max (L (LFn V (off V r0))) (lvA V L (off V r0) base) % 2))) 10 (nI (max (L (LFn V (off V r0))) (lvB V (ar 9) L (off V (LR V (ar 9) (ar 13) r0) + (runAt V (LR V (ar 9) (ar 13) r0)).length) base) % 2)))) hI (by rw [hSQ, hLR] <;> rfl)
                  exact hret y _ _ _ _ _ _ d_MD_makeSequence_218 hI (by rw [hSQ]; exact hy) (Nat.le_refl 0) (Nat.le_refl 0)
          · have c127 : ¬ lvA V L (off V r0) base ≤ L (LFn V (off V r0)) := fun h => c127 ((nI_leI (a := lvA V L (off V r0) base) (b := L (LFn V (off V r0))) (by omega) (by omega)).mpr h)
            refine lv_iload hx hb d_MD_makeSequence_130 (lv_at hl 0 rfl) ?_
            refine q_as (y := nI (max (L (LFn V (off V r0))) (lvA V L (off V r0) base))) (congrArg nI (by omega)) ?_
            refine lv_goto (tgt := 139) hx hb d_MD_makeSequence_132 (by decide) ?_
            refine q_calliS [.int (nI (max (L (LFn V (off V r0))) (lvA V L (off V r0) base)))] M hI (c_MD_directionOf l g (mw g ad (va_up ar 18 y) (va_up (va_up fl 8 (nI ((pr ++ runAt V r1).length))) 11 (nI (L (LFn V (off V r0)))))) (max (L (LFn V (off V r0))) (lvA V L (off V r0) base)) (by omega)) ok_MD_directionOf m5_158 m5_159 rfl rfl hl.1 ⟨rfl, rfl⟩ ⟨Nat.le_of_ble_eq_true rfl, Nat.le_of_ble_eq_true rfl⟩ (Nat.le_of_ble_eq_true rfl) ⟨Nat.le_of_ble_eq_true rfl, Nat.le_of_ble_eq_true rfl⟩ d_MD_makeSequence_139 (fun r139 u139 H locs hp139 hI => ?_)
            refine q_as (y := nI ((max (L (LFn V (off V r0))) (lvA V L (off V r0) base)) % 2)) hp139 ?_
            refine p_MD_171 M hI d_MD_makeSequence_142 (fun H locs hI => ?_)
            have hI : CI g A s (mw g ad (va_up ar 18 y) (va_up (va_up (va_up fl 8 (nI ((pr ++ runAt V r1).length))) 11 (nI (L (LFn V (off V r0))))) 9 (nI ((max (L (LFn V (off V r0))) (lvA V L (off V r0) base)) % 2)))) H locs := hI
            refine lv_aload_n hx hb d_MD_makeSequence_145 rfl (lv_at hl 2 rfl) ?_
            refine lv_iload hx hb d_MD_makeSequence_146 (lv_at hl 7 rfl) ?_
            refine lv_iconst (v := 1) hx hb d_MD_makeSequence_148 (by decide) ?_
            refine lv_iadd hx hb d_MD_makeSequence_149 ?_
            refine q_as (y := nI (lastP V r1 + 1)) (nI_add (lastP V r1) 1) ?_
            refine lv_iload_n hx hb d_MD_makeSequence_150 rfl (lv_at hl 5 rfl) ?_
            refine q_calliV [.int (nI (lastP V r1 + 1)), .int (nI pe)] M hI (c_MD_leftFrom l g ad (va_up ar 18 y) (va_up (va_up (va_up fl 8 (nI ((pr ++ runAt V r1).length))) 11 (nI (L (LFn V (off V r0))))) 9 (nI ((max (L (LFn V (off V r0))) (lvA V L (off V r0) base)) % 2))) (lastP V r1 + 1) pe (by omega) (by omega)) ok_MD_leftFrom m5_154 m5_156 ms_63 0 rfl rfl rfl rfl hl.1 ⟨rfl, rfl⟩ ⟨Nat.le_of_ble_eq_true rfl, Nat.le_of_ble_eq_true rfl⟩ (Nat.le_of_ble_eq_true rfl) ⟨Nat.le_of_ble_eq_true rfl, Nat.le_of_ble_eq_true rfl⟩ d_MD_makeSequence_151 (fun r151 u151 H locs hp151 hI => ?_)
            refine q_as (y := nI (lfr (ar 12) (pe - (lastP V r1 + 1)) (lastP V r1 + 1))) hp151 ?_
            refine q_as (y := nI (nxP V pe (off V r1 + (runAt V r1).length))) (by have := nx_of hbp hs (i := off V r1 + (runAt V r1).length - 1) (by rw [← hV]; omega); rw [← hV, show off V r1 + (runAt V r1).length - 1 + 1 = off V r1 + (runAt V r1).length by omega] at this; exact congrArg nI this) ?_
            have hnb : nxP V pe (off V r1 + (runAt V r1).length) ≤ pe := nxP_le hLp
            refine lv_istore (lv' := [(8, .int (nI (nxP V pe (off V r1 + (runAt V r1).length)))), (7, .int (nI (lvA V L (off V r0) base))), (6, .int (bk V b (off V r0))), (0, .ref (ad 0)), (1, .int (nI x)), (2, .int (nI b)), (3, .int (nI pe)), (4, .int (nI base)), (5, .int (nI (lastP V r1)))]) hx hb d_MD_makeSequence_154 hl (by decide) rfl (fun ls hl => ?_)
            refine lv_aload_n hx hb d_MD_makeSequence_156 rfl (lv_at hl 3 rfl) ?_
            refine g_MD_34 M hI d_MD_makeSequence_157 ?_
            refine lv_iload hx hb d_MD_makeSequence_160 (lv_at hl 8 rfl) ?_
            refine bl_9 M hI (lastP V r1) rfl (hl1.1) d_MD_makeSequence_162 ?_
            refine q_as (y := ar 9 (lastP V r1)) rfl ?_
            refine q_calliS [.int (ar 9 (lastP V r1))] M hI (c_MD_isIsolate l g (mw g ad (va_up ar 18 y) (va_up (va_up (va_up fl 8 (nI ((pr ++ runAt V r1).length))) 11 (nI (L (LFn V (off V r0))))) 9 (nI ((max (L (LFn V (off V r0))) (lvA V L (off V r0) base)) % 2)))) (ar 9 (lastP V r1))) ok_MD_isIsolate m5_107 m5_108 rfl rfl hl.1 ⟨rfl, rfl⟩ ⟨Nat.le_of_ble_eq_true rfl, Nat.le_of_ble_eq_true rfl⟩ (Nat.le_of_ble_eq_true rfl) ⟨Nat.le_of_ble_eq_true rfl, Nat.le_of_ble_eq_true rfl⟩ d_MD_makeSequence_163 (fun r163 u163 H locs hp163 hI => ?_)
            refine q_as (y := bI (isol (ar 9 (lastP V r1)))) hp163 ?_
            refine lv_istore (lv' := [(9, .int (bI (isol (ar 9 (lastP V r1))))), (8, .int (nI (nxP V pe (off V r1 + (runAt V r1).length)))), (7, .int (nI (lvA V L (off V r0) base))), (6, .int (bk V b (off V r0))), (0, .ref (ad 0)), (1, .int (nI x)), (2, .int (nI b)), (3, .int (nI pe)), (4, .int (nI base)), (5, .int (nI (lastP V r1)))]) hx hb d_MD_makeSequence_166 hl (by decide) rfl (fun ls hl => ?_)
            refine lv_iload hx hb d_MD_makeSequence_168 (lv_at hl 1 rfl) ?_
            refine lv_iload_n hx hb d_MD_makeSequence_170 rfl (lv_at hl 7 rfl) ?_
            refine lv_icmp_ge (tgt := 179) hx hb d_MD_makeSequence_171 (by decide) (fun c171 => ?_) (fun c171 => ?_)
            · have c171 : pe ≤ nxP V pe (off V r1 + (runAt V r1).length) := (nI_leI (a := pe) (b := nxP V pe (off V r1 + (runAt V r1).length)) (by omega) (by omega)).mp c171
              have hlb9 : lvB V (ar 9) L (off V r1 + (runAt V r1).length) base = base := by unfold lvB; apply if_neg; intro z; have := nxP_ge hLp c171; omega
              refine lv_iload hx hb d_MD_makeSequence_179 (lv_at hl 8 rfl) ?_
              refine q_as (y := nI (lvB V (ar 9) L (off V r1 + (runAt V r1).length) base)) (by rw [hlb9]) ?_
              refine lv_goto (tgt := 191) hx hb d_MD_makeSequence_181 (by decide) ?_
              have hlb : lvB V (ar 9) L (off V r1 + (runAt V r1).length) base ≤ 125 := by unfold lvB; split; (rename_i q; exact (hL _ (LFn_mem q.1)).2); omega
              refine lv_istore (lv' := [(7, .int (nI (lvB V (ar 9) L (off V r1 + (runAt V r1).length) base))), (9, .int (bI (isol (ar 9 (lastP V r1))))), (8, .int (nI (nxP V pe (off V r1 + (runAt V r1).length)))), (6, .int (bk V b (off V r0))), (0, .ref (ad 0)), (1, .int (nI x)), (2, .int (nI b)), (3, .int (nI pe)), (4, .int (nI base)), (5, .int (nI (lastP V r1)))]) hx hb d_MD_makeSequence_191 hl (by decide) rfl (fun ls hl => ?_)
              refine lv_aload_n hx hb d_MD_makeSequence_193 rfl (lv_at hl 4 rfl) ?_
              refine lv_iload hx hb d_MD_makeSequence_194 (lv_at hl 0 rfl) ?_
              refine lv_aload_n hx hb d_MD_makeSequence_196 rfl (lv_at hl 4 rfl) ?_
              refine g_MD_165 M hI d_MD_makeSequence_197 ?_
              refine q_as (y := nI (L (LFn V (off V r0)))) rfl ?_
              refine lv_icmp_le (tgt := 208) hx hb d_MD_makeSequence_200 (by decide) (fun c200 => ?_) (fun c200 => ?_)
              · have c200 : lvB V (ar 9) L (off V r1 + (runAt V r1).length) base ≤ L (LFn V (off V r0)) := (nI_leI (a := lvB V (ar 9) L (off V r1 + (runAt V r1).length) base) (b := L (LFn V (off V r0))) (by omega) (by omega)).mp c200
                refine lv_aload_n hx hb d_MD_makeSequence_208 rfl (lv_at hl 4 rfl) ?_
                refine g_MD_165 M hI d_MD_makeSequence_209 ?_
                refine q_as (y := nI (L (LFn V (off V r0)))) rfl ?_
                refine q_as (y := nI (max (L (LFn V (off V r0))) (lvB V (ar 9) L (off V r1 + (runAt V r1).length) base))) (congrArg nI (by omega)) ?_
                refine q_calliS [.int (nI (max (L (LFn V (off V r0))) (lvB V (ar 9) L (off V r1 + (runAt V r1).length) base)))] M hI (c_MD_directionOf l g (mw g ad (va_up ar 18 y) (va_up (va_up (va_up fl 8 (nI ((pr ++ runAt V r1).length))) 11 (nI (L (LFn V (off V r0))))) 9 (nI ((max (L (LFn V (off V r0))) (lvA V L (off V r0) base)) % 2)))) (max (L (LFn V (off V r0))) (lvB V (ar 9) L (off V r1 + (runAt V r1).length) base)) (by omega)) ok_MD_directionOf m5_158 m5_159 rfl rfl hl.1 ⟨rfl, rfl⟩ ⟨Nat.le_of_ble_eq_true rfl, Nat.le_of_ble_eq_true rfl⟩ (Nat.le_of_ble_eq_true rfl) ⟨Nat.le_of_ble_eq_true rfl, Nat.le_of_ble_eq_true rfl⟩ d_MD_makeSequence_212 (fun r212 u212 H locs hp212 hI => ?_)
                refine q_as (y := nI ((max (L (LFn V (off V r0))) (lvB V (ar 9) L (off V r1 + (runAt V r1).length) base)) % 2)) hp212 ?_
                refine p_MD_174 M hI d_MD_makeSequence_215 (fun H locs hI => ?_)
                have hI : CI g A s (mw g ad (va_up ar 18 y) (va_up (va_up (va_up (va_up fl 8 (nI ((pr ++ runAt V r1).length))) 11 (nI (L (LFn V (off V r0))))) 9 (nI ((max (L (LFn V (off V r0))) (lvA V L (off V r0) base)) % 2))) 10 (nI ((max (L (LFn V (off V r0))) (lvB V (ar 9) L (off V r1 + (runAt V r1).length) base)) % 2)))) H locs := hI
                have hI := CI.to (w2 := mw g ad (va_up ar 18 y) (va_up (va_up (va_up (va_up fl 8 (nI (SQ V (ar 9) (ar 13) r0).length)) 11 (nI (L (LFn V (off V r0))))) 9 (nI (max (L (LFn V (off V r0))) (lvA V L (off V r0) base) % 2))) 10 (nI (max (L (LFn V (off V r0))) (lvB V (ar 9) L (off V (LR V (ar 9) (ar 13) r0) + (runAt V (LR V (ar 9) (ar 13) r0)).length) base) % 2)))) hI (by rw [hSQ, hLR] <;> rfl)
                exact hret y _ _ _ _ _ _ d_MD_makeSequence_218 hI (by rw [hSQ]; exact hy) (Nat.le_refl 0) (Nat.le_refl 0)
              · have c200 : ¬ lvB V (ar 9) L (off V r1 + (runAt V r1).length) base ≤ L (LFn V (off V r0)) := fun h => c200 ((nI_leI (a := lvB V (ar 9) L (off V r1 + (runAt V r1).length) base) (b := L (LFn V (off V r0))) (by omega) (by omega)).mpr h)
                refine lv_iload hx hb d_MD_makeSequence_203 (lv_at hl 0 rfl) ?_
                refine q_as (y := nI (max (L (LFn V (off V r0))) (lvB V (ar 9) L (off V r1 + (runAt V r1).length) base))) (congrArg nI (by omega)) ?_
                refine lv_goto (tgt := 212) hx hb d_MD_makeSequence_205 (by decide) ?_
                refine q_calliS [.int (nI (max (L (LFn V (off V r0))) (lvB V (ar 9) L (off V r1 + (runAt V r1).length) base)))] M hI (c_MD_directionOf l g (mw g ad (va_up ar 18 y) (va_up (va_up (va_up fl 8 (nI ((pr ++ runAt V r1).length))) 11 (nI (L (LFn V (off V r0))))) 9 (nI ((max (L (LFn V (off V r0))) (lvA V L (off V r0) base)) % 2)))) (max (L (LFn V (off V r0))) (lvB V (ar 9) L (off V r1 + (runAt V r1).length) base)) (by omega)) ok_MD_directionOf m5_158 m5_159 rfl rfl hl.1 ⟨rfl, rfl⟩ ⟨Nat.le_of_ble_eq_true rfl, Nat.le_of_ble_eq_true rfl⟩ (Nat.le_of_ble_eq_true rfl) ⟨Nat.le_of_ble_eq_true rfl, Nat.le_of_ble_eq_true rfl⟩ d_MD_makeSequence_212 (fun r212 u212 H locs hp212 hI => ?_)
                refine q_as (y := nI ((max (L (LFn V (off V r0))) (lvB V (ar 9) L (off V r1 + (runAt V r1).length) base)) % 2)) hp212 ?_
                refine p_MD_174 M hI d_MD_makeSequence_215 (fun H locs hI => ?_)
                have hI : CI g A s (mw g ad (va_up ar 18 y) (va_up (va_up (va_up (va_up fl 8 (nI ((pr ++ runAt V r1).length))) 11 (nI (L (LFn V (off V r0))))) 9 (nI ((max (L (LFn V (off V r0))) (lvA V L (off V r0) base)) % 2))) 10 (nI ((max (L (LFn V (off V r0))) (lvB V (ar 9) L (off V r1 + (runAt V r1).length) base)) % 2)))) H locs := hI
                have hI := CI.to (w2 := mw g ad (va_up ar 18 y) (va_up (va_up (va_up (va_up fl 8 (nI (SQ V (ar 9) (ar 13) r0).length)) 11 (nI (L (LFn V (off V r0))))) 9 (nI (max (L (LFn V (off V r0))) (lvA V L (off V r0) base) % 2))) 10 (nI (max (L (LFn V (off V r0))) (lvB V (ar 9) L (off V (LR V (ar 9) (ar 13) r0) + (runAt V (LR V (ar 9) (ar 13) r0)).length) base) % 2)))) hI (by rw [hSQ, hLR] <;> rfl)
                exact hret y _ _ _ _ _ _ d_MD_makeSequence_218 hI (by rw [hSQ]; exact hy) (Nat.le_refl 0) (Nat.le_refl 0)
            · have c171 : ¬ pe ≤ nxP V pe (off V r1 + (runAt V r1).length) := fun h => c171 ((nI_leI (a := pe) (b := nxP V pe (off V r1 + (runAt V r1).length)) (by omega) (by omega)).mpr h)
              have hz9 : off V r1 + (runAt V r1).length < tot V := (nxP_lt c171).1
              have q9 : nxP V pe (off V r1 + (runAt V r1).length) = LFn V (off V r1 + (runAt V r1).length) := (nxP_lt c171).2
              have hb9 := hLF _ hz9
              rw [q9] at hl
              refine lv_iload hx hb d_MD_makeSequence_174 (lv_at hl 0 rfl) ?_
              refine lv_if_eq (tgt := 184) hx hb d_MD_makeSequence_176 (by decide) (fun c176 => ?_) (fun c176 => ?_)
              · have c176 := bI_eq0.mp c176
                have hlb9 : lvB V (ar 9) L (off V r1 + (runAt V r1).length) base = L (LFn V (off V r1 + (runAt V r1).length)) := by unfold lvB; exact if_pos ⟨hz9, c176⟩
                refine lv_aload_n hx hb d_MD_makeSequence_184 rfl (lv_at hl 4 rfl) ?_
                refine g_MD_43 M hI d_MD_makeSequence_185 ?_
                refine lv_iload hx hb d_MD_makeSequence_188 (lv_at hl 1 rfl) ?_
                refine bl_12 M hI (LFn V (off V r1 + (runAt V r1).length)) rfl (by omega) d_MD_makeSequence_190 ?_
                refine q_as (y := nI (lvB V (ar 9) L (off V r1 + (runAt V r1).length) base)) (by rw [hlb9]; exact (hL _ (LFn_mem hz9)).1) ?_
                have hlb : lvB V (ar 9) L (off V r1 + (runAt V r1).length) base ≤ 125 := by unfold lvB; split; (rename_i q; exact (hL _ (LFn_mem q.1)).2); omega
                refine lv_istore (lv' := [(7, .int (nI (lvB V (ar 9) L (off V r1 + (runAt V r1).length) base))), (9, .int (bI (isol (ar 9 (lastP V r1))))), (8, .int (nI (LFn V (off V r1 + (runAt V r1).length)))), (6, .int (bk V b (off V r0))), (0, .ref (ad 0)), (1, .int (nI x)), (2, .int (nI b)), (3, .int (nI pe)), (4, .int (nI base)), (5, .int (nI (lastP V r1)))]) hx hb d_MD_makeSequence_191 hl (by decide) rfl (fun ls hl => ?_)
                refine lv_aload_n hx hb d_MD_makeSequence_193 rfl (lv_at hl 4 rfl) ?_
                refine lv_iload hx hb d_MD_makeSequence_194 (lv_at hl 0 rfl) ?_
                refine lv_aload_n hx hb d_MD_makeSequence_196 rfl (lv_at hl 4 rfl) ?_
                refine g_MD_165 M hI d_MD_makeSequence_197 ?_
                refine q_as (y := nI (L (LFn V (off V r0)))) rfl ?_
                refine lv_icmp_le (tgt := 208) hx hb d_MD_makeSequence_200 (by decide) (fun c200 => ?_) (fun c200 => ?_)
                · have c200 : lvB V (ar 9) L (off V r1 + (runAt V r1).length) base ≤ L (LFn V (off V r0)) := (nI_leI (a := lvB V (ar 9) L (off V r1 + (runAt V r1).length) base) (b := L (LFn V (off V r0))) (by omega) (by omega)).mp c200
                  refine lv_aload_n hx hb d_MD_makeSequence_208 rfl (lv_at hl 4 rfl) ?_
                  refine g_MD_165 M hI d_MD_makeSequence_209 ?_
                  refine q_as (y := nI (L (LFn V (off V r0)))) rfl ?_
                  refine q_as (y := nI (max (L (LFn V (off V r0))) (lvB V (ar 9) L (off V r1 + (runAt V r1).length) base))) (congrArg nI (by omega)) ?_
                  refine q_calliS [.int (nI (max (L (LFn V (off V r0))) (lvB V (ar 9) L (off V r1 + (runAt V r1).length) base)))] M hI (c_MD_directionOf l g (mw g ad (va_up ar 18 y) (va_up (va_up (va_up fl 8 (nI ((pr ++ runAt V r1).length))) 11 (nI (L (LFn V (off V r0))))) 9 (nI ((max (L (LFn V (off V r0))) (lvA V L (off V r0) base)) % 2)))) (max (L (LFn V (off V r0))) (lvB V (ar 9) L (off V r1 + (runAt V r1).length) base)) (by omega)) ok_MD_directionOf m5_158 m5_159 rfl rfl hl.1 ⟨rfl, rfl⟩ ⟨Nat.le_of_ble_eq_true rfl, Nat.le_of_ble_eq_true rfl⟩ (Nat.le_of_ble_eq_true rfl) ⟨Nat.le_of_ble_eq_true rfl, Nat.le_of_ble_eq_true rfl⟩ d_MD_makeSequence_212 (fun r212 u212 H locs hp212 hI => ?_)
                  refine q_as (y := nI ((max (L (LFn V (off V r0))) (lvB V (ar 9) L (off V r1 + (runAt V r1).length) base)) % 2)) hp212 ?_
                  refine p_MD_174 M hI d_MD_makeSequence_215 (fun H locs hI => ?_)
                  have hI : CI g A s (mw g ad (va_up ar 18 y) (va_up (va_up (va_up (va_up fl 8 (nI ((pr ++ runAt V r1).length))) 11 (nI (L (LFn V (off V r0))))) 9 (nI ((max (L (LFn V (off V r0))) (lvA V L (off V r0) base)) % 2))) 10 (nI ((max (L (LFn V (off V r0))) (lvB V (ar 9) L (off V r1 + (runAt V r1).length) base)) % 2)))) H locs := hI
                  have hI := CI.to (w2 := mw g ad (va_up ar 18 y) (va_up (va_up (va_up (va_up fl 8 (nI (SQ V (ar 9) (ar 13) r0).length)) 11 (nI (L (LFn V (off V r0))))) 9 (nI (max (L (LFn V (off V r0))) (lvA V L (off V r0) base) % 2))) 10 (nI (max (L (LFn V (off V r0))) (lvB V (ar 9) L (off V (LR V (ar 9) (ar 13) r0) + (runAt V (LR V (ar 9) (ar 13) r0)).length) base) % 2)))) hI (by rw [hSQ, hLR] <;> rfl)
                  exact hret y _ _ _ _ _ _ d_MD_makeSequence_218 hI (by rw [hSQ]; exact hy) (Nat.le_refl 0) (Nat.le_refl 0)
                · have c200 : ¬ lvB V (ar 9) L (off V r1 + (runAt V r1).length) base ≤ L (LFn V (off V r0)) := fun h => c200 ((nI_leI (a := lvB V (ar 9) L (off V r1 + (runAt V r1).length) base) (b := L (LFn V (off V r0))) (by omega) (by omega)).mpr h)
                  refine lv_iload hx hb d_MD_makeSequence_203 (lv_at hl 0 rfl) ?_
                  refine q_as (y := nI (max (L (LFn V (off V r0))) (lvB V (ar 9) L (off V r1 + (runAt V r1).length) base))) (congrArg nI (by omega)) ?_
                  refine lv_goto (tgt := 212) hx hb d_MD_makeSequence_205 (by decide) ?_
                  refine q_calliS [.int (nI (max (L (LFn V (off V r0))) (lvB V (ar 9) L (off V r1 + (runAt V r1).length) base)))] M hI (c_MD_directionOf l g (mw g ad (va_up ar 18 y) (va_up (va_up (va_up fl 8 (nI ((pr ++ runAt V r1).length))) 11 (nI (L (LFn V (off V r0))))) 9 (nI ((max (L (LFn V (off V r0))) (lvA V L (off V r0) base)) % 2)))) (max (L (LFn V (off V r0))) (lvB V (ar 9) L (off V r1 + (runAt V r1).length) base)) (by omega)) ok_MD_directionOf m5_158 m5_159 rfl rfl hl.1 ⟨rfl, rfl⟩ ⟨Nat.le_of_ble_eq_true rfl, Nat.le_of_ble_eq_true rfl⟩ (Nat.le_of_ble_eq_true rfl) ⟨Nat.le_of_ble_eq_true rfl, Nat.le_of_ble_eq_true rfl⟩ d_MD_makeSequence_212 (fun r212 u212 H locs hp212 hI => ?_)
                  refine q_as (y := nI ((max (L (LFn V (off V r0))) (lvB V (ar 9) L (off V r1 + (runAt V r1).length) base)) % 2)) hp212 ?_
                  refine p_MD_174 M hI d_MD_makeSequence_215 (fun H locs hI => ?_)
                  have hI : CI g A s (mw g ad (va_up ar 18 y) (va_up (va_up (va_up (va_up fl 8 (nI ((pr ++ runAt V r1).length))) 11 (nI (L (LFn V (off V r0))))) 9 (nI ((max (L (LFn V (off V r0))) (lvA V L (off V r0) base)) % 2))) 10 (nI ((max (L (LFn V (off V r0))) (lvB V (ar 9) L (off V r1 + (runAt V r1).length) base)) % 2)))) H locs := hI
                  have hI := CI.to (w2 := mw g ad (va_up ar 18 y) (va_up (va_up (va_up (va_up fl 8 (nI (SQ V (ar 9) (ar 13) r0).length)) 11 (nI (L (LFn V (off V r0))))) 9 (nI (max (L (LFn V (off V r0))) (lvA V L (off V r0) base) % 2))) 10 (nI (max (L (LFn V (off V r0))) (lvB V (ar 9) L (off V (LR V (ar 9) (ar 13) r0) + (runAt V (LR V (ar 9) (ar 13) r0)).length) base) % 2)))) hI (by rw [hSQ, hLR] <;> rfl)
                  exact hret y _ _ _ _ _ _ d_MD_makeSequence_218 hI (by rw [hSQ]; exact hy) (Nat.le_refl 0) (Nat.le_refl 0)
              · have c176 := bI_ne0.mp c176
                have hlb9 : lvB V (ar 9) L (off V r1 + (runAt V r1).length) base = base := by unfold lvB; apply if_neg; intro z; exact z.2 c176
                refine lv_iload hx hb d_MD_makeSequence_179 (lv_at hl 8 rfl) ?_
                refine q_as (y := nI (lvB V (ar 9) L (off V r1 + (runAt V r1).length) base)) (by rw [hlb9]) ?_
                refine lv_goto (tgt := 191) hx hb d_MD_makeSequence_181 (by decide) ?_
                have hlb : lvB V (ar 9) L (off V r1 + (runAt V r1).length) base ≤ 125 := by unfold lvB; split; (rename_i q; exact (hL _ (LFn_mem q.1)).2); omega
                refine lv_istore (lv' := [(7, .int (nI (lvB V (ar 9) L (off V r1 + (runAt V r1).length) base))), (9, .int (bI (isol (ar 9 (lastP V r1))))), (8, .int (nI (LFn V (off V r1 + (runAt V r1).length)))), (6, .int (bk V b (off V r0))), (0, .ref (ad 0)), (1, .int (nI x)), (2, .int (nI b)), (3, .int (nI pe)), (4, .int (nI base)), (5, .int (nI (lastP V r1)))]) hx hb d_MD_makeSequence_191 hl (by decide) rfl (fun ls hl => ?_)
                refine lv_aload_n hx hb d_MD_makeSequence_193 rfl (lv_at hl 4 rfl) ?_
                refine lv_iload hx hb d_MD_makeSequence_194 (lv_at hl 0 rfl) ?_
                refine lv_aload_n hx hb d_MD_makeSequence_196 rfl (lv_at hl 4 rfl) ?_
                refine g_MD_165 M hI d_MD_makeSequence_197 ?_
                refine q_as (y := nI (L (LFn V (off V r0)))) rfl ?_
                refine lv_icmp_le (tgt := 208) hx hb d_MD_makeSequence_200 (by decide) (fun c200 => ?_) (fun c200 => ?_)
                · have c200 : lvB V (ar 9) L (off V r1 + (runAt V r1).length) base ≤ L (LFn V (off V r0)) := (nI_leI (a := lvB V (ar 9) L (off V r1 + (runAt V r1).length) base) (b := L (LFn V (off V r0))) (by omega) (by omega)).mp c200
                  refine lv_aload_n hx hb d_MD_makeSequence_208 rfl (lv_at hl 4 rfl) ?_
                  refine g_MD_165 M hI d_MD_makeSequence_209 ?_
                  refine q_as (y := nI (L (LFn V (off V r0)))) rfl ?_
                  refine q_as (y := nI (max (L (LFn V (off V r0))) (lvB V (ar 9) L (off V r1 + (runAt V r1).length) base))) (congrArg nI (by omega)) ?_
                  refine q_calliS [.int (nI (max (L (LFn V (off V r0))) (lvB V (ar 9) L (off V r1 + (runAt V r1).length) base)))] M hI (c_MD_directionOf l g (mw g ad (va_up ar 18 y) (va_up (va_up (va_up fl 8 (nI ((pr ++ runAt V r1).length))) 11 (nI (L (LFn V (off V r0))))) 9 (nI ((max (L (LFn V (off V r0))) (lvA V L (off V r0) base)) % 2)))) (max (L (LFn V (off V r0))) (lvB V (ar 9) L (off V r1 + (runAt V r1).length) base)) (by omega)) ok_MD_directionOf m5_158 m5_159 rfl rfl hl.1 ⟨rfl, rfl⟩ ⟨Nat.le_of_ble_eq_true rfl, Nat.le_of_ble_eq_true rfl⟩ (Nat.le_of_ble_eq_true rfl) ⟨Nat.le_of_ble_eq_true rfl, Nat.le_of_ble_eq_true rfl⟩ d_MD_makeSequence_212 (fun r212 u212 H locs hp212 hI => ?_)
                  refine q_as (y := nI ((max (L (LFn V (off V r0))) (lvB V (ar 9) L (off V r1 + (runAt V r1).length) base)) % 2)) hp212 ?_
                  refine p_MD_174 M hI d_MD_makeSequence_215 (fun H locs hI => ?_)
                  have hI : CI g A s (mw g ad (va_up ar 18 y) (va_up (va_up (va_up (va_up fl 8 (nI ((pr ++ runAt V r1).length))) 11 (nI (L (LFn V (off V r0))))) 9 (nI ((max (L (LFn V (off V r0))) (lvA V L (off V r0) base)) % 2))) 10 (nI ((max (L (LFn V (off V r0))) (lvB V (ar 9) L (off V r1 + (runAt V r1).length) base)) % 2)))) H locs := hI
                  have hI := CI.to (w2 := mw g ad (va_up ar 18 y) (va_up (va_up (va_up (va_up fl 8 (nI (SQ V (ar 9) (ar 13) r0).length)) 11 (nI (L (LFn V (off V r0))))) 9 (nI (max (L (LFn V (off V r0))) (lvA V L (off V r0) base) % 2))) 10 (nI (max (L (LFn V (off V r0))) (lvB V (ar 9) L (off V (LR V (ar 9) (ar 13) r0) + (runAt V (LR V (ar 9) (ar 13) r0)).length) base) % 2)))) hI (by rw [hSQ, hLR] <;> rfl)
                  exact hret y _ _ _ _ _ _ d_MD_makeSequence_218 hI (by rw [hSQ]; exact hy) (Nat.le_refl 0) (Nat.le_refl 0)
                · have c200 : ¬ lvB V (ar 9) L (off V r1 + (runAt V r1).length) base ≤ L (LFn V (off V r0)) := fun h => c200 ((nI_leI (a := lvB V (ar 9) L (off V r1 + (runAt V r1).length) base) (b := L (LFn V (off V r0))) (by omega) (by omega)).mpr h)
                  refine lv_iload hx hb d_MD_makeSequence_203 (lv_at hl 0 rfl) ?_
                  refine q_as (y := nI (max (L (LFn V (off V r0))) (lvB V (ar 9) L (off V r1 + (runAt V r1).length) base))) (congrArg nI (by omega)) ?_
                  refine lv_goto (tgt := 212) hx hb d_MD_makeSequence_205 (by decide) ?_
                  refine q_calliS [.int (nI (max (L (LFn V (off V r0))) (lvB V (ar 9) L (off V r1 + (runAt V r1).length) base)))] M hI (c_MD_directionOf l g (mw g ad (va_up ar 18 y) (va_up (va_up (va_up fl 8 (nI ((pr ++ runAt V r1).length))) 11 (nI (L (LFn V (off V r0))))) 9 (nI ((max (L (LFn V (off V r0))) (lvA V L (off V r0) base)) % 2)))) (max (L (LFn V (off V r0))) (lvB V (ar 9) L (off V r1 + (runAt V r1).length) base)) (by omega)) ok_MD_directionOf m5_158 m5_159 rfl rfl hl.1 ⟨rfl, rfl⟩ ⟨Nat.le_of_ble_eq_true rfl, Nat.le_of_ble_eq_true rfl⟩ (Nat.le_of_ble_eq_true rfl) ⟨Nat.le_of_ble_eq_true rfl, Nat.le_of_ble_eq_true rfl⟩ d_MD_makeSequence_212 (fun r212 u212 H locs hp212 hI => ?_)
                  refine q_as (y := nI ((max (L (LFn V (off V r0))) (lvB V (ar 9) L (off V r1 + (runAt V r1).length) base)) % 2)) hp212 ?_
                  refine p_MD_174 M hI d_MD_makeSequence_215 (fun H locs hI => ?_)
                  have hI : CI g A s (mw g ad (va_up ar 18 y) (va_up (va_up (va_up (va_up fl 8 (nI ((pr ++ runAt V r1).length))) 11 (nI (L (LFn V (off V r0))))) 9 (nI ((max (L (LFn V (off V r0))) (lvA V L (off V r0) base)) % 2))) 10 (nI ((max (L (LFn V (off V r0))) (lvB V (ar 9) L (off V r1 + (runAt V r1).length) base)) % 2)))) H locs := hI
                  have hI := CI.to (w2 := mw g ad (va_up ar 18 y) (va_up (va_up (va_up (va_up fl 8 (nI (SQ V (ar 9) (ar 13) r0).length)) 11 (nI (L (LFn V (off V r0))))) 9 (nI (max (L (LFn V (off V r0))) (lvA V L (off V r0) base) % 2))) 10 (nI (max (L (LFn V (off V r0))) (lvB V (ar 9) L (off V (LR V (ar 9) (ar 13) r0) + (runAt V (LR V (ar 9) (ar 13) r0)).length) base) % 2)))) hI (by rw [hSQ, hLR] <;> rfl)
                  exact hret y _ _ _ _ _ _ d_MD_makeSequence_218 hI (by rw [hSQ]; exact hy) (Nat.le_refl 0) (Nat.le_refl 0)
      · have c35 := bI_ne0.mp c35
        refine lv_aload_n hx hb d_MD_makeSequence_38 rfl (lv_at hl 0 rfl) ?_
        refine g_MD_46 M hI d_MD_makeSequence_39 ?_
        refine lv_iload hx hb d_MD_makeSequence_42 (lv_at hl 5 rfl) ?_
        refine bl_13 M hI (lastP V r1) rfl (hl1.1) d_MD_makeSequence_44 ?_
        refine q_as (y := ar 13 (lastP V r1)) rfl ?_
        refine lv_if_lt (tgt := 77) hx hb d_MD_makeSequence_45 (by decide) (fun c45 => ?_) (fun c45 => ?_)
        · have hng : ¬ goes V (ar 9) (ar 13) r1 := fun z => by have := (okM_tn hmt hl1.1 z.2).1; rw [this] at c45; exact nI_pos (by have := (okM_tn hmt hl1.1 z.2).2; omega) c45
          have hSQ : SQ V (ar 9) (ar 13) r0 = pr ++ runAt V r1 := by rw [← hsq, SQ_eq hi hr1, if_neg hng, List.append_nil]
          have hLR : LR V (ar 9) (ar 13) r0 = r1 := by rw [← hlr, LR_eq hi hr1, if_neg hng]
          have hx2 : x < 2000 := by rw [hx9]; exact hP0.2
          have hsf := SQ_first hv hi hr0 (fst := ar 9) (mt := ar 13)
          refine lv_aload_n hx hb d_MD_makeSequence_77 rfl (lv_at hl 0 rfl) ?_
          refine lv_aload_n hx hb d_MD_makeSequence_78 rfl (lv_at hl 0 rfl) ?_
          refine g_MD_43 M hI d_MD_makeSequence_79 ?_
          refine lv_iload_n hx hb d_MD_makeSequence_82 rfl (lv_at hl 1 rfl) ?_
          refine bl_12 M hI x rfl (by omega) d_MD_makeSequence_83 ?_
          refine q_as (y := nI (L (LFn V (off V r0)))) (by rw [hx9]; exact hL0.1) ?_
          refine p_MD_165 M hI d_MD_makeSequence_84 (fun H locs hI => ?_)
          have hI : CI g A s (mw g ad (va_up ar 18 y) (va_up (va_up fl 8 (nI ((pr ++ runAt V r1).length))) 11 (nI (L (LFn V (off V r0)))))) H locs := hI
          refine lv_aload_n hx hb d_MD_makeSequence_87 rfl (lv_at hl 0 rfl) ?_
          refine lv_aload_n hx hb d_MD_makeSequence_88 rfl (lv_at hl 0 rfl) ?_
          refine g_MD_62 M hI d_MD_makeSequence_89 ?_
          refine lv_iconst (v := 0) hx hb d_MD_makeSequence_92 (by decide) ?_
          refine bl_18 M hI 0 rfl (by omega) d_MD_makeSequence_93 ?_
          refine q_as (y := nI (LFn V (off V r0))) (by rw [← hsf.1]; exact (hSQ ▸ hy) 0 hsf.2) ?_
          refine lv_iload_n hx hb d_MD_makeSequence_94 rfl (lv_at hl 2 rfl) ?_
          refine q_calliV [.int (nI (LFn V (off V r0))), .int (nI b)] M hI (c_MD_leftBefore l g ad (va_up ar 18 y) (va_up (va_up fl 8 (nI ((pr ++ runAt V r1).length))) 11 (nI (L (LFn V (off V r0))))) (LFn V (off V r0)) b (by omega) (by omega)) ok_MD_leftBefore m5_142 m5_144 ms_60 0 rfl rfl rfl rfl hl.1 ⟨rfl, rfl⟩ ⟨Nat.le_of_ble_eq_true rfl, Nat.le_of_ble_eq_true rfl⟩ (Nat.le_of_ble_eq_true rfl) ⟨Nat.le_of_ble_eq_true rfl, Nat.le_of_ble_eq_true rfl⟩ d_MD_makeSequence_95 (fun r95 u95 H locs hp95 hI => ?_)
          refine q_as (y := nI (lbZ (ar 12) b (LFn V (off V r0))) - 1) hp95 ?_
          refine q_as (y := bk V b (off V r0)) (by subst hV; exact bk_of hbp hs (by omega)) ?_
          refine lv_istore (lv' := [(6, .int (bk V b (off V r0))), (0, .ref (ad 0)), (1, .int (nI x)), (2, .int (nI b)), (3, .int (nI pe)), (4, .int (nI base)), (5, .int (nI (lastP V r1)))]) hx hb d_MD_makeSequence_98 hl (by decide) rfl (fun ls hl => ?_)
          refine lv_iload hx hb d_MD_makeSequence_100 (lv_at hl 0 rfl) ?_
          refine lv_iload_n hx hb d_MD_makeSequence_102 rfl (lv_at hl 3 rfl) ?_
          refine lv_icmp_ge (tgt := 111) hx hb d_MD_makeSequence_103 (by decide) (fun c103 => ?_) (fun c103 => ?_)
          · have hbk := bk_ge (V := V) (i := off V r0) (b := b) (by omega) (Int32.not_lt.mpr c103)
            have hbi := hLF (off V r0 - 1) (by omega)
            rw [hbk.2] at hl
            refine lv_aload_n hx hb d_MD_makeSequence_111 rfl (lv_at hl 1 rfl) ?_
            refine g_MD_43 M hI d_MD_makeSequence_112 ?_
            refine lv_iload hx hb d_MD_makeSequence_115 (lv_at hl 0 rfl) ?_
            refine bl_12 M hI (LFn V (off V r0 - 1)) rfl (by omega) d_MD_makeSequence_117 ?_
            refine q_as (y := nI (lvA V L (off V r0) base)) (by unfold lvA; rw [if_pos hbk.1]; exact (hL _ (LFn_mem (by omega))).1) ?_
            have hla : lvA V L (off V r0) base ≤ 125 := by unfold lvA; split; exact (hL _ (LFn_mem (by omega))).2; omega
            have hl0 := hL0.2
            refine lv_istore (lv' := [(7, .int (nI (lvA V L (off V r0) base))), (6, .int (nI (LFn V (off V r0 - 1)))), (0, .ref (ad 0)), (1, .int (nI x)), (2, .int (nI b)), (3, .int (nI pe)), (4, .int (nI base)), (5, .int (nI (lastP V r1)))]) hx hb d_MD_makeSequence_118 hl (by decide) rfl (fun ls hl => ?_)
            refine lv_aload_n hx hb d_MD_makeSequence_120 rfl (lv_at hl 2 rfl) ?_
            refine lv_iload hx hb d_MD_makeSequence_121 (lv_at hl 0 rfl) ?_
            refine lv_aload_n hx hb d_MD_makeSequence_123 rfl (lv_at hl 2 rfl) ?_
            refine g_MD_165 M hI d_MD_makeSequence_124 ?_
            refine q_as (y := nI (L (LFn V (off V r0)))) rfl ?_
            refine lv_icmp_le (tgt := 135) hx hb d_MD_makeSequence_127 (by decide) (fun c127 => ?_) (fun c127 => ?_)
            · have c127 : lvA V L (off V r0) base ≤ L (LFn V (off V r0)) := (nI_leI (a := lvA V L (off V r0) base) (b := L (LFn V (off V r0))) (by omega) (by omega)).mp c127
              refine lv_aload_n hx hb d_MD_makeSequence_135 rfl (lv_at hl 2 rfl) ?_
              refine g_MD_165 M hI d_MD_makeSequence_136 ?_
              refine q_as (y := nI (L (LFn V (off V r0)))) rfl ?_
              refine q_as (y := nI (max (L (LFn V (off V r0))) (lvA V L (off V r0) base))) (congrArg nI (by omega)) ?_
              refine q_calliS [.int (nI (max (L (LFn V (off V r0))) (lvA V L (off V r0) base)))] M hI (c_MD_directionOf l g (mw g ad (va_up ar 18 y) (va_up (va_up fl 8 (nI ((pr ++ runAt V r1).length))) 11 (nI (L (LFn V (off V r0)))))) (max (L (LFn V (off V r0))) (lvA V L (off V r0) base)) (by omega)) ok_MD_directionOf m5_158 m5_159 rfl rfl hl.1 ⟨rfl, rfl⟩ ⟨Nat.le_of_ble_eq_true rfl, Nat.le_of_ble_eq_true rfl⟩ (Nat.le_of_ble_eq_true rfl) ⟨Nat.le_of_ble_eq_true rfl, Nat.le_of_ble_eq_true rfl⟩ d_MD_makeSequence_139 (fun r139 u139 H locs hp139 hI => ?_)
              refine q_as (y := nI ((max (L (LFn V (off V r0))) (lvA V L (off V r0) base)) % 2)) hp139 ?_
              refine p_MD_171 M hI d_MD_makeSequence_142 (fun H locs hI => ?_)
              have hI : CI g A s (mw g ad (va_up ar 18 y) (va_up (va_up (va_up fl 8 (nI ((pr ++ runAt V r1).length))) 11 (nI (L (LFn V (off V r0))))) 9 (nI ((max (L (LFn V (off V r0))) (lvA V L (off V r0) base)) % 2)))) H locs := hI
              refine lv_aload_n hx hb d_MD_makeSequence_145 rfl (lv_at hl 2 rfl) ?_
              refine lv_iload hx hb d_MD_makeSequence_146 (lv_at hl 7 rfl) ?_
              refine lv_iconst (v := 1) hx hb d_MD_makeSequence_148 (by decide) ?_
              refine lv_iadd hx hb d_MD_makeSequence_149 ?_
              refine q_as (y := nI (lastP V r1 + 1)) (nI_add (lastP V r1) 1) ?_
              refine lv_iload_n hx hb d_MD_makeSequence_150 rfl (lv_at hl 5 rfl) ?_
              refine q_calliV [.int (nI (lastP V r1 + 1)), .int (nI pe)] M hI (c_MD_leftFrom l g ad (va_up ar 18 y) (va_up (va_up (va_up fl 8 (nI ((pr ++ runAt V r1).length))) 11 (nI (L (LFn V (off V r0))))) 9 (nI ((max (L (LFn V (off V r0))) (lvA V L (off V r0) base)) % 2))) (lastP V r1 + 1) pe (by omega) (by omega)) ok_MD_leftFrom m5_154 m5_156 ms_63 0 rfl rfl rfl rfl hl.1 ⟨rfl, rfl⟩ ⟨Nat.le_of_ble_eq_true rfl, Nat.le_of_ble_eq_true rfl⟩ (Nat.le_of_ble_eq_true rfl) ⟨Nat.le_of_ble_eq_true rfl, Nat.le_of_ble_eq_true rfl⟩ d_MD_makeSequence_151 (fun r151 u151 H locs hp151 hI => ?_)
              refine q_as (y := nI (lfr (ar 12) (pe - (lastP V r1 + 1)) (lastP V r1 + 1))) hp151 ?_
              refine q_as (y := nI (nxP V pe (off V r1 + (runAt V r1).length))) (by have := nx_of hbp hs (i := off V r1 + (runAt V r1).length - 1) (by rw [← hV]; omega); rw [← hV, show off V r1 + (runAt V r1).length - 1 + 1 = off V r1 + (runAt V r1).length by omega] at this; exact congrArg nI this) ?_
              have hnb : nxP V pe (off V r1 + (runAt V r1).length) ≤ pe := nxP_le hLp
              refine lv_istore (lv' := [(8, .int (nI (nxP V pe (off V r1 + (runAt V r1).length)))), (7, .int (nI (lvA V L (off V r0) base))), (6, .int (nI (LFn V (off V r0 - 1)))), (0, .ref (ad 0)), (1, .int (nI x)), (2, .int (nI b)), (3, .int (nI pe)), (4, .int (nI base)), (5, .int (nI (lastP V r1)))]) hx hb d_MD_makeSequence_154 hl (by decide) rfl (fun ls hl => ?_)
              refine lv_aload_n hx hb d_MD_makeSequence_156 rfl (lv_at hl 3 rfl) ?_
              refine g_MD_34 M hI d_MD_makeSequence_157 ?_
              refine lv_iload hx hb d_MD_makeSequence_160 (lv_at hl 8 rfl) ?_
              refine bl_9 M hI (lastP V r1) rfl (hl1.1) d_MD_makeSequence_162 ?_
              refine q_as (y := ar 9 (lastP V r1)) rfl ?_
              refine q_calliS [.int (ar 9 (lastP V r1))] M hI (c_MD_isIsolate l g (mw g ad (va_up ar 18 y) (va_up (va_up (va_up fl 8 (nI ((pr ++ runAt V r1).length))) 11 (nI (L (LFn V (off V r0))))) 9 (nI ((max (L (LFn V (off V r0))) (lvA V L (off V r0) base)) % 2)))) (ar 9 (lastP V r1))) ok_MD_isIsolate m5_107 m5_108 rfl rfl hl.1 ⟨rfl, rfl⟩ ⟨Nat.le_of_ble_eq_true rfl, Nat.le_of_ble_eq_true rfl⟩ (Nat.le_of_ble_eq_true rfl) ⟨Nat.le_of_ble_eq_true rfl, Nat.le_of_ble_eq_true rfl⟩ d_MD_makeSequence_163 (fun r163 u163 H locs hp163 hI => ?_)
              refine q_as (y := bI (isol (ar 9 (lastP V r1)))) hp163 ?_
              refine lv_istore (lv' := [(9, .int (bI (isol (ar 9 (lastP V r1))))), (8, .int (nI (nxP V pe (off V r1 + (runAt V r1).length)))), (7, .int (nI (lvA V L (off V r0) base))), (6, .int (nI (LFn V (off V r0 - 1)))), (0, .ref (ad 0)), (1, .int (nI x)), (2, .int (nI b)), (3, .int (nI pe)), (4, .int (nI base)), (5, .int (nI (lastP V r1)))]) hx hb d_MD_makeSequence_166 hl (by decide) rfl (fun ls hl => ?_)
              refine lv_iload hx hb d_MD_makeSequence_168 (lv_at hl 1 rfl) ?_
              refine lv_iload_n hx hb d_MD_makeSequence_170 rfl (lv_at hl 7 rfl) ?_
              refine lv_icmp_ge (tgt := 179) hx hb d_MD_makeSequence_171 (by decide) (fun c171 => ?_) (fun c171 => ?_)
              · have c171 : pe ≤ nxP V pe (off V r1 + (runAt V r1).length) := (nI_leI (a := pe) (b := nxP V pe (off V r1 + (runAt V r1).length)) (by omega) (by omega)).mp c171
                have hlb9 : lvB V (ar 9) L (off V r1 + (runAt V r1).length) base = base := by unfold lvB; apply if_neg; intro z; have := nxP_ge hLp c171; omega
                refine lv_iload hx hb d_MD_makeSequence_179 (lv_at hl 8 rfl) ?_
                refine q_as (y := nI (lvB V (ar 9) L (off V r1 + (runAt V r1).length) base)) (by rw [hlb9]) ?_
                refine lv_goto (tgt := 191) hx hb d_MD_makeSequence_181 (by decide) ?_
                have hlb : lvB V (ar 9) L (off V r1 + (runAt V r1).length) base ≤ 125 := by unfold lvB; split; (rename_i q; exact (hL _ (LFn_mem q.1)).2); omega
                refine lv_istore (lv' := [(7, .int (nI (lvB V (ar 9) L (off V r1 + (runAt V r1).length) base))), (9, .int (bI (isol (ar 9 (lastP V r1))))), (8, .int (nI (nxP V pe (off V r1 + (runAt V r1).length)))), (6, .int (nI (LFn V (off V r0 - 1)))), (0, .ref (ad 0)), (1, .int (nI x)), (2, .int (nI b)), (3, .int (nI pe)), (4, .int (nI base)), (5, .int (nI (lastP V r1)))]) hx hb d_MD_makeSequence_191 hl (by decide) rfl (fun ls hl => ?_)
                refine lv_aload_n hx hb d_MD_makeSequence_193 rfl (lv_at hl 4 rfl) ?_
                refine lv_iload hx hb d_MD_makeSequence_194 (lv_at hl 0 rfl) ?_
                refine lv_aload_n hx hb d_MD_makeSequence_196 rfl (lv_at hl 4 rfl) ?_
                refine g_MD_165 M hI d_MD_makeSequence_197 ?_
                refine q_as (y := nI (L (LFn V (off V r0)))) rfl ?_
                refine lv_icmp_le (tgt := 208) hx hb d_MD_makeSequence_200 (by decide) (fun c200 => ?_) (fun c200 => ?_)
                · have c200 : lvB V (ar 9) L (off V r1 + (runAt V r1).length) base ≤ L (LFn V (off V r0)) := (nI_leI (a := lvB V (ar 9) L (off V r1 + (runAt V r1).length) base) (b := L (LFn V (off V r0))) (by omega) (by omega)).mp c200
                  refine lv_aload_n hx hb d_MD_makeSequence_208 rfl (lv_at hl 4 rfl) ?_
                  refine g_MD_165 M hI d_MD_makeSequence_209 ?_
                  refine q_as (y := nI (L (LFn V (off V r0)))) rfl ?_
                  refine q_as (y := nI (max (L (LFn V (off V r0))) (lvB V (ar 9) L (off V r1 + (runAt V r1).length) base))) (congrArg nI (by omega)) ?_
                  refine q_calliS [.int (nI (max (L (LFn V (off V r0))) (lvB V (ar 9) L (off V r1 + (runAt V r1).length) base)))] M hI (c_MD_directionOf l g (mw g ad (va_up ar 18 y) (va_up (va_up (va_up fl 8 (nI ((pr ++ runAt V r1).length))) 11 (nI (L (LFn V (off V r0))))) 9 (nI ((max (L (LFn V (off V r0))) (lvA V L (off V r0) base)) % 2)))) (max (L (LFn V (off V r0))) (lvB V (ar 9) L (off V r1 + (runAt V r1).length) base)) (by omega)) ok_MD_directionOf m5_158 m5_159 rfl rfl hl.1 ⟨rfl, rfl⟩ ⟨Nat.le_of_ble_eq_true rfl, Nat.le_of_ble_eq_true rfl⟩ (Nat.le_of_ble_eq_true rfl) ⟨Nat.le_of_ble_eq_true rfl, Nat.le_of_ble_eq_true rfl⟩ d_MD_makeSequence_212 (fun r212 u212 H locs hp212 hI => ?_)
                  refine q_as (y := nI ((max (L (LFn V (off V r0))) (lvB V (ar 9) L (off V r1 + (runAt V r1).length) base)) % 2)) hp212 ?_
                  refine p_MD_174 M hI d_MD_makeSequence_215 (fun H locs hI => ?_)
                  have hI : CI g A s (mw g ad (va_up ar 18 y) (va_up (va_up (va_up (va_up fl 8 (nI ((pr ++ runAt V r1).length))) 11 (nI (L (LFn V (off V r0))))) 9 (nI ((max (L (LFn V (off V r0))) (lvA V L (off V r0) base)) % 2))) 10 (nI ((max (L (LFn V (off V r0))) (lvB V (ar 9) L (off V r1 + (runAt V r1).length) base)) % 2)))) H locs := hI
                  have hI := CI.to (w2 := mw g ad (va_up ar 18 y) (va_up (va_up (va_up (va_up fl 8 (nI (SQ V (ar 9) (ar 13) r0).length)) 11 (nI (L (LFn V (off V r0))))) 9 (nI (max (L (LFn V (off V r0))) (lvA V L (off V r0) base) % 2))) 10 (nI (max (L (LFn V (off V r0))) (lvB V (ar 9) L (off V (LR V (ar 9) (ar 13) r0) + (runAt V (LR V (ar 9) (ar 13) r0)).length) base) % 2)))) hI (by rw [hSQ, hLR] <;> rfl)
                  exact hret y _ _ _ _ _ _ d_MD_makeSequence_218 hI (by rw [hSQ]; exact hy) (Nat.le_refl 0) (Nat.le_refl 0)
                · have c200 : ¬ lvB V (ar 9) L (off V r1 + (runAt V r1).length) base ≤ L (LFn V (off V r0)) := fun h => c200 ((nI_leI (a := lvB V (ar 9) L (off V r1 + (runAt V r1).length) base) (b := L (LFn V (off V r0))) (by omega) (by omega)).mpr h)
                  refine lv_iload hx hb d_MD_makeSequence_203 (lv_at hl 0 rfl) ?_
                  refine q_as (y := nI (max (L (LFn V (off V r0))) (lvB V (ar 9) L (off V r1 + (runAt V r1).length) base))) (congrArg nI (by omega)) ?_
                  refine lv_goto (tgt := 212) hx hb d_MD_makeSequence_205 (by decide) ?_
                  refine q_calliS [.int (nI (max (L (LFn V (off V r0))) (lvB V (ar 9) L (off V r1 + (runAt V r1).length) base)))] M hI (c_MD_directionOf l g (mw g ad (va_up ar 18 y) (va_up (va_up (va_up fl 8 (nI ((pr ++ runAt V r1).length))) 11 (nI (L (LFn V (off V r0))))) 9 (nI ((max (L (LFn V (off V r0))) (lvA V L (off V r0) base)) % 2)))) (max (L (LFn V (off V r0))) (lvB V (ar 9) L (off V r1 + (runAt V r1).length) base)) (by omega)) ok_MD_directionOf m5_158 m5_159 rfl rfl hl.1 ⟨rfl, rfl⟩ ⟨Nat.le_of_ble_eq_true rfl, Nat.le_of_ble_eq_true rfl⟩ (Nat.le_of_ble_eq_true rfl) ⟨Nat.le_of_ble_eq_true rfl, Nat.le_of_ble_eq_true rfl⟩ d_MD_makeSequence_212 (fun r212 u212 H locs hp212 hI => ?_)
                  refine q_as (y := nI ((max (L (LFn V (off V r0))) (lvB V (ar 9) L (off V r1 + (runAt V r1).length) base)) % 2)) hp212 ?_
                  refine p_MD_174 M hI d_MD_makeSequence_215 (fun H locs hI => ?_)
                  have hI : CI g A s (mw g ad (va_up ar 18 y) (va_up (va_up (va_up (va_up fl 8 (nI ((pr ++ runAt V r1).length))) 11 (nI (L (LFn V (off V r0))))) 9 (nI ((max (L (LFn V (off V r0))) (lvA V L (off V r0) base)) % 2))) 10 (nI ((max (L (LFn V (off V r0))) (lvB V (ar 9) L (off V r1 + (runAt V r1).length) base)) % 2)))) H locs := hI
                  have hI := CI.to (w2 := mw g ad (va_up ar 18 y) (va_up (va_up (va_up (va_up fl 8 (nI (SQ V (ar 9) (ar 13) r0).length)) 11 (nI (L (LFn V (off V r0))))) 9 (nI (max (L (LFn V (off V r0))) (lvA V L (off V r0) base) % 2))) 10 (nI (max (L (LFn V (off V r0))) (lvB V (ar 9) L (off V (LR V (ar 9) (ar 13) r0) + (runAt V (LR V (ar 9) (ar 13) r0)).length) base) % 2)))) hI (by rw [hSQ, hLR] <;> rfl)
                  exact hret y _ _ _ _ _ _ d_MD_makeSequence_218 hI (by rw [hSQ]; exact hy) (Nat.le_refl 0) (Nat.le_refl 0)
              · have c171 : ¬ pe ≤ nxP V pe (off V r1 + (runAt V r1).length) := fun h => c171 ((nI_leI (a := pe) (b := nxP V pe (off V r1 + (runAt V r1).length)) (by omega) (by omega)).mpr h)
                have hz9 : off V r1 + (runAt V r1).length < tot V := (nxP_lt c171).1
                have q9 : nxP V pe (off V r1 + (runAt V r1).length) = LFn V (off V r1 + (runAt V r1).length) := (nxP_lt c171).2
                have hb9 := hLF _ hz9
                rw [q9] at hl
                refine lv_iload hx hb d_MD_makeSequence_174 (lv_at hl 0 rfl) ?_
                refine lv_if_eq (tgt := 184) hx hb d_MD_makeSequence_176 (by decide) (fun c176 => ?_) (fun c176 => ?_)
                · have c176 := bI_eq0.mp c176
                  have hlb9 : lvB V (ar 9) L (off V r1 + (runAt V r1).length) base = L (LFn V (off V r1 + (runAt V r1).length)) := by unfold lvB; exact if_pos ⟨hz9, c176⟩
                  refine lv_aload_n hx hb d_MD_makeSequence_184 rfl (lv_at hl 4 rfl) ?_
                  refine g_MD_43 M hI d_MD_makeSequence_185 ?_
                  refine lv_iload hx hb d_MD_makeSequence_188 (lv_at hl 1 rfl) ?_
                  refine bl_12 M hI (LFn V (off V r1 + (runAt V r1).length)) rfl (by omega) d_MD_makeSequence_190 ?_
                  refine q_as (y := nI (lvB V (ar 9) L (off V r1 + (runAt V r1).length) base)) (by rw [hlb9]; exact (hL _ (LFn_mem hz9)).1) ?_
                  have hlb : lvB V (ar 9) L (off V r1 + (runAt V r1).length) base ≤ 125 := by unfold lvB; split; (rename_i q; exact (hL _ (LFn_mem q.1)).2); omega
                  refine lv_istore (lv' := [(7, .int (nI (lvB V (ar 9) L (off V r1 + (runAt V r1).length) base))), (9, .int (bI (isol (ar 9 (lastP V r1))))), (8, .int (nI (LFn V (off V r1 + (runAt V r1).length)))), (6, .int (nI (LFn V (off V r0 - 1)))), (0, .ref (ad 0)), (1, .int (nI x)), (2, .int (nI b)), (3, .int (nI pe)), (4, .int (nI base)), (5, .int (nI (lastP V r1)))]) hx hb d_MD_makeSequence_191 hl (by decide) rfl (fun ls hl => ?_)
                  refine lv_aload_n hx hb d_MD_makeSequence_193 rfl (lv_at hl 4 rfl) ?_
                  refine lv_iload hx hb d_MD_makeSequence_194 (lv_at hl 0 rfl) ?_
                  refine lv_aload_n hx hb d_MD_makeSequence_196 rfl (lv_at hl 4 rfl) ?_
                  refine g_MD_165 M hI d_MD_makeSequence_197 ?_
                  refine q_as (y := nI (L (LFn V (off V r0)))) rfl ?_
                  refine lv_icmp_le (tgt := 208) hx hb d_MD_makeSequence_200 (by decide) (fun c200 => ?_) (fun c200 => ?_)
                  · have c200 : lvB V (ar 9) L (off V r1 + (runAt V r1).length) base ≤ L (LFn V (off V r0)) := (nI_leI (a := lvB V (ar 9) L (off V r1 + (runAt V r1).length) base) (b := L (LFn V (off V r0))) (by omega) (by omega)).mp c200
                    refine lv_aload_n hx hb d_MD_makeSequence_208 rfl (lv_at hl 4 rfl) ?_
                    refine g_MD_165 M hI d_MD_makeSequence_209 ?_
                    refine q_as (y := nI (L (LFn V (off V r0)))) rfl ?_
                    refine q_as (y := nI (max (L (LFn V (off V r0))) (lvB V (ar 9) L (off V r1 + (runAt V r1).length) base))) (congrArg nI (by omega)) ?_
                    refine q_calliS [.int (nI (max (L (LFn V (off V r0))) (lvB V (ar 9) L (off V r1 + (runAt V r1).length) base)))] M hI (c_MD_directionOf l g (mw g ad (va_up ar 18 y) (va_up (va_up (va_up fl 8 (nI ((pr ++ runAt V r1).length))) 11 (nI (L (LFn V (off V r0))))) 9 (nI ((max (L (LFn V (off V r0))) (lvA V L (off V r0) base)) % 2)))) (max (L (LFn V (off V r0))) (lvB V (ar 9) L (off V r1 + (runAt V r1).length) base)) (by omega)) ok_MD_directionOf m5_158 m5_159 rfl rfl hl.1 ⟨rfl, rfl⟩ ⟨Nat.le_of_ble_eq_true rfl, Nat.le_of_ble_eq_true rfl⟩ (Nat.le_of_ble_eq_true rfl) ⟨Nat.le_of_ble_eq_true rfl, Nat.le_of_ble_eq_true rfl⟩ d_MD_makeSequence_212 (fun r212 u212 H locs hp212 hI => ?_)
                    refine q_as (y := nI ((max (L (LFn V (off V r0))) (lvB V (ar 9) L (off V r1 + (runAt V r1).length) base)) % 2)) hp212 ?_
                    refine p_MD_174 M hI d_MD_makeSequence_215 (fun H locs hI => ?_)
                    have hI : CI g A s (mw g ad (va_up ar 18 y) (va_up (va_up (va_up (va_up fl 8 (nI ((pr ++ runAt V r1).length))) 11 (nI (L (LFn V (off V r0))))) 9 (nI ((max (L (LFn V (off V r0))) (lvA V L (off V r0) base)) % 2))) 10 (nI ((max (L (LFn V (off V r0))) (lvB V (ar 9) L (off V r1 + (runAt V r1).length) base)) % 2)))) H locs := hI
                    have hI := CI.to (w2 := mw g ad (va_up ar 18 y) (va_up (va_up (va_up (va_up fl 8 (nI (SQ V (ar 9) (ar 13) r0).length)) 11 (nI (L (LFn V (off V r0))))) 9 (nI (max (L (LFn V (off V r0))) (lvA V L (off V r0) base) % 2))) 10 (nI (max (L (LFn V (off V r0))) (lvB V (ar 9) L (off V (LR V (ar 9) (ar 13) r0) + (runAt V (LR V (ar 9) (ar 13) r0)).length) base) % 2)))) hI (by rw [hSQ, hLR] <;> rfl)
                    exact hret y _ _ _ _ _ _ d_MD_makeSequence_218 hI (by rw [hSQ]; exact hy) (Nat.le_refl 0) (Nat.le_refl 0)
                  · have c200 : ¬ lvB V (ar 9) L (off V r1 + (runAt V r1).length) base ≤ L (LFn V (off V r0)) := fun h => c200 ((nI_leI (a := lvB V (ar 9) L (off V r1 + (runAt V r1).length) base) (b := L (LFn V (off V r0))) (by omega) (by omega)).mpr h)
                    refine lv_iload hx hb d_MD_makeSequence_203 (lv_at hl 0 rfl) ?_
                    refine q_as (y := nI (max (L (LFn V (off V r0))) (lvB V (ar 9) L (off V r1 + (runAt V r1).length) base))) (congrArg nI (by omega)) ?_
                    refine lv_goto (tgt := 212) hx hb d_MD_makeSequence_205 (by decide) ?_
                    refine q_calliS [.int (nI (max (L (LFn V (off V r0))) (lvB V (ar 9) L (off V r1 + (runAt V r1).length) base)))] M hI (c_MD_directionOf l g (mw g ad (va_up ar 18 y) (va_up (va_up (va_up fl 8 (nI ((pr ++ runAt V r1).length))) 11 (nI (L (LFn V (off V r0))))) 9 (nI ((max (L (LFn V (off V r0))) (lvA V L (off V r0) base)) % 2)))) (max (L (LFn V (off V r0))) (lvB V (ar 9) L (off V r1 + (runAt V r1).length) base)) (by omega)) ok_MD_directionOf m5_158 m5_159 rfl rfl hl.1 ⟨rfl, rfl⟩ ⟨Nat.le_of_ble_eq_true rfl, Nat.le_of_ble_eq_true rfl⟩ (Nat.le_of_ble_eq_true rfl) ⟨Nat.le_of_ble_eq_true rfl, Nat.le_of_ble_eq_true rfl⟩ d_MD_makeSequence_212 (fun r212 u212 H locs hp212 hI => ?_)
                    refine q_as (y := nI ((max (L (LFn V (off V r0))) (lvB V (ar 9) L (off V r1 + (runAt V r1).length) base)) % 2)) hp212 ?_
                    refine p_MD_174 M hI d_MD_makeSequence_215 (fun H locs hI => ?_)
                    have hI : CI g A s (mw g ad (va_up ar 18 y) (va_up (va_up (va_up (va_up fl 8 (nI ((pr ++ runAt V r1).length))) 11 (nI (L (LFn V (off V r0))))) 9 (nI ((max (L (LFn V (off V r0))) (lvA V L (off V r0) base)) % 2))) 10 (nI ((max (L (LFn V (off V r0))) (lvB V (ar 9) L (off V r1 + (runAt V r1).length) base)) % 2)))) H locs := hI
                    have hI := CI.to (w2 := mw g ad (va_up ar 18 y) (va_up (va_up (va_up (va_up fl 8 (nI (SQ V (ar 9) (ar 13) r0).length)) 11 (nI (L (LFn V (off V r0))))) 9 (nI (max (L (LFn V (off V r0))) (lvA V L (off V r0) base) % 2))) 10 (nI (max (L (LFn V (off V r0))) (lvB V (ar 9) L (off V (LR V (ar 9) (ar 13) r0) + (runAt V (LR V (ar 9) (ar 13) r0)).length) base) % 2)))) hI (by rw [hSQ, hLR] <;> rfl)
                    exact hret y _ _ _ _ _ _ d_MD_makeSequence_218 hI (by rw [hSQ]; exact hy) (Nat.le_refl 0) (Nat.le_refl 0)
                · have c176 := bI_ne0.mp c176
                  have hlb9 : lvB V (ar 9) L (off V r1 + (runAt V r1).length) base = base := by unfold lvB; apply if_neg; intro z; exact z.2 c176
                  refine lv_iload hx hb d_MD_makeSequence_179 (lv_at hl 8 rfl) ?_
                  refine q_as (y := nI (lvB V (ar 9) L (off V r1 + (runAt V r1).length) base)) (by rw [hlb9]) ?_
                  refine lv_goto (tgt := 191) hx hb d_MD_makeSequence_181 (by decide) ?_
                  have hlb : lvB V (ar 9) L (off V r1 + (runAt V r1).length) base ≤ 125 := by unfold lvB; split; (rename_i q; exact (hL _ (LFn_mem q.1)).2); omega
                  refine lv_istore (lv' := [(7, .int (nI (lvB V (ar 9) L (off V r1 + (runAt V r1).length) base))), (9, .int (bI (isol (ar 9 (lastP V r1))))), (8, .int (nI (LFn V (off V r1 + (runAt V r1).length)))), (6, .int (nI (LFn V (off V r0 - 1)))), (0, .ref (ad 0)), (1, .int (nI x)), (2, .int (nI b)), (3, .int (nI pe)), (4, .int (nI base)), (5, .int (nI (lastP V r1)))]) hx hb d_MD_makeSequence_191 hl (by decide) rfl (fun ls hl => ?_)
                  refine lv_aload_n hx hb d_MD_makeSequence_193 rfl (lv_at hl 4 rfl) ?_
                  refine lv_iload hx hb d_MD_makeSequence_194 (lv_at hl 0 rfl) ?_
                  refine lv_aload_n hx hb d_MD_makeSequence_196 rfl (lv_at hl 4 rfl) ?_
                  refine g_MD_165 M hI d_MD_makeSequence_197 ?_
                  refine q_as (y := nI (L (LFn V (off V r0)))) rfl ?_
                  refine lv_icmp_le (tgt := 208) hx hb d_MD_makeSequence_200 (by decide) (fun c200 => ?_) (fun c200 => ?_)
                  · have c200 : lvB V (ar 9) L (off V r1 + (runAt V r1).length) base ≤ L (LFn V (off V r0)) := (nI_leI (a := lvB V (ar 9) L (off V r1 + (runAt V r1).length) base) (b := L (LFn V (off V r0))) (by omega) (by omega)).mp c200
                    refine lv_aload_n hx hb d_MD_makeSequence_208 rfl (lv_at hl 4 rfl) ?_
                    refine g_MD_165 M hI d_MD_makeSequence_209 ?_
                    refine q_as (y := nI (L (LFn V (off V r0)))) rfl ?_
                    refine q_as (y := nI (max (L (LFn V (off V r0))) (lvB V (ar 9) L (off V r1 + (runAt V r1).length) base))) (congrArg nI (by omega)) ?_
                    refine q_calliS [.int (nI (max (L (LFn V (off V r0))) (lvB V (ar 9) L (off V r1 + (runAt V r1).length) base)))] M hI (c_MD_directionOf l g (mw g ad (va_up ar 18 y) (va_up (va_up (va_up fl 8 (nI ((pr ++ runAt V r1).length))) 11 (nI (L (LFn V (off V r0))))) 9 (nI ((max (L (LFn V (off V r0))) (lvA V L (off V r0) base)) % 2)))) (max (L (LFn V (off V r0))) (lvB V (ar 9) L (off V r1 + (runAt V r1).length) base)) (by omega)) ok_MD_directionOf m5_158 m5_159 rfl rfl hl.1 ⟨rfl, rfl⟩ ⟨Nat.le_of_ble_eq_true rfl, Nat.le_of_ble_eq_true rfl⟩ (Nat.le_of_ble_eq_true rfl) ⟨Nat.le_of_ble_eq_true rfl, Nat.le_of_ble_eq_true rfl⟩ d_MD_makeSequence_212 (fun r212 u212 H locs hp212 hI => ?_)
                    refine q_as (y := nI ((max (L (LFn V (off V r0))) (lvB V (ar 9) L (off V r1 + (runAt V r1).length) base)) % 2)) hp212 ?_
                    refine p_MD_174 M hI d_MD_makeSequence_215 (fun H locs hI => ?_)
                    have hI : CI g A s (mw g ad (va_up ar 18 y) (va_up (va_up (va_up (va_up fl 8 (nI ((pr ++ runAt V r1).length))) 11 (nI (L (LFn V (off V r0))))) 9 (nI ((max (L (LFn V (off V r0))) (lvA V L (off V r0) base)) % 2))) 10 (nI ((max (L (LFn V (off V r0))) (lvB V (ar 9) L (off V r1 + (runAt V r1).length) base)) % 2)))) H locs := hI
                    have hI := CI.to (w2 := mw g ad (va_up ar 18 y) (va_up (va_up (va_up (va_up fl 8 (nI (SQ V (ar 9) (ar 13) r0).length)) 11 (nI (L (LFn V (off V r0))))) 9 (nI (max (L (LFn V (off V r0))) (lvA V L (off V r0) base) % 2))) 10 (nI (max (L (LFn V (off V r0))) (lvB V (ar 9) L (off V (LR V (ar 9) (ar 13) r0) + (runAt V (LR V (ar 9) (ar 13) r0)).length) base) % 2)))) hI (by rw [hSQ, hLR] <;> rfl)
                    exact hret y _ _ _ _ _ _ d_MD_makeSequence_218 hI (by rw [hSQ]; exact hy) (Nat.le_refl 0) (Nat.le_refl 0)
                  · have c200 : ¬ lvB V (ar 9) L (off V r1 + (runAt V r1).length) base ≤ L (LFn V (off V r0)) := fun h => c200 ((nI_leI (a := lvB V (ar 9) L (off V r1 + (runAt V r1).length) base) (b := L (LFn V (off V r0))) (by omega) (by omega)).mpr h)
                    refine lv_iload hx hb d_MD_makeSequence_203 (lv_at hl 0 rfl) ?_
                    refine q_as (y := nI (max (L (LFn V (off V r0))) (lvB V (ar 9) L (off V r1 + (runAt V r1).length) base))) (congrArg nI (by omega)) ?_
                    refine lv_goto (tgt := 212) hx hb d_MD_makeSequence_205 (by decide) ?_
                    refine q_calliS [.int (nI (max (L (LFn V (off V r0))) (lvB V (ar 9) L (off V r1 + (runAt V r1).length) base)))] M hI (c_MD_directionOf l g (mw g ad (va_up ar 18 y) (va_up (va_up (va_up fl 8 (nI ((pr ++ runAt V r1).length))) 11 (nI (L (LFn V (off V r0))))) 9 (nI ((max (L (LFn V (off V r0))) (lvA V L (off V r0) base)) % 2)))) (max (L (LFn V (off V r0))) (lvB V (ar 9) L (off V r1 + (runAt V r1).length) base)) (by omega)) ok_MD_directionOf m5_158 m5_159 rfl rfl hl.1 ⟨rfl, rfl⟩ ⟨Nat.le_of_ble_eq_true rfl, Nat.le_of_ble_eq_true rfl⟩ (Nat.le_of_ble_eq_true rfl) ⟨Nat.le_of_ble_eq_true rfl, Nat.le_of_ble_eq_true rfl⟩ d_MD_makeSequence_212 (fun r212 u212 H locs hp212 hI => ?_)
                    refine q_as (y := nI ((max (L (LFn V (off V r0))) (lvB V (ar 9) L (off V r1 + (runAt V r1).length) base)) % 2)) hp212 ?_
                    refine p_MD_174 M hI d_MD_makeSequence_215 (fun H locs hI => ?_)
                    have hI : CI g A s (mw g ad (va_up ar 18 y) (va_up (va_up (va_up (va_up fl 8 (nI ((pr ++ runAt V r1).length))) 11 (nI (L (LFn V (off V r0))))) 9 (nI ((max (L (LFn V (off V r0))) (lvA V L (off V r0) base)) % 2))) 10 (nI ((max (L (LFn V (off V r0))) (lvB V (ar 9) L (off V r1 + (runAt V r1).length) base)) % 2)))) H locs := hI
                    have hI := CI.to (w2 := mw g ad (va_up ar 18 y) (va_up (va_up (va_up (va_up fl 8 (nI (SQ V (ar 9) (ar 13) r0).length)) 11 (nI (L (LFn V (off V r0))))) 9 (nI (max (L (LFn V (off V r0))) (lvA V L (off V r0) base) % 2))) 10 (nI (max (L (LFn V (off V r0))) (lvB V (ar 9) L (off V (LR V (ar 9) (ar 13) r0) + (runAt V (LR V (ar 9) (ar 13) r0)).length) base) % 2)))) hI (by rw [hSQ, hLR] <;> rfl)
                    exact hret y _ _ _ _ _ _ d_MD_makeSequence_218 hI (by rw [hSQ]; exact hy) (Nat.le_refl 0) (Nat.le_refl 0)
            · have c127 : ¬ lvA V L (off V r0) base ≤ L (LFn V (off V r0)) := fun h => c127 ((nI_leI (a := lvA V L (off V r0) base) (b := L (LFn V (off V r0))) (by omega) (by omega)).mpr h)
              refine lv_iload hx hb d_MD_makeSequence_130 (lv_at hl 0 rfl) ?_
              refine q_as (y := nI (max (L (LFn V (off V r0))) (lvA V L (off V r0) base))) (congrArg nI (by omega)) ?_
              refine lv_goto (tgt := 139) hx hb d_MD_makeSequence_132 (by decide) ?_
              refine q_calliS [.int (nI (max (L (LFn V (off V r0))) (lvA V L (off V r0) base)))] M hI (c_MD_directionOf l g (mw g ad (va_up ar 18 y) (va_up (va_up fl 8 (nI ((pr ++ runAt V r1).length))) 11 (nI (L (LFn V (off V r0)))))) (max (L (LFn V (off V r0))) (lvA V L (off V r0) base)) (by omega)) ok_MD_directionOf m5_158 m5_159 rfl rfl hl.1 ⟨rfl, rfl⟩ ⟨Nat.le_of_ble_eq_true rfl, Nat.le_of_ble_eq_true rfl⟩ (Nat.le_of_ble_eq_true rfl) ⟨Nat.le_of_ble_eq_true rfl, Nat.le_of_ble_eq_true rfl⟩ d_MD_makeSequence_139 (fun r139 u139 H locs hp139 hI => ?_)
              refine q_as (y := nI ((max (L (LFn V (off V r0))) (lvA V L (off V r0) base)) % 2)) hp139 ?_
              refine p_MD_171 M hI d_MD_makeSequence_142 (fun H locs hI => ?_)
              have hI : CI g A s (mw g ad (va_up ar 18 y) (va_up (va_up (va_up fl 8 (nI ((pr ++ runAt V r1).length))) 11 (nI (L (LFn V (off V r0))))) 9 (nI ((max (L (LFn V (off V r0))) (lvA V L (off V r0) base)) % 2)))) H locs := hI
              refine lv_aload_n hx hb d_MD_makeSequence_145 rfl (lv_at hl 2 rfl) ?_
              refine lv_iload hx hb d_MD_makeSequence_146 (lv_at hl 7 rfl) ?_
              refine lv_iconst (v := 1) hx hb d_MD_makeSequence_148 (by decide) ?_
              refine lv_iadd hx hb d_MD_makeSequence_149 ?_
              refine q_as (y := nI (lastP V r1 + 1)) (nI_add (lastP V r1) 1) ?_
              refine lv_iload_n hx hb d_MD_makeSequence_150 rfl (lv_at hl 5 rfl) ?_
              refine q_calliV [.int (nI (lastP V r1 + 1)), .int (nI pe)] M hI (c_MD_leftFrom l g ad (va_up ar 18 y) (va_up (va_up (va_up fl 8 (nI ((pr ++ runAt V r1).length))) 11 (nI (L (LFn V (off V r0))))) 9 (nI ((max (L (LFn V (off V r0))) (lvA V L (off V r0) base)) % 2))) (lastP V r1 + 1) pe (by omega) (by omega)) ok_MD_leftFrom m5_154 m5_156 ms_63 0 rfl rfl rfl rfl hl.1 ⟨rfl, rfl⟩ ⟨Nat.le_of_ble_eq_true rfl, Nat.le_of_ble_eq_true rfl⟩ (Nat.le_of_ble_eq_true rfl) ⟨Nat.le_of_ble_eq_true rfl, Nat.le_of_ble_eq_true rfl⟩ d_MD_makeSequence_151 (fun r151 u151 H locs hp151 hI => ?_)
              refine q_as (y := nI (lfr (ar 12) (pe - (lastP V r1 + 1)) (lastP V r1 + 1))) hp151 ?_
              refine q_as (y := nI (nxP V pe (off V r1 + (runAt V r1).length))) (by have := nx_of hbp hs (i := off V r1 + (runAt V r1).length - 1) (by rw [← hV]; omega); rw [← hV, show off V r1 + (runAt V r1).length - 1 + 1 = off V r1 + (runAt V r1).length by omega] at this; exact congrArg nI this) ?_
              have hnb : nxP V pe (off V r1 + (runAt V r1).length) ≤ pe := nxP_le hLp
              refine lv_istore (lv' := [(8, .int (nI (nxP V pe (off V r1 + (runAt V r1).length)))), (7, .int (nI (lvA V L (off V r0) base))), (6, .int (nI (LFn V (off V r0 - 1)))), (0, .ref (ad 0)), (1, .int (nI x)), (2, .int (nI b)), (3, .int (nI pe)), (4, .int (nI base)), (5, .int (nI (lastP V r1)))]) hx hb d_MD_makeSequence_154 hl (by decide) rfl (fun ls hl => ?_)
              refine lv_aload_n hx hb d_MD_makeSequence_156 rfl (lv_at hl 3 rfl) ?_
              refine g_MD_34 M hI d_MD_makeSequence_157 ?_
              refine lv_iload hx hb d_MD_makeSequence_160 (lv_at hl 8 rfl) ?_
              refine bl_9 M hI (lastP V r1) rfl (hl1.1) d_MD_makeSequence_162 ?_
              refine q_as (y := ar 9 (lastP V r1)) rfl ?_
              refine q_calliS [.int (ar 9 (lastP V r1))] M hI (c_MD_isIsolate l g (mw g ad (va_up ar 18 y) (va_up (va_up (va_up fl 8 (nI ((pr ++ runAt V r1).length))) 11 (nI (L (LFn V (off V r0))))) 9 (nI ((max (L (LFn V (off V r0))) (lvA V L (off V r0) base)) % 2)))) (ar 9 (lastP V r1))) ok_MD_isIsolate m5_107 m5_108 rfl rfl hl.1 ⟨rfl, rfl⟩ ⟨Nat.le_of_ble_eq_true rfl, Nat.le_of_ble_eq_true rfl⟩ (Nat.le_of_ble_eq_true rfl) ⟨Nat.le_of_ble_eq_true rfl, Nat.le_of_ble_eq_true rfl⟩ d_MD_makeSequence_163 (fun r163 u163 H locs hp163 hI => ?_)
              refine q_as (y := bI (isol (ar 9 (lastP V r1)))) hp163 ?_
              refine lv_istore (lv' := [(9, .int (bI (isol (ar 9 (lastP V r1))))), (8, .int (nI (nxP V pe (off V r1 + (runAt V r1).length)))), (7, .int (nI (lvA V L (off V r0) base))), (6, .int (nI (LFn V (off V r0 - 1)))), (0, .ref (ad 0)), (1, .int (nI x)), (2, .int (nI b)), (3, .int (nI pe)), (4, .int (nI base)), (5, .int (nI (lastP V r1)))]) hx hb d_MD_makeSequence_166 hl (by decide) rfl (fun ls hl => ?_)
              refine lv_iload hx hb d_MD_makeSequence_168 (lv_at hl 1 rfl) ?_
              refine lv_iload_n hx hb d_MD_makeSequence_170 rfl (lv_at hl 7 rfl) ?_
              refine lv_icmp_ge (tgt := 179) hx hb d_MD_makeSequence_171 (by decide) (fun c171 => ?_) (fun c171 => ?_)
              · have c171 : pe ≤ nxP V pe (off V r1 + (runAt V r1).length) := (nI_leI (a := pe) (b := nxP V pe (off V r1 + (runAt V r1).length)) (by omega) (by omega)).mp c171
                have hlb9 : lvB V (ar 9) L (off V r1 + (runAt V r1).length) base = base := by unfold lvB; apply if_neg; intro z; have := nxP_ge hLp c171; omega
                refine lv_iload hx hb d_MD_makeSequence_179 (lv_at hl 8 rfl) ?_
                refine q_as (y := nI (lvB V (ar 9) L (off V r1 + (runAt V r1).length) base)) (by rw [hlb9]) ?_
                refine lv_goto (tgt := 191) hx hb d_MD_makeSequence_181 (by decide) ?_
                have hlb : lvB V (ar 9) L (off V r1 + (runAt V r1).length) base ≤ 125 := by unfold lvB; split; (rename_i q; exact (hL _ (LFn_mem q.1)).2); omega
                refine lv_istore (lv' := [(7, .int (nI (lvB V (ar 9) L (off V r1 + (runAt V r1).length) base))), (9, .int (bI (isol (ar 9 (lastP V r1))))), (8, .int (nI (nxP V pe (off V r1 + (runAt V r1).length)))), (6, .int (nI (LFn V (off V r0 - 1)))), (0, .ref (ad 0)), (1, .int (nI x)), (2, .int (nI b)), (3, .int (nI pe)), (4, .int (nI base)), (5, .int (nI (lastP V r1)))]) hx hb d_MD_makeSequence_191 hl (by decide) rfl (fun ls hl => ?_)
                refine lv_aload_n hx hb d_MD_makeSequence_193 rfl (lv_at hl 4 rfl) ?_
                refine lv_iload hx hb d_MD_makeSequence_194 (lv_at hl 0 rfl) ?_
                refine lv_aload_n hx hb d_MD_makeSequence_196 rfl (lv_at hl 4 rfl) ?_
                refine g_MD_165 M hI d_MD_makeSequence_197 ?_
                refine q_as (y := nI (L (LFn V (off V r0)))) rfl ?_
                refine lv_icmp_le (tgt := 208) hx hb d_MD_makeSequence_200 (by decide) (fun c200 => ?_) (fun c200 => ?_)
                · have c200 : lvB V (ar 9) L (off V r1 + (runAt V r1).length) base ≤ L (LFn V (off V r0)) := (nI_leI (a := lvB V (ar 9) L (off V r1 + (runAt V r1).length) base) (b := L (LFn V (off V r0))) (by omega) (by omega)).mp c200
                  refine lv_aload_n hx hb d_MD_makeSequence_208 rfl (lv_at hl 4 rfl) ?_
                  refine g_MD_165 M hI d_MD_makeSequence_209 ?_
                  refine q_as (y := nI (L (LFn V (off V r0)))) rfl ?_
                  refine q_as (y := nI (max (L (LFn V (off V r0))) (lvB V (ar 9) L (off V r1 + (runAt V r1).length) base))) (congrArg nI (by omega)) ?_
                  refine q_calliS [.int (nI (max (L (LFn V (off V r0))) (lvB V (ar 9) L (off V r1 + (runAt V r1).length) base)))] M hI (c_MD_directionOf l g (mw g ad (va_up ar 18 y) (va_up (va_up (va_up fl 8 (nI ((pr ++ runAt V r1).length))) 11 (nI (L (LFn V (off V r0))))) 9 (nI ((max (L (LFn V (off V r0))) (lvA V L (off V r0) base)) % 2)))) (max (L (LFn V (off V r0))) (lvB V (ar 9) L (off V r1 + (runAt V r1).length) base)) (by omega)) ok_MD_directionOf m5_158 m5_159 rfl rfl hl.1 ⟨rfl, rfl⟩ ⟨Nat.le_of_ble_eq_true rfl, Nat.le_of_ble_eq_true rfl⟩ (Nat.le_of_ble_eq_true rfl) ⟨Nat.le_of_ble_eq_true rfl, Nat.le_of_ble_eq_true rfl⟩ d_MD_makeSequence_212 (fun r212 u212 H locs hp212 hI => ?_)
                  refine q_as (y := nI ((max (L (LFn V (off V r0))) (lvB V (ar 9) L (off V r1 + (runAt V r1).length) base)) % 2)) hp212 ?_
                  refine p_MD_174 M hI d_MD_makeSequence_215 (fun H locs hI => ?_)
                  have hI : CI g A s (mw g ad (va_up ar 18 y) (va_up (va_up (va_up (va_up fl 8 (nI ((pr ++ runAt V r1).length))) 11 (nI (L (LFn V (off V r0))))) 9 (nI ((max (L (LFn V (off V r0))) (lvA V L (off V r0) base)) % 2))) 10 (nI ((max (L (LFn V (off V r0))) (lvB V (ar 9) L (off V r1 + (runAt V r1).length) base)) % 2)))) H locs := hI
                  have hI := CI.to (w2 := mw g ad (va_up ar 18 y) (va_up (va_up (va_up (va_up fl 8 (nI (SQ V (ar 9) (ar 13) r0).length)) 11 (nI (L (LFn V (off V r0))))) 9 (nI (max (L (LFn V (off V r0))) (lvA V L (off V r0) base) % 2))) 10 (nI (max (L (LFn V (off V r0))) (lvB V (ar 9) L (off V (LR V (ar 9) (ar 13) r0) + (runAt V (LR V (ar 9) (ar 13) r0)).length) base) % 2)))) hI (by rw [hSQ, hLR] <;> rfl)
                  exact hret y _ _ _ _ _ _ d_MD_makeSequence_218 hI (by rw [hSQ]; exact hy) (Nat.le_refl 0) (Nat.le_refl 0)
                · have c200 : ¬ lvB V (ar 9) L (off V r1 + (runAt V r1).length) base ≤ L (LFn V (off V r0)) := fun h => c200 ((nI_leI (a := lvB V (ar 9) L (off V r1 + (runAt V r1).length) base) (b := L (LFn V (off V r0))) (by omega) (by omega)).mpr h)
                  refine lv_iload hx hb d_MD_makeSequence_203 (lv_at hl 0 rfl) ?_
                  refine q_as (y := nI (max (L (LFn V (off V r0))) (lvB V (ar 9) L (off V r1 + (runAt V r1).length) base))) (congrArg nI (by omega)) ?_
                  refine lv_goto (tgt := 212) hx hb d_MD_makeSequence_205 (by decide) ?_
                  refine q_calliS [.int (nI (max (L (LFn V (off V r0))) (lvB V (ar 9) L (off V r1 + (runAt V r1).length) base)))] M hI (c_MD_directionOf l g (mw g ad (va_up ar 18 y) (va_up (va_up (va_up fl 8 (nI ((pr ++ runAt V r1).length))) 11 (nI (L (LFn V (off V r0))))) 9 (nI ((max (L (LFn V (off V r0))) (lvA V L (off V r0) base)) % 2)))) (max (L (LFn V (off V r0))) (lvB V (ar 9) L (off V r1 + (runAt V r1).length) base)) (by omega)) ok_MD_directionOf m5_158 m5_159 rfl rfl hl.1 ⟨rfl, rfl⟩ ⟨Nat.le_of_ble_eq_true rfl, Nat.le_of_ble_eq_true rfl⟩ (Nat.le_of_ble_eq_true rfl) ⟨Nat.le_of_ble_eq_true rfl, Nat.le_of_ble_eq_true rfl⟩ d_MD_makeSequence_212 (fun r212 u212 H locs hp212 hI => ?_)
                  refine q_as (y := nI ((max (L (LFn V (off V r0))) (lvB V (ar 9) L (off V r1 + (runAt V r1).length) base)) % 2)) hp212 ?_
                  refine p_MD_174 M hI d_MD_makeSequence_215 (fun H locs hI => ?_)
                  have hI : CI g A s (mw g ad (va_up ar 18 y) (va_up (va_up (va_up (va_up fl 8 (nI ((pr ++ runAt V r1).length))) 11 (nI (L (LFn V (off V r0))))) 9 (nI ((max (L (LFn V (off V r0))) (lvA V L (off V r0) base)) % 2))) 10 (nI ((max (L (LFn V (off V r0))) (lvB V (ar 9) L (off V r1 + (runAt V r1).length) base)) % 2)))) H locs := hI
                  have hI := CI.to (w2 := mw g ad (va_up ar 18 y) (va_up (va_up (va_up (va_up fl 8 (nI (SQ V (ar 9) (ar 13) r0).length)) 11 (nI (L (LFn V (off V r0))))) 9 (nI (max (L (LFn V (off V r0))) (lvA V L (off V r0) base) % 2))) 10 (nI (max (L (LFn V (off V r0))) (lvB V (ar 9) L (off V (LR V (ar 9) (ar 13) r0) + (runAt V (LR V (ar 9) (ar 13) r0)).length) base) % 2)))) hI (by rw [hSQ, hLR] <;> rfl)
                  exact hret y _ _ _ _ _ _ d_MD_makeSequence_218 hI (by rw [hSQ]; exact hy) (Nat.le_refl 0) (Nat.le_refl 0)
              · have c171 : ¬ pe ≤ nxP V pe (off V r1 + (runAt V r1).length) := fun h => c171 ((nI_leI (a := pe) (b := nxP V pe (off V r1 + (runAt V r1).length)) (by omega) (by omega)).mpr h)
                have hz9 : off V r1 + (runAt V r1).length < tot V := (nxP_lt c171).1
                have q9 : nxP V pe (off V r1 + (runAt V r1).length) = LFn V (off V r1 + (runAt V r1).length) := (nxP_lt c171).2
                have hb9 := hLF _ hz9
                rw [q9] at hl
                refine lv_iload hx hb d_MD_makeSequence_174 (lv_at hl 0 rfl) ?_
                refine lv_if_eq (tgt := 184) hx hb d_MD_makeSequence_176 (by decide) (fun c176 => ?_) (fun c176 => ?_)
                · have c176 := bI_eq0.mp c176
                  have hlb9 : lvB V (ar 9) L (off V r1 + (runAt V r1).length) base = L (LFn V (off V r1 + (runAt V r1).length)) := by unfold lvB; exact if_pos ⟨hz9, c176⟩
                  refine lv_aload_n hx hb d_MD_makeSequence_184 rfl (lv_at hl 4 rfl) ?_
                  refine g_MD_43 M hI d_MD_makeSequence_185 ?_
                  refine lv_iload hx hb d_MD_makeSequence_188 (lv_at hl 1 rfl) ?_
                  refine bl_12 M hI (LFn V (off V r1 + (runAt V r1).length)) rfl (by omega) d_MD_makeSequence_190 ?_
                  refine q_as (y := nI (lvB V (ar 9) L (off V r1 + (runAt V r1).length) base)) (by rw [hlb9]; exact (hL _ (LFn_mem hz9)).1) ?_
                  have hlb : lvB V (ar 9) L (off V r1 + (runAt V r1).length) base ≤ 125 := by unfold lvB; split; (rename_i q; exact (hL _ (LFn_mem q.1)).2); omega
                  refine lv_istore (lv' := [(7, .int (nI (lvB V (ar 9) L (off V r1 + (runAt V r1).length) base))), (9, .int (bI (isol (ar 9 (lastP V r1))))), (8, .int (nI (LFn V (off V r1 + (runAt V r1).length)))), (6, .int (nI (LFn V (off V r0 - 1)))), (0, .ref (ad 0)), (1, .int (nI x)), (2, .int (nI b)), (3, .int (nI pe)), (4, .int (nI base)), (5, .int (nI (lastP V r1)))]) hx hb d_MD_makeSequence_191 hl (by decide) rfl (fun ls hl => ?_)
                  refine lv_aload_n hx hb d_MD_makeSequence_193 rfl (lv_at hl 4 rfl) ?_
                  refine lv_iload hx hb d_MD_makeSequence_194 (lv_at hl 0 rfl) ?_
                  refine lv_aload_n hx hb d_MD_makeSequence_196 rfl (lv_at hl 4 rfl) ?_
                  refine g_MD_165 M hI d_MD_makeSequence_197 ?_
                  refine q_as (y := nI (L (LFn V (off V r0)))) rfl ?_
                  refine lv_icmp_le (tgt := 208) hx hb d_MD_makeSequence_200 (by decide) (fun c200 => ?_) (fun c200 => ?_)
                  · have c200 : lvB V (ar 9) L (off V r1 + (runAt V r1).length) base ≤ L (LFn V (off V r0)) := (nI_leI (a := lvB V (ar 9) L (off V r1 + (runAt V r1).length) base) (b := L (LFn V (off V r0))) (by omega) (by omega)).mp c200
                    refine lv_aload_n hx hb d_MD_makeSequence_208 rfl (lv_at hl 4 rfl) ?_
                    refine g_MD_165 M hI d_MD_makeSequence_209 ?_
                    refine q_as (y := nI (L (LFn V (off V r0)))) rfl ?_
                    refine q_as (y := nI (max (L (LFn V (off V r0))) (lvB V (ar 9) L (off V r1 + (runAt V r1).length) base))) (congrArg nI (by omega)) ?_
                    refine q_calliS [.int (nI (max (L (LFn V (off V r0))) (lvB V (ar 9) L (off V r1 + (runAt V r1).length) base)))] M hI (c_MD_directionOf l g (mw g ad (va_up ar 18 y) (va_up (va_up (va_up fl 8 (nI ((pr ++ runAt V r1).length))) 11 (nI (L (LFn V (off V r0))))) 9 (nI ((max (L (LFn V (off V r0))) (lvA V L (off V r0) base)) % 2)))) (max (L (LFn V (off V r0))) (lvB V (ar 9) L (off V r1 + (runAt V r1).length) base)) (by omega)) ok_MD_directionOf m5_158 m5_159 rfl rfl hl.1 ⟨rfl, rfl⟩ ⟨Nat.le_of_ble_eq_true rfl, Nat.le_of_ble_eq_true rfl⟩ (Nat.le_of_ble_eq_true rfl) ⟨Nat.le_of_ble_eq_true rfl, Nat.le_of_ble_eq_true rfl⟩ d_MD_makeSequence_212 (fun r212 u212 H locs hp212 hI => ?_)
                    refine q_as (y := nI ((max (L (LFn V (off V r0))) (lvB V (ar 9) L (off V r1 + (runAt V r1).length) base)) % 2)) hp212 ?_
                    refine p_MD_174 M hI d_MD_makeSequence_215 (fun H locs hI => ?_)
                    have hI : CI g A s (mw g ad (va_up ar 18 y) (va_up (va_up (va_up (va_up fl 8 (nI ((pr ++ runAt V r1).length))) 11 (nI (L (LFn V (off V r0))))) 9 (nI ((max (L (LFn V (off V r0))) (lvA V L (off V r0) base)) % 2))) 10 (nI ((max (L (LFn V (off V r0))) (lvB V (ar 9) L (off V r1 + (runAt V r1).length) base)) % 2)))) H locs := hI
                    have hI := CI.to (w2 := mw g ad (va_up ar 18 y) (va_up (va_up (va_up (va_up fl 8 (nI (SQ V (ar 9) (ar 13) r0).length)) 11 (nI (L (LFn V (off V r0))))) 9 (nI (max (L (LFn V (off V r0))) (lvA V L (off V r0) base) % 2))) 10 (nI (max (L (LFn V (off V r0))) (lvB V (ar 9) L (off V (LR V (ar 9) (ar 13) r0) + (runAt V (LR V (ar 9) (ar 13) r0)).length) base) % 2)))) hI (by rw [hSQ, hLR] <;> rfl)
                    exact hret y _ _ _ _ _ _ d_MD_makeSequence_218 hI (by rw [hSQ]; exact hy) (Nat.le_refl 0) (Nat.le_refl 0)
                  · have c200 : ¬ lvB V (ar 9) L (off V r1 + (runAt V r1).length) base ≤ L (LFn V (off V r0)) := fun h => c200 ((nI_leI (a := lvB V (ar 9) L (off V r1 + (runAt V r1).length) base) (b := L (LFn V (off V r0))) (by omega) (by omega)).mpr h)
                    refine lv_iload hx hb d_MD_makeSequence_203 (lv_at hl 0 rfl) ?_
                    refine q_as (y := nI (max (L (LFn V (off V r0))) (lvB V (ar 9) L (off V r1 + (runAt V r1).length) base))) (congrArg nI (by omega)) ?_
                    refine lv_goto (tgt := 212) hx hb d_MD_makeSequence_205 (by decide) ?_
                    refine q_calliS [.int (nI (max (L (LFn V (off V r0))) (lvB V (ar 9) L (off V r1 + (runAt V r1).length) base)))] M hI (c_MD_directionOf l g (mw g ad (va_up ar 18 y) (va_up (va_up (va_up fl 8 (nI ((pr ++ runAt V r1).length))) 11 (nI (L (LFn V (off V r0))))) 9 (nI ((max (L (LFn V (off V r0))) (lvA V L (off V r0) base)) % 2)))) (max (L (LFn V (off V r0))) (lvB V (ar 9) L (off V r1 + (runAt V r1).length) base)) (by omega)) ok_MD_directionOf m5_158 m5_159 rfl rfl hl.1 ⟨rfl, rfl⟩ ⟨Nat.le_of_ble_eq_true rfl, Nat.le_of_ble_eq_true rfl⟩ (Nat.le_of_ble_eq_true rfl) ⟨Nat.le_of_ble_eq_true rfl, Nat.le_of_ble_eq_true rfl⟩ d_MD_makeSequence_212 (fun r212 u212 H locs hp212 hI => ?_)
                    refine q_as (y := nI ((max (L (LFn V (off V r0))) (lvB V (ar 9) L (off V r1 + (runAt V r1).length) base)) % 2)) hp212 ?_
                    refine p_MD_174 M hI d_MD_makeSequence_215 (fun H locs hI => ?_)
                    have hI : CI g A s (mw g ad (va_up ar 18 y) (va_up (va_up (va_up (va_up fl 8 (nI ((pr ++ runAt V r1).length))) 11 (nI (L (LFn V (off V r0))))) 9 (nI ((max (L (LFn V (off V r0))) (lvA V L (off V r0) base)) % 2))) 10 (nI ((max (L (LFn V (off V r0))) (lvB V (ar 9) L (off V r1 + (runAt V r1).length) base)) % 2)))) H locs := hI
                    have hI := CI.to (w2 := mw g ad (va_up ar 18 y) (va_up (va_up (va_up (va_up fl 8 (nI (SQ V (ar 9) (ar 13) r0).length)) 11 (nI (L (LFn V (off V r0))))) 9 (nI (max (L (LFn V (off V r0))) (lvA V L (off V r0) base) % 2))) 10 (nI (max (L (LFn V (off V r0))) (lvB V (ar 9) L (off V (LR V (ar 9) (ar 13) r0) + (runAt V (LR V (ar 9) (ar 13) r0)).length) base) % 2)))) hI (by rw [hSQ, hLR] <;> rfl)
                    exact hret y _ _ _ _ _ _ d_MD_makeSequence_218 hI (by rw [hSQ]; exact hy) (Nat.le_refl 0) (Nat.le_refl 0)
                · have c176 := bI_ne0.mp c176
                  have hlb9 : lvB V (ar 9) L (off V r1 + (runAt V r1).length) base = base := by unfold lvB; apply if_neg; intro z; exact z.2 c176
                  refine lv_iload hx hb d_MD_makeSequence_179 (lv_at hl 8 rfl) ?_
                  refine q_as (y := nI (lvB V (ar 9) L (off V r1 + (runAt V r1).length) base)) (by rw [hlb9]) ?_
                  refine lv_goto (tgt := 191) hx hb d_MD_makeSequence_181 (by decide) ?_
                  have hlb : lvB V (ar 9) L (off V r1 + (runAt V r1).length) base ≤ 125 := by unfold lvB; split; (rename_i q; exact (hL _ (LFn_mem q.1)).2); omega
                  refine lv_istore (lv' := [(7, .int (nI (lvB V (ar 9) L (off V r1 + (runAt V r1).length) base))), (9, .int (bI (isol (ar 9 (lastP V r1))))), (8, .int (nI (LFn V (off V r1 + (runAt V r1).length)))), (6, .int (nI (LFn V (off V r0 - 1)))), (0, .ref (ad 0)), (1, .int (nI x)), (2, .int (nI b)), (3, .int (nI pe)), (4, .int (nI base)), (5, .int (nI (lastP V r1)))]) hx hb d_MD_makeSequence_191 hl (by decide) rfl (fun ls hl => ?_)
                  refine lv_aload_n hx hb d_MD_makeSequence_193 rfl (lv_at hl 4 rfl) ?_
                  refine lv_iload hx hb d_MD_makeSequence_194 (lv_at hl 0 rfl) ?_
                  refine lv_aload_n hx hb d_MD_makeSequence_196 rfl (lv_at hl 4 rfl) ?_
                  refine g_MD_165 M hI d_MD_makeSequence_197 ?_
                  refine q_as (y := nI (L (LFn V (off V r0)))) rfl ?_
                  refine lv_icmp_le (tgt := 208) hx hb d_MD_makeSequence_200 (by decide) (fun c200 => ?_) (fun c200 => ?_)
                  · have c200 : lvB V (ar 9) L (off V r1 + (runAt V r1).length) base ≤ L (LFn V (off V r0)) := (nI_leI (a := lvB V (ar 9) L (off V r1 + (runAt V r1).length) base) (b := L (LFn V (off V r0))) (by omega) (by omega)).mp c200
                    refine lv_aload_n hx hb d_MD_makeSequence_208 rfl (lv_at hl 4 rfl) ?_
                    refine g_MD_165 M hI d_MD_makeSequence_209 ?_
                    refine q_as (y := nI (L (LFn V (off V r0)))) rfl ?_
                    refine q_as (y := nI (max (L (LFn V (off V r0))) (lvB V (ar 9) L (off V r1 + (runAt V r1).length) base))) (congrArg nI (by omega)) ?_
                    refine q_calliS [.int (nI (max (L (LFn V (off V r0))) (lvB V (ar 9) L (off V r1 + (runAt V r1).length) base)))] M hI (c_MD_directionOf l g (mw g ad (va_up ar 18 y) (va_up (va_up (va_up fl 8 (nI ((pr ++ runAt V r1).length))) 11 (nI (L (LFn V (off V r0))))) 9 (nI ((max (L (LFn V (off V r0))) (lvA V L (off V r0) base)) % 2)))) (max (L (LFn V (off V r0))) (lvB V (ar 9) L (off V r1 + (runAt V r1).length) base)) (by omega)) ok_MD_directionOf m5_158 m5_159 rfl rfl hl.1 ⟨rfl, rfl⟩ ⟨Nat.le_of_ble_eq_true rfl, Nat.le_of_ble_eq_true rfl⟩ (Nat.le_of_ble_eq_true rfl) ⟨Nat.le_of_ble_eq_true rfl, Nat.le_of_ble_eq_true rfl⟩ d_MD_makeSequence_212 (fun r212 u212 H locs hp212 hI => ?_)
                    refine q_as (y := nI ((max (L (LFn V (off V r0))) (lvB V (ar 9) L (off V r1 + (runAt V r1).length) base)) % 2)) hp212 ?_
                    refine p_MD_174 M hI d_MD_makeSequence_215 (fun H locs hI => ?_)
                    have hI : CI g A s (mw g ad (va_up ar 18 y) (va_up (va_up (va_up (va_up fl 8 (nI ((pr ++ runAt V r1).length))) 11 (nI (L (LFn V (off V r0))))) 9 (nI ((max (L (LFn V (off V r0))) (lvA V L (off V r0) base)) % 2))) 10 (nI ((max (L (LFn V (off V r0))) (lvB V (ar 9) L (off V r1 + (runAt V r1).length) base)) % 2)))) H locs := hI
                    have hI := CI.to (w2 := mw g ad (va_up ar 18 y) (va_up (va_up (va_up (va_up fl 8 (nI (SQ V (ar 9) (ar 13) r0).length)) 11 (nI (L (LFn V (off V r0))))) 9 (nI (max (L (LFn V (off V r0))) (lvA V L (off V r0) base) % 2))) 10 (nI (max (L (LFn V (off V r0))) (lvB V (ar 9) L (off V (LR V (ar 9) (ar 13) r0) + (runAt V (LR V (ar 9) (ar 13) r0)).length) base) % 2)))) hI (by rw [hSQ, hLR] <;> rfl)
                    exact hret y _ _ _ _ _ _ d_MD_makeSequence_218 hI (by rw [hSQ]; exact hy) (Nat.le_refl 0) (Nat.le_refl 0)
                  · have c200 : ¬ lvB V (ar 9) L (off V r1 + (runAt V r1).length) base ≤ L (LFn V (off V r0)) := fun h => c200 ((nI_leI (a := lvB V (ar 9) L (off V r1 + (runAt V r1).length) base) (b := L (LFn V (off V r0))) (by omega) (by omega)).mpr h)
                    refine lv_iload hx hb d_MD_makeSequence_203 (lv_at hl 0 rfl) ?_
                    refine q_as (y := nI (max (L (LFn V (off V r0))) (lvB V (ar 9) L (off V r1 + (runAt V r1).length) base))) (congrArg nI (by omega)) ?_
                    refine lv_goto (tgt := 212) hx hb d_MD_makeSequence_205 (by decide) ?_
                    refine q_calliS [.int (nI (max (L (LFn V (off V r0))) (lvB V (ar 9) L (off V r1 + (runAt V r1).length) base)))] M hI (c_MD_directionOf l g (mw g ad (va_up ar 18 y) (va_up (va_up (va_up fl 8 (nI ((pr ++ runAt V r1).length))) 11 (nI (L (LFn V (off V r0))))) 9 (nI ((max (L (LFn V (off V r0))) (lvA V L (off V r0) base)) % 2)))) (max (L (LFn V (off V r0))) (lvB V (ar 9) L (off V r1 + (runAt V r1).length) base)) (by omega)) ok_MD_directionOf m5_158 m5_159 rfl rfl hl.1 ⟨rfl, rfl⟩ ⟨Nat.le_of_ble_eq_true rfl, Nat.le_of_ble_eq_true rfl⟩ (Nat.le_of_ble_eq_true rfl) ⟨Nat.le_of_ble_eq_true rfl, Nat.le_of_ble_eq_true rfl⟩ d_MD_makeSequence_212 (fun r212 u212 H locs hp212 hI => ?_)
                    refine q_as (y := nI ((max (L (LFn V (off V r0))) (lvB V (ar 9) L (off V r1 + (runAt V r1).length) base)) % 2)) hp212 ?_
                    refine p_MD_174 M hI d_MD_makeSequence_215 (fun H locs hI => ?_)
                    have hI : CI g A s (mw g ad (va_up ar 18 y) (va_up (va_up (va_up (va_up fl 8 (nI ((pr ++ runAt V r1).length))) 11 (nI (L (LFn V (off V r0))))) 9 (nI ((max (L (LFn V (off V r0))) (lvA V L (off V r0) base)) % 2))) 10 (nI ((max (L (LFn V (off V r0))) (lvB V (ar 9) L (off V r1 + (runAt V r1).length) base)) % 2)))) H locs := hI
                    have hI := CI.to (w2 := mw g ad (va_up ar 18 y) (va_up (va_up (va_up (va_up fl 8 (nI (SQ V (ar 9) (ar 13) r0).length)) 11 (nI (L (LFn V (off V r0))))) 9 (nI (max (L (LFn V (off V r0))) (lvA V L (off V r0) base) % 2))) 10 (nI (max (L (LFn V (off V r0))) (lvB V (ar 9) L (off V (LR V (ar 9) (ar 13) r0) + (runAt V (LR V (ar 9) (ar 13) r0)).length) base) % 2)))) hI (by rw [hSQ, hLR] <;> rfl)
                    exact hret y _ _ _ _ _ _ d_MD_makeSequence_218 hI (by rw [hSQ]; exact hy) (Nat.le_refl 0) (Nat.le_refl 0)
          · have ho9 : off V r0 = 0 := bk_lt (V := V) (by omega) (Int32.not_le.mp c103) (fun h => by have := hLF (off V r0 - 1) (by omega); omega)
            refine lv_iload hx hb d_MD_makeSequence_106 (lv_at hl 5 rfl) ?_
            refine q_as (y := nI (lvA V L (off V r0) base)) (by unfold lvA; rw [if_neg (by omega)]) ?_
            refine lv_goto (tgt := 118) hx hb d_MD_makeSequence_108 (by decide) ?_
            have hla : lvA V L (off V r0) base ≤ 125 := by unfold lvA; split; exact (hL _ (LFn_mem (by omega))).2; omega
            have hl0 := hL0.2
            refine lv_istore (lv' := [(7, .int (nI (lvA V L (off V r0) base))), (6, .int (bk V b (off V r0))), (0, .ref (ad 0)), (1, .int (nI x)), (2, .int (nI b)), (3, .int (nI pe)), (4, .int (nI base)), (5, .int (nI (lastP V r1)))]) hx hb d_MD_makeSequence_118 hl (by decide) rfl (fun ls hl => ?_)
            refine lv_aload_n hx hb d_MD_makeSequence_120 rfl (lv_at hl 2 rfl) ?_
            refine lv_iload hx hb d_MD_makeSequence_121 (lv_at hl 0 rfl) ?_
            refine lv_aload_n hx hb d_MD_makeSequence_123 rfl (lv_at hl 2 rfl) ?_
            refine g_MD_165 M hI d_MD_makeSequence_124 ?_
            refine q_as (y := nI (L (LFn V (off V r0)))) rfl ?_
            refine lv_icmp_le (tgt := 135) hx hb d_MD_makeSequence_127 (by decide) (fun c127 => ?_) (fun c127 => ?_)
            · have c127 : lvA V L (off V r0) base ≤ L (LFn V (off V r0)) := (nI_leI (a := lvA V L (off V r0) base) (b := L (LFn V (off V r0))) (by omega) (by omega)).mp c127
              refine lv_aload_n hx hb d_MD_makeSequence_135 rfl (lv_at hl 2 rfl) ?_
              refine g_MD_165 M hI d_MD_makeSequence_136 ?_
              refine q_as (y := nI (L (LFn V (off V r0)))) rfl ?_
              refine q_as (y := nI (max (L (LFn V (off V r0))) (lvA V L (off V r0) base))) (congrArg nI (by omega)) ?_
              refine q_calliS [.int (nI (max (L (LFn V (off V r0))) (lvA V L (off V r0) base)))] M hI (c_MD_directionOf l g (mw g ad (va_up ar 18 y) (va_up (va_up fl 8 (nI ((pr ++ runAt V r1).length))) 11 (nI (L (LFn V (off V r0)))))) (max (L (LFn V (off V r0))) (lvA V L (off V r0) base)) (by omega)) ok_MD_directionOf m5_158 m5_159 rfl rfl hl.1 ⟨rfl, rfl⟩ ⟨Nat.le_of_ble_eq_true rfl, Nat.le_of_ble_eq_true rfl⟩ (Nat.le_of_ble_eq_true rfl) ⟨Nat.le_of_ble_eq_true rfl, Nat.le_of_ble_eq_true rfl⟩ d_MD_makeSequence_139 (fun r139 u139 H locs hp139 hI => ?_)
              refine q_as (y := nI ((max (L (LFn V (off V r0))) (lvA V L (off V r0) base)) % 2)) hp139 ?_
              refine p_MD_171 M hI d_MD_makeSequence_142 (fun H locs hI => ?_)
              have hI : CI g A s (mw g ad (va_up ar 18 y) (va_up (va_up (va_up fl 8 (nI ((pr ++ runAt V r1).length))) 11 (nI (L (LFn V (off V r0))))) 9 (nI ((max (L (LFn V (off V r0))) (lvA V L (off V r0) base)) % 2)))) H locs := hI
              refine lv_aload_n hx hb d_MD_makeSequence_145 rfl (lv_at hl 2 rfl) ?_
              refine lv_iload hx hb d_MD_makeSequence_146 (lv_at hl 7 rfl) ?_
              refine lv_iconst (v := 1) hx hb d_MD_makeSequence_148 (by decide) ?_
              refine lv_iadd hx hb d_MD_makeSequence_149 ?_
              refine q_as (y := nI (lastP V r1 + 1)) (nI_add (lastP V r1) 1) ?_
              refine lv_iload_n hx hb d_MD_makeSequence_150 rfl (lv_at hl 5 rfl) ?_
              refine q_calliV [.int (nI (lastP V r1 + 1)), .int (nI pe)] M hI (c_MD_leftFrom l g ad (va_up ar 18 y) (va_up (va_up (va_up fl 8 (nI ((pr ++ runAt V r1).length))) 11 (nI (L (LFn V (off V r0))))) 9 (nI ((max (L (LFn V (off V r0))) (lvA V L (off V r0) base)) % 2))) (lastP V r1 + 1) pe (by omega) (by omega)) ok_MD_leftFrom m5_154 m5_156 ms_63 0 rfl rfl rfl rfl hl.1 ⟨rfl, rfl⟩ ⟨Nat.le_of_ble_eq_true rfl, Nat.le_of_ble_eq_true rfl⟩ (Nat.le_of_ble_eq_true rfl) ⟨Nat.le_of_ble_eq_true rfl, Nat.le_of_ble_eq_true rfl⟩ d_MD_makeSequence_151 (fun r151 u151 H locs hp151 hI => ?_)
              refine q_as (y := nI (lfr (ar 12) (pe - (lastP V r1 + 1)) (lastP V r1 + 1))) hp151 ?_
              refine q_as (y := nI (nxP V pe (off V r1 + (runAt V r1).length))) (by have := nx_of hbp hs (i := off V r1 + (runAt V r1).length - 1) (by rw [← hV]; omega); rw [← hV, show off V r1 + (runAt V r1).length - 1 + 1 = off V r1 + (runAt V r1).length by omega] at this; exact congrArg nI this) ?_
              have hnb : nxP V pe (off V r1 + (runAt V r1).length) ≤ pe := nxP_le hLp
              refine lv_istore (lv' := [(8, .int (nI (nxP V pe (off V r1 + (runAt V r1).length)))), (7, .int (nI (lvA V L (off V r0) base))), (6, .int (bk V b (off V r0))), (0, .ref (ad 0)), (1, .int (nI x)), (2, .int (nI b)), (3, .int (nI pe)), (4, .int (nI base)), (5, .int (nI (lastP V r1)))]) hx hb d_MD_makeSequence_154 hl (by decide) rfl (fun ls hl => ?_)
              refine lv_aload_n hx hb d_MD_makeSequence_156 rfl (lv_at hl 3 rfl) ?_
              refine g_MD_34 M hI d_MD_makeSequence_157 ?_
              refine lv_iload hx hb d_MD_makeSequence_160 (lv_at hl 8 rfl) ?_
              refine bl_9 M hI (lastP V r1) rfl (hl1.1) d_MD_makeSequence_162 ?_
              refine q_as (y := ar 9 (lastP V r1)) rfl ?_
              refine q_calliS [.int (ar 9 (lastP V r1))] M hI (c_MD_isIsolate l g (mw g ad (va_up ar 18 y) (va_up (va_up (va_up fl 8 (nI ((pr ++ runAt V r1).length))) 11 (nI (L (LFn V (off V r0))))) 9 (nI ((max (L (LFn V (off V r0))) (lvA V L (off V r0) base)) % 2)))) (ar 9 (lastP V r1))) ok_MD_isIsolate m5_107 m5_108 rfl rfl hl.1 ⟨rfl, rfl⟩ ⟨Nat.le_of_ble_eq_true rfl, Nat.le_of_ble_eq_true rfl⟩ (Nat.le_of_ble_eq_true rfl) ⟨Nat.le_of_ble_eq_true rfl, Nat.le_of_ble_eq_true rfl⟩ d_MD_makeSequence_163 (fun r163 u163 H locs hp163 hI => ?_)
              refine q_as (y := bI (isol (ar 9 (lastP V r1)))) hp163 ?_
              refine lv_istore (lv' := [(9, .int (bI (isol (ar 9 (lastP V r1))))), (8, .int (nI (nxP V pe (off V r1 + (runAt V r1).length)))), (7, .int (nI (lvA V L (off V r0) base))), (6, .int (bk V b (off V r0))), (0, .ref (ad 0)), (1, .int (nI x)), (2, .int (nI b)), (3, .int (nI pe)), (4, .int (nI base)), (5, .int (nI (lastP V r1)))]) hx hb d_MD_makeSequence_166 hl (by decide) rfl (fun ls hl => ?_)
              refine lv_iload hx hb d_MD_makeSequence_168 (lv_at hl 1 rfl) ?_
              refine lv_iload_n hx hb d_MD_makeSequence_170 rfl (lv_at hl 7 rfl) ?_
              refine lv_icmp_ge (tgt := 179) hx hb d_MD_makeSequence_171 (by decide) (fun c171 => ?_) (fun c171 => ?_)
              · have c171 : pe ≤ nxP V pe (off V r1 + (runAt V r1).length) := (nI_leI (a := pe) (b := nxP V pe (off V r1 + (runAt V r1).length)) (by omega) (by omega)).mp c171
                have hlb9 : lvB V (ar 9) L (off V r1 + (runAt V r1).length) base = base := by unfold lvB; apply if_neg; intro z; have := nxP_ge hLp c171; omega
                refine lv_iload hx hb d_MD_makeSequence_179 (lv_at hl 8 rfl) ?_
                refine q_as (y := nI (lvB V (ar 9) L (off V r1 + (runAt V r1).length) base)) (by rw [hlb9]) ?_
                refine lv_goto (tgt := 191) hx hb d_MD_makeSequence_181 (by decide) ?_
                have hlb : lvB V (ar 9) L (off V r1 + (runAt V r1).length) base ≤ 125 := by unfold lvB; split; (rename_i q; exact (hL _ (LFn_mem q.1)).2); omega
                refine lv_istore (lv' := [(7, .int (nI (lvB V (ar 9) L (off V r1 + (runAt V r1).length) base))), (9, .int (bI (isol (ar 9 (lastP V r1))))), (8, .int (nI (nxP V pe (off V r1 + (runAt V r1).length)))), (6, .int (bk V b (off V r0))), (0, .ref (ad 0)), (1, .int (nI x)), (2, .int (nI b)), (3, .int (nI pe)), (4, .int (nI base)), (5, .int (nI (lastP V r1)))]) hx hb d_MD_makeSequence_191 hl (by decide) rfl (fun ls hl => ?_)
                refine lv_aload_n hx hb d_MD_makeSequence_193 rfl (lv_at hl 4 rfl) ?_
                refine lv_iload hx hb d_MD_makeSequence_194 (lv_at hl 0 rfl) ?_
                refine lv_aload_n hx hb d_MD_makeSequence_196 rfl (lv_at hl 4 rfl) ?_
                refine g_MD_165 M hI d_MD_makeSequence_197 ?_
                refine q_as (y := nI (L (LFn V (off V r0)))) rfl ?_
                refine lv_icmp_le (tgt := 208) hx hb d_MD_makeSequence_200 (by decide) (fun c200 => ?_) (fun c200 => ?_)
                · have c200 : lvB V (ar 9) L (off V r1 + (runAt V r1).length) base ≤ L (LFn V (off V r0)) := (nI_leI (a := lvB V (ar 9) L (off V r1 + (runAt V r1).length) base) (b := L (LFn V (off V r0))) (by omega) (by omega)).mp c200
                  refine lv_aload_n hx hb d_MD_makeSequence_208 rfl (lv_at hl 4 rfl) ?_
                  refine g_MD_165 M hI d_MD_makeSequence_209 ?_
                  refine q_as (y := nI (L (LFn V (off V r0)))) rfl ?_
                  refine q_as (y := nI (max (L (LFn V (off V r0))) (lvB V (ar 9) L (off V r1 + (runAt V r1).length) base))) (congrArg nI (by omega)) ?_
                  refine q_calliS [.int (nI (max (L (LFn V (off V r0))) (lvB V (ar 9) L (off V r1 + (runAt V r1).length) base)))] M hI (c_MD_directionOf l g (mw g ad (va_up ar 18 y) (va_up (va_up (va_up fl 8 (nI ((pr ++ runAt V r1).length))) 11 (nI (L (LFn V (off V r0))))) 9 (nI ((max (L (LFn V (off V r0))) (lvA V L (off V r0) base)) % 2)))) (max (L (LFn V (off V r0))) (lvB V (ar 9) L (off V r1 + (runAt V r1).length) base)) (by omega)) ok_MD_directionOf m5_158 m5_159 rfl rfl hl.1 ⟨rfl, rfl⟩ ⟨Nat.le_of_ble_eq_true rfl, Nat.le_of_ble_eq_true rfl⟩ (Nat.le_of_ble_eq_true rfl) ⟨Nat.le_of_ble_eq_true rfl, Nat.le_of_ble_eq_true rfl⟩ d_MD_makeSequence_212 (fun r212 u212 H locs hp212 hI => ?_)
                  refine q_as (y := nI ((max (L (LFn V (off V r0))) (lvB V (ar 9) L (off V r1 + (runAt V r1).length) base)) % 2)) hp212 ?_
                  refine p_MD_174 M hI d_MD_makeSequence_215 (fun H locs hI => ?_)
                  have hI : CI g A s (mw g ad (va_up ar 18 y) (va_up (va_up (va_up (va_up fl 8 (nI ((pr ++ runAt V r1).length))) 11 (nI (L (LFn V (off V r0))))) 9 (nI ((max (L (LFn V (off V r0))) (lvA V L (off V r0) base)) % 2))) 10 (nI ((max (L (LFn V (off V r0))) (lvB V (ar 9) L (off V r1 + (runAt V r1).length) base)) % 2)))) H locs := hI
                  have hI := CI.to (w2 := mw g ad (va_up ar 18 y) (va_up (va_up (va_up (va_up fl 8 (nI (SQ V (ar 9) (ar 13) r0).length)) 11 (nI (L (LFn V (off V r0))))) 9 (nI (max (L (LFn V (off V r0))) (lvA V L (off V r0) base) % 2))) 10 (nI (max (L (LFn V (off V r0))) (lvB V (ar 9) L (off V (LR V (ar 9) (ar 13) r0) + (runAt V (LR V (ar 9) (ar 13) r0)).length) base) % 2)))) hI (by rw [hSQ, hLR] <;> rfl)
                  exact hret y _ _ _ _ _ _ d_MD_makeSequence_218 hI (by rw [hSQ]; exact hy) (Nat.le_refl 0) (Nat.le_refl 0)
                · have c200 : ¬ lvB V (ar 9) L (off V r1 + (runAt V r1).length) base ≤ L (LFn V (off V r0)) := fun h => c200 ((nI_leI (a := lvB V (ar 9) L (off V r1 + (runAt V r1).length) base) (b := L (LFn V (off V r0))) (by omega) (by omega)).mpr h)
                  refine lv_iload hx hb d_MD_makeSequence_203 (lv_at hl 0 rfl) ?_
                  refine q_as (y := nI (max (L (LFn V (off V r0))) (lvB V (ar 9) L (off V r1 + (runAt V r1).length) base))) (congrArg nI (by omega)) ?_
                  refine lv_goto (tgt := 212) hx hb d_MD_makeSequence_205 (by decide) ?_
                  refine q_calliS [.int (nI (max (L (LFn V (off V r0))) (lvB V (ar 9) L (off V r1 + (runAt V r1).length) base)))] M hI (c_MD_directionOf l g (mw g ad (va_up ar 18 y) (va_up (va_up (va_up fl 8 (nI ((pr ++ runAt V r1).length))) 11 (nI (L (LFn V (off V r0))))) 9 (nI ((max (L (LFn V (off V r0))) (lvA V L (off V r0) base)) % 2)))) (max (L (LFn V (off V r0))) (lvB V (ar 9) L (off V r1 + (runAt V r1).length) base)) (by omega)) ok_MD_directionOf m5_158 m5_159 rfl rfl hl.1 ⟨rfl, rfl⟩ ⟨Nat.le_of_ble_eq_true rfl, Nat.le_of_ble_eq_true rfl⟩ (Nat.le_of_ble_eq_true rfl) ⟨Nat.le_of_ble_eq_true rfl, Nat.le_of_ble_eq_true rfl⟩ d_MD_makeSequence_212 (fun r212 u212 H locs hp212 hI => ?_)
                  refine q_as (y := nI ((max (L (LFn V (off V r0))) (lvB V (ar 9) L (off V r1 + (runAt V r1).length) base)) % 2)) hp212 ?_
                  refine p_MD_174 M hI d_MD_makeSequence_215 (fun H locs hI => ?_)
                  have hI : CI g A s (mw g ad (va_up ar 18 y) (va_up (va_up (va_up (va_up fl 8 (nI ((pr ++ runAt V r1).length))) 11 (nI (L (LFn V (off V r0))))) 9 (nI ((max (L (LFn V (off V r0))) (lvA V L (off V r0) base)) % 2))) 10 (nI ((max (L (LFn V (off V r0))) (lvB V (ar 9) L (off V r1 + (runAt V r1).length) base)) % 2)))) H locs := hI
                  have hI := CI.to (w2 := mw g ad (va_up ar 18 y) (va_up (va_up (va_up (va_up fl 8 (nI (SQ V (ar 9) (ar 13) r0).length)) 11 (nI (L (LFn V (off V r0))))) 9 (nI (max (L (LFn V (off V r0))) (lvA V L (off V r0) base) % 2))) 10 (nI (max (L (LFn V (off V r0))) (lvB V (ar 9) L (off V (LR V (ar 9) (ar 13) r0) + (runAt V (LR V (ar 9) (ar 13) r0)).length) base) % 2)))) hI (by rw [hSQ, hLR] <;> rfl)
                  exact hret y _ _ _ _ _ _ d_MD_makeSequence_218 hI (by rw [hSQ]; exact hy) (Nat.le_refl 0) (Nat.le_refl 0)
              · have c171 : ¬ pe ≤ nxP V pe (off V r1 + (runAt V r1).length) := fun h => c171 ((nI_leI (a := pe) (b := nxP V pe (off V r1 + (runAt V r1).length)) (by omega) (by omega)).mpr h)
                have hz9 : off V r1 + (runAt V r1).length < tot V := (nxP_lt c171).1
                have q9 : nxP V pe (off V r1 + (runAt V r1).length) = LFn V (off V r1 + (runAt V r1).length) := (nxP_lt c171).2
                have hb9 := hLF _ hz9
                rw [q9] at hl
                refine lv_iload hx hb d_MD_makeSequence_174 (lv_at hl 0 rfl) ?_
                refine lv_if_eq (tgt := 184) hx hb d_MD_makeSequence_176 (by decide) (fun c176 => ?_) (fun c176 => ?_)
                · have c176 := bI_eq0.mp c176
                  have hlb9 : lvB V (ar 9) L (off V r1 + (runAt V r1).length) base = L (LFn V (off V r1 + (runAt V r1).length)) := by unfold lvB; exact if_pos ⟨hz9, c176⟩
                  refine lv_aload_n hx hb d_MD_makeSequence_184 rfl (lv_at hl 4 rfl) ?_
                  refine g_MD_43 M hI d_MD_makeSequence_185 ?_
                  refine lv_iload hx hb d_MD_makeSequence_188 (lv_at hl 1 rfl) ?_
                  refine bl_12 M hI (LFn V (off V r1 + (runAt V r1).length)) rfl (by omega) d_MD_makeSequence_190 ?_
                  refine q_as (y := nI (lvB V (ar 9) L (off V r1 + (runAt V r1).length) base)) (by rw [hlb9]; exact (hL _ (LFn_mem hz9)).1) ?_
                  have hlb : lvB V (ar 9) L (off V r1 + (runAt V r1).length) base ≤ 125 := by unfold lvB; split; (rename_i q; exact (hL _ (LFn_mem q.1)).2); omega
                  refine lv_istore (lv' := [(7, .int (nI (lvB V (ar 9) L (off V r1 + (runAt V r1).length) base))), (9, .int (bI (isol (ar 9 (lastP V r1))))), (8, .int (nI (LFn V (off V r1 + (runAt V r1).length)))), (6, .int (bk V b (off V r0))), (0, .ref (ad 0)), (1, .int (nI x)), (2, .int (nI b)), (3, .int (nI pe)), (4, .int (nI base)), (5, .int (nI (lastP V r1)))]) hx hb d_MD_makeSequence_191 hl (by decide) rfl (fun ls hl => ?_)
                  refine lv_aload_n hx hb d_MD_makeSequence_193 rfl (lv_at hl 4 rfl) ?_
                  refine lv_iload hx hb d_MD_makeSequence_194 (lv_at hl 0 rfl) ?_
                  refine lv_aload_n hx hb d_MD_makeSequence_196 rfl (lv_at hl 4 rfl) ?_
                  refine g_MD_165 M hI d_MD_makeSequence_197 ?_
                  refine q_as (y := nI (L (LFn V (off V r0)))) rfl ?_
                  refine lv_icmp_le (tgt := 208) hx hb d_MD_makeSequence_200 (by decide) (fun c200 => ?_) (fun c200 => ?_)
                  · have c200 : lvB V (ar 9) L (off V r1 + (runAt V r1).length) base ≤ L (LFn V (off V r0)) := (nI_leI (a := lvB V (ar 9) L (off V r1 + (runAt V r1).length) base) (b := L (LFn V (off V r0))) (by omega) (by omega)).mp c200
                    refine lv_aload_n hx hb d_MD_makeSequence_208 rfl (lv_at hl 4 rfl) ?_
                    refine g_MD_165 M hI d_MD_makeSequence_209 ?_
                    refine q_as (y := nI (L (LFn V (off V r0)))) rfl ?_
                    refine q_as (y := nI (max (L (LFn V (off V r0))) (lvB V (ar 9) L (off V r1 + (runAt V r1).length) base))) (congrArg nI (by omega)) ?_
                    refine q_calliS [.int (nI (max (L (LFn V (off V r0))) (lvB V (ar 9) L (off V r1 + (runAt V r1).length) base)))] M hI (c_MD_directionOf l g (mw g ad (va_up ar 18 y) (va_up (va_up (va_up fl 8 (nI ((pr ++ runAt V r1).length))) 11 (nI (L (LFn V (off V r0))))) 9 (nI ((max (L (LFn V (off V r0))) (lvA V L (off V r0) base)) % 2)))) (max (L (LFn V (off V r0))) (lvB V (ar 9) L (off V r1 + (runAt V r1).length) base)) (by omega)) ok_MD_directionOf m5_158 m5_159 rfl rfl hl.1 ⟨rfl, rfl⟩ ⟨Nat.le_of_ble_eq_true rfl, Nat.le_of_ble_eq_true rfl⟩ (Nat.le_of_ble_eq_true rfl) ⟨Nat.le_of_ble_eq_true rfl, Nat.le_of_ble_eq_true rfl⟩ d_MD_makeSequence_212 (fun r212 u212 H locs hp212 hI => ?_)
                    refine q_as (y := nI ((max (L (LFn V (off V r0))) (lvB V (ar 9) L (off V r1 + (runAt V r1).length) base)) % 2)) hp212 ?_
                    refine p_MD_174 M hI d_MD_makeSequence_215 (fun H locs hI => ?_)
                    have hI : CI g A s (mw g ad (va_up ar 18 y) (va_up (va_up (va_up (va_up fl 8 (nI ((pr ++ runAt V r1).length))) 11 (nI (L (LFn V (off V r0))))) 9 (nI ((max (L (LFn V (off V r0))) (lvA V L (off V r0) base)) % 2))) 10 (nI ((max (L (LFn V (off V r0))) (lvB V (ar 9) L (off V r1 + (runAt V r1).length) base)) % 2)))) H locs := hI
                    have hI := CI.to (w2 := mw g ad (va_up ar 18 y) (va_up (va_up (va_up (va_up fl 8 (nI (SQ V (ar 9) (ar 13) r0).length)) 11 (nI (L (LFn V (off V r0))))) 9 (nI (max (L (LFn V (off V r0))) (lvA V L (off V r0) base) % 2))) 10 (nI (max (L (LFn V (off V r0))) (lvB V (ar 9) L (off V (LR V (ar 9) (ar 13) r0) + (runAt V (LR V (ar 9) (ar 13) r0)).length) base) % 2)))) hI (by rw [hSQ, hLR] <;> rfl)
                    exact hret y _ _ _ _ _ _ d_MD_makeSequence_218 hI (by rw [hSQ]; exact hy) (Nat.le_refl 0) (Nat.le_refl 0)
                  · have c200 : ¬ lvB V (ar 9) L (off V r1 + (runAt V r1).length) base ≤ L (LFn V (off V r0)) := fun h => c200 ((nI_leI (a := lvB V (ar 9) L (off V r1 + (runAt V r1).length) base) (b := L (LFn V (off V r0))) (by omega) (by omega)).mpr h)
                    refine lv_iload hx hb d_MD_makeSequence_203 (lv_at hl 0 rfl) ?_
                    refine q_as (y := nI (max (L (LFn V (off V r0))) (lvB V (ar 9) L (off V r1 + (runAt V r1).length) base))) (congrArg nI (by omega)) ?_
                    refine lv_goto (tgt := 212) hx hb d_MD_makeSequence_205 (by decide) ?_
                    refine q_calliS [.int (nI (max (L (LFn V (off V r0))) (lvB V (ar 9) L (off V r1 + (runAt V r1).length) base)))] M hI (c_MD_directionOf l g (mw g ad (va_up ar 18 y) (va_up (va_up (va_up fl 8 (nI ((pr ++ runAt V r1).length))) 11 (nI (L (LFn V (off V r0))))) 9 (nI ((max (L (LFn V (off V r0))) (lvA V L (off V r0) base)) % 2)))) (max (L (LFn V (off V r0))) (lvB V (ar 9) L (off V r1 + (runAt V r1).length) base)) (by omega)) ok_MD_directionOf m5_158 m5_159 rfl rfl hl.1 ⟨rfl, rfl⟩ ⟨Nat.le_of_ble_eq_true rfl, Nat.le_of_ble_eq_true rfl⟩ (Nat.le_of_ble_eq_true rfl) ⟨Nat.le_of_ble_eq_true rfl, Nat.le_of_ble_eq_true rfl⟩ d_MD_makeSequence_212 (fun r212 u212 H locs hp212 hI => ?_)
                    refine q_as (y := nI ((max (L (LFn V (off V r0))) (lvB V (ar 9) L (off V r1 + (runAt V r1).length) base)) % 2)) hp212 ?_
                    refine p_MD_174 M hI d_MD_makeSequence_215 (fun H locs hI => ?_)
                    have hI : CI g A s (mw g ad (va_up ar 18 y) (va_up (va_up (va_up (va_up fl 8 (nI ((pr ++ runAt V r1).length))) 11 (nI (L (LFn V (off V r0))))) 9 (nI ((max (L (LFn V (off V r0))) (lvA V L (off V r0) base)) % 2))) 10 (nI ((max (L (LFn V (off V r0))) (lvB V (ar 9) L (off V r1 + (runAt V r1).length) base)) % 2)))) H locs := hI
                    have hI := CI.to (w2 := mw g ad (va_up ar 18 y) (va_up (va_up (va_up (va_up fl 8 (nI (SQ V (ar 9) (ar 13) r0).length)) 11 (nI (L (LFn V (off V r0))))) 9 (nI (max (L (LFn V (off V r0))) (lvA V L (off V r0) base) % 2))) 10 (nI (max (L (LFn V (off V r0))) (lvB V (ar 9) L (off V (LR V (ar 9) (ar 13) r0) + (runAt V (LR V (ar 9) (ar 13) r0)).length) base) % 2)))) hI (by rw [hSQ, hLR] <;> rfl)
                    exact hret y _ _ _ _ _ _ d_MD_makeSequence_218 hI (by rw [hSQ]; exact hy) (Nat.le_refl 0) (Nat.le_refl 0)
                · have c176 := bI_ne0.mp c176
                  have hlb9 : lvB V (ar 9) L (off V r1 + (runAt V r1).length) base = base := by unfold lvB; apply if_neg; intro z; exact z.2 c176
                  refine lv_iload hx hb d_MD_makeSequence_179 (lv_at hl 8 rfl) ?_
                  refine q_as (y := nI (lvB V (ar 9) L (off V r1 + (runAt V r1).length) base)) (by rw [hlb9]) ?_
                  refine lv_goto (tgt := 191) hx hb d_MD_makeSequence_181 (by decide) ?_
                  have hlb : lvB V (ar 9) L (off V r1 + (runAt V r1).length) base ≤ 125 := by unfold lvB; split; (rename_i q; exact (hL _ (LFn_mem q.1)).2); omega
                  refine lv_istore (lv' := [(7, .int (nI (lvB V (ar 9) L (off V r1 + (runAt V r1).length) base))), (9, .int (bI (isol (ar 9 (lastP V r1))))), (8, .int (nI (LFn V (off V r1 + (runAt V r1).length)))), (6, .int (bk V b (off V r0))), (0, .ref (ad 0)), (1, .int (nI x)), (2, .int (nI b)), (3, .int (nI pe)), (4, .int (nI base)), (5, .int (nI (lastP V r1)))]) hx hb d_MD_makeSequence_191 hl (by decide) rfl (fun ls hl => ?_)
                  refine lv_aload_n hx hb d_MD_makeSequence_193 rfl (lv_at hl 4 rfl) ?_
                  refine lv_iload hx hb d_MD_makeSequence_194 (lv_at hl 0 rfl) ?_
                  refine lv_aload_n hx hb d_MD_makeSequence_196 rfl (lv_at hl 4 rfl) ?_
                  refine g_MD_165 M hI d_MD_makeSequence_197 ?_
                  refine q_as (y := nI (L (LFn V (off V r0)))) rfl ?_
                  refine lv_icmp_le (tgt := 208) hx hb d_MD_makeSequence_200 (by decide) (fun c200 => ?_) (fun c200 => ?_)
                  · have c200 : lvB V (ar 9) L (off V r1 + (runAt V r1).length) base ≤ L (LFn V (off V r0)) := (nI_leI (a := lvB V (ar 9) L (off V r1 + (runAt V r1).length) base) (b := L (LFn V (off V r0))) (by omega) (by omega)).mp c200
                    refine lv_aload_n hx hb d_MD_makeSequence_208 rfl (lv_at hl 4 rfl) ?_
                    refine g_MD_165 M hI d_MD_makeSequence_209 ?_
                    refine q_as (y := nI (L (LFn V (off V r0)))) rfl ?_
                    refine q_as (y := nI (max (L (LFn V (off V r0))) (lvB V (ar 9) L (off V r1 + (runAt V r1).length) base))) (congrArg nI (by omega)) ?_
                    refine q_calliS [.int (nI (max (L (LFn V (off V r0))) (lvB V (ar 9) L (off V r1 + (runAt V r1).length) base)))] M hI (c_MD_directionOf l g (mw g ad (va_up ar 18 y) (va_up (va_up (va_up fl 8 (nI ((pr ++ runAt V r1).length))) 11 (nI (L (LFn V (off V r0))))) 9 (nI ((max (L (LFn V (off V r0))) (lvA V L (off V r0) base)) % 2)))) (max (L (LFn V (off V r0))) (lvB V (ar 9) L (off V r1 + (runAt V r1).length) base)) (by omega)) ok_MD_directionOf m5_158 m5_159 rfl rfl hl.1 ⟨rfl, rfl⟩ ⟨Nat.le_of_ble_eq_true rfl, Nat.le_of_ble_eq_true rfl⟩ (Nat.le_of_ble_eq_true rfl) ⟨Nat.le_of_ble_eq_true rfl, Nat.le_of_ble_eq_true rfl⟩ d_MD_makeSequence_212 (fun r212 u212 H locs hp212 hI => ?_)
                    refine q_as (y := nI ((max (L (LFn V (off V r0))) (lvB V (ar 9) L (off V r1 + (runAt V r1).length) base)) % 2)) hp212 ?_
                    refine p_MD_174 M hI d_MD_makeSequence_215 (fun H locs hI => ?_)
                    have hI : CI g A s (mw g ad (va_up ar 18 y) (va_up (va_up (va_up (va_up fl 8 (nI ((pr ++ runAt V r1).length))) 11 (nI (L (LFn V (off V r0))))) 9 (nI ((max (L (LFn V (off V r0))) (lvA V L (off V r0) base)) % 2))) 10 (nI ((max (L (LFn V (off V r0))) (lvB V (ar 9) L (off V r1 + (runAt V r1).length) base)) % 2)))) H locs := hI
                    have hI := CI.to (w2 := mw g ad (va_up ar 18 y) (va_up (va_up (va_up (va_up fl 8 (nI (SQ V (ar 9) (ar 13) r0).length)) 11 (nI (L (LFn V (off V r0))))) 9 (nI (max (L (LFn V (off V r0))) (lvA V L (off V r0) base) % 2))) 10 (nI (max (L (LFn V (off V r0))) (lvB V (ar 9) L (off V (LR V (ar 9) (ar 13) r0) + (runAt V (LR V (ar 9) (ar 13) r0)).length) base) % 2)))) hI (by rw [hSQ, hLR] <;> rfl)
                    exact hret y _ _ _ _ _ _ d_MD_makeSequence_218 hI (by rw [hSQ]; exact hy) (Nat.le_refl 0) (Nat.le_refl 0)
                  · have c200 : ¬ lvB V (ar 9) L (off V r1 + (runAt V r1).length) base ≤ L (LFn V (off V r0)) := fun h => c200 ((nI_leI (a := lvB V (ar 9) L (off V r1 + (runAt V r1).length) base) (b := L (LFn V (off V r0))) (by omega) (by omega)).mpr h)
                    refine lv_iload hx hb d_MD_makeSequence_203 (lv_at hl 0 rfl) ?_
                    refine q_as (y := nI (max (L (LFn V (off V r0))) (lvB V (ar 9) L (off V r1 + (runAt V r1).length) base))) (congrArg nI (by omega)) ?_
                    refine lv_goto (tgt := 212) hx hb d_MD_makeSequence_205 (by decide) ?_
                    refine q_calliS [.int (nI (max (L (LFn V (off V r0))) (lvB V (ar 9) L (off V r1 + (runAt V r1).length) base)))] M hI (c_MD_directionOf l g (mw g ad (va_up ar 18 y) (va_up (va_up (va_up fl 8 (nI ((pr ++ runAt V r1).length))) 11 (nI (L (LFn V (off V r0))))) 9 (nI ((max (L (LFn V (off V r0))) (lvA V L (off V r0) base)) % 2)))) (max (L (LFn V (off V r0))) (lvB V (ar 9) L (off V r1 + (runAt V r1).length) base)) (by omega)) ok_MD_directionOf m5_158 m5_159 rfl rfl hl.1 ⟨rfl, rfl⟩ ⟨Nat.le_of_ble_eq_true rfl, Nat.le_of_ble_eq_true rfl⟩ (Nat.le_of_ble_eq_true rfl) ⟨Nat.le_of_ble_eq_true rfl, Nat.le_of_ble_eq_true rfl⟩ d_MD_makeSequence_212 (fun r212 u212 H locs hp212 hI => ?_)
                    refine q_as (y := nI ((max (L (LFn V (off V r0))) (lvB V (ar 9) L (off V r1 + (runAt V r1).length) base)) % 2)) hp212 ?_
                    refine p_MD_174 M hI d_MD_makeSequence_215 (fun H locs hI => ?_)
                    have hI : CI g A s (mw g ad (va_up ar 18 y) (va_up (va_up (va_up (va_up fl 8 (nI ((pr ++ runAt V r1).length))) 11 (nI (L (LFn V (off V r0))))) 9 (nI ((max (L (LFn V (off V r0))) (lvA V L (off V r0) base)) % 2))) 10 (nI ((max (L (LFn V (off V r0))) (lvB V (ar 9) L (off V r1 + (runAt V r1).length) base)) % 2)))) H locs := hI
                    have hI := CI.to (w2 := mw g ad (va_up ar 18 y) (va_up (va_up (va_up (va_up fl 8 (nI (SQ V (ar 9) (ar 13) r0).length)) 11 (nI (L (LFn V (off V r0))))) 9 (nI (max (L (LFn V (off V r0))) (lvA V L (off V r0) base) % 2))) 10 (nI (max (L (LFn V (off V r0))) (lvB V (ar 9) L (off V (LR V (ar 9) (ar 13) r0) + (runAt V (LR V (ar 9) (ar 13) r0)).length) base) % 2)))) hI (by rw [hSQ, hLR] <;> rfl)
                    exact hret y _ _ _ _ _ _ d_MD_makeSequence_218 hI (by rw [hSQ]; exact hy) (Nat.le_refl 0) (Nat.le_refl 0)
            · have c127 : ¬ lvA V L (off V r0) base ≤ L (LFn V (off V r0)) := fun h => c127 ((nI_leI (a := lvA V L (off V r0) base) (b := L (LFn V (off V r0))) (by omega) (by omega)).mpr h)
              refine lv_iload hx hb d_MD_makeSequence_130 (lv_at hl 0 rfl) ?_
              refine q_as (y := nI (max (L (LFn V (off V r0))) (lvA V L (off V r0) base))) (congrArg nI (by omega)) ?_
              refine lv_goto (tgt := 139) hx hb d_MD_makeSequence_132 (by decide) ?_
              refine q_calliS [.int (nI (max (L (LFn V (off V r0))) (lvA V L (off V r0) base)))] M hI (c_MD_directionOf l g (mw g ad (va_up ar 18 y) (va_up (va_up fl 8 (nI ((pr ++ runAt V r1).length))) 11 (nI (L (LFn V (off V r0)))))) (max (L (LFn V (off V r0))) (lvA V L (off V r0) base)) (by omega)) ok_MD_directionOf m5_158 m5_159 rfl rfl hl.1 ⟨rfl, rfl⟩ ⟨Nat.le_of_ble_eq_true rfl, Nat.le_of_ble_eq_true rfl⟩ (Nat.le_of_ble_eq_true rfl) ⟨Nat.le_of_ble_eq_true rfl, Nat.le_of_ble_eq_true rfl⟩ d_MD_makeSequence_139 (fun r139 u139 H locs hp139 hI => ?_)
              refine q_as (y := nI ((max (L (LFn V (off V r0))) (lvA V L (off V r0) base)) % 2)) hp139 ?_
              refine p_MD_171 M hI d_MD_makeSequence_142 (fun H locs hI => ?_)
              have hI : CI g A s (mw g ad (va_up ar 18 y) (va_up (va_up (va_up fl 8 (nI ((pr ++ runAt V r1).length))) 11 (nI (L (LFn V (off V r0))))) 9 (nI ((max (L (LFn V (off V r0))) (lvA V L (off V r0) base)) % 2)))) H locs := hI
              refine lv_aload_n hx hb d_MD_makeSequence_145 rfl (lv_at hl 2 rfl) ?_
              refine lv_iload hx hb d_MD_makeSequence_146 (lv_at hl 7 rfl) ?_
              refine lv_iconst (v := 1) hx hb d_MD_makeSequence_148 (by decide) ?_
              refine lv_iadd hx hb d_MD_makeSequence_149 ?_
              refine q_as (y := nI (lastP V r1 + 1)) (nI_add (lastP V r1) 1) ?_
              refine lv_iload_n hx hb d_MD_makeSequence_150 rfl (lv_at hl 5 rfl) ?_
              refine q_calliV [.int (nI (lastP V r1 + 1)), .int (nI pe)] M hI (c_MD_leftFrom l g ad (va_up ar 18 y) (va_up (va_up (va_up fl 8 (nI ((pr ++ runAt V r1).length))) 11 (nI (L (LFn V (off V r0))))) 9 (nI ((max (L (LFn V (off V r0))) (lvA V L (off V r0) base)) % 2))) (lastP V r1 + 1) pe (by omega) (by omega)) ok_MD_leftFrom m5_154 m5_156 ms_63 0 rfl rfl rfl rfl hl.1 ⟨rfl, rfl⟩ ⟨Nat.le_of_ble_eq_true rfl, Nat.le_of_ble_eq_true rfl⟩ (Nat.le_of_ble_eq_true rfl) ⟨Nat.le_of_ble_eq_true rfl, Nat.le_of_ble_eq_true rfl⟩ d_MD_makeSequence_151 (fun r151 u151 H locs hp151 hI => ?_)
              refine q_as (y := nI (lfr (ar 12) (pe - (lastP V r1 + 1)) (lastP V r1 + 1))) hp151 ?_
              refine q_as (y := nI (nxP V pe (off V r1 + (runAt V r1).length))) (by have := nx_of hbp hs (i := off V r1 + (runAt V r1).length - 1) (by rw [← hV]; omega); rw [← hV, show off V r1 + (runAt V r1).length - 1 + 1 = off V r1 + (runAt V r1).length by omega] at this; exact congrArg nI this) ?_
              have hnb : nxP V pe (off V r1 + (runAt V r1).length) ≤ pe := nxP_le hLp
              refine lv_istore (lv' := [(8, .int (nI (nxP V pe (off V r1 + (runAt V r1).length)))), (7, .int (nI (lvA V L (off V r0) base))), (6, .int (bk V b (off V r0))), (0, .ref (ad 0)), (1, .int (nI x)), (2, .int (nI b)), (3, .int (nI pe)), (4, .int (nI base)), (5, .int (nI (lastP V r1)))]) hx hb d_MD_makeSequence_154 hl (by decide) rfl (fun ls hl => ?_)
              refine lv_aload_n hx hb d_MD_makeSequence_156 rfl (lv_at hl 3 rfl) ?_
              refine g_MD_34 M hI d_MD_makeSequence_157 ?_
              refine lv_iload hx hb d_MD_makeSequence_160 (lv_at hl 8 rfl) ?_
              refine bl_9 M hI (lastP V r1) rfl (hl1.1) d_MD_makeSequence_162 ?_
              refine q_as (y := ar 9 (lastP V r1)) rfl ?_
              refine q_calliS [.int (ar 9 (lastP V r1))] M hI (c_MD_isIsolate l g (mw g ad (va_up ar 18 y) (va_up (va_up (va_up fl 8 (nI ((pr ++ runAt V r1).length))) 11 (nI (L (LFn V (off V r0))))) 9 (nI ((max (L (LFn V (off V r0))) (lvA V L (off V r0) base)) % 2)))) (ar 9 (lastP V r1))) ok_MD_isIsolate m5_107 m5_108 rfl rfl hl.1 ⟨rfl, rfl⟩ ⟨Nat.le_of_ble_eq_true rfl, Nat.le_of_ble_eq_true rfl⟩ (Nat.le_of_ble_eq_true rfl) ⟨Nat.le_of_ble_eq_true rfl, Nat.le_of_ble_eq_true rfl⟩ d_MD_makeSequence_163 (fun r163 u163 H locs hp163 hI => ?_)
              refine q_as (y := bI (isol (ar 9 (lastP V r1)))) hp163 ?_
              refine lv_istore (lv' := [(9, .int (bI (isol (ar 9 (lastP V r1))))), (8, .int (nI (nxP V pe (off V r1 + (runAt V r1).length)))), (7, .int (nI (lvA V L (off V r0) base))), (6, .int (bk V b (off V r0))), (0, .ref (ad 0)), (1, .int (nI x)), (2, .int (nI b)), (3, .int (nI pe)), (4, .int (nI base)), (5, .int (nI (lastP V r1)))]) hx hb d_MD_makeSequence_166 hl (by decide) rfl (fun ls hl => ?_)
              refine lv_iload hx hb d_MD_makeSequence_168 (lv_at hl 1 rfl) ?_
              refine lv_iload_n hx hb d_MD_makeSequence_170 rfl (lv_at hl 7 rfl) ?_
              refine lv_icmp_ge (tgt := 179) hx hb d_MD_makeSequence_171 (by decide) (fun c171 => ?_) (fun c171 => ?_)
              · have c171 : pe ≤ nxP V pe (off V r1 + (runAt V r1).length) := (nI_leI (a := pe) (b := nxP V pe (off V r1 + (runAt V r1).length)) (by omega) (by omega)).mp c171
                have hlb9 : lvB V (ar 9) L (off V r1 + (runAt V r1).length) base = base := by unfold lvB; apply if_neg; intro z; have := nxP_ge hLp c171; omega
                refine lv_iload hx hb d_MD_makeSequence_179 (lv_at hl 8 rfl) ?_
                refine q_as (y := nI (lvB V (ar 9) L (off V r1 + (runAt V r1).length) base)) (by rw [hlb9]) ?_
                refine lv_goto (tgt := 191) hx hb d_MD_makeSequence_181 (by decide) ?_
                have hlb : lvB V (ar 9) L (off V r1 + (runAt V r1).length) base ≤ 125 := by unfold lvB; split; (rename_i q; exact (hL _ (LFn_mem q.1)).2); omega
                refine lv_istore (lv' := [(7, .int (nI (lvB V (ar 9) L (off V r1 + (runAt V r1).length) base))), (9, .int (bI (isol (ar 9 (lastP V r1))))), (8, .int (nI (nxP V pe (off V r1 + (runAt V r1).length)))), (6, .int (bk V b (off V r0))), (0, .ref (ad 0)), (1, .int (nI x)), (2, .int (nI b)), (3, .int (nI pe)), (4, .int (nI base)), (5, .int (nI (lastP V r1)))]) hx hb d_MD_makeSequence_191 hl (by decide) rfl (fun ls hl => ?_)
                refine lv_aload_n hx hb d_MD_makeSequence_193 rfl (lv_at hl 4 rfl) ?_
                refine lv_iload hx hb d_MD_makeSequence_194 (lv_at hl 0 rfl) ?_
                refine lv_aload_n hx hb d_MD_makeSequence_196 rfl (lv_at hl 4 rfl) ?_
                refine g_MD_165 M hI d_MD_makeSequence_197 ?_
                refine q_as (y := nI (L (LFn V (off V r0)))) rfl ?_
                refine lv_icmp_le (tgt := 208) hx hb d_MD_makeSequence_200 (by decide) (fun c200 => ?_) (fun c200 => ?_)
                · have c200 : lvB V (ar 9) L (off V r1 + (runAt V r1).length) base ≤ L (LFn V (off V r0)) := (nI_leI (a := lvB V (ar 9) L (off V r1 + (runAt V r1).length) base) (b := L (LFn V (off V r0))) (by omega) (by omega)).mp c200
                  refine lv_aload_n hx hb d_MD_makeSequence_208 rfl (lv_at hl 4 rfl) ?_
                  refine g_MD_165 M hI d_MD_makeSequence_209 ?_
                  refine q_as (y := nI (L (LFn V (off V r0)))) rfl ?_
                  refine q_as (y := nI (max (L (LFn V (off V r0))) (lvB V (ar 9) L (off V r1 + (runAt V r1).length) base))) (congrArg nI (by omega)) ?_
                  refine q_calliS [.int (nI (max (L (LFn V (off V r0))) (lvB V (ar 9) L (off V r1 + (runAt V r1).length) base)))] M hI (c_MD_directionOf l g (mw g ad (va_up ar 18 y) (va_up (va_up (va_up fl 8 (nI ((pr ++ runAt V r1).length))) 11 (nI (L (LFn V (off V r0))))) 9 (nI ((max (L (LFn V (off V r0))) (lvA V L (off V r0) base)) % 2)))) (max (L (LFn V (off V r0))) (lvB V (ar 9) L (off V r1 + (runAt V r1).length) base)) (by omega)) ok_MD_directionOf m5_158 m5_159 rfl rfl hl.1 ⟨rfl, rfl⟩ ⟨Nat.le_of_ble_eq_true rfl, Nat.le_of_ble_eq_true rfl⟩ (Nat.le_of_ble_eq_true rfl) ⟨Nat.le_of_ble_eq_true rfl, Nat.le_of_ble_eq_true rfl⟩ d_MD_makeSequence_212 (fun r212 u212 H locs hp212 hI => ?_)
                  refine q_as (y := nI ((max (L (LFn V (off V r0))) (lvB V (ar 9) L (off V r1 + (runAt V r1).length) base)) % 2)) hp212 ?_
                  refine p_MD_174 M hI d_MD_makeSequence_215 (fun H locs hI => ?_)
                  have hI : CI g A s (mw g ad (va_up ar 18 y) (va_up (va_up (va_up (va_up fl 8 (nI ((pr ++ runAt V r1).length))) 11 (nI (L (LFn V (off V r0))))) 9 (nI ((max (L (LFn V (off V r0))) (lvA V L (off V r0) base)) % 2))) 10 (nI ((max (L (LFn V (off V r0))) (lvB V (ar 9) L (off V r1 + (runAt V r1).length) base)) % 2)))) H locs := hI
                  have hI := CI.to (w2 := mw g ad (va_up ar 18 y) (va_up (va_up (va_up (va_up fl 8 (nI (SQ V (ar 9) (ar 13) r0).length)) 11 (nI (L (LFn V (off V r0))))) 9 (nI (max (L (LFn V (off V r0))) (lvA V L (off V r0) base) % 2))) 10 (nI (max (L (LFn V (off V r0))) (lvB V (ar 9) L (off V (LR V (ar 9) (ar 13) r0) + (runAt V (LR V (ar 9) (ar 13) r0)).length) base) % 2)))) hI (by rw [hSQ, hLR] <;> rfl)
                  exact hret y _ _ _ _ _ _ d_MD_makeSequence_218 hI (by rw [hSQ]; exact hy) (Nat.le_refl 0) (Nat.le_refl 0)
                · have c200 : ¬ lvB V (ar 9) L (off V r1 + (runAt V r1).length) base ≤ L (LFn V (off V r0)) := fun h => c200 ((nI_leI (a := lvB V (ar 9) L (off V r1 + (runAt V r1).length) base) (b := L (LFn V (off V r0))) (by omega) (by omega)).mpr h)
                  refine lv_iload hx hb d_MD_makeSequence_203 (lv_at hl 0 rfl) ?_
                  refine q_as (y := nI (max (L (LFn V (off V r0))) (lvB V (ar 9) L (off V r1 + (runAt V r1).length) base))) (congrArg nI (by omega)) ?_
                  refine lv_goto (tgt := 212) hx hb d_MD_makeSequence_205 (by decide) ?_
                  refine q_calliS [.int (nI (max (L (LFn V (off V r0))) (lvB V (ar 9) L (off V r1 + (runAt V r1).length) base)))] M hI (c_MD_directionOf l g (mw g ad (va_up ar 18 y) (va_up (va_up (va_up fl 8 (nI ((pr ++ runAt V r1).length))) 11 (nI (L (LFn V (off V r0))))) 9 (nI ((max (L (LFn V (off V r0))) (lvA V L (off V r0) base)) % 2)))) (max (L (LFn V (off V r0))) (lvB V (ar 9) L (off V r1 + (runAt V r1).length) base)) (by omega)) ok_MD_directionOf m5_158 m5_159 rfl rfl hl.1 ⟨rfl, rfl⟩ ⟨Nat.le_of_ble_eq_true rfl, Nat.le_of_ble_eq_true rfl⟩ (Nat.le_of_ble_eq_true rfl) ⟨Nat.le_of_ble_eq_true rfl, Nat.le_of_ble_eq_true rfl⟩ d_MD_makeSequence_212 (fun r212 u212 H locs hp212 hI => ?_)
                  refine q_as (y := nI ((max (L (LFn V (off V r0))) (lvB V (ar 9) L (off V r1 + (runAt V r1).length) base)) % 2)) hp212 ?_
                  refine p_MD_174 M hI d_MD_makeSequence_215 (fun H locs hI => ?_)
                  have hI : CI g A s (mw g ad (va_up ar 18 y) (va_up (va_up (va_up (va_up fl 8 (nI ((pr ++ runAt V r1).length))) 11 (nI (L (LFn V (off V r0))))) 9 (nI ((max (L (LFn V (off V r0))) (lvA V L (off V r0) base)) % 2))) 10 (nI ((max (L (LFn V (off V r0))) (lvB V (ar 9) L (off V r1 + (runAt V r1).length) base)) % 2)))) H locs := hI
                  have hI := CI.to (w2 := mw g ad (va_up ar 18 y) (va_up (va_up (va_up (va_up fl 8 (nI (SQ V (ar 9) (ar 13) r0).length)) 11 (nI (L (LFn V (off V r0))))) 9 (nI (max (L (LFn V (off V r0))) (lvA V L (off V r0) base) % 2))) 10 (nI (max (L (LFn V (off V r0))) (lvB V (ar 9) L (off V (LR V (ar 9) (ar 13) r0) + (runAt V (LR V (ar 9) (ar 13) r0)).length) base) % 2)))) hI (by rw [hSQ, hLR] <;> rfl)
                  exact hret y _ _ _ _ _ _ d_MD_makeSequence_218 hI (by rw [hSQ]; exact hy) (Nat.le_refl 0) (Nat.le_refl 0)
              · have c171 : ¬ pe ≤ nxP V pe (off V r1 + (runAt V r1).length) := fun h => c171 ((nI_leI (a := pe) (b := nxP V pe (off V r1 + (runAt V r1).length)) (by omega) (by omega)).mpr h)
                have hz9 : off V r1 + (runAt V r1).length < tot V := (nxP_lt c171).1
                have q9 : nxP V pe (off V r1 + (runAt V r1).length) = LFn V (off V r1 + (runAt V r1).length) := (nxP_lt c171).2
                have hb9 := hLF _ hz9
                rw [q9] at hl
                refine lv_iload hx hb d_MD_makeSequence_174 (lv_at hl 0 rfl) ?_
                refine lv_if_eq (tgt := 184) hx hb d_MD_makeSequence_176 (by decide) (fun c176 => ?_) (fun c176 => ?_)
                · have c176 := bI_eq0.mp c176
                  have hlb9 : lvB V (ar 9) L (off V r1 + (runAt V r1).length) base = L (LFn V (off V r1 + (runAt V r1).length)) := by unfold lvB; exact if_pos ⟨hz9, c176⟩
                  refine lv_aload_n hx hb d_MD_makeSequence_184 rfl (lv_at hl 4 rfl) ?_
                  refine g_MD_43 M hI d_MD_makeSequence_185 ?_
                  refine lv_iload hx hb d_MD_makeSequence_188 (lv_at hl 1 rfl) ?_
                  refine bl_12 M hI (LFn V (off V r1 + (runAt V r1).length)) rfl (by omega) d_MD_makeSequence_190 ?_
                  refine q_as (y := nI (lvB V (ar 9) L (off V r1 + (runAt V r1).length) base)) (by rw [hlb9]; exact (hL _ (LFn_mem hz9)).1) ?_
                  have hlb : lvB V (ar 9) L (off V r1 + (runAt V r1).length) base ≤ 125 := by unfold lvB; split; (rename_i q; exact (hL _ (LFn_mem q.1)).2); omega
                  refine lv_istore (lv' := [(7, .int (nI (lvB V (ar 9) L (off V r1 + (runAt V r1).length) base))), (9, .int (bI (isol (ar 9 (lastP V r1))))), (8, .int (nI (LFn V (off V r1 + (runAt V r1).length)))), (6, .int (bk V b (off V r0))), (0, .ref (ad 0)), (1, .int (nI x)), (2, .int (nI b)), (3, .int (nI pe)), (4, .int (nI base)), (5, .int (nI (lastP V r1)))]) hx hb d_MD_makeSequence_191 hl (by decide) rfl (fun ls hl => ?_)
                  refine lv_aload_n hx hb d_MD_makeSequence_193 rfl (lv_at hl 4 rfl) ?_
                  refine lv_iload hx hb d_MD_makeSequence_194 (lv_at hl 0 rfl) ?_
                  refine lv_aload_n hx hb d_MD_makeSequence_196 rfl (lv_at hl 4 rfl) ?_
                  refine g_MD_165 M hI d_MD_makeSequence_197 ?_
                  refine q_as (y := nI (L (LFn V (off V r0)))) rfl ?_
                  refine lv_icmp_le (tgt := 208) hx hb d_MD_makeSequence_200 (by decide) (fun c200 => ?_) (fun c200 => ?_)
                  · have c200 : lvB V (ar 9) L (off V r1 + (runAt V r1).length) base ≤ L (LFn V (off V r0)) := (nI_leI (a := lvB V (ar 9) L (off V r1 + (runAt V r1).length) base) (b := L (LFn V (off V r0))) (by omega) (by omega)).mp c200
                    refine lv_aload_n hx hb d_MD_makeSequence_208 rfl (lv_at hl 4 rfl) ?_
                    refine g_MD_165 M hI d_MD_makeSequence_209 ?_
                    refine q_as (y := nI (L (LFn V (off V r0)))) rfl ?_
                    refine q_as (y := nI (max (L (LFn V (off V r0))) (lvB V (ar 9) L (off V r1 + (runAt V r1).length) base))) (congrArg nI (by omega)) ?_
                    refine q_calliS [.int (nI (max (L (LFn V (off V r0))) (lvB V (ar 9) L (off V r1 + (runAt V r1).length) base)))] M hI (c_MD_directionOf l g (mw g ad (va_up ar 18 y) (va_up (va_up (va_up fl 8 (nI ((pr ++ runAt V r1).length))) 11 (nI (L (LFn V (off V r0))))) 9 (nI ((max (L (LFn V (off V r0))) (lvA V L (off V r0) base)) % 2)))) (max (L (LFn V (off V r0))) (lvB V (ar 9) L (off V r1 + (runAt V r1).length) base)) (by omega)) ok_MD_directionOf m5_158 m5_159 rfl rfl hl.1 ⟨rfl, rfl⟩ ⟨Nat.le_of_ble_eq_true rfl, Nat.le_of_ble_eq_true rfl⟩ (Nat.le_of_ble_eq_true rfl) ⟨Nat.le_of_ble_eq_true rfl, Nat.le_of_ble_eq_true rfl⟩ d_MD_makeSequence_212 (fun r212 u212 H locs hp212 hI => ?_)
                    refine q_as (y := nI ((max (L (LFn V (off V r0))) (lvB V (ar 9) L (off V r1 + (runAt V r1).length) base)) % 2)) hp212 ?_
                    refine p_MD_174 M hI d_MD_makeSequence_215 (fun H locs hI => ?_)
                    have hI : CI g A s (mw g ad (va_up ar 18 y) (va_up (va_up (va_up (va_up fl 8 (nI ((pr ++ runAt V r1).length))) 11 (nI (L (LFn V (off V r0))))) 9 (nI ((max (L (LFn V (off V r0))) (lvA V L (off V r0) base)) % 2))) 10 (nI ((max (L (LFn V (off V r0))) (lvB V (ar 9) L (off V r1 + (runAt V r1).length) base)) % 2)))) H locs := hI
                    have hI := CI.to (w2 := mw g ad (va_up ar 18 y) (va_up (va_up (va_up (va_up fl 8 (nI (SQ V (ar 9) (ar 13) r0).length)) 11 (nI (L (LFn V (off V r0))))) 9 (nI (max (L (LFn V (off V r0))) (lvA V L (off V r0) base) % 2))) 10 (nI (max (L (LFn V (off V r0))) (lvB V (ar 9) L (off V (LR V (ar 9) (ar 13) r0) + (runAt V (LR V (ar 9) (ar 13) r0)).length) base) % 2)))) hI (by rw [hSQ, hLR] <;> rfl)
                    exact hret y _ _ _ _ _ _ d_MD_makeSequence_218 hI (by rw [hSQ]; exact hy) (Nat.le_refl 0) (Nat.le_refl 0)
                  · have c200 : ¬ lvB V (ar 9) L (off V r1 + (runAt V r1).length) base ≤ L (LFn V (off V r0)) := fun h => c200 ((nI_leI (a := lvB V (ar 9) L (off V r1 + (runAt V r1).length) base) (b := L (LFn V (off V r0))) (by omega) (by omega)).mpr h)
                    refine lv_iload hx hb d_MD_makeSequence_203 (lv_at hl 0 rfl) ?_
                    refine q_as (y := nI (max (L (LFn V (off V r0))) (lvB V (ar 9) L (off V r1 + (runAt V r1).length) base))) (congrArg nI (by omega)) ?_
                    refine lv_goto (tgt := 212) hx hb d_MD_makeSequence_205 (by decide) ?_
                    refine q_calliS [.int (nI (max (L (LFn V (off V r0))) (lvB V (ar 9) L (off V r1 + (runAt V r1).length) base)))] M hI (c_MD_directionOf l g (mw g ad (va_up ar 18 y) (va_up (va_up (va_up fl 8 (nI ((pr ++ runAt V r1).length))) 11 (nI (L (LFn V (off V r0))))) 9 (nI ((max (L (LFn V (off V r0))) (lvA V L (off V r0) base)) % 2)))) (max (L (LFn V (off V r0))) (lvB V (ar 9) L (off V r1 + (runAt V r1).length) base)) (by omega)) ok_MD_directionOf m5_158 m5_159 rfl rfl hl.1 ⟨rfl, rfl⟩ ⟨Nat.le_of_ble_eq_true rfl, Nat.le_of_ble_eq_true rfl⟩ (Nat.le_of_ble_eq_true rfl) ⟨Nat.le_of_ble_eq_true rfl, Nat.le_of_ble_eq_true rfl⟩ d_MD_makeSequence_212 (fun r212 u212 H locs hp212 hI => ?_)
                    refine q_as (y := nI ((max (L (LFn V (off V r0))) (lvB V (ar 9) L (off V r1 + (runAt V r1).length) base)) % 2)) hp212 ?_
                    refine p_MD_174 M hI d_MD_makeSequence_215 (fun H locs hI => ?_)
                    have hI : CI g A s (mw g ad (va_up ar 18 y) (va_up (va_up (va_up (va_up fl 8 (nI ((pr ++ runAt V r1).length))) 11 (nI (L (LFn V (off V r0))))) 9 (nI ((max (L (LFn V (off V r0))) (lvA V L (off V r0) base)) % 2))) 10 (nI ((max (L (LFn V (off V r0))) (lvB V (ar 9) L (off V r1 + (runAt V r1).length) base)) % 2)))) H locs := hI
                    have hI := CI.to (w2 := mw g ad (va_up ar 18 y) (va_up (va_up (va_up (va_up fl 8 (nI (SQ V (ar 9) (ar 13) r0).length)) 11 (nI (L (LFn V (off V r0))))) 9 (nI (max (L (LFn V (off V r0))) (lvA V L (off V r0) base) % 2))) 10 (nI (max (L (LFn V (off V r0))) (lvB V (ar 9) L (off V (LR V (ar 9) (ar 13) r0) + (runAt V (LR V (ar 9) (ar 13) r0)).length) base) % 2)))) hI (by rw [hSQ, hLR] <;> rfl)
                    exact hret y _ _ _ _ _ _ d_MD_makeSequence_218 hI (by rw [hSQ]; exact hy) (Nat.le_refl 0) (Nat.le_refl 0)
                · have c176 := bI_ne0.mp c176
                  have hlb9 : lvB V (ar 9) L (off V r1 + (runAt V r1).length) base = base := by unfold lvB; apply if_neg; intro z; exact z.2 c176
                  refine lv_iload hx hb d_MD_makeSequence_179 (lv_at hl 8 rfl) ?_
                  refine q_as (y := nI (lvB V (ar 9) L (off V r1 + (runAt V r1).length) base)) (by rw [hlb9]) ?_
                  refine lv_goto (tgt := 191) hx hb d_MD_makeSequence_181 (by decide) ?_
                  have hlb : lvB V (ar 9) L (off V r1 + (runAt V r1).length) base ≤ 125 := by unfold lvB; split; (rename_i q; exact (hL _ (LFn_mem q.1)).2); omega
                  refine lv_istore (lv' := [(7, .int (nI (lvB V (ar 9) L (off V r1 + (runAt V r1).length) base))), (9, .int (bI (isol (ar 9 (lastP V r1))))), (8, .int (nI (LFn V (off V r1 + (runAt V r1).length)))), (6, .int (bk V b (off V r0))), (0, .ref (ad 0)), (1, .int (nI x)), (2, .int (nI b)), (3, .int (nI pe)), (4, .int (nI base)), (5, .int (nI (lastP V r1)))]) hx hb d_MD_makeSequence_191 hl (by decide) rfl (fun ls hl => ?_)
                  refine lv_aload_n hx hb d_MD_makeSequence_193 rfl (lv_at hl 4 rfl) ?_
                  refine lv_iload hx hb d_MD_makeSequence_194 (lv_at hl 0 rfl) ?_
                  refine lv_aload_n hx hb d_MD_makeSequence_196 rfl (lv_at hl 4 rfl) ?_
                  refine g_MD_165 M hI d_MD_makeSequence_197 ?_
                  refine q_as (y := nI (L (LFn V (off V r0)))) rfl ?_
                  refine lv_icmp_le (tgt := 208) hx hb d_MD_makeSequence_200 (by decide) (fun c200 => ?_) (fun c200 => ?_)
                  · have c200 : lvB V (ar 9) L (off V r1 + (runAt V r1).length) base ≤ L (LFn V (off V r0)) := (nI_leI (a := lvB V (ar 9) L (off V r1 + (runAt V r1).length) base) (b := L (LFn V (off V r0))) (by omega) (by omega)).mp c200
                    refine lv_aload_n hx hb d_MD_makeSequence_208 rfl (lv_at hl 4 rfl) ?_
                    refine g_MD_165 M hI d_MD_makeSequence_209 ?_
                    refine q_as (y := nI (L (LFn V (off V r0)))) rfl ?_
                    refine q_as (y := nI (max (L (LFn V (off V r0))) (lvB V (ar 9) L (off V r1 + (runAt V r1).length) base))) (congrArg nI (by omega)) ?_
                    refine q_calliS [.int (nI (max (L (LFn V (off V r0))) (lvB V (ar 9) L (off V r1 + (runAt V r1).length) base)))] M hI (c_MD_directionOf l g (mw g ad (va_up ar 18 y) (va_up (va_up (va_up fl 8 (nI ((pr ++ runAt V r1).length))) 11 (nI (L (LFn V (off V r0))))) 9 (nI ((max (L (LFn V (off V r0))) (lvA V L (off V r0) base)) % 2)))) (max (L (LFn V (off V r0))) (lvB V (ar 9) L (off V r1 + (runAt V r1).length) base)) (by omega)) ok_MD_directionOf m5_158 m5_159 rfl rfl hl.1 ⟨rfl, rfl⟩ ⟨Nat.le_of_ble_eq_true rfl, Nat.le_of_ble_eq_true rfl⟩ (Nat.le_of_ble_eq_true rfl) ⟨Nat.le_of_ble_eq_true rfl, Nat.le_of_ble_eq_true rfl⟩ d_MD_makeSequence_212 (fun r212 u212 H locs hp212 hI => ?_)
                    refine q_as (y := nI ((max (L (LFn V (off V r0))) (lvB V (ar 9) L (off V r1 + (runAt V r1).length) base)) % 2)) hp212 ?_
                    refine p_MD_174 M hI d_MD_makeSequence_215 (fun H locs hI => ?_)
                    have hI : CI g A s (mw g ad (va_up ar 18 y) (va_up (va_up (va_up (va_up fl 8 (nI ((pr ++ runAt V r1).length))) 11 (nI (L (LFn V (off V r0))))) 9 (nI ((max (L (LFn V (off V r0))) (lvA V L (off V r0) base)) % 2))) 10 (nI ((max (L (LFn V (off V r0))) (lvB V (ar 9) L (off V r1 + (runAt V r1).length) base)) % 2)))) H locs := hI
                    have hI := CI.to (w2 := mw g ad (va_up ar 18 y) (va_up (va_up (va_up (va_up fl 8 (nI (SQ V (ar 9) (ar 13) r0).length)) 11 (nI (L (LFn V (off V r0))))) 9 (nI (max (L (LFn V (off V r0))) (lvA V L (off V r0) base) % 2))) 10 (nI (max (L (LFn V (off V r0))) (lvB V (ar 9) L (off V (LR V (ar 9) (ar 13) r0) + (runAt V (LR V (ar 9) (ar 13) r0)).length) base) % 2)))) hI (by rw [hSQ, hLR] <;> rfl)
                    exact hret y _ _ _ _ _ _ d_MD_makeSequence_218 hI (by rw [hSQ]; exact hy) (Nat.le_refl 0) (Nat.le_refl 0)
                  · have c200 : ¬ lvB V (ar 9) L (off V r1 + (runAt V r1).length) base ≤ L (LFn V (off V r0)) := fun h => c200 ((nI_leI (a := lvB V (ar 9) L (off V r1 + (runAt V r1).length) base) (b := L (LFn V (off V r0))) (by omega) (by omega)).mpr h)
                    refine lv_iload hx hb d_MD_makeSequence_203 (lv_at hl 0 rfl) ?_
                    refine q_as (y := nI (max (L (LFn V (off V r0))) (lvB V (ar 9) L (off V r1 + (runAt V r1).length) base))) (congrArg nI (by omega)) ?_
                    refine lv_goto (tgt := 212) hx hb d_MD_makeSequence_205 (by decide) ?_
                    refine q_calliS [.int (nI (max (L (LFn V (off V r0))) (lvB V (ar 9) L (off V r1 + (runAt V r1).length) base)))] M hI (c_MD_directionOf l g (mw g ad (va_up ar 18 y) (va_up (va_up (va_up fl 8 (nI ((pr ++ runAt V r1).length))) 11 (nI (L (LFn V (off V r0))))) 9 (nI ((max (L (LFn V (off V r0))) (lvA V L (off V r0) base)) % 2)))) (max (L (LFn V (off V r0))) (lvB V (ar 9) L (off V r1 + (runAt V r1).length) base)) (by omega)) ok_MD_directionOf m5_158 m5_159 rfl rfl hl.1 ⟨rfl, rfl⟩ ⟨Nat.le_of_ble_eq_true rfl, Nat.le_of_ble_eq_true rfl⟩ (Nat.le_of_ble_eq_true rfl) ⟨Nat.le_of_ble_eq_true rfl, Nat.le_of_ble_eq_true rfl⟩ d_MD_makeSequence_212 (fun r212 u212 H locs hp212 hI => ?_)
                    refine q_as (y := nI ((max (L (LFn V (off V r0))) (lvB V (ar 9) L (off V r1 + (runAt V r1).length) base)) % 2)) hp212 ?_
                    refine p_MD_174 M hI d_MD_makeSequence_215 (fun H locs hI => ?_)
                    have hI : CI g A s (mw g ad (va_up ar 18 y) (va_up (va_up (va_up (va_up fl 8 (nI ((pr ++ runAt V r1).length))) 11 (nI (L (LFn V (off V r0))))) 9 (nI ((max (L (LFn V (off V r0))) (lvA V L (off V r0) base)) % 2))) 10 (nI ((max (L (LFn V (off V r0))) (lvB V (ar 9) L (off V r1 + (runAt V r1).length) base)) % 2)))) H locs := hI
                    have hI := CI.to (w2 := mw g ad (va_up ar 18 y) (va_up (va_up (va_up (va_up fl 8 (nI (SQ V (ar 9) (ar 13) r0).length)) 11 (nI (L (LFn V (off V r0))))) 9 (nI (max (L (LFn V (off V r0))) (lvA V L (off V r0) base) % 2))) 10 (nI (max (L (LFn V (off V r0))) (lvB V (ar 9) L (off V (LR V (ar 9) (ar 13) r0) + (runAt V (LR V (ar 9) (ar 13) r0)).length) base) % 2)))) hI (by rw [hSQ, hLR] <;> rfl)
                    exact hret y _ _ _ _ _ _ d_MD_makeSequence_218 hI (by rw [hSQ]; exact hy) (Nat.le_refl 0) (Nat.le_refl 0)
        · have hgo1 : goes V (ar 9) (ar 13) r1 := ⟨c35, fun z => by rw [z] at c45; exact c45 (by decide)⟩
          have hz := hi r1 hr1 hgo1
          have htn := okM_tn hmt hl1.1 hgo1.2
          obtain ⟨t9, ht9, et9⟩ := in_run (hgo r1 hr1 hgo1)
          have hl2 := hlst (nextR V (ar 13) r1) hz.2
          have hon := off_next hz.1 hz.2
          have hsq2 : (pr ++ runAt V r1) ++ SQ V (ar 9) (ar 13) (nextR V (ar 13) r1) = SQ V (ar 9) (ar 13) r0 := by rw [SQ_eq hi hr1, if_pos hgo1] at hsq; rw [List.append_assoc]; exact hsq
          have hlr2 : LR V (ar 9) (ar 13) (nextR V (ar 13) r1) = LR V (ar 9) (ar 13) r0 := by rw [LR_eq hi hr1, if_pos hgo1] at hlr; exact hlr
          refine lv_aload_n hx hb d_MD_makeSequence_48 rfl (lv_at hl 0 rfl) ?_
          refine lv_aload_n hx hb d_MD_makeSequence_49 rfl (lv_at hl 0 rfl) ?_
          refine g_MD_46 M hI d_MD_makeSequence_50 ?_
          refine lv_iload hx hb d_MD_makeSequence_53 (lv_at hl 5 rfl) ?_
          refine bl_13 M hI (lastP V r1) rfl (hl1.1) d_MD_makeSequence_55 ?_
          refine q_as (y := nI ((ar 13 (lastP V r1)).toNatClampNeg)) (htn.1) ?_
          refine lv_iload_n hx hb d_MD_makeSequence_56 rfl (lv_at hl 2 rfl) ?_
          refine lv_iload_n hx hb d_MD_makeSequence_57 rfl (lv_at hl 3 rfl) ?_
          refine q_callvV [.int (nI ((ar 13 (lastP V r1)).toNatClampNeg)), .int (nI b), .int (nI pe)] M hI (c_MD_addRun l g ad (va_up ar 18 y) (va_up fl 8 (nI ((pr ++ runAt V r1).length))) ((ar 13 (lastP V r1)).toNatClampNeg) b pe V (nextR V (ar 13) r1) t9 (pr ++ runAt V r1) (by first | exact hV | assumption | omega | rfl) (by first | exact hbp | assumption | omega | rfl) (by first | exact hpe | assumption | omega | rfl) (by first | exact hs | assumption | omega | rfl) (hz.2) (ht9) (et9.symm) (hy) (rfl) (by rw [List.length_append]; omega)) ok_MD_addRun m5_150 m5_152 ms_62 0 rfl rfl rfl rfl hl.1 ⟨rfl, rfl⟩ ⟨Nat.le_of_ble_eq_true rfl, Nat.le_of_ble_eq_true rfl⟩ (Nat.le_of_ble_eq_true rfl) ⟨Nat.le_of_ble_eq_true rfl, Nat.le_of_ble_eq_true rfl⟩ d_MD_makeSequence_58 (fun u58 H locs hp58 hI => ?_)
          obtain ⟨y_58, rfl⟩ : ∃ z, z = u58 := ⟨_, rfl⟩
          have hI : CI g A s (mw g ad (va_up ar 18 y_58) (va_up fl 8 (nI ((pr ++ runAt V r1) ++ runAt V (nextR V (ar 13) r1)).length))) H locs := hI
          have hln5 : 0 < (pr ++ runAt V r1 ++ runAt V (nextR V (ar 13) r1)).length ∧ (pr ++ runAt V r1 ++ runAt V (nextR V (ar 13) r1)).length ≤ 2000 := by rw [List.length_append, List.length_append]; omega
          have hp58 : sP y_58 (pr ++ runAt V r1 ++ runAt V (nextR V (ar 13) r1)) := hp58
          refine lv_aload_n hx hb d_MD_makeSequence_61 rfl (lv_at hl 0 rfl) ?_
          refine g_MD_62 M hI d_MD_makeSequence_62 ?_
          refine lv_aload_n hx hb d_MD_makeSequence_65 rfl (lv_at hl 0 rfl) ?_
          refine g_MD_155 M hI d_MD_makeSequence_66 ?_
          refine q_as (y := nI ((pr ++ runAt V r1) ++ runAt V (nextR V (ar 13) r1)).length) rfl ?_
          refine lv_iconst (v := 1) hx hb d_MD_makeSequence_69 (by decide) ?_
          refine lv_isub hx hb d_MD_makeSequence_70 ?_
          refine q_as (y := nI (((pr ++ runAt V r1) ++ runAt V (nextR V (ar 13) r1)).length - 1)) (pk_sub (a := ((pr ++ runAt V r1) ++ runAt V (nextR V (ar 13) r1)).length) (b := 1) (by omega)) ?_
          refine bl_18 M hI (((pr ++ runAt V r1) ++ runAt V (nextR V (ar 13) r1)).length - 1) rfl (by omega) d_MD_makeSequence_71 ?_
          refine q_as (y := nI (lastP V (nextR V (ar 13) r1))) (sP_last hv hz.2 hp58) ?_
          refine lv_istore (lv' := [(5, .int (nI (lastP V (nextR V (ar 13) r1)))), (0, .ref (ad 0)), (1, .int (nI x)), (2, .int (nI b)), (3, .int (nI pe)), (4, .int (nI base))]) hx hb d_MD_makeSequence_72 hl (by decide) rfl (fun ls hl => ?_)
          refine lv_goto (tgt := 25) hx hb d_MD_makeSequence_74 (by decide) ?_
          exact ih25 (nextR V (ar 13) r1) (pr ++ runAt V r1) y_58 (by omega) (hz.2) (hsq2) (hlr2) (by have := off_next hz.1 hz.2; rw [List.length_append]; omega) (hp58) _ _ _ hI (lv_sub hl [1, 2, 3, 4, 5, 0] rfl)
  exact L25 _ r0 ([]) y_9 (Nat.lt_succ_self _) (hr0) (rfl) (rfl) (Nat.zero_le _) (hp9) _ _ _ hI (lv_sub hl [1, 2, 3, 4, 5, 0] rfl)
theorem ra_r {v : Nat} (hv : v ≤ 125) : nI v - nI v / 2 * 2 = nI (v % 2) := pk_rem (by omega) (by decide) (by decide)
theorem ra_e {v : Nat} (hv : v ≤ 125) (h : nI v - nI v / 2 * 2 = 0) : v % 2 = 0 := by
  rw [ra_r hv] at h
  rcases Nat.mod_two_eq_zero_or_one v with z | z
  · exact z
  · rw [z] at h; exact absurd h (by decide)
theorem ra_o {v : Nat} (hv : v ≤ 125) (h : ¬ nI v - nI v / 2 * 2 = 0) : v % 2 = 1 := by
  rw [ra_r hv] at h
  rcases Nat.mod_two_eq_zero_or_one v with z | z
  · rw [z] at h; exact absurd rfl h
  · exact z
theorem ra_e1 {v : Nat} {k : Int32} (hv : v ≤ 125) (h : nI v - nI v / 2 * 2 = 0) (hk : k = 1) : nI v + 1 = nI (v + raO v k) := by
  have e : raO v k = 1 := by unfold raO; rw [if_neg (by have := ra_e hv h; omega), hk]; rfl
  rw [e]; exact nI_add v 1
theorem ra_e0 {v : Nat} {k : Int32} (hv : v ≤ 125) (h : nI v - nI v / 2 * 2 = 0) (hk : k = 0) : nI v + 0 = nI (v + raO v k) := by
  have e : raO v k = 0 := by unfold raO; rw [if_neg (by have := ra_e hv h; omega), hk]; rfl
  rw [e]; exact nI_add v 0
theorem ra_e2 {v : Nat} {k : Int32} (hv : v ≤ 125) (h : nI v - nI v / 2 * 2 = 0) (h1 : ¬ k = 1) (h0 : ¬ k = 0) (hk : k = 0 ∨ k = 1 ∨ k = 3 ∨ k = 6) : nI v + 2 = nI (v + raO v k) := by
  have e : raO v k = 2 := by unfold raO; rw [if_neg (by have := ra_e hv h; omega), if_pos ((hk.resolve_left h0).resolve_left h1)]
  rw [e]; exact nI_add v 2
theorem ra_o0 {v : Nat} {k : Int32} (hv : v ≤ 125) (h : ¬ nI v - nI v / 2 * 2 = 0) (hk : k = 1) : nI v + 0 = nI (v + raO v k) := by
  have e : raO v k = 0 := by unfold raO; rw [if_pos (ra_o hv h), hk]; rfl
  rw [e]; exact nI_add v 0
theorem ra_o1 {v : Nat} {k : Int32} (hv : v ≤ 125) (h : ¬ nI v - nI v / 2 * 2 = 0) (h1 : ¬ k = 1) (hk : k = 0 ∨ k = 1 ∨ k = 3 ∨ k = 6) : nI v + 1 = nI (v + raO v k) := by
  have e : raO v k = 1 := by
    unfold raO
    rw [if_pos (ra_o hv h), if_pos]
    rcases hk with z | z | z
    · exact Or.inl z
    · exact absurd z h1
    · exact Or.inr z
  rw [e]; exact nI_add v 1
abbrev rm_MD_raise : Room := { frames := 0, cells := 0, slots := 0, locals := 0 }
set_option maxHeartbeats 4000000 in
set_option maxRecDepth 100000 in
theorem c_MD_raise (l : Launch) (g : Geo) (ad : Nat → Nat) (ar : Nat → Nat → Int32) (fl : Nat → Int32) (b : Nat) (en : Nat) (L : Nat → Nat) (hbe : b ≤ en) (he : en ≤ 2000) (hL : ∀ j, b ≤ j → j < en → ¬ ar 12 j = -1 → ar 12 j = nI (L j) ∧ L j ≤ 125 ∧ (ar 10 j = 0 ∨ ar 10 j = 1 ∨ ar 10 j = 3 ∨ ar 10 j = 6)) : cMv l y_MD_raise (.code y_MD_raise b_MD_raise 7 none :: gw) rm_MD_raise g [.ref (ad 0), .int (nI b), .int (nI en)] (mw g ad ar fl) (fun (_ : Unit) => True) (fun (_ : Unit) => mw g ad (va_up ar 12 (pre en (raF b (ar 12) (ar 10) L) (ar 12))) fl) 0 0 := by
  refine cMv_of (by decide) (Nat.le_of_ble_eq_true rfl) ?_
  intro p e s m below meth c A Q ls M hnm hret hl hI
  have M : MC p s m ([.ref (ad 0), .int (nI b), .int (nI en)] : List Value).toArray meth c R_MD b_MD_raise 7 := M
  have hl : lv_has ls 7 [(0, .ref (ad 0)), (1, .int (nI b)), (2, .int (nI en))] := hl
  generalize ([.ref (ad 0), .int (nI b), .int (nI en)] : List Value).toArray = args at M hret ⊢
  have hx := M.1
  have hb := M.2.1
  refine lv_iload_n hx hb d_MD_raise_0 rfl (lv_at hl 1 rfl) ?_
  refine lv_istore_n (lv' := [(3, .int (nI b)), (0, .ref (ad 0)), (1, .int (nI b)), (2, .int (nI en))]) hx hb d_MD_raise_1 rfl hl (by decide) rfl (fun ls hl => ?_)
  have L2 : ∀ (fu : Nat) (i : Nat), (en - i) < fu → (b ≤ i) → (i ≤ en) → ∀ (H : Heap) (locs : List Loc) (ls : Array Slot), CI g A s (mw g ad (va_up ar 12 (pre i (raF b (ar 12) (ar 10) L) (ar 12))) fl) H locs → lv_has ls 7 [(0, .ref (ad 0)), (1, .int (nI b)), (2, .int (nI en)), (3, .int (nI i))] → W p l e rm_MD_raise s m args below meth c H locs 0 0 Q (F0 m 2 ls []) := by
    intro fu
    induction fu with
    | zero => intro i hm; exact absurd hm (Nat.not_lt_zero _)
    | succ fu ih2 =>
      intro i hm hi hi2 H locs ls hI hl
      refine lv_iload_n hx hb d_MD_raise_2 rfl (lv_at hl 3 rfl) ?_
      refine lv_iload_n hx hb d_MD_raise_3 rfl (lv_at hl 2 rfl) ?_
      refine lv_icmp_ge (tgt := 92) hx hb d_MD_raise_4 (by decide) (fun c4 => ?_) (fun c4 => ?_)
      · have c4 : en ≤ i := (nI_leI (a := en) (b := i) (by omega) (by omega)).mp c4
        have e9 : i = en := by omega
        subst e9
        exact hret () _ _ _ _ _ _ d_MD_raise_92 hI (trivial) (Nat.le_refl 0) (Nat.le_refl 0)
      · have c4 : ¬ en ≤ i := fun h => c4 ((nI_leI (a := en) (b := i) (by omega) (by omega)).mpr h)
        refine lv_aload_n hx hb d_MD_raise_7 rfl (lv_at hl 0 rfl) ?_
        refine g_MD_37 M hI d_MD_raise_8 ?_
        refine lv_iload_n hx hb d_MD_raise_11 rfl (lv_at hl 3 rfl) ?_
        refine bl_10 M hI i rfl (by omega) d_MD_raise_12 ?_
        refine q_as (y := ar 10 i) rfl ?_
        refine lv_istore (lv' := [(4, .int (ar 10 i)), (0, .ref (ad 0)), (1, .int (nI b)), (2, .int (nI en)), (3, .int (nI i))]) hx hb d_MD_raise_13 hl (by decide) rfl (fun ls hl => ?_)
        refine lv_aload_n hx hb d_MD_raise_15 rfl (lv_at hl 1 rfl) ?_
        refine g_MD_43 M hI d_MD_raise_16 ?_
        refine lv_iload_n hx hb d_MD_raise_19 rfl (lv_at hl 4 rfl) ?_
        refine bl_12 M hI i rfl (by omega) d_MD_raise_20 ?_
        refine q_as (y := ar 12 i) (pre_at) ?_
        refine lv_istore (lv' := [(5, .int (ar 12 i)), (4, .int (ar 10 i)), (0, .ref (ad 0)), (1, .int (nI b)), (2, .int (nI en)), (3, .int (nI i))]) hx hb d_MD_raise_21 hl (by decide) rfl (fun ls hl => ?_)
        refine lv_iload hx hb d_MD_raise_23 (lv_at hl 0 rfl) ?_
        refine lv_iconst (v := 2) hx hb d_MD_raise_25 (by decide) ?_
        refine lv_irem hx hb d_MD_raise_26 (by decide) ?_
        refine lv_if_ne (tgt := 53) hx hb d_MD_raise_27 (by decide) (fun c27 => ?_) (fun c27 => ?_)
        · refine lv_iload hx hb d_MD_raise_53 (lv_at hl 1 rfl) ?_
          refine lv_iconst (v := 1) hx hb d_MD_raise_55 (by decide) ?_
          refine lv_icmp_ne (tgt := 63) hx hb d_MD_raise_56 (by decide) (fun c56 => ?_) (fun c56 => ?_)
          · refine lv_iconst (v := 1) hx hb d_MD_raise_63 (by decide) ?_
            refine lv_istore (lv' := [(6, .int 1), (5, .int (ar 12 i)), (4, .int (ar 10 i)), (0, .ref (ad 0)), (1, .int (nI b)), (2, .int (nI en)), (3, .int (nI i))]) hx hb d_MD_raise_64 hl (by decide) rfl (fun ls hl => ?_)
            refine lv_aload_n hx hb d_MD_raise_66 rfl (lv_at hl 3 rfl) ?_
            refine g_MD_43 M hI d_MD_raise_67 ?_
            refine lv_iload_n hx hb d_MD_raise_70 rfl (lv_at hl 6 rfl) ?_
            refine lv_iload hx hb d_MD_raise_71 (lv_at hl 1 rfl) ?_
            refine lv_if_ge (tgt := 80) hx hb d_MD_raise_73 (by decide) (fun c73 => ?_) (fun c73 => ?_)
            · have hne : ¬ ar 12 i = -1 := fun z => by rw [z] at c73; exact absurd c73 (by decide)
              have hLi := hL i (by omega) (by omega) hne
              rw [hLi.1] at c27
              refine lv_iload hx hb d_MD_raise_80 (lv_at hl 1 rfl) ?_
              refine lv_iload hx hb d_MD_raise_82 (lv_at hl 0 rfl) ?_
              refine lv_iadd hx hb d_MD_raise_84 ?_
              refine q_as (y := nI (L i + raO (L i) (ar 10 i))) (by rw [hLi.1]; first | exact ra_e1 hLi.2.1 c27 c33 | exact ra_e0 hLi.2.1 c27 c42 | exact ra_e2 hLi.2.1 c27 c33 c42 hLi.2.2 | exact ra_o0 hLi.2.1 c27 c56 | exact ra_o1 hLi.2.1 c27 c56 hLi.2.2) ?_
              refine bs_12 M hI i rfl (by omega) d_MD_raise_85 (fun H locs hI => ?_)
              have hI : CI g A s (mw g ad (va_up ar 12 (upd (pre i (raF b (ar 12) (ar 10) L) (ar 12)) i (nI (L i + raO (L i) (ar 10 i))))) fl) H locs := hI
              rw [show upd (pre i (raF b (ar 12) (ar 10) L) (ar 12)) i (nI (L i + raO (L i) (ar 10 i))) = pre (i + 1) (raF b (ar 12) (ar 10) L) (ar 12) from pre_up (by unfold raF; first | (rw [if_pos (Or.inr hm1)]; exact hm1.symm) | (rw [if_neg (fun q => q.elim (by omega) hne)]))] at hI
              have hI : CI g A s (mw g ad (va_up ar 12 (pre (i + 1) (raF b (ar 12) (ar 10) L) (ar 12))) fl) H locs := hI
              refine lv_iinc (v := nI (i + 1)) (lv' := [(3, .int (nI (i + 1))), (6, .int 1), (5, .int (ar 12 i)), (4, .int (ar 10 i)), (0, .ref (ad 0)), (1, .int (nI b)), (2, .int (nI en))]) hx hb d_MD_raise_86 hl (k := 6) rfl (nI_add _ 1) (by decide) rfl (fun ls hl => ?_)
              refine lv_goto (tgt := 2) hx hb d_MD_raise_89 (by decide) ?_
              exact ih2 (i + 1) (by omega) (by first | assumption | omega) (by first | assumption | omega) _ _ _ hI (lv_sub hl [4, 5, 6, 0] rfl)
            · have hm1 : ar 12 i = -1 := Classical.byContradiction fun z => c73 (by have := hL i (by omega) (by omega) z; rw [this.1]; exact nI_pos' (by omega))
              refine lv_iconst (v := (-1)) hx hb d_MD_raise_76 (by decide) ?_
              refine lv_goto (tgt := 85) hx hb d_MD_raise_77 (by decide) ?_
              refine bs_12 M hI i rfl (by omega) d_MD_raise_85 (fun H locs hI => ?_)
              have hI : CI g A s (mw g ad (va_up ar 12 (upd (pre i (raF b (ar 12) (ar 10) L) (ar 12)) i (-1))) fl) H locs := hI
              rw [show upd (pre i (raF b (ar 12) (ar 10) L) (ar 12)) i (-1) = pre (i + 1) (raF b (ar 12) (ar 10) L) (ar 12) from pre_up (by unfold raF; first | (rw [if_pos (Or.inr hm1)]; exact hm1.symm) | (rw [if_neg (fun q => q.elim (by omega) hne)]))] at hI
              have hI : CI g A s (mw g ad (va_up ar 12 (pre (i + 1) (raF b (ar 12) (ar 10) L) (ar 12))) fl) H locs := hI
              refine lv_iinc (v := nI (i + 1)) (lv' := [(3, .int (nI (i + 1))), (6, .int 1), (5, .int (ar 12 i)), (4, .int (ar 10 i)), (0, .ref (ad 0)), (1, .int (nI b)), (2, .int (nI en))]) hx hb d_MD_raise_86 hl (k := 6) rfl (nI_add _ 1) (by decide) rfl (fun ls hl => ?_)
              refine lv_goto (tgt := 2) hx hb d_MD_raise_89 (by decide) ?_
              exact ih2 (i + 1) (by omega) (by first | assumption | omega) (by first | assumption | omega) _ _ _ hI (lv_sub hl [4, 5, 6, 0] rfl)
          · refine lv_iconst (v := 0) hx hb d_MD_raise_59 (by decide) ?_
            refine lv_goto (tgt := 64) hx hb d_MD_raise_60 (by decide) ?_
            refine lv_istore (lv' := [(6, .int 0), (5, .int (ar 12 i)), (4, .int (ar 10 i)), (0, .ref (ad 0)), (1, .int (nI b)), (2, .int (nI en)), (3, .int (nI i))]) hx hb d_MD_raise_64 hl (by decide) rfl (fun ls hl => ?_)
            refine lv_aload_n hx hb d_MD_raise_66 rfl (lv_at hl 3 rfl) ?_
            refine g_MD_43 M hI d_MD_raise_67 ?_
            refine lv_iload_n hx hb d_MD_raise_70 rfl (lv_at hl 6 rfl) ?_
            refine lv_iload hx hb d_MD_raise_71 (lv_at hl 1 rfl) ?_
            refine lv_if_ge (tgt := 80) hx hb d_MD_raise_73 (by decide) (fun c73 => ?_) (fun c73 => ?_)
            · have hne : ¬ ar 12 i = -1 := fun z => by rw [z] at c73; exact absurd c73 (by decide)
              have hLi := hL i (by omega) (by omega) hne
              rw [hLi.1] at c27
              refine lv_iload hx hb d_MD_raise_80 (lv_at hl 1 rfl) ?_
              refine lv_iload hx hb d_MD_raise_82 (lv_at hl 0 rfl) ?_
              refine lv_iadd hx hb d_MD_raise_84 ?_
              refine q_as (y := nI (L i + raO (L i) (ar 10 i))) (by rw [hLi.1]; first | exact ra_e1 hLi.2.1 c27 c33 | exact ra_e0 hLi.2.1 c27 c42 | exact ra_e2 hLi.2.1 c27 c33 c42 hLi.2.2 | exact ra_o0 hLi.2.1 c27 c56 | exact ra_o1 hLi.2.1 c27 c56 hLi.2.2) ?_
              refine bs_12 M hI i rfl (by omega) d_MD_raise_85 (fun H locs hI => ?_)
              have hI : CI g A s (mw g ad (va_up ar 12 (upd (pre i (raF b (ar 12) (ar 10) L) (ar 12)) i (nI (L i + raO (L i) (ar 10 i))))) fl) H locs := hI
              rw [show upd (pre i (raF b (ar 12) (ar 10) L) (ar 12)) i (nI (L i + raO (L i) (ar 10 i))) = pre (i + 1) (raF b (ar 12) (ar 10) L) (ar 12) from pre_up (by unfold raF; first | (rw [if_pos (Or.inr hm1)]; exact hm1.symm) | (rw [if_neg (fun q => q.elim (by omega) hne)]))] at hI
              have hI : CI g A s (mw g ad (va_up ar 12 (pre (i + 1) (raF b (ar 12) (ar 10) L) (ar 12))) fl) H locs := hI
              refine lv_iinc (v := nI (i + 1)) (lv' := [(3, .int (nI (i + 1))), (6, .int 0), (5, .int (ar 12 i)), (4, .int (ar 10 i)), (0, .ref (ad 0)), (1, .int (nI b)), (2, .int (nI en))]) hx hb d_MD_raise_86 hl (k := 6) rfl (nI_add _ 1) (by decide) rfl (fun ls hl => ?_)
              refine lv_goto (tgt := 2) hx hb d_MD_raise_89 (by decide) ?_
              exact ih2 (i + 1) (by omega) (by first | assumption | omega) (by first | assumption | omega) _ _ _ hI (lv_sub hl [4, 5, 6, 0] rfl)
            · have hm1 : ar 12 i = -1 := Classical.byContradiction fun z => c73 (by have := hL i (by omega) (by omega) z; rw [this.1]; exact nI_pos' (by omega))
              refine lv_iconst (v := (-1)) hx hb d_MD_raise_76 (by decide) ?_
              refine lv_goto (tgt := 85) hx hb d_MD_raise_77 (by decide) ?_
              refine bs_12 M hI i rfl (by omega) d_MD_raise_85 (fun H locs hI => ?_)
              have hI : CI g A s (mw g ad (va_up ar 12 (upd (pre i (raF b (ar 12) (ar 10) L) (ar 12)) i (-1))) fl) H locs := hI
              rw [show upd (pre i (raF b (ar 12) (ar 10) L) (ar 12)) i (-1) = pre (i + 1) (raF b (ar 12) (ar 10) L) (ar 12) from pre_up (by unfold raF; first | (rw [if_pos (Or.inr hm1)]; exact hm1.symm) | (rw [if_neg (fun q => q.elim (by omega) hne)]))] at hI
              have hI : CI g A s (mw g ad (va_up ar 12 (pre (i + 1) (raF b (ar 12) (ar 10) L) (ar 12))) fl) H locs := hI
              refine lv_iinc (v := nI (i + 1)) (lv' := [(3, .int (nI (i + 1))), (6, .int 0), (5, .int (ar 12 i)), (4, .int (ar 10 i)), (0, .ref (ad 0)), (1, .int (nI b)), (2, .int (nI en))]) hx hb d_MD_raise_86 hl (k := 6) rfl (nI_add _ 1) (by decide) rfl (fun ls hl => ?_)
              refine lv_goto (tgt := 2) hx hb d_MD_raise_89 (by decide) ?_
              exact ih2 (i + 1) (by omega) (by first | assumption | omega) (by first | assumption | omega) _ _ _ hI (lv_sub hl [4, 5, 6, 0] rfl)
        · refine lv_iload hx hb d_MD_raise_30 (lv_at hl 1 rfl) ?_
          refine lv_iconst (v := 1) hx hb d_MD_raise_32 (by decide) ?_
          refine lv_icmp_ne (tgt := 40) hx hb d_MD_raise_33 (by decide) (fun c33 => ?_) (fun c33 => ?_)
          · refine lv_iload hx hb d_MD_raise_40 (lv_at hl 1 rfl) ?_
            refine lv_if_ne (tgt := 49) hx hb d_MD_raise_42 (by decide) (fun c42 => ?_) (fun c42 => ?_)
            · refine lv_iconst (v := 2) hx hb d_MD_raise_49 (by decide) ?_
              refine lv_goto (tgt := 64) hx hb d_MD_raise_50 (by decide) ?_
              refine lv_istore (lv' := [(6, .int 2), (5, .int (ar 12 i)), (4, .int (ar 10 i)), (0, .ref (ad 0)), (1, .int (nI b)), (2, .int (nI en)), (3, .int (nI i))]) hx hb d_MD_raise_64 hl (by decide) rfl (fun ls hl => ?_)
              refine lv_aload_n hx hb d_MD_raise_66 rfl (lv_at hl 3 rfl) ?_
              refine g_MD_43 M hI d_MD_raise_67 ?_
              refine lv_iload_n hx hb d_MD_raise_70 rfl (lv_at hl 6 rfl) ?_
              refine lv_iload hx hb d_MD_raise_71 (lv_at hl 1 rfl) ?_
              refine lv_if_ge (tgt := 80) hx hb d_MD_raise_73 (by decide) (fun c73 => ?_) (fun c73 => ?_)
              · have hne : ¬ ar 12 i = -1 := fun z => by rw [z] at c73; exact absurd c73 (by decide)
                have hLi := hL i (by omega) (by omega) hne
                rw [hLi.1] at c27
                refine lv_iload hx hb d_MD_raise_80 (lv_at hl 1 rfl) ?_
                refine lv_iload hx hb d_MD_raise_82 (lv_at hl 0 rfl) ?_
                refine lv_iadd hx hb d_MD_raise_84 ?_
                refine q_as (y := nI (L i + raO (L i) (ar 10 i))) (by rw [hLi.1]; first | exact ra_e1 hLi.2.1 c27 c33 | exact ra_e0 hLi.2.1 c27 c42 | exact ra_e2 hLi.2.1 c27 c33 c42 hLi.2.2 | exact ra_o0 hLi.2.1 c27 c56 | exact ra_o1 hLi.2.1 c27 c56 hLi.2.2) ?_
                refine bs_12 M hI i rfl (by omega) d_MD_raise_85 (fun H locs hI => ?_)
                have hI : CI g A s (mw g ad (va_up ar 12 (upd (pre i (raF b (ar 12) (ar 10) L) (ar 12)) i (nI (L i + raO (L i) (ar 10 i))))) fl) H locs := hI
                rw [show upd (pre i (raF b (ar 12) (ar 10) L) (ar 12)) i (nI (L i + raO (L i) (ar 10 i))) = pre (i + 1) (raF b (ar 12) (ar 10) L) (ar 12) from pre_up (by unfold raF; first | (rw [if_pos (Or.inr hm1)]; exact hm1.symm) | (rw [if_neg (fun q => q.elim (by omega) hne)]))] at hI
                have hI : CI g A s (mw g ad (va_up ar 12 (pre (i + 1) (raF b (ar 12) (ar 10) L) (ar 12))) fl) H locs := hI
                refine lv_iinc (v := nI (i + 1)) (lv' := [(3, .int (nI (i + 1))), (6, .int 2), (5, .int (ar 12 i)), (4, .int (ar 10 i)), (0, .ref (ad 0)), (1, .int (nI b)), (2, .int (nI en))]) hx hb d_MD_raise_86 hl (k := 6) rfl (nI_add _ 1) (by decide) rfl (fun ls hl => ?_)
                refine lv_goto (tgt := 2) hx hb d_MD_raise_89 (by decide) ?_
                exact ih2 (i + 1) (by omega) (by first | assumption | omega) (by first | assumption | omega) _ _ _ hI (lv_sub hl [4, 5, 6, 0] rfl)
              · have hm1 : ar 12 i = -1 := Classical.byContradiction fun z => c73 (by have := hL i (by omega) (by omega) z; rw [this.1]; exact nI_pos' (by omega))
                refine lv_iconst (v := (-1)) hx hb d_MD_raise_76 (by decide) ?_
                refine lv_goto (tgt := 85) hx hb d_MD_raise_77 (by decide) ?_
                refine bs_12 M hI i rfl (by omega) d_MD_raise_85 (fun H locs hI => ?_)
                have hI : CI g A s (mw g ad (va_up ar 12 (upd (pre i (raF b (ar 12) (ar 10) L) (ar 12)) i (-1))) fl) H locs := hI
                rw [show upd (pre i (raF b (ar 12) (ar 10) L) (ar 12)) i (-1) = pre (i + 1) (raF b (ar 12) (ar 10) L) (ar 12) from pre_up (by unfold raF; first | (rw [if_pos (Or.inr hm1)]; exact hm1.symm) | (rw [if_neg (fun q => q.elim (by omega) hne)]))] at hI
                have hI : CI g A s (mw g ad (va_up ar 12 (pre (i + 1) (raF b (ar 12) (ar 10) L) (ar 12))) fl) H locs := hI
                refine lv_iinc (v := nI (i + 1)) (lv' := [(3, .int (nI (i + 1))), (6, .int 2), (5, .int (ar 12 i)), (4, .int (ar 10 i)), (0, .ref (ad 0)), (1, .int (nI b)), (2, .int (nI en))]) hx hb d_MD_raise_86 hl (k := 6) rfl (nI_add _ 1) (by decide) rfl (fun ls hl => ?_)
                refine lv_goto (tgt := 2) hx hb d_MD_raise_89 (by decide) ?_
                exact ih2 (i + 1) (by omega) (by first | assumption | omega) (by first | assumption | omega) _ _ _ hI (lv_sub hl [4, 5, 6, 0] rfl)
            · refine lv_iconst (v := 0) hx hb d_MD_raise_45 (by decide) ?_
              refine lv_goto (tgt := 64) hx hb d_MD_raise_46 (by decide) ?_
              refine lv_istore (lv' := [(6, .int 0), (5, .int (ar 12 i)), (4, .int (ar 10 i)), (0, .ref (ad 0)), (1, .int (nI b)), (2, .int (nI en)), (3, .int (nI i))]) hx hb d_MD_raise_64 hl (by decide) rfl (fun ls hl => ?_)
              refine lv_aload_n hx hb d_MD_raise_66 rfl (lv_at hl 3 rfl) ?_
              refine g_MD_43 M hI d_MD_raise_67 ?_
              refine lv_iload_n hx hb d_MD_raise_70 rfl (lv_at hl 6 rfl) ?_
              refine lv_iload hx hb d_MD_raise_71 (lv_at hl 1 rfl) ?_
              refine lv_if_ge (tgt := 80) hx hb d_MD_raise_73 (by decide) (fun c73 => ?_) (fun c73 => ?_)
              · have hne : ¬ ar 12 i = -1 := fun z => by rw [z] at c73; exact absurd c73 (by decide)
                have hLi := hL i (by omega) (by omega) hne
                rw [hLi.1] at c27
                refine lv_iload hx hb d_MD_raise_80 (lv_at hl 1 rfl) ?_
                refine lv_iload hx hb d_MD_raise_82 (lv_at hl 0 rfl) ?_
                refine lv_iadd hx hb d_MD_raise_84 ?_
                refine q_as (y := nI (L i + raO (L i) (ar 10 i))) (by rw [hLi.1]; first | exact ra_e1 hLi.2.1 c27 c33 | exact ra_e0 hLi.2.1 c27 c42 | exact ra_e2 hLi.2.1 c27 c33 c42 hLi.2.2 | exact ra_o0 hLi.2.1 c27 c56 | exact ra_o1 hLi.2.1 c27 c56 hLi.2.2) ?_
                refine bs_12 M hI i rfl (by omega) d_MD_raise_85 (fun H locs hI => ?_)
                have hI : CI g A s (mw g ad (va_up ar 12 (upd (pre i (raF b (ar 12) (ar 10) L) (ar 12)) i (nI (L i + raO (L i) (ar 10 i))))) fl) H locs := hI
                rw [show upd (pre i (raF b (ar 12) (ar 10) L) (ar 12)) i (nI (L i + raO (L i) (ar 10 i))) = pre (i + 1) (raF b (ar 12) (ar 10) L) (ar 12) from pre_up (by unfold raF; first | (rw [if_pos (Or.inr hm1)]; exact hm1.symm) | (rw [if_neg (fun q => q.elim (by omega) hne)]))] at hI
                have hI : CI g A s (mw g ad (va_up ar 12 (pre (i + 1) (raF b (ar 12) (ar 10) L) (ar 12))) fl) H locs := hI
                refine lv_iinc (v := nI (i + 1)) (lv' := [(3, .int (nI (i + 1))), (6, .int 0), (5, .int (ar 12 i)), (4, .int (ar 10 i)), (0, .ref (ad 0)), (1, .int (nI b)), (2, .int (nI en))]) hx hb d_MD_raise_86 hl (k := 6) rfl (nI_add _ 1) (by decide) rfl (fun ls hl => ?_)
                refine lv_goto (tgt := 2) hx hb d_MD_raise_89 (by decide) ?_
                exact ih2 (i + 1) (by omega) (by first | assumption | omega) (by first | assumption | omega) _ _ _ hI (lv_sub hl [4, 5, 6, 0] rfl)
              · have hm1 : ar 12 i = -1 := Classical.byContradiction fun z => c73 (by have := hL i (by omega) (by omega) z; rw [this.1]; exact nI_pos' (by omega))
                refine lv_iconst (v := (-1)) hx hb d_MD_raise_76 (by decide) ?_
                refine lv_goto (tgt := 85) hx hb d_MD_raise_77 (by decide) ?_
                refine bs_12 M hI i rfl (by omega) d_MD_raise_85 (fun H locs hI => ?_)
                have hI : CI g A s (mw g ad (va_up ar 12 (upd (pre i (raF b (ar 12) (ar 10) L) (ar 12)) i (-1))) fl) H locs := hI
                rw [show upd (pre i (raF b (ar 12) (ar 10) L) (ar 12)) i (-1) = pre (i + 1) (raF b (ar 12) (ar 10) L) (ar 12) from pre_up (by unfold raF; first | (rw [if_pos (Or.inr hm1)]; exact hm1.symm) | (rw [if_neg (fun q => q.elim (by omega) hne)]))] at hI
                have hI : CI g A s (mw g ad (va_up ar 12 (pre (i + 1) (raF b (ar 12) (ar 10) L) (ar 12))) fl) H locs := hI
                refine lv_iinc (v := nI (i + 1)) (lv' := [(3, .int (nI (i + 1))), (6, .int 0), (5, .int (ar 12 i)), (4, .int (ar 10 i)), (0, .ref (ad 0)), (1, .int (nI b)), (2, .int (nI en))]) hx hb d_MD_raise_86 hl (k := 6) rfl (nI_add _ 1) (by decide) rfl (fun ls hl => ?_)
                refine lv_goto (tgt := 2) hx hb d_MD_raise_89 (by decide) ?_
                exact ih2 (i + 1) (by omega) (by first | assumption | omega) (by first | assumption | omega) _ _ _ hI (lv_sub hl [4, 5, 6, 0] rfl)
          · refine lv_iconst (v := 1) hx hb d_MD_raise_36 (by decide) ?_
            refine lv_goto (tgt := 64) hx hb d_MD_raise_37 (by decide) ?_
            refine lv_istore (lv' := [(6, .int 1), (5, .int (ar 12 i)), (4, .int (ar 10 i)), (0, .ref (ad 0)), (1, .int (nI b)), (2, .int (nI en)), (3, .int (nI i))]) hx hb d_MD_raise_64 hl (by decide) rfl (fun ls hl => ?_)
            refine lv_aload_n hx hb d_MD_raise_66 rfl (lv_at hl 3 rfl) ?_
            refine g_MD_43 M hI d_MD_raise_67 ?_
            refine lv_iload_n hx hb d_MD_raise_70 rfl (lv_at hl 6 rfl) ?_
            refine lv_iload hx hb d_MD_raise_71 (lv_at hl 1 rfl) ?_
            refine lv_if_ge (tgt := 80) hx hb d_MD_raise_73 (by decide) (fun c73 => ?_) (fun c73 => ?_)
            · have hne : ¬ ar 12 i = -1 := fun z => by rw [z] at c73; exact absurd c73 (by decide)
              have hLi := hL i (by omega) (by omega) hne
              rw [hLi.1] at c27
              refine lv_iload hx hb d_MD_raise_80 (lv_at hl 1 rfl) ?_
              refine lv_iload hx hb d_MD_raise_82 (lv_at hl 0 rfl) ?_
              refine lv_iadd hx hb d_MD_raise_84 ?_
              refine q_as (y := nI (L i + raO (L i) (ar 10 i))) (by rw [hLi.1]; first | exact ra_e1 hLi.2.1 c27 c33 | exact ra_e0 hLi.2.1 c27 c42 | exact ra_e2 hLi.2.1 c27 c33 c42 hLi.2.2 | exact ra_o0 hLi.2.1 c27 c56 | exact ra_o1 hLi.2.1 c27 c56 hLi.2.2) ?_
              refine bs_12 M hI i rfl (by omega) d_MD_raise_85 (fun H locs hI => ?_)
              have hI : CI g A s (mw g ad (va_up ar 12 (upd (pre i (raF b (ar 12) (ar 10) L) (ar 12)) i (nI (L i + raO (L i) (ar 10 i))))) fl) H locs := hI
              rw [show upd (pre i (raF b (ar 12) (ar 10) L) (ar 12)) i (nI (L i + raO (L i) (ar 10 i))) = pre (i + 1) (raF b (ar 12) (ar 10) L) (ar 12) from pre_up (by unfold raF; first | (rw [if_pos (Or.inr hm1)]; exact hm1.symm) | (rw [if_neg (fun q => q.elim (by omega) hne)]))] at hI
              have hI : CI g A s (mw g ad (va_up ar 12 (pre (i + 1) (raF b (ar 12) (ar 10) L) (ar 12))) fl) H locs := hI
              refine lv_iinc (v := nI (i + 1)) (lv' := [(3, .int (nI (i + 1))), (6, .int 1), (5, .int (ar 12 i)), (4, .int (ar 10 i)), (0, .ref (ad 0)), (1, .int (nI b)), (2, .int (nI en))]) hx hb d_MD_raise_86 hl (k := 6) rfl (nI_add _ 1) (by decide) rfl (fun ls hl => ?_)
              refine lv_goto (tgt := 2) hx hb d_MD_raise_89 (by decide) ?_
              exact ih2 (i + 1) (by omega) (by first | assumption | omega) (by first | assumption | omega) _ _ _ hI (lv_sub hl [4, 5, 6, 0] rfl)
            · have hm1 : ar 12 i = -1 := Classical.byContradiction fun z => c73 (by have := hL i (by omega) (by omega) z; rw [this.1]; exact nI_pos' (by omega))
              refine lv_iconst (v := (-1)) hx hb d_MD_raise_76 (by decide) ?_
              refine lv_goto (tgt := 85) hx hb d_MD_raise_77 (by decide) ?_
              refine bs_12 M hI i rfl (by omega) d_MD_raise_85 (fun H locs hI => ?_)
              have hI : CI g A s (mw g ad (va_up ar 12 (upd (pre i (raF b (ar 12) (ar 10) L) (ar 12)) i (-1))) fl) H locs := hI
              rw [show upd (pre i (raF b (ar 12) (ar 10) L) (ar 12)) i (-1) = pre (i + 1) (raF b (ar 12) (ar 10) L) (ar 12) from pre_up (by unfold raF; first | (rw [if_pos (Or.inr hm1)]; exact hm1.symm) | (rw [if_neg (fun q => q.elim (by omega) hne)]))] at hI
              have hI : CI g A s (mw g ad (va_up ar 12 (pre (i + 1) (raF b (ar 12) (ar 10) L) (ar 12))) fl) H locs := hI
              refine lv_iinc (v := nI (i + 1)) (lv' := [(3, .int (nI (i + 1))), (6, .int 1), (5, .int (ar 12 i)), (4, .int (ar 10 i)), (0, .ref (ad 0)), (1, .int (nI b)), (2, .int (nI en))]) hx hb d_MD_raise_86 hl (k := 6) rfl (nI_add _ 1) (by decide) rfl (fun ls hl => ?_)
              refine lv_goto (tgt := 2) hx hb d_MD_raise_89 (by decide) ?_
              exact ih2 (i + 1) (by omega) (by first | assumption | omega) (by first | assumption | omega) _ _ _ hI (lv_sub hl [4, 5, 6, 0] rfl)
  have hI := CI.to (w2 := mw g ad (va_up ar 12 (pre b (raF b (ar 12) (ar 10) L) (ar 12))) fl) hI (by rw [raF_lo]; rfl)
  exact L2 _ b (Nat.lt_succ_self _) (by first | assumption | omega) (by first | assumption | omega) _ _ _ hI (lv_sub hl [1, 2, 3, 0] rfl)
