/-! 62: the model: neutrals -/
/-- what N1 and N2 may meet -/
def okN (k : Int32) : Prop := neut k ↔ sd k = -1
theorem sideN_k {n i k : Nat} {h t : Int32} {F K : Nat → Int32} (ht : t = 0 ∨ t = 1) (hn : n ≤ 2000) (hi : i ≤ n) (hk : k ≤ i) : sd (kAt n h t (pre k F K) (nI i)) = sideN n t K i := by
  unfold sideN
  by_cases q : n ≤ i
  · rw [if_pos q, kAt_e (by omega) q, sd_01 ht]
  · rw [if_neg q, kAt_n (by omega) (by omega), pre_hi hk]
theorem sideB_k {n k : Nat} {h t d : Int32} {K : Nat → Int32} (hh : h = 0 ∨ h = 1) (hn : n ≤ 2000) (hk : k ≤ n) (hst : k = 0 ∨ sd (K (k - 1)) ≠ -1) : sd (kAt n h t (pre k (n12 n h t d K) K) (nI k - 1)) = sideB h K k := by
  unfold sideB
  by_cases q : k = 0
  · subst q; rw [if_pos rfl, kAt_0, sd_01 hh]
  · rw [if_neg q, kAt_p (by omega) (by omega) hk, pre_lo (by omega), n12_ne (hst.resolve_left q)]
abbrev rm_MD_neutrals : Room := { frames := 2, cells := 0, slots := 0, locals := 40 }
set_option maxHeartbeats 4000000 in
set_option maxRecDepth 100000 in
theorem c_MD_neutrals (l : Launch) (g : Geo) (ad : Nat → Nat) (ar : Nat → Nat → Int32) (fl : Nat → Int32) (n : Nat) (P : Nat → Nat) (K f0 : Nat → Int32) (lq : Nat) (hn : fl 8 = nI n) (hN : n ≤ 2000) (hP : ∀ j, j < n → ar 18 j = nI (P j)) (hPb : ∀ j, j < n → P j < 2000) (hij : inj n P) (hw : ar 10 = wrt P K f0 n) (hlq : fl 11 = nI lq) (hlQ : lq ≤ 127) (hh : fl 9 = 0 ∨ fl 9 = 1) (ht : fl 10 = 0 ∨ fl 10 = 1) (hok : ∀ j, j < n → okN (K j)) : cMv l y_MD_neutrals (.code y_MD_neutrals b_MD_neutrals 6 none :: gw) rm_MD_neutrals g [.ref (ad 0)] (mw g ad ar fl) (fun (_ : Unit) => True) (fun (_ : Unit) => mw g ad (va_up ar 10 (wrt P (n12 n (fl 9) (fl 10) (nI (lq % 2)) K) f0 n)) fl) 0 0 := by
  refine cMv_of (by decide) (Nat.le_of_ble_eq_true rfl) ?_
  intro p e s m below meth c A Q ls M hnm hret hl hI
  have M : MC p s m ([.ref (ad 0)] : List Value).toArray meth c R_MD b_MD_neutrals 6 := M
  have hl : lv_has ls 6 [(0, .ref (ad 0))] := hl
  generalize ([.ref (ad 0)] : List Value).toArray = args at M hret ⊢
  have hx := M.1
  have hb := M.2.1
  have hI := CI.to (w2 := mw g ad (va_up ar 10 (wrt P K f0 n)) fl) hI (by rw [← hw]; rfl)
  refine lv_iconst (v := 0) hx hb d_MD_neutrals_0 (by decide) ?_
  refine lv_istore_n (lv' := [(1, .int 0), (0, .ref (ad 0))]) hx hb d_MD_neutrals_1 rfl hl (by decide) rfl (fun ls hl => ?_)
  have L2 : ∀ (fu : Nat) (b : Nat), (n + 1 - b) < fu → (b ≤ n + 1) → (b = 0 ∨ b = n + 1 ∨ sd (K (b - 1)) ≠ -1) → ∀ (H : Heap) (locs : List Loc) (ls : Array Slot), CI g A s (mw g ad (va_up ar 10 (wrt P (pre (min b n) (n12 n (fl 9) (fl 10) (nI (lq % 2)) K) K) f0 n)) fl) H locs → lv_has ls 6 [(0, .ref (ad 0)), (1, .int (nI b))] → W p l e rm_MD_neutrals s m args below meth c H locs 0 0 Q (F0 m 2 ls []) := by
    intro fu
    induction fu with
    | zero => intro b hm; exact absurd hm (Nat.not_lt_zero _)
    | succ fu ih2 =>
      intro b hm hbn hst H locs ls hI hl
      refine lv_iload_n hx hb d_MD_neutrals_2 rfl (lv_at hl 1 rfl) ?_
      refine lv_aload_n hx hb d_MD_neutrals_3 rfl (lv_at hl 0 rfl) ?_
      refine g_MD_155 M hI d_MD_neutrals_4 ?_
      refine q_as (y := nI n) hn ?_
      refine lv_icmp_ge (tgt := 103) hx hb d_MD_neutrals_7 (by decide) (fun c7 => ?_) (fun c7 => ?_)
      · have c7 : n ≤ b := (nI_leI (a := n) (b := b) (by omega) (by omega)).mp c7
        have hI := CI.to (w2 := mw g ad (va_up ar 10 (wrt P (n12 n (fl 9) (fl 10) (nI (lq % 2)) K) f0 n)) fl) hI (by rw [show min b n = n by omega]; exact congrArg (fun z => mw g ad (va_up ar 10 z) fl) (wrt_agr agr_pre n (Nat.le_refl n)))
        exact hret () _ _ _ _ _ _ d_MD_neutrals_103 hI (trivial) (Nat.le_refl 0) (Nat.le_refl 0)
      · have c7 : ¬ n ≤ b := fun h => c7 ((nI_leI (a := n) (b := b) (by omega) (by omega)).mpr h)
        have hst : b = 0 ∨ sd (K (b - 1)) ≠ -1 := hst.imp id (fun z => z.resolve_left (by omega))
        have hI := CI.to (w2 := mw g ad (va_up ar 10 (wrt P (pre b (n12 n (fl 9) (fl 10) (nI (lq % 2)) K) K) f0 n)) fl) hI (by rw [show min b n = b by omega] <;> rfl)
        refine lv_iload_n hx hb d_MD_neutrals_10 rfl (lv_at hl 1 rfl) ?_
        refine lv_istore_n (lv' := [(2, .int (nI b)), (0, .ref (ad 0)), (1, .int (nI b))]) hx hb d_MD_neutrals_11 rfl hl (by decide) rfl (fun ls hl => ?_)
        have L12 : ∀ (fu : Nat) (en : Nat), (n - en) < fu → (b ≤ en) → (en ≤ n) → (∀ j, b ≤ j → j < en → sd (K j) = -1) → ∀ (H : Heap) (locs : List Loc) (ls : Array Slot), CI g A s (mw g ad (va_up ar 10 (wrt P (pre b (n12 n (fl 9) (fl 10) (nI (lq % 2)) K) K) f0 n)) fl) H locs → lv_has ls 6 [(0, .ref (ad 0)), (1, .int (nI b)), (2, .int (nI en))] → W p l e rm_MD_neutrals s m args below meth c H locs 0 0 Q (F0 m 12 ls []) := by
          intro fu
          induction fu with
          | zero => intro en hm; exact absurd hm (Nat.not_lt_zero _)
          | succ fu ih12 =>
            intro en hm he1 he2 hrow H locs ls hI hl
            refine lv_iload_n hx hb d_MD_neutrals_12 rfl (lv_at hl 2 rfl) ?_
            refine lv_aload_n hx hb d_MD_neutrals_13 rfl (lv_at hl 0 rfl) ?_
            refine g_MD_155 M hI d_MD_neutrals_14 ?_
            refine q_as (y := nI n) hn ?_
            refine lv_icmp_ge (tgt := 37) hx hb d_MD_neutrals_17 (by decide) (fun c17 => ?_) (fun c17 => ?_)
            · have c17 : n ≤ en := (nI_leI (a := n) (b := en) (by omega) (by omega)).mp c17
              have hen : en < n → sd (K en) ≠ -1 := fun q => absurd q (by omega)
              refine lv_aload_n hx hb d_MD_neutrals_37 rfl (lv_at hl 0 rfl) ?_
              refine lv_iload_n hx hb d_MD_neutrals_38 rfl (lv_at hl 1 rfl) ?_
              refine lv_iconst (v := 1) hx hb d_MD_neutrals_39 (by decide) ?_
              refine lv_isub hx hb d_MD_neutrals_40 ?_
              refine q_calliV [.int ((nI b) - 1)] M hI (c_MD_kindAt l g ad (va_up ar 10 (wrt P (pre b (n12 n (fl 9) (fl 10) (nI (lq % 2)) K) K) f0 n)) fl ((nI b) - 1) n P (pre b (n12 n (fl 9) (fl 10) (nI (lq % 2)) K) K) f0 (by first | exact hn | assumption | omega | rfl) (by first | exact hN | assumption | omega | rfl) (by first | exact hP | assumption | omega | rfl) (by first | exact hPb | assumption | omega | rfl) (by first | exact hij | assumption | omega | rfl) (rfl)) ok_MD_kindAt m5_169 m5_171 ms_66 0 rfl rfl rfl rfl hl.1 ⟨rfl, rfl⟩ ⟨Nat.le_of_ble_eq_true rfl, Nat.le_of_ble_eq_true rfl⟩ (Nat.le_of_ble_eq_true rfl) ⟨Nat.le_of_ble_eq_true rfl, Nat.le_of_ble_eq_true rfl⟩ d_MD_neutrals_41 (fun r41 u41 H locs hp41 hI => ?_)
              refine q_as (y := kAt n (fl 9) (fl 10) (pre b (n12 n (fl 9) (fl 10) (nI (lq % 2)) K) K) ((nI b) - 1)) hp41 ?_
              refine q_calliS [.int (kAt n (fl 9) (fl 10) (pre b (n12 n (fl 9) (fl 10) (nI (lq % 2)) K) K) ((nI b) - 1))] M hI (c_MD_side l g (mw g ad (va_up ar 10 (wrt P (pre b (n12 n (fl 9) (fl 10) (nI (lq % 2)) K) K) f0 n)) fl) (kAt n (fl 9) (fl 10) (pre b (n12 n (fl 9) (fl 10) (nI (lq % 2)) K) K) ((nI b) - 1))) ok_MD_side m5_197 m5_198 rfl rfl hl.1 ⟨rfl, rfl⟩ ⟨Nat.le_of_ble_eq_true rfl, Nat.le_of_ble_eq_true rfl⟩ (Nat.le_of_ble_eq_true rfl) ⟨Nat.le_of_ble_eq_true rfl, Nat.le_of_ble_eq_true rfl⟩ d_MD_neutrals_44 (fun r44 u44 H locs hp44 hI => ?_)
              refine q_as (y := sd (kAt n (fl 9) (fl 10) (pre b (n12 n (fl 9) (fl 10) (nI (lq % 2)) K) K) ((nI b) - 1))) hp44 ?_
              refine q_as (y := sideB (fl 9) K b) (sideB_k hh hN (by omega) hst) ?_
              refine lv_istore_n (lv' := [(3, .int (sideB (fl 9) K b)), (0, .ref (ad 0)), (1, .int (nI b)), (2, .int (nI en))]) hx hb d_MD_neutrals_47 rfl hl (by decide) rfl (fun ls hl => ?_)
              refine lv_aload_n hx hb d_MD_neutrals_48 rfl (lv_at hl 1 rfl) ?_
              refine lv_iload_n hx hb d_MD_neutrals_49 rfl (lv_at hl 3 rfl) ?_
              refine q_calliV [.int (nI en)] M hI (c_MD_kindAt l g ad (va_up ar 10 (wrt P (pre b (n12 n (fl 9) (fl 10) (nI (lq % 2)) K) K) f0 n)) fl (nI en) n P (pre b (n12 n (fl 9) (fl 10) (nI (lq % 2)) K) K) f0 (by first | exact hn | assumption | omega | rfl) (by first | exact hN | assumption | omega | rfl) (by first | exact hP | assumption | omega | rfl) (by first | exact hPb | assumption | omega | rfl) (by first | exact hij | assumption | omega | rfl) (rfl)) ok_MD_kindAt m5_169 m5_171 ms_66 0 rfl rfl rfl rfl hl.1 ⟨rfl, rfl⟩ ⟨Nat.le_of_ble_eq_true rfl, Nat.le_of_ble_eq_true rfl⟩ (Nat.le_of_ble_eq_true rfl) ⟨Nat.le_of_ble_eq_true rfl, Nat.le_of_ble_eq_true rfl⟩ d_MD_neutrals_50 (fun r50 u50 H locs hp50 hI => ?_)
              refine q_as (y := kAt n (fl 9) (fl 10) (pre b (n12 n (fl 9) (fl 10) (nI (lq % 2)) K) K) (nI en)) hp50 ?_
              refine q_calliS [.int (kAt n (fl 9) (fl 10) (pre b (n12 n (fl 9) (fl 10) (nI (lq % 2)) K) K) (nI en))] M hI (c_MD_side l g (mw g ad (va_up ar 10 (wrt P (pre b (n12 n (fl 9) (fl 10) (nI (lq % 2)) K) K) f0 n)) fl) (kAt n (fl 9) (fl 10) (pre b (n12 n (fl 9) (fl 10) (nI (lq % 2)) K) K) (nI en))) ok_MD_side m5_197 m5_198 rfl rfl hl.1 ⟨rfl, rfl⟩ ⟨Nat.le_of_ble_eq_true rfl, Nat.le_of_ble_eq_true rfl⟩ (Nat.le_of_ble_eq_true rfl) ⟨Nat.le_of_ble_eq_true rfl, Nat.le_of_ble_eq_true rfl⟩ d_MD_neutrals_53 (fun r53 u53 H locs hp53 hI => ?_)
              refine q_as (y := sd (kAt n (fl 9) (fl 10) (pre b (n12 n (fl 9) (fl 10) (nI (lq % 2)) K) K) (nI en))) hp53 ?_
              refine q_as (y := sideN n (fl 10) K en) (sideN_k ht hN he2 he1) ?_
              refine lv_istore (lv' := [(4, .int (sideN n (fl 10) K en)), (3, .int (sideB (fl 9) K b)), (0, .ref (ad 0)), (1, .int (nI b)), (2, .int (nI en))]) hx hb d_MD_neutrals_56 hl (by decide) rfl (fun ls hl => ?_)
              refine lv_iload_n hx hb d_MD_neutrals_58 rfl (lv_at hl 3 rfl) ?_
              refine lv_istore (lv' := [(5, .int (nI b)), (4, .int (sideN n (fl 10) K en)), (3, .int (sideB (fl 9) K b)), (0, .ref (ad 0)), (1, .int (nI b)), (2, .int (nI en))]) hx hb d_MD_neutrals_59 hl (by decide) rfl (fun ls hl => ?_)
              have L61 : ∀ (fu : Nat) (j : Nat), (n - j) < fu → (b ≤ j) → (j ≤ en) → ∀ (H : Heap) (locs : List Loc) (ls : Array Slot), CI g A s (mw g ad (va_up ar 10 (wrt P (pre j (n12 n (fl 9) (fl 10) (nI (lq % 2)) K) K) f0 n)) fl) H locs → lv_has ls 6 [(0, .ref (ad 0)), (2, .int (nI en)), (3, .int (sideB (fl 9) K b)), (4, .int (sideN n (fl 10) K en)), (5, .int (nI j))] → W p l e rm_MD_neutrals s m args below meth c H locs 0 0 Q (F0 m 61 ls []) := by
                intro fu
                induction fu with
                | zero => intro j hm; exact absurd hm (Nat.not_lt_zero _)
                | succ fu ih61 =>
                  intro j hm hj1 hj2 H locs ls hI hl
                  refine lv_iload hx hb d_MD_neutrals_61 (lv_at hl 4 rfl) ?_
                  refine lv_iload_n hx hb d_MD_neutrals_63 rfl (lv_at hl 1 rfl) ?_
                  refine lv_icmp_ge (tgt := 96) hx hb d_MD_neutrals_64 (by decide) (fun c64 => ?_) (fun c64 => ?_)
                  · have c64 : en ≤ j := (nI_leI (a := en) (b := j) (by omega) (by omega)).mp c64
                    have ej : j = en := by omega
                    have hI := CI.to (w2 := mw g ad (va_up ar 10 (wrt P (pre (min (en + 1) n) (n12 n (fl 9) (fl 10) (nI (lq % 2)) K) K) f0 n)) fl) hI (by rw [ej, pre_step (n := n) (f := n12 n (fl 9) (fl 10) (nI (lq % 2)) K) (f0 := K) he2 (fun z => (n12_ne (hen z)).symm)] <;> rfl)
                    refine lv_iload_n hx hb d_MD_neutrals_96 rfl (lv_at hl 1 rfl) ?_
                    refine lv_iconst (v := 1) hx hb d_MD_neutrals_97 (by decide) ?_
                    refine lv_iadd hx hb d_MD_neutrals_98 ?_
                    refine q_as (y := nI (en + 1)) (nI_add en 1) ?_
                    refine lv_istore_n (lv' := [(1, .int (nI (en + 1))), (0, .ref (ad 0)), (2, .int (nI en)), (3, .int (sideB (fl 9) K b)), (4, .int (sideN n (fl 10) K en)), (5, .int (nI j))]) hx hb d_MD_neutrals_99 rfl hl (by decide) rfl (fun ls hl => ?_)
                    refine lv_goto (tgt := 2) hx hb d_MD_neutrals_100 (by decide) ?_
                    exact ih2 (en + 1) (by omega) (by first | assumption | omega) (by rcases Nat.lt_or_ge en n with z | z; exact Or.inr (Or.inr (by rw [Nat.add_sub_cancel]; exact hen z)); exact Or.inr (Or.inl (by omega))) _ _ _ hI (lv_sub hl [1, 0] rfl)
                  · have c64 : ¬ en ≤ j := fun h => c64 ((nI_leI (a := en) (b := j) (by omega) (by omega)).mpr h)
                    refine lv_aload_n hx hb d_MD_neutrals_67 rfl (lv_at hl 0 rfl) ?_
                    refine lv_iload hx hb d_MD_neutrals_68 (lv_at hl 4 rfl) ?_
                    refine lv_iload_n hx hb d_MD_neutrals_70 rfl (lv_at hl 2 rfl) ?_
                    refine lv_iload hx hb d_MD_neutrals_71 (lv_at hl 3 rfl) ?_
                    refine lv_icmp_ne (tgt := 80) hx hb d_MD_neutrals_73 (by decide) (fun c73 => ?_) (fun c73 => ?_)
                    · refine lv_aload_n hx hb d_MD_neutrals_80 rfl (lv_at hl 0 rfl) ?_
                      refine g_MD_165 M hI d_MD_neutrals_81 ?_
                      refine q_as (y := nI lq) hlq ?_
                      refine q_calliS [.int (nI lq)] M hI (c_MD_directionOf l g (mw g ad (va_up ar 10 (wrt P (pre j (n12 n (fl 9) (fl 10) (nI (lq % 2)) K) K) f0 n)) fl) lq (by omega)) ok_MD_directionOf m5_158 m5_159 rfl rfl hl.1 ⟨rfl, rfl⟩ ⟨Nat.le_of_ble_eq_true rfl, Nat.le_of_ble_eq_true rfl⟩ (Nat.le_of_ble_eq_true rfl) ⟨Nat.le_of_ble_eq_true rfl, Nat.le_of_ble_eq_true rfl⟩ d_MD_neutrals_84 (fun r84 u84 H locs hp84 hI => ?_)
                      refine q_as (y := nI (lq % 2)) hp84 ?_
                      refine q_as (y := (n12 n (fl 9) (fl 10) (nI (lq % 2)) K) j) (by rw [n12_row he2 hrow hst hen hj1 (by omega), if_neg c73]) ?_
                      refine q_callvV [.int (nI j), .int ((n12 n (fl 9) (fl 10) (nI (lq % 2)) K) j)] M hI (c_MD_put l g ad (va_up ar 10 (wrt P (pre j (n12 n (fl 9) (fl 10) (nI (lq % 2)) K) K) f0 n)) fl j ((n12 n (fl 9) (fl 10) (nI (lq % 2)) K) j) n P (pre j (n12 n (fl 9) (fl 10) (nI (lq % 2)) K) K) f0 (by first | exact hn | assumption | omega | rfl) (by first | exact hN | assumption | omega | rfl) (by first | exact hP | assumption | omega | rfl) (by first | exact hPb | assumption | omega | rfl) (by first | exact hij | assumption | omega | rfl) (rfl) (by omega)) ok_MD_put m5_173 m5_175 ms_67 0 rfl rfl rfl rfl hl.1 ⟨rfl, rfl⟩ ⟨Nat.le_of_ble_eq_true rfl, Nat.le_of_ble_eq_true rfl⟩ (Nat.le_of_ble_eq_true rfl) ⟨Nat.le_of_ble_eq_true rfl, Nat.le_of_ble_eq_true rfl⟩ d_MD_neutrals_87 (fun u87 H locs hp87 hI => ?_)
                      have hI : CI g A s (mw g ad (va_up ar 10 (wrt P (upd (pre j (n12 n (fl 9) (fl 10) (nI (lq % 2)) K) K) j ((n12 n (fl 9) (fl 10) (nI (lq % 2)) K) j)) f0 n)) fl) H locs := hI
                      have hI := CI.to (w2 := mw g ad (va_up ar 10 (wrt P (pre (j + 1) (n12 n (fl 9) (fl 10) (nI (lq % 2)) K) K) f0 n)) fl) hI (by rw [pre_up (f := n12 n (fl 9) (fl 10) (nI (lq % 2)) K) (f0 := K) rfl] <;> rfl)
                      refine lv_iinc (v := nI (j + 1)) (lv' := [(5, .int (nI (j + 1))), (0, .ref (ad 0)), (2, .int (nI en)), (3, .int (sideB (fl 9) K b)), (4, .int (sideN n (fl 10) K en))]) hx hb d_MD_neutrals_90 hl (k := 4) rfl (nI_add _ 1) (by decide) rfl (fun ls hl => ?_)
                      refine lv_goto (tgt := 61) hx hb d_MD_neutrals_93 (by decide) ?_
                      exact ih61 (j + 1) (by omega) (by first | assumption | omega) (by first | assumption | omega) _ _ _ hI (lv_sub hl [1, 2, 3, 4, 0] rfl)
                    · refine lv_iload_n hx hb d_MD_neutrals_76 rfl (lv_at hl 2 rfl) ?_
                      refine q_as (y := (n12 n (fl 9) (fl 10) (nI (lq % 2)) K) j) (by rw [n12_row he2 hrow hst hen hj1 (by omega), if_pos c73]; exact c73) ?_
                      refine lv_goto (tgt := 87) hx hb d_MD_neutrals_77 (by decide) ?_
                      refine q_callvV [.int (nI j), .int ((n12 n (fl 9) (fl 10) (nI (lq % 2)) K) j)] M hI (c_MD_put l g ad (va_up ar 10 (wrt P (pre j (n12 n (fl 9) (fl 10) (nI (lq % 2)) K) K) f0 n)) fl j ((n12 n (fl 9) (fl 10) (nI (lq % 2)) K) j) n P (pre j (n12 n (fl 9) (fl 10) (nI (lq % 2)) K) K) f0 (by first | exact hn | assumption | omega | rfl) (by first | exact hN | assumption | omega | rfl) (by first | exact hP | assumption | omega | rfl) (by first | exact hPb | assumption | omega | rfl) (by first | exact hij | assumption | omega | rfl) (rfl) (by omega)) ok_MD_put m5_173 m5_175 ms_67 0 rfl rfl rfl rfl hl.1 ⟨rfl, rfl⟩ ⟨Nat.le_of_ble_eq_true rfl, Nat.le_of_ble_eq_true rfl⟩ (Nat.le_of_ble_eq_true rfl) ⟨Nat.le_of_ble_eq_true rfl, Nat.le_of_ble_eq_true rfl⟩ d_MD_neutrals_87 (fun u87 H locs hp87 hI => ?_)
                      have hI : CI g A s (mw g ad (va_up ar 10 (wrt P (upd (pre j (n12 n (fl 9) (fl 10) (nI (lq % 2)) K) K) j ((n12 n (fl 9) (fl 10) (nI (lq % 2)) K) j)) f0 n)) fl) H locs := hI
                      have hI := CI.to (w2 := mw g ad (va_up ar 10 (wrt P (pre (j + 1) (n12 n (fl 9) (fl 10) (nI (lq % 2)) K) K) f0 n)) fl) hI (by rw [pre_up (f := n12 n (fl 9) (fl 10) (nI (lq % 2)) K) (f0 := K) rfl] <;> rfl)
                      refine lv_iinc (v := nI (j + 1)) (lv' := [(5, .int (nI (j + 1))), (0, .ref (ad 0)), (2, .int (nI en)), (3, .int (sideB (fl 9) K b)), (4, .int (sideN n (fl 10) K en))]) hx hb d_MD_neutrals_90 hl (k := 4) rfl (nI_add _ 1) (by decide) rfl (fun ls hl => ?_)
                      refine lv_goto (tgt := 61) hx hb d_MD_neutrals_93 (by decide) ?_
                      exact ih61 (j + 1) (by omega) (by first | assumption | omega) (by first | assumption | omega) _ _ _ hI (lv_sub hl [1, 2, 3, 4, 0] rfl)
              exact L61 _ b (Nat.lt_succ_self _) (by first | assumption | omega) (by first | assumption | omega) _ _ _ hI (lv_sub hl [3, 5, 2, 1, 0] rfl)
            · have c17 : ¬ n ≤ en := fun h => c17 ((nI_leI (a := n) (b := en) (by omega) (by omega)).mpr h)
              refine lv_aload_n hx hb d_MD_neutrals_20 rfl (lv_at hl 0 rfl) ?_
              refine lv_iload_n hx hb d_MD_neutrals_21 rfl (lv_at hl 2 rfl) ?_
              refine q_calliV [.int (nI en)] M hI (c_MD_kindAt l g ad (va_up ar 10 (wrt P (pre b (n12 n (fl 9) (fl 10) (nI (lq % 2)) K) K) f0 n)) fl (nI en) n P (pre b (n12 n (fl 9) (fl 10) (nI (lq % 2)) K) K) f0 (by first | exact hn | assumption | omega | rfl) (by first | exact hN | assumption | omega | rfl) (by first | exact hP | assumption | omega | rfl) (by first | exact hPb | assumption | omega | rfl) (by first | exact hij | assumption | omega | rfl) (rfl)) ok_MD_kindAt m5_169 m5_171 ms_66 0 rfl rfl rfl rfl hl.1 ⟨rfl, rfl⟩ ⟨Nat.le_of_ble_eq_true rfl, Nat.le_of_ble_eq_true rfl⟩ (Nat.le_of_ble_eq_true rfl) ⟨Nat.le_of_ble_eq_true rfl, Nat.le_of_ble_eq_true rfl⟩ d_MD_neutrals_22 (fun r22 u22 H locs hp22 hI => ?_)
              refine q_as (y := kAt n (fl 9) (fl 10) (pre b (n12 n (fl 9) (fl 10) (nI (lq % 2)) K) K) (nI en)) hp22 ?_
              refine q_as (y := K en) (by rw [kAt_n (by omega) (by omega), pre_hi he1]) ?_
              refine q_calliS [.int (K en)] M hI (c_MD_isNeutral l g (mw g ad (va_up ar 10 (wrt P (pre b (n12 n (fl 9) (fl 10) (nI (lq % 2)) K) K) f0 n)) fl) (K en)) ok_MD_isNeutral m5_212 m5_213 rfl rfl hl.1 ⟨rfl, rfl⟩ ⟨Nat.le_of_ble_eq_true rfl, Nat.le_of_ble_eq_true rfl⟩ (Nat.le_of_ble_eq_true rfl) ⟨Nat.le_of_ble_eq_true rfl, Nat.le_of_ble_eq_true rfl⟩ d_MD_neutrals_25 (fun r25 u25 H locs hp25 hI => ?_)
              refine q_as (y := bI (neut (K en))) hp25 ?_
              refine lv_if_eq (tgt := 37) hx hb d_MD_neutrals_28 (by decide) (fun c28 => ?_) (fun c28 => ?_)
              · have c28 := bI_eq0.mp c28
                have hen : en < n → sd (K en) ≠ -1 := fun _ q => c28 ((hok en (by omega)).mpr q)
                refine lv_aload_n hx hb d_MD_neutrals_37 rfl (lv_at hl 0 rfl) ?_
                refine lv_iload_n hx hb d_MD_neutrals_38 rfl (lv_at hl 1 rfl) ?_
                refine lv_iconst (v := 1) hx hb d_MD_neutrals_39 (by decide) ?_
                refine lv_isub hx hb d_MD_neutrals_40 ?_
                refine q_calliV [.int ((nI b) - 1)] M hI (c_MD_kindAt l g ad (va_up ar 10 (wrt P (pre b (n12 n (fl 9) (fl 10) (nI (lq % 2)) K) K) f0 n)) fl ((nI b) - 1) n P (pre b (n12 n (fl 9) (fl 10) (nI (lq % 2)) K) K) f0 (by first | exact hn | assumption | omega | rfl) (by first | exact hN | assumption | omega | rfl) (by first | exact hP | assumption | omega | rfl) (by first | exact hPb | assumption | omega | rfl) (by first | exact hij | assumption | omega | rfl) (rfl)) ok_MD_kindAt m5_169 m5_171 ms_66 0 rfl rfl rfl rfl hl.1 ⟨rfl, rfl⟩ ⟨Nat.le_of_ble_eq_true rfl, Nat.le_of_ble_eq_true rfl⟩ (Nat.le_of_ble_eq_true rfl) ⟨Nat.le_of_ble_eq_true rfl, Nat.le_of_ble_eq_true rfl⟩ d_MD_neutrals_41 (fun r41 u41 H locs hp41 hI => ?_)
                refine q_as (y := kAt n (fl 9) (fl 10) (pre b (n12 n (fl 9) (fl 10) (nI (lq % 2)) K) K) ((nI b) - 1)) hp41 ?_
                refine q_calliS [.int (kAt n (fl 9) (fl 10) (pre b (n12 n (fl 9) (fl 10) (nI (lq % 2)) K) K) ((nI b) - 1))] M hI (c_MD_side l g (mw g ad (va_up ar 10 (wrt P (pre b (n12 n (fl 9) (fl 10) (nI (lq % 2)) K) K) f0 n)) fl) (kAt n (fl 9) (fl 10) (pre b (n12 n (fl 9) (fl 10) (nI (lq % 2)) K) K) ((nI b) - 1))) ok_MD_side m5_197 m5_198 rfl rfl hl.1 ⟨rfl, rfl⟩ ⟨Nat.le_of_ble_eq_true rfl, Nat.le_of_ble_eq_true rfl⟩ (Nat.le_of_ble_eq_true rfl) ⟨Nat.le_of_ble_eq_true rfl, Nat.le_of_ble_eq_true rfl⟩ d_MD_neutrals_44 (fun r44 u44 H locs hp44 hI => ?_)
                refine q_as (y := sd (kAt n (fl 9) (fl 10) (pre b (n12 n (fl 9) (fl 10) (nI (lq % 2)) K) K) ((nI b) - 1))) hp44 ?_
                refine q_as (y := sideB (fl 9) K b) (sideB_k hh hN (by omega) hst) ?_
                refine lv_istore_n (lv' := [(3, .int (sideB (fl 9) K b)), (0, .ref (ad 0)), (1, .int (nI b)), (2, .int (nI en))]) hx hb d_MD_neutrals_47 rfl hl (by decide) rfl (fun ls hl => ?_)
                refine lv_aload_n hx hb d_MD_neutrals_48 rfl (lv_at hl 1 rfl) ?_
                refine lv_iload_n hx hb d_MD_neutrals_49 rfl (lv_at hl 3 rfl) ?_
                refine q_calliV [.int (nI en)] M hI (c_MD_kindAt l g ad (va_up ar 10 (wrt P (pre b (n12 n (fl 9) (fl 10) (nI (lq % 2)) K) K) f0 n)) fl (nI en) n P (pre b (n12 n (fl 9) (fl 10) (nI (lq % 2)) K) K) f0 (by first | exact hn | assumption | omega | rfl) (by first | exact hN | assumption | omega | rfl) (by first | exact hP | assumption | omega | rfl) (by first | exact hPb | assumption | omega | rfl) (by first | exact hij | assumption | omega | rfl) (rfl)) ok_MD_kindAt m5_169 m5_171 ms_66 0 rfl rfl rfl rfl hl.1 ⟨rfl, rfl⟩ ⟨Nat.le_of_ble_eq_true rfl, Nat.le_of_ble_eq_true rfl⟩ (Nat.le_of_ble_eq_true rfl) ⟨Nat.le_of_ble_eq_true rfl, Nat.le_of_ble_eq_true rfl⟩ d_MD_neutrals_50 (fun r50 u50 H locs hp50 hI => ?_)
                refine q_as (y := kAt n (fl 9) (fl 10) (pre b (n12 n (fl 9) (fl 10) (nI (lq % 2)) K) K) (nI en)) hp50 ?_
                refine q_calliS [.int (kAt n (fl 9) (fl 10) (pre b (n12 n (fl 9) (fl 10) (nI (lq % 2)) K) K) (nI en))] M hI (c_MD_side l g (mw g ad (va_up ar 10 (wrt P (pre b (n12 n (fl 9) (fl 10) (nI (lq % 2)) K) K) f0 n)) fl) (kAt n (fl 9) (fl 10) (pre b (n12 n (fl 9) (fl 10) (nI (lq % 2)) K) K) (nI en))) ok_MD_side m5_197 m5_198 rfl rfl hl.1 ⟨rfl, rfl⟩ ⟨Nat.le_of_ble_eq_true rfl, Nat.le_of_ble_eq_true rfl⟩ (Nat.le_of_ble_eq_true rfl) ⟨Nat.le_of_ble_eq_true rfl, Nat.le_of_ble_eq_true rfl⟩ d_MD_neutrals_53 (fun r53 u53 H locs hp53 hI => ?_)
                refine q_as (y := sd (kAt n (fl 9) (fl 10) (pre b (n12 n (fl 9) (fl 10) (nI (lq % 2)) K) K) (nI en))) hp53 ?_
                refine q_as (y := sideN n (fl 10) K en) (sideN_k ht hN he2 he1) ?_
                refine lv_istore (lv' := [(4, .int (sideN n (fl 10) K en)), (3, .int (sideB (fl 9) K b)), (0, .ref (ad 0)), (1, .int (nI b)), (2, .int (nI en))]) hx hb d_MD_neutrals_56 hl (by decide) rfl (fun ls hl => ?_)
                refine lv_iload_n hx hb d_MD_neutrals_58 rfl (lv_at hl 3 rfl) ?_
                refine lv_istore (lv' := [(5, .int (nI b)), (4, .int (sideN n (fl 10) K en)), (3, .int (sideB (fl 9) K b)), (0, .ref (ad 0)), (1, .int (nI b)), (2, .int (nI en))]) hx hb d_MD_neutrals_59 hl (by decide) rfl (fun ls hl => ?_)
                have L61 : ∀ (fu : Nat) (j : Nat), (n - j) < fu → (b ≤ j) → (j ≤ en) → ∀ (H : Heap) (locs : List Loc) (ls : Array Slot), CI g A s (mw g ad (va_up ar 10 (wrt P (pre j (n12 n (fl 9) (fl 10) (nI (lq % 2)) K) K) f0 n)) fl) H locs → lv_has ls 6 [(0, .ref (ad 0)), (2, .int (nI en)), (3, .int (sideB (fl 9) K b)), (4, .int (sideN n (fl 10) K en)), (5, .int (nI j))] → W p l e rm_MD_neutrals s m args below meth c H locs 0 0 Q (F0 m 61 ls []) := by
                  intro fu
                  induction fu with
                  | zero => intro j hm; exact absurd hm (Nat.not_lt_zero _)
                  | succ fu ih61 =>
                    intro j hm hj1 hj2 H locs ls hI hl
                    refine lv_iload hx hb d_MD_neutrals_61 (lv_at hl 4 rfl) ?_
                    refine lv_iload_n hx hb d_MD_neutrals_63 rfl (lv_at hl 1 rfl) ?_
                    refine lv_icmp_ge (tgt := 96) hx hb d_MD_neutrals_64 (by decide) (fun c64 => ?_) (fun c64 => ?_)
                    · have c64 : en ≤ j := (nI_leI (a := en) (b := j) (by omega) (by omega)).mp c64
                      have ej : j = en := by omega
                      have hI := CI.to (w2 := mw g ad (va_up ar 10 (wrt P (pre (min (en + 1) n) (n12 n (fl 9) (fl 10) (nI (lq % 2)) K) K) f0 n)) fl) hI (by rw [ej, pre_step (n := n) (f := n12 n (fl 9) (fl 10) (nI (lq % 2)) K) (f0 := K) he2 (fun z => (n12_ne (hen z)).symm)] <;> rfl)
                      refine lv_iload_n hx hb d_MD_neutrals_96 rfl (lv_at hl 1 rfl) ?_
                      refine lv_iconst (v := 1) hx hb d_MD_neutrals_97 (by decide) ?_
                      refine lv_iadd hx hb d_MD_neutrals_98 ?_
                      refine q_as (y := nI (en + 1)) (nI_add en 1) ?_
                      refine lv_istore_n (lv' := [(1, .int (nI (en + 1))), (0, .ref (ad 0)), (2, .int (nI en)), (3, .int (sideB (fl 9) K b)), (4, .int (sideN n (fl 10) K en)), (5, .int (nI j))]) hx hb d_MD_neutrals_99 rfl hl (by decide) rfl (fun ls hl => ?_)
                      refine lv_goto (tgt := 2) hx hb d_MD_neutrals_100 (by decide) ?_
                      exact ih2 (en + 1) (by omega) (by first | assumption | omega) (by rcases Nat.lt_or_ge en n with z | z; exact Or.inr (Or.inr (by rw [Nat.add_sub_cancel]; exact hen z)); exact Or.inr (Or.inl (by omega))) _ _ _ hI (lv_sub hl [1, 0] rfl)
                    · have c64 : ¬ en ≤ j := fun h => c64 ((nI_leI (a := en) (b := j) (by omega) (by omega)).mpr h)
                      refine lv_aload_n hx hb d_MD_neutrals_67 rfl (lv_at hl 0 rfl) ?_
                      refine lv_iload hx hb d_MD_neutrals_68 (lv_at hl 4 rfl) ?_
                      refine lv_iload_n hx hb d_MD_neutrals_70 rfl (lv_at hl 2 rfl) ?_
                      refine lv_iload hx hb d_MD_neutrals_71 (lv_at hl 3 rfl) ?_
                      refine lv_icmp_ne (tgt := 80) hx hb d_MD_neutrals_73 (by decide) (fun c73 => ?_) (fun c73 => ?_)
                      · refine lv_aload_n hx hb d_MD_neutrals_80 rfl (lv_at hl 0 rfl) ?_
                        refine g_MD_165 M hI d_MD_neutrals_81 ?_
                        refine q_as (y := nI lq) hlq ?_
                        refine q_calliS [.int (nI lq)] M hI (c_MD_directionOf l g (mw g ad (va_up ar 10 (wrt P (pre j (n12 n (fl 9) (fl 10) (nI (lq % 2)) K) K) f0 n)) fl) lq (by omega)) ok_MD_directionOf m5_158 m5_159 rfl rfl hl.1 ⟨rfl, rfl⟩ ⟨Nat.le_of_ble_eq_true rfl, Nat.le_of_ble_eq_true rfl⟩ (Nat.le_of_ble_eq_true rfl) ⟨Nat.le_of_ble_eq_true rfl, Nat.le_of_ble_eq_true rfl⟩ d_MD_neutrals_84 (fun r84 u84 H locs hp84 hI => ?_)
                        refine q_as (y := nI (lq % 2)) hp84 ?_
                        refine q_as (y := (n12 n (fl 9) (fl 10) (nI (lq % 2)) K) j) (by rw [n12_row he2 hrow hst hen hj1 (by omega), if_neg c73]) ?_
                        refine q_callvV [.int (nI j), .int ((n12 n (fl 9) (fl 10) (nI (lq % 2)) K) j)] M hI (c_MD_put l g ad (va_up ar 10 (wrt P (pre j (n12 n (fl 9) (fl 10) (nI (lq % 2)) K) K) f0 n)) fl j ((n12 n (fl 9) (fl 10) (nI (lq % 2)) K) j) n P (pre j (n12 n (fl 9) (fl 10) (nI (lq % 2)) K) K) f0 (by first | exact hn | assumption | omega | rfl) (by first | exact hN | assumption | omega | rfl) (by first | exact hP | assumption | omega | rfl) (by first | exact hPb | assumption | omega | rfl) (by first | exact hij | assumption | omega | rfl) (rfl) (by omega)) ok_MD_put m5_173 m5_175 ms_67 0 rfl rfl rfl rfl hl.1 ⟨rfl, rfl⟩ ⟨Nat.le_of_ble_eq_true rfl, Nat.le_of_ble_eq_true rfl⟩ (Nat.le_of_ble_eq_true rfl) ⟨Nat.le_of_ble_eq_true rfl, Nat.le_of_ble_eq_true rfl⟩ d_MD_neutrals_87 (fun u87 H locs hp87 hI => ?_)
                        have hI : CI g A s (mw g ad (va_up ar 10 (wrt P (upd (pre j (n12 n (fl 9) (fl 10) (nI (lq % 2)) K) K) j ((n12 n (fl 9) (fl 10) (nI (lq % 2)) K) j)) f0 n)) fl) H locs := hI
                        have hI := CI.to (w2 := mw g ad (va_up ar 10 (wrt P (pre (j + 1) (n12 n (fl 9) (fl 10) (nI (lq % 2)) K) K) f0 n)) fl) hI (by rw [pre_up (f := n12 n (fl 9) (fl 10) (nI (lq % 2)) K) (f0 := K) rfl] <;> rfl)
                        refine lv_iinc (v := nI (j + 1)) (lv' := [(5, .int (nI (j + 1))), (0, .ref (ad 0)), (2, .int (nI en)), (3, .int (sideB (fl 9) K b)), (4, .int (sideN n (fl 10) K en))]) hx hb d_MD_neutrals_90 hl (k := 4) rfl (nI_add _ 1) (by decide) rfl (fun ls hl => ?_)
                        refine lv_goto (tgt := 61) hx hb d_MD_neutrals_93 (by decide) ?_
                        exact ih61 (j + 1) (by omega) (by first | assumption | omega) (by first | assumption | omega) _ _ _ hI (lv_sub hl [1, 2, 3, 4, 0] rfl)
                      · refine lv_iload_n hx hb d_MD_neutrals_76 rfl (lv_at hl 2 rfl) ?_
                        refine q_as (y := (n12 n (fl 9) (fl 10) (nI (lq % 2)) K) j) (by rw [n12_row he2 hrow hst hen hj1 (by omega), if_pos c73]; exact c73) ?_
                        refine lv_goto (tgt := 87) hx hb d_MD_neutrals_77 (by decide) ?_
                        refine q_callvV [.int (nI j), .int ((n12 n (fl 9) (fl 10) (nI (lq % 2)) K) j)] M hI (c_MD_put l g ad (va_up ar 10 (wrt P (pre j (n12 n (fl 9) (fl 10) (nI (lq % 2)) K) K) f0 n)) fl j ((n12 n (fl 9) (fl 10) (nI (lq % 2)) K) j) n P (pre j (n12 n (fl 9) (fl 10) (nI (lq % 2)) K) K) f0 (by first | exact hn | assumption | omega | rfl) (by first | exact hN | assumption | omega | rfl) (by first | exact hP | assumption | omega | rfl) (by first | exact hPb | assumption | omega | rfl) (by first | exact hij | assumption | omega | rfl) (rfl) (by omega)) ok_MD_put m5_173 m5_175 ms_67 0 rfl rfl rfl rfl hl.1 ⟨rfl, rfl⟩ ⟨Nat.le_of_ble_eq_true rfl, Nat.le_of_ble_eq_true rfl⟩ (Nat.le_of_ble_eq_true rfl) ⟨Nat.le_of_ble_eq_true rfl, Nat.le_of_ble_eq_true rfl⟩ d_MD_neutrals_87 (fun u87 H locs hp87 hI => ?_)
                        have hI : CI g A s (mw g ad (va_up ar 10 (wrt P (upd (pre j (n12 n (fl 9) (fl 10) (nI (lq % 2)) K) K) j ((n12 n (fl 9) (fl 10) (nI (lq % 2)) K) j)) f0 n)) fl) H locs := hI
                        have hI := CI.to (w2 := mw g ad (va_up ar 10 (wrt P (pre (j + 1) (n12 n (fl 9) (fl 10) (nI (lq % 2)) K) K) f0 n)) fl) hI (by rw [pre_up (f := n12 n (fl 9) (fl 10) (nI (lq % 2)) K) (f0 := K) rfl] <;> rfl)
                        refine lv_iinc (v := nI (j + 1)) (lv' := [(5, .int (nI (j + 1))), (0, .ref (ad 0)), (2, .int (nI en)), (3, .int (sideB (fl 9) K b)), (4, .int (sideN n (fl 10) K en))]) hx hb d_MD_neutrals_90 hl (k := 4) rfl (nI_add _ 1) (by decide) rfl (fun ls hl => ?_)
                        refine lv_goto (tgt := 61) hx hb d_MD_neutrals_93 (by decide) ?_
                        exact ih61 (j + 1) (by omega) (by first | assumption | omega) (by first | assumption | omega) _ _ _ hI (lv_sub hl [1, 2, 3, 4, 0] rfl)
                exact L61 _ b (Nat.lt_succ_self _) (by first | assumption | omega) (by first | assumption | omega) _ _ _ hI (lv_sub hl [3, 5, 2, 1, 0] rfl)
              · have c28 := bI_ne0.mp c28
                refine lv_iinc (v := nI (en + 1)) (lv' := [(2, .int (nI (en + 1))), (0, .ref (ad 0)), (1, .int (nI b))]) hx hb d_MD_neutrals_31 hl (k := 2) rfl (nI_add _ 1) (by decide) rfl (fun ls hl => ?_)
                refine lv_goto (tgt := 12) hx hb d_MD_neutrals_34 (by decide) ?_
                exact ih12 (en + 1) (by omega) (by first | assumption | omega) (by first | assumption | omega) (fun j h1 h2 => by rcases Nat.lt_or_ge j en with z | z; exact hrow j h1 z; rw [show j = en by omega]; exact (hok en (by omega)).mp c28) _ _ _ hI (lv_sub hl [1, 2, 0] rfl)
        exact L12 _ b (Nat.lt_succ_self _) (by first | assumption | omega) (by first | assumption | omega) (fun j h1 h2 => absurd h2 (by omega)) _ _ _ hI (lv_sub hl [1, 2, 0] rfl)
  have hI := CI.to (w2 := mw g ad (va_up ar 10 (wrt P (pre (min 0 n) (n12 n (fl 9) (fl 10) (nI (lq % 2)) K) K) f0 n)) fl) hI (by rw [show min 0 n = 0 by omega, pre_0] <;> rfl)
  exact L2 _ 0 (Nat.lt_succ_self _) (by first | assumption | omega) (Or.inl rfl) _ _ _ hI (lv_sub hl [1, 0] rfl)
