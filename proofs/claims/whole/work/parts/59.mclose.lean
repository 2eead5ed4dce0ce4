/-! 59: the model: closePair -/
def wrel (a : Nat → Int32) : List (Nat × Int32) → Prop
  | [] => True
  | x :: r => a r.length = nI x.1 ∧ wrel a r
abbrev rm_MD_closePair : Room := { frames := 1, cells := 0, slots := 0, locals := 23 }
set_option maxHeartbeats 4000000 in
set_option maxRecDepth 100000 in
theorem c_MD_closePair (l : Launch) (g : Geo) (ad : Nat → Nat) (ar : Nat → Nat → Int32) (fl : Nat → Int32) (i : Nat) (v : Int32) (n bn : Nat) (P : Nat → Nat) (st : List (Nat × Int32)) (hN : n ≤ 2000) (hP : ∀ j, j < n → ar 18 j = nI (P j)) (hPb : ∀ j, j < n → P j < 2000) (hbn : fl 3 = nI bn) (hbN : bn ≤ 40) (hwt : fl 12 = nI st.length) (hwr : wrel (ar 19) st) (hst : ∀ a ∈ st, a.1 < n ∧ a.2 = lk (ar 5) (ar 6) (ar 1 (P a.1)) bn) (h63 : st.length ≤ 63) : cMv l y_MD_closePair (.code y_MD_closePair b_MD_closePair 4 none :: gw) rm_MD_closePair g [.ref (ad 0), .int (nI i), .int v] (mw g ad ar fl) (fun (_ : Unit) => True) (fun (_ : Unit) => mw g ad (va_up ar 20 (cbP v st i (ar 20))) (va_up fl 12 (nI (cbS v st).length))) 0 0 := by
  refine cMv_of (by decide) (Nat.le_of_ble_eq_true rfl) ?_
  intro p e s m below meth c A Q ls M hnm hret hl hI
  have M : MC p s m ([.ref (ad 0), .int (nI i), .int v] : List Value).toArray meth c R_MD b_MD_closePair 4 := M
  have hl : lv_has ls 4 [(0, .ref (ad 0)), (1, .int (nI i)), (2, .int v)] := hl
  generalize ([.ref (ad 0), .int (nI i), .int v] : List Value).toArray = args at M hret ⊢
  have hx := M.1
  have hb := M.2.1
  have hI := CI.to (w2 := mw g ad ar (va_up fl 12 (nI st.length))) hI (by rw [← hwt]; rfl)
  refine lv_aload_n hx hb d_MD_closePair_0 rfl (lv_at hl 0 rfl) ?_
  refine g_MD_193 M hI d_MD_closePair_1 ?_
  refine q_as (y := nI st.length) rfl ?_
  refine lv_iconst (v := 1) hx hb d_MD_closePair_4 (by decide) ?_
  refine lv_isub hx hb d_MD_closePair_5 ?_
  refine lv_istore_n (lv' := [(3, .int ((nI st.length) - 1)), (0, .ref (ad 0)), (1, .int (nI i)), (2, .int v)]) hx hb d_MD_closePair_6 rfl hl (by decide) rfl (fun ls hl => ?_)
  have L7 : ∀ (fu : Nat) (s2 : List (Nat × Int32)), s2.length < fu → (wrel (ar 19) s2) → (popB v st = popB v s2) → (s2.length ≤ 63) → (∀ a ∈ s2, a ∈ st) → ∀ (H : Heap) (locs : List Loc) (ls : Array Slot), CI g A s (mw g ad ar (va_up fl 12 (nI st.length))) H locs → lv_has ls 4 [(0, .ref (ad 0)), (1, .int (nI i)), (2, .int v), (3, .int (nI s2.length - 1))] → W p l e rm_MD_closePair s m args below meth c H locs 0 0 Q (F0 m 7 ls []) := by
    intro fu
    induction fu with
    | zero => intro s2 hm; exact absurd hm (Nat.not_lt_zero _)
    | succ fu ih7 =>
      intro s2 hm hb2 hp hl2 hin H locs ls hI hl
      refine lv_iload_n hx hb d_MD_closePair_7 rfl (lv_at hl 3 rfl) ?_
      refine lv_if_lt (tgt := 41) hx hb d_MD_closePair_8 (by decide) (fun c8 => ?_) (fun c8 => ?_)
      · have hz0 : s2 = [] := List.eq_nil_of_length_eq_zero ((nI_m1neg (by omega)).mp c8)
        have eP : popB v st = none := by rw [hp, hz0]; rfl
        have e1 : cbP v st i (ar 20) = ar 20 := by unfold cbP; rw [eP]
        have e2 : cbS v st = st := by unfold cbS; rw [eP]
        refine lv_iload_n hx hb d_MD_closePair_41 rfl (lv_at hl 3 rfl) ?_
        refine lv_if_lt (tgt := 62) hx hb d_MD_closePair_42 (by decide) (fun c42 => ?_) (fun c42 => ?_)
        · have hI := CI.to (w2 := mw g ad (va_up ar 20 (cbP v st i (ar 20))) (va_up fl 12 (nI (cbS v st).length))) hI (by rw [e1, e2] <;> rfl)
          exact hret () _ _ _ _ _ _ d_MD_closePair_62 hI (trivial) (Nat.le_refl 0) (Nat.le_refl 0)
        · exact absurd c8 c42
      · obtain ⟨a, s3, hs3⟩ : ∃ a s3, s2 = a :: s3 := by cases s2 with | nil => exact absurd nI_0m1 c8 | cons a s3 => exact ⟨a, s3, rfl⟩
        have hlen : s2.length = s3.length + 1 := by rw [hs3]; rfl
        rw [hlen, nI_pred] at hl
        have hb3 : wrel (ar 19) s3 := (hs3 ▸ hb2).2
        have ha1 : ar 19 s3.length = nI a.1 := (hs3 ▸ hb2).1
        have hin2 : ∀ a ∈ s3, a ∈ st := fun b hb => hin b (by rw [hs3]; exact List.mem_cons_of_mem _ hb)
        have hal := hst a (hin a (by rw [hs3]; exact List.mem_cons_self))
        refine lv_aload_n hx hb d_MD_closePair_11 rfl (lv_at hl 0 rfl) ?_
        refine lv_aload_n hx hb d_MD_closePair_12 rfl (lv_at hl 0 rfl) ?_
        refine g_MD_7 M hI d_MD_closePair_13 ?_
        refine lv_aload_n hx hb d_MD_closePair_16 rfl (lv_at hl 0 rfl) ?_
        refine g_MD_62 M hI d_MD_closePair_17 ?_
        refine lv_aload_n hx hb d_MD_closePair_20 rfl (lv_at hl 0 rfl) ?_
        refine g_MD_65 M hI d_MD_closePair_21 ?_
        refine lv_iload_n hx hb d_MD_closePair_24 rfl (lv_at hl 3 rfl) ?_
        refine bl_19 M hI s3.length rfl (by omega) d_MD_closePair_25 ?_
        refine q_as (y := nI a.1) (ha1) ?_
        refine bl_18 M hI a.1 rfl (by have := hal.1; omega) d_MD_closePair_26 ?_
        refine q_as (y := nI (P a.1)) (hP _ hal.1) ?_
        refine bl_1 M hI (P a.1) rfl (hPb _ hal.1) d_MD_closePair_27 ?_
        refine q_calliV [.int (ar 1 (P a.1))] M hI (c_MD_asked l g ad ar (va_up fl 12 (nI st.length)) (ar 1 (P a.1)) bn (by first | exact hbn | assumption | omega | rfl) (by first | exact hbN | assumption | omega | rfl)) ok_MD_asked m5_68 m5_70 ms_47 0 rfl rfl rfl rfl hl.1 ⟨rfl, rfl⟩ ⟨Nat.le_of_ble_eq_true rfl, Nat.le_of_ble_eq_true rfl⟩ (Nat.le_of_ble_eq_true rfl) ⟨Nat.le_of_ble_eq_true rfl, Nat.le_of_ble_eq_true rfl⟩ d_MD_closePair_28 (fun r28 u28 H locs hp28 hI => ?_)
        refine q_as (y := lk (ar 5) (ar 6) (ar 1 (P a.1)) bn) hp28 ?_
        refine q_as (y := a.2) (hal.2.symm) ?_
        refine lv_iload_n hx hb d_MD_closePair_31 rfl (lv_at hl 2 rfl) ?_
        refine lv_icmp_eq (tgt := 41) hx hb d_MD_closePair_32 (by decide) (fun c32 => ?_) (fun c32 => ?_)
        · have eP : popB v st = some (a.1, s3) := by rw [hp, hs3]; simp only [popB]; rw [if_pos c32]
          have e1 : cbP v st i (ar 20) = upd (ar 20) a.1 (nI i) := by unfold cbP; rw [eP]
          have e2 : cbS v st = s3 := by unfold cbS; rw [eP]
          refine lv_iload_n hx hb d_MD_closePair_41 rfl (lv_at hl 3 rfl) ?_
          refine lv_if_lt (tgt := 62) hx hb d_MD_closePair_42 (by decide) (fun c42 => ?_) (fun c42 => ?_)
          · have c42 : s3.length < 0 := (nI_ltI (a := s3.length) (b := 0) (by omega) (by omega)).mp c42
            exfalso; omega
          · have c42 : ¬ s3.length < 0 := fun h => c42 ((nI_ltI (a := s3.length) (b := 0) (by omega) (by omega)).mpr h)
            refine lv_aload_n hx hb d_MD_closePair_45 rfl (lv_at hl 0 rfl) ?_
            refine g_MD_68 M hI d_MD_closePair_46 ?_
            refine lv_aload_n hx hb d_MD_closePair_49 rfl (lv_at hl 0 rfl) ?_
            refine g_MD_65 M hI d_MD_closePair_50 ?_
            refine lv_iload_n hx hb d_MD_closePair_53 rfl (lv_at hl 3 rfl) ?_
            refine bl_19 M hI s3.length rfl (by omega) d_MD_closePair_54 ?_
            refine q_as (y := nI a.1) (ha1) ?_
            refine lv_iload_n hx hb d_MD_closePair_55 rfl (lv_at hl 1 rfl) ?_
            refine bs_20 M hI a.1 rfl (by have := hal.1; omega) d_MD_closePair_56 (fun H locs hI => ?_)
            have hI : CI g A s (mw g ad (va_up ar 20 (upd (ar 20) a.1 (nI i))) (va_up fl 12 (nI st.length))) H locs := hI
            refine lv_aload_n hx hb d_MD_closePair_57 rfl (lv_at hl 0 rfl) ?_
            refine lv_iload_n hx hb d_MD_closePair_58 rfl (lv_at hl 3 rfl) ?_
            refine p_MD_193 M hI d_MD_closePair_59 (fun H locs hI => ?_)
            have hI : CI g A s (mw g ad (va_up ar 20 (upd (ar 20) a.1 (nI i))) (va_up fl 12 (nI s3.length))) H locs := hI
            have hI := CI.to (w2 := mw g ad (va_up ar 20 (cbP v st i (ar 20))) (va_up fl 12 (nI (cbS v st).length))) hI (by rw [e1, e2] <;> rfl)
            exact hret () _ _ _ _ _ _ d_MD_closePair_62 hI (trivial) (Nat.le_refl 0) (Nat.le_refl 0)
        · have hp2 : popB v st = popB v s3 := by rw [hp, hs3]; simp only [popB]; rw [if_neg c32]
          refine lv_iinc (v := nI s3.length - 1) (lv' := [(3, .int (nI s3.length - 1)), (0, .ref (ad 0)), (1, .int (nI i)), (2, .int v)]) hx hb d_MD_closePair_35 hl (k := 3) rfl (nI_dec _) (by decide) rfl (fun ls hl => ?_)
          refine lv_goto (tgt := 7) hx hb d_MD_closePair_38 (by decide) ?_
          exact ih7 s3 (by omega) (hb3) (hp2) (by omega) (hin2) _ _ _ hI (lv_sub hl [1, 2, 3, 0] rfl)
  exact L7 _ st (Nat.lt_succ_self _) (hwr) (rfl) (h63) (fun a h => h) _ _ _ hI (lv_sub hl [1, 2, 3, 0] rfl)
