/-! 52: the model: a sequence's places -/
theorem sd_neg {k : Int32} (h : ¬ 0 ≤ sd k) : sd k = -1 := by
  unfold sd at h ⊢
  by_cases h1 : k = 0
  · rw [if_pos h1] at h; exact absurd (by decide) h
  · rw [if_neg h1] at h ⊢
    by_cases h2 : k = 1 ∨ k = 3 ∨ k = 6
    · rw [if_pos h2] at h; exact absurd (by decide) h
    · rw [if_neg h2]
abbrev rm_MD_kindAt : Room := { frames := 0, cells := 0, slots := 0, locals := 0 }
set_option maxHeartbeats 4000000 in
set_option maxRecDepth 100000 in
theorem c_MD_kindAt (l : Launch) (g : Geo) (ad : Nat → Nat) (ar : Nat → Nat → Int32) (fl : Nat → Int32) (x : Int32) (n : Nat) (P : Nat → Nat) (K f0 : Nat → Int32) (hn : fl 8 = nI n) (hN : n ≤ 2000) (hP : ∀ j, j < n → ar 18 j = nI (P j)) (hPb : ∀ j, j < n → P j < 2000) (hij : inj n P) (hw : ar 10 = wrt P K f0 n) : cMi l y_MD_kindAt (.code y_MD_kindAt b_MD_kindAt 2 (some .int) :: gw) rm_MD_kindAt g [.ref (ad 0), .int x] (mw g ad ar fl) (fun (r : Int32) (_ : Unit) => r = kAt n (fl 9) (fl 10) K x) (fun (_ : Unit) => mw g ad ar fl) 0 0 := by
  refine cMi_of (by decide) (Nat.le_of_ble_eq_true rfl) ?_
  intro p e s m below meth c A Q ls M hret hl hI
  have M : MC p s m ([.ref (ad 0), .int x] : List Value).toArray meth c R_MD b_MD_kindAt 2 := M
  have hl : lv_has ls 2 [(0, .ref (ad 0)), (1, .int x)] := hl
  generalize ([.ref (ad 0), .int x] : List Value).toArray = args at M hret ⊢
  have hx := M.1
  have hb := M.2.1
  refine lv_iload_n hx hb d_MD_kindAt_0 rfl (lv_at hl 1 rfl) ?_
  refine lv_if_ge (tgt := 11) hx hb d_MD_kindAt_1 (by decide) (fun c1 => ?_) (fun c1 => ?_)
  · have c0 : ¬ x < 0 := Int32.not_lt.mpr c1
    refine lv_iload_n hx hb d_MD_kindAt_11 rfl (lv_at hl 1 rfl) ?_
    refine lv_aload_n hx hb d_MD_kindAt_12 rfl (lv_at hl 0 rfl) ?_
    refine g_MD_155 M hI d_MD_kindAt_13 ?_
    refine q_as (y := nI n) hn ?_
    refine lv_icmp_lt (tgt := 26) hx hb d_MD_kindAt_16 (by decide) (fun c16 => ?_) (fun c16 => ?_)
    · have c9 : ¬ nI n ≤ x := Int32.not_le.mpr c16
      have hxl := tn_lt c0 c9 (by omega)
      refine lv_aload_n hx hb d_MD_kindAt_26 rfl (lv_at hl 0 rfl) ?_
      refine g_MD_37 M hI d_MD_kindAt_27 ?_
      refine lv_aload_n hx hb d_MD_kindAt_30 rfl (lv_at hl 0 rfl) ?_
      refine g_MD_62 M hI d_MD_kindAt_31 ?_
      refine lv_iload_n hx hb d_MD_kindAt_34 rfl (lv_at hl 1 rfl) ?_
      refine bl_18 M hI x.toNatClampNeg (nI_tn c0) (by omega) d_MD_kindAt_35 ?_
      refine q_as (y := nI (P x.toNatClampNeg)) (hP _ hxl) ?_
      refine bl_10 M hI (P x.toNatClampNeg) rfl (hPb _ hxl) d_MD_kindAt_36 ?_
      refine q_as (y := K x.toNatClampNeg) (by rw [hw]; exact wrt_at hij n (Nat.le_refl n) _ hxl) ?_
      exact hret (K x.toNatClampNeg) () _ _ _ _ _ _ d_MD_kindAt_37 hI (by unfold kAt; first | rw [if_pos c0] | (rw [if_neg c0]; first | rw [if_pos c9] | rw [if_neg c9])) (Nat.le_refl 0) (Nat.le_refl 0)
    · have c9 : nI n ≤ x := Int32.not_lt.mp c16
      refine lv_aload_n hx hb d_MD_kindAt_19 rfl (lv_at hl 0 rfl) ?_
      refine g_MD_174 M hI d_MD_kindAt_20 ?_
      refine lv_goto (tgt := 37) hx hb d_MD_kindAt_23 (by decide) ?_
      exact hret (fl 10) () _ _ _ _ _ _ d_MD_kindAt_37 hI (by unfold kAt; first | rw [if_pos c0] | (rw [if_neg c0]; first | rw [if_pos c9] | rw [if_neg c9])) (Nat.le_refl 0) (Nat.le_refl 0)
  · have c0 : x < 0 := Int32.not_le.mp c1
    refine lv_aload_n hx hb d_MD_kindAt_4 rfl (lv_at hl 0 rfl) ?_
    refine g_MD_171 M hI d_MD_kindAt_5 ?_
    refine lv_goto (tgt := 37) hx hb d_MD_kindAt_8 (by decide) ?_
    exact hret (fl 9) () _ _ _ _ _ _ d_MD_kindAt_37 hI (by unfold kAt; first | rw [if_pos c0] | (rw [if_neg c0]; first | rw [if_pos c9] | rw [if_neg c9])) (Nat.le_refl 0) (Nat.le_refl 0)
abbrev rm_MD_put : Room := { frames := 0, cells := 0, slots := 0, locals := 0 }
set_option maxHeartbeats 4000000 in
set_option maxRecDepth 100000 in
theorem c_MD_put (l : Launch) (g : Geo) (ad : Nat → Nat) (ar : Nat → Nat → Int32) (fl : Nat → Int32) (i : Nat) (v : Int32) (n : Nat) (P : Nat → Nat) (K f0 : Nat → Int32) (hn : fl 8 = nI n) (hN : n ≤ 2000) (hP : ∀ j, j < n → ar 18 j = nI (P j)) (hPb : ∀ j, j < n → P j < 2000) (hij : inj n P) (hw : ar 10 = wrt P K f0 n) (hi : i < n) : cMv l y_MD_put (.code y_MD_put b_MD_put 3 none :: gw) rm_MD_put g [.ref (ad 0), .int (nI i), .int v] (mw g ad ar fl) (fun (_ : Unit) => True) (fun (_ : Unit) => mw g ad (va_up ar 10 (wrt P (upd K i v) f0 n)) fl) 0 0 := by
  refine cMv_of (by decide) (Nat.le_of_ble_eq_true rfl) ?_
  intro p e s m below meth c A Q ls M hnm hret hl hI
  have M : MC p s m ([.ref (ad 0), .int (nI i), .int v] : List Value).toArray meth c R_MD b_MD_put 3 := M
  have hl : lv_has ls 3 [(0, .ref (ad 0)), (1, .int (nI i)), (2, .int v)] := hl
  generalize ([.ref (ad 0), .int (nI i), .int v] : List Value).toArray = args at M hret ⊢
  have hx := M.1
  have hb := M.2.1
  refine lv_aload_n hx hb d_MD_put_0 rfl (lv_at hl 0 rfl) ?_
  refine g_MD_37 M hI d_MD_put_1 ?_
  refine lv_aload_n hx hb d_MD_put_4 rfl (lv_at hl 0 rfl) ?_
  refine g_MD_62 M hI d_MD_put_5 ?_
  refine lv_iload_n hx hb d_MD_put_8 rfl (lv_at hl 1 rfl) ?_
  refine bl_18 M hI i rfl (by omega) d_MD_put_9 ?_
  refine q_as (y := nI (P i)) (hP _ (by omega)) ?_
  refine lv_iload_n hx hb d_MD_put_10 rfl (lv_at hl 2 rfl) ?_
  refine bs_10 M hI (P i) rfl (hPb _ hi) d_MD_put_11 (fun H locs hI => ?_)
  have hI : CI g A s (mw g ad (va_up ar 10 (upd (ar 10) (P i) v)) fl) H locs := hI
  rw [show upd (ar 10) (P i) v = wrt P (upd K i v) f0 n from by rw [hw]; exact wrt_put hij hi] at hI
  have hI : CI g A s (mw g ad (va_up ar 10 (wrt P (upd K i v) f0 n)) fl) H locs := hI
  exact hret () _ _ _ _ _ _ d_MD_put_12 hI (trivial) (Nat.le_refl 0) (Nat.le_refl 0)
abbrev rm_MD_strongBefore : Room := { frames := 1, cells := 0, slots := 0, locals := 21 }
set_option maxHeartbeats 4000000 in
set_option maxRecDepth 100000 in
theorem c_MD_strongBefore (l : Launch) (g : Geo) (ad : Nat → Nat) (ar : Nat → Nat → Int32) (fl : Nat → Int32) (i : Nat) (n : Nat) (P : Nat → Nat) (K f0 : Nat → Int32) (hn : fl 8 = nI n) (hN : n ≤ 2000) (hP : ∀ j, j < n → ar 18 j = nI (P j)) (hPb : ∀ j, j < n → P j < 2000) (hij : inj n P) (hw : ar 10 = wrt P K f0 n) (hi : i ≤ n) : cMi l y_MD_strongBefore (.code y_MD_strongBefore b_MD_strongBefore 3 (some .int) :: gw) rm_MD_strongBefore g [.ref (ad 0), .int (nI i)] (mw g ad ar fl) (fun (r : Int32) (_ : Unit) => r = lastS (fl 9) K i) (fun (_ : Unit) => mw g ad ar fl) 0 0 := by
  refine cMi_of (by decide) (Nat.le_of_ble_eq_true rfl) ?_
  intro p e s m below meth c A Q ls M hret hl hI
  have M : MC p s m ([.ref (ad 0), .int (nI i)] : List Value).toArray meth c R_MD b_MD_strongBefore 3 := M
  have hl : lv_has ls 3 [(0, .ref (ad 0)), (1, .int (nI i))] := hl
  generalize ([.ref (ad 0), .int (nI i)] : List Value).toArray = args at M hret ⊢
  have hx := M.1
  have hb := M.2.1
  refine lv_iload_n hx hb d_MD_strongBefore_0 rfl (lv_at hl 1 rfl) ?_
  refine lv_iconst (v := 1) hx hb d_MD_strongBefore_1 (by decide) ?_
  refine lv_isub hx hb d_MD_strongBefore_2 ?_
  refine lv_istore_n (lv' := [(2, .int ((nI i) - 1)), (0, .ref (ad 0)), (1, .int (nI i))]) hx hb d_MD_strongBefore_3 rfl hl (by decide) rfl (fun ls hl => ?_)
  have L4 : ∀ (fu : Nat) (z : Nat), z < fu → (z ≤ n) → (lastS (fl 9) K i = lastS (fl 9) K z) → ∀ (H : Heap) (locs : List Loc) (ls : Array Slot), CI g A s (mw g ad ar fl) H locs → lv_has ls 3 [(0, .ref (ad 0)), (2, .int (nI z - 1))] → W p l e rm_MD_strongBefore s m args below meth c H locs 0 0 Q (F0 m 4 ls []) := by
    intro fu
    induction fu with
    | zero => intro z hm; exact absurd hm (Nat.not_lt_zero _)
    | succ fu ih4 =>
      intro z hm hz hq H locs ls hI hl
      refine lv_iload_n hx hb d_MD_strongBefore_4 rfl (lv_at hl 1 rfl) ?_
      refine lv_if_lt (tgt := 40) hx hb d_MD_strongBefore_5 (by decide) (fun c5 => ?_) (fun c5 => ?_)
      · have hz0 : z = 0 := (nI_m1neg (by omega)).mp c5
        refine lv_aload_n hx hb d_MD_strongBefore_40 rfl (lv_at hl 0 rfl) ?_
        refine lv_iload_n hx hb d_MD_strongBefore_41 rfl (lv_at hl 1 rfl) ?_
        refine q_calliV [.int (nI z - 1)] M hI (c_MD_kindAt l g ad ar fl (nI z - 1) n P K f0 (by first | exact hn | assumption | omega | rfl) (by first | exact hN | assumption | omega | rfl) (by first | exact hP | assumption | omega | rfl) (by first | exact hPb | assumption | omega | rfl) (by first | exact hij | assumption | omega | rfl) (by first | exact hw | assumption | omega | rfl)) ok_MD_kindAt m5_169 m5_171 ms_66 0 rfl rfl rfl rfl hl.1 ⟨rfl, rfl⟩ ⟨Nat.le_of_ble_eq_true rfl, Nat.le_of_ble_eq_true rfl⟩ (Nat.le_of_ble_eq_true rfl) ⟨Nat.le_of_ble_eq_true rfl, Nat.le_of_ble_eq_true rfl⟩ d_MD_strongBefore_42 (fun r42 u42 H locs hp42 hI => ?_)
        refine q_as (y := kAt n (fl 9) (fl 10) K (nI z - 1)) hp42 ?_
        exact hret (kAt n (fl 9) (fl 10) K (nI z - 1)) () _ _ _ _ _ _ d_MD_strongBefore_45 hI (by rw [hq]; first | (rw [hz0]; exact kAt_0) | (simp only [lastS]; rw [if_pos hs]; exact kAt_n (by omega) (by omega))) (Nat.le_refl 0) (Nat.le_refl 0)
      · obtain ⟨j, rfl⟩ : ∃ j, z = j + 1 := ⟨z - 1, by have : ¬ z = 0 := fun q => c5 ((nI_m1neg (by omega)).mpr q); omega⟩
        rw [nI_pred] at hl
        refine lv_aload_n hx hb d_MD_strongBefore_8 rfl (lv_at hl 0 rfl) ?_
        refine lv_iload_n hx hb d_MD_strongBefore_9 rfl (lv_at hl 1 rfl) ?_
        refine q_calliV [.int (nI j)] M hI (c_MD_kindAt l g ad ar fl (nI j) n P K f0 (by first | exact hn | assumption | omega | rfl) (by first | exact hN | assumption | omega | rfl) (by first | exact hP | assumption | omega | rfl) (by first | exact hPb | assumption | omega | rfl) (by first | exact hij | assumption | omega | rfl) (by first | exact hw | assumption | omega | rfl)) ok_MD_kindAt m5_169 m5_171 ms_66 0 rfl rfl rfl rfl hl.1 ⟨rfl, rfl⟩ ⟨Nat.le_of_ble_eq_true rfl, Nat.le_of_ble_eq_true rfl⟩ (Nat.le_of_ble_eq_true rfl) ⟨Nat.le_of_ble_eq_true rfl, Nat.le_of_ble_eq_true rfl⟩ d_MD_strongBefore_10 (fun r10 u10 H locs hp10 hI => ?_)
        refine q_as (y := kAt n (fl 9) (fl 10) K (nI j)) hp10 ?_
        refine q_as (y := K j) (kAt_n (by omega) (by omega)) ?_
        refine lv_if_eq (tgt := 40) hx hb d_MD_strongBefore_13 (by decide) (fun c13 => ?_) (fun c13 => ?_)
        · have hs : strg (K j) := Or.inl c13
          refine lv_aload_n hx hb d_MD_strongBefore_40 rfl (lv_at hl 0 rfl) ?_
          refine lv_iload_n hx hb d_MD_strongBefore_41 rfl (lv_at hl 1 rfl) ?_
          refine q_calliV [.int (nI j)] M hI (c_MD_kindAt l g ad ar fl (nI j) n P K f0 (by first | exact hn | assumption | omega | rfl) (by first | exact hN | assumption | omega | rfl) (by first | exact hP | assumption | omega | rfl) (by first | exact hPb | assumption | omega | rfl) (by first | exact hij | assumption | omega | rfl) (by first | exact hw | assumption | omega | rfl)) ok_MD_kindAt m5_169 m5_171 ms_66 0 rfl rfl rfl rfl hl.1 ⟨rfl, rfl⟩ ⟨Nat.le_of_ble_eq_true rfl, Nat.le_of_ble_eq_true rfl⟩ (Nat.le_of_ble_eq_true rfl) ⟨Nat.le_of_ble_eq_true rfl, Nat.le_of_ble_eq_true rfl⟩ d_MD_strongBefore_42 (fun r42 u42 H locs hp42 hI => ?_)
          refine q_as (y := kAt n (fl 9) (fl 10) K (nI j)) hp42 ?_
          exact hret (kAt n (fl 9) (fl 10) K (nI j)) () _ _ _ _ _ _ d_MD_strongBefore_45 hI (by rw [hq]; first | (rw [hz0]; exact kAt_0) | (simp only [lastS]; rw [if_pos hs]; exact kAt_n (by omega) (by omega))) (Nat.le_refl 0) (Nat.le_refl 0)
        · refine lv_aload_n hx hb d_MD_strongBefore_16 rfl (lv_at hl 0 rfl) ?_
          refine lv_iload_n hx hb d_MD_strongBefore_17 rfl (lv_at hl 1 rfl) ?_
          refine q_calliV [.int (nI j)] M hI (c_MD_kindAt l g ad ar fl (nI j) n P K f0 (by first | exact hn | assumption | omega | rfl) (by first | exact hN | assumption | omega | rfl) (by first | exact hP | assumption | omega | rfl) (by first | exact hPb | assumption | omega | rfl) (by first | exact hij | assumption | omega | rfl) (by first | exact hw | assumption | omega | rfl)) ok_MD_kindAt m5_169 m5_171 ms_66 0 rfl rfl rfl rfl hl.1 ⟨rfl, rfl⟩ ⟨Nat.le_of_ble_eq_true rfl, Nat.le_of_ble_eq_true rfl⟩ (Nat.le_of_ble_eq_true rfl) ⟨Nat.le_of_ble_eq_true rfl, Nat.le_of_ble_eq_true rfl⟩ d_MD_strongBefore_18 (fun r18 u18 H locs hp18 hI => ?_)
          refine q_as (y := kAt n (fl 9) (fl 10) K (nI j)) hp18 ?_
          refine q_as (y := K j) (kAt_n (by omega) (by omega)) ?_
          refine lv_iconst (v := 1) hx hb d_MD_strongBefore_21 (by decide) ?_
          refine lv_icmp_eq (tgt := 40) hx hb d_MD_strongBefore_22 (by decide) (fun c22 => ?_) (fun c22 => ?_)
          · have hs : strg (K j) := Or.inr (Or.inl c22)
            refine lv_aload_n hx hb d_MD_strongBefore_40 rfl (lv_at hl 0 rfl) ?_
            refine lv_iload_n hx hb d_MD_strongBefore_41 rfl (lv_at hl 1 rfl) ?_
            refine q_calliV [.int (nI j)] M hI (c_MD_kindAt l g ad ar fl (nI j) n P K f0 (by first | exact hn | assumption | omega | rfl) (by first | exact hN | assumption | omega | rfl) (by first | exact hP | assumption | omega | rfl) (by first | exact hPb | assumption | omega | rfl) (by first | exact hij | assumption | omega | rfl) (by first | exact hw | assumption | omega | rfl)) ok_MD_kindAt m5_169 m5_171 ms_66 0 rfl rfl rfl rfl hl.1 ⟨rfl, rfl⟩ ⟨Nat.le_of_ble_eq_true rfl, Nat.le_of_ble_eq_true rfl⟩ (Nat.le_of_ble_eq_true rfl) ⟨Nat.le_of_ble_eq_true rfl, Nat.le_of_ble_eq_true rfl⟩ d_MD_strongBefore_42 (fun r42 u42 H locs hp42 hI => ?_)
            refine q_as (y := kAt n (fl 9) (fl 10) K (nI j)) hp42 ?_
            exact hret (kAt n (fl 9) (fl 10) K (nI j)) () _ _ _ _ _ _ d_MD_strongBefore_45 hI (by rw [hq]; first | (rw [hz0]; exact kAt_0) | (simp only [lastS]; rw [if_pos hs]; exact kAt_n (by omega) (by omega))) (Nat.le_refl 0) (Nat.le_refl 0)
          · refine lv_aload_n hx hb d_MD_strongBefore_25 rfl (lv_at hl 0 rfl) ?_
            refine lv_iload_n hx hb d_MD_strongBefore_26 rfl (lv_at hl 1 rfl) ?_
            refine q_calliV [.int (nI j)] M hI (c_MD_kindAt l g ad ar fl (nI j) n P K f0 (by first | exact hn | assumption | omega | rfl) (by first | exact hN | assumption | omega | rfl) (by first | exact hP | assumption | omega | rfl) (by first | exact hPb | assumption | omega | rfl) (by first | exact hij | assumption | omega | rfl) (by first | exact hw | assumption | omega | rfl)) ok_MD_kindAt m5_169 m5_171 ms_66 0 rfl rfl rfl rfl hl.1 ⟨rfl, rfl⟩ ⟨Nat.le_of_ble_eq_true rfl, Nat.le_of_ble_eq_true rfl⟩ (Nat.le_of_ble_eq_true rfl) ⟨Nat.le_of_ble_eq_true rfl, Nat.le_of_ble_eq_true rfl⟩ d_MD_strongBefore_27 (fun r27 u27 H locs hp27 hI => ?_)
            refine q_as (y := kAt n (fl 9) (fl 10) K (nI j)) hp27 ?_
            refine q_as (y := K j) (kAt_n (by omega) (by omega)) ?_
            refine lv_iconst (v := 2) hx hb d_MD_strongBefore_30 (by decide) ?_
            refine lv_icmp_eq (tgt := 40) hx hb d_MD_strongBefore_31 (by decide) (fun c31 => ?_) (fun c31 => ?_)
            · have hs : strg (K j) := Or.inr (Or.inr c31)
              refine lv_aload_n hx hb d_MD_strongBefore_40 rfl (lv_at hl 0 rfl) ?_
              refine lv_iload_n hx hb d_MD_strongBefore_41 rfl (lv_at hl 1 rfl) ?_
              refine q_calliV [.int (nI j)] M hI (c_MD_kindAt l g ad ar fl (nI j) n P K f0 (by first | exact hn | assumption | omega | rfl) (by first | exact hN | assumption | omega | rfl) (by first | exact hP | assumption | omega | rfl) (by first | exact hPb | assumption | omega | rfl) (by first | exact hij | assumption | omega | rfl) (by first | exact hw | assumption | omega | rfl)) ok_MD_kindAt m5_169 m5_171 ms_66 0 rfl rfl rfl rfl hl.1 ⟨rfl, rfl⟩ ⟨Nat.le_of_ble_eq_true rfl, Nat.le_of_ble_eq_true rfl⟩ (Nat.le_of_ble_eq_true rfl) ⟨Nat.le_of_ble_eq_true rfl, Nat.le_of_ble_eq_true rfl⟩ d_MD_strongBefore_42 (fun r42 u42 H locs hp42 hI => ?_)
              refine q_as (y := kAt n (fl 9) (fl 10) K (nI j)) hp42 ?_
              exact hret (kAt n (fl 9) (fl 10) K (nI j)) () _ _ _ _ _ _ d_MD_strongBefore_45 hI (by rw [hq]; first | (rw [hz0]; exact kAt_0) | (simp only [lastS]; rw [if_pos hs]; exact kAt_n (by omega) (by omega))) (Nat.le_refl 0) (Nat.le_refl 0)
            · refine lv_iinc (v := nI j - 1) (lv' := [(2, .int (nI j - 1)), (0, .ref (ad 0))]) hx hb d_MD_strongBefore_34 hl (k := 1) rfl (nI_dec j) (by decide) rfl (fun ls hl => ?_)
              refine lv_goto (tgt := 4) hx hb d_MD_strongBefore_37 (by decide) ?_
              exact ih4 j (by omega) (by first | assumption | omega) (by rw [hq]; simp only [lastS]; rw [if_neg (fun q => q.elim c13 (fun q => q.elim c22 c31))]) _ _ _ hI (lv_sub hl [1, 0] rfl)
  exact L4 _ i (Nat.lt_succ_self _) (by first | assumption | omega) (rfl) _ _ _ hI (lv_sub hl [1, 0] rfl)
abbrev rm_MD_sideBefore : Room := { frames := 1, cells := 0, slots := 0, locals := 21 }
set_option maxHeartbeats 4000000 in
set_option maxRecDepth 100000 in
theorem c_MD_sideBefore (l : Launch) (g : Geo) (ad : Nat → Nat) (ar : Nat → Nat → Int32) (fl : Nat → Int32) (i : Nat) (n : Nat) (P : Nat → Nat) (K f0 : Nat → Int32) (hn : fl 8 = nI n) (hN : n ≤ 2000) (hP : ∀ j, j < n → ar 18 j = nI (P j)) (hPb : ∀ j, j < n → P j < 2000) (hij : inj n P) (hw : ar 10 = wrt P K f0 n) (hi : i ≤ n) : cMi l y_MD_sideBefore (.code y_MD_sideBefore b_MD_sideBefore 3 (some .int) :: gw) rm_MD_sideBefore g [.ref (ad 0), .int (nI i)] (mw g ad ar fl) (fun (r : Int32) (_ : Unit) => r = prevS (sd (fl 9)) K i) (fun (_ : Unit) => mw g ad ar fl) 0 0 := by
  refine cMi_of (by decide) (Nat.le_of_ble_eq_true rfl) ?_
  intro p e s m below meth c A Q ls M hret hl hI
  have M : MC p s m ([.ref (ad 0), .int (nI i)] : List Value).toArray meth c R_MD b_MD_sideBefore 3 := M
  have hl : lv_has ls 3 [(0, .ref (ad 0)), (1, .int (nI i))] := hl
  generalize ([.ref (ad 0), .int (nI i)] : List Value).toArray = args at M hret ⊢
  have hx := M.1
  have hb := M.2.1
  refine lv_iload_n hx hb d_MD_sideBefore_0 rfl (lv_at hl 1 rfl) ?_
  refine lv_iconst (v := 1) hx hb d_MD_sideBefore_1 (by decide) ?_
  refine lv_isub hx hb d_MD_sideBefore_2 ?_
  refine lv_istore_n (lv' := [(2, .int ((nI i) - 1)), (0, .ref (ad 0)), (1, .int (nI i))]) hx hb d_MD_sideBefore_3 rfl hl (by decide) rfl (fun ls hl => ?_)
  have L4 : ∀ (fu : Nat) (z : Nat), z < fu → (z ≤ n) → (prevS (sd (fl 9)) K i = prevS (sd (fl 9)) K z) → ∀ (H : Heap) (locs : List Loc) (ls : Array Slot), CI g A s (mw g ad ar fl) H locs → lv_has ls 3 [(0, .ref (ad 0)), (2, .int (nI z - 1))] → W p l e rm_MD_sideBefore s m args below meth c H locs 0 0 Q (F0 m 4 ls []) := by
    intro fu
    induction fu with
    | zero => intro z hm; exact absurd hm (Nat.not_lt_zero _)
    | succ fu ih4 =>
      intro z hm hz hq H locs ls hI hl
      refine lv_iload_n hx hb d_MD_sideBefore_4 rfl (lv_at hl 1 rfl) ?_
      refine lv_if_lt (tgt := 25) hx hb d_MD_sideBefore_5 (by decide) (fun c5 => ?_) (fun c5 => ?_)
      · have hz0 : z = 0 := (nI_m1neg (by omega)).mp c5
        refine lv_aload_n hx hb d_MD_sideBefore_25 rfl (lv_at hl 0 rfl) ?_
        refine lv_iload_n hx hb d_MD_sideBefore_26 rfl (lv_at hl 1 rfl) ?_
        refine q_calliV [.int (nI z - 1)] M hI (c_MD_kindAt l g ad ar fl (nI z - 1) n P K f0 (by first | exact hn | assumption | omega | rfl) (by first | exact hN | assumption | omega | rfl) (by first | exact hP | assumption | omega | rfl) (by first | exact hPb | assumption | omega | rfl) (by first | exact hij | assumption | omega | rfl) (by first | exact hw | assumption | omega | rfl)) ok_MD_kindAt m5_169 m5_171 ms_66 0 rfl rfl rfl rfl hl.1 ⟨rfl, rfl⟩ ⟨Nat.le_of_ble_eq_true rfl, Nat.le_of_ble_eq_true rfl⟩ (Nat.le_of_ble_eq_true rfl) ⟨Nat.le_of_ble_eq_true rfl, Nat.le_of_ble_eq_true rfl⟩ d_MD_sideBefore_27 (fun r27 u27 H locs hp27 hI => ?_)
        refine q_as (y := kAt n (fl 9) (fl 10) K (nI z - 1)) hp27 ?_
        refine q_calliS [.int (kAt n (fl 9) (fl 10) K (nI z - 1))] M hI (c_MD_side l g (mw g ad ar fl) (kAt n (fl 9) (fl 10) K (nI z - 1))) ok_MD_side m5_197 m5_198 rfl rfl hl.1 ⟨rfl, rfl⟩ ⟨Nat.le_of_ble_eq_true rfl, Nat.le_of_ble_eq_true rfl⟩ (Nat.le_of_ble_eq_true rfl) ⟨Nat.le_of_ble_eq_true rfl, Nat.le_of_ble_eq_true rfl⟩ d_MD_sideBefore_30 (fun r30 u30 H locs hp30 hI => ?_)
        refine q_as (y := sd (kAt n (fl 9) (fl 10) K (nI z - 1))) hp30 ?_
        exact hret (sd (kAt n (fl 9) (fl 10) K (nI z - 1))) () _ _ _ _ _ _ d_MD_sideBefore_33 hI (by rw [hq]; first | (rw [hz0, kAt_0]; rfl) | (rw [prevS_n hs, kAt_n (by omega) (by omega)])) (Nat.le_refl 0) (Nat.le_refl 0)
      · obtain ⟨j, rfl⟩ : ∃ j, z = j + 1 := ⟨z - 1, by have : ¬ z = 0 := fun q => c5 ((nI_m1neg (by omega)).mpr q); omega⟩
        rw [nI_pred] at hl
        refine lv_aload_n hx hb d_MD_sideBefore_8 rfl (lv_at hl 0 rfl) ?_
        refine lv_iload_n hx hb d_MD_sideBefore_9 rfl (lv_at hl 1 rfl) ?_
        refine q_calliV [.int (nI j)] M hI (c_MD_kindAt l g ad ar fl (nI j) n P K f0 (by first | exact hn | assumption | omega | rfl) (by first | exact hN | assumption | omega | rfl) (by first | exact hP | assumption | omega | rfl) (by first | exact hPb | assumption | omega | rfl) (by first | exact hij | assumption | omega | rfl) (by first | exact hw | assumption | omega | rfl)) ok_MD_kindAt m5_169 m5_171 ms_66 0 rfl rfl rfl rfl hl.1 ⟨rfl, rfl⟩ ⟨Nat.le_of_ble_eq_true rfl, Nat.le_of_ble_eq_true rfl⟩ (Nat.le_of_ble_eq_true rfl) ⟨Nat.le_of_ble_eq_true rfl, Nat.le_of_ble_eq_true rfl⟩ d_MD_sideBefore_10 (fun r10 u10 H locs hp10 hI => ?_)
        refine q_as (y := kAt n (fl 9) (fl 10) K (nI j)) hp10 ?_
        refine q_as (y := K j) (kAt_n (by omega) (by omega)) ?_
        refine q_calliS [.int (K j)] M hI (c_MD_side l g (mw g ad ar fl) (K j)) ok_MD_side m5_197 m5_198 rfl rfl hl.1 ⟨rfl, rfl⟩ ⟨Nat.le_of_ble_eq_true rfl, Nat.le_of_ble_eq_true rfl⟩ (Nat.le_of_ble_eq_true rfl) ⟨Nat.le_of_ble_eq_true rfl, Nat.le_of_ble_eq_true rfl⟩ d_MD_sideBefore_13 (fun r13 u13 H locs hp13 hI => ?_)
        refine q_as (y := sd (K j)) hp13 ?_
        refine lv_if_ge (tgt := 25) hx hb d_MD_sideBefore_16 (by decide) (fun c16 => ?_) (fun c16 => ?_)
        · have hs : ¬ sd (K j) = -1 := fun q => absurd c16 (by rw [q]; decide)
          refine lv_aload_n hx hb d_MD_sideBefore_25 rfl (lv_at hl 0 rfl) ?_
          refine lv_iload_n hx hb d_MD_sideBefore_26 rfl (lv_at hl 1 rfl) ?_
          refine q_calliV [.int (nI j)] M hI (c_MD_kindAt l g ad ar fl (nI j) n P K f0 (by first | exact hn | assumption | omega | rfl) (by first | exact hN | assumption | omega | rfl) (by first | exact hP | assumption | omega | rfl) (by first | exact hPb | assumption | omega | rfl) (by first | exact hij | assumption | omega | rfl) (by first | exact hw | assumption | omega | rfl)) ok_MD_kindAt m5_169 m5_171 ms_66 0 rfl rfl rfl rfl hl.1 ⟨rfl, rfl⟩ ⟨Nat.le_of_ble_eq_true rfl, Nat.le_of_ble_eq_true rfl⟩ (Nat.le_of_ble_eq_true rfl) ⟨Nat.le_of_ble_eq_true rfl, Nat.le_of_ble_eq_true rfl⟩ d_MD_sideBefore_27 (fun r27 u27 H locs hp27 hI => ?_)
          refine q_as (y := kAt n (fl 9) (fl 10) K (nI j)) hp27 ?_
          refine q_calliS [.int (kAt n (fl 9) (fl 10) K (nI j))] M hI (c_MD_side l g (mw g ad ar fl) (kAt n (fl 9) (fl 10) K (nI j))) ok_MD_side m5_197 m5_198 rfl rfl hl.1 ⟨rfl, rfl⟩ ⟨Nat.le_of_ble_eq_true rfl, Nat.le_of_ble_eq_true rfl⟩ (Nat.le_of_ble_eq_true rfl) ⟨Nat.le_of_ble_eq_true rfl, Nat.le_of_ble_eq_true rfl⟩ d_MD_sideBefore_30 (fun r30 u30 H locs hp30 hI => ?_)
          refine q_as (y := sd (kAt n (fl 9) (fl 10) K (nI j))) hp30 ?_
          exact hret (sd (kAt n (fl 9) (fl 10) K (nI j))) () _ _ _ _ _ _ d_MD_sideBefore_33 hI (by rw [hq]; first | (rw [hz0, kAt_0]; rfl) | (rw [prevS_n hs, kAt_n (by omega) (by omega)])) (Nat.le_refl 0) (Nat.le_refl 0)
        · have hs : sd (K j) = -1 := sd_neg c16
          refine lv_iinc (v := nI j - 1) (lv' := [(2, .int (nI j - 1)), (0, .ref (ad 0))]) hx hb d_MD_sideBefore_19 hl (k := 1) rfl (nI_dec j) (by decide) rfl (fun ls hl => ?_)
          refine lv_goto (tgt := 4) hx hb d_MD_sideBefore_22 (by decide) ?_
          exact ih4 j (by omega) (by first | assumption | omega) (by rw [hq]; exact prevS_z hs) _ _ _ hI (lv_sub hl [1, 0] rfl)
  exact L4 _ i (Nat.lt_succ_self _) (by first | assumption | omega) (rfl) _ _ _ hI (lv_sub hl [1, 0] rfl)
