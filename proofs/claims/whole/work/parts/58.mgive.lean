/-! 58: the model: give -/
abbrev rm_MD_give : Room := { frames := 1, cells := 0, slots := 0, locals := 22 }
set_option maxHeartbeats 4000000 in
set_option maxRecDepth 100000 in
theorem c_MD_give (l : Launch) (g : Geo) (ad : Nat → Nat) (ar : Nat → Nat → Int32) (fl : Nat → Int32) (i : Nat) (v : Int32) (n : Nat) (P : Nat → Nat) (K f0 : Nat → Int32) (kb : Nat → Int32) (hn : fl 8 = nI n) (hN : n ≤ 2000) (hP : ∀ j, j < n → ar 18 j = nI (P j)) (hPb : ∀ j, j < n → P j < 2000) (hij : inj n P) (hw : ar 10 = wrt P K f0 n) (hi : i < n) (hkb : ∀ j, j < n → ar 11 (P j) = kb j) : cMv l y_MD_give (.code y_MD_give b_MD_give 4 none :: gw) rm_MD_give g [.ref (ad 0), .int (nI i), .int v] (mw g ad ar fl) (fun (_ : Unit) => True) (fun (_ : Unit) => mw g ad (va_up ar 10 (wrt P (giveN kb n i v K) f0 n)) fl) 0 0 := by
  refine cMv_of (by decide) (Nat.le_of_ble_eq_true rfl) ?_
  intro p e s m below meth c A Q ls M hnm hret hl hI
  have M : MC p s m ([.ref (ad 0), .int (nI i), .int v] : List Value).toArray meth c R_MD b_MD_give 4 := M
  have hl : lv_has ls 4 [(0, .ref (ad 0)), (1, .int (nI i)), (2, .int v)] := hl
  generalize ([.ref (ad 0), .int (nI i), .int v] : List Value).toArray = args at M hret ⊢
  have hx := M.1
  have hb := M.2.1
  have hI := CI.to (w2 := mw g ad (va_up ar 10 (wrt P (K) f0 n)) fl) hI (by rw [← hw]; rfl)
  refine lv_aload_n hx hb d_MD_give_0 rfl (lv_at hl 0 rfl) ?_
  refine lv_iload_n hx hb d_MD_give_1 rfl (lv_at hl 1 rfl) ?_
  refine lv_iload_n hx hb d_MD_give_2 rfl (lv_at hl 2 rfl) ?_
  refine q_callvV [.int (nI i), .int v] M hI (c_MD_put l g ad (va_up ar 10 (wrt P (K) f0 n)) fl i v n P (K) f0 (by first | exact hn | assumption | omega | rfl) (by first | exact hN | assumption | omega | rfl) (by first | exact hP | assumption | omega | rfl) (by first | exact hPb | assumption | omega | rfl) (by first | exact hij | assumption | omega | rfl) (rfl) (hi)) ok_MD_put m5_173 m5_175 ms_67 0 rfl rfl rfl rfl hl.1 ⟨rfl, rfl⟩ ⟨Nat.le_of_ble_eq_true rfl, Nat.le_of_ble_eq_true rfl⟩ (Nat.le_of_ble_eq_true rfl) ⟨Nat.le_of_ble_eq_true rfl, Nat.le_of_ble_eq_true rfl⟩ d_MD_give_3 (fun u3 H locs hp3 hI => ?_)
  have hI : CI g A s (mw g ad (va_up ar 10 (wrt P (upd (K) i v) f0 n)) fl) H locs := hI
  have hI := CI.to (w2 := mw g ad (va_up ar 10 (wrt P (rng i (i + 1) v K) f0 n)) fl) hI (by rw [rng_0] <;> rfl)
  refine lv_iload_n hx hb d_MD_give_6 rfl (lv_at hl 1 rfl) ?_
  refine lv_iconst (v := 1) hx hb d_MD_give_7 (by decide) ?_
  refine lv_iadd hx hb d_MD_give_8 ?_
  refine q_as (y := nI (i + 1)) (nI_add i 1) ?_
  refine lv_istore_n (lv' := [(3, .int (nI (i + 1))), (0, .ref (ad 0)), (1, .int (nI i)), (2, .int v)]) hx hb d_MD_give_9 rfl hl (by decide) rfl (fun ls hl => ?_)
  have L10 : ∀ (fu : Nat) (j : Nat), (n - j) < fu → (i + 1 ≤ j) → (j ≤ n) → (mkEnd kb n (i + 1) = mkEnd kb n j) → ∀ (H : Heap) (locs : List Loc) (ls : Array Slot), CI g A s (mw g ad (va_up ar 10 (wrt P (rng i j v K) f0 n)) fl) H locs → lv_has ls 4 [(0, .ref (ad 0)), (1, .int (nI i)), (2, .int v), (3, .int (nI j))] → W p l e rm_MD_give s m args below meth c H locs 0 0 Q (F0 m 10 ls []) := by
    intro fu
    induction fu with
    | zero => intro j hm; exact absurd hm (Nat.not_lt_zero _)
    | succ fu ih10 =>
      intro j hm hj hj2 hm H locs ls hI hl
      refine lv_iload_n hx hb d_MD_give_10 rfl (lv_at hl 3 rfl) ?_
      refine lv_aload_n hx hb d_MD_give_11 rfl (lv_at hl 0 rfl) ?_
      refine g_MD_155 M hI d_MD_give_12 ?_
      refine q_as (y := nI n) hn ?_
      refine lv_icmp_ge (tgt := 46) hx hb d_MD_give_15 (by decide) (fun c15 => ?_) (fun c15 => ?_)
      · have c15 : n ≤ j := (nI_leI (a := n) (b := j) (by omega) (by omega)).mp c15
        have e9 : mkEnd kb n (i + 1) = j := by rw [hm]; exact mkEnd_e (fun q => by omega)
        have hI := CI.to (w2 := mw g ad (va_up ar 10 (wrt P (giveN kb n i v K) f0 n)) fl) hI (by unfold giveN; rw [e9] <;> rfl)
        exact hret () _ _ _ _ _ _ d_MD_give_46 hI (trivial) (Nat.le_refl 0) (Nat.le_refl 0)
      · have c15 : ¬ n ≤ j := fun h => c15 ((nI_leI (a := n) (b := j) (by omega) (by omega)).mpr h)
        refine lv_aload_n hx hb d_MD_give_18 rfl (lv_at hl 0 rfl) ?_
        refine g_MD_40 M hI d_MD_give_19 ?_
        refine lv_aload_n hx hb d_MD_give_22 rfl (lv_at hl 0 rfl) ?_
        refine g_MD_62 M hI d_MD_give_23 ?_
        refine lv_iload_n hx hb d_MD_give_26 rfl (lv_at hl 3 rfl) ?_
        refine bl_18 M hI j rfl (by omega) d_MD_give_27 ?_
        refine q_as (y := nI (P j)) (hP _ (by omega)) ?_
        refine bl_11 M hI (P j) rfl (hPb _ (by omega)) d_MD_give_28 ?_
        refine q_as (y := kb j) (hkb j (by omega)) ?_
        refine lv_bipush (v := 8) hx hb d_MD_give_29 (by decide) ?_
        refine lv_icmp_ne (tgt := 46) hx hb d_MD_give_31 (by decide) (fun c31 => ?_) (fun c31 => ?_)
        · have e9 : mkEnd kb n (i + 1) = j := by rw [hm]; exact mkEnd_e (fun q => c31 q.2)
          have hI := CI.to (w2 := mw g ad (va_up ar 10 (wrt P (giveN kb n i v K) f0 n)) fl) hI (by unfold giveN; rw [e9] <;> rfl)
          exact hret () _ _ _ _ _ _ d_MD_give_46 hI (trivial) (Nat.le_refl 0) (Nat.le_refl 0)
        · refine lv_aload_n hx hb d_MD_give_34 rfl (lv_at hl 0 rfl) ?_
          refine lv_iload_n hx hb d_MD_give_35 rfl (lv_at hl 3 rfl) ?_
          refine lv_iload_n hx hb d_MD_give_36 rfl (lv_at hl 2 rfl) ?_
          refine q_callvV [.int (nI j), .int v] M hI (c_MD_put l g ad (va_up ar 10 (wrt P (rng i j v K) f0 n)) fl j v n P (rng i j v K) f0 (by first | exact hn | assumption | omega | rfl) (by first | exact hN | assumption | omega | rfl) (by first | exact hP | assumption | omega | rfl) (by first | exact hPb | assumption | omega | rfl) (by first | exact hij | assumption | omega | rfl) (rfl) (by omega)) ok_MD_put m5_173 m5_175 ms_67 0 rfl rfl rfl rfl hl.1 ⟨rfl, rfl⟩ ⟨Nat.le_of_ble_eq_true rfl, Nat.le_of_ble_eq_true rfl⟩ (Nat.le_of_ble_eq_true rfl) ⟨Nat.le_of_ble_eq_true rfl, Nat.le_of_ble_eq_true rfl⟩ d_MD_give_37 (fun u37 H locs hp37 hI => ?_)
          have hI : CI g A s (mw g ad (va_up ar 10 (wrt P (upd (rng i j v K) j v) f0 n)) fl) H locs := hI
          have hI := CI.to (w2 := mw g ad (va_up ar 10 (wrt P (rng i (j + 1) v K) f0 n)) fl) hI (by rw [rng_s (by omega)] <;> rfl)
          refine lv_iinc (v := nI (j + 1)) (lv' := [(3, .int (nI (j + 1))), (0, .ref (ad 0)), (1, .int (nI i)), (2, .int v)]) hx hb d_MD_give_40 hl (k := 3) rfl (nI_add _ 1) (by decide) rfl (fun ls hl => ?_)
          refine lv_goto (tgt := 10) hx hb d_MD_give_43 (by decide) ?_
          exact ih10 (j + 1) (by omega) (by first | assumption | omega) (by first | assumption | omega) (by rw [hm, mkEnd_s (by omega) c31]) _ _ _ hI (lv_sub hl [1, 2, 3, 0] rfl)
  exact L10 _ (i + 1) (Nat.lt_succ_self _) (by first | assumption | omega) (by first | assumption | omega) (rfl) _ _ _ hI (lv_sub hl [1, 2, 3, 0] rfl)
