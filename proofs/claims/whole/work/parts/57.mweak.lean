/-! 57: the model: weak -/
theorem clsM_y {h : Int32} {s k : Nat → Int32} {i : Nat} (h0 : 0 < i) (q : isol (s (i - 1)) ∨ s (i - 1) = 22) : 13 = clsMark h s k i := by
  obtain ⟨z, rfl⟩ : ∃ z, i = z + 1 := ⟨i - 1, by omega⟩
  simp only [clsMark]
  exact (if_pos q).symm
theorem w4_end {n i : Nat} {K : Nat → Int32} (h : n ≤ i + 1) (hi : i ≤ n ∨ n = 0 ∧ i = 1) : pre i (w4 n K) K = wk4 n K := by
  unfold wk4
  rcases hi with q | ⟨q1, q2⟩
  · exact w4_last h q
  · rw [q2, w4_first, q1, pre_0]
theorem clsM_n {h : Int32} {s k : Nat → Int32} {i : Nat} (h0 : 0 < i) (q : ¬ (isol (s (i - 1)) ∨ s (i - 1) = 22)) : k (i - 1) = clsMark h s k i := by
  obtain ⟨z, rfl⟩ : ∃ z, i = z + 1 := ⟨i - 1, by omega⟩
  simp only [clsMark]
  exact (if_neg q).symm
abbrev rm_MD_weak : Room := { frames := 2, cells := 0, slots := 0, locals := 44 }
set_option maxHeartbeats 4000000 in
set_option maxRecDepth 100000 in
theorem c_MD_weak (l : Launch) (g : Geo) (ad : Nat → Nat) (ar : Nat → Nat → Int32) (fl : Nat → Int32) (n : Nat) (P : Nat → Nat) (K f0 : Nat → Int32) (hn : fl 8 = nI n) (hN : n ≤ 2000) (hP : ∀ j, j < n → ar 18 j = nI (P j)) (hPb : ∀ j, j < n → P j < 2000) (hij : inj n P) (hw : ar 10 = wrt P K f0 n) : cMv l y_MD_weak (.code y_MD_weak b_MD_weak 5 none :: gw) rm_MD_weak g [.ref (ad 0)] (mw g ad ar fl) (fun (_ : Unit) => True) (fun (_ : Unit) => mw g ad (va_up (va_up ar 10 (wrt P (weak n (fl 9) (fun j => ar 9 (P j)) K) f0 n)) 11 (wrt P K (ar 11) n)) fl) 0 0 := by
  refine cMv_of (by decide) (Nat.le_of_ble_eq_true rfl) ?_
  intro p e s m below meth c A Q ls M hnm hret hl hI
  have M : MC p s m ([.ref (ad 0)] : List Value).toArray meth c R_MD b_MD_weak 5 := M
  have hl : lv_has ls 5 [(0, .ref (ad 0))] := hl
  generalize ([.ref (ad 0)] : List Value).toArray = args at M hret ⊢
  have hx := M.1
  have hb := M.2.1
  have hI := CI.to (w2 := mw g ad (va_up ar 10 (wrt P K f0 n)) fl) hI (by rw [← hw]; rfl)
  refine lv_iconst (v := 0) hx hb d_MD_weak_0 (by decide) ?_
  refine lv_istore_n (lv' := [(1, .int 0), (0, .ref (ad 0))]) hx hb d_MD_weak_1 rfl hl (by decide) rfl (fun ls hl => ?_)
  have L2 : ∀ (fu : Nat) (i : Nat), (n - i) < fu → (i ≤ n) → ∀ (H : Heap) (locs : List Loc) (ls : Array Slot), CI g A s (mw g ad (va_up (va_up ar 10 (wrt P K f0 n)) 11 (wrt P K (ar 11) i)) fl) H locs → lv_has ls 5 [(0, .ref (ad 0)), (1, .int (nI i))] → W p l e rm_MD_weak s m args below meth c H locs 0 0 Q (F0 m 2 ls []) := by
    intro fu
    induction fu with
    | zero => intro i hm; exact absurd hm (Nat.not_lt_zero _)
    | succ fu ih2 =>
      intro i hm hi H locs ls hI hl
      refine lv_iload_n hx hb d_MD_weak_2 rfl (lv_at hl 1 rfl) ?_
      refine lv_aload_n hx hb d_MD_weak_3 rfl (lv_at hl 0 rfl) ?_
      refine g_MD_155 M hI d_MD_weak_4 ?_
      refine q_as (y := nI n) hn ?_
      refine lv_icmp_ge (tgt := 38) hx hb d_MD_weak_7 (by decide) (fun c7 => ?_) (fun c7 => ?_)
      · have c7 : n ≤ i := (nI_leI (a := n) (b := i) (by omega) (by omega)).mp c7
        have hI := CI.to (w2 := mw g ad (va_up (va_up ar 10 (wrt P K f0 n)) 11 (wrt P K (ar 11) n)) fl) hI (by rw [show i = n by omega])
        refine lv_iconst (v := 0) hx hb d_MD_weak_38 (by decide) ?_
        refine lv_istore_n (lv' := [(1, .int 0), (0, .ref (ad 0))]) hx hb d_MD_weak_39 rfl hl (by decide) rfl (fun ls hl => ?_)
        have L40 : ∀ (fu : Nat) (i : Nat), (n - i) < fu → (i ≤ n) → ∀ (H : Heap) (locs : List Loc) (ls : Array Slot), CI g A s (mw g ad (va_up (va_up ar 10 (wrt P (pre i (w1 (fl 9) (fun j => ar 9 (P j)) K) K) f0 n)) 11 (wrt P K (ar 11) n)) fl) H locs → lv_has ls 5 [(0, .ref (ad 0)), (1, .int (nI i))] → W p l e rm_MD_weak s m args below meth c H locs 0 0 Q (F0 m 40 ls []) := by
          intro fu
          induction fu with
          | zero => intro i hm; exact absurd hm (Nat.not_lt_zero _)
          | succ fu ih40 =>
            intro i hm hi H locs ls hI hl
            refine lv_iload_n hx hb d_MD_weak_40 rfl (lv_at hl 1 rfl) ?_
            refine lv_aload_n hx hb d_MD_weak_41 rfl (lv_at hl 0 rfl) ?_
            refine g_MD_155 M hI d_MD_weak_42 ?_
            refine q_as (y := nI n) hn ?_
            refine lv_icmp_ge (tgt := 130) hx hb d_MD_weak_45 (by decide) (fun c45 => ?_) (fun c45 => ?_)
            · have c45 : n ≤ i := (nI_leI (a := n) (b := i) (by omega) (by omega)).mp c45
              have hI := CI.to (w2 := mw g ad (va_up (va_up ar 11 (wrt P K (ar 11) n)) 10 (wrt P (wk1 n (fl 9) (fun j => ar 9 (P j)) K) f0 n)) fl) hI (by rw [show i = n by omega] <;> rfl)
              refine lv_iconst (v := 0) hx hb d_MD_weak_130 (by decide) ?_
              refine lv_istore_n (lv' := [(1, .int 0), (0, .ref (ad 0))]) hx hb d_MD_weak_131 rfl hl (by decide) rfl (fun ls hl => ?_)
              have L132 : ∀ (fu : Nat) (i : Nat), (n - i) < fu → (i ≤ n) → ∀ (H : Heap) (locs : List Loc) (ls : Array Slot), CI g A s (mw g ad (va_up (va_up ar 10 (wrt P (pre i (w2 (fl 9) (wk1 n (fl 9) (fun j => ar 9 (P j)) K)) (wk1 n (fl 9) (fun j => ar 9 (P j)) K)) f0 n)) 11 (wrt P K (ar 11) n)) fl) H locs → lv_has ls 5 [(0, .ref (ad 0)), (1, .int (nI i))] → W p l e rm_MD_weak s m args below meth c H locs 0 0 Q (F0 m 132 ls []) := by
                intro fu
                induction fu with
                | zero => intro i hm; exact absurd hm (Nat.not_lt_zero _)
                | succ fu ih132 =>
                  intro i hm hi H locs ls hI hl
                  refine lv_iload_n hx hb d_MD_weak_132 rfl (lv_at hl 1 rfl) ?_
                  refine lv_aload_n hx hb d_MD_weak_133 rfl (lv_at hl 0 rfl) ?_
                  refine g_MD_155 M hI d_MD_weak_134 ?_
                  refine q_as (y := nI n) hn ?_
                  refine lv_icmp_ge (tgt := 171) hx hb d_MD_weak_137 (by decide) (fun c137 => ?_) (fun c137 => ?_)
                  · have c137 : n ≤ i := (nI_leI (a := n) (b := i) (by omega) (by omega)).mp c137
                    have hI := CI.to (w2 := mw g ad (va_up (va_up ar 11 (wrt P K (ar 11) n)) 10 (wrt P (wk2 n (fl 9) (wk1 n (fl 9) (fun j => ar 9 (P j)) K)) f0 n)) fl) hI (by rw [show i = n by omega] <;> rfl)
                    refine lv_iconst (v := 0) hx hb d_MD_weak_171 (by decide) ?_
                    refine lv_istore_n (lv' := [(1, .int 0), (0, .ref (ad 0))]) hx hb d_MD_weak_172 rfl hl (by decide) rfl (fun ls hl => ?_)
                    have L173 : ∀ (fu : Nat) (i : Nat), (n - i) < fu → (i ≤ n) → ∀ (H : Heap) (locs : List Loc) (ls : Array Slot), CI g A s (mw g ad (va_up (va_up ar 10 (wrt P (pre i (w3 (wk2 n (fl 9) (wk1 n (fl 9) (fun j => ar 9 (P j)) K))) (wk2 n (fl 9) (wk1 n (fl 9) (fun j => ar 9 (P j)) K))) f0 n)) 11 (wrt P K (ar 11) n)) fl) H locs → lv_has ls 5 [(0, .ref (ad 0)), (1, .int (nI i))] → W p l e rm_MD_weak s m args below meth c H locs 0 0 Q (F0 m 173 ls []) := by
                      intro fu
                      induction fu with
                      | zero => intro i hm; exact absurd hm (Nat.not_lt_zero _)
                      | succ fu ih173 =>
                        intro i hm hi H locs ls hI hl
                        refine lv_iload_n hx hb d_MD_weak_173 rfl (lv_at hl 1 rfl) ?_
                        refine lv_aload_n hx hb d_MD_weak_174 rfl (lv_at hl 0 rfl) ?_
                        refine g_MD_155 M hI d_MD_weak_175 ?_
                        refine q_as (y := nI n) hn ?_
                        refine lv_icmp_ge (tgt := 202) hx hb d_MD_weak_178 (by decide) (fun c178 => ?_) (fun c178 => ?_)
                        · have c178 : n ≤ i := (nI_leI (a := n) (b := i) (by omega) (by omega)).mp c178
                          have hI := CI.to (w2 := mw g ad (va_up (va_up ar 11 (wrt P K (ar 11) n)) 10 (wrt P (wk3 n (wk2 n (fl 9) (wk1 n (fl 9) (fun j => ar 9 (P j)) K))) f0 n)) fl) hI (by rw [show i = n by omega] <;> rfl)
                          refine lv_iconst (v := 1) hx hb d_MD_weak_202 (by decide) ?_
                          refine lv_istore_n (lv' := [(1, .int 1), (0, .ref (ad 0))]) hx hb d_MD_weak_203 rfl hl (by decide) rfl (fun ls hl => ?_)
                          have L204 : ∀ (fu : Nat) (i : Nat), (n - i) < fu → (i ≤ n ∨ n = 0 ∧ i = 1) → (0 < i) → ∀ (H : Heap) (locs : List Loc) (ls : Array Slot), CI g A s (mw g ad (va_up (va_up ar 10 (wrt P (pre i (w4 n (wk3 n (wk2 n (fl 9) (wk1 n (fl 9) (fun j => ar 9 (P j)) K)))) (wk3 n (wk2 n (fl 9) (wk1 n (fl 9) (fun j => ar 9 (P j)) K)))) f0 n)) 11 (wrt P K (ar 11) n)) fl) H locs → lv_has ls 5 [(0, .ref (ad 0)), (1, .int (nI i))] → W p l e rm_MD_weak s m args below meth c H locs 0 0 Q (F0 m 204 ls []) := by
                            intro fu
                            induction fu with
                            | zero => intro i hm; exact absurd hm (Nat.not_lt_zero _)
                            | succ fu ih204 =>
                              intro i hm hi hi1 H locs ls hI hl
                              refine lv_iload_n hx hb d_MD_weak_204 rfl (lv_at hl 1 rfl) ?_
                              refine lv_aload_n hx hb d_MD_weak_205 rfl (lv_at hl 0 rfl) ?_
                              refine g_MD_155 M hI d_MD_weak_206 ?_
                              refine q_as (y := nI n) hn ?_
                              refine lv_iconst (v := 1) hx hb d_MD_weak_209 (by decide) ?_
                              refine lv_isub hx hb d_MD_weak_210 ?_
                              refine lv_icmp_ge (tgt := 282) hx hb d_MD_weak_211 (by decide) (fun c211 => ?_) (fun c211 => ?_)
                              · have c211 := (nI_m1le (by omega) (by omega)).mp c211
                                have hI := CI.to (w2 := mw g ad (va_up (va_up ar 11 (wrt P K (ar 11) n)) 10 (wrt P (wk4 n (wk3 n (wk2 n (fl 9) (wk1 n (fl 9) (fun j => ar 9 (P j)) K)))) f0 n)) fl) hI (by rw [show pre i (w4 n (wk3 n (wk2 n (fl 9) (wk1 n (fl 9) (fun j => ar 9 (P j)) K)))) (wk3 n (wk2 n (fl 9) (wk1 n (fl 9) (fun j => ar 9 (P j)) K))) = wk4 n (wk3 n (wk2 n (fl 9) (wk1 n (fl 9) (fun j => ar 9 (P j)) K))) from w4_end c211 hi] <;> rfl)
                                refine lv_iconst (v := 0) hx hb d_MD_weak_282 (by decide) ?_
                                refine lv_istore_n (lv' := [(1, .int 0), (0, .ref (ad 0))]) hx hb d_MD_weak_283 rfl hl (by decide) rfl (fun ls hl => ?_)
                                have L284 : ∀ (fu : Nat) (i : Nat), (n - i) < fu → (i ≤ n) → ∀ (H : Heap) (locs : List Loc) (ls : Array Slot), CI g A s (mw g ad (va_up (va_up ar 10 (wrt P (pre i (w5 n (wk4 n (wk3 n (wk2 n (fl 9) (wk1 n (fl 9) (fun j => ar 9 (P j)) K))))) (wk4 n (wk3 n (wk2 n (fl 9) (wk1 n (fl 9) (fun j => ar 9 (P j)) K))))) f0 n)) 11 (wrt P K (ar 11) n)) fl) H locs → lv_has ls 5 [(0, .ref (ad 0)), (1, .int (nI i))] → W p l e rm_MD_weak s m args below meth c H locs 0 0 Q (F0 m 284 ls []) := by
                                  intro fu
                                  induction fu with
                                  | zero => intro i hm; exact absurd hm (Nat.not_lt_zero _)
                                  | succ fu ih284 =>
                                    intro i hm hi H locs ls hI hl
                                    refine lv_iload_n hx hb d_MD_weak_284 rfl (lv_at hl 1 rfl) ?_
                                    refine lv_aload_n hx hb d_MD_weak_285 rfl (lv_at hl 0 rfl) ?_
                                    refine g_MD_155 M hI d_MD_weak_286 ?_
                                    refine q_as (y := nI n) hn ?_
                                    refine lv_icmp_ge (tgt := 321) hx hb d_MD_weak_289 (by decide) (fun c289 => ?_) (fun c289 => ?_)
                                    · have c289 : n ≤ i := (nI_leI (a := n) (b := i) (by omega) (by omega)).mp c289
                                      have hI := CI.to (w2 := mw g ad (va_up (va_up ar 11 (wrt P K (ar 11) n)) 10 (wrt P (wk5 n (wk4 n (wk3 n (wk2 n (fl 9) (wk1 n (fl 9) (fun j => ar 9 (P j)) K))))) f0 n)) fl) hI (by rw [show i = n by omega] <;> rfl)
                                      refine lv_iconst (v := 0) hx hb d_MD_weak_321 (by decide) ?_
                                      refine lv_istore_n (lv' := [(1, .int 0), (0, .ref (ad 0))]) hx hb d_MD_weak_322 rfl hl (by decide) rfl (fun ls hl => ?_)
                                      have L323 : ∀ (fu : Nat) (i : Nat), (n - i) < fu → (i ≤ n) → ∀ (H : Heap) (locs : List Loc) (ls : Array Slot), CI g A s (mw g ad (va_up (va_up ar 10 (wrt P (pre i (w6 (wk5 n (wk4 n (wk3 n (wk2 n (fl 9) (wk1 n (fl 9) (fun j => ar 9 (P j)) K)))))) (wk5 n (wk4 n (wk3 n (wk2 n (fl 9) (wk1 n (fl 9) (fun j => ar 9 (P j)) K)))))) f0 n)) 11 (wrt P K (ar 11) n)) fl) H locs → lv_has ls 5 [(0, .ref (ad 0)), (1, .int (nI i))] → W p l e rm_MD_weak s m args below meth c H locs 0 0 Q (F0 m 323 ls []) := by
                                        intro fu
                                        induction fu with
                                        | zero => intro i hm; exact absurd hm (Nat.not_lt_zero _)
                                        | succ fu ih323 =>
                                          intro i hm hi H locs ls hI hl
                                          refine lv_iload_n hx hb d_MD_weak_323 rfl (lv_at hl 1 rfl) ?_
                                          refine lv_aload_n hx hb d_MD_weak_324 rfl (lv_at hl 0 rfl) ?_
                                          refine g_MD_155 M hI d_MD_weak_325 ?_
                                          refine q_as (y := nI n) hn ?_
                                          refine lv_icmp_ge (tgt := 366) hx hb d_MD_weak_328 (by decide) (fun c328 => ?_) (fun c328 => ?_)
                                          · have c328 : n ≤ i := (nI_leI (a := n) (b := i) (by omega) (by omega)).mp c328
                                            have hI := CI.to (w2 := mw g ad (va_up (va_up ar 11 (wrt P K (ar 11) n)) 10 (wrt P (wk6 n (wk5 n (wk4 n (wk3 n (wk2 n (fl 9) (wk1 n (fl 9) (fun j => ar 9 (P j)) K)))))) f0 n)) fl) hI (by rw [show i = n by omega] <;> rfl)
                                            refine lv_iconst (v := 0) hx hb d_MD_weak_366 (by decide) ?_
                                            refine lv_istore_n (lv' := [(1, .int 0), (0, .ref (ad 0))]) hx hb d_MD_weak_367 rfl hl (by decide) rfl (fun ls hl => ?_)
                                            have L368 : ∀ (fu : Nat) (i : Nat), (n - i) < fu → (i ≤ n) → ∀ (H : Heap) (locs : List Loc) (ls : Array Slot), CI g A s (mw g ad (va_up (va_up ar 10 (wrt P (pre i (w7 (fl 9) (wk6 n (wk5 n (wk4 n (wk3 n (wk2 n (fl 9) (wk1 n (fl 9) (fun j => ar 9 (P j)) K))))))) (wk6 n (wk5 n (wk4 n (wk3 n (wk2 n (fl 9) (wk1 n (fl 9) (fun j => ar 9 (P j)) K))))))) f0 n)) 11 (wrt P K (ar 11) n)) fl) H locs → lv_has ls 5 [(0, .ref (ad 0)), (1, .int (nI i))] → W p l e rm_MD_weak s m args below meth c H locs 0 0 Q (F0 m 368 ls []) := by
                                              intro fu
                                              induction fu with
                                              | zero => intro i hm; exact absurd hm (Nat.not_lt_zero _)
                                              | succ fu ih368 =>
                                                intro i hm hi H locs ls hI hl
                                                refine lv_iload_n hx hb d_MD_weak_368 rfl (lv_at hl 1 rfl) ?_
                                                refine lv_aload_n hx hb d_MD_weak_369 rfl (lv_at hl 0 rfl) ?_
                                                refine g_MD_155 M hI d_MD_weak_370 ?_
                                                refine q_as (y := nI n) hn ?_
                                                refine lv_icmp_ge (tgt := 405) hx hb d_MD_weak_373 (by decide) (fun c373 => ?_) (fun c373 => ?_)
                                                · have c373 : n ≤ i := (nI_leI (a := n) (b := i) (by omega) (by omega)).mp c373
                                                  have hI := CI.to (w2 := mw g ad (va_up (va_up ar 11 (wrt P K (ar 11) n)) 10 (wrt P (wk7 n (fl 9) (wk6 n (wk5 n (wk4 n (wk3 n (wk2 n (fl 9) (wk1 n (fl 9) (fun j => ar 9 (P j)) K))))))) f0 n)) fl) hI (by rw [show i = n by omega] <;> rfl)
                                                  exact hret () _ _ _ _ _ _ d_MD_weak_405 hI (trivial) (Nat.le_refl 0) (Nat.le_refl 0)
                                                · have c373 : ¬ n ≤ i := fun h => c373 ((nI_leI (a := n) (b := i) (by omega) (by omega)).mpr h)
                                                  refine lv_aload_n hx hb d_MD_weak_376 rfl (lv_at hl 0 rfl) ?_
                                                  refine lv_iload_n hx hb d_MD_weak_377 rfl (lv_at hl 1 rfl) ?_
                                                  refine q_calliV [.int (nI i)] M hI (c_MD_kindAt l g ad (va_up (va_up ar 10 (wrt P (pre i (w7 (fl 9) (wk6 n (wk5 n (wk4 n (wk3 n (wk2 n (fl 9) (wk1 n (fl 9) (fun j => ar 9 (P j)) K))))))) (wk6 n (wk5 n (wk4 n (wk3 n (wk2 n (fl 9) (wk1 n (fl 9) (fun j => ar 9 (P j)) K))))))) f0 n)) 11 (wrt P K (ar 11) n)) fl (nI i) n P (pre i (w7 (fl 9) (wk6 n (wk5 n (wk4 n (wk3 n (wk2 n (fl 9) (wk1 n (fl 9) (fun j => ar 9 (P j)) K))))))) (wk6 n (wk5 n (wk4 n (wk3 n (wk2 n (fl 9) (wk1 n (fl 9) (fun j => ar 9 (P j)) K))))))) f0 (by first | exact hn | assumption | omega | rfl) (by first | exact hN | assumption | omega | rfl) (by first | exact hP | assumption | omega | rfl) (by first | exact hPb | assumption | omega | rfl) (by first | exact hij | assumption | omega | rfl) (rfl)) ok_MD_kindAt m5_169 m5_171 ms_66 0 rfl rfl rfl rfl hl.1 ⟨rfl, rfl⟩ ⟨Nat.le_of_ble_eq_true rfl, Nat.le_of_ble_eq_true rfl⟩ (Nat.le_of_ble_eq_true rfl) ⟨Nat.le_of_ble_eq_true rfl, Nat.le_of_ble_eq_true rfl⟩ d_MD_weak_378 (fun r378 u378 H locs hp378 hI => ?_)
                                                  refine q_as (y := kAt n (fl 9) (fl 10) (pre i (w7 (fl 9) (wk6 n (wk5 n (wk4 n (wk3 n (wk2 n (fl 9) (wk1 n (fl 9) (fun j => ar 9 (P j)) K))))))) (wk6 n (wk5 n (wk4 n (wk3 n (wk2 n (fl 9) (wk1 n (fl 9) (fun j => ar 9 (P j)) K))))))) (nI i)) hp378 ?_
                                                  refine q_as (y := (wk6 n (wk5 n (wk4 n (wk3 n (wk2 n (fl 9) (wk1 n (fl 9) (fun j => ar 9 (P j)) K)))))) i) (by rw [kAt_n (by omega) (by omega)]; exact pre_at) ?_
                                                  refine lv_iconst (v := 3) hx hb d_MD_weak_381 (by decide) ?_
                                                  refine lv_icmp_ne (tgt := 399) hx hb d_MD_weak_382 (by decide) (fun c382 => ?_) (fun c382 => ?_)
                                                  · have hI := CI.to (w2 := mw g ad (va_up (va_up ar 11 (wrt P K (ar 11) n)) 10 (wrt P (pre (i + 1) (w7 (fl 9) (wk6 n (wk5 n (wk4 n (wk3 n (wk2 n (fl 9) (wk1 n (fl 9) (fun j => ar 9 (P j)) K))))))) (wk6 n (wk5 n (wk4 n (wk3 n (wk2 n (fl 9) (wk1 n (fl 9) (fun j => ar 9 (P j)) K))))))) f0 n)) fl) hI (by rw [pre_same (i := i) (f := w7 (fl 9) (wk6 n (wk5 n (wk4 n (wk3 n (wk2 n (fl 9) (wk1 n (fl 9) (fun j => ar 9 (P j)) K))))))) (f0 := wk6 n (wk5 n (wk4 n (wk3 n (wk2 n (fl 9) (wk1 n (fl 9) (fun j => ar 9 (P j)) K)))))) (by unfold w7; rw [if_neg (fun q => c382 q.1)])] <;> rfl)
                                                    refine lv_iinc (v := nI (i + 1)) (lv' := [(1, .int (nI (i + 1))), (0, .ref (ad 0))]) hx hb d_MD_weak_399 hl (k := 1) rfl (nI_add _ 1) (by decide) rfl (fun ls hl => ?_)
                                                    refine lv_goto (tgt := 368) hx hb d_MD_weak_402 (by decide) ?_
                                                    exact ih368 (i + 1) (by omega) (by first | assumption | omega) _ _ _ hI (lv_sub hl [1, 0] rfl)
                                                  · refine lv_aload_n hx hb d_MD_weak_385 rfl (lv_at hl 0 rfl) ?_
                                                    refine lv_iload_n hx hb d_MD_weak_386 rfl (lv_at hl 1 rfl) ?_
                                                    refine q_calliV [.int (nI i)] M hI (c_MD_strongBefore l g ad (va_up (va_up ar 10 (wrt P (pre i (w7 (fl 9) (wk6 n (wk5 n (wk4 n (wk3 n (wk2 n (fl 9) (wk1 n (fl 9) (fun j => ar 9 (P j)) K))))))) (wk6 n (wk5 n (wk4 n (wk3 n (wk2 n (fl 9) (wk1 n (fl 9) (fun j => ar 9 (P j)) K))))))) f0 n)) 11 (wrt P K (ar 11) n)) fl i n P (pre i (w7 (fl 9) (wk6 n (wk5 n (wk4 n (wk3 n (wk2 n (fl 9) (wk1 n (fl 9) (fun j => ar 9 (P j)) K))))))) (wk6 n (wk5 n (wk4 n (wk3 n (wk2 n (fl 9) (wk1 n (fl 9) (fun j => ar 9 (P j)) K))))))) f0 (by first | exact hn | assumption | omega | rfl) (by first | exact hN | assumption | omega | rfl) (by first | exact hP | assumption | omega | rfl) (by first | exact hPb | assumption | omega | rfl) (by first | exact hij | assumption | omega | rfl) (rfl) (by omega)) ok_MD_strongBefore m5_177 m5_179 ms_68 0 rfl rfl rfl rfl hl.1 ⟨rfl, rfl⟩ ⟨Nat.le_of_ble_eq_true rfl, Nat.le_of_ble_eq_true rfl⟩ (Nat.le_of_ble_eq_true rfl) ⟨Nat.le_of_ble_eq_true rfl, Nat.le_of_ble_eq_true rfl⟩ d_MD_weak_387 (fun r387 u387 H locs hp387 hI => ?_)
                                                    refine q_as (y := lastS (fl 9) (pre i (w7 (fl 9) (wk6 n (wk5 n (wk4 n (wk3 n (wk2 n (fl 9) (wk1 n (fl 9) (fun j => ar 9 (P j)) K))))))) (wk6 n (wk5 n (wk4 n (wk3 n (wk2 n (fl 9) (wk1 n (fl 9) (fun j => ar 9 (P j)) K))))))) i) hp387 ?_
                                                    refine q_as (y := lastD (fl 9) (wk6 n (wk5 n (wk4 n (wk3 n (wk2 n (fl 9) (wk1 n (fl 9) (fun j => ar 9 (P j)) K)))))) i) (lastS_w7 (no2_6 (no2_5 (no2_4 no2_3))) i i (Nat.le_refl i) hi) ?_
                                                    refine lv_if_ne (tgt := 399) hx hb d_MD_weak_390 (by decide) (fun c390 => ?_) (fun c390 => ?_)
                                                    · have hI := CI.to (w2 := mw g ad (va_up (va_up ar 11 (wrt P K (ar 11) n)) 10 (wrt P (pre (i + 1) (w7 (fl 9) (wk6 n (wk5 n (wk4 n (wk3 n (wk2 n (fl 9) (wk1 n (fl 9) (fun j => ar 9 (P j)) K))))))) (wk6 n (wk5 n (wk4 n (wk3 n (wk2 n (fl 9) (wk1 n (fl 9) (fun j => ar 9 (P j)) K))))))) f0 n)) fl) hI (by rw [pre_same (i := i) (f := w7 (fl 9) (wk6 n (wk5 n (wk4 n (wk3 n (wk2 n (fl 9) (wk1 n (fl 9) (fun j => ar 9 (P j)) K))))))) (f0 := wk6 n (wk5 n (wk4 n (wk3 n (wk2 n (fl 9) (wk1 n (fl 9) (fun j => ar 9 (P j)) K)))))) (by unfold w7; rw [if_neg (fun q => c390 q.2)])] <;> rfl)
                                                      refine lv_iinc (v := nI (i + 1)) (lv' := [(1, .int (nI (i + 1))), (0, .ref (ad 0))]) hx hb d_MD_weak_399 hl (k := 1) rfl (nI_add _ 1) (by decide) rfl (fun ls hl => ?_)
                                                      refine lv_goto (tgt := 368) hx hb d_MD_weak_402 (by decide) ?_
                                                      exact ih368 (i + 1) (by omega) (by first | assumption | omega) _ _ _ hI (lv_sub hl [1, 0] rfl)
                                                    · refine lv_aload_n hx hb d_MD_weak_393 rfl (lv_at hl 0 rfl) ?_
                                                      refine lv_iload_n hx hb d_MD_weak_394 rfl (lv_at hl 1 rfl) ?_
                                                      refine lv_iconst (v := 0) hx hb d_MD_weak_395 (by decide) ?_
                                                      refine q_callvV [.int (nI i), .int 0] M hI (c_MD_put l g ad (va_up (va_up ar 10 (wrt P (pre i (w7 (fl 9) (wk6 n (wk5 n (wk4 n (wk3 n (wk2 n (fl 9) (wk1 n (fl 9) (fun j => ar 9 (P j)) K))))))) (wk6 n (wk5 n (wk4 n (wk3 n (wk2 n (fl 9) (wk1 n (fl 9) (fun j => ar 9 (P j)) K))))))) f0 n)) 11 (wrt P K (ar 11) n)) fl i 0 n P (pre i (w7 (fl 9) (wk6 n (wk5 n (wk4 n (wk3 n (wk2 n (fl 9) (wk1 n (fl 9) (fun j => ar 9 (P j)) K))))))) (wk6 n (wk5 n (wk4 n (wk3 n (wk2 n (fl 9) (wk1 n (fl 9) (fun j => ar 9 (P j)) K))))))) f0 (by first | exact hn | assumption | omega | rfl) (by first | exact hN | assumption | omega | rfl) (by first | exact hP | assumption | omega | rfl) (by first | exact hPb | assumption | omega | rfl) (by first | exact hij | assumption | omega | rfl) (rfl) (by omega)) ok_MD_put m5_173 m5_175 ms_67 0 rfl rfl rfl rfl hl.1 ⟨rfl, rfl⟩ ⟨Nat.le_of_ble_eq_true rfl, Nat.le_of_ble_eq_true rfl⟩ (Nat.le_of_ble_eq_true rfl) ⟨Nat.le_of_ble_eq_true rfl, Nat.le_of_ble_eq_true rfl⟩ d_MD_weak_396 (fun u396 H locs hp396 hI => ?_)
                                                      have hI : CI g A s (mw g ad (va_up (va_up ar 11 (wrt P K (ar 11) n)) 10 (wrt P (upd (pre i (w7 (fl 9) (wk6 n (wk5 n (wk4 n (wk3 n (wk2 n (fl 9) (wk1 n (fl 9) (fun j => ar 9 (P j)) K))))))) (wk6 n (wk5 n (wk4 n (wk3 n (wk2 n (fl 9) (wk1 n (fl 9) (fun j => ar 9 (P j)) K))))))) i 0) f0 n)) fl) H locs := hI
                                                      have hI := CI.to (w2 := mw g ad (va_up (va_up ar 11 (wrt P K (ar 11) n)) 10 (wrt P (pre (i + 1) (w7 (fl 9) (wk6 n (wk5 n (wk4 n (wk3 n (wk2 n (fl 9) (wk1 n (fl 9) (fun j => ar 9 (P j)) K))))))) (wk6 n (wk5 n (wk4 n (wk3 n (wk2 n (fl 9) (wk1 n (fl 9) (fun j => ar 9 (P j)) K))))))) f0 n)) fl) hI (by rw [pre_up (f := w7 (fl 9) (wk6 n (wk5 n (wk4 n (wk3 n (wk2 n (fl 9) (wk1 n (fl 9) (fun j => ar 9 (P j)) K))))))) (f0 := wk6 n (wk5 n (wk4 n (wk3 n (wk2 n (fl 9) (wk1 n (fl 9) (fun j => ar 9 (P j)) K)))))) (by unfold w7; rw [if_pos ⟨c382, c390⟩])] <;> rfl)
                                                      refine lv_iinc (v := nI (i + 1)) (lv' := [(1, .int (nI (i + 1))), (0, .ref (ad 0))]) hx hb d_MD_weak_399 hl (k := 1) rfl (nI_add _ 1) (by decide) rfl (fun ls hl => ?_)
                                                      refine lv_goto (tgt := 368) hx hb d_MD_weak_402 (by decide) ?_
                                                      exact ih368 (i + 1) (by omega) (by first | assumption | omega) _ _ _ hI (lv_sub hl [1, 0] rfl)
                                            have hI := CI.to (w2 := mw g ad (va_up (va_up ar 10 (wrt P (pre 0 (w7 (fl 9) (wk6 n (wk5 n (wk4 n (wk3 n (wk2 n (fl 9) (wk1 n (fl 9) (fun j => ar 9 (P j)) K))))))) (wk6 n (wk5 n (wk4 n (wk3 n (wk2 n (fl 9) (wk1 n (fl 9) (fun j => ar 9 (P j)) K))))))) f0 n)) 11 (wrt P K (ar 11) n)) fl) hI (by rw [pre_0] <;> rfl)
                                            exact L368 _ 0 (Nat.lt_succ_self _) (by first | assumption | omega) _ _ _ hI (lv_sub hl [1, 0] rfl)
                                          · have c328 : ¬ n ≤ i := fun h => c328 ((nI_leI (a := n) (b := i) (by omega) (by omega)).mpr h)
                                            refine lv_aload_n hx hb d_MD_weak_331 rfl (lv_at hl 0 rfl) ?_
                                            refine lv_iload_n hx hb d_MD_weak_332 rfl (lv_at hl 1 rfl) ?_
                                            refine q_calliV [.int (nI i)] M hI (c_MD_kindAt l g ad (va_up (va_up ar 10 (wrt P (pre i (w6 (wk5 n (wk4 n (wk3 n (wk2 n (fl 9) (wk1 n (fl 9) (fun j => ar 9 (P j)) K)))))) (wk5 n (wk4 n (wk3 n (wk2 n (fl 9) (wk1 n (fl 9) (fun j => ar 9 (P j)) K)))))) f0 n)) 11 (wrt P K (ar 11) n)) fl (nI i) n P (pre i (w6 (wk5 n (wk4 n (wk3 n (wk2 n (fl 9) (wk1 n (fl 9) (fun j => ar 9 (P j)) K)))))) (wk5 n (wk4 n (wk3 n (wk2 n (fl 9) (wk1 n (fl 9) (fun j => ar 9 (P j)) K)))))) f0 (by first | exact hn | assumption | omega | rfl) (by first | exact hN | assumption | omega | rfl) (by first | exact hP | assumption | omega | rfl) (by first | exact hPb | assumption | omega | rfl) (by first | exact hij | assumption | omega | rfl) (rfl)) ok_MD_kindAt m5_169 m5_171 ms_66 0 rfl rfl rfl rfl hl.1 ⟨rfl, rfl⟩ ⟨Nat.le_of_ble_eq_true rfl, Nat.le_of_ble_eq_true rfl⟩ (Nat.le_of_ble_eq_true rfl) ⟨Nat.le_of_ble_eq_true rfl, Nat.le_of_ble_eq_true rfl⟩ d_MD_weak_333 (fun r333 u333 H locs hp333 hI => ?_)
                                            refine q_as (y := kAt n (fl 9) (fl 10) (pre i (w6 (wk5 n (wk4 n (wk3 n (wk2 n (fl 9) (wk1 n (fl 9) (fun j => ar 9 (P j)) K)))))) (wk5 n (wk4 n (wk3 n (wk2 n (fl 9) (wk1 n (fl 9) (fun j => ar 9 (P j)) K)))))) (nI i)) hp333 ?_
                                            refine q_as (y := (wk5 n (wk4 n (wk3 n (wk2 n (fl 9) (wk1 n (fl 9) (fun j => ar 9 (P j)) K))))) i) (by rw [kAt_n (by omega) (by omega)]; exact pre_at) ?_
                                            refine lv_istore_n (lv' := [(2, .int ((wk5 n (wk4 n (wk3 n (wk2 n (fl 9) (wk1 n (fl 9) (fun j => ar 9 (P j)) K))))) i)), (0, .ref (ad 0)), (1, .int (nI i))]) hx hb d_MD_weak_336 rfl hl (by decide) rfl (fun ls hl => ?_)
                                            refine lv_iload_n hx hb d_MD_weak_337 rfl (lv_at hl 0 rfl) ?_
                                            refine lv_iconst (v := 4) hx hb d_MD_weak_338 (by decide) ?_
                                            refine lv_icmp_eq (tgt := 353) hx hb d_MD_weak_339 (by decide) (fun c339 => ?_) (fun c339 => ?_)
                                            · refine lv_aload_n hx hb d_MD_weak_353 rfl (lv_at hl 1 rfl) ?_
                                              refine lv_iload_n hx hb d_MD_weak_354 rfl (lv_at hl 2 rfl) ?_
                                              refine lv_bipush (v := 13) hx hb d_MD_weak_355 (by decide) ?_
                                              refine q_callvV [.int (nI i), .int 13] M hI (c_MD_put l g ad (va_up (va_up ar 10 (wrt P (pre i (w6 (wk5 n (wk4 n (wk3 n (wk2 n (fl 9) (wk1 n (fl 9) (fun j => ar 9 (P j)) K)))))) (wk5 n (wk4 n (wk3 n (wk2 n (fl 9) (wk1 n (fl 9) (fun j => ar 9 (P j)) K)))))) f0 n)) 11 (wrt P K (ar 11) n)) fl i 13 n P (pre i (w6 (wk5 n (wk4 n (wk3 n (wk2 n (fl 9) (wk1 n (fl 9) (fun j => ar 9 (P j)) K)))))) (wk5 n (wk4 n (wk3 n (wk2 n (fl 9) (wk1 n (fl 9) (fun j => ar 9 (P j)) K)))))) f0 (by first | exact hn | assumption | omega | rfl) (by first | exact hN | assumption | omega | rfl) (by first | exact hP | assumption | omega | rfl) (by first | exact hPb | assumption | omega | rfl) (by first | exact hij | assumption | omega | rfl) (rfl) (by omega)) ok_MD_put m5_173 m5_175 ms_67 0 rfl rfl rfl rfl hl.1 ⟨rfl, rfl⟩ ⟨Nat.le_of_ble_eq_true rfl, Nat.le_of_ble_eq_true rfl⟩ (Nat.le_of_ble_eq_true rfl) ⟨Nat.le_of_ble_eq_true rfl, Nat.le_of_ble_eq_true rfl⟩ d_MD_weak_357 (fun u357 H locs hp357 hI => ?_)
                                              have hI : CI g A s (mw g ad (va_up (va_up ar 11 (wrt P K (ar 11) n)) 10 (wrt P (upd (pre i (w6 (wk5 n (wk4 n (wk3 n (wk2 n (fl 9) (wk1 n (fl 9) (fun j => ar 9 (P j)) K)))))) (wk5 n (wk4 n (wk3 n (wk2 n (fl 9) (wk1 n (fl 9) (fun j => ar 9 (P j)) K)))))) i 13) f0 n)) fl) H locs := hI
                                              have hI := CI.to (w2 := mw g ad (va_up (va_up ar 11 (wrt P K (ar 11) n)) 10 (wrt P (pre (i + 1) (w6 (wk5 n (wk4 n (wk3 n (wk2 n (fl 9) (wk1 n (fl 9) (fun j => ar 9 (P j)) K)))))) (wk5 n (wk4 n (wk3 n (wk2 n (fl 9) (wk1 n (fl 9) (fun j => ar 9 (P j)) K)))))) f0 n)) fl) hI (by rw [pre_up (f := w6 (wk5 n (wk4 n (wk3 n (wk2 n (fl 9) (wk1 n (fl 9) (fun j => ar 9 (P j)) K)))))) (f0 := wk5 n (wk4 n (wk3 n (wk2 n (fl 9) (wk1 n (fl 9) (fun j => ar 9 (P j)) K))))) (by unfold w6; rw [if_pos]; first | exact Or.inl c339 | exact Or.inr (Or.inl c344) | exact Or.inr (Or.inr c350))] <;> rfl)
                                              refine lv_iinc (v := nI (i + 1)) (lv' := [(1, .int (nI (i + 1))), (2, .int ((wk5 n (wk4 n (wk3 n (wk2 n (fl 9) (wk1 n (fl 9) (fun j => ar 9 (P j)) K))))) i)), (0, .ref (ad 0))]) hx hb d_MD_weak_360 hl (k := 2) rfl (nI_add _ 1) (by decide) rfl (fun ls hl => ?_)
                                              refine lv_goto (tgt := 323) hx hb d_MD_weak_363 (by decide) ?_
                                              exact ih323 (i + 1) (by omega) (by first | assumption | omega) _ _ _ hI (lv_sub hl [2, 0] rfl)
                                            · refine lv_iload_n hx hb d_MD_weak_342 rfl (lv_at hl 0 rfl) ?_
                                              refine lv_iconst (v := 5) hx hb d_MD_weak_343 (by decide) ?_
                                              refine lv_icmp_eq (tgt := 353) hx hb d_MD_weak_344 (by decide) (fun c344 => ?_) (fun c344 => ?_)
                                              · refine lv_aload_n hx hb d_MD_weak_353 rfl (lv_at hl 1 rfl) ?_
                                                refine lv_iload_n hx hb d_MD_weak_354 rfl (lv_at hl 2 rfl) ?_
                                                refine lv_bipush (v := 13) hx hb d_MD_weak_355 (by decide) ?_
                                                refine q_callvV [.int (nI i), .int 13] M hI (c_MD_put l g ad (va_up (va_up ar 10 (wrt P (pre i (w6 (wk5 n (wk4 n (wk3 n (wk2 n (fl 9) (wk1 n (fl 9) (fun j => ar 9 (P j)) K)))))) (wk5 n (wk4 n (wk3 n (wk2 n (fl 9) (wk1 n (fl 9) (fun j => ar 9 (P j)) K)))))) f0 n)) 11 (wrt P K (ar 11) n)) fl i 13 n P (pre i (w6 (wk5 n (wk4 n (wk3 n (wk2 n (fl 9) (wk1 n (fl 9) (fun j => ar 9 (P j)) K)))))) (wk5 n (wk4 n (wk3 n (wk2 n (fl 9) (wk1 n (fl 9) (fun j => ar 9 (P j)) K)))))) f0 (by first | exact hn | assumption | omega | rfl) (by first | exact hN | assumption | omega | rfl) (by first | exact hP | assumption | omega | rfl) (by first | exact hPb | assumption | omega | rfl) (by first | exact hij | assumption | omega | rfl) (rfl) (by omega)) ok_MD_put m5_173 m5_175 ms_67 0 rfl rfl rfl rfl hl.1 ⟨rfl, rfl⟩ ⟨Nat.le_of_ble_eq_true rfl, Nat.le_of_ble_eq_true rfl⟩ (Nat.le_of_ble_eq_true rfl) ⟨Nat.le_of_ble_eq_true rfl, Nat.le_of_ble_eq_true rfl⟩ d_MD_weak_357 (fun u357 H locs hp357 hI => ?_)
                                                have hI : CI g A s (mw g ad (va_up (va_up ar 11 (wrt P K (ar 11) n)) 10 (wrt P (upd (pre i (w6 (wk5 n (wk4 n (wk3 n (wk2 n (fl 9) (wk1 n (fl 9) (fun j => ar 9 (P j)) K)))))) (wk5 n (wk4 n (wk3 n (wk2 n (fl 9) (wk1 n (fl 9) (fun j => ar 9 (P j)) K)))))) i 13) f0 n)) fl) H locs := hI
                                                have hI := CI.to (w2 := mw g ad (va_up (va_up ar 11 (wrt P K (ar 11) n)) 10 (wrt P (pre (i + 1) (w6 (wk5 n (wk4 n (wk3 n (wk2 n (fl 9) (wk1 n (fl 9) (fun j => ar 9 (P j)) K)))))) (wk5 n (wk4 n (wk3 n (wk2 n (fl 9) (wk1 n (fl 9) (fun j => ar 9 (P j)) K)))))) f0 n)) fl) hI (by rw [pre_up (f := w6 (wk5 n (wk4 n (wk3 n (wk2 n (fl 9) (wk1 n (fl 9) (fun j => ar 9 (P j)) K)))))) (f0 := wk5 n (wk4 n (wk3 n (wk2 n (fl 9) (wk1 n (fl 9) (fun j => ar 9 (P j)) K))))) (by unfold w6; rw [if_pos]; first | exact Or.inl c339 | exact Or.inr (Or.inl c344) | exact Or.inr (Or.inr c350))] <;> rfl)
                                                refine lv_iinc (v := nI (i + 1)) (lv' := [(1, .int (nI (i + 1))), (2, .int ((wk5 n (wk4 n (wk3 n (wk2 n (fl 9) (wk1 n (fl 9) (fun j => ar 9 (P j)) K))))) i)), (0, .ref (ad 0))]) hx hb d_MD_weak_360 hl (k := 2) rfl (nI_add _ 1) (by decide) rfl (fun ls hl => ?_)
                                                refine lv_goto (tgt := 323) hx hb d_MD_weak_363 (by decide) ?_
                                                exact ih323 (i + 1) (by omega) (by first | assumption | omega) _ _ _ hI (lv_sub hl [2, 0] rfl)
                                              · refine lv_iload_n hx hb d_MD_weak_347 rfl (lv_at hl 0 rfl) ?_
                                                refine lv_bipush (v := 7) hx hb d_MD_weak_348 (by decide) ?_
                                                refine lv_icmp_ne (tgt := 360) hx hb d_MD_weak_350 (by decide) (fun c350 => ?_) (fun c350 => ?_)
                                                · have hI := CI.to (w2 := mw g ad (va_up (va_up ar 11 (wrt P K (ar 11) n)) 10 (wrt P (pre (i + 1) (w6 (wk5 n (wk4 n (wk3 n (wk2 n (fl 9) (wk1 n (fl 9) (fun j => ar 9 (P j)) K)))))) (wk5 n (wk4 n (wk3 n (wk2 n (fl 9) (wk1 n (fl 9) (fun j => ar 9 (P j)) K)))))) f0 n)) fl) hI (by rw [pre_same (i := i) (f := w6 (wk5 n (wk4 n (wk3 n (wk2 n (fl 9) (wk1 n (fl 9) (fun j => ar 9 (P j)) K)))))) (f0 := wk5 n (wk4 n (wk3 n (wk2 n (fl 9) (wk1 n (fl 9) (fun j => ar 9 (P j)) K))))) (by unfold w6; rw [if_neg (fun q => q.elim c339 (fun q => q.elim c344 c350))])] <;> rfl)
                                                  refine lv_iinc (v := nI (i + 1)) (lv' := [(1, .int (nI (i + 1))), (2, .int ((wk5 n (wk4 n (wk3 n (wk2 n (fl 9) (wk1 n (fl 9) (fun j => ar 9 (P j)) K))))) i)), (0, .ref (ad 0))]) hx hb d_MD_weak_360 hl (k := 2) rfl (nI_add _ 1) (by decide) rfl (fun ls hl => ?_)
                                                  refine lv_goto (tgt := 323) hx hb d_MD_weak_363 (by decide) ?_
                                                  exact ih323 (i + 1) (by omega) (by first | assumption | omega) _ _ _ hI (lv_sub hl [2, 0] rfl)
                                                · refine lv_aload_n hx hb d_MD_weak_353 rfl (lv_at hl 1 rfl) ?_
                                                  refine lv_iload_n hx hb d_MD_weak_354 rfl (lv_at hl 2 rfl) ?_
                                                  refine lv_bipush (v := 13) hx hb d_MD_weak_355 (by decide) ?_
                                                  refine q_callvV [.int (nI i), .int 13] M hI (c_MD_put l g ad (va_up (va_up ar 10 (wrt P (pre i (w6 (wk5 n (wk4 n (wk3 n (wk2 n (fl 9) (wk1 n (fl 9) (fun j => ar 9 (P j)) K)))))) (wk5 n (wk4 n (wk3 n (wk2 n (fl 9) (wk1 n (fl 9) (fun j => ar 9 (P j)) K)))))) f0 n)) 11 (wrt P K (ar 11) n)) fl i 13 n P (pre i (w6 (wk5 n (wk4 n (wk3 n (wk2 n (fl 9) (wk1 n (fl 9) (fun j => ar 9 (P j)) K)))))) (wk5 n (wk4 n (wk3 n (wk2 n (fl 9) (wk1 n (fl 9) (fun j => ar 9 (P j)) K)))))) f0 (by first | exact hn | assumption | omega | rfl) (by first | exact hN | assumption | omega | rfl) (by first | exact hP | assumption | omega | rfl) (by first | exact hPb | assumption | omega | rfl) (by first | exact hij | assumption | omega | rfl) (rfl) (by omega)) ok_MD_put m5_173 m5_175 ms_67 0 rfl rfl rfl rfl hl.1 ⟨rfl, rfl⟩ ⟨Nat.le_of_ble_eq_true rfl, Nat.le_of_ble_eq_true rfl⟩ (Nat.le_of_ble_eq_true rfl) ⟨Nat.le_of_ble_eq_true rfl, Nat.le_of_ble_eq_true rfl⟩ d_MD_weak_357 (fun u357 H locs hp357 hI => ?_)
                                                  have hI : CI g A s (mw g ad (va_up (va_up ar 11 (wrt P K (ar 11) n)) 10 (wrt P (upd (pre i (w6 (wk5 n (wk4 n (wk3 n (wk2 n (fl 9) (wk1 n (fl 9) (fun j => ar 9 (P j)) K)))))) (wk5 n (wk4 n (wk3 n (wk2 n (fl 9) (wk1 n (fl 9) (fun j => ar 9 (P j)) K)))))) i 13) f0 n)) fl) H locs := hI
                                                  have hI := CI.to (w2 := mw g ad (va_up (va_up ar 11 (wrt P K (ar 11) n)) 10 (wrt P (pre (i + 1) (w6 (wk5 n (wk4 n (wk3 n (wk2 n (fl 9) (wk1 n (fl 9) (fun j => ar 9 (P j)) K)))))) (wk5 n (wk4 n (wk3 n (wk2 n (fl 9) (wk1 n (fl 9) (fun j => ar 9 (P j)) K)))))) f0 n)) fl) hI (by rw [pre_up (f := w6 (wk5 n (wk4 n (wk3 n (wk2 n (fl 9) (wk1 n (fl 9) (fun j => ar 9 (P j)) K)))))) (f0 := wk5 n (wk4 n (wk3 n (wk2 n (fl 9) (wk1 n (fl 9) (fun j => ar 9 (P j)) K))))) (by unfold w6; rw [if_pos]; first | exact Or.inl c339 | exact Or.inr (Or.inl c344) | exact Or.inr (Or.inr c350))] <;> rfl)
                                                  refine lv_iinc (v := nI (i + 1)) (lv' := [(1, .int (nI (i + 1))), (2, .int ((wk5 n (wk4 n (wk3 n (wk2 n (fl 9) (wk1 n (fl 9) (fun j => ar 9 (P j)) K))))) i)), (0, .ref (ad 0))]) hx hb d_MD_weak_360 hl (k := 2) rfl (nI_add _ 1) (by decide) rfl (fun ls hl => ?_)
                                                  refine lv_goto (tgt := 323) hx hb d_MD_weak_363 (by decide) ?_
                                                  exact ih323 (i + 1) (by omega) (by first | assumption | omega) _ _ _ hI (lv_sub hl [2, 0] rfl)
                                      have hI := CI.to (w2 := mw g ad (va_up (va_up ar 10 (wrt P (pre 0 (w6 (wk5 n (wk4 n (wk3 n (wk2 n (fl 9) (wk1 n (fl 9) (fun j => ar 9 (P j)) K)))))) (wk5 n (wk4 n (wk3 n (wk2 n (fl 9) (wk1 n (fl 9) (fun j => ar 9 (P j)) K)))))) f0 n)) 11 (wrt P K (ar 11) n)) fl) hI (by rw [pre_0] <;> rfl)
                                      exact L323 _ 0 (Nat.lt_succ_self _) (by first | assumption | omega) _ _ _ hI (lv_sub hl [1, 0] rfl)
                                    · have c289 : ¬ n ≤ i := fun h => c289 ((nI_leI (a := n) (b := i) (by omega) (by omega)).mpr h)
                                      refine lv_aload_n hx hb d_MD_weak_292 rfl (lv_at hl 0 rfl) ?_
                                      refine lv_iload_n hx hb d_MD_weak_293 rfl (lv_at hl 1 rfl) ?_
                                      refine q_calliV [.int (nI i)] M hI (c_MD_kindAt l g ad (va_up (va_up ar 10 (wrt P (pre i (w5 n (wk4 n (wk3 n (wk2 n (fl 9) (wk1 n (fl 9) (fun j => ar 9 (P j)) K))))) (wk4 n (wk3 n (wk2 n (fl 9) (wk1 n (fl 9) (fun j => ar 9 (P j)) K))))) f0 n)) 11 (wrt P K (ar 11) n)) fl (nI i) n P (pre i (w5 n (wk4 n (wk3 n (wk2 n (fl 9) (wk1 n (fl 9) (fun j => ar 9 (P j)) K))))) (wk4 n (wk3 n (wk2 n (fl 9) (wk1 n (fl 9) (fun j => ar 9 (P j)) K))))) f0 (by first | exact hn | assumption | omega | rfl) (by first | exact hN | assumption | omega | rfl) (by first | exact hP | assumption | omega | rfl) (by first | exact hPb | assumption | omega | rfl) (by first | exact hij | assumption | omega | rfl) (rfl)) ok_MD_kindAt m5_169 m5_171 ms_66 0 rfl rfl rfl rfl hl.1 ⟨rfl, rfl⟩ ⟨Nat.le_of_ble_eq_true rfl, Nat.le_of_ble_eq_true rfl⟩ (Nat.le_of_ble_eq_true rfl) ⟨Nat.le_of_ble_eq_true rfl, Nat.le_of_ble_eq_true rfl⟩ d_MD_weak_294 (fun r294 u294 H locs hp294 hI => ?_)
                                      refine q_as (y := kAt n (fl 9) (fl 10) (pre i (w5 n (wk4 n (wk3 n (wk2 n (fl 9) (wk1 n (fl 9) (fun j => ar 9 (P j)) K))))) (wk4 n (wk3 n (wk2 n (fl 9) (wk1 n (fl 9) (fun j => ar 9 (P j)) K))))) (nI i)) hp294 ?_
                                      refine q_as (y := (wk4 n (wk3 n (wk2 n (fl 9) (wk1 n (fl 9) (fun j => ar 9 (P j)) K)))) i) (by rw [kAt_n (by omega) (by omega)]; exact pre_at) ?_
                                      refine lv_iconst (v := 5) hx hb d_MD_weak_297 (by decide) ?_
                                      refine lv_icmp_ne (tgt := 315) hx hb d_MD_weak_298 (by decide) (fun c298 => ?_) (fun c298 => ?_)
                                      · have hI := CI.to (w2 := mw g ad (va_up (va_up ar 11 (wrt P K (ar 11) n)) 10 (wrt P (pre (i + 1) (w5 n (wk4 n (wk3 n (wk2 n (fl 9) (wk1 n (fl 9) (fun j => ar 9 (P j)) K))))) (wk4 n (wk3 n (wk2 n (fl 9) (wk1 n (fl 9) (fun j => ar 9 (P j)) K))))) f0 n)) fl) hI (by rw [pre_same (i := i) (f := w5 n (wk4 n (wk3 n (wk2 n (fl 9) (wk1 n (fl 9) (fun j => ar 9 (P j)) K))))) (f0 := wk4 n (wk3 n (wk2 n (fl 9) (wk1 n (fl 9) (fun j => ar 9 (P j)) K)))) ((w5_ne c298).symm)] <;> rfl)
                                        refine lv_iinc (v := nI (i + 1)) (lv' := [(1, .int (nI (i + 1))), (0, .ref (ad 0))]) hx hb d_MD_weak_315 hl (k := 1) rfl (nI_add _ 1) (by decide) rfl (fun ls hl => ?_)
                                        refine lv_goto (tgt := 284) hx hb d_MD_weak_318 (by decide) ?_
                                        exact ih284 (i + 1) (by omega) (by first | assumption | omega) _ _ _ hI (lv_sub hl [1, 0] rfl)
                                      · refine lv_aload_n hx hb d_MD_weak_301 rfl (lv_at hl 0 rfl) ?_
                                        refine lv_iload_n hx hb d_MD_weak_302 rfl (lv_at hl 1 rfl) ?_
                                        refine q_calliV [.int (nI i)] M hI (c_MD_isBesideNumber l g ad (va_up (va_up ar 10 (wrt P (pre i (w5 n (wk4 n (wk3 n (wk2 n (fl 9) (wk1 n (fl 9) (fun j => ar 9 (P j)) K))))) (wk4 n (wk3 n (wk2 n (fl 9) (wk1 n (fl 9) (fun j => ar 9 (P j)) K))))) f0 n)) 11 (wrt P K (ar 11) n)) fl i n P (pre i (w5 n (wk4 n (wk3 n (wk2 n (fl 9) (wk1 n (fl 9) (fun j => ar 9 (P j)) K))))) (wk4 n (wk3 n (wk2 n (fl 9) (wk1 n (fl 9) (fun j => ar 9 (P j)) K))))) f0 (by first | exact hn | assumption | omega | rfl) (by first | exact hN | assumption | omega | rfl) (by first | exact hP | assumption | omega | rfl) (by first | exact hPb | assumption | omega | rfl) (by first | exact hij | assumption | omega | rfl) (rfl) (by omega) (by rw [pre_at]; exact c298)) ok_MD_isBesideNumber m5_181 m5_183 ms_69 0 rfl rfl rfl rfl hl.1 ⟨rfl, rfl⟩ ⟨Nat.le_of_ble_eq_true rfl, Nat.le_of_ble_eq_true rfl⟩ (Nat.le_of_ble_eq_true rfl) ⟨Nat.le_of_ble_eq_true rfl, Nat.le_of_ble_eq_true rfl⟩ d_MD_weak_303 (fun r303 u303 H locs hp303 hI => ?_)
                                        refine q_as (y := bI (nexE n (pre i (w5 n (wk4 n (wk3 n (wk2 n (fl 9) (wk1 n (fl 9) (fun j => ar 9 (P j)) K))))) (wk4 n (wk3 n (wk2 n (fl 9) (wk1 n (fl 9) (fun j => ar 9 (P j)) K))))) i)) hp303 ?_
                                        refine lv_if_eq (tgt := 315) hx hb d_MD_weak_306 (by decide) (fun c306 => ?_) (fun c306 => ?_)
                                        · have c306 := bI_eq0.mp c306
                                          have c306 : ¬ nexE n (wk4 n (wk3 n (wk2 n (fl 9) (wk1 n (fl 9) (fun j => ar 9 (P j)) K)))) i := fun q => c306 ((nexE_pre (by omega) c298).mpr q)
                                          have hI := CI.to (w2 := mw g ad (va_up (va_up ar 11 (wrt P K (ar 11) n)) 10 (wrt P (pre (i + 1) (w5 n (wk4 n (wk3 n (wk2 n (fl 9) (wk1 n (fl 9) (fun j => ar 9 (P j)) K))))) (wk4 n (wk3 n (wk2 n (fl 9) (wk1 n (fl 9) (fun j => ar 9 (P j)) K))))) f0 n)) fl) hI (by rw [pre_same (i := i) (f := w5 n (wk4 n (wk3 n (wk2 n (fl 9) (wk1 n (fl 9) (fun j => ar 9 (P j)) K))))) (f0 := wk4 n (wk3 n (wk2 n (fl 9) (wk1 n (fl 9) (fun j => ar 9 (P j)) K)))) (by unfold w5; exact (if_neg (fun q => c306 q.2)).symm)] <;> rfl)
                                          refine lv_iinc (v := nI (i + 1)) (lv' := [(1, .int (nI (i + 1))), (0, .ref (ad 0))]) hx hb d_MD_weak_315 hl (k := 1) rfl (nI_add _ 1) (by decide) rfl (fun ls hl => ?_)
                                          refine lv_goto (tgt := 284) hx hb d_MD_weak_318 (by decide) ?_
                                          exact ih284 (i + 1) (by omega) (by first | assumption | omega) _ _ _ hI (lv_sub hl [1, 0] rfl)
                                        · have c306 := bI_ne0.mp c306
                                          have c306 : nexE n (wk4 n (wk3 n (wk2 n (fl 9) (wk1 n (fl 9) (fun j => ar 9 (P j)) K)))) i := (nexE_pre (by omega) c298).mp c306
                                          refine lv_aload_n hx hb d_MD_weak_309 rfl (lv_at hl 0 rfl) ?_
                                          refine lv_iload_n hx hb d_MD_weak_310 rfl (lv_at hl 1 rfl) ?_
                                          refine lv_iconst (v := 3) hx hb d_MD_weak_311 (by decide) ?_
                                          refine q_callvV [.int (nI i), .int 3] M hI (c_MD_put l g ad (va_up (va_up ar 10 (wrt P (pre i (w5 n (wk4 n (wk3 n (wk2 n (fl 9) (wk1 n (fl 9) (fun j => ar 9 (P j)) K))))) (wk4 n (wk3 n (wk2 n (fl 9) (wk1 n (fl 9) (fun j => ar 9 (P j)) K))))) f0 n)) 11 (wrt P K (ar 11) n)) fl i 3 n P (pre i (w5 n (wk4 n (wk3 n (wk2 n (fl 9) (wk1 n (fl 9) (fun j => ar 9 (P j)) K))))) (wk4 n (wk3 n (wk2 n (fl 9) (wk1 n (fl 9) (fun j => ar 9 (P j)) K))))) f0 (by first | exact hn | assumption | omega | rfl) (by first | exact hN | assumption | omega | rfl) (by first | exact hP | assumption | omega | rfl) (by first | exact hPb | assumption | omega | rfl) (by first | exact hij | assumption | omega | rfl) (rfl) (by omega)) ok_MD_put m5_173 m5_175 ms_67 0 rfl rfl rfl rfl hl.1 ⟨rfl, rfl⟩ ⟨Nat.le_of_ble_eq_true rfl, Nat.le_of_ble_eq_true rfl⟩ (Nat.le_of_ble_eq_true rfl) ⟨Nat.le_of_ble_eq_true rfl, Nat.le_of_ble_eq_true rfl⟩ d_MD_weak_312 (fun u312 H locs hp312 hI => ?_)
                                          have hI : CI g A s (mw g ad (va_up (va_up ar 11 (wrt P K (ar 11) n)) 10 (wrt P (upd (pre i (w5 n (wk4 n (wk3 n (wk2 n (fl 9) (wk1 n (fl 9) (fun j => ar 9 (P j)) K))))) (wk4 n (wk3 n (wk2 n (fl 9) (wk1 n (fl 9) (fun j => ar 9 (P j)) K))))) i 3) f0 n)) fl) H locs := hI
                                          have hI := CI.to (w2 := mw g ad (va_up (va_up ar 11 (wrt P K (ar 11) n)) 10 (wrt P (pre (i + 1) (w5 n (wk4 n (wk3 n (wk2 n (fl 9) (wk1 n (fl 9) (fun j => ar 9 (P j)) K))))) (wk4 n (wk3 n (wk2 n (fl 9) (wk1 n (fl 9) (fun j => ar 9 (P j)) K))))) f0 n)) fl) hI (by rw [pre_up (f := w5 n (wk4 n (wk3 n (wk2 n (fl 9) (wk1 n (fl 9) (fun j => ar 9 (P j)) K))))) (f0 := wk4 n (wk3 n (wk2 n (fl 9) (wk1 n (fl 9) (fun j => ar 9 (P j)) K)))) (by unfold w5; exact (if_pos ⟨c298, c306⟩).symm)] <;> rfl)
                                          refine lv_iinc (v := nI (i + 1)) (lv' := [(1, .int (nI (i + 1))), (0, .ref (ad 0))]) hx hb d_MD_weak_315 hl (k := 1) rfl (nI_add _ 1) (by decide) rfl (fun ls hl => ?_)
                                          refine lv_goto (tgt := 284) hx hb d_MD_weak_318 (by decide) ?_
                                          exact ih284 (i + 1) (by omega) (by first | assumption | omega) _ _ _ hI (lv_sub hl [1, 0] rfl)
                                have hI := CI.to (w2 := mw g ad (va_up (va_up ar 10 (wrt P (pre 0 (w5 n (wk4 n (wk3 n (wk2 n (fl 9) (wk1 n (fl 9) (fun j => ar 9 (P j)) K))))) (wk4 n (wk3 n (wk2 n (fl 9) (wk1 n (fl 9) (fun j => ar 9 (P j)) K))))) f0 n)) 11 (wrt P K (ar 11) n)) fl) hI (by rw [pre_0] <;> rfl)
                                exact L284 _ 0 (Nat.lt_succ_self _) (by first | assumption | omega) _ _ _ hI (lv_sub hl [1, 0] rfl)
                              · have c211 : ¬ n ≤ i + 1 := fun q => c211 ((nI_m1le (by omega) (by omega)).mpr q)
                                refine lv_aload_n hx hb d_MD_weak_214 rfl (lv_at hl 0 rfl) ?_
                                refine lv_iload_n hx hb d_MD_weak_215 rfl (lv_at hl 1 rfl) ?_
                                refine q_calliV [.int (nI i)] M hI (c_MD_kindAt l g ad (va_up (va_up ar 10 (wrt P (pre i (w4 n (wk3 n (wk2 n (fl 9) (wk1 n (fl 9) (fun j => ar 9 (P j)) K)))) (wk3 n (wk2 n (fl 9) (wk1 n (fl 9) (fun j => ar 9 (P j)) K)))) f0 n)) 11 (wrt P K (ar 11) n)) fl (nI i) n P (pre i (w4 n (wk3 n (wk2 n (fl 9) (wk1 n (fl 9) (fun j => ar 9 (P j)) K)))) (wk3 n (wk2 n (fl 9) (wk1 n (fl 9) (fun j => ar 9 (P j)) K)))) f0 (by first | exact hn | assumption | omega | rfl) (by first | exact hN | assumption | omega | rfl) (by first | exact hP | assumption | omega | rfl) (by first | exact hPb | assumption | omega | rfl) (by first | exact hij | assumption | omega | rfl) (rfl)) ok_MD_kindAt m5_169 m5_171 ms_66 0 rfl rfl rfl rfl hl.1 ⟨rfl, rfl⟩ ⟨Nat.le_of_ble_eq_true rfl, Nat.le_of_ble_eq_true rfl⟩ (Nat.le_of_ble_eq_true rfl) ⟨Nat.le_of_ble_eq_true rfl, Nat.le_of_ble_eq_true rfl⟩ d_MD_weak_216 (fun r216 u216 H locs hp216 hI => ?_)
                                refine q_as (y := kAt n (fl 9) (fl 10) (pre i (w4 n (wk3 n (wk2 n (fl 9) (wk1 n (fl 9) (fun j => ar 9 (P j)) K)))) (wk3 n (wk2 n (fl 9) (wk1 n (fl 9) (fun j => ar 9 (P j)) K)))) (nI i)) hp216 ?_
                                refine q_as (y := (wk3 n (wk2 n (fl 9) (wk1 n (fl 9) (fun j => ar 9 (P j)) K))) i) (by rw [kAt_n (by omega) (by omega)]; exact pre_at) ?_
                                refine lv_istore_n (lv' := [(2, .int ((wk3 n (wk2 n (fl 9) (wk1 n (fl 9) (fun j => ar 9 (P j)) K))) i)), (0, .ref (ad 0)), (1, .int (nI i))]) hx hb d_MD_weak_219 rfl hl (by decide) rfl (fun ls hl => ?_)
                                refine lv_aload_n hx hb d_MD_weak_220 rfl (lv_at hl 1 rfl) ?_
                                refine lv_iload_n hx hb d_MD_weak_221 rfl (lv_at hl 2 rfl) ?_
                                refine lv_iconst (v := 1) hx hb d_MD_weak_222 (by decide) ?_
                                refine lv_isub hx hb d_MD_weak_223 ?_
                                refine q_as (y := nI (i - 1)) (pk_sub (a := i) (b := 1) (by omega)) ?_
                                refine q_calliV [.int (nI (i - 1))] M hI (c_MD_kindAt l g ad (va_up (va_up ar 10 (wrt P (pre i (w4 n (wk3 n (wk2 n (fl 9) (wk1 n (fl 9) (fun j => ar 9 (P j)) K)))) (wk3 n (wk2 n (fl 9) (wk1 n (fl 9) (fun j => ar 9 (P j)) K)))) f0 n)) 11 (wrt P K (ar 11) n)) fl (nI (i - 1)) n P (pre i (w4 n (wk3 n (wk2 n (fl 9) (wk1 n (fl 9) (fun j => ar 9 (P j)) K)))) (wk3 n (wk2 n (fl 9) (wk1 n (fl 9) (fun j => ar 9 (P j)) K)))) f0 (by first | exact hn | assumption | omega | rfl) (by first | exact hN | assumption | omega | rfl) (by first | exact hP | assumption | omega | rfl) (by first | exact hPb | assumption | omega | rfl) (by first | exact hij | assumption | omega | rfl) (rfl)) ok_MD_kindAt m5_169 m5_171 ms_66 0 rfl rfl rfl rfl hl.1 ⟨rfl, rfl⟩ ⟨Nat.le_of_ble_eq_true rfl, Nat.le_of_ble_eq_true rfl⟩ (Nat.le_of_ble_eq_true rfl) ⟨Nat.le_of_ble_eq_true rfl, Nat.le_of_ble_eq_true rfl⟩ d_MD_weak_224 (fun r224 u224 H locs hp224 hI => ?_)
                                refine q_as (y := kAt n (fl 9) (fl 10) (pre i (w4 n (wk3 n (wk2 n (fl 9) (wk1 n (fl 9) (fun j => ar 9 (P j)) K)))) (wk3 n (wk2 n (fl 9) (wk1 n (fl 9) (fun j => ar 9 (P j)) K)))) (nI (i - 1))) hp224 ?_
                                refine q_as (y := w4 n (wk3 n (wk2 n (fl 9) (wk1 n (fl 9) (fun j => ar 9 (P j)) K))) (i - 1)) (by rw [kAt_n (by omega) (by omega)]; exact pre_lo (by omega)) ?_
                                refine lv_istore_n (lv' := [(3, .int (w4 n (wk3 n (wk2 n (fl 9) (wk1 n (fl 9) (fun j => ar 9 (P j)) K))) (i - 1))), (2, .int ((wk3 n (wk2 n (fl 9) (wk1 n (fl 9) (fun j => ar 9 (P j)) K))) i)), (0, .ref (ad 0)), (1, .int (nI i))]) hx hb d_MD_weak_227 rfl hl (by decide) rfl (fun ls hl => ?_)
                                refine lv_aload_n hx hb d_MD_weak_228 rfl (lv_at hl 2 rfl) ?_
                                refine lv_iload_n hx hb d_MD_weak_229 rfl (lv_at hl 3 rfl) ?_
                                refine lv_iconst (v := 1) hx hb d_MD_weak_230 (by decide) ?_
                                refine lv_iadd hx hb d_MD_weak_231 ?_
                                refine q_as (y := nI (i + 1)) (nI_add i 1) ?_
                                refine q_calliV [.int (nI (i + 1))] M hI (c_MD_kindAt l g ad (va_up (va_up ar 10 (wrt P (pre i (w4 n (wk3 n (wk2 n (fl 9) (wk1 n (fl 9) (fun j => ar 9 (P j)) K)))) (wk3 n (wk2 n (fl 9) (wk1 n (fl 9) (fun j => ar 9 (P j)) K)))) f0 n)) 11 (wrt P K (ar 11) n)) fl (nI (i + 1)) n P (pre i (w4 n (wk3 n (wk2 n (fl 9) (wk1 n (fl 9) (fun j => ar 9 (P j)) K)))) (wk3 n (wk2 n (fl 9) (wk1 n (fl 9) (fun j => ar 9 (P j)) K)))) f0 (by first | exact hn | assumption | omega | rfl) (by first | exact hN | assumption | omega | rfl) (by first | exact hP | assumption | omega | rfl) (by first | exact hPb | assumption | omega | rfl) (by first | exact hij | assumption | omega | rfl) (rfl)) ok_MD_kindAt m5_169 m5_171 ms_66 0 rfl rfl rfl rfl hl.1 ⟨rfl, rfl⟩ ⟨Nat.le_of_ble_eq_true rfl, Nat.le_of_ble_eq_true rfl⟩ (Nat.le_of_ble_eq_true rfl) ⟨Nat.le_of_ble_eq_true rfl, Nat.le_of_ble_eq_true rfl⟩ d_MD_weak_232 (fun r232 u232 H locs hp232 hI => ?_)
                                refine q_as (y := kAt n (fl 9) (fl 10) (pre i (w4 n (wk3 n (wk2 n (fl 9) (wk1 n (fl 9) (fun j => ar 9 (P j)) K)))) (wk3 n (wk2 n (fl 9) (wk1 n (fl 9) (fun j => ar 9 (P j)) K)))) (nI (i + 1))) hp232 ?_
                                refine q_as (y := (wk3 n (wk2 n (fl 9) (wk1 n (fl 9) (fun j => ar 9 (P j)) K))) (i + 1)) (by rw [kAt_n (by omega) (by omega)]; exact pre_hi (by omega)) ?_
                                refine lv_istore (lv' := [(4, .int ((wk3 n (wk2 n (fl 9) (wk1 n (fl 9) (fun j => ar 9 (P j)) K))) (i + 1))), (3, .int (w4 n (wk3 n (wk2 n (fl 9) (wk1 n (fl 9) (fun j => ar 9 (P j)) K))) (i - 1))), (2, .int ((wk3 n (wk2 n (fl 9) (wk1 n (fl 9) (fun j => ar 9 (P j)) K))) i)), (0, .ref (ad 0)), (1, .int (nI i))]) hx hb d_MD_weak_235 hl (by decide) rfl (fun ls hl => ?_)
                                refine lv_iload_n hx hb d_MD_weak_237 rfl (lv_at hl 1 rfl) ?_
                                refine lv_iload hx hb d_MD_weak_238 (lv_at hl 0 rfl) ?_
                                refine lv_icmp_ne (tgt := 276) hx hb d_MD_weak_240 (by decide) (fun c240 => ?_) (fun c240 => ?_)
                                · have hb9 : ∀ v, ¬ btw n (w4 n (wk3 n (wk2 n (fl 9) (wk1 n (fl 9) (fun j => ar 9 (P j)) K)))) (wk3 n (wk2 n (fl 9) (wk1 n (fl 9) (fun j => ar 9 (P j)) K))) i v := fun v q => c240 (q.2.1.trans q.2.2.2.symm)
                                  have hI := CI.to (w2 := mw g ad (va_up (va_up ar 11 (wrt P K (ar 11) n)) 10 (wrt P (pre (i + 1) (w4 n (wk3 n (wk2 n (fl 9) (wk1 n (fl 9) (fun j => ar 9 (P j)) K)))) (wk3 n (wk2 n (fl 9) (wk1 n (fl 9) (fun j => ar 9 (P j)) K)))) f0 n)) fl) hI (by rw [pre_same (i := i) (f := w4 n (wk3 n (wk2 n (fl 9) (wk1 n (fl 9) (fun j => ar 9 (P j)) K)))) (f0 := wk3 n (wk2 n (fl 9) (wk1 n (fl 9) (fun j => ar 9 (P j)) K))) (by rw [w4_eq]; unfold w4s; rw [if_neg (fun q => hb9 3 q.2), if_neg (fun q => hb9 6 q.2)])] <;> rfl)
                                  refine lv_iinc (v := nI (i + 1)) (lv' := [(1, .int (nI (i + 1))), (4, .int ((wk3 n (wk2 n (fl 9) (wk1 n (fl 9) (fun j => ar 9 (P j)) K))) (i + 1))), (3, .int (w4 n (wk3 n (wk2 n (fl 9) (wk1 n (fl 9) (fun j => ar 9 (P j)) K))) (i - 1))), (2, .int ((wk3 n (wk2 n (fl 9) (wk1 n (fl 9) (fun j => ar 9 (P j)) K))) i)), (0, .ref (ad 0))]) hx hb d_MD_weak_276 hl (k := 4) rfl (nI_add _ 1) (by decide) rfl (fun ls hl => ?_)
                                  refine lv_goto (tgt := 204) hx hb d_MD_weak_279 (by decide) ?_
                                  exact ih204 (i + 1) (by omega) (by first | assumption | omega) (by first | assumption | omega) _ _ _ hI (lv_sub hl [4, 0] rfl)
                                · have hbt : ∀ v, w4 n (wk3 n (wk2 n (fl 9) (wk1 n (fl 9) (fun j => ar 9 (P j)) K))) (i - 1) = v → btw n (w4 n (wk3 n (wk2 n (fl 9) (wk1 n (fl 9) (fun j => ar 9 (P j)) K)))) (wk3 n (wk2 n (fl 9) (wk1 n (fl 9) (fun j => ar 9 (P j)) K))) i v := fun v e => ⟨by omega, e, by omega, c240 ▸ e⟩
                                  refine lv_iload_n hx hb d_MD_weak_243 rfl (lv_at hl 2 rfl) ?_
                                  refine lv_iconst (v := 4) hx hb d_MD_weak_244 (by decide) ?_
                                  refine lv_icmp_ne (tgt := 253) hx hb d_MD_weak_245 (by decide) (fun c245 => ?_) (fun c245 => ?_)
                                  · refine lv_iload_n hx hb d_MD_weak_253 rfl (lv_at hl 2 rfl) ?_
                                    refine lv_bipush (v := 7) hx hb d_MD_weak_254 (by decide) ?_
                                    refine lv_icmp_ne (tgt := 276) hx hb d_MD_weak_256 (by decide) (fun c256 => ?_) (fun c256 => ?_)
                                    · have hI := CI.to (w2 := mw g ad (va_up (va_up ar 11 (wrt P K (ar 11) n)) 10 (wrt P (pre (i + 1) (w4 n (wk3 n (wk2 n (fl 9) (wk1 n (fl 9) (fun j => ar 9 (P j)) K)))) (wk3 n (wk2 n (fl 9) (wk1 n (fl 9) (fun j => ar 9 (P j)) K)))) f0 n)) fl) hI (by rw [pre_same (i := i) (f := w4 n (wk3 n (wk2 n (fl 9) (wk1 n (fl 9) (fun j => ar 9 (P j)) K)))) (f0 := wk3 n (wk2 n (fl 9) (wk1 n (fl 9) (fun j => ar 9 (P j)) K))) (by rw [w4_eq]; unfold w4s; rw [if_neg, if_neg (fun q => c256 q.1)]; intro q; rcases q.1 with z | z; (first | exact c245 z | exact c250 q.2.2.1); exact c256 z)] <;> rfl)
                                      refine lv_iinc (v := nI (i + 1)) (lv' := [(1, .int (nI (i + 1))), (4, .int ((wk3 n (wk2 n (fl 9) (wk1 n (fl 9) (fun j => ar 9 (P j)) K))) (i + 1))), (3, .int (w4 n (wk3 n (wk2 n (fl 9) (wk1 n (fl 9) (fun j => ar 9 (P j)) K))) (i - 1))), (2, .int ((wk3 n (wk2 n (fl 9) (wk1 n (fl 9) (fun j => ar 9 (P j)) K))) i)), (0, .ref (ad 0))]) hx hb d_MD_weak_276 hl (k := 4) rfl (nI_add _ 1) (by decide) rfl (fun ls hl => ?_)
                                      refine lv_goto (tgt := 204) hx hb d_MD_weak_279 (by decide) ?_
                                      exact ih204 (i + 1) (by omega) (by first | assumption | omega) (by first | assumption | omega) _ _ _ hI (lv_sub hl [4, 0] rfl)
                                    · refine lv_iload_n hx hb d_MD_weak_259 rfl (lv_at hl 1 rfl) ?_
                                      refine lv_iconst (v := 3) hx hb d_MD_weak_260 (by decide) ?_
                                      refine lv_icmp_eq (tgt := 270) hx hb d_MD_weak_261 (by decide) (fun c261 => ?_) (fun c261 => ?_)
                                      · have hv : w4 n (wk3 n (wk2 n (fl 9) (wk1 n (fl 9) (fun j => ar 9 (P j)) K))) (i - 1) = w4 n (wk3 n (wk2 n (fl 9) (wk1 n (fl 9) (fun j => ar 9 (P j)) K))) i := by rw [c261, w4_eq]; unfold w4s; exact (if_pos ⟨Or.inr c256, hbt 3 c261⟩).symm
                                        refine lv_aload_n hx hb d_MD_weak_270 rfl (lv_at hl 3 rfl) ?_
                                        refine lv_iload_n hx hb d_MD_weak_271 rfl (lv_at hl 4 rfl) ?_
                                        refine lv_iload_n hx hb d_MD_weak_272 rfl (lv_at hl 1 rfl) ?_
                                        refine q_callvV [.int (nI i), .int (w4 n (wk3 n (wk2 n (fl 9) (wk1 n (fl 9) (fun j => ar 9 (P j)) K))) (i - 1))] M hI (c_MD_put l g ad (va_up (va_up ar 10 (wrt P (pre i (w4 n (wk3 n (wk2 n (fl 9) (wk1 n (fl 9) (fun j => ar 9 (P j)) K)))) (wk3 n (wk2 n (fl 9) (wk1 n (fl 9) (fun j => ar 9 (P j)) K)))) f0 n)) 11 (wrt P K (ar 11) n)) fl i (w4 n (wk3 n (wk2 n (fl 9) (wk1 n (fl 9) (fun j => ar 9 (P j)) K))) (i - 1)) n P (pre i (w4 n (wk3 n (wk2 n (fl 9) (wk1 n (fl 9) (fun j => ar 9 (P j)) K)))) (wk3 n (wk2 n (fl 9) (wk1 n (fl 9) (fun j => ar 9 (P j)) K)))) f0 (by first | exact hn | assumption | omega | rfl) (by first | exact hN | assumption | omega | rfl) (by first | exact hP | assumption | omega | rfl) (by first | exact hPb | assumption | omega | rfl) (by first | exact hij | assumption | omega | rfl) (rfl) (by omega)) ok_MD_put m5_173 m5_175 ms_67 0 rfl rfl rfl rfl hl.1 ⟨rfl, rfl⟩ ⟨Nat.le_of_ble_eq_true rfl, Nat.le_of_ble_eq_true rfl⟩ (Nat.le_of_ble_eq_true rfl) ⟨Nat.le_of_ble_eq_true rfl, Nat.le_of_ble_eq_true rfl⟩ d_MD_weak_273 (fun u273 H locs hp273 hI => ?_)
                                        have hI : CI g A s (mw g ad (va_up (va_up ar 11 (wrt P K (ar 11) n)) 10 (wrt P (upd (pre i (w4 n (wk3 n (wk2 n (fl 9) (wk1 n (fl 9) (fun j => ar 9 (P j)) K)))) (wk3 n (wk2 n (fl 9) (wk1 n (fl 9) (fun j => ar 9 (P j)) K)))) i (w4 n (wk3 n (wk2 n (fl 9) (wk1 n (fl 9) (fun j => ar 9 (P j)) K))) (i - 1))) f0 n)) fl) H locs := hI
                                        have hI := CI.to (w2 := mw g ad (va_up (va_up ar 11 (wrt P K (ar 11) n)) 10 (wrt P (pre (i + 1) (w4 n (wk3 n (wk2 n (fl 9) (wk1 n (fl 9) (fun j => ar 9 (P j)) K)))) (wk3 n (wk2 n (fl 9) (wk1 n (fl 9) (fun j => ar 9 (P j)) K)))) f0 n)) fl) hI (by rw [pre_up (f := w4 n (wk3 n (wk2 n (fl 9) (wk1 n (fl 9) (fun j => ar 9 (P j)) K)))) (f0 := wk3 n (wk2 n (fl 9) (wk1 n (fl 9) (fun j => ar 9 (P j)) K))) (hv)] <;> rfl)
                                        refine lv_iinc (v := nI (i + 1)) (lv' := [(1, .int (nI (i + 1))), (4, .int ((wk3 n (wk2 n (fl 9) (wk1 n (fl 9) (fun j => ar 9 (P j)) K))) (i + 1))), (3, .int (w4 n (wk3 n (wk2 n (fl 9) (wk1 n (fl 9) (fun j => ar 9 (P j)) K))) (i - 1))), (2, .int ((wk3 n (wk2 n (fl 9) (wk1 n (fl 9) (fun j => ar 9 (P j)) K))) i)), (0, .ref (ad 0))]) hx hb d_MD_weak_276 hl (k := 4) rfl (nI_add _ 1) (by decide) rfl (fun ls hl => ?_)
                                        refine lv_goto (tgt := 204) hx hb d_MD_weak_279 (by decide) ?_
                                        exact ih204 (i + 1) (by omega) (by first | assumption | omega) (by first | assumption | omega) _ _ _ hI (lv_sub hl [4, 0] rfl)
                                      · refine lv_iload_n hx hb d_MD_weak_264 rfl (lv_at hl 1 rfl) ?_
                                        refine lv_bipush (v := 6) hx hb d_MD_weak_265 (by decide) ?_
                                        refine lv_icmp_ne (tgt := 276) hx hb d_MD_weak_267 (by decide) (fun c267 => ?_) (fun c267 => ?_)
                                        · have hI := CI.to (w2 := mw g ad (va_up (va_up ar 11 (wrt P K (ar 11) n)) 10 (wrt P (pre (i + 1) (w4 n (wk3 n (wk2 n (fl 9) (wk1 n (fl 9) (fun j => ar 9 (P j)) K)))) (wk3 n (wk2 n (fl 9) (wk1 n (fl 9) (fun j => ar 9 (P j)) K)))) f0 n)) fl) hI (by rw [pre_same (i := i) (f := w4 n (wk3 n (wk2 n (fl 9) (wk1 n (fl 9) (fun j => ar 9 (P j)) K)))) (f0 := wk3 n (wk2 n (fl 9) (wk1 n (fl 9) (fun j => ar 9 (P j)) K))) (by rw [w4_eq]; unfold w4s; rw [if_neg (fun q => c261 q.2.2.1), if_neg (fun q => c267 q.2.2.1)])] <;> rfl)
                                          refine lv_iinc (v := nI (i + 1)) (lv' := [(1, .int (nI (i + 1))), (4, .int ((wk3 n (wk2 n (fl 9) (wk1 n (fl 9) (fun j => ar 9 (P j)) K))) (i + 1))), (3, .int (w4 n (wk3 n (wk2 n (fl 9) (wk1 n (fl 9) (fun j => ar 9 (P j)) K))) (i - 1))), (2, .int ((wk3 n (wk2 n (fl 9) (wk1 n (fl 9) (fun j => ar 9 (P j)) K))) i)), (0, .ref (ad 0))]) hx hb d_MD_weak_276 hl (k := 4) rfl (nI_add _ 1) (by decide) rfl (fun ls hl => ?_)
                                          refine lv_goto (tgt := 204) hx hb d_MD_weak_279 (by decide) ?_
                                          exact ih204 (i + 1) (by omega) (by first | assumption | omega) (by first | assumption | omega) _ _ _ hI (lv_sub hl [4, 0] rfl)
                                        · have hv : w4 n (wk3 n (wk2 n (fl 9) (wk1 n (fl 9) (fun j => ar 9 (P j)) K))) (i - 1) = w4 n (wk3 n (wk2 n (fl 9) (wk1 n (fl 9) (fun j => ar 9 (P j)) K))) i := by rw [c267, w4_eq]; unfold w4s; exact ((if_neg (fun q => c261 q.2.2.1)).trans (if_pos ⟨c256, hbt 6 c267⟩)).symm
                                          refine lv_aload_n hx hb d_MD_weak_270 rfl (lv_at hl 3 rfl) ?_
                                          refine lv_iload_n hx hb d_MD_weak_271 rfl (lv_at hl 4 rfl) ?_
                                          refine lv_iload_n hx hb d_MD_weak_272 rfl (lv_at hl 1 rfl) ?_
                                          refine q_callvV [.int (nI i), .int (w4 n (wk3 n (wk2 n (fl 9) (wk1 n (fl 9) (fun j => ar 9 (P j)) K))) (i - 1))] M hI (c_MD_put l g ad (va_up (va_up ar 10 (wrt P (pre i (w4 n (wk3 n (wk2 n (fl 9) (wk1 n (fl 9) (fun j => ar 9 (P j)) K)))) (wk3 n (wk2 n (fl 9) (wk1 n (fl 9) (fun j => ar 9 (P j)) K)))) f0 n)) 11 (wrt P K (ar 11) n)) fl i (w4 n (wk3 n (wk2 n (fl 9) (wk1 n (fl 9) (fun j => ar 9 (P j)) K))) (i - 1)) n P (pre i (w4 n (wk3 n (wk2 n (fl 9) (wk1 n (fl 9) (fun j => ar 9 (P j)) K)))) (wk3 n (wk2 n (fl 9) (wk1 n (fl 9) (fun j => ar 9 (P j)) K)))) f0 (by first | exact hn | assumption | omega | rfl) (by first | exact hN | assumption | omega | rfl) (by first | exact hP | assumption | omega | rfl) (by first | exact hPb | assumption | omega | rfl) (by first | exact hij | assumption | omega | rfl) (rfl) (by omega)) ok_MD_put m5_173 m5_175 ms_67 0 rfl rfl rfl rfl hl.1 ⟨rfl, rfl⟩ ⟨Nat.le_of_ble_eq_true rfl, Nat.le_of_ble_eq_true rfl⟩ (Nat.le_of_ble_eq_true rfl) ⟨Nat.le_of_ble_eq_true rfl, Nat.le_of_ble_eq_true rfl⟩ d_MD_weak_273 (fun u273 H locs hp273 hI => ?_)
                                          have hI : CI g A s (mw g ad (va_up (va_up ar 11 (wrt P K (ar 11) n)) 10 (wrt P (upd (pre i (w4 n (wk3 n (wk2 n (fl 9) (wk1 n (fl 9) (fun j => ar 9 (P j)) K)))) (wk3 n (wk2 n (fl 9) (wk1 n (fl 9) (fun j => ar 9 (P j)) K)))) i (w4 n (wk3 n (wk2 n (fl 9) (wk1 n (fl 9) (fun j => ar 9 (P j)) K))) (i - 1))) f0 n)) fl) H locs := hI
                                          have hI := CI.to (w2 := mw g ad (va_up (va_up ar 11 (wrt P K (ar 11) n)) 10 (wrt P (pre (i + 1) (w4 n (wk3 n (wk2 n (fl 9) (wk1 n (fl 9) (fun j => ar 9 (P j)) K)))) (wk3 n (wk2 n (fl 9) (wk1 n (fl 9) (fun j => ar 9 (P j)) K)))) f0 n)) fl) hI (by rw [pre_up (f := w4 n (wk3 n (wk2 n (fl 9) (wk1 n (fl 9) (fun j => ar 9 (P j)) K)))) (f0 := wk3 n (wk2 n (fl 9) (wk1 n (fl 9) (fun j => ar 9 (P j)) K))) (hv)] <;> rfl)
                                          refine lv_iinc (v := nI (i + 1)) (lv' := [(1, .int (nI (i + 1))), (4, .int ((wk3 n (wk2 n (fl 9) (wk1 n (fl 9) (fun j => ar 9 (P j)) K))) (i + 1))), (3, .int (w4 n (wk3 n (wk2 n (fl 9) (wk1 n (fl 9) (fun j => ar 9 (P j)) K))) (i - 1))), (2, .int ((wk3 n (wk2 n (fl 9) (wk1 n (fl 9) (fun j => ar 9 (P j)) K))) i)), (0, .ref (ad 0))]) hx hb d_MD_weak_276 hl (k := 4) rfl (nI_add _ 1) (by decide) rfl (fun ls hl => ?_)
                                          refine lv_goto (tgt := 204) hx hb d_MD_weak_279 (by decide) ?_
                                          exact ih204 (i + 1) (by omega) (by first | assumption | omega) (by first | assumption | omega) _ _ _ hI (lv_sub hl [4, 0] rfl)
                                  · refine lv_iload_n hx hb d_MD_weak_248 rfl (lv_at hl 1 rfl) ?_
                                    refine lv_iconst (v := 3) hx hb d_MD_weak_249 (by decide) ?_
                                    refine lv_icmp_eq (tgt := 270) hx hb d_MD_weak_250 (by decide) (fun c250 => ?_) (fun c250 => ?_)
                                    · have hv : w4 n (wk3 n (wk2 n (fl 9) (wk1 n (fl 9) (fun j => ar 9 (P j)) K))) (i - 1) = w4 n (wk3 n (wk2 n (fl 9) (wk1 n (fl 9) (fun j => ar 9 (P j)) K))) i := by rw [c250, w4_eq]; unfold w4s; exact (if_pos ⟨Or.inl c245, hbt 3 c250⟩).symm
                                      refine lv_aload_n hx hb d_MD_weak_270 rfl (lv_at hl 3 rfl) ?_
                                      refine lv_iload_n hx hb d_MD_weak_271 rfl (lv_at hl 4 rfl) ?_
                                      refine lv_iload_n hx hb d_MD_weak_272 rfl (lv_at hl 1 rfl) ?_
                                      refine q_callvV [.int (nI i), .int (w4 n (wk3 n (wk2 n (fl 9) (wk1 n (fl 9) (fun j => ar 9 (P j)) K))) (i - 1))] M hI (c_MD_put l g ad (va_up (va_up ar 10 (wrt P (pre i (w4 n (wk3 n (wk2 n (fl 9) (wk1 n (fl 9) (fun j => ar 9 (P j)) K)))) (wk3 n (wk2 n (fl 9) (wk1 n (fl 9) (fun j => ar 9 (P j)) K)))) f0 n)) 11 (wrt P K (ar 11) n)) fl i (w4 n (wk3 n (wk2 n (fl 9) (wk1 n (fl 9) (fun j => ar 9 (P j)) K))) (i - 1)) n P (pre i (w4 n (wk3 n (wk2 n (fl 9) (wk1 n (fl 9) (fun j => ar 9 (P j)) K)))) (wk3 n (wk2 n (fl 9) (wk1 n (fl 9) (fun j => ar 9 (P j)) K)))) f0 (by first | exact hn | assumption | omega | rfl) (by first | exact hN | assumption | omega | rfl) (by first | exact hP | assumption | omega | rfl) (by first | exact hPb | assumption | omega | rfl) (by first | exact hij | assumption | omega | rfl) (rfl) (by omega)) ok_MD_put m5_173 m5_175 ms_67 0 rfl rfl rfl rfl hl.1 ⟨rfl, rfl⟩ ⟨Nat.le_of_ble_eq_true rfl, Nat.le_of_ble_eq_true rfl⟩ (Nat.le_of_ble_eq_true rfl) ⟨Nat.le_of_ble_eq_true rfl, Nat.le_of_ble_eq_true rfl⟩ d_MD_weak_273 (fun u273 H locs hp273 hI => ?_)
                                      have hI : CI g A s (mw g ad (va_up (va_up ar 11 (wrt P K (ar 11) n)) 10 (wrt P (upd (pre i (w4 n (wk3 n (wk2 n (fl 9) (wk1 n (fl 9) (fun j => ar 9 (P j)) K)))) (wk3 n (wk2 n (fl 9) (wk1 n (fl 9) (fun j => ar 9 (P j)) K)))) i (w4 n (wk3 n (wk2 n (fl 9) (wk1 n (fl 9) (fun j => ar 9 (P j)) K))) (i - 1))) f0 n)) fl) H locs := hI
                                      have hI := CI.to (w2 := mw g ad (va_up (va_up ar 11 (wrt P K (ar 11) n)) 10 (wrt P (pre (i + 1) (w4 n (wk3 n (wk2 n (fl 9) (wk1 n (fl 9) (fun j => ar 9 (P j)) K)))) (wk3 n (wk2 n (fl 9) (wk1 n (fl 9) (fun j => ar 9 (P j)) K)))) f0 n)) fl) hI (by rw [pre_up (f := w4 n (wk3 n (wk2 n (fl 9) (wk1 n (fl 9) (fun j => ar 9 (P j)) K)))) (f0 := wk3 n (wk2 n (fl 9) (wk1 n (fl 9) (fun j => ar 9 (P j)) K))) (hv)] <;> rfl)
                                      refine lv_iinc (v := nI (i + 1)) (lv' := [(1, .int (nI (i + 1))), (4, .int ((wk3 n (wk2 n (fl 9) (wk1 n (fl 9) (fun j => ar 9 (P j)) K))) (i + 1))), (3, .int (w4 n (wk3 n (wk2 n (fl 9) (wk1 n (fl 9) (fun j => ar 9 (P j)) K))) (i - 1))), (2, .int ((wk3 n (wk2 n (fl 9) (wk1 n (fl 9) (fun j => ar 9 (P j)) K))) i)), (0, .ref (ad 0))]) hx hb d_MD_weak_276 hl (k := 4) rfl (nI_add _ 1) (by decide) rfl (fun ls hl => ?_)
                                      refine lv_goto (tgt := 204) hx hb d_MD_weak_279 (by decide) ?_
                                      exact ih204 (i + 1) (by omega) (by first | assumption | omega) (by first | assumption | omega) _ _ _ hI (lv_sub hl [4, 0] rfl)
                                    · refine lv_iload_n hx hb d_MD_weak_253 rfl (lv_at hl 2 rfl) ?_
                                      refine lv_bipush (v := 7) hx hb d_MD_weak_254 (by decide) ?_
                                      refine lv_icmp_ne (tgt := 276) hx hb d_MD_weak_256 (by decide) (fun c256 => ?_) (fun c256 => ?_)
                                      · have hI := CI.to (w2 := mw g ad (va_up (va_up ar 11 (wrt P K (ar 11) n)) 10 (wrt P (pre (i + 1) (w4 n (wk3 n (wk2 n (fl 9) (wk1 n (fl 9) (fun j => ar 9 (P j)) K)))) (wk3 n (wk2 n (fl 9) (wk1 n (fl 9) (fun j => ar 9 (P j)) K)))) f0 n)) fl) hI (by rw [pre_same (i := i) (f := w4 n (wk3 n (wk2 n (fl 9) (wk1 n (fl 9) (fun j => ar 9 (P j)) K)))) (f0 := wk3 n (wk2 n (fl 9) (wk1 n (fl 9) (fun j => ar 9 (P j)) K))) (by rw [w4_eq]; unfold w4s; rw [if_neg, if_neg (fun q => c256 q.1)]; intro q; rcases q.1 with z | z; (first | exact c245 z | exact c250 q.2.2.1); exact c256 z)] <;> rfl)
                                        refine lv_iinc (v := nI (i + 1)) (lv' := [(1, .int (nI (i + 1))), (4, .int ((wk3 n (wk2 n (fl 9) (wk1 n (fl 9) (fun j => ar 9 (P j)) K))) (i + 1))), (3, .int (w4 n (wk3 n (wk2 n (fl 9) (wk1 n (fl 9) (fun j => ar 9 (P j)) K))) (i - 1))), (2, .int ((wk3 n (wk2 n (fl 9) (wk1 n (fl 9) (fun j => ar 9 (P j)) K))) i)), (0, .ref (ad 0))]) hx hb d_MD_weak_276 hl (k := 4) rfl (nI_add _ 1) (by decide) rfl (fun ls hl => ?_)
                                        refine lv_goto (tgt := 204) hx hb d_MD_weak_279 (by decide) ?_
                                        exact ih204 (i + 1) (by omega) (by first | assumption | omega) (by first | assumption | omega) _ _ _ hI (lv_sub hl [4, 0] rfl)
                                      · refine lv_iload_n hx hb d_MD_weak_259 rfl (lv_at hl 1 rfl) ?_
                                        refine lv_iconst (v := 3) hx hb d_MD_weak_260 (by decide) ?_
                                        refine lv_icmp_eq (tgt := 270) hx hb d_MD_weak_261 (by decide) (fun c261 => ?_) (fun c261 => ?_)
                                        · have hv : w4 n (wk3 n (wk2 n (fl 9) (wk1 n (fl 9) (fun j => ar 9 (P j)) K))) (i - 1) = w4 n (wk3 n (wk2 n (fl 9) (wk1 n (fl 9) (fun j => ar 9 (P j)) K))) i := by rw [c261, w4_eq]; unfold w4s; exact (if_pos ⟨Or.inr c256, hbt 3 c261⟩).symm
                                          refine lv_aload_n hx hb d_MD_weak_270 rfl (lv_at hl 3 rfl) ?_
                                          refine lv_iload_n hx hb d_MD_weak_271 rfl (lv_at hl 4 rfl) ?_
                                          refine lv_iload_n hx hb d_MD_weak_272 rfl (lv_at hl 1 rfl) ?_
                                          refine q_callvV [.int (nI i), .int (w4 n (wk3 n (wk2 n (fl 9) (wk1 n (fl 9) (fun j => ar 9 (P j)) K))) (i - 1))] M hI (c_MD_put l g ad (va_up (va_up ar 10 (wrt P (pre i (w4 n (wk3 n (wk2 n (fl 9) (wk1 n (fl 9) (fun j => ar 9 (P j)) K)))) (wk3 n (wk2 n (fl 9) (wk1 n (fl 9) (fun j => ar 9 (P j)) K)))) f0 n)) 11 (wrt P K (ar 11) n)) fl i (w4 n (wk3 n (wk2 n (fl 9) (wk1 n (fl 9) (fun j => ar 9 (P j)) K))) (i - 1)) n P (pre i (w4 n (wk3 n (wk2 n (fl 9) (wk1 n (fl 9) (fun j => ar 9 (P j)) K)))) (wk3 n (wk2 n (fl 9) (wk1 n (fl 9) (fun j => ar 9 (P j)) K)))) f0 (by first | exact hn | assumption | omega | rfl) (by first | exact hN | assumption | omega | rfl) (by first | exact hP | assumption | omega | rfl) (by first | exact hPb | assumption | omega | rfl) (by first | exact hij | assumption | omega | rfl) (rfl) (by omega)) ok_MD_put m5_173 m5_175 ms_67 0 rfl rfl rfl rfl hl.1 ⟨rfl, rfl⟩ ⟨Nat.le_of_ble_eq_true rfl, Nat.le_of_ble_eq_true rfl⟩ (Nat.le_of_ble_eq_true rfl) ⟨Nat.le_of_ble_eq_true rfl, Nat.le_of_ble_eq_true rfl⟩ d_MD_weak_273 (fun u273 H locs hp273 hI => ?_)
                                          have hI : CI g A s (mw g ad (va_up (va_up ar 11 (wrt P K (ar 11) n)) 10 (wrt P (upd (pre i (w4 n (wk3 n (wk2 n (fl 9) (wk1 n (fl 9) (fun j => ar 9 (P j)) K)))) (wk3 n (wk2 n (fl 9) (wk1 n (fl 9) (fun j => ar 9 (P j)) K)))) i (w4 n (wk3 n (wk2 n (fl 9) (wk1 n (fl 9) (fun j => ar 9 (P j)) K))) (i - 1))) f0 n)) fl) H locs := hI
                                          have hI := CI.to (w2 := mw g ad (va_up (va_up ar 11 (wrt P K (ar 11) n)) 10 (wrt P (pre (i + 1) (w4 n (wk3 n (wk2 n (fl 9) (wk1 n (fl 9) (fun j => ar 9 (P j)) K)))) (wk3 n (wk2 n (fl 9) (wk1 n (fl 9) (fun j => ar 9 (P j)) K)))) f0 n)) fl) hI (by rw [pre_up (f := w4 n (wk3 n (wk2 n (fl 9) (wk1 n (fl 9) (fun j => ar 9 (P j)) K)))) (f0 := wk3 n (wk2 n (fl 9) (wk1 n (fl 9) (fun j => ar 9 (P j)) K))) (hv)] <;> rfl)
                                          refine lv_iinc (v := nI (i + 1)) (lv' := [(1, .int (nI (i + 1))), (4, .int ((wk3 n (wk2 n (fl 9) (wk1 n (fl 9) (fun j => ar 9 (P j)) K))) (i + 1))), (3, .int (w4 n (wk3 n (wk2 n (fl 9) (wk1 n (fl 9) (fun j => ar 9 (P j)) K))) (i - 1))), (2, .int ((wk3 n (wk2 n (fl 9) (wk1 n (fl 9) (fun j => ar 9 (P j)) K))) i)), (0, .ref (ad 0))]) hx hb d_MD_weak_276 hl (k := 4) rfl (nI_add _ 1) (by decide) rfl (fun ls hl => ?_)
                                          refine lv_goto (tgt := 204) hx hb d_MD_weak_279 (by decide) ?_
                                          exact ih204 (i + 1) (by omega) (by first | assumption | omega) (by first | assumption | omega) _ _ _ hI (lv_sub hl [4, 0] rfl)
                                        · refine lv_iload_n hx hb d_MD_weak_264 rfl (lv_at hl 1 rfl) ?_
                                          refine lv_bipush (v := 6) hx hb d_MD_weak_265 (by decide) ?_
                                          refine lv_icmp_ne (tgt := 276) hx hb d_MD_weak_267 (by decide) (fun c267 => ?_) (fun c267 => ?_)
                                          · have hI := CI.to (w2 := mw g ad (va_up (va_up ar 11 (wrt P K (ar 11) n)) 10 (wrt P (pre (i + 1) (w4 n (wk3 n (wk2 n (fl 9) (wk1 n (fl 9) (fun j => ar 9 (P j)) K)))) (wk3 n (wk2 n (fl 9) (wk1 n (fl 9) (fun j => ar 9 (P j)) K)))) f0 n)) fl) hI (by rw [pre_same (i := i) (f := w4 n (wk3 n (wk2 n (fl 9) (wk1 n (fl 9) (fun j => ar 9 (P j)) K)))) (f0 := wk3 n (wk2 n (fl 9) (wk1 n (fl 9) (fun j => ar 9 (P j)) K))) (by rw [w4_eq]; unfold w4s; rw [if_neg (fun q => c261 q.2.2.1), if_neg (fun q => c267 q.2.2.1)])] <;> rfl)
                                            refine lv_iinc (v := nI (i + 1)) (lv' := [(1, .int (nI (i + 1))), (4, .int ((wk3 n (wk2 n (fl 9) (wk1 n (fl 9) (fun j => ar 9 (P j)) K))) (i + 1))), (3, .int (w4 n (wk3 n (wk2 n (fl 9) (wk1 n (fl 9) (fun j => ar 9 (P j)) K))) (i - 1))), (2, .int ((wk3 n (wk2 n (fl 9) (wk1 n (fl 9) (fun j => ar 9 (P j)) K))) i)), (0, .ref (ad 0))]) hx hb d_MD_weak_276 hl (k := 4) rfl (nI_add _ 1) (by decide) rfl (fun ls hl => ?_)
                                            refine lv_goto (tgt := 204) hx hb d_MD_weak_279 (by decide) ?_
                                            exact ih204 (i + 1) (by omega) (by first | assumption | omega) (by first | assumption | omega) _ _ _ hI (lv_sub hl [4, 0] rfl)
                                          · have hv : w4 n (wk3 n (wk2 n (fl 9) (wk1 n (fl 9) (fun j => ar 9 (P j)) K))) (i - 1) = w4 n (wk3 n (wk2 n (fl 9) (wk1 n (fl 9) (fun j => ar 9 (P j)) K))) i := by rw [c267, w4_eq]; unfold w4s; exact ((if_neg (fun q => c261 q.2.2.1)).trans (if_pos ⟨c256, hbt 6 c267⟩)).symm
                                            refine lv_aload_n hx hb d_MD_weak_270 rfl (lv_at hl 3 rfl) ?_
                                            refine lv_iload_n hx hb d_MD_weak_271 rfl (lv_at hl 4 rfl) ?_
                                            refine lv_iload_n hx hb d_MD_weak_272 rfl (lv_at hl 1 rfl) ?_
                                            refine q_callvV [.int (nI i), .int (w4 n (wk3 n (wk2 n (fl 9) (wk1 n (fl 9) (fun j => ar 9 (P j)) K))) (i - 1))] M hI (c_MD_put l g ad (va_up (va_up ar 10 (wrt P (pre i (w4 n (wk3 n (wk2 n (fl 9) (wk1 n (fl 9) (fun j => ar 9 (P j)) K)))) (wk3 n (wk2 n (fl 9) (wk1 n (fl 9) (fun j => ar 9 (P j)) K)))) f0 n)) 11 (wrt P K (ar 11) n)) fl i (w4 n (wk3 n (wk2 n (fl 9) (wk1 n (fl 9) (fun j => ar 9 (P j)) K))) (i - 1)) n P (pre i (w4 n (wk3 n (wk2 n (fl 9) (wk1 n (fl 9) (fun j => ar 9 (P j)) K)))) (wk3 n (wk2 n (fl 9) (wk1 n (fl 9) (fun j => ar 9 (P j)) K)))) f0 (by first | exact hn | assumption | omega | rfl) (by first | exact hN | assumption | omega | rfl) (by first | exact hP | assumption | omega | rfl) (by first | exact hPb | assumption | omega | rfl) (by first | exact hij | assumption | omega | rfl) (rfl) (by omega)) ok_MD_put m5_173 m5_175 ms_67 0 rfl rfl rfl rfl hl.1 ⟨rfl, rfl⟩ ⟨Nat.le_of_ble_eq_true rfl, Nat.le_of_ble_eq_true rfl⟩ (Nat.le_of_ble_eq_true rfl) ⟨Nat.le_of_ble_eq_true rfl, Nat.le_of_ble_eq_true rfl⟩ d_MD_weak_273 (fun u273 H locs hp273 hI => ?_)
                                            have hI : CI g A s (mw g ad (va_up (va_up ar 11 (wrt P K (ar 11) n)) 10 (wrt P (upd (pre i (w4 n (wk3 n (wk2 n (fl 9) (wk1 n (fl 9) (fun j => ar 9 (P j)) K)))) (wk3 n (wk2 n (fl 9) (wk1 n (fl 9) (fun j => ar 9 (P j)) K)))) i (w4 n (wk3 n (wk2 n (fl 9) (wk1 n (fl 9) (fun j => ar 9 (P j)) K))) (i - 1))) f0 n)) fl) H locs := hI
                                            have hI := CI.to (w2 := mw g ad (va_up (va_up ar 11 (wrt P K (ar 11) n)) 10 (wrt P (pre (i + 1) (w4 n (wk3 n (wk2 n (fl 9) (wk1 n (fl 9) (fun j => ar 9 (P j)) K)))) (wk3 n (wk2 n (fl 9) (wk1 n (fl 9) (fun j => ar 9 (P j)) K)))) f0 n)) fl) hI (by rw [pre_up (f := w4 n (wk3 n (wk2 n (fl 9) (wk1 n (fl 9) (fun j => ar 9 (P j)) K)))) (f0 := wk3 n (wk2 n (fl 9) (wk1 n (fl 9) (fun j => ar 9 (P j)) K))) (hv)] <;> rfl)
                                            refine lv_iinc (v := nI (i + 1)) (lv' := [(1, .int (nI (i + 1))), (4, .int ((wk3 n (wk2 n (fl 9) (wk1 n (fl 9) (fun j => ar 9 (P j)) K))) (i + 1))), (3, .int (w4 n (wk3 n (wk2 n (fl 9) (wk1 n (fl 9) (fun j => ar 9 (P j)) K))) (i - 1))), (2, .int ((wk3 n (wk2 n (fl 9) (wk1 n (fl 9) (fun j => ar 9 (P j)) K))) i)), (0, .ref (ad 0))]) hx hb d_MD_weak_276 hl (k := 4) rfl (nI_add _ 1) (by decide) rfl (fun ls hl => ?_)
                                            refine lv_goto (tgt := 204) hx hb d_MD_weak_279 (by decide) ?_
                                            exact ih204 (i + 1) (by omega) (by first | assumption | omega) (by first | assumption | omega) _ _ _ hI (lv_sub hl [4, 0] rfl)
                          have hI := CI.to (w2 := mw g ad (va_up (va_up ar 10 (wrt P (pre 1 (w4 n (wk3 n (wk2 n (fl 9) (wk1 n (fl 9) (fun j => ar 9 (P j)) K)))) (wk3 n (wk2 n (fl 9) (wk1 n (fl 9) (fun j => ar 9 (P j)) K)))) f0 n)) 11 (wrt P K (ar 11) n)) fl) hI (by rw [w4_first] <;> rfl)
                          exact L204 _ 1 (Nat.lt_succ_self _) (by first | assumption | omega) (by first | assumption | omega) _ _ _ hI (lv_sub hl [1, 0] rfl)
                        · have c178 : ¬ n ≤ i := fun h => c178 ((nI_leI (a := n) (b := i) (by omega) (by omega)).mpr h)
                          refine lv_aload_n hx hb d_MD_weak_181 rfl (lv_at hl 0 rfl) ?_
                          refine lv_iload_n hx hb d_MD_weak_182 rfl (lv_at hl 1 rfl) ?_
                          refine q_calliV [.int (nI i)] M hI (c_MD_kindAt l g ad (va_up (va_up ar 10 (wrt P (pre i (w3 (wk2 n (fl 9) (wk1 n (fl 9) (fun j => ar 9 (P j)) K))) (wk2 n (fl 9) (wk1 n (fl 9) (fun j => ar 9 (P j)) K))) f0 n)) 11 (wrt P K (ar 11) n)) fl (nI i) n P (pre i (w3 (wk2 n (fl 9) (wk1 n (fl 9) (fun j => ar 9 (P j)) K))) (wk2 n (fl 9) (wk1 n (fl 9) (fun j => ar 9 (P j)) K))) f0 (by first | exact hn | assumption | omega | rfl) (by first | exact hN | assumption | omega | rfl) (by first | exact hP | assumption | omega | rfl) (by first | exact hPb | assumption | omega | rfl) (by first | exact hij | assumption | omega | rfl) (rfl)) ok_MD_kindAt m5_169 m5_171 ms_66 0 rfl rfl rfl rfl hl.1 ⟨rfl, rfl⟩ ⟨Nat.le_of_ble_eq_true rfl, Nat.le_of_ble_eq_true rfl⟩ (Nat.le_of_ble_eq_true rfl) ⟨Nat.le_of_ble_eq_true rfl, Nat.le_of_ble_eq_true rfl⟩ d_MD_weak_183 (fun r183 u183 H locs hp183 hI => ?_)
                          refine q_as (y := kAt n (fl 9) (fl 10) (pre i (w3 (wk2 n (fl 9) (wk1 n (fl 9) (fun j => ar 9 (P j)) K))) (wk2 n (fl 9) (wk1 n (fl 9) (fun j => ar 9 (P j)) K))) (nI i)) hp183 ?_
                          refine q_as (y := (wk2 n (fl 9) (wk1 n (fl 9) (fun j => ar 9 (P j)) K)) i) (by rw [kAt_n (by omega) (by omega)]; exact pre_at) ?_
                          refine lv_iconst (v := 2) hx hb d_MD_weak_186 (by decide) ?_
                          refine lv_icmp_ne (tgt := 196) hx hb d_MD_weak_187 (by decide) (fun c187 => ?_) (fun c187 => ?_)
                          · have hI := CI.to (w2 := mw g ad (va_up (va_up ar 11 (wrt P K (ar 11) n)) 10 (wrt P (pre (i + 1) (w3 (wk2 n (fl 9) (wk1 n (fl 9) (fun j => ar 9 (P j)) K))) (wk2 n (fl 9) (wk1 n (fl 9) (fun j => ar 9 (P j)) K))) f0 n)) fl) hI (by rw [pre_same (i := i) (f := w3 (wk2 n (fl 9) (wk1 n (fl 9) (fun j => ar 9 (P j)) K))) (f0 := wk2 n (fl 9) (wk1 n (fl 9) (fun j => ar 9 (P j)) K)) (by unfold w3; rw [if_neg c187])] <;> rfl)
                            refine lv_iinc (v := nI (i + 1)) (lv' := [(1, .int (nI (i + 1))), (0, .ref (ad 0))]) hx hb d_MD_weak_196 hl (k := 1) rfl (nI_add _ 1) (by decide) rfl (fun ls hl => ?_)
                            refine lv_goto (tgt := 173) hx hb d_MD_weak_199 (by decide) ?_
                            exact ih173 (i + 1) (by omega) (by first | assumption | omega) _ _ _ hI (lv_sub hl [1, 0] rfl)
                          · refine lv_aload_n hx hb d_MD_weak_190 rfl (lv_at hl 0 rfl) ?_
                            refine lv_iload_n hx hb d_MD_weak_191 rfl (lv_at hl 1 rfl) ?_
                            refine lv_iconst (v := 1) hx hb d_MD_weak_192 (by decide) ?_
                            refine q_callvV [.int (nI i), .int 1] M hI (c_MD_put l g ad (va_up (va_up ar 10 (wrt P (pre i (w3 (wk2 n (fl 9) (wk1 n (fl 9) (fun j => ar 9 (P j)) K))) (wk2 n (fl 9) (wk1 n (fl 9) (fun j => ar 9 (P j)) K))) f0 n)) 11 (wrt P K (ar 11) n)) fl i 1 n P (pre i (w3 (wk2 n (fl 9) (wk1 n (fl 9) (fun j => ar 9 (P j)) K))) (wk2 n (fl 9) (wk1 n (fl 9) (fun j => ar 9 (P j)) K))) f0 (by first | exact hn | assumption | omega | rfl) (by first | exact hN | assumption | omega | rfl) (by first | exact hP | assumption | omega | rfl) (by first | exact hPb | assumption | omega | rfl) (by first | exact hij | assumption | omega | rfl) (rfl) (by omega)) ok_MD_put m5_173 m5_175 ms_67 0 rfl rfl rfl rfl hl.1 ⟨rfl, rfl⟩ ⟨Nat.le_of_ble_eq_true rfl, Nat.le_of_ble_eq_true rfl⟩ (Nat.le_of_ble_eq_true rfl) ⟨Nat.le_of_ble_eq_true rfl, Nat.le_of_ble_eq_true rfl⟩ d_MD_weak_193 (fun u193 H locs hp193 hI => ?_)
                            have hI : CI g A s (mw g ad (va_up (va_up ar 11 (wrt P K (ar 11) n)) 10 (wrt P (upd (pre i (w3 (wk2 n (fl 9) (wk1 n (fl 9) (fun j => ar 9 (P j)) K))) (wk2 n (fl 9) (wk1 n (fl 9) (fun j => ar 9 (P j)) K))) i 1) f0 n)) fl) H locs := hI
                            have hI := CI.to (w2 := mw g ad (va_up (va_up ar 11 (wrt P K (ar 11) n)) 10 (wrt P (pre (i + 1) (w3 (wk2 n (fl 9) (wk1 n (fl 9) (fun j => ar 9 (P j)) K))) (wk2 n (fl 9) (wk1 n (fl 9) (fun j => ar 9 (P j)) K))) f0 n)) fl) hI (by rw [pre_up (f := w3 (wk2 n (fl 9) (wk1 n (fl 9) (fun j => ar 9 (P j)) K))) (f0 := wk2 n (fl 9) (wk1 n (fl 9) (fun j => ar 9 (P j)) K)) (by unfold w3; rw [if_pos c187])] <;> rfl)
                            refine lv_iinc (v := nI (i + 1)) (lv' := [(1, .int (nI (i + 1))), (0, .ref (ad 0))]) hx hb d_MD_weak_196 hl (k := 1) rfl (nI_add _ 1) (by decide) rfl (fun ls hl => ?_)
                            refine lv_goto (tgt := 173) hx hb d_MD_weak_199 (by decide) ?_
                            exact ih173 (i + 1) (by omega) (by first | assumption | omega) _ _ _ hI (lv_sub hl [1, 0] rfl)
                    have hI := CI.to (w2 := mw g ad (va_up (va_up ar 10 (wrt P (pre 0 (w3 (wk2 n (fl 9) (wk1 n (fl 9) (fun j => ar 9 (P j)) K))) (wk2 n (fl 9) (wk1 n (fl 9) (fun j => ar 9 (P j)) K))) f0 n)) 11 (wrt P K (ar 11) n)) fl) hI (by rw [pre_0] <;> rfl)
                    exact L173 _ 0 (Nat.lt_succ_self _) (by first | assumption | omega) _ _ _ hI (lv_sub hl [1, 0] rfl)
                  · have c137 : ¬ n ≤ i := fun h => c137 ((nI_leI (a := n) (b := i) (by omega) (by omega)).mpr h)
                    refine lv_aload_n hx hb d_MD_weak_140 rfl (lv_at hl 0 rfl) ?_
                    refine lv_iload_n hx hb d_MD_weak_141 rfl (lv_at hl 1 rfl) ?_
                    refine q_calliV [.int (nI i)] M hI (c_MD_kindAt l g ad (va_up (va_up ar 10 (wrt P (pre i (w2 (fl 9) (wk1 n (fl 9) (fun j => ar 9 (P j)) K)) (wk1 n (fl 9) (fun j => ar 9 (P j)) K)) f0 n)) 11 (wrt P K (ar 11) n)) fl (nI i) n P (pre i (w2 (fl 9) (wk1 n (fl 9) (fun j => ar 9 (P j)) K)) (wk1 n (fl 9) (fun j => ar 9 (P j)) K)) f0 (by first | exact hn | assumption | omega | rfl) (by first | exact hN | assumption | omega | rfl) (by first | exact hP | assumption | omega | rfl) (by first | exact hPb | assumption | omega | rfl) (by first | exact hij | assumption | omega | rfl) (rfl)) ok_MD_kindAt m5_169 m5_171 ms_66 0 rfl rfl rfl rfl hl.1 ⟨rfl, rfl⟩ ⟨Nat.le_of_ble_eq_true rfl, Nat.le_of_ble_eq_true rfl⟩ (Nat.le_of_ble_eq_true rfl) ⟨Nat.le_of_ble_eq_true rfl, Nat.le_of_ble_eq_true rfl⟩ d_MD_weak_142 (fun r142 u142 H locs hp142 hI => ?_)
                    refine q_as (y := kAt n (fl 9) (fl 10) (pre i (w2 (fl 9) (wk1 n (fl 9) (fun j => ar 9 (P j)) K)) (wk1 n (fl 9) (fun j => ar 9 (P j)) K)) (nI i)) hp142 ?_
                    refine q_as (y := (wk1 n (fl 9) (fun j => ar 9 (P j)) K) i) (by rw [kAt_n (by omega) (by omega)]; exact pre_at) ?_
                    refine lv_iconst (v := 3) hx hb d_MD_weak_145 (by decide) ?_
                    refine lv_icmp_ne (tgt := 165) hx hb d_MD_weak_146 (by decide) (fun c146 => ?_) (fun c146 => ?_)
                    · have hI := CI.to (w2 := mw g ad (va_up (va_up ar 11 (wrt P K (ar 11) n)) 10 (wrt P (pre (i + 1) (w2 (fl 9) (wk1 n (fl 9) (fun j => ar 9 (P j)) K)) (wk1 n (fl 9) (fun j => ar 9 (P j)) K)) f0 n)) fl) hI (by rw [pre_same (i := i) (f := w2 (fl 9) (wk1 n (fl 9) (fun j => ar 9 (P j)) K)) (f0 := wk1 n (fl 9) (fun j => ar 9 (P j)) K) (by unfold w2; rw [if_neg (fun q => c146 q.1)])] <;> rfl)
                      refine lv_iinc (v := nI (i + 1)) (lv' := [(1, .int (nI (i + 1))), (0, .ref (ad 0))]) hx hb d_MD_weak_165 hl (k := 1) rfl (nI_add _ 1) (by decide) rfl (fun ls hl => ?_)
                      refine lv_goto (tgt := 132) hx hb d_MD_weak_168 (by decide) ?_
                      exact ih132 (i + 1) (by omega) (by first | assumption | omega) _ _ _ hI (lv_sub hl [1, 0] rfl)
                    · refine lv_aload_n hx hb d_MD_weak_149 rfl (lv_at hl 0 rfl) ?_
                      refine lv_iload_n hx hb d_MD_weak_150 rfl (lv_at hl 1 rfl) ?_
                      refine q_calliV [.int (nI i)] M hI (c_MD_strongBefore l g ad (va_up (va_up ar 10 (wrt P (pre i (w2 (fl 9) (wk1 n (fl 9) (fun j => ar 9 (P j)) K)) (wk1 n (fl 9) (fun j => ar 9 (P j)) K)) f0 n)) 11 (wrt P K (ar 11) n)) fl i n P (pre i (w2 (fl 9) (wk1 n (fl 9) (fun j => ar 9 (P j)) K)) (wk1 n (fl 9) (fun j => ar 9 (P j)) K)) f0 (by first | exact hn | assumption | omega | rfl) (by first | exact hN | assumption | omega | rfl) (by first | exact hP | assumption | omega | rfl) (by first | exact hPb | assumption | omega | rfl) (by first | exact hij | assumption | omega | rfl) (rfl) (by omega)) ok_MD_strongBefore m5_177 m5_179 ms_68 0 rfl rfl rfl rfl hl.1 ⟨rfl, rfl⟩ ⟨Nat.le_of_ble_eq_true rfl, Nat.le_of_ble_eq_true rfl⟩ (Nat.le_of_ble_eq_true rfl) ⟨Nat.le_of_ble_eq_true rfl, Nat.le_of_ble_eq_true rfl⟩ d_MD_weak_151 (fun r151 u151 H locs hp151 hI => ?_)
                      refine q_as (y := lastS (fl 9) (pre i (w2 (fl 9) (wk1 n (fl 9) (fun j => ar 9 (P j)) K)) (wk1 n (fl 9) (fun j => ar 9 (P j)) K)) i) hp151 ?_
                      refine q_as (y := lastS (fl 9) (wk1 n (fl 9) (fun j => ar 9 (P j)) K) i) (lastS_w2 i i (Nat.le_refl i)) ?_
                      refine lv_iconst (v := 2) hx hb d_MD_weak_154 (by decide) ?_
                      refine lv_icmp_ne (tgt := 165) hx hb d_MD_weak_155 (by decide) (fun c155 => ?_) (fun c155 => ?_)
                      · have hI := CI.to (w2 := mw g ad (va_up (va_up ar 11 (wrt P K (ar 11) n)) 10 (wrt P (pre (i + 1) (w2 (fl 9) (wk1 n (fl 9) (fun j => ar 9 (P j)) K)) (wk1 n (fl 9) (fun j => ar 9 (P j)) K)) f0 n)) fl) hI (by rw [pre_same (i := i) (f := w2 (fl 9) (wk1 n (fl 9) (fun j => ar 9 (P j)) K)) (f0 := wk1 n (fl 9) (fun j => ar 9 (P j)) K) (by unfold w2; rw [if_neg (fun q => c155 q.2)])] <;> rfl)
                        refine lv_iinc (v := nI (i + 1)) (lv' := [(1, .int (nI (i + 1))), (0, .ref (ad 0))]) hx hb d_MD_weak_165 hl (k := 1) rfl (nI_add _ 1) (by decide) rfl (fun ls hl => ?_)
                        refine lv_goto (tgt := 132) hx hb d_MD_weak_168 (by decide) ?_
                        exact ih132 (i + 1) (by omega) (by first | assumption | omega) _ _ _ hI (lv_sub hl [1, 0] rfl)
                      · refine lv_aload_n hx hb d_MD_weak_158 rfl (lv_at hl 0 rfl) ?_
                        refine lv_iload_n hx hb d_MD_weak_159 rfl (lv_at hl 1 rfl) ?_
                        refine lv_bipush (v := 6) hx hb d_MD_weak_160 (by decide) ?_
                        refine q_callvV [.int (nI i), .int 6] M hI (c_MD_put l g ad (va_up (va_up ar 10 (wrt P (pre i (w2 (fl 9) (wk1 n (fl 9) (fun j => ar 9 (P j)) K)) (wk1 n (fl 9) (fun j => ar 9 (P j)) K)) f0 n)) 11 (wrt P K (ar 11) n)) fl i 6 n P (pre i (w2 (fl 9) (wk1 n (fl 9) (fun j => ar 9 (P j)) K)) (wk1 n (fl 9) (fun j => ar 9 (P j)) K)) f0 (by first | exact hn | assumption | omega | rfl) (by first | exact hN | assumption | omega | rfl) (by first | exact hP | assumption | omega | rfl) (by first | exact hPb | assumption | omega | rfl) (by first | exact hij | assumption | omega | rfl) (rfl) (by omega)) ok_MD_put m5_173 m5_175 ms_67 0 rfl rfl rfl rfl hl.1 ⟨rfl, rfl⟩ ⟨Nat.le_of_ble_eq_true rfl, Nat.le_of_ble_eq_true rfl⟩ (Nat.le_of_ble_eq_true rfl) ⟨Nat.le_of_ble_eq_true rfl, Nat.le_of_ble_eq_true rfl⟩ d_MD_weak_162 (fun u162 H locs hp162 hI => ?_)
                        have hI : CI g A s (mw g ad (va_up (va_up ar 11 (wrt P K (ar 11) n)) 10 (wrt P (upd (pre i (w2 (fl 9) (wk1 n (fl 9) (fun j => ar 9 (P j)) K)) (wk1 n (fl 9) (fun j => ar 9 (P j)) K)) i 6) f0 n)) fl) H locs := hI
                        have hI := CI.to (w2 := mw g ad (va_up (va_up ar 11 (wrt P K (ar 11) n)) 10 (wrt P (pre (i + 1) (w2 (fl 9) (wk1 n (fl 9) (fun j => ar 9 (P j)) K)) (wk1 n (fl 9) (fun j => ar 9 (P j)) K)) f0 n)) fl) hI (by rw [pre_up (f := w2 (fl 9) (wk1 n (fl 9) (fun j => ar 9 (P j)) K)) (f0 := wk1 n (fl 9) (fun j => ar 9 (P j)) K) (by unfold w2; rw [if_pos ⟨c146, c155⟩])] <;> rfl)
                        refine lv_iinc (v := nI (i + 1)) (lv' := [(1, .int (nI (i + 1))), (0, .ref (ad 0))]) hx hb d_MD_weak_165 hl (k := 1) rfl (nI_add _ 1) (by decide) rfl (fun ls hl => ?_)
                        refine lv_goto (tgt := 132) hx hb d_MD_weak_168 (by decide) ?_
                        exact ih132 (i + 1) (by omega) (by first | assumption | omega) _ _ _ hI (lv_sub hl [1, 0] rfl)
              have hI := CI.to (w2 := mw g ad (va_up (va_up ar 10 (wrt P (pre 0 (w2 (fl 9) (wk1 n (fl 9) (fun j => ar 9 (P j)) K)) (wk1 n (fl 9) (fun j => ar 9 (P j)) K)) f0 n)) 11 (wrt P K (ar 11) n)) fl) hI (by rw [pre_0] <;> rfl)
              exact L132 _ 0 (Nat.lt_succ_self _) (by first | assumption | omega) _ _ _ hI (lv_sub hl [1, 0] rfl)
            · have c45 : ¬ n ≤ i := fun h => c45 ((nI_leI (a := n) (b := i) (by omega) (by omega)).mpr h)
              refine lv_aload_n hx hb d_MD_weak_48 rfl (lv_at hl 0 rfl) ?_
              refine lv_iload_n hx hb d_MD_weak_49 rfl (lv_at hl 1 rfl) ?_
              refine q_calliV [.int (nI i)] M hI (c_MD_kindAt l g ad (va_up (va_up ar 10 (wrt P (pre i (w1 (fl 9) (fun j => ar 9 (P j)) K) K) f0 n)) 11 (wrt P K (ar 11) n)) fl (nI i) n P (pre i (w1 (fl 9) (fun j => ar 9 (P j)) K) K) f0 (by first | exact hn | assumption | omega | rfl) (by first | exact hN | assumption | omega | rfl) (by first | exact hP | assumption | omega | rfl) (by first | exact hPb | assumption | omega | rfl) (by first | exact hij | assumption | omega | rfl) (rfl)) ok_MD_kindAt m5_169 m5_171 ms_66 0 rfl rfl rfl rfl hl.1 ⟨rfl, rfl⟩ ⟨Nat.le_of_ble_eq_true rfl, Nat.le_of_ble_eq_true rfl⟩ (Nat.le_of_ble_eq_true rfl) ⟨Nat.le_of_ble_eq_true rfl, Nat.le_of_ble_eq_true rfl⟩ d_MD_weak_50 (fun r50 u50 H locs hp50 hI => ?_)
              refine q_as (y := kAt n (fl 9) (fl 10) (pre i (w1 (fl 9) (fun j => ar 9 (P j)) K) K) (nI i)) hp50 ?_
              refine q_as (y := K i) (by rw [kAt_n (by omega) (by omega)]; exact pre_at) ?_
              refine lv_bipush (v := 8) hx hb d_MD_weak_53 (by decide) ?_
              refine lv_icmp_ne (tgt := 124) hx hb d_MD_weak_55 (by decide) (fun c55 => ?_) (fun c55 => ?_)
              · have hI := CI.to (w2 := mw g ad (va_up (va_up ar 11 (wrt P K (ar 11) n)) 10 (wrt P (pre (i + 1) (w1 (fl 9) (fun j => ar 9 (P j)) K) K) f0 n)) fl) hI (by rw [pre_same (i := i) (f := w1 (fl 9) (fun j => ar 9 (P j)) K) (f0 := K) (by rw [w1_eq, if_neg c55])] <;> rfl)
                refine lv_iinc (v := nI (i + 1)) (lv' := [(1, .int (nI (i + 1))), (0, .ref (ad 0))]) hx hb d_MD_weak_124 hl (k := 1) rfl (nI_add _ 1) (by decide) rfl (fun ls hl => ?_)
                refine lv_goto (tgt := 40) hx hb d_MD_weak_127 (by decide) ?_
                exact ih40 (i + 1) (by omega) (by first | assumption | omega) _ _ _ hI (lv_sub hl [1, 0] rfl)
              · refine lv_iload_n hx hb d_MD_weak_58 rfl (lv_at hl 1 rfl) ?_
                refine lv_if_ne (tgt := 66) hx hb d_MD_weak_59 (by decide) (fun c59 => ?_) (fun c59 => ?_)
                · have c59 : ¬ i = 0 := fun h => c59 ((nI_eq (a := i) (b := 0) (by omega) (by omega)).mpr h)
                  refine lv_aload_n hx hb d_MD_weak_66 rfl (lv_at hl 0 rfl) ?_
                  refine g_MD_34 M hI d_MD_weak_67 ?_
                  refine lv_aload_n hx hb d_MD_weak_70 rfl (lv_at hl 0 rfl) ?_
                  refine g_MD_62 M hI d_MD_weak_71 ?_
                  refine lv_iload_n hx hb d_MD_weak_74 rfl (lv_at hl 1 rfl) ?_
                  refine lv_iconst (v := 1) hx hb d_MD_weak_75 (by decide) ?_
                  refine lv_isub hx hb d_MD_weak_76 ?_
                  refine q_as (y := nI (i - 1)) (pk_sub (a := i) (b := 1) (by omega)) ?_
                  refine bl_18 M hI (i - 1) rfl (by omega) d_MD_weak_77 ?_
                  refine q_as (y := nI (P (i - 1))) (hP _ (by omega)) ?_
                  refine bl_9 M hI (P (i - 1)) rfl (hPb _ (by omega)) d_MD_weak_78 ?_
                  refine q_as (y := ar 9 (P (i - 1))) rfl ?_
                  refine lv_istore_n (lv' := [(2, .int (ar 9 (P (i - 1)))), (0, .ref (ad 0)), (1, .int (nI i))]) hx hb d_MD_weak_79 rfl hl (by decide) rfl (fun ls hl => ?_)
                  refine lv_iload_n hx hb d_MD_weak_80 rfl (lv_at hl 2 rfl) ?_
                  refine lv_if_le (tgt := 101) hx hb d_MD_weak_81 (by decide) (fun c81 => ?_) (fun c81 => ?_)
                  · have c81 : i ≤ 0 := (nI_leI (a := i) (b := 0) (by omega) (by omega)).mp c81
                    exfalso; omega
                  · have c81 : ¬ i ≤ 0 := fun h => c81 ((nI_leI (a := i) (b := 0) (by omega) (by omega)).mpr h)
                    refine lv_iload_n hx hb d_MD_weak_84 rfl (lv_at hl 0 rfl) ?_
                    refine q_calliS [.int (ar 9 (P (i - 1)))] M hI (c_MD_isIsolate l g (mw g ad (va_up (va_up ar 10 (wrt P (pre i (w1 (fl 9) (fun j => ar 9 (P j)) K) K) f0 n)) 11 (wrt P K (ar 11) n)) fl) (ar 9 (P (i - 1)))) ok_MD_isIsolate m5_107 m5_108 rfl rfl hl.1 ⟨rfl, rfl⟩ ⟨Nat.le_of_ble_eq_true rfl, Nat.le_of_ble_eq_true rfl⟩ (Nat.le_of_ble_eq_true rfl) ⟨Nat.le_of_ble_eq_true rfl, Nat.le_of_ble_eq_true rfl⟩ d_MD_weak_85 (fun r85 u85 H locs hp85 hI => ?_)
                    refine q_as (y := bI (isol (ar 9 (P (i - 1))))) hp85 ?_
                    refine lv_if_ne (tgt := 97) hx hb d_MD_weak_88 (by decide) (fun c88 => ?_) (fun c88 => ?_)
                    · have c88 := bI_ne0.mp c88
                      have hs : isol (ar 9 (P (i - 1))) ∨ ar 9 (P (i - 1)) = 22 := Or.inl c88
                      refine lv_iconst (v := 1) hx hb d_MD_weak_97 (by decide) ?_
                      refine lv_goto (tgt := 102) hx hb d_MD_weak_98 (by decide) ?_
                      refine lv_istore_n (lv' := [(3, .int 1), (2, .int (ar 9 (P (i - 1)))), (0, .ref (ad 0)), (1, .int (nI i))]) hx hb d_MD_weak_102 rfl hl (by decide) rfl (fun ls hl => ?_)
                      refine lv_aload_n hx hb d_MD_weak_103 rfl (lv_at hl 2 rfl) ?_
                      refine lv_iload_n hx hb d_MD_weak_104 rfl (lv_at hl 3 rfl) ?_
                      refine lv_iload_n hx hb d_MD_weak_105 rfl (lv_at hl 0 rfl) ?_
                      refine lv_if_eq (tgt := 114) hx hb d_MD_weak_106 (by decide) (fun c106 => ?_) (fun c106 => ?_)
                      · have c106 : 1 = 0 := (nI_eq (a := 1) (b := 0) (by omega) (by omega)).mp c106
                        exfalso; omega
                      · have c106 : ¬ 1 = 0 := fun h => c106 ((nI_eq (a := 1) (b := 0) (by omega) (by omega)).mpr h)
                        refine lv_bipush (v := 13) hx hb d_MD_weak_109 (by decide) ?_
                        refine q_as (y := clsMark (fl 9) (fun j => ar 9 (P j)) (pre i (w1 (fl 9) (fun j => ar 9 (P j)) K) K) i) (clsM_y (s := (fun j => ar 9 (P j))) (by omega) hs) ?_
                        refine lv_goto (tgt := 121) hx hb d_MD_weak_111 (by decide) ?_
                        refine q_callvV [.int (nI i), .int (clsMark (fl 9) (fun j => ar 9 (P j)) (pre i (w1 (fl 9) (fun j => ar 9 (P j)) K) K) i)] M hI (c_MD_put l g ad (va_up (va_up ar 10 (wrt P (pre i (w1 (fl 9) (fun j => ar 9 (P j)) K) K) f0 n)) 11 (wrt P K (ar 11) n)) fl i (clsMark (fl 9) (fun j => ar 9 (P j)) (pre i (w1 (fl 9) (fun j => ar 9 (P j)) K) K) i) n P (pre i (w1 (fl 9) (fun j => ar 9 (P j)) K) K) f0 (by first | exact hn | assumption | omega | rfl) (by first | exact hN | assumption | omega | rfl) (by first | exact hP | assumption | omega | rfl) (by first | exact hPb | assumption | omega | rfl) (by first | exact hij | assumption | omega | rfl) (rfl) (by omega)) ok_MD_put m5_173 m5_175 ms_67 0 rfl rfl rfl rfl hl.1 ⟨rfl, rfl⟩ ⟨Nat.le_of_ble_eq_true rfl, Nat.le_of_ble_eq_true rfl⟩ (Nat.le_of_ble_eq_true rfl) ⟨Nat.le_of_ble_eq_true rfl, Nat.le_of_ble_eq_true rfl⟩ d_MD_weak_121 (fun u121 H locs hp121 hI => ?_)
                        have hI : CI g A s (mw g ad (va_up (va_up ar 11 (wrt P K (ar 11) n)) 10 (wrt P (upd (pre i (w1 (fl 9) (fun j => ar 9 (P j)) K) K) i (clsMark (fl 9) (fun j => ar 9 (P j)) (pre i (w1 (fl 9) (fun j => ar 9 (P j)) K) K) i)) f0 n)) fl) H locs := hI
                        have hI := CI.to (w2 := mw g ad (va_up (va_up ar 11 (wrt P K (ar 11) n)) 10 (wrt P (pre (i + 1) (w1 (fl 9) (fun j => ar 9 (P j)) K) K) f0 n)) fl) hI (by rw [pre_up (f := w1 (fl 9) (fun j => ar 9 (P j)) K) (f0 := K) (by rw [w1_eq, if_pos c55, clsMark_pre])] <;> rfl)
                        refine lv_iinc (v := nI (i + 1)) (lv' := [(1, .int (nI (i + 1))), (3, .int 1), (2, .int (ar 9 (P (i - 1)))), (0, .ref (ad 0))]) hx hb d_MD_weak_124 hl (k := 3) rfl (nI_add _ 1) (by decide) rfl (fun ls hl => ?_)
                        refine lv_goto (tgt := 40) hx hb d_MD_weak_127 (by decide) ?_
                        exact ih40 (i + 1) (by omega) (by first | assumption | omega) _ _ _ hI (lv_sub hl [3, 0] rfl)
                    · have c88 := bI_eq0.mp c88
                      refine lv_iload_n hx hb d_MD_weak_91 rfl (lv_at hl 0 rfl) ?_
                      refine lv_bipush (v := 22) hx hb d_MD_weak_92 (by decide) ?_
                      refine lv_icmp_ne (tgt := 101) hx hb d_MD_weak_94 (by decide) (fun c94 => ?_) (fun c94 => ?_)
                      · have hs : ¬ (isol (ar 9 (P (i - 1))) ∨ ar 9 (P (i - 1)) = 22) := fun q => q.elim c88 c94
                        refine lv_iconst (v := 0) hx hb d_MD_weak_101 (by decide) ?_
                        refine lv_istore_n (lv' := [(3, .int 0), (2, .int (ar 9 (P (i - 1)))), (0, .ref (ad 0)), (1, .int (nI i))]) hx hb d_MD_weak_102 rfl hl (by decide) rfl (fun ls hl => ?_)
                        refine lv_aload_n hx hb d_MD_weak_103 rfl (lv_at hl 2 rfl) ?_
                        refine lv_iload_n hx hb d_MD_weak_104 rfl (lv_at hl 3 rfl) ?_
                        refine lv_iload_n hx hb d_MD_weak_105 rfl (lv_at hl 0 rfl) ?_
                        refine lv_if_eq (tgt := 114) hx hb d_MD_weak_106 (by decide) (fun c106 => ?_) (fun c106 => ?_)
                        · have c106 : 0 = 0 := (nI_eq (a := 0) (b := 0) (by omega) (by omega)).mp c106
                          refine lv_aload_n hx hb d_MD_weak_114 rfl (lv_at hl 2 rfl) ?_
                          refine lv_iload_n hx hb d_MD_weak_115 rfl (lv_at hl 3 rfl) ?_
                          refine lv_iconst (v := 1) hx hb d_MD_weak_116 (by decide) ?_
                          refine lv_isub hx hb d_MD_weak_117 ?_
                          refine q_calliV [.int ((nI i) - 1)] M hI (c_MD_kindAt l g ad (va_up (va_up ar 10 (wrt P (pre i (w1 (fl 9) (fun j => ar 9 (P j)) K) K) f0 n)) 11 (wrt P K (ar 11) n)) fl ((nI i) - 1) n P (pre i (w1 (fl 9) (fun j => ar 9 (P j)) K) K) f0 (by first | exact hn | assumption | omega | rfl) (by first | exact hN | assumption | omega | rfl) (by first | exact hP | assumption | omega | rfl) (by first | exact hPb | assumption | omega | rfl) (by first | exact hij | assumption | omega | rfl) (rfl)) ok_MD_kindAt m5_169 m5_171 ms_66 0 rfl rfl rfl rfl hl.1 ⟨rfl, rfl⟩ ⟨Nat.le_of_ble_eq_true rfl, Nat.le_of_ble_eq_true rfl⟩ (Nat.le_of_ble_eq_true rfl) ⟨Nat.le_of_ble_eq_true rfl, Nat.le_of_ble_eq_true rfl⟩ d_MD_weak_118 (fun r118 u118 H locs hp118 hI => ?_)
                          refine q_as (y := kAt n (fl 9) (fl 10) (pre i (w1 (fl 9) (fun j => ar 9 (P j)) K) K) ((nI i) - 1)) hp118 ?_
                          refine q_as (y := clsMark (fl 9) (fun j => ar 9 (P j)) (pre i (w1 (fl 9) (fun j => ar 9 (P j)) K) K) i) (by first | (rw [kAt_p (by omega) (by omega) (by omega)]; exact clsM_n (s := (fun j => ar 9 (P j))) (by omega) hs) | (rw [c59]; exact kAt_0)) ?_
                          refine q_callvV [.int (nI i), .int (clsMark (fl 9) (fun j => ar 9 (P j)) (pre i (w1 (fl 9) (fun j => ar 9 (P j)) K) K) i)] M hI (c_MD_put l g ad (va_up (va_up ar 10 (wrt P (pre i (w1 (fl 9) (fun j => ar 9 (P j)) K) K) f0 n)) 11 (wrt P K (ar 11) n)) fl i (clsMark (fl 9) (fun j => ar 9 (P j)) (pre i (w1 (fl 9) (fun j => ar 9 (P j)) K) K) i) n P (pre i (w1 (fl 9) (fun j => ar 9 (P j)) K) K) f0 (by first | exact hn | assumption | omega | rfl) (by first | exact hN | assumption | omega | rfl) (by first | exact hP | assumption | omega | rfl) (by first | exact hPb | assumption | omega | rfl) (by first | exact hij | assumption | omega | rfl) (rfl) (by omega)) ok_MD_put m5_173 m5_175 ms_67 0 rfl rfl rfl rfl hl.1 ⟨rfl, rfl⟩ ⟨Nat.le_of_ble_eq_true rfl, Nat.le_of_ble_eq_true rfl⟩ (Nat.le_of_ble_eq_true rfl) ⟨Nat.le_of_ble_eq_true rfl, Nat.le_of_ble_eq_true rfl⟩ d_MD_weak_121 (fun u121 H locs hp121 hI => ?_)
                          have hI : CI g A s (mw g ad (va_up (va_up ar 11 (wrt P K (ar 11) n)) 10 (wrt P (upd (pre i (w1 (fl 9) (fun j => ar 9 (P j)) K) K) i (clsMark (fl 9) (fun j => ar 9 (P j)) (pre i (w1 (fl 9) (fun j => ar 9 (P j)) K) K) i)) f0 n)) fl) H locs := hI
                          have hI := CI.to (w2 := mw g ad (va_up (va_up ar 11 (wrt P K (ar 11) n)) 10 (wrt P (pre (i + 1) (w1 (fl 9) (fun j => ar 9 (P j)) K) K) f0 n)) fl) hI (by rw [pre_up (f := w1 (fl 9) (fun j => ar 9 (P j)) K) (f0 := K) (by rw [w1_eq, if_pos c55, clsMark_pre])] <;> rfl)
                          refine lv_iinc (v := nI (i + 1)) (lv' := [(1, .int (nI (i + 1))), (3, .int 0), (2, .int (ar 9 (P (i - 1)))), (0, .ref (ad 0))]) hx hb d_MD_weak_124 hl (k := 3) rfl (nI_add _ 1) (by decide) rfl (fun ls hl => ?_)
                          refine lv_goto (tgt := 40) hx hb d_MD_weak_127 (by decide) ?_
                          exact ih40 (i + 1) (by omega) (by first | assumption | omega) _ _ _ hI (lv_sub hl [3, 0] rfl)
                        · have c106 : ¬ 0 = 0 := fun h => c106 ((nI_eq (a := 0) (b := 0) (by omega) (by omega)).mpr h)
                          exfalso; omega
                      · have hs : isol (ar 9 (P (i - 1))) ∨ ar 9 (P (i - 1)) = 22 := Or.inr c94
                        refine lv_iconst (v := 1) hx hb d_MD_weak_97 (by decide) ?_
                        refine lv_goto (tgt := 102) hx hb d_MD_weak_98 (by decide) ?_
                        refine lv_istore_n (lv' := [(3, .int 1), (2, .int (ar 9 (P (i - 1)))), (0, .ref (ad 0)), (1, .int (nI i))]) hx hb d_MD_weak_102 rfl hl (by decide) rfl (fun ls hl => ?_)
                        refine lv_aload_n hx hb d_MD_weak_103 rfl (lv_at hl 2 rfl) ?_
                        refine lv_iload_n hx hb d_MD_weak_104 rfl (lv_at hl 3 rfl) ?_
                        refine lv_iload_n hx hb d_MD_weak_105 rfl (lv_at hl 0 rfl) ?_
                        refine lv_if_eq (tgt := 114) hx hb d_MD_weak_106 (by decide) (fun c106 => ?_) (fun c106 => ?_)
                        · have c106 : 1 = 0 := (nI_eq (a := 1) (b := 0) (by omega) (by omega)).mp c106
                          exfalso; omega
                        · have c106 : ¬ 1 = 0 := fun h => c106 ((nI_eq (a := 1) (b := 0) (by omega) (by omega)).mpr h)
                          refine lv_bipush (v := 13) hx hb d_MD_weak_109 (by decide) ?_
                          refine q_as (y := clsMark (fl 9) (fun j => ar 9 (P j)) (pre i (w1 (fl 9) (fun j => ar 9 (P j)) K) K) i) (clsM_y (s := (fun j => ar 9 (P j))) (by omega) hs) ?_
                          refine lv_goto (tgt := 121) hx hb d_MD_weak_111 (by decide) ?_
                          refine q_callvV [.int (nI i), .int (clsMark (fl 9) (fun j => ar 9 (P j)) (pre i (w1 (fl 9) (fun j => ar 9 (P j)) K) K) i)] M hI (c_MD_put l g ad (va_up (va_up ar 10 (wrt P (pre i (w1 (fl 9) (fun j => ar 9 (P j)) K) K) f0 n)) 11 (wrt P K (ar 11) n)) fl i (clsMark (fl 9) (fun j => ar 9 (P j)) (pre i (w1 (fl 9) (fun j => ar 9 (P j)) K) K) i) n P (pre i (w1 (fl 9) (fun j => ar 9 (P j)) K) K) f0 (by first | exact hn | assumption | omega | rfl) (by first | exact hN | assumption | omega | rfl) (by first | exact hP | assumption | omega | rfl) (by first | exact hPb | assumption | omega | rfl) (by first | exact hij | assumption | omega | rfl) (rfl) (by omega)) ok_MD_put m5_173 m5_175 ms_67 0 rfl rfl rfl rfl hl.1 ⟨rfl, rfl⟩ ⟨Nat.le_of_ble_eq_true rfl, Nat.le_of_ble_eq_true rfl⟩ (Nat.le_of_ble_eq_true rfl) ⟨Nat.le_of_ble_eq_true rfl, Nat.le_of_ble_eq_true rfl⟩ d_MD_weak_121 (fun u121 H locs hp121 hI => ?_)
                          have hI : CI g A s (mw g ad (va_up (va_up ar 11 (wrt P K (ar 11) n)) 10 (wrt P (upd (pre i (w1 (fl 9) (fun j => ar 9 (P j)) K) K) i (clsMark (fl 9) (fun j => ar 9 (P j)) (pre i (w1 (fl 9) (fun j => ar 9 (P j)) K) K) i)) f0 n)) fl) H locs := hI
                          have hI := CI.to (w2 := mw g ad (va_up (va_up ar 11 (wrt P K (ar 11) n)) 10 (wrt P (pre (i + 1) (w1 (fl 9) (fun j => ar 9 (P j)) K) K) f0 n)) fl) hI (by rw [pre_up (f := w1 (fl 9) (fun j => ar 9 (P j)) K) (f0 := K) (by rw [w1_eq, if_pos c55, clsMark_pre])] <;> rfl)
                          refine lv_iinc (v := nI (i + 1)) (lv' := [(1, .int (nI (i + 1))), (3, .int 1), (2, .int (ar 9 (P (i - 1)))), (0, .ref (ad 0))]) hx hb d_MD_weak_124 hl (k := 3) rfl (nI_add _ 1) (by decide) rfl (fun ls hl => ?_)
                          refine lv_goto (tgt := 40) hx hb d_MD_weak_127 (by decide) ?_
                          exact ih40 (i + 1) (by omega) (by first | assumption | omega) _ _ _ hI (lv_sub hl [3, 0] rfl)
                · have c59 : i = 0 := (nI_eq (a := i) (b := 0) (by omega) (by omega)).mp c59
                  refine lv_iconst (v := 0) hx hb d_MD_weak_62 (by decide) ?_
                  refine lv_goto (tgt := 79) hx hb d_MD_weak_63 (by decide) ?_
                  refine lv_istore_n (lv' := [(2, .int 0), (0, .ref (ad 0)), (1, .int (nI i))]) hx hb d_MD_weak_79 rfl hl (by decide) rfl (fun ls hl => ?_)
                  refine lv_iload_n hx hb d_MD_weak_80 rfl (lv_at hl 2 rfl) ?_
                  refine lv_if_le (tgt := 101) hx hb d_MD_weak_81 (by decide) (fun c81 => ?_) (fun c81 => ?_)
                  · have c81 : i ≤ 0 := (nI_leI (a := i) (b := 0) (by omega) (by omega)).mp c81
                    refine lv_iconst (v := 0) hx hb d_MD_weak_101 (by decide) ?_
                    refine lv_istore_n (lv' := [(3, .int 0), (2, .int 0), (0, .ref (ad 0)), (1, .int (nI i))]) hx hb d_MD_weak_102 rfl hl (by decide) rfl (fun ls hl => ?_)
                    refine lv_aload_n hx hb d_MD_weak_103 rfl (lv_at hl 2 rfl) ?_
                    refine lv_iload_n hx hb d_MD_weak_104 rfl (lv_at hl 3 rfl) ?_
                    refine lv_iload_n hx hb d_MD_weak_105 rfl (lv_at hl 0 rfl) ?_
                    refine lv_if_eq (tgt := 114) hx hb d_MD_weak_106 (by decide) (fun c106 => ?_) (fun c106 => ?_)
                    · have c106 : 0 = 0 := (nI_eq (a := 0) (b := 0) (by omega) (by omega)).mp c106
                      refine lv_aload_n hx hb d_MD_weak_114 rfl (lv_at hl 2 rfl) ?_
                      refine lv_iload_n hx hb d_MD_weak_115 rfl (lv_at hl 3 rfl) ?_
                      refine lv_iconst (v := 1) hx hb d_MD_weak_116 (by decide) ?_
                      refine lv_isub hx hb d_MD_weak_117 ?_
                      refine q_calliV [.int ((nI i) - 1)] M hI (c_MD_kindAt l g ad (va_up (va_up ar 10 (wrt P (pre i (w1 (fl 9) (fun j => ar 9 (P j)) K) K) f0 n)) 11 (wrt P K (ar 11) n)) fl ((nI i) - 1) n P (pre i (w1 (fl 9) (fun j => ar 9 (P j)) K) K) f0 (by first | exact hn | assumption | omega | rfl) (by first | exact hN | assumption | omega | rfl) (by first | exact hP | assumption | omega | rfl) (by first | exact hPb | assumption | omega | rfl) (by first | exact hij | assumption | omega | rfl) (rfl)) ok_MD_kindAt m5_169 m5_171 ms_66 0 rfl rfl rfl rfl hl.1 ⟨rfl, rfl⟩ ⟨Nat.le_of_ble_eq_true rfl, Nat.le_of_ble_eq_true rfl⟩ (Nat.le_of_ble_eq_true rfl) ⟨Nat.le_of_ble_eq_true rfl, Nat.le_of_ble_eq_true rfl⟩ d_MD_weak_118 (fun r118 u118 H locs hp118 hI => ?_)
                      refine q_as (y := kAt n (fl 9) (fl 10) (pre i (w1 (fl 9) (fun j => ar 9 (P j)) K) K) ((nI i) - 1)) hp118 ?_
                      refine q_as (y := clsMark (fl 9) (fun j => ar 9 (P j)) (pre i (w1 (fl 9) (fun j => ar 9 (P j)) K) K) i) (by first | (rw [kAt_p (by omega) (by omega) (by omega)]; exact clsM_n (s := (fun j => ar 9 (P j))) (by omega) hs) | (rw [c59]; exact kAt_0)) ?_
                      refine q_callvV [.int (nI i), .int (clsMark (fl 9) (fun j => ar 9 (P j)) (pre i (w1 (fl 9) (fun j => ar 9 (P j)) K) K) i)] M hI (c_MD_put l g ad (va_up (va_up ar 10 (wrt P (pre i (w1 (fl 9) (fun j => ar 9 (P j)) K) K) f0 n)) 11 (wrt P K (ar 11) n)) fl i (clsMark (fl 9) (fun j => ar 9 (P j)) (pre i (w1 (fl 9) (fun j => ar 9 (P j)) K) K) i) n P (pre i (w1 (fl 9) (fun j => ar 9 (P j)) K) K) f0 (by first | exact hn | assumption | omega | rfl) (by first | exact hN | assumption | omega | rfl) (by first | exact hP | assumption | omega | rfl) (by first | exact hPb | assumption | omega | rfl) (by first | exact hij | assumption | omega | rfl) (rfl) (by omega)) ok_MD_put m5_173 m5_175 ms_67 0 rfl rfl rfl rfl hl.1 ⟨rfl, rfl⟩ ⟨Nat.le_of_ble_eq_true rfl, Nat.le_of_ble_eq_true rfl⟩ (Nat.le_of_ble_eq_true rfl) ⟨Nat.le_of_ble_eq_true rfl, Nat.le_of_ble_eq_true rfl⟩ d_MD_weak_121 (fun u121 H locs hp121 hI => ?_)
                      have hI : CI g A s (mw g ad (va_up (va_up ar 11 (wrt P K (ar 11) n)) 10 (wrt P (upd (pre i (w1 (fl 9) (fun j => ar 9 (P j)) K) K) i (clsMark (fl 9) (fun j => ar 9 (P j)) (pre i (w1 (fl 9) (fun j => ar 9 (P j)) K) K) i)) f0 n)) fl) H locs := hI
                      have hI := CI.to (w2 := mw g ad (va_up (va_up ar 11 (wrt P K (ar 11) n)) 10 (wrt P (pre (i + 1) (w1 (fl 9) (fun j => ar 9 (P j)) K) K) f0 n)) fl) hI (by rw [pre_up (f := w1 (fl 9) (fun j => ar 9 (P j)) K) (f0 := K) (by rw [w1_eq, if_pos c55, clsMark_pre])] <;> rfl)
                      refine lv_iinc (v := nI (i + 1)) (lv' := [(1, .int (nI (i + 1))), (3, .int 0), (2, .int 0), (0, .ref (ad 0))]) hx hb d_MD_weak_124 hl (k := 3) rfl (nI_add _ 1) (by decide) rfl (fun ls hl => ?_)
                      refine lv_goto (tgt := 40) hx hb d_MD_weak_127 (by decide) ?_
                      exact ih40 (i + 1) (by omega) (by first | assumption | omega) _ _ _ hI (lv_sub hl [3, 0] rfl)
                    · have c106 : ¬ 0 = 0 := fun h => c106 ((nI_eq (a := 0) (b := 0) (by omega) (by omega)).mpr h)
                      exfalso; omega
                  · have c81 : ¬ i ≤ 0 := fun h => c81 ((nI_leI (a := i) (b := 0) (by omega) (by omega)).mpr h)
                    exfalso; omega
        have hI := CI.to (w2 := mw g ad (va_up (va_up ar 10 (wrt P (pre 0 (w1 (fl 9) (fun j => ar 9 (P j)) K) K) f0 n)) 11 (wrt P K (ar 11) n)) fl) hI (by rw [pre_0] <;> rfl)
        exact L40 _ 0 (Nat.lt_succ_self _) (by first | assumption | omega) _ _ _ hI (lv_sub hl [1, 0] rfl)
      · have c7 : ¬ n ≤ i := fun h => c7 ((nI_leI (a := n) (b := i) (by omega) (by omega)).mpr h)
        refine lv_aload_n hx hb d_MD_weak_10 rfl (lv_at hl 0 rfl) ?_
        refine g_MD_40 M hI d_MD_weak_11 ?_
        refine lv_aload_n hx hb d_MD_weak_14 rfl (lv_at hl 0 rfl) ?_
        refine g_MD_62 M hI d_MD_weak_15 ?_
        refine lv_iload_n hx hb d_MD_weak_18 rfl (lv_at hl 1 rfl) ?_
        refine bl_18 M hI i rfl (by omega) d_MD_weak_19 ?_
        refine q_as (y := nI (P i)) (hP _ (by omega)) ?_
        refine lv_aload_n hx hb d_MD_weak_20 rfl (lv_at hl 0 rfl) ?_
        refine g_MD_37 M hI d_MD_weak_21 ?_
        refine lv_aload_n hx hb d_MD_weak_24 rfl (lv_at hl 0 rfl) ?_
        refine g_MD_62 M hI d_MD_weak_25 ?_
        refine lv_iload_n hx hb d_MD_weak_28 rfl (lv_at hl 1 rfl) ?_
        refine bl_18 M hI i rfl (by omega) d_MD_weak_29 ?_
        refine q_as (y := nI (P i)) (hP _ (by omega)) ?_
        refine bl_10 M hI (P i) rfl (hPb _ (by omega)) d_MD_weak_30 ?_
        refine q_as (y := K i) (wrt_at hij n (Nat.le_refl n) i (by omega)) ?_
        refine bs_11 M hI (P i) rfl (hPb _ (by omega)) d_MD_weak_31 (fun H locs hI => ?_)
        have hI : CI g A s (mw g ad (va_up (va_up ar 10 (wrt P K f0 n)) 11 (upd (wrt P K (ar 11) i) (P i) (K i))) fl) H locs := hI
        rw [show upd (wrt P K (ar 11) i) (P i) (K i) = wrt P K (ar 11) (i + 1) from rfl] at hI
        have hI : CI g A s (mw g ad (va_up (va_up ar 10 (wrt P K f0 n)) 11 (wrt P K (ar 11) (i + 1))) fl) H locs := hI
        refine lv_iinc (v := nI (i + 1)) (lv' := [(1, .int (nI (i + 1))), (0, .ref (ad 0))]) hx hb d_MD_weak_32 hl (k := 1) rfl (nI_add _ 1) (by decide) rfl (fun ls hl => ?_)
        refine lv_goto (tgt := 2) hx hb d_MD_weak_35 (by decide) ?_
        exact ih2 (i + 1) (by omega) (by first | assumption | omega) _ _ _ hI (lv_sub hl [1, 0] rfl)
  have hI := CI.to (w2 := mw g ad (va_up (va_up ar 10 (wrt P K f0 n)) 11 (wrt P K (ar 11) 0)) fl) hI (by rfl)
  exact L2 _ 0 (Nat.lt_succ_self _) (by first | assumption | omega) _ _ _ hI (lv_sub hl [1, 0] rfl)
