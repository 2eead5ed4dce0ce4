/-! 60: the model: findPairs -/
theorem wrel_upd {a : Nat → Int32} {x : Int32} {n : Nat} : ∀ {L : List (Nat × Int32)}, L.length ≤ n → wrel a L → wrel (upd a n x) L
  | [], _, _ => trivial
  | e :: r, h, q => by
    simp only [List.length_cons] at h
    exact ⟨by rw [pk_un (by omega)]; exact q.1, wrel_upd (by omega) q.2⟩
theorem wrel_push {a : Nat → Int32} {L : List (Nat × Int32)} {i : Nat} {x : Int32} (h : wrel a L) : wrel (upd a L.length (nI i)) ((i, x) :: L) :=
  ⟨pk_us, wrel_upd (Nat.le_refl _) h⟩
theorem cbS_wrel {a : Nat → Int32} {x : Int32} : ∀ {st : List (Nat × Int32)}, wrel a st → wrel a (cbS x st)
  | [], _ => trivial
  | e :: r, h => by
    unfold cbS
    simp only [popB]
    split
    · rename_i heq; split at heq
      · cases heq
      · exact h
    · rename_i q heq; split at heq
      · cases heq; exact h.2
      · have := cbS_wrel (x := x) h.2
        unfold cbS at this
        rw [heq] at this
        exact this
theorem cbS_in {x : Int32} {st : List (Nat × Int32)} : (∀ b ∈ cbS x st, b ∈ st) ∧ (cbS x st).length ≤ st.length := by
  unfold cbS
  cases hz : popB x st with
  | none => exact ⟨fun b hb => hb, Nat.le_refl _⟩
  | some a => exact ⟨(popB_in hz).2.1, (popB_in hz).2.2⟩
theorem popB_no {x : Int32} : ∀ {st : List (Nat × Int32)}, (∀ a ∈ st, a.2 ≠ x) → popB x st = none
  | [], _ => rfl
  | e :: r, h => by
    simp only [popB]
    rw [if_neg (h e List.mem_cons_self)]
    exact popB_no (fun a ha => h a (List.mem_cons_of_mem _ ha))
theorem cb_no {x : Int32} {st : List (Nat × Int32)} (h : ∀ a ∈ st, a.2 ≠ x) : cbS x st = st ∧ ∀ i pr, cbP x st i pr = pr := by
  unfold cbS cbP
  rw [popB_no h]
  exact ⟨rfl, fun _ _ => rfl⟩
theorem lk_clo {a b : Nat → Int32} {x : Int32} : ∀ z, lk a b x z ≠ -1 → clo b (lk a b x z) z
  | 0, h => absurd rfl h
  | z + 1, h => by
    simp only [lk] at h ⊢
    by_cases q : a z = x
    · rw [if_pos q]; exact Or.inr rfl
    · rw [if_neg q] at h ⊢; exact Or.inl (lk_clo z h)
theorem lk_nn {a b : Nat → Int32} {x : Int32} : ∀ z, (∀ j, j < z → 0 ≤ b j) → lk a b x z < 0 → lk a b x z = -1
  | 0, _, _ => rfl
  | z + 1, h, q => by
    simp only [lk] at q ⊢
    by_cases w : a z = x
    · rw [if_pos w] at q; exact absurd q (Int32.not_lt.mpr (h z (Nat.lt_succ_self z)))
    · rw [if_neg w] at q ⊢; exact lk_nn z (fun j hj => h j (by omega)) q
abbrev rm_MD_findPairs : Room := { frames := 2, cells := 0, slots := 0, locals := 46 }
set_option maxHeartbeats 4000000 in
set_option maxRecDepth 100000 in
theorem c_MD_findPairs (l : Launch) (g : Geo) (ad : Nat → Nat) (ar : Nat → Nat → Int32) (fl : Nat → Int32) (n : Nat) (P : Nat → Nat) (K f0 : Nat → Int32) (bn : Nat) (hn : fl 8 = nI n) (hN : n ≤ 2000) (hP : ∀ j, j < n → ar 18 j = nI (P j)) (hPb : ∀ j, j < n → P j < 2000) (hij : inj n P) (hw : ar 10 = wrt P K f0 n) (hbn : fl 3 = nI bn) (hbN : bn ≤ 40) (hb0 : ∀ j, j < bn → 0 ≤ ar 6 j) : cMv l y_MD_findPairs (.code y_MD_findPairs b_MD_findPairs 4 none :: gw) rm_MD_findPairs g [.ref (ad 0)] (mw g ad ar fl) (fun (u : (Nat → Int32) × Nat) => True) (fun (u : (Nat → Int32) × Nat) => mw g ad (va_up (va_up ar 19 u.1) 20 (bfind K (fun j => ar 1 (P j)) (fun x => lk (ar 5) (ar 6) x bn) (n - 0) 0 [] (pre n (fun _ => -1) (ar 20)))) (va_up fl 12 (nI u.2))) 0 0 := by
  refine cMv_of (by decide) (Nat.le_of_ble_eq_true rfl) ?_
  intro p e s m below meth c A Q ls M hnm hret hl hI
  have M : MC p s m ([.ref (ad 0)] : List Value).toArray meth c R_MD b_MD_findPairs 4 := M
  have hl : lv_has ls 4 [(0, .ref (ad 0))] := hl
  generalize ([.ref (ad 0)] : List Value).toArray = args at M hret ⊢
  have hx := M.1
  have hb := M.2.1
  have hI := CI.to (w2 := mw g ad (va_up ar 10 (wrt P K f0 n)) fl) hI (by rw [← hw]; rfl)
  refine lv_aload_n hx hb d_MD_findPairs_0 rfl (lv_at hl 0 rfl) ?_
  refine lv_iconst (v := 0) hx hb d_MD_findPairs_1 (by decide) ?_
  refine p_MD_193 M hI d_MD_findPairs_2 (fun H locs hI => ?_)
  have hI : CI g A s (mw g ad (va_up ar 10 (wrt P K f0 n)) (va_up fl 12 0)) H locs := hI
  refine lv_iconst (v := 0) hx hb d_MD_findPairs_5 (by decide) ?_
  refine lv_istore_n (lv' := [(1, .int 0), (0, .ref (ad 0))]) hx hb d_MD_findPairs_6 rfl hl (by decide) rfl (fun ls hl => ?_)
  have L7 : ∀ (fu : Nat) (i : Nat), (n - i) < fu → (i ≤ n) → ∀ (H : Heap) (locs : List Loc) (ls : Array Slot), CI g A s (mw g ad (va_up (va_up ar 10 (wrt P K f0 n)) 20 (pre i (fun _ => -1) (ar 20))) (va_up fl 12 0)) H locs → lv_has ls 4 [(0, .ref (ad 0)), (1, .int (nI i))] → W p l e rm_MD_findPairs s m args below meth c H locs 0 0 Q (F0 m 7 ls []) := by
    intro fu
    induction fu with
    | zero => intro i hm; exact absurd hm (Nat.not_lt_zero _)
    | succ fu ih7 =>
      intro i hm hi H locs ls hI hl
      refine lv_iload_n hx hb d_MD_findPairs_7 rfl (lv_at hl 1 rfl) ?_
      refine lv_aload_n hx hb d_MD_findPairs_8 rfl (lv_at hl 0 rfl) ?_
      refine g_MD_155 M hI d_MD_findPairs_9 ?_
      refine q_as (y := nI n) hn ?_
      refine lv_icmp_ge (tgt := 28) hx hb d_MD_findPairs_12 (by decide) (fun c12 => ?_) (fun c12 => ?_)
      · have c12 : n ≤ i := (nI_leI (a := n) (b := i) (by omega) (by omega)).mp c12
        have e9 : i = n := by omega
        have hI := CI.to (w2 := mw g ad (va_up (va_up ar 10 (wrt P K f0 n)) 20 (pre n (fun _ => -1) (ar 20))) (va_up fl 12 0)) hI (by rw [e9])
        refine lv_iconst (v := 0) hx hb d_MD_findPairs_28 (by decide) ?_
        refine lv_istore_n (lv' := [(1, .int 0), (0, .ref (ad 0))]) hx hb d_MD_findPairs_29 rfl hl (by decide) rfl (fun ls hl => ?_)
        have L30 : ∀ (fu : Nat) (i : Nat) (st : List (Nat × Int32)) (pr : Nat → Int32) (y9 : Nat → Int32), (n - i) < fu → (i ≤ n) → (wrel y9 st) → (∀ a ∈ st, (a.1 < n ∧ a.2 = lk (ar 5) (ar 6) (ar 1 (P a.1)) bn) ∧ a.2 ≠ -1) → (st.length ≤ 63) → (bfind K (fun j => ar 1 (P j)) (fun x => lk (ar 5) (ar 6) x bn) (n - 0) 0 [] (pre n (fun _ => -1) (ar 20)) = bfind K (fun j => ar 1 (P j)) (fun x => lk (ar 5) (ar 6) x bn) (n - i) i st pr) → ∀ (H : Heap) (locs : List Loc) (ls : Array Slot), CI g A s (mw g ad (va_up (va_up (va_up ar 10 (wrt P K f0 n)) 19 y9) 20 pr) (va_up fl 12 (nI st.length))) H locs → lv_has ls 4 [(0, .ref (ad 0)), (1, .int (nI i))] → W p l e rm_MD_findPairs s m args below meth c H locs 0 0 Q (F0 m 30 ls []) := by
          intro fu
          induction fu with
          | zero => intro i st pr y9 hm; exact absurd hm (Nat.not_lt_zero _)
          | succ fu ih30 =>
            intro i st pr y9 hm hi hwr hst h63 hq H locs ls hI hl
            refine lv_iload_n hx hb d_MD_findPairs_30 rfl (lv_at hl 1 rfl) ?_
            refine lv_aload_n hx hb d_MD_findPairs_31 rfl (lv_at hl 0 rfl) ?_
            refine g_MD_155 M hI d_MD_findPairs_32 ?_
            refine q_as (y := nI n) hn ?_
            refine lv_icmp_ge (tgt := 135) hx hb d_MD_findPairs_35 (by decide) (fun c35 => ?_) (fun c35 => ?_)
            · have c35 : n ≤ i := (nI_leI (a := n) (b := i) (by omega) (by omega)).mp c35
              have eQ : bfind K (fun j => ar 1 (P j)) (fun x => lk (ar 5) (ar 6) x bn) (n - 0) 0 [] (pre n (fun _ => -1) (ar 20)) = pr := by rw [hq, show n - i = 0 by omega]; rfl
              have hI := CI.to (w2 := mw g ad (va_up (va_up ar 19 y9) 20 (bfind K (fun j => ar 1 (P j)) (fun x => lk (ar 5) (ar 6) x bn) (n - 0) 0 [] (pre n (fun _ => -1) (ar 20)))) (va_up fl 12 (nI st.length))) hI (by rw [eQ, ← hw] <;> rfl)
              exact hret (y9, st.length) _ _ _ _ _ _ d_MD_findPairs_135 hI (trivial) (Nat.le_refl 0) (Nat.le_refl 0)
            · have c35 : ¬ n ≤ i := fun h => c35 ((nI_leI (a := n) (b := i) (by omega) (by omega)).mpr h)
              have hbs := bfind_s (now := K) (ch := (fun j => ar 1 (P j))) (oth := (fun x => lk (ar 5) (ar 6) x bn)) (n := n) (i := i) (st := st) (pr := pr) (by omega)
              refine lv_aload_n hx hb d_MD_findPairs_38 rfl (lv_at hl 0 rfl) ?_
              refine g_MD_7 M hI d_MD_findPairs_39 ?_
              refine lv_aload_n hx hb d_MD_findPairs_42 rfl (lv_at hl 0 rfl) ?_
              refine g_MD_62 M hI d_MD_findPairs_43 ?_
              refine lv_iload_n hx hb d_MD_findPairs_46 rfl (lv_at hl 1 rfl) ?_
              refine bl_18 M hI i rfl (by omega) d_MD_findPairs_47 ?_
              refine q_as (y := nI (P i)) (hP _ (by omega)) ?_
              refine bl_1 M hI (P i) rfl (hPb _ (by omega)) d_MD_findPairs_48 ?_
              refine q_as (y := ar 1 (P i)) rfl ?_
              refine lv_istore_n (lv' := [(2, .int (ar 1 (P i))), (0, .ref (ad 0)), (1, .int (nI i))]) hx hb d_MD_findPairs_49 rfl hl (by decide) rfl (fun ls hl => ?_)
              refine lv_aload_n hx hb d_MD_findPairs_50 rfl (lv_at hl 1 rfl) ?_
              refine lv_iload_n hx hb d_MD_findPairs_51 rfl (lv_at hl 2 rfl) ?_
              refine q_calliV [.int (nI i)] M hI (c_MD_kindAt l g ad (va_up (va_up (va_up ar 10 (wrt P K f0 n)) 19 y9) 20 pr) (va_up fl 12 (nI st.length)) (nI i) n P K f0 (by first | exact hn | assumption | omega | rfl) (by first | exact hN | assumption | omega | rfl) (by first | exact hP | assumption | omega | rfl) (by first | exact hPb | assumption | omega | rfl) (by first | exact hij | assumption | omega | rfl) (rfl)) ok_MD_kindAt m5_169 m5_171 ms_66 0 rfl rfl rfl rfl hl.1 ⟨rfl, rfl⟩ ⟨Nat.le_of_ble_eq_true rfl, Nat.le_of_ble_eq_true rfl⟩ (Nat.le_of_ble_eq_true rfl) ⟨Nat.le_of_ble_eq_true rfl, Nat.le_of_ble_eq_true rfl⟩ d_MD_findPairs_52 (fun r52 u52 H locs hp52 hI => ?_)
              refine q_as (y := kAt n (fl 9) (fl 10) K (nI i)) hp52 ?_
              refine q_as (y := K i) (kAt_n (by omega) (by omega)) ?_
              refine lv_bipush (v := 13) hx hb d_MD_findPairs_55 (by decide) ?_
              refine lv_icmp_ne (tgt := 64) hx hb d_MD_findPairs_57 (by decide) (fun c57 => ?_) (fun c57 => ?_)
              · have hq9 := hq.trans (hbs.trans (if_neg c57))
                have hb9 := hwr
                have hs9 := hst
                have h69 := h63
                refine lv_iconst (v := 0) hx hb d_MD_findPairs_64 (by decide) ?_
                refine lv_istore_n (lv' := [(3, .int 0), (2, .int (ar 1 (P i))), (0, .ref (ad 0)), (1, .int (nI i))]) hx hb d_MD_findPairs_65 rfl hl (by decide) rfl (fun ls hl => ?_)
                refine lv_iload_n hx hb d_MD_findPairs_66 rfl (lv_at hl 0 rfl) ?_
                refine lv_if_eq (tgt := 111) hx hb d_MD_findPairs_67 (by decide) (fun c67 => ?_) (fun c67 => ?_)
                · have c67 : 0 = 0 := (nI_eq (a := 0) (b := 0) (by omega) (by omega)).mp c67
                  refine lv_iload_n hx hb d_MD_findPairs_111 rfl (lv_at hl 0 rfl) ?_
                  refine lv_if_eq (tgt := 129) hx hb d_MD_findPairs_112 (by decide) (fun c112 => ?_) (fun c112 => ?_)
                  · have c112 : 0 = 0 := (nI_eq (a := 0) (b := 0) (by omega) (by omega)).mp c112
                    refine lv_iinc (v := nI (i + 1)) (lv' := [(1, .int (nI (i + 1))), (3, .int 0), (2, .int (ar 1 (P i))), (0, .ref (ad 0))]) hx hb d_MD_findPairs_129 hl (k := 3) rfl (nI_add _ 1) (by decide) rfl (fun ls hl => ?_)
                    refine lv_goto (tgt := 30) hx hb d_MD_findPairs_132 (by decide) ?_
                    exact ih30 (i + 1) st pr y9 (by omega) (by first | assumption | omega) (hb9) (hs9) (h69) (hq9) _ _ _ hI (lv_sub hl [3, 0] rfl)
                  · have c112 : ¬ 0 = 0 := fun h => c112 ((nI_eq (a := 0) (b := 0) (by omega) (by omega)).mpr h)
                    exfalso; omega
                · have c67 : ¬ 0 = 0 := fun h => c67 ((nI_eq (a := 0) (b := 0) (by omega) (by omega)).mpr h)
                  exfalso; omega
              · refine lv_iconst (v := 1) hx hb d_MD_findPairs_60 (by decide) ?_
                refine lv_goto (tgt := 65) hx hb d_MD_findPairs_61 (by decide) ?_
                refine lv_istore_n (lv' := [(3, .int 1), (2, .int (ar 1 (P i))), (0, .ref (ad 0)), (1, .int (nI i))]) hx hb d_MD_findPairs_65 rfl hl (by decide) rfl (fun ls hl => ?_)
                refine lv_iload_n hx hb d_MD_findPairs_66 rfl (lv_at hl 0 rfl) ?_
                refine lv_if_eq (tgt := 111) hx hb d_MD_findPairs_67 (by decide) (fun c67 => ?_) (fun c67 => ?_)
                · have c67 : 1 = 0 := (nI_eq (a := 1) (b := 0) (by omega) (by omega)).mp c67
                  exfalso; omega
                · have c67 : ¬ 1 = 0 := fun h => c67 ((nI_eq (a := 1) (b := 0) (by omega) (by omega)).mpr h)
                  refine lv_aload_n hx hb d_MD_findPairs_70 rfl (lv_at hl 2 rfl) ?_
                  refine lv_iload_n hx hb d_MD_findPairs_71 rfl (lv_at hl 1 rfl) ?_
                  refine q_calliV [.int (ar 1 (P i))] M hI (c_MD_asked l g ad (va_up (va_up (va_up ar 10 (wrt P K f0 n)) 19 y9) 20 pr) (va_up fl 12 (nI st.length)) (ar 1 (P i)) bn (by first | exact hbn | assumption | omega | rfl) (by first | exact hbN | assumption | omega | rfl)) ok_MD_asked m5_68 m5_70 ms_47 0 rfl rfl rfl rfl hl.1 ⟨rfl, rfl⟩ ⟨Nat.le_of_ble_eq_true rfl, Nat.le_of_ble_eq_true rfl⟩ (Nat.le_of_ble_eq_true rfl) ⟨Nat.le_of_ble_eq_true rfl, Nat.le_of_ble_eq_true rfl⟩ d_MD_findPairs_72 (fun r72 u72 H locs hp72 hI => ?_)
                  refine q_as (y := lk (ar 5) (ar 6) (ar 1 (P i)) bn) hp72 ?_
                  refine lv_if_lt (tgt := 111) hx hb d_MD_findPairs_75 (by decide) (fun c75 => ?_) (fun c75 => ?_)
                  · have hm1 := lk_nn bn hb0 c75
                    have hq8 := hq.trans (hbs.trans ((if_pos c57).trans (if_pos hm1)))
                    refine lv_iload_n hx hb d_MD_findPairs_111 rfl (lv_at hl 0 rfl) ?_
                    refine lv_if_eq (tgt := 129) hx hb d_MD_findPairs_112 (by decide) (fun c112 => ?_) (fun c112 => ?_)
                    · have c112 : 1 = 0 := (nI_eq (a := 1) (b := 0) (by omega) (by omega)).mp c112
                      exfalso; omega
                    · have c112 : ¬ 1 = 0 := fun h => c112 ((nI_eq (a := 1) (b := 0) (by omega) (by omega)).mpr h)
                      refine lv_aload_n hx hb d_MD_findPairs_115 rfl (lv_at hl 2 rfl) ?_
                      refine lv_iload_n hx hb d_MD_findPairs_116 rfl (lv_at hl 1 rfl) ?_
                      refine q_calliV [.int (ar 1 (P i))] M hI (c_MD_closes l g ad (va_up (va_up (va_up ar 10 (wrt P K f0 n)) 19 y9) 20 pr) (va_up fl 12 (nI st.length)) (ar 1 (P i)) bn (by first | exact hbn | assumption | omega | rfl) (by first | exact hbN | assumption | omega | rfl)) ok_MD_closes m5_72 m5_74 ms_48 0 rfl rfl rfl rfl hl.1 ⟨rfl, rfl⟩ ⟨Nat.le_of_ble_eq_true rfl, Nat.le_of_ble_eq_true rfl⟩ (Nat.le_of_ble_eq_true rfl) ⟨Nat.le_of_ble_eq_true rfl, Nat.le_of_ble_eq_true rfl⟩ d_MD_findPairs_117 (fun r117 u117 H locs hp117 hI => ?_)
                      refine q_as (y := bI (clo (ar 6) (ar 1 (P i)) bn)) hp117 ?_
                      refine lv_if_eq (tgt := 129) hx hb d_MD_findPairs_120 (by decide) (fun c120 => ?_) (fun c120 => ?_)
                      · have c120 := bI_eq0.mp c120
                        have hcn := cb_no (x := ar 1 (P i)) (st := st) (fun a ha q => c120 (by have h1 := (hst a ha).1.2; have h2 := (hst a ha).2; rw [← q, h1]; rw [h1] at h2; exact lk_clo bn h2))
                        rw [hcn.1, hcn.2] at hq8
                        have hq9 := hq8
                        have hb9 := hwr
                        have hs9 := hst
                        have h69 := h63
                        refine lv_iinc (v := nI (i + 1)) (lv' := [(1, .int (nI (i + 1))), (3, .int 1), (2, .int (ar 1 (P i))), (0, .ref (ad 0))]) hx hb d_MD_findPairs_129 hl (k := 3) rfl (nI_add _ 1) (by decide) rfl (fun ls hl => ?_)
                        refine lv_goto (tgt := 30) hx hb d_MD_findPairs_132 (by decide) ?_
                        exact ih30 (i + 1) st pr y9 (by omega) (by first | assumption | omega) (hb9) (hs9) (h69) (hq9) _ _ _ hI (lv_sub hl [3, 0] rfl)
                      · have c120 := bI_ne0.mp c120
                        have hq9 := hq8
                        have hb9 := cbS_wrel (x := ar 1 (P i)) hwr
                        have hs9 : ∀ a ∈ cbS (ar 1 (P i)) st, (a.1 < n ∧ a.2 = lk (ar 5) (ar 6) (ar 1 (P a.1)) bn) ∧ a.2 ≠ -1 := fun a h => hst a (cbS_in.1 a h)
                        have h69 := Nat.le_trans (cbS_in (x := ar 1 (P i)) (st := st)).2 h63
                        refine lv_aload_n hx hb d_MD_findPairs_123 rfl (lv_at hl 2 rfl) ?_
                        refine lv_iload_n hx hb d_MD_findPairs_124 rfl (lv_at hl 3 rfl) ?_
                        refine lv_iload_n hx hb d_MD_findPairs_125 rfl (lv_at hl 1 rfl) ?_
                        refine q_callvV [.int (nI i), .int (ar 1 (P i))] M hI (c_MD_closePair l g ad (va_up (va_up (va_up ar 10 (wrt P K f0 n)) 19 y9) 20 pr) (va_up fl 12 (nI st.length)) i (ar 1 (P i)) n bn P st (by first | exact hN | assumption | omega | rfl) (by first | exact hP | assumption | omega | rfl) (by first | exact hPb | assumption | omega | rfl) (by first | exact hbn | assumption | omega | rfl) (by first | exact hbN | assumption | omega | rfl) (rfl) (hwr) (fun a ha => (hst a ha).1) (h63)) ok_MD_closePair m5_193 m5_195 ms_72 0 rfl rfl rfl rfl hl.1 ⟨rfl, rfl⟩ ⟨Nat.le_of_ble_eq_true rfl, Nat.le_of_ble_eq_true rfl⟩ (Nat.le_of_ble_eq_true rfl) ⟨Nat.le_of_ble_eq_true rfl, Nat.le_of_ble_eq_true rfl⟩ d_MD_findPairs_126 (fun u126 H locs hp126 hI => ?_)
                        have hI : CI g A s (mw g ad (va_up (va_up (va_up ar 10 (wrt P K f0 n)) 19 y9) 20 (cbP (ar 1 (P i)) st i pr)) (va_up fl 12 (nI (cbS (ar 1 (P i)) st).length))) H locs := hI
                        refine lv_iinc (v := nI (i + 1)) (lv' := [(1, .int (nI (i + 1))), (3, .int 1), (2, .int (ar 1 (P i))), (0, .ref (ad 0))]) hx hb d_MD_findPairs_129 hl (k := 3) rfl (nI_add _ 1) (by decide) rfl (fun ls hl => ?_)
                        refine lv_goto (tgt := 30) hx hb d_MD_findPairs_132 (by decide) ?_
                        exact ih30 (i + 1) (cbS (ar 1 (P i)) st) (cbP (ar 1 (P i)) st i pr) y9 (by omega) (by first | assumption | omega) (hb9) (hs9) (h69) (hq9) _ _ _ hI (lv_sub hl [3, 0] rfl)
                  · have hm1 : ¬ lk (ar 5) (ar 6) (ar 1 (P i)) bn = -1 := fun q => c75 (by rw [q]; decide)
                    refine lv_aload_n hx hb d_MD_findPairs_78 rfl (lv_at hl 2 rfl) ?_
                    refine g_MD_193 M hI d_MD_findPairs_79 ?_
                    refine q_as (y := nI st.length) rfl ?_
                    refine lv_bipush (v := 63) hx hb d_MD_findPairs_82 (by decide) ?_
                    refine lv_icmp_ne (tgt := 88) hx hb d_MD_findPairs_84 (by decide) (fun c84 => ?_) (fun c84 => ?_)
                    · have c84 : ¬ st.length = 63 := fun h => c84 ((nI_eq (a := st.length) (b := 63) (by omega) (by omega)).mpr h)
                      have hq9 := hq.trans (hbs.trans ((if_pos c57).trans ((if_neg hm1).trans (if_pos (by omega)))))
                      have hb9 := wrel_push (i := i) (x := lk (ar 5) (ar 6) (ar 1 (P i)) bn) hwr
                      have hs9 : ∀ a ∈ (i, lk (ar 5) (ar 6) (ar 1 (P i)) bn) :: st, (a.1 < n ∧ a.2 = lk (ar 5) (ar 6) (ar 1 (P a.1)) bn) ∧ a.2 ≠ -1 := fun a h => by rcases List.mem_cons.mp h with q | q; (rw [q]; exact ⟨⟨by show i < n; omega, rfl⟩, hm1⟩); exact hst a q
                      have h69 : ((i, lk (ar 5) (ar 6) (ar 1 (P i)) bn) :: st).length ≤ 63 := by simp only [List.length_cons]; omega
                      refine lv_aload_n hx hb d_MD_findPairs_88 rfl (lv_at hl 2 rfl) ?_
                      refine g_MD_65 M hI d_MD_findPairs_89 ?_
                      refine lv_aload_n hx hb d_MD_findPairs_92 rfl (lv_at hl 2 rfl) ?_
                      refine g_MD_193 M hI d_MD_findPairs_93 ?_
                      refine q_as (y := nI st.length) rfl ?_
                      refine lv_iload_n hx hb d_MD_findPairs_96 rfl (lv_at hl 3 rfl) ?_
                      refine bs_19 M hI st.length rfl (by omega) d_MD_findPairs_97 (fun H locs hI => ?_)
                      have hI : CI g A s (mw g ad (va_up (va_up (va_up ar 10 (wrt P K f0 n)) 20 pr) 19 (upd y9 st.length (nI i))) (va_up fl 12 (nI st.length))) H locs := hI
                      refine lv_aload_n hx hb d_MD_findPairs_98 rfl (lv_at hl 2 rfl) ?_
                      refine lv_dup hx hb d_MD_findPairs_99 rfl ?_
                      refine g_MD_193 M hI d_MD_findPairs_100 ?_
                      refine q_as (y := nI st.length) rfl ?_
                      refine lv_iconst (v := 1) hx hb d_MD_findPairs_103 (by decide) ?_
                      refine lv_iadd hx hb d_MD_findPairs_104 ?_
                      refine q_as (y := nI (st.length + 1)) (nI_add st.length 1) ?_
                      refine p_MD_193 M hI d_MD_findPairs_105 (fun H locs hI => ?_)
                      have hI : CI g A s (mw g ad (va_up (va_up (va_up ar 10 (wrt P K f0 n)) 20 pr) 19 (upd y9 st.length (nI i))) (va_up fl 12 (nI (st.length + 1)))) H locs := hI
                      refine lv_goto (tgt := 129) hx hb d_MD_findPairs_108 (by decide) ?_
                      refine lv_iinc (v := nI (i + 1)) (lv' := [(1, .int (nI (i + 1))), (3, .int 1), (2, .int (ar 1 (P i))), (0, .ref (ad 0))]) hx hb d_MD_findPairs_129 hl (k := 3) rfl (nI_add _ 1) (by decide) rfl (fun ls hl => ?_)
                      refine lv_goto (tgt := 30) hx hb d_MD_findPairs_132 (by decide) ?_
                      exact ih30 (i + 1) ((i, lk (ar 5) (ar 6) (ar 1 (P i)) bn) :: st) pr (upd y9 st.length (nI i)) (by omega) (by first | assumption | omega) (hb9) (hs9) (h69) (hq9) _ _ _ hI (lv_sub hl [3, 0] rfl)
                    · have c84 : st.length = 63 := (nI_eq (a := st.length) (b := 63) (by omega) (by omega)).mp c84
                      have eQ : bfind K (fun j => ar 1 (P j)) (fun x => lk (ar 5) (ar 6) x bn) (n - 0) 0 [] (pre n (fun _ => -1) (ar 20)) = pr := hq.trans (hbs.trans ((if_pos c57).trans ((if_neg hm1).trans (if_neg (by omega)))))
                      have hI := CI.to (w2 := mw g ad (va_up (va_up ar 19 y9) 20 (bfind K (fun j => ar 1 (P j)) (fun x => lk (ar 5) (ar 6) x bn) (n - 0) 0 [] (pre n (fun _ => -1) (ar 20)))) (va_up fl 12 (nI st.length))) hI (by rw [eQ, ← hw] <;> rfl)
                      exact hret (y9, st.length) _ _ _ _ _ _ d_MD_findPairs_87 hI (trivial) (Nat.le_refl 0) (Nat.le_refl 0)
        have hI := CI.to (w2 := mw g ad (va_up (va_up (va_up ar 10 (wrt P K f0 n)) 19 (ar 19)) 20 (pre n (fun _ => -1) (ar 20))) (va_up fl 12 (nI ([] : List (Nat × Int32)).length))) hI (by rfl)
        exact L30 _ 0 ([] : List (Nat × Int32)) (pre n (fun _ => -1) (ar 20)) (ar 19) (Nat.lt_succ_self _) (by first | assumption | omega) (trivial) (fun a h => absurd h List.not_mem_nil) (Nat.zero_le _) (rfl) _ _ _ hI (lv_sub hl [1, 0] rfl)
      · have c12 : ¬ n ≤ i := fun h => c12 ((nI_leI (a := n) (b := i) (by omega) (by omega)).mpr h)
        refine lv_aload_n hx hb d_MD_findPairs_15 rfl (lv_at hl 0 rfl) ?_
        refine g_MD_68 M hI d_MD_findPairs_16 ?_
        refine lv_iload_n hx hb d_MD_findPairs_19 rfl (lv_at hl 1 rfl) ?_
        refine lv_iconst (v := (-1)) hx hb d_MD_findPairs_20 (by decide) ?_
        refine bs_20 M hI i rfl (by omega) d_MD_findPairs_21 (fun H locs hI => ?_)
        have hI : CI g A s (mw g ad (va_up (va_up ar 10 (wrt P K f0 n)) 20 (upd (pre i (fun _ => -1) (ar 20)) i (-1))) (va_up fl 12 0)) H locs := hI
        rw [show upd (pre i (fun _ => -1) (ar 20)) i (-1) = pre (i + 1) (fun _ => -1) (ar 20) from pre_up rfl] at hI
        have hI : CI g A s (mw g ad (va_up (va_up ar 10 (wrt P K f0 n)) 20 (pre (i + 1) (fun _ => -1) (ar 20))) (va_up fl 12 0)) H locs := hI
        refine lv_iinc (v := nI (i + 1)) (lv' := [(1, .int (nI (i + 1))), (0, .ref (ad 0))]) hx hb d_MD_findPairs_22 hl (k := 1) rfl (nI_add _ 1) (by decide) rfl (fun ls hl => ?_)
        refine lv_goto (tgt := 7) hx hb d_MD_findPairs_25 (by decide) ?_
        exact ih7 (i + 1) (by omega) (by first | assumption | omega) _ _ _ hI (lv_sub hl [1, 0] rfl)
  have hI := CI.to (w2 := mw g ad (va_up (va_up ar 10 (wrt P K f0 n)) 20 (pre 0 (fun _ => -1) (ar 20))) (va_up fl 12 0)) hI (by rw [pre_0] <;> rfl)
  exact L7 _ 0 (Nat.lt_succ_self _) (by first | assumption | omega) _ _ _ hI (lv_sub hl [1, 0] rfl)
