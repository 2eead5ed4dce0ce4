/-! 77: the model: resolve -/
theorem clsOf_in {rf rl rk : Nat → Int32} {x : Int32} : ∀ n, (∀ j, j < n → rk j ∈ kAll) → clsOf rf rl rk x n ∈ kAll
  | 0, _ => by simp [clsOf, kAll]
  | n + 1, h => by
    simp only [clsOf]
    split
    · exact h n (by omega)
    · exact clsOf_in n (fun j hj => h j (by omega))
abbrev rm_MD_resolve : Room := { frames := 6, cells := 0, slots := 0, locals := 141 }
set_option maxHeartbeats 4000000 in
set_option maxRecDepth 100000 in
theorem c_MD_resolve (l : Launch) (g : Geo) (ad : Nat → Nat) (ar : Nat → Nat → Int32) (fl : Nat → Int32) (told : Nat) (cn rn bn : Nat) (htl : told ≤ 2) (hcn : fl 1 = nI cn) (hcN : cn ≤ 2000) (hrn : fl 2 = nI rn) (hrN : rn ≤ 100) (hrk : ∀ j, j < rn → ar 4 j ∈ kAll) (hmt0 : okM (ar 13)) (hbn : fl 3 = nI bn) (hbN : bn ≤ 40) (hb0 : ∀ j, j < bn → 0 ≤ ar 6 j) : cMi l y_MD_resolve (.code y_MD_resolve b_MD_resolve 4 (some .int) :: gw) rm_MD_resolve g [.ref (ad 0), .int (nI told)] (mw g ad ar fl) (fun (r : Int32) (u : (Nat → Int32) × (Nat → Int32) × (Nat → Int32) × (Nat → Int32) × (Nat → Int32) × (Nat → Int32) × (Nat → Int32) × (Nat → Int32) × (Nat → Int32) × Int32 × Int32 × Int32 × Int32 × Int32 × Int32) => r = nI ((pgL u.1 cn cn).1.length) ∧ u.1 = pre cn (fun j => clsOf (ar 2) (ar 3) (ar 4) (ar 1 j) rn) (ar 9) ∧ okM (mT u.1 (ar 1) (fun x => lk (ar 5) (ar 6) x bn) told (pgL u.1 cn cn).1 (ar 13, ar 12, ar 10) (pgL u.1 cn cn).1.length).1 ∧ ∀ j, j < (pgL u.1 cn cn).1.length → u.2.2.1 (4 * j) = nI (pgAt (pgL u.1 cn cn).1 j).1 ∧ u.2.2.1 (4 * j + 1) = nI (pgAt (pgL u.1 cn cn).1 j).2 ∧ u.2.2.1 (4 * j + 2) = nI (pB u.1 told (pgAt (pgL u.1 cn cn).1 j).1 (pgAt (pgL u.1 cn cn).1 j).2 (mT u.1 (ar 1) (fun x => lk (ar 5) (ar 6) x bn) told (pgL u.1 cn cn).1 (ar 13, ar 12, ar 10) j).1) ∧ u.2.2.1 (4 * j + 3) = nI (pN u.1 told (pgAt (pgL u.1 cn cn).1 j).1 (pgAt (pgL u.1 cn cn).1 j).2 (mT u.1 (ar 1) (fun x => lk (ar 5) (ar 6) x bn) told (pgL u.1 cn cn).1 (ar 13, ar 12, ar 10) j).1 (mT u.1 (ar 1) (fun x => lk (ar 5) (ar 6) x bn) told (pgL u.1 cn cn).1 (ar 13, ar 12, ar 10) j).2.1)) (fun (u : (Nat → Int32) × (Nat → Int32) × (Nat → Int32) × (Nat → Int32) × (Nat → Int32) × (Nat → Int32) × (Nat → Int32) × (Nat → Int32) × (Nat → Int32) × Int32 × Int32 × Int32 × Int32 × Int32 × Int32) => mw g ad (ARM (ar 1) (ar 2) (ar 3) (ar 4) (ar 5) (ar 6) (ar 7) (ar 8) u.1 ((mT u.1 (ar 1) (fun x => lk (ar 5) (ar 6) x bn) told (pgL u.1 cn cn).1 (ar 13, ar 12, ar 10) (pgL u.1 cn cn).1.length).2.2) u.2.1 ((mT u.1 (ar 1) (fun x => lk (ar 5) (ar 6) x bn) told (pgL u.1 cn cn).1 (ar 13, ar 12, ar 10) (pgL u.1 cn cn).1.length).2.1) ((mT u.1 (ar 1) (fun x => lk (ar 5) (ar 6) x bn) told (pgL u.1 cn cn).1 (ar 13, ar 12, ar 10) (pgL u.1 cn cn).1.length).1) u.2.2.1 u.2.2.2.1 u.2.2.2.2.1 u.2.2.2.2.2.1 u.2.2.2.2.2.2.1 u.2.2.2.2.2.2.2.1 u.2.2.2.2.2.2.2.2.1 (ar 21) (ar 22)) (FLM 0 (fl 1) (fl 2) (fl 3) (fl 4) 1 (nI (pgL u.1 cn cn).1.length) u.2.2.2.2.2.2.2.2.2.1 u.2.2.2.2.2.2.2.2.2.2.1 u.2.2.2.2.2.2.2.2.2.2.2.1 u.2.2.2.2.2.2.2.2.2.2.2.2.1 u.2.2.2.2.2.2.2.2.2.2.2.2.2.1 u.2.2.2.2.2.2.2.2.2.2.2.2.2.2 0 (fl 14))) 0 0 := by
  refine cMi_of (by decide) (Nat.le_of_ble_eq_true rfl) ?_
  intro p e s m below meth c A Q ls M hret hl hI
  have M : MC p s m ([.ref (ad 0), .int (nI told)] : List Value).toArray meth c R_MD b_MD_resolve 4 := M
  have hl : lv_has ls 4 [(0, .ref (ad 0)), (1, .int (nI told))] := hl
  generalize ([.ref (ad 0), .int (nI told)] : List Value).toArray = args at M hret ⊢
  have hx := M.1
  have hb := M.2.1
  have hI := CI.to (w2 := mw g ad (ARM (ar 1) (ar 2) (ar 3) (ar 4) (ar 5) (ar 6) (ar 7) (ar 8) (ar 9) (ar 10) (ar 11) (ar 12) (ar 13) (ar 14) (ar 15) (ar 16) (ar 17) (ar 18) (ar 19) (ar 20) (ar 21) (ar 22)) (FLM (fl 0) (fl 1) (fl 2) (fl 3) (fl 4) (fl 5) (fl 6) (fl 7) (fl 8) (fl 9) (fl 10) (fl 11) (fl 12) (fl 13) (fl 14))) hI rfl
  refine lv_aload_n hx hb d_MD_resolve_0 rfl (lv_at hl 0 rfl) ?_
  refine lv_iload_n hx hb d_MD_resolve_1 rfl (lv_at hl 1 rfl) ?_
  refine lv_if_lt (tgt := 10) hx hb d_MD_resolve_2 (by decide) (fun c2 => ?_) (fun c2 => ?_)
  · have c2 : told < 0 := (nI_ltI (a := told) (b := 0) (by omega) (by omega)).mp c2
    exfalso; omega
  · have c2 : ¬ told < 0 := fun h => c2 ((nI_ltI (a := told) (b := 0) (by omega) (by omega)).mpr h)
    refine lv_iload_n hx hb d_MD_resolve_5 rfl (lv_at hl 1 rfl) ?_
    refine lv_iconst (v := 2) hx hb d_MD_resolve_6 (by decide) ?_
    refine lv_icmp_le (tgt := 14) hx hb d_MD_resolve_7 (by decide) (fun c7 => ?_) (fun c7 => ?_)
    · have c7 : told ≤ 2 := (nI_leI (a := told) (b := 2) (by omega) (by omega)).mp c7
      refine lv_iconst (v := 0) hx hb d_MD_resolve_14 (by decide) ?_
      refine q_calliV [.int 0] M hI (c_MD_refused l g ad (ARM (ar 1) (ar 2) (ar 3) (ar 4) (ar 5) (ar 6) (ar 7) (ar 8) (ar 9) (ar 10) (ar 11) (ar 12) (ar 13) (ar 14) (ar 15) (ar 16) (ar 17) (ar 18) (ar 19) (ar 20) (ar 21) (ar 22)) (FLM (fl 0) (fl 1) (fl 2) (fl 3) (fl 4) (fl 5) (fl 6) (fl 7) (fl 8) (fl 9) (fl 10) (fl 11) (fl 12) (fl 13) (fl 14)) 0) ok_MD_refused m5_56 m5_58 ms_45 0 rfl rfl rfl rfl hl.1 ⟨rfl, rfl⟩ ⟨Nat.le_of_ble_eq_true rfl, Nat.le_of_ble_eq_true rfl⟩ (Nat.le_of_ble_eq_true rfl) ⟨Nat.le_of_ble_eq_true rfl, Nat.le_of_ble_eq_true rfl⟩ d_MD_resolve_15 (fun r15 u15 H locs hp15 hI => ?_)
      have hI : CI g A s (mw g ad (ARM (ar 1) (ar 2) (ar 3) (ar 4) (ar 5) (ar 6) (ar 7) (ar 8) (ar 9) (ar 10) (ar 11) (ar 12) (ar 13) (ar 14) (ar 15) (ar 16) (ar 17) (ar 18) (ar 19) (ar 20) (ar 21) (ar 22)) (FLM 0 (fl 1) (fl 2) (fl 3) (fl 4) (fl 5) (fl 6) (fl 7) (fl 8) (fl 9) (fl 10) (fl 11) (fl 12) (fl 13) (fl 14))) H locs := hI
      refine q_as (y := bI (¬ 0 ≤ 0)) hp15 ?_
      refine lv_if_eq (tgt := 23) hx hb d_MD_resolve_18 (by decide) (fun c18 => ?_) (fun c18 => ?_)
      · have c18 := bI_eq0.mp c18
        refine lv_iconst (v := 0) hx hb d_MD_resolve_23 (by decide) ?_
        refine lv_istore_n (lv' := [(2, .int 0), (0, .ref (ad 0)), (1, .int (nI told))]) hx hb d_MD_resolve_24 rfl hl (by decide) rfl (fun ls hl => ?_)
        have L25 : ∀ (fu : Nat) (i : Nat), (cn - i) < fu → (i ≤ cn) → ∀ (H : Heap) (locs : List Loc) (ls : Array Slot), CI g A s (mw g ad (ARM (ar 1) (ar 2) (ar 3) (ar 4) (ar 5) (ar 6) (ar 7) (ar 8) (pre i (fun j => clsOf (ar 2) (ar 3) (ar 4) (ar 1 j) rn) (ar 9)) (ar 10) (ar 11) (ar 12) (ar 13) (ar 14) (ar 15) (ar 16) (ar 17) (ar 18) (ar 19) (ar 20) (ar 21) (ar 22)) (FLM 0 (fl 1) (fl 2) (fl 3) (fl 4) (fl 5) (fl 6) (fl 7) (fl 8) (fl 9) (fl 10) (fl 11) (fl 12) (fl 13) (fl 14))) H locs → lv_has ls 4 [(0, .ref (ad 0)), (1, .int (nI told)), (2, .int (nI i))] → W p l e rm_MD_resolve s m args below meth c H locs 0 0 Q (F0 m 25 ls []) := by
          intro fu
          induction fu with
          | zero => intro i hm; exact absurd hm (Nat.not_lt_zero _)
          | succ fu ih25 =>
            intro i hm hi H locs ls hI hl
            refine lv_iload_n hx hb d_MD_resolve_25 rfl (lv_at hl 2 rfl) ?_
            refine lv_aload_n hx hb d_MD_resolve_26 rfl (lv_at hl 0 rfl) ?_
            refine g_MD_119 M hI d_MD_resolve_27 ?_
            refine q_as (y := nI cn) hcn ?_
            refine lv_icmp_ge (tgt := 55) hx hb d_MD_resolve_30 (by decide) (fun c30 => ?_) (fun c30 => ?_)
            · have c30 : cn ≤ i := (nI_leI (a := cn) (b := i) (by omega) (by omega)).mp c30
              obtain ⟨fs, efs⟩ : ∃ z, z = pre cn (fun j => clsOf (ar 2) (ar 3) (ar 4) (ar 1 j) rn) (ar 9) := ⟨_, rfl⟩
              have hfk : ∀ x, x < cn → fs x ∈ kAll := fun x hx => by rw [efs, pre_lo hx]; exact clsOf_in rn hrk
              have hI := CI.to (w2 := mw g ad (ARM (ar 1) (ar 2) (ar 3) (ar 4) (ar 5) (ar 6) (ar 7) (ar 8) fs (ar 10) (ar 11) (ar 12) (ar 13) (ar 14) (ar 15) (ar 16) (ar 17) (ar 18) (ar 19) (ar 20) (ar 21) (ar 22)) (FLM 0 (fl 1) (fl 2) (fl 3) (fl 4) (fl 5) (fl 6) (fl 7) (fl 8) (fl 9) (fl 10) (fl 11) (fl 12) (fl 13) (fl 14))) hI (by rw [efs, show i = cn by omega])
              refine lv_aload_n hx hb d_MD_resolve_55 rfl (lv_at hl 0 rfl) ?_
              refine lv_iconst (v := 0) hx hb d_MD_resolve_56 (by decide) ?_
              refine p_MD_236 M hI d_MD_resolve_57 (fun H locs hI => ?_)
              have hI : CI g A s (mw g ad (ARM (ar 1) (ar 2) (ar 3) (ar 4) (ar 5) (ar 6) (ar 7) (ar 8) fs (ar 10) (ar 11) (ar 12) (ar 13) (ar 14) (ar 15) (ar 16) (ar 17) (ar 18) (ar 19) (ar 20) (ar 21) (ar 22)) (FLM 0 (fl 1) (fl 2) (fl 3) (fl 4) (fl 5) 0 (fl 7) (fl 8) (fl 9) (fl 10) (fl 11) (fl 12) (fl 13) (fl 14))) H locs := hI
              refine lv_iconst (v := 0) hx hb d_MD_resolve_60 (by decide) ?_
              refine lv_istore_n (lv' := [(2, .int 0), (0, .ref (ad 0)), (1, .int (nI told))]) hx hb d_MD_resolve_61 rfl hl (by decide) rfl (fun ls hl => ?_)
              refine lv_iconst (v := 0) hx hb d_MD_resolve_62 (by decide) ?_
              refine lv_istore_n (lv' := [(3, .int 0), (2, .int 0), (0, .ref (ad 0)), (1, .int (nI told))]) hx hb d_MD_resolve_63 rfl hl (by decide) rfl (fun ls hl => ?_)
              have L64 : ∀ (fu : Nat) (d : Nat) (y11 : Nat → Int32) (y14 : Nat → Int32) (y15 : Nat → Int32) (y16 : Nat → Int32) (y17 : Nat → Int32) (y18 : Nat → Int32) (y19 : Nat → Int32) (y20 : Nat → Int32) (g7 : Int32) (g8 : Int32) (g9 : Int32) (g10 : Int32) (g11 : Int32) (g12 : Int32), (cn - d) < fu → (d ≤ cn) → (okM (mT fs (ar 1) (fun x => lk (ar 5) (ar 6) x bn) told (pgL fs cn cn).1 (ar 13, ar 12, ar 10) (pgL fs cn d).1.length).1) → (∀ j, j < (pgL fs cn d).1.length → y14 (4 * j) = nI (pgAt (pgL fs cn cn).1 j).1 ∧ y14 (4 * j + 1) = nI (pgAt (pgL fs cn cn).1 j).2 ∧ y14 (4 * j + 2) = nI (pB fs told (pgAt (pgL fs cn cn).1 j).1 (pgAt (pgL fs cn cn).1 j).2 (mT fs (ar 1) (fun x => lk (ar 5) (ar 6) x bn) told (pgL fs cn cn).1 (ar 13, ar 12, ar 10) j).1) ∧ y14 (4 * j + 3) = nI (pN fs told (pgAt (pgL fs cn cn).1 j).1 (pgAt (pgL fs cn cn).1 j).2 (mT fs (ar 1) (fun x => lk (ar 5) (ar 6) x bn) told (pgL fs cn cn).1 (ar 13, ar 12, ar 10) j).1 (mT fs (ar 1) (fun x => lk (ar 5) (ar 6) x bn) told (pgL fs cn cn).1 (ar 13, ar 12, ar 10) j).2.1)) → ∀ (H : Heap) (locs : List Loc) (ls : Array Slot), CI g A s (mw g ad (ARM (ar 1) (ar 2) (ar 3) (ar 4) (ar 5) (ar 6) (ar 7) (ar 8) fs ((mT fs (ar 1) (fun x => lk (ar 5) (ar 6) x bn) told (pgL fs cn cn).1 (ar 13, ar 12, ar 10) (pgL fs cn d).1.length).2.2) y11 ((mT fs (ar 1) (fun x => lk (ar 5) (ar 6) x bn) told (pgL fs cn cn).1 (ar 13, ar 12, ar 10) (pgL fs cn d).1.length).2.1) ((mT fs (ar 1) (fun x => lk (ar 5) (ar 6) x bn) told (pgL fs cn cn).1 (ar 13, ar 12, ar 10) (pgL fs cn d).1.length).1) y14 y15 y16 y17 y18 y19 y20 (ar 21) (ar 22)) (FLM 0 (fl 1) (fl 2) (fl 3) (fl 4) (fl 5) (nI ((pgL fs cn d).1.length)) g7 g8 g9 g10 g11 g12 (fl 13) (fl 14))) H locs → lv_has ls 4 [(0, .ref (ad 0)), (1, .int (nI told)), (2, .int (nI ((pgL fs cn d).2))), (3, .int (nI d))] → W p l e rm_MD_resolve s m args below meth c H locs 0 0 Q (F0 m 64 ls []) := by
                intro fu
                induction fu with
                | zero => intro d y11 y14 y15 y16 y17 y18 y19 y20 g7 g8 g9 g10 g11 g12 hm; exact absurd hm (Nat.not_lt_zero _)
                | succ fu ih64 =>
                  intro d y11 y14 y15 y16 y17 y18 y19 y20 g7 g8 g9 g10 g11 g12 hm hd hmt hpt H locs ls hI hl
                  refine lv_iload_n hx hb d_MD_resolve_64 rfl (lv_at hl 3 rfl) ?_
                  refine lv_aload_n hx hb d_MD_resolve_65 rfl (lv_at hl 0 rfl) ?_
                  refine g_MD_119 M hI d_MD_resolve_66 ?_
                  refine q_as (y := nI cn) hcn ?_
                  refine lv_icmp_ge (tgt := 122) hx hb d_MD_resolve_69 (by decide) (fun c69 => ?_) (fun c69 => ?_)
                  · have c69 : cn ≤ d := (nI_leI (a := cn) (b := d) (by omega) (by omega)).mp c69
                    refine lv_aload_n hx hb d_MD_resolve_122 rfl (lv_at hl 0 rfl) ?_
                    refine lv_iconst (v := 1) hx hb d_MD_resolve_123 (by decide) ?_
                    refine p_MD_92 M hI rfl rfl d_MD_resolve_124 (fun H locs hI => ?_)
                    have hI : CI g A s (mw g ad (ARM (ar 1) (ar 2) (ar 3) (ar 4) (ar 5) (ar 6) (ar 7) (ar 8) fs ((mT fs (ar 1) (fun x => lk (ar 5) (ar 6) x bn) told (pgL fs cn cn).1 (ar 13, ar 12, ar 10) (pgL fs cn d).1.length).2.2) y11 ((mT fs (ar 1) (fun x => lk (ar 5) (ar 6) x bn) told (pgL fs cn cn).1 (ar 13, ar 12, ar 10) (pgL fs cn d).1.length).2.1) ((mT fs (ar 1) (fun x => lk (ar 5) (ar 6) x bn) told (pgL fs cn cn).1 (ar 13, ar 12, ar 10) (pgL fs cn d).1.length).1) y14 y15 y16 y17 y18 y19 y20 (ar 21) (ar 22)) (FLM 0 (fl 1) (fl 2) (fl 3) (fl 4) 1 (nI ((pgL fs cn d).1.length)) g7 g8 g9 g10 g11 g12 (fl 13) (fl 14))) H locs := hI
                    refine lv_aload_n hx hb d_MD_resolve_127 rfl (lv_at hl 0 rfl) ?_
                    refine lv_iconst (v := 0) hx hb d_MD_resolve_128 (by decide) ?_
                    refine p_MD_245 M hI rfl rfl d_MD_resolve_129 (fun H locs hI => ?_)
                    have hI : CI g A s (mw g ad (ARM (ar 1) (ar 2) (ar 3) (ar 4) (ar 5) (ar 6) (ar 7) (ar 8) fs ((mT fs (ar 1) (fun x => lk (ar 5) (ar 6) x bn) told (pgL fs cn cn).1 (ar 13, ar 12, ar 10) (pgL fs cn d).1.length).2.2) y11 ((mT fs (ar 1) (fun x => lk (ar 5) (ar 6) x bn) told (pgL fs cn cn).1 (ar 13, ar 12, ar 10) (pgL fs cn d).1.length).2.1) ((mT fs (ar 1) (fun x => lk (ar 5) (ar 6) x bn) told (pgL fs cn cn).1 (ar 13, ar 12, ar 10) (pgL fs cn d).1.length).1) y14 y15 y16 y17 y18 y19 y20 (ar 21) (ar 22)) (FLM 0 (fl 1) (fl 2) (fl 3) (fl 4) 1 (nI ((pgL fs cn d).1.length)) g7 g8 g9 g10 g11 g12 0 (fl 14))) H locs := hI
                    refine lv_aload_n hx hb d_MD_resolve_132 rfl (lv_at hl 0 rfl) ?_
                    refine g_MD_236 M hI d_MD_resolve_133 ?_
                    refine q_as (y := nI ((pgL fs cn d).1.length)) rfl ?_
                    have e9 : d = cn := by omega
                    have hI := CI.to (w2 := mw g ad (ARM (ar 1) (ar 2) (ar 3) (ar 4) (ar 5) (ar 6) (ar 7) (ar 8) fs ((mT fs (ar 1) (fun x => lk (ar 5) (ar 6) x bn) told (pgL fs cn cn).1 (ar 13, ar 12, ar 10) (pgL fs cn cn).1.length).2.2) y11 ((mT fs (ar 1) (fun x => lk (ar 5) (ar 6) x bn) told (pgL fs cn cn).1 (ar 13, ar 12, ar 10) (pgL fs cn cn).1.length).2.1) ((mT fs (ar 1) (fun x => lk (ar 5) (ar 6) x bn) told (pgL fs cn cn).1 (ar 13, ar 12, ar 10) (pgL fs cn cn).1.length).1) y14 y15 y16 y17 y18 y19 y20 (ar 21) (ar 22)) (FLM 0 (fl 1) (fl 2) (fl 3) (fl 4) 1 (nI (pgL fs cn cn).1.length) g7 g8 g9 g10 g11 g12 0 (fl 14))) hI (by rw [e9])
                    exact hret (nI ((pgL fs cn d).1.length)) (fs, y11, y14, y15, y16, y17, y18, y19, y20, g7, g8, g9, g10, g11, g12) _ _ _ _ _ _ d_MD_resolve_136 hI (by rw [e9] at hmt hpt ⊢; exact ⟨rfl, efs, hmt, hpt⟩) (Nat.le_refl 0) (Nat.le_refl 0)
                  · have c69 : ¬ cn ≤ d := fun h => c69 ((nI_leI (a := cn) (b := d) (by omega) (by omega)).mpr h)
                    have hpl := pgL_len fs cn d
                    have L93 : (fs d = 10 ∨ d + 1 = cn) → ∀ (H : Heap) (locs : List Loc) (ls : Array Slot), CI g A s (mw g ad (ARM (ar 1) (ar 2) (ar 3) (ar 4) (ar 5) (ar 6) (ar 7) (ar 8) fs ((mT fs (ar 1) (fun x => lk (ar 5) (ar 6) x bn) told (pgL fs cn cn).1 (ar 13, ar 12, ar 10) (pgL fs cn d).1.length).2.2) y11 ((mT fs (ar 1) (fun x => lk (ar 5) (ar 6) x bn) told (pgL fs cn cn).1 (ar 13, ar 12, ar 10) (pgL fs cn d).1.length).2.1) ((mT fs (ar 1) (fun x => lk (ar 5) (ar 6) x bn) told (pgL fs cn cn).1 (ar 13, ar 12, ar 10) (pgL fs cn d).1.length).1) y14 y15 y16 y17 y18 y19 y20 (ar 21) (ar 22)) (FLM 0 (fl 1) (fl 2) (fl 3) (fl 4) (fl 5) (nI ((pgL fs cn d).1.length)) g7 g8 g9 g10 g11 g12 (fl 13) (fl 14))) H locs → lv_has ls 4 [(0, .ref (ad 0)), (1, .int (nI told)), (2, .int (nI ((pgL fs cn d).2))), (3, .int (nI d))] → W p l e rm_MD_resolve s m args below meth c H locs 0 0 Q (F0 m 93 ls []) := by
                      intro  hz H locs ls hI hl
                      have eV : pgL fs cn (d + 1) = (((pgL fs cn d).2, d + 1) :: (pgL fs cn d).1, d + 1) := if_pos hz
                      have eN : (pgL fs cn (d + 1)).1.length = (pgL fs cn d).1.length + 1 := by rw [eV]; rfl
                      have eG : pgAt (pgL fs cn cn).1 (pgL fs cn d).1.length = ((pgL fs cn d).2, d + 1) := by rw [(pgAt_grow (f := fs) (cn := cn) (d := d + 1) (k := (pgL fs cn d).1.length) (by omega) cn (by omega)).1, eV]; exact if_pos rfl
                      obtain ⟨b, eb⟩ : ∃ z, z = (pgL fs cn d).2 := ⟨_, rfl⟩
                      obtain ⟨np, enp⟩ : ∃ z, z = (pgL fs cn d).1.length := ⟨_, rfl⟩
                      obtain ⟨M0, eM⟩ : ∃ z, z = (mT fs (ar 1) (fun x => lk (ar 5) (ar 6) x bn) told (pgL fs cn cn).1 (ar 13, ar 12, ar 10) (pgL fs cn d).1.length).1 := ⟨_, rfl⟩
                      obtain ⟨L0, eL⟩ : ∃ z, z = (mT fs (ar 1) (fun x => lk (ar 5) (ar 6) x bn) told (pgL fs cn cn).1 (ar 13, ar 12, ar 10) (pgL fs cn d).1.length).2.1 := ⟨_, rfl⟩
                      obtain ⟨K0, eK⟩ : ∃ z, z = (mT fs (ar 1) (fun x => lk (ar 5) (ar 6) x bn) told (pgL fs cn cn).1 (ar 13, ar 12, ar 10) (pgL fs cn d).1.length).2.2 := ⟨_, rfl⟩
                      have hn10 : ∀ x, b ≤ x → x + 1 < d + 1 → fs x ≠ 10 := fun x h1 h2 => pgL_n10 (cn := cn) d x (eb ▸ h1) (by omega)
                      rw [← eM] at hmt
                      rw [← eb] at hl
                      have hI := CI.to (w2 := mw g ad (ARM (ar 1) (ar 2) (ar 3) (ar 4) (ar 5) (ar 6) (ar 7) (ar 8) fs K0 y11 L0 M0 y14 y15 y16 y17 y18 y19 y20 (ar 21) (ar 22)) (FLM 0 (fl 1) (fl 2) (fl 3) (fl 4) (fl 5) (nI np) g7 g8 g9 g10 g11 g12 (fl 13) (fl 14))) hI (by rw [eM, eL, eK, enp])
                      refine lv_aload_n hx hb d_MD_resolve_93 rfl (lv_at hl 0 rfl) ?_
                      refine lv_iload_n hx hb d_MD_resolve_94 rfl (lv_at hl 2 rfl) ?_
                      refine lv_iload_n hx hb d_MD_resolve_95 rfl (lv_at hl 3 rfl) ?_
                      refine lv_iconst (v := 1) hx hb d_MD_resolve_96 (by decide) ?_
                      refine lv_iadd hx hb d_MD_resolve_97 ?_
                      refine q_as (y := nI (d + 1)) (nI_add d 1) ?_
                      refine lv_iload_n hx hb d_MD_resolve_98 rfl (lv_at hl 1 rfl) ?_
                      refine q_callvV [.int (nI b), .int (nI (d + 1)), .int (nI told)] M hI (c_MD_resolveParagraph l g ad (ARM (ar 1) (ar 2) (ar 3) (ar 4) (ar 5) (ar 6) (ar 7) (ar 8) fs K0 y11 L0 M0 y14 y15 y16 y17 y18 y19 y20 (ar 21) (ar 22)) (FLM 0 (fl 1) (fl 2) (fl 3) (fl 4) (fl 5) (nI np) g7 g8 g9 g10 g11 g12 (fl 13) (fl 14)) b (d + 1) told bn np (by omega) (by omega) (htl) (hn10) (fun x hx => hfk x (by omega)) (hmt) (hbn) (hbN) (hb0) (rfl) (by omega)) ok_MD_resolveParagraph m5_103 m5_105 ms_51 0 rfl rfl rfl rfl hl.1 ⟨rfl, rfl⟩ ⟨Nat.le_of_ble_eq_true rfl, Nat.le_of_ble_eq_true rfl⟩ (Nat.le_of_ble_eq_true rfl) ⟨Nat.le_of_ble_eq_true rfl, Nat.le_of_ble_eq_true rfl⟩ d_MD_resolve_99 (fun u99 H locs hp99 hI => ?_)
                      obtain ⟨y11_99, w15_99, w16_99, w17_99, y18_99, y19_99, y20_99, g7_99, g8_99, g9_99, g10_99, g11_99, g12_99⟩ := u99
                      have hI : CI g A s (mw g ad (ARM (ar 1) (ar 2) (ar 3) (ar 4) (ar 5) (ar 6) (ar 7) (ar 8) fs (pKm fs (ar 1) (fun x => lk (ar 5) (ar 6) x bn) told b (d + 1) M0 L0 K0) y11_99 (pYm fs (ar 1) (fun x => lk (ar 5) (ar 6) x bn) told b (d + 1) M0 L0 K0) (pM fs b (d + 1) M0) (upd (upd (upd (upd y14 (4 * np) (nI b)) (4 * np + 1) (nI (d + 1))) (4 * np + 2) (nI (pB fs told b (d + 1) M0))) (4 * np + 3) (nI (pN fs told b (d + 1) M0 L0))) w15_99 w16_99 w17_99 y18_99 y19_99 y20_99 (ar 21) (ar 22)) (FLM 0 (fl 1) (fl 2) (fl 3) (fl 4) (fl 5) (nI np) g7_99 g8_99 g9_99 g10_99 g11_99 g12_99 (fl 13) (fl 14))) H locs := hI
                      have eT : mT fs (ar 1) (fun x => lk (ar 5) (ar 6) x bn) told (pgL fs cn cn).1 (ar 13, ar 12, ar 10) (np + 1) = (pM fs b (d + 1) M0, pYm fs (ar 1) (fun x => lk (ar 5) (ar 6) x bn) told b (d + 1) M0 L0 K0, pKm fs (ar 1) (fun x => lk (ar 5) (ar 6) x bn) told b (d + 1) M0 L0 K0) := by show (pM fs (pgAt (pgL fs cn cn).1 np).1 (pgAt (pgL fs cn cn).1 np).2 (mT fs (ar 1) (fun x => lk (ar 5) (ar 6) x bn) told (pgL fs cn cn).1 (ar 13, ar 12, ar 10) np).1, pYm fs (ar 1) (fun x => lk (ar 5) (ar 6) x bn) told (pgAt (pgL fs cn cn).1 np).1 (pgAt (pgL fs cn cn).1 np).2 (mT fs (ar 1) (fun x => lk (ar 5) (ar 6) x bn) told (pgL fs cn cn).1 (ar 13, ar 12, ar 10) np).1 (mT fs (ar 1) (fun x => lk (ar 5) (ar 6) x bn) told (pgL fs cn cn).1 (ar 13, ar 12, ar 10) np).2.1 (mT fs (ar 1) (fun x => lk (ar 5) (ar 6) x bn) told (pgL fs cn cn).1 (ar 13, ar 12, ar 10) np).2.2, pKm fs (ar 1) (fun x => lk (ar 5) (ar 6) x bn) told (pgAt (pgL fs cn cn).1 np).1 (pgAt (pgL fs cn cn).1 np).2 (mT fs (ar 1) (fun x => lk (ar 5) (ar 6) x bn) told (pgL fs cn cn).1 (ar 13, ar 12, ar 10) np).1 (mT fs (ar 1) (fun x => lk (ar 5) (ar 6) x bn) told (pgL fs cn cn).1 (ar 13, ar 12, ar 10) np).2.1 (mT fs (ar 1) (fun x => lk (ar 5) (ar 6) x bn) told (pgL fs cn cn).1 (ar 13, ar 12, ar 10) np).2.2) = _; rw [enp, eG, ← eM, ← eL, ← eK, ← eb]
                      have hmt9 : okM (mT fs (ar 1) (fun x => lk (ar 5) (ar 6) x bn) told (pgL fs cn cn).1 (ar 13, ar 12, ar 10) (pgL fs cn (d + 1)).1.length).1 := by rw [eN, ← enp, eT]; exact mmat_okM hmt (d + 1 - b) (by omega)
                      have hpt9 : ∀ j, j < (pgL fs cn (d + 1)).1.length → (upd (upd (upd (upd y14 (4 * np) (nI b)) (4 * np + 1) (nI (d + 1))) (4 * np + 2) (nI (pB fs told b (d + 1) M0))) (4 * np + 3) (nI (pN fs told b (d + 1) M0 L0))) (4 * j) = nI (pgAt (pgL fs cn cn).1 j).1 ∧ (upd (upd (upd (upd y14 (4 * np) (nI b)) (4 * np + 1) (nI (d + 1))) (4 * np + 2) (nI (pB fs told b (d + 1) M0))) (4 * np + 3) (nI (pN fs told b (d + 1) M0 L0))) (4 * j + 1) = nI (pgAt (pgL fs cn cn).1 j).2 ∧ (upd (upd (upd (upd y14 (4 * np) (nI b)) (4 * np + 1) (nI (d + 1))) (4 * np + 2) (nI (pB fs told b (d + 1) M0))) (4 * np + 3) (nI (pN fs told b (d + 1) M0 L0))) (4 * j + 2) = nI (pB fs told (pgAt (pgL fs cn cn).1 j).1 (pgAt (pgL fs cn cn).1 j).2 (mT fs (ar 1) (fun x => lk (ar 5) (ar 6) x bn) told (pgL fs cn cn).1 (ar 13, ar 12, ar 10) j).1) ∧ (upd (upd (upd (upd y14 (4 * np) (nI b)) (4 * np + 1) (nI (d + 1))) (4 * np + 2) (nI (pB fs told b (d + 1) M0))) (4 * np + 3) (nI (pN fs told b (d + 1) M0 L0))) (4 * j + 3) = nI (pN fs told (pgAt (pgL fs cn cn).1 j).1 (pgAt (pgL fs cn cn).1 j).2 (mT fs (ar 1) (fun x => lk (ar 5) (ar 6) x bn) told (pgL fs cn cn).1 (ar 13, ar 12, ar 10) j).1 (mT fs (ar 1) (fun x => lk (ar 5) (ar 6) x bn) told (pgL fs cn cn).1 (ar 13, ar 12, ar 10) j).2.1) := by rw [eN, ← enp]; rw [← enp] at hpt eG; rw [← enp] at eM eL; intro j hj; rcases Nat.lt_or_ge j np with q | q; (rw [pk_un (by omega), pk_un (by omega), pk_un (by omega), pk_un (by omega), pk_un (by omega), pk_un (by omega), pk_un (by omega), pk_un (by omega), pk_un (by omega), pk_un (by omega), pk_un (by omega), pk_un (by omega), pk_un (by omega), pk_un (by omega), pk_un (by omega), pk_un (by omega)]; exact hpt j q); (rw [show j = np by omega, eG, ← eb, ← eM, ← eL]; refine ⟨?_, ?_, ?_, ?_⟩; (rw [pk_un (by omega), pk_un (by omega), pk_un (by omega), pk_us]); (rw [pk_un (by omega), pk_un (by omega), pk_us]); (rw [pk_un (by omega), pk_us]); rw [pk_us])
                      refine lv_aload_n hx hb d_MD_resolve_102 rfl (lv_at hl 0 rfl) ?_
                      refine lv_dup hx hb d_MD_resolve_103 rfl ?_
                      refine g_MD_236 M hI d_MD_resolve_104 ?_
                      refine q_as (y := nI np) rfl ?_
                      refine lv_iconst (v := 1) hx hb d_MD_resolve_107 (by decide) ?_
                      refine lv_iadd hx hb d_MD_resolve_108 ?_
                      refine q_as (y := nI (np + 1)) (nI_add np 1) ?_
                      refine p_MD_236 M hI d_MD_resolve_109 (fun H locs hI => ?_)
                      have hI : CI g A s (mw g ad (ARM (ar 1) (ar 2) (ar 3) (ar 4) (ar 5) (ar 6) (ar 7) (ar 8) fs (pKm fs (ar 1) (fun x => lk (ar 5) (ar 6) x bn) told b (d + 1) M0 L0 K0) y11_99 (pYm fs (ar 1) (fun x => lk (ar 5) (ar 6) x bn) told b (d + 1) M0 L0 K0) (pM fs b (d + 1) M0) (upd (upd (upd (upd y14 (4 * np) (nI b)) (4 * np + 1) (nI (d + 1))) (4 * np + 2) (nI (pB fs told b (d + 1) M0))) (4 * np + 3) (nI (pN fs told b (d + 1) M0 L0))) w15_99 w16_99 w17_99 y18_99 y19_99 y20_99 (ar 21) (ar 22)) (FLM 0 (fl 1) (fl 2) (fl 3) (fl 4) (fl 5) (nI (np + 1)) g7_99 g8_99 g9_99 g10_99 g11_99 g12_99 (fl 13) (fl 14))) H locs := hI
                      have hI := CI.to (w2 := mw g ad (ARM (ar 1) (ar 2) (ar 3) (ar 4) (ar 5) (ar 6) (ar 7) (ar 8) fs ((mT fs (ar 1) (fun x => lk (ar 5) (ar 6) x bn) told (pgL fs cn cn).1 (ar 13, ar 12, ar 10) (pgL fs cn (d + 1)).1.length).2.2) y11_99 ((mT fs (ar 1) (fun x => lk (ar 5) (ar 6) x bn) told (pgL fs cn cn).1 (ar 13, ar 12, ar 10) (pgL fs cn (d + 1)).1.length).2.1) ((mT fs (ar 1) (fun x => lk (ar 5) (ar 6) x bn) told (pgL fs cn cn).1 (ar 13, ar 12, ar 10) (pgL fs cn (d + 1)).1.length).1) (upd (upd (upd (upd y14 (4 * np) (nI b)) (4 * np + 1) (nI (d + 1))) (4 * np + 2) (nI (pB fs told b (d + 1) M0))) (4 * np + 3) (nI (pN fs told b (d + 1) M0 L0))) w15_99 w16_99 w17_99 y18_99 y19_99 y20_99 (ar 21) (ar 22)) (FLM 0 (fl 1) (fl 2) (fl 3) (fl 4) (fl 5) (nI ((pgL fs cn (d + 1)).1.length)) g7_99 g8_99 g9_99 g10_99 g11_99 g12_99 (fl 13) (fl 14))) hI (by rw [eN, ← enp, eT])
                      refine lv_iload_n hx hb d_MD_resolve_112 rfl (lv_at hl 3 rfl) ?_
                      refine lv_iconst (v := 1) hx hb d_MD_resolve_113 (by decide) ?_
                      refine lv_iadd hx hb d_MD_resolve_114 ?_
                      refine q_as (y := nI ((pgL fs cn (d + 1)).2)) (by rw [eV]; exact nI_add d 1) ?_
                      refine lv_istore_n (lv' := [(2, .int (nI ((pgL fs cn (d + 1)).2))), (0, .ref (ad 0)), (1, .int (nI told)), (3, .int (nI d))]) hx hb d_MD_resolve_115 rfl hl (by decide) rfl (fun ls hl => ?_)
                      refine lv_iinc (v := nI (d + 1)) (lv' := [(3, .int (nI (d + 1))), (2, .int (nI ((pgL fs cn (d + 1)).2))), (0, .ref (ad 0)), (1, .int (nI told))]) hx hb d_MD_resolve_116 hl (k := 3) rfl (nI_add _ 1) (by decide) rfl (fun ls hl => ?_)
                      refine lv_goto (tgt := 64) hx hb d_MD_resolve_119 (by decide) ?_
                      exact ih64 (d + 1) y11_99 (upd (upd (upd (upd y14 (4 * np) (nI b)) (4 * np + 1) (nI (d + 1))) (4 * np + 2) (nI (pB fs told b (d + 1) M0))) (4 * np + 3) (nI (pN fs told b (d + 1) M0 L0))) w15_99 w16_99 w17_99 y18_99 y19_99 y20_99 g7_99 g8_99 g9_99 g10_99 g11_99 g12_99 (by omega) (by omega) (hmt9) (hpt9) _ _ _ hI (lv_sub hl [2, 3, 1, 0] rfl)
                    refine lv_aload_n hx hb d_MD_resolve_72 rfl (lv_at hl 0 rfl) ?_
                    refine g_MD_34 M hI d_MD_resolve_73 ?_
                    refine lv_iload_n hx hb d_MD_resolve_76 rfl (lv_at hl 3 rfl) ?_
                    refine bl_9 M hI d rfl (by omega) d_MD_resolve_77 ?_
                    refine q_as (y := fs d) rfl ?_
                    refine lv_bipush (v := 10) hx hb d_MD_resolve_78 (by decide) ?_
                    refine lv_icmp_eq (tgt := 93) hx hb d_MD_resolve_80 (by decide) (fun c80 => ?_) (fun c80 => ?_)
                    · have hz : fs d = 10 ∨ d + 1 = cn := Or.inl c80
                      exact L93   (by first | assumption | omega) _ _ _ hI (lv_sub hl [0, 1, 2, 3] rfl)
                    · refine lv_iload_n hx hb d_MD_resolve_83 rfl (lv_at hl 3 rfl) ?_
                      refine lv_aload_n hx hb d_MD_resolve_84 rfl (lv_at hl 0 rfl) ?_
                      refine g_MD_119 M hI d_MD_resolve_85 ?_
                      refine q_as (y := nI cn) hcn ?_
                      refine lv_iconst (v := 1) hx hb d_MD_resolve_88 (by decide) ?_
                      refine lv_isub hx hb d_MD_resolve_89 ?_
                      refine q_as (y := nI (cn - 1)) (pk_sub (a := cn) (b := 1) (by omega)) ?_
                      refine lv_icmp_ne (tgt := 116) hx hb d_MD_resolve_90 (by decide) (fun c90 => ?_) (fun c90 => ?_)
                      · have c90 : ¬ d = cn - 1 := fun h => c90 ((nI_eq (a := d) (b := cn - 1) (by omega) (by omega)).mpr h)
                        have eV : pgL fs cn (d + 1) = pgL fs cn d := if_neg (fun q => q.elim c80 (fun w => c90 (by omega)))
                        have hmt9 : okM (mT fs (ar 1) (fun x => lk (ar 5) (ar 6) x bn) told (pgL fs cn cn).1 (ar 13, ar 12, ar 10) (pgL fs cn (d + 1)).1.length).1 := by rw [eV]; exact hmt
                        have hpt9 : ∀ j, j < (pgL fs cn (d + 1)).1.length → y14 (4 * j) = nI (pgAt (pgL fs cn cn).1 j).1 ∧ y14 (4 * j + 1) = nI (pgAt (pgL fs cn cn).1 j).2 ∧ y14 (4 * j + 2) = nI (pB fs told (pgAt (pgL fs cn cn).1 j).1 (pgAt (pgL fs cn cn).1 j).2 (mT fs (ar 1) (fun x => lk (ar 5) (ar 6) x bn) told (pgL fs cn cn).1 (ar 13, ar 12, ar 10) j).1) ∧ y14 (4 * j + 3) = nI (pN fs told (pgAt (pgL fs cn cn).1 j).1 (pgAt (pgL fs cn cn).1 j).2 (mT fs (ar 1) (fun x => lk (ar 5) (ar 6) x bn) told (pgL fs cn cn).1 (ar 13, ar 12, ar 10) j).1 (mT fs (ar 1) (fun x => lk (ar 5) (ar 6) x bn) told (pgL fs cn cn).1 (ar 13, ar 12, ar 10) j).2.1) := by rw [eV]; exact hpt
                        rw [← eV] at hl
                        have hI := CI.to (w2 := mw g ad (ARM (ar 1) (ar 2) (ar 3) (ar 4) (ar 5) (ar 6) (ar 7) (ar 8) fs ((mT fs (ar 1) (fun x => lk (ar 5) (ar 6) x bn) told (pgL fs cn cn).1 (ar 13, ar 12, ar 10) (pgL fs cn (d + 1)).1.length).2.2) y11 ((mT fs (ar 1) (fun x => lk (ar 5) (ar 6) x bn) told (pgL fs cn cn).1 (ar 13, ar 12, ar 10) (pgL fs cn (d + 1)).1.length).2.1) ((mT fs (ar 1) (fun x => lk (ar 5) (ar 6) x bn) told (pgL fs cn cn).1 (ar 13, ar 12, ar 10) (pgL fs cn (d + 1)).1.length).1) y14 y15 y16 y17 y18 y19 y20 (ar 21) (ar 22)) (FLM 0 (fl 1) (fl 2) (fl 3) (fl 4) (fl 5) (nI ((pgL fs cn (d + 1)).1.length)) g7 g8 g9 g10 g11 g12 (fl 13) (fl 14))) hI (by rw [eV])
                        refine lv_iinc (v := nI (d + 1)) (lv' := [(3, .int (nI (d + 1))), (0, .ref (ad 0)), (1, .int (nI told)), (2, .int (nI ((pgL fs cn (d + 1)).2)))]) hx hb d_MD_resolve_116 hl (k := 3) rfl (nI_add _ 1) (by decide) rfl (fun ls hl => ?_)
                        refine lv_goto (tgt := 64) hx hb d_MD_resolve_119 (by decide) ?_
                        exact ih64 (d + 1) y11 y14 y15 y16 y17 y18 y19 y20 g7 g8 g9 g10 g11 g12 (by omega) (by omega) (hmt9) (hpt9) _ _ _ hI (lv_sub hl [1, 2, 3, 0] rfl)
                      · have c90 : d = cn - 1 := (nI_eq (a := d) (b := cn - 1) (by omega) (by omega)).mp c90
                        have hz : fs d = 10 ∨ d + 1 = cn := Or.inr (by omega)
                        exact L93   (by first | assumption | omega) _ _ _ hI (lv_sub hl [0, 1, 2, 3] rfl)
              have hI := CI.to (w2 := mw g ad (ARM (ar 1) (ar 2) (ar 3) (ar 4) (ar 5) (ar 6) (ar 7) (ar 8) fs ((mT fs (ar 1) (fun x => lk (ar 5) (ar 6) x bn) told (pgL fs cn cn).1 (ar 13, ar 12, ar 10) (pgL fs cn 0).1.length).2.2) (ar 11) ((mT fs (ar 1) (fun x => lk (ar 5) (ar 6) x bn) told (pgL fs cn cn).1 (ar 13, ar 12, ar 10) (pgL fs cn 0).1.length).2.1) ((mT fs (ar 1) (fun x => lk (ar 5) (ar 6) x bn) told (pgL fs cn cn).1 (ar 13, ar 12, ar 10) (pgL fs cn 0).1.length).1) (ar 14) (ar 15) (ar 16) (ar 17) (ar 18) (ar 19) (ar 20) (ar 21) (ar 22)) (FLM 0 (fl 1) (fl 2) (fl 3) (fl 4) (fl 5) (nI ((pgL fs cn 0).1.length)) (fl 7) (fl 8) (fl 9) (fl 10) (fl 11) (fl 12) (fl 13) (fl 14))) hI (by rfl)
              exact L64 _ 0 (ar 11) (ar 14) (ar 15) (ar 16) (ar 17) (ar 18) (ar 19) (ar 20) (fl 7) (fl 8) (fl 9) (fl 10) (fl 11) (fl 12) (Nat.lt_succ_self _) (Nat.zero_le _) (hmt0) (fun j h => absurd h (Nat.not_lt_zero j)) _ _ _ hI (lv_sub hl [2, 3, 1, 0] rfl)
            · have c30 : ¬ cn ≤ i := fun h => c30 ((nI_leI (a := cn) (b := i) (by omega) (by omega)).mpr h)
              refine lv_aload_n hx hb d_MD_resolve_33 rfl (lv_at hl 0 rfl) ?_
              refine g_MD_34 M hI d_MD_resolve_34 ?_
              refine lv_iload_n hx hb d_MD_resolve_37 rfl (lv_at hl 2 rfl) ?_
              refine lv_aload_n hx hb d_MD_resolve_38 rfl (lv_at hl 0 rfl) ?_
              refine lv_aload_n hx hb d_MD_resolve_39 rfl (lv_at hl 0 rfl) ?_
              refine g_MD_7 M hI d_MD_resolve_40 ?_
              refine lv_iload_n hx hb d_MD_resolve_43 rfl (lv_at hl 2 rfl) ?_
              refine bl_1 M hI i rfl (by omega) d_MD_resolve_44 ?_
              refine q_as (y := ar 1 i) rfl ?_
              refine q_calliV [.int (ar 1 i)] M hI (c_MD_classOf l g ad (ARM (ar 1) (ar 2) (ar 3) (ar 4) (ar 5) (ar 6) (ar 7) (ar 8) (pre i (fun j => clsOf (ar 2) (ar 3) (ar 4) (ar 1 j) rn) (ar 9)) (ar 10) (ar 11) (ar 12) (ar 13) (ar 14) (ar 15) (ar 16) (ar 17) (ar 18) (ar 19) (ar 20) (ar 21) (ar 22)) (FLM 0 (fl 1) (fl 2) (fl 3) (fl 4) (fl 5) (fl 6) (fl 7) (fl 8) (fl 9) (fl 10) (fl 11) (fl 12) (fl 13) (fl 14)) (ar 1 i) rn (hrn) (hrN)) ok_MD_classOf m5_99 m5_101 ms_50 0 rfl rfl rfl rfl hl.1 ⟨rfl, rfl⟩ ⟨Nat.le_of_ble_eq_true rfl, Nat.le_of_ble_eq_true rfl⟩ (Nat.le_of_ble_eq_true rfl) ⟨Nat.le_of_ble_eq_true rfl, Nat.le_of_ble_eq_true rfl⟩ d_MD_resolve_45 (fun r45 u45 H locs hp45 hI => ?_)
              refine q_as (y := clsOf (ar 2) (ar 3) (ar 4) (ar 1 i) rn) hp45 ?_
              refine bs_9 M hI i rfl (by omega) d_MD_resolve_48 (fun H locs hI => ?_)
              have hI : CI g A s (mw g ad (ARM (ar 1) (ar 2) (ar 3) (ar 4) (ar 5) (ar 6) (ar 7) (ar 8) (upd (pre i (fun j => clsOf (ar 2) (ar 3) (ar 4) (ar 1 j) rn) (ar 9)) i (clsOf (ar 2) (ar 3) (ar 4) (ar 1 i) rn)) (ar 10) (ar 11) (ar 12) (ar 13) (ar 14) (ar 15) (ar 16) (ar 17) (ar 18) (ar 19) (ar 20) (ar 21) (ar 22)) (FLM 0 (fl 1) (fl 2) (fl 3) (fl 4) (fl 5) (fl 6) (fl 7) (fl 8) (fl 9) (fl 10) (fl 11) (fl 12) (fl 13) (fl 14))) H locs := hI
              rw [show upd (pre i (fun j => clsOf (ar 2) (ar 3) (ar 4) (ar 1 j) rn) (ar 9)) i (clsOf (ar 2) (ar 3) (ar 4) (ar 1 i) rn) = pre (i + 1) (fun j => clsOf (ar 2) (ar 3) (ar 4) (ar 1 j) rn) (ar 9) from pre_up rfl] at hI
              have hI : CI g A s (mw g ad (ARM (ar 1) (ar 2) (ar 3) (ar 4) (ar 5) (ar 6) (ar 7) (ar 8) (pre (i + 1) (fun j => clsOf (ar 2) (ar 3) (ar 4) (ar 1 j) rn) (ar 9)) (ar 10) (ar 11) (ar 12) (ar 13) (ar 14) (ar 15) (ar 16) (ar 17) (ar 18) (ar 19) (ar 20) (ar 21) (ar 22)) (FLM 0 (fl 1) (fl 2) (fl 3) (fl 4) (fl 5) (fl 6) (fl 7) (fl 8) (fl 9) (fl 10) (fl 11) (fl 12) (fl 13) (fl 14))) H locs := hI
              refine lv_iinc (v := nI (i + 1)) (lv' := [(2, .int (nI (i + 1))), (0, .ref (ad 0)), (1, .int (nI told))]) hx hb d_MD_resolve_49 hl (k := 2) rfl (nI_add _ 1) (by decide) rfl (fun ls hl => ?_)
              refine lv_goto (tgt := 25) hx hb d_MD_resolve_52 (by decide) ?_
              exact ih25 (i + 1) (by omega) (by first | assumption | omega) _ _ _ hI (lv_sub hl [1, 2, 0] rfl)
        have hI := CI.to (w2 := mw g ad (ARM (ar 1) (ar 2) (ar 3) (ar 4) (ar 5) (ar 6) (ar 7) (ar 8) (pre 0 (fun j => clsOf (ar 2) (ar 3) (ar 4) (ar 1 j) rn) (ar 9)) (ar 10) (ar 11) (ar 12) (ar 13) (ar 14) (ar 15) (ar 16) (ar 17) (ar 18) (ar 19) (ar 20) (ar 21) (ar 22)) (FLM 0 (fl 1) (fl 2) (fl 3) (fl 4) (fl 5) (fl 6) (fl 7) (fl 8) (fl 9) (fl 10) (fl 11) (fl 12) (fl 13) (fl 14))) hI (by rw [pre_0])
        exact L25 _ 0 (Nat.lt_succ_self _) (by first | assumption | omega) _ _ _ hI (lv_sub hl [1, 2, 0] rfl)
      · have c18 := bI_ne0.mp c18
        exact absurd (by decide) c18
    · have c7 : ¬ told ≤ 2 := fun h => c7 ((nI_leI (a := told) (b := 2) (by omega) (by omega)).mpr h)
      exfalso; omega
