/-! 55: the model: isBesideNumber -/
/-- behind the search back: x2 is the last place (or -1), z one more -/
def bkS (K : Nat → Int32) (i : Nat) (x2 : Int32) (z : Nat) : Prop := x2 = nI z - 1 ∧ z ≤ i + 1 ∧ (∀ b, z ≤ b → b ≤ i → K b = 5) ∧ (z = 0 ∨ K (z - 1) ≠ 5)
theorem bes_no {n i z a : Nat} {K : Nat → Int32} (hin : i < n) (h5 : K i = 5) (hzi : z ≤ i + 1) (hai : i ≤ a) (hz : ∀ b, z ≤ b → b ≤ i → K b = 5) (hzs : z = 0 ∨ K (z - 1) ≠ 5) (ha : ∀ b, i ≤ b → b < a → K b = 5) (has : a = n ∨ K a ≠ 5) (han : a ≤ n) (h1 : ¬ (0 < z ∧ K (z - 1) = 3)) (h2 : ¬ (a < n ∧ K a = 3)) : ¬ nexE n K i := by
  have hz' : z ≤ i := by
    rcases Nat.lt_or_ge i z with q | q
    · exact absurd h5 (hzs.elim (fun y => by omega) (fun y => by rw [show i = z - 1 by omega]; exact y))
    · exact q
  have ha' : i < a := by
    rcases Nat.lt_or_ge i a with q | q
    · exact q
    · exact absurd h5 (has.elim (fun y => by omega) (fun y => by rw [show i = a by omega]; exact y))
  rintro (⟨c, e1, e2, e3⟩ | ⟨c, e1, e2, e3, e4⟩)
  · rcases Nat.lt_or_ge c z with q | q
    · rcases Nat.lt_or_ge c (z - 1) with w | w
      · exact hzs.elim (fun y => by omega) (fun y => y (e3 (z - 1) w (by omega)))
      · exact h1 ⟨by omega, by rw [show z - 1 = c by omega]; exact e2⟩
    · have := hz c q (by omega)
      rw [e2] at this
      exact absurd this (by decide)
  · rcases Nat.lt_or_ge c a with q | q
    · have := ha c (by omega) q
      rw [e3] at this
      exact absurd this (by decide)
    · rcases Nat.lt_or_ge a c with w | w
      · exact has.elim (fun y => by omega) (fun y => y (e4 a ha' w))
      · exact h2 ⟨by omega, by rw [show a = c by omega]; exact e3⟩
abbrev rm_MD_isBesideNumber : Room := { frames := 1, cells := 0, slots := 0, locals := 21 }
set_option maxHeartbeats 4000000 in
set_option maxRecDepth 100000 in
theorem c_MD_isBesideNumber (l : Launch) (g : Geo) (ad : Nat → Nat) (ar : Nat → Nat → Int32) (fl : Nat → Int32) (i : Nat) (n : Nat) (P : Nat → Nat) (K f0 : Nat → Int32) (hn : fl 8 = nI n) (hN : n ≤ 2000) (hP : ∀ j, j < n → ar 18 j = nI (P j)) (hPb : ∀ j, j < n → P j < 2000) (hij : inj n P) (hw : ar 10 = wrt P K f0 n) (hi : i < n) (h5 : K i = 5) : cMi l y_MD_isBesideNumber (.code y_MD_isBesideNumber b_MD_isBesideNumber 4 (some .boolean) :: gw) rm_MD_isBesideNumber g [.ref (ad 0), .int (nI i)] (mw g ad ar fl) (fun (r : Int32) (_ : Unit) => r = bI (nexE n K i)) (fun (_ : Unit) => mw g ad ar fl) 0 0 := by
  refine cMz_of (by decide) (Nat.le_of_ble_eq_true rfl) ?_
  intro p e s m below meth c A Q ls M hret hl hI
  have M : MC p s m ([.ref (ad 0), .int (nI i)] : List Value).toArray meth c R_MD b_MD_isBesideNumber 4 := M
  have hl : lv_has ls 4 [(0, .ref (ad 0)), (1, .int (nI i))] := hl
  generalize ([.ref (ad 0), .int (nI i)] : List Value).toArray = args at M hret ⊢
  have hx := M.1
  have hb := M.2.1
  refine lv_iload_n hx hb d_MD_isBesideNumber_0 rfl (lv_at hl 1 rfl) ?_
  refine q_as (y := nI (i + 1) - 1) ((nI_pred i).symm) ?_
  refine lv_istore_n (lv' := [(2, .int (nI (i + 1) - 1)), (0, .ref (ad 0)), (1, .int (nI i))]) hx hb d_MD_isBesideNumber_1 rfl hl (by decide) rfl (fun ls hl => ?_)
  have L2 : ∀ (fu : Nat) (z : Nat), z < fu → (z ≤ i + 1) → (∀ b, z ≤ b → b ≤ i → K b = 5) → ∀ (H : Heap) (locs : List Loc) (ls : Array Slot), CI g A s (mw g ad ar fl) H locs → lv_has ls 4 [(0, .ref (ad 0)), (1, .int (nI i)), (2, .int (nI z - 1))] → W p l e rm_MD_isBesideNumber s m args below meth c H locs 0 0 Q (F0 m 2 ls []) := by
    intro fu
    induction fu with
    | zero => intro z hm; exact absurd hm (Nat.not_lt_zero _)
    | succ fu ih2 =>
      intro z hm hz hz5 H locs ls hI hl
      refine lv_iload_n hx hb d_MD_isBesideNumber_2 rfl (lv_at hl 2 rfl) ?_
      refine lv_if_lt (tgt := 21) hx hb d_MD_isBesideNumber_3 (by decide) (fun c3 => ?_) (fun c3 => ?_)
      · have hz0 : z = 0 := (nI_m1neg (by omega)).mp c3
        have hbk : bkS K i (nI z - 1) z := ⟨rfl, hz, hz5, Or.inl hz0⟩
        refine lv_iload_n hx hb d_MD_isBesideNumber_21 rfl (lv_at hl 1 rfl) ?_
        refine lv_istore_n (lv' := [(3, .int (nI i)), (0, .ref (ad 0)), (1, .int (nI i)), (2, .int (nI z - 1))]) hx hb d_MD_isBesideNumber_22 rfl hl (by decide) rfl (fun ls hl => ?_)
        have L23 : ∀ (fu : Nat) (x2 : Int32) (z : Nat) (a : Nat), (n - a) < fu → (bkS K i x2 z) → (i ≤ a) → (a ≤ n) → (∀ b, i ≤ b → b < a → K b = 5) → ∀ (H : Heap) (locs : List Loc) (ls : Array Slot), CI g A s (mw g ad ar fl) H locs → lv_has ls 4 [(0, .ref (ad 0)), (1, .int (nI i)), (2, .int x2), (3, .int (nI a))] → W p l e rm_MD_isBesideNumber s m args below meth c H locs 0 0 Q (F0 m 23 ls []) := by
          intro fu
          induction fu with
          | zero => intro x2 z a hm; exact absurd hm (Nat.not_lt_zero _)
          | succ fu ih23 =>
            intro x2 z a hm hbk ha1 ha2 ha5 H locs ls hI hl
            refine lv_iload_n hx hb d_MD_isBesideNumber_23 rfl (lv_at hl 3 rfl) ?_
            refine lv_aload_n hx hb d_MD_isBesideNumber_24 rfl (lv_at hl 0 rfl) ?_
            refine g_MD_155 M hI d_MD_isBesideNumber_25 ?_
            refine q_as (y := nI n) hn ?_
            refine lv_icmp_ge (tgt := 46) hx hb d_MD_isBesideNumber_28 (by decide) (fun c28 => ?_) (fun c28 => ?_)
            · have c28 : n ≤ a := (nI_leI (a := n) (b := a) (by omega) (by omega)).mp c28
              have has : a = n ∨ K a ≠ 5 := Or.inl (by omega)
              obtain ⟨hb1, hb2, hb3, hb4⟩ := hbk
              refine lv_iload_n hx hb d_MD_isBesideNumber_46 rfl (lv_at hl 2 rfl) ?_
              refine lv_if_lt (tgt := 59) hx hb d_MD_isBesideNumber_47 (by decide) (fun c47 => ?_) (fun c47 => ?_)
              · have hz0 : z = 0 := (nI_m1neg (by omega)).mp (hb1 ▸ c47)
                have h1n : ¬ (0 < z ∧ K (z - 1) = 3) := fun q => by omega
                refine lv_iload_n hx hb d_MD_isBesideNumber_59 rfl (lv_at hl 3 rfl) ?_
                refine lv_aload_n hx hb d_MD_isBesideNumber_60 rfl (lv_at hl 0 rfl) ?_
                refine g_MD_155 M hI d_MD_isBesideNumber_61 ?_
                refine q_as (y := nI n) hn ?_
                refine lv_icmp_ge (tgt := 80) hx hb d_MD_isBesideNumber_64 (by decide) (fun c64 => ?_) (fun c64 => ?_)
                · have c64 : n ≤ a := (nI_leI (a := n) (b := a) (by omega) (by omega)).mp c64
                  have hno : ¬ nexE n K i := bes_no hi h5 hb2 ha1 hb3 hb4 ha5 has ha2 h1n (fun q => by omega)
                  refine lv_iconst (v := 0) hx hb d_MD_isBesideNumber_80 (by decide) ?_
                  exact hret 0 () _ _ _ _ _ _ d_MD_isBesideNumber_81 hI (by symm; first | exact bI_t hyes | exact bI_f hno) (by first | rfl | exact bI_narrow) (Nat.le_refl 0) (Nat.le_refl 0)
                · have c64 : ¬ n ≤ a := fun h => c64 ((nI_leI (a := n) (b := a) (by omega) (by omega)).mpr h)
                  refine lv_aload_n hx hb d_MD_isBesideNumber_67 rfl (lv_at hl 0 rfl) ?_
                  refine lv_iload_n hx hb d_MD_isBesideNumber_68 rfl (lv_at hl 3 rfl) ?_
                  refine q_calliV [.int (nI a)] M hI (c_MD_kindAt l g ad ar fl (nI a) n P K f0 (by first | exact hn | assumption | omega | rfl) (by first | exact hN | assumption | omega | rfl) (by first | exact hP | assumption | omega | rfl) (by first | exact hPb | assumption | omega | rfl) (by first | exact hij | assumption | omega | rfl) (by first | exact hw | assumption | omega | rfl)) ok_MD_kindAt m5_169 m5_171 ms_66 0 rfl rfl rfl rfl hl.1 ⟨rfl, rfl⟩ ⟨Nat.le_of_ble_eq_true rfl, Nat.le_of_ble_eq_true rfl⟩ (Nat.le_of_ble_eq_true rfl) ⟨Nat.le_of_ble_eq_true rfl, Nat.le_of_ble_eq_true rfl⟩ d_MD_isBesideNumber_69 (fun r69 u69 H locs hp69 hI => ?_)
                  refine q_as (y := kAt n (fl 9) (fl 10) K (nI a)) hp69 ?_
                  refine q_as (y := K a) (kAt_n (by omega) (by omega)) ?_
                  refine lv_iconst (v := 3) hx hb d_MD_isBesideNumber_72 (by decide) ?_
                  refine lv_icmp_ne (tgt := 80) hx hb d_MD_isBesideNumber_73 (by decide) (fun c73 => ?_) (fun c73 => ?_)
                  · have hno : ¬ nexE n K i := bes_no hi h5 hb2 ha1 hb3 hb4 ha5 has ha2 h1n (fun q => c73 q.2)
                    refine lv_iconst (v := 0) hx hb d_MD_isBesideNumber_80 (by decide) ?_
                    exact hret 0 () _ _ _ _ _ _ d_MD_isBesideNumber_81 hI (by symm; first | exact bI_t hyes | exact bI_f hno) (by first | rfl | exact bI_narrow) (Nat.le_refl 0) (Nat.le_refl 0)
                  · have hyes : nexE n K i := Or.inr ⟨a, by rcases Nat.lt_or_ge i a with q | q; exact q; exact absurd (show K i = 3 by rw [show i = a by omega]; exact c73) (by rw [h5]; decide), by omega, c73, fun b e1 e2 => ha5 b (by omega) e2⟩
                    refine lv_iconst (v := 1) hx hb d_MD_isBesideNumber_76 (by decide) ?_
                    refine lv_goto (tgt := 81) hx hb d_MD_isBesideNumber_77 (by decide) ?_
                    exact hret 1 () _ _ _ _ _ _ d_MD_isBesideNumber_81 hI (by symm; first | exact bI_t hyes | exact bI_f hno) (by first | rfl | exact bI_narrow) (Nat.le_refl 0) (Nat.le_refl 0)
              · have hz0 : 0 < z := by have : ¬ z = 0 := fun q => c47 (by rw [hb1]; exact (nI_m1neg (by omega)).mpr q); omega
                refine lv_aload_n hx hb d_MD_isBesideNumber_50 rfl (lv_at hl 0 rfl) ?_
                refine lv_iload_n hx hb d_MD_isBesideNumber_51 rfl (lv_at hl 2 rfl) ?_
                refine q_calliV [.int x2] M hI (c_MD_kindAt l g ad ar fl x2 n P K f0 (by first | exact hn | assumption | omega | rfl) (by first | exact hN | assumption | omega | rfl) (by first | exact hP | assumption | omega | rfl) (by first | exact hPb | assumption | omega | rfl) (by first | exact hij | assumption | omega | rfl) (by first | exact hw | assumption | omega | rfl)) ok_MD_kindAt m5_169 m5_171 ms_66 0 rfl rfl rfl rfl hl.1 ⟨rfl, rfl⟩ ⟨Nat.le_of_ble_eq_true rfl, Nat.le_of_ble_eq_true rfl⟩ (Nat.le_of_ble_eq_true rfl) ⟨Nat.le_of_ble_eq_true rfl, Nat.le_of_ble_eq_true rfl⟩ d_MD_isBesideNumber_52 (fun r52 u52 H locs hp52 hI => ?_)
                refine q_as (y := kAt n (fl 9) (fl 10) K x2) hp52 ?_
                refine q_as (y := K (z - 1)) (by rw [hb1]; exact kAt_p (by omega) hz0 (by omega)) ?_
                refine lv_iconst (v := 3) hx hb d_MD_isBesideNumber_55 (by decide) ?_
                refine lv_icmp_eq (tgt := 76) hx hb d_MD_isBesideNumber_56 (by decide) (fun c56 => ?_) (fun c56 => ?_)
                · have hyes : nexE n K i := Or.inl ⟨z - 1, by rcases Nat.lt_or_ge (z - 1) i with q | q; exact q; exact absurd (show K i = 3 by rw [show i = z - 1 by omega]; exact c56) (by rw [h5]; decide), c56, fun b e1 e2 => hb3 b (by omega) (by omega)⟩
                  refine lv_iconst (v := 1) hx hb d_MD_isBesideNumber_76 (by decide) ?_
                  refine lv_goto (tgt := 81) hx hb d_MD_isBesideNumber_77 (by decide) ?_
                  exact hret 1 () _ _ _ _ _ _ d_MD_isBesideNumber_81 hI (by symm; first | exact bI_t hyes | exact bI_f hno) (by first | rfl | exact bI_narrow) (Nat.le_refl 0) (Nat.le_refl 0)
                · have h1n : ¬ (0 < z ∧ K (z - 1) = 3) := fun q => c56 q.2
                  refine lv_iload_n hx hb d_MD_isBesideNumber_59 rfl (lv_at hl 3 rfl) ?_
                  refine lv_aload_n hx hb d_MD_isBesideNumber_60 rfl (lv_at hl 0 rfl) ?_
                  refine g_MD_155 M hI d_MD_isBesideNumber_61 ?_
                  refine q_as (y := nI n) hn ?_
                  refine lv_icmp_ge (tgt := 80) hx hb d_MD_isBesideNumber_64 (by decide) (fun c64 => ?_) (fun c64 => ?_)
                  · have c64 : n ≤ a := (nI_leI (a := n) (b := a) (by omega) (by omega)).mp c64
                    have hno : ¬ nexE n K i := bes_no hi h5 hb2 ha1 hb3 hb4 ha5 has ha2 h1n (fun q => by omega)
                    refine lv_iconst (v := 0) hx hb d_MD_isBesideNumber_80 (by decide) ?_
                    exact hret 0 () _ _ _ _ _ _ d_MD_isBesideNumber_81 hI (by symm; first | exact bI_t hyes | exact bI_f hno) (by first | rfl | exact bI_narrow) (Nat.le_refl 0) (Nat.le_refl 0)
                  · have c64 : ¬ n ≤ a := fun h => c64 ((nI_leI (a := n) (b := a) (by omega) (by omega)).mpr h)
                    refine lv_aload_n hx hb d_MD_isBesideNumber_67 rfl (lv_at hl 0 rfl) ?_
                    refine lv_iload_n hx hb d_MD_isBesideNumber_68 rfl (lv_at hl 3 rfl) ?_
                    refine q_calliV [.int (nI a)] M hI (c_MD_kindAt l g ad ar fl (nI a) n P K f0 (by first | exact hn | assumption | omega | rfl) (by first | exact hN | assumption | omega | rfl) (by first | exact hP | assumption | omega | rfl) (by first | exact hPb | assumption | omega | rfl) (by first | exact hij | assumption | omega | rfl) (by first | exact hw | assumption | omega | rfl)) ok_MD_kindAt m5_169 m5_171 ms_66 0 rfl rfl rfl rfl hl.1 ⟨rfl, rfl⟩ ⟨Nat.le_of_ble_eq_true rfl, Nat.le_of_ble_eq_true rfl⟩ (Nat.le_of_ble_eq_true rfl) ⟨Nat.le_of_ble_eq_true rfl, Nat.le_of_ble_eq_true rfl⟩ d_MD_isBesideNumber_69 (fun r69 u69 H locs hp69 hI => ?_)
                    refine q_as (y := kAt n (fl 9) (fl 10) K (nI a)) hp69 ?_
                    refine q_as (y := K a) (kAt_n (by omega) (by omega)) ?_
                    refine lv_iconst (v := 3) hx hb d_MD_isBesideNumber_72 (by decide) ?_
                    refine lv_icmp_ne (tgt := 80) hx hb d_MD_isBesideNumber_73 (by decide) (fun c73 => ?_) (fun c73 => ?_)
                    · have hno : ¬ nexE n K i := bes_no hi h5 hb2 ha1 hb3 hb4 ha5 has ha2 h1n (fun q => c73 q.2)
                      refine lv_iconst (v := 0) hx hb d_MD_isBesideNumber_80 (by decide) ?_
                      exact hret 0 () _ _ _ _ _ _ d_MD_isBesideNumber_81 hI (by symm; first | exact bI_t hyes | exact bI_f hno) (by first | rfl | exact bI_narrow) (Nat.le_refl 0) (Nat.le_refl 0)
                    · have hyes : nexE n K i := Or.inr ⟨a, by rcases Nat.lt_or_ge i a with q | q; exact q; exact absurd (show K i = 3 by rw [show i = a by omega]; exact c73) (by rw [h5]; decide), by omega, c73, fun b e1 e2 => ha5 b (by omega) e2⟩
                      refine lv_iconst (v := 1) hx hb d_MD_isBesideNumber_76 (by decide) ?_
                      refine lv_goto (tgt := 81) hx hb d_MD_isBesideNumber_77 (by decide) ?_
                      exact hret 1 () _ _ _ _ _ _ d_MD_isBesideNumber_81 hI (by symm; first | exact bI_t hyes | exact bI_f hno) (by first | rfl | exact bI_narrow) (Nat.le_refl 0) (Nat.le_refl 0)
            · have c28 : ¬ n ≤ a := fun h => c28 ((nI_leI (a := n) (b := a) (by omega) (by omega)).mpr h)
              refine lv_aload_n hx hb d_MD_isBesideNumber_31 rfl (lv_at hl 0 rfl) ?_
              refine lv_iload_n hx hb d_MD_isBesideNumber_32 rfl (lv_at hl 3 rfl) ?_
              refine q_calliV [.int (nI a)] M hI (c_MD_kindAt l g ad ar fl (nI a) n P K f0 (by first | exact hn | assumption | omega | rfl) (by first | exact hN | assumption | omega | rfl) (by first | exact hP | assumption | omega | rfl) (by first | exact hPb | assumption | omega | rfl) (by first | exact hij | assumption | omega | rfl) (by first | exact hw | assumption | omega | rfl)) ok_MD_kindAt m5_169 m5_171 ms_66 0 rfl rfl rfl rfl hl.1 ⟨rfl, rfl⟩ ⟨Nat.le_of_ble_eq_true rfl, Nat.le_of_ble_eq_true rfl⟩ (Nat.le_of_ble_eq_true rfl) ⟨Nat.le_of_ble_eq_true rfl, Nat.le_of_ble_eq_true rfl⟩ d_MD_isBesideNumber_33 (fun r33 u33 H locs hp33 hI => ?_)
              refine q_as (y := kAt n (fl 9) (fl 10) K (nI a)) hp33 ?_
              refine q_as (y := K a) (kAt_n (by omega) (by omega)) ?_
              refine lv_iconst (v := 5) hx hb d_MD_isBesideNumber_36 (by decide) ?_
              refine lv_icmp_ne (tgt := 46) hx hb d_MD_isBesideNumber_37 (by decide) (fun c37 => ?_) (fun c37 => ?_)
              · have has : a = n ∨ K a ≠ 5 := Or.inr c37
                obtain ⟨hb1, hb2, hb3, hb4⟩ := hbk
                refine lv_iload_n hx hb d_MD_isBesideNumber_46 rfl (lv_at hl 2 rfl) ?_
                refine lv_if_lt (tgt := 59) hx hb d_MD_isBesideNumber_47 (by decide) (fun c47 => ?_) (fun c47 => ?_)
                · have hz0 : z = 0 := (nI_m1neg (by omega)).mp (hb1 ▸ c47)
                  have h1n : ¬ (0 < z ∧ K (z - 1) = 3) := fun q => by omega
                  refine lv_iload_n hx hb d_MD_isBesideNumber_59 rfl (lv_at hl 3 rfl) ?_
                  refine lv_aload_n hx hb d_MD_isBesideNumber_60 rfl (lv_at hl 0 rfl) ?_
                  refine g_MD_155 M hI d_MD_isBesideNumber_61 ?_
                  refine q_as (y := nI n) hn ?_
                  refine lv_icmp_ge (tgt := 80) hx hb d_MD_isBesideNumber_64 (by decide) (fun c64 => ?_) (fun c64 => ?_)
                  · have c64 : n ≤ a := (nI_leI (a := n) (b := a) (by omega) (by omega)).mp c64
                    have hno : ¬ nexE n K i := bes_no hi h5 hb2 ha1 hb3 hb4 ha5 has ha2 h1n (fun q => by omega)
                    refine lv_iconst (v := 0) hx hb d_MD_isBesideNumber_80 (by decide) ?_
                    exact hret 0 () _ _ _ _ _ _ d_MD_isBesideNumber_81 hI (by symm; first | exact bI_t hyes | exact bI_f hno) (by first | rfl | exact bI_narrow) (Nat.le_refl 0) (Nat.le_refl 0)
                  · have c64 : ¬ n ≤ a := fun h => c64 ((nI_leI (a := n) (b := a) (by omega) (by omega)).mpr h)
                    refine lv_aload_n hx hb d_MD_isBesideNumber_67 rfl (lv_at hl 0 rfl) ?_
                    refine lv_iload_n hx hb d_MD_isBesideNumber_68 rfl (lv_at hl 3 rfl) ?_
                    refine q_calliV [.int (nI a)] M hI (c_MD_kindAt l g ad ar fl (nI a) n P K f0 (by first | exact hn | assumption | omega | rfl) (by first | exact hN | assumption | omega | rfl) (by first | exact hP | assumption | omega | rfl) (by first | exact hPb | assumption | omega | rfl) (by first | exact hij | assumption | omega | rfl) (by first | exact hw | assumption | omega | rfl)) ok_MD_kindAt m5_169 m5_171 ms_66 0 rfl rfl rfl rfl hl.1 ⟨rfl, rfl⟩ ⟨Nat.le_of_ble_eq_true rfl, Nat.le_of_ble_eq_true rfl⟩ (Nat.le_of_ble_eq_true rfl) ⟨Nat.le_of_ble_eq_true rfl, Nat.le_of_ble_eq_true rfl⟩ d_MD_isBesideNumber_69 (fun r69 u69 H locs hp69 hI => ?_)
                    refine q_as (y := kAt n (fl 9) (fl 10) K (nI a)) hp69 ?_
                    refine q_as (y := K a) (kAt_n (by omega) (by omega)) ?_
                    refine lv_iconst (v := 3) hx hb d_MD_isBesideNumber_72 (by decide) ?_
                    refine lv_icmp_ne (tgt := 80) hx hb d_MD_isBesideNumber_73 (by decide) (fun c73 => ?_) (fun c73 => ?_)
                    · have hno : ¬ nexE n K i := bes_no hi h5 hb2 ha1 hb3 hb4 ha5 has ha2 h1n (fun q => c73 q.2)
                      refine lv_iconst (v := 0) hx hb d_MD_isBesideNumber_80 (by decide) ?_
                      exact hret 0 () _ _ _ _ _ _ d_MD_isBesideNumber_81 hI (by symm; first | exact bI_t hyes | exact bI_f hno) (by first | rfl | exact bI_narrow) (Nat.le_refl 0) (Nat.le_refl 0)
                    · have hyes : nexE n K i := Or.inr ⟨a, by rcases Nat.lt_or_ge i a with q | q; exact q; exact absurd (show K i = 3 by rw [show i = a by omega]; exact c73) (by rw [h5]; decide), by omega, c73, fun b e1 e2 => ha5 b (by omega) e2⟩
                      refine lv_iconst (v := 1) hx hb d_MD_isBesideNumber_76 (by decide) ?_
                      refine lv_goto (tgt := 81) hx hb d_MD_isBesideNumber_77 (by decide) ?_
                      exact hret 1 () _ _ _ _ _ _ d_MD_isBesideNumber_81 hI (by symm; first | exact bI_t hyes | exact bI_f hno) (by first | rfl | exact bI_narrow) (Nat.le_refl 0) (Nat.le_refl 0)
                · have hz0 : 0 < z := by have : ¬ z = 0 := fun q => c47 (by rw [hb1]; exact (nI_m1neg (by omega)).mpr q); omega
                  refine lv_aload_n hx hb d_MD_isBesideNumber_50 rfl (lv_at hl 0 rfl) ?_
                  refine lv_iload_n hx hb d_MD_isBesideNumber_51 rfl (lv_at hl 2 rfl) ?_
                  refine q_calliV [.int x2] M hI (c_MD_kindAt l g ad ar fl x2 n P K f0 (by first | exact hn | assumption | omega | rfl) (by first | exact hN | assumption | omega | rfl) (by first | exact hP | assumption | omega | rfl) (by first | exact hPb | assumption | omega | rfl) (by first | exact hij | assumption | omega | rfl) (by first | exact hw | assumption | omega | rfl)) ok_MD_kindAt m5_169 m5_171 ms_66 0 rfl rfl rfl rfl hl.1 ⟨rfl, rfl⟩ ⟨Nat.le_of_ble_eq_true rfl, Nat.le_of_ble_eq_true rfl⟩ (Nat.le_of_ble_eq_true rfl) ⟨Nat.le_of_ble_eq_true rfl, Nat.le_of_ble_eq_true rfl⟩ d_MD_isBesideNumber_52 (fun r52 u52 H locs hp52 hI => ?_)
                  refine q_as (y := kAt n (fl 9) (fl 10) K x2) hp52 ?_
                  refine q_as (y := K (z - 1)) (by rw [hb1]; exact kAt_p (by omega) hz0 (by omega)) ?_
                  refine lv_iconst (v := 3) hx hb d_MD_isBesideNumber_55 (by decide) ?_
                  refine lv_icmp_eq (tgt := 76) hx hb d_MD_isBesideNumber_56 (by decide) (fun c56 => ?_) (fun c56 => ?_)
                  · have hyes : nexE n K i := Or.inl ⟨z - 1, by rcases Nat.lt_or_ge (z - 1) i with q | q; exact q; exact absurd (show K i = 3 by rw [show i = z - 1 by omega]; exact c56) (by rw [h5]; decide), c56, fun b e1 e2 => hb3 b (by omega) (by omega)⟩
                    refine lv_iconst (v := 1) hx hb d_MD_isBesideNumber_76 (by decide) ?_
                    refine lv_goto (tgt := 81) hx hb d_MD_isBesideNumber_77 (by decide) ?_
                    exact hret 1 () _ _ _ _ _ _ d_MD_isBesideNumber_81 hI (by symm; first | exact bI_t hyes | exact bI_f hno) (by first | rfl | exact bI_narrow) (Nat.le_refl 0) (Nat.le_refl 0)
                  · have h1n : ¬ (0 < z ∧ K (z - 1) = 3) := fun q => c56 q.2
                    refine lv_iload_n hx hb d_MD_isBesideNumber_59 rfl (lv_at hl 3 rfl) ?_
                    refine lv_aload_n hx hb d_MD_isBesideNumber_60 rfl (lv_at hl 0 rfl) ?_
                    refine g_MD_155 M hI d_MD_isBesideNumber_61 ?_
                    refine q_as (y := nI n) hn ?_
                    refine lv_icmp_ge (tgt := 80) hx hb d_MD_isBesideNumber_64 (by decide) (fun c64 => ?_) (fun c64 => ?_)
                    · have c64 : n ≤ a := (nI_leI (a := n) (b := a) (by omega) (by omega)).mp c64
                      have hno : ¬ nexE n K i := bes_no hi h5 hb2 ha1 hb3 hb4 ha5 has ha2 h1n (fun q => by omega)
                      refine lv_iconst (v := 0) hx hb d_MD_isBesideNumber_80 (by decide) ?_
                      exact hret 0 () _ _ _ _ _ _ d_MD_isBesideNumber_81 hI (by symm; first | exact bI_t hyes | exact bI_f hno) (by first | rfl | exact bI_narrow) (Nat.le_refl 0) (Nat.le_refl 0)
                    · have c64 : ¬ n ≤ a := fun h => c64 ((nI_leI (a := n) (b := a) (by omega) (by omega)).mpr h)
                      refine lv_aload_n hx hb d_MD_isBesideNumber_67 rfl (lv_at hl 0 rfl) ?_
                      refine lv_iload_n hx hb d_MD_isBesideNumber_68 rfl (lv_at hl 3 rfl) ?_
                      refine q_calliV [.int (nI a)] M hI (c_MD_kindAt l g ad ar fl (nI a) n P K f0 (by first | exact hn | assumption | omega | rfl) (by first | exact hN | assumption | omega | rfl) (by first | exact hP | assumption | omega | rfl) (by first | exact hPb | assumption | omega | rfl) (by first | exact hij | assumption | omega | rfl) (by first | exact hw | assumption | omega | rfl)) ok_MD_kindAt m5_169 m5_171 ms_66 0 rfl rfl rfl rfl hl.1 ⟨rfl, rfl⟩ ⟨Nat.le_of_ble_eq_true rfl, Nat.le_of_ble_eq_true rfl⟩ (Nat.le_of_ble_eq_true rfl) ⟨Nat.le_of_ble_eq_true rfl, Nat.le_of_ble_eq_true rfl⟩ d_MD_isBesideNumber_69 (fun r69 u69 H locs hp69 hI => ?_)
                      refine q_as (y := kAt n (fl 9) (fl 10) K (nI a)) hp69 ?_
                      refine q_as (y := K a) (kAt_n (by omega) (by omega)) ?_
                      refine lv_iconst (v := 3) hx hb d_MD_isBesideNumber_72 (by decide) ?_
                      refine lv_icmp_ne (tgt := 80) hx hb d_MD_isBesideNumber_73 (by decide) (fun c73 => ?_) (fun c73 => ?_)
                      · have hno : ¬ nexE n K i := bes_no hi h5 hb2 ha1 hb3 hb4 ha5 has ha2 h1n (fun q => c73 q.2)
                        refine lv_iconst (v := 0) hx hb d_MD_isBesideNumber_80 (by decide) ?_
                        exact hret 0 () _ _ _ _ _ _ d_MD_isBesideNumber_81 hI (by symm; first | exact bI_t hyes | exact bI_f hno) (by first | rfl | exact bI_narrow) (Nat.le_refl 0) (Nat.le_refl 0)
                      · have hyes : nexE n K i := Or.inr ⟨a, by rcases Nat.lt_or_ge i a with q | q; exact q; exact absurd (show K i = 3 by rw [show i = a by omega]; exact c73) (by rw [h5]; decide), by omega, c73, fun b e1 e2 => ha5 b (by omega) e2⟩
                        refine lv_iconst (v := 1) hx hb d_MD_isBesideNumber_76 (by decide) ?_
                        refine lv_goto (tgt := 81) hx hb d_MD_isBesideNumber_77 (by decide) ?_
                        exact hret 1 () _ _ _ _ _ _ d_MD_isBesideNumber_81 hI (by symm; first | exact bI_t hyes | exact bI_f hno) (by first | rfl | exact bI_narrow) (Nat.le_refl 0) (Nat.le_refl 0)
              · refine lv_iinc (v := nI (a + 1)) (lv' := [(3, .int (nI (a + 1))), (0, .ref (ad 0)), (1, .int (nI i)), (2, .int x2)]) hx hb d_MD_isBesideNumber_40 hl (k := 3) rfl (nI_add _ 1) (by decide) rfl (fun ls hl => ?_)
                refine lv_goto (tgt := 23) hx hb d_MD_isBesideNumber_43 (by decide) ?_
                exact ih23 x2 z (a + 1) (by omega) (hbk) (by first | assumption | omega) (by first | assumption | omega) (fun b h1 h2 => by rcases Nat.lt_or_ge b a with q | q; exact ha5 b h1 q; rw [show b = a by omega]; exact c37) _ _ _ hI (lv_sub hl [1, 2, 3, 0] rfl)
        exact L23 _ (nI z - 1) z i (Nat.lt_succ_self _) (hbk) (by first | assumption | omega) (by first | assumption | omega) (fun b h1 h2 => absurd h2 (by omega)) _ _ _ hI (lv_sub hl [1, 2, 3, 0] rfl)
      · obtain ⟨j, rfl⟩ : ∃ j, z = j + 1 := ⟨z - 1, by have : ¬ z = 0 := fun q => c3 ((nI_m1neg (by omega)).mpr q); omega⟩
        rw [nI_pred] at hl
        refine lv_aload_n hx hb d_MD_isBesideNumber_6 rfl (lv_at hl 0 rfl) ?_
        refine lv_iload_n hx hb d_MD_isBesideNumber_7 rfl (lv_at hl 2 rfl) ?_
        refine q_calliV [.int (nI j)] M hI (c_MD_kindAt l g ad ar fl (nI j) n P K f0 (by first | exact hn | assumption | omega | rfl) (by first | exact hN | assumption | omega | rfl) (by first | exact hP | assumption | omega | rfl) (by first | exact hPb | assumption | omega | rfl) (by first | exact hij | assumption | omega | rfl) (by first | exact hw | assumption | omega | rfl)) ok_MD_kindAt m5_169 m5_171 ms_66 0 rfl rfl rfl rfl hl.1 ⟨rfl, rfl⟩ ⟨Nat.le_of_ble_eq_true rfl, Nat.le_of_ble_eq_true rfl⟩ (Nat.le_of_ble_eq_true rfl) ⟨Nat.le_of_ble_eq_true rfl, Nat.le_of_ble_eq_true rfl⟩ d_MD_isBesideNumber_8 (fun r8 u8 H locs hp8 hI => ?_)
        refine q_as (y := kAt n (fl 9) (fl 10) K (nI j)) hp8 ?_
        refine q_as (y := K j) (kAt_n (by omega) (by omega)) ?_
        refine lv_iconst (v := 5) hx hb d_MD_isBesideNumber_11 (by decide) ?_
        refine lv_icmp_ne (tgt := 21) hx hb d_MD_isBesideNumber_12 (by decide) (fun c12 => ?_) (fun c12 => ?_)
        · have hbk : bkS K i (nI j) (j + 1) := ⟨(nI_pred j).symm, hz, hz5, Or.inr c12⟩
          refine lv_iload_n hx hb d_MD_isBesideNumber_21 rfl (lv_at hl 1 rfl) ?_
          refine lv_istore_n (lv' := [(3, .int (nI i)), (0, .ref (ad 0)), (1, .int (nI i)), (2, .int (nI j))]) hx hb d_MD_isBesideNumber_22 rfl hl (by decide) rfl (fun ls hl => ?_)
          have L23 : ∀ (fu : Nat) (x2 : Int32) (z : Nat) (a : Nat), (n - a) < fu → (bkS K i x2 z) → (i ≤ a) → (a ≤ n) → (∀ b, i ≤ b → b < a → K b = 5) → ∀ (H : Heap) (locs : List Loc) (ls : Array Slot), CI g A s (mw g ad ar fl) H locs → lv_has ls 4 [(0, .ref (ad 0)), (1, .int (nI i)), (2, .int x2), (3, .int (nI a))] → W p l e rm_MD_isBesideNumber s m args below meth c H locs 0 0 Q (F0 m 23 ls []) := by
            intro fu
            induction fu with
            | zero => intro x2 z a hm; exact absurd hm (Nat.not_lt_zero _)
            | succ fu ih23 =>
              intro x2 z a hm hbk ha1 ha2 ha5 H locs ls hI hl
              refine lv_iload_n hx hb d_MD_isBesideNumber_23 rfl (lv_at hl 3 rfl) ?_
              refine lv_aload_n hx hb d_MD_isBesideNumber_24 rfl (lv_at hl 0 rfl) ?_
              refine g_MD_155 M hI d_MD_isBesideNumber_25 ?_
              refine q_as (y := nI n) hn ?_
              refine lv_icmp_ge (tgt := 46) hx hb d_MD_isBesideNumber_28 (by decide) (fun c28 => ?_) (fun c28 => ?_)
              · have c28 : n ≤ a := (nI_leI (a := n) (b := a) (by omega) (by omega)).mp c28
                have has : a = n ∨ K a ≠ 5 := Or.inl (by omega)
                obtain ⟨hb1, hb2, hb3, hb4⟩ := hbk
                refine lv_iload_n hx hb d_MD_isBesideNumber_46 rfl (lv_at hl 2 rfl) ?_
                refine lv_if_lt (tgt := 59) hx hb d_MD_isBesideNumber_47 (by decide) (fun c47 => ?_) (fun c47 => ?_)
                · have hz0 : z = 0 := (nI_m1neg (by omega)).mp (hb1 ▸ c47)
                  have h1n : ¬ (0 < z ∧ K (z - 1) = 3) := fun q => by omega
                  refine lv_iload_n hx hb d_MD_isBesideNumber_59 rfl (lv_at hl 3 rfl) ?_
                  refine lv_aload_n hx hb d_MD_isBesideNumber_60 rfl (lv_at hl 0 rfl) ?_
                  refine g_MD_155 M hI d_MD_isBesideNumber_61 ?_
                  refine q_as (y := nI n) hn ?_
                  refine lv_icmp_ge (tgt := 80) hx hb d_MD_isBesideNumber_64 (by decide) (fun c64 => ?_) (fun c64 => ?_)
                  · have c64 : n ≤ a := (nI_leI (a := n) (b := a) (by omega) (by omega)).mp c64
                    have hno : ¬ nexE n K i := bes_no hi h5 hb2 ha1 hb3 hb4 ha5 has ha2 h1n (fun q => by omega)
                    refine lv_iconst (v := 0) hx hb d_MD_isBesideNumber_80 (by decide) ?_
                    exact hret 0 () _ _ _ _ _ _ d_MD_isBesideNumber_81 hI (by symm; first | exact bI_t hyes | exact bI_f hno) (by first | rfl | exact bI_narrow) (Nat.le_refl 0) (Nat.le_refl 0)
                  · have c64 : ¬ n ≤ a := fun h => c64 ((nI_leI (a := n) (b := a) (by omega) (by omega)).mpr h)
                    refine lv_aload_n hx hb d_MD_isBesideNumber_67 rfl (lv_at hl 0 rfl) ?_
                    refine lv_iload_n hx hb d_MD_isBesideNumber_68 rfl (lv_at hl 3 rfl) ?_
                    refine q_calliV [.int (nI a)] M hI (c_MD_kindAt l g ad ar fl (nI a) n P K f0 (by first | exact hn | assumption | omega | rfl) (by first | exact hN | assumption | omega | rfl) (by first | exact hP | assumption | omega | rfl) (by first | exact hPb | assumption | omega | rfl) (by first | exact hij | assumption | omega | rfl) (by first | exact hw | assumption | omega | rfl)) ok_MD_kindAt m5_169 m5_171 ms_66 0 rfl rfl rfl rfl hl.1 ⟨rfl, rfl⟩ ⟨Nat.le_of_ble_eq_true rfl, Nat.le_of_ble_eq_true rfl⟩ (Nat.le_of_ble_eq_true rfl) ⟨Nat.le_of_ble_eq_true rfl, Nat.le_of_ble_eq_true rfl⟩ d_MD_isBesideNumber_69 (fun r69 u69 H locs hp69 hI => ?_)
                    refine q_as (y := kAt n (fl 9) (fl 10) K (nI a)) hp69 ?_
                    refine q_as (y := K a) (kAt_n (by omega) (by omega)) ?_
                    refine lv_iconst (v := 3) hx hb d_MD_isBesideNumber_72 (by decide) ?_
                    refine lv_icmp_ne (tgt := 80) hx hb d_MD_isBesideNumber_73 (by decide) (fun c73 => ?_) (fun c73 => ?_)
                    · have hno : ¬ nexE n K i := bes_no hi h5 hb2 ha1 hb3 hb4 ha5 has ha2 h1n (fun q => c73 q.2)
                      refine lv_iconst (v := 0) hx hb d_MD_isBesideNumber_80 (by decide) ?_
                      exact hret 0 () _ _ _ _ _ _ d_MD_isBesideNumber_81 hI (by symm; first | exact bI_t hyes | exact bI_f hno) (by first | rfl | exact bI_narrow) (Nat.le_refl 0) (Nat.le_refl 0)
                    · have hyes : nexE n K i := Or.inr ⟨a, by rcases Nat.lt_or_ge i a with q | q; exact q; exact absurd (show K i = 3 by rw [show i = a by omega]; exact c73) (by rw [h5]; decide), by omega, c73, fun b e1 e2 => ha5 b (by omega) e2⟩
                      refine lv_iconst (v := 1) hx hb d_MD_isBesideNumber_76 (by decide) ?_
                      refine lv_goto (tgt := 81) hx hb d_MD_isBesideNumber_77 (by decide) ?_
                      exact hret 1 () _ _ _ _ _ _ d_MD_isBesideNumber_81 hI (by symm; first | exact bI_t hyes | exact bI_f hno) (by first | rfl | exact bI_narrow) (Nat.le_refl 0) (Nat.le_refl 0)
                · have hz0 : 0 < z := by have : ¬ z = 0 := fun q => c47 (by rw [hb1]; exact (nI_m1neg (by omega)).mpr q); omega
                  refine lv_aload_n hx hb d_MD_isBesideNumber_50 rfl (lv_at hl 0 rfl) ?_
                  refine lv_iload_n hx hb d_MD_isBesideNumber_51 rfl (lv_at hl 2 rfl) ?_
                  refine q_calliV [.int x2] M hI (c_MD_kindAt l g ad ar fl x2 n P K f0 (by first | exact hn | assumption | omega | rfl) (by first | exact hN | assumption | omega | rfl) (by first | exact hP | assumption | omega | rfl) (by first | exact hPb | assumption | omega | rfl) (by first | exact hij | assumption | omega | rfl) (by first | exact hw | assumption | omega | rfl)) ok_MD_kindAt m5_169 m5_171 ms_66 0 rfl rfl rfl rfl hl.1 ⟨rfl, rfl⟩ ⟨Nat.le_of_ble_eq_true rfl, Nat.le_of_ble_eq_true rfl⟩ (Nat.le_of_ble_eq_true rfl) ⟨Nat.le_of_ble_eq_true rfl, Nat.le_of_ble_eq_true rfl⟩ d_MD_isBesideNumber_52 (fun r52 u52 H locs hp52 hI => ?_)
                  refine q_as (y := kAt n (fl 9) (fl 10) K x2) hp52 ?_
                  refine q_as (y := K (z - 1)) (by rw [hb1]; exact kAt_p (by omega) hz0 (by omega)) ?_
                  refine lv_iconst (v := 3) hx hb d_MD_isBesideNumber_55 (by decide) ?_
                  refine lv_icmp_eq (tgt := 76) hx hb d_MD_isBesideNumber_56 (by decide) (fun c56 => ?_) (fun c56 => ?_)
                  · have hyes : nexE n K i := Or.inl ⟨z - 1, by rcases Nat.lt_or_ge (z - 1) i with q | q; exact q; exact absurd (show K i = 3 by rw [show i = z - 1 by omega]; exact c56) (by rw [h5]; decide), c56, fun b e1 e2 => hb3 b (by omega) (by omega)⟩
                    refine lv_iconst (v := 1) hx hb d_MD_isBesideNumber_76 (by decide) ?_
                    refine lv_goto (tgt := 81) hx hb d_MD_isBesideNumber_77 (by decide) ?_
                    exact hret 1 () _ _ _ _ _ _ d_MD_isBesideNumber_81 hI (by symm; first | exact bI_t hyes | exact bI_f hno) (by first | rfl | exact bI_narrow) (Nat.le_refl 0) (Nat.le_refl 0)
                  · have h1n : ¬ (0 < z ∧ K (z - 1) = 3) := fun q => c56 q.2
                    refine lv_iload_n hx hb d_MD_isBesideNumber_59 rfl (lv_at hl 3 rfl) ?_
                    refine lv_aload_n hx hb d_MD_isBesideNumber_60 rfl (lv_at hl 0 rfl) ?_
                    refine g_MD_155 M hI d_MD_isBesideNumber_61 ?_
                    refine q_as (y := nI n) hn ?_
                    refine lv_icmp_ge (tgt := 80) hx hb d_MD_isBesideNumber_64 (by decide) (fun c64 => ?_) (fun c64 => ?_)
                    · have c64 : n ≤ a := (nI_leI (a := n) (b := a) (by omega) (by omega)).mp c64
                      have hno : ¬ nexE n K i := bes_no hi h5 hb2 ha1 hb3 hb4 ha5 has ha2 h1n (fun q => by omega)
                      refine lv_iconst (v := 0) hx hb d_MD_isBesideNumber_80 (by decide) ?_
                      exact hret 0 () _ _ _ _ _ _ d_MD_isBesideNumber_81 hI (by symm; first | exact bI_t hyes | exact bI_f hno) (by first | rfl | exact bI_narrow) (Nat.le_refl 0) (Nat.le_refl 0)
                    · have c64 : ¬ n ≤ a := fun h => c64 ((nI_leI (a := n) (b := a) (by omega) (by omega)).mpr h)
                      refine lv_aload_n hx hb d_MD_isBesideNumber_67 rfl (lv_at hl 0 rfl) ?_
                      refine lv_iload_n hx hb d_MD_isBesideNumber_68 rfl (lv_at hl 3 rfl) ?_
                      refine q_calliV [.int (nI a)] M hI (c_MD_kindAt l g ad ar fl (nI a) n P K f0 (by first | exact hn | assumption | omega | rfl) (by first | exact hN | assumption | omega | rfl) (by first | exact hP | assumption | omega | rfl) (by first | exact hPb | assumption | omega | rfl) (by first | exact hij | assumption | omega | rfl) (by first | exact hw | assumption | omega | rfl)) ok_MD_kindAt m5_169 m5_171 ms_66 0 rfl rfl rfl rfl hl.1 ⟨rfl, rfl⟩ ⟨Nat.le_of_ble_eq_true rfl, Nat.le_of_ble_eq_true rfl⟩ (Nat.le_of_ble_eq_true rfl) ⟨Nat.le_of_ble_eq_true rfl, Nat.le_of_ble_eq_true rfl⟩ d_MD_isBesideNumber_69 (fun r69 u69 H locs hp69 hI => ?_)
                      refine q_as (y := kAt n (fl 9) (fl 10) K (nI a)) hp69 ?_
                      refine q_as (y := K a) (kAt_n (by omega) (by omega)) ?_
                      refine lv_iconst (v := 3) hx hb d_MD_isBesideNumber_72 (by decide) ?_
                      refine lv_icmp_ne (tgt := 80) hx hb d_MD_isBesideNumber_73 (by decide) (fun c73 => ?_) (fun c73 => ?_)
                      · have hno : ¬ nexE n K i := bes_no hi h5 hb2 ha1 hb3 hb4 ha5 has ha2 h1n (fun q => c73 q.2)
                        refine lv_iconst (v := 0) hx hb d_MD_isBesideNumber_80 (by decide) ?_
                        exact hret 0 () _ _ _ _ _ _ d_MD_isBesideNumber_81 hI (by symm; first | exact bI_t hyes | exact bI_f hno) (by first | rfl | exact bI_narrow) (Nat.le_refl 0) (Nat.le_refl 0)
                      · have hyes : nexE n K i := Or.inr ⟨a, by rcases Nat.lt_or_ge i a with q | q; exact q; exact absurd (show K i = 3 by rw [show i = a by omega]; exact c73) (by rw [h5]; decide), by omega, c73, fun b e1 e2 => ha5 b (by omega) e2⟩
                        refine lv_iconst (v := 1) hx hb d_MD_isBesideNumber_76 (by decide) ?_
                        refine lv_goto (tgt := 81) hx hb d_MD_isBesideNumber_77 (by decide) ?_
                        exact hret 1 () _ _ _ _ _ _ d_MD_isBesideNumber_81 hI (by symm; first | exact bI_t hyes | exact bI_f hno) (by first | rfl | exact bI_narrow) (Nat.le_refl 0) (Nat.le_refl 0)
              · have c28 : ¬ n ≤ a := fun h => c28 ((nI_leI (a := n) (b := a) (by omega) (by omega)).mpr h)
                refine lv_aload_n hx hb d_MD_isBesideNumber_31 rfl (lv_at hl 0 rfl) ?_
                refine lv_iload_n hx hb d_MD_isBesideNumber_32 rfl (lv_at hl 3 rfl) ?_
                refine q_calliV [.int (nI a)] M hI (c_MD_kindAt l g ad ar fl (nI a) n P K f0 (by first | exact hn | assumption | omega | rfl) (by first | exact hN | assumption | omega | rfl) (by first | exact hP | assumption | omega | rfl) (by first | exact hPb | assumption | omega | rfl) (by first | exact hij | assumption | omega | rfl) (by first | exact hw | assumption | omega | rfl)) ok_MD_kindAt m5_169 m5_171 ms_66 0 rfl rfl rfl rfl hl.1 ⟨rfl, rfl⟩ ⟨Nat.le_of_ble_eq_true rfl, Nat.le_of_ble_eq_true rfl⟩ (Nat.le_of_ble_eq_true rfl) ⟨Nat.le_of_ble_eq_true rfl, Nat.le_of_ble_eq_true rfl⟩ d_MD_isBesideNumber_33 (fun r33 u33 H locs hp33 hI => ?_)
                refine q_as (y := kAt n (fl 9) (fl 10) K (nI a)) hp33 ?_
                refine q_as (y := K a) (kAt_n (by omega) (by omega)) ?_
                refine lv_iconst (v := 5) hx hb d_MD_isBesideNumber_36 (by decide) ?_
                refine lv_icmp_ne (tgt := 46) hx hb d_MD_isBesideNumber_37 (by decide) (fun c37 => ?_) (fun c37 => ?_)
                · have has : a = n ∨ K a ≠ 5 := Or.inr c37
                  obtain ⟨hb1, hb2, hb3, hb4⟩ := hbk
                  refine lv_iload_n hx hb d_MD_isBesideNumber_46 rfl (lv_at hl 2 rfl) ?_
                  refine lv_if_lt (tgt := 59) hx hb d_MD_isBesideNumber_47 (by decide) (fun c47 => ?_) (fun c47 => ?_)
                  · have hz0 : z = 0 := (nI_m1neg (by omega)).mp (hb1 ▸ c47)
                    have h1n : ¬ (0 < z ∧ K (z - 1) = 3) := fun q => by omega
                    refine lv_iload_n hx hb d_MD_isBesideNumber_59 rfl (lv_at hl 3 rfl) ?_
                    refine lv_aload_n hx hb d_MD_isBesideNumber_60 rfl (lv_at hl 0 rfl) ?_
                    refine g_MD_155 M hI d_MD_isBesideNumber_61 ?_
                    refine q_as (y := nI n) hn ?_
                    refine lv_icmp_ge (tgt := 80) hx hb d_MD_isBesideNumber_64 (by decide) (fun c64 => ?_) (fun c64 => ?_)
                    · have c64 : n ≤ a := (nI_leI (a := n) (b := a) (by omega) (by omega)).mp c64
                      have hno : ¬ nexE n K i := bes_no hi h5 hb2 ha1 hb3 hb4 ha5 has ha2 h1n (fun q => by omega)
                      refine lv_iconst (v := 0) hx hb d_MD_isBesideNumber_80 (by decide) ?_
                      exact hret 0 () _ _ _ _ _ _ d_MD_isBesideNumber_81 hI (by symm; first | exact bI_t hyes | exact bI_f hno) (by first | rfl | exact bI_narrow) (Nat.le_refl 0) (Nat.le_refl 0)
                    · have c64 : ¬ n ≤ a := fun h => c64 ((nI_leI (a := n) (b := a) (by omega) (by omega)).mpr h)
                      refine lv_aload_n hx hb d_MD_isBesideNumber_67 rfl (lv_at hl 0 rfl) ?_
                      refine lv_iload_n hx hb d_MD_isBesideNumber_68 rfl (lv_at hl 3 rfl) ?_
                      refine q_calliV [.int (nI a)] M hI (c_MD_kindAt l g ad ar fl (nI a) n P K f0 (by first | exact hn | assumption | omega | rfl) (by first | exact hN | assumption | omega | rfl) (by first | exact hP | assumption | omega | rfl) (by first | exact hPb | assumption | omega | rfl) (by first | exact hij | assumption | omega | rfl) (by first | exact hw | assumption | omega | rfl)) ok_MD_kindAt m5_169 m5_171 ms_66 0 rfl rfl rfl rfl hl.1 ⟨rfl, rfl⟩ ⟨Nat.le_of_ble_eq_true rfl, Nat.le_of_ble_eq_true rfl⟩ (Nat.le_of_ble_eq_true rfl) ⟨Nat.le_of_ble_eq_true rfl, Nat.le_of_ble_eq_true rfl⟩ d_MD_isBesideNumber_69 (fun r69 u69 H locs hp69 hI => ?_)
                      refine q_as (y := kAt n (fl 9) (fl 10) K (nI a)) hp69 ?_
                      refine q_as (y := K a) (kAt_n (by omega) (by omega)) ?_
                      refine lv_iconst (v := 3) hx hb d_MD_isBesideNumber_72 (by decide) ?_
                      refine lv_icmp_ne (tgt := 80) hx hb d_MD_isBesideNumber_73 (by decide) (fun c73 => ?_) (fun c73 => ?_)
                      · have hno : ¬ nexE n K i := bes_no hi h5 hb2 ha1 hb3 hb4 ha5 has ha2 h1n (fun q => c73 q.2)
                        refine lv_iconst (v := 0) hx hb d_MD_isBesideNumber_80 (by decide) ?_
                        exact hret 0 () _ _ _ _ _ _ d_MD_isBesideNumber_81 hI (by symm; first | exact bI_t hyes | exact bI_f hno) (by first | rfl | exact bI_narrow) (Nat.le_refl 0) (Nat.le_refl 0)
                      · have hyes : nexE n K i := Or.inr ⟨a, by rcases Nat.lt_or_ge i a with q | q; exact q; exact absurd (show K i = 3 by rw [show i = a by omega]; exact c73) (by rw [h5]; decide), by omega, c73, fun b e1 e2 => ha5 b (by omega) e2⟩
                        refine lv_iconst (v := 1) hx hb d_MD_isBesideNumber_76 (by decide) ?_
                        refine lv_goto (tgt := 81) hx hb d_MD_isBesideNumber_77 (by decide) ?_
                        exact hret 1 () _ _ _ _ _ _ d_MD_isBesideNumber_81 hI (by symm; first | exact bI_t hyes | exact bI_f hno) (by first | rfl | exact bI_narrow) (Nat.le_refl 0) (Nat.le_refl 0)
                  · have hz0 : 0 < z := by have : ¬ z = 0 := fun q => c47 (by rw [hb1]; exact (nI_m1neg (by omega)).mpr q); omega
                    refine lv_aload_n hx hb d_MD_isBesideNumber_50 rfl (lv_at hl 0 rfl) ?_
                    refine lv_iload_n hx hb d_MD_isBesideNumber_51 rfl (lv_at hl 2 rfl) ?_
                    refine q_calliV [.int x2] M hI (c_MD_kindAt l g ad ar fl x2 n P K f0 (by first | exact hn | assumption | omega | rfl) (by first | exact hN | assumption | omega | rfl) (by first | exact hP | assumption | omega | rfl) (by first | exact hPb | assumption | omega | rfl) (by first | exact hij | assumption | omega | rfl) (by first | exact hw | assumption | omega | rfl)) ok_MD_kindAt m5_169 m5_171 ms_66 0 rfl rfl rfl rfl hl.1 ⟨rfl, rfl⟩ ⟨Nat.le_of_ble_eq_true rfl, Nat.le_of_ble_eq_true rfl⟩ (Nat.le_of_ble_eq_true rfl) ⟨Nat.le_of_ble_eq_true rfl, Nat.le_of_ble_eq_true rfl⟩ d_MD_isBesideNumber_52 (fun r52 u52 H locs hp52 hI => ?_)
                    refine q_as (y := kAt n (fl 9) (fl 10) K x2) hp52 ?_
                    refine q_as (y := K (z - 1)) (by rw [hb1]; exact kAt_p (by omega) hz0 (by omega)) ?_
                    refine lv_iconst (v := 3) hx hb d_MD_isBesideNumber_55 (by decide) ?_
                    refine lv_icmp_eq (tgt := 76) hx hb d_MD_isBesideNumber_56 (by decide) (fun c56 => ?_) (fun c56 => ?_)
                    · have hyes : nexE n K i := Or.inl ⟨z - 1, by rcases Nat.lt_or_ge (z - 1) i with q | q; exact q; exact absurd (show K i = 3 by rw [show i = z - 1 by omega]; exact c56) (by rw [h5]; decide), c56, fun b e1 e2 => hb3 b (by omega) (by omega)⟩
                      refine lv_iconst (v := 1) hx hb d_MD_isBesideNumber_76 (by decide) ?_
                      refine lv_goto (tgt := 81) hx hb d_MD_isBesideNumber_77 (by decide) ?_
                      exact hret 1 () _ _ _ _ _ _ d_MD_isBesideNumber_81 hI (by symm; first | exact bI_t hyes | exact bI_f hno) (by first | rfl | exact bI_narrow) (Nat.le_refl 0) (Nat.le_refl 0)
                    · have h1n : ¬ (0 < z ∧ K (z - 1) = 3) := fun q => c56 q.2
                      refine lv_iload_n hx hb d_MD_isBesideNumber_59 rfl (lv_at hl 3 rfl) ?_
                      refine lv_aload_n hx hb d_MD_isBesideNumber_60 rfl (lv_at hl 0 rfl) ?_
                      refine g_MD_155 M hI d_MD_isBesideNumber_61 ?_
                      refine q_as (y := nI n) hn ?_
                      refine lv_icmp_ge (tgt := 80) hx hb d_MD_isBesideNumber_64 (by decide) (fun c64 => ?_) (fun c64 => ?_)
                      · have c64 : n ≤ a := (nI_leI (a := n) (b := a) (by omega) (by omega)).mp c64
                        have hno : ¬ nexE n K i := bes_no hi h5 hb2 ha1 hb3 hb4 ha5 has ha2 h1n (fun q => by omega)
                        refine lv_iconst (v := 0) hx hb d_MD_isBesideNumber_80 (by decide) ?_
                        exact hret 0 () _ _ _ _ _ _ d_MD_isBesideNumber_81 hI (by symm; first | exact bI_t hyes | exact bI_f hno) (by first | rfl | exact bI_narrow) (Nat.le_refl 0) (Nat.le_refl 0)
                      · have c64 : ¬ n ≤ a := fun h => c64 ((nI_leI (a := n) (b := a) (by omega) (by omega)).mpr h)
                        refine lv_aload_n hx hb d_MD_isBesideNumber_67 rfl (lv_at hl 0 rfl) ?_
                        refine lv_iload_n hx hb d_MD_isBesideNumber_68 rfl (lv_at hl 3 rfl) ?_
                        refine q_calliV [.int (nI a)] M hI (c_MD_kindAt l g ad ar fl (nI a) n P K f0 (by first | exact hn | assumption | omega | rfl) (by first | exact hN | assumption | omega | rfl) (by first | exact hP | assumption | omega | rfl) (by first | exact hPb | assumption | omega | rfl) (by first | exact hij | assumption | omega | rfl) (by first | exact hw | assumption | omega | rfl)) ok_MD_kindAt m5_169 m5_171 ms_66 0 rfl rfl rfl rfl hl.1 ⟨rfl, rfl⟩ ⟨Nat.le_of_ble_eq_true rfl, Nat.le_of_ble_eq_true rfl⟩ (Nat.le_of_ble_eq_true rfl) ⟨Nat.le_of_ble_eq_true rfl, Nat.le_of_ble_eq_true rfl⟩ d_MD_isBesideNumber_69 (fun r69 u69 H locs hp69 hI => ?_)
                        refine q_as (y := kAt n (fl 9) (fl 10) K (nI a)) hp69 ?_
                        refine q_as (y := K a) (kAt_n (by omega) (by omega)) ?_
                        refine lv_iconst (v := 3) hx hb d_MD_isBesideNumber_72 (by decide) ?_
                        refine lv_icmp_ne (tgt := 80) hx hb d_MD_isBesideNumber_73 (by decide) (fun c73 => ?_) (fun c73 => ?_)
                        · have hno : ¬ nexE n K i := bes_no hi h5 hb2 ha1 hb3 hb4 ha5 has ha2 h1n (fun q => c73 q.2)
                          refine lv_iconst (v := 0) hx hb d_MD_isBesideNumber_80 (by decide) ?_
                          exact hret 0 () _ _ _ _ _ _ d_MD_isBesideNumber_81 hI (by symm; first | exact bI_t hyes | exact bI_f hno) (by first | rfl | exact bI_narrow) (Nat.le_refl 0) (Nat.le_refl 0)
                        · have hyes : nexE n K i := Or.inr ⟨a, by rcases Nat.lt_or_ge i a with q | q; exact q; exact absurd (show K i = 3 by rw [show i = a by omega]; exact c73) (by rw [h5]; decide), by omega, c73, fun b e1 e2 => ha5 b (by omega) e2⟩
                          refine lv_iconst (v := 1) hx hb d_MD_isBesideNumber_76 (by decide) ?_
                          refine lv_goto (tgt := 81) hx hb d_MD_isBesideNumber_77 (by decide) ?_
                          exact hret 1 () _ _ _ _ _ _ d_MD_isBesideNumber_81 hI (by symm; first | exact bI_t hyes | exact bI_f hno) (by first | rfl | exact bI_narrow) (Nat.le_refl 0) (Nat.le_refl 0)
                · refine lv_iinc (v := nI (a + 1)) (lv' := [(3, .int (nI (a + 1))), (0, .ref (ad 0)), (1, .int (nI i)), (2, .int x2)]) hx hb d_MD_isBesideNumber_40 hl (k := 3) rfl (nI_add _ 1) (by decide) rfl (fun ls hl => ?_)
                  refine lv_goto (tgt := 23) hx hb d_MD_isBesideNumber_43 (by decide) ?_
                  exact ih23 x2 z (a + 1) (by omega) (hbk) (by first | assumption | omega) (by first | assumption | omega) (fun b h1 h2 => by rcases Nat.lt_or_ge b a with q | q; exact ha5 b h1 q; rw [show b = a by omega]; exact c37) _ _ _ hI (lv_sub hl [1, 2, 3, 0] rfl)
          exact L23 _ (nI j) (j + 1) i (Nat.lt_succ_self _) (hbk) (by first | assumption | omega) (by first | assumption | omega) (fun b h1 h2 => absurd h2 (by omega)) _ _ _ hI (lv_sub hl [1, 2, 3, 0] rfl)
        · refine lv_iinc (v := nI j - 1) (lv' := [(2, .int (nI j - 1)), (0, .ref (ad 0)), (1, .int (nI i))]) hx hb d_MD_isBesideNumber_15 hl (k := 2) rfl (nI_dec j) (by decide) rfl (fun ls hl => ?_)
          refine lv_goto (tgt := 2) hx hb d_MD_isBesideNumber_18 (by decide) ?_
          exact ih2 j (by omega) (by first | assumption | omega) (fun b h1 h2 => by rcases Nat.eq_or_lt_of_le h1 with q | q; rw [← q]; exact c12; exact hz5 b (by omega) h2) _ _ _ hI (lv_sub hl [1, 2, 0] rfl)
  exact L2 _ (i + 1) (Nat.lt_succ_self _) (by first | assumption | omega) (fun b h1 h2 => absurd h2 (by omega)) _ _ _ hI (lv_sub hl [1, 2, 0] rfl)
