/-! 42: Line.show -/
def okV (f : Nat → Int32) : Prop := ∀ q, q < 2000 → f q = -1 ∨ ∃ v, v ≤ 127 ∧ f q = nI v
theorem okV_n {f : Nat → Int32} (h : okV f) {q : Nat} (hq : q < 2000) (hn : ¬ f q = -1) : f q = nI (f q).toNatClampNeg ∧ (f q).toNatClampNeg ≤ 127 := by
  obtain ⟨v, hv, e⟩ := (h q hq).resolve_left hn
  rw [e, nI_clamp (by omega)]
  exact ⟨rfl, hv⟩
theorem okV_upd {f : Nat → Int32} {i : Nat} {x : Int32} (h : okV f) (hx : x = -1 ∨ ∃ v, v ≤ 127 ∧ x = nI v) : okV (upd f i x) := by
  intro q hq
  by_cases z : q = i
  · rw [z, pk_us]; exact hx
  · rw [pk_un z]; exact h q hq
theorem lnS_ok {lv fst f0 : Nat → Int32} {base to : Nat} (hlv : okV lv) (h0 : okV f0) (hb : base ≤ 1) (hto : to ≤ 2000) : ∀ d, d ≤ to → okV (lnS lv fst base to f0 d).2
  | 0, _ => h0
  | d + 1, hd => by
    have ih := lnS_ok (fst := fst) hlv h0 hb hto d (by omega)
    simp only [lnS]
    split
    · exact okV_upd ih (Or.inl rfl)
    · refine okV_upd ih ?_
      split
      · exact Or.inr ⟨base, by omega, rfl⟩
      · exact hlv _ (by omega)
theorem lineL_mem {lv : Nat → Int32} {fr : Nat} : ∀ d q, q ∈ lineL lv fr d → fr ≤ q ∧ q < fr + d ∧ ¬ lv q = -1
  | 0, q, h => absurd h List.not_mem_nil
  | d + 1, q, h => by
    simp only [lineL] at h
    split at h
    · have := lineL_mem d q h; exact ⟨this.1, by omega, this.2.2⟩
    · rename_i hn
      rcases List.mem_append.mp h with w | w
      · have := lineL_mem d q w; exact ⟨this.1, by omega, this.2.2⟩
      · rw [List.mem_singleton.mp w]; exact ⟨by omega, by omega, hn⟩
theorem getD_mem {l : List Nat} {j : Nat} (h : j < l.length) : l.getD j 0 ∈ l := by
  rw [List.getD_eq_getElem?_getD, List.getElem?_eq_getElem h]; exact List.getElem_mem h
/-- a line as it is seen -/
def shL (lv fst : Nat → Int32) (base fr to : Nat) (f0 : Nat → Int32) : Nat → Int32 := (lnS lv fst base to f0 (to - fr)).2
def shN (lv fst : Nat → Int32) (base fr to : Nat) (f0 : Nat → Int32) : Nat := (lineL (shL lv fst base fr to f0) fr (to - fr)).length
def shV (lv fst : Nat → Int32) (base fr to : Nat) (f0 : Nat → Int32) (q : Nat) : Nat := (shL lv fst base fr to f0 q).toNatClampNeg
def shO (lv fst : Nat → Int32) (base fr to : Nat) (f0 : Nat → Int32) (j : Nat) : Nat := (lineL (shL lv fst base fr to f0) fr (to - fr)).getD j 0
def shD (lv fst : Nat → Int32) (base fr to : Nat) (f0 : Nat → Int32) : Nat → Nat := dn (shV lv fst base fr to f0) (shN lv fst base fr to f0) (loN (shV lv fst base fr to f0) (shO lv fst base fr to f0) (shN lv fst base fr to f0)) (hiZ (shV lv fst base fr to f0) (shO lv fst base fr to f0) (shN lv fst base fr to f0)) (shO lv fst base fr to f0)
theorem dn_pos {LV : Nat → Nat} {m lo cn : Nat} : ∀ z O, pos2 m O cn → pos2 m (dn LV m lo z O) cn
  | 0, _, h => h
  | z + 1, O, h => by
    simp only [dn]
    split
    · exact h
    · exact dn_pos z _ (trS_pos h (m + 1) (Nat.le_refl _))
abbrev rm_LN_show : Room := { frames := 3, cells := 0, slots := 0, locals := 72 }
set_option maxHeartbeats 4000000 in
set_option maxRecDepth 100000 in
theorem c_LN_show (l : Launch) (g : Geo) (ad : Nat → Nat) (ar : Nat → Nat → Int32) (fl : Nat → Int32) (fr : Nat) (to : Nat) (base : Nat) (cn : Nat) (hft : fr ≤ to) (hto : to ≤ cn) (hcn : fl 2 = nI cn) (hcN : cn ≤ 2000) (hbs : base ≤ 1) (h15 : okV (ar 15)) (h42 : okV (ar 42)) : cMv l y_LN_show (.code y_LN_show b_LN_show 4 none :: gw) rm_LN_show g [.ref (ad 11), .int (nI fr), .int (nI to), .int (nI base)] (cw g ad ar fl) (fun (u : (Nat → Int32)) => oR u (shD (ar 15) (ar 13) base fr to (ar 42)) (shN (ar 15) (ar 13) base fr to (ar 42))) (fun (u : (Nat → Int32)) => cw g ad (va_up (va_up (va_up ar 42 (shL (ar 15) (ar 13) base fr to (ar 42))) 41 u) 43 (plc (shD (ar 15) (ar 13) base fr to (ar 42)) (pre cn (fun _ => -1) (ar 43)) (shN (ar 15) (ar 13) base fr to (ar 42)))) (va_up fl 18 (nI (shN (ar 15) (ar 13) base fr to (ar 42))))) 0 0 := by
  refine cMv_of (by decide) (Nat.le_of_ble_eq_true rfl) ?_
  intro p e s m below meth c A Q ls M hnm hret hl hI
  have M : MC p s m ([.ref (ad 11), .int (nI fr), .int (nI to), .int (nI base)] : List Value).toArray meth c R_LN b_LN_show 4 := M
  have hl : lv_has ls 4 [(0, .ref (ad 11)), (1, .int (nI fr)), (2, .int (nI to)), (3, .int (nI base))] := hl
  generalize ([.ref (ad 11), .int (nI fr), .int (nI to), .int (nI base)] : List Value).toArray = args at M hret ⊢
  have hx := M.1
  have hb := M.2.1
  have hok : okV (shL (ar 15) (ar 13) base fr to (ar 42)) := lnS_ok h15 h42 hbs (by omega) (to - fr) (by omega)
  have hmn : shN (ar 15) (ar 13) base fr to (ar 42) ≤ to - fr := lineL_len _ fr (to - fr)
  have hme : ∀ j, j < shN (ar 15) (ar 13) base fr to (ar 42) → fr ≤ shO (ar 15) (ar 13) base fr to (ar 42) j ∧ shO (ar 15) (ar 13) base fr to (ar 42) j < fr + (to - fr) ∧ ¬ shL (ar 15) (ar 13) base fr to (ar 42) (shO (ar 15) (ar 13) base fr to (ar 42) j) = -1 := fun j hj => lineL_mem (to - fr) _ (getD_mem hj)
  have hps : pos2 (shN (ar 15) (ar 13) base fr to (ar 42)) (shO (ar 15) (ar 13) base fr to (ar 42)) cn := fun j hj => by have := (hme j hj).2.1; omega
  refine lv_aload_n hx hb d_LN_show_0 rfl (lv_at hl 0 rfl) ?_
  refine lv_iload_n hx hb d_LN_show_1 rfl (lv_at hl 1 rfl) ?_
  refine lv_iload_n hx hb d_LN_show_2 rfl (lv_at hl 2 rfl) ?_
  refine lv_iload_n hx hb d_LN_show_3 rfl (lv_at hl 3 rfl) ?_
  refine q_callvV [.int (nI fr), .int (nI to), .int (nI base)] M hI (c_LN_setLevels l g ad ar fl fr to base (hft) (by omega)) ok_LN_setLevels m4_110 m4_112 ms_37 11 rfl rfl rfl rfl hl.1 ⟨rfl, rfl⟩ ⟨Nat.le_of_ble_eq_true rfl, Nat.le_of_ble_eq_true rfl⟩ (Nat.le_of_ble_eq_true rfl) ⟨Nat.le_of_ble_eq_true rfl, Nat.le_of_ble_eq_true rfl⟩ d_LN_show_4 (fun u4 H locs hp4 hI => ?_)
  have hI : CI g A s (cw g ad (va_up ar 42 ((lnS (ar 15) (ar 13) base to (ar 42) (to - fr)).2)) fl) H locs := hI
  have hI := CI.to (w2 := cw g ad (va_up ar 42 (shL (ar 15) (ar 13) base fr to (ar 42))) fl) hI (by rfl)
  refine lv_aload_n hx hb d_LN_show_7 rfl (lv_at hl 0 rfl) ?_
  refine lv_iload_n hx hb d_LN_show_8 rfl (lv_at hl 1 rfl) ?_
  refine lv_iload_n hx hb d_LN_show_9 rfl (lv_at hl 2 rfl) ?_
  refine q_callvV [.int (nI fr), .int (nI to)] M hI (c_LN_setOrder l g ad (va_up ar 42 (shL (ar 15) (ar 13) base fr to (ar 42))) fl fr to (hft) (by omega)) ok_LN_setOrder m4_115 m4_117 ms_38 11 rfl rfl rfl rfl hl.1 ⟨rfl, rfl⟩ ⟨Nat.le_of_ble_eq_true rfl, Nat.le_of_ble_eq_true rfl⟩ (Nat.le_of_ble_eq_true rfl) ⟨Nat.le_of_ble_eq_true rfl, Nat.le_of_ble_eq_true rfl⟩ d_LN_show_10 (fun u10 H locs hp10 hI => ?_)
  obtain ⟨y_10, rfl⟩ : ∃ z, z = u10 := ⟨_, rfl⟩
  have hI : CI g A s (cw g ad (va_up (va_up ar 42 (shL (ar 15) (ar 13) base fr to (ar 42))) 41 y_10) (va_up fl 18 (nI (lineL (shL (ar 15) (ar 13) base fr to (ar 42)) fr (to - fr)).length))) H locs := hI
  have hp10 : oR y_10 (shO (ar 15) (ar 13) base fr to (ar 42)) (shN (ar 15) (ar 13) base fr to (ar 42)) := hp10
  have hI := CI.to (w2 := cw g ad (va_up (va_up ar 42 (shL (ar 15) (ar 13) base fr to (ar 42))) 41 y_10) (va_up fl 18 (nI (shN (ar 15) (ar 13) base fr to (ar 42))))) hI (by rfl)
  refine lv_aload_n hx hb d_LN_show_13 rfl (lv_at hl 0 rfl) ?_
  refine q_callvV [] M hI (c_LN_turnRows l g ad (va_up (va_up ar 42 (shL (ar 15) (ar 13) base fr to (ar 42))) 41 y_10) (va_up fl 18 (nI (shN (ar 15) (ar 13) base fr to (ar 42)))) (shN (ar 15) (ar 13) base fr to (ar 42)) cn (shO (ar 15) (ar 13) base fr to (ar 42)) (shV (ar 15) (ar 13) base fr to (ar 42)) (rfl) (by omega) (hcN) (hp10) (hps) (fun q hq hn => okV_n hok (by omega) hn) (fun j hj => (hme j hj).2.2)) ok_LN_turnRows m4_119 m4_121 ms_39 11 rfl rfl rfl rfl hl.1 ⟨rfl, rfl⟩ ⟨Nat.le_of_ble_eq_true rfl, Nat.le_of_ble_eq_true rfl⟩ (Nat.le_of_ble_eq_true rfl) ⟨Nat.le_of_ble_eq_true rfl, Nat.le_of_ble_eq_true rfl⟩ d_LN_show_14 (fun u14 H locs hp14 hI => ?_)
  obtain ⟨y_14, rfl⟩ : ∃ z, z = u14 := ⟨_, rfl⟩
  have hI : CI g A s (cw g ad (va_up (va_up ar 42 (shL (ar 15) (ar 13) base fr to (ar 42))) 41 y_14) (va_up fl 18 (nI (shN (ar 15) (ar 13) base fr to (ar 42))))) H locs := hI
  refine lv_aload_n hx hb d_LN_show_17 rfl (lv_at hl 0 rfl) ?_
  refine q_callvV [] M hI (c_LN_setPlaces l g ad (va_up (va_up ar 42 (shL (ar 15) (ar 13) base fr to (ar 42))) 41 y_14) (va_up fl 18 (nI (shN (ar 15) (ar 13) base fr to (ar 42)))) (shN (ar 15) (ar 13) base fr to (ar 42)) cn (shD (ar 15) (ar 13) base fr to (ar 42)) (rfl) (by omega) (hcn) (hcN) (hp14) (dn_pos _ _ hps)) ok_LN_setPlaces m4_136 m4_138 ms_42 11 rfl rfl rfl rfl hl.1 ⟨rfl, rfl⟩ ⟨Nat.le_of_ble_eq_true rfl, Nat.le_of_ble_eq_true rfl⟩ (Nat.le_of_ble_eq_true rfl) ⟨Nat.le_of_ble_eq_true rfl, Nat.le_of_ble_eq_true rfl⟩ d_LN_show_18 (fun u18 H locs hp18 hI => ?_)
  have hI : CI g A s (cw g ad (va_up (va_up (va_up ar 42 (shL (ar 15) (ar 13) base fr to (ar 42))) 41 y_14) 43 (plc (shD (ar 15) (ar 13) base fr to (ar 42)) (pre cn (fun _ => -1) (ar 43)) (shN (ar 15) (ar 13) base fr to (ar 42)))) (va_up fl 18 (nI (shN (ar 15) (ar 13) base fr to (ar 42))))) H locs := hI
  exact hret y_14 _ _ _ _ _ _ d_LN_show_21 hI (hp14) (Nat.le_refl 0) (Nat.le_refl 0)
