/-! 73: a paragraph of the model -/
theorem xkdm_in {fst mt f0 : Nat → Int32} {b pe base : Nat} : ∀ d j, b ≤ j → j < b + d → xkdm fst mt b pe base f0 d j = xkm (fst j) (xrun fst mt b pe base (j - b))
  | 0, j, h1, h2 => absurd h2 (by omega)
  | d + 1, j, h1, h2 => by
    simp only [xkdm]
    by_cases z : j = b + d
    · subst z; rw [pk_us, Nat.add_sub_cancel_left]
    · rw [pk_un z]; exact xkdm_in d j h1 (by omega)
theorem xkdm_out {fst mt f0 : Nat → Int32} {b pe base : Nat} : ∀ d j, (j < b ∨ b + d ≤ j) → xkdm fst mt b pe base f0 d j = f0 j
  | 0, _, _ => rfl
  | d + 1, j, h => by simp only [xkdm]; rw [pk_un (by omega)]; exact xkdm_out d j (by omega)
noncomputable def pDm (fst : Nat → Int32) (told b en : Nat) (M0 K0 : Nat → Int32) : Nat → Int32 := xkdm fst (pM fst b en M0) b en (pB fst told b en M0) K0 (en - b)
noncomputable def pR (fst ch : Nat → Int32) (oth : Int32 → Int32) (told b en : Nat) (M0 L0 K0 : Nat → Int32) (r : Nat) : Nat → Int32 := rsK (pW fst told b en M0 L0) fst (pM fst b en M0) (pL fst told b en M0 L0) (pB fst told b en M0) ch oth (pDm fst told b en M0 K0) r
noncomputable def pKm (fst ch : Nat → Int32) (oth : Int32 → Int32) (told b en : Nat) (M0 L0 K0 : Nat → Int32) : Nat → Int32 := pR fst ch oth told b en M0 L0 K0 (pW fst told b en M0 L0).length
noncomputable def pYm (fst ch : Nat → Int32) (oth : Int32 → Int32) (told b en : Nat) (M0 L0 K0 : Nat → Int32) : Nat → Int32 := pre en (raF b (pX fst told b en M0 L0) (pKm fst ch oth told b en M0 L0 K0) (pL fst told b en M0 L0)) (pX fst told b en M0 L0)
theorem pX_in {fst M0 L0 : Nat → Int32} {told b en q : Nat} (h1 : b ≤ q) (h2 : q < en) : pX fst told b en M0 L0 q = xlev (fst q) (pB fst told b en M0) (xrun fst (pM fst b en M0) b en (pB fst told b en M0) (q - b)) := xlv_in (en - b) q h1 (by omega)
theorem pX_gone {fst M0 L0 : Nat → Int32} {told b en q : Nat} (ht : told ≤ 2) (h1 : b ≤ q) (h2 : q < en) : pX fst told b en M0 L0 q = -1 ↔ xgone (fst q) := by
  rw [pX_in h1 h2]
  have hbs := bsN_le (fst := fst) (mt := pM fst b en M0) (b := b) (en := en) ht
  constructor
  · intro h; exact Classical.byContradiction fun z => xlev_ng hbs (xok_run hbs (q - b)) z h
  · intro h; unfold xlev; exact if_pos h
theorem pW_mem {fst M0 L0 : Nat → Int32} {told b en q : Nat} (ht : told ≤ 2) (hbe : b ≤ en) : q ∈ flat (pW fst told b en M0 L0) ↔ b ≤ q ∧ q < en ∧ ¬ xgone (fst q) := by
  unfold pW
  rw [flat_mem]
  constructor
  · intro h; exact ⟨h.1, by omega, fun z => h.2.2 ((pX_gone ht h.1 (by omega)).mpr z)⟩
  · intro h; exact ⟨h.1, by omega, fun z => h.2.2 ((pX_gone ht h.1 h.2.1).mp z)⟩
theorem pDm_eq {fst M0 K0 K1 : Nat → Int32} {told b en q : Nat} (ht : told ≤ 2) (h1 : b ≤ q) (h2 : q < en) (hg : ¬ xgone (fst q)) : pDm fst told b en M0 K0 q = pD fst told b en M0 K1 q := by
  unfold pDm pD
  rw [xkdm_in _ _ h1 (by omega), xkd_in _ _ h1 (by omega)]
  exact xkm_eq (xinv_run (bsN_le ht) _) hg
theorem pW_vlt {fst M0 L0 : Nat → Int32} {told b en : Nat} : vlt (b + (en - b)) (pW fst told b en M0 L0) ∧ tot (pW fst told b en M0 L0) ≤ en - b := vlt_rv (en - b)
theorem pK_eq {fst ch M0 L0 K0 K1 : Nat → Int32} {oth : Int32 → Int32} {told b en q : Nat} (ht : told ≤ 2) (hbe : b ≤ en) (he : en ≤ 2000) (hq : q ∈ flat (pW fst told b en M0 L0)) : pKm fst ch oth told b en M0 L0 K0 q = pK fst ch oth told b en M0 L0 K1 q := by
  unfold pKm pK pR
  refine rsK_agr pW_vlt.1 (Nat.le_trans pW_vlt.2 (by omega)) (par_inc ht hbe he).1 (fun x hx => ?_) _ (Nat.le_refl _) q hq
  obtain ⟨x1, x2, x3⟩ := (pW_mem ht hbe).mp hx
  exact pDm_eq ht x1 x2 x3
theorem pY_eq {fst ch M0 L0 K0 K1 : Nat → Int32} {oth : Int32 → Int32} {told b en : Nat} (ht : told ≤ 2) (hbe : b ≤ en) (he : en ≤ 2000) : pYm fst ch oth told b en M0 L0 K0 = pY fst ch oth told b en M0 L0 K1 := by
  funext j
  unfold pYm pY
  rcases Nat.lt_or_ge j en with h | h
  · rw [pre_lo h, pre_lo h]
    unfold raF
    by_cases z : j < b ∨ pX fst told b en M0 L0 j = -1
    · rw [if_pos z, if_pos z]
    · rw [if_neg z, if_neg z, pK_eq (K1 := K1) ht hbe he ((flat_mem (en - b) j).mpr ⟨by omega, by omega, fun w => z (Or.inr w)⟩)]
  · rw [pre_hi h, pre_hi h]
theorem pK_gone {fst ch M0 L0 K0 : Nat → Int32} {oth : Int32 → Int32} {told b en q : Nat} (ht : told ≤ 2) (hbe : b ≤ en) (he : en ≤ 2000) (h1 : b ≤ q) (h2 : q < en) (hg : xgone (fst q)) : pK fst ch oth told b en M0 L0 K0 q = -1 := by
  unfold pK
  rw [rsK_out pW_vlt.1 (par_inc ht hbe he).1 (fun z => ((pW_mem ht hbe).mp z).2.2 hg) _ (Nat.le_refl _)]
  unfold pD
  rw [xkd_in _ _ h1 (by omega)]
  unfold xkin
  exact if_pos hg
theorem pK_out {fst ch M0 L0 K0 : Nat → Int32} {oth : Int32 → Int32} {told b en q : Nat} (ht : told ≤ 2) (hbe : b ≤ en) (he : en ≤ 2000) (h : q < b ∨ en ≤ q) : pK fst ch oth told b en M0 L0 K0 q = K0 q ∧ pKm fst ch oth told b en M0 L0 K0 q = K0 q ∧ pY fst ch oth told b en M0 L0 K0 q = L0 q ∧ pM fst b en M0 q = M0 q := by
  have hn : q ∉ flat (pW fst told b en M0 L0) := fun z => by have := (pW_mem ht hbe).mp z; omega
  have hx : pX fst told b en M0 L0 q = L0 q := xlv_out (en - b) q (by omega)
  refine ⟨?_, ?_, ?_, mmat_out (en - b) q (by omega)⟩
  · unfold pK
    rw [rsK_out pW_vlt.1 (par_inc ht hbe he).1 hn _ (Nat.le_refl _)]
    exact xkd_out (en - b) q (by omega)
  · unfold pKm pR
    rw [rsK_out pW_vlt.1 (par_inc ht hbe he).1 hn _ (Nat.le_refl _)]
    exact xkdm_out (en - b) q (by omega)
  · unfold pY
    rcases Nat.lt_or_ge q en with z | z
    · rw [pre_lo z]
      unfold raF
      rw [if_pos (Or.inl (by omega)), hx]
    · rw [pre_hi z, hx]
theorem pY_m1 {fst ch M0 L0 K0 : Nat → Int32} {oth : Int32 → Int32} {told b en q : Nat} (ht : told ≤ 2) (h1 : b ≤ q) (h2 : q < en) : pY fst ch oth told b en M0 L0 K0 q = -1 ↔ xgone (fst q) := by
  unfold pY
  rw [pre_lo h2]
  unfold raF
  rw [← pX_gone (M0 := M0) (L0 := L0) ht h1 h2]
  by_cases z : pX fst told b en M0 L0 q = -1
  · rw [if_pos (Or.inr z)]
  · rw [if_neg (fun w => w.elim (by omega) z)]
    constructor
    · intro h
      have hl := (par_lv (M0 := M0) (L0 := L0) ht q h1 h2 z).2
      have := raO_le (pL fst told b en M0 L0 q) (pK fst ch oth told b en M0 L0 K0 q)
      exact absurd h (m1_ne (by omega))
    · intro h; exact absurd h z
theorem pKm_k4 {fst ch M0 L0 K0 : Nat → Int32} {oth : Int32 → Int32} {told b en q : Nat} (ht : told ≤ 2) (hbe : b ≤ en) (he : en ≤ 2000) (h10 : ∀ x, b ≤ x → x + 1 < en → fst x ≠ 10) (hq : q ∈ flat (pW fst told b en M0 L0)) : k4 (pKm fst ch oth told b en M0 L0 K0 q) := by
  have hi := (par_inc (fst := fst) (M0 := M0) (L0 := L0) (told := told) ht hbe he).1
  have hs := rof_spec hq
  obtain ⟨r0, pr, h1, h2, h3⟩ := cov (fst := fst) (g0 := M0) (f0 := L0) (bsN_le ht) hbe he h10 hi _ (rof (pW fst told b en M0 L0) q) (Nat.le_refl _) hs.1
  have hmem : q ∈ SQ (pW fst told b en M0 L0) fst (pM fst b en M0) r0 := by
    have h3' : SQ (pW fst told b en M0 L0) fst (pM fst b en M0) r0 = pr ++ SQ (pW fst told b en M0 L0) fst (pM fst b en M0) (rof (pW fst told b en M0 L0) q) := h3
    rw [h3', SQ_eq hi hs.1]
    exact List.mem_append_right _ (List.mem_append_left _ hs.2)
  exact rsK_k4 h2 hmem _ (Nat.lt_of_le_of_lt h1 hs.1)
def kAll : List Int32 := [0, 1, 2, 3, 4, 5, 6, 7, 8, 9, 10, 11, 12, 13, 14, 15, 16, 17, 18, 19, 20, 21, 22]
theorem kAll_ng {k : Int32} (h : k ∈ kAll) (hg : ¬ xgone k) : k ∈ kL0 := by
  have w : k ∈ kAll.filter (fun x => decide (¬ (isemb x ∨ x = 18 ∨ x = 9))) := List.mem_filter.mpr ⟨h, decide_eq_true hg⟩
  have e : kAll.filter (fun x => decide (¬ (isemb x ∨ x = 18 ∨ x = 9))) = kL0 := by decide
  rwa [e] at w
theorem pDm_in {fst M0 K0 : Nat → Int32} {told b en q : Nat} (ht : told ≤ 2) (h1 : b ≤ q) (h2 : q < en) (hk : fst q ∈ kAll) (hg : ¬ xgone (fst q)) : pDm fst told b en M0 K0 q ∈ kL0 := by
  unfold pDm
  rw [xkdm_in _ _ h1 (by omega)]
  unfold xkm
  rw [if_neg hg]
  split
  · decide
  · split
    · exact kAll_ng hk hg
    · rename_i hn
      rcases xtop_ov (k := fst q) (xinv_run (fst := fst) (mt := pM fst b en M0) (b := b) (pe := en) (base := pB fst told b en M0) (bsN_le ht) (q - b)) with e | e | e
      · exact absurd (show (xtop (fst q) _).2.1 < 0 by rw [e]; decide) hn
      · exact (show (xtop (fst q) _).2.1 = 0 from e) ▸ (by decide)
      · exact (show (xtop (fst q) _).2.1 = 1 from e) ▸ (by decide)
theorem new_run {lv : Nat → Int32} {b d e : Nat} (hd : d < e) (hl : lv (b + d) ≠ -1) (hn : nwR lv (b + d) (rv lv b d)) : (rv lv b (d + 1)).length = (rv lv b d).length + 1 ∧ (rv lv b d).length < (rv lv b e).length ∧ off (rv lv b e) (rv lv b d).length = tot (rv lv b d) ∧ LFn (rv lv b e) (off (rv lv b e) (rv lv b d).length) = b + d := by
  have e1 : rv lv b (d + 1) = [b + d] :: rv lv b d := by
    show (if lv (b + d) = -1 then rv lv b d else rvS lv (b + d) (rv lv b d)) = _
    rw [if_neg hl]; exact rvS_new hn
  have hlen : (rv lv b (d + 1)).length = (rv lv b d).length + 1 := by rw [e1]; rfl
  have ho := off_pre (lv := lv) (b := b) (d := d + 1) (r := (rv lv b d).length) (by omega) e (by omega)
  have ho2 : off (rv lv b (d + 1)) (rv lv b d).length = tot (rv lv b d) := by rw [e1]; exact if_pos rfl
  refine ⟨hlen, ho.2, ho.1.trans ho2, ?_⟩
  rw [ho.1.trans ho2]
  exact (rv_pre hl e hd).1
theorem old_run {lv : Nat → Int32} {b d : Nat} (h : lv (b + d) = -1 ∨ ¬ nwR lv (b + d) (rv lv b d)) : (rv lv b (d + 1)).length = (rv lv b d).length := by
  show (if lv (b + d) = -1 then rv lv b d else rvS lv (b + d) (rv lv b d)).length = _
  by_cases z : lv (b + d) = -1
  · rw [if_pos z]
  · rw [if_neg z]; exact rvS_old (h.resolve_left z)
/-- where no sequence begins nothing changes -/
theorem rs_same {fst mt lv : Nat → Int32} {b d e : Nat} {L : Nat → Nat} {base : Nat} {ch : Nat → Int32} {oth : Int32 → Int32} {k0 : Nat → Int32} (hd : d < e) (hm : mt (b + d) = -1 ∨ ¬ mt (b + d) < 0) (h : lv (b + d) = -1 ∨ ¬ (nwR lv (b + d) (rv lv b d) ∧ ¬ (fst (b + d) = 22 ∧ ¬ mt (b + d) < 0))) : rsK (rv lv b e) fst mt L base ch oth k0 (rv lv b (d + 1)).length = rsK (rv lv b e) fst mt L base ch oth k0 (rv lv b d).length ∧ rsN (rv lv b e) fst mt (rv lv b (d + 1)).length = rsN (rv lv b e) fst mt (rv lv b d).length := by
  by_cases z : lv (b + d) = -1 ∨ ¬ nwR lv (b + d) (rv lv b d)
  · rw [old_run z]; exact ⟨rfl, rfl⟩
  · have hl : lv (b + d) ≠ -1 := fun q => z (Or.inl q)
    have hn : nwR lv (b + d) (rv lv b d) := Classical.byContradiction fun q => z (Or.inr q)
    obtain ⟨h1, h2, h3, h4⟩ := new_run hd hl hn
    have h5 : fst (b + d) = 22 ∧ ¬ mt (b + d) < 0 := Classical.byContradiction fun q => (h.resolve_left hl) ⟨hn, q⟩
    have hnb : ¬ bgn (rv lv b e) fst mt (rv lv b d).length := by
      unfold bgn
      rw [h4]
      rintro (q | q)
      · exact q h5.1
      · rw [q] at h5; exact absurd h5.2 (by decide)
    rw [h1]
    simp only [rsK, rsN]
    rw [if_neg hnb, if_neg hnb]
    exact ⟨rfl, rfl⟩
theorem rs_new {fst mt lv : Nat → Int32} {b d e : Nat} (hd : d < e) (hm : mt (b + d) = -1 ∨ ¬ mt (b + d) < 0) (hl : lv (b + d) ≠ -1) (h : nwR lv (b + d) (rv lv b d) ∧ ¬ (fst (b + d) = 22 ∧ ¬ mt (b + d) < 0)) : bgn (rv lv b e) fst mt (rv lv b d).length := by
  obtain ⟨h1, h2, h3, h4⟩ := new_run hd hl h.1
  unfold bgn
  rw [h4]
  by_cases z : fst (b + d) = 22
  · refine Or.inr (hm.resolve_right fun q => h.2 ⟨z, q⟩)
  · exact Or.inl z
