/-! 75: only classes of the text itself count -/
theorem mstk_c {f g : Nat → Int32} {b n : Nat} (h : agr n f g) : ∀ d, b + d ≤ n → mstk f b d = mstk g b d
  | 0, _ => rfl
  | d + 1, hd => by simp only [mstk]; rw [h (b + d) (by omega), mstk_c h d (by omega)]
theorem mmat_c {f g m0 : Nat → Int32} {b n : Nat} (h : agr n f g) : ∀ d, b + d ≤ n → mmat f b m0 d = mmat g b m0 d
  | 0, _ => rfl
  | d + 1, hd => by simp only [mmat]; rw [h (b + d) (by omega), mstk_c h d (by omega), mmat_c h d (by omega)]
theorem dirIn_c {f g mt : Nat → Int32} {n en : Nat} (h : agr n f g) (he : en ≤ n) : ∀ fu i, dirIn f mt en fu i = dirIn g mt en fu i
  | 0, _ => rfl
  | fu + 1, i => by
    simp only [dirIn]
    by_cases z : en ≤ i
    · rw [if_pos z, if_pos z]
    · rw [if_neg z, if_neg z, h i (by omega), dirIn_c h he fu, dirIn_c h he fu]
theorem DI_c {f g mt : Nat → Int32} {n en b : Nat} (h : agr n f g) (he : en ≤ n) : DI f mt en b = DI g mt en b := dirIn_c h he _ _
theorem dirIso_c {f g mt : Nat → Int32} {n q pe : Nat} (h : agr n f g) (hq : q < n) (hp : pe ≤ n) (hm : mt q = -1 ∨ (mt q).toNatClampNeg ≤ n) : dirIso f mt q pe = dirIso g mt q pe := by
  unfold dirIso
  rw [h q hq]
  split
  · refine DI_c h ?_
    by_cases z : mt q = -1
    · rw [if_pos z]; exact hp
    · rw [if_neg z]; exact hm.resolve_left z
  · rfl
theorem xstep_c {f g mt : Nat → Int32} {n q pe : Nat} {X : XS} (h : agr n f g) (hq : q < n) (hp : pe ≤ n) (hm : isol (f q) → mt q = -1 ∨ (mt q).toNatClampNeg ≤ n) : xstep f mt pe q X = xstep g mt pe q X := by
  unfold xstep
  by_cases z : isol (f q)
  · rw [dirIso_c h hq hp (hm z), h q hq]
  · have z' : ¬ isol (g q) := by rw [← h q hq]; exact z
    rw [if_neg z, if_neg z', h q hq]
theorem xrun_c {f g mt : Nat → Int32} {n b pe base : Nat} (h : agr n f g) (hp : pe ≤ n) (hm : ∀ q, b ≤ q → q < pe → isol (f q) → mt q = -1 ∨ (mt q).toNatClampNeg ≤ n) : ∀ d, b + d ≤ pe → xrun f mt b pe base d = xrun g mt b pe base d
  | 0, _ => rfl
  | d + 1, hd => by
    simp only [xrun]
    rw [xrun_c h hp hm d (by omega), xstep_c h (by omega) hp (hm (b + d) (by omega) (by omega))]
theorem xlv_c {f g mt f0 : Nat → Int32} {n b pe base : Nat} (h : agr n f g) (hp : pe ≤ n) (hm : ∀ q, b ≤ q → q < pe → isol (f q) → mt q = -1 ∨ (mt q).toNatClampNeg ≤ n) : ∀ d, b + d ≤ pe → xlv f mt b pe base f0 d = xlv g mt b pe base f0 d
  | 0, _ => rfl
  | d + 1, hd => by
    simp only [xlv]
    rw [xlv_c h hp hm d (by omega), h (b + d) (by omega), xrun_c h hp hm d (by omega)]
theorem xkd_c {f g mt f0 : Nat → Int32} {n b pe base : Nat} (h : agr n f g) (hp : pe ≤ n) (hm : ∀ q, b ≤ q → q < pe → isol (f q) → mt q = -1 ∨ (mt q).toNatClampNeg ≤ n) : ∀ d, b + d ≤ pe → xkd f mt b pe base f0 d = xkd g mt b pe base f0 d
  | 0, _ => rfl
  | d + 1, hd => by
    simp only [xkd]
    rw [xkd_c h hp hm d (by omega), h (b + d) (by omega), xrun_c h hp hm d (by omega)]
theorem lastP_lt {V : List (List Nat)} {n r : Nat} (hv : vlt n V) (hr : r < V.length) : lastP V r < n := by
  have hp := runAt_pos hv hr
  have hf := (runAt_flat (V := V) (r := r) (t := 0) hr hp).2
  exact vlt_flat hv _ (LFn_mem (by omega))
theorem goes_c {V : List (List Nat)} {f g mt : Nat → Int32} {n r : Nat} (h : agr n f g) (hv : vlt n V) (hr : r < V.length) : goes V f mt r ↔ goes V g mt r := by
  unfold goes
  rw [h _ (lastP_lt hv hr)]
theorem sqL_c {V : List (List Nat)} {f g mt : Nat → Int32} {n : Nat} (h : agr n f g) (hv : vlt n V) (hi : incR V f mt) : ∀ fu r, r < V.length → sqL V f mt fu r = sqL V g mt fu r ∧ lsR V f mt fu r = lsR V g mt fu r
  | 0, _, _ => ⟨rfl, rfl⟩
  | fu + 1, r, hr => by
    simp only [sqL, lsR]
    by_cases z : goes V f mt r
    · have ih := sqL_c h hv hi fu (nextR V mt r) (hi r hr z).2
      rw [if_pos z, if_pos z, if_pos ((goes_c h hv hr).mp z), if_pos ((goes_c h hv hr).mp z), ih.1, ih.2]
      exact ⟨rfl, rfl⟩
    · rw [if_neg z, if_neg z, if_neg (fun q => z ((goes_c h hv hr).mpr q)), if_neg (fun q => z ((goes_c h hv hr).mpr q))]
      exact ⟨rfl, rfl⟩
theorem bgn_c {V : List (List Nat)} {f g mt : Nat → Int32} {n r : Nat} (h : agr n f g) (hv : vlt n V) (hr : r < V.length) : bgn V f mt r ↔ bgn V g mt r := by
  have hp := runAt_pos hv hr
  have hf := (runAt_flat (V := V) (r := r) (t := 0) hr hp).2
  unfold bgn
  rw [h _ (vlt_flat hv _ (LFn_mem (by omega)))]
theorem lvB_c {V : List (List Nat)} {f g : Nat → Int32} {L : Nat → Nat} {n x base : Nat} (h : agr n f g) (hv : vlt n V) : lvB V f L x base = lvB V g L x base := by
  unfold lvB
  by_cases z : x < tot V
  · rw [h _ (vlt_flat hv _ (LFn_mem (show x - 1 < tot V by omega)))]
  · rw [if_neg (fun q => z q.1), if_neg (fun q => z q.1)]
theorem sqK_c {n : Nat} {h t d : Int32} {s s2 ch ch2 : Nat → Int32} {oth : Int32 → Int32} {k k2 : Nat → Int32} (hN : n ≤ 2000) (hs : agr n s s2) (hc : agr n ch ch2) (hk : agr n k k2) : agr n (sqK n h t d s ch oth k) (sqK n h t d s2 ch2 oth k2) := by
  refine n12_agr ?_
  have aw : agr n (weak n h s k) (weak n h s2 k2) := weak_agr hs hk
  have ab := bfind_agr (oth := oth) aw hc (n - 0) 0 [] (fun _ => -1) (fun _ => -1) (by omega) (fun _ _ => rfl)
  exact n0_agr hk ab aw (bfind_ok (n - 0) 0 [] _ (by omega) (fun j hj => Or.inl rfl)) hN n (Nat.le_refl n)
theorem rsK_c {V : List (List Nat)} {f g mt : Nat → Int32} {L : Nat → Nat} {base n : Nat} {ch : Nat → Int32} {oth : Int32 → Int32} {k0 : Nat → Int32} (h : agr n f g) (hv : vlt n V) (htot : tot V ≤ 2000) (hi : incR V f mt) : ∀ r, r ≤ V.length → rsK V f mt L base ch oth k0 r = rsK V g mt L base ch oth k0 r ∧ rsN V f mt r = rsN V g mt r
  | 0, _ => ⟨rfl, rfl⟩
  | r + 1, hr => by
    have ih := rsK_c (L := L) (base := base) (ch := ch) (oth := oth) (k0 := k0) h hv htot hi r (by omega)
    have hsl := SQ_len (fst := f) (mt := mt) hv hi V.length r (by omega) (by omega)
    have es := sqL_c h hv hi (V.length - r) r (by omega)
    have eS : SQ V f mt r = SQ V g mt r := es.1
    have eR : LR V f mt r = LR V g mt r := es.2
    have eP : sqP V f mt r = sqP V g mt r := by funext j; unfold sqP; rw [eS]
    have et : sqt V f mt L base r = sqt V g mt L base r := by unfold sqt; rw [eR, lvB_c h hv]
    have hb := bgn_c (mt := mt) h hv (show r < V.length by omega)
    simp only [rsK, rsN]
    by_cases z : bgn V f mt r
    · rw [if_pos z, if_pos z, if_pos (hb.mp z), if_pos (hb.mp z), ih.1, ih.2, et]
      refine ⟨?_, rfl⟩
      rw [wrt_agr (n := (SQ V f mt r).length) (k' := sqK (SQ V f mt r).length (sqh V L base r) (sqt V g mt L base r) (sqd V L r) (fun j => g (sqP V g mt r j)) (fun j => ch (sqP V g mt r j)) oth (fun j => rsK V g mt L base ch oth k0 r (sqP V g mt r j))) (sqK_c (by omega) (fun j hj => by rw [← eP]; exact h _ (vlt_flat hv _ (hsl.2 _ (sqP_mem hj)))) (fun j _ => by rw [eP]) (fun j _ => by rw [eP])) _ (Nat.le_refl _), eP, eS]
    · rw [if_neg z, if_neg z, if_neg (fun q => z (hb.mpr q)), if_neg (fun q => z (hb.mpr q))]
      exact ih
theorem pgL_c {f g : Nat → Int32} {cn : Nat} (h : agr cn f g) : ∀ d, d ≤ cn → pgL f cn d = pgL g cn d
  | 0, _ => rfl
  | d + 1, hd => by simp only [pgL]; rw [h d (by omega), pgL_c h d (by omega)]
theorem p_c {f g ch M0 L0 K0 : Nat → Int32} {oth : Int32 → Int32} {told b en n : Nat} (h : agr n f g) (ht : told ≤ 2) (hbe : b ≤ en) (hen : en ≤ n) (he : en ≤ 2000) : pM f b en M0 = pM g b en M0 ∧ pB f told b en M0 = pB g told b en M0 ∧ pY f ch oth told b en M0 L0 K0 = pY g ch oth told b en M0 L0 K0 ∧ pK f ch oth told b en M0 L0 K0 = pK g ch oth told b en M0 L0 K0 ∧ pN f told b en M0 L0 = pN g told b en M0 L0 := by
  have eM : pM f b en M0 = pM g b en M0 := mmat_c h (en - b) (by omega)
  have eB : pB f told b en M0 = pB g told b en M0 := by unfold pB bsN; rw [eM, DI_c h hen]
  have hm : ∀ q, b ≤ q → q < en → isol (f q) → pM g b en M0 q = -1 ∨ (pM g b en M0 q).toNatClampNeg ≤ n := fun q h1 h2 h3 => by
    rw [← eM]
    rcases mmat_iso (fst := f) (f0 := M0) (en - b) q h1 (by omega) h3 with z | ⟨k, z1, z2, z3, z4⟩
    · exact Or.inl z
    · refine Or.inr ?_
      have e : pM f b en M0 q = nI k := z1
      rw [e, nI_clamp (by omega)]; omega
  have eX : pX f told b en M0 L0 = pX g told b en M0 L0 := by unfold pX; rw [eM, eB]; exact xlv_c h hen hm (en - b) (by omega)
  have eD : pD f told b en M0 K0 = pD g told b en M0 K0 := by unfold pD; rw [eM, eB]; exact xkd_c h hen hm (en - b) (by omega)
  have eW : pW f told b en M0 L0 = pW g told b en M0 L0 := by unfold pW; rw [eX]
  have eL : pL f told b en M0 L0 = pL g told b en M0 L0 := by funext q; unfold pL; rw [eX]
  have hi := (par_inc (fst := f) (M0 := M0) (L0 := L0) (told := told) ht hbe he).1
  have hv := pW_vlt (fst := f) (M0 := M0) (L0 := L0) (told := told) (b := b) (en := en)
  have hr := rsK_c (L := pL f told b en M0 L0) (base := pB f told b en M0) (ch := ch) (oth := oth) (k0 := pD f told b en M0 K0) h (vlt_mono (by omega) hv.1) (by omega) hi _ (Nat.le_refl _)
  have eK : pK f ch oth told b en M0 L0 K0 = pK g ch oth told b en M0 L0 K0 := by
    unfold pK
    rw [hr.1, eW, eM, eL, eB, eD]
  refine ⟨eM, eB, ?_, eK, ?_⟩
  · unfold pY; rw [eX, eK, eL]
  · unfold pN; rw [hr.2, eW, eM]
