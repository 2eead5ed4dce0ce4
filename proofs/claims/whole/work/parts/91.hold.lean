/-! 91: class and model held together: pairs, ranges, lines -/
theorem ip_nn {x : Int32} : 0 ≤ x ↔ ¬ x < 0 := ⟨fun h => Int32.not_lt.mpr h, fun h => Int32.not_lt.mp h⟩
theorem ip_m1 {x : Int32} (h : 0 ≤ x) : x ≠ -1 := by rintro rfl; revert h; decide
theorem lk_c0 {a b : Nat → Int32} {x : Int32} : ∀ n, (∀ j, j < n → 0 ≤ b j) → lk a b x n = -1 → ∀ j, j < n → a j ≠ x
  | 0, _, _, j, h => absurd h (Nat.not_lt_zero j)
  | n + 1, hb, h, j, hj => by
    simp only [lk] at h
    by_cases z : a n = x
    · rw [if_pos z] at h; exact absurd h (ip_m1 (hb n (Nat.lt_succ_self n)))
    · rw [if_neg z] at h
      by_cases q : j = n
      · rw [q]; exact z
      · exact lk_c0 n (fun j hj => hb j (by omega)) h j (by omega)
theorem lk_v {a b : Nat → Int32} {x : Int32} : ∀ n, (∀ j, j < n → 0 ≤ b j) → lk a b x n = -1 ∨ 0 ≤ lk a b x n
  | 0, _ => Or.inl rfl
  | n + 1, hb => by
    simp only [lk]
    split
    · exact Or.inr (hb n (Nat.lt_succ_self n))
    · exact lk_v n (fun j hj => hb j (by omega))
theorem clo_iff {b : Nat → Int32} {x : Int32} : ∀ n, clo b x n ↔ ∃ j, j < n ∧ b j = x
  | 0 => ⟨fun h => h.elim, fun ⟨j, h, _⟩ => absurd h (Nat.not_lt_zero j)⟩
  | n + 1 => by
    simp only [clo]
    rw [clo_iff n]
    constructor
    · rintro (⟨j, h, e⟩ | e)
      · exact ⟨j, by omega, e⟩
      · exact ⟨n, by omega, e⟩
    · rintro ⟨j, h, e⟩
      by_cases q : j = n
      · rw [q] at e; exact Or.inr e
      · exact Or.inl ⟨j, by omega, e⟩
def prK (n : Nat) (a b : Nat → Int32) : Prop := (∀ j, j < n → 0 ≤ a j ∧ 0 ≤ b j) ∧ dst n a ∧ dst n b ∧ ∀ i j, i < n → j < n → a i ≠ b j
theorem prK_0 {a b : Nat → Int32} : prK 0 a b := ⟨fun j h => absurd h (Nat.not_lt_zero j), fun i _ h => absurd h (Nat.not_lt_zero i), fun i _ h => absurd h (Nat.not_lt_zero i), fun i _ h => absurd h (Nat.not_lt_zero i)⟩
theorem ptn_c0 {n : Nat} {a b : Nat → Int32} {x : Int32} (h : prK n a b) (hp : ptn n a b x = -1) : ∀ j, j < n → a j ≠ x ∧ b j ≠ x := by
  unfold ptn at hp
  have hn := h.1
  by_cases z : lk a b x n = -1
  · rw [if_pos z] at hp
    exact fun j hj => ⟨lk_c0 n (fun j hj => (hn j hj).2) z j hj, lk_c0 n (fun j hj => (hn j hj).1) hp j hj⟩
  · rw [if_neg z] at hp; exact absurd hp z
theorem ptn_no {n : Nat} {a b : Nat → Int32} {x : Int32} (h : ∀ j, j < n → a j ≠ x ∧ b j ≠ x) : ptn n a b x = -1 := by
  unfold ptn
  rw [if_pos (lk_none n (fun j hj => (h j hj).1))]
  exact lk_none n (fun j hj => (h j hj).2)
theorem ptn_ask {n : Nat} {a b : Nat → Int32} {x : Int32} (h : prK n a b) : ptn n a b x ≠ -1 ↔ (0 ≤ lk a b x n ∨ clo b x n) := by
  constructor
  · intro hp
    by_cases z : lk a b x n = -1
    · refine Or.inr ((clo_iff n).mpr ?_)
      by_cases q : ∃ j, j < n ∧ b j = x
      · exact q
      · refine absurd ?_ hp
        unfold ptn
        rw [if_pos z]
        exact lk_none n (fun j hj e => q ⟨j, hj, e⟩)
    · exact Or.inl ((lk_v n (fun j hj => (h.1 j hj).2)).resolve_left z)
  · intro hp e
    have c := ptn_c0 h e
    rcases hp with q | q
    · exact ip_m1 q (lk_none n (fun j hj => (c j hj).1))
    · obtain ⟨j, hj, e⟩ := (clo_iff n).mp q
      exact (c j hj).2 e
theorem ptn_mir {a b : Nat → Int32} {x : Int32} : ∀ n, prK n a b → ptn n a b x = mir a b x n
  | 0, _ => rfl
  | n + 1, h => by
    have hw : prK n a b := ⟨fun j hj => h.1 j (by omega), fun i j hi hj e => h.2.1 i j (by omega) (by omega) e, fun i j hi hj e => h.2.2.1 i j (by omega) (by omega) e, fun i j hi hj => h.2.2.2 i j (by omega) (by omega)⟩
    have ih := ptn_mir (x := x) n hw
    have hn := h.1 n (Nat.lt_succ_self n)
    simp only [mir]
    by_cases z : a n = x
    · rw [if_pos z]
      have e : lk a b x (n + 1) = b n := by simp only [lk]; rw [if_pos z]
      unfold ptn
      rw [e, if_neg (ip_m1 hn.2)]
    · rw [if_neg z]
      by_cases q : b n = x
      · rw [if_pos q]
        unfold ptn
        rw [if_pos (lk_none (n + 1) (fun j hj e => h.2.2.2 j n hj (Nat.lt_succ_self n) (e.trans q.symm)))]
        simp only [lk]
        rw [if_pos q]
      · rw [if_neg q, ← ih]
        have e : lk a b x (n + 1) = lk a b x n := by simp only [lk]; rw [if_neg z]
        have e2 : lk b a x (n + 1) = lk b a x n := by simp only [lk]; rw [if_neg q]
        unfold ptn
        rw [e, e2]
theorem mir_ask {n : Nat} {a b : Nat → Int32} {x : Int32} (h : prK n a b) : ptn n a b x ≠ -1 ↔ 0 ≤ mir a b x n := by
  rw [← ptn_mir n h]
  constructor
  · intro hp
    have hv : ptn n a b x = -1 ∨ 0 ≤ ptn n a b x := by
      unfold ptn
      split
      · exact lk_v n (fun j hj => (h.1 j hj).1)
      · exact lk_v n (fun j hj => (h.1 j hj).2)
    exact hv.resolve_left hp
  · exact ip_m1
theorem prK_up {n : Nat} {a b : Nat → Int32} {x y : Int32} (h : prK n a b) (hx : isch x) (hy : isch y) (hn : ¬ x = y) (px : ¬ ptn n a b x ≠ -1) (py : ¬ ptn n a b y ≠ -1) : prK (n + 1) (upd a n x) (upd b n y) := by
  have cx := ptn_c0 h (Decidable.not_not.mp px)
  have cy := ptn_c0 h (Decidable.not_not.mp py)
  obtain ⟨h1, h2, h3, h4⟩ := h
  have ua : ∀ j, j < n → upd a n x j = a j := fun j hj => pk_un (by omega)
  have ub : ∀ j, j < n → upd b n y j = b j := fun j hj => pk_un (by omega)
  refine ⟨fun j hj => ?_, fun i j hi hj e => ?_, fun i j hi hj e => ?_, fun i j hi hj => ?_⟩
  · by_cases z : j = n
    · subst z; rw [pk_us, pk_us]; exact ⟨ip_nn.mpr hx.1, ip_nn.mpr hy.1⟩
    · rw [ua j (by omega), ub j (by omega)]; exact h1 j (by omega)
  · by_cases z : i = n <;> by_cases q : j = n
    · omega
    · subst z; rw [pk_us, ua j (by omega)] at e; exact absurd e.symm (cx j (by omega)).1
    · subst q; rw [pk_us, ua i (by omega)] at e; exact absurd e (cx i (by omega)).1
    · rw [ua i (by omega), ua j (by omega)] at e; exact h2 i j (by omega) (by omega) e
  · by_cases z : i = n <;> by_cases q : j = n
    · omega
    · subst z; rw [pk_us, ub j (by omega)] at e; exact absurd e.symm (cy j (by omega)).2
    · subst q; rw [pk_us, ub i (by omega)] at e; exact absurd e (cy i (by omega)).2
    · rw [ub i (by omega), ub j (by omega)] at e; exact h3 i j (by omega) (by omega) e
  · by_cases z : i = n <;> by_cases q : j = n
    · subst z; subst q; rw [pk_us, pk_us]; exact hn
    · subst z; rw [pk_us, ub j (by omega)]; exact (cx j (by omega)).2.symm
    · subst q; rw [pk_us, ua i (by omega)]; exact (cy i (by omega)).1
    · rw [ua i (by omega), ub j (by omega)]; exact h4 i j (by omega) (by omega)
theorem clsOf_c {f g k f' g' k' : Nat → Int32} {x : Int32} : ∀ n, agr n f f' → agr n g g' → agr n k k' → clsOf f g k x n = clsOf f' g' k' x n
  | 0, _, _, _ => rfl
  | n + 1, a, b, c => by
    simp only [clsOf]
    rw [a n (by omega), b n (by omega), c n (by omega), clsOf_c n (fun j hj => a j (by omega)) (fun j hj => b j (by omega)) (fun j hj => c j (by omega))]
theorem agr_upd {n : Nat} {f : Nat → Int32} {x : Int32} : agr n (upd f n x) f := fun j hj => pk_un (by omega)
theorem clsOf_up {f g k : Nat → Int32} {x y z c : Int32} {n : Nat} : clsOf (upd f n x) (upd g n y) (upd k n z) c (n + 1) = if ¬ c < x ∧ ¬ y < c then z else clsOf f g k c n := by
  simp only [clsOf]
  rw [pk_us, pk_us, pk_us, clsOf_c n agr_upd agr_upd agr_upd]
theorem apF_at {f g : Nat → Int32} {cn j : Nat} : ∀ n, apF f cn g n j = if cn ≤ j ∧ j < cn + n then g (j - cn) else f j
  | 0 => by rw [if_neg (by omega)]; rfl
  | n + 1 => by
    simp only [apF]
    by_cases z : j = cn + n
    · subst z; rw [pk_us, if_pos (by omega), Nat.add_sub_cancel_left]
    · rw [pk_un z, apF_at n]
      by_cases q : cn ≤ j ∧ j < cn + n
      · rw [if_pos q, if_pos (by omega)]
      · rw [if_neg q, if_neg (by omega)]
theorem kAll_ok {z : Int32} (h1 : ¬ z < 0) (h2 : ¬ 22 < z) : z ∈ kAll := by
  obtain ⟨k, hk, rfl⟩ : ∃ k : Nat, k < 23 ∧ z = nI k := by
    refine ⟨z.toNatClampNeg, ?_, ?_⟩
    · have := Int32.lt_iff_toInt_lt (x := (22 : Int32)) (y := z)
      have h3 : ¬ (22 : Int32).toInt < z.toInt := fun h => h2 (this.mpr h)
      have h4 : (22 : Int32).toInt = 22 := by decide
      have : z.toNatClampNeg = z.toInt.toNat := rfl
      omega
    · apply Int32.toInt_inj.mp
      have h3 : ¬ z.toInt < (0 : Int32).toInt := fun h => h1 (Int32.lt_iff_toInt_lt.mpr h)
      have h4 : (0 : Int32).toInt = 0 := by decide
      have h5 : z.toInt < 2 ^ 31 := Int32.toInt_lt z
      have e : z.toNatClampNeg = z.toInt.toNat := rfl
      rw [nI_toInt (by omega)]
      omega
  have : ∀ k : Fin 23, nI k.1 ∈ kAll := by decide
  exact this ⟨k, hk⟩
theorem ite_pc {P Q : Prop} (e : P = Q) (a b : Nat) : @ite _ P (Classical.propDecidable _) a b = @ite _ Q (Classical.propDecidable _) a b := by subst e; rfl
theorem nI_ij {a b : Nat} (ha : a < 2 ^ 31) (hb : b < 2 ^ 31) (e : nI a = nI b) : a = b := by
  have := congrArg Int32.toNatClampNeg e
  rwa [nI_clamp ha, nI_clamp hb] at this
theorem scB_c {lv f g : Nat → Int32} {to : Nat} (h : agr to f g) : ∀ n k, k + n ≤ to → (scB lv f n k ↔ scB lv g n k)
  | 0, _, _ => Iff.rfl
  | n + 1, k, hk => by
    simp only [scB]
    rw [h k (by omega), scB_c h n (k + 1) (by omega)]
theorem lvM_c {lv f g : Nat → Int32} {base to q : Nat} (h : agr to f g) (hq : q < to) : lvM lv f base to q = lvM lv g base to q := by
  have e : beM lv f to q = beM lv g to q := by
    unfold beM
    rw [h q hq, scB_c h (to - q) q (by omega)]
  exact ite_pc e base _
theorem lineL_c {lv lw : Nat → Int32} {fr : Nat} : ∀ d, (∀ q, fr ≤ q → q < fr + d → (lv q = -1 ↔ lw q = -1)) → lineL lv fr d = lineL lw fr d
  | 0, _ => rfl
  | d + 1, h => by
    simp only [lineL]
    have e := h (fr + d) (by omega) (by omega)
    rw [lineL_c d (fun q h1 h2 => h q h1 (by omega))]
    by_cases z : lv (fr + d) = -1
    · rw [if_pos z, if_pos (e.mp z)]
    · rw [if_neg z, if_neg (fun y => z (e.mpr y))]
theorem trS_lc {LV LW : Nat → Nat} {m v : Nat} {O : Nat → Nat} (h : ∀ j, j < m → LV (O j) = LW (O j)) : ∀ i, i ≤ m + 1 → trS LV m v O i = trS LW m v O i
  | 0, _ => rfl
  | i + 1, hi => by
    have ih := trS_lc (v := v) h i (by omega)
    simp only [trS]
    rw [ih]
    by_cases z : i = m
    · rw [if_pos (Or.inl z), if_pos (Or.inl z)]
    · have e : LV ((trS LW m v O i).2 i) = LW ((trS LW m v O i).2 i) := trS_ne (P := fun q => LV q = LW q) h i (by omega) (by omega)
      rw [e]
theorem dn_lc {LV LW : Nat → Nat} {m lo : Nat} : ∀ z O, (∀ j, j < m → LV (O j) = LW (O j)) → dn LV m lo z O = dn LW m lo z O
  | 0, _, _ => rfl
  | z + 1, O, h => by
    simp only [dn]
    split
    · rfl
    · have e : trow LV m z O = trow LW m z O := by unfold trow; rw [trS_lc h (m + 1) (Nat.le_refl _)]
      rw [← e]
      exact dn_lc z _ (fun j hj => trS_ne (P := fun q => LV q = LW q) h (m + 1) (Nat.le_refl _) hj)
theorem plc_fnd {O : Nat → Nat} {f0 a : Nat → Int32} {q : Nat} (hq : q < 2000) (h0 : f0 q = -1) : ∀ n, oR a O n → (∀ j, j < n → O j < 2000) → plc O f0 n q = fndM a q n
  | 0, _, _ => h0
  | n + 1, ha, hO => by
    have ih := plc_fnd hq h0 n (fun j hj => ha j (by omega)) (fun j hj => hO j (by omega))
    simp only [plc, fndM]
    have hn := hO n (Nat.lt_succ_self n)
    rw [ha n (Nat.lt_succ_self n)]
    by_cases z : q = O n
    · subst z; rw [pk_us, if_pos rfl]
    · rw [pk_un z, if_neg (fun e => z (nI_ij (by omega) (by omega) e).symm), ih]
theorem fndM_c {a b : Nat → Int32} {q : Nat} : ∀ n, agr n a b → fndM a q n = fndM b q n
  | 0, _ => rfl
  | n + 1, h => by simp only [fndM]; rw [h n (by omega), fndM_c n (fun j hj => h j (by omega))]
/-- a line, class and model -/
theorem line_tie {lv f g f0 u v1 v2 f43 : Nat → Int32} {base fr to cn : Nat} (hlv : okV lv) (hfg : agr cn f g) (hto : to ≤ cn) (hcn : cn ≤ 2000) (hb : base ≤ 1) (hft : fr < to)
    (hu : oR u (shD lv f base fr to f0) (shN lv f base fr to f0))
    (h1 : oR v1 (dn (lvM lv g base to) (lineL lv fr (to - fr)).length 1 128 (fun j => (lineL lv fr (to - fr)).getD j 0)) (lineL lv fr (to - fr)).length)
    (h2 : oR v2 (fun j => lvM lv g base to (dn (lvM lv g base to) (lineL lv fr (to - fr)).length 1 128 (fun j => (lineL lv fr (to - fr)).getD j 0) j)) (lineL lv fr (to - fr)).length) :
    shN lv f base fr to f0 = (lineL lv fr (to - fr)).length ∧ (lineL lv fr (to - fr)).length ≤ 2000 ∧ ∃ (O LV : Nat → Nat), oR u O (shN lv f base fr to f0) ∧ oR v1 O (shN lv f base fr to f0) ∧ oR v2 (fun j => LV (O j)) (shN lv f base fr to f0) ∧ (∀ j, j < shN lv f base fr to f0 → O j < cn ∧ shL lv f base fr to f0 (O j) = nI (LV (O j)) ∧ LV (O j) ≤ 127) ∧ ∀ q, q < cn → plc (shD lv f base fr to f0) (pre cn (fun _ => -1) f43) (shN lv f base fr to f0) q = fndM v1 q (shN lv f base fr to f0) := by
  have st : ∀ q, fr ≤ q → q < to → (lv q = -1 → shL lv f base fr to f0 q = -1) ∧ (lv q ≠ -1 → shL lv f base fr to f0 q = nI (lvM lv g base to q) ∧ lvM lv g base to q ≤ 127) := by
    intro q a b
    have h := sh_tie (f0 := f0) (fst := f) hlv (by omega) hb a b
    rw [lvM_c (fun j hj => hfg j (by omega)) b] at h
    exact h
  have el : lineL (shL lv f base fr to f0) fr (to - fr) = lineL lv fr (to - fr) := by
    refine lineL_c _ (fun q a b => ?_)
    have h := st q a (by omega)
    constructor
    · intro e
      by_cases z : lv q = -1
      · exact z
      · obtain ⟨e1, e2⟩ := h.2 z
        rw [e1] at e
        exact absurd e (ip_m1 (nI_pos' (by omega)))
    · exact h.1
  have eN : shN lv f base fr to f0 = (lineL lv fr (to - fr)).length := by unfold shN; rw [el]
  have hlen := lineL_len lv fr (to - fr)
  have mem : ∀ j, j < (lineL lv fr (to - fr)).length → fr ≤ (lineL lv fr (to - fr)).getD j 0 ∧ (lineL lv fr (to - fr)).getD j 0 < to ∧ ¬ lv ((lineL lv fr (to - fr)).getD j 0) = -1 := by
    intro j hj
    have hm : (lineL lv fr (to - fr)).getD j 0 ∈ lineL lv fr (to - fr) := by
      rw [List.getD_eq_getElem?_getD, List.getElem?_eq_getElem hj]
      exact List.getElem_mem hj
    obtain ⟨a, b, c⟩ := lineL_mem (to - fr) _ hm
    exact ⟨a, by omega, c⟩
  have eV : ∀ q, fr ≤ q → q < to → ¬ lv q = -1 → shV lv f base fr to f0 q = lvM lv g base to q := by
    intro q a b c
    obtain ⟨e1, e2⟩ := (st q a b).2 c
    unfold shV
    rw [e1, nI_clamp (by omega)]
  have eO : shO lv f base fr to f0 = fun j => (lineL lv fr (to - fr)).getD j 0 := by
    funext j
    unfold shO
    rw [el]
  have eD : agrN (lineL lv fr (to - fr)).length (dn (lvM lv g base to) (lineL lv fr (to - fr)).length 1 128 (fun j => (lineL lv fr (to - fr)).getD j 0)) (shD lv f base fr to f0) := by
    have t := dn_tie (LV := shV lv f base fr to f0) (m := (lineL lv fr (to - fr)).length) (O := fun j => (lineL lv fr (to - fr)).getD j 0) (fun j hj => by
      obtain ⟨a, b, c⟩ := mem j hj
      show shV lv f base fr to f0 ((lineL lv fr (to - fr)).getD j 0) ≤ 127
      rw [eV _ a b c]; exact ((st _ a b).2 c).2)
    rw [dn_lc (LV := shV lv f base fr to f0) (LW := lvM lv g base to) 128 _ (fun j hj => by
      obtain ⟨a, b, c⟩ := mem j hj
      exact eV _ a b c)] at t
    unfold shD
    rw [eN, eO]
    exact t
  have memD : ∀ j, j < (lineL lv fr (to - fr)).length → fr ≤ shD lv f base fr to f0 j ∧ shD lv f base fr to f0 j < to ∧ ¬ lv (shD lv f base fr to f0 j) = -1 := by
    intro j hj
    unfold shD
    rw [eN]
    exact dn_lv (P := fun q => fr ≤ q ∧ q < to ∧ ¬ lv q = -1) _ _ (fun j hj => by rw [eO]; exact mem j hj) j hj
  have h1' : oR v1 (shD lv f base fr to f0) (shN lv f base fr to f0) := by
    rw [eN]
    intro j hj
    rw [h1 j hj, eD j hj]
  refine ⟨eN, by omega, shD lv f base fr to f0, lvM lv g base to, hu, h1', ?_, ?_, ?_⟩
  · rw [eN]
    intro j hj
    rw [h2 j hj]
    show nI (lvM lv g base to (dn _ _ _ _ _ j)) = _
    rw [eD j hj]
  · rw [eN]
    intro j hj
    obtain ⟨a, b, c⟩ := memD j hj
    exact ⟨by omega, ((st _ a b).2 c).1, ((st _ a b).2 c).2⟩
  · intro q hq
    refine plc_fnd (by omega) (by simp only [pre]; rw [if_pos hq]) _ h1' (fun j hj => ?_)
    rw [eN] at hj
    have := (memD j hj).2.1
    omega
