/-! 66: what holds of every state of the explicit levels; the model's classes -/
def isoN : List XE → Nat
  | [] => 0
  | x :: r => (if x.2.2 = true then 1 else 0) + isoN r
def botOK : List XE → Prop
  | [] => True
  | [x] => x.2.2 = false
  | _ :: y :: r => botOK (y :: r)
def ovOK : List XE → Prop
  | [] => True
  | x :: r => (x.2.1 = -1 ∨ x.2.1 = 0 ∨ x.2.1 = 1) ∧ ovOK r
def xinv (X : XS) : Prop := isoN X.1 = X.2.2.2 ∧ botOK X.1 ∧ ovOK X.1
theorem popI_inv : ∀ {L : List XE}, botOK L → ovOK L → 0 < isoN L → isoN (popI L) = isoN L - 1 ∧ botOK (popI L) ∧ ovOK (popI L)
  | [], _, _, h => absurd h (Nat.lt_irrefl 0)
  | [x], h1, _, h => by
    simp only [botOK] at h1
    simp only [isoN, h1] at h
    exact absurd h (by decide)
  | x :: y :: r, h1, h2, h => by
    simp only [popI]
    by_cases q : x.2.2 = true
    · rw [if_pos q]
      refine ⟨?_, h1, h2.2⟩
      have : isoN (x :: y :: r) = 1 + isoN (y :: r) := by show (if x.2.2 = true then 1 else 0) + isoN (y :: r) = _; rw [if_pos q]
      omega
    · rw [if_neg q]
      have e : isoN (x :: y :: r) = isoN (y :: r) := by show (if x.2.2 = true then 1 else 0) + isoN (y :: r) = _; rw [if_neg q]; omega
      rw [e] at h ⊢
      exact popI_inv (L := y :: r) h1 h2.2 h
theorem popE_inv : ∀ {L : List XE}, botOK L → ovOK L → isoN (popE L) = isoN L ∧ botOK (popE L) ∧ ovOK (popE L)
  | [], h1, h2 => ⟨rfl, h1, h2⟩
  | [x], h1, h2 => ⟨rfl, h1, h2⟩
  | x :: y :: r, h1, h2 => by
    simp only [popE]
    by_cases q : x.2.2 = true
    · rw [if_pos q]; exact ⟨rfl, h1, h2⟩
    · rw [if_neg q]
      have e : isoN (x :: y :: r) = isoN (y :: r) := by show (if x.2.2 = true then 1 else 0) + isoN (y :: r) = _; rw [if_neg q]; omega
      exact ⟨e.symm, h1, h2.2⟩
theorem emO_ok (k : Int32) : emO k = -1 ∨ emO k = 0 ∨ emO k = 1 := by
  unfold emO
  split
  · exact Or.inr (Or.inr rfl)
  · split
    · exact Or.inr (Or.inl rfl)
    · exact Or.inl rfl
theorem botOK_push {x : XE} {L : List XE} (h : botOK L) (hn : L ≠ []) : botOK (x :: L) := by
  cases L with
  | nil => exact absurd rfl hn
  | cons y r => exact h
theorem xinv_step {n : Nat} {X : XS} {fst mt : Nat → Int32} {pe q : Nat} (hk : xok n X) (h : xinv X) : xinv (xstep fst mt pe q X) := by
  obtain ⟨h1, h2, h3⟩ := h
  unfold xstep
  split
  · unfold xEmb
    split
    · exact ⟨by show (if false = true then 1 else 0) + isoN X.1 = X.2.2.2; rw [h1]; simp, botOK_push h2 hk.1, emO_ok _, h3⟩
    · split
      · exact ⟨h1, h2, h3⟩
      · exact ⟨h1, h2, h3⟩
  · split
    · unfold xIso
      split
      · exact ⟨by show (if true = true then 1 else 0) + isoN X.1 = X.2.2.2 + 1; rw [h1, if_pos rfl]; omega, botOK_push h2 hk.1, Or.inl rfl, h3⟩
      · exact ⟨h1, h2, h3⟩
    · split
      · unfold xPdi
        split
        · exact ⟨h1, h2, h3⟩
        · split
          · rename_i hv
            obtain ⟨e1, e2, e3⟩ := popI_inv h2 h3 (by omega)
            exact ⟨by show isoN (popI X.1) = X.2.2.2 - 1; omega, e2, e3⟩
          · exact ⟨h1, h2, h3⟩
      · split
        · unfold xPdf
          split
          · exact ⟨h1, h2, h3⟩
          · split
            · exact ⟨h1, h2, h3⟩
            · obtain ⟨e1, e2, e3⟩ := popE_inv h2 h3
              exact ⟨by show isoN (popE X.1) = X.2.2.2; omega, e2, e3⟩
        · exact ⟨h1, h2, h3⟩
theorem xinv_run {fst mt : Nat → Int32} {b pe base : Nat} (hb : base ≤ 1) : ∀ d, xinv (xrun fst mt b pe base d)
  | 0 => ⟨rfl, rfl, Or.inl rfl, trivial⟩
  | d + 1 => xinv_step (xok_run hb d) (xinv_run hb d)
/-- the model's class of a position -/
noncomputable def xkm (k : Int32) (X : XS) : Int32 := @ite _ (xgone k) (Classical.propDecidable _) k (if k = 10 then 10 else if (xtop k X).2.1 < 0 then k else (xtop k X).2.1)
noncomputable def xkdm (fst mt : Nat → Int32) (b pe base : Nat) (f0 : Nat → Int32) : Nat → Nat → Int32
  | 0 => f0
  | d + 1 => upd (xkdm fst mt b pe base f0 d) (b + d) (xkm (fst (b + d)) (xrun fst mt b pe base d))
theorem ov_hd {L : List XE} (h : ovOK L) : (L.headD (0, -1, false)).2.1 = -1 ∨ (L.headD (0, -1, false)).2.1 = 0 ∨ (L.headD (0, -1, false)).2.1 = 1 := by
  cases L with
  | nil => exact Or.inl rfl
  | cons x r => exact h.1
theorem xtop_ov {k : Int32} {X : XS} (h : xinv X) : (xtop k X).2.1 = -1 ∨ (xtop k X).2.1 = 0 ∨ (xtop k X).2.1 = 1 := by
  unfold xtop
  split
  · unfold xPdi
    split
    · exact ov_hd h.2.2
    · split
      · rename_i hv
        exact ov_hd (popI_inv h.2.1 h.2.2 (by rw [h.1]; exact hv)).2.2
      · exact ov_hd h.2.2
  · exact ov_hd h.2.2
theorem xkm_eq {k : Int32} {X : XS} (h : xinv X) (hg : ¬ xgone k) : xkm k X = xkin k X := by
  unfold xkm xkin
  rw [if_neg hg, if_neg hg]
  split
  · rfl
  · rcases xtop_ov (k := k) h with e | e | e <;> rw [e] <;> rfl
theorem dirIso_01 {fst mt : Nat → Int32} {q pe : Nat} : dirIso fst mt q pe = 0 ∨ dirIso fst mt q pe = 1 := by
  unfold dirIso
  split
  · exact dirIn_01 _ _
  · split
    · exact Or.inr rfl
    · exact Or.inl rfl
theorem emD_01 (k : Int32) : emD k = 0 ∨ emD k = 1 := by
  unfold emD
  split
  · exact Or.inr rfl
  · exact Or.inl rfl
theorem upd_uu {f : Nat → Int32} {k : Nat} {x y : Int32} : upd (upd f k x) k y = upd f k y := by
  funext j
  by_cases h : j = k
  · subst h; rw [pk_us, pk_us]
  · rw [pk_un h, pk_un h, pk_un h]
theorem isoN_pop {x : XE} {t : List XE} (hb : botOK (x :: t)) (hn : 0 < isoN (x :: t)) : ∃ y t2, t = y :: t2 := by
  cases t with
  | nil =>
    simp only [botOK] at hb
    simp only [isoN, hb] at hn
    exact absurd hn (by decide)
  | cons y t2 => exact ⟨y, t2, rfl⟩
theorem isoN_f {x : XE} {t : List XE} (h : x.2.2 = false) : isoN (x :: t) = isoN t := by
  show (if x.2.2 = true then 1 else 0) + isoN t = _
  rw [h]; simp
