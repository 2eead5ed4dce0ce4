/-! 71: between an isolate and its match; every run is in a sequence -/
theorem xst {fst mt : Nat → Int32} {b pe base d : Nat} : xrun fst mt b pe base (d + 1) = xstep fst mt pe (b + d) (xrun fst mt b pe base d) := rfl
/-- while there are too many isolates nothing but their number changes -/
theorem xov_step {fst mt : Nat → Int32} {pe q n o : Nat} {L : List XE} {xe xv : Nat} (ho : 1 ≤ o) (hs : stp (fst q) o ≠ 0) : xstep fst mt pe q (L, n + o, xe, xv) = (L, n + stp (fst q) o, xe, xv) := by
  unfold xstep
  by_cases h1 : isemb (fst q)
  · rw [if_pos h1]
    have hi : ¬ isol (fst q) := fun z => by
      have a := z.1; have c := h1.2
      have : ¬ (17 : Int32) < fst q := c
      exact a (by
        have h17 : fst q ≤ 17 := Int32.not_lt.mp this
        exact Int32.lt_of_le_of_lt h17 (by decide))
    have h22 : ¬ fst q = 22 := fun z => by rw [z] at h1; exact absurd h1 (by decide)
    have e : stp (fst q) o = o := by unfold stp; rw [if_neg hi, if_neg h22]
    rw [e]
    unfold xEmb
    rw [if_neg (fun z => by have := z.2.1; simp only at this; omega), if_neg (show ¬ n + o = 0 by omega)]
  · rw [if_neg h1]
    by_cases h2 : isol (fst q)
    · rw [if_pos h2]
      have e : stp (fst q) o = o + 1 := by unfold stp; rw [if_pos h2]
      rw [e]
      unfold xIso
      rw [if_neg (fun z => by have := z.2.1; simp only at this; omega)]
      rfl
    · rw [if_neg h2]
      by_cases h3 : fst q = 22
      · rw [if_pos h3]
        have e : stp (fst q) o = o - 1 := by unfold stp; rw [if_neg h2, if_pos h3]
        rw [e] at hs ⊢
        unfold xPdi
        rw [if_pos (show 0 < n + o by omega)]
        show (L, n + o - 1, xe, xv) = _
        rw [show n + o - 1 = n + (o - 1) by omega]
      · rw [if_neg h3]
        have e : stp (fst q) o = o := by unfold stp; rw [if_neg h2, if_neg h3]
        rw [e]
        split
        · unfold xPdf; rw [if_pos (show 0 < n + o by omega)]
        · rfl
theorem stp_0 {k : Int32} {o : Nat} (ho : 1 ≤ o) (h : stp k o = 0) : k = 22 ∧ o = 1 := by
  unfold stp at h
  split at h
  · omega
  · split at h
    · rename_i h1 h2; exact ⟨h2, by omega⟩
    · omega
/-- the level of a position by its state's top -/
theorem xlev_top {k : Int32} {base v : Nat} {X : XS} (h10 : k ≠ 10) (ht : (xtop k X).1 = v) : xlev k base X = -1 ∨ xlev k base X = nI v := by
  unfold xlev
  by_cases g : xgone k
  · rw [if_pos g]; exact Or.inl rfl
  · rw [if_neg g, if_neg h10, ht]; exact Or.inr rfl
theorem xov_run {fst mt : Nat → Int32} {b pe base p n : Nat} {e0 : XE} {L : List XE} {xe xv : Nat} (hp : pe ≤ 2000) (hp2 : p < 2000) (h10 : ∀ x, b ≤ x → x < p → fst x ≠ 10) : ∀ f d o, 1 ≤ o → b + d + f ≤ pe → mOf fst f (b + d) o = nI p → xrun fst mt b pe base d = (e0 :: L, n + o, xe, xv) → b + d ≤ p ∧ (∀ x, b + d ≤ x → x < p → xlev (fst x) base (xrun fst mt b pe base (x - b)) = -1 ∨ xlev (fst x) base (xrun fst mt b pe base (x - b)) = nI e0.1) ∧ fst p = 22 ∧ xrun fst mt b pe base (p - b) = (e0 :: L, n + 1, xe, xv)
  | 0, d, o, _, _, h, _ => absurd h.symm (m1_ne (by omega))
  | f + 1, d, o, ho, hf, h, hX => by
    rw [mOf_s] at h
    by_cases hz : stp (fst (b + d)) o = 0
    · rw [if_pos hz] at h
      have e : b + d = p := (nI_eq (by omega) (by omega)).mp h
      obtain ⟨q1, q2⟩ := stp_0 ho hz
      refine ⟨by omega, fun x h1 h2 => absurd h2 (by omega), by rw [← e]; exact q1, ?_⟩
      rw [show p - b = d by omega, hX, q2]
    · rw [if_neg hz] at h
      have hX2 : xrun fst mt b pe base (d + 1) = (e0 :: L, n + stp (fst (b + d)) o, xe, xv) := by rw [xst, hX]; exact xov_step ho hz
      obtain ⟨r1, r2, r3, r4⟩ := xov_run hp hp2 h10 f (d + 1) (stp (fst (b + d)) o) (by omega) (by omega) h hX2
      refine ⟨by omega, fun x h1 h2 => ?_, r3, r4⟩
      by_cases e : x = b + d
      · rw [e, show b + d - b = d by omega, hX]
        refine xlev_top (h10 _ (by omega) (by omega)) ?_
        unfold xtop
        split
        · unfold xPdi; rw [if_pos (show 0 < n + o by omega)]; rfl
        · rfl
      · exact r2 x (by omega) h2
/-- inside an isolate of its own entry -/
theorem xin_step {fst mt : Nat → Int32} {pe q o : Nat} {E : XE} {A L : List XE} {xi xe xv : Nat} (hE : E.2.2 = true) (hL : L ≠ []) (hv : 1 ≤ xv) (hA : ∀ a ∈ A, E.1 ≤ a.1) (ho : o = 1 + isoN A + xi) (hs : stp (fst q) o ≠ 0) : ∃ A' xi' xe' xv', xstep fst mt pe q (A ++ E :: L, xi, xe, xv) = (A' ++ E :: L, xi', xe', xv') ∧ (∀ a ∈ A', E.1 ≤ a.1) ∧ stp (fst q) o = 1 + isoN A' + xi' := by
  have hhd : E.1 ≤ ((A ++ E :: L).headD (0, -1, false)).1 := by
    cases A with
    | nil => exact Nat.le_refl _
    | cons a A => exact hA a List.mem_cons_self
  unfold xstep
  by_cases h1 : isemb (fst q)
  · rw [if_pos h1]
    have hi : ¬ isol (fst q) := fun z => z.1 (Int32.lt_of_le_of_lt (Int32.not_lt.mp h1.2) (by decide))
    have h22 : ¬ fst q = 22 := fun z => by rw [z] at h1; exact absurd h1 (by decide)
    have e : stp (fst q) o = o := by unfold stp; rw [if_neg hi, if_neg h22]
    rw [e]
    unfold xEmb
    split
    · refine ⟨(nxt ((A ++ E :: L).headD (0, -1, false)).1 (emD (fst q)), emO (fst q), false) :: A, xi, xe, xv, rfl, ?_, ?_⟩
      · intro a ha
        rcases List.mem_cons.mp ha with z | z
        · rw [z]; have := (nxt_gt ((A ++ E :: L).headD (0, -1, false)).1 (emD (fst q))).1; show E.1 ≤ nxt _ _; omega
        · exact hA a z
      · rw [isoN_f rfl]; exact ho
    · split
      · exact ⟨A, xi, xe + 1, xv, rfl, hA, ho⟩
      · exact ⟨A, xi, xe, xv, rfl, hA, ho⟩
  · rw [if_neg h1]
    by_cases h2 : isol (fst q)
    · rw [if_pos h2]
      have e : stp (fst q) o = o + 1 := by unfold stp; rw [if_pos h2]
      rw [e]
      unfold xIso
      split
      · refine ⟨(nxt ((A ++ E :: L).headD (0, -1, false)).1 (dirIso fst mt q pe), -1, true) :: A, xi, xe, xv + 1, rfl, ?_, ?_⟩
        · intro a ha
          rcases List.mem_cons.mp ha with z | z
          · rw [z]; have := (nxt_gt ((A ++ E :: L).headD (0, -1, false)).1 (dirIso fst mt q pe)).1; show E.1 ≤ nxt _ _; omega
          · exact hA a z
        · show o + 1 = 1 + ((if true = true then 1 else 0) + isoN A) + xi
          rw [if_pos rfl]; omega
      · exact ⟨A, xi + 1, xe, xv, rfl, hA, by omega⟩
    · rw [if_neg h2]
      by_cases h3 : fst q = 22
      · rw [if_pos h3]
        have e : stp (fst q) o = o - 1 := by unfold stp; rw [if_neg h2, if_pos h3]
        rw [e] at hs ⊢
        unfold xPdi
        by_cases hx : 0 < xi
        · rw [if_pos hx]; exact ⟨A, xi - 1, xe, xv, rfl, hA, by omega⟩
        · rw [if_neg hx, if_pos (show 0 < xv by omega)]
          have hn : 0 < isoN A := by omega
          have pop : ∀ B : List XE, 0 < isoN B → (∀ a ∈ B, E.1 ≤ a.1) → ∃ B', popI (B ++ E :: L) = B' ++ E :: L ∧ (∀ a ∈ B', E.1 ≤ a.1) ∧ isoN B = isoN B' + 1 := by
            intro B
            induction B with
            | nil => intro h; exact absurd h (Nat.lt_irrefl 0)
            | cons a B ih =>
              intro h hB
              have hB2 : ∀ x ∈ B, E.1 ≤ x.1 := fun x hx => hB x (List.mem_cons_of_mem _ hx)
              have hpc : popI (a :: (B ++ E :: L)) = if a.2.2 = true then B ++ E :: L else popI (B ++ E :: L) := by
                cases hb : B ++ E :: L with
                | nil => simp at hb
                | cons y r => rfl
              by_cases hz : a.2.2 = true
              · refine ⟨B, ?_, hB2, ?_⟩
                · show popI (a :: (B ++ E :: L)) = _
                  rw [hpc, if_pos hz]
                · show (if a.2.2 = true then 1 else 0) + isoN B = _
                  rw [if_pos hz]; omega
              · have hz' : a.2.2 = false := by cases h9 : a.2.2 with | true => exact absurd h9 hz | false => rfl
                rw [isoN_f hz'] at h ⊢
                obtain ⟨B', e1, e2, e3⟩ := ih h hB2
                refine ⟨B', ?_, e2, e3⟩
                show popI (a :: (B ++ E :: L)) = _
                rw [hpc, if_neg hz]; exact e1
          obtain ⟨A', e1, e2, e3⟩ := pop A hn hA
          exact ⟨A', xi, 0, xv - 1, by show (popI (A ++ E :: L), xi, 0, xv - 1) = _; rw [e1], e2, by omega⟩
      · rw [if_neg h3]
        have e : stp (fst q) o = o := by unfold stp; rw [if_neg h2, if_neg h3]
        rw [e]
        split
        · unfold xPdf
          split
          · exact ⟨A, xi, xe, xv, rfl, hA, ho⟩
          · split
            · exact ⟨A, xi, xe - 1, xv, rfl, hA, ho⟩
            · cases A with
              | nil =>
                refine ⟨[], xi, xe, xv, ?_, hA, ho⟩
                cases L with
                | nil => exact absurd rfl hL
                | cons y r => show (popE (E :: y :: r), xi, xe, xv) = _; simp only [popE]; rw [if_pos hE]; rfl
              | cons a A =>
                have hpc : popE (a :: (A ++ E :: L)) = if a.2.2 = true then a :: (A ++ E :: L) else A ++ E :: L := by
                  cases hb : A ++ E :: L with
                  | nil => simp at hb
                  | cons y r => rfl
                by_cases hz : a.2.2 = true
                · refine ⟨a :: A, xi, xe, xv, ?_, hA, ho⟩
                  show (popE (a :: (A ++ E :: L)), xi, xe, xv) = _
                  rw [hpc, if_pos hz]; rfl
                · have hz' : a.2.2 = false := by cases h9 : a.2.2 with | true => exact absurd h9 hz | false => rfl
                  refine ⟨A, xi, xe, xv, ?_, fun x hx => hA x (List.mem_cons_of_mem _ hx), by rw [isoN_f hz'] at ho; exact ho⟩
                  show (popE (a :: (A ++ E :: L)), xi, xe, xv) = _
                  rw [hpc, if_neg hz]
        · exact ⟨A, xi, xe, xv, rfl, hA, ho⟩
theorem xin_top {E : XE} {A L : List XE} (hA : ∀ a ∈ A, E.1 ≤ a.1) : E.1 ≤ ((A ++ E :: L).headD (0, -1, false)).1 := by
  cases A with
  | nil => exact Nat.le_refl _
  | cons a A => exact hA a List.mem_cons_self
theorem isoN_ap {A B : List XE} : isoN (A ++ B) = isoN A + isoN B := by
  induction A with
  | nil => simp [isoN]
  | cons a A ih => show (if a.2.2 = true then 1 else 0) + isoN (A ++ B) = (if a.2.2 = true then 1 else 0) + isoN A + isoN B; rw [ih]; omega
theorem xin_run {fst mt : Nat → Int32} {b pe base p : Nat} {E : XE} {L : List XE} (hbs : base ≤ 1) (hp : pe ≤ 2000) (hp2 : p < 2000) (hE : E.2.2 = true) (hL : L ≠ []) (h10 : ∀ x, b ≤ x → x < p → fst x ≠ 10) : ∀ f d o A xi xe xv, o = 1 + isoN A + xi → (∀ a ∈ A, E.1 ≤ a.1) → b + d + f ≤ pe → mOf fst f (b + d) o = nI p → xrun fst mt b pe base d = (A ++ E :: L, xi, xe, xv) → b + d ≤ p ∧ (∀ x, b + d ≤ x → x < p → xlev (fst x) base (xrun fst mt b pe base (x - b)) = -1 ∨ ∃ v, xlev (fst x) base (xrun fst mt b pe base (x - b)) = nI v ∧ E.1 ≤ v ∧ v ≤ 125) ∧ fst p = 22 ∧ ∃ A' xe' xv', xrun fst mt b pe base (p - b) = (A' ++ E :: L, 0, xe', xv') ∧ isoN A' = 0 ∧ 1 ≤ xv'
  | 0, d, o, A, xi, xe, xv, _, _, _, h, _ => absurd h.symm (m1_ne (by omega))
  | f + 1, d, o, A, xi, xe, xv, ho, hA, hf, h, hX => by
    have hiv := xinv_run (fst := fst) (mt := mt) (b := b) (pe := pe) (base := base) hbs d
    have hok := xok_run (fst := fst) (mt := mt) (b := b) (pe := pe) (base := base) hbs d
    rw [hX] at hiv hok
    have hxv : 1 ≤ xv := by
      have h1 : isoN (A ++ E :: L) = xv := hiv.1
      rw [isoN_ap] at h1
      have h2 : isoN (E :: L) = (if E.2.2 = true then 1 else 0) + isoN L := rfl
      rw [if_pos hE] at h2
      omega
    rw [mOf_s] at h
    by_cases hz : stp (fst (b + d)) o = 0
    · rw [if_pos hz] at h
      have e : b + d = p := (nI_eq (by omega) (by omega)).mp h
      obtain ⟨q1, q2⟩ := stp_0 (by omega) hz
      refine ⟨by omega, fun x h1 h2 => absurd h2 (by omega), by rw [← e]; exact q1, A, xe, xv, ?_, by omega, hxv⟩
      rw [show p - b = d by omega, hX, show xi = 0 by omega]
    · rw [if_neg hz] at h
      obtain ⟨A', xi', xe', xv', e1, e2, e3⟩ := xin_step (fst := fst) (mt := mt) (pe := pe) (q := b + d) (xe := xe) hE hL hxv hA ho hz
      have hX2 : xrun fst mt b pe base (d + 1) = (A' ++ E :: L, xi', xe', xv') := by rw [xst, hX]; exact e1
      obtain ⟨r1, r2, r3⟩ := xin_run hbs hp hp2 hE hL h10 f (d + 1) (stp (fst (b + d)) o) A' xi' xe' xv' e3 e2 (by omega) h hX2
      refine ⟨by omega, fun x h1 h2 => ?_, r3⟩
      by_cases e : x = b + d
      · rw [e, show b + d - b = d by omega, hX]
        have hle := xtop_le (k := fst (b + d)) hok
        rcases xlev_top (k := fst (b + d)) (base := base) (X := (A ++ E :: L, xi, xe, xv)) (h10 _ (by omega) (by omega)) rfl with z | z
        · exact Or.inl z
        · refine Or.inr ⟨_, z, ?_, hle⟩
          unfold xtop
          split
          · rename_i h22
            have hs : xstep fst mt pe (b + d) (A ++ E :: L, xi, xe, xv) = xPdi (A ++ E :: L, xi, xe, xv) := by
              unfold xstep
              rw [if_neg (by rw [h22]; decide), if_neg (by rw [h22]; decide), if_pos h22]
            rw [← hs, e1]
            exact xin_top e2
          · exact xin_top hA
      · exact r2 x (by omega) h2
theorem popI_A {E : XE} {L : List XE} (hE : E.2.2 = true) (hL : L ≠ []) : ∀ A : List XE, isoN A = 0 → popI (A ++ E :: L) = L
  | [], _ => by
    cases L with
    | nil => exact absurd rfl hL
    | cons y r => show popI (E :: y :: r) = _; simp only [popI]; rw [if_pos hE]
  | a :: A, h => by
    have h9 : isoN (a :: A) = (if a.2.2 = true then 1 else 0) + isoN A := rfl
    have hz : ¬ a.2.2 = true := fun z => by rw [if_pos z] at h9; omega
    rw [if_neg hz] at h9
    have hpc : popI (a :: (A ++ E :: L)) = if a.2.2 = true then A ++ E :: L else popI (A ++ E :: L) := by
      cases hb : A ++ E :: L with
      | nil => simp at hb
      | cons y r => rfl
    show popI (a :: (A ++ E :: L)) = L
    rw [hpc, if_neg hz]
    exact popI_A hE hL A (by omega)
/-- an isolate and its match have one level; what lies between has that one too, or none of it has -/
theorem btwn {fst mt f0 : Nat → Int32} {b pe base w p : Nat} (hbs : base ≤ 1) (hp : pe ≤ 2000) (hb : b ≤ w) (hw : w < pe) (hi : isol (fst w)) (hpp : p < pe) (hm : mOf fst (pe - (w + 1)) (w + 1) 1 = nI p) (h10 : ∀ x, b ≤ x → x + 1 < pe → fst x ≠ 10) : xlv fst mt b pe base f0 (pe - b) p = xlv fst mt b pe base f0 (pe - b) w ∧ ((∀ x, w < x → x < p → xlv fst mt b pe base f0 (pe - b) x = -1 ∨ xlv fst mt b pe base f0 (pe - b) x = xlv fst mt b pe base f0 (pe - b) w) ∨ (∀ x, w < x → x < p → xlv fst mt b pe base f0 (pe - b) x ≠ xlv fst mt b pe base f0 (pe - b) w)) := by
  have hok := xok_run (fst := fst) (mt := mt) (b := b) (pe := pe) (base := base) hbs (w - b)
  obtain ⟨e0, L, xi, xe, xv, hX⟩ : ∃ e0 L xi xe xv, xrun fst mt b pe base (w - b) = (e0 :: L, xi, xe, xv) := by
    cases hz : xrun fst mt b pe base (w - b) with
    | mk L q => cases L with
      | nil => rw [hz] at hok; exact absurd rfl hok.1
      | cons x t => exact ⟨_, _, _, _, _, rfl⟩
  rw [hX] at hok
  have hng : ¬ xgone (fst w) := by
    rintro (z | z | z)
    · exact hi.1 (Int32.lt_of_le_of_lt (Int32.not_lt.mp z.2) (by decide))
    · exact k_not (P := isol) hi isol_18 z
    · exact k_not (P := isol) hi isol_9 z
  have hn10 : ¬ fst w = 10 := k_not (P := isol) hi isol_10
  have hn22 : ¬ fst w = 22 := k_not (P := isol) hi isol_22
  have elw : xlv fst mt b pe base f0 (pe - b) w = nI e0.1 := by
    rw [xlv_in _ _ hb (by omega), hX]
    unfold xlev
    rw [if_neg hng, if_neg hn10]
    unfold xtop
    rw [if_neg hn22]; rfl
  have e0le : e0.1 ≤ 125 := hok.2.1.2.1
  have hw1 : w + 1 = b + (w - b + 1) := by omega
  have hst : xrun fst mt b pe base (w - b + 1) = xIso (dirIso fst mt w pe) (e0 :: L, xi, xe, xv) := by
    rw [xst, hX, show b + (w - b) = w by omega]
    unfold xstep
    rw [if_neg (fun z => hng (Or.inl z)), if_pos hi]
  rw [hw1] at hm
  by_cases hc : canO (nxt e0.1 (dirIso fst mt w pe)) xi xe
  · have hX1 : xrun fst mt b pe base (w - b + 1) = ([] ++ (nxt e0.1 (dirIso fst mt w pe), -1, true) :: e0 :: L, xi, xe, xv + 1) := by
      rw [hst]; unfold xIso; exact if_pos hc
    obtain ⟨r1, r2, r3, A', xe', xv', r4, r5, r6⟩ := xin_run hbs hp (by omega) (E := (nxt e0.1 (dirIso fst mt w pe), -1, true)) (L := e0 :: L) rfl (by simp) (fun x h1 h2 => h10 x h1 (by omega)) _ (w - b + 1) 1 [] xi xe (xv + 1) (by show 1 = 1 + 0 + xi; rw [hc.2.1]) (fun a ha => absurd ha List.not_mem_nil) (by omega) hm hX1
    have hgt := (nxt_gt e0.1 (dirIso fst mt w pe)).1
    refine ⟨?_, Or.inr fun x h1 h2 => ?_⟩
    · rw [elw, xlv_in _ _ (by omega) (by omega), r4, r3]
      unfold xlev
      rw [if_neg (by rintro (z | z | z) <;> revert z <;> decide), if_neg (by decide)]
      unfold xtop
      rw [if_pos rfl]
      unfold xPdi
      rw [if_neg (Nat.lt_irrefl 0), if_pos (show 0 < xv' by omega)]
      show nI ((popI (A' ++ _ :: e0 :: L)).headD _).1 = _
      rw [popI_A rfl (by simp) A' r5]; rfl
    · rw [elw, xlv_in _ _ (by omega) (by omega)]
      rcases r2 x (by omega) h2 with z | ⟨v, z1, z2, z3⟩
      · rw [z]; exact fun q => m1_ne (by omega) q.symm
      · rw [z1]
        intro q
        have := (nI_eq (by omega) (by omega)).mp q
        have z2' : nxt e0.1 (dirIso fst mt w pe) ≤ v := z2
        omega
  · have hX1 : xrun fst mt b pe base (w - b + 1) = (e0 :: L, xi + 1, xe, xv) := by
      rw [hst]; unfold xIso; exact if_neg hc
    obtain ⟨r1, r2, r3, r4⟩ := xov_run (n := xi) hp (show p < 2000 by omega) (fun x h1 h2 => h10 x h1 (by omega)) _ (w - b + 1) 1 (Nat.le_refl 1) (by omega) hm hX1
    refine ⟨?_, Or.inl fun x h1 h2 => ?_⟩
    · rw [elw, xlv_in _ _ (by omega) (by omega), r4, r3]
      unfold xlev
      rw [if_neg (by rintro (z | z | z) <;> revert z <;> decide), if_neg (by decide)]
      unfold xtop
      rw [if_pos rfl]
      unfold xPdi
      rw [if_pos (show 0 < xi + 1 by omega)]; rfl
    · rw [elw, xlv_in _ _ (by omega) (by omega)]
      exact r2 x (by omega) h2
