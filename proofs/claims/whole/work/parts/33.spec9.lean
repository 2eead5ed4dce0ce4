/-! what stands behind a sequence's end doesn't count -/
def agr (n : Nat) (f g : Nat → Int32) : Prop := ∀ j, j < n → f j = g j
theorem agr_pre {n : Nat} {f k : Nat → Int32} : agr n (pre n f k) f := fun j hj => pre_lo hj
theorem agr.tr {n : Nat} {f g h : Nat → Int32} (a : agr n f g) (b : agr n g h) : agr n f h := fun j hj => (a j hj).trans (b j hj)
theorem agr.sy {n : Nat} {f g : Nat → Int32} (a : agr n f g) : agr n g f := fun j hj => (a j hj).symm
theorem agr_pp {n : Nat} {f g k k' : Nat → Int32} (h : agr n f g) : agr n (pre n f k) (pre n g k') := agr_pre.tr (h.tr agr_pre.sy)
theorem w1_agr {n : Nat} {h : Int32} {s s' k k' : Nat → Int32} (hs : agr n s s') (hk : agr n k k') : agr n (w1 h s k) (w1 h s' k') := by
  intro j
  induction j with
  | zero => intro hj; simp only [w1]; rw [hk 0 hj]
  | succ j ih => intro hj; simp only [w1]; rw [hk (j + 1) hj, hs j (by omega), ih (by omega)]
theorem lastS_agr {n : Nat} {h : Int32} {k k' : Nat → Int32} (hk : agr n k k') : ∀ j, j ≤ n → lastS h k j = lastS h k' j
  | 0, _ => rfl
  | j + 1, hj => by simp only [lastS]; rw [hk j (by omega), lastS_agr hk j (by omega)]
theorem lastD_agr {n : Nat} {h : Int32} {k k' : Nat → Int32} (hk : agr n k k') : ∀ j, j ≤ n → lastD h k j = lastD h k' j
  | 0, _ => rfl
  | j + 1, hj => by simp only [lastD]; rw [hk j (by omega), lastD_agr hk j (by omega)]
theorem prevS_agr {n : Nat} {h : Int32} {k k' : Nat → Int32} (hk : agr n k k') : ∀ j, j ≤ n → prevS h k j = prevS h k' j
  | 0, _ => rfl
  | j + 1, hj => by simp only [prevS]; rw [hk j (by omega), prevS_agr hk j (by omega)]
theorem btw_agr {n i : Nat} {now now' k k' : Nat → Int32} {x : Int32} (h : 0 < i → now (i - 1) = now' (i - 1)) (hk : agr n k k') : btw n now k i x ↔ btw n now' k' i x := by
  unfold btw
  constructor
  · intro q; exact ⟨q.1, (h q.1) ▸ q.2.1, q.2.2.1, (hk _ q.2.2.1) ▸ q.2.2.2⟩
  · intro q; exact ⟨q.1, (h q.1).symm ▸ q.2.1, q.2.2.1, (hk _ q.2.2.1).symm ▸ q.2.2.2⟩
theorem w4_agr {n : Nat} {k k' : Nat → Int32} (hk : agr n k k') : agr n (w4 n k) (w4 n k') := by
  intro j
  induction j with
  | zero => intro hj; exact hk 0 hj
  | succ j ih =>
    intro hj
    have e := ih (by omega)
    rw [w4_eq, w4_eq]
    unfold w4s
    rw [propext (btw_agr (n := n) (i := j + 1) (x := 3) (now := w4 n k) (now' := w4 n k') (fun _ => e) hk), propext (btw_agr (n := n) (i := j + 1) (x := 6) (now := w4 n k) (now' := w4 n k') (fun _ => e) hk), hk (j + 1) hj]
theorem nexE_agr {n j : Nat} {k k' : Nat → Int32} (hk : agr n k k') (hj : j < n) (h : nexE n k j) : nexE n k' j := by
  rcases h with ⟨a, h1, h2, h3⟩ | ⟨a, h1, h2, h3, h4⟩
  · exact Or.inl ⟨a, h1, (hk a (by omega)) ▸ h2, fun b e1 e2 => (hk b (by omega)) ▸ h3 b e1 e2⟩
  · exact Or.inr ⟨a, h1, h2, (hk a h2) ▸ h3, fun b e1 e2 => (hk b (by omega)) ▸ h4 b e1 e2⟩
theorem w5_agr {n : Nat} {k k' : Nat → Int32} (hk : agr n k k') : agr n (w5 n k) (w5 n k') := by
  intro j hj
  unfold w5
  rw [hk j hj, propext (show nexE n k j ↔ nexE n k' j from ⟨nexE_agr hk hj, nexE_agr hk.sy hj⟩)]
theorem weak_agr {n : Nat} {h : Int32} {s s' k k' : Nat → Int32} (hs : agr n s s') (hk : agr n k k') : agr n (weak n h s k) (weak n h s' k') := by
  have a1 : agr n (wk1 n h s k) (wk1 n h s' k') := agr_pp (w1_agr hs hk)
  have a2 : agr n (wk2 n h (wk1 n h s k)) (wk2 n h (wk1 n h s' k')) := agr_pp (fun j hj => by unfold w2; rw [a1 j hj, lastS_agr a1 j (by omega)])
  have a3 := agr_pp (n := n) (f := w3 (wk2 n h (wk1 n h s k))) (g := w3 (wk2 n h (wk1 n h s' k'))) (k := wk2 n h (wk1 n h s k)) (k' := wk2 n h (wk1 n h s' k')) (fun j hj => by unfold w3; rw [a2 j hj])
  have a4 := agr_pp (n := n) (k := wk3 n (wk2 n h (wk1 n h s k))) (k' := wk3 n (wk2 n h (wk1 n h s' k'))) (w4_agr (n := n) (k := wk3 n (wk2 n h (wk1 n h s k))) (k' := wk3 n (wk2 n h (wk1 n h s' k'))) a3)
  have a5 := agr_pp (n := n) (k := wk4 n (wk3 n (wk2 n h (wk1 n h s k)))) (k' := wk4 n (wk3 n (wk2 n h (wk1 n h s' k')))) (w5_agr (n := n) (k := wk4 n (wk3 n (wk2 n h (wk1 n h s k)))) (k' := wk4 n (wk3 n (wk2 n h (wk1 n h s' k')))) a4)
  have a6 : agr n (wk6 n (wk5 n (wk4 n (wk3 n (wk2 n h (wk1 n h s k)))))) (wk6 n (wk5 n (wk4 n (wk3 n (wk2 n h (wk1 n h s' k')))))) := agr_pp (fun j hj => by unfold w6; rw [show wk5 n (wk4 n (wk3 n (wk2 n h (wk1 n h s k)))) j = wk5 n (wk4 n (wk3 n (wk2 n h (wk1 n h s' k')))) j from a5 j hj])
  exact agr_pp (fun j hj => by unfold w7; rw [a6 j hj, lastD_agr a6 j (by omega)])
theorem bfind_agr {now now' ch ch' : Nat → Int32} {oth : Int32 → Int32} {n : Nat} (hn : agr n now now') (hc : agr n ch ch') : ∀ f i st pr pr', i + f ≤ n → agr n pr pr' → agr n (bfind now ch oth f i st pr) (bfind now' ch' oth f i st pr')
  | 0, _, _, _, _, _, h => h
  | f + 1, i, st, pr, pr', hi, h => by
    simp only [bfind]
    rw [hn i (by omega), hc i (by omega)]
    split
    · split
      · refine bfind_agr hn hc f _ _ _ _ (by omega) ?_
        unfold cbP
        split
        · exact h
        · rename_i a _
          intro j hj
          by_cases q : j = a.1
          · rw [q, pk_us, pk_us]
          · rw [pk_un q, pk_un q]; exact h j hj
      · split
        · exact bfind_agr hn hc f _ _ _ _ (by omega) h
        · exact h
    · exact bfind_agr hn hc f _ _ _ _ (by omega) h
theorem mkE_agr {n : Nat} {kb kb' : Nat → Int32} (h : agr n kb kb') : ∀ f j, mkE kb n f j = mkE kb' n f j
  | 0, _ => rfl
  | f + 1, j => by
    simp only [mkE]
    by_cases q : j < n
    · rw [h j q, mkE_agr h f (j + 1)]
    · rw [if_neg (fun z => q z.1), if_neg (fun z => q z.1)]
theorem giveN_agr {n i : Nat} {kb kb' now now' : Nat → Int32} {x : Int32} (h : agr n kb kb') (hn : agr n now now') : agr n (giveN kb n i x now) (giveN kb' n i x now') := by
  intro j hj
  unfold giveN mkEnd
  rw [mkE_agr h]
  unfold rng
  rw [hn j hj]
theorem settle_agr {n o cl : Nat} {h d : Int32} {kb kb' now now' : Nat → Int32} (hk : agr n kb kb') (hn : agr n now now') (ho : o < n) (hc : cl ≤ n) : agr n (settle kb n h d o cl now) (settle kb' n h d o cl now') := by
  have e1 : hasA now o cl ↔ hasA now' o cl := ⟨fun ⟨j, h1, h2, h3⟩ => ⟨j, h1, h2, (hn j (by omega)) ▸ h3⟩, fun ⟨j, h1, h2, h3⟩ => ⟨j, h1, h2, (hn j (by omega)).symm ▸ h3⟩⟩
  have e2 : hasD now d o cl ↔ hasD now' d o cl := ⟨fun ⟨j, h1, h2, h3⟩ => ⟨j, h1, h2, (hn j (by omega)) ▸ h3⟩, fun ⟨j, h1, h2, h3⟩ => ⟨j, h1, h2, (hn j (by omega)).symm ▸ h3⟩⟩
  have e3 : bdir now h d o cl = bdir now' h d o cl := by unfold bdir; rw [propext e2, prevS_agr hn o (by omega)]
  unfold settle
  rw [propext e1, e3]
  split
  · exact giveN_agr hk (giveN_agr hk hn)
  · exact hn
theorem n0_agr {n : Nat} {h d : Int32} {kb kb' pr pr' now now' : Nat → Int32} (hk : agr n kb kb') (hp : agr n pr pr') (hn : agr n now now') (hok : okP n pr) (hN : n ≤ 2000) : ∀ i, i ≤ n → agr n (n0 kb n h d pr now i) (n0 kb' n h d pr' now' i)
  | 0, _ => hn
  | i + 1, hi => by
    have ih := n0_agr (h := h) (d := d) hk hp hn hok hN i (by omega)
    simp only [n0]
    rw [← hp i (by omega)]
    split
    · exact ih
    · rename_i hne
      refine settle_agr hk ih (by omega) ?_
      obtain ⟨k, hk1, e⟩ := (hok i (by omega)).resolve_left hne
      rw [e, nI_clamp (by omega)]; omega
theorem nxS_agr {n : Nat} {t : Int32} {k k' : Nat → Int32} (hk : agr n k k') : ∀ m j, j + m ≤ n → nxS t k m j = nxS t k' m j
  | 0, _, _ => rfl
  | m + 1, j, hj => by simp only [nxS]; rw [hk j (by omega), nxS_agr hk m (j + 1) (by omega)]
theorem n12_agr {n : Nat} {h t d : Int32} {k k' : Nat → Int32} (hk : agr n k k') : agr n (n12 n h t d k) (n12 n h t d k') := by
  intro j hj
  unfold n12 nextS
  rw [hk j hj, prevS_agr hk j (by omega), nxS_agr hk (n - j) j (by omega)]
theorem wrt_agr {n : Nat} {P : Nat → Nat} {k k' f0 : Nat → Int32} (hk : agr n k k') : ∀ i, i ≤ n → wrt P k f0 i = wrt P k' f0 i
  | 0, _ => rfl
  | i + 1, hi => by simp only [wrt]; rw [wrt_agr hk i (by omega), hk i (by omega)]
/-- a sequence's classes by all rules -/
noncomputable def sqB (n : Nat) (h d : Int32) (s ch : Nat → Int32) (oth : Int32 → Int32) (k : Nat → Int32) : Nat → Int32 := n0 k n h d (bfind (weak n h s k) ch oth (n - 0) 0 [] (fun _ => -1)) (weak n h s k) n
noncomputable def sqK (n : Nat) (h t d : Int32) (s ch : Nat → Int32) (oth : Int32 → Int32) (k : Nat → Int32) : Nat → Int32 := n12 n h t d (sqB n h d s ch oth k)
theorem sqK_of {n : Nat} {h t d : Int32} {s ch : Nat → Int32} {oth : Int32 → Int32} {k k2 f0 y : Nat → Int32} {P : Nat → Nat} (hN : n ≤ 2000) (hk : agr n k2 k) : wrt P (pre n (n12 n h t d (n0 k n h d (bfind (weak n h s k2) ch oth (n - 0) 0 [] (pre n (fun _ => -1) y)) (weak n h s k2) n)) (n0 k n h d (bfind (weak n h s k2) ch oth (n - 0) 0 [] (pre n (fun _ => -1) y)) (weak n h s k2) n)) f0 n = wrt P (sqK n h t d s ch oth k) f0 n := by
  refine wrt_agr (n := n) (agr_pre.tr (n12_agr ?_)) n (Nat.le_refl n)
  have aw : agr n (weak n h s k2) (weak n h s k) := weak_agr (fun _ _ => rfl) hk
  have ab := bfind_agr (oth := oth) aw (fun _ _ => rfl : agr n ch ch) (n - 0) 0 [] (pre n (fun _ => -1) y) (fun _ => -1) (by omega) agr_pre
  exact n0_agr (fun _ _ => rfl) ab aw (bfind_ok (n - 0) 0 [] _ (by omega) (fun j hj => Or.inl (pre_lo hj))) hN n (Nat.le_refl n)
