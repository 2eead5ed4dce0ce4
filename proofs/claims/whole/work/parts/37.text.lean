/-! 37: Resolver.resolveText -/
def AR32 (a12 a13 a14 a15 a16 a17 a18 a19 a20 a21 a22 a23 a24 a25 a26 a27 a28 a29 a30 a31 a32 a33 a34 a35 a36 a37 a38 a39 a40 a41 a42 a43 : Nat → Int32) : Nat → Nat → Int32 := fun k => match k with
  | 12 => a12
  | 13 => a13
  | 14 => a14
  | 15 => a15
  | 16 => a16
  | 17 => a17
  | 18 => a18
  | 19 => a19
  | 20 => a20
  | 21 => a21
  | 22 => a22
  | 23 => a23
  | 24 => a24
  | 25 => a25
  | 26 => a26
  | 27 => a27
  | 28 => a28
  | 29 => a29
  | 30 => a30
  | 31 => a31
  | 32 => a32
  | 33 => a33
  | 34 => a34
  | 35 => a35
  | 36 => a36
  | 37 => a37
  | 38 => a38
  | 39 => a39
  | 40 => a40
  | 41 => a41
  | 42 => a42
  | _ => a43
def FL19 (f0 f1 f2 f3 f4 f5 f6 f7 f8 f9 f10 f11 f12 f13 f14 f15 f16 f17 f18 : Int32) : Nat → Int32 := fun k => match k with
  | 0 => f0
  | 1 => f1
  | 2 => f2
  | 3 => f3
  | 4 => f4
  | 5 => f5
  | 6 => f6
  | 7 => f7
  | 8 => f8
  | 9 => f9
  | 10 => f10
  | 11 => f11
  | 12 => f12
  | 13 => f13
  | 14 => f14
  | 15 => f15
  | 16 => f16
  | 17 => f17
  | _ => f18
def bsN (fst mt : Nat → Int32) (told b en : Nat) : Nat := if told = 2 then (DI fst mt en b).toNatClampNeg else told
theorem dirIn_01 {fst mt : Nat → Int32} {en : Nat} : ∀ f i, dirIn fst mt en f i = 0 ∨ dirIn fst mt en f i = 1
  | 0, _ => Or.inl rfl
  | f + 1, i => by
    simp only [dirIn]
    split
    · exact Or.inl rfl
    · split
      · exact Or.inl rfl
      · split
        · exact Or.inr rfl
        · split
          · exact dirIn_01 f _
          · exact dirIn_01 f _
theorem DI_n {fst mt : Nat → Int32} {en b : Nat} : DI fst mt en b = nI (DI fst mt en b).toNatClampNeg ∧ (DI fst mt en b).toNatClampNeg ≤ 1 := by
  rcases dirIn_01 (fst := fst) (mt := mt) (en := en) (en - b) b with h | h
  · unfold DI; rw [h]; exact ⟨rfl, by decide⟩
  · unfold DI; rw [h]; exact ⟨rfl, by decide⟩
theorem bsN_le {fst mt : Nat → Int32} {told b en : Nat} (h : told ≤ 2) : bsN fst mt told b en ≤ 1 := by
  unfold bsN
  split
  · exact DI_n.2
  · omega
def pM (fst : Nat → Int32) (b en : Nat) (M0 : Nat → Int32) : Nat → Int32 := mmat fst b M0 (en - b)
def pB (fst : Nat → Int32) (told b en : Nat) (M0 : Nat → Int32) : Nat := bsN fst (pM fst b en M0) told b en
noncomputable def pX (fst : Nat → Int32) (told b en : Nat) (M0 L0 : Nat → Int32) : Nat → Int32 := xlv fst (pM fst b en M0) b en (pB fst told b en M0) L0 (en - b)
noncomputable def pD (fst : Nat → Int32) (told b en : Nat) (M0 K0 : Nat → Int32) : Nat → Int32 := xkd fst (pM fst b en M0) b en (pB fst told b en M0) K0 (en - b)
noncomputable def pW (fst : Nat → Int32) (told b en : Nat) (M0 L0 : Nat → Int32) : List (List Nat) := rv (pX fst told b en M0 L0) b (en - b)
noncomputable def pL (fst : Nat → Int32) (told b en : Nat) (M0 L0 : Nat → Int32) (q : Nat) : Nat := (pX fst told b en M0 L0 q).toNatClampNeg
noncomputable def pK (fst ch : Nat → Int32) (oth : Int32 → Int32) (told b en : Nat) (M0 L0 K0 : Nat → Int32) : Nat → Int32 := rsK (pW fst told b en M0 L0) fst (pM fst b en M0) (pL fst told b en M0 L0) (pB fst told b en M0) ch oth (pD fst told b en M0 K0) (pW fst told b en M0 L0).length
noncomputable def pY (fst ch : Nat → Int32) (oth : Int32 → Int32) (told b en : Nat) (M0 L0 K0 : Nat → Int32) : Nat → Int32 := pre en (raF b (pX fst told b en M0 L0) (pK fst ch oth told b en M0 L0 K0) (pL fst told b en M0 L0)) (pX fst told b en M0 L0)
noncomputable def pN (fst : Nat → Int32) (told b en : Nat) (M0 L0 : Nat → Int32) : Nat := rsN (pW fst told b en M0 L0) fst (pM fst b en M0) (pW fst told b en M0 L0).length
abbrev PS : Type := (Nat → Int32) × (Nat → Int32) × (Nat → Int32)
def pgAt : List (Nat × Nat) → Nat → Nat × Nat
  | [], _ => (0, 0)
  | x :: r, k => if k = r.length then x else pgAt r k
noncomputable def rsT (fst ch : Nat → Int32) (oth : Int32 → Int32) (told : Nat) (G : List (Nat × Nat)) (S0 : PS) : Nat → PS
  | 0 => S0
  | k + 1 => (pM fst (pgAt G k).1 (pgAt G k).2 (rsT fst ch oth told G S0 k).1, pY fst ch oth told (pgAt G k).1 (pgAt G k).2 (rsT fst ch oth told G S0 k).1 (rsT fst ch oth told G S0 k).2.1 (rsT fst ch oth told G S0 k).2.2, pK fst ch oth told (pgAt G k).1 (pgAt G k).2 (rsT fst ch oth told G S0 k).1 (rsT fst ch oth told G S0 k).2.1 (rsT fst ch oth told G S0 k).2.2)
theorem prel_at {a b : Nat → Int32} : ∀ {G : List (Nat × Nat)}, prel a b G → ∀ k, k < G.length → a k = nI (pgAt G k).1 ∧ b k = nI (pgAt G k).2
  | [], _, k, h => absurd h (Nat.not_lt_zero k)
  | x :: r, h, k, hk => by
    simp only [List.length_cons] at hk
    by_cases q : k = r.length
    · rw [show pgAt (x :: r) k = x from if_pos q, q]; exact ⟨h.1, h.2.1⟩
    · rw [show pgAt (x :: r) k = pgAt r k from if_neg q]; exact prel_at h.2.2 k (by omega)
theorem pgAt_ok {fst : Nat → Int32} {cn : Nat} : ∀ d k, k < (pgL fst cn d).1.length → (pgAt (pgL fst cn d).1 k).1 ≤ (pgAt (pgL fst cn d).1 k).2 ∧ (pgAt (pgL fst cn d).1 k).2 ≤ d
  | 0, k, h => absurd h (Nat.not_lt_zero k)
  | d + 1, k, h => by
    have hl := pgL_len fst cn d
    by_cases z : fst d = 10 ∨ d + 1 = cn
    · have e : pgL fst cn (d + 1) = (((pgL fst cn d).2, d + 1) :: (pgL fst cn d).1, d + 1) := if_pos z
      rw [e] at h ⊢
      simp only [List.length_cons] at h
      by_cases q : k = (pgL fst cn d).1.length
      · rw [show pgAt (((pgL fst cn d).2, d + 1) :: (pgL fst cn d).1) k = ((pgL fst cn d).2, d + 1) from if_pos q]; exact ⟨by simp only; omega, Nat.le_refl _⟩
      · rw [show pgAt (((pgL fst cn d).2, d + 1) :: (pgL fst cn d).1) k = pgAt (pgL fst cn d).1 k from if_neg q]
        have := pgAt_ok (fst := fst) (cn := cn) d k (by omega)
        exact ⟨this.1, by omega⟩
    · have e : pgL fst cn (d + 1) = pgL fst cn d := if_neg z
      rw [e] at h ⊢
      have := pgAt_ok (fst := fst) (cn := cn) d k h
      exact ⟨this.1, by omega⟩
theorem par_lv {fst M0 L0 : Nat → Int32} {told b en : Nat} (ht : told ≤ 2) (j : Nat) (h1 : b ≤ j) (h2 : j < en) (h3 : ¬ pX fst told b en M0 L0 j = -1) : pX fst told b en M0 L0 j = nI (pL fst told b en M0 L0 j) ∧ pL fst told b en M0 L0 j ≤ 125 := by
  have hx : pX fst told b en M0 L0 j = xlev (fst j) (pB fst told b en M0) (xrun fst (pM fst b en M0) b en (pB fst told b en M0) (j - b)) := xlv_in (en - b) j h1 (by omega)
  rcases xlev_ok (k := fst j) (bsN_le (fst := fst) (mt := pM fst b en M0) (b := b) (en := en) ht) (xok_run (fst := fst) (mt := pM fst b en M0) (b := b) (pe := en) (bsN_le (fst := fst) (mt := pM fst b en M0) (b := b) (en := en) ht) (j - b)) with q | ⟨v, hv, q⟩
  · exact absurd (hx.trans q) h3
  · have e := hx.trans q
    unfold pL
    rw [e, nI_clamp (by omega)]
    exact ⟨rfl, hv⟩
theorem par_inc {fst M0 L0 : Nat → Int32} {told b en : Nat} (ht : told ≤ 2) (hbe : b ≤ en) (he : en ≤ 2000) : incR (pW fst told b en M0 L0) fst (pM fst b en M0) ∧ ∀ r, r < (pW fst told b en M0 L0).length → goes (pW fst told b en M0 L0) fst (pM fst b en M0) r → (pM fst b en M0 (lastP (pW fst told b en M0 L0) r)).toNatClampNeg ∈ flat (pW fst told b en M0 L0) := by
  refine incR_of ?_
  intro q hq hi hm
  obtain ⟨h1, h2, h3⟩ := (flat_mem (en - b) q).mp hq
  rcases mmat_iso (fst := fst) (f0 := M0) (en - b) q h1 h2 hi with z | ⟨k, z1, z2, z3, z4⟩
  · exact absurd z hm
  · have e : pM fst b en M0 q = nI k := z1
    rw [e, nI_clamp (by omega)]
    refine ⟨(flat_mem (en - b) k).mpr ⟨by omega, z3, ?_⟩, z2⟩
    have hx : pX fst told b en M0 L0 k = xlev (fst k) (pB fst told b en M0) (xrun fst (pM fst b en M0) b en (pB fst told b en M0) (k - b)) := xlv_in (en - b) k (by omega) z3
    rw [hx, z4]
    exact xlev_22 (xok_run (bsN_le (fst := fst) (mt := pM fst b en M0) (b := b) (en := en) ht) (k - b))
abbrev rm_RS_resolveText : Room := { frames := 5, cells := 0, slots := 0, locals := 136 }
set_option maxHeartbeats 4000000 in
set_option maxRecDepth 100000 in
theorem c_RS_resolveText (l : Launch) (g : Geo) (ad : Nat → Nat) (ar : Nat → Nat → Int32) (fl : Nat → Int32) (told : Nat) (cn bn : Nat) (htl : told ≤ 2) (hcn : fl 2 = nI cn) (hcN : cn ≤ 2000) (hmt0 : okM (ar 16)) (hbn : fl 4 = nI bn) (hbN : bn ≤ 40) (hbd : dst bn (ar 20)) : cMv l y_RS_resolveText (.code y_RS_resolveText b_RS_resolveText 5 none :: gw) rm_RS_resolveText g [.ref (ad 4), .int (nI told)] (cw g ad ar fl) (fun (u : (Nat → Int32) × (Nat → Int32) × (Nat → Int32) × (Nat → Int32) × (Nat → Int32) × (Nat → Int32) × (Nat → Int32) × (Nat → Int32) × (Nat → Int32) × (Nat → Int32) × (Nat → Int32) × (Nat → Int32) × (Nat → Int32) × (Nat → Int32) × (Nat → Int32) × (Nat → Int32) × (Nat → Int32) × Int32 × Int32 × Int32 × Int32 × Int32 × Int32 × Int32 × Int32 × Int32 × Int32 × Int32) => prel u.1 u.2.1 (pgL (ar 13) cn cn).1 ∧ okM (rsT (ar 13) (ar 12) (fun x => lk (ar 20) (ar 21) x bn) told (pgL (ar 13) cn cn).1 (ar 16, ar 15, ar 14) (pgL (ar 13) cn cn).1.length).1 ∧ ∀ j, j < (pgL (ar 13) cn cn).1.length → u.2.2.1 j = nI (pB (ar 13) told (pgAt (pgL (ar 13) cn cn).1 j).1 (pgAt (pgL (ar 13) cn cn).1 j).2 (rsT (ar 13) (ar 12) (fun x => lk (ar 20) (ar 21) x bn) told (pgL (ar 13) cn cn).1 (ar 16, ar 15, ar 14) j).1) ∧ u.2.2.2.1 j = nI (pN (ar 13) told (pgAt (pgL (ar 13) cn cn).1 j).1 (pgAt (pgL (ar 13) cn cn).1 j).2 (rsT (ar 13) (ar 12) (fun x => lk (ar 20) (ar 21) x bn) told (pgL (ar 13) cn cn).1 (ar 16, ar 15, ar 14) j).1 (rsT (ar 13) (ar 12) (fun x => lk (ar 20) (ar 21) x bn) told (pgL (ar 13) cn cn).1 (ar 16, ar 15, ar 14) j).2.1)) (fun (u : (Nat → Int32) × (Nat → Int32) × (Nat → Int32) × (Nat → Int32) × (Nat → Int32) × (Nat → Int32) × (Nat → Int32) × (Nat → Int32) × (Nat → Int32) × (Nat → Int32) × (Nat → Int32) × (Nat → Int32) × (Nat → Int32) × (Nat → Int32) × (Nat → Int32) × (Nat → Int32) × (Nat → Int32) × Int32 × Int32 × Int32 × Int32 × Int32 × Int32 × Int32 × Int32 × Int32 × Int32 × Int32) => cw g ad (AR32 (ar 12) (ar 13) ((rsT (ar 13) (ar 12) (fun x => lk (ar 20) (ar 21) x bn) told (pgL (ar 13) cn cn).1 (ar 16, ar 15, ar 14) (pgL (ar 13) cn cn).1.length).2.2) ((rsT (ar 13) (ar 12) (fun x => lk (ar 20) (ar 21) x bn) told (pgL (ar 13) cn cn).1 (ar 16, ar 15, ar 14) (pgL (ar 13) cn cn).1.length).2.1) ((rsT (ar 13) (ar 12) (fun x => lk (ar 20) (ar 21) x bn) told (pgL (ar 13) cn cn).1 (ar 16, ar 15, ar 14) (pgL (ar 13) cn cn).1.length).1) (ar 17) (ar 18) (ar 19) (ar 20) (ar 21) (ar 22) (ar 23) u.1 u.2.1 u.2.2.1 u.2.2.2.1 u.2.2.2.2.1 u.2.2.2.2.2.1 u.2.2.2.2.2.2.1 u.2.2.2.2.2.2.2.1 u.2.2.2.2.2.2.2.2.1 u.2.2.2.2.2.2.2.2.2.1 u.2.2.2.2.2.2.2.2.2.2.1 u.2.2.2.2.2.2.2.2.2.2.2.1 u.2.2.2.2.2.2.2.2.2.2.2.2.1 u.2.2.2.2.2.2.2.2.2.2.2.2.2.1 u.2.2.2.2.2.2.2.2.2.2.2.2.2.2.1 u.2.2.2.2.2.2.2.2.2.2.2.2.2.2.2.1 u.2.2.2.2.2.2.2.2.2.2.2.2.2.2.2.2.1 (ar 41) (ar 42) (ar 43)) (FL19 (fl 0) (fl 1) (fl 2) (fl 3) (fl 4) (fl 5) (nI (pgL (ar 13) cn cn).1.length) u.2.2.2.2.2.2.2.2.2.2.2.2.2.2.2.2.2.1 u.2.2.2.2.2.2.2.2.2.2.2.2.2.2.2.2.2.2.1 u.2.2.2.2.2.2.2.2.2.2.2.2.2.2.2.2.2.2.2.1 u.2.2.2.2.2.2.2.2.2.2.2.2.2.2.2.2.2.2.2.2.1 u.2.2.2.2.2.2.2.2.2.2.2.2.2.2.2.2.2.2.2.2.2.1 u.2.2.2.2.2.2.2.2.2.2.2.2.2.2.2.2.2.2.2.2.2.2.1 u.2.2.2.2.2.2.2.2.2.2.2.2.2.2.2.2.2.2.2.2.2.2.2.1 u.2.2.2.2.2.2.2.2.2.2.2.2.2.2.2.2.2.2.2.2.2.2.2.2.1 u.2.2.2.2.2.2.2.2.2.2.2.2.2.2.2.2.2.2.2.2.2.2.2.2.2.1 u.2.2.2.2.2.2.2.2.2.2.2.2.2.2.2.2.2.2.2.2.2.2.2.2.2.2.1 u.2.2.2.2.2.2.2.2.2.2.2.2.2.2.2.2.2.2.2.2.2.2.2.2.2.2.2 (fl 18))) 0 0 := by
  refine cMv_of (by decide) (Nat.le_of_ble_eq_true rfl) ?_
  intro p e s m below meth c A Q ls M hnm hret hl hI
  have M : MC p s m ([.ref (ad 4), .int (nI told)] : List Value).toArray meth c R_RS b_RS_resolveText 5 := M
  have hl : lv_has ls 5 [(0, .ref (ad 4)), (1, .int (nI told))] := hl
  generalize ([.ref (ad 4), .int (nI told)] : List Value).toArray = args at M hret ⊢
  have hx := M.1
  have hb := M.2.1
  have hgl := pgL_len (ar 13) cn cn
  have hI := CI.to (w2 := cw g ad (AR32 (ar 12) (ar 13) (ar 14) (ar 15) (ar 16) (ar 17) (ar 18) (ar 19) (ar 20) (ar 21) (ar 22) (ar 23) (ar 24) (ar 25) (ar 26) (ar 27) (ar 28) (ar 29) (ar 30) (ar 31) (ar 32) (ar 33) (ar 34) (ar 35) (ar 36) (ar 37) (ar 38) (ar 39) (ar 40) (ar 41) (ar 42) (ar 43)) (FL19 (fl 0) (fl 1) (fl 2) (fl 3) (fl 4) (fl 5) (fl 6) (fl 7) (fl 8) (fl 9) (fl 10) (fl 11) (fl 12) (fl 13) (fl 14) (fl 15) (fl 16) (fl 17) (fl 18))) hI rfl
  refine lv_aload_n hx hb d_RS_resolveText_0 rfl (lv_at hl 0 rfl) ?_
  refine q_callvV [] M hI (c_RS_findParagraphs l g ad (AR32 (ar 12) (ar 13) (ar 14) (ar 15) (ar 16) (ar 17) (ar 18) (ar 19) (ar 20) (ar 21) (ar 22) (ar 23) (ar 24) (ar 25) (ar 26) (ar 27) (ar 28) (ar 29) (ar 30) (ar 31) (ar 32) (ar 33) (ar 34) (ar 35) (ar 36) (ar 37) (ar 38) (ar 39) (ar 40) (ar 41) (ar 42) (ar 43)) (FL19 (fl 0) (fl 1) (fl 2) (fl 3) (fl 4) (fl 5) (fl 6) (fl 7) (fl 8) (fl 9) (fl 10) (fl 11) (fl 12) (fl 13) (fl 14) (fl 15) (fl 16) (fl 17) (fl 18)) cn (by first | exact hcn | assumption | omega | rfl) (by first | exact hcN | assumption | omega | rfl)) ok_RS_findParagraphs m3_60 m3_62 ms_4 4 rfl rfl rfl rfl hl.1 ⟨rfl, rfl⟩ ⟨Nat.le_of_ble_eq_true rfl, Nat.le_of_ble_eq_true rfl⟩ (Nat.le_of_ble_eq_true rfl) ⟨Nat.le_of_ble_eq_true rfl, Nat.le_of_ble_eq_true rfl⟩ d_RS_resolveText_1 (fun u1 H locs hp1 hI => ?_)
  obtain ⟨y1_1, y2_1⟩ := u1
  have hI : CI g A s (cw g ad (AR32 (ar 12) (ar 13) (ar 14) (ar 15) (ar 16) (ar 17) (ar 18) (ar 19) (ar 20) (ar 21) (ar 22) (ar 23) y1_1 y2_1 (ar 26) (ar 27) (ar 28) (ar 29) (ar 30) (ar 31) (ar 32) (ar 33) (ar 34) (ar 35) (ar 36) (ar 37) (ar 38) (ar 39) (ar 40) (ar 41) (ar 42) (ar 43)) (FL19 (fl 0) (fl 1) (fl 2) (fl 3) (fl 4) (fl 5) (nI (pgL (ar 13) cn cn).1.length) (fl 7) (fl 8) (fl 9) (fl 10) (fl 11) (fl 12) (fl 13) (fl 14) (fl 15) (fl 16) (fl 17) (fl 18))) H locs := hI
  refine lv_iconst (v := 0) hx hb d_RS_resolveText_4 (by decide) ?_
  refine lv_istore_n (lv' := [(2, .int 0), (0, .ref (ad 4)), (1, .int (nI told))]) hx hb d_RS_resolveText_5 rfl hl (by decide) rfl (fun ls hl => ?_)
  have L6 : ∀ (fu : Nat) (k : Nat) (y1 : Nat → Int32) (y2 : Nat → Int32) (yb : Nat → Int32) (ys : Nat → Int32) (w28 : Nat → Int32) (z29 : Nat → Int32) (z30 : Nat → Int32) (z31 : Nat → Int32) (z32 : Nat → Int32) (z33 : Nat → Int32) (z34 : Nat → Int32) (z35 : Nat → Int32) (z36 : Nat → Int32) (z37 : Nat → Int32) (z38 : Nat → Int32) (z39 : Nat → Int32) (z40 : Nat → Int32) (g7 : Int32) (g8 : Int32) (g9 : Int32) (g10 : Int32) (g11 : Int32) (g12 : Int32) (g13 : Int32) (g14 : Int32) (g15 : Int32) (g16 : Int32) (g17 : Int32), ((pgL (ar 13) cn cn).1.length - k) < fu → (k ≤ (pgL (ar 13) cn cn).1.length) → (prel y1 y2 (pgL (ar 13) cn cn).1) → (okM (rsT (ar 13) (ar 12) (fun x => lk (ar 20) (ar 21) x bn) told (pgL (ar 13) cn cn).1 (ar 16, ar 15, ar 14) k).1) → (∀ j, j < k → yb j = nI (pB (ar 13) told (pgAt (pgL (ar 13) cn cn).1 j).1 (pgAt (pgL (ar 13) cn cn).1 j).2 (rsT (ar 13) (ar 12) (fun x => lk (ar 20) (ar 21) x bn) told (pgL (ar 13) cn cn).1 (ar 16, ar 15, ar 14) j).1) ∧ ys j = nI (pN (ar 13) told (pgAt (pgL (ar 13) cn cn).1 j).1 (pgAt (pgL (ar 13) cn cn).1 j).2 (rsT (ar 13) (ar 12) (fun x => lk (ar 20) (ar 21) x bn) told (pgL (ar 13) cn cn).1 (ar 16, ar 15, ar 14) j).1 (rsT (ar 13) (ar 12) (fun x => lk (ar 20) (ar 21) x bn) told (pgL (ar 13) cn cn).1 (ar 16, ar 15, ar 14) j).2.1)) → ∀ (H : Heap) (locs : List Loc) (ls : Array Slot), CI g A s (cw g ad (AR32 (ar 12) (ar 13) ((rsT (ar 13) (ar 12) (fun x => lk (ar 20) (ar 21) x bn) told (pgL (ar 13) cn cn).1 (ar 16, ar 15, ar 14) k).2.2) ((rsT (ar 13) (ar 12) (fun x => lk (ar 20) (ar 21) x bn) told (pgL (ar 13) cn cn).1 (ar 16, ar 15, ar 14) k).2.1) ((rsT (ar 13) (ar 12) (fun x => lk (ar 20) (ar 21) x bn) told (pgL (ar 13) cn cn).1 (ar 16, ar 15, ar 14) k).1) (ar 17) (ar 18) (ar 19) (ar 20) (ar 21) (ar 22) (ar 23) y1 y2 yb ys w28 z29 z30 z31 z32 z33 z34 z35 z36 z37 z38 z39 z40 (ar 41) (ar 42) (ar 43)) (FL19 (fl 0) (fl 1) (fl 2) (fl 3) (fl 4) (fl 5) (nI ((pgL (ar 13) cn cn).1.length)) g7 g8 g9 g10 g11 g12 g13 g14 g15 g16 g17 (fl 18))) H locs → lv_has ls 5 [(0, .ref (ad 4)), (1, .int (nI told)), (2, .int (nI k))] → W p l e rm_RS_resolveText s m args below meth c H locs 0 0 Q (F0 m 6 ls []) := by
    intro fu
    induction fu with
    | zero => intro k y1 y2 yb ys w28 z29 z30 z31 z32 z33 z34 z35 z36 z37 z38 z39 z40 g7 g8 g9 g10 g11 g12 g13 g14 g15 g16 g17 hm; exact absurd hm (Nat.not_lt_zero _)
    | succ fu ih6 =>
      intro k y1 y2 yb ys w28 z29 z30 z31 z32 z33 z34 z35 z36 z37 z38 z39 z40 g7 g8 g9 g10 g11 g12 g13 g14 g15 g16 g17 hm hk hpr hmt hbq H locs ls hI hl
      refine lv_iload_n hx hb d_RS_resolveText_6 rfl (lv_at hl 2 rfl) ?_
      refine lv_aload_n hx hb d_RS_resolveText_7 rfl (lv_at hl 0 rfl) ?_
      refine g_RS_24 M hI d_RS_resolveText_8 ?_
      refine q_as (y := nI ((pgL (ar 13) cn cn).1.length)) rfl ?_
      refine lv_icmp_ge (tgt := 119) hx hb d_RS_resolveText_11 (by decide) (fun c11 => ?_) (fun c11 => ?_)
      · have c11 : (pgL (ar 13) cn cn).1.length ≤ k := (nI_leI (a := (pgL (ar 13) cn cn).1.length) (b := k) (by omega) (by omega)).mp c11
        have hI := CI.to (w2 := cw g ad (AR32 (ar 12) (ar 13) ((rsT (ar 13) (ar 12) (fun x => lk (ar 20) (ar 21) x bn) told (pgL (ar 13) cn cn).1 (ar 16, ar 15, ar 14) (pgL (ar 13) cn cn).1.length).2.2) ((rsT (ar 13) (ar 12) (fun x => lk (ar 20) (ar 21) x bn) told (pgL (ar 13) cn cn).1 (ar 16, ar 15, ar 14) (pgL (ar 13) cn cn).1.length).2.1) ((rsT (ar 13) (ar 12) (fun x => lk (ar 20) (ar 21) x bn) told (pgL (ar 13) cn cn).1 (ar 16, ar 15, ar 14) (pgL (ar 13) cn cn).1.length).1) (ar 17) (ar 18) (ar 19) (ar 20) (ar 21) (ar 22) (ar 23) y1 y2 yb ys w28 z29 z30 z31 z32 z33 z34 z35 z36 z37 z38 z39 z40 (ar 41) (ar 42) (ar 43)) (FL19 (fl 0) (fl 1) (fl 2) (fl 3) (fl 4) (fl 5) (nI (pgL (ar 13) cn cn).1.length) g7 g8 g9 g10 g11 g12 g13 g14 g15 g16 g17 (fl 18))) hI (by rw [show (pgL (ar 13) cn cn).1.length = k by omega] <;> rfl)
        exact hret (y1, y2, yb, ys, w28, z29, z30, z31, z32, z33, z34, z35, z36, z37, z38, z39, z40, g7, g8, g9, g10, g11, g12, g13, g14, g15, g16, g17) _ _ _ _ _ _ d_RS_resolveText_119 hI (by rw [show (pgL (ar 13) cn cn).1.length = k by omega]; exact ⟨hpr, hmt, hbq⟩) (Nat.le_refl 0) (Nat.le_refl 0)
      · have c11 : ¬ (pgL (ar 13) cn cn).1.length ≤ k := fun h => c11 ((nI_leI (a := (pgL (ar 13) cn cn).1.length) (b := k) (by omega) (by omega)).mpr h)
        have hpa := prel_at hpr k (by omega)
        have hpo := pgAt_ok (fst := ar 13) (cn := cn) cn k (by omega)
        obtain ⟨b, eb⟩ : ∃ z, z = (pgAt (pgL (ar 13) cn cn).1 k).1 := ⟨_, rfl⟩
        obtain ⟨en, een⟩ : ∃ z, z = (pgAt (pgL (ar 13) cn cn).1 k).2 := ⟨_, rfl⟩
        obtain ⟨M0, eM⟩ : ∃ z, z = (rsT (ar 13) (ar 12) (fun x => lk (ar 20) (ar 21) x bn) told (pgL (ar 13) cn cn).1 (ar 16, ar 15, ar 14) k).1 := ⟨_, rfl⟩
        obtain ⟨L0, eL⟩ : ∃ z, z = (rsT (ar 13) (ar 12) (fun x => lk (ar 20) (ar 21) x bn) told (pgL (ar 13) cn cn).1 (ar 16, ar 15, ar 14) k).2.1 := ⟨_, rfl⟩
        obtain ⟨K0, eK⟩ : ∃ z, z = (rsT (ar 13) (ar 12) (fun x => lk (ar 20) (ar 21) x bn) told (pgL (ar 13) cn cn).1 (ar 16, ar 15, ar 14) k).2.2 := ⟨_, rfl⟩
        rw [← eb, ← een] at hpo hpa
        rw [← eM] at hmt
        have hmt1 : okM (pM (ar 13) b en M0) := mmat_okM hmt (en - b) (by omega)
        have hbs := bsN_le (fst := ar 13) (mt := pM (ar 13) b en M0) (b := b) (en := en) htl
        have hinc := par_inc (fst := ar 13) (M0 := M0) (L0 := L0) (told := told) (b := b) (en := en) htl (by omega) (by omega)
        have hvl := vlt_rv (lv := pX (ar 13) told b en M0 L0) (b := b) (en - b)
        have hI := CI.to (w2 := cw g ad (AR32 (ar 12) (ar 13) K0 L0 M0 (ar 17) (ar 18) (ar 19) (ar 20) (ar 21) (ar 22) (ar 23) y1 y2 yb ys w28 z29 z30 z31 z32 z33 z34 z35 z36 z37 z38 z39 z40 (ar 41) (ar 42) (ar 43)) (FL19 (fl 0) (fl 1) (fl 2) (fl 3) (fl 4) (fl 5) (nI ((pgL (ar 13) cn cn).1.length)) g7 g8 g9 g10 g11 g12 g13 g14 g15 g16 g17 (fl 18))) hI (by rw [eM, eL, eK] <;> rfl)
        refine lv_aload_n hx hb d_RS_resolveText_14 rfl (lv_at hl 0 rfl) ?_
        refine g_RS_9 M hI d_RS_resolveText_15 ?_
        refine lv_iload_n hx hb d_RS_resolveText_18 rfl (lv_at hl 2 rfl) ?_
        refine al_24 M hI k rfl (by omega) d_RS_resolveText_19 ?_
        refine q_as (y := nI b) (hpa.1) ?_
        refine lv_istore_n (lv' := [(3, .int (nI b)), (0, .ref (ad 4)), (1, .int (nI told)), (2, .int (nI k))]) hx hb d_RS_resolveText_20 rfl hl (by decide) rfl (fun ls hl => ?_)
        refine lv_aload_n hx hb d_RS_resolveText_21 rfl (lv_at hl 1 rfl) ?_
        refine g_RS_15 M hI d_RS_resolveText_22 ?_
        refine lv_iload_n hx hb d_RS_resolveText_25 rfl (lv_at hl 3 rfl) ?_
        refine al_25 M hI k rfl (by omega) d_RS_resolveText_26 ?_
        refine q_as (y := nI en) (hpa.2) ?_
        refine lv_istore (lv' := [(4, .int (nI en)), (3, .int (nI b)), (0, .ref (ad 4)), (1, .int (nI told)), (2, .int (nI k))]) hx hb d_RS_resolveText_27 hl (by decide) rfl (fun ls hl => ?_)
        refine lv_aload_n hx hb d_RS_resolveText_29 rfl (lv_at hl 2 rfl) ?_
        refine g_RS_37 M hI d_RS_resolveText_30 ?_
        refine lv_iload_n hx hb d_RS_resolveText_33 rfl (lv_at hl 1 rfl) ?_
        refine lv_iload hx hb d_RS_resolveText_34 (lv_at hl 0 rfl) ?_
        refine q_callvV [.int (nI b), .int (nI en)] M hI (c_IS_findMatches l g ad (AR32 (ar 12) (ar 13) K0 L0 M0 (ar 17) (ar 18) (ar 19) (ar 20) (ar 21) (ar 22) (ar 23) y1 y2 yb ys w28 z29 z30 z31 z32 z33 z34 z35 z36 z37 z38 z39 z40 (ar 41) (ar 42) (ar 43)) (FL19 (fl 0) (fl 1) (fl 2) (fl 3) (fl 4) (fl 5) (nI ((pgL (ar 13) cn cn).1.length)) g7 g8 g9 g10 g11 g12 g13 g14 g15 g16 g17 (fl 18)) b en (by omega) (by omega)) ok_IS_findMatches m3_64 m3_65 m3_66 5 rfl rfl rfl rfl hl.1 ⟨rfl, rfl⟩ ⟨Nat.le_of_ble_eq_true rfl, Nat.le_of_ble_eq_true rfl⟩ (Nat.le_of_ble_eq_true rfl) ⟨Nat.le_of_ble_eq_true rfl, Nat.le_of_ble_eq_true rfl⟩ d_RS_resolveText_36 (fun u36 H locs hp36 hI => ?_)
        obtain ⟨wt_36, rfl⟩ : ∃ z, z = u36 := ⟨_, rfl⟩
        have hI : CI g A s (cw g ad (AR32 (ar 12) (ar 13) K0 L0 (mmat (ar 13) b M0 (en - b)) (ar 17) (ar 18) (ar 19) (ar 20) (ar 21) (ar 22) (ar 23) y1 y2 yb ys wt_36 z29 z30 z31 z32 z33 z34 z35 z36 z37 z38 z39 z40 (ar 41) (ar 42) (ar 43)) (FL19 (fl 0) (fl 1) (fl 2) (fl 3) (fl 4) (fl 5) (nI ((pgL (ar 13) cn cn).1.length)) g7 g8 g9 g10 g11 g12 g13 g14 g15 g16 g17 (fl 18))) H locs := hI
        have hI := CI.to (w2 := cw g ad (AR32 (ar 12) (ar 13) K0 L0 (pM (ar 13) b en M0) (ar 17) (ar 18) (ar 19) (ar 20) (ar 21) (ar 22) (ar 23) y1 y2 yb ys wt_36 z29 z30 z31 z32 z33 z34 z35 z36 z37 z38 z39 z40 (ar 41) (ar 42) (ar 43)) (FL19 (fl 0) (fl 1) (fl 2) (fl 3) (fl 4) (fl 5) (nI ((pgL (ar 13) cn cn).1.length)) g7 g8 g9 g10 g11 g12 g13 g14 g15 g16 g17 (fl 18))) hI (by rfl)
        refine lv_aload_n hx hb d_RS_resolveText_39 rfl (lv_at hl 2 rfl) ?_
        refine g_RS_18 M hI d_RS_resolveText_40 ?_
        refine lv_iload_n hx hb d_RS_resolveText_43 rfl (lv_at hl 4 rfl) ?_
        refine lv_iload_n hx hb d_RS_resolveText_44 rfl (lv_at hl 3 rfl) ?_
        refine lv_iconst (v := 2) hx hb d_RS_resolveText_45 (by decide) ?_
        refine lv_icmp_ne (tgt := 62) hx hb d_RS_resolveText_46 (by decide) (fun c46 => ?_) (fun c46 => ?_)
        · have c46 : ¬ told = 2 := fun h => c46 ((nI_eq (a := told) (b := 2) (by omega) (by omega)).mpr h)
          refine lv_iload_n hx hb d_RS_resolveText_62 rfl (lv_at hl 3 rfl) ?_
          refine q_as (y := nI (pB (ar 13) told b en M0)) (by unfold pB bsN; rw [if_neg c46]) ?_
          refine as_26 M hI k rfl (by omega) d_RS_resolveText_63 (fun H locs hI => ?_)
          have hI : CI g A s (cw g ad (AR32 (ar 12) (ar 13) K0 L0 (pM (ar 13) b en M0) (ar 17) (ar 18) (ar 19) (ar 20) (ar 21) (ar 22) (ar 23) y1 y2 (upd yb k (nI (pB (ar 13) told b en M0))) ys wt_36 z29 z30 z31 z32 z33 z34 z35 z36 z37 z38 z39 z40 (ar 41) (ar 42) (ar 43)) (FL19 (fl 0) (fl 1) (fl 2) (fl 3) (fl 4) (fl 5) (nI ((pgL (ar 13) cn cn).1.length)) g7 g8 g9 g10 g11 g12 g13 g14 g15 g16 g17 (fl 18))) H locs := hI
          refine lv_aload_n hx hb d_RS_resolveText_64 rfl (lv_at hl 2 rfl) ?_
          refine g_RS_46 M hI d_RS_resolveText_65 ?_
          refine lv_iload_n hx hb d_RS_resolveText_68 rfl (lv_at hl 1 rfl) ?_
          refine lv_iload hx hb d_RS_resolveText_69 (lv_at hl 0 rfl) ?_
          refine lv_aload_n hx hb d_RS_resolveText_71 rfl (lv_at hl 2 rfl) ?_
          refine g_RS_18 M hI d_RS_resolveText_72 ?_
          refine lv_iload_n hx hb d_RS_resolveText_75 rfl (lv_at hl 4 rfl) ?_
          refine al_26 M hI k rfl (by omega) d_RS_resolveText_76 ?_
          refine q_as (y := nI (pB (ar 13) told b en M0)) (pk_us) ?_
          refine q_callvV [.int (nI b), .int (nI en), .int (nI (pB (ar 13) told b en M0))] M hI (c_EX_giveLevels l g ad (AR32 (ar 12) (ar 13) K0 L0 (pM (ar 13) b en M0) (ar 17) (ar 18) (ar 19) (ar 20) (ar 21) (ar 22) (ar 23) y1 y2 (upd yb k (nI (pB (ar 13) told b en M0))) ys wt_36 z29 z30 z31 z32 z33 z34 z35 z36 z37 z38 z39 z40 (ar 41) (ar 42) (ar 43)) (FL19 (fl 0) (fl 1) (fl 2) (fl 3) (fl 4) (fl 5) (nI ((pgL (ar 13) cn cn).1.length)) g7 g8 g9 g10 g11 g12 g13 g14 g15 g16 g17 (fl 18)) b en (pB (ar 13) told b en M0) (by omega) (by omega) (hbs) (hmt1)) ok_EX_giveLevels m3_78 m3_79 m3_80 6 rfl rfl rfl rfl hl.1 ⟨rfl, rfl⟩ ⟨Nat.le_of_ble_eq_true rfl, Nat.le_of_ble_eq_true rfl⟩ (Nat.le_of_ble_eq_true rfl) ⟨Nat.le_of_ble_eq_true rfl, Nat.le_of_ble_eq_true rfl⟩ d_RS_resolveText_77 (fun u77 H locs hp77 hI => ?_)
          obtain ⟨za_77, zb_77, zz_77⟩ := u77
          have hI : CI g A s (cw g ad (AR32 (ar 12) (ar 13) (xkd (ar 13) (pM (ar 13) b en M0) b en (pB (ar 13) told b en M0) K0 (en - b)) (xlv (ar 13) (pM (ar 13) b en M0) b en (pB (ar 13) told b en M0) L0 (en - b)) (pM (ar 13) b en M0) (ar 17) (ar 18) (ar 19) (ar 20) (ar 21) (ar 22) (ar 23) y1 y2 (upd yb k (nI (pB (ar 13) told b en M0))) ys wt_36 za_77 zb_77 zz_77 z32 z33 z34 z35 z36 z37 z38 z39 z40 (ar 41) (ar 42) (ar 43)) (FL19 (fl 0) (fl 1) (fl 2) (fl 3) (fl 4) (fl 5) (nI ((pgL (ar 13) cn cn).1.length)) (xt (xrun (ar 13) (pM (ar 13) b en M0) b en (pB (ar 13) told b en M0) (en - b))) (nI (xrun (ar 13) (pM (ar 13) b en M0) b en (pB (ar 13) told b en M0) (en - b)).2.1) (nI (xrun (ar 13) (pM (ar 13) b en M0) b en (pB (ar 13) told b en M0) (en - b)).2.2.1) (nI (xrun (ar 13) (pM (ar 13) b en M0) b en (pB (ar 13) told b en M0) (en - b)).2.2.2) g11 g12 g13 g14 g15 g16 g17 (fl 18))) H locs := hI
          have hI := CI.to (w2 := cw g ad (AR32 (ar 12) (ar 13) (pD (ar 13) told b en M0 K0) (pX (ar 13) told b en M0 L0) (pM (ar 13) b en M0) (ar 17) (ar 18) (ar 19) (ar 20) (ar 21) (ar 22) (ar 23) y1 y2 (upd yb k (nI (pB (ar 13) told b en M0))) ys wt_36 za_77 zb_77 zz_77 z32 z33 z34 z35 z36 z37 z38 z39 z40 (ar 41) (ar 42) (ar 43)) (FL19 (fl 0) (fl 1) (fl 2) (fl 3) (fl 4) (fl 5) (nI ((pgL (ar 13) cn cn).1.length)) (xt (xrun (ar 13) (pM (ar 13) b en M0) b en (pB (ar 13) told b en M0) (en - b))) (nI (xrun (ar 13) (pM (ar 13) b en M0) b en (pB (ar 13) told b en M0) (en - b)).2.1) (nI (xrun (ar 13) (pM (ar 13) b en M0) b en (pB (ar 13) told b en M0) (en - b)).2.2.1) (nI (xrun (ar 13) (pM (ar 13) b en M0) b en (pB (ar 13) told b en M0) (en - b)).2.2.2) g11 g12 g13 g14 g15 g16 g17 (fl 18))) hI (by rfl)
          refine lv_aload_n hx hb d_RS_resolveText_80 rfl (lv_at hl 2 rfl) ?_
          refine g_RS_53 M hI d_RS_resolveText_81 ?_
          refine lv_iload_n hx hb d_RS_resolveText_84 rfl (lv_at hl 1 rfl) ?_
          refine lv_iload hx hb d_RS_resolveText_85 (lv_at hl 0 rfl) ?_
          refine q_callvV [.int (nI b), .int (nI en)] M hI (c_RU_findRuns l g ad (AR32 (ar 12) (ar 13) (pD (ar 13) told b en M0 K0) (pX (ar 13) told b en M0 L0) (pM (ar 13) b en M0) (ar 17) (ar 18) (ar 19) (ar 20) (ar 21) (ar 22) (ar 23) y1 y2 (upd yb k (nI (pB (ar 13) told b en M0))) ys wt_36 za_77 zb_77 zz_77 z32 z33 z34 z35 z36 z37 z38 z39 z40 (ar 41) (ar 42) (ar 43)) (FL19 (fl 0) (fl 1) (fl 2) (fl 3) (fl 4) (fl 5) (nI ((pgL (ar 13) cn cn).1.length)) (xt (xrun (ar 13) (pM (ar 13) b en M0) b en (pB (ar 13) told b en M0) (en - b))) (nI (xrun (ar 13) (pM (ar 13) b en M0) b en (pB (ar 13) told b en M0) (en - b)).2.1) (nI (xrun (ar 13) (pM (ar 13) b en M0) b en (pB (ar 13) told b en M0) (en - b)).2.2.1) (nI (xrun (ar 13) (pM (ar 13) b en M0) b en (pB (ar 13) told b en M0) (en - b)).2.2.2) g11 g12 g13 g14 g15 g16 g17 (fl 18)) b en (by omega) (by omega)) ok_RU_findRuns m3_135 m3_136 m3_137 7 rfl rfl rfl rfl hl.1 ⟨rfl, rfl⟩ ⟨Nat.le_of_ble_eq_true rfl, Nat.le_of_ble_eq_true rfl⟩ (Nat.le_of_ble_eq_true rfl) ⟨Nat.le_of_ble_eq_true rfl, Nat.le_of_ble_eq_true rfl⟩ d_RS_resolveText_87 (fun u87 H locs hp87 hI => ?_)
          obtain ⟨y1_87, y2_87, y3_87, y4_87⟩ := u87
          have hI : CI g A s (cw g ad (AR32 (ar 12) (ar 13) (pD (ar 13) told b en M0 K0) (pX (ar 13) told b en M0 L0) (pM (ar 13) b en M0) (ar 17) (ar 18) (ar 19) (ar 20) (ar 21) (ar 22) (ar 23) y1 y2 (upd yb k (nI (pB (ar 13) told b en M0))) ys wt_36 za_77 zb_77 zz_77 y1_87 y2_87 y3_87 y4_87 z36 z37 z38 z39 z40 (ar 41) (ar 42) (ar 43)) (FL19 (fl 0) (fl 1) (fl 2) (fl 3) (fl 4) (fl 5) (nI ((pgL (ar 13) cn cn).1.length)) (xt (xrun (ar 13) (pM (ar 13) b en M0) b en (pB (ar 13) told b en M0) (en - b))) (nI (xrun (ar 13) (pM (ar 13) b en M0) b en (pB (ar 13) told b en M0) (en - b)).2.1) (nI (xrun (ar 13) (pM (ar 13) b en M0) b en (pB (ar 13) told b en M0) (en - b)).2.2.1) (nI (xrun (ar 13) (pM (ar 13) b en M0) b en (pB (ar 13) told b en M0) (en - b)).2.2.2) (nI (tot (rv (pX (ar 13) told b en M0 L0) b (en - b)))) (nI (rv (pX (ar 13) told b en M0 L0) b (en - b)).length) g13 g14 g15 g16 g17 (fl 18))) H locs := hI
          have hI := CI.to (w2 := cw g ad (AR32 (ar 12) (ar 13) (pD (ar 13) told b en M0 K0) (pX (ar 13) told b en M0 L0) (pM (ar 13) b en M0) (ar 17) (ar 18) (ar 19) (ar 20) (ar 21) (ar 22) (ar 23) y1 y2 (upd yb k (nI (pB (ar 13) told b en M0))) ys wt_36 za_77 zb_77 zz_77 y1_87 y2_87 y3_87 y4_87 z36 z37 z38 z39 z40 (ar 41) (ar 42) (ar 43)) (FL19 (fl 0) (fl 1) (fl 2) (fl 3) (fl 4) (fl 5) (nI ((pgL (ar 13) cn cn).1.length)) (xt (xrun (ar 13) (pM (ar 13) b en M0) b en (pB (ar 13) told b en M0) (en - b))) (nI (xrun (ar 13) (pM (ar 13) b en M0) b en (pB (ar 13) told b en M0) (en - b)).2.1) (nI (xrun (ar 13) (pM (ar 13) b en M0) b en (pB (ar 13) told b en M0) (en - b)).2.2.1) (nI (xrun (ar 13) (pM (ar 13) b en M0) b en (pB (ar 13) told b en M0) (en - b)).2.2.2) (nI (tot (pW (ar 13) told b en M0 L0))) (nI ((pW (ar 13) told b en M0 L0).length)) g13 g14 g15 g16 g17 (fl 18))) hI (by rfl)
          refine lv_aload_n hx hb d_RS_resolveText_90 rfl (lv_at hl 2 rfl) ?_
          refine g_RS_21 M hI d_RS_resolveText_91 ?_
          refine lv_iload_n hx hb d_RS_resolveText_94 rfl (lv_at hl 4 rfl) ?_
          refine lv_aload_n hx hb d_RS_resolveText_95 rfl (lv_at hl 2 rfl) ?_
          refine lv_aload_n hx hb d_RS_resolveText_96 rfl (lv_at hl 2 rfl) ?_
          refine g_RS_18 M hI d_RS_resolveText_97 ?_
          refine lv_iload_n hx hb d_RS_resolveText_100 rfl (lv_at hl 4 rfl) ?_
          refine al_26 M hI k rfl (by omega) d_RS_resolveText_101 ?_
          refine q_as (y := nI (pB (ar 13) told b en M0)) (pk_us) ?_
          refine q_calliV [.int (nI (pB (ar 13) told b en M0))] M hI (c_RS_resolveSequences l g ad (AR32 (ar 12) (ar 13) (pD (ar 13) told b en M0 K0) (pX (ar 13) told b en M0 L0) (pM (ar 13) b en M0) (ar 17) (ar 18) (ar 19) (ar 20) (ar 21) (ar 22) (ar 23) y1 y2 (upd yb k (nI (pB (ar 13) told b en M0))) ys wt_36 za_77 zb_77 zz_77 y1_87 y2_87 y3_87 y4_87 z36 z37 z38 z39 z40 (ar 41) (ar 42) (ar 43)) (FL19 (fl 0) (fl 1) (fl 2) (fl 3) (fl 4) (fl 5) (nI ((pgL (ar 13) cn cn).1.length)) (xt (xrun (ar 13) (pM (ar 13) b en M0) b en (pB (ar 13) told b en M0) (en - b))) (nI (xrun (ar 13) (pM (ar 13) b en M0) b en (pB (ar 13) told b en M0) (en - b)).2.1) (nI (xrun (ar 13) (pM (ar 13) b en M0) b en (pB (ar 13) told b en M0) (en - b)).2.2.1) (nI (xrun (ar 13) (pM (ar 13) b en M0) b en (pB (ar 13) told b en M0) (en - b)).2.2.2) (nI (tot (pW (ar 13) told b en M0 L0))) (nI ((pW (ar 13) told b en M0 L0).length)) g13 g14 g15 g16 g17 (fl 18)) (pB (ar 13) told b en M0) (pW (ar 13) told b en M0 L0) (pL (ar 13) told b en M0 L0) bn (rfl) (rfl) (hp87) (vlt_mono (by omega) hvl.1) (Nat.le_trans hvl.2 (by omega)) (hinc.1) (hinc.2) (hmt1) (fun q hq => by obtain ⟨q1, q2, q3⟩ := (flat_mem (en - b) q).mp hq; exact par_lv htl q q1 (by omega) q3) (hbs) (hbn) (hbN) (hbd)) ok_RS_resolveSequences m3_143 m3_145 ms_16 4 rfl rfl rfl rfl hl.1 ⟨rfl, rfl⟩ ⟨Nat.le_of_ble_eq_true rfl, Nat.le_of_ble_eq_true rfl⟩ (Nat.le_of_ble_eq_true rfl) ⟨Nat.le_of_ble_eq_true rfl, Nat.le_of_ble_eq_true rfl⟩ d_RS_resolveText_102 (fun r102 u102 H locs hp102 hI => ?_)
          obtain ⟨y6_102, y7_102, y8_102, y9_102, y10_102, x3_102, x4_102, x5_102, x6_102, x7_102⟩ := u102
          have hI : CI g A s (cw g ad (AR32 (ar 12) (ar 13) (rsK (pW (ar 13) told b en M0 L0) (ar 13) (pM (ar 13) b en M0) (pL (ar 13) told b en M0 L0) (pB (ar 13) told b en M0) (ar 12) (fun x => lk (ar 20) (ar 21) x bn) (pD (ar 13) told b en M0 K0) (pW (ar 13) told b en M0 L0).length) (pX (ar 13) told b en M0 L0) (pM (ar 13) b en M0) (ar 17) (ar 18) (ar 19) (ar 20) (ar 21) (ar 22) (ar 23) y1 y2 (upd yb k (nI (pB (ar 13) told b en M0))) ys wt_36 za_77 zb_77 zz_77 y1_87 y2_87 y3_87 y4_87 y6_102 y7_102 y8_102 y9_102 y10_102 (ar 41) (ar 42) (ar 43)) (FL19 (fl 0) (fl 1) (fl 2) (fl 3) (fl 4) (fl 5) (nI ((pgL (ar 13) cn cn).1.length)) (xt (xrun (ar 13) (pM (ar 13) b en M0) b en (pB (ar 13) told b en M0) (en - b))) (nI (xrun (ar 13) (pM (ar 13) b en M0) b en (pB (ar 13) told b en M0) (en - b)).2.1) (nI (xrun (ar 13) (pM (ar 13) b en M0) b en (pB (ar 13) told b en M0) (en - b)).2.2.1) (nI (xrun (ar 13) (pM (ar 13) b en M0) b en (pB (ar 13) told b en M0) (en - b)).2.2.2) (nI (tot (pW (ar 13) told b en M0 L0))) (nI ((pW (ar 13) told b en M0 L0).length)) x3_102 x4_102 x5_102 x6_102 x7_102 (fl 18))) H locs := hI
          refine q_as (y := nI (rsN (pW (ar 13) told b en M0 L0) (ar 13) (pM (ar 13) b en M0) (pW (ar 13) told b en M0 L0).length)) hp102 ?_
          refine q_as (y := nI (pN (ar 13) told b en M0 L0)) (rfl) ?_
          have hI := CI.to (w2 := cw g ad (AR32 (ar 12) (ar 13) (pK (ar 13) (ar 12) (fun x => lk (ar 20) (ar 21) x bn) told b en M0 L0 K0) (pX (ar 13) told b en M0 L0) (pM (ar 13) b en M0) (ar 17) (ar 18) (ar 19) (ar 20) (ar 21) (ar 22) (ar 23) y1 y2 (upd yb k (nI (pB (ar 13) told b en M0))) ys wt_36 za_77 zb_77 zz_77 y1_87 y2_87 y3_87 y4_87 y6_102 y7_102 y8_102 y9_102 y10_102 (ar 41) (ar 42) (ar 43)) (FL19 (fl 0) (fl 1) (fl 2) (fl 3) (fl 4) (fl 5) (nI ((pgL (ar 13) cn cn).1.length)) (xt (xrun (ar 13) (pM (ar 13) b en M0) b en (pB (ar 13) told b en M0) (en - b))) (nI (xrun (ar 13) (pM (ar 13) b en M0) b en (pB (ar 13) told b en M0) (en - b)).2.1) (nI (xrun (ar 13) (pM (ar 13) b en M0) b en (pB (ar 13) told b en M0) (en - b)).2.2.1) (nI (xrun (ar 13) (pM (ar 13) b en M0) b en (pB (ar 13) told b en M0) (en - b)).2.2.2) (nI (tot (pW (ar 13) told b en M0 L0))) (nI ((pW (ar 13) told b en M0 L0).length)) x3_102 x4_102 x5_102 x6_102 x7_102 (fl 18))) hI (by rfl)
          refine as_27 M hI k rfl (by omega) d_RS_resolveText_105 (fun H locs hI => ?_)
          have hI : CI g A s (cw g ad (AR32 (ar 12) (ar 13) (pK (ar 13) (ar 12) (fun x => lk (ar 20) (ar 21) x bn) told b en M0 L0 K0) (pX (ar 13) told b en M0 L0) (pM (ar 13) b en M0) (ar 17) (ar 18) (ar 19) (ar 20) (ar 21) (ar 22) (ar 23) y1 y2 (upd yb k (nI (pB (ar 13) told b en M0))) (upd ys k (nI (pN (ar 13) told b en M0 L0))) wt_36 za_77 zb_77 zz_77 y1_87 y2_87 y3_87 y4_87 y6_102 y7_102 y8_102 y9_102 y10_102 (ar 41) (ar 42) (ar 43)) (FL19 (fl 0) (fl 1) (fl 2) (fl 3) (fl 4) (fl 5) (nI ((pgL (ar 13) cn cn).1.length)) (xt (xrun (ar 13) (pM (ar 13) b en M0) b en (pB (ar 13) told b en M0) (en - b))) (nI (xrun (ar 13) (pM (ar 13) b en M0) b en (pB (ar 13) told b en M0) (en - b)).2.1) (nI (xrun (ar 13) (pM (ar 13) b en M0) b en (pB (ar 13) told b en M0) (en - b)).2.2.1) (nI (xrun (ar 13) (pM (ar 13) b en M0) b en (pB (ar 13) told b en M0) (en - b)).2.2.2) (nI (tot (pW (ar 13) told b en M0 L0))) (nI ((pW (ar 13) told b en M0 L0).length)) x3_102 x4_102 x5_102 x6_102 x7_102 (fl 18))) H locs := hI
          refine lv_aload_n hx hb d_RS_resolveText_106 rfl (lv_at hl 2 rfl) ?_
          refine lv_iload_n hx hb d_RS_resolveText_107 rfl (lv_at hl 1 rfl) ?_
          refine lv_iload hx hb d_RS_resolveText_108 (lv_at hl 0 rfl) ?_
          refine q_callvV [.int (nI b), .int (nI en)] M hI (c_RS_raiseLevels l g ad (AR32 (ar 12) (ar 13) (pK (ar 13) (ar 12) (fun x => lk (ar 20) (ar 21) x bn) told b en M0 L0 K0) (pX (ar 13) told b en M0 L0) (pM (ar 13) b en M0) (ar 17) (ar 18) (ar 19) (ar 20) (ar 21) (ar 22) (ar 23) y1 y2 (upd yb k (nI (pB (ar 13) told b en M0))) (upd ys k (nI (pN (ar 13) told b en M0 L0))) wt_36 za_77 zb_77 zz_77 y1_87 y2_87 y3_87 y4_87 y6_102 y7_102 y8_102 y9_102 y10_102 (ar 41) (ar 42) (ar 43)) (FL19 (fl 0) (fl 1) (fl 2) (fl 3) (fl 4) (fl 5) (nI ((pgL (ar 13) cn cn).1.length)) (xt (xrun (ar 13) (pM (ar 13) b en M0) b en (pB (ar 13) told b en M0) (en - b))) (nI (xrun (ar 13) (pM (ar 13) b en M0) b en (pB (ar 13) told b en M0) (en - b)).2.1) (nI (xrun (ar 13) (pM (ar 13) b en M0) b en (pB (ar 13) told b en M0) (en - b)).2.2.1) (nI (xrun (ar 13) (pM (ar 13) b en M0) b en (pB (ar 13) told b en M0) (en - b)).2.2.2) (nI (tot (pW (ar 13) told b en M0 L0))) (nI ((pW (ar 13) told b en M0 L0).length)) x3_102 x4_102 x5_102 x6_102 x7_102 (fl 18)) b en (pL (ar 13) told b en M0 L0) (by omega) (by omega) (fun j h1 h2 h3 => par_lv htl j h1 h2 h3)) ok_RS_raiseLevels m4_26 m4_28 ms_34 4 rfl rfl rfl rfl hl.1 ⟨rfl, rfl⟩ ⟨Nat.le_of_ble_eq_true rfl, Nat.le_of_ble_eq_true rfl⟩ (Nat.le_of_ble_eq_true rfl) ⟨Nat.le_of_ble_eq_true rfl, Nat.le_of_ble_eq_true rfl⟩ d_RS_resolveText_110 (fun u110 H locs hp110 hI => ?_)
          have hI : CI g A s (cw g ad (AR32 (ar 12) (ar 13) (pK (ar 13) (ar 12) (fun x => lk (ar 20) (ar 21) x bn) told b en M0 L0 K0) (pre en (raF b (pX (ar 13) told b en M0 L0) (pK (ar 13) (ar 12) (fun x => lk (ar 20) (ar 21) x bn) told b en M0 L0 K0) (pL (ar 13) told b en M0 L0)) (pX (ar 13) told b en M0 L0)) (pM (ar 13) b en M0) (ar 17) (ar 18) (ar 19) (ar 20) (ar 21) (ar 22) (ar 23) y1 y2 (upd yb k (nI (pB (ar 13) told b en M0))) (upd ys k (nI (pN (ar 13) told b en M0 L0))) wt_36 za_77 zb_77 zz_77 y1_87 y2_87 y3_87 y4_87 y6_102 y7_102 y8_102 y9_102 y10_102 (ar 41) (ar 42) (ar 43)) (FL19 (fl 0) (fl 1) (fl 2) (fl 3) (fl 4) (fl 5) (nI ((pgL (ar 13) cn cn).1.length)) (xt (xrun (ar 13) (pM (ar 13) b en M0) b en (pB (ar 13) told b en M0) (en - b))) (nI (xrun (ar 13) (pM (ar 13) b en M0) b en (pB (ar 13) told b en M0) (en - b)).2.1) (nI (xrun (ar 13) (pM (ar 13) b en M0) b en (pB (ar 13) told b en M0) (en - b)).2.2.1) (nI (xrun (ar 13) (pM (ar 13) b en M0) b en (pB (ar 13) told b en M0) (en - b)).2.2.2) (nI (tot (pW (ar 13) told b en M0 L0))) (nI ((pW (ar 13) told b en M0 L0).length)) x3_102 x4_102 x5_102 x6_102 x7_102 (fl 18))) H locs := hI
          have hI := CI.to (w2 := cw g ad (AR32 (ar 12) (ar 13) (pK (ar 13) (ar 12) (fun x => lk (ar 20) (ar 21) x bn) told b en M0 L0 K0) (pY (ar 13) (ar 12) (fun x => lk (ar 20) (ar 21) x bn) told b en M0 L0 K0) (pM (ar 13) b en M0) (ar 17) (ar 18) (ar 19) (ar 20) (ar 21) (ar 22) (ar 23) y1 y2 (upd yb k (nI (pB (ar 13) told b en M0))) (upd ys k (nI (pN (ar 13) told b en M0 L0))) wt_36 za_77 zb_77 zz_77 y1_87 y2_87 y3_87 y4_87 y6_102 y7_102 y8_102 y9_102 y10_102 (ar 41) (ar 42) (ar 43)) (FL19 (fl 0) (fl 1) (fl 2) (fl 3) (fl 4) (fl 5) (nI ((pgL (ar 13) cn cn).1.length)) (xt (xrun (ar 13) (pM (ar 13) b en M0) b en (pB (ar 13) told b en M0) (en - b))) (nI (xrun (ar 13) (pM (ar 13) b en M0) b en (pB (ar 13) told b en M0) (en - b)).2.1) (nI (xrun (ar 13) (pM (ar 13) b en M0) b en (pB (ar 13) told b en M0) (en - b)).2.2.1) (nI (xrun (ar 13) (pM (ar 13) b en M0) b en (pB (ar 13) told b en M0) (en - b)).2.2.2) (nI (tot (pW (ar 13) told b en M0 L0))) (nI ((pW (ar 13) told b en M0 L0).length)) x3_102 x4_102 x5_102 x6_102 x7_102 (fl 18))) hI (by rfl)
          have eT : rsT (ar 13) (ar 12) (fun x => lk (ar 20) (ar 21) x bn) told (pgL (ar 13) cn cn).1 (ar 16, ar 15, ar 14) (k + 1) = (pM (ar 13) b en M0, pY (ar 13) (ar 12) (fun x => lk (ar 20) (ar 21) x bn) told b en M0 L0 K0, pK (ar 13) (ar 12) (fun x => lk (ar 20) (ar 21) x bn) told b en M0 L0 K0) := by rw [eb, een, eM, eL, eK]; rfl
          have hmt9 : okM (rsT (ar 13) (ar 12) (fun x => lk (ar 20) (ar 21) x bn) told (pgL (ar 13) cn cn).1 (ar 16, ar 15, ar 14) (k + 1)).1 := by rw [eT]; exact hmt1
          have hbq9 : ∀ j, j < k + 1 → (upd yb k (nI (pB (ar 13) told b en M0))) j = nI (pB (ar 13) told (pgAt (pgL (ar 13) cn cn).1 j).1 (pgAt (pgL (ar 13) cn cn).1 j).2 (rsT (ar 13) (ar 12) (fun x => lk (ar 20) (ar 21) x bn) told (pgL (ar 13) cn cn).1 (ar 16, ar 15, ar 14) j).1) ∧ (upd ys k (nI (pN (ar 13) told b en M0 L0))) j = nI (pN (ar 13) told (pgAt (pgL (ar 13) cn cn).1 j).1 (pgAt (pgL (ar 13) cn cn).1 j).2 (rsT (ar 13) (ar 12) (fun x => lk (ar 20) (ar 21) x bn) told (pgL (ar 13) cn cn).1 (ar 16, ar 15, ar 14) j).1 (rsT (ar 13) (ar 12) (fun x => lk (ar 20) (ar 21) x bn) told (pgL (ar 13) cn cn).1 (ar 16, ar 15, ar 14) j).2.1) := fun j hj => by rcases Nat.lt_or_ge j k with q | q; (rw [pk_un (show j ≠ k by omega), pk_un (show j ≠ k by omega)]; exact hbq j q); (rw [show j = k by omega, pk_us, pk_us, ← eb, ← een, ← eM, ← eL]; exact ⟨rfl, rfl⟩)
          have hI := CI.to (w2 := cw g ad (AR32 (ar 12) (ar 13) ((rsT (ar 13) (ar 12) (fun x => lk (ar 20) (ar 21) x bn) told (pgL (ar 13) cn cn).1 (ar 16, ar 15, ar 14) (k + 1)).2.2) ((rsT (ar 13) (ar 12) (fun x => lk (ar 20) (ar 21) x bn) told (pgL (ar 13) cn cn).1 (ar 16, ar 15, ar 14) (k + 1)).2.1) ((rsT (ar 13) (ar 12) (fun x => lk (ar 20) (ar 21) x bn) told (pgL (ar 13) cn cn).1 (ar 16, ar 15, ar 14) (k + 1)).1) (ar 17) (ar 18) (ar 19) (ar 20) (ar 21) (ar 22) (ar 23) y1 y2 (upd yb k (nI (pB (ar 13) told b en M0))) (upd ys k (nI (pN (ar 13) told b en M0 L0))) wt_36 za_77 zb_77 zz_77 y1_87 y2_87 y3_87 y4_87 y6_102 y7_102 y8_102 y9_102 y10_102 (ar 41) (ar 42) (ar 43)) (FL19 (fl 0) (fl 1) (fl 2) (fl 3) (fl 4) (fl 5) (nI ((pgL (ar 13) cn cn).1.length)) (xt (xrun (ar 13) (pM (ar 13) b en M0) b en (pB (ar 13) told b en M0) (en - b))) (nI (xrun (ar 13) (pM (ar 13) b en M0) b en (pB (ar 13) told b en M0) (en - b)).2.1) (nI (xrun (ar 13) (pM (ar 13) b en M0) b en (pB (ar 13) told b en M0) (en - b)).2.2.1) (nI (xrun (ar 13) (pM (ar 13) b en M0) b en (pB (ar 13) told b en M0) (en - b)).2.2.2) (nI (tot (pW (ar 13) told b en M0 L0))) (nI ((pW (ar 13) told b en M0 L0).length)) x3_102 x4_102 x5_102 x6_102 x7_102 (fl 18))) hI (by rw [eT] <;> rfl)
          refine lv_iinc (v := nI (k + 1)) (lv' := [(2, .int (nI (k + 1))), (4, .int (nI en)), (3, .int (nI b)), (0, .ref (ad 4)), (1, .int (nI told))]) hx hb d_RS_resolveText_113 hl (k := 4) rfl (nI_add _ 1) (by decide) rfl (fun ls hl => ?_)
          refine lv_goto (tgt := 6) hx hb d_RS_resolveText_116 (by decide) ?_
          exact ih6 (k + 1) y1 y2 (upd yb k (nI (pB (ar 13) told b en M0))) (upd ys k (nI (pN (ar 13) told b en M0 L0))) wt_36 za_77 zb_77 zz_77 y1_87 y2_87 y3_87 y4_87 y6_102 y7_102 y8_102 y9_102 y10_102 (xt (xrun (ar 13) (pM (ar 13) b en M0) b en (pB (ar 13) told b en M0) (en - b))) (nI (xrun (ar 13) (pM (ar 13) b en M0) b en (pB (ar 13) told b en M0) (en - b)).2.1) (nI (xrun (ar 13) (pM (ar 13) b en M0) b en (pB (ar 13) told b en M0) (en - b)).2.2.1) (nI (xrun (ar 13) (pM (ar 13) b en M0) b en (pB (ar 13) told b en M0) (en - b)).2.2.2) (nI (tot (pW (ar 13) told b en M0 L0))) (nI ((pW (ar 13) told b en M0 L0).length)) x3_102 x4_102 x5_102 x6_102 x7_102 (by omega) (by first | assumption | omega) (hpr) (hmt9) (hbq9) _ _ _ hI (lv_sub hl [3, 4, 0] rfl)
        · have c46 : told = 2 := (nI_eq (a := told) (b := 2) (by omega) (by omega)).mp c46
          refine lv_aload_n hx hb d_RS_resolveText_49 rfl (lv_at hl 2 rfl) ?_
          refine g_RS_37 M hI d_RS_resolveText_50 ?_
          refine lv_iload_n hx hb d_RS_resolveText_53 rfl (lv_at hl 1 rfl) ?_
          refine lv_iload hx hb d_RS_resolveText_54 (lv_at hl 0 rfl) ?_
          refine q_calliV [.int (nI b), .int (nI en)] M hI (c_IS_directionIn l g ad (AR32 (ar 12) (ar 13) K0 L0 (pM (ar 13) b en M0) (ar 17) (ar 18) (ar 19) (ar 20) (ar 21) (ar 22) (ar 23) y1 y2 yb ys wt_36 z29 z30 z31 z32 z33 z34 z35 z36 z37 z38 z39 z40 (ar 41) (ar 42) (ar 43)) (FL19 (fl 0) (fl 1) (fl 2) (fl 3) (fl 4) (fl 5) (nI ((pgL (ar 13) cn cn).1.length)) g7 g8 g9 g10 g11 g12 g13 g14 g15 g16 g17 (fl 18)) b en (by omega) (by omega) (hmt1)) ok_IS_directionIn m3_71 m3_72 m3_73 5 rfl rfl rfl rfl hl.1 ⟨rfl, rfl⟩ ⟨Nat.le_of_ble_eq_true rfl, Nat.le_of_ble_eq_true rfl⟩ (Nat.le_of_ble_eq_true rfl) ⟨Nat.le_of_ble_eq_true rfl, Nat.le_of_ble_eq_true rfl⟩ d_RS_resolveText_56 (fun r56 u56 H locs hp56 hI => ?_)
          refine q_as (y := DI (ar 13) (pM (ar 13) b en M0) en b) hp56 ?_
          refine q_as (y := nI (pB (ar 13) told b en M0)) (by unfold pB bsN; rw [if_pos c46]; exact DI_n.1) ?_
          refine lv_goto (tgt := 63) hx hb d_RS_resolveText_59 (by decide) ?_
          refine as_26 M hI k rfl (by omega) d_RS_resolveText_63 (fun H locs hI => ?_)
          have hI : CI g A s (cw g ad (AR32 (ar 12) (ar 13) K0 L0 (pM (ar 13) b en M0) (ar 17) (ar 18) (ar 19) (ar 20) (ar 21) (ar 22) (ar 23) y1 y2 (upd yb k (nI (pB (ar 13) told b en M0))) ys wt_36 z29 z30 z31 z32 z33 z34 z35 z36 z37 z38 z39 z40 (ar 41) (ar 42) (ar 43)) (FL19 (fl 0) (fl 1) (fl 2) (fl 3) (fl 4) (fl 5) (nI ((pgL (ar 13) cn cn).1.length)) g7 g8 g9 g10 g11 g12 g13 g14 g15 g16 g17 (fl 18))) H locs := hI
          refine lv_aload_n hx hb d_RS_resolveText_64 rfl (lv_at hl 2 rfl) ?_
          refine g_RS_46 M hI d_RS_resolveText_65 ?_
          refine lv_iload_n hx hb d_RS_resolveText_68 rfl (lv_at hl 1 rfl) ?_
          refine lv_iload hx hb d_RS_resolveText_69 (lv_at hl 0 rfl) ?_
          refine lv_aload_n hx hb d_RS_resolveText_71 rfl (lv_at hl 2 rfl) ?_
          refine g_RS_18 M hI d_RS_resolveText_72 ?_
          refine lv_iload_n hx hb d_RS_resolveText_75 rfl (lv_at hl 4 rfl) ?_
          refine al_26 M hI k rfl (by omega) d_RS_resolveText_76 ?_
          refine q_as (y := nI (pB (ar 13) told b en M0)) (pk_us) ?_
          refine q_callvV [.int (nI b), .int (nI en), .int (nI (pB (ar 13) told b en M0))] M hI (c_EX_giveLevels l g ad (AR32 (ar 12) (ar 13) K0 L0 (pM (ar 13) b en M0) (ar 17) (ar 18) (ar 19) (ar 20) (ar 21) (ar 22) (ar 23) y1 y2 (upd yb k (nI (pB (ar 13) told b en M0))) ys wt_36 z29 z30 z31 z32 z33 z34 z35 z36 z37 z38 z39 z40 (ar 41) (ar 42) (ar 43)) (FL19 (fl 0) (fl 1) (fl 2) (fl 3) (fl 4) (fl 5) (nI ((pgL (ar 13) cn cn).1.length)) g7 g8 g9 g10 g11 g12 g13 g14 g15 g16 g17 (fl 18)) b en (pB (ar 13) told b en M0) (by omega) (by omega) (hbs) (hmt1)) ok_EX_giveLevels m3_78 m3_79 m3_80 6 rfl rfl rfl rfl hl.1 ⟨rfl, rfl⟩ ⟨Nat.le_of_ble_eq_true rfl, Nat.le_of_ble_eq_true rfl⟩ (Nat.le_of_ble_eq_true rfl) ⟨Nat.le_of_ble_eq_true rfl, Nat.le_of_ble_eq_true rfl⟩ d_RS_resolveText_77 (fun u77 H locs hp77 hI => ?_)
          obtain ⟨za_77, zb_77, zz_77⟩ := u77
          have hI : CI g A s (cw g ad (AR32 (ar 12) (ar 13) (xkd (ar 13) (pM (ar 13) b en M0) b en (pB (ar 13) told b en M0) K0 (en - b)) (xlv (ar 13) (pM (ar 13) b en M0) b en (pB (ar 13) told b en M0) L0 (en - b)) (pM (ar 13) b en M0) (ar 17) (ar 18) (ar 19) (ar 20) (ar 21) (ar 22) (ar 23) y1 y2 (upd yb k (nI (pB (ar 13) told b en M0))) ys wt_36 za_77 zb_77 zz_77 z32 z33 z34 z35 z36 z37 z38 z39 z40 (ar 41) (ar 42) (ar 43)) (FL19 (fl 0) (fl 1) (fl 2) (fl 3) (fl 4) (fl 5) (nI ((pgL (ar 13) cn cn).1.length)) (xt (xrun (ar 13) (pM (ar 13) b en M0) b en (pB (ar 13) told b en M0) (en - b))) (nI (xrun (ar 13) (pM (ar 13) b en M0) b en (pB (ar 13) told b en M0) (en - b)).2.1) (nI (xrun (ar 13) (pM (ar 13) b en M0) b en (pB (ar 13) told b en M0) (en - b)).2.2.1) (nI (xrun (ar 13) (pM (ar 13) b en M0) b en (pB (ar 13) told b en M0) (en - b)).2.2.2) g11 g12 g13 g14 g15 g16 g17 (fl 18))) H locs := hI
          have hI := CI.to (w2 := cw g ad (AR32 (ar 12) (ar 13) (pD (ar 13) told b en M0 K0) (pX (ar 13) told b en M0 L0) (pM (ar 13) b en M0) (ar 17) (ar 18) (ar 19) (ar 20) (ar 21) (ar 22) (ar 23) y1 y2 (upd yb k (nI (pB (ar 13) told b en M0))) ys wt_36 za_77 zb_77 zz_77 z32 z33 z34 z35 z36 z37 z38 z39 z40 (ar 41) (ar 42) (ar 43)) (FL19 (fl 0) (fl 1) (fl 2) (fl 3) (fl 4) (fl 5) (nI ((pgL (ar 13) cn cn).1.length)) (xt (xrun (ar 13) (pM (ar 13) b en M0) b en (pB (ar 13) told b en M0) (en - b))) (nI (xrun (ar 13) (pM (ar 13) b en M0) b en (pB (ar 13) told b en M0) (en - b)).2.1) (nI (xrun (ar 13) (pM (ar 13) b en M0) b en (pB (ar 13) told b en M0) (en - b)).2.2.1) (nI (xrun (ar 13) (pM (ar 13) b en M0) b en (pB (ar 13) told b en M0) (en - b)).2.2.2) g11 g12 g13 g14 g15 g16 g17 (fl 18))) hI (by rfl)
          refine lv_aload_n hx hb d_RS_resolveText_80 rfl (lv_at hl 2 rfl) ?_
          refine g_RS_53 M hI d_RS_resolveText_81 ?_
          refine lv_iload_n hx hb d_RS_resolveText_84 rfl (lv_at hl 1 rfl) ?_
          refine lv_iload hx hb d_RS_resolveText_85 (lv_at hl 0 rfl) ?_
          refine q_callvV [.int (nI b), .int (nI en)] M hI (c_RU_findRuns l g ad (AR32 (ar 12) (ar 13) (pD (ar 13) told b en M0 K0) (pX (ar 13) told b en M0 L0) (pM (ar 13) b en M0) (ar 17) (ar 18) (ar 19) (ar 20) (ar 21) (ar 22) (ar 23) y1 y2 (upd yb k (nI (pB (ar 13) told b en M0))) ys wt_36 za_77 zb_77 zz_77 z32 z33 z34 z35 z36 z37 z38 z39 z40 (ar 41) (ar 42) (ar 43)) (FL19 (fl 0) (fl 1) (fl 2) (fl 3) (fl 4) (fl 5) (nI ((pgL (ar 13) cn cn).1.length)) (xt (xrun (ar 13) (pM (ar 13) b en M0) b en (pB (ar 13) told b en M0) (en - b))) (nI (xrun (ar 13) (pM (ar 13) b en M0) b en (pB (ar 13) told b en M0) (en - b)).2.1) (nI (xrun (ar 13) (pM (ar 13) b en M0) b en (pB (ar 13) told b en M0) (en - b)).2.2.1) (nI (xrun (ar 13) (pM (ar 13) b en M0) b en (pB (ar 13) told b en M0) (en - b)).2.2.2) g11 g12 g13 g14 g15 g16 g17 (fl 18)) b en (by omega) (by omega)) ok_RU_findRuns m3_135 m3_136 m3_137 7 rfl rfl rfl rfl hl.1 ⟨rfl, rfl⟩ ⟨Nat.le_of_ble_eq_true rfl, Nat.le_of_ble_eq_true rfl⟩ (Nat.le_of_ble_eq_true rfl) ⟨Nat.le_of_ble_eq_true rfl, Nat.le_of_ble_eq_true rfl⟩ d_RS_resolveText_87 (fun u87 H locs hp87 hI => ?_)
          obtain ⟨y1_87, y2_87, y3_87, y4_87⟩ := u87
          have hI : CI g A s (cw g ad (AR32 (ar 12) (ar 13) (pD (ar 13) told b en M0 K0) (pX (ar 13) told b en M0 L0) (pM (ar 13) b en M0) (ar 17) (ar 18) (ar 19) (ar 20) (ar 21) (ar 22) (ar 23) y1 y2 (upd yb k (nI (pB (ar 13) told b en M0))) ys wt_36 za_77 zb_77 zz_77 y1_87 y2_87 y3_87 y4_87 z36 z37 z38 z39 z40 (ar 41) (ar 42) (ar 43)) (FL19 (fl 0) (fl 1) (fl 2) (fl 3) (fl 4) (fl 5) (nI ((pgL (ar 13) cn cn).1.length)) (xt (xrun (ar 13) (pM (ar 13) b en M0) b en (pB (ar 13) told b en M0) (en - b))) (nI (xrun (ar 13) (pM (ar 13) b en M0) b en (pB (ar 13) told b en M0) (en - b)).2.1) (nI (xrun (ar 13) (pM (ar 13) b en M0) b en (pB (ar 13) told b en M0) (en - b)).2.2.1) (nI (xrun (ar 13) (pM (ar 13) b en M0) b en (pB (ar 13) told b en M0) (en - b)).2.2.2) (nI (tot (rv (pX (ar 13) told b en M0 L0) b (en - b)))) (nI (rv (pX (ar 13) told b en M0 L0) b (en - b)).length) g13 g14 g15 g16 g17 (fl 18))) H locs := hI
          have hI := CI.to (w2 := cw g ad (AR32 (ar 12) (ar 13) (pD (ar 13) told b en M0 K0) (pX (ar 13) told b en M0 L0) (pM (ar 13) b en M0) (ar 17) (ar 18) (ar 19) (ar 20) (ar 21) (ar 22) (ar 23) y1 y2 (upd yb k (nI (pB (ar 13) told b en M0))) ys wt_36 za_77 zb_77 zz_77 y1_87 y2_87 y3_87 y4_87 z36 z37 z38 z39 z40 (ar 41) (ar 42) (ar 43)) (FL19 (fl 0) (fl 1) (fl 2) (fl 3) (fl 4) (fl 5) (nI ((pgL (ar 13) cn cn).1.length)) (xt (xrun (ar 13) (pM (ar 13) b en M0) b en (pB (ar 13) told b en M0) (en - b))) (nI (xrun (ar 13) (pM (ar 13) b en M0) b en (pB (ar 13) told b en M0) (en - b)).2.1) (nI (xrun (ar 13) (pM (ar 13) b en M0) b en (pB (ar 13) told b en M0) (en - b)).2.2.1) (nI (xrun (ar 13) (pM (ar 13) b en M0) b en (pB (ar 13) told b en M0) (en - b)).2.2.2) (nI (tot (pW (ar 13) told b en M0 L0))) (nI ((pW (ar 13) told b en M0 L0).length)) g13 g14 g15 g16 g17 (fl 18))) hI (by rfl)
          refine lv_aload_n hx hb d_RS_resolveText_90 rfl (lv_at hl 2 rfl) ?_
          refine g_RS_21 M hI d_RS_resolveText_91 ?_
          refine lv_iload_n hx hb d_RS_resolveText_94 rfl (lv_at hl 4 rfl) ?_
          refine lv_aload_n hx hb d_RS_resolveText_95 rfl (lv_at hl 2 rfl) ?_
          refine lv_aload_n hx hb d_RS_resolveText_96 rfl (lv_at hl 2 rfl) ?_
          refine g_RS_18 M hI d_RS_resolveText_97 ?_
          refine lv_iload_n hx hb d_RS_resolveText_100 rfl (lv_at hl 4 rfl) ?_
          refine al_26 M hI k rfl (by omega) d_RS_resolveText_101 ?_
          refine q_as (y := nI (pB (ar 13) told b en M0)) (pk_us) ?_
          refine q_calliV [.int (nI (pB (ar 13) told b en M0))] M hI (c_RS_resolveSequences l g ad (AR32 (ar 12) (ar 13) (pD (ar 13) told b en M0 K0) (pX (ar 13) told b en M0 L0) (pM (ar 13) b en M0) (ar 17) (ar 18) (ar 19) (ar 20) (ar 21) (ar 22) (ar 23) y1 y2 (upd yb k (nI (pB (ar 13) told b en M0))) ys wt_36 za_77 zb_77 zz_77 y1_87 y2_87 y3_87 y4_87 z36 z37 z38 z39 z40 (ar 41) (ar 42) (ar 43)) (FL19 (fl 0) (fl 1) (fl 2) (fl 3) (fl 4) (fl 5) (nI ((pgL (ar 13) cn cn).1.length)) (xt (xrun (ar 13) (pM (ar 13) b en M0) b en (pB (ar 13) told b en M0) (en - b))) (nI (xrun (ar 13) (pM (ar 13) b en M0) b en (pB (ar 13) told b en M0) (en - b)).2.1) (nI (xrun (ar 13) (pM (ar 13) b en M0) b en (pB (ar 13) told b en M0) (en - b)).2.2.1) (nI (xrun (ar 13) (pM (ar 13) b en M0) b en (pB (ar 13) told b en M0) (en - b)).2.2.2) (nI (tot (pW (ar 13) told b en M0 L0))) (nI ((pW (ar 13) told b en M0 L0).length)) g13 g14 g15 g16 g17 (fl 18)) (pB (ar 13) told b en M0) (pW (ar 13) told b en M0 L0) (pL (ar 13) told b en M0 L0) bn (rfl) (rfl) (hp87) (vlt_mono (by omega) hvl.1) (Nat.le_trans hvl.2 (by omega)) (hinc.1) (hinc.2) (hmt1) (fun q hq => by obtain ⟨q1, q2, q3⟩ := (flat_mem (en - b) q).mp hq; exact par_lv htl q q1 (by omega) q3) (hbs) (hbn) (hbN) (hbd)) ok_RS_resolveSequences m3_143 m3_145 ms_16 4 rfl rfl rfl rfl hl.1 ⟨rfl, rfl⟩ ⟨Nat.le_of_ble_eq_true rfl, Nat.le_of_ble_eq_true rfl⟩ (Nat.le_of_ble_eq_true rfl) ⟨Nat.le_of_ble_eq_true rfl, Nat.le_of_ble_eq_true rfl⟩ d_RS_resolveText_102 (fun r102 u102 H locs hp102 hI => ?_)
          obtain ⟨y6_102, y7_102, y8_102, y9_102, y10_102, x3_102, x4_102, x5_102, x6_102, x7_102⟩ := u102
          have hI : CI g A s (cw g ad (AR32 (ar 12) (ar 13) (rsK (pW (ar 13) told b en M0 L0) (ar 13) (pM (ar 13) b en M0) (pL (ar 13) told b en M0 L0) (pB (ar 13) told b en M0) (ar 12) (fun x => lk (ar 20) (ar 21) x bn) (pD (ar 13) told b en M0 K0) (pW (ar 13) told b en M0 L0).length) (pX (ar 13) told b en M0 L0) (pM (ar 13) b en M0) (ar 17) (ar 18) (ar 19) (ar 20) (ar 21) (ar 22) (ar 23) y1 y2 (upd yb k (nI (pB (ar 13) told b en M0))) ys wt_36 za_77 zb_77 zz_77 y1_87 y2_87 y3_87 y4_87 y6_102 y7_102 y8_102 y9_102 y10_102 (ar 41) (ar 42) (ar 43)) (FL19 (fl 0) (fl 1) (fl 2) (fl 3) (fl 4) (fl 5) (nI ((pgL (ar 13) cn cn).1.length)) (xt (xrun (ar 13) (pM (ar 13) b en M0) b en (pB (ar 13) told b en M0) (en - b))) (nI (xrun (ar 13) (pM (ar 13) b en M0) b en (pB (ar 13) told b en M0) (en - b)).2.1) (nI (xrun (ar 13) (pM (ar 13) b en M0) b en (pB (ar 13) told b en M0) (en - b)).2.2.1) (nI (xrun (ar 13) (pM (ar 13) b en M0) b en (pB (ar 13) told b en M0) (en - b)).2.2.2) (nI (tot (pW (ar 13) told b en M0 L0))) (nI ((pW (ar 13) told b en M0 L0).length)) x3_102 x4_102 x5_102 x6_102 x7_102 (fl 18))) H locs := hI
          refine q_as (y := nI (rsN (pW (ar 13) told b en M0 L0) (ar 13) (pM (ar 13) b en M0) (pW (ar 13) told b en M0 L0).length)) hp102 ?_
          refine q_as (y := nI (pN (ar 13) told b en M0 L0)) (rfl) ?_
          have hI := CI.to (w2 := cw g ad (AR32 (ar 12) (ar 13) (pK (ar 13) (ar 12) (fun x => lk (ar 20) (ar 21) x bn) told b en M0 L0 K0) (pX (ar 13) told b en M0 L0) (pM (ar 13) b en M0) (ar 17) (ar 18) (ar 19) (ar 20) (ar 21) (ar 22) (ar 23) y1 y2 (upd yb k (nI (pB (ar 13) told b en M0))) ys wt_36 za_77 zb_77 zz_77 y1_87 y2_87 y3_87 y4_87 y6_102 y7_102 y8_102 y9_102 y10_102 (ar 41) (ar 42) (ar 43)) (FL19 (fl 0) (fl 1) (fl 2) (fl 3) (fl 4) (fl 5) (nI ((pgL (ar 13) cn cn).1.length)) (xt (xrun (ar 13) (pM (ar 13) b en M0) b en (pB (ar 13) told b en M0) (en - b))) (nI (xrun (ar 13) (pM (ar 13) b en M0) b en (pB (ar 13) told b en M0) (en - b)).2.1) (nI (xrun (ar 13) (pM (ar 13) b en M0) b en (pB (ar 13) told b en M0) (en - b)).2.2.1) (nI (xrun (ar 13) (pM (ar 13) b en M0) b en (pB (ar 13) told b en M0) (en - b)).2.2.2) (nI (tot (pW (ar 13) told b en M0 L0))) (nI ((pW (ar 13) told b en M0 L0).length)) x3_102 x4_102 x5_102 x6_102 x7_102 (fl 18))) hI (by rfl)
          refine as_27 M hI k rfl (by omega) d_RS_resolveText_105 (fun H locs hI => ?_)
          have hI : CI g A s (cw g ad (AR32 (ar 12) (ar 13) (pK (ar 13) (ar 12) (fun x => lk (ar 20) (ar 21) x bn) told b en M0 L0 K0) (pX (ar 13) told b en M0 L0) (pM (ar 13) b en M0) (ar 17) (ar 18) (ar 19) (ar 20) (ar 21) (ar 22) (ar 23) y1 y2 (upd yb k (nI (pB (ar 13) told b en M0))) (upd ys k (nI (pN (ar 13) told b en M0 L0))) wt_36 za_77 zb_77 zz_77 y1_87 y2_87 y3_87 y4_87 y6_102 y7_102 y8_102 y9_102 y10_102 (ar 41) (ar 42) (ar 43)) (FL19 (fl 0) (fl 1) (fl 2) (fl 3) (fl 4) (fl 5) (nI ((pgL (ar 13) cn cn).1.length)) (xt (xrun (ar 13) (pM (ar 13) b en M0) b en (pB (ar 13) told b en M0) (en - b))) (nI (xrun (ar 13) (pM (ar 13) b en M0) b en (pB (ar 13) told b en M0) (en - b)).2.1) (nI (xrun (ar 13) (pM (ar 13) b en M0) b en (pB (ar 13) told b en M0) (en - b)).2.2.1) (nI (xrun (ar 13) (pM (ar 13) b en M0) b en (pB (ar 13) told b en M0) (en - b)).2.2.2) (nI (tot (pW (ar 13) told b en M0 L0))) (nI ((pW (ar 13) told b en M0 L0).length)) x3_102 x4_102 x5_102 x6_102 x7_102 (fl 18))) H locs := hI
          refine lv_aload_n hx hb d_RS_resolveText_106 rfl (lv_at hl 2 rfl) ?_
          refine lv_iload_n hx hb d_RS_resolveText_107 rfl (lv_at hl 1 rfl) ?_
          refine lv_iload hx hb d_RS_resolveText_108 (lv_at hl 0 rfl) ?_
          refine q_callvV [.int (nI b), .int (nI en)] M hI (c_RS_raiseLevels l g ad (AR32 (ar 12) (ar 13) (pK (ar 13) (ar 12) (fun x => lk (ar 20) (ar 21) x bn) told b en M0 L0 K0) (pX (ar 13) told b en M0 L0) (pM (ar 13) b en M0) (ar 17) (ar 18) (ar 19) (ar 20) (ar 21) (ar 22) (ar 23) y1 y2 (upd yb k (nI (pB (ar 13) told b en M0))) (upd ys k (nI (pN (ar 13) told b en M0 L0))) wt_36 za_77 zb_77 zz_77 y1_87 y2_87 y3_87 y4_87 y6_102 y7_102 y8_102 y9_102 y10_102 (ar 41) (ar 42) (ar 43)) (FL19 (fl 0) (fl 1) (fl 2) (fl 3) (fl 4) (fl 5) (nI ((pgL (ar 13) cn cn).1.length)) (xt (xrun (ar 13) (pM (ar 13) b en M0) b en (pB (ar 13) told b en M0) (en - b))) (nI (xrun (ar 13) (pM (ar 13) b en M0) b en (pB (ar 13) told b en M0) (en - b)).2.1) (nI (xrun (ar 13) (pM (ar 13) b en M0) b en (pB (ar 13) told b en M0) (en - b)).2.2.1) (nI (xrun (ar 13) (pM (ar 13) b en M0) b en (pB (ar 13) told b en M0) (en - b)).2.2.2) (nI (tot (pW (ar 13) told b en M0 L0))) (nI ((pW (ar 13) told b en M0 L0).length)) x3_102 x4_102 x5_102 x6_102 x7_102 (fl 18)) b en (pL (ar 13) told b en M0 L0) (by omega) (by omega) (fun j h1 h2 h3 => par_lv htl j h1 h2 h3)) ok_RS_raiseLevels m4_26 m4_28 ms_34 4 rfl rfl rfl rfl hl.1 ⟨rfl, rfl⟩ ⟨Nat.le_of_ble_eq_true rfl, Nat.le_of_ble_eq_true rfl⟩ (Nat.le_of_ble_eq_true rfl) ⟨Nat.le_of_ble_eq_true rfl, Nat.le_of_ble_eq_true rfl⟩ d_RS_resolveText_110 (fun u110 H locs hp110 hI => ?_)
          have hI : CI g A s (cw g ad (AR32 (ar 12) (ar 13) (pK (ar 13) (ar 12) (fun x => lk (ar 20) (ar 21) x bn) told b en M0 L0 K0) (pre en (raF b (pX (ar 13) told b en M0 L0) (pK (ar 13) (ar 12) (fun x => lk (ar 20) (ar 21) x bn) told b en M0 L0 K0) (pL (ar 13) told b en M0 L0)) (pX (ar 13) told b en M0 L0)) (pM (ar 13) b en M0) (ar 17) (ar 18) (ar 19) (ar 20) (ar 21) (ar 22) (ar 23) y1 y2 (upd yb k (nI (pB (ar 13) told b en M0))) (upd ys k (nI (pN (ar 13) told b en M0 L0))) wt_36 za_77 zb_77 zz_77 y1_87 y2_87 y3_87 y4_87 y6_102 y7_102 y8_102 y9_102 y10_102 (ar 41) (ar 42) (ar 43)) (FL19 (fl 0) (fl 1) (fl 2) (fl 3) (fl 4) (fl 5) (nI ((pgL (ar 13) cn cn).1.length)) (xt (xrun (ar 13) (pM (ar 13) b en M0) b en (pB (ar 13) told b en M0) (en - b))) (nI (xrun (ar 13) (pM (ar 13) b en M0) b en (pB (ar 13) told b en M0) (en - b)).2.1) (nI (xrun (ar 13) (pM (ar 13) b en M0) b en (pB (ar 13) told b en M0) (en - b)).2.2.1) (nI (xrun (ar 13) (pM (ar 13) b en M0) b en (pB (ar 13) told b en M0) (en - b)).2.2.2) (nI (tot (pW (ar 13) told b en M0 L0))) (nI ((pW (ar 13) told b en M0 L0).length)) x3_102 x4_102 x5_102 x6_102 x7_102 (fl 18))) H locs := hI
          have hI := CI.to (w2 := cw g ad (AR32 (ar 12) (ar 13) (pK (ar 13) (ar 12) (fun x => lk (ar 20) (ar 21) x bn) told b en M0 L0 K0) (pY (ar 13) (ar 12) (fun x => lk (ar 20) (ar 21) x bn) told b en M0 L0 K0) (pM (ar 13) b en M0) (ar 17) (ar 18) (ar 19) (ar 20) (ar 21) (ar 22) (ar 23) y1 y2 (upd yb k (nI (pB (ar 13) told b en M0))) (upd ys k (nI (pN (ar 13) told b en M0 L0))) wt_36 za_77 zb_77 zz_77 y1_87 y2_87 y3_87 y4_87 y6_102 y7_102 y8_102 y9_102 y10_102 (ar 41) (ar 42) (ar 43)) (FL19 (fl 0) (fl 1) (fl 2) (fl 3) (fl 4) (fl 5) (nI ((pgL (ar 13) cn cn).1.length)) (xt (xrun (ar 13) (pM (ar 13) b en M0) b en (pB (ar 13) told b en M0) (en - b))) (nI (xrun (ar 13) (pM (ar 13) b en M0) b en (pB (ar 13) told b en M0) (en - b)).2.1) (nI (xrun (ar 13) (pM (ar 13) b en M0) b en (pB (ar 13) told b en M0) (en - b)).2.2.1) (nI (xrun (ar 13) (pM (ar 13) b en M0) b en (pB (ar 13) told b en M0) (en - b)).2.2.2) (nI (tot (pW (ar 13) told b en M0 L0))) (nI ((pW (ar 13) told b en M0 L0).length)) x3_102 x4_102 x5_102 x6_102 x7_102 (fl 18))) hI (by rfl)
          have eT : rsT (ar 13) (ar 12) (fun x => lk (ar 20) (ar 21) x bn) told (pgL (ar 13) cn cn).1 (ar 16, ar 15, ar 14) (k + 1) = (pM (ar 13) b en M0, pY (ar 13) (ar 12) (fun x => lk (ar 20) (ar 21) x bn) told b en M0 L0 K0, pK (ar 13) (ar 12) (fun x => lk (ar 20) (ar 21) x bn) told b en M0 L0 K0) := by rw [eb, een, eM, eL, eK]; rfl
          have hmt9 : okM (rsT (ar 13) (ar 12) (fun x => lk (ar 20) (ar 21) x bn) told (pgL (ar 13) cn cn).1 (ar 16, ar 15, ar 14) (k + 1)).1 := by rw [eT]; exact hmt1
          have hbq9 : ∀ j, j < k + 1 → (upd yb k (nI (pB (ar 13) told b en M0))) j = nI (pB (ar 13) told (pgAt (pgL (ar 13) cn cn).1 j).1 (pgAt (pgL (ar 13) cn cn).1 j).2 (rsT (ar 13) (ar 12) (fun x => lk (ar 20) (ar 21) x bn) told (pgL (ar 13) cn cn).1 (ar 16, ar 15, ar 14) j).1) ∧ (upd ys k (nI (pN (ar 13) told b en M0 L0))) j = nI (pN (ar 13) told (pgAt (pgL (ar 13) cn cn).1 j).1 (pgAt (pgL (ar 13) cn cn).1 j).2 (rsT (ar 13) (ar 12) (fun x => lk (ar 20) (ar 21) x bn) told (pgL (ar 13) cn cn).1 (ar 16, ar 15, ar 14) j).1 (rsT (ar 13) (ar 12) (fun x => lk (ar 20) (ar 21) x bn) told (pgL (ar 13) cn cn).1 (ar 16, ar 15, ar 14) j).2.1) := fun j hj => by rcases Nat.lt_or_ge j k with q | q; (rw [pk_un (show j ≠ k by omega), pk_un (show j ≠ k by omega)]; exact hbq j q); (rw [show j = k by omega, pk_us, pk_us, ← eb, ← een, ← eM, ← eL]; exact ⟨rfl, rfl⟩)
          have hI := CI.to (w2 := cw g ad (AR32 (ar 12) (ar 13) ((rsT (ar 13) (ar 12) (fun x => lk (ar 20) (ar 21) x bn) told (pgL (ar 13) cn cn).1 (ar 16, ar 15, ar 14) (k + 1)).2.2) ((rsT (ar 13) (ar 12) (fun x => lk (ar 20) (ar 21) x bn) told (pgL (ar 13) cn cn).1 (ar 16, ar 15, ar 14) (k + 1)).2.1) ((rsT (ar 13) (ar 12) (fun x => lk (ar 20) (ar 21) x bn) told (pgL (ar 13) cn cn).1 (ar 16, ar 15, ar 14) (k + 1)).1) (ar 17) (ar 18) (ar 19) (ar 20) (ar 21) (ar 22) (ar 23) y1 y2 (upd yb k (nI (pB (ar 13) told b en M0))) (upd ys k (nI (pN (ar 13) told b en M0 L0))) wt_36 za_77 zb_77 zz_77 y1_87 y2_87 y3_87 y4_87 y6_102 y7_102 y8_102 y9_102 y10_102 (ar 41) (ar 42) (ar 43)) (FL19 (fl 0) (fl 1) (fl 2) (fl 3) (fl 4) (fl 5) (nI ((pgL (ar 13) cn cn).1.length)) (xt (xrun (ar 13) (pM (ar 13) b en M0) b en (pB (ar 13) told b en M0) (en - b))) (nI (xrun (ar 13) (pM (ar 13) b en M0) b en (pB (ar 13) told b en M0) (en - b)).2.1) (nI (xrun (ar 13) (pM (ar 13) b en M0) b en (pB (ar 13) told b en M0) (en - b)).2.2.1) (nI (xrun (ar 13) (pM (ar 13) b en M0) b en (pB (ar 13) told b en M0) (en - b)).2.2.2) (nI (tot (pW (ar 13) told b en M0 L0))) (nI ((pW (ar 13) told b en M0 L0).length)) x3_102 x4_102 x5_102 x6_102 x7_102 (fl 18))) hI (by rw [eT] <;> rfl)
          refine lv_iinc (v := nI (k + 1)) (lv' := [(2, .int (nI (k + 1))), (4, .int (nI en)), (3, .int (nI b)), (0, .ref (ad 4)), (1, .int (nI told))]) hx hb d_RS_resolveText_113 hl (k := 4) rfl (nI_add _ 1) (by decide) rfl (fun ls hl => ?_)
          refine lv_goto (tgt := 6) hx hb d_RS_resolveText_116 (by decide) ?_
          exact ih6 (k + 1) y1 y2 (upd yb k (nI (pB (ar 13) told b en M0))) (upd ys k (nI (pN (ar 13) told b en M0 L0))) wt_36 za_77 zb_77 zz_77 y1_87 y2_87 y3_87 y4_87 y6_102 y7_102 y8_102 y9_102 y10_102 (xt (xrun (ar 13) (pM (ar 13) b en M0) b en (pB (ar 13) told b en M0) (en - b))) (nI (xrun (ar 13) (pM (ar 13) b en M0) b en (pB (ar 13) told b en M0) (en - b)).2.1) (nI (xrun (ar 13) (pM (ar 13) b en M0) b en (pB (ar 13) told b en M0) (en - b)).2.2.1) (nI (xrun (ar 13) (pM (ar 13) b en M0) b en (pB (ar 13) told b en M0) (en - b)).2.2.2) (nI (tot (pW (ar 13) told b en M0 L0))) (nI ((pW (ar 13) told b en M0 L0).length)) x3_102 x4_102 x5_102 x6_102 x7_102 (by omega) (by first | assumption | omega) (hpr) (hmt9) (hbq9) _ _ _ hI (lv_sub hl [3, 4, 0] rfl)
  have hI := CI.to (w2 := cw g ad (AR32 (ar 12) (ar 13) ((rsT (ar 13) (ar 12) (fun x => lk (ar 20) (ar 21) x bn) told (pgL (ar 13) cn cn).1 (ar 16, ar 15, ar 14) 0).2.2) ((rsT (ar 13) (ar 12) (fun x => lk (ar 20) (ar 21) x bn) told (pgL (ar 13) cn cn).1 (ar 16, ar 15, ar 14) 0).2.1) ((rsT (ar 13) (ar 12) (fun x => lk (ar 20) (ar 21) x bn) told (pgL (ar 13) cn cn).1 (ar 16, ar 15, ar 14) 0).1) (ar 17) (ar 18) (ar 19) (ar 20) (ar 21) (ar 22) (ar 23) y1_1 y2_1 (ar 26) (ar 27) (ar 28) (ar 29) (ar 30) (ar 31) (ar 32) (ar 33) (ar 34) (ar 35) (ar 36) (ar 37) (ar 38) (ar 39) (ar 40) (ar 41) (ar 42) (ar 43)) (FL19 (fl 0) (fl 1) (fl 2) (fl 3) (fl 4) (fl 5) (nI ((pgL (ar 13) cn cn).1.length)) (fl 7) (fl 8) (fl 9) (fl 10) (fl 11) (fl 12) (fl 13) (fl 14) (fl 15) (fl 16) (fl 17) (fl 18))) hI (by rfl)
  exact L6 _ 0 y1_1 y2_1 (ar 26) (ar 27) (ar 28) (ar 29) (ar 30) (ar 31) (ar 32) (ar 33) (ar 34) (ar 35) (ar 36) (ar 37) (ar 38) (ar 39) (ar 40) (fl 7) (fl 8) (fl 9) (fl 10) (fl 11) (fl 12) (fl 13) (fl 14) (fl 15) (fl 16) (fl 17) (Nat.lt_succ_self _) (by first | assumption | omega) (hp1) (hmt0) (fun j h => absurd h (Nat.not_lt_zero j)) _ _ _ hI (lv_sub hl [1, 2, 0] rfl)
