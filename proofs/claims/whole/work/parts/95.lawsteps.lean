/-! 95: the law: each case keeps the relation -/
theorem i32_c (x : Int32) {n : Nat} (hn : n < 2 ^ 31) : (x < 0 ∨ nI n ≤ x) ∨ ∃ q, q < n ∧ x = nI q := by
  by_cases h0 : x < 0
  · exact Or.inl (Or.inl h0)
  · by_cases h1 : nI n ≤ x
    · exact Or.inl (Or.inr h1)
    · right
      have h3 : ¬ x.toInt < (0 : Int32).toInt := fun h => h0 (Int32.lt_iff_toInt_lt.mpr h)
      have h4 : (0 : Int32).toInt = 0 := by decide
      have h5 : x.toInt < 2 ^ 31 := Int32.toInt_lt x
      have e : x.toNatClampNeg = x.toInt.toNat := rfl
      have h6 : ¬ (nI n).toInt ≤ x.toInt := fun h => h1 (Int32.le_iff_toInt_le.mpr h)
      rw [nI_toInt hn] at h6
      refine ⟨x.toNatClampNeg, by omega, ?_⟩
      apply Int32.toInt_inj.mp
      rw [nI_toInt (by omega)]
      omega
theorem fst_m1 (f : Nat → Int32) : ∀ n, ∃ m, m ≤ n ∧ (∀ j, j < m → ¬ f j = -1) ∧ (m = n ∨ f m = -1)
  | 0 => ⟨0, Nat.le_refl 0, fun j h => absurd h (Nat.not_lt_zero j), Or.inl rfl⟩
  | n + 1 => by
    obtain ⟨m, h1, h2, h3⟩ := fst_m1 f n
    by_cases z : f m = -1
    · exact ⟨m, by omega, h2, Or.inr z⟩
    · have e : m = n := h3.resolve_right z
      subst e
      refine ⟨m + 1, Nat.le_refl _, fun j hj => ?_, Or.inl rfl⟩
      by_cases y : j = m
      · rw [y]; exact z
      · exact h2 j (by omega)
theorem upL_0 {f : Nat → Int64} {v : Int64} : vp_updL f 0 v 0 = v := by simp [vp_updL]
section LWC
variable {p : Program} {l : Launch} {e : Env} {s : State} {m : MethodId} {args : Array Value} {below : List Frame} {meth : Method} {c : Code} {H : Heap} {locs : List Loc} {cells slots : Nat} {Q : State → Prop}
variable {ls : Array Slot} {g : Geo} {A : Nat → Prop} {b L i : Nat} {xs : Nat → Int32} {ad ad2 : Nat → Nat} {ar br : Nat → Nat → Int32} {fl ml : Nat → Int32} {ao : Nat} {fo : Nat → Int64}
set_option maxRecDepth 100000 in
theorem st_property (C : LC p s m meth c b L xs A) (hfl : l.flags = flags0) (hI : CI g A s (cw g ad ar fl ++ xo g ao fo ++ mw g ad2 br ml) H locs) (hl : lv_has ls 7 [(0, .ref b), (1, .ref (ad 0)), (2, .ref (ad2 0)), (3, .ref ao), (4, .int (nI i))]) (hi : i + 6 ≤ L) (hRel : RelE ar fl br ml) (hcs : cells + 2 ≤ 601024 ∧ slots + 11 ≤ 7293034) (kk : ∀ ar' fl' fo' br' ml' (H : Heap) (locs : List Loc) (ls : Array Slot), RelE ar' fl' br' ml' → CI g A s (cw g ad ar' fl' ++ xo g ao fo' ++ mw g ad2 br' ml') H locs → lv_has ls 7 [(0, .ref b), (1, .ref (ad 0)), (2, .ref (ad2 0)), (3, .ref ao), (4, .int (nI i))] → W p l e room_1 s m #[.ref b] below meth c H locs (cells + 2) (slots + 11) Q (F0 m 865 ls [])) : W p l e room_1 s m #[.ref b] below meth c H locs cells slots Q (F0 m 108 ls []) := by
  obtain ⟨cn, rn, bn, mn, h⟩ := hRel
  have h' := h
  obtain ⟨⟨⟨a11, a12, a13⟩, ⟨a21, a22, a23⟩, ⟨a31, a32, a33⟩, ⟨a41, a42, a43⟩, ⟨b1, b2, b3, b4, b5, b6, b7, b8⟩, a6, a7, a8, a9⟩, ⟨c1, c2, c3, c4, c5, ⟨npm, c61, c62⟩, ⟨mmm, c71, c72⟩⟩, ⟨f1, f2, f3⟩, hC, hD⟩ := h'
  by_cases hS : prOK (xs (i + 1)) (xs (i + 2)) (xs (i + 3))
  · by_cases hf : rn = 100
    · exact op_property C hI hl hi (lw_property_2 l g ad ar fl (xs (i + 1)) (xs (i + 2)) (xs (i + 3)) (c_BL_property_2 l g ad ar fl (xs (i + 1)) (xs (i + 2)) (xs (i + 3)) hfl rn a21 a23 hS hf) ⟨rfl, rfl⟩) (c_MD_property_2 l g ad2 br ml (xs (i + 1)) (xs (i + 2)) (xs (i + 3)) rn a22 a23 hS hf) ⟨rfl, rfl⟩ ⟨(Nat.le_of_ble_eq_true rfl), (Nat.le_of_ble_eq_true rfl)⟩ ⟨rfl, rfl⟩ ⟨(Nat.le_of_ble_eq_true rfl), (Nat.le_of_ble_eq_true rfl)⟩ ⟨(Nat.le_of_ble_eq_true rfl), (Nat.le_of_ble_eq_true rfl)⟩ ⟨by show _ ≤ 601024; omega, by show _ ≤ 7293034; omega⟩ (fun r1 u1 h1 u2 h2 => ⟨ar, fl, br, va_up ml 0 2, rfl, rfl, h1.symm, _, _, _, _, rel_0 h 2⟩) (fun a0 f0 o0 b0 m0 H locs ls hR hI hl => W.widen (by omega) (by omega) (kk a0 f0 o0 b0 m0 H locs ls hR hI hl))
    · exact op_property C hI hl hi (lw_property_0 l g ad ar fl (xs (i + 1)) (xs (i + 2)) (xs (i + 3)) (c_BL_property_0 l g ad ar fl (xs (i + 1)) (xs (i + 2)) (xs (i + 3)) cn rn a11 a13 a21 (by omega) hS) ⟨rfl, rfl⟩) (c_MD_property_0 l g ad2 br ml (xs (i + 1)) (xs (i + 2)) (xs (i + 3)) rn a22 a23 hS (by omega)) ⟨rfl, rfl⟩ ⟨(Nat.le_of_ble_eq_true rfl), (Nat.le_of_ble_eq_true rfl)⟩ ⟨rfl, rfl⟩ ⟨(Nat.le_of_ble_eq_true rfl), (Nat.le_of_ble_eq_true rfl)⟩ ⟨(Nat.le_of_ble_eq_true rfl), (Nat.le_of_ble_eq_true rfl)⟩ ⟨by show _ ≤ 601024; omega, by show _ ≤ 7293034; omega⟩ (fun r1 u1 h1 u2 h2 => ⟨_, _, _, _, rfl, rfl, h1.1.symm, _, _, _, _, rel_property h hS (by omega)⟩) (fun a0 f0 o0 b0 m0 H locs ls hR hI hl => W.widen (by omega) (by omega) (kk a0 f0 o0 b0 m0 H locs ls hR hI hl))
  · exact op_property C hI hl hi (lw_property_1 l g ad ar fl (xs (i + 1)) (xs (i + 2)) (xs (i + 3)) (c_BL_property_1 l g ad ar fl (xs (i + 1)) (xs (i + 2)) (xs (i + 3)) hfl rn a21 a23 hS) ⟨rfl, rfl⟩) (c_MD_property_1 l g ad2 br ml (xs (i + 1)) (xs (i + 2)) (xs (i + 3)) rn a22 a23 hS) ⟨rfl, rfl⟩ ⟨(Nat.le_of_ble_eq_true rfl), (Nat.le_of_ble_eq_true rfl)⟩ ⟨rfl, rfl⟩ ⟨(Nat.le_of_ble_eq_true rfl), (Nat.le_of_ble_eq_true rfl)⟩ ⟨(Nat.le_of_ble_eq_true rfl), (Nat.le_of_ble_eq_true rfl)⟩ ⟨by show _ ≤ 601024; omega, by show _ ≤ 7293034; omega⟩ (fun r1 u1 h1 u2 h2 => ⟨ar, fl, br, va_up ml 0 1, rfl, rfl, h1.symm, _, _, _, _, rel_0 h 1⟩) (fun a0 f0 o0 b0 m0 H locs ls hR hI hl => W.widen (by omega) (by omega) (kk a0 f0 o0 b0 m0 H locs ls hR hI hl))
set_option maxRecDepth 100000 in
theorem st_bracket (C : LC p s m meth c b L xs A) (hfl : l.flags = flags0) (hI : CI g A s (cw g ad ar fl ++ xo g ao fo ++ mw g ad2 br ml) H locs) (hl : lv_has ls 7 [(0, .ref b), (1, .ref (ad 0)), (2, .ref (ad2 0)), (3, .ref ao), (4, .int (nI i))]) (hi : i + 6 ≤ L) (hRel : RelE ar fl br ml) (hcs : cells + 2 ≤ 601024 ∧ slots + 11 ≤ 7293034) (kk : ∀ ar' fl' fo' br' ml' (H : Heap) (locs : List Loc) (ls : Array Slot), RelE ar' fl' br' ml' → CI g A s (cw g ad ar' fl' ++ xo g ao fo' ++ mw g ad2 br' ml') H locs → lv_has ls 7 [(0, .ref b), (1, .ref (ad 0)), (2, .ref (ad2 0)), (3, .ref ao), (4, .int (nI i))] → W p l e room_1 s m #[.ref b] below meth c H locs (cells + 2) (slots + 11) Q (F0 m 865 ls [])) : W p l e room_1 s m #[.ref b] below meth c H locs cells slots Q (F0 m 168 ls []) := by
  obtain ⟨cn, rn, bn, mn, h⟩ := hRel
  have h' := h
  obtain ⟨⟨⟨a11, a12, a13⟩, ⟨a21, a22, a23⟩, ⟨a31, a32, a33⟩, ⟨a41, a42, a43⟩, ⟨b1, b2, b3, b4, b5, b6, b7, b8⟩, a6, a7, a8, a9⟩, ⟨c1, c2, c3, c4, c5, ⟨npm, c61, c62⟩, ⟨mmm, c71, c72⟩⟩, ⟨f1, f2, f3⟩, hC, hD⟩ := h'
  have hQ : (isch (xs (i + 1)) ∧ isch (xs (i + 2)) ∧ ¬ (xs (i + 1)) = (xs (i + 2)) ∧ ¬ ptn bn (ar 20) (ar 21) (xs (i + 1)) ≠ -1 ∧ ¬ ptn bn (ar 20) (ar 21) (xs (i + 2)) ≠ -1) ↔ (isch (xs (i + 1)) ∧ isch (xs (i + 2)) ∧ ¬ (xs (i + 1)) = (xs (i + 2)) ∧ ¬ (0 ≤ lk (br 5) (br 6) (xs (i + 1)) bn ∨ clo (br 6) (xs (i + 1)) bn) ∧ ¬ (0 ≤ lk (br 5) (br 6) (xs (i + 2)) bn ∨ clo (br 6) (xs (i + 2)) bn)) := by rw [b5, b6, ptn_ask a8, ptn_ask a8]
  have d1 : dst bn (ar 20) := by rw [b5]; exact a8.2.1
  have d2 : dst bn (ar 21) := by rw [b6]; exact a8.2.2.1
  by_cases hS : isch (xs (i + 1)) ∧ isch (xs (i + 2)) ∧ ¬ (xs (i + 1)) = (xs (i + 2)) ∧ ¬ ptn bn (ar 20) (ar 21) (xs (i + 1)) ≠ -1 ∧ ¬ ptn bn (ar 20) (ar 21) (xs (i + 2)) ≠ -1
  · by_cases hf : bn = 40
    · exact op_bracket C hI hl hi (lw_bracket_2 l g ad ar fl (xs (i + 1)) (xs (i + 2)) (c_BL_bracket_2 l g ad ar fl (xs (i + 1)) (xs (i + 2)) hfl bn a31 a33 d1 d2 hS hf) ⟨rfl, rfl⟩) (c_MD_bracket_2 l g ad2 br ml (xs (i + 1)) (xs (i + 2)) bn a32 a33 (hQ.mp hS) hf) ⟨rfl, rfl⟩ ⟨(Nat.le_of_ble_eq_true rfl), (Nat.le_of_ble_eq_true rfl)⟩ ⟨rfl, rfl⟩ ⟨(Nat.le_of_ble_eq_true rfl), (Nat.le_of_ble_eq_true rfl)⟩ ⟨(Nat.le_of_ble_eq_true rfl), (Nat.le_of_ble_eq_true rfl)⟩ ⟨by show _ ≤ 601024; omega, by show _ ≤ 7293034; omega⟩ (fun r1 u1 h1 u2 h2 => ⟨ar, fl, br, va_up ml 0 2, rfl, rfl, h1.symm, _, _, _, _, rel_0 h 2⟩) (fun a0 f0 o0 b0 m0 H locs ls hR hI hl => W.widen (by omega) (by omega) (kk a0 f0 o0 b0 m0 H locs ls hR hI hl))
    · exact op_bracket C hI hl hi (lw_bracket_0 l g ad ar fl (xs (i + 1)) (xs (i + 2)) (c_BL_bracket_0 l g ad ar fl (xs (i + 1)) (xs (i + 2)) bn a31 (by omega) d1 d2 hS) ⟨rfl, rfl⟩) (c_MD_bracket_0 l g ad2 br ml (xs (i + 1)) (xs (i + 2)) bn a32 a33 (hQ.mp hS) (by omega)) ⟨rfl, rfl⟩ ⟨(Nat.le_of_ble_eq_true rfl), (Nat.le_of_ble_eq_true rfl)⟩ ⟨rfl, rfl⟩ ⟨(Nat.le_of_ble_eq_true rfl), (Nat.le_of_ble_eq_true rfl)⟩ ⟨(Nat.le_of_ble_eq_true rfl), (Nat.le_of_ble_eq_true rfl)⟩ ⟨by show _ ≤ 601024; omega, by show _ ≤ 7293034; omega⟩ (fun r1 u1 h1 u2 h2 => ⟨_, _, _, _, rfl, rfl, h1.1.symm, _, _, _, _, rel_bracket h hS (by omega)⟩) (fun a0 f0 o0 b0 m0 H locs ls hR hI hl => W.widen (by omega) (by omega) (kk a0 f0 o0 b0 m0 H locs ls hR hI hl))
  · exact op_bracket C hI hl hi (lw_bracket_1 l g ad ar fl (xs (i + 1)) (xs (i + 2)) (c_BL_bracket_1 l g ad ar fl (xs (i + 1)) (xs (i + 2)) hfl bn a31 a33 d1 d2 hS) ⟨rfl, rfl⟩) (c_MD_bracket_1 l g ad2 br ml (xs (i + 1)) (xs (i + 2)) bn a32 a33 (fun q => hS (hQ.mpr q))) ⟨rfl, rfl⟩ ⟨(Nat.le_of_ble_eq_true rfl), (Nat.le_of_ble_eq_true rfl)⟩ ⟨rfl, rfl⟩ ⟨(Nat.le_of_ble_eq_true rfl), (Nat.le_of_ble_eq_true rfl)⟩ ⟨(Nat.le_of_ble_eq_true rfl), (Nat.le_of_ble_eq_true rfl)⟩ ⟨by show _ ≤ 601024; omega, by show _ ≤ 7293034; omega⟩ (fun r1 u1 h1 u2 h2 => ⟨ar, fl, br, va_up ml 0 1, rfl, rfl, h1.symm, _, _, _, _, rel_0 h 1⟩) (fun a0 f0 o0 b0 m0 H locs ls hR hI hl => W.widen (by omega) (by omega) (kk a0 f0 o0 b0 m0 H locs ls hR hI hl))
set_option maxRecDepth 100000 in
theorem st_mirror (C : LC p s m meth c b L xs A) (hfl : l.flags = flags0) (hI : CI g A s (cw g ad ar fl ++ xo g ao fo ++ mw g ad2 br ml) H locs) (hl : lv_has ls 7 [(0, .ref b), (1, .ref (ad 0)), (2, .ref (ad2 0)), (3, .ref ao), (4, .int (nI i))]) (hi : i + 6 ≤ L) (hRel : RelE ar fl br ml) (hcs : cells + 2 ≤ 601024 ∧ slots + 11 ≤ 7293034) (kk : ∀ ar' fl' fo' br' ml' (H : Heap) (locs : List Loc) (ls : Array Slot), RelE ar' fl' br' ml' → CI g A s (cw g ad ar' fl' ++ xo g ao fo' ++ mw g ad2 br' ml') H locs → lv_has ls 7 [(0, .ref b), (1, .ref (ad 0)), (2, .ref (ad2 0)), (3, .ref ao), (4, .int (nI i))] → W p l e room_1 s m #[.ref b] below meth c H locs (cells + 2) (slots + 11) Q (F0 m 865 ls [])) : W p l e room_1 s m #[.ref b] below meth c H locs cells slots Q (F0 m 216 ls []) := by
  obtain ⟨cn, rn, bn, mn, h⟩ := hRel
  have h' := h
  obtain ⟨⟨⟨a11, a12, a13⟩, ⟨a21, a22, a23⟩, ⟨a31, a32, a33⟩, ⟨a41, a42, a43⟩, ⟨b1, b2, b3, b4, b5, b6, b7, b8⟩, a6, a7, a8, a9⟩, ⟨c1, c2, c3, c4, c5, ⟨npm, c61, c62⟩, ⟨mmm, c71, c72⟩⟩, ⟨f1, f2, f3⟩, hC, hD⟩ := h'
  have hQ : (isch (xs (i + 1)) ∧ isch (xs (i + 2)) ∧ ¬ (xs (i + 1)) = (xs (i + 2)) ∧ ¬ ptn mn (ar 22) (ar 23) (xs (i + 1)) ≠ -1 ∧ ¬ ptn mn (ar 22) (ar 23) (xs (i + 2)) ≠ -1) ↔ (isch (xs (i + 1)) ∧ isch (xs (i + 2)) ∧ ¬ (xs (i + 1)) = (xs (i + 2)) ∧ ¬ 0 ≤ mir (br 7) (br 8) (xs (i + 1)) mn ∧ ¬ 0 ≤ mir (br 7) (br 8) (xs (i + 2)) mn) := by rw [b7, b8, mir_ask a9, mir_ask a9]
  have d1 : dst mn (ar 22) := by rw [b7]; exact a9.2.1
  have d2 : dst mn (ar 23) := by rw [b8]; exact a9.2.2.1
  by_cases hS : isch (xs (i + 1)) ∧ isch (xs (i + 2)) ∧ ¬ (xs (i + 1)) = (xs (i + 2)) ∧ ¬ ptn mn (ar 22) (ar 23) (xs (i + 1)) ≠ -1 ∧ ¬ ptn mn (ar 22) (ar 23) (xs (i + 2)) ≠ -1
  · by_cases hf : mn = 40
    · exact op_mirror C hI hl hi (lw_mirror_2 l g ad ar fl (xs (i + 1)) (xs (i + 2)) (c_BL_mirror_2 l g ad ar fl (xs (i + 1)) (xs (i + 2)) hfl mn a41 a43 d1 d2 hS hf) ⟨rfl, rfl⟩) (c_MD_mirror_2 l g ad2 br ml (xs (i + 1)) (xs (i + 2)) mn a42 a43 (hQ.mp hS) hf) ⟨rfl, rfl⟩ ⟨(Nat.le_of_ble_eq_true rfl), (Nat.le_of_ble_eq_true rfl)⟩ ⟨rfl, rfl⟩ ⟨(Nat.le_of_ble_eq_true rfl), (Nat.le_of_ble_eq_true rfl)⟩ ⟨(Nat.le_of_ble_eq_true rfl), (Nat.le_of_ble_eq_true rfl)⟩ ⟨by show _ ≤ 601024; omega, by show _ ≤ 7293034; omega⟩ (fun r1 u1 h1 u2 h2 => ⟨ar, fl, br, va_up ml 0 2, rfl, rfl, h1.symm, _, _, _, _, rel_0 h 2⟩) (fun a0 f0 o0 b0 m0 H locs ls hR hI hl => W.widen (by omega) (by omega) (kk a0 f0 o0 b0 m0 H locs ls hR hI hl))
    · exact op_mirror C hI hl hi (lw_mirror_0 l g ad ar fl (xs (i + 1)) (xs (i + 2)) (c_BL_mirror_0 l g ad ar fl (xs (i + 1)) (xs (i + 2)) mn a41 (by omega) d1 d2 hS) ⟨rfl, rfl⟩) (c_MD_mirror_0 l g ad2 br ml (xs (i + 1)) (xs (i + 2)) mn a42 a43 (hQ.mp hS) (by omega)) ⟨rfl, rfl⟩ ⟨(Nat.le_of_ble_eq_true rfl), (Nat.le_of_ble_eq_true rfl)⟩ ⟨rfl, rfl⟩ ⟨(Nat.le_of_ble_eq_true rfl), (Nat.le_of_ble_eq_true rfl)⟩ ⟨(Nat.le_of_ble_eq_true rfl), (Nat.le_of_ble_eq_true rfl)⟩ ⟨by show _ ≤ 601024; omega, by show _ ≤ 7293034; omega⟩ (fun r1 u1 h1 u2 h2 => ⟨_, _, _, _, rfl, rfl, h1.1.symm, _, _, _, _, rel_mirror h hS (by omega)⟩) (fun a0 f0 o0 b0 m0 H locs ls hR hI hl => W.widen (by omega) (by omega) (kk a0 f0 o0 b0 m0 H locs ls hR hI hl))
  · exact op_mirror C hI hl hi (lw_mirror_1 l g ad ar fl (xs (i + 1)) (xs (i + 2)) (c_BL_mirror_1 l g ad ar fl (xs (i + 1)) (xs (i + 2)) hfl mn a41 a43 d1 d2 hS) ⟨rfl, rfl⟩) (c_MD_mirror_1 l g ad2 br ml (xs (i + 1)) (xs (i + 2)) mn a42 a43 (fun q => hS (hQ.mpr q))) ⟨rfl, rfl⟩ ⟨(Nat.le_of_ble_eq_true rfl), (Nat.le_of_ble_eq_true rfl)⟩ ⟨rfl, rfl⟩ ⟨(Nat.le_of_ble_eq_true rfl), (Nat.le_of_ble_eq_true rfl)⟩ ⟨(Nat.le_of_ble_eq_true rfl), (Nat.le_of_ble_eq_true rfl)⟩ ⟨by show _ ≤ 601024; omega, by show _ ≤ 7293034; omega⟩ (fun r1 u1 h1 u2 h2 => ⟨ar, fl, br, va_up ml 0 1, rfl, rfl, h1.symm, _, _, _, _, rel_0 h 1⟩) (fun a0 f0 o0 b0 m0 H locs ls hR hI hl => W.widen (by omega) (by omega) (kk a0 f0 o0 b0 m0 H locs ls hR hI hl))
set_option maxRecDepth 100000 in
theorem st_add (C : LC p s m meth c b L xs A) (hfl : l.flags = flags0) (hI : CI g A s (cw g ad ar fl ++ xo g ao fo ++ mw g ad2 br ml) H locs) (hl : lv_has ls 7 [(0, .ref b), (1, .ref (ad 0)), (2, .ref (ad2 0)), (3, .ref ao), (4, .int (nI i))]) (hi : i + 6 ≤ L) (hRel : RelE ar fl br ml) (hcs : cells + 2 ≤ 601024 ∧ slots + 11 ≤ 7293034) (kk : ∀ ar' fl' fo' br' ml' (H : Heap) (locs : List Loc) (ls : Array Slot), RelE ar' fl' br' ml' → CI g A s (cw g ad ar' fl' ++ xo g ao fo' ++ mw g ad2 br' ml') H locs → lv_has ls 7 [(0, .ref b), (1, .ref (ad 0)), (2, .ref (ad2 0)), (3, .ref ao), (4, .int (nI i))] → W p l e room_1 s m #[.ref b] below meth c H locs (cells + 2) (slots + 11) Q (F0 m 865 ls [])) : W p l e room_1 s m #[.ref b] below meth c H locs cells slots Q (F0 m 264 ls []) := by
  obtain ⟨cn, rn, bn, mn, h⟩ := hRel
  have h' := h
  obtain ⟨⟨⟨a11, a12, a13⟩, ⟨a21, a22, a23⟩, ⟨a31, a32, a33⟩, ⟨a41, a42, a43⟩, ⟨b1, b2, b3, b4, b5, b6, b7, b8⟩, a6, a7, a8, a9⟩, ⟨c1, c2, c3, c4, c5, ⟨npm, c61, c62⟩, ⟨mmm, c71, c72⟩⟩, ⟨f1, f2, f3⟩, hC, hD⟩ := h'
  obtain ⟨m5, q1, q2, q3⟩ := fst_m1 (fun j => fif j (xs (i + 1)) (xs (i + 2)) (xs (i + 3)) (xs (i + 4)) (xs (i + 5))) 5
  by_cases hS : ∀ j, j < m5 → isch (fif j (xs (i + 1)) (xs (i + 2)) (xs (i + 3)) (xs (i + 4)) (xs (i + 5)))
  · by_cases hf : cn + m5 ≤ 2000
    · exact op_add C hI hl hi (lw_add_0 l g ad ar fl ao fo (xs (i + 1)) (xs (i + 2)) (xs (i + 3)) (xs (i + 4)) (xs (i + 5)) (c_BL_add_0 l g ad ar fl (xs (i + 1)) (xs (i + 2)) (xs (i + 3)) (xs (i + 4)) (xs (i + 5)) m5 cn rn q1 q2 q3 a11 a13 a21 a23 hS hf) ⟨rfl, rfl⟩) (c_MD_add_0 l g ad2 br ml (xs (i + 1)) (xs (i + 2)) (xs (i + 3)) (xs (i + 4)) (xs (i + 5)) m5 cn q1 q2 q3 a12 a13 hS hf) ⟨rfl, rfl⟩ ⟨(Nat.le_of_ble_eq_true rfl), (Nat.le_of_ble_eq_true rfl)⟩ ⟨rfl, rfl⟩ ⟨(Nat.le_of_ble_eq_true rfl), (Nat.le_of_ble_eq_true rfl)⟩ ⟨(Nat.le_of_ble_eq_true rfl), (Nat.le_of_ble_eq_true rfl)⟩ ⟨by show _ ≤ 601024; omega, by show _ ≤ 7293034; omega⟩ (fun r1 u1 h1 r2 u2 h2 => ⟨_, _, vp_updL fo 0 u1.2.toInt64, _, _, rfl, rfl, h1.1.symm, fun _ => by rw [upL_0, show u1.2 = r2 from h1.2.trans h2.symm], _, _, _, _, rel_add h (fun j => fif j (xs (i + 1)) (xs (i + 2)) (xs (i + 3)) (xs (i + 4)) (xs (i + 5))) hf⟩) (fun a0 f0 o0 b0 m0 H locs ls hR hI hl => W.widen (by omega) (by omega) (kk a0 f0 o0 b0 m0 H locs ls hR hI hl))
    · exact op_add C hI hl hi (lw_add_2 l g ad ar fl ao fo (xs (i + 1)) (xs (i + 2)) (xs (i + 3)) (xs (i + 4)) (xs (i + 5)) (c_BL_add_2 l g ad ar fl (xs (i + 1)) (xs (i + 2)) (xs (i + 3)) (xs (i + 4)) (xs (i + 5)) hfl m5 cn q1 q2 q3 a11 a13 hS (by omega)) ⟨rfl, rfl⟩) (c_MD_add_2 l g ad2 br ml (xs (i + 1)) (xs (i + 2)) (xs (i + 3)) (xs (i + 4)) (xs (i + 5)) m5 cn q1 q2 q3 a12 a13 hS (by omega)) ⟨rfl, rfl⟩ ⟨(Nat.le_of_ble_eq_true rfl), (Nat.le_of_ble_eq_true rfl)⟩ ⟨rfl, rfl⟩ ⟨(Nat.le_of_ble_eq_true rfl), (Nat.le_of_ble_eq_true rfl)⟩ ⟨(Nat.le_of_ble_eq_true rfl), (Nat.le_of_ble_eq_true rfl)⟩ ⟨by show _ ≤ 601024; omega, by show _ ≤ 7293034; omega⟩ (fun r1 u1 h1 r2 u2 h2 => ⟨ar, fl, fo, br, va_up ml 0 2, rfl, rfl, h1.symm, fun e9 => absurd (h1.symm.trans e9) (by decide), _, _, _, _, rel_0 h 2⟩) (fun a0 f0 o0 b0 m0 H locs ls hR hI hl => W.widen (by omega) (by omega) (kk a0 f0 o0 b0 m0 H locs ls hR hI hl))
  · exact op_add C hI hl hi (lw_add_1 l g ad ar fl ao fo (xs (i + 1)) (xs (i + 2)) (xs (i + 3)) (xs (i + 4)) (xs (i + 5)) (c_BL_add_1 l g ad ar fl (xs (i + 1)) (xs (i + 2)) (xs (i + 3)) (xs (i + 4)) (xs (i + 5)) hfl m5 cn q1 q2 q3 a11 a13 hS) ⟨rfl, rfl⟩) (c_MD_add_1 l g ad2 br ml (xs (i + 1)) (xs (i + 2)) (xs (i + 3)) (xs (i + 4)) (xs (i + 5)) m5 cn q1 q2 q3 a12 a13 hS) ⟨rfl, rfl⟩ ⟨(Nat.le_of_ble_eq_true rfl), (Nat.le_of_ble_eq_true rfl)⟩ ⟨rfl, rfl⟩ ⟨(Nat.le_of_ble_eq_true rfl), (Nat.le_of_ble_eq_true rfl)⟩ ⟨(Nat.le_of_ble_eq_true rfl), (Nat.le_of_ble_eq_true rfl)⟩ ⟨by show _ ≤ 601024; omega, by show _ ≤ 7293034; omega⟩ (fun r1 u1 h1 r2 u2 h2 => ⟨ar, fl, fo, br, va_up ml 0 1, rfl, rfl, h1.symm, fun e9 => absurd (h1.symm.trans e9) (by decide), _, _, _, _, rel_0 h 1⟩) (fun a0 f0 o0 b0 m0 H locs ls hR hI hl => W.widen (by omega) (by omega) (kk a0 f0 o0 b0 m0 H locs ls hR hI hl))
set_option maxRecDepth 100000 in
theorem st_clear (C : LC p s m meth c b L xs A) (hfl : l.flags = flags0) (hI : CI g A s (cw g ad ar fl ++ xo g ao fo ++ mw g ad2 br ml) H locs) (hl : lv_has ls 7 [(0, .ref b), (1, .ref (ad 0)), (2, .ref (ad2 0)), (3, .ref ao), (4, .int (nI i))]) (hi : i + 6 ≤ L) (hRel : RelE ar fl br ml) (hcs : cells + 2 ≤ 601024 ∧ slots + 11 ≤ 7293034) (kk : ∀ ar' fl' fo' br' ml' (H : Heap) (locs : List Loc) (ls : Array Slot), RelE ar' fl' br' ml' → CI g A s (cw g ad ar' fl' ++ xo g ao fo' ++ mw g ad2 br' ml') H locs → lv_has ls 7 [(0, .ref b), (1, .ref (ad 0)), (2, .ref (ad2 0)), (3, .ref ao), (4, .int (nI i))] → W p l e room_1 s m #[.ref b] below meth c H locs (cells + 2) (slots + 11) Q (F0 m 865 ls [])) : W p l e room_1 s m #[.ref b] below meth c H locs cells slots Q (F0 m 368 ls []) := by
  obtain ⟨cn, rn, bn, mn, h⟩ := hRel
  have h' := h
  obtain ⟨⟨⟨a11, a12, a13⟩, ⟨a21, a22, a23⟩, ⟨a31, a32, a33⟩, ⟨a41, a42, a43⟩, ⟨b1, b2, b3, b4, b5, b6, b7, b8⟩, a6, a7, a8, a9⟩, ⟨c1, c2, c3, c4, c5, ⟨npm, c61, c62⟩, ⟨mmm, c71, c72⟩⟩, ⟨f1, f2, f3⟩, hC, hD⟩ := h'
  exact op_clear C hI hl h ⟨(Nat.le_of_ble_eq_true rfl), (Nat.le_of_ble_eq_true rfl)⟩ ⟨(Nat.le_of_ble_eq_true rfl), (Nat.le_of_ble_eq_true rfl)⟩ ⟨(Nat.le_of_ble_eq_true rfl), (Nat.le_of_ble_eq_true rfl)⟩ ⟨by show _ ≤ 601024; omega, by show _ ≤ 7293034; omega⟩ (fun a0 f0 o0 b0 m0 H locs ls hR hI hl => W.widen (by omega) (by omega) (kk a0 f0 o0 b0 m0 H locs ls hR hI hl))
set_option maxRecDepth 100000 in
theorem st_resolve (C : LC p s m meth c b L xs A) (hfl : l.flags = flags0) (hI : CI g A s (cw g ad ar fl ++ xo g ao fo ++ mw g ad2 br ml) H locs) (hl : lv_has ls 7 [(0, .ref b), (1, .ref (ad 0)), (2, .ref (ad2 0)), (3, .ref ao), (4, .int (nI i))]) (hi : i + 6 ≤ L) (hRel : RelE ar fl br ml) (hcs : cells + 2 ≤ 601024 ∧ slots + 11 ≤ 7293034) (kk : ∀ ar' fl' fo' br' ml' (H : Heap) (locs : List Loc) (ls : Array Slot), RelE ar' fl' br' ml' → CI g A s (cw g ad ar' fl' ++ xo g ao fo' ++ mw g ad2 br' ml') H locs → lv_has ls 7 [(0, .ref b), (1, .ref (ad 0)), (2, .ref (ad2 0)), (3, .ref ao), (4, .int (nI i))] → W p l e room_1 s m #[.ref b] below meth c H locs (cells + 2) (slots + 11) Q (F0 m 865 ls [])) : W p l e room_1 s m #[.ref b] below meth c H locs cells slots Q (F0 m 381 ls []) := by
  obtain ⟨cn, rn, bn, mn, h⟩ := hRel
  have h' := h
  obtain ⟨⟨⟨a11, a12, a13⟩, ⟨a21, a22, a23⟩, ⟨a31, a32, a33⟩, ⟨a41, a42, a43⟩, ⟨b1, b2, b3, b4, b5, b6, b7, b8⟩, a6, a7, a8, a9⟩, ⟨c1, c2, c3, c4, c5, ⟨npm, c61, c62⟩, ⟨mmm, c71, c72⟩⟩, ⟨f1, f2, f3⟩, hC, hD⟩ := h'
  rcases i32_c (xs (i + 1)) (n := 3) (by decide) with hS | ⟨told, ht, ex⟩
  · have hS2 : (xs (i + 1)) < 0 ∨ 2 < (xs (i + 1)) := hS.imp id (fun q => Int32.lt_iff_toInt_lt.mpr (by have := Int32.le_iff_toInt_le.mp q; rw [show (nI 3).toInt = 3 from by decide] at this; rw [show (2 : Int32).toInt = 2 from by decide]; omega))
    exact op_resolve C hI hl hi (lw_resolve_1 l g ad ar fl ao fo (xs (i + 1)) (c_BL_resolve_1 l g ad ar fl (xs (i + 1)) hfl hS2) ⟨rfl, rfl⟩) (c_MD_resolve_1 l g ad2 br ml (xs (i + 1)) hS2) ⟨rfl, rfl⟩ ⟨(Nat.le_of_ble_eq_true rfl), (Nat.le_of_ble_eq_true rfl)⟩ ⟨rfl, rfl⟩ ⟨(Nat.le_of_ble_eq_true rfl), (Nat.le_of_ble_eq_true rfl)⟩ ⟨(Nat.le_of_ble_eq_true rfl), (Nat.le_of_ble_eq_true rfl)⟩ ⟨by show _ ≤ 601024; omega, by show _ ≤ 7293034; omega⟩ (fun r1 u1 h1 r2 u2 h2 => ⟨ar, fl, fo, br, va_up ml 0 1, rfl, rfl, h1.symm, fun e9 => absurd (h1.symm.trans e9) (by decide), _, _, _, _, rel_0 h 1⟩) (fun a0 f0 o0 b0 m0 H locs ls hR hI hl => W.widen (by omega) (by omega) (kk a0 f0 o0 b0 m0 H locs ls hR hI hl))
  · have k1 := c_BL_resolve_0 l g ad ar fl told cn bn (by omega) a11 a13 (by rw [c1]; exact c2) a31 a33 (by rw [b5]; exact a8.2.1)
    have k2 := c_MD_resolve l g ad2 br ml told cn rn bn (by omega) a12 a13 a22 a23 a6 c2 a32 a33 (fun j hj => (a8.1 j hj).2)
    rw [← ex] at k1 k2
    exact op_resolve C hI hl hi (lw_resolve_0 l g ad ar fl ao fo (xs (i + 1)) k1 ⟨rfl, rfl⟩) k2 ⟨rfl, rfl⟩ ⟨(Nat.le_of_ble_eq_true rfl), (Nat.le_of_ble_eq_true rfl)⟩ ⟨rfl, rfl⟩ ⟨(Nat.le_of_ble_eq_true rfl), (Nat.le_of_ble_eq_true rfl)⟩ ⟨(Nat.le_of_ble_eq_true rfl), (Nat.le_of_ble_eq_true rfl)⟩ ⟨by show _ ≤ 601024; omega, by show _ ≤ 7293034; omega⟩ (fun r1 u1 h1 r2 u2 h2 => ⟨_, _, vp_updL fo 0 u1.2.toInt64, _, _, rfl, rfl, h1.1.symm, fun _ => by rw [upL_0, show u1.2 = r2 from h1.2.1.trans ((congrArg (fun z => nI z.1.length) (pgL_c (fun j hj => by rw [h2.2.1, pre_lo hj, a7 j hj]) cn (Nat.le_refl _))).trans h2.1.symm)], _, _, _, _, rel_resolve (gm := u2.1) h (by omega : told ≤ 2) ⟨rfl, rfl, rfl, rfl, rfl, rfl, rfl, rfl, rfl, rfl⟩ ⟨rfl, rfl, rfl⟩ ⟨rfl, rfl, rfl, rfl, rfl, rfl, rfl⟩ ⟨h1.2.2.1, h1.2.2.2.2⟩ h2.2.1 ⟨rfl, rfl, rfl, rfl, rfl, rfl, rfl, rfl, rfl⟩ ⟨rfl, rfl, rfl⟩ ⟨rfl, rfl, rfl, rfl, rfl, rfl, rfl, rfl⟩ h2.2.2⟩) (fun a0 f0 o0 b0 m0 H locs ls hR hI hl => W.widen (by omega) (by omega) (kk a0 f0 o0 b0 m0 H locs ls hR hI hl))
set_option maxRecDepth 100000 in
theorem st_level (C : LC p s m meth c b L xs A) (hfl : l.flags = flags0) (hI : CI g A s (cw g ad ar fl ++ xo g ao fo ++ mw g ad2 br ml) H locs) (hl : lv_has ls 7 [(0, .ref b), (1, .ref (ad 0)), (2, .ref (ad2 0)), (3, .ref ao), (4, .int (nI i))]) (hi : i + 6 ≤ L) (hRel : RelE ar fl br ml) (hcs : cells + 2 ≤ 601024 ∧ slots + 11 ≤ 7293034) (kk : ∀ ar' fl' fo' br' ml' (H : Heap) (locs : List Loc) (ls : Array Slot), RelE ar' fl' br' ml' → CI g A s (cw g ad ar' fl' ++ xo g ao fo' ++ mw g ad2 br' ml') H locs → lv_has ls 7 [(0, .ref b), (1, .ref (ad 0)), (2, .ref (ad2 0)), (3, .ref ao), (4, .int (nI i))] → W p l e room_1 s m #[.ref b] below meth c H locs (cells + 2) (slots + 11) Q (F0 m 865 ls [])) : W p l e room_1 s m #[.ref b] below meth c H locs cells slots Q (F0 m 505 ls []) := by
  obtain ⟨cn, rn, bn, mn, h⟩ := hRel
  have h' := h
  obtain ⟨⟨⟨a11, a12, a13⟩, ⟨a21, a22, a23⟩, ⟨a31, a32, a33⟩, ⟨a41, a42, a43⟩, ⟨b1, b2, b3, b4, b5, b6, b7, b8⟩, a6, a7, a8, a9⟩, ⟨c1, c2, c3, c4, c5, ⟨npm, c61, c62⟩, ⟨mmm, c71, c72⟩⟩, ⟨f1, f2, f3⟩, hC, hD⟩ := h'
  have f0 : ml 5 = 0 ∨ ml 5 = 1 := f2
  rcases f0 with h5 | h5
  · have h0 : fl 0 = 0 := f1.trans h5
    exact op_level C hI hl hi (lw_level_1 l g ad ar fl ao fo (xs (i + 1)) (c_BL_level_1 l g ad ar fl (xs (i + 1)) hfl h0) ⟨rfl, rfl⟩) (c_MD_level_1 l g ad2 br ml (xs (i + 1)) h5) ⟨rfl, rfl⟩ ⟨(Nat.le_of_ble_eq_true rfl), (Nat.le_of_ble_eq_true rfl)⟩ ⟨rfl, rfl⟩ ⟨(Nat.le_of_ble_eq_true rfl), (Nat.le_of_ble_eq_true rfl)⟩ ⟨(Nat.le_of_ble_eq_true rfl), (Nat.le_of_ble_eq_true rfl)⟩ ⟨by show _ ≤ 601024; omega, by show _ ≤ 7293034; omega⟩ (fun r1 u1 h1 r2 u2 h2 => ⟨ar, fl, fo, br, va_up ml 0 1, rfl, rfl, h1.symm, fun e9 => absurd (h1.symm.trans e9) (by decide), _, _, _, _, rel_0 h 1⟩) (fun a0 f0 o0 b0 m0 H locs ls hR hI hl => W.widen (by omega) (by omega) (kk a0 f0 o0 b0 m0 H locs ls hR hI hl))
  · have h0 : fl 0 = 1 := f1.trans h5
    rcases i32_c (xs (i + 1)) (n := cn) (by omega) with hS | ⟨q, hq, ex⟩
    · exact op_level C hI hl hi (lw_level_2 l g ad ar fl ao fo (xs (i + 1)) (c_BL_level_2 l g ad ar fl (xs (i + 1)) hfl cn h0 a11 a13 hS) ⟨rfl, rfl⟩) (c_MD_level_2 l g ad2 br ml (xs (i + 1)) cn h5 a12 a13 hS) ⟨rfl, rfl⟩ ⟨(Nat.le_of_ble_eq_true rfl), (Nat.le_of_ble_eq_true rfl)⟩ ⟨rfl, rfl⟩ ⟨(Nat.le_of_ble_eq_true rfl), (Nat.le_of_ble_eq_true rfl)⟩ ⟨(Nat.le_of_ble_eq_true rfl), (Nat.le_of_ble_eq_true rfl)⟩ ⟨by show _ ≤ 601024; omega, by show _ ≤ 7293034; omega⟩ (fun r1 u1 h1 r2 u2 h2 => ⟨ar, fl, fo, br, va_up ml 0 2, rfl, rfl, h1.symm, fun e9 => absurd (h1.symm.trans e9) (by decide), _, _, _, _, rel_0 h 2⟩) (fun a0 f0 o0 b0 m0 H locs ls hR hI hl => W.widen (by omega) (by omega) (kk a0 f0 o0 b0 m0 H locs ls hR hI hl))
    · have k1 := c_BL_level_0 l g ad ar fl q cn h0 a11 a13 hq
      have k2 := c_MD_level_0 l g ad2 br ml q cn h5 a12 a13 hq
      rw [← ex] at k1 k2
      exact op_level C hI hl hi (lw_level_0 l g ad ar fl ao fo (xs (i + 1)) k1 ⟨rfl, rfl⟩) k2 ⟨rfl, rfl⟩ ⟨(Nat.le_of_ble_eq_true rfl), (Nat.le_of_ble_eq_true rfl)⟩ ⟨rfl, rfl⟩ ⟨(Nat.le_of_ble_eq_true rfl), (Nat.le_of_ble_eq_true rfl)⟩ ⟨(Nat.le_of_ble_eq_true rfl), (Nat.le_of_ble_eq_true rfl)⟩ ⟨by show _ ≤ 601024; omega, by show _ ≤ 7293034; omega⟩ (fun r1 u1 h1 r2 u2 h2 => ⟨ar, fl, vp_updL fo 0 u1.2.toInt64, br, va_up ml 0 0, rfl, rfl, h1.1.symm, fun _ => by rw [upL_0, show u1.2 = r2 from h1.2.trans ((congrFun c3 q).trans h2.symm)], _, _, _, _, rel_0 h 0⟩) (fun a0 f0 o0 b0 m0 H locs ls hR hI hl => W.widen (by omega) (by omega) (kk a0 f0 o0 b0 m0 H locs ls hR hI hl))
set_option maxRecDepth 100000 in
theorem st_kind (C : LC p s m meth c b L xs A) (hfl : l.flags = flags0) (hI : CI g A s (cw g ad ar fl ++ xo g ao fo ++ mw g ad2 br ml) H locs) (hl : lv_has ls 7 [(0, .ref b), (1, .ref (ad 0)), (2, .ref (ad2 0)), (3, .ref ao), (4, .int (nI i))]) (hi : i + 6 ≤ L) (hRel : RelE ar fl br ml) (hcs : cells + 2 ≤ 601024 ∧ slots + 11 ≤ 7293034) (kk : ∀ ar' fl' fo' br' ml' (H : Heap) (locs : List Loc) (ls : Array Slot), RelE ar' fl' br' ml' → CI g A s (cw g ad ar' fl' ++ xo g ao fo' ++ mw g ad2 br' ml') H locs → lv_has ls 7 [(0, .ref b), (1, .ref (ad 0)), (2, .ref (ad2 0)), (3, .ref ao), (4, .int (nI i))] → W p l e room_1 s m #[.ref b] below meth c H locs (cells + 2) (slots + 11) Q (F0 m 865 ls [])) : W p l e room_1 s m #[.ref b] below meth c H locs cells slots Q (F0 m 561 ls []) := by
  obtain ⟨cn, rn, bn, mn, h⟩ := hRel
  have h' := h
  obtain ⟨⟨⟨a11, a12, a13⟩, ⟨a21, a22, a23⟩, ⟨a31, a32, a33⟩, ⟨a41, a42, a43⟩, ⟨b1, b2, b3, b4, b5, b6, b7, b8⟩, a6, a7, a8, a9⟩, ⟨c1, c2, c3, c4, c5, ⟨npm, c61, c62⟩, ⟨mmm, c71, c72⟩⟩, ⟨f1, f2, f3⟩, hC, hD⟩ := h'
  have f0 : ml 5 = 0 ∨ ml 5 = 1 := f2
  rcases f0 with h5 | h5
  · have h0 : fl 0 = 0 := f1.trans h5
    exact op_kind C hI hl hi (lw_kind_1 l g ad ar fl ao fo (xs (i + 1)) (c_BL_kind_1 l g ad ar fl (xs (i + 1)) hfl h0) ⟨rfl, rfl⟩) (c_MD_kind_1 l g ad2 br ml (xs (i + 1)) h5) ⟨rfl, rfl⟩ ⟨(Nat.le_of_ble_eq_true rfl), (Nat.le_of_ble_eq_true rfl)⟩ ⟨rfl, rfl⟩ ⟨(Nat.le_of_ble_eq_true rfl), (Nat.le_of_ble_eq_true rfl)⟩ ⟨(Nat.le_of_ble_eq_true rfl), (Nat.le_of_ble_eq_true rfl)⟩ ⟨by show _ ≤ 601024; omega, by show _ ≤ 7293034; omega⟩ (fun r1 u1 h1 r2 u2 h2 => ⟨ar, fl, fo, br, va_up ml 0 1, rfl, rfl, h1.symm, fun e9 => absurd (h1.symm.trans e9) (by decide), _, _, _, _, rel_0 h 1⟩) (fun a0 f0 o0 b0 m0 H locs ls hR hI hl => W.widen (by omega) (by omega) (kk a0 f0 o0 b0 m0 H locs ls hR hI hl))
  · have h0 : fl 0 = 1 := f1.trans h5
    rcases i32_c (xs (i + 1)) (n := cn) (by omega) with hS | ⟨q, hq, ex⟩
    · exact op_kind C hI hl hi (lw_kind_2 l g ad ar fl ao fo (xs (i + 1)) (c_BL_kind_2 l g ad ar fl (xs (i + 1)) hfl cn h0 a11 a13 hS) ⟨rfl, rfl⟩) (c_MD_kind_2 l g ad2 br ml (xs (i + 1)) cn h5 a12 a13 hS) ⟨rfl, rfl⟩ ⟨(Nat.le_of_ble_eq_true rfl), (Nat.le_of_ble_eq_true rfl)⟩ ⟨rfl, rfl⟩ ⟨(Nat.le_of_ble_eq_true rfl), (Nat.le_of_ble_eq_true rfl)⟩ ⟨(Nat.le_of_ble_eq_true rfl), (Nat.le_of_ble_eq_true rfl)⟩ ⟨by show _ ≤ 601024; omega, by show _ ≤ 7293034; omega⟩ (fun r1 u1 h1 r2 u2 h2 => ⟨ar, fl, fo, br, va_up ml 0 2, rfl, rfl, h1.symm, fun e9 => absurd (h1.symm.trans e9) (by decide), _, _, _, _, rel_0 h 2⟩) (fun a0 f0 o0 b0 m0 H locs ls hR hI hl => W.widen (by omega) (by omega) (kk a0 f0 o0 b0 m0 H locs ls hR hI hl))
    · have k1 := c_BL_kind_0 l g ad ar fl q cn h0 a11 a13 hq
      have k2 := c_MD_kind_0 l g ad2 br ml q cn h5 a12 a13 hq
      rw [← ex] at k1 k2
      obtain ⟨np, n1, n2, n3, n4, n5, hk, n7⟩ := hC h5
      exact op_kind C hI hl hi (lw_kind_0 l g ad ar fl ao fo (xs (i + 1)) k1 ⟨rfl, rfl⟩) k2 ⟨rfl, rfl⟩ ⟨(Nat.le_of_ble_eq_true rfl), (Nat.le_of_ble_eq_true rfl)⟩ ⟨rfl, rfl⟩ ⟨(Nat.le_of_ble_eq_true rfl), (Nat.le_of_ble_eq_true rfl)⟩ ⟨(Nat.le_of_ble_eq_true rfl), (Nat.le_of_ble_eq_true rfl)⟩ ⟨by show _ ≤ 601024; omega, by show _ ≤ 7293034; omega⟩ (fun r1 u1 h1 r2 u2 h2 => ⟨ar, fl, vp_updL fo 0 u1.2.toInt64, br, va_up ml 0 0, rfl, rfl, h1.1.symm, fun _ => by rw [upL_0, show u1.2 = r2 from h1.2.trans ((hk q hq).trans h2.symm)], _, _, _, _, rel_0 h 0⟩) (fun a0 f0 o0 b0 m0 H locs ls hR hI hl => W.widen (by omega) (by omega) (kk a0 f0 o0 b0 m0 H locs ls hR hI hl))
set_option maxRecDepth 100000 in
theorem st_match (C : LC p s m meth c b L xs A) (hfl : l.flags = flags0) (hI : CI g A s (cw g ad ar fl ++ xo g ao fo ++ mw g ad2 br ml) H locs) (hl : lv_has ls 7 [(0, .ref b), (1, .ref (ad 0)), (2, .ref (ad2 0)), (3, .ref ao), (4, .int (nI i))]) (hi : i + 6 ≤ L) (hRel : RelE ar fl br ml) (hcs : cells + 2 ≤ 601024 ∧ slots + 11 ≤ 7293034) (kk : ∀ ar' fl' fo' br' ml' (H : Heap) (locs : List Loc) (ls : Array Slot), RelE ar' fl' br' ml' → CI g A s (cw g ad ar' fl' ++ xo g ao fo' ++ mw g ad2 br' ml') H locs → lv_has ls 7 [(0, .ref b), (1, .ref (ad 0)), (2, .ref (ad2 0)), (3, .ref ao), (4, .int (nI i))] → W p l e room_1 s m #[.ref b] below meth c H locs (cells + 2) (slots + 11) Q (F0 m 865 ls [])) : W p l e room_1 s m #[.ref b] below meth c H locs cells slots Q (F0 m 617 ls []) := by
  obtain ⟨cn, rn, bn, mn, h⟩ := hRel
  have h' := h
  obtain ⟨⟨⟨a11, a12, a13⟩, ⟨a21, a22, a23⟩, ⟨a31, a32, a33⟩, ⟨a41, a42, a43⟩, ⟨b1, b2, b3, b4, b5, b6, b7, b8⟩, a6, a7, a8, a9⟩, ⟨c1, c2, c3, c4, c5, ⟨npm, c61, c62⟩, ⟨mmm, c71, c72⟩⟩, ⟨f1, f2, f3⟩, hC, hD⟩ := h'
  have f0 : ml 5 = 0 ∨ ml 5 = 1 := f2
  rcases f0 with h5 | h5
  · have h0 : fl 0 = 0 := f1.trans h5
    exact op_match C hI hl hi (lw_match_1 l g ad ar fl ao fo (xs (i + 1)) (c_BL_match_1 l g ad ar fl (xs (i + 1)) hfl h0) ⟨rfl, rfl⟩) (c_MD_match_1 l g ad2 br ml (xs (i + 1)) h5) ⟨rfl, rfl⟩ ⟨(Nat.le_of_ble_eq_true rfl), (Nat.le_of_ble_eq_true rfl)⟩ ⟨rfl, rfl⟩ ⟨(Nat.le_of_ble_eq_true rfl), (Nat.le_of_ble_eq_true rfl)⟩ ⟨(Nat.le_of_ble_eq_true rfl), (Nat.le_of_ble_eq_true rfl)⟩ ⟨by show _ ≤ 601024; omega, by show _ ≤ 7293034; omega⟩ (fun r1 u1 h1 r2 u2 h2 => ⟨ar, fl, fo, br, va_up ml 0 1, rfl, rfl, h1.symm, fun e9 => absurd (h1.symm.trans e9) (by decide), _, _, _, _, rel_0 h 1⟩) (fun a0 f0 o0 b0 m0 H locs ls hR hI hl => W.widen (by omega) (by omega) (kk a0 f0 o0 b0 m0 H locs ls hR hI hl))
  · have h0 : fl 0 = 1 := f1.trans h5
    rcases i32_c (xs (i + 1)) (n := cn) (by omega) with hS | ⟨q, hq, ex⟩
    · exact op_match C hI hl hi (lw_match_2 l g ad ar fl ao fo (xs (i + 1)) (c_BL_match_2 l g ad ar fl (xs (i + 1)) hfl cn h0 a11 a13 hS) ⟨rfl, rfl⟩) (c_MD_match_2 l g ad2 br ml (xs (i + 1)) cn h5 a12 a13 hS) ⟨rfl, rfl⟩ ⟨(Nat.le_of_ble_eq_true rfl), (Nat.le_of_ble_eq_true rfl)⟩ ⟨rfl, rfl⟩ ⟨(Nat.le_of_ble_eq_true rfl), (Nat.le_of_ble_eq_true rfl)⟩ ⟨(Nat.le_of_ble_eq_true rfl), (Nat.le_of_ble_eq_true rfl)⟩ ⟨by show _ ≤ 601024; omega, by show _ ≤ 7293034; omega⟩ (fun r1 u1 h1 r2 u2 h2 => ⟨ar, fl, fo, br, va_up ml 0 2, rfl, rfl, h1.symm, fun e9 => absurd (h1.symm.trans e9) (by decide), _, _, _, _, rel_0 h 2⟩) (fun a0 f0 o0 b0 m0 H locs ls hR hI hl => W.widen (by omega) (by omega) (kk a0 f0 o0 b0 m0 H locs ls hR hI hl))
    · have k1 := c_BL_match_0 l g ad ar fl q cn h0 a11 a13 hq
      have k2 := c_MD_match_0 l g ad2 br ml q cn h5 a12 a13 hq
      rw [← ex] at k1 k2
      exact op_match C hI hl hi (lw_match_0 l g ad ar fl ao fo (xs (i + 1)) k1 ⟨rfl, rfl⟩) k2 ⟨rfl, rfl⟩ ⟨(Nat.le_of_ble_eq_true rfl), (Nat.le_of_ble_eq_true rfl)⟩ ⟨rfl, rfl⟩ ⟨(Nat.le_of_ble_eq_true rfl), (Nat.le_of_ble_eq_true rfl)⟩ ⟨(Nat.le_of_ble_eq_true rfl), (Nat.le_of_ble_eq_true rfl)⟩ ⟨by show _ ≤ 601024; omega, by show _ ≤ 7293034; omega⟩ (fun r1 u1 h1 r2 u2 h2 => ⟨ar, fl, vp_updL fo 0 u1.2.toInt64, br, va_up ml 0 0, rfl, rfl, h1.1.symm, fun _ => by rw [upL_0, show u1.2 = r2 from h1.2.trans ((congrFun c1 q).trans h2.symm)], _, _, _, _, rel_0 h 0⟩) (fun a0 f0 o0 b0 m0 H locs ls hR hI hl => W.widen (by omega) (by omega) (kk a0 f0 o0 b0 m0 H locs ls hR hI hl))
set_option maxRecDepth 100000 in
theorem st_paragraph (C : LC p s m meth c b L xs A) (hfl : l.flags = flags0) (hI : CI g A s (cw g ad ar fl ++ xo g ao fo ++ mw g ad2 br ml) H locs) (hl : lv_has ls 7 [(0, .ref b), (1, .ref (ad 0)), (2, .ref (ad2 0)), (3, .ref ao), (4, .int (nI i))]) (hi : i + 6 ≤ L) (hRel : RelE ar fl br ml) (hcs : cells + 2 ≤ 601024 ∧ slots + 11 ≤ 7293034) (kk : ∀ ar' fl' fo' br' ml' (H : Heap) (locs : List Loc) (ls : Array Slot), RelE ar' fl' br' ml' → CI g A s (cw g ad ar' fl' ++ xo g ao fo' ++ mw g ad2 br' ml') H locs → lv_has ls 7 [(0, .ref b), (1, .ref (ad 0)), (2, .ref (ad2 0)), (3, .ref ao), (4, .int (nI i))] → W p l e room_1 s m #[.ref b] below meth c H locs (cells + 2) (slots + 11) Q (F0 m 865 ls [])) : W p l e room_1 s m #[.ref b] below meth c H locs cells slots Q (F0 m 437 ls []) := by
  obtain ⟨cn, rn, bn, mn, h⟩ := hRel
  have h' := h
  obtain ⟨⟨⟨a11, a12, a13⟩, ⟨a21, a22, a23⟩, ⟨a31, a32, a33⟩, ⟨a41, a42, a43⟩, ⟨b1, b2, b3, b4, b5, b6, b7, b8⟩, a6, a7, a8, a9⟩, ⟨c1, c2, c3, c4, c5, ⟨npm, c61, c62⟩, ⟨mmm, c71, c72⟩⟩, ⟨f1, f2, f3⟩, hC, hD⟩ := h'
  have f0 : ml 5 = 0 ∨ ml 5 = 1 := f2
  rcases f0 with h5 | h5
  · have h0 : fl 0 = 0 := f1.trans h5
    exact op_paragraph C hI hl hi (lw_paragraph_1 l g ad ar fl ao fo (xs (i + 1)) (xs (i + 2)) (c_BL_paragraph_1 l g ad ar fl (xs (i + 1)) (xs (i + 2)) hfl h0) ⟨rfl, rfl⟩) (c_MD_paragraph_1 l g ad2 br ml (xs (i + 1)) (xs (i + 2)) npm h5 c61 c62) ⟨rfl, rfl⟩ ⟨(Nat.le_of_ble_eq_true rfl), (Nat.le_of_ble_eq_true rfl)⟩ ⟨rfl, rfl⟩ ⟨(Nat.le_of_ble_eq_true rfl), (Nat.le_of_ble_eq_true rfl)⟩ ⟨(Nat.le_of_ble_eq_true rfl), (Nat.le_of_ble_eq_true rfl)⟩ ⟨by show _ ≤ 601024; omega, by show _ ≤ 7293034; omega⟩ (fun r1 u1 h1 r2 u2 h2 => ⟨ar, fl, fo, br, va_up ml 0 1, rfl, rfl, h1.symm, fun e9 => absurd (h1.symm.trans e9) (by decide), _, _, _, _, rel_0 h 1⟩) (fun a0 f0 o0 b0 m0 H locs ls hR hI hl => W.widen (by omega) (by omega) (kk a0 f0 o0 b0 m0 H locs ls hR hI hl))
  · have h0 : fl 0 = 1 := f1.trans h5
    obtain ⟨np, n1, n2, n3, n4, n5, n6, n7⟩ := hC h5
    have hnp : np ≤ 2000 := by have := (pgL_len (ar 13) cn cn).1; omega
    rcases i32_c (xs (i + 1)) (n := np) (by omega) with hS | ⟨k, hk, ex⟩
    · exact op_paragraph C hI hl hi (lw_paragraph_2 l g ad ar fl ao fo (xs (i + 1)) (xs (i + 2)) (c_BL_paragraph_2 l g ad ar fl (xs (i + 1)) (xs (i + 2)) hfl np h0 n1 hnp (hS.elim Or.inl (fun q => Or.inr (Or.inl q)))) ⟨rfl, rfl⟩) (c_MD_paragraph_2 l g ad2 br ml (xs (i + 1)) (xs (i + 2)) np h5 n2 hnp (hS.elim Or.inl (fun q => Or.inr (Or.inl q)))) ⟨rfl, rfl⟩ ⟨(Nat.le_of_ble_eq_true rfl), (Nat.le_of_ble_eq_true rfl)⟩ ⟨rfl, rfl⟩ ⟨(Nat.le_of_ble_eq_true rfl), (Nat.le_of_ble_eq_true rfl)⟩ ⟨(Nat.le_of_ble_eq_true rfl), (Nat.le_of_ble_eq_true rfl)⟩ ⟨by show _ ≤ 601024; omega, by show _ ≤ 7293034; omega⟩ (fun r1 u1 h1 r2 u2 h2 => ⟨ar, fl, fo, br, va_up ml 0 2, rfl, rfl, h1.symm, fun e9 => absurd (h1.symm.trans e9) (by decide), _, _, _, _, rel_0 h 2⟩) (fun a0 f0 o0 b0 m0 H locs ls hR hI hl => W.widen (by omega) (by omega) (kk a0 f0 o0 b0 m0 H locs ls hR hI hl))
    · rcases i32_c (xs (i + 2)) (n := 4) (by decide) with hS | ⟨y, hy, ey⟩
      · exact op_paragraph C hI hl hi (lw_paragraph_2 l g ad ar fl ao fo (xs (i + 1)) (xs (i + 2)) (c_BL_paragraph_2 l g ad ar fl (xs (i + 1)) (xs (i + 2)) hfl np h0 n1 hnp (Or.inr (Or.inr hS))) ⟨rfl, rfl⟩) (c_MD_paragraph_2 l g ad2 br ml (xs (i + 1)) (xs (i + 2)) np h5 n2 hnp (Or.inr (Or.inr hS))) ⟨rfl, rfl⟩ ⟨(Nat.le_of_ble_eq_true rfl), (Nat.le_of_ble_eq_true rfl)⟩ ⟨rfl, rfl⟩ ⟨(Nat.le_of_ble_eq_true rfl), (Nat.le_of_ble_eq_true rfl)⟩ ⟨(Nat.le_of_ble_eq_true rfl), (Nat.le_of_ble_eq_true rfl)⟩ ⟨by show _ ≤ 601024; omega, by show _ ≤ 7293034; omega⟩ (fun r1 u1 h1 r2 u2 h2 => ⟨ar, fl, fo, br, va_up ml 0 2, rfl, rfl, h1.symm, fun e9 => absurd (h1.symm.trans e9) (by decide), _, _, _, _, rel_0 h 2⟩) (fun a0 f0 o0 b0 m0 H locs ls hR hI hl => W.widen (by omega) (by omega) (kk a0 f0 o0 b0 m0 H locs ls hR hI hl))
      · have k1 := c_BL_paragraph_0 l g ad ar fl k y np h0 n1 hnp hk hy
        have k2 := c_MD_paragraph_0 l g ad2 br ml k y np h5 n2 hnp hk hy
        rw [← ex, ← ey] at k1 k2
        have hpp : (if y = 0 then ar 24 k else if y = 1 then ar 25 k else if y = 2 then ar 26 k else ar 27 k) = br 14 (4 * k + y) := by
          obtain ⟨g1, g2, g3, g4, g5⟩ := n5 k hk
          obtain ⟨p1, p2⟩ := prel_at n4 k (by omega)
          rcases (by omega : y = 0 ∨ y = 1 ∨ y = 2 ∨ y = 3) with z | z | z | z <;> subst z
          · exact p1.trans g1.symm
          · exact p2.trans g2.symm
          · exact g3
          · exact g5
        exact op_paragraph C hI hl hi (lw_paragraph_0 l g ad ar fl ao fo (xs (i + 1)) (xs (i + 2)) k1 ⟨rfl, rfl⟩) k2 ⟨rfl, rfl⟩ ⟨(Nat.le_of_ble_eq_true rfl), (Nat.le_of_ble_eq_true rfl)⟩ ⟨rfl, rfl⟩ ⟨(Nat.le_of_ble_eq_true rfl), (Nat.le_of_ble_eq_true rfl)⟩ ⟨(Nat.le_of_ble_eq_true rfl), (Nat.le_of_ble_eq_true rfl)⟩ ⟨by show _ ≤ 601024; omega, by show _ ≤ 7293034; omega⟩ (fun r1 u1 h1 r2 u2 h2 => ⟨ar, fl, vp_updL fo 0 u1.2.toInt64, br, va_up ml 0 0, rfl, rfl, h1.1.symm, fun _ => by rw [upL_0, show u1.2 = r2 from h1.2.trans (hpp.trans h2.symm)], _, _, _, _, rel_0 h 0⟩) (fun a0 f0 o0 b0 m0 H locs ls hR hI hl => W.widen (by omega) (by omega) (kk a0 f0 o0 b0 m0 H locs ls hR hI hl))
set_option maxRecDepth 100000 in
theorem st_line (C : LC p s m meth c b L xs A) (hfl : l.flags = flags0) (hI : CI g A s (cw g ad ar fl ++ xo g ao fo ++ mw g ad2 br ml) H locs) (hl : lv_has ls 7 [(0, .ref b), (1, .ref (ad 0)), (2, .ref (ad2 0)), (3, .ref ao), (4, .int (nI i))]) (hi : i + 6 ≤ L) (hRel : RelE ar fl br ml) (hcs : cells + 2 ≤ 601024 ∧ slots + 11 ≤ 7293034) (kk : ∀ ar' fl' fo' br' ml' (H : Heap) (locs : List Loc) (ls : Array Slot), RelE ar' fl' br' ml' → CI g A s (cw g ad ar' fl' ++ xo g ao fo' ++ mw g ad2 br' ml') H locs → lv_has ls 7 [(0, .ref b), (1, .ref (ad 0)), (2, .ref (ad2 0)), (3, .ref ao), (4, .int (nI i))] → W p l e room_1 s m #[.ref b] below meth c H locs (cells + 2) (slots + 11) Q (F0 m 865 ls [])) : W p l e room_1 s m #[.ref b] below meth c H locs cells slots Q (F0 m 673 ls []) := by
  obtain ⟨cn, rn, bn, mn, h⟩ := hRel
  have h' := h
  obtain ⟨⟨⟨a11, a12, a13⟩, ⟨a21, a22, a23⟩, ⟨a31, a32, a33⟩, ⟨a41, a42, a43⟩, ⟨b1, b2, b3, b4, b5, b6, b7, b8⟩, a6, a7, a8, a9⟩, ⟨c1, c2, c3, c4, c5, ⟨npm, c61, c62⟩, ⟨mmm, c71, c72⟩⟩, ⟨f1, f2, f3⟩, hC, hD⟩ := h'
  have f0 : ml 5 = 0 ∨ ml 5 = 1 := f2
  rcases f0 with h5 | h5
  · have h0 : fl 0 = 0 := f1.trans h5
    exact op_line C hI hl hi (lw_line_1 l g ad ar fl ao fo (xs (i + 1)) (xs (i + 2)) (c_BL_line_1 l g ad ar fl (xs (i + 1)) (xs (i + 2)) hfl h0) ⟨rfl, rfl⟩) (c_MD_line_1 l g ad2 br ml (xs (i + 1)) (xs (i + 2)) cn h5 a12 a13) ⟨rfl, rfl⟩ ⟨(Nat.le_of_ble_eq_true rfl), (Nat.le_of_ble_eq_true rfl)⟩ ⟨rfl, rfl⟩ ⟨(Nat.le_of_ble_eq_true rfl), (Nat.le_of_ble_eq_true rfl)⟩ ⟨(Nat.le_of_ble_eq_true rfl), (Nat.le_of_ble_eq_true rfl)⟩ ⟨by show _ ≤ 601024; omega, by show _ ≤ 7293034; omega⟩ (fun r1 u1 h1 r2 u2 h2 => ⟨ar, fl, fo, br, va_up ml 0 1, rfl, rfl, h1.symm, fun e9 => absurd (h1.symm.trans e9) (by decide), _, _, _, _, rel_0 h 1⟩) (fun a0 f0 o0 b0 m0 H locs ls hR hI hl => W.widen (by omega) (by omega) (kk a0 f0 o0 b0 m0 H locs ls hR hI hl))
  · have h0 : fl 0 = 1 := f1.trans h5
    obtain ⟨np, n1, n2, n3, n4, n5, n6, n7⟩ := hC h5
    have hnp : np ≤ 2000 := by have := (pgL_len (ar 13) cn cn).1; omega
    rcases i32_c (xs (i + 1)) (n := cn) (by omega) with hS | ⟨fr, hfr, ex⟩
    · exact op_line C hI hl hi (lw_line_2 l g ad ar fl ao fo (xs (i + 1)) (xs (i + 2)) (c_BL_line_2 l g ad ar fl (xs (i + 1)) (xs (i + 2)) hfl cn h0 a11 a13 hS) ⟨rfl, rfl⟩) (c_MD_line_2 l g ad2 br ml (xs (i + 1)) (xs (i + 2)) cn h5 a12 a13 (hS.elim Or.inl (fun q => Or.inr (Or.inl q)))) ⟨rfl, rfl⟩ ⟨(Nat.le_of_ble_eq_true rfl), (Nat.le_of_ble_eq_true rfl)⟩ ⟨rfl, rfl⟩ ⟨(Nat.le_of_ble_eq_true rfl), (Nat.le_of_ble_eq_true rfl)⟩ ⟨(Nat.le_of_ble_eq_true rfl), (Nat.le_of_ble_eq_true rfl)⟩ ⟨by show _ ≤ 601024; omega, by show _ ≤ 7293034; omega⟩ (fun r1 u1 h1 r2 u2 h2 => ⟨ar, fl, fo, br, va_up ml 0 2, rfl, rfl, h1.symm, fun e9 => absurd (h1.symm.trans e9) (by decide), _, _, _, _, rel_0 h 2⟩) (fun a0 f0 o0 b0 m0 H locs ls hR hI hl => W.widen (by omega) (by omega) (kk a0 f0 o0 b0 m0 H locs ls hR hI hl))
    · have hy : ((xs (i + 2)) < 1 ∨ nI cn < (xs (i + 2))) ∨ ∃ to, 1 ≤ to ∧ to ≤ cn ∧ (xs (i + 2)) = nI to := by
        rcases i32_c (xs (i + 2)) (n := cn + 1) (by omega) with (q | q) | ⟨to, q1, q2⟩
        · exact Or.inl (Or.inl (Int32.lt_iff_toInt_lt.mpr (by have := Int32.lt_iff_toInt_lt.mp q; rw [show (0 : Int32).toInt = 0 from by decide] at this; rw [show (1 : Int32).toInt = 1 from by decide]; omega)))
        · exact Or.inl (Or.inr (Int32.lt_iff_toInt_lt.mpr (by have := Int32.le_iff_toInt_le.mp q; rw [nI_toInt (by omega)] at this; rw [nI_toInt (by omega)]; omega)))
        · by_cases z : to = 0
          · rw [z] at q2; exact Or.inl (Or.inl (by rw [q2]; decide))
          · exact Or.inr ⟨to, by omega, by omega, q2⟩
      rcases hy with hS | ⟨to, t1, t2, ey⟩
      · have k1 := c_BL_line_2b l g ad ar fl fr (xs (i + 2)) hfl cn h0 a11 a13 hfr hS
        rw [← ex] at k1
        exact op_line C hI hl hi (lw_line_2 l g ad ar fl ao fo (xs (i + 1)) (xs (i + 2)) k1 ⟨rfl, rfl⟩) (c_MD_line_2 l g ad2 br ml (xs (i + 1)) (xs (i + 2)) cn h5 a12 a13 (Or.inr (Or.inr hS))) ⟨rfl, rfl⟩ ⟨(Nat.le_of_ble_eq_true rfl), (Nat.le_of_ble_eq_true rfl)⟩ ⟨rfl, rfl⟩ ⟨(Nat.le_of_ble_eq_true rfl), (Nat.le_of_ble_eq_true rfl)⟩ ⟨(Nat.le_of_ble_eq_true rfl), (Nat.le_of_ble_eq_true rfl)⟩ ⟨by show _ ≤ 601024; omega, by show _ ≤ 7293034; omega⟩ (fun r1 u1 h1 r2 u2 h2 => ⟨ar, fl, fo, br, va_up ml 0 2, rfl, rfl, h1.symm, fun e9 => absurd (h1.symm.trans e9) (by decide), _, _, _, _, rel_0 h 2⟩) (fun a0 f0 o0 b0 m0 H locs ls hR hI hl => W.widen (by omega) (by omega) (kk a0 f0 o0 b0 m0 H locs ls hR hI hl))
      · have hE : ∀ k, k < np → ar 25 k = nI (pgAt (pgL (ar 13) cn cn).1 k).2 ∧ (pgAt (pgL (ar 13) cn cn).1 k).2 ≤ 2000 := fun k hk => by
          have := (pgAt_ok (fst := ar 13) (cn := cn) cn k (by omega)).2
          exact ⟨(prel_at n4 k (by omega)).2, by omega⟩
        obtain ⟨kf, p1, p2, p3⟩ := pg_of (f := ar 13) hfr
        obtain ⟨kt, r1, r2, r3⟩ := pg_of (f := ar 13) (q := to - 1) (cn := cn) (by omega)
        have ew : pwF (fun k => (pgAt (pgL (ar 13) cn cn).1 k).2) fr np 0 = nI kf := pwF_at np 0 (Nat.zero_le _) (by omega) (fun j _ hj => by
          have := pg_inc kf hj p1; show (pgAt (pgL (ar 13) cn cn).1 j).2 ≤ fr; omega) p3
        have eO : ∀ q kq, q < cn → kq < np → (pgAt (pgL (ar 13) cn cn).1 kq).1 ≤ q → q < (pgAt (pgL (ar 13) cn cn).1 kq).2 → ptO (br 14) q np = nI kq := fun q kq hq h1 h2 h3 =>
          ptO_at (a := fun k => (pgAt (pgL (ar 13) cn cn).1 k).1) (b := fun k => (pgAt (pgL (ar 13) cn cn).1 k).2) (by omega) np h1 (fun k hk => by
            have := pgAt_ok (fst := ar 13) (cn := cn) cn k (by omega)
            exact ⟨(n5 k hk).1, (n5 k hk).2.1, by show (pgAt (pgL (ar 13) cn cn).1 k).1 < _; omega, by show (pgAt (pgL (ar 13) cn cn).1 k).2 < _; omega⟩) (fun k hk => ⟨fun z => pg_uniq (by omega) (by omega) z.1 z.2 h2 h3, fun z => by subst z; exact ⟨h2, h3⟩⟩)
        have oF := eO fr kf hfr (by omega) p2 p3
        have oT := eO (to - 1) kt (by omega) (by omega) r2 r3
        by_cases hok : fr < to ∧ kf = kt
        · obtain ⟨hft, hkk⟩ := hok
          subst hkk
          obtain ⟨base, s1, s2⟩ := (n5 kf (by omega)).2.2.2.1
          have k1 := c_BL_line_0 l g ad ar fl fr to cn np kf base (fun k => (pgAt (pgL (ar 13) cn cn).1 k).2) h0 a11 a13 n1 hnp hE hft t2 (by omega) ew (by show to ≤ (pgAt (pgL (ar 13) cn cn).1 kf).2; omega) s2 s1 (by rw [c3]; exact c4) c5
          have k2 := c_MD_line_0 l g ad2 br ml fr to cn np kf base h5 a12 a13 n2 hnp hft t2 oF oT (by omega) ((n5 kf (by omega)).2.2.1.symm.trans s2) s1 c4
          rw [← ex, ← ey] at k1 k2
          exact op_line C hI hl hi (lw_line_0 l g ad ar fl ao fo (xs (i + 1)) (xs (i + 2)) k1 ⟨rfl, rfl⟩) k2 ⟨rfl, rfl⟩ ⟨(Nat.le_of_ble_eq_true rfl), (Nat.le_of_ble_eq_true rfl)⟩ ⟨rfl, rfl⟩ ⟨(Nat.le_of_ble_eq_true rfl), (Nat.le_of_ble_eq_true rfl)⟩ ⟨(Nat.le_of_ble_eq_true rfl), (Nat.le_of_ble_eq_true rfl)⟩ ⟨by show _ ≤ 601024; omega, by show _ ≤ 7293034; omega⟩ (fun r1 u1 h1 r2 u2 h2 => ⟨_, _, vp_updL fo 0 u1.2.toInt64, _, _, rfl, rfl, h1.1.symm, fun _ => by rw [upL_0, show u1.2 = r2 from h1.2.1.trans ((congrArg nI (rel_line (kp := 0) h hft t2 s1 h5 h1.2.2 h2.2.1 h2.2.2).1).trans h2.1.symm)], _, _, _, _, (rel_line (kp := 0) h hft t2 s1 h5 h1.2.2 h2.2.1 h2.2.2).2⟩) (fun a0 f0 o0 b0 m0 H locs ls hR hI hl => W.widen (by omega) (by omega) (kk a0 f0 o0 b0 m0 H locs ls hR hI hl))
        · have k1 := c_BL_line_3 l g ad ar fl fr to hfl cn np (fun k => (pgAt (pgL (ar 13) cn cn).1 k).2) h0 a11 a13 n1 hnp hE hfr t1 t2 (by
            by_cases z : to ≤ fr
            · exact Or.inl z
            · refine Or.inr (Or.inr ⟨kf, by omega, ew, ?_⟩)
              show (pgAt (pgL (ar 13) cn cn).1 kf).2 < to
              by_cases y : to - 1 < (pgAt (pgL (ar 13) cn cn).1 kf).2
              · exact absurd ⟨by omega, pg_uniq p1 r1 (by omega) y r2 r3⟩ hok
              · omega)
          have k2 := c_MD_line_3 l g ad2 br ml fr to cn np h5 a12 a13 n2 hnp hfr t1 t2 (by
            by_cases z : to ≤ fr
            · exact Or.inl z
            · refine Or.inr (fun y => hok ⟨by omega, ?_⟩)
              rw [oF, oT] at y
              exact nI_ij (by omega) (by omega) y)
          rw [← ex, ← ey] at k1 k2
          exact op_line C hI hl hi (lw_line_3 l g ad ar fl ao fo (xs (i + 1)) (xs (i + 2)) k1 ⟨rfl, rfl⟩) k2 ⟨rfl, rfl⟩ ⟨(Nat.le_of_ble_eq_true rfl), (Nat.le_of_ble_eq_true rfl)⟩ ⟨rfl, rfl⟩ ⟨(Nat.le_of_ble_eq_true rfl), (Nat.le_of_ble_eq_true rfl)⟩ ⟨(Nat.le_of_ble_eq_true rfl), (Nat.le_of_ble_eq_true rfl)⟩ ⟨by show _ ≤ 601024; omega, by show _ ≤ 7293034; omega⟩ (fun r1 u1 h1 r2 u2 h2 => ⟨ar, fl, fo, br, va_up ml 0 3, rfl, rfl, h1.symm, fun e9 => absurd (h1.symm.trans e9) (by decide), _, _, _, _, rel_0 h 3⟩) (fun a0 f0 o0 b0 m0 H locs ls hR hI hl => W.widen (by omega) (by omega) (kk a0 f0 o0 b0 m0 H locs ls hR hI hl))
set_option maxRecDepth 100000 in
theorem st_seen (C : LC p s m meth c b L xs A) (hfl : l.flags = flags0) (hI : CI g A s (cw g ad ar fl ++ xo g ao fo ++ mw g ad2 br ml) H locs) (hl : lv_has ls 7 [(0, .ref b), (1, .ref (ad 0)), (2, .ref (ad2 0)), (3, .ref ao), (4, .int (nI i))]) (hi : i + 6 ≤ L) (hRel : RelE ar fl br ml) (hcs : cells + 2 ≤ 601024 ∧ slots + 11 ≤ 7293034) (kk : ∀ ar' fl' fo' br' ml' (H : Heap) (locs : List Loc) (ls : Array Slot), RelE ar' fl' br' ml' → CI g A s (cw g ad ar' fl' ++ xo g ao fo' ++ mw g ad2 br' ml') H locs → lv_has ls 7 [(0, .ref b), (1, .ref (ad 0)), (2, .ref (ad2 0)), (3, .ref ao), (4, .int (nI i))] → W p l e room_1 s m #[.ref b] below meth c H locs (cells + 2) (slots + 11) Q (F0 m 865 ls [])) : W p l e room_1 s m #[.ref b] below meth c H locs cells slots Q (F0 m 741 ls []) := by
  obtain ⟨cn, rn, bn, mn, h⟩ := hRel
  have h' := h
  obtain ⟨⟨⟨a11, a12, a13⟩, ⟨a21, a22, a23⟩, ⟨a31, a32, a33⟩, ⟨a41, a42, a43⟩, ⟨b1, b2, b3, b4, b5, b6, b7, b8⟩, a6, a7, a8, a9⟩, ⟨c1, c2, c3, c4, c5, ⟨npm, c61, c62⟩, ⟨mmm, c71, c72⟩⟩, ⟨f1, f2, f3⟩, hC, hD⟩ := h'
  rcases f3 with ⟨h1, h13⟩ | ⟨h1, h5, h13⟩
  · exact op_seen C hI hl hi (lw_seen_1 l g ad ar fl ao fo (xs (i + 1)) (xs (i + 2)) (c_BL_seen_1 l g ad ar fl (xs (i + 1)) (xs (i + 2)) hfl h1) ⟨rfl, rfl⟩) (c_MD_seen_1 l g ad2 br ml (xs (i + 1)) (xs (i + 2)) (ml 5) (ml 13) mmm rfl rfl h13 c71 c72) ⟨rfl, rfl⟩ ⟨(Nat.le_of_ble_eq_true rfl), (Nat.le_of_ble_eq_true rfl)⟩ ⟨rfl, rfl⟩ ⟨(Nat.le_of_ble_eq_true rfl), (Nat.le_of_ble_eq_true rfl)⟩ ⟨(Nat.le_of_ble_eq_true rfl), (Nat.le_of_ble_eq_true rfl)⟩ ⟨by show _ ≤ 601024; omega, by show _ ≤ 7293034; omega⟩ (fun r1 u1 h1 r2 u2 h2 => ⟨ar, fl, fo, br, va_up ml 0 1, rfl, rfl, h1.symm, fun e9 => absurd (h1.symm.trans e9) (by decide), _, _, _, _, rel_0 h 1⟩) (fun a0 f0 o0 b0 m0 H locs ls hR hI hl => W.widen (by omega) (by omega) (kk a0 f0 o0 b0 m0 H locs ls hR hI hl))
  · obtain ⟨mm, O, LV, s1, s2, s3, s4, s5, s6, s7, s8⟩ := hD h1
    have hOO : ∀ j, j < mm → ∃ q, ar 41 j = nI q ∧ q < 2000 := fun j hj => ⟨O j, s4 j hj, by have := (s7 j hj).1; omega⟩
    rcases i32_c (xs (i + 1)) (n := mm) (by omega) with hS | ⟨k, hk, ex⟩
    · exact op_seen C hI hl hi (lw_seen_2 l g ad ar fl ao fo (xs (i + 1)) (xs (i + 2)) (c_BL_seen_2 l g ad ar fl (xs (i + 1)) (xs (i + 2)) hfl mm h1 s1 s3 hOO (hS.elim Or.inl (fun q => Or.inr (Or.inl q)))) ⟨rfl, rfl⟩) (c_MD_seen_2 l g ad2 br ml (xs (i + 1)) (xs (i + 2)) mm h5 h13 (hS.elim Or.inl (fun q => Or.inr (Or.inl q))) s2 s3) ⟨rfl, rfl⟩ ⟨(Nat.le_of_ble_eq_true rfl), (Nat.le_of_ble_eq_true rfl)⟩ ⟨rfl, rfl⟩ ⟨(Nat.le_of_ble_eq_true rfl), (Nat.le_of_ble_eq_true rfl)⟩ ⟨(Nat.le_of_ble_eq_true rfl), (Nat.le_of_ble_eq_true rfl)⟩ ⟨by show _ ≤ 601024; omega, by show _ ≤ 7293034; omega⟩ (fun r1 u1 h1 r2 u2 h2 => ⟨ar, fl, fo, br, va_up ml 0 2, rfl, rfl, h1.symm, fun e9 => absurd (h1.symm.trans e9) (by decide), _, _, _, _, rel_0 h 2⟩) (fun a0 f0 o0 b0 m0 H locs ls hR hI hl => W.widen (by omega) (by omega) (kk a0 f0 o0 b0 m0 H locs ls hR hI hl))
    · rcases i32_c (xs (i + 2)) (n := 3) (by decide) with hS | ⟨y, hy, ey⟩
      · exact op_seen C hI hl hi (lw_seen_2 l g ad ar fl ao fo (xs (i + 1)) (xs (i + 2)) (c_BL_seen_2 l g ad ar fl (xs (i + 1)) (xs (i + 2)) hfl mm h1 s1 s3 hOO (Or.inr (Or.inr hS))) ⟨rfl, rfl⟩) (c_MD_seen_2 l g ad2 br ml (xs (i + 1)) (xs (i + 2)) mm h5 h13 (Or.inr (Or.inr hS)) s2 s3) ⟨rfl, rfl⟩ ⟨(Nat.le_of_ble_eq_true rfl), (Nat.le_of_ble_eq_true rfl)⟩ ⟨rfl, rfl⟩ ⟨(Nat.le_of_ble_eq_true rfl), (Nat.le_of_ble_eq_true rfl)⟩ ⟨(Nat.le_of_ble_eq_true rfl), (Nat.le_of_ble_eq_true rfl)⟩ ⟨by show _ ≤ 601024; omega, by show _ ≤ 7293034; omega⟩ (fun r1 u1 h1 r2 u2 h2 => ⟨ar, fl, fo, br, va_up ml 0 2, rfl, rfl, h1.symm, fun e9 => absurd (h1.symm.trans e9) (by decide), _, _, _, _, rel_0 h 2⟩) (fun a0 f0 o0 b0 m0 H locs ls hR hI hl => W.widen (by omega) (by omega) (kk a0 f0 o0 b0 m0 H locs ls hR hI hl))
      · obtain ⟨o1, o2, o3⟩ := s7 k hk
        have k1 := c_BL_seen_0 l g ad ar fl k y mm mn O LV h1 s1 s3 s4 hk hy (by omega) o2 o3 a41 a43 (by rw [b7]; exact a9.2.1) (by rw [b8]; exact a9.2.2.1)
        have k2 := c_MD_seen_0 l g ad2 br ml k y mm mn O LV h5 h13 hk hy s2 s3 a42 a43 s5 s6 (by omega) o3
        rw [← ex, ← ey] at k1 k2
        have hsn : (if y = 0 then nI (O k) else if y = 1 then nI (LV (O k)) else if LV (O k) % 2 = 1 ∧ ptn mn (ar 22) (ar 23) (ar 12 (O k)) ≠ -1 then ptn mn (ar 22) (ar 23) (ar 12 (O k)) else ar 12 (O k)) = snM (br 1) (br 7) (br 8) mn (O k) (LV (O k)) y := by
          unfold snM
          rw [b7, b8, b1]
          have q1 := mir_ask (x := br 1 (O k)) a9
          have q2 := ptn_mir (x := br 1 (O k)) mn a9
          by_cases z0 : y = 0
          · rw [if_pos z0, if_pos z0]
          · rw [if_neg z0, if_neg z0]
            by_cases z1 : y = 1
            · rw [if_pos z1, if_pos z1]
            · rw [if_neg z1, if_neg z1]
              by_cases z2 : LV (O k) % 2 = 1 ∧ ptn mn (br 7) (br 8) (br 1 (O k)) ≠ -1
              · rw [if_pos z2, if_pos ⟨z2.1, q1.mp z2.2⟩, q2]
              · rw [if_neg z2, if_neg (fun y => z2 ⟨y.1, q1.mpr y.2⟩)]
        exact op_seen C hI hl hi (lw_seen_0 l g ad ar fl ao fo (xs (i + 1)) (xs (i + 2)) k1 ⟨rfl, rfl⟩) k2 ⟨rfl, rfl⟩ ⟨(Nat.le_of_ble_eq_true rfl), (Nat.le_of_ble_eq_true rfl)⟩ ⟨rfl, rfl⟩ ⟨(Nat.le_of_ble_eq_true rfl), (Nat.le_of_ble_eq_true rfl)⟩ ⟨(Nat.le_of_ble_eq_true rfl), (Nat.le_of_ble_eq_true rfl)⟩ ⟨by show _ ≤ 601024; omega, by show _ ≤ 7293034; omega⟩ (fun r1 u1 h1 r2 u2 h2 => ⟨ar, fl, vp_updL fo 0 u1.2.toInt64, br, va_up ml 0 0, rfl, rfl, h1.1.symm, fun _ => by rw [upL_0, show u1.2 = r2 from h1.2.trans (hsn.trans h2.symm)], _, _, _, _, rel_0 h 0⟩) (fun a0 f0 o0 b0 m0 H locs ls hR hI hl => W.widen (by omega) (by omega) (kk a0 f0 o0 b0 m0 H locs ls hR hI hl))
set_option maxRecDepth 100000 in
theorem st_place (C : LC p s m meth c b L xs A) (hfl : l.flags = flags0) (hI : CI g A s (cw g ad ar fl ++ xo g ao fo ++ mw g ad2 br ml) H locs) (hl : lv_has ls 7 [(0, .ref b), (1, .ref (ad 0)), (2, .ref (ad2 0)), (3, .ref ao), (4, .int (nI i))]) (hi : i + 6 ≤ L) (hRel : RelE ar fl br ml) (hcs : cells + 2 ≤ 601024 ∧ slots + 11 ≤ 7293034) (kk : ∀ ar' fl' fo' br' ml' (H : Heap) (locs : List Loc) (ls : Array Slot), RelE ar' fl' br' ml' → CI g A s (cw g ad ar' fl' ++ xo g ao fo' ++ mw g ad2 br' ml') H locs → lv_has ls 7 [(0, .ref b), (1, .ref (ad 0)), (2, .ref (ad2 0)), (3, .ref ao), (4, .int (nI i))] → W p l e room_1 s m #[.ref b] below meth c H locs (cells + 2) (slots + 11) Q (F0 m 865 ls [])) : W p l e room_1 s m #[.ref b] below meth c H locs cells slots Q (F0 m 809 ls []) := by
  obtain ⟨cn, rn, bn, mn, h⟩ := hRel
  have h' := h
  obtain ⟨⟨⟨a11, a12, a13⟩, ⟨a21, a22, a23⟩, ⟨a31, a32, a33⟩, ⟨a41, a42, a43⟩, ⟨b1, b2, b3, b4, b5, b6, b7, b8⟩, a6, a7, a8, a9⟩, ⟨c1, c2, c3, c4, c5, ⟨npm, c61, c62⟩, ⟨mmm, c71, c72⟩⟩, ⟨f1, f2, f3⟩, hC, hD⟩ := h'
  rcases f3 with ⟨h1, h13⟩ | ⟨h1, h5, h13⟩
  · exact op_place C hI hl hi (lw_place_1 l g ad ar fl ao fo (xs (i + 1)) (c_BL_place_1 l g ad ar fl (xs (i + 1)) hfl h1) ⟨rfl, rfl⟩) (c_MD_place_1 l g ad2 br ml (xs (i + 1)) (ml 5) (ml 13) rfl rfl h13) ⟨rfl, rfl⟩ ⟨(Nat.le_of_ble_eq_true rfl), (Nat.le_of_ble_eq_true rfl)⟩ ⟨rfl, rfl⟩ ⟨(Nat.le_of_ble_eq_true rfl), (Nat.le_of_ble_eq_true rfl)⟩ ⟨(Nat.le_of_ble_eq_true rfl), (Nat.le_of_ble_eq_true rfl)⟩ ⟨by show _ ≤ 601024; omega, by show _ ≤ 7293034; omega⟩ (fun r1 u1 h1 r2 u2 h2 => ⟨ar, fl, fo, br, va_up ml 0 1, rfl, rfl, h1.symm, fun e9 => absurd (h1.symm.trans e9) (by decide), _, _, _, _, rel_0 h 1⟩) (fun a0 f0 o0 b0 m0 H locs ls hR hI hl => W.widen (by omega) (by omega) (kk a0 f0 o0 b0 m0 H locs ls hR hI hl))
  · obtain ⟨mm, O, LV, s1, s2, s3, s4, s5, s6, s7, s8⟩ := hD h1
    rcases i32_c (xs (i + 1)) (n := cn) (by omega) with hS | ⟨q, hq, ex⟩
    · exact op_place C hI hl hi (lw_place_2 l g ad ar fl ao fo (xs (i + 1)) (c_BL_place_2 l g ad ar fl (xs (i + 1)) hfl cn h1 a11 a13 hS) ⟨rfl, rfl⟩) (c_MD_place_2 l g ad2 br ml (xs (i + 1)) cn h5 h13 a12 a13 hS) ⟨rfl, rfl⟩ ⟨(Nat.le_of_ble_eq_true rfl), (Nat.le_of_ble_eq_true rfl)⟩ ⟨rfl, rfl⟩ ⟨(Nat.le_of_ble_eq_true rfl), (Nat.le_of_ble_eq_true rfl)⟩ ⟨(Nat.le_of_ble_eq_true rfl), (Nat.le_of_ble_eq_true rfl)⟩ ⟨by show _ ≤ 601024; omega, by show _ ≤ 7293034; omega⟩ (fun r1 u1 h1 r2 u2 h2 => ⟨ar, fl, fo, br, va_up ml 0 2, rfl, rfl, h1.symm, fun e9 => absurd (h1.symm.trans e9) (by decide), _, _, _, _, rel_0 h 2⟩) (fun a0 f0 o0 b0 m0 H locs ls hR hI hl => W.widen (by omega) (by omega) (kk a0 f0 o0 b0 m0 H locs ls hR hI hl))
    · have k1 := c_BL_place_0 l g ad ar fl q cn h1 a11 a13 hq
      have k2 := c_MD_place_0 l g ad2 br ml q cn mm h5 h13 a12 a13 hq s2 s3
      rw [← ex] at k1 k2
      exact op_place C hI hl hi (lw_place_0 l g ad ar fl ao fo (xs (i + 1)) k1 ⟨rfl, rfl⟩) k2 ⟨rfl, rfl⟩ ⟨(Nat.le_of_ble_eq_true rfl), (Nat.le_of_ble_eq_true rfl)⟩ ⟨rfl, rfl⟩ ⟨(Nat.le_of_ble_eq_true rfl), (Nat.le_of_ble_eq_true rfl)⟩ ⟨(Nat.le_of_ble_eq_true rfl), (Nat.le_of_ble_eq_true rfl)⟩ ⟨by show _ ≤ 601024; omega, by show _ ≤ 7293034; omega⟩ (fun r1 u1 h1 r2 u2 h2 => ⟨ar, fl, vp_updL fo 0 u1.2.toInt64, br, va_up ml 0 0, rfl, rfl, h1.1.symm, fun _ => by rw [upL_0, show u1.2 = r2 from h1.2.trans ((s8 q hq).trans h2.symm)], _, _, _, _, rel_0 h 0⟩) (fun a0 f0 o0 b0 m0 H locs ls hR hI hl => W.widen (by omega) (by omega) (kk a0 f0 o0 b0 m0 H locs ls hR hI hl))
end LWC
