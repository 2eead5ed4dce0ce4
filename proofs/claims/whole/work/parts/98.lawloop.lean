/-! 98: the law: its loop; what holds at its entry -/
theorem rel_start : Rel (fun _ _ => 0) (fun _ => 0) (fun _ _ => 0) (fun _ => 0) 0 0 0 0 := by
  have hV : okV (fun _ => 0) := fun q _ => Or.inr ⟨0, by omega, rfl⟩
  exact ⟨⟨⟨rfl, rfl, by omega⟩, ⟨rfl, rfl, by omega⟩, ⟨rfl, rfl, by omega⟩, ⟨rfl, rfl, by omega⟩, ⟨rfl, rfl, rfl, rfl, rfl, rfl, rfl, rfl⟩, fun j h => absurd h (Nat.not_lt_zero j), fun j h => absurd h (Nat.not_lt_zero j), prK_0, prK_0⟩, ⟨rfl, fun i _ => Or.inr ⟨0, by omega, rfl⟩, rfl, hV, hV, ⟨0, rfl, by omega⟩, ⟨0, rfl, by omega⟩⟩, ⟨rfl, Or.inl rfl, Or.inl ⟨rfl, Or.inl rfl⟩⟩, fun e => absurd e z1, fun e => absurd e z1⟩
theorem len_6 {i L : Nat} (hL : L ≤ 3072) (hi : i ≤ 4000) (h : ¬ nI L - 6 < nI i) : i + 6 ≤ L := by
  by_cases z : 6 ≤ L
  · have e : nI L - 6 = nI (L - 6) := by
      have : nI (L - 6) + nI 6 = nI L := by rw [nI_add]; congr 1; omega
      rw [← this]
      show nI (L - 6) + 6 - 6 = _
      rw [Int32.add_sub_cancel]
    rw [e, nI_ltI (by omega) (by omega)] at h
    omega
  · exfalso
    apply h
    have q : ∀ k : Fin 6, (nI k.1 - 6).toInt < 0 := by decide
    have q2 := q ⟨L, by omega⟩
    apply Int32.lt_iff_toInt_lt.mpr
    rw [nI_toInt (n := i) (by omega)]
    have q3 : (nI L - 6).toInt < 0 := q2
    omega
section LWL
variable {p : Program} {l : Launch} {e : Env} {s : State} {m : MethodId} {below : List Frame} {meth : Method} {c : Code} {Q : State → Prop}
variable {g : Geo} {A : Nat → Prop} {b L : Nat} {xs : Nat → Int32} {ad ad2 : Nat → Nat} {ao : Nat}
set_option maxRecDepth 100000 in
theorem lw_loop (C : LC p s m meth c b L xs A) (hfl : l.flags = flags0)
    (hend : ∀ (H : Heap) (locs : List Loc) (ls : Array Slot) (cells slots : Nat), (∀ z ∈ locs, A z.base) → cells ≤ 601024 → slots ≤ 7293034 → W p l e room_1 s m #[.ref b] below meth c H locs cells slots Q (F0 m 871 ls [])) :
    ∀ (n i : Nat) (ar : Nat → Nat → Int32) (fl : Nat → Int32) (fo : Nat → Int64) (br : Nat → Nat → Int32) (ml : Nat → Int32) (H : Heap) (locs : List Loc) (ls : Array Slot) (cells slots : Nat), L ≤ i + n → i ≤ L → cells ≤ 100 + 2 * i → slots ≤ 100000 + 11 * i → RelE ar fl br ml → CI g A s (cw g ad ar fl ++ xo g ao fo ++ mw g ad2 br ml) H locs → lv_has ls 7 [(0, .ref b), (1, .ref (ad 0)), (2, .ref (ad2 0)), (3, .ref ao), (4, .int (nI i))] → W p l e room_1 s m #[.ref b] below meth c H locs cells slots Q (F0 m 23 ls []) := by
  obtain ⟨M, hX, hA, hS, hbl, hL⟩ := C
  have C : LC p s m meth c b L xs A := ⟨M, hX, hA, hS, hbl, hL⟩
  have hx := M.1
  have hb := M.2.1
  intro n
  induction n with
  | zero =>
    intro i ar fl fo br ml H locs ls cells slots h1 h2 h3 h4 hRel hI hl
    refine lv_iload hx hb d_law_23 (lv_at hl 4 rfl) ?_
    refine lv_aload_n hx hb d_law_25 rfl (lv_at hl 0 rfl) ?_
    refine va_slen hx hb hS hbl (fun h => by have := hA b h; omega) hI.2.2.2.2.1 d_law_26 ?_
    refine lv_bipush (v := 6) hx hb d_law_27 (by decide) ?_
    refine lv_isub hx hb d_law_29 ?_
    refine lv_icmp_gt (tgt := 871) hx hb d_law_30 (by decide) (fun _ => hend _ _ _ _ _ hI.2.2.2.2.1.2.2 (by omega) (by omega)) (fun h => ?_)
    have := len_6 hL (by omega) h
    omega
  | succ n ih =>
    intro i ar fl fo br ml H locs ls cells slots h1 h2 h3 h4 hRel hI hl
    refine lv_iload hx hb d_law_23 (lv_at hl 4 rfl) ?_
    refine lv_aload_n hx hb d_law_25 rfl (lv_at hl 0 rfl) ?_
    refine va_slen hx hb hS hbl (fun h => by have := hA b h; omega) hI.2.2.2.2.1 d_law_26 ?_
    refine lv_bipush (v := 6) hx hb d_law_27 (by decide) ?_
    refine lv_isub hx hb d_law_29 ?_
    refine lv_icmp_gt (tgt := 871) hx hb d_law_30 (by decide) (fun _ => hend _ _ _ _ _ hI.2.2.2.2.1.2.2 (by omega) (by omega)) (fun h => ?_)
    have hi := len_6 hL (by omega) h
    have hn : ∀ ar' fl' fo' br' ml' (H : Heap) (locs : List Loc) (ls : Array Slot), RelE ar' fl' br' ml' → CI g A s (cw g ad ar' fl' ++ xo g ao fo' ++ mw g ad2 br' ml') H locs → lv_has ls 7 [(0, .ref b), (1, .ref (ad 0)), (2, .ref (ad2 0)), (3, .ref ao), (4, .int (nI i))] → W p l e room_1 s m #[.ref b] below meth c H locs (cells + 2) (slots + 11) Q (F0 m 865 ls []) := by
      intro ar' fl' fo' br' ml' H locs ls hRel hI hl
      refine lv_iinc (k := 4) (v := nI (i + 6)) (lv' := [(4, .int (nI (i + 6))), (0, .ref b), (1, .ref (ad 0)), (2, .ref (ad2 0)), (3, .ref ao)]) hx hb d_law_865 hl rfl (by rw [← nI_add]; rfl) (by decide) rfl (fun ls hl => ?_)
      refine lv_goto (tgt := 23) hx hb d_law_868 (by decide) ?_
      exact ih (i + 6) ar' fl' fo' br' ml' H locs ls _ _ (by omega) (by omega) (by omega) (by omega) hRel hI (lv_sub hl [1, 2, 3, 4, 0] rfl)
    have hcs : cells + 2 ≤ 601024 ∧ slots + 11 ≤ 7293034 := ⟨by omega, by omega⟩
    refine lv_aload_n hx hb d_law_33 rfl (lv_at hl 0 rfl) ?_
    refine lv_iload hx hb d_law_34 (lv_at hl 4 rfl) ?_
    refine va_sld hx hb hS hbl (fun h => by have := hA b h; omega) hI.2.2.2.2.1 (vp_in_nI (show i < L by omega) (by omega)) d_law_36 ?_
    refine lv_bipush (v := 15) hx hb d_law_37 (by decide) ?_
    refine lv_iand hx hb d_law_39 ?_
    generalize xs (nI i).toNatClampNeg &&& 15 = x
    rcases i32_c x (n := 13) (by decide) with hS2 | ⟨q, hq, ex⟩
    · refine lv_tableOut (tgt := 865) hx hb d_law_40 (hS2.imp (fun z => by have := Int32.lt_iff_toInt_lt.mp z; rw [show (0 : Int32).toInt = 0 from by decide] at this; exact this) (fun z => by have := Int32.le_iff_toInt_le.mp z; rw [show (nI 13).toInt = 13 from by decide] at this; omega)) (by decide) ?_
      exact W.widen (by omega) (by omega) (hn ar fl fo br ml H locs ls hRel hI hl)
    · subst ex
      rcases (by omega : q = 0 ∨ q = 1 ∨ q = 2 ∨ q = 3 ∨ q = 4 ∨ q = 5 ∨ q = 6 ∨ q = 7 ∨ q = 8 ∨ q = 9 ∨ q = 10 ∨ q = 11 ∨ q = 12) with z | z | z | z | z | z | z | z | z | z | z | z | z <;> subst z
      · exact lv_tableIn (tgt := 108) hx hb d_law_40 (by decide) (by decide) rfl (by decide) (st_property C hfl hI hl hi hRel hcs hn)
      · exact lv_tableIn (tgt := 168) hx hb d_law_40 (by decide) (by decide) rfl (by decide) (st_bracket C hfl hI hl hi hRel hcs hn)
      · exact lv_tableIn (tgt := 216) hx hb d_law_40 (by decide) (by decide) rfl (by decide) (st_mirror C hfl hI hl hi hRel hcs hn)
      · exact lv_tableIn (tgt := 264) hx hb d_law_40 (by decide) (by decide) rfl (by decide) (st_add C hfl hI hl hi hRel hcs hn)
      · exact lv_tableIn (tgt := 368) hx hb d_law_40 (by decide) (by decide) rfl (by decide) (st_clear C hfl hI hl hi hRel hcs hn)
      · exact lv_tableIn (tgt := 381) hx hb d_law_40 (by decide) (by decide) rfl (by decide) (st_resolve C hfl hI hl hi hRel hcs hn)
      · exact lv_tableIn (tgt := 437) hx hb d_law_40 (by decide) (by decide) rfl (by decide) (st_paragraph C hfl hI hl hi hRel hcs hn)
      · exact lv_tableIn (tgt := 505) hx hb d_law_40 (by decide) (by decide) rfl (by decide) (st_level C hfl hI hl hi hRel hcs hn)
      · exact lv_tableIn (tgt := 561) hx hb d_law_40 (by decide) (by decide) rfl (by decide) (st_kind C hfl hI hl hi hRel hcs hn)
      · exact lv_tableIn (tgt := 617) hx hb d_law_40 (by decide) (by decide) rfl (by decide) (st_match C hfl hI hl hi hRel hcs hn)
      · exact lv_tableIn (tgt := 673) hx hb d_law_40 (by decide) (by decide) rfl (by decide) (st_line C hfl hI hl hi hRel hcs hn)
      · exact lv_tableIn (tgt := 741) hx hb d_law_40 (by decide) (by decide) rfl (by decide) (st_seen C hfl hI hl hi hRel hcs hn)
      · exact lv_tableIn (tgt := 809) hx hb d_law_40 (by decide) (by decide) rfl (by decide) (st_place C hfl hI hl hi hRel hcs hn)
end LWL
theorem lw_geo {s : State} {args : Array Value} (hts : ∀ w ∈ gw, w.before args s = true) : ∃ g : Geo, va_K g.1 cls (gt g) s := by
  have key : ∀ q ∈ cls, ∃ (cC : ClassId) (iS : Nat → Nat), u_Kn s q.1 q.2.1 q.2.2 cC iS := List.forall_mem_cons.mpr ⟨u_known hts i_TX (hts _ m1_29), List.forall_mem_cons.mpr ⟨u_known hts i_PR (hts _ m1_91), List.forall_mem_cons.mpr ⟨u_known hts i_IS (hts _ m1_114), List.forall_mem_cons.mpr ⟨u_known hts i_EX (hts _ m1_127), List.forall_mem_cons.mpr ⟨u_known hts i_RU (hts _ m1_162), List.forall_mem_cons.mpr ⟨u_known hts i_SQ (hts _ m1_191), List.forall_mem_cons.mpr ⟨u_known hts i_WK (hts _ m1_230), List.forall_mem_cons.mpr ⟨u_known hts i_BR (hts _ m2_3), List.forall_mem_cons.mpr ⟨u_known hts i_LN (hts _ m2_73), List.forall_mem_cons.mpr ⟨u_known hts i_RS (hts _ m1_108), List.forall_mem_cons.mpr ⟨u_known hts i_BL (hts _ m1_21), List.forall_mem_cons.mpr ⟨u_known hts i_MD (hts _ m4_167), fun _ h => absurd h List.not_mem_nil⟩⟩⟩⟩⟩⟩⟩⟩⟩⟩⟩⟩
  have key2 : ∀ c : Nat, ∃ z : ClassId × (Nat → Nat), ∀ q, cls[c]? = some q → u_Kn s q.1 q.2.1 q.2.2 z.1 z.2 := by
    intro c
    cases h : cls[c]? with
    | none => exact ⟨(0, fun _ => 0), fun q hq => by cases hq⟩
    | some q =>
      obtain ⟨cC, iS, hk⟩ := key q (List.mem_of_getElem? h)
      exact ⟨(cC, iS), fun q' hq => by cases hq; exact hk⟩
  obtain ⟨cI, kI, pI, i1, i2, i3⟩ := Cond.arrayClass_spec (hts _ m1_89)
  obtain ⟨cZ, kZ, pZ, j1, j2, j3⟩ := Cond.arrayClass_spec (hts _ m1_160)
  obtain ⟨cJ, kJ, pJ, k1, k2, k3⟩ := Cond.arrayClass_spec (hts _ m6_27)
  refine ⟨((fun c => (key2 c).choose.1, fun c => (key2 c).choose.2), (cI, cZ, cJ)), fun c q hq => (key2 c).choose_spec q hq, fun k q hk => ?_⟩
  match k, hk with
  | 0, hk => cases hk; exact ⟨fun n z => ⟨fun k h => (by cases h), kI, i2, pI, i3⟩, i1⟩
  | 1, hk => cases hk; exact ⟨fun n z => ⟨fun k h => (by cases h), kZ, j2, pZ, j3⟩, j1⟩
  | 2, hk => cases hk; exact ⟨fun n z => ⟨fun k h => (by cases h), kJ, k2, pJ, k3⟩, k1⟩
  | k + 3, hk => exact absurd hk (by simp [gt])
