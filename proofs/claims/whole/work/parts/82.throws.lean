/-! 82: contracts that change nothing; throwing -/
abbrev IAE : String := "java/lang/IllegalArgumentException"
abbrev ISE : String := "java/lang/IllegalStateException"
abbrev IOB : String := "java/lang/IndexOutOfBoundsException"
abbrev RTE : String := "java/lang/RuntimeException"
abbrev EXC : String := "java/lang/Exception"
def xtw : List Cond := [.declares (Bundle.initS RTE), .declares (Bundle.initS EXC), .declares (Bundle.initS Bundle.tN), .castable IAE IAE, .castable ISE ISE, .castable IOB IOB]
def xhw : List (String × String) := [("UNASSIGNED_STACK", Bundle.steD), ("SUPPRESSED_SENTINEL", Bundle.listD)]
def xnw : List (String × String) := [(ISE, IAE), (IOB, ISE), (IAE, ISE), (IAE, IOB)]
theorem xt_keep {s U : State} (hW : s.WarmedH U.vm) (h : ∀ w ∈ xtw, w.before #[] s = true) : ∀ w ∈ xtw, w.before #[] U = true := by
  intro w hw
  have h1 := h w hw
  simp only [xtw, List.mem_cons, List.not_mem_nil, or_false] at hw
  rcases hw with rfl | rfl | rfl | rfl | rfl | rfl
  · have e : (Cond.declares (Bundle.initS RTE)).before #[] U = (Cond.declares (Bundle.initS RTE)).before #[] (s.setVm U.vm) := rfl
    rw [e, Cond.declares_setVm hW.alike]; exact h1
  · have e : (Cond.declares (Bundle.initS EXC)).before #[] U = (Cond.declares (Bundle.initS EXC)).before #[] (s.setVm U.vm) := rfl
    rw [e, Cond.declares_setVm hW.alike]; exact h1
  · have e : (Cond.declares (Bundle.initS Bundle.tN)).before #[] U = (Cond.declares (Bundle.initS Bundle.tN)).before #[] (s.setVm U.vm) := rfl
    rw [e, Cond.declares_setVm hW.alike]; exact h1
  · have e : (Cond.castable IAE IAE).before #[] U = (Cond.castable IAE IAE).before #[] (s.setVm U.vm) := rfl
    rw [e, Cond.castable_setVm hW.alike]; exact h1
  · have e : (Cond.castable ISE ISE).before #[] U = (Cond.castable ISE ISE).before #[] (s.setVm U.vm) := rfl
    rw [e, Cond.castable_setVm hW.alike]; exact h1
  · have e : (Cond.castable IOB IOB).before #[] U = (Cond.castable IOB IOB).before #[] (s.setVm U.vm) := rfl
    rw [e, Cond.castable_setVm hW.alike]; exact h1
theorem xr_keep {s U : State} (hW : s.WarmedH U.vm) {own tx : String} {k : Nat} (h : (Cond.stringRef own k tx).before #[] s = true) : (Cond.stringRef own k tx).before #[] U = true := by
  have e : (Cond.stringRef own k tx).before #[] U = (Cond.stringRef own k tx).before #[] (s.setVm U.vm) := rfl
  rw [e]; exact Cond.stringRef_warmed hW h
theorem xh_keep {s U : State} (hW : s.WarmedH U.vm) (hH : ∀ (q : Nat) (cell : Cell), s.heap[q]? = some cell → cell.vm.isStatics = true → U.heap[q]? = some cell) {C n d : String} (h : (Cond.laysStatic C n d).before #[] s = true ∧ (Cond.isRef (.static C n d)).before #[] s = true) : (Cond.laysStatic C n d).before #[] U = true ∧ (Cond.isRef (.static C n d)).before #[] U = true := by
  obtain ⟨h1, h2⟩ := h
  simp only [Cond.before, Cond.holds, Cond.value] at h1
  cases hc : s.vm.findClass C with
  | none => simp [hc] at h1
  | some c =>
    cases hf : s.fieldFound? C n d with
    | none => simp [hc, hf] at h1
    | some x =>
      obtain ⟨c', k, i, f⟩ := x
      cases hs : k.statics with
      | none => simp [hc, hf, hs] at h1
      | some st =>
        cases hcell : s.heap[st]? with
        | none => simp [hc, hf, hs, hcell] at h1
        | some cell =>
          simp only [hc, hf, hs, hcell, Option.bind_some, Option.map_some, Option.some_beq_some, beq_iff_eq, Bool.and_eq_true, decide_eq_true_eq] at h1
          obtain ⟨k', q1, q2⟩ := State.fieldFound?_setVm (s := s) hW.alike hf
          have q1' : U.fieldFound? C n d = some (c', k', i, f) := q1
          have hst' : k'.statics = some st := by rw [q2]; exact hs
          have hty : k'.staticTypes = k.staticTypes := by rw [q2]
          have hcU : U.vm.findClass C = some c := by rw [hW.alike.findClass]; exact hc
          have hcellU := hH st cell hcell h1.1.1.1.2
          have hfs : f.isStatic = true := h1.1.1.1.1.1
          refine ⟨?_, ?_⟩
          · simp only [Cond.before, Cond.holds, Cond.value, hcU, q1', hst', hcellU, hty, Option.bind_some, Option.map_some, Option.some_beq_some, beq_iff_eq, Bool.and_eq_true, decide_eq_true_eq]
            exact h1
          · have e1 : (Term.static C n d).eval #[] s none [] s = cell.slots[f.slot]? := by
              simp [Term.eval, State.fieldNamed?, hf, hfs, hs, hcell, h1.1.1.1.2]
            have e2 : (Term.static C n d).eval #[] U none [] U = cell.slots[f.slot]? := by
              simp [Term.eval, State.fieldNamed?, q1', hfs, hst', hcellU, h1.1.1.1.2]
            simp only [Cond.before, Cond.holds, Cond.value, e1, e2] at h2 ⊢
            exact h2
def xrw : List (Nat × String) := [(57, "no range of characters"), (62, "no such class"), (70, "there are 100 ranges"), (167, "not two characters"), (172, "one is in a pair already"), (175, "there are 40 pairs"), (84, "no character"), (89, "there would be more than 2000 characters"), (95, "no such base"), (181, "not resolved"), (108, "no such paragraph"), (124, "no such what"), (185, "no such position"), (138, "no position behind one"), (140, "the line would be empty"), (146, "not in one paragraph"), (183, "no line was asked for"), (155, "no such character seen")]
/-- what throwing needs of a state, beyond the words that hold over every call -/
def XSt (U : State) : Prop := (∀ w ∈ xtw, w.before #[] U = true) ∧ (∀ q ∈ xrw, (Cond.stringRef R_BL q.1 q.2).before #[] U = true) ∧ (∀ q ∈ xhw, (Cond.laysStatic Bundle.tN q.1 q.2).before #[] U = true ∧ (Cond.isRef (.static Bundle.tN q.1 q.2)).before #[] U = true) ∧ (∀ q ∈ xnw, ∀ c1 c2, U.vm.findClass q.1 = some c1 → U.vm.findClass q.2 = some c2 → U.vm.assignable c1 c2 = false)
theorem XSt.keep {s U : State} (hW : s.WarmedH U.vm) (hH : ∀ (q : Nat) (cell : Cell), s.heap[q]? = some cell → cell.vm.isStatics = true → U.heap[q]? = some cell) (h : XSt s) : XSt U := by
  obtain ⟨h1, h2, h3, h4⟩ := h
  refine ⟨xt_keep hW h1, fun q hq => xr_keep hW (h2 q hq), fun q hq => xh_keep hW hH (h3 q hq), fun q hq c1 c2 e1 e2 => ?_⟩
  rw [hW.alike.findClass] at e1 e2
  rw [hW.alike.assignable]
  exact h4 q hq c1 c2 e1 e2
def xlw : List Cond := xtw ++ xhw.map (fun q => Cond.laysStatic Bundle.tN q.1 q.2) ++ xhw.map (fun q => Cond.isRef (.static Bundle.tN q.1 q.2))
theorem own_1 : (Bundle.ownAtoms R_BL 59 IAE [RTE, EXC]).all (fun a => decide (a ∈ gw) || decide (a ∈ xlw)) = true := by decide +kernel
/-! contracts that change nothing -/
def cPi (l : Launch) (y : MethodName) (ws : List Cond) (rm : Room) (g : Geo) (As : List Value) (w : va_W) (post : Int32 → Prop) : Prop := ∀ sz, Met l y ws rm (va_Pc As (cPre g sz w)) (vp_Si post) 0 0 (fun _ => False)
def cPv (l : Launch) (y : MethodName) (ws : List Cond) (rm : Room) (g : Geo) (As : List Value) (w : va_W) : Prop := ∀ sz, Met l y ws rm (va_Pc As (cPre g sz w)) (va_Sv (fun _ => True)) 0 0 (fun _ => False)
theorem cPi_of {l : Launch} {y : MethodName} {cc : ByteArray} {maxL : Nat} {rm : Room} {g : Geo} {As : List Value} {w : va_W} {post : Int32 → Prop} (hy : plainName y.cls = true) (hn : (lg_sl As).length ≤ maxL)
    (body : ∀ (p : Program) (e : Env) (s : State) (m : MethodId) (below : List Frame) (meth : Method) (c : Code) (A : Nat → Prop) (Q : State → Prop) (ls : Array Slot), MC p s m As.toArray meth c y.cls cc maxL →
      (∀ (r : Int32) (pc : Nat) (ls : Array Slot), decode cc pc = .ok (.ireturn, 1) → post r → W p l e rm s m As.toArray below meth c s.heap [] 0 0 Q (F0 m pc ls [.int r])) →
      lv_has ls maxL (lv_args 0 As) → CI g A s w s.heap [] → W p l e rm s m As.toArray below meth c s.heap [] 0 0 Q (F0 m 0 ls [])) :
    cPi l y (.code y cc maxL (some .int) :: gw) rm g As w post := by
  intro sz
  refine Met.ofW (cc := cc) (maxL := maxL) (ret := some .int) hy rfl ?_
  intro p e s m args below meth c s₁ B hml hv
  obtain ⟨rfl, hsz, hP, hK, hD0, hN⟩ := hv
  subst hsz
  have hx := B.exec
  have hb := B.bytes
  have hr := B.returns
  have hts := atoms_spec (ws := .code y cc maxL (some .int) :: gw) B.pre
  have hown : s.vm.findClass y.cls = some m.cls := findClass_of_methodNamed B.named
  have hlocks := B.notSynchronized
  rw [lg_entry_eq]
  refine body p e s m below meth c (va_A w s.heap.size) _ _ ⟨hx, hb, hml, hown, fun z hz => hts z (List.mem_cons_of_mem _ hz), hlocks, Or.inr trivial⟩ ?_ (lv_entry As hn) ⟨hK, hN, hP, hD0.self, va_S.rf, fun q h => Or.inr h⟩
  intro r pc ls hd hp
  exact W.iret (v := r) hx hb hr (fun t ht hW => ⟨r, rfl, hp, ht⟩) (fun q h => absurd h List.not_mem_nil) hd
theorem cPz_of {l : Launch} {y : MethodName} {cc : ByteArray} {maxL : Nat} {rm : Room} {g : Geo} {As : List Value} {w : va_W} {post : Int32 → Prop} (hy : plainName y.cls = true) (hn : (lg_sl As).length ≤ maxL)
    (body : ∀ (p : Program) (e : Env) (s : State) (m : MethodId) (below : List Frame) (meth : Method) (c : Code) (A : Nat → Prop) (Q : State → Prop) (ls : Array Slot), MC p s m As.toArray meth c y.cls cc maxL →
      (∀ (r : Int32) (pc : Nat) (ls : Array Slot), decode cc pc = .ok (.ireturn, 1) → post r → narrow .boolean (.int r) = .int r → W p l e rm s m As.toArray below meth c s.heap [] 0 0 Q (F0 m pc ls [.int r])) →
      lv_has ls maxL (lv_args 0 As) → CI g A s w s.heap [] → W p l e rm s m As.toArray below meth c s.heap [] 0 0 Q (F0 m 0 ls [])) :
    cPi l y (.code y cc maxL (some .boolean) :: gw) rm g As w post := by
  intro sz
  refine Met.ofW (cc := cc) (maxL := maxL) (ret := some .boolean) hy rfl ?_
  intro p e s m args below meth c s₁ B hml hv
  obtain ⟨rfl, hsz, hP, hK, hD0, hN⟩ := hv
  subst hsz
  have hx := B.exec
  have hb := B.bytes
  have hr := B.returns
  have hts := atoms_spec (ws := .code y cc maxL (some .boolean) :: gw) B.pre
  have hown : s.vm.findClass y.cls = some m.cls := findClass_of_methodNamed B.named
  have hlocks := B.notSynchronized
  rw [lg_entry_eq]
  refine body p e s m below meth c (va_A w s.heap.size) _ _ ⟨hx, hb, hml, hown, fun z hz => hts z (List.mem_cons_of_mem _ hz), hlocks, Or.inr trivial⟩ ?_ (lv_entry As hn) ⟨hK, hN, hP, hD0.self, va_S.rf, fun q h => Or.inr h⟩
  intro r pc ls hd hp hz
  exact W.zret (v := r) hx hb hr hz (fun t ht hW => ⟨r, rfl, hp, ht⟩) (fun q h => absurd h List.not_mem_nil) hd
theorem cPv_of {l : Launch} {y : MethodName} {cc : ByteArray} {maxL : Nat} {rm : Room} {g : Geo} {As : List Value} {w : va_W} (hy : plainName y.cls = true) (hn : (lg_sl As).length ≤ maxL)
    (body : ∀ (p : Program) (e : Env) (s : State) (m : MethodId) (below : List Frame) (meth : Method) (c : Code) (A : Nat → Prop) (Q : State → Prop) (ls : Array Slot), MC p s m As.toArray meth c y.cls cc maxL →
      (∀ (pc : Nat) (ls : Array Slot), decode cc pc = .ok (.return_, 1) → W p l e rm s m As.toArray below meth c s.heap [] 0 0 Q (F0 m pc ls [])) →
      lv_has ls maxL (lv_args 0 As) → CI g A s w s.heap [] → W p l e rm s m As.toArray below meth c s.heap [] 0 0 Q (F0 m 0 ls [])) :
    cPv l y (.code y cc maxL none :: gw) rm g As w := by
  intro sz
  refine Met.ofW (cc := cc) (maxL := maxL) (ret := none) hy rfl ?_
  intro p e s m args below meth c s₁ B hml hv
  obtain ⟨rfl, hsz, hP, hK, hD0, hN⟩ := hv
  subst hsz
  have hx := B.exec
  have hb := B.bytes
  have hr := B.returns
  have hts := atoms_spec (ws := .code y cc maxL none :: gw) B.pre
  have hown : s.vm.findClass y.cls = some m.cls := findClass_of_methodNamed B.named
  have hlocks := B.notSynchronized
  rw [lg_entry_eq]
  refine body p e s m below meth c (va_A w s.heap.size) _ _ ⟨hx, hb, hml, hown, fun z hz => hts z (List.mem_cons_of_mem _ hz), hlocks, Or.inr trivial⟩ ?_ (lv_entry As hn) ⟨hK, hN, hP, hD0.self, va_S.rf, fun q h => Or.inr h⟩
  intro pc ls hd
  exact W.vret hx hb hr (fun t ht hW => ⟨rfl, trivial, ht⟩) (fun q h => absurd h List.not_mem_nil) hd
theorem cPi.toM {l : Launch} {y : MethodName} {ws : List Cond} {rm : Room} {g : Geo} {As : List Value} {w : va_W} {post : Int32 → Prop} (h : cPi l y ws rm g As w post) : cMi l y ws rm g As w (fun (r : Int32) (_ : Unit) => post r) (fun _ => w) 0 0 := by
  intro sz p e ha hc hk s m args below hf happ hP hK
  obtain ⟨n, o, q1, q2, q3, ⟨r, e1, hp, hh⟩, L, hF, hL⟩ := h sz p e ha hc hk s m args below hf happ hP hK
  obtain ⟨rfl, hsz, hP1, hK1, hD0, hN⟩ := hP
  refine ⟨n, o, q1, q2, q3, ⟨⟨r, (), e1, hp, ?_, ?_, ?_⟩, ?_⟩, L, hF, fun q hq => (hL q hq).elim⟩
  · rw [hh]; exact hP1
  · exact va_K.moved hF.2.1.alike hK1
  · subst hsz; exact hD0.self
  · exact ⟨by rw [hh]; exact Nat.le_refl _, fun q _ _ => by rw [hh]⟩
theorem cPv.toM {l : Launch} {y : MethodName} {ws : List Cond} {rm : Room} {g : Geo} {As : List Value} {w : va_W} (h : cPv l y ws rm g As w) : cMv l y ws rm g As w (fun (_ : Unit) => True) (fun _ => w) 0 0 := by
  intro sz p e ha hc hk s m args below hf happ hP hK
  obtain ⟨n, o, q1, q2, q3, ⟨e1, hp, hh⟩, L, hF, hL⟩ := h sz p e ha hc hk s m args below hf happ hP hK
  obtain ⟨rfl, hsz, hP1, hK1, hD0, hN⟩ := hP
  refine ⟨n, o, q1, q2, q3, ⟨⟨(), e1, hp, ?_, ?_, ?_⟩, ?_⟩, L, hF, fun q hq => (hL q hq).elim⟩
  · rw [hh]; exact hP1
  · exact va_K.moved hF.2.1.alike hK1
  · subst hsz; exact hD0.self
  · exact ⟨by rw [hh]; exact Nat.le_refl _, fun q _ _ => by rw [hh]⟩
section XC
variable {p : Program} {l : Launch} {e : Env} {R : Room} {s : State} {m : MethodId} {args : Array Value} {below : List Frame} {meth : Method} {c : Code} {H : Heap} {locs : List Loc} {cells slots : Nat} {Q : State → Prop}
variable {g : Geo} {A : Nat → Prop} {w : va_W} {own : String} {cc : ByteArray} {nL pc : Nat} {ls : Array Slot} {rest : List Value}
theorem q_callpiV {y : MethodName} {bytes : ByteArray} {maxL n index : Nat} {ret : Option FieldType} {rm : Room} {post : Int32 → Prop} {b : Nat} (As : List Value) {st : List Value} (M : MC p s m args meth c own cc nL) (hI : CI g A s w H locs) (hC : cPi l y (.code y bytes maxL ret :: gw) rm g (.ref b :: As) w post)
    (ok : OKc y bytes maxL ret n) (k1 : Cond.methodLink own index y ∈ gw) (k2 : Cond.instanceMethod y ∈ gw) (k3 : Cond.selects y.cls y y ∈ gw) (q0 : Nat) {ci : Nat} {fs : List Value} {T : u_T} {N : Nat} (he : w[q0]? = some (b, .inr (ci, fs))) (hc : cls[ci]? = some (y.cls, T, N)) (hst : st = As.reverse ++ .ref b :: rest) (hlen : As.length = n) (hls : ls.size = nL) (hrm : rm.cells = 0 ∧ rm.slots = 0) (hR : rm.frames + 1 ≤ R.frames ∧ 8 + (maxL + 11) + rm.locals ≤ R.locals) (hrest : (rest.map fun v => v.category).sum ≤ 8) (hcs : cells + 0 ≤ R.cells ∧ slots + 0 ≤ R.slots) (hdg : decode cc pc = .ok (.invokevirtual index, 3))
    (kk : ∀ (r : Int32), post r → W p l e R s m args below meth c H locs cells slots Q (F0 m (pc + 3) ls (.int r :: rest))) : W p l e R s m args below meth c H locs cells slots Q (F0 m pc ls st) :=
  vp_callSi (va_Run.run (va_runV (As := As) (rest := rest) ⟨M.1, M.2.1, M.2.2.1, M.2.2.2.1, M.2.2.2.2.1⟩ (hC H.size) (cwV n M.2.2.2.2.1 (gw_goodIn ok.1 _ (List.forall_mem_cons.mpr ⟨k1, List.forall_mem_cons.mpr ⟨k2, List.forall_mem_cons.mpr ⟨k3, List.forall_mem_cons.mpr ⟨ok.2.1, fun _ h => absurd h List.not_mem_nil⟩⟩⟩⟩)) rfl hrm.1 hrm.2 ⟨rfl, ok.2.2.1, ok.2.2.2.1, ok.2.2.2.2⟩ hR) ⟨cPre_blind, va_recv hI.1 hI.2.2.1 hc he, hI.pre⟩ rfl hlen hls hst (lv_room hrest) hdg hcs)) kk
theorem q_callpvV {y : MethodName} {bytes : ByteArray} {maxL n index : Nat} {ret : Option FieldType} {rm : Room} {b : Nat} (As : List Value) {st : List Value} (M : MC p s m args meth c own cc nL) (hI : CI g A s w H locs) (hC : cPv l y (.code y bytes maxL ret :: gw) rm g (.ref b :: As) w)
    (ok : OKc y bytes maxL ret n) (k1 : Cond.methodLink own index y ∈ gw) (k2 : Cond.instanceMethod y ∈ gw) (k3 : Cond.selects y.cls y y ∈ gw) (q0 : Nat) {ci : Nat} {fs : List Value} {T : u_T} {N : Nat} (he : w[q0]? = some (b, .inr (ci, fs))) (hc : cls[ci]? = some (y.cls, T, N)) (hst : st = As.reverse ++ .ref b :: rest) (hlen : As.length = n) (hls : ls.size = nL) (hrm : rm.cells = 0 ∧ rm.slots = 0) (hR : rm.frames + 1 ≤ R.frames ∧ 8 + (maxL + 11) + rm.locals ≤ R.locals) (hrest : (rest.map fun v => v.category).sum ≤ 8) (hcs : cells + 0 ≤ R.cells ∧ slots + 0 ≤ R.slots) (hdg : decode cc pc = .ok (.invokevirtual index, 3))
    (kk : W p l e R s m args below meth c H locs cells slots Q (F0 m (pc + 3) ls rest)) : W p l e R s m args below meth c H locs cells slots Q (F0 m pc ls st) :=
  va_csv (va_Run.run (va_runV (As := As) (rest := rest) ⟨M.1, M.2.1, M.2.2.1, M.2.2.2.1, M.2.2.2.2.1⟩ (hC H.size) (cwV n M.2.2.2.2.1 (gw_goodIn ok.1 _ (List.forall_mem_cons.mpr ⟨k1, List.forall_mem_cons.mpr ⟨k2, List.forall_mem_cons.mpr ⟨k3, List.forall_mem_cons.mpr ⟨ok.2.1, fun _ h => absurd h List.not_mem_nil⟩⟩⟩⟩)) rfl hrm.1 hrm.2 ⟨rfl, ok.2.2.1, ok.2.2.2.1, ok.2.2.2.2⟩ hR) ⟨cPre_blind, va_recv hI.1 hI.2.2.1 hc he, hI.pre⟩ rfl hlen hls hst (lv_room hrest) hdg hcs)) (fun _ => kk)
theorem q_callpiS {y : MethodName} {bytes : ByteArray} {maxL n index : Nat} {ret : Option FieldType} {rm : Room} {post : Int32 → Prop} (As : List Value) {st : List Value} (M : MC p s m args meth c y.cls cc nL) (hI : CI g A s w H locs) (hC : cPi l y (.code y bytes maxL ret :: gw) rm g As w post)
    (ok : OKc y bytes maxL ret n) (k1 : Cond.methodLink y.cls index y ∈ gw) (k2 : Cond.static y ∈ gw) (hst : st = As.reverse ++ rest) (hlen : As.length = n) (hls : ls.size = nL) (hrm : rm.cells = 0 ∧ rm.slots = 0) (hR : rm.frames + 1 ≤ R.frames ∧ 8 + (maxL + 11) + rm.locals ≤ R.locals) (hrest : (rest.map fun v => v.category).sum ≤ 8) (hcs : cells + 0 ≤ R.cells ∧ slots + 0 ≤ R.slots) (hdg : decode cc pc = .ok (.invokestatic index, 3))
    (kk : ∀ (r : Int32), post r → W p l e R s m args below meth c H locs cells slots Q (F0 m (pc + 3) ls (.int r :: rest))) : W p l e R s m args below meth c H locs cells slots Q (F0 m pc ls st) :=
  vp_callSi (va_Run.run (va_runS (As := As) (rest := rest) ⟨M.1, M.2.1, M.2.2.1, M.2.2.2.1, M.2.2.2.2.1⟩ (hC H.size) (cwS n M.2.2.2.2.1 (gw_goodIn ok.1 _ (List.forall_mem_cons.mpr ⟨k1, List.forall_mem_cons.mpr ⟨k2, List.forall_mem_cons.mpr ⟨ok.2.1, fun _ h => absurd h List.not_mem_nil⟩⟩⟩)) rfl hrm.1 hrm.2 ⟨rfl, ok.2.2.1, ok.2.2.2.1, ok.2.2.2.2⟩ hR) ⟨cPre_blind, hI.pre⟩ rfl hlen hls hst (lv_room hrest) hdg hcs)) kk
end XC
/-! contracts that throw, and change nothing old -/
def cPreX (g : Geo) (sz : Nat) (w : va_W) : State → Prop := fun U => cPre g sz w U ∧ XSt U
def xQ (X : String) (st : State) (o : Outcome) (t : State) : Prop := ∃ (b : Nat) (ce : Cell), o = .threw b ∧ st.heap.size ≤ b ∧ t.heap[b]? = some ce ∧ ce.vm = .none ∧ st.vm.findClass X = some ce.cls
def cMx (l : Launch) (y : MethodName) (ws : List Cond) (rm : Room) (g : Geo) (As : List Value) (w : va_W) (X : String) (mc ms : Nat) : Prop :=
  ∀ sz, MetFree l y (headSpec ws rm) (va_Pc As (cPreX g sz w)) (fun _ _ _ _ _ => True) (fun _ st o t => xQ X st o t ∧ FrameEndT st o t [] mc ms)
def XQ (below : List Frame) (X : String) (s : State) (mc ms : Nat) : State → Prop := fun t => ∃ o, t.status = .running ∧ Ended t below o ∧ xQ X s o t ∧ FrameEndT s o t [] mc ms
theorem cMx_of {l : Launch} {y : MethodName} {cc : ByteArray} {maxL mc ms : Nat} {ret : Option FieldType} {rm : Room} {g : Geo} {As : List Value} {w : va_W} {X : String} (hy : plainName y.cls = true) (hn : (lg_sl As).length ≤ maxL)
    (body : ∀ (p : Program) (e : Env) (s : State) (m : MethodId) (below : List Frame) (meth : Method) (c : Code) (A : Nat → Prop) (ls : Array Slot), MC p s m As.toArray meth c y.cls cc maxL → XSt s → c.exceptionTable.isEmpty = true →
      lv_has ls maxL (lv_args 0 As) → CI g A s w s.heap [] → W p l e rm s m As.toArray below meth c s.heap [] 0 0 (XQ below X s mc ms) (F0 m 0 ls [])) :
    cMx l y (.code y cc maxL ret :: gw) rm g As w X mc ms := by
  intro sz
  refine MetFree.of_bodyS (code := cc) (maxLocals := maxL) (ret := ret) hy ?_ ?_
  · intro args s m h hn
    obtain ⟨meth, c, h1, h2, h3, h4, h5, h6, -, -⟩ := Cond.code_spec hn (atoms_spec (ws := .code y cc maxL ret :: gw) h _ List.mem_cons_self)
    exact ⟨meth, c, h1, h2, h3, h4, h5, h6⟩
  · intro p e s m args below meth c s₁ B hml hP _
    have hh0 : s₁.heap = s.heap := by rw [B.state]; rfl
    obtain ⟨rfl, ⟨hsz, hP1, hK, hD0, hN⟩, hX⟩ := hP
    subst hsz
    have hts := atoms_spec (ws := .code y cc maxL ret :: gw) B.pre
    have hown : s.vm.findClass y.cls = some m.cls := findClass_of_methodNamed B.named
    have hnh := B.noHandlers (hts _ List.mem_cons_self)
    have hb := body p e s m below meth c (va_A w s.heap.size) _ ⟨B.exec, B.bytes, hml, hown, fun z hz => hts z (List.mem_cons_of_mem _ hz), B.notSynchronized, Or.inr trivial⟩ hX hnh (lv_entry As hn) ⟨hK, hN, hP1, hD0.self, va_S.rf, fun q h => Or.inr h⟩
    rw [← lg_entry_eq] at hb
    obtain ⟨t, a1, o, b1, b2, b3, b4⟩ := hb s₁ hh0 (Stand.of_body B)
    exact ⟨t, o, a1, b1, b2, b3, b4⟩
theorem xl_any {args : Array Value} {s : State} (hX : XSt s) : ∀ a ∈ xlw, a.before args s = true := by
  intro a ha
  simp only [xlw, List.mem_append, List.mem_map] at ha
  rcases ha with (ha | ⟨q, hq, rfl⟩) | ⟨q, hq, rfl⟩
  · have h1 := hX.1 a ha
    simp only [xtw, List.mem_cons, List.not_mem_nil, or_false] at ha
    rcases ha with rfl | rfl | rfl | rfl | rfl | rfl <;> exact h1
  · exact (hX.2.2.1 q hq).1
  · have h1 := (hX.2.2.1 q hq).2
    have e : (Cond.isRef (.static Bundle.tN q.1 q.2)).before args s = (Cond.isRef (.static Bundle.tN q.1 q.2)).before #[] s := by
      simp only [Cond.before, Cond.holds, Cond.value, Term.eval]
    rw [e]; exact h1
theorem xatoms {args : Array Value} {s : State} {X : String} {ic : Nat} (hall : (Bundle.ownAtoms R_BL ic X [RTE, EXC]).all (fun a => decide (a ∈ gw) || decide (a ∈ xlw)) = true) (hg : ∀ w ∈ gw, w.before args s = true) (hX : XSt s) : ∀ a ∈ Bundle.ownAtoms R_BL ic X [RTE, EXC], a.before args s = true := by
  intro a ha
  have h1 := List.all_eq_true.mp hall a ha
  simp only [Bool.or_eq_true, decide_eq_true_eq] at h1
  rcases h1 with z | z
  · exact hg a z
  · exact xl_any hX a z
section XT
variable {p : Program} {l : Launch} {e : Env} {R : Room} {s : State} {m : MethodId} {args : Array Value} {below : List Frame} {meth : Method} {c : Code} {H : Heap} {locs : List Loc} {cells slots : Nat} {Q : State → Prop}
variable {g : Geo} {A : Nat → Prop} {w : va_W} {own : String} {cc : ByteArray} {nL pc : Nat} {ls : Array Slot} {rest : List Value}
theorem q_throw {X tx : String} {ix ik ic mc ms : Nat} (M : MC p s m args meth c R_BL cc nL) (hX : XSt s) (hnh : c.exceptionTable.isEmpty = true) (hfl : l.flags = flags0) (hfit : Bundle.fit X = true)
    (hall : (Bundle.ownAtoms R_BL ic X [RTE, EXC]).all (fun a => decide (a ∈ gw) || decide (a ∈ xlw)) = true) (hxr : (ik, tx) ∈ xrw) (k1 : Cond.classLink R_BL ix X ∈ gw) (k2 : Cond.instantiable X 6 ∈ gw) (k3 : Cond.initialized X ∈ gw)
    (hls : ls.size = nL) (hnew : s.heap.size ≤ H.size) (hlocs : ∀ x ∈ locs, s.heap.size ≤ x.base) (hR : 5 < R.frames ∧ 90 ≤ R.locals ∧ cells + 1 ≤ R.cells ∧ slots + 6 ≤ R.slots) (hmc : cells + 1 ≤ mc) (hms : slots + 6 ≤ ms)
    (d0 : decode cc pc = .ok (.new ix, 3)) (d3 : decode cc (pc + 3) = .ok (.dup, 1)) (d4 : decode cc (pc + 4) = .ok (.ldc ik, 2)) (d6 : decode cc (pc + 6) = .ok (.invokespecial ic, 3)) (d9 : decode cc (pc + 9) = .ok (.athrow, 1)) :
    W p l e R s m args below meth c H locs cells slots (XQ below X s mc ms) (F0 m pc ls []) := by
  have hg := M.2.2.2.2.1
  have hS := hX.2.1 _ hxr
  obtain ⟨kk, cf, i, a, -, -, -, -, -, hev⟩ := Cond.stringRef_spec M.2.2.2.1 hS
  refine W.newc M.1 M.2.1 M.2.2.2.1 (hg _ k1) (hg _ k2) (hg _ k3) (g := F0 m pc ls []) rfl d0 hR.2.2.1 hR.2.2.2 ?_
  intro cC kC h1 h2 h3 h4
  refine lv_dup M.1 M.2.1 d3 rfl ?_
  refine va_ldcS M.1 M.2.1 M.2.2.2.1 (tx := tx) (q := a) ⟨hS, hev⟩ d4 ?_
  intro T hT X'
  have hb := M.2.1
  subst hb
  have X2 : Stand p l e R s m args below meth c T [] (cells + 1) (slots + 6) := Stand.forget (locs := []) (extra := locs) (by simpa using X') hlocs
  obtain ⟨U, st, hrun, hend, hW, hsame, ce, hce, hoc⟩ := X2.ctorThrowS M.1 (Launch.traces_off hfl X2.admits) (own := R_BL) (cls := X) (names := [RTE, EXC]) (ic := ic) M.2.2.2.1 hfit (by decide) (xatoms hall hg hX) (fun x hx => absurd hx List.not_mem_nil)
    (a := H.size) (cX := cC) (kX := kC) h1 h2 (by rw [hT]; simp [freshCell]) hnew (msg := .ref a) rfl (g := F0 m (pc + 6) ls [.ref a, .ref H.size, .ref H.size]) rfl (hls.trans M.2.2.1.symm) rfl rfl (rest := []) rfl d6 d9 (fun x hx => by rw [Array.isEmpty_iff.mp hnh] at hx; simp at hx) (by show 2 + 3 < R.frames; exact hR.1) (by have := hR.2.1; simp [JFrame.monitorRoom, Value.category]; omega) M.2.2.2.2.2.1
  exact ⟨U, st, .threw H.size, hrun, hend, ⟨H.size, ce, rfl, hnew, hce, hoc.vm, hoc.cls⟩, ⟨_, rfl⟩, hW, hsame.weaken (fun y hy _ => hy) hmc hms⟩
end XT
section XU
variable {p : Program} {l : Launch} {e : Env} {R : Room} {s : State} {m : MethodId} {args : Array Value} {below : List Frame} {meth : Method} {c : Code} {H : Heap} {locs : List Loc} {cells slots : Nat} {Q : State → Prop}
variable {g : Geo} {A : Nat → Prop} {w : va_W} {own : String} {cc : ByteArray} {nL pc : Nat} {ls : Array Slot} {rest : List Value}
theorem XSt.at {U : State} (hX : XSt s) (hU : U.heap = s.heap) (hW : s.WarmedH U.vm) : XSt U := hX.keep hW (fun q cell h _ => by rw [hU]; exact h)
theorem XSt.same {u U : State} (hv : U.vm = u.vm) (hh : U.heap = u.heap) (h : XSt u) : XSt U := by
  obtain ⟨h1, h2, h3, h4⟩ := h
  have e : ∀ w : Cond, (w ∈ xtw ∨ (∃ q ∈ xrw, w = Cond.stringRef R_BL q.1 q.2) ∨ (∃ q ∈ xhw, w = Cond.laysStatic Bundle.tN q.1 q.2) ∨ (∃ q ∈ xhw, w = Cond.isRef (.static Bundle.tN q.1 q.2))) → w.before #[] U = w.before #[] u := by
    intro w hw
    rcases hw with hw | ⟨q, hq, rfl⟩ | ⟨q, hq, rfl⟩ | ⟨q, hq, rfl⟩
    · simp only [xtw, List.mem_cons, List.not_mem_nil, or_false] at hw
      rcases hw with rfl | rfl | rfl | rfl | rfl | rfl <;> simp only [Cond.before, Cond.holds, Cond.value, State.methodNamed?, hv]
    · simp only [Cond.before, Cond.holds, Cond.value, State.names, State.poolOf?, State.resolvedAt?, hv]; rfl
    · simp only [Cond.before, Cond.holds, Cond.value, State.fieldFound?, hv, hh]
    · simp only [Cond.before, Cond.holds, Cond.value, Term.eval, State.fieldNamed?, State.fieldFound?, hv, hh]
  refine ⟨fun w hw => by rw [e w (Or.inl hw)]; exact h1 w hw, fun q hq => by rw [e _ (Or.inr (Or.inl ⟨q, hq, rfl⟩))]; exact h2 q hq, fun q hq => ⟨by rw [e _ (Or.inr (Or.inr (Or.inl ⟨q, hq, rfl⟩)))]; exact (h3 q hq).1, by rw [e _ (Or.inr (Or.inr (Or.inr ⟨q, hq, rfl⟩)))]; exact (h3 q hq).2⟩, fun q hq c1 c2 e1 e2 => ?_⟩
  rw [hv] at e1 e2 ⊢
  exact h4 q hq c1 c2 e1 e2
/-- a call whose callee throws: the point behind it -/
theorem x_call {y : MethodName} {bytes : ByteArray} {maxL n index mc ms b : Nat} {ret : Option FieldType} {rm : Room} {X : String} (As : List Value) {st : List Value} (M : MC p s m args meth c own cc nL) (hX : XSt s) (hI : CI g A s w s.heap []) (hC : cMx l y (.code y bytes maxL ret :: gw) rm g (.ref b :: As) w X mc ms)
    (ok : OKc y bytes maxL ret n) (k1 : Cond.methodLink own index y ∈ gw) (k2 : Cond.instanceMethod y ∈ gw) (k3 : Cond.selects y.cls y y ∈ gw) (q0 : Nat) {ci : Nat} {fs : List Value} {Tt : u_T} {N : Nat} (he : w[q0]? = some (b, .inr (ci, fs))) (hc : cls[ci]? = some (y.cls, Tt, N)) (hst : st = As.reverse ++ .ref b :: rest) (hlen : As.length = n) (hls : ls.size = nL) (hrm : rm.cells = mc ∧ rm.slots = ms) (hR : rm.frames + 1 ≤ R.frames ∧ 8 + (maxL + 11) + rm.locals ≤ R.locals) (hrest : (rest.map fun v => v.category).sum ≤ 8) (hcs : mc ≤ R.cells ∧ ms ≤ R.slots) (hdg : decode cc pc = .ok (.invokevirtual index, 3))
    {T : State} (hT : T.heap = s.heap) (X' : Stand p l e R s m args below meth c T [] 0 0) :
    ∃ (v : Nat) (B : State) (ce : Cell), Stand p l e R s m args below meth c B [] mc ms ∧ s.heap.size ≤ v ∧ B.heap[v]? = some ce ∧ ce.vm = .none ∧ s.vm.findClass X = some ce.cls ∧ Steps p.tables e below (T.setTop (F0 m pc ls st)) ((B.setTop (F0 m pc ls rest)).pushFrame (.throwing v)) := by
  have cw := cwV (R := R) (own := own) (index := index) (C := y.cls) n M.2.2.2.2.1 (gw_goodIn ok.1 _ (List.forall_mem_cons.mpr ⟨k1, List.forall_mem_cons.mpr ⟨k2, List.forall_mem_cons.mpr ⟨k3, List.forall_mem_cons.mpr ⟨ok.2.1, fun _ h => absurd h List.not_mem_nil⟩⟩⟩⟩)) rfl hrm.1 hrm.2 ⟨rfl, ok.2.2.1, ok.2.2.2.1, ok.2.2.2.2⟩ hR
  obtain ⟨⟨hrc, hrs, hfr, hlo, hws, hcw, hcode, hini, hy, hpl, hl⟩, hin, hse⟩ := cw
  have hinw : ∀ (a' : Array Value) (U : State), s.WarmedH U.vm → (Cond.initialized y.cls).before a' U = true := fun a' U hW => word_at hW (Or.inl (by first | rfl | simp [Cond.onTables, Cond.keeps, Cond.steady])) hini
  have hK : BackT l R p e below s args y 3 8 (fun Z a => Z.cells + mc ≤ R.cells ∧ Z.slots + ms ≤ R.slots ∧ va_Pc (.ref b :: As) (cPreX g s.heap.size w) a Z.U) (fun Z _ v B => ∃ ce : Cell, Z.U.heap.size ≤ v ∧ B.U.heap[v]? = some ce ∧ ce.vm = .none ∧ Z.U.vm.findClass X = some ce.cls ∧ B.locs = Z.locs ∧ B.cells = Z.cells + mc ∧ B.slots = Z.slots + ms) := by
    refine BackT.of_free (bytes := bytes) (maxL := maxL) (ret := ret) (E := fun _ _ _ _ L k n => L = [] ∧ k = mc ∧ n = ms) (hC s.heap.size) hfr hlo ?_ ?_ (fun _ _ _ _ _ _ _ _ _ => trivial) ?_ ?_
    · intro m' meth' c' Z a X2 hp
      exact ⟨atoms_intro fun z hz => hws z hz _ _ X2.warmed, hws _ hcw _ _ X2.warmed, hinw _ _ X2.warmed, by rw [show (headSpec (Cond.code y bytes maxL ret :: gw) rm).room.cells = mc from hrc]; exact hp.1, by rw [show (headSpec (Cond.code y bytes maxL ret :: gw) rm).room.slots = ms from hrs]; exact hp.2.1⟩
    · intro m' meth' c' Z a gg mk X2 hp
      obtain ⟨r1, r2, r3⟩ := hp.2.2
      exact ⟨r1, (cPre_blind a Z.U gg mk ⟨r1, r2⟩).2, XSt.same (u := Z.U) rfl rfl r3⟩
    · intro a st o t hq
      exact ⟨[], mc, ms, hq.2, rfl, rfl, rfl⟩
    · intro m' meth' c' Z a gg mk v t L k n X2 hp hq hF hE
      obtain ⟨rfl, rfl, rfl⟩ := hE
      obtain ⟨v2, ce, e1, e2, e3, e4, e5⟩ := hq.1
      cases e1
      exact ⟨ce, e2, e3, e4, e5, by simp, rfl, rfl⟩
  obtain ⟨r0, r, hn0, hrm0, hst0, hsig0⟩ := va_Decl.of (M.2.2.2.2.1 _ k2) (M.2.2.2.2.1 _ ok.1)
  have hdecl : (Cond.declares y).before args s = true := by
    simp only [Cond.before, Cond.holds, Cond.value, hn0, hrm0, Option.bind_some, Option.map_some, hst0, hsig0]
    simp
  have hnf : NotFace s y := by
    intro r1 h1
    obtain ⟨c2, r2, m2, q1, q2, q3, q4, kP, hkP, hkPi⟩ := Cond.selects_spec (M.2.2.2.2.1 _ k3)
    cases q3.symm.trans h1
    exact ⟨kP, hkP, hkPi⟩
  obtain ⟨cellB, hcB, hoB, hclB⟩ := va_recv hI.1 hI.2.2.1 hc he
  have hb := M.2.1
  subst hb
  obtain ⟨v, vm1, B, hW1, X3, ⟨ce, p1, p2, p3, p4, p5, p6, p7⟩, hsteps⟩ := X'.virtualThrows M.1 M.2.2.2.1 (M.2.2.2.2.1 _ k1) hdecl hnf (M.2.2.2.2.1 _ k3) (M.2.2.2.2.1 _ k2) hy (W := 8) hK (b := b) (cB := cellB.cls) hclB ⟨cellB, by rw [hT]; exact hcB, rfl, hoB⟩ (g := F0 m pc ls st) rfl (hls.trans M.2.2.1.symm) (Steps.refl _) (argsL := As) (rest := rest) (fun sig h => hlen.trans (hpl sig h)) hst (lv_room hrest) hdg
    (fun vm1 hW1 => ⟨by show 0 + mc ≤ R.cells; omega, by show 0 + ms ≤ R.slots; omega, rfl, ((hI.pre (As := .ref b :: As)) (T.setVm vm1) hT hW1).2, hX.at (U := T.setVm vm1) hT hW1⟩)
  obtain ⟨U, L, k, n2⟩ := B
  dsimp only [Pt.U, Pt.locs, Pt.cells, Pt.slots] at X3 p1 p2 p4 p5 p6 p7 hsteps
  subst p5
  subst p6
  subst p7
  rw [Nat.zero_add, Nat.zero_add] at X3
  refine ⟨v, U, ce, X3, ?_, p2, p3, ?_, hsteps⟩
  · have : (T.setVm vm1).heap.size ≤ v := p1
    rw [show (T.setVm vm1).heap = s.heap from hT] at this; exact this
  · have h9 : vm1.findClass X = some ce.cls := p4
    rw [hW1.alike.findClass] at h9; exact h9
/-- .. and out of the caller -/
theorem q_callx {y : MethodName} {bytes : ByteArray} {maxL n index mc ms mc2 ms2 b : Nat} {ret : Option FieldType} {rm : Room} {X : String} (As : List Value) {st : List Value} (M : MC p s m args meth c own cc nL) (hX : XSt s) (hnh : c.exceptionTable.isEmpty = true) (hI : CI g A s w s.heap []) (hC : cMx l y (.code y bytes maxL ret :: gw) rm g (.ref b :: As) w X mc ms)
    (ok : OKc y bytes maxL ret n) (k1 : Cond.methodLink own index y ∈ gw) (k2 : Cond.instanceMethod y ∈ gw) (k3 : Cond.selects y.cls y y ∈ gw) (q0 : Nat) {ci : Nat} {fs : List Value} {Tt : u_T} {N : Nat} (he : w[q0]? = some (b, .inr (ci, fs))) (hc : cls[ci]? = some (y.cls, Tt, N)) (hst : st = As.reverse ++ .ref b :: rest) (hlen : As.length = n) (hls : ls.size = nL) (hrm : rm.cells = mc ∧ rm.slots = ms) (hR : rm.frames + 1 ≤ R.frames ∧ 8 + (maxL + 11) + rm.locals ≤ R.locals) (hrest : (rest.map fun v => v.category).sum ≤ 8) (hcs : mc ≤ R.cells ∧ ms ≤ R.slots) (hmc : mc ≤ mc2 ∧ ms ≤ ms2) (hdg : decode cc pc = .ok (.invokevirtual index, 3)) :
    W p l e R s m args below meth c s.heap [] 0 0 (XQ below X s mc2 ms2) (F0 m pc ls st) := by
  intro T hT X'
  obtain ⟨v, B, ce, X2, h1, h2, h3, h4, hsteps⟩ := x_call As M hX hI hC ok k1 k2 k3 q0 he hc hst hlen hls hrm hR hrest hcs hdg hT X'
  obtain ⟨l1, l2, l3, l4, l5⟩ := X2.leaveThrown v (g := F0 m pc ls rest) rfl rfl rfl (fun x hx => by rw [Array.isEmpty_iff.mp hnh] at hx; simp at hx) M.2.2.2.2.2.1
  exact ⟨_, hsteps.trans l1, .threw v, l2, l3, ⟨v, ce, rfl, h1, h2, h3, h4⟩, ⟨v, rfl⟩, l4, l5.weaken (fun y hy _ => hy) hmc.1 hmc.2⟩
end XU
theorem own_2 : (Bundle.ownAtoms R_BL 72 ISE [RTE, EXC]).all (fun a => decide (a ∈ gw) || decide (a ∈ xlw)) = true := by decide +kernel
theorem own_3 : (Bundle.ownAtoms R_BL 110 IOB [RTE, EXC]).all (fun a => decide (a ∈ gw) || decide (a ∈ xlw)) = true := by decide +kernel
section XV
variable {p : Program} {l : Launch} {e : Env} {R : Room} {s : State} {m : MethodId} {args : Array Value} {below : List Frame} {meth : Method} {c : Code} {H : Heap} {locs : List Loc} {cells slots : Nat} {Q : State → Prop}
variable {cc : ByteArray} {nL pc : Nat} {ls : Array Slot} {tx : String} {ik mc ms : Nat}
theorem q_thA (M : MC p s m args meth c R_BL cc nL) (hX : XSt s) (hnh : c.exceptionTable.isEmpty = true) (hfl : l.flags = flags0) (hxr : (ik, tx) ∈ xrw) (hls : ls.size = nL) (hnew : s.heap.size ≤ H.size) (hlocs : ∀ x ∈ locs, s.heap.size ≤ x.base) (hR : 5 < R.frames ∧ 90 ≤ R.locals ∧ cells + 1 ≤ R.cells ∧ slots + 6 ≤ R.slots) (hmc : cells + 1 ≤ mc) (hms : slots + 6 ≤ ms)
    (d0 : decode cc pc = .ok (.new 55, 3)) (d3 : decode cc (pc + 3) = .ok (.dup, 1)) (d4 : decode cc (pc + 4) = .ok (.ldc ik, 2)) (d6 : decode cc (pc + 6) = .ok (.invokespecial 59, 3)) (d9 : decode cc (pc + 9) = .ok (.athrow, 1)) :
    W p l e R s m args below meth c H locs cells slots (XQ below IAE s mc ms) (F0 m pc ls []) := q_throw M hX hnh hfl (by decide) own_1 hxr m2_141 m2_142 m1_16 hls hnew hlocs hR hmc hms d0 d3 d4 d6 d9
theorem q_thS (M : MC p s m args meth c R_BL cc nL) (hX : XSt s) (hnh : c.exceptionTable.isEmpty = true) (hfl : l.flags = flags0) (hxr : (ik, tx) ∈ xrw) (hls : ls.size = nL) (hnew : s.heap.size ≤ H.size) (hlocs : ∀ x ∈ locs, s.heap.size ≤ x.base) (hR : 5 < R.frames ∧ 90 ≤ R.locals ∧ cells + 1 ≤ R.cells ∧ slots + 6 ≤ R.slots) (hmc : cells + 1 ≤ mc) (hms : slots + 6 ≤ ms)
    (d0 : decode cc pc = .ok (.new 68, 3)) (d3 : decode cc (pc + 3) = .ok (.dup, 1)) (d4 : decode cc (pc + 4) = .ok (.ldc ik, 2)) (d6 : decode cc (pc + 6) = .ok (.invokespecial 72, 3)) (d9 : decode cc (pc + 9) = .ok (.athrow, 1)) :
    W p l e R s m args below meth c H locs cells slots (XQ below ISE s mc ms) (F0 m pc ls []) := q_throw M hX hnh hfl (by decide) own_2 hxr m2_210 m2_211 m1_17 hls hnew hlocs hR hmc hms d0 d3 d4 d6 d9
theorem q_thI (M : MC p s m args meth c R_BL cc nL) (hX : XSt s) (hnh : c.exceptionTable.isEmpty = true) (hfl : l.flags = flags0) (hxr : (ik, tx) ∈ xrw) (hls : ls.size = nL) (hnew : s.heap.size ≤ H.size) (hlocs : ∀ x ∈ locs, s.heap.size ≤ x.base) (hR : 5 < R.frames ∧ 90 ≤ R.locals ∧ cells + 1 ≤ R.cells ∧ slots + 6 ≤ R.slots) (hmc : cells + 1 ≤ mc) (hms : slots + 6 ≤ ms)
    (d0 : decode cc pc = .ok (.new 106, 3)) (d3 : decode cc (pc + 3) = .ok (.dup, 1)) (d4 : decode cc (pc + 4) = .ok (.ldc ik, 2)) (d6 : decode cc (pc + 6) = .ok (.invokespecial 110, 3)) (d9 : decode cc (pc + 9) = .ok (.athrow, 1)) :
    W p l e R s m args below meth c H locs cells slots (XQ below IOB s mc ms) (F0 m pc ls []) := q_throw M hX hnh hfl (by decide) own_3 hxr m4_49 m4_50 m1_19 hls hnew hlocs hR hmc hms d0 d3 d4 d6 d9
end XV
