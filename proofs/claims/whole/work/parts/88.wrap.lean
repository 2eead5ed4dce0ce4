/-! 88: the law's wrappers: their words -/
def xo (g : Geo) (a : Nat) (f : Nat → Int64) : va_W := [(a, .inl (g.2.2.2, 1, .inr (.inl f)))]
def cWi (l : Launch) (y : MethodName) (ws : List Cond) (rm : Room) (g : Geo) (As : List Value) (w : va_W) {S : Type} (post : Int32 → S → Prop) (w' : S → va_W) (mc ms : Nat) : Prop :=
  ∀ sz, Met l y ws rm (va_Pc As (cPreX g sz w)) (va_Qi post (fun u t => cAt g (va_A w sz) (w' u) t) (va_A w sz)) mc ms (va_A w sz)
theorem cPreX_blind {g : Geo} {sz : Nat} {w : va_W} {As : List Value} : FrameBlind (va_Pc As (cPreX g sz w)) := by
  intro a U f mk q
  obtain ⟨q0, q1, q2⟩ := q
  exact ⟨q0, (cPre_blind a U f mk ⟨q0, q1⟩).2, XSt.same (u := U) rfl rfl q2⟩
theorem cWi_of {S : Type} {l : Launch} {y : MethodName} {cc : ByteArray} {maxL : Nat} {hh : List (Nat × Nat × Nat × Nat)} {rm : Room} {g : Geo} {As : List Value} {w : va_W} {post : Int32 → S → Prop} {w' : S → va_W} {mc ms : Nat} (hy : plainName y.cls = true) (hn : (lg_sl As).length ≤ maxL)
    (body : ∀ (p : Program) (e : Env) (s : State) (m : MethodId) (below : List Frame) (meth : Method) (c : Code) (A : Nat → Prop) (Q : State → Prop) (ls : Array Slot), MC p s m As.toArray meth c y.cls cc maxL → XSt s → c.exceptionTable.toList.map (fun h => (h.startPc, h.endPc, h.handlerPc, h.catchType)) = hh →
      (∀ (r : Int32) (u : S) (H : Heap) (locs : List Loc) (k n pc : Nat) (ls : Array Slot), decode cc pc = .ok (.ireturn, 1) → CI g A s (w' u) H locs → post r u → k ≤ mc → n ≤ ms → W p l e rm s m As.toArray below meth c H locs k n Q (F0 m pc ls [.int r])) →
      lv_has ls maxL (lv_args 0 As) → CI g A s w s.heap [] → W p l e rm s m As.toArray below meth c s.heap [] 0 0 Q (F0 m 0 ls [])) :
    cWi l y (.codeWith y cc maxL (some .int) hh :: gw) rm g As w post w' mc ms := by
  intro sz
  refine va_MetW (cc := cc) (maxL := maxL) (ret := some .int) (hh := hh) hy rfl ?_
  intro p e s m args below meth c s₁ B hml hv
  obtain ⟨rfl, ⟨hsz, hP, hK, hD0, hN⟩, hX⟩ := hv
  subst hsz
  have hx := B.exec
  have hb := B.bytes
  have hr := B.returns
  have hts := atoms_spec (ws := .codeWith y cc maxL (some .int) hh :: gw) B.pre
  have hown : s.vm.findClass y.cls = some m.cls := findClass_of_methodNamed B.named
  have hlocks := B.notSynchronized
  have hmap : c.exceptionTable.toList.map (fun h => (h.startPc, h.endPc, h.handlerPc, h.catchType)) = hh := by
    obtain ⟨m9, meth9, c9, n1, n2, n3, n4, n5, n6, -⟩ := Cond.codeWith_spec (hts _ List.mem_cons_self)
    cases n1.symm.trans B.named
    cases n2.symm.trans B.method
    cases n3.symm.trans (Stand.of_body B).code
    exact n6
  rw [lg_entry_eq]
  refine body p e s m below meth c (va_A w s.heap.size) _ _ ⟨hx, hb, hml, hown, fun z hz => hts z (List.mem_cons_of_mem _ hz), hlocks, Or.inr trivial⟩ hX hmap ?_ (lv_entry As hn) ⟨hK, hN, hP, hD0.self, va_S.rf, fun q h => Or.inr h⟩
  intro r u H locs k n pc ls hd hI hp h1 h2
  refine W.widen h1 h2 ?_
  exact W.iret (v := r) hx hb hr (fun t ht hW => ⟨⟨r, u, rfl, hp, by rw [ht]; exact hI.2.2.1, va_K.moved hW.alike hI.1, hI.2.2.2.1⟩, hI.2.2.2.2.1.F ht⟩) hI.2.2.2.2.1.2.2 hd
theorem ex_1 {L : List ExceptionTableEntry} {a : Nat × Nat × Nat × Nat} (h : L.map (fun h => (h.startPc, h.endPc, h.handlerPc, h.catchType)) = [a]) : ∃ x, L = [x] ∧ (x.startPc, x.endPc, x.handlerPc, x.catchType) = a := by
  match L, h with
  | [x], h => exact ⟨x, rfl, by simpa using h⟩
theorem ex_2 {L : List ExceptionTableEntry} {a b : Nat × Nat × Nat × Nat} (h : L.map (fun h => (h.startPc, h.endPc, h.handlerPc, h.catchType)) = [a, b]) : ∃ x y, L = [x, y] ∧ (x.startPc, x.endPc, x.handlerPc, x.catchType) = a ∧ (y.startPc, y.endPc, y.handlerPc, y.catchType) = b := by
  match L, h with
  | [x, y], h =>
    simp only [List.map_cons, List.map_nil, List.cons.injEq, and_true] at h
    exact ⟨x, y, rfl, h.1, h.2⟩
theorem ex_3 {L : List ExceptionTableEntry} {a b d : Nat × Nat × Nat × Nat} (h : L.map (fun h => (h.startPc, h.endPc, h.handlerPc, h.catchType)) = [a, b, d]) : ∃ x y z, L = [x, y, z] ∧ (x.startPc, x.endPc, x.handlerPc, x.catchType) = a ∧ (y.startPc, y.endPc, y.handlerPc, y.catchType) = b ∧ (z.startPc, z.endPc, z.handlerPc, z.catchType) = d := by
  match L, h with
  | [x, y, z], h =>
    simp only [List.map_cons, List.map_nil, List.cons.injEq, and_true] at h
    exact ⟨x, y, z, rfl, h.1, h.2.1, h.2.2⟩
theorem ex_f {x : ExceptionTableEntry} {a b c d pc : Nat} (h : (x.startPc, x.endPc, x.handlerPc, x.catchType) = (a, b, c, d)) (h1 : a ≤ pc) (h2 : pc < b) (hd : d ≠ 0) : covers x pc = true ∧ x.catchType ≠ 0 ∧ x.handlerPc = c ∧ x.catchType = d := by
  simp only [Prod.mk.injEq] at h
  obtain ⟨rfl, rfl, rfl, rfl⟩ := h
  exact ⟨by simp [covers, h1, h2], hd, rfl, rfl⟩
section RW
variable {p : Program} {l : Launch} {e : Env} {R : Room} {s : State} {m : MethodId} {args : Array Value} {below : List Frame} {meth : Method} {c : Code} {H : Heap} {locs : List Loc} {cells slots : Nat} {Q : State → Prop}
variable {own : String} {cc : ByteArray} {nL pc : Nat} {ls : Array Slot} {rest : List Value} {g : Geo} {A : Nat → Prop} {w x : va_W}
theorem q_calliB {S : Type} {y : MethodName} {bytes : ByteArray} {maxL n index mc ms : Nat} {ret : Option FieldType} {rm : Room} {post : Int32 → S → Prop} {w1 : S → va_W} {b : Nat} (As : List Value) {st : List Value} (M : MC p s m args meth c own cc nL) (hB : CI g A s (w ++ x) H locs) (hC : cMi l y (.code y bytes maxL ret :: gw) rm g (.ref b :: As) w post w1 mc ms)
    (ok : OKc y bytes maxL ret n) (k1 : Cond.methodLink own index y ∈ gw) (k2 : Cond.instanceMethod y ∈ gw) (k3 : Cond.selects y.cls y y ∈ gw) (q0 : Nat) {ci : Nat} {fs : List Value} {T : u_T} {N : Nat} (he : w[q0]? = some (b, .inr (ci, fs))) (hc : cls[ci]? = some (y.cls, T, N)) (hst : st = As.reverse ++ .ref b :: rest) (hlen : As.length = n) (hls : ls.size = nL) (hrm : rm.cells = mc ∧ rm.slots = ms) (hR : rm.frames + 1 ≤ R.frames ∧ 8 + (maxL + 11) + rm.locals ≤ R.locals) (hrest : (rest.map fun v => v.category).sum ≤ 8) (hcs : cells + mc ≤ R.cells ∧ slots + ms ≤ R.slots) (hdg : decode cc pc = .ok (.invokevirtual index, 3))
    (kk : ∀ (r : Int32) (u : S) (H : Heap) (locs : List Loc), post r u → CI g A s (w1 u ++ x) H locs → W p l e R s m args below meth c H locs (cells + mc) (slots + ms) Q (F0 m (pc + 3) ls (.int r :: rest))) : W p l e R s m args below meth c H locs cells slots Q (F0 m pc ls st) := by
  have hI := hB.left
  have hF := hI.free
  refine va_calli (va_runV (As := As) (rest := rest) ⟨M.1, M.2.1, M.2.2.1, M.2.2.2.1, M.2.2.2.2.1⟩ (hC H.size) (cwV n M.2.2.2.2.1 (gw_goodIn ok.1 _ (List.forall_mem_cons.mpr ⟨k1, List.forall_mem_cons.mpr ⟨k2, List.forall_mem_cons.mpr ⟨k3, List.forall_mem_cons.mpr ⟨ok.2.1, fun _ h => absurd h List.not_mem_nil⟩⟩⟩⟩)) rfl hrm.1 hrm.2 ⟨rfl, ok.2.2.1, ok.2.2.2.1, ok.2.2.2.2⟩ hR) ⟨cPre_blind, va_recv hI.1 hI.2.2.1 hc he, hI.pre⟩ rfl hlen hls hst (lv_room hrest) hdg hcs) hI.2.2.2.2.1 (fun q _ h => hF q h) hF (fun r u t H1 locs1 ht hvm hp hB1 hz hk hS => kk r u H1 locs1 hp (hB.join ht hvm hB1 hk hS))
theorem xo_at {a : Nat} {f : Nat → Int64} : (w ++ xo g a f)[w.length]? = some (a, .inl (g.2.2.2, 1, .inr (.inl f))) := by
  rw [List.getElem?_append_right (Nat.le_refl _), Nat.sub_self]; rfl
theorem q_stO {a : Nat} {f : Nat → Int64} {v : Int64} (M : MC p s m args meth c own cc nL) (hB : CI g A s (w ++ xo g a f) H locs) (hdg : decode cc pc = .ok (.lastore, 1))
    (kk : ∀ (H : Heap) (locs : List Loc), CI g A s (w ++ xo g a (vp_updL f 0 v)) H locs → W p l e R s m args below meth c H locs cells slots Q (F0 m (pc + 1) ls rest)) : W p l e R s m args below meth c H locs cells slots Q (F0 m pc ls (.long v :: .int 0 :: .ref a :: rest)) := by
  have hset : (w ++ xo g a f).set w.length (a, .inl (g.2.2.2, 1, .inr (.inl (vp_updL f 0 v)))) = w ++ xo g a (vp_updL f 0 v) := by
    rw [List.set_append_right _ _ (Nat.le_refl _), Nat.sub_self]; rfl
  refine va_last M.1 M.2.1 hB.1 hB.2.2.1 hB.2.2.2.1 hB.2.2.2.2.1 w.length 2 xo_at rfl (show vp_in 0 1 from vp_in_nI (n := 0) (by decide) (by decide)) hdg (fun H1 locs1 hP hD hS => ?_)
  rw [show (0 : Int32).toNatClampNeg = 0 from rfl, hset] at hP hD
  exact kk H1 locs1 ⟨hB.1, hB.2.1, hP, hD, hS, hB.2.2.2.2.2⟩
end RW
