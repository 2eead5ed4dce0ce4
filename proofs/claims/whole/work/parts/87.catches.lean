/-! 87: catching -/
theorem go_pass {Q : Handler → Pre} {E : CtlPost} {e : Env} {d : Bool} {acts : List Action} {s : State} {f : JFrame} {a : Addr} {x : ExceptionTableEntry} {t : List ExceptionTableEntry} {c : ClassId} {cell : Cell} (hx : covers x f.pc = true) (h0 : x.catchType ≠ 0)
    (hl : s.vm.ClassLinks e.platform f.method.cls x.catchType c) (hcell : s.heap[a]? = some cell) (hobj : ∀ k, cell.vm ≠ .statics k)
    (hk : ∃ k, s.vm.classes[cell.cls]? = some k) (hc : ∃ k, s.vm.classes[c]? = some k) (hfit : s.vm.assignable cell.cls c = false) :
    wp (findHandler.go f a (x :: t)) Q E e d acts s ↔ wp (findHandler.go f a t) Q E e d acts (s.setVm (s.vm.noted f.method.cls x.catchType (.cls c))) := by
  simp only [covers] at hx
  obtain ⟨ha, ht⟩ := (resolveClass_links e.toSetting hl).op (op := VmOp.resolveClass f.method.cls x.catchType) rfl
  have hal : s.vm.Alike (s.vm.noted f.method.cls x.catchType (.cls c)) := (Vm.Alike.refl s.vm).noted _ _ _
  obtain ⟨k1, hk1⟩ := hk
  obtain ⟨k2, hk2⟩ := hc
  obtain ⟨k1', hk1', -⟩ := hal.2.2 _ _ hk1
  obtain ⟨k2', hk2', -⟩ := hal.2.2 _ _ hk2
  have hfit' : (s.vm.noted f.method.cls x.catchType (.cls c)).assignable cell.cls c = false := by rw [hal.assignable]; exact hfit
  simp [findHandler.go, hx, h0, ha, ht, hcell, hobj, hk1', hk2', hfit', VmOp.dirties, VmOp.acts]
theorem go_list {e : Env} {s S : State} {f : JFrame} {a : Addr} {x : ExceptionTableEntry} {rest : List ExceptionTableEntry} {cell : Cell} {cT : ClassId} (hcell : S.heap[a]? = some cell) (hobj : ∀ k, cell.vm ≠ .statics k) (hkc : ∃ k, s.vm.classes[cell.cls]? = some k)
    (hx : covers x f.pc = true) (h0 : x.catchType ≠ 0) (hl : s.vm.ClassLinks e.platform f.method.cls x.catchType cT) (hfit : s.vm.assignable cell.cls cT = true) :
    ∀ (pre : List ExceptionTableEntry) (vm : Vm), s.WarmedH vm → (∀ y ∈ pre, covers y f.pc = true ∧ y.catchType ≠ 0 ∧ ∃ c, s.vm.ClassLinks e.platform f.method.cls y.catchType c ∧ s.vm.assignable cell.cls c = false) →
    ∃ vm', s.WarmedH vm' ∧ ∀ (Q : Handler → Pre) (E : CtlPost) (d : Bool) (acts : List Action), wp (findHandler.go f a (pre ++ x :: rest)) Q E e d acts (S.setVm vm) ↔ Q (.found x.handlerPc) d acts (S.setVm vm') := by
  intro pre
  induction pre with
  | nil =>
    intro vm hW _
    obtain ⟨dk, _, _, kt, hd, _, _, _, _, hkt, _, hop⟩ := hl.here
    obtain ⟨k1, hk1⟩ := hkc
    obtain ⟨k1', hk1', -⟩ := hW.alike.2.2 _ _ hk1
    obtain ⟨kt', hkt', -⟩ := hW.alike.2.2 _ _ hkt
    refine ⟨_, hW.noted hd hop (State.rightAt_cls hl), fun Q E d acts => ?_⟩
    exact Jvm.W.findHandler_go_link (s := S.setVm vm) hx h0 (hW.classLinks hl) hcell hobj ⟨k1', hk1'⟩ ⟨kt', hkt'⟩ (by show vm.assignable _ _ = true; rw [hW.alike.assignable]; exact hfit)
  | cons y ys ih =>
    intro vm hW hp
    obtain ⟨y1, y2, cy, y3, y4⟩ := hp y List.mem_cons_self
    obtain ⟨dk, _, _, kt, hd, _, _, _, _, hkt, _, hop⟩ := y3.here
    obtain ⟨k1, hk1⟩ := hkc
    obtain ⟨k1', hk1', -⟩ := hW.alike.2.2 _ _ hk1
    obtain ⟨kt', hkt', -⟩ := hW.alike.2.2 _ _ hkt
    obtain ⟨vm', hW', h⟩ := ih (vm.noted f.method.cls y.catchType (.cls cy)) (hW.noted hd hop (State.rightAt_cls y3)) (fun z hz => hp z (List.mem_cons_of_mem _ hz))
    refine ⟨vm', hW', fun Q E d acts => ?_⟩
    rw [List.cons_append, go_pass (s := S.setVm vm) y1 y2 (hW.classLinks y3) hcell hobj ⟨k1', hk1'⟩ ⟨kt', hkt'⟩ (by show vm.assignable _ _ = false; rw [hW.alike.assignable]; exact y4)]
    exact h Q E d acts
section XCA
variable {p : Program} {l : Launch} {e : Env} {R : Room} {s : State} {m : MethodId} {args : Array Value} {below : List Frame} {meth : Method} {c : Code} {H : Heap} {locs : List Loc} {cells slots : Nat} {Q : State → Prop}
variable {g : Geo} {A : Nat → Prop} {w : va_W} {own : String} {cc : ByteArray} {nL pc : Nat} {ls : Array Slot} {rest : List Value}
/-- from the throw to the handler -/
theorem x_caught {T : State} (X : Stand p l e R s m args below meth c T locs cells slots) (a : Addr) {gf : JFrame} (hg : gf.method = m) (hown : s.vm.findClass own = some m.cls) {pre post : List ExceptionTableEntry} {x : ExceptionTableEntry} {nx : String} {ce : Cell}
    (hsplit : c.exceptionTable.toList = pre ++ x :: post) (hcov : covers x gf.pc = true) (h0 : x.catchType ≠ 0) (hlink : (Cond.classLink own x.catchType nx).before args s = true) (hpre : ∀ y ∈ pre, covers y gf.pc = true ∧ y.catchType ≠ 0 ∧ ∃ n, (Cond.classLink own y.catchType n).before args s = true ∧ ∀ cy, s.vm.findClass n = some cy → s.vm.assignable ce.cls cy = false)
    (hcell : T.heap[a]? = some ce) (hvm : ce.vm = .none) (hcls : s.vm.findClass nx = some ce.cls) :
    ∃ vm', Stand p l e R s m args below meth c (T.setVm vm') locs cells slots ∧ ∀ target, Steps p.tables e below ((T.setVm vm').setTop { gf with pc := x.handlerPc, stack := [.ref a] }) target → Steps p.tables e below ((T.setTop gf).pushFrame (.throwing a)) target := by
  have hpl : e.platform.magicAccessors = ({} : Platform).magicAccessors := by rw [X.admits.platform]
  obtain ⟨c', hc', hcl⟩ := Cond.classLink_spec hown hlink e.platform hpl
  cases hcls.symm.trans hc'
  obtain ⟨dk, _, _, kt, hd, _, _, _, _, hkt, _, hop⟩ := hcl.here
  subst hg
  have hobj : ∀ k, ce.vm ≠ .statics k := fun k h => by rw [hvm] at h; cases h
  obtain ⟨vm', hW', hgo⟩ := go_list (e := e) (s := s) (S := (T.setTop gf).pushFrame (.throwing a)) (f := gf) (a := a) (x := x) (rest := post) (cell := ce) (cT := ce.cls) hcell hobj ⟨kt, hkt⟩ hcov h0 hcl (Vm.assignable_self _ _) pre T.vm X.warmed (fun y hy => by
    obtain ⟨y1, y2, n, y3, y4⟩ := hpre y hy
    obtain ⟨cy, hcy, hly⟩ := Cond.classLink_spec hown y3 e.platform hpl
    exact ⟨y1, y2, cy, hly, y4 cy hcy⟩)
  refine ⟨vm', X.noted hW', fun target hrest => Steps.caughtTo X.here ?_ hrest⟩
  intro Q E d acts
  rw [Jvm.W.findHandler_eq (s := (T.setTop gf).pushFrame (.throwing a)) (meth := meth) (code := c) X.method' X.code, hsplit]
  have := hgo Q E d acts
  exact this
theorem q_catch {y : MethodName} {bytes : ByteArray} {maxL n index mc ms b : Nat} {ret : Option FieldType} {rm : Room} {X : String} (As : List Value) {st : List Value} (M : MC p s m args meth c own cc nL) (hX : XSt s) (hI : CI g A s w s.heap []) (hC : cMx l y (.code y bytes maxL ret :: gw) rm g (.ref b :: As) w X mc ms)
    (ok : OKc y bytes maxL ret n) (k1 : Cond.methodLink own index y ∈ gw) (k2 : Cond.instanceMethod y ∈ gw) (k3 : Cond.selects y.cls y y ∈ gw) (q0 : Nat) {ci : Nat} {fs : List Value} {Tt : u_T} {N : Nat} (he : w[q0]? = some (b, .inr (ci, fs))) (hc : cls[ci]? = some (y.cls, Tt, N)) (hst : st = As.reverse ++ .ref b :: rest) (hlen : As.length = n) (hls : ls.size = nL) (hrm : rm.cells = mc ∧ rm.slots = ms) (hR : rm.frames + 1 ≤ R.frames ∧ 8 + (maxL + 11) + rm.locals ≤ R.locals) (hrest : (rest.map fun v => v.category).sum ≤ 8) (hcs : mc ≤ R.cells ∧ ms ≤ R.slots) (hdg : decode cc pc = .ok (.invokevirtual index, 3))
    {pre post : List ExceptionTableEntry} {x : ExceptionTableEntry} (hsplit : c.exceptionTable.toList = pre ++ x :: post) (hcov : covers x pc = true) (h0 : x.catchType ≠ 0) (hlink : Cond.classLink own x.catchType X ∈ gw) (hpre : ∀ y ∈ pre, covers y pc = true ∧ y.catchType ≠ 0 ∧ ∃ n, Cond.classLink own y.catchType n ∈ gw ∧ (X, n) ∈ xnw)
    (kk : ∀ (H1 : Heap) (v : Nat), s.heap.size ≤ H1.size → (∀ q : Nat, q < s.heap.size → H1[q]? = s.heap[q]?) → W p l e R s m args below meth c H1 [] mc ms Q (F0 m x.handlerPc ls [.ref v])) :
    W p l e R s m args below meth c s.heap [] 0 0 Q (F0 m pc ls st) := by
  intro T hT X'
  obtain ⟨v, B, ce, X2, h1, h2, h3, h4, hsteps⟩ := x_call As M hX hI hC ok k1 k2 k3 q0 he hc hst hlen hls hrm hR hrest hcs hdg hT X'
  obtain ⟨vm', X3, hcaught⟩ := x_caught X2 v (gf := F0 m pc ls rest) rfl M.2.2.2.1 hsplit hcov h0 (M.2.2.2.2.1 _ hlink) (fun y hy => by
    obtain ⟨y1, y2, n, y3, y4⟩ := hpre y hy
    exact ⟨y1, y2, n, M.2.2.2.2.1 _ y3, fun cy hcy => hX.2.2.2 _ y4 ce.cls cy h4 hcy⟩) h2 h3 h4
  have hold : ∀ q : Nat, q < s.heap.size → B.heap[q]? = s.heap[q]? := by
    intro q hq
    obtain ⟨c0, hc0⟩ : ∃ c0, s.heap[q]? = some c0 := ⟨_, Array.getElem?_eq_getElem hq⟩
    obtain ⟨c1, e1, e2, e3, e4⟩ := X2.same.2.2.2.2.2 q c0 hc0
    rw [hc0]
    have hs : c1.slots = c0.slots := by
      apply Array.ext_getElem?
      intro i
      exact e4 i List.not_mem_nil
    have : c1 = c0 := by rw [e2, hs]
    rw [← this]; exact e1
  have hsz : s.heap.size ≤ B.heap.size := X2.same.2.1
  obtain ⟨t, a1, b1⟩ := kk B.heap v hsz hold (B.setVm vm') rfl X3
  exact ⟨t, hsteps.trans (hcaught t a1), b1⟩
theorem CI.old {H1 : Heap} (hI : CI g A s w s.heap []) (hsz : s.heap.size ≤ H1.size) (hold : ∀ q : Nat, q < s.heap.size → H1[q]? = s.heap[q]?) : CI g A s w H1 [] := by
  obtain ⟨hK, hN, hP, hD, hS, hA⟩ := hI
  exact ⟨hK, hN, hP.kept (fun k q hq => hold q.1 (hP k q hq).lt), hD, ⟨hsz, fun q h1 _ => hold q h1, fun _ h => absurd h List.not_mem_nil⟩, hA⟩
end XCA
