/-! 90: the law: rows for its own walk -/
section LWR
variable {p : Program} {l : Launch} {e : Env} {R : Room} {s : State} {m : MethodId} {args : Array Value} {below : List Frame} {meth : Method} {c : Code} {H : Heap} {locs : List Loc} {cells slots : Nat} {Q : State → Prop}
variable {own : String} {cc : ByteArray} {nL pc : Nat} {ls : Array Slot} {rest : List Value} {g : Geo} {A : Nat → Prop} {w x : va_W}
theorem callSW {T : State} (X : Stand p l e R s m args below meth c T locs cells slots) (hexec : p.tables.exec = Jvm.exec) {own : String} {index : Nat} {y : MethodName} {bytes : ByteArray} {maxL : Nat} {ret : Option FieldType} {hh : List (Nat × Nat × Nat × Nat)}
    (hown : s.vm.findClass own = some m.cls) (hlink : (Cond.methodLink own index y).before args s = true) (hstat : (Cond.static y).before args s = true) (hinit : (Cond.initialized y.cls).before args s = true)
    (hcode : (Cond.codeWith y bytes maxL ret hh).before args s = true) (hy : y.cls ≠ "java/lang/invoke/MethodHandle" ∧ y.cls ≠ "java/lang/invoke/VarHandle")
    {W : Nat} {Pre : Pt → Array Value → Prop} {Post : Pt → Array Value → Option Value → Pt → Prop} (hK : Back l R p e below s args y 3 W Pre Post)
    {g : JFrame} (hg : g.method = m) (hsize : g.locals.size = c.maxLocals) {argsL rest : List Value} (hlen : ∀ sig, parseMethodDescriptor y.desc = some sig → argsL.length = sig.parameters.length)
    (hstack : g.stack = argsL.reverse ++ rest) (hW : 2 * g.monitorRoom + (rest.map fun v => v.category).sum ≤ W) (hdg : decode c.code g.pc = .ok (.invokestatic index, 3))
    (hpre : ∀ vm₁, s.WarmedH vm₁ → Pre ⟨T.setVm vm₁, locs, cells, slots⟩ argsL.toArray) :
    ∃ (v : Option Value) (vm₁ : Vm) (B : Pt), s.WarmedH vm₁ ∧ Stand p l e R s m args below meth c B.U B.locs B.cells B.slots ∧ Post ⟨T.setVm vm₁, locs, cells, slots⟩ argsL.toArray v B ∧
      ∀ target, Steps p.tables e below (B.U.setTop { g with pc := g.pc + 3, stack := v.toList ++ rest }) target → Steps p.tables e below (T.setTop g) target := by
  obtain ⟨mk, methM, cM, hnamed, hmethM, -, -, -, -, -, -, hsigM⟩ := Cond.codeWith_spec hcode
  have hstatic : methM.isStatic = true := Cond.static_spec hnamed hmethM hstat
  obtain ⟨kP, hkP, -⟩ := className_of_methodNamed hnamed
  have hinitP : kP.init = .initialized := Cond.initialized_spec (findClass_of_methodNamed hnamed) hkP hinit
  obtain ⟨vm₁, X₁, hstep₁⟩ := X.invokestatic hexec hown hlink hnamed hmethM hstatic hkP hinitP hy (g := g) hg (argsL := argsL) (rest := rest) (hlen _ hsigM) hstack hdg
  obtain ⟨v, B, X', hpost, hsteps⟩ := hK m meth c ⟨T.setVm vm₁, locs, cells, slots⟩ { g with stack := rest } (.invokestatic index) mk argsL.toArray X₁ hg hsize hdg hW (X₁.named hnamed) (hpre vm₁ X₁.warmed)
  exact ⟨v, vm₁, B, X₁.warmed, X', hpost, fun target h => hstep₁ _ fun acts => by rw [doInvoke_state]; exact hsteps.trans h⟩
theorem va_runSW {y : MethodName} {bytes : ByteArray} {maxL mc ms n index : Nat} {ret : Option FieldType} {hh : List (Nat × Nat × Nat × Nat)} {ws : List Cond} {rm : Room} {Pc : Array Value → State → Prop} {Qc : Array Value → State → Outcome → State → Prop} {free : Addr → Prop} {As : List Value} {g : JFrame}
    (M : MC p s m args meth c own cc nL) (hM : Met l y ws rm Pc Qc mc ms free) (hrm : rm.cells = mc ∧ rm.slots = ms) (hR : rm.frames + 1 ≤ R.frames ∧ 8 + (maxL + 11) + rm.locals ≤ R.locals)
    (hws : ∀ w ∈ ws, ∀ a' U, s.WarmedH U.vm → w.before a' U = true) (hcode : Cond.codeWith y bytes maxL ret hh ∈ ws) (hini : (Cond.initialized y.cls) ∈ ws) (hstt : (Cond.static y).before args s = true) (hl : (Cond.methodLink own index y).before args s = true) (hc1 : (Cond.codeWith y bytes maxL ret hh).before args s = true) (hi1 : (Cond.initialized y.cls).before args s = true)
    (hy : y.cls ≠ "java/lang/invoke/MethodHandle" ∧ y.cls ≠ "java/lang/invoke/VarHandle") (hlen : ∀ sig, parseMethodDescriptor y.desc = some sig → n = sig.parameters.length) (hp : PreS s H Pc As)
    (hg : g.method = m) (hn : As.length = n) (hsize : g.locals.size = nL) (hstack : g.stack = As.reverse ++ rest) (hW : 2 * g.monitorRoom + (rest.map fun v => v.category).sum ≤ 8) (hdg : decode cc g.pc = .ok (.invokestatic index, 3)) (hf : cells + mc ≤ R.cells ∧ slots + ms ≤ R.slots) :
    va_Run p l e R s m args below meth c H locs cells slots mc ms g rest (Qc As.toArray) (free) := by
  have hK : Back l R p e below s args y 3 8 (PreOf R mc ms Pc) (PostOf Qc mc ms free) := va_backW hM hp.1 hrm.1 hrm.2 hR.1 hR.2 hws hcode (hws _ hini)
  obtain ⟨hx, hb, hml, ho, -⟩ := M
  intro T hT X
  obtain ⟨v, vm₁, ⟨U', l2, c2, s2⟩, hW₁, X', ⟨g', mk, t, L, e1, e2, hq, h1, hL, h2, h3⟩, st⟩ := callSW X hx (bytes := bytes) (maxL := maxL) (ret := ret) (hh := hh) ho hl hstt hi1 hc1 hy hK hg (hsize.trans hml.symm) (argsL := As) (rest := rest) (fun sig h => hn.trans (hlen sig h)) hstack hW (by rw [hb]; exact hdg)
    (fun vm₁ hW₁ => ⟨hf.1, hf.2, hp.2 (T.setVm vm₁) hT hW₁⟩)
  dsimp only [Pt.U, Pt.locs, Pt.cells, Pt.slots] at X' e1 e2 h1 h2 h3 st
  subst h1; subst h2; subst h3
  exact ⟨v, (T.setVm vm₁).calling g' mk As.toArray, t, U', L, hT, X', hL, e1, e2, hq, st⟩
def OKw (y : MethodName) (bytes : ByteArray) (maxL : Nat) (ret : Option FieldType) (hh : List (Nat × Nat × Nat × Nat)) (n : Nat) : Prop :=
  Cond.codeWith y bytes maxL ret hh ∈ gw ∧ Cond.initialized y.cls ∈ gw ∧ Cond.static y ∈ gw ∧ y.cls ≠ "java/lang/invoke/MethodHandle" ∧ y.cls ≠ "java/lang/invoke/VarHandle" ∧ (parseMethodDescriptor y.desc).map (fun d => d.parameters.length) = some n
theorem XSt.in (hX : XSt s) (hI : CI g A s w H locs) (hA : ∀ q, A q → s.heap.size ≤ q) {U : State} (hU : U.heap = H) (hW : s.WarmedH U.vm) : XSt U := by
  refine hX.keep hW (fun q cell h _ => ?_)
  have hq : q < s.heap.size := (Array.getElem?_eq_some_iff.mp h).1
  rw [hU, hI.2.2.2.2.1.2.1 q hq (fun h => by have := hA q h; omega), h]
theorem q_callW {S : Type} {y : MethodName} {bytes : ByteArray} {maxL n index mc ms : Nat} {ret : Option FieldType} {hh : List (Nat × Nat × Nat × Nat)} {rm : Room} {post : Int32 → S → Prop} {w1 : S → va_W} (As : List Value) {st : List Value} (M : MC p s m args meth c own cc nL) (hX : XSt s) (hA : ∀ q, A q → s.heap.size ≤ q) (hB : CI g A s (w ++ x) H locs) (hC : cWi l y (.codeWith y bytes maxL ret hh :: gw) rm g As w post w1 mc ms)
    (ok : OKw y bytes maxL ret hh n) (k1 : Cond.methodLink own index y ∈ gw) (hst : st = As.reverse ++ rest) (hlen : As.length = n) (hls : ls.size = nL) (hrm : rm.cells = mc ∧ rm.slots = ms) (hR : rm.frames + 1 ≤ R.frames ∧ 8 + (maxL + 11) + rm.locals ≤ R.locals) (hrest : (rest.map fun v => v.category).sum ≤ 8) (hcs : cells + mc ≤ R.cells ∧ slots + ms ≤ R.slots) (hdg : decode cc pc = .ok (.invokestatic index, 3))
    (kk : ∀ (r : Int32) (u : S) (H : Heap) (locs : List Loc), post r u → CI g A s (w1 u ++ x) H locs → W p l e R s m args below meth c H locs (cells + mc) (slots + ms) Q (F0 m (pc + 3) ls (.int r :: rest))) : W p l e R s m args below meth c H locs cells slots Q (F0 m pc ls st) := by
  have hI := hB.left
  have hF := hI.free
  obtain ⟨o1, o2, o3, o4, o5, o6⟩ := ok
  have hg := M.2.2.2.2.1
  have hws : ∀ w ∈ (Cond.codeWith y bytes maxL ret hh :: gw), ∀ a' U, s.WarmedH U.vm → w.before a' U = true := by
    refine pay_in (big := gw) hg (fun w hw => ?_)
    have hm : w ∈ gw := by
      rcases List.mem_cons.mp hw with q | q
      · rw [q]; exact o1
      · exact q
    exact ⟨hm, good_of_word (gw_good w hm)⟩
  refine va_calli (va_runSW (As := As) (rest := rest) (n := n) M (hC H.size) hrm hR hws List.mem_cons_self (List.mem_cons_of_mem _ o2) (hg _ o3) (hg _ k1) (hg _ o1) (hg _ o2) ⟨o4, o5⟩ (fun sig h => by rw [h] at o6; exact (Option.some.inj o6).symm) ⟨cPreX_blind, fun U hU hW => ⟨rfl, (hI.pre (As := As) U hU hW).2, hX.in hI hA hU hW⟩⟩ rfl hlen hls hst (lv_room hrest) hdg hcs) hI.2.2.2.2.1 (fun q _ h => hF q h) hF (fun r u t H1 locs1 ht hvm hp hB1 hz hk hS => kk r u H1 locs1 hp (hB.join ht hvm hB1 hk hS))
theorem CI.swap (h : CI g A s (w ++ x) H locs) : CI g A s (x ++ w) H locs := by
  obtain ⟨h1, h2, h3, h4, h5, h6⟩ := h
  have f : ∀ (k : Nat), ∃ k2, (x ++ w)[k]? = (w ++ x)[k2]? ∧ (k < x.length + w.length → k2 = if k < x.length then w.length + k else k - x.length) := by
    intro k
    by_cases hk : k < x.length
    · refine ⟨w.length + k, ?_, fun _ => by rw [if_pos hk]⟩
      rw [List.getElem?_append_left hk, List.getElem?_append_right (by omega), Nat.add_sub_cancel_left]
    · by_cases hk2 : k < x.length + w.length
      · refine ⟨k - x.length, ?_, fun _ => by rw [if_neg hk]⟩
        rw [List.getElem?_append_right (by omega), List.getElem?_append_left (by omega)]
      · refine ⟨k, ?_, fun h => absurd h hk2⟩
        rw [List.getElem?_eq_none (by rw [List.length_append]; omega), List.getElem?_eq_none (by rw [List.length_append]; omega)]
  have lt : ∀ {k : Nat} {q : Nat × va_E}, (x ++ w)[k]? = some q → k < x.length + w.length := fun h => by
    have := (List.getElem?_eq_some_iff.mp h).1
    rwa [List.length_append] at this
  refine ⟨h1, h2, fun k q hq => ?_, ⟨fun i j y z hi hj e => ?_, fun k q hq => ?_⟩, h5, h6⟩
  · obtain ⟨k2, e2, -⟩ := f k
    exact h3 k2 q (e2 ▸ hq)
  · obtain ⟨i2, ei, gi⟩ := f i
    obtain ⟨j2, ej, gj⟩ := f j
    have hh := h4.1 i2 j2 y z (ei ▸ hi) (ej ▸ hj) e
    have a1 := lt hi
    have a2 := lt hj
    have b1 := gi a1
    have b2 := gj a2
    split at b1 <;> split at b2 <;> omega
  · obtain ⟨k2, e2, -⟩ := f k
    exact h4.2 k2 q (e2 ▸ hq)
end LWR
