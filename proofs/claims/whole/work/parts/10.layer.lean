/-! my layer: one hypothesis for the world (CI), one for the method (MC), contracts over whole worlds (cMi, cMv) -/
abbrev Geo : Type := va_G × (ClassId × ClassId × ClassId)
def gt (g : Geo) : List (ClassId × FieldType) := [(g.2.1, .int), (g.2.2.1, .boolean), (g.2.2.2, .long)]
def CI (g : Geo) (A : Nat → Prop) (s : State) (w : va_W) (H : Heap) (locs : List Loc) : Prop :=
  va_K g.1 cls (gt g) s ∧ NW s ∧ va_P g.1 cls w H ∧ va_D A w ∧ va_S A s.heap H locs ∧ ∀ q, s.heap.size ≤ q → A q
def MC (p : Program) (s : State) (m : MethodId) (args : Array Value) (meth : Method) (c : Code) (own : String) (cc : ByteArray) (nL : Nat) : Prop :=
  p.tables.exec = Jvm.exec ∧ c.code = cc ∧ c.maxLocals = nL ∧ s.vm.findClass own = some m.cls ∧ (∀ w ∈ gw, w.before args s = true) ∧ meth.locks = false ∧ (meth.name = "<init>" ∨ True)
def cPre (g : Geo) (sz : Nat) (w : va_W) : State → Prop := fun U => U.heap.size = sz ∧ va_P g.1 cls w U.heap ∧ va_K g.1 cls (gt g) U ∧ va_D (fun _ => True) w ∧ NW U
def cAt (g : Geo) (A : Nat → Prop) (w : va_W) (t : State) : Prop := va_P g.1 cls w t.heap ∧ va_K g.1 cls (gt g) t ∧ va_D A w
def cMi (l : Launch) (y : MethodName) (ws : List Cond) (rm : Room) (g : Geo) (As : List Value) (w : va_W) {S : Type} (post : Int32 → S → Prop) (w' : S → va_W) (mc ms : Nat) : Prop :=
  ∀ sz, Met l y ws rm (va_Pc As (cPre g sz w)) (va_Qi post (fun u t => cAt g (va_A w sz) (w' u) t) (va_A w sz)) mc ms (va_A w sz)
def cMv (l : Launch) (y : MethodName) (ws : List Cond) (rm : Room) (g : Geo) (As : List Value) (w : va_W) {S : Type} (post : S → Prop) (w' : S → va_W) (mc ms : Nat) : Prop :=
  ∀ sz, Met l y ws rm (va_Pc As (cPre g sz w)) (va_Qv post (fun u t => cAt g (va_A w sz) (w' u) t) (va_A w sz)) mc ms (va_A w sz)
theorem cPre_blind {g : Geo} {sz : Nat} {w : va_W} {As : List Value} : FrameBlind (va_Pc As (cPre g sz w)) := by
  intro a U f mk q
  obtain ⟨q0, q1, qP, qK, qD, qN⟩ := q
  exact ⟨q0, q1, qP, va_K.moved (u := U) (U := U.calling f mk a) (Vm.Alike.refl U.vm) qK, qD, NW.same (u := U) (U := U.calling f mk a) rfl qN⟩
theorem cMi_of {S : Type} {l : Launch} {y : MethodName} {cc : ByteArray} {maxL : Nat} {rm : Room} {g : Geo} {As : List Value} {w : va_W} {post : Int32 → S → Prop} {w' : S → va_W} {mc ms : Nat} (hy : plainName y.cls = true) (hn : (lg_sl As).length ≤ maxL)
    (body : ∀ (p : Program) (e : Env) (s : State) (m : MethodId) (below : List Frame) (meth : Method) (c : Code) (A : Nat → Prop) (Q : State → Prop) (ls : Array Slot), MC p s m As.toArray meth c y.cls cc maxL →
      (∀ (r : Int32) (u : S) (H : Heap) (locs : List Loc) (k n pc : Nat) (ls : Array Slot), decode cc pc = .ok (.ireturn, 1) → CI g A s (w' u) H locs → post r u → k ≤ mc → n ≤ ms → W p l e rm s m As.toArray below meth c H locs k n Q (F0 m pc ls [.int r])) →
      lv_has ls maxL (lv_args 0 As) → CI g A s w s.heap [] → W p l e rm s m As.toArray below meth c s.heap [] 0 0 Q (F0 m 0 ls [])) :
    cMi l y (.code y cc maxL (some .int) :: gw) rm g As w post w' mc ms := by
  intro sz
  refine Met.ofW (cc := cc) (maxL := maxL) (ret := some .int) hy rfl ?_
  intro p e s m args below meth c s₁ B hml hv
  obtain ⟨rfl, hsz, hP, hK, hD0, hN⟩ := hv
  subst hsz
  have hx := B.exec
  have hb := B.bytes
  have hr := B.returns
  have hts := atoms_spec (ws := .code y cc maxL (some .int) :: gw) B.pre
  have hown : s.vm.findClass y.cls = some m.cls := findClass_of_methodNamed B.named
  have hlocks := B.notSynchronized
  rw [lg_entry_eq]
  refine body p e s m below meth c (va_A w s.heap.size) _ _ ⟨hx, hb, hml, hown, fun z hz => hts z (List.mem_cons_of_mem _ hz), hlocks, Or.inr trivial⟩ ?_ (lv_entry As hn) ⟨hK, hN, hP, hD0.self, va_S.rf, fun q h => Or.inr h⟩
  intro r u H locs k n pc ls hd hI hp h1 h2
  refine W.widen h1 h2 ?_
  exact W.iret (v := r) hx hb hr (fun t ht hW => ⟨⟨r, u, rfl, hp, by rw [ht]; exact hI.2.2.1, va_K.moved hW.alike hI.1, hI.2.2.2.1⟩, hI.2.2.2.2.1.F ht⟩) hI.2.2.2.2.1.2.2 hd
theorem cMz_of {S : Type} {l : Launch} {y : MethodName} {cc : ByteArray} {maxL : Nat} {rm : Room} {g : Geo} {As : List Value} {w : va_W} {post : Int32 → S → Prop} {w' : S → va_W} {mc ms : Nat} (hy : plainName y.cls = true) (hn : (lg_sl As).length ≤ maxL)
    (body : ∀ (p : Program) (e : Env) (s : State) (m : MethodId) (below : List Frame) (meth : Method) (c : Code) (A : Nat → Prop) (Q : State → Prop) (ls : Array Slot), MC p s m As.toArray meth c y.cls cc maxL →
      (∀ (r : Int32) (u : S) (H : Heap) (locs : List Loc) (k n pc : Nat) (ls : Array Slot), decode cc pc = .ok (.ireturn, 1) → CI g A s (w' u) H locs → post r u → narrow .boolean (.int r) = .int r → k ≤ mc → n ≤ ms → W p l e rm s m As.toArray below meth c H locs k n Q (F0 m pc ls [.int r])) →
      lv_has ls maxL (lv_args 0 As) → CI g A s w s.heap [] → W p l e rm s m As.toArray below meth c s.heap [] 0 0 Q (F0 m 0 ls [])) :
    cMi l y (.code y cc maxL (some .boolean) :: gw) rm g As w post w' mc ms := by
  intro sz
  refine Met.ofW (cc := cc) (maxL := maxL) (ret := some .boolean) hy rfl ?_
  intro p e s m args below meth c s₁ B hml hv
  obtain ⟨rfl, hsz, hP, hK, hD0, hN⟩ := hv
  subst hsz
  have hx := B.exec
  have hb := B.bytes
  have hr := B.returns
  have hts := atoms_spec (ws := .code y cc maxL (some .boolean) :: gw) B.pre
  have hown : s.vm.findClass y.cls = some m.cls := findClass_of_methodNamed B.named
  have hlocks := B.notSynchronized
  rw [lg_entry_eq]
  refine body p e s m below meth c (va_A w s.heap.size) _ _ ⟨hx, hb, hml, hown, fun z hz => hts z (List.mem_cons_of_mem _ hz), hlocks, Or.inr trivial⟩ ?_ (lv_entry As hn) ⟨hK, hN, hP, hD0.self, va_S.rf, fun q h => Or.inr h⟩
  intro r u H locs k n pc ls hd hI hp hz h1 h2
  refine W.widen h1 h2 ?_
  exact W.zret (v := r) hx hb hr hz (fun t ht hW => ⟨⟨r, u, rfl, hp, by rw [ht]; exact hI.2.2.1, va_K.moved hW.alike hI.1, hI.2.2.2.1⟩, hI.2.2.2.2.1.F ht⟩) hI.2.2.2.2.1.2.2 hd
theorem cMv_of {S : Type} {l : Launch} {y : MethodName} {cc : ByteArray} {maxL : Nat} {rm : Room} {g : Geo} {As : List Value} {w : va_W} {post : S → Prop} {w' : S → va_W} {mc ms : Nat} (hy : plainName y.cls = true) (hn : (lg_sl As).length ≤ maxL)
    (body : ∀ (p : Program) (e : Env) (s : State) (m : MethodId) (below : List Frame) (meth : Method) (c : Code) (A : Nat → Prop) (Q : State → Prop) (ls : Array Slot), MC p s m As.toArray meth c y.cls cc maxL → meth.name = y.name →
      (∀ (u : S) (H : Heap) (locs : List Loc) (k n pc : Nat) (ls : Array Slot), decode cc pc = .ok (.return_, 1) → CI g A s (w' u) H locs → post u → k ≤ mc → n ≤ ms → W p l e rm s m As.toArray below meth c H locs k n Q (F0 m pc ls [])) →
      lv_has ls maxL (lv_args 0 As) → CI g A s w s.heap [] → W p l e rm s m As.toArray below meth c s.heap [] 0 0 Q (F0 m 0 ls [])) :
    cMv l y (.code y cc maxL none :: gw) rm g As w post w' mc ms := by
  intro sz
  refine Met.ofW (cc := cc) (maxL := maxL) (ret := none) hy rfl ?_
  intro p e s m args below meth c s₁ B hml hv
  obtain ⟨rfl, hsz, hP, hK, hD0, hN⟩ := hv
  subst hsz
  have hx := B.exec
  have hb := B.bytes
  have hr := B.returns
  have hts := atoms_spec (ws := .code y cc maxL none :: gw) B.pre
  have hown : s.vm.findClass y.cls = some m.cls := findClass_of_methodNamed B.named
  have hlocks := B.notSynchronized
  rw [lg_entry_eq]
  refine body p e s m below meth c (va_A w s.heap.size) _ _ ⟨hx, hb, hml, hown, fun z hz => hts z (List.mem_cons_of_mem _ hz), hlocks, Or.inr trivial⟩ (name_of_methodNamed B.named B.method).1 ?_ (lv_entry As hn) ⟨hK, hN, hP, hD0.self, va_S.rf, fun q h => Or.inr h⟩
  intro u H locs k n pc ls hd hI hp h1 h2
  refine W.widen h1 h2 ?_
  exact W.vret hx hb hr (fun t ht hW => ⟨⟨u, rfl, hp, by rw [ht]; exact hI.2.2.1, va_K.moved hW.alike hI.1, hI.2.2.2.1⟩, hI.2.2.2.2.1.F ht⟩) hI.2.2.2.2.1.2.2 hd
section LayerRows
variable {p : Program} {l : Launch} {e : Env} {R : Room} {s : State} {m : MethodId} {args : Array Value} {below : List Frame} {meth : Method} {c : Code} {H : Heap} {locs : List Loc} {cells slots : Nat} {Q : State → Prop}
variable {own : String} {cc : ByteArray} {nL pc : Nat} {ls : Array Slot} {rest : List Value} {g : Geo} {A : Nat → Prop} {w : va_W}
theorem q_as {x y : Int32} (h : x = y) (k : W p l e R s m args below meth c H locs cells slots Q (F0 m pc ls (.int y :: rest))) : W p l e R s m args below meth c H locs cells slots Q (F0 m pc ls (.int x :: rest)) := by
  rw [h]; exact k
theorem q_get (M : MC p s m args meth c own cc nL) (hI : CI g A s w H locs) (q0 : Nat) {a ci : Nat} {fs : List Value} {C : String} {T : u_T} {N : Nat} (he : w[q0]? = some (a, .inr (ci, fs))) (hc : cls[ci]? = some (C, T, N)) (hin : ∀ x ∈ u_ws C T N, x ∈ gw) (k : Nat) (hk : k < N) {index : Nat} (hl : Cond.fieldLink own index (T k).1 (T k).2.1 (T k).2.2.1 ∈ gw) {v : Value} (hv : fs[k]? = some v) (hdg : decode cc pc = .ok (.getfield index, 3))
    (kk : W p l e R s m args below meth c H locs cells slots Q (F0 m (pc + 3) ls (v :: rest))) : W p l e R s m args below meth c H locs cells slots Q (F0 m pc ls (.ref a :: rest)) :=
  va_get M.1 M.2.1 M.2.2.2.2.1 hin M.2.2.2.1 hI.1 hI.2.2.1 q0 he hc k hk (M.2.2.2.2.1 _ hl) (fun _ h => h) hv hdg kk
theorem q_put (M : MC p s m args meth c own cc nL) (hI : CI g A s w H locs) (q0 : Nat) {a ci : Nat} {fs : List Value} {C : String} {T : u_T} {N : Nat} (he : w[q0]? = some (a, .inr (ci, fs))) (hc : cls[ci]? = some (C, T, N)) (hin : ∀ x ∈ u_ws C T N, x ∈ gw) (ty0 : Nat → FieldType) (hty : ∀ k, k < N → parseFieldDescriptor (T k).2.2.1 = some (ty0 k)) (hnm : ∀ a, a < N → ∀ b, b < N → a ≠ b → (T a).2.1 ≠ (T b).2.1) (k : Nat) (hk : k < N) {index : Nat} (hl : Cond.fieldLink own index (T k).1 (T k).2.1 (T k).2.2.1 ∈ gw) (hfin : (T k).2.2.2 = false) {v : Value} (hn : narrow (ty0 k) v = v) (hfit : fits (ty0 k) v = true) (hlen : k < fs.length) {w2 : va_W} (hw2 : w.set q0 (a, .inr (ci, fs.set k v)) = w2) (hdg : decode cc pc = .ok (.putfield index, 3))
    (kk : ∀ (H : Heap) (locs : List Loc), CI g A s w2 H locs → W p l e R s m args below meth c H locs cells slots Q (F0 m (pc + 3) ls rest)) : W p l e R s m args below meth c H locs cells slots Q (F0 m pc ls (v :: .ref a :: rest)) := by
  subst hw2
  exact va_put M.1 M.2.1 M.2.2.2.2.1 hin ty0 hty hnm M.2.2.2.1 hI.1 hI.2.2.1 hI.2.2.2.1 hI.2.2.2.2.1 q0 he hc k hk (M.2.2.2.2.1 _ hl) (fun _ h => h) hfin (hty k hk) hn hfit hlen hdg (fun H1 locs1 hP hD hS => kk H1 locs1 ⟨hI.1, hI.2.1, hP, hD, hS, hI.2.2.2.2.2⟩)
theorem q_iald (M : MC p s m args meth c own cc nL) (hI : CI g A s w H locs) (q0 : Nat) {a n : Nat} {f : Nat → Int32} (he : w[q0]? = some (a, .inl (g.2.1, n, .inl f))) {i : Int32} (j : Nat) (ei : i = nI j) (hj : j < n) (hn : n < 2 ^ 31) (hdg : decode cc pc = .ok (.iaload, 1))
    (kk : W p l e R s m args below meth c H locs cells slots Q (F0 m (pc + 1) ls (.int (f j) :: rest))) : W p l e R s m args below meth c H locs cells slots Q (F0 m pc ls (.int i :: .ref a :: rest)) := by
  subst ei
  refine va_iald M.1 M.2.1 hI.1 hI.2.2.1 q0 0 he rfl (vp_in_nI hj hn) hdg ?_
  rw [nI_clamp (by omega)]
  exact kk
theorem q_zald (M : MC p s m args meth c own cc nL) (hI : CI g A s w H locs) (q0 : Nat) {a n : Nat} {f : Nat → Int32} (he : w[q0]? = some (a, .inl (g.2.2.1, n, .inl f))) {i : Int32} (j : Nat) (ei : i = nI j) (hj : j < n) (hn : n < 2 ^ 31) (hdg : decode cc pc = .ok (.baload, 1))
    (kk : W p l e R s m args below meth c H locs cells slots Q (F0 m (pc + 1) ls (.int (f j) :: rest))) : W p l e R s m args below meth c H locs cells slots Q (F0 m pc ls (.int i :: .ref a :: rest)) := by
  subst ei
  refine va_zald M.1 M.2.1 hI.1 hI.2.2.1 q0 1 he rfl (vp_in_nI hj hn) hdg ?_
  rw [nI_clamp (by omega)]
  exact kk
theorem q_iast (M : MC p s m args meth c own cc nL) (hI : CI g A s w H locs) (q0 : Nat) {a n : Nat} {f : Nat → Int32} (he : w[q0]? = some (a, .inl (g.2.1, n, .inl f))) {i x : Int32} (j : Nat) (ei : i = nI j) (hj : j < n) (hn : n < 2 ^ 31) {w2 : va_W} (hw2 : w.set q0 (a, .inl (g.2.1, n, .inl (upd f j x))) = w2) (hdg : decode cc pc = .ok (.iastore, 1))
    (kk : ∀ (H : Heap) (locs : List Loc), CI g A s w2 H locs → W p l e R s m args below meth c H locs cells slots Q (F0 m (pc + 1) ls rest)) : W p l e R s m args below meth c H locs cells slots Q (F0 m pc ls (.int x :: .int i :: .ref a :: rest)) := by
  subst ei; subst hw2
  refine va_iast M.1 M.2.1 hI.1 hI.2.2.1 hI.2.2.2.1 hI.2.2.2.2.1 q0 0 he rfl (vp_in_nI hj hn) hdg (fun H1 locs1 hP hD hS => ?_)
  rw [nI_clamp (by omega)] at hP hD
  exact kk H1 locs1 ⟨hI.1, hI.2.1, hP, hD, hS, hI.2.2.2.2.2⟩
theorem q_zast (M : MC p s m args meth c own cc nL) (hI : CI g A s w H locs) (q0 : Nat) {a n : Nat} {f : Nat → Int32} (he : w[q0]? = some (a, .inl (g.2.2.1, n, .inl f))) {i x : Int32} (j : Nat) (ei : i = nI j) (hj : j < n) (hn : n < 2 ^ 31) (hz : narrow .boolean (.int x) = .int x) {w2 : va_W} (hw2 : w.set q0 (a, .inl (g.2.2.1, n, .inl (upd f j x))) = w2) (hdg : decode cc pc = .ok (.bastore, 1))
    (kk : ∀ (H : Heap) (locs : List Loc), CI g A s w2 H locs → W p l e R s m args below meth c H locs cells slots Q (F0 m (pc + 1) ls rest)) : W p l e R s m args below meth c H locs cells slots Q (F0 m pc ls (.int x :: .int i :: .ref a :: rest)) := by
  subst ei; subst hw2
  refine va_zast M.1 M.2.1 hI.1 hI.2.2.1 hI.2.2.2.1 hI.2.2.2.2.1 q0 1 he rfl (vp_in_nI hj hn) hdg (fun H1 locs1 hP hD hS => ?_)
  have e9 : vp_nar .boolean x = x := by
    unfold vp_nar
    rw [hz]
  rw [nI_clamp (by omega), e9] at hP hD
  exact kk H1 locs1 ⟨hI.1, hI.2.1, hP, hD, hS, hI.2.2.2.2.2⟩
/-- what a caller's words must hold of a callee -/
def OKc (y : MethodName) (bytes : ByteArray) (maxL : Nat) (ret : Option FieldType) (n : Nat) : Prop :=
  Cond.code y bytes maxL ret ∈ gw ∧ Cond.initialized y.cls ∈ gw ∧ y.cls ≠ "java/lang/invoke/MethodHandle" ∧ y.cls ≠ "java/lang/invoke/VarHandle" ∧ (parseMethodDescriptor y.desc).map (fun d => d.parameters.length) = some n
theorem gw_goodIn {y : MethodName} {bytes : ByteArray} {maxL : Nat} {ret : Option FieldType} (h : Cond.code y bytes maxL ret ∈ gw) (pre : List Cond) (hp : ∀ x ∈ pre, x ∈ gw) : GoodIn gw (pre ++ (.code y bytes maxL ret :: gw)) := by
  intro x hx
  have hm : x ∈ gw := by
    rcases List.mem_append.mp hx with q | q
    · exact hp x q
    · rcases List.mem_cons.mp q with q | q
      · rw [q]; exact h
      · exact q
  exact ⟨hm, good_of_word (gw_good x hm)⟩
theorem CI.next {S : Type} {w1 : S → va_W} {u : S} {t : State} {H1 : Heap} {locs1 : List Loc} (hI : CI g A s w H locs) (ht : t.heap = H1) (hvm : s.vm.Alike t.vm) (hB : cAt g (va_A w H.size) (w1 u) t) (hk : ∀ q : Nat, q < H.size → ¬ va_A w H.size q → H1[q]? = H[q]?) (hF : ∀ q, va_A w H.size q → A q) (hS : va_S A s.heap H1 locs1) : CI g A s (w1 u) H1 locs1 := by
  obtain ⟨hP1, hK1, hD1⟩ := hB
  rw [ht] at hP1
  exact ⟨hI.1, hI.2.1, hP1, hD1.weaken (fun k q _ h => hF q.1 h), hS, hI.2.2.2.2.2⟩
theorem CI.free (hI : CI g A s w H locs) : ∀ q, va_A w H.size q → A q := by
  intro q h
  rcases h with ⟨k, e, h⟩ | h
  · exact hI.2.2.2.1.2 k (q, e) h
  · exact hI.2.2.2.2.2 q (Nat.le_trans hI.2.2.2.2.1.1 h)
theorem CI.pre (hI : CI g A s w H locs) {As : List Value} : ∀ U : State, U.heap = H → s.WarmedH U.vm → va_Pc As (cPre g H.size w) As.toArray U := fun U hU hW =>
  ⟨rfl, by rw [hU], by rw [hU]; exact hI.2.2.1, va_K.moved hW.alike hI.1, hI.2.2.2.1.weaken (fun _ _ _ _ => trivial), NW.warm hW hI.2.1⟩
/-- a call on an object of the world -/
theorem q_calliV {S : Type} {y : MethodName} {bytes : ByteArray} {maxL n index mc ms : Nat} {ret : Option FieldType} {rm : Room} {post : Int32 → S → Prop} {w1 : S → va_W} {b : Nat} (As : List Value) {st : List Value} (M : MC p s m args meth c own cc nL) (hI : CI g A s w H locs) (hC : cMi l y (.code y bytes maxL ret :: gw) rm g (.ref b :: As) w post w1 mc ms)
    (ok : OKc y bytes maxL ret n) (k1 : Cond.methodLink own index y ∈ gw) (k2 : Cond.instanceMethod y ∈ gw) (k3 : Cond.selects y.cls y y ∈ gw) (q0 : Nat) {ci : Nat} {fs : List Value} {T : u_T} {N : Nat} (he : w[q0]? = some (b, .inr (ci, fs))) (hc : cls[ci]? = some (y.cls, T, N)) (hst : st = As.reverse ++ .ref b :: rest) (hlen : As.length = n) (hls : ls.size = nL) (hrm : rm.cells = mc ∧ rm.slots = ms) (hR : rm.frames + 1 ≤ R.frames ∧ 8 + (maxL + 11) + rm.locals ≤ R.locals) (hrest : (rest.map fun v => v.category).sum ≤ 8) (hcs : cells + mc ≤ R.cells ∧ slots + ms ≤ R.slots) (hdg : decode cc pc = .ok (.invokevirtual index, 3))
    (kk : ∀ (r : Int32) (u : S) (H : Heap) (locs : List Loc), post r u → CI g A s (w1 u) H locs → W p l e R s m args below meth c H locs (cells + mc) (slots + ms) Q (F0 m (pc + 3) ls (.int r :: rest))) : W p l e R s m args below meth c H locs cells slots Q (F0 m pc ls st) := by
  have hF := hI.free
  refine va_calli (va_runV (As := As) (rest := rest) ⟨M.1, M.2.1, M.2.2.1, M.2.2.2.1, M.2.2.2.2.1⟩ (hC H.size) (cwV n M.2.2.2.2.1 (gw_goodIn ok.1 _ (List.forall_mem_cons.mpr ⟨k1, List.forall_mem_cons.mpr ⟨k2, List.forall_mem_cons.mpr ⟨k3, List.forall_mem_cons.mpr ⟨ok.2.1, fun _ h => absurd h List.not_mem_nil⟩⟩⟩⟩)) rfl hrm.1 hrm.2 ⟨rfl, ok.2.2.1, ok.2.2.2.1, ok.2.2.2.2⟩ hR) ⟨cPre_blind, va_recv hI.1 hI.2.2.1 hc he, hI.pre⟩ rfl hlen hls hst (lv_room hrest) hdg hcs) hI.2.2.2.2.1 (fun q _ h => hF q h) hF (fun r u t H1 locs1 ht hvm hp hB hz hk hS => kk r u H1 locs1 hp (hI.next ht hvm hB hk hF hS))
theorem q_callvV {S : Type} {y : MethodName} {bytes : ByteArray} {maxL n index mc ms : Nat} {ret : Option FieldType} {rm : Room} {post : S → Prop} {w1 : S → va_W} {b : Nat} (As : List Value) {st : List Value} (M : MC p s m args meth c own cc nL) (hI : CI g A s w H locs) (hC : cMv l y (.code y bytes maxL ret :: gw) rm g (.ref b :: As) w post w1 mc ms)
    (ok : OKc y bytes maxL ret n) (k1 : Cond.methodLink own index y ∈ gw) (k2 : Cond.instanceMethod y ∈ gw) (k3 : Cond.selects y.cls y y ∈ gw) (q0 : Nat) {ci : Nat} {fs : List Value} {T : u_T} {N : Nat} (he : w[q0]? = some (b, .inr (ci, fs))) (hc : cls[ci]? = some (y.cls, T, N)) (hst : st = As.reverse ++ .ref b :: rest) (hlen : As.length = n) (hls : ls.size = nL) (hrm : rm.cells = mc ∧ rm.slots = ms) (hR : rm.frames + 1 ≤ R.frames ∧ 8 + (maxL + 11) + rm.locals ≤ R.locals) (hrest : (rest.map fun v => v.category).sum ≤ 8) (hcs : cells + mc ≤ R.cells ∧ slots + ms ≤ R.slots) (hdg : decode cc pc = .ok (.invokevirtual index, 3))
    (kk : ∀ (u : S) (H : Heap) (locs : List Loc), post u → CI g A s (w1 u) H locs → W p l e R s m args below meth c H locs (cells + mc) (slots + ms) Q (F0 m (pc + 3) ls rest)) : W p l e R s m args below meth c H locs cells slots Q (F0 m pc ls st) := by
  have hF := hI.free
  refine va_callv (va_runV (As := As) (rest := rest) ⟨M.1, M.2.1, M.2.2.1, M.2.2.2.1, M.2.2.2.2.1⟩ (hC H.size) (cwV n M.2.2.2.2.1 (gw_goodIn ok.1 _ (List.forall_mem_cons.mpr ⟨k1, List.forall_mem_cons.mpr ⟨k2, List.forall_mem_cons.mpr ⟨k3, List.forall_mem_cons.mpr ⟨ok.2.1, fun _ h => absurd h List.not_mem_nil⟩⟩⟩⟩)) rfl hrm.1 hrm.2 ⟨rfl, ok.2.2.1, ok.2.2.2.1, ok.2.2.2.2⟩ hR) ⟨cPre_blind, va_recv hI.1 hI.2.2.1 hc he, hI.pre⟩ rfl hlen hls hst (lv_room hrest) hdg hcs) hI.2.2.2.2.1 (fun q _ h => hF q h) hF (fun u t H1 locs1 ht hvm hp hB hz hk hS => kk u H1 locs1 hp (hI.next ht hvm hB hk hF hS))
/-- a static method of the same class -/
theorem q_calliS {S : Type} {y : MethodName} {bytes : ByteArray} {maxL n index mc ms : Nat} {ret : Option FieldType} {rm : Room} {post : Int32 → S → Prop} {w1 : S → va_W} (As : List Value) {st : List Value} (M : MC p s m args meth c y.cls cc nL) (hI : CI g A s w H locs) (hC : cMi l y (.code y bytes maxL ret :: gw) rm g As w post w1 mc ms)
    (ok : OKc y bytes maxL ret n) (k1 : Cond.methodLink y.cls index y ∈ gw) (k2 : Cond.static y ∈ gw) (hst : st = As.reverse ++ rest) (hlen : As.length = n) (hls : ls.size = nL) (hrm : rm.cells = mc ∧ rm.slots = ms) (hR : rm.frames + 1 ≤ R.frames ∧ 8 + (maxL + 11) + rm.locals ≤ R.locals) (hrest : (rest.map fun v => v.category).sum ≤ 8) (hcs : cells + mc ≤ R.cells ∧ slots + ms ≤ R.slots) (hdg : decode cc pc = .ok (.invokestatic index, 3))
    (kk : ∀ (r : Int32) (u : S) (H : Heap) (locs : List Loc), post r u → CI g A s (w1 u) H locs → W p l e R s m args below meth c H locs (cells + mc) (slots + ms) Q (F0 m (pc + 3) ls (.int r :: rest))) : W p l e R s m args below meth c H locs cells slots Q (F0 m pc ls st) := by
  have hF := hI.free
  refine va_calli (va_runS (As := As) (rest := rest) ⟨M.1, M.2.1, M.2.2.1, M.2.2.2.1, M.2.2.2.2.1⟩ (hC H.size) (cwS n M.2.2.2.2.1 (gw_goodIn ok.1 _ (List.forall_mem_cons.mpr ⟨k1, List.forall_mem_cons.mpr ⟨k2, List.forall_mem_cons.mpr ⟨ok.2.1, fun _ h => absurd h List.not_mem_nil⟩⟩⟩)) rfl hrm.1 hrm.2 ⟨rfl, ok.2.2.1, ok.2.2.2.1, ok.2.2.2.2⟩ hR) ⟨cPre_blind, hI.pre⟩ rfl hlen hls hst (lv_room hrest) hdg hcs) hI.2.2.2.2.1 (fun q _ h => hF q h) hF (fun r u t H1 locs1 ht hvm hp hB hz hk hS => kk r u H1 locs1 hp (hI.next ht hvm hB hk hF hS))
/-- a private static method of a nest mate -/
theorem q_calliSN {S : Type} {y : MethodName} {bytes : ByteArray} {maxL n index mc ms : Nat} {ret : Option FieldType} {rm : Room} {post : Int32 → S → Prop} {w1 : S → va_W} {host : String} (As : List Value) {st : List Value} (M : MC p s m args meth c own cc nL) (hI : CI g A s w H locs) (hC : cMi l y (.code y bytes maxL ret :: gw) rm g As w post w1 mc ms)
    (ok : OKc y bytes maxL ret n) (k1 : Cond.methodLinkNest own index y host ∈ nws) (k2 : Cond.static y ∈ gw) (hst : st = As.reverse ++ rest) (hlen : As.length = n) (hls : ls.size = nL) (hrm : rm.cells = mc ∧ rm.slots = ms) (hR : rm.frames + 1 ≤ R.frames ∧ 8 + (maxL + 11) + rm.locals ≤ R.locals) (hrest : (rest.map fun v => v.category).sum ≤ 8) (hcs : cells + mc ≤ R.cells ∧ slots + ms ≤ R.slots) (hdg : decode cc pc = .ok (.invokestatic index, 3))
    (kk : ∀ (r : Int32) (u : S) (H : Heap) (locs : List Loc), post r u → CI g A s (w1 u) H locs → W p l e R s m args below meth c H locs (cells + mc) (slots + ms) Q (F0 m (pc + 3) ls (.int r :: rest))) : W p l e R s m args below meth c H locs cells slots Q (F0 m pc ls st) := by
  have hF := hI.free
  refine va_calli (va_runSN (As := As) (rest := rest) ⟨M.1, M.2.1, M.2.2.1, M.2.2.2.1, M.2.2.2.2.1⟩ (hC H.size) ⟨va_cnB n M.2.2.2.2.1 (gw_goodIn ok.1 [] (fun x hx => absurd hx List.not_mem_nil)) rfl hrm.1 hrm.2 (hI.2.1 _ k1) (M.2.2.2.2.1 _ ok.2.1) ⟨ok.2.2.1, ok.2.2.2.1, ok.2.2.2.2⟩ hR, M.2.2.2.2.1 _ k2, trivial⟩ ⟨cPre_blind, hI.pre⟩ rfl hlen hls hst (lv_room hrest) hdg hcs) hI.2.2.2.2.1 (fun q _ h => hF q h) hF (fun r u t H1 locs1 ht hvm hp hB hz hk hS => kk r u H1 locs1 hp (hI.next ht hvm hB hk hF hS))
end LayerRows
