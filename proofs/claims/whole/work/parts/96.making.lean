/-! 96: making: arrays, objects, constructors -/
section MKR
variable {p : Program} {l : Launch} {e : Env} {R : Room} {s : State} {m : MethodId} {args : Array Value} {below : List Frame} {meth : Method} {c : Code} {H : Heap} {locs : List Loc} {cells slots : Nat} {Q : State → Prop}
variable {own : String} {cc : ByteArray} {nL pc : Nat} {ls : Array Slot} {rest : List Value} {g : Geo} {A : Nat → Prop} {w x : va_W}
def aI (g : Geo) (a N : Nat) : Nat × va_E := (a, .inl (g.2.1, N, .inl (fun _ => 0)))
def aZ (g : Geo) (a N : Nat) : Nat × va_E := (a, .inl (g.2.2.1, N, .inl (fun _ => 0)))
theorem CI.more {H1 : Heap} {a : Nat} {E : va_E} (hI : CI g A s w H locs) (ha : a = H.size) (z1 : H1.size = H.size + 1) (o1 : ∀ q, q < H.size → H1[q]? = H[q]?) (he : va_at g.1 cls (a, E) H1) : CI g A s (w ++ [(a, E)]) H1 locs := by
  subst ha
  obtain ⟨hK, hN, hP, hD, hS, hA⟩ := hI
  have hk : ∀ (k : Nat) (x : Nat × va_E), w[k]? = some x → H1[x.1]? = H[x.1]? := fun k x hx => o1 x.1 ((hP k x hx).lt)
  refine ⟨hK, hN, (hP.kept hk).app (fun k x hx => ?_), hD.push hP rfl (hA _ hS.1), ⟨Nat.le_trans hS.1 (by omega), fun x h1 h2 => (o1 x (Nat.lt_of_lt_of_le h1 hS.1)).trans (hS.2.1 x h1 h2), hS.2.2⟩, hA⟩
  have hz : k < 1 := (List.getElem?_eq_some_iff.mp hx).1
  rw [show k = 0 by omega] at hx
  cases hx
  exact he
theorem q_newI (M : MC p s m args meth c own cc nL) (hI : CI g A s w H locs) {n : Int32} (N : Nat) (hn : ¬ n < 0) (hN : n.toNatClampNeg = N) (hb : N ≤ 100000) (hcs : cells + 1 ≤ R.cells ∧ slots + N ≤ R.slots) (hdg : decode cc pc = .ok (.newarray .int, 2))
    (kk : ∀ (a : Nat) (H : Heap), CI g A s (w ++ [aI g a N]) H locs → W p l e R s m args below meth c H locs (cells + 1) (slots + N) Q (F0 m (pc + 2) ls (.ref a :: rest))) : W p l e R s m args below meth c H locs cells slots Q (F0 m pc ls (.int n :: rest)) := by
  refine va_newaK M.1 M.2.1 (atype := .int) (M.2.2.2.2.1 _ m1_89) rfl hdg rfl hn (N := N) hN (by show N * 4 ≤ _; omega) hcs.1 hcs.2 rfl fun H1 cA e1 z1 o1 hAr hNm => ?_
  have hc : cA = g.2.1 := by
    have h1 := (hI.1.2 0 _ (show (gt g)[0]? = some (g.2.1, .int) from rfl)).2
    exact Option.some.inj (hNm.symm.trans h1)
  subst hc
  exact kk H.size H1 (hI.more rfl z1 o1 e1)
theorem q_newZ (M : MC p s m args meth c own cc nL) (hI : CI g A s w H locs) {n : Int32} (N : Nat) (hn : ¬ n < 0) (hN : n.toNatClampNeg = N) (hb : N ≤ 100000) (hcs : cells + 1 ≤ R.cells ∧ slots + N ≤ R.slots) (hdg : decode cc pc = .ok (.newarray .boolean, 2))
    (kk : ∀ (a : Nat) (H : Heap), CI g A s (w ++ [aZ g a N]) H locs → W p l e R s m args below meth c H locs (cells + 1) (slots + N) Q (F0 m (pc + 2) ls (.ref a :: rest))) : W p l e R s m args below meth c H locs cells slots Q (F0 m pc ls (.int n :: rest)) := by
  refine va_newaK M.1 M.2.1 (atype := .boolean) (M.2.2.2.2.1 _ m1_160) rfl hdg rfl hn (N := N) hN (by show N * 1 ≤ _; omega) hcs.1 hcs.2 rfl fun H1 cA e1 z1 o1 hAr hNm => ?_
  have hc : cA = g.2.2.1 := by
    have h1 := (hI.1.2 1 _ (show (gt g)[1]? = some (g.2.2.1, .boolean) from rfl)).2
    exact Option.some.inj (hNm.symm.trans h1)
  subst hc
  exact kk H.size H1 (hI.more rfl z1 o1 e1)
theorem q_newJ (M : MC p s m args meth c own cc nL) (hI : CI g A s w H locs) (hcs : cells + 1 ≤ R.cells ∧ slots + 1 ≤ R.slots) (hdg : decode cc pc = .ok (.newarray .long, 2))
    (kk : ∀ (a : Nat) (H : Heap), CI g A s (w ++ xo g a (fun _ => 0)) H locs → W p l e R s m args below meth c H locs (cells + 1) (slots + 1) Q (F0 m (pc + 2) ls (.ref a :: rest))) : W p l e R s m args below meth c H locs cells slots Q (F0 m pc ls (.int 1 :: rest)) := by
  refine va_newaK M.1 M.2.1 (atype := .long) (M.2.2.2.2.1 _ m6_27) rfl hdg rfl (by decide) (N := 1) (by decide) (by decide) hcs.1 hcs.2 rfl fun H1 cA e1 z1 o1 hAr hNm => ?_
  have hc : cA = g.2.2.2 := by
    have h1 := (hI.1.2 2 _ (show (gt g)[2]? = some (g.2.2.2, .long) from rfl)).2
    exact Option.some.inj (hNm.symm.trans h1)
  subst hc
  exact kk H.size H1 (hI.more rfl z1 o1 e1)
theorem q_newO (M : MC p s m args meth c own cc nL) (hI : CI g A s w H locs) {C : String} {T : u_T} {N ci index : Nat} (hin : ∀ z ∈ u_ws C T N, z ∈ gw) (ty : Nat → FieldType) (hty : ∀ k, k < N → parseFieldDescriptor (T k).2.2.1 = some (ty k)) (hcl : Cond.classLink own index C ∈ gw) (hinst : Cond.instantiable C N ∈ gw) (hini : Cond.initialized C ∈ gw) (hc : cls[ci]? = some (C, T, N)) (fs : List Value) (hfs : ∀ j, j < N → defaultValue (ty j) = vp_V fs j) (hcs : cells + 1 ≤ R.cells ∧ slots + N ≤ R.slots) (hdg : decode cc pc = .ok (.new index, 3))
    (kk : ∀ (a : Nat) (H : Heap), CI g A s (w ++ [(a, .inr (ci, fs))]) H locs → W p l e R s m args below meth c H locs (cells + 1) (slots + N) Q (F0 m (pc + 3) ls (.ref a :: rest))) : W p l e R s m args below meth c H locs cells slots Q (F0 m pc ls rest) := by
  obtain ⟨hK, hN, hP, hD, hS, hA⟩ := hI
  have hg := M.2.2.2.2.1
  exact va_new M.1 M.2.1 hg hin ty hty M.2.2.2.1 (hg _ hcl) (hg _ hinst) (hg _ hini) hK hP hD hS hA hc hfs hcs.1 hcs.2 hdg (fun q H1 hP hD hS => kk q H1 ⟨hK, hN, hP, hD, hS, hA⟩)
theorem q_putF (M : MC p s m args meth c own cc nL) (hI : CI g A s w H locs) (q0 : Nat) {a ci : Nat} {fs : List Value} {C : String} {T : u_T} {N : Nat} (he : w[q0]? = some (a, .inr (ci, fs))) (hc : cls[ci]? = some (C, T, N)) (hin : ∀ x ∈ u_ws C T N, x ∈ gw) (ty0 : Nat → FieldType) (hty : ∀ k, k < N → parseFieldDescriptor (T k).2.2.1 = some (ty0 k)) (hnm : ∀ a, a < N → ∀ b, b < N → a ≠ b → (T a).2.1 ≠ (T b).2.1) (k : Nat) (hk : k < N) {index : Nat} (hl : Cond.fieldLink own index (T k).1 (T k).2.1 (T k).2.2.1 ∈ gw) (hfin : (T k).2.2.2 = true) (hin2 : meth.name = "<init>") (hdecl : (T k).1 = own) {v : Value} (hn : narrow (ty0 k) v = v) (hfit : fits (ty0 k) v = true) (hlen : k < fs.length) {w2 : va_W} (hw2 : w.set q0 (a, .inr (ci, fs.set k v)) = w2) (hdg : decode cc pc = .ok (.putfield index, 3))
    (kk : ∀ (H : Heap) (locs : List Loc), CI g A s w2 H locs → W p l e R s m args below meth c H locs cells slots Q (F0 m (pc + 3) ls rest)) : W p l e R s m args below meth c H locs cells slots Q (F0 m pc ls (v :: .ref a :: rest)) := by
  subst hw2
  exact va_putF M.1 M.2.1 M.2.2.2.2.1 hin ty0 hty hnm M.2.2.2.1 hI.1 hI.2.2.1 hI.2.2.2.1 hI.2.2.2.2.1 q0 he hc k hk (M.2.2.2.2.1 _ hl) (fun _ h => h) hfin hin2 hdecl (hty k hk) hn hfit hlen hdg (fun H1 locs1 hP hD hS => kk H1 locs1 ⟨hI.1, hI.2.1, hP, hD, hS, hI.2.2.2.2.2⟩)
theorem q_objI (M : MC p s m args meth c own cc nL) {index a : Nat} (hl : Cond.methodLink own index objectInit ∈ gw) (hls : ls.size = nL) (hR : 1 ≤ R.frames ∧ 20 ≤ R.locals) (hrest : (rest.map fun v => v.category).sum ≤ 8) (hdg : decode cc pc = .ok (.invokespecial index, 3))
    (kk : W p l e R s m args below meth c H locs cells slots Q (F0 m (pc + 3) ls rest)) : W p l e R s m args below meth c H locs cells slots Q (F0 m pc ls (.ref a :: rest)) :=
  W.objInit M.1 M.2.1 M.2.2.2.1 (M.2.2.2.2.1 _ hl) (M.2.2.2.2.1 _ m1_26) (M.2.2.2.2.1 _ m1_27) rfl (by rw [M.2.2.1]; exact hls) rfl hdg hR.1 (by show 2 * 0 + (rest.map fun v => v.category).sum + 12 ≤ R.locals; omega) kk
theorem q_callC {S : Type} {y : MethodName} {bytes : ByteArray} {maxL n index mc ms : Nat} {rm : Room} {post : S → Prop} {w1 : S → va_W} {b : Nat} (As : List Value) {st : List Value} (M : MC p s m args meth c own cc nL) (hB : CI g A s (w ++ x) H locs) (hC : cMv l y (.code y bytes maxL none :: gw) rm g (.ref b :: As) w post w1 mc ms)
    (ok : OKc y bytes maxL none n) (k1 : Cond.methodLink own index y ∈ gw) (k2 : Cond.instanceMethod y ∈ gw) (hy : y.name = "<init>") (hst : st = As.reverse ++ .ref b :: rest) (hlen : As.length = n) (hls : ls.size = nL) (hrm : rm.cells = mc ∧ rm.slots = ms) (hR : rm.frames + 1 ≤ R.frames ∧ 8 + (maxL + 11) + rm.locals ≤ R.locals) (hrest : (rest.map fun v => v.category).sum ≤ 8) (hcs : cells + mc ≤ R.cells ∧ slots + ms ≤ R.slots) (hdg : decode cc pc = .ok (.invokespecial index, 3))
    (kk : ∀ (u : S) (H : Heap) (locs : List Loc), post u → CI g A s (w1 u ++ x) H locs → W p l e R s m args below meth c H locs (cells + mc) (slots + ms) Q (F0 m (pc + 3) ls rest)) : W p l e R s m args below meth c H locs cells slots Q (F0 m pc ls st) := by
  have hI := hB.left
  have hF := hI.free
  have hg := M.2.2.2.2.1
  refine va_callv (va_runI (As := As) (rest := rest) ⟨M.1, M.2.1, M.2.2.1, M.2.2.2.1, M.2.2.2.2.1⟩ (hC H.size) (cwI n hg (gw_goodIn ok.1 [] (fun x hx => absurd hx List.not_mem_nil)) rfl hrm.1 hrm.2 (hg _ ok.2.1) (hg _ k1) (hg _ k2) hy ⟨ok.2.2.1, ok.2.2.2.1, ok.2.2.2.2⟩ hR) ⟨cPre_blind, hI.pre⟩ rfl hlen hls hst (lv_room hrest) hdg hcs) hI.2.2.2.2.1 (fun q _ h => hF q h) hF (fun u t H1 locs1 ht hvm hp hB1 hz hk hS => kk u H1 locs1 hp (hB.join ht hvm hB1 hk hS))
theorem q_callCN {S : Type} {y : MethodName} {bytes : ByteArray} {maxL n index mc ms : Nat} {rm : Room} {post : S → Prop} {w1 : S → va_W} {b : Nat} {host : String} (As : List Value) {st : List Value} (M : MC p s m args meth c own cc nL) (hB : CI g A s (w ++ x) H locs) (hC : cMv l y (.code y bytes maxL none :: gw) rm g (.ref b :: As) w post w1 mc ms)
    (ok : OKc y bytes maxL none n) (k1 : Cond.methodLinkNest own index y host ∈ nws) (k2 : Cond.instanceMethod y ∈ gw) (hy : y.name = "<init>") (hst : st = As.reverse ++ .ref b :: rest) (hlen : As.length = n) (hls : ls.size = nL) (hrm : rm.cells = mc ∧ rm.slots = ms) (hR : rm.frames + 1 ≤ R.frames ∧ 8 + (maxL + 11) + rm.locals ≤ R.locals) (hrest : (rest.map fun v => v.category).sum ≤ 8) (hcs : cells + mc ≤ R.cells ∧ slots + ms ≤ R.slots) (hdg : decode cc pc = .ok (.invokespecial index, 3))
    (kk : ∀ (u : S) (H : Heap) (locs : List Loc), post u → CI g A s (w1 u ++ x) H locs → W p l e R s m args below meth c H locs (cells + mc) (slots + ms) Q (F0 m (pc + 3) ls rest)) : W p l e R s m args below meth c H locs cells slots Q (F0 m pc ls st) := by
  have hI := hB.left
  have hF := hI.free
  have hg := M.2.2.2.2.1
  refine va_callv (va_runIN (As := As) (rest := rest) ⟨M.1, M.2.1, M.2.2.1, M.2.2.2.1, M.2.2.2.2.1⟩ (hC H.size) ⟨va_cnB n hg (gw_goodIn ok.1 [] (fun x hx => absurd hx List.not_mem_nil)) rfl hrm.1 hrm.2 (hI.2.1 _ k1) (hg _ ok.2.1) ⟨ok.2.2.1, ok.2.2.2.1, ok.2.2.2.2⟩ hR, hy, hg _ k2⟩ ⟨cPre_blind, hI.pre⟩ rfl hlen hls hst (lv_room hrest) hdg hcs) hI.2.2.2.2.1 (fun q _ h => hF q h) hF (fun u t H1 locs1 ht hvm hp hB1 hz hk hS => kk u H1 locs1 hp (hB.join ht hvm hB1 hk hS))
theorem CI.pick {w2 : va_W} (hI : CI g A s w H locs) (is : List Nat) (hn : va_nd is = true) (hs : is.map (fun i => w[i]?) = w2.map some) : CI g A s w2 H locs := by
  obtain ⟨hK, hN, hP, hD, hS, hA⟩ := hI
  refine ⟨hK, hN, hP.sub is ?_, hD.sub is hn hs, hS, hA⟩
  have e : is.filterMap (fun i => w[i]?) = (is.map (fun i => w[i]?)).filterMap id := by rw [List.filterMap_map]; rfl
  rw [e, hs]
  clear e hs
  induction w2 with
  | nil => rfl
  | cons a t ih => simp
end MKR
