/-! 85: an array of five beside the world -/
section R5
variable {p : Program} {l : Launch} {e : Env} {R : Room} {s : State} {m : MethodId} {args : Array Value} {below : List Frame} {meth : Method} {c : Code} {H : Heap} {locs : List Loc} {cells slots : Nat} {Q : State → Prop}
variable {own : String} {cc : ByteArray} {nL pc : Nat} {ls : Array Slot} {rest : List Value} {g : Geo} {A : Nat → Prop} {w x : va_W}
def x5 (g : Geo) (a : Nat) (f : Nat → Int32) : va_W := [(a, .inl (g.2.1, 5, .inl f))]
theorem CI.left (h : CI g A s (w ++ x) H locs) : CI g A s w H locs := by
  have ap : ∀ {k : Nat} {q : Nat × va_E}, w[k]? = some q → (w ++ x)[k]? = some q := fun hq => by
    rw [List.getElem?_append_left (List.getElem?_eq_some_iff.mp hq).1]; exact hq
  obtain ⟨h1, h2, h3, h4, h5, h6⟩ := h
  exact ⟨h1, h2, fun k q hq => h3 k q (ap hq), ⟨fun i j y z hi hj e => h4.1 i j y z (ap hi) (ap hj) e, fun k q hq => h4.2 k q (ap hq)⟩, h5, h6⟩
theorem q_new5 (M : MC p s m args meth c own cc nL) (hI : CI g A s w H locs) (hcs : cells + 1 ≤ R.cells ∧ slots + 5 ≤ R.slots) (hdg : decode cc pc = .ok (.newarray .int, 2))
    (kk : ∀ (a : Nat) (H : Heap), s.heap.size ≤ a → CI g A s (w ++ x5 g a (fun _ => 0)) H locs → W p l e R s m args below meth c H locs (cells + 1) (slots + 5) Q (F0 m (pc + 2) ls (.ref a :: rest))) : W p l e R s m args below meth c H locs cells slots Q (F0 m pc ls (.int 5 :: rest)) := by
  obtain ⟨hK, hN, hP, hD, hS, hA⟩ := hI
  refine va_newaK M.1 M.2.1 (atype := .int) (M.2.2.2.2.1 _ m1_89) rfl hdg rfl (by decide) (N := 5) (by decide) (by decide) hcs.1 hcs.2 rfl fun H1 cA e1 z1 o1 hAr hNm => ?_
  have hc : cA = g.2.1 := by
    have h1 := (hK.2 0 _ (show (gt g)[0]? = some (g.2.1, .int) from rfl)).2
    exact Option.some.inj (hNm.symm.trans h1)
  subst hc
  have hk : ∀ (k : Nat) (x : Nat × va_E), w[k]? = some x → H1[x.1]? = H[x.1]? := fun k x hx => o1 x.1 ((hP k x hx).lt)
  refine kk H.size H1 hS.1 ⟨hK, hN, (hP.kept hk).app (fun k x hx => ?_), hD.push hP rfl (hA _ hS.1), ⟨Nat.le_trans hS.1 (by omega), fun x h1 h2 => (o1 x (Nat.lt_of_lt_of_le h1 hS.1)).trans (hS.2.1 x h1 h2), hS.2.2⟩, hA⟩
  have hz : k < 1 := (List.getElem?_eq_some_iff.mp hx).1
  rw [show k = 0 by omega] at hx
  cases hx
  exact e1
theorem x5_at {a : Nat} {f : Nat → Int32} : (w ++ x5 g a f)[w.length]? = some (a, .inl (g.2.1, 5, .inl f)) := by
  rw [List.getElem?_append_right (Nat.le_refl _), Nat.sub_self]; rfl
theorem q_ld5 {a : Nat} {f : Nat → Int32} (M : MC p s m args meth c own cc nL) (hB : CI g A s (w ++ x5 g a f) H locs) {i : Int32} (j : Nat) (ei : i = nI j) (hj : j < 5) (hdg : decode cc pc = .ok (.iaload, 1))
    (kk : W p l e R s m args below meth c H locs cells slots Q (F0 m (pc + 1) ls (.int (f j) :: rest))) : W p l e R s m args below meth c H locs cells slots Q (F0 m pc ls (.int i :: .ref a :: rest)) := q_iald M hB w.length x5_at j ei hj (by decide) hdg kk
theorem q_len5 {a : Nat} {f : Nat → Int32} (M : MC p s m args meth c own cc nL) (hB : CI g A s (w ++ x5 g a f) H locs) (hdg : decode cc pc = .ok (.arraylength, 1))
    (kk : W p l e R s m args below meth c H locs cells slots Q (F0 m (pc + 1) ls (.int 5 :: rest))) : W p l e R s m args below meth c H locs cells slots Q (F0 m pc ls (.ref a :: rest)) := va_alen M.1 M.2.1 hB.1 hB.2.2.1 w.length 0 x5_at (ty := .int) rfl rfl hdg kk
theorem q_st5 {a : Nat} {f : Nat → Int32} (M : MC p s m args meth c own cc nL) (hB : CI g A s (w ++ x5 g a f) H locs) (hlo : ∀ z ∈ locs, s.heap.size ≤ z.base) (ha : s.heap.size ≤ a) {i v : Int32} (j : Nat) (ei : i = nI j) (hj : j < 5) (hdg : decode cc pc = .ok (.iastore, 1))
    (kk : ∀ (H : Heap) (locs : List Loc), (∀ z ∈ locs, s.heap.size ≤ z.base) → CI g A s (w ++ x5 g a (upd f j v)) H locs → W p l e R s m args below meth c H locs cells slots Q (F0 m (pc + 1) ls rest)) : W p l e R s m args below meth c H locs cells slots Q (F0 m pc ls (.int v :: .int i :: .ref a :: rest)) := by
  subst ei
  have hset : (w ++ x5 g a f).set w.length (a, .inl (g.2.1, 5, .inl (upd f j v))) = w ++ x5 g a (upd f j v) := by
    rw [List.set_append_right _ _ (Nat.le_refl _), Nat.sub_self]; rfl
  obtain ⟨hK, hN, hP, hD, hS, hA⟩ := hB
  have hin : vp_in (nI j) 5 := vp_in_nI hj (by decide)
  refine W.iast M.1 M.2.1 (hP w.length _ x5_at) ((hK.2 0 _ (show (gt g)[0]? = some (g.2.1, .int) from rfl)).1 5 (fun j => .int (f j))) (fun q => by cases q) (by show ¬ (nI j < 0 ∨ (arrV _ _ _).slots.size ≤ _); rw [arrV_size]; exact hin) rfl rfl hdg fun H1 e z oq => ?_
  refine kk H1 _ (fun y hy => ?_) ⟨hK, hN, ?_, ?_, hS.put z oq (hD.2 w.length _ x5_at), hA⟩
  · rcases List.mem_append.mp hy with q | q
    · exact hlo y q
    · rw [List.mem_singleton.mp q]; exact ha
  · rw [← hset]
    refine hP.set hD x5_at ?_ oq
    show H1[a]? = some (vp_cell _ _)
    rw [e]
    rw [vp_cell_i, vp_cell_i, arrV_store, nI_clamp (by omega)]
    congr 2
    funext q
    by_cases hq : q = j
    · subst hq; simp [updV, upd]
    · simp [updV, upd, hq]
  · rw [← hset]; exact hD.set x5_at
theorem CI.join {S : Type} {w1 : S → va_W} {u : S} {t : State} {H1 : Heap} {locs1 : List Loc} (hB : CI g A s (w ++ x) H locs) (ht : t.heap = H1) (hvm : s.vm.Alike t.vm) (hC : cAt g (va_A w H.size) (w1 u) t) (hk : ∀ q : Nat, q < H.size → ¬ va_A w H.size q → H1[q]? = H[q]?) (hS : va_S A s.heap H1 locs1) : CI g A s (w1 u ++ x) H1 locs1 := by
  have hI := hB.left
  have hI2 : CI g A s (w1 u) H1 locs1 := hI.next ht hvm hC hk hI.free hS
  have xr : ∀ {k : Nat} {q : Nat × va_E}, x[k]? = some q → (w ++ x)[w.length + k]? = some q := by
    intro k q hq
    rw [List.getElem?_append_right (by omega), Nat.add_sub_cancel_left]; exact hq
  have xn : ∀ {k : Nat} {q : Nat × va_E}, x[k]? = some q → ¬ va_A w H.size q.1 := by
    intro k q hq hz
    rcases hz with ⟨k2, e2, h2⟩ | h2
    · have hl := (List.getElem?_eq_some_iff.mp h2).1
      have := hB.2.2.2.1.1 k2 (w.length + k) (q.1, e2) q (by rw [List.getElem?_append_left hl]; exact h2) (xr hq) rfl
      omega
    · have := (hB.2.2.1 _ _ (xr hq)).lt
      omega
  refine ⟨hI2.1, hI2.2.1, fun k q hq => ?_, ⟨fun i j y z hi hj e => ?_, fun k q hq => ?_⟩, hS, hB.2.2.2.2.2⟩
  · by_cases hl : k < (w1 u).length
    · rw [List.getElem?_append_left hl] at hq; exact hI2.2.2.1 k q hq
    · rw [List.getElem?_append_right (by omega)] at hq
      have h9 := hB.2.2.1 _ _ (xr hq)
      exact h9.kept (hk q.1 h9.lt (xn hq))
  · by_cases hl : i < (w1 u).length
    · rw [List.getElem?_append_left hl] at hi
      by_cases hl2 : j < (w1 u).length
      · rw [List.getElem?_append_left hl2] at hj; exact hI2.2.2.2.1.1 i j y z hi hj e
      · rw [List.getElem?_append_right (by omega)] at hj
        exact absurd (by rw [← e]; exact hC.2.2.2 i y hi) (xn hj)
    · rw [List.getElem?_append_right (by omega)] at hi
      by_cases hl2 : j < (w1 u).length
      · rw [List.getElem?_append_left hl2] at hj
        exact absurd (by rw [e]; exact hC.2.2.2 j z hj) (xn hi)
      · rw [List.getElem?_append_right (by omega)] at hj
        have := hB.2.2.2.1.1 _ _ y z (xr hi) (xr hj) e
        omega
  · by_cases hl : k < (w1 u).length
    · rw [List.getElem?_append_left hl] at hq; exact hI2.2.2.2.1.2 k q hq
    · rw [List.getElem?_append_right (by omega)] at hq
      exact hB.2.2.2.1.2 _ _ (xr hq)
theorem q_callvB {S : Type} {y : MethodName} {bytes : ByteArray} {maxL n index mc ms : Nat} {ret : Option FieldType} {rm : Room} {post : S → Prop} {w1 : S → va_W} {b : Nat} (As : List Value) {st : List Value} (M : MC p s m args meth c own cc nL) (hB : CI g A s (w ++ x) H locs) (hC : cMv l y (.code y bytes maxL ret :: gw) rm g (.ref b :: As) w post w1 mc ms)
    (ok : OKc y bytes maxL ret n) (k1 : Cond.methodLink own index y ∈ gw) (k2 : Cond.instanceMethod y ∈ gw) (k3 : Cond.selects y.cls y y ∈ gw) (q0 : Nat) {ci : Nat} {fs : List Value} {T : u_T} {N : Nat} (he : w[q0]? = some (b, .inr (ci, fs))) (hc : cls[ci]? = some (y.cls, T, N)) (hst : st = As.reverse ++ .ref b :: rest) (hlen : As.length = n) (hls : ls.size = nL) (hrm : rm.cells = mc ∧ rm.slots = ms) (hR : rm.frames + 1 ≤ R.frames ∧ 8 + (maxL + 11) + rm.locals ≤ R.locals) (hrest : (rest.map fun v => v.category).sum ≤ 8) (hcs : cells + mc ≤ R.cells ∧ slots + ms ≤ R.slots) (hdg : decode cc pc = .ok (.invokevirtual index, 3))
    (kk : ∀ (u : S) (H : Heap) (locs : List Loc), post u → CI g A s (w1 u ++ x) H locs → W p l e R s m args below meth c H locs (cells + mc) (slots + ms) Q (F0 m (pc + 3) ls rest)) : W p l e R s m args below meth c H locs cells slots Q (F0 m pc ls st) := by
  have hI := hB.left
  have hF := hI.free
  refine va_callv (va_runV (As := As) (rest := rest) ⟨M.1, M.2.1, M.2.2.1, M.2.2.2.1, M.2.2.2.2.1⟩ (hC H.size) (cwV n M.2.2.2.2.1 (gw_goodIn ok.1 _ (List.forall_mem_cons.mpr ⟨k1, List.forall_mem_cons.mpr ⟨k2, List.forall_mem_cons.mpr ⟨k3, List.forall_mem_cons.mpr ⟨ok.2.1, fun _ h => absurd h List.not_mem_nil⟩⟩⟩⟩)) rfl hrm.1 hrm.2 ⟨rfl, ok.2.2.1, ok.2.2.2.1, ok.2.2.2.2⟩ hR) ⟨cPre_blind, va_recv hI.1 hI.2.2.1 hc he, hI.pre⟩ rfl hlen hls hst (lv_room hrest) hdg hcs) hI.2.2.2.2.1 (fun q _ h => hF q h) hF (fun u t H1 locs1 ht hvm hp hB1 hz hk hS => kk u H1 locs1 hp (hB.join ht hvm hB1 hk hS))
end R5
