/-! 97: the constructors -/
abbrev rm_TX_init : Room := { frames := 1, cells := 8, slots := 10300, locals := 20 }
set_option maxHeartbeats 4000000 in
set_option maxRecDepth 100000 in
theorem c_TX_init (l : Launch) (g : Geo) (a : Nat) : cMv l y_TX_init (.code y_TX_init b_TX_init 1 none :: gw) rm_TX_init g [.ref a] [(a, .inr (0, [.null, .null, .null, .null, .null, .int 0, .null, .null, .null, .int 0]))] (fun (_ : Nat → Nat) => True) (fun (u : Nat → Nat) => [(a, .inr (0, [.ref (u 0), .ref (u 1), .ref (u 2), .ref (u 3), .ref (u 4), .int 0, .ref (u 5), .ref (u 6), .ref (u 7), .int 0])), aI g (u 0) 2000, aI g (u 1) 2000, aI g (u 2) 2000, aI g (u 3) 2000, aI g (u 4) 2000, aI g (u 5) 100, aI g (u 6) 100, aI g (u 7) 100]) 8 10300 := by
  refine cMv_of (by decide) (Nat.le_of_ble_eq_true rfl) ?_
  intro p e s m below meth c A Q ls M hnm hret hl hI
  have hnm : meth.name = "<init>" := hnm
  have hl : lv_has ls 1 [(0, .ref a)] := hl
  have M : MC p s m ([.ref a] : List Value).toArray meth c R_TX b_TX_init 1 := M
  generalize ([.ref a] : List Value).toArray = args at M hret ⊢
  have hx := M.1
  have hb := M.2.1
  obtain ⟨H, hH⟩ : ∃ H, H = s.heap := ⟨_, rfl⟩
  rw [← hH] at hI ⊢
  obtain ⟨locs, hlc⟩ : ∃ locs : List Loc, locs = [] := ⟨_, rfl⟩
  rw [← hlc] at hI ⊢
  refine lv_aload_n hx hb d_TX_init_0 rfl (lv_at hl 0 rfl) ?_
  refine q_objI M m1_33 hl.1 ⟨(Nat.le_of_ble_eq_true rfl), (Nat.le_of_ble_eq_true rfl)⟩ (Nat.le_of_ble_eq_true rfl) d_TX_init_1 ?_
  refine lv_aload_n hx hb d_TX_init_4 rfl (lv_at hl 0 rfl) ?_
  refine lv_sipush (v := 2000) hx hb d_TX_init_5 (by decide) ?_
  refine q_newI M hI 2000 (by decide) (by decide) (by decide) ⟨(Nat.le_of_ble_eq_true rfl), (Nat.le_of_ble_eq_true rfl)⟩ d_TX_init_8 (fun a1 H hI => ?_)
  have hI : CI g A s [(a, .inr (0, [.null, .null, .null, .null, .null, .int 0, .null, .null, .null, .int 0])), aI g a1 2000] H locs := hI
  refine q_putF M hI 0 rfl rfl i_TX t_TX t_TX_ok n_TX 0 (by decide) m1_34 rfl hnm rfl rfl rfl (Nat.le_of_ble_eq_true rfl) (w2 := [(a, .inr (0, [.ref a1, .null, .null, .null, .null, .int 0, .null, .null, .null, .int 0])), aI g a1 2000]) rfl d_TX_init_10 (fun H locs hI => ?_)
  refine lv_aload_n hx hb d_TX_init_13 rfl (lv_at hl 0 rfl) ?_
  refine lv_sipush (v := 2000) hx hb d_TX_init_14 (by decide) ?_
  refine q_newI M hI 2000 (by decide) (by decide) (by decide) ⟨(Nat.le_of_ble_eq_true rfl), (Nat.le_of_ble_eq_true rfl)⟩ d_TX_init_17 (fun a2 H hI => ?_)
  have hI : CI g A s [(a, .inr (0, [.ref a1, .null, .null, .null, .null, .int 0, .null, .null, .null, .int 0])), aI g a1 2000, aI g a2 2000] H locs := hI
  refine q_putF M hI 0 rfl rfl i_TX t_TX t_TX_ok n_TX 1 (by decide) m1_37 rfl hnm rfl rfl rfl (Nat.le_of_ble_eq_true rfl) (w2 := [(a, .inr (0, [.ref a1, .ref a2, .null, .null, .null, .int 0, .null, .null, .null, .int 0])), aI g a1 2000, aI g a2 2000]) rfl d_TX_init_19 (fun H locs hI => ?_)
  refine lv_aload_n hx hb d_TX_init_22 rfl (lv_at hl 0 rfl) ?_
  refine lv_sipush (v := 2000) hx hb d_TX_init_23 (by decide) ?_
  refine q_newI M hI 2000 (by decide) (by decide) (by decide) ⟨(Nat.le_of_ble_eq_true rfl), (Nat.le_of_ble_eq_true rfl)⟩ d_TX_init_26 (fun a3 H hI => ?_)
  have hI : CI g A s [(a, .inr (0, [.ref a1, .ref a2, .null, .null, .null, .int 0, .null, .null, .null, .int 0])), aI g a1 2000, aI g a2 2000, aI g a3 2000] H locs := hI
  refine q_putF M hI 0 rfl rfl i_TX t_TX t_TX_ok n_TX 2 (by decide) m1_44 rfl hnm rfl rfl rfl (Nat.le_of_ble_eq_true rfl) (w2 := [(a, .inr (0, [.ref a1, .ref a2, .ref a3, .null, .null, .int 0, .null, .null, .null, .int 0])), aI g a1 2000, aI g a2 2000, aI g a3 2000]) rfl d_TX_init_28 (fun H locs hI => ?_)
  refine lv_aload_n hx hb d_TX_init_31 rfl (lv_at hl 0 rfl) ?_
  refine lv_sipush (v := 2000) hx hb d_TX_init_32 (by decide) ?_
  refine q_newI M hI 2000 (by decide) (by decide) (by decide) ⟨(Nat.le_of_ble_eq_true rfl), (Nat.le_of_ble_eq_true rfl)⟩ d_TX_init_35 (fun a4 H hI => ?_)
  have hI : CI g A s [(a, .inr (0, [.ref a1, .ref a2, .ref a3, .null, .null, .int 0, .null, .null, .null, .int 0])), aI g a1 2000, aI g a2 2000, aI g a3 2000, aI g a4 2000] H locs := hI
  refine q_putF M hI 0 rfl rfl i_TX t_TX t_TX_ok n_TX 3 (by decide) m1_49 rfl hnm rfl rfl rfl (Nat.le_of_ble_eq_true rfl) (w2 := [(a, .inr (0, [.ref a1, .ref a2, .ref a3, .ref a4, .null, .int 0, .null, .null, .null, .int 0])), aI g a1 2000, aI g a2 2000, aI g a3 2000, aI g a4 2000]) rfl d_TX_init_37 (fun H locs hI => ?_)
  refine lv_aload_n hx hb d_TX_init_40 rfl (lv_at hl 0 rfl) ?_
  refine lv_sipush (v := 2000) hx hb d_TX_init_41 (by decide) ?_
  refine q_newI M hI 2000 (by decide) (by decide) (by decide) ⟨(Nat.le_of_ble_eq_true rfl), (Nat.le_of_ble_eq_true rfl)⟩ d_TX_init_44 (fun a5 H hI => ?_)
  have hI : CI g A s [(a, .inr (0, [.ref a1, .ref a2, .ref a3, .ref a4, .null, .int 0, .null, .null, .null, .int 0])), aI g a1 2000, aI g a2 2000, aI g a3 2000, aI g a4 2000, aI g a5 2000] H locs := hI
  refine q_putF M hI 0 rfl rfl i_TX t_TX t_TX_ok n_TX 4 (by decide) m1_55 rfl hnm rfl rfl rfl (Nat.le_of_ble_eq_true rfl) (w2 := [(a, .inr (0, [.ref a1, .ref a2, .ref a3, .ref a4, .ref a5, .int 0, .null, .null, .null, .int 0])), aI g a1 2000, aI g a2 2000, aI g a3 2000, aI g a4 2000, aI g a5 2000]) rfl d_TX_init_46 (fun H locs hI => ?_)
  refine lv_aload_n hx hb d_TX_init_49 rfl (lv_at hl 0 rfl) ?_
  refine lv_iconst (v := 0) hx hb d_TX_init_50 (by decide) ?_
  refine q_put M hI 0 rfl rfl i_TX t_TX t_TX_ok n_TX 5 (by decide) m1_59 rfl rfl rfl (Nat.le_of_ble_eq_true rfl) (w2 := [(a, .inr (0, [.ref a1, .ref a2, .ref a3, .ref a4, .ref a5, .int 0, .null, .null, .null, .int 0])), aI g a1 2000, aI g a2 2000, aI g a3 2000, aI g a4 2000, aI g a5 2000]) rfl d_TX_init_51 (fun H locs hI => ?_)
  refine lv_aload_n hx hb d_TX_init_54 rfl (lv_at hl 0 rfl) ?_
  refine lv_bipush (v := 100) hx hb d_TX_init_55 (by decide) ?_
  refine q_newI M hI 100 (by decide) (by decide) (by decide) ⟨(Nat.le_of_ble_eq_true rfl), (Nat.le_of_ble_eq_true rfl)⟩ d_TX_init_57 (fun a6 H hI => ?_)
  have hI : CI g A s [(a, .inr (0, [.ref a1, .ref a2, .ref a3, .ref a4, .ref a5, .int 0, .null, .null, .null, .int 0])), aI g a1 2000, aI g a2 2000, aI g a3 2000, aI g a4 2000, aI g a5 2000, aI g a6 100] H locs := hI
  refine q_putF M hI 0 rfl rfl i_TX t_TX t_TX_ok n_TX 6 (by decide) m1_63 rfl hnm rfl rfl rfl (Nat.le_of_ble_eq_true rfl) (w2 := [(a, .inr (0, [.ref a1, .ref a2, .ref a3, .ref a4, .ref a5, .int 0, .ref a6, .null, .null, .int 0])), aI g a1 2000, aI g a2 2000, aI g a3 2000, aI g a4 2000, aI g a5 2000, aI g a6 100]) rfl d_TX_init_59 (fun H locs hI => ?_)
  refine lv_aload_n hx hb d_TX_init_62 rfl (lv_at hl 0 rfl) ?_
  refine lv_bipush (v := 100) hx hb d_TX_init_63 (by decide) ?_
  refine q_newI M hI 100 (by decide) (by decide) (by decide) ⟨(Nat.le_of_ble_eq_true rfl), (Nat.le_of_ble_eq_true rfl)⟩ d_TX_init_65 (fun a7 H hI => ?_)
  have hI : CI g A s [(a, .inr (0, [.ref a1, .ref a2, .ref a3, .ref a4, .ref a5, .int 0, .ref a6, .null, .null, .int 0])), aI g a1 2000, aI g a2 2000, aI g a3 2000, aI g a4 2000, aI g a5 2000, aI g a6 100, aI g a7 100] H locs := hI
  refine q_putF M hI 0 rfl rfl i_TX t_TX t_TX_ok n_TX 7 (by decide) m1_64 rfl hnm rfl rfl rfl (Nat.le_of_ble_eq_true rfl) (w2 := [(a, .inr (0, [.ref a1, .ref a2, .ref a3, .ref a4, .ref a5, .int 0, .ref a6, .ref a7, .null, .int 0])), aI g a1 2000, aI g a2 2000, aI g a3 2000, aI g a4 2000, aI g a5 2000, aI g a6 100, aI g a7 100]) rfl d_TX_init_67 (fun H locs hI => ?_)
  refine lv_aload_n hx hb d_TX_init_70 rfl (lv_at hl 0 rfl) ?_
  refine lv_bipush (v := 100) hx hb d_TX_init_71 (by decide) ?_
  refine q_newI M hI 100 (by decide) (by decide) (by decide) ⟨(Nat.le_of_ble_eq_true rfl), (Nat.le_of_ble_eq_true rfl)⟩ d_TX_init_73 (fun a8 H hI => ?_)
  have hI : CI g A s [(a, .inr (0, [.ref a1, .ref a2, .ref a3, .ref a4, .ref a5, .int 0, .ref a6, .ref a7, .null, .int 0])), aI g a1 2000, aI g a2 2000, aI g a3 2000, aI g a4 2000, aI g a5 2000, aI g a6 100, aI g a7 100, aI g a8 100] H locs := hI
  refine q_putF M hI 0 rfl rfl i_TX t_TX t_TX_ok n_TX 8 (by decide) m1_65 rfl hnm rfl rfl rfl (Nat.le_of_ble_eq_true rfl) (w2 := [(a, .inr (0, [.ref a1, .ref a2, .ref a3, .ref a4, .ref a5, .int 0, .ref a6, .ref a7, .ref a8, .int 0])), aI g a1 2000, aI g a2 2000, aI g a3 2000, aI g a4 2000, aI g a5 2000, aI g a6 100, aI g a7 100, aI g a8 100]) rfl d_TX_init_75 (fun H locs hI => ?_)
  refine lv_aload_n hx hb d_TX_init_78 rfl (lv_at hl 0 rfl) ?_
  refine lv_iconst (v := 0) hx hb d_TX_init_79 (by decide) ?_
  refine q_put M hI 0 rfl rfl i_TX t_TX t_TX_ok n_TX 9 (by decide) m1_66 rfl rfl rfl (Nat.le_of_ble_eq_true rfl) (w2 := [(a, .inr (0, [.ref a1, .ref a2, .ref a3, .ref a4, .ref a5, .int 0, .ref a6, .ref a7, .ref a8, .int 0])), aI g a1 2000, aI g a2 2000, aI g a3 2000, aI g a4 2000, aI g a5 2000, aI g a6 100, aI g a7 100, aI g a8 100]) rfl d_TX_init_80 (fun H locs hI => ?_)
  exact hret (fun k => [a1, a2, a3, a4, a5, a6, a7, a8].getD k 0) _ _ _ _ _ _ d_TX_init_83 hI trivial (Nat.le_of_ble_eq_true rfl) (Nat.le_of_ble_eq_true rfl)
abbrev rm_PR_init : Room := { frames := 1, cells := 2, slots := 80, locals := 20 }
set_option maxHeartbeats 4000000 in
set_option maxRecDepth 100000 in
theorem c_PR_init (l : Launch) (g : Geo) (a : Nat) : cMv l y_PR_init (.code y_PR_init b_PR_init 1 none :: gw) rm_PR_init g [.ref a] [(a, .inr (1, [.null, .null, .int 0]))] (fun (_ : Nat → Nat) => True) (fun (u : Nat → Nat) => [(a, .inr (1, [.ref (u 0), .ref (u 1), .int 0])), aI g (u 0) 40, aI g (u 1) 40]) 2 80 := by
  refine cMv_of (by decide) (Nat.le_of_ble_eq_true rfl) ?_
  intro p e s m below meth c A Q ls M hnm hret hl hI
  have hnm : meth.name = "<init>" := hnm
  have hl : lv_has ls 1 [(0, .ref a)] := hl
  have M : MC p s m ([.ref a] : List Value).toArray meth c R_PR b_PR_init 1 := M
  generalize ([.ref a] : List Value).toArray = args at M hret ⊢
  have hx := M.1
  have hb := M.2.1
  obtain ⟨H, hH⟩ : ∃ H, H = s.heap := ⟨_, rfl⟩
  rw [← hH] at hI ⊢
  obtain ⟨locs, hlc⟩ : ∃ locs : List Loc, locs = [] := ⟨_, rfl⟩
  rw [← hlc] at hI ⊢
  refine lv_aload_n hx hb d_PR_init_0 rfl (lv_at hl 0 rfl) ?_
  refine q_objI M m1_95 hl.1 ⟨(Nat.le_of_ble_eq_true rfl), (Nat.le_of_ble_eq_true rfl)⟩ (Nat.le_of_ble_eq_true rfl) d_PR_init_1 ?_
  refine lv_aload_n hx hb d_PR_init_4 rfl (lv_at hl 0 rfl) ?_
  refine lv_bipush (v := 40) hx hb d_PR_init_5 (by decide) ?_
  refine q_newI M hI 40 (by decide) (by decide) (by decide) ⟨(Nat.le_of_ble_eq_true rfl), (Nat.le_of_ble_eq_true rfl)⟩ d_PR_init_7 (fun a1 H hI => ?_)
  have hI : CI g A s [(a, .inr (1, [.null, .null, .int 0])), aI g a1 40] H locs := hI
  refine q_putF M hI 0 rfl rfl i_PR t_PR t_PR_ok n_PR 0 (by decide) m1_96 rfl hnm rfl rfl rfl (Nat.le_of_ble_eq_true rfl) (w2 := [(a, .inr (1, [.ref a1, .null, .int 0])), aI g a1 40]) rfl d_PR_init_9 (fun H locs hI => ?_)
  refine lv_aload_n hx hb d_PR_init_12 rfl (lv_at hl 0 rfl) ?_
  refine lv_bipush (v := 40) hx hb d_PR_init_13 (by decide) ?_
  refine q_newI M hI 40 (by decide) (by decide) (by decide) ⟨(Nat.le_of_ble_eq_true rfl), (Nat.le_of_ble_eq_true rfl)⟩ d_PR_init_15 (fun a2 H hI => ?_)
  have hI : CI g A s [(a, .inr (1, [.ref a1, .null, .int 0])), aI g a1 40, aI g a2 40] H locs := hI
  refine q_putF M hI 0 rfl rfl i_PR t_PR t_PR_ok n_PR 1 (by decide) m1_97 rfl hnm rfl rfl rfl (Nat.le_of_ble_eq_true rfl) (w2 := [(a, .inr (1, [.ref a1, .ref a2, .int 0])), aI g a1 40, aI g a2 40]) rfl d_PR_init_17 (fun H locs hI => ?_)
  refine lv_aload_n hx hb d_PR_init_20 rfl (lv_at hl 0 rfl) ?_
  refine lv_iconst (v := 0) hx hb d_PR_init_21 (by decide) ?_
  refine q_put M hI 0 rfl rfl i_PR t_PR t_PR_ok n_PR 2 (by decide) m1_98 rfl rfl rfl (Nat.le_of_ble_eq_true rfl) (w2 := [(a, .inr (1, [.ref a1, .ref a2, .int 0])), aI g a1 40, aI g a2 40]) rfl d_PR_init_22 (fun H locs hI => ?_)
  exact hret (fun k => [a1, a2].getD k 0) _ _ _ _ _ _ d_PR_init_25 hI trivial (Nat.le_of_ble_eq_true rfl) (Nat.le_of_ble_eq_true rfl)
abbrev rm_IS_init : Room := { frames := 1, cells := 1, slots := 2000, locals := 20 }
set_option maxHeartbeats 4000000 in
set_option maxRecDepth 100000 in
theorem c_IS_init (l : Launch) (g : Geo) (a : Nat) (x1 : Nat) : cMv l y_IS_init (.code y_IS_init b_IS_init 2 none :: gw) rm_IS_init g [.ref a, .ref x1] [(a, .inr (2, [.null, .null]))] (fun (_ : Nat → Nat) => True) (fun (u : Nat → Nat) => [(a, .inr (2, [.ref x1, .ref (u 0)])), aI g (u 0) 2000]) 1 2000 := by
  refine cMv_of (by decide) (Nat.le_of_ble_eq_true rfl) ?_
  intro p e s m below meth c A Q ls M hnm hret hl hI
  have hnm : meth.name = "<init>" := hnm
  have hl : lv_has ls 2 [(0, .ref a), (1, .ref x1)] := hl
  have M : MC p s m ([.ref a, .ref x1] : List Value).toArray meth c R_IS b_IS_init 2 := M
  generalize ([.ref a, .ref x1] : List Value).toArray = args at M hret ⊢
  have hx := M.1
  have hb := M.2.1
  obtain ⟨H, hH⟩ : ∃ H, H = s.heap := ⟨_, rfl⟩
  rw [← hH] at hI ⊢
  obtain ⟨locs, hlc⟩ : ∃ locs : List Loc, locs = [] := ⟨_, rfl⟩
  rw [← hlc] at hI ⊢
  refine lv_aload_n hx hb d_IS_init_0 rfl (lv_at hl 0 rfl) ?_
  refine q_objI M m1_118 hl.1 ⟨(Nat.le_of_ble_eq_true rfl), (Nat.le_of_ble_eq_true rfl)⟩ (Nat.le_of_ble_eq_true rfl) d_IS_init_1 ?_
  refine lv_aload_n hx hb d_IS_init_4 rfl (lv_at hl 0 rfl) ?_
  refine lv_sipush (v := 2000) hx hb d_IS_init_5 (by decide) ?_
  refine q_newI M hI 2000 (by decide) (by decide) (by decide) ⟨(Nat.le_of_ble_eq_true rfl), (Nat.le_of_ble_eq_true rfl)⟩ d_IS_init_8 (fun a1 H hI => ?_)
  have hI : CI g A s [(a, .inr (2, [.null, .null])), aI g a1 2000] H locs := hI
  refine q_putF M hI 0 rfl rfl i_IS t_IS t_IS_ok n_IS 1 (by decide) m1_120 rfl hnm rfl rfl rfl (Nat.le_of_ble_eq_true rfl) (w2 := [(a, .inr (2, [.null, .ref a1])), aI g a1 2000]) rfl d_IS_init_10 (fun H locs hI => ?_)
  refine lv_aload_n hx hb d_IS_init_13 rfl (lv_at hl 0 rfl) ?_
  refine lv_aload_n hx hb d_IS_init_14 rfl (lv_at hl 1 rfl) ?_
  refine q_putF M hI 0 rfl rfl i_IS t_IS t_IS_ok n_IS 0 (by decide) m1_119 rfl hnm rfl rfl rfl (Nat.le_of_ble_eq_true rfl) (w2 := [(a, .inr (2, [.ref x1, .ref a1])), aI g a1 2000]) rfl d_IS_init_15 (fun H locs hI => ?_)
  exact hret (fun k => [a1].getD k 0) _ _ _ _ _ _ d_IS_init_18 hI trivial (Nat.le_of_ble_eq_true rfl) (Nat.le_of_ble_eq_true rfl)
abbrev rm_EX_init : Room := { frames := 1, cells := 3, slots := 381, locals := 20 }
set_option maxHeartbeats 4000000 in
set_option maxRecDepth 100000 in
theorem c_EX_init (l : Launch) (g : Geo) (a : Nat) (x1 : Nat) (x2 : Nat) : cMv l y_EX_init (.code y_EX_init b_EX_init 3 none :: gw) rm_EX_init g [.ref a, .ref x1, .ref x2] [(a, .inr (3, [.null, .null, .null, .null, .null, .int 0, .int 0, .int 0, .int 0]))] (fun (_ : Nat → Nat) => True) (fun (u : Nat → Nat) => [(a, .inr (3, [.ref x1, .ref x2, .ref (u 0), .ref (u 1), .ref (u 2), .int 0, .int 0, .int 0, .int 0])), aI g (u 0) 127, aI g (u 1) 127, aZ g (u 2) 127]) 3 381 := by
  refine cMv_of (by decide) (Nat.le_of_ble_eq_true rfl) ?_
  intro p e s m below meth c A Q ls M hnm hret hl hI
  have hnm : meth.name = "<init>" := hnm
  have hl : lv_has ls 3 [(0, .ref a), (1, .ref x1), (2, .ref x2)] := hl
  have M : MC p s m ([.ref a, .ref x1, .ref x2] : List Value).toArray meth c R_EX b_EX_init 3 := M
  generalize ([.ref a, .ref x1, .ref x2] : List Value).toArray = args at M hret ⊢
  have hx := M.1
  have hb := M.2.1
  obtain ⟨H, hH⟩ : ∃ H, H = s.heap := ⟨_, rfl⟩
  rw [← hH] at hI ⊢
  obtain ⟨locs, hlc⟩ : ∃ locs : List Loc, locs = [] := ⟨_, rfl⟩
  rw [← hlc] at hI ⊢
  refine lv_aload_n hx hb d_EX_init_0 rfl (lv_at hl 0 rfl) ?_
  refine q_objI M m1_131 hl.1 ⟨(Nat.le_of_ble_eq_true rfl), (Nat.le_of_ble_eq_true rfl)⟩ (Nat.le_of_ble_eq_true rfl) d_EX_init_1 ?_
  refine lv_aload_n hx hb d_EX_init_4 rfl (lv_at hl 0 rfl) ?_
  refine lv_bipush (v := 127) hx hb d_EX_init_5 (by decide) ?_
  refine q_newI M hI 127 (by decide) (by decide) (by decide) ⟨(Nat.le_of_ble_eq_true rfl), (Nat.le_of_ble_eq_true rfl)⟩ d_EX_init_7 (fun a1 H hI => ?_)
  have hI : CI g A s [(a, .inr (3, [.null, .null, .null, .null, .null, .int 0, .int 0, .int 0, .int 0])), aI g a1 127] H locs := hI
  refine q_putF M hI 0 rfl rfl i_EX t_EX t_EX_ok n_EX 2 (by decide) m1_134 rfl hnm rfl rfl rfl (Nat.le_of_ble_eq_true rfl) (w2 := [(a, .inr (3, [.null, .null, .ref a1, .null, .null, .int 0, .int 0, .int 0, .int 0])), aI g a1 127]) rfl d_EX_init_9 (fun H locs hI => ?_)
  refine lv_aload_n hx hb d_EX_init_12 rfl (lv_at hl 0 rfl) ?_
  refine lv_bipush (v := 127) hx hb d_EX_init_13 (by decide) ?_
  refine q_newI M hI 127 (by decide) (by decide) (by decide) ⟨(Nat.le_of_ble_eq_true rfl), (Nat.le_of_ble_eq_true rfl)⟩ d_EX_init_15 (fun a2 H hI => ?_)
  have hI : CI g A s [(a, .inr (3, [.null, .null, .ref a1, .null, .null, .int 0, .int 0, .int 0, .int 0])), aI g a1 127, aI g a2 127] H locs := hI
  refine q_putF M hI 0 rfl rfl i_EX t_EX t_EX_ok n_EX 3 (by decide) m1_135 rfl hnm rfl rfl rfl (Nat.le_of_ble_eq_true rfl) (w2 := [(a, .inr (3, [.null, .null, .ref a1, .ref a2, .null, .int 0, .int 0, .int 0, .int 0])), aI g a1 127, aI g a2 127]) rfl d_EX_init_17 (fun H locs hI => ?_)
  refine lv_aload_n hx hb d_EX_init_20 rfl (lv_at hl 0 rfl) ?_
  refine lv_bipush (v := 127) hx hb d_EX_init_21 (by decide) ?_
  refine q_newZ M hI 127 (by decide) (by decide) (by decide) ⟨(Nat.le_of_ble_eq_true rfl), (Nat.le_of_ble_eq_true rfl)⟩ d_EX_init_23 (fun a3 H hI => ?_)
  have hI : CI g A s [(a, .inr (3, [.null, .null, .ref a1, .ref a2, .null, .int 0, .int 0, .int 0, .int 0])), aI g a1 127, aI g a2 127, aZ g a3 127] H locs := hI
  refine q_putF M hI 0 rfl rfl i_EX t_EX t_EX_ok n_EX 4 (by decide) m1_136 rfl hnm rfl rfl rfl (Nat.le_of_ble_eq_true rfl) (w2 := [(a, .inr (3, [.null, .null, .ref a1, .ref a2, .ref a3, .int 0, .int 0, .int 0, .int 0])), aI g a1 127, aI g a2 127, aZ g a3 127]) rfl d_EX_init_25 (fun H locs hI => ?_)
  refine lv_aload_n hx hb d_EX_init_28 rfl (lv_at hl 0 rfl) ?_
  refine lv_iconst (v := 0) hx hb d_EX_init_29 (by decide) ?_
  refine q_put M hI 0 rfl rfl i_EX t_EX t_EX_ok n_EX 5 (by decide) m1_137 rfl rfl rfl (Nat.le_of_ble_eq_true rfl) (w2 := [(a, .inr (3, [.null, .null, .ref a1, .ref a2, .ref a3, .int 0, .int 0, .int 0, .int 0])), aI g a1 127, aI g a2 127, aZ g a3 127]) rfl d_EX_init_30 (fun H locs hI => ?_)
  refine lv_aload_n hx hb d_EX_init_33 rfl (lv_at hl 0 rfl) ?_
  refine lv_iconst (v := 0) hx hb d_EX_init_34 (by decide) ?_
  refine q_put M hI 0 rfl rfl i_EX t_EX t_EX_ok n_EX 6 (by decide) m1_138 rfl rfl rfl (Nat.le_of_ble_eq_true rfl) (w2 := [(a, .inr (3, [.null, .null, .ref a1, .ref a2, .ref a3, .int 0, .int 0, .int 0, .int 0])), aI g a1 127, aI g a2 127, aZ g a3 127]) rfl d_EX_init_35 (fun H locs hI => ?_)
  refine lv_aload_n hx hb d_EX_init_38 rfl (lv_at hl 0 rfl) ?_
  refine lv_iconst (v := 0) hx hb d_EX_init_39 (by decide) ?_
  refine q_put M hI 0 rfl rfl i_EX t_EX t_EX_ok n_EX 7 (by decide) m1_139 rfl rfl rfl (Nat.le_of_ble_eq_true rfl) (w2 := [(a, .inr (3, [.null, .null, .ref a1, .ref a2, .ref a3, .int 0, .int 0, .int 0, .int 0])), aI g a1 127, aI g a2 127, aZ g a3 127]) rfl d_EX_init_40 (fun H locs hI => ?_)
  refine lv_aload_n hx hb d_EX_init_43 rfl (lv_at hl 0 rfl) ?_
  refine lv_iconst (v := 0) hx hb d_EX_init_44 (by decide) ?_
  refine q_put M hI 0 rfl rfl i_EX t_EX t_EX_ok n_EX 8 (by decide) m1_140 rfl rfl rfl (Nat.le_of_ble_eq_true rfl) (w2 := [(a, .inr (3, [.null, .null, .ref a1, .ref a2, .ref a3, .int 0, .int 0, .int 0, .int 0])), aI g a1 127, aI g a2 127, aZ g a3 127]) rfl d_EX_init_45 (fun H locs hI => ?_)
  refine lv_aload_n hx hb d_EX_init_48 rfl (lv_at hl 0 rfl) ?_
  refine lv_aload_n hx hb d_EX_init_49 rfl (lv_at hl 1 rfl) ?_
  refine q_putF M hI 0 rfl rfl i_EX t_EX t_EX_ok n_EX 0 (by decide) m1_132 rfl hnm rfl rfl rfl (Nat.le_of_ble_eq_true rfl) (w2 := [(a, .inr (3, [.ref x1, .null, .ref a1, .ref a2, .ref a3, .int 0, .int 0, .int 0, .int 0])), aI g a1 127, aI g a2 127, aZ g a3 127]) rfl d_EX_init_50 (fun H locs hI => ?_)
  refine lv_aload_n hx hb d_EX_init_53 rfl (lv_at hl 0 rfl) ?_
  refine lv_aload_n hx hb d_EX_init_54 rfl (lv_at hl 2 rfl) ?_
  refine q_putF M hI 0 rfl rfl i_EX t_EX t_EX_ok n_EX 1 (by decide) m1_133 rfl hnm rfl rfl rfl (Nat.le_of_ble_eq_true rfl) (w2 := [(a, .inr (3, [.ref x1, .ref x2, .ref a1, .ref a2, .ref a3, .int 0, .int 0, .int 0, .int 0])), aI g a1 127, aI g a2 127, aZ g a3 127]) rfl d_EX_init_55 (fun H locs hI => ?_)
  exact hret (fun k => [a1, a2, a3].getD k 0) _ _ _ _ _ _ d_EX_init_58 hI trivial (Nat.le_of_ble_eq_true rfl) (Nat.le_of_ble_eq_true rfl)
abbrev rm_RU_init : Room := { frames := 1, cells := 4, slots := 8000, locals := 20 }
set_option maxHeartbeats 4000000 in
set_option maxRecDepth 100000 in
theorem c_RU_init (l : Launch) (g : Geo) (a : Nat) (x1 : Nat) : cMv l y_RU_init (.code y_RU_init b_RU_init 2 none :: gw) rm_RU_init g [.ref a, .ref x1] [(a, .inr (4, [.null, .null, .int 0, .null, .null, .null, .int 0]))] (fun (_ : Nat → Nat) => True) (fun (u : Nat → Nat) => [(a, .inr (4, [.ref x1, .ref (u 0), .int 0, .ref (u 1), .ref (u 2), .ref (u 3), .int 0])), aI g (u 0) 2000, aI g (u 1) 2000, aI g (u 2) 2000, aI g (u 3) 2000]) 4 8000 := by
  refine cMv_of (by decide) (Nat.le_of_ble_eq_true rfl) ?_
  intro p e s m below meth c A Q ls M hnm hret hl hI
  have hnm : meth.name = "<init>" := hnm
  have hl : lv_has ls 2 [(0, .ref a), (1, .ref x1)] := hl
  have M : MC p s m ([.ref a, .ref x1] : List Value).toArray meth c R_RU b_RU_init 2 := M
  generalize ([.ref a, .ref x1] : List Value).toArray = args at M hret ⊢
  have hx := M.1
  have hb := M.2.1
  obtain ⟨H, hH⟩ : ∃ H, H = s.heap := ⟨_, rfl⟩
  rw [← hH] at hI ⊢
  obtain ⟨locs, hlc⟩ : ∃ locs : List Loc, locs = [] := ⟨_, rfl⟩
  rw [← hlc] at hI ⊢
  refine lv_aload_n hx hb d_RU_init_0 rfl (lv_at hl 0 rfl) ?_
  refine q_objI M m1_166 hl.1 ⟨(Nat.le_of_ble_eq_true rfl), (Nat.le_of_ble_eq_true rfl)⟩ (Nat.le_of_ble_eq_true rfl) d_RU_init_1 ?_
  refine lv_aload_n hx hb d_RU_init_4 rfl (lv_at hl 0 rfl) ?_
  refine lv_sipush (v := 2000) hx hb d_RU_init_5 (by decide) ?_
  refine q_newI M hI 2000 (by decide) (by decide) (by decide) ⟨(Nat.le_of_ble_eq_true rfl), (Nat.le_of_ble_eq_true rfl)⟩ d_RU_init_8 (fun a1 H hI => ?_)
  have hI : CI g A s [(a, .inr (4, [.null, .null, .int 0, .null, .null, .null, .int 0])), aI g a1 2000] H locs := hI
  refine q_putF M hI 0 rfl rfl i_RU t_RU t_RU_ok n_RU 1 (by decide) m1_168 rfl hnm rfl rfl rfl (Nat.le_of_ble_eq_true rfl) (w2 := [(a, .inr (4, [.null, .ref a1, .int 0, .null, .null, .null, .int 0])), aI g a1 2000]) rfl d_RU_init_10 (fun H locs hI => ?_)
  refine lv_aload_n hx hb d_RU_init_13 rfl (lv_at hl 0 rfl) ?_
  refine lv_iconst (v := 0) hx hb d_RU_init_14 (by decide) ?_
  refine q_put M hI 0 rfl rfl i_RU t_RU t_RU_ok n_RU 2 (by decide) m1_169 rfl rfl rfl (Nat.le_of_ble_eq_true rfl) (w2 := [(a, .inr (4, [.null, .ref a1, .int 0, .null, .null, .null, .int 0])), aI g a1 2000]) rfl d_RU_init_15 (fun H locs hI => ?_)
  refine lv_aload_n hx hb d_RU_init_18 rfl (lv_at hl 0 rfl) ?_
  refine lv_sipush (v := 2000) hx hb d_RU_init_19 (by decide) ?_
  refine q_newI M hI 2000 (by decide) (by decide) (by decide) ⟨(Nat.le_of_ble_eq_true rfl), (Nat.le_of_ble_eq_true rfl)⟩ d_RU_init_22 (fun a2 H hI => ?_)
  have hI : CI g A s [(a, .inr (4, [.null, .ref a1, .int 0, .null, .null, .null, .int 0])), aI g a1 2000, aI g a2 2000] H locs := hI
  refine q_putF M hI 0 rfl rfl i_RU t_RU t_RU_ok n_RU 3 (by decide) m1_170 rfl hnm rfl rfl rfl (Nat.le_of_ble_eq_true rfl) (w2 := [(a, .inr (4, [.null, .ref a1, .int 0, .ref a2, .null, .null, .int 0])), aI g a1 2000, aI g a2 2000]) rfl d_RU_init_24 (fun H locs hI => ?_)
  refine lv_aload_n hx hb d_RU_init_27 rfl (lv_at hl 0 rfl) ?_
  refine lv_sipush (v := 2000) hx hb d_RU_init_28 (by decide) ?_
  refine q_newI M hI 2000 (by decide) (by decide) (by decide) ⟨(Nat.le_of_ble_eq_true rfl), (Nat.le_of_ble_eq_true rfl)⟩ d_RU_init_31 (fun a3 H hI => ?_)
  have hI : CI g A s [(a, .inr (4, [.null, .ref a1, .int 0, .ref a2, .null, .null, .int 0])), aI g a1 2000, aI g a2 2000, aI g a3 2000] H locs := hI
  refine q_putF M hI 0 rfl rfl i_RU t_RU t_RU_ok n_RU 4 (by decide) m1_171 rfl hnm rfl rfl rfl (Nat.le_of_ble_eq_true rfl) (w2 := [(a, .inr (4, [.null, .ref a1, .int 0, .ref a2, .ref a3, .null, .int 0])), aI g a1 2000, aI g a2 2000, aI g a3 2000]) rfl d_RU_init_33 (fun H locs hI => ?_)
  refine lv_aload_n hx hb d_RU_init_36 rfl (lv_at hl 0 rfl) ?_
  refine lv_sipush (v := 2000) hx hb d_RU_init_37 (by decide) ?_
  refine q_newI M hI 2000 (by decide) (by decide) (by decide) ⟨(Nat.le_of_ble_eq_true rfl), (Nat.le_of_ble_eq_true rfl)⟩ d_RU_init_40 (fun a4 H hI => ?_)
  have hI : CI g A s [(a, .inr (4, [.null, .ref a1, .int 0, .ref a2, .ref a3, .null, .int 0])), aI g a1 2000, aI g a2 2000, aI g a3 2000, aI g a4 2000] H locs := hI
  refine q_putF M hI 0 rfl rfl i_RU t_RU t_RU_ok n_RU 5 (by decide) m1_172 rfl hnm rfl rfl rfl (Nat.le_of_ble_eq_true rfl) (w2 := [(a, .inr (4, [.null, .ref a1, .int 0, .ref a2, .ref a3, .ref a4, .int 0])), aI g a1 2000, aI g a2 2000, aI g a3 2000, aI g a4 2000]) rfl d_RU_init_42 (fun H locs hI => ?_)
  refine lv_aload_n hx hb d_RU_init_45 rfl (lv_at hl 0 rfl) ?_
  refine lv_iconst (v := 0) hx hb d_RU_init_46 (by decide) ?_
  refine q_put M hI 0 rfl rfl i_RU t_RU t_RU_ok n_RU 6 (by decide) m1_173 rfl rfl rfl (Nat.le_of_ble_eq_true rfl) (w2 := [(a, .inr (4, [.null, .ref a1, .int 0, .ref a2, .ref a3, .ref a4, .int 0])), aI g a1 2000, aI g a2 2000, aI g a3 2000, aI g a4 2000]) rfl d_RU_init_47 (fun H locs hI => ?_)
  refine lv_aload_n hx hb d_RU_init_50 rfl (lv_at hl 0 rfl) ?_
  refine lv_aload_n hx hb d_RU_init_51 rfl (lv_at hl 1 rfl) ?_
  refine q_putF M hI 0 rfl rfl i_RU t_RU t_RU_ok n_RU 0 (by decide) m1_167 rfl hnm rfl rfl rfl (Nat.le_of_ble_eq_true rfl) (w2 := [(a, .inr (4, [.ref x1, .ref a1, .int 0, .ref a2, .ref a3, .ref a4, .int 0])), aI g a1 2000, aI g a2 2000, aI g a3 2000, aI g a4 2000]) rfl d_RU_init_52 (fun H locs hI => ?_)
  exact hret (fun k => [a1, a2, a3, a4].getD k 0) _ _ _ _ _ _ d_RU_init_55 hI trivial (Nat.le_of_ble_eq_true rfl) (Nat.le_of_ble_eq_true rfl)
abbrev rm_SQ_init : Room := { frames := 1, cells := 2, slots := 4000, locals := 20 }
set_option maxHeartbeats 4000000 in
set_option maxRecDepth 100000 in
theorem c_SQ_init (l : Launch) (g : Geo) (a : Nat) (x1 : Nat) : cMv l y_SQ_init (.code y_SQ_init b_SQ_init 2 none :: gw) rm_SQ_init g [.ref a, .ref x1] [(a, .inr (5, [.null, .null, .null, .int 0, .int 0, .int 0, .int 0]))] (fun (_ : Nat → Nat) => True) (fun (u : Nat → Nat) => [(a, .inr (5, [.ref x1, .ref (u 0), .ref (u 1), .int 0, .int 0, .int 0, .int 0])), aI g (u 0) 2000, aI g (u 1) 2000]) 2 4000 := by
  refine cMv_of (by decide) (Nat.le_of_ble_eq_true rfl) ?_
  intro p e s m below meth c A Q ls M hnm hret hl hI
  have hnm : meth.name = "<init>" := hnm
  have hl : lv_has ls 2 [(0, .ref a), (1, .ref x1)] := hl
  have M : MC p s m ([.ref a, .ref x1] : List Value).toArray meth c R_SQ b_SQ_init 2 := M
  generalize ([.ref a, .ref x1] : List Value).toArray = args at M hret ⊢
  have hx := M.1
  have hb := M.2.1
  obtain ⟨H, hH⟩ : ∃ H, H = s.heap := ⟨_, rfl⟩
  rw [← hH] at hI ⊢
  obtain ⟨locs, hlc⟩ : ∃ locs : List Loc, locs = [] := ⟨_, rfl⟩
  rw [← hlc] at hI ⊢
  refine lv_aload_n hx hb d_SQ_init_0 rfl (lv_at hl 0 rfl) ?_
  refine q_objI M m1_195 hl.1 ⟨(Nat.le_of_ble_eq_true rfl), (Nat.le_of_ble_eq_true rfl)⟩ (Nat.le_of_ble_eq_true rfl) d_SQ_init_1 ?_
  refine lv_aload_n hx hb d_SQ_init_4 rfl (lv_at hl 0 rfl) ?_
  refine lv_sipush (v := 2000) hx hb d_SQ_init_5 (by decide) ?_
  refine q_newI M hI 2000 (by decide) (by decide) (by decide) ⟨(Nat.le_of_ble_eq_true rfl), (Nat.le_of_ble_eq_true rfl)⟩ d_SQ_init_8 (fun a1 H hI => ?_)
  have hI : CI g A s [(a, .inr (5, [.null, .null, .null, .int 0, .int 0, .int 0, .int 0])), aI g a1 2000] H locs := hI
  refine q_putF M hI 0 rfl rfl i_SQ t_SQ t_SQ_ok n_SQ 1 (by decide) m1_197 rfl hnm rfl rfl rfl (Nat.le_of_ble_eq_true rfl) (w2 := [(a, .inr (5, [.null, .ref a1, .null, .int 0, .int 0, .int 0, .int 0])), aI g a1 2000]) rfl d_SQ_init_10 (fun H locs hI => ?_)
  refine lv_aload_n hx hb d_SQ_init_13 rfl (lv_at hl 0 rfl) ?_
  refine lv_sipush (v := 2000) hx hb d_SQ_init_14 (by decide) ?_
  refine q_newI M hI 2000 (by decide) (by decide) (by decide) ⟨(Nat.le_of_ble_eq_true rfl), (Nat.le_of_ble_eq_true rfl)⟩ d_SQ_init_17 (fun a2 H hI => ?_)
  have hI : CI g A s [(a, .inr (5, [.null, .ref a1, .null, .int 0, .int 0, .int 0, .int 0])), aI g a1 2000, aI g a2 2000] H locs := hI
  refine q_putF M hI 0 rfl rfl i_SQ t_SQ t_SQ_ok n_SQ 2 (by decide) m1_200 rfl hnm rfl rfl rfl (Nat.le_of_ble_eq_true rfl) (w2 := [(a, .inr (5, [.null, .ref a1, .ref a2, .int 0, .int 0, .int 0, .int 0])), aI g a1 2000, aI g a2 2000]) rfl d_SQ_init_19 (fun H locs hI => ?_)
  refine lv_aload_n hx hb d_SQ_init_22 rfl (lv_at hl 0 rfl) ?_
  refine lv_iconst (v := 0) hx hb d_SQ_init_23 (by decide) ?_
  refine q_put M hI 0 rfl rfl i_SQ t_SQ t_SQ_ok n_SQ 3 (by decide) m1_203 rfl rfl rfl (Nat.le_of_ble_eq_true rfl) (w2 := [(a, .inr (5, [.null, .ref a1, .ref a2, .int 0, .int 0, .int 0, .int 0])), aI g a1 2000, aI g a2 2000]) rfl d_SQ_init_24 (fun H locs hI => ?_)
  refine lv_aload_n hx hb d_SQ_init_27 rfl (lv_at hl 0 rfl) ?_
  refine lv_iconst (v := 0) hx hb d_SQ_init_28 (by decide) ?_
  refine q_put M hI 0 rfl rfl i_SQ t_SQ t_SQ_ok n_SQ 4 (by decide) m1_206 rfl rfl rfl (Nat.le_of_ble_eq_true rfl) (w2 := [(a, .inr (5, [.null, .ref a1, .ref a2, .int 0, .int 0, .int 0, .int 0])), aI g a1 2000, aI g a2 2000]) rfl d_SQ_init_29 (fun H locs hI => ?_)
  refine lv_aload_n hx hb d_SQ_init_32 rfl (lv_at hl 0 rfl) ?_
  refine lv_iconst (v := 0) hx hb d_SQ_init_33 (by decide) ?_
  refine q_put M hI 0 rfl rfl i_SQ t_SQ t_SQ_ok n_SQ 5 (by decide) m1_208 rfl rfl rfl (Nat.le_of_ble_eq_true rfl) (w2 := [(a, .inr (5, [.null, .ref a1, .ref a2, .int 0, .int 0, .int 0, .int 0])), aI g a1 2000, aI g a2 2000]) rfl d_SQ_init_34 (fun H locs hI => ?_)
  refine lv_aload_n hx hb d_SQ_init_37 rfl (lv_at hl 0 rfl) ?_
  refine lv_iconst (v := 0) hx hb d_SQ_init_38 (by decide) ?_
  refine q_put M hI 0 rfl rfl i_SQ t_SQ t_SQ_ok n_SQ 6 (by decide) m1_212 rfl rfl rfl (Nat.le_of_ble_eq_true rfl) (w2 := [(a, .inr (5, [.null, .ref a1, .ref a2, .int 0, .int 0, .int 0, .int 0])), aI g a1 2000, aI g a2 2000]) rfl d_SQ_init_39 (fun H locs hI => ?_)
  refine lv_aload_n hx hb d_SQ_init_42 rfl (lv_at hl 0 rfl) ?_
  refine lv_aload_n hx hb d_SQ_init_43 rfl (lv_at hl 1 rfl) ?_
  refine q_putF M hI 0 rfl rfl i_SQ t_SQ t_SQ_ok n_SQ 0 (by decide) m1_196 rfl hnm rfl rfl rfl (Nat.le_of_ble_eq_true rfl) (w2 := [(a, .inr (5, [.ref x1, .ref a1, .ref a2, .int 0, .int 0, .int 0, .int 0])), aI g a1 2000, aI g a2 2000]) rfl d_SQ_init_44 (fun H locs hI => ?_)
  exact hret (fun k => [a1, a2].getD k 0) _ _ _ _ _ _ d_SQ_init_47 hI trivial (Nat.le_of_ble_eq_true rfl) (Nat.le_of_ble_eq_true rfl)
abbrev rm_WK_init : Room := { frames := 1, cells := 0, slots := 0, locals := 20 }
set_option maxHeartbeats 4000000 in
set_option maxRecDepth 100000 in
theorem c_WK_init (l : Launch) (g : Geo) (a : Nat) (x1 : Nat) (x2 : Nat) : cMv l y_WK_init (.code y_WK_init b_WK_init 3 none :: gw) rm_WK_init g [.ref a, .ref x1, .ref x2] [(a, .inr (6, [.null, .null]))] (fun (_ : Nat → Nat) => True) (fun (u : Nat → Nat) => [(a, .inr (6, [.ref x1, .ref x2]))]) 0 0 := by
  refine cMv_of (by decide) (Nat.le_of_ble_eq_true rfl) ?_
  intro p e s m below meth c A Q ls M hnm hret hl hI
  have hnm : meth.name = "<init>" := hnm
  have hl : lv_has ls 3 [(0, .ref a), (1, .ref x1), (2, .ref x2)] := hl
  have M : MC p s m ([.ref a, .ref x1, .ref x2] : List Value).toArray meth c R_WK b_WK_init 3 := M
  generalize ([.ref a, .ref x1, .ref x2] : List Value).toArray = args at M hret ⊢
  have hx := M.1
  have hb := M.2.1
  obtain ⟨H, hH⟩ : ∃ H, H = s.heap := ⟨_, rfl⟩
  rw [← hH] at hI ⊢
  obtain ⟨locs, hlc⟩ : ∃ locs : List Loc, locs = [] := ⟨_, rfl⟩
  rw [← hlc] at hI ⊢
  refine lv_aload_n hx hb d_WK_init_0 rfl (lv_at hl 0 rfl) ?_
  refine q_objI M m1_234 hl.1 ⟨(Nat.le_of_ble_eq_true rfl), (Nat.le_of_ble_eq_true rfl)⟩ (Nat.le_of_ble_eq_true rfl) d_WK_init_1 ?_
  refine lv_aload_n hx hb d_WK_init_4 rfl (lv_at hl 0 rfl) ?_
  refine lv_aload_n hx hb d_WK_init_5 rfl (lv_at hl 1 rfl) ?_
  refine q_putF M hI 0 rfl rfl i_WK t_WK t_WK_ok n_WK 0 (by decide) m1_235 rfl hnm rfl rfl rfl (Nat.le_of_ble_eq_true rfl) (w2 := [(a, .inr (6, [.ref x1, .null]))]) rfl d_WK_init_6 (fun H locs hI => ?_)
  refine lv_aload_n hx hb d_WK_init_9 rfl (lv_at hl 0 rfl) ?_
  refine lv_aload_n hx hb d_WK_init_10 rfl (lv_at hl 2 rfl) ?_
  refine q_putF M hI 0 rfl rfl i_WK t_WK t_WK_ok n_WK 1 (by decide) m1_236 rfl hnm rfl rfl rfl (Nat.le_of_ble_eq_true rfl) (w2 := [(a, .inr (6, [.ref x1, .ref x2]))]) rfl d_WK_init_11 (fun H locs hI => ?_)
  exact hret (fun k => [].getD k 0) _ _ _ _ _ _ d_WK_init_14 hI trivial (Nat.le_of_ble_eq_true rfl) (Nat.le_of_ble_eq_true rfl)
abbrev rm_BR_init : Room := { frames := 1, cells := 3, slots := 2126, locals := 20 }
set_option maxHeartbeats 4000000 in
set_option maxRecDepth 100000 in
theorem c_BR_init (l : Launch) (g : Geo) (a : Nat) (x1 : Nat) (x2 : Nat) (x3 : Nat) : cMv l y_BR_init (.code y_BR_init b_BR_init 4 none :: gw) rm_BR_init g [.ref a, .ref x1, .ref x2, .ref x3] [(a, .inr (7, [.null, .null, .null, .null, .null, .int 0, .null]))] (fun (_ : Nat → Nat) => True) (fun (u : Nat → Nat) => [(a, .inr (7, [.ref x1, .ref x2, .ref x3, .ref (u 0), .ref (u 1), .int 0, .ref (u 2)])), aI g (u 0) 63, aI g (u 1) 63, aI g (u 2) 2000]) 3 2126 := by
  refine cMv_of (by decide) (Nat.le_of_ble_eq_true rfl) ?_
  intro p e s m below meth c A Q ls M hnm hret hl hI
  have hnm : meth.name = "<init>" := hnm
  have hl : lv_has ls 4 [(0, .ref a), (1, .ref x1), (2, .ref x2), (3, .ref x3)] := hl
  have M : MC p s m ([.ref a, .ref x1, .ref x2, .ref x3] : List Value).toArray meth c R_BR b_BR_init 4 := M
  generalize ([.ref a, .ref x1, .ref x2, .ref x3] : List Value).toArray = args at M hret ⊢
  have hx := M.1
  have hb := M.2.1
  obtain ⟨H, hH⟩ : ∃ H, H = s.heap := ⟨_, rfl⟩
  rw [← hH] at hI ⊢
  obtain ⟨locs, hlc⟩ : ∃ locs : List Loc, locs = [] := ⟨_, rfl⟩
  rw [← hlc] at hI ⊢
  refine lv_aload_n hx hb d_BR_init_0 rfl (lv_at hl 0 rfl) ?_
  refine q_objI M m2_7 hl.1 ⟨(Nat.le_of_ble_eq_true rfl), (Nat.le_of_ble_eq_true rfl)⟩ (Nat.le_of_ble_eq_true rfl) d_BR_init_1 ?_
  refine lv_aload_n hx hb d_BR_init_4 rfl (lv_at hl 0 rfl) ?_
  refine lv_bipush (v := 63) hx hb d_BR_init_5 (by decide) ?_
  refine q_newI M hI 63 (by decide) (by decide) (by decide) ⟨(Nat.le_of_ble_eq_true rfl), (Nat.le_of_ble_eq_true rfl)⟩ d_BR_init_7 (fun a1 H hI => ?_)
  have hI : CI g A s [(a, .inr (7, [.null, .null, .null, .null, .null, .int 0, .null])), aI g a1 63] H locs := hI
  refine q_putF M hI 0 rfl rfl i_BR t_BR t_BR_ok n_BR 3 (by decide) m2_11 rfl hnm rfl rfl rfl (Nat.le_of_ble_eq_true rfl) (w2 := [(a, .inr (7, [.null, .null, .null, .ref a1, .null, .int 0, .null])), aI g a1 63]) rfl d_BR_init_9 (fun H locs hI => ?_)
  refine lv_aload_n hx hb d_BR_init_12 rfl (lv_at hl 0 rfl) ?_
  refine lv_bipush (v := 63) hx hb d_BR_init_13 (by decide) ?_
  refine q_newI M hI 63 (by decide) (by decide) (by decide) ⟨(Nat.le_of_ble_eq_true rfl), (Nat.le_of_ble_eq_true rfl)⟩ d_BR_init_15 (fun a2 H hI => ?_)
  have hI : CI g A s [(a, .inr (7, [.null, .null, .null, .ref a1, .null, .int 0, .null])), aI g a1 63, aI g a2 63] H locs := hI
  refine q_putF M hI 0 rfl rfl i_BR t_BR t_BR_ok n_BR 4 (by decide) m2_12 rfl hnm rfl rfl rfl (Nat.le_of_ble_eq_true rfl) (w2 := [(a, .inr (7, [.null, .null, .null, .ref a1, .ref a2, .int 0, .null])), aI g a1 63, aI g a2 63]) rfl d_BR_init_17 (fun H locs hI => ?_)
  refine lv_aload_n hx hb d_BR_init_20 rfl (lv_at hl 0 rfl) ?_
  refine lv_iconst (v := 0) hx hb d_BR_init_21 (by decide) ?_
  refine q_put M hI 0 rfl rfl i_BR t_BR t_BR_ok n_BR 5 (by decide) m2_13 rfl rfl rfl (Nat.le_of_ble_eq_true rfl) (w2 := [(a, .inr (7, [.null, .null, .null, .ref a1, .ref a2, .int 0, .null])), aI g a1 63, aI g a2 63]) rfl d_BR_init_22 (fun H locs hI => ?_)
  refine lv_aload_n hx hb d_BR_init_25 rfl (lv_at hl 0 rfl) ?_
  refine lv_sipush (v := 2000) hx hb d_BR_init_26 (by decide) ?_
  refine q_newI M hI 2000 (by decide) (by decide) (by decide) ⟨(Nat.le_of_ble_eq_true rfl), (Nat.le_of_ble_eq_true rfl)⟩ d_BR_init_29 (fun a3 H hI => ?_)
  have hI : CI g A s [(a, .inr (7, [.null, .null, .null, .ref a1, .ref a2, .int 0, .null])), aI g a1 63, aI g a2 63, aI g a3 2000] H locs := hI
  refine q_putF M hI 0 rfl rfl i_BR t_BR t_BR_ok n_BR 6 (by decide) m2_14 rfl hnm rfl rfl rfl (Nat.le_of_ble_eq_true rfl) (w2 := [(a, .inr (7, [.null, .null, .null, .ref a1, .ref a2, .int 0, .ref a3])), aI g a1 63, aI g a2 63, aI g a3 2000]) rfl d_BR_init_31 (fun H locs hI => ?_)
  refine lv_aload_n hx hb d_BR_init_34 rfl (lv_at hl 0 rfl) ?_
  refine lv_aload_n hx hb d_BR_init_35 rfl (lv_at hl 1 rfl) ?_
  refine q_putF M hI 0 rfl rfl i_BR t_BR t_BR_ok n_BR 0 (by decide) m2_8 rfl hnm rfl rfl rfl (Nat.le_of_ble_eq_true rfl) (w2 := [(a, .inr (7, [.ref x1, .null, .null, .ref a1, .ref a2, .int 0, .ref a3])), aI g a1 63, aI g a2 63, aI g a3 2000]) rfl d_BR_init_36 (fun H locs hI => ?_)
  refine lv_aload_n hx hb d_BR_init_39 rfl (lv_at hl 0 rfl) ?_
  refine lv_aload_n hx hb d_BR_init_40 rfl (lv_at hl 2 rfl) ?_
  refine q_putF M hI 0 rfl rfl i_BR t_BR t_BR_ok n_BR 1 (by decide) m2_9 rfl hnm rfl rfl rfl (Nat.le_of_ble_eq_true rfl) (w2 := [(a, .inr (7, [.ref x1, .ref x2, .null, .ref a1, .ref a2, .int 0, .ref a3])), aI g a1 63, aI g a2 63, aI g a3 2000]) rfl d_BR_init_41 (fun H locs hI => ?_)
  refine lv_aload_n hx hb d_BR_init_44 rfl (lv_at hl 0 rfl) ?_
  refine lv_aload_n hx hb d_BR_init_45 rfl (lv_at hl 3 rfl) ?_
  refine q_putF M hI 0 rfl rfl i_BR t_BR t_BR_ok n_BR 2 (by decide) m2_10 rfl hnm rfl rfl rfl (Nat.le_of_ble_eq_true rfl) (w2 := [(a, .inr (7, [.ref x1, .ref x2, .ref x3, .ref a1, .ref a2, .int 0, .ref a3])), aI g a1 63, aI g a2 63, aI g a3 2000]) rfl d_BR_init_46 (fun H locs hI => ?_)
  exact hret (fun k => [a1, a2, a3].getD k 0) _ _ _ _ _ _ d_BR_init_49 hI trivial (Nat.le_of_ble_eq_true rfl) (Nat.le_of_ble_eq_true rfl)
abbrev rm_RS_init : Room := { frames := 2, cells := 23, slots := 24541, locals := 43 }
set_option maxHeartbeats 4000000 in
set_option maxRecDepth 100000 in
theorem c_RS_init (l : Launch) (g : Geo) (a : Nat) (x1 : Nat) (x2 : Nat) : cMv l y_RS_init (.code y_RS_init b_RS_init 3 none :: gw) rm_RS_init g [.ref a, .ref x1, .ref x2] [(a, .inr (9, [.null, .null, .null, .null, .int 0, .null, .null, .null, .null, .null, .null, .null]))] (fun (_ : Nat → Nat) => True) (fun (u : Nat → Nat) => [(a, .inr (9, [.ref (u 0), .ref (u 1), .ref (u 2), .ref (u 3), .int 0, .ref x1, .ref (u 4), .ref (u 6), .ref (u 10), .ref (u 15), .ref (u 18), .ref (u 19)])), aI g (u 0) 2000, aI g (u 1) 2000, aI g (u 2) 2000, aI g (u 3) 2000, (u 4, .inr (2, [.ref x1, .ref (u 5)])), aI g (u 5) 2000, (u 6, .inr (3, [.ref x1, .ref (u 4), .ref (u 7), .ref (u 8), .ref (u 9), .int 0, .int 0, .int 0, .int 0])), aI g (u 7) 127, aI g (u 8) 127, aZ g (u 9) 127, (u 10, .inr (4, [.ref x1, .ref (u 11), .int 0, .ref (u 12), .ref (u 13), .ref (u 14), .int 0])), aI g (u 11) 2000, aI g (u 12) 2000, aI g (u 13) 2000, aI g (u 14) 2000, (u 15, .inr (5, [.ref x1, .ref (u 16), .ref (u 17), .int 0, .int 0, .int 0, .int 0])), aI g (u 16) 2000, aI g (u 17) 2000, (u 18, .inr (6, [.ref x1, .ref (u 15)])), (u 19, .inr (7, [.ref x1, .ref (u 15), .ref x2, .ref (u 20), .ref (u 21), .int 0, .ref (u 22)])), aI g (u 20) 63, aI g (u 21) 63, aI g (u 22) 2000]) 23 24541 := by
  refine cMv_of (by decide) (Nat.le_of_ble_eq_true rfl) ?_
  intro p e s m below meth c A Q ls M hnm hret hl hI
  have hnm : meth.name = "<init>" := hnm
  have hl : lv_has ls 3 [(0, .ref a), (1, .ref x1), (2, .ref x2)] := hl
  have M : MC p s m ([.ref a, .ref x1, .ref x2] : List Value).toArray meth c R_RS b_RS_init 3 := M
  generalize ([.ref a, .ref x1, .ref x2] : List Value).toArray = args at M hret ⊢
  have hx := M.1
  have hb := M.2.1
  obtain ⟨H, hH⟩ : ∃ H, H = s.heap := ⟨_, rfl⟩
  rw [← hH] at hI ⊢
  obtain ⟨locs, hlc⟩ : ∃ locs : List Loc, locs = [] := ⟨_, rfl⟩
  rw [← hlc] at hI ⊢
  refine lv_aload_n hx hb d_RS_init_0 rfl (lv_at hl 0 rfl) ?_
  refine q_objI M m1_112 hl.1 ⟨(Nat.le_of_ble_eq_true rfl), (Nat.le_of_ble_eq_true rfl)⟩ (Nat.le_of_ble_eq_true rfl) d_RS_init_1 ?_
  refine lv_aload_n hx hb d_RS_init_4 rfl (lv_at hl 0 rfl) ?_
  refine lv_sipush (v := 2000) hx hb d_RS_init_5 (by decide) ?_
  refine q_newI M hI 2000 (by decide) (by decide) (by decide) ⟨(Nat.le_of_ble_eq_true rfl), (Nat.le_of_ble_eq_true rfl)⟩ d_RS_init_8 (fun a1 H hI => ?_)
  have hI : CI g A s [(a, .inr (9, [.null, .null, .null, .null, .int 0, .null, .null, .null, .null, .null, .null, .null])), aI g a1 2000] H locs := hI
  refine q_putF M hI 0 rfl rfl i_RS t_RS t_RS_ok n_RS 0 (by decide) m2_30 rfl hnm rfl rfl rfl (Nat.le_of_ble_eq_true rfl) (w2 := [(a, .inr (9, [.ref a1, .null, .null, .null, .int 0, .null, .null, .null, .null, .null, .null, .null])), aI g a1 2000]) rfl d_RS_init_10 (fun H locs hI => ?_)
  refine lv_aload_n hx hb d_RS_init_13 rfl (lv_at hl 0 rfl) ?_
  refine lv_sipush (v := 2000) hx hb d_RS_init_14 (by decide) ?_
  refine q_newI M hI 2000 (by decide) (by decide) (by decide) ⟨(Nat.le_of_ble_eq_true rfl), (Nat.le_of_ble_eq_true rfl)⟩ d_RS_init_17 (fun a2 H hI => ?_)
  have hI : CI g A s [(a, .inr (9, [.ref a1, .null, .null, .null, .int 0, .null, .null, .null, .null, .null, .null, .null])), aI g a1 2000, aI g a2 2000] H locs := hI
  refine q_putF M hI 0 rfl rfl i_RS t_RS t_RS_ok n_RS 1 (by decide) m2_32 rfl hnm rfl rfl rfl (Nat.le_of_ble_eq_true rfl) (w2 := [(a, .inr (9, [.ref a1, .ref a2, .null, .null, .int 0, .null, .null, .null, .null, .null, .null, .null])), aI g a1 2000, aI g a2 2000]) rfl d_RS_init_19 (fun H locs hI => ?_)
  refine lv_aload_n hx hb d_RS_init_22 rfl (lv_at hl 0 rfl) ?_
  refine lv_sipush (v := 2000) hx hb d_RS_init_23 (by decide) ?_
  refine q_newI M hI 2000 (by decide) (by decide) (by decide) ⟨(Nat.le_of_ble_eq_true rfl), (Nat.le_of_ble_eq_true rfl)⟩ d_RS_init_26 (fun a3 H hI => ?_)
  have hI : CI g A s [(a, .inr (9, [.ref a1, .ref a2, .null, .null, .int 0, .null, .null, .null, .null, .null, .null, .null])), aI g a1 2000, aI g a2 2000, aI g a3 2000] H locs := hI
  refine q_putF M hI 0 rfl rfl i_RS t_RS t_RS_ok n_RS 2 (by decide) m2_34 rfl hnm rfl rfl rfl (Nat.le_of_ble_eq_true rfl) (w2 := [(a, .inr (9, [.ref a1, .ref a2, .ref a3, .null, .int 0, .null, .null, .null, .null, .null, .null, .null])), aI g a1 2000, aI g a2 2000, aI g a3 2000]) rfl d_RS_init_28 (fun H locs hI => ?_)
  refine lv_aload_n hx hb d_RS_init_31 rfl (lv_at hl 0 rfl) ?_
  refine lv_sipush (v := 2000) hx hb d_RS_init_32 (by decide) ?_
  refine q_newI M hI 2000 (by decide) (by decide) (by decide) ⟨(Nat.le_of_ble_eq_true rfl), (Nat.le_of_ble_eq_true rfl)⟩ d_RS_init_35 (fun a4 H hI => ?_)
  have hI : CI g A s [(a, .inr (9, [.ref a1, .ref a2, .ref a3, .null, .int 0, .null, .null, .null, .null, .null, .null, .null])), aI g a1 2000, aI g a2 2000, aI g a3 2000, aI g a4 2000] H locs := hI
  refine q_putF M hI 0 rfl rfl i_RS t_RS t_RS_ok n_RS 3 (by decide) m2_36 rfl hnm rfl rfl rfl (Nat.le_of_ble_eq_true rfl) (w2 := [(a, .inr (9, [.ref a1, .ref a2, .ref a3, .ref a4, .int 0, .null, .null, .null, .null, .null, .null, .null])), aI g a1 2000, aI g a2 2000, aI g a3 2000, aI g a4 2000]) rfl d_RS_init_37 (fun H locs hI => ?_)
  refine lv_aload_n hx hb d_RS_init_40 rfl (lv_at hl 0 rfl) ?_
  refine lv_iconst (v := 0) hx hb d_RS_init_41 (by decide) ?_
  refine q_put M hI 0 rfl rfl i_RS t_RS t_RS_ok n_RS 4 (by decide) m2_38 rfl rfl rfl (Nat.le_of_ble_eq_true rfl) (w2 := [(a, .inr (9, [.ref a1, .ref a2, .ref a3, .ref a4, .int 0, .null, .null, .null, .null, .null, .null, .null])), aI g a1 2000, aI g a2 2000, aI g a3 2000, aI g a4 2000]) rfl d_RS_init_42 (fun H locs hI => ?_)
  refine lv_aload_n hx hb d_RS_init_45 rfl (lv_at hl 0 rfl) ?_
  refine lv_aload_n hx hb d_RS_init_46 rfl (lv_at hl 1 rfl) ?_
  refine q_putF M hI 0 rfl rfl i_RS t_RS t_RS_ok n_RS 5 (by decide) m2_40 rfl hnm rfl rfl rfl (Nat.le_of_ble_eq_true rfl) (w2 := [(a, .inr (9, [.ref a1, .ref a2, .ref a3, .ref a4, .int 0, .ref x1, .null, .null, .null, .null, .null, .null])), aI g a1 2000, aI g a2 2000, aI g a3 2000, aI g a4 2000]) rfl d_RS_init_47 (fun H locs hI => ?_)
  refine lv_aload_n hx hb d_RS_init_50 rfl (lv_at hl 0 rfl) ?_
  refine q_newO (ci := 2) M hI i_IS t_IS t_IS_ok m1_113 m1_114 m1_5 rfl [.null, .null] (by decide) ⟨(Nat.le_of_ble_eq_true rfl), (Nat.le_of_ble_eq_true rfl)⟩ d_RS_init_51 (fun a5 H hI => ?_)
  have hI : CI g A s [(a, .inr (9, [.ref a1, .ref a2, .ref a3, .ref a4, .int 0, .ref x1, .null, .null, .null, .null, .null, .null])), aI g a1 2000, aI g a2 2000, aI g a3 2000, aI g a4 2000, (a5, .inr (2, [.null, .null]))] H locs := hI
  refine lv_dup hx hb d_RS_init_54 rfl ?_
  refine lv_aload_n hx hb d_RS_init_55 rfl (lv_at hl 1 rfl) ?_
  have hI : CI g A s ([(a5, .inr (2, [.null, .null]))] ++ [(a, .inr (9, [.ref a1, .ref a2, .ref a3, .ref a4, .int 0, .ref x1, .null, .null, .null, .null, .null, .null])), aI g a1 2000, aI g a2 2000, aI g a3 2000, aI g a4 2000]) H locs := CI.swap (w := [(a, .inr (9, [.ref a1, .ref a2, .ref a3, .ref a4, .int 0, .ref x1, .null, .null, .null, .null, .null, .null])), aI g a1 2000, aI g a2 2000, aI g a3 2000, aI g a4 2000]) (x := [(a5, .inr (2, [.null, .null]))]) hI
  refine q_callC [.ref x1] M hI (c_IS_init l g a5 x1) ok_IS_init m1_115 m1_116 rfl rfl rfl hl.1 ⟨rfl, rfl⟩ ⟨(Nat.le_of_ble_eq_true rfl), (Nat.le_of_ble_eq_true rfl)⟩ (Nat.le_of_ble_eq_true rfl) ⟨(Nat.le_of_ble_eq_true rfl), (Nat.le_of_ble_eq_true rfl)⟩ d_RS_init_56 (fun u6 H locs _ hI => ?_)
  have hI : CI g A s ([(a, .inr (9, [.ref a1, .ref a2, .ref a3, .ref a4, .int 0, .ref x1, .null, .null, .null, .null, .null, .null])), aI g a1 2000, aI g a2 2000, aI g a3 2000, aI g a4 2000] ++ [(a5, .inr (2, [.ref x1, .ref (u6 0)])), aI g (u6 0) 2000]) H locs := CI.swap (w := [(a5, .inr (2, [.ref x1, .ref (u6 0)])), aI g (u6 0) 2000]) (x := [(a, .inr (9, [.ref a1, .ref a2, .ref a3, .ref a4, .int 0, .ref x1, .null, .null, .null, .null, .null, .null])), aI g a1 2000, aI g a2 2000, aI g a3 2000, aI g a4 2000]) hI
  have hI : CI g A s [(a, .inr (9, [.ref a1, .ref a2, .ref a3, .ref a4, .int 0, .ref x1, .null, .null, .null, .null, .null, .null])), aI g a1 2000, aI g a2 2000, aI g a3 2000, aI g a4 2000, (a5, .inr (2, [.ref x1, .ref (u6 0)])), aI g (u6 0) 2000] H locs := hI
  generalize u6 0 = a7 at hI
  refine q_putF M hI 0 rfl rfl i_RS t_RS t_RS_ok n_RS 6 (by decide) m2_41 rfl hnm rfl rfl rfl (Nat.le_of_ble_eq_true rfl) (w2 := [(a, .inr (9, [.ref a1, .ref a2, .ref a3, .ref a4, .int 0, .ref x1, .ref a5, .null, .null, .null, .null, .null])), aI g a1 2000, aI g a2 2000, aI g a3 2000, aI g a4 2000, (a5, .inr (2, [.ref x1, .ref a7])), aI g a7 2000]) rfl d_RS_init_59 (fun H locs hI => ?_)
  refine lv_aload_n hx hb d_RS_init_62 rfl (lv_at hl 0 rfl) ?_
  refine q_newO (ci := 3) M hI i_EX t_EX t_EX_ok m1_126 m1_127 m1_6 rfl [.null, .null, .null, .null, .null, .int 0, .int 0, .int 0, .int 0] (by decide) ⟨(Nat.le_of_ble_eq_true rfl), (Nat.le_of_ble_eq_true rfl)⟩ d_RS_init_63 (fun a8 H hI => ?_)
  have hI : CI g A s [(a, .inr (9, [.ref a1, .ref a2, .ref a3, .ref a4, .int 0, .ref x1, .ref a5, .null, .null, .null, .null, .null])), aI g a1 2000, aI g a2 2000, aI g a3 2000, aI g a4 2000, (a5, .inr (2, [.ref x1, .ref a7])), aI g a7 2000, (a8, .inr (3, [.null, .null, .null, .null, .null, .int 0, .int 0, .int 0, .int 0]))] H locs := hI
  refine lv_dup hx hb d_RS_init_66 rfl ?_
  refine lv_aload_n hx hb d_RS_init_67 rfl (lv_at hl 1 rfl) ?_
  refine lv_aload_n hx hb d_RS_init_68 rfl (lv_at hl 0 rfl) ?_
  refine q_get M hI 0 rfl rfl i_RS 6 (by decide) m2_41 rfl d_RS_init_69 ?_
  have hI : CI g A s ([(a8, .inr (3, [.null, .null, .null, .null, .null, .int 0, .int 0, .int 0, .int 0]))] ++ [(a, .inr (9, [.ref a1, .ref a2, .ref a3, .ref a4, .int 0, .ref x1, .ref a5, .null, .null, .null, .null, .null])), aI g a1 2000, aI g a2 2000, aI g a3 2000, aI g a4 2000, (a5, .inr (2, [.ref x1, .ref a7])), aI g a7 2000]) H locs := CI.swap (w := [(a, .inr (9, [.ref a1, .ref a2, .ref a3, .ref a4, .int 0, .ref x1, .ref a5, .null, .null, .null, .null, .null])), aI g a1 2000, aI g a2 2000, aI g a3 2000, aI g a4 2000, (a5, .inr (2, [.ref x1, .ref a7])), aI g a7 2000]) (x := [(a8, .inr (3, [.null, .null, .null, .null, .null, .int 0, .int 0, .int 0, .int 0]))]) hI
  refine q_callC [.ref x1, .ref a5] M hI (c_EX_init l g a8 x1 a5) ok_EX_init m1_128 m1_129 rfl rfl rfl hl.1 ⟨rfl, rfl⟩ ⟨(Nat.le_of_ble_eq_true rfl), (Nat.le_of_ble_eq_true rfl)⟩ (Nat.le_of_ble_eq_true rfl) ⟨(Nat.le_of_ble_eq_true rfl), (Nat.le_of_ble_eq_true rfl)⟩ d_RS_init_72 (fun u9 H locs _ hI => ?_)
  have hI : CI g A s ([(a, .inr (9, [.ref a1, .ref a2, .ref a3, .ref a4, .int 0, .ref x1, .ref a5, .null, .null, .null, .null, .null])), aI g a1 2000, aI g a2 2000, aI g a3 2000, aI g a4 2000, (a5, .inr (2, [.ref x1, .ref a7])), aI g a7 2000] ++ [(a8, .inr (3, [.ref x1, .ref a5, .ref (u9 0), .ref (u9 1), .ref (u9 2), .int 0, .int 0, .int 0, .int 0])), aI g (u9 0) 127, aI g (u9 1) 127, aZ g (u9 2) 127]) H locs := CI.swap (w := [(a8, .inr (3, [.ref x1, .ref a5, .ref (u9 0), .ref (u9 1), .ref (u9 2), .int 0, .int 0, .int 0, .int 0])), aI g (u9 0) 127, aI g (u9 1) 127, aZ g (u9 2) 127]) (x := [(a, .inr (9, [.ref a1, .ref a2, .ref a3, .ref a4, .int 0, .ref x1, .ref a5, .null, .null, .null, .null, .null])), aI g a1 2000, aI g a2 2000, aI g a3 2000, aI g a4 2000, (a5, .inr (2, [.ref x1, .ref a7])), aI g a7 2000]) hI
  have hI : CI g A s [(a, .inr (9, [.ref a1, .ref a2, .ref a3, .ref a4, .int 0, .ref x1, .ref a5, .null, .null, .null, .null, .null])), aI g a1 2000, aI g a2 2000, aI g a3 2000, aI g a4 2000, (a5, .inr (2, [.ref x1, .ref a7])), aI g a7 2000, (a8, .inr (3, [.ref x1, .ref a5, .ref (u9 0), .ref (u9 1), .ref (u9 2), .int 0, .int 0, .int 0, .int 0])), aI g (u9 0) 127, aI g (u9 1) 127, aZ g (u9 2) 127] H locs := hI
  generalize u9 0 = a10 at hI
  generalize u9 1 = a11 at hI
  generalize u9 2 = a12 at hI
  refine q_putF M hI 0 rfl rfl i_RS t_RS t_RS_ok n_RS 7 (by decide) m2_42 rfl hnm rfl rfl rfl (Nat.le_of_ble_eq_true rfl) (w2 := [(a, .inr (9, [.ref a1, .ref a2, .ref a3, .ref a4, .int 0, .ref x1, .ref a5, .ref a8, .null, .null, .null, .null])), aI g a1 2000, aI g a2 2000, aI g a3 2000, aI g a4 2000, (a5, .inr (2, [.ref x1, .ref a7])), aI g a7 2000, (a8, .inr (3, [.ref x1, .ref a5, .ref a10, .ref a11, .ref a12, .int 0, .int 0, .int 0, .int 0])), aI g a10 127, aI g a11 127, aZ g a12 127]) rfl d_RS_init_75 (fun H locs hI => ?_)
  refine lv_aload_n hx hb d_RS_init_78 rfl (lv_at hl 0 rfl) ?_
  refine q_newO (ci := 4) M hI i_RU t_RU t_RU_ok m1_161 m1_162 m1_7 rfl [.null, .null, .int 0, .null, .null, .null, .int 0] (by decide) ⟨(Nat.le_of_ble_eq_true rfl), (Nat.le_of_ble_eq_true rfl)⟩ d_RS_init_79 (fun a13 H hI => ?_)
  have hI : CI g A s [(a, .inr (9, [.ref a1, .ref a2, .ref a3, .ref a4, .int 0, .ref x1, .ref a5, .ref a8, .null, .null, .null, .null])), aI g a1 2000, aI g a2 2000, aI g a3 2000, aI g a4 2000, (a5, .inr (2, [.ref x1, .ref a7])), aI g a7 2000, (a8, .inr (3, [.ref x1, .ref a5, .ref a10, .ref a11, .ref a12, .int 0, .int 0, .int 0, .int 0])), aI g a10 127, aI g a11 127, aZ g a12 127, (a13, .inr (4, [.null, .null, .int 0, .null, .null, .null, .int 0]))] H locs := hI
  refine lv_dup hx hb d_RS_init_82 rfl ?_
  refine lv_aload_n hx hb d_RS_init_83 rfl (lv_at hl 1 rfl) ?_
  have hI : CI g A s ([(a13, .inr (4, [.null, .null, .int 0, .null, .null, .null, .int 0]))] ++ [(a, .inr (9, [.ref a1, .ref a2, .ref a3, .ref a4, .int 0, .ref x1, .ref a5, .ref a8, .null, .null, .null, .null])), aI g a1 2000, aI g a2 2000, aI g a3 2000, aI g a4 2000, (a5, .inr (2, [.ref x1, .ref a7])), aI g a7 2000, (a8, .inr (3, [.ref x1, .ref a5, .ref a10, .ref a11, .ref a12, .int 0, .int 0, .int 0, .int 0])), aI g a10 127, aI g a11 127, aZ g a12 127]) H locs := CI.swap (w := [(a, .inr (9, [.ref a1, .ref a2, .ref a3, .ref a4, .int 0, .ref x1, .ref a5, .ref a8, .null, .null, .null, .null])), aI g a1 2000, aI g a2 2000, aI g a3 2000, aI g a4 2000, (a5, .inr (2, [.ref x1, .ref a7])), aI g a7 2000, (a8, .inr (3, [.ref x1, .ref a5, .ref a10, .ref a11, .ref a12, .int 0, .int 0, .int 0, .int 0])), aI g a10 127, aI g a11 127, aZ g a12 127]) (x := [(a13, .inr (4, [.null, .null, .int 0, .null, .null, .null, .int 0]))]) hI
  refine q_callC [.ref x1] M hI (c_RU_init l g a13 x1) ok_RU_init m1_163 m1_164 rfl rfl rfl hl.1 ⟨rfl, rfl⟩ ⟨(Nat.le_of_ble_eq_true rfl), (Nat.le_of_ble_eq_true rfl)⟩ (Nat.le_of_ble_eq_true rfl) ⟨(Nat.le_of_ble_eq_true rfl), (Nat.le_of_ble_eq_true rfl)⟩ d_RS_init_84 (fun u14 H locs _ hI => ?_)
  have hI : CI g A s ([(a, .inr (9, [.ref a1, .ref a2, .ref a3, .ref a4, .int 0, .ref x1, .ref a5, .ref a8, .null, .null, .null, .null])), aI g a1 2000, aI g a2 2000, aI g a3 2000, aI g a4 2000, (a5, .inr (2, [.ref x1, .ref a7])), aI g a7 2000, (a8, .inr (3, [.ref x1, .ref a5, .ref a10, .ref a11, .ref a12, .int 0, .int 0, .int 0, .int 0])), aI g a10 127, aI g a11 127, aZ g a12 127] ++ [(a13, .inr (4, [.ref x1, .ref (u14 0), .int 0, .ref (u14 1), .ref (u14 2), .ref (u14 3), .int 0])), aI g (u14 0) 2000, aI g (u14 1) 2000, aI g (u14 2) 2000, aI g (u14 3) 2000]) H locs := CI.swap (w := [(a13, .inr (4, [.ref x1, .ref (u14 0), .int 0, .ref (u14 1), .ref (u14 2), .ref (u14 3), .int 0])), aI g (u14 0) 2000, aI g (u14 1) 2000, aI g (u14 2) 2000, aI g (u14 3) 2000]) (x := [(a, .inr (9, [.ref a1, .ref a2, .ref a3, .ref a4, .int 0, .ref x1, .ref a5, .ref a8, .null, .null, .null, .null])), aI g a1 2000, aI g a2 2000, aI g a3 2000, aI g a4 2000, (a5, .inr (2, [.ref x1, .ref a7])), aI g a7 2000, (a8, .inr (3, [.ref x1, .ref a5, .ref a10, .ref a11, .ref a12, .int 0, .int 0, .int 0, .int 0])), aI g a10 127, aI g a11 127, aZ g a12 127]) hI
  have hI : CI g A s [(a, .inr (9, [.ref a1, .ref a2, .ref a3, .ref a4, .int 0, .ref x1, .ref a5, .ref a8, .null, .null, .null, .null])), aI g a1 2000, aI g a2 2000, aI g a3 2000, aI g a4 2000, (a5, .inr (2, [.ref x1, .ref a7])), aI g a7 2000, (a8, .inr (3, [.ref x1, .ref a5, .ref a10, .ref a11, .ref a12, .int 0, .int 0, .int 0, .int 0])), aI g a10 127, aI g a11 127, aZ g a12 127, (a13, .inr (4, [.ref x1, .ref (u14 0), .int 0, .ref (u14 1), .ref (u14 2), .ref (u14 3), .int 0])), aI g (u14 0) 2000, aI g (u14 1) 2000, aI g (u14 2) 2000, aI g (u14 3) 2000] H locs := hI
  generalize u14 0 = a15 at hI
  generalize u14 1 = a16 at hI
  generalize u14 2 = a17 at hI
  generalize u14 3 = a18 at hI
  refine q_putF M hI 0 rfl rfl i_RS t_RS t_RS_ok n_RS 8 (by decide) m2_43 rfl hnm rfl rfl rfl (Nat.le_of_ble_eq_true rfl) (w2 := [(a, .inr (9, [.ref a1, .ref a2, .ref a3, .ref a4, .int 0, .ref x1, .ref a5, .ref a8, .ref a13, .null, .null, .null])), aI g a1 2000, aI g a2 2000, aI g a3 2000, aI g a4 2000, (a5, .inr (2, [.ref x1, .ref a7])), aI g a7 2000, (a8, .inr (3, [.ref x1, .ref a5, .ref a10, .ref a11, .ref a12, .int 0, .int 0, .int 0, .int 0])), aI g a10 127, aI g a11 127, aZ g a12 127, (a13, .inr (4, [.ref x1, .ref a15, .int 0, .ref a16, .ref a17, .ref a18, .int 0])), aI g a15 2000, aI g a16 2000, aI g a17 2000, aI g a18 2000]) rfl d_RS_init_87 (fun H locs hI => ?_)
  refine lv_aload_n hx hb d_RS_init_90 rfl (lv_at hl 0 rfl) ?_
  refine q_newO (ci := 5) M hI i_SQ t_SQ t_SQ_ok m1_190 m1_191 m1_8 rfl [.null, .null, .null, .int 0, .int 0, .int 0, .int 0] (by decide) ⟨(Nat.le_of_ble_eq_true rfl), (Nat.le_of_ble_eq_true rfl)⟩ d_RS_init_91 (fun a19 H hI => ?_)
  have hI : CI g A s [(a, .inr (9, [.ref a1, .ref a2, .ref a3, .ref a4, .int 0, .ref x1, .ref a5, .ref a8, .ref a13, .null, .null, .null])), aI g a1 2000, aI g a2 2000, aI g a3 2000, aI g a4 2000, (a5, .inr (2, [.ref x1, .ref a7])), aI g a7 2000, (a8, .inr (3, [.ref x1, .ref a5, .ref a10, .ref a11, .ref a12, .int 0, .int 0, .int 0, .int 0])), aI g a10 127, aI g a11 127, aZ g a12 127, (a13, .inr (4, [.ref x1, .ref a15, .int 0, .ref a16, .ref a17, .ref a18, .int 0])), aI g a15 2000, aI g a16 2000, aI g a17 2000, aI g a18 2000, (a19, .inr (5, [.null, .null, .null, .int 0, .int 0, .int 0, .int 0]))] H locs := hI
  refine lv_dup hx hb d_RS_init_94 rfl ?_
  refine lv_aload_n hx hb d_RS_init_95 rfl (lv_at hl 1 rfl) ?_
  have hI : CI g A s ([(a19, .inr (5, [.null, .null, .null, .int 0, .int 0, .int 0, .int 0]))] ++ [(a, .inr (9, [.ref a1, .ref a2, .ref a3, .ref a4, .int 0, .ref x1, .ref a5, .ref a8, .ref a13, .null, .null, .null])), aI g a1 2000, aI g a2 2000, aI g a3 2000, aI g a4 2000, (a5, .inr (2, [.ref x1, .ref a7])), aI g a7 2000, (a8, .inr (3, [.ref x1, .ref a5, .ref a10, .ref a11, .ref a12, .int 0, .int 0, .int 0, .int 0])), aI g a10 127, aI g a11 127, aZ g a12 127, (a13, .inr (4, [.ref x1, .ref a15, .int 0, .ref a16, .ref a17, .ref a18, .int 0])), aI g a15 2000, aI g a16 2000, aI g a17 2000, aI g a18 2000]) H locs := CI.swap (w := [(a, .inr (9, [.ref a1, .ref a2, .ref a3, .ref a4, .int 0, .ref x1, .ref a5, .ref a8, .ref a13, .null, .null, .null])), aI g a1 2000, aI g a2 2000, aI g a3 2000, aI g a4 2000, (a5, .inr (2, [.ref x1, .ref a7])), aI g a7 2000, (a8, .inr (3, [.ref x1, .ref a5, .ref a10, .ref a11, .ref a12, .int 0, .int 0, .int 0, .int 0])), aI g a10 127, aI g a11 127, aZ g a12 127, (a13, .inr (4, [.ref x1, .ref a15, .int 0, .ref a16, .ref a17, .ref a18, .int 0])), aI g a15 2000, aI g a16 2000, aI g a17 2000, aI g a18 2000]) (x := [(a19, .inr (5, [.null, .null, .null, .int 0, .int 0, .int 0, .int 0]))]) hI
  refine q_callC [.ref x1] M hI (c_SQ_init l g a19 x1) ok_SQ_init m1_192 m1_193 rfl rfl rfl hl.1 ⟨rfl, rfl⟩ ⟨(Nat.le_of_ble_eq_true rfl), (Nat.le_of_ble_eq_true rfl)⟩ (Nat.le_of_ble_eq_true rfl) ⟨(Nat.le_of_ble_eq_true rfl), (Nat.le_of_ble_eq_true rfl)⟩ d_RS_init_96 (fun u20 H locs _ hI => ?_)
  have hI : CI g A s ([(a, .inr (9, [.ref a1, .ref a2, .ref a3, .ref a4, .int 0, .ref x1, .ref a5, .ref a8, .ref a13, .null, .null, .null])), aI g a1 2000, aI g a2 2000, aI g a3 2000, aI g a4 2000, (a5, .inr (2, [.ref x1, .ref a7])), aI g a7 2000, (a8, .inr (3, [.ref x1, .ref a5, .ref a10, .ref a11, .ref a12, .int 0, .int 0, .int 0, .int 0])), aI g a10 127, aI g a11 127, aZ g a12 127, (a13, .inr (4, [.ref x1, .ref a15, .int 0, .ref a16, .ref a17, .ref a18, .int 0])), aI g a15 2000, aI g a16 2000, aI g a17 2000, aI g a18 2000] ++ [(a19, .inr (5, [.ref x1, .ref (u20 0), .ref (u20 1), .int 0, .int 0, .int 0, .int 0])), aI g (u20 0) 2000, aI g (u20 1) 2000]) H locs := CI.swap (w := [(a19, .inr (5, [.ref x1, .ref (u20 0), .ref (u20 1), .int 0, .int 0, .int 0, .int 0])), aI g (u20 0) 2000, aI g (u20 1) 2000]) (x := [(a, .inr (9, [.ref a1, .ref a2, .ref a3, .ref a4, .int 0, .ref x1, .ref a5, .ref a8, .ref a13, .null, .null, .null])), aI g a1 2000, aI g a2 2000, aI g a3 2000, aI g a4 2000, (a5, .inr (2, [.ref x1, .ref a7])), aI g a7 2000, (a8, .inr (3, [.ref x1, .ref a5, .ref a10, .ref a11, .ref a12, .int 0, .int 0, .int 0, .int 0])), aI g a10 127, aI g a11 127, aZ g a12 127, (a13, .inr (4, [.ref x1, .ref a15, .int 0, .ref a16, .ref a17, .ref a18, .int 0])), aI g a15 2000, aI g a16 2000, aI g a17 2000, aI g a18 2000]) hI
  have hI : CI g A s [(a, .inr (9, [.ref a1, .ref a2, .ref a3, .ref a4, .int 0, .ref x1, .ref a5, .ref a8, .ref a13, .null, .null, .null])), aI g a1 2000, aI g a2 2000, aI g a3 2000, aI g a4 2000, (a5, .inr (2, [.ref x1, .ref a7])), aI g a7 2000, (a8, .inr (3, [.ref x1, .ref a5, .ref a10, .ref a11, .ref a12, .int 0, .int 0, .int 0, .int 0])), aI g a10 127, aI g a11 127, aZ g a12 127, (a13, .inr (4, [.ref x1, .ref a15, .int 0, .ref a16, .ref a17, .ref a18, .int 0])), aI g a15 2000, aI g a16 2000, aI g a17 2000, aI g a18 2000, (a19, .inr (5, [.ref x1, .ref (u20 0), .ref (u20 1), .int 0, .int 0, .int 0, .int 0])), aI g (u20 0) 2000, aI g (u20 1) 2000] H locs := hI
  generalize u20 0 = a21 at hI
  generalize u20 1 = a22 at hI
  refine q_putF M hI 0 rfl rfl i_RS t_RS t_RS_ok n_RS 9 (by decide) m2_44 rfl hnm rfl rfl rfl (Nat.le_of_ble_eq_true rfl) (w2 := [(a, .inr (9, [.ref a1, .ref a2, .ref a3, .ref a4, .int 0, .ref x1, .ref a5, .ref a8, .ref a13, .ref a19, .null, .null])), aI g a1 2000, aI g a2 2000, aI g a3 2000, aI g a4 2000, (a5, .inr (2, [.ref x1, .ref a7])), aI g a7 2000, (a8, .inr (3, [.ref x1, .ref a5, .ref a10, .ref a11, .ref a12, .int 0, .int 0, .int 0, .int 0])), aI g a10 127, aI g a11 127, aZ g a12 127, (a13, .inr (4, [.ref x1, .ref a15, .int 0, .ref a16, .ref a17, .ref a18, .int 0])), aI g a15 2000, aI g a16 2000, aI g a17 2000, aI g a18 2000, (a19, .inr (5, [.ref x1, .ref a21, .ref a22, .int 0, .int 0, .int 0, .int 0])), aI g a21 2000, aI g a22 2000]) rfl d_RS_init_99 (fun H locs hI => ?_)
  refine lv_aload_n hx hb d_RS_init_102 rfl (lv_at hl 0 rfl) ?_
  refine q_newO (ci := 6) M hI i_WK t_WK t_WK_ok m1_229 m1_230 m1_9 rfl [.null, .null] (by decide) ⟨(Nat.le_of_ble_eq_true rfl), (Nat.le_of_ble_eq_true rfl)⟩ d_RS_init_103 (fun a23 H hI => ?_)
  have hI : CI g A s [(a, .inr (9, [.ref a1, .ref a2, .ref a3, .ref a4, .int 0, .ref x1, .ref a5, .ref a8, .ref a13, .ref a19, .null, .null])), aI g a1 2000, aI g a2 2000, aI g a3 2000, aI g a4 2000, (a5, .inr (2, [.ref x1, .ref a7])), aI g a7 2000, (a8, .inr (3, [.ref x1, .ref a5, .ref a10, .ref a11, .ref a12, .int 0, .int 0, .int 0, .int 0])), aI g a10 127, aI g a11 127, aZ g a12 127, (a13, .inr (4, [.ref x1, .ref a15, .int 0, .ref a16, .ref a17, .ref a18, .int 0])), aI g a15 2000, aI g a16 2000, aI g a17 2000, aI g a18 2000, (a19, .inr (5, [.ref x1, .ref a21, .ref a22, .int 0, .int 0, .int 0, .int 0])), aI g a21 2000, aI g a22 2000, (a23, .inr (6, [.null, .null]))] H locs := hI
  refine lv_dup hx hb d_RS_init_106 rfl ?_
  refine lv_aload_n hx hb d_RS_init_107 rfl (lv_at hl 1 rfl) ?_
  refine lv_aload_n hx hb d_RS_init_108 rfl (lv_at hl 0 rfl) ?_
  refine q_get M hI 0 rfl rfl i_RS 9 (by decide) m2_44 rfl d_RS_init_109 ?_
  have hI : CI g A s ([(a23, .inr (6, [.null, .null]))] ++ [(a, .inr (9, [.ref a1, .ref a2, .ref a3, .ref a4, .int 0, .ref x1, .ref a5, .ref a8, .ref a13, .ref a19, .null, .null])), aI g a1 2000, aI g a2 2000, aI g a3 2000, aI g a4 2000, (a5, .inr (2, [.ref x1, .ref a7])), aI g a7 2000, (a8, .inr (3, [.ref x1, .ref a5, .ref a10, .ref a11, .ref a12, .int 0, .int 0, .int 0, .int 0])), aI g a10 127, aI g a11 127, aZ g a12 127, (a13, .inr (4, [.ref x1, .ref a15, .int 0, .ref a16, .ref a17, .ref a18, .int 0])), aI g a15 2000, aI g a16 2000, aI g a17 2000, aI g a18 2000, (a19, .inr (5, [.ref x1, .ref a21, .ref a22, .int 0, .int 0, .int 0, .int 0])), aI g a21 2000, aI g a22 2000]) H locs := CI.swap (w := [(a, .inr (9, [.ref a1, .ref a2, .ref a3, .ref a4, .int 0, .ref x1, .ref a5, .ref a8, .ref a13, .ref a19, .null, .null])), aI g a1 2000, aI g a2 2000, aI g a3 2000, aI g a4 2000, (a5, .inr (2, [.ref x1, .ref a7])), aI g a7 2000, (a8, .inr (3, [.ref x1, .ref a5, .ref a10, .ref a11, .ref a12, .int 0, .int 0, .int 0, .int 0])), aI g a10 127, aI g a11 127, aZ g a12 127, (a13, .inr (4, [.ref x1, .ref a15, .int 0, .ref a16, .ref a17, .ref a18, .int 0])), aI g a15 2000, aI g a16 2000, aI g a17 2000, aI g a18 2000, (a19, .inr (5, [.ref x1, .ref a21, .ref a22, .int 0, .int 0, .int 0, .int 0])), aI g a21 2000, aI g a22 2000]) (x := [(a23, .inr (6, [.null, .null]))]) hI
  refine q_callC [.ref x1, .ref a19] M hI (c_WK_init l g a23 x1 a19) ok_WK_init m1_231 m1_232 rfl rfl rfl hl.1 ⟨rfl, rfl⟩ ⟨(Nat.le_of_ble_eq_true rfl), (Nat.le_of_ble_eq_true rfl)⟩ (Nat.le_of_ble_eq_true rfl) ⟨(Nat.le_of_ble_eq_true rfl), (Nat.le_of_ble_eq_true rfl)⟩ d_RS_init_112 (fun u24 H locs _ hI => ?_)
  have hI : CI g A s ([(a, .inr (9, [.ref a1, .ref a2, .ref a3, .ref a4, .int 0, .ref x1, .ref a5, .ref a8, .ref a13, .ref a19, .null, .null])), aI g a1 2000, aI g a2 2000, aI g a3 2000, aI g a4 2000, (a5, .inr (2, [.ref x1, .ref a7])), aI g a7 2000, (a8, .inr (3, [.ref x1, .ref a5, .ref a10, .ref a11, .ref a12, .int 0, .int 0, .int 0, .int 0])), aI g a10 127, aI g a11 127, aZ g a12 127, (a13, .inr (4, [.ref x1, .ref a15, .int 0, .ref a16, .ref a17, .ref a18, .int 0])), aI g a15 2000, aI g a16 2000, aI g a17 2000, aI g a18 2000, (a19, .inr (5, [.ref x1, .ref a21, .ref a22, .int 0, .int 0, .int 0, .int 0])), aI g a21 2000, aI g a22 2000] ++ [(a23, .inr (6, [.ref x1, .ref a19]))]) H locs := CI.swap (w := [(a23, .inr (6, [.ref x1, .ref a19]))]) (x := [(a, .inr (9, [.ref a1, .ref a2, .ref a3, .ref a4, .int 0, .ref x1, .ref a5, .ref a8, .ref a13, .ref a19, .null, .null])), aI g a1 2000, aI g a2 2000, aI g a3 2000, aI g a4 2000, (a5, .inr (2, [.ref x1, .ref a7])), aI g a7 2000, (a8, .inr (3, [.ref x1, .ref a5, .ref a10, .ref a11, .ref a12, .int 0, .int 0, .int 0, .int 0])), aI g a10 127, aI g a11 127, aZ g a12 127, (a13, .inr (4, [.ref x1, .ref a15, .int 0, .ref a16, .ref a17, .ref a18, .int 0])), aI g a15 2000, aI g a16 2000, aI g a17 2000, aI g a18 2000, (a19, .inr (5, [.ref x1, .ref a21, .ref a22, .int 0, .int 0, .int 0, .int 0])), aI g a21 2000, aI g a22 2000]) hI
  have hI : CI g A s [(a, .inr (9, [.ref a1, .ref a2, .ref a3, .ref a4, .int 0, .ref x1, .ref a5, .ref a8, .ref a13, .ref a19, .null, .null])), aI g a1 2000, aI g a2 2000, aI g a3 2000, aI g a4 2000, (a5, .inr (2, [.ref x1, .ref a7])), aI g a7 2000, (a8, .inr (3, [.ref x1, .ref a5, .ref a10, .ref a11, .ref a12, .int 0, .int 0, .int 0, .int 0])), aI g a10 127, aI g a11 127, aZ g a12 127, (a13, .inr (4, [.ref x1, .ref a15, .int 0, .ref a16, .ref a17, .ref a18, .int 0])), aI g a15 2000, aI g a16 2000, aI g a17 2000, aI g a18 2000, (a19, .inr (5, [.ref x1, .ref a21, .ref a22, .int 0, .int 0, .int 0, .int 0])), aI g a21 2000, aI g a22 2000, (a23, .inr (6, [.ref x1, .ref a19]))] H locs := hI
  refine q_putF M hI 0 rfl rfl i_RS t_RS t_RS_ok n_RS 10 (by decide) m2_45 rfl hnm rfl rfl rfl (Nat.le_of_ble_eq_true rfl) (w2 := [(a, .inr (9, [.ref a1, .ref a2, .ref a3, .ref a4, .int 0, .ref x1, .ref a5, .ref a8, .ref a13, .ref a19, .ref a23, .null])), aI g a1 2000, aI g a2 2000, aI g a3 2000, aI g a4 2000, (a5, .inr (2, [.ref x1, .ref a7])), aI g a7 2000, (a8, .inr (3, [.ref x1, .ref a5, .ref a10, .ref a11, .ref a12, .int 0, .int 0, .int 0, .int 0])), aI g a10 127, aI g a11 127, aZ g a12 127, (a13, .inr (4, [.ref x1, .ref a15, .int 0, .ref a16, .ref a17, .ref a18, .int 0])), aI g a15 2000, aI g a16 2000, aI g a17 2000, aI g a18 2000, (a19, .inr (5, [.ref x1, .ref a21, .ref a22, .int 0, .int 0, .int 0, .int 0])), aI g a21 2000, aI g a22 2000, (a23, .inr (6, [.ref x1, .ref a19]))]) rfl d_RS_init_115 (fun H locs hI => ?_)
  refine lv_aload_n hx hb d_RS_init_118 rfl (lv_at hl 0 rfl) ?_
  refine q_newO (ci := 7) M hI i_BR t_BR t_BR_ok m2_2 m2_3 m1_10 rfl [.null, .null, .null, .null, .null, .int 0, .null] (by decide) ⟨(Nat.le_of_ble_eq_true rfl), (Nat.le_of_ble_eq_true rfl)⟩ d_RS_init_119 (fun a25 H hI => ?_)
  have hI : CI g A s [(a, .inr (9, [.ref a1, .ref a2, .ref a3, .ref a4, .int 0, .ref x1, .ref a5, .ref a8, .ref a13, .ref a19, .ref a23, .null])), aI g a1 2000, aI g a2 2000, aI g a3 2000, aI g a4 2000, (a5, .inr (2, [.ref x1, .ref a7])), aI g a7 2000, (a8, .inr (3, [.ref x1, .ref a5, .ref a10, .ref a11, .ref a12, .int 0, .int 0, .int 0, .int 0])), aI g a10 127, aI g a11 127, aZ g a12 127, (a13, .inr (4, [.ref x1, .ref a15, .int 0, .ref a16, .ref a17, .ref a18, .int 0])), aI g a15 2000, aI g a16 2000, aI g a17 2000, aI g a18 2000, (a19, .inr (5, [.ref x1, .ref a21, .ref a22, .int 0, .int 0, .int 0, .int 0])), aI g a21 2000, aI g a22 2000, (a23, .inr (6, [.ref x1, .ref a19])), (a25, .inr (7, [.null, .null, .null, .null, .null, .int 0, .null]))] H locs := hI
  refine lv_dup hx hb d_RS_init_122 rfl ?_
  refine lv_aload_n hx hb d_RS_init_123 rfl (lv_at hl 1 rfl) ?_
  refine lv_aload_n hx hb d_RS_init_124 rfl (lv_at hl 0 rfl) ?_
  refine q_get M hI 0 rfl rfl i_RS 9 (by decide) m2_44 rfl d_RS_init_125 ?_
  refine lv_aload_n hx hb d_RS_init_128 rfl (lv_at hl 2 rfl) ?_
  have hI : CI g A s ([(a25, .inr (7, [.null, .null, .null, .null, .null, .int 0, .null]))] ++ [(a, .inr (9, [.ref a1, .ref a2, .ref a3, .ref a4, .int 0, .ref x1, .ref a5, .ref a8, .ref a13, .ref a19, .ref a23, .null])), aI g a1 2000, aI g a2 2000, aI g a3 2000, aI g a4 2000, (a5, .inr (2, [.ref x1, .ref a7])), aI g a7 2000, (a8, .inr (3, [.ref x1, .ref a5, .ref a10, .ref a11, .ref a12, .int 0, .int 0, .int 0, .int 0])), aI g a10 127, aI g a11 127, aZ g a12 127, (a13, .inr (4, [.ref x1, .ref a15, .int 0, .ref a16, .ref a17, .ref a18, .int 0])), aI g a15 2000, aI g a16 2000, aI g a17 2000, aI g a18 2000, (a19, .inr (5, [.ref x1, .ref a21, .ref a22, .int 0, .int 0, .int 0, .int 0])), aI g a21 2000, aI g a22 2000, (a23, .inr (6, [.ref x1, .ref a19]))]) H locs := CI.swap (w := [(a, .inr (9, [.ref a1, .ref a2, .ref a3, .ref a4, .int 0, .ref x1, .ref a5, .ref a8, .ref a13, .ref a19, .ref a23, .null])), aI g a1 2000, aI g a2 2000, aI g a3 2000, aI g a4 2000, (a5, .inr (2, [.ref x1, .ref a7])), aI g a7 2000, (a8, .inr (3, [.ref x1, .ref a5, .ref a10, .ref a11, .ref a12, .int 0, .int 0, .int 0, .int 0])), aI g a10 127, aI g a11 127, aZ g a12 127, (a13, .inr (4, [.ref x1, .ref a15, .int 0, .ref a16, .ref a17, .ref a18, .int 0])), aI g a15 2000, aI g a16 2000, aI g a17 2000, aI g a18 2000, (a19, .inr (5, [.ref x1, .ref a21, .ref a22, .int 0, .int 0, .int 0, .int 0])), aI g a21 2000, aI g a22 2000, (a23, .inr (6, [.ref x1, .ref a19]))]) (x := [(a25, .inr (7, [.null, .null, .null, .null, .null, .int 0, .null]))]) hI
  refine q_callC [.ref x1, .ref a19, .ref x2] M hI (c_BR_init l g a25 x1 a19 x2) ok_BR_init m2_4 m2_5 rfl rfl rfl hl.1 ⟨rfl, rfl⟩ ⟨(Nat.le_of_ble_eq_true rfl), (Nat.le_of_ble_eq_true rfl)⟩ (Nat.le_of_ble_eq_true rfl) ⟨(Nat.le_of_ble_eq_true rfl), (Nat.le_of_ble_eq_true rfl)⟩ d_RS_init_129 (fun u26 H locs _ hI => ?_)
  have hI : CI g A s ([(a, .inr (9, [.ref a1, .ref a2, .ref a3, .ref a4, .int 0, .ref x1, .ref a5, .ref a8, .ref a13, .ref a19, .ref a23, .null])), aI g a1 2000, aI g a2 2000, aI g a3 2000, aI g a4 2000, (a5, .inr (2, [.ref x1, .ref a7])), aI g a7 2000, (a8, .inr (3, [.ref x1, .ref a5, .ref a10, .ref a11, .ref a12, .int 0, .int 0, .int 0, .int 0])), aI g a10 127, aI g a11 127, aZ g a12 127, (a13, .inr (4, [.ref x1, .ref a15, .int 0, .ref a16, .ref a17, .ref a18, .int 0])), aI g a15 2000, aI g a16 2000, aI g a17 2000, aI g a18 2000, (a19, .inr (5, [.ref x1, .ref a21, .ref a22, .int 0, .int 0, .int 0, .int 0])), aI g a21 2000, aI g a22 2000, (a23, .inr (6, [.ref x1, .ref a19]))] ++ [(a25, .inr (7, [.ref x1, .ref a19, .ref x2, .ref (u26 0), .ref (u26 1), .int 0, .ref (u26 2)])), aI g (u26 0) 63, aI g (u26 1) 63, aI g (u26 2) 2000]) H locs := CI.swap (w := [(a25, .inr (7, [.ref x1, .ref a19, .ref x2, .ref (u26 0), .ref (u26 1), .int 0, .ref (u26 2)])), aI g (u26 0) 63, aI g (u26 1) 63, aI g (u26 2) 2000]) (x := [(a, .inr (9, [.ref a1, .ref a2, .ref a3, .ref a4, .int 0, .ref x1, .ref a5, .ref a8, .ref a13, .ref a19, .ref a23, .null])), aI g a1 2000, aI g a2 2000, aI g a3 2000, aI g a4 2000, (a5, .inr (2, [.ref x1, .ref a7])), aI g a7 2000, (a8, .inr (3, [.ref x1, .ref a5, .ref a10, .ref a11, .ref a12, .int 0, .int 0, .int 0, .int 0])), aI g a10 127, aI g a11 127, aZ g a12 127, (a13, .inr (4, [.ref x1, .ref a15, .int 0, .ref a16, .ref a17, .ref a18, .int 0])), aI g a15 2000, aI g a16 2000, aI g a17 2000, aI g a18 2000, (a19, .inr (5, [.ref x1, .ref a21, .ref a22, .int 0, .int 0, .int 0, .int 0])), aI g a21 2000, aI g a22 2000, (a23, .inr (6, [.ref x1, .ref a19]))]) hI
  have hI : CI g A s [(a, .inr (9, [.ref a1, .ref a2, .ref a3, .ref a4, .int 0, .ref x1, .ref a5, .ref a8, .ref a13, .ref a19, .ref a23, .null])), aI g a1 2000, aI g a2 2000, aI g a3 2000, aI g a4 2000, (a5, .inr (2, [.ref x1, .ref a7])), aI g a7 2000, (a8, .inr (3, [.ref x1, .ref a5, .ref a10, .ref a11, .ref a12, .int 0, .int 0, .int 0, .int 0])), aI g a10 127, aI g a11 127, aZ g a12 127, (a13, .inr (4, [.ref x1, .ref a15, .int 0, .ref a16, .ref a17, .ref a18, .int 0])), aI g a15 2000, aI g a16 2000, aI g a17 2000, aI g a18 2000, (a19, .inr (5, [.ref x1, .ref a21, .ref a22, .int 0, .int 0, .int 0, .int 0])), aI g a21 2000, aI g a22 2000, (a23, .inr (6, [.ref x1, .ref a19])), (a25, .inr (7, [.ref x1, .ref a19, .ref x2, .ref (u26 0), .ref (u26 1), .int 0, .ref (u26 2)])), aI g (u26 0) 63, aI g (u26 1) 63, aI g (u26 2) 2000] H locs := hI
  generalize u26 0 = a27 at hI
  generalize u26 1 = a28 at hI
  generalize u26 2 = a29 at hI
  refine q_putF M hI 0 rfl rfl i_RS t_RS t_RS_ok n_RS 11 (by decide) m2_46 rfl hnm rfl rfl rfl (Nat.le_of_ble_eq_true rfl) (w2 := [(a, .inr (9, [.ref a1, .ref a2, .ref a3, .ref a4, .int 0, .ref x1, .ref a5, .ref a8, .ref a13, .ref a19, .ref a23, .ref a25])), aI g a1 2000, aI g a2 2000, aI g a3 2000, aI g a4 2000, (a5, .inr (2, [.ref x1, .ref a7])), aI g a7 2000, (a8, .inr (3, [.ref x1, .ref a5, .ref a10, .ref a11, .ref a12, .int 0, .int 0, .int 0, .int 0])), aI g a10 127, aI g a11 127, aZ g a12 127, (a13, .inr (4, [.ref x1, .ref a15, .int 0, .ref a16, .ref a17, .ref a18, .int 0])), aI g a15 2000, aI g a16 2000, aI g a17 2000, aI g a18 2000, (a19, .inr (5, [.ref x1, .ref a21, .ref a22, .int 0, .int 0, .int 0, .int 0])), aI g a21 2000, aI g a22 2000, (a23, .inr (6, [.ref x1, .ref a19])), (a25, .inr (7, [.ref x1, .ref a19, .ref x2, .ref a27, .ref a28, .int 0, .ref a29])), aI g a27 63, aI g a28 63, aI g a29 2000]) rfl d_RS_init_132 (fun H locs hI => ?_)
  exact hret (fun k => [a1, a2, a3, a4, a5, a7, a8, a10, a11, a12, a13, a15, a16, a17, a18, a19, a21, a22, a23, a25, a27, a28, a29].getD k 0) _ _ _ _ _ _ d_RS_init_135 hI trivial (Nat.le_of_ble_eq_true rfl) (Nat.le_of_ble_eq_true rfl)
abbrev rm_LN_init : Room := { frames := 1, cells := 3, slots := 6000, locals := 20 }
set_option maxHeartbeats 4000000 in
set_option maxRecDepth 100000 in
theorem c_LN_init (l : Launch) (g : Geo) (a : Nat) (x1 : Nat) : cMv l y_LN_init (.code y_LN_init b_LN_init 2 none :: gw) rm_LN_init g [.ref a, .ref x1] [(a, .inr (8, [.null, .null, .null, .null, .int 0]))] (fun (_ : Nat → Nat) => True) (fun (u : Nat → Nat) => [(a, .inr (8, [.ref x1, .ref (u 0), .ref (u 1), .ref (u 2), .int 0])), aI g (u 0) 2000, aI g (u 1) 2000, aI g (u 2) 2000]) 3 6000 := by
  refine cMv_of (by decide) (Nat.le_of_ble_eq_true rfl) ?_
  intro p e s m below meth c A Q ls M hnm hret hl hI
  have hnm : meth.name = "<init>" := hnm
  have hl : lv_has ls 2 [(0, .ref a), (1, .ref x1)] := hl
  have M : MC p s m ([.ref a, .ref x1] : List Value).toArray meth c R_LN b_LN_init 2 := M
  generalize ([.ref a, .ref x1] : List Value).toArray = args at M hret ⊢
  have hx := M.1
  have hb := M.2.1
  obtain ⟨H, hH⟩ : ∃ H, H = s.heap := ⟨_, rfl⟩
  rw [← hH] at hI ⊢
  obtain ⟨locs, hlc⟩ : ∃ locs : List Loc, locs = [] := ⟨_, rfl⟩
  rw [← hlc] at hI ⊢
  refine lv_aload_n hx hb d_LN_init_0 rfl (lv_at hl 0 rfl) ?_
  refine q_objI M m2_77 hl.1 ⟨(Nat.le_of_ble_eq_true rfl), (Nat.le_of_ble_eq_true rfl)⟩ (Nat.le_of_ble_eq_true rfl) d_LN_init_1 ?_
  refine lv_aload_n hx hb d_LN_init_4 rfl (lv_at hl 0 rfl) ?_
  refine lv_sipush (v := 2000) hx hb d_LN_init_5 (by decide) ?_
  refine q_newI M hI 2000 (by decide) (by decide) (by decide) ⟨(Nat.le_of_ble_eq_true rfl), (Nat.le_of_ble_eq_true rfl)⟩ d_LN_init_8 (fun a1 H hI => ?_)
  have hI : CI g A s [(a, .inr (8, [.null, .null, .null, .null, .int 0])), aI g a1 2000] H locs := hI
  refine q_putF M hI 0 rfl rfl i_LN t_LN t_LN_ok n_LN 1 (by decide) m2_79 rfl hnm rfl rfl rfl (Nat.le_of_ble_eq_true rfl) (w2 := [(a, .inr (8, [.null, .ref a1, .null, .null, .int 0])), aI g a1 2000]) rfl d_LN_init_10 (fun H locs hI => ?_)
  refine lv_aload_n hx hb d_LN_init_13 rfl (lv_at hl 0 rfl) ?_
  refine lv_sipush (v := 2000) hx hb d_LN_init_14 (by decide) ?_
  refine q_newI M hI 2000 (by decide) (by decide) (by decide) ⟨(Nat.le_of_ble_eq_true rfl), (Nat.le_of_ble_eq_true rfl)⟩ d_LN_init_17 (fun a2 H hI => ?_)
  have hI : CI g A s [(a, .inr (8, [.null, .ref a1, .null, .null, .int 0])), aI g a1 2000, aI g a2 2000] H locs := hI
  refine q_putF M hI 0 rfl rfl i_LN t_LN t_LN_ok n_LN 2 (by decide) m2_81 rfl hnm rfl rfl rfl (Nat.le_of_ble_eq_true rfl) (w2 := [(a, .inr (8, [.null, .ref a1, .ref a2, .null, .int 0])), aI g a1 2000, aI g a2 2000]) rfl d_LN_init_19 (fun H locs hI => ?_)
  refine lv_aload_n hx hb d_LN_init_22 rfl (lv_at hl 0 rfl) ?_
  refine lv_sipush (v := 2000) hx hb d_LN_init_23 (by decide) ?_
  refine q_newI M hI 2000 (by decide) (by decide) (by decide) ⟨(Nat.le_of_ble_eq_true rfl), (Nat.le_of_ble_eq_true rfl)⟩ d_LN_init_26 (fun a3 H hI => ?_)
  have hI : CI g A s [(a, .inr (8, [.null, .ref a1, .ref a2, .null, .int 0])), aI g a1 2000, aI g a2 2000, aI g a3 2000] H locs := hI
  refine q_putF M hI 0 rfl rfl i_LN t_LN t_LN_ok n_LN 3 (by decide) m2_83 rfl hnm rfl rfl rfl (Nat.le_of_ble_eq_true rfl) (w2 := [(a, .inr (8, [.null, .ref a1, .ref a2, .ref a3, .int 0])), aI g a1 2000, aI g a2 2000, aI g a3 2000]) rfl d_LN_init_28 (fun H locs hI => ?_)
  refine lv_aload_n hx hb d_LN_init_31 rfl (lv_at hl 0 rfl) ?_
  refine lv_iconst (v := 0) hx hb d_LN_init_32 (by decide) ?_
  refine q_put M hI 0 rfl rfl i_LN t_LN t_LN_ok n_LN 4 (by decide) m2_85 rfl rfl rfl (Nat.le_of_ble_eq_true rfl) (w2 := [(a, .inr (8, [.null, .ref a1, .ref a2, .ref a3, .int 0])), aI g a1 2000, aI g a2 2000, aI g a3 2000]) rfl d_LN_init_33 (fun H locs hI => ?_)
  refine lv_aload_n hx hb d_LN_init_36 rfl (lv_at hl 0 rfl) ?_
  refine lv_aload_n hx hb d_LN_init_37 rfl (lv_at hl 1 rfl) ?_
  refine q_putF M hI 0 rfl rfl i_LN t_LN t_LN_ok n_LN 0 (by decide) m2_78 rfl hnm rfl rfl rfl (Nat.le_of_ble_eq_true rfl) (w2 := [(a, .inr (8, [.ref x1, .ref a1, .ref a2, .ref a3, .int 0])), aI g a1 2000, aI g a2 2000, aI g a3 2000]) rfl d_LN_init_38 (fun H locs hI => ?_)
  exact hret (fun k => [a1, a2, a3].getD k 0) _ _ _ _ _ _ d_LN_init_41 hI trivial (Nat.le_of_ble_eq_true rfl) (Nat.le_of_ble_eq_true rfl)
abbrev rm_BL_init : Room := { frames := 3, cells := 43, slots := 41034, locals := 65 }
set_option maxHeartbeats 4000000 in
set_option maxRecDepth 100000 in
theorem c_BL_init (l : Launch) (g : Geo) (a : Nat) : cMv l y_BL_init (.code y_BL_init b_BL_init 1 none :: gw) rm_BL_init g [.ref a] [(a, .inr (10, [.null, .null, .null, .null, .null, .int 0, .int 0]))] (fun (_ : Nat → Nat) => True) (fun (u : Nat → Nat) => [(a, .inr (10, [.ref (u 0), .ref (u 9), .ref (u 12), .ref (u 15), .ref (u 39), .int 0, .int 0])), (u 0, .inr (0, [.ref (u 1), .ref (u 2), .ref (u 3), .ref (u 4), .ref (u 5), .int 0, .ref (u 6), .ref (u 7), .ref (u 8), .int 0])), aI g (u 1) 2000, aI g (u 2) 2000, aI g (u 3) 2000, aI g (u 4) 2000, aI g (u 5) 2000, aI g (u 6) 100, aI g (u 7) 100, aI g (u 8) 100, (u 9, .inr (1, [.ref (u 10), .ref (u 11), .int 0])), aI g (u 10) 40, aI g (u 11) 40, (u 12, .inr (1, [.ref (u 13), .ref (u 14), .int 0])), aI g (u 13) 40, aI g (u 14) 40, (u 15, .inr (9, [.ref (u 16), .ref (u 17), .ref (u 18), .ref (u 19), .int 0, .ref (u 0), .ref (u 20), .ref (u 22), .ref (u 26), .ref (u 31), .ref (u 34), .ref (u 35)])), aI g (u 16) 2000, aI g (u 17) 2000, aI g (u 18) 2000, aI g (u 19) 2000, (u 20, .inr (2, [.ref (u 0), .ref (u 21)])), aI g (u 21) 2000, (u 22, .inr (3, [.ref (u 0), .ref (u 20), .ref (u 23), .ref (u 24), .ref (u 25), .int 0, .int 0, .int 0, .int 0])), aI g (u 23) 127, aI g (u 24) 127, aZ g (u 25) 127, (u 26, .inr (4, [.ref (u 0), .ref (u 27), .int 0, .ref (u 28), .ref (u 29), .ref (u 30), .int 0])), aI g (u 27) 2000, aI g (u 28) 2000, aI g (u 29) 2000, aI g (u 30) 2000, (u 31, .inr (5, [.ref (u 0), .ref (u 32), .ref (u 33), .int 0, .int 0, .int 0, .int 0])), aI g (u 32) 2000, aI g (u 33) 2000, (u 34, .inr (6, [.ref (u 0), .ref (u 31)])), (u 35, .inr (7, [.ref (u 0), .ref (u 31), .ref (u 9), .ref (u 36), .ref (u 37), .int 0, .ref (u 38)])), aI g (u 36) 63, aI g (u 37) 63, aI g (u 38) 2000, (u 39, .inr (8, [.ref (u 0), .ref (u 40), .ref (u 41), .ref (u 42), .int 0])), aI g (u 40) 2000, aI g (u 41) 2000, aI g (u 42) 2000]) 43 41034 := by
  refine cMv_of (by decide) (Nat.le_of_ble_eq_true rfl) ?_
  intro p e s m below meth c A Q ls M hnm hret hl hI
  have hnm : meth.name = "<init>" := hnm
  have hl : lv_has ls 1 [(0, .ref a)] := hl
  have M : MC p s m ([.ref a] : List Value).toArray meth c R_BL b_BL_init 1 := M
  generalize ([.ref a] : List Value).toArray = args at M hret ⊢
  have hx := M.1
  have hb := M.2.1
  obtain ⟨H, hH⟩ : ∃ H, H = s.heap := ⟨_, rfl⟩
  rw [← hH] at hI ⊢
  obtain ⟨locs, hlc⟩ : ∃ locs : List Loc, locs = [] := ⟨_, rfl⟩
  rw [← hlc] at hI ⊢
  refine lv_aload_n hx hb d_BL_init_0 rfl (lv_at hl 0 rfl) ?_
  refine q_objI M m1_25 hl.1 ⟨(Nat.le_of_ble_eq_true rfl), (Nat.le_of_ble_eq_true rfl)⟩ (Nat.le_of_ble_eq_true rfl) d_BL_init_1 ?_
  refine lv_aload_n hx hb d_BL_init_4 rfl (lv_at hl 0 rfl) ?_
  refine q_newO (ci := 0) M hI i_TX t_TX t_TX_ok m1_28 m1_29 m1_2 rfl [.null, .null, .null, .null, .null, .int 0, .null, .null, .null, .int 0] (by decide) ⟨(Nat.le_of_ble_eq_true rfl), (Nat.le_of_ble_eq_true rfl)⟩ d_BL_init_5 (fun a1 H hI => ?_)
  have hI : CI g A s [(a, .inr (10, [.null, .null, .null, .null, .null, .int 0, .int 0])), (a1, .inr (0, [.null, .null, .null, .null, .null, .int 0, .null, .null, .null, .int 0]))] H locs := hI
  refine lv_dup hx hb d_BL_init_8 rfl ?_
  have hI : CI g A s ([(a1, .inr (0, [.null, .null, .null, .null, .null, .int 0, .null, .null, .null, .int 0]))] ++ [(a, .inr (10, [.null, .null, .null, .null, .null, .int 0, .int 0]))]) H locs := CI.swap (w := [(a, .inr (10, [.null, .null, .null, .null, .null, .int 0, .int 0]))]) (x := [(a1, .inr (0, [.null, .null, .null, .null, .null, .int 0, .null, .null, .null, .int 0]))]) hI
  refine q_callCN [] M hI (c_TX_init l g a1) ok_TX_init (List.mem_of_getElem? (i := 0) rfl : Cond.methodLinkNest R_BL 11 y_TX_init R_BL ∈ nws) m1_31 rfl rfl rfl hl.1 ⟨rfl, rfl⟩ ⟨(Nat.le_of_ble_eq_true rfl), (Nat.le_of_ble_eq_true rfl)⟩ (Nat.le_of_ble_eq_true rfl) ⟨(Nat.le_of_ble_eq_true rfl), (Nat.le_of_ble_eq_true rfl)⟩ d_BL_init_9 (fun u2 H locs _ hI => ?_)
  have hI : CI g A s ([(a, .inr (10, [.null, .null, .null, .null, .null, .int 0, .int 0]))] ++ [(a1, .inr (0, [.ref (u2 0), .ref (u2 1), .ref (u2 2), .ref (u2 3), .ref (u2 4), .int 0, .ref (u2 5), .ref (u2 6), .ref (u2 7), .int 0])), aI g (u2 0) 2000, aI g (u2 1) 2000, aI g (u2 2) 2000, aI g (u2 3) 2000, aI g (u2 4) 2000, aI g (u2 5) 100, aI g (u2 6) 100, aI g (u2 7) 100]) H locs := CI.swap (w := [(a1, .inr (0, [.ref (u2 0), .ref (u2 1), .ref (u2 2), .ref (u2 3), .ref (u2 4), .int 0, .ref (u2 5), .ref (u2 6), .ref (u2 7), .int 0])), aI g (u2 0) 2000, aI g (u2 1) 2000, aI g (u2 2) 2000, aI g (u2 3) 2000, aI g (u2 4) 2000, aI g (u2 5) 100, aI g (u2 6) 100, aI g (u2 7) 100]) (x := [(a, .inr (10, [.null, .null, .null, .null, .null, .int 0, .int 0]))]) hI
  have hI : CI g A s [(a, .inr (10, [.null, .null, .null, .null, .null, .int 0, .int 0])), (a1, .inr (0, [.ref (u2 0), .ref (u2 1), .ref (u2 2), .ref (u2 3), .ref (u2 4), .int 0, .ref (u2 5), .ref (u2 6), .ref (u2 7), .int 0])), aI g (u2 0) 2000, aI g (u2 1) 2000, aI g (u2 2) 2000, aI g (u2 3) 2000, aI g (u2 4) 2000, aI g (u2 5) 100, aI g (u2 6) 100, aI g (u2 7) 100] H locs := hI
  generalize u2 0 = a3 at hI
  generalize u2 1 = a4 at hI
  generalize u2 2 = a5 at hI
  generalize u2 3 = a6 at hI
  generalize u2 4 = a7 at hI
  generalize u2 5 = a8 at hI
  generalize u2 6 = a9 at hI
  generalize u2 7 = a10 at hI
  refine q_putF M hI 0 rfl rfl i_BL t_BL t_BL_ok n_BL 0 (by decide) m2_98 rfl hnm rfl rfl rfl (Nat.le_of_ble_eq_true rfl) (w2 := [(a, .inr (10, [.ref a1, .null, .null, .null, .null, .int 0, .int 0])), (a1, .inr (0, [.ref a3, .ref a4, .ref a5, .ref a6, .ref a7, .int 0, .ref a8, .ref a9, .ref a10, .int 0])), aI g a3 2000, aI g a4 2000, aI g a5 2000, aI g a6 2000, aI g a7 2000, aI g a8 100, aI g a9 100, aI g a10 100]) rfl d_BL_init_12 (fun H locs hI => ?_)
  refine lv_aload_n hx hb d_BL_init_15 rfl (lv_at hl 0 rfl) ?_
  refine q_newO (ci := 1) M hI i_PR t_PR t_PR_ok m1_90 m1_91 m1_3 rfl [.null, .null, .int 0] (by decide) ⟨(Nat.le_of_ble_eq_true rfl), (Nat.le_of_ble_eq_true rfl)⟩ d_BL_init_16 (fun a11 H hI => ?_)
  have hI : CI g A s [(a, .inr (10, [.ref a1, .null, .null, .null, .null, .int 0, .int 0])), (a1, .inr (0, [.ref a3, .ref a4, .ref a5, .ref a6, .ref a7, .int 0, .ref a8, .ref a9, .ref a10, .int 0])), aI g a3 2000, aI g a4 2000, aI g a5 2000, aI g a6 2000, aI g a7 2000, aI g a8 100, aI g a9 100, aI g a10 100, (a11, .inr (1, [.null, .null, .int 0]))] H locs := hI
  refine lv_dup hx hb d_BL_init_19 rfl ?_
  have hI : CI g A s ([(a11, .inr (1, [.null, .null, .int 0]))] ++ [(a, .inr (10, [.ref a1, .null, .null, .null, .null, .int 0, .int 0])), (a1, .inr (0, [.ref a3, .ref a4, .ref a5, .ref a6, .ref a7, .int 0, .ref a8, .ref a9, .ref a10, .int 0])), aI g a3 2000, aI g a4 2000, aI g a5 2000, aI g a6 2000, aI g a7 2000, aI g a8 100, aI g a9 100, aI g a10 100]) H locs := CI.swap (w := [(a, .inr (10, [.ref a1, .null, .null, .null, .null, .int 0, .int 0])), (a1, .inr (0, [.ref a3, .ref a4, .ref a5, .ref a6, .ref a7, .int 0, .ref a8, .ref a9, .ref a10, .int 0])), aI g a3 2000, aI g a4 2000, aI g a5 2000, aI g a6 2000, aI g a7 2000, aI g a8 100, aI g a9 100, aI g a10 100]) (x := [(a11, .inr (1, [.null, .null, .int 0]))]) hI
  refine q_callCN [] M hI (c_PR_init l g a11) ok_PR_init (List.mem_of_getElem? (i := 1) rfl : Cond.methodLinkNest R_BL 18 y_PR_init R_BL ∈ nws) m1_93 rfl rfl rfl hl.1 ⟨rfl, rfl⟩ ⟨(Nat.le_of_ble_eq_true rfl), (Nat.le_of_ble_eq_true rfl)⟩ (Nat.le_of_ble_eq_true rfl) ⟨(Nat.le_of_ble_eq_true rfl), (Nat.le_of_ble_eq_true rfl)⟩ d_BL_init_20 (fun u12 H locs _ hI => ?_)
  have hI : CI g A s ([(a, .inr (10, [.ref a1, .null, .null, .null, .null, .int 0, .int 0])), (a1, .inr (0, [.ref a3, .ref a4, .ref a5, .ref a6, .ref a7, .int 0, .ref a8, .ref a9, .ref a10, .int 0])), aI g a3 2000, aI g a4 2000, aI g a5 2000, aI g a6 2000, aI g a7 2000, aI g a8 100, aI g a9 100, aI g a10 100] ++ [(a11, .inr (1, [.ref (u12 0), .ref (u12 1), .int 0])), aI g (u12 0) 40, aI g (u12 1) 40]) H locs := CI.swap (w := [(a11, .inr (1, [.ref (u12 0), .ref (u12 1), .int 0])), aI g (u12 0) 40, aI g (u12 1) 40]) (x := [(a, .inr (10, [.ref a1, .null, .null, .null, .null, .int 0, .int 0])), (a1, .inr (0, [.ref a3, .ref a4, .ref a5, .ref a6, .ref a7, .int 0, .ref a8, .ref a9, .ref a10, .int 0])), aI g a3 2000, aI g a4 2000, aI g a5 2000, aI g a6 2000, aI g a7 2000, aI g a8 100, aI g a9 100, aI g a10 100]) hI
  have hI : CI g A s [(a, .inr (10, [.ref a1, .null, .null, .null, .null, .int 0, .int 0])), (a1, .inr (0, [.ref a3, .ref a4, .ref a5, .ref a6, .ref a7, .int 0, .ref a8, .ref a9, .ref a10, .int 0])), aI g a3 2000, aI g a4 2000, aI g a5 2000, aI g a6 2000, aI g a7 2000, aI g a8 100, aI g a9 100, aI g a10 100, (a11, .inr (1, [.ref (u12 0), .ref (u12 1), .int 0])), aI g (u12 0) 40, aI g (u12 1) 40] H locs := hI
  generalize u12 0 = a13 at hI
  generalize u12 1 = a14 at hI
  refine q_putF M hI 0 rfl rfl i_BL t_BL t_BL_ok n_BL 1 (by decide) m2_99 rfl hnm rfl rfl rfl (Nat.le_of_ble_eq_true rfl) (w2 := [(a, .inr (10, [.ref a1, .ref a11, .null, .null, .null, .int 0, .int 0])), (a1, .inr (0, [.ref a3, .ref a4, .ref a5, .ref a6, .ref a7, .int 0, .ref a8, .ref a9, .ref a10, .int 0])), aI g a3 2000, aI g a4 2000, aI g a5 2000, aI g a6 2000, aI g a7 2000, aI g a8 100, aI g a9 100, aI g a10 100, (a11, .inr (1, [.ref a13, .ref a14, .int 0])), aI g a13 40, aI g a14 40]) rfl d_BL_init_23 (fun H locs hI => ?_)
  refine lv_aload_n hx hb d_BL_init_26 rfl (lv_at hl 0 rfl) ?_
  refine q_newO (ci := 1) M hI i_PR t_PR t_PR_ok m1_90 m1_91 m1_3 rfl [.null, .null, .int 0] (by decide) ⟨(Nat.le_of_ble_eq_true rfl), (Nat.le_of_ble_eq_true rfl)⟩ d_BL_init_27 (fun a15 H hI => ?_)
  have hI : CI g A s [(a, .inr (10, [.ref a1, .ref a11, .null, .null, .null, .int 0, .int 0])), (a1, .inr (0, [.ref a3, .ref a4, .ref a5, .ref a6, .ref a7, .int 0, .ref a8, .ref a9, .ref a10, .int 0])), aI g a3 2000, aI g a4 2000, aI g a5 2000, aI g a6 2000, aI g a7 2000, aI g a8 100, aI g a9 100, aI g a10 100, (a11, .inr (1, [.ref a13, .ref a14, .int 0])), aI g a13 40, aI g a14 40, (a15, .inr (1, [.null, .null, .int 0]))] H locs := hI
  refine lv_dup hx hb d_BL_init_30 rfl ?_
  have hI : CI g A s ([(a15, .inr (1, [.null, .null, .int 0]))] ++ [(a, .inr (10, [.ref a1, .ref a11, .null, .null, .null, .int 0, .int 0])), (a1, .inr (0, [.ref a3, .ref a4, .ref a5, .ref a6, .ref a7, .int 0, .ref a8, .ref a9, .ref a10, .int 0])), aI g a3 2000, aI g a4 2000, aI g a5 2000, aI g a6 2000, aI g a7 2000, aI g a8 100, aI g a9 100, aI g a10 100, (a11, .inr (1, [.ref a13, .ref a14, .int 0])), aI g a13 40, aI g a14 40]) H locs := CI.swap (w := [(a, .inr (10, [.ref a1, .ref a11, .null, .null, .null, .int 0, .int 0])), (a1, .inr (0, [.ref a3, .ref a4, .ref a5, .ref a6, .ref a7, .int 0, .ref a8, .ref a9, .ref a10, .int 0])), aI g a3 2000, aI g a4 2000, aI g a5 2000, aI g a6 2000, aI g a7 2000, aI g a8 100, aI g a9 100, aI g a10 100, (a11, .inr (1, [.ref a13, .ref a14, .int 0])), aI g a13 40, aI g a14 40]) (x := [(a15, .inr (1, [.null, .null, .int 0]))]) hI
  refine q_callCN [] M hI (c_PR_init l g a15) ok_PR_init (List.mem_of_getElem? (i := 1) rfl : Cond.methodLinkNest R_BL 18 y_PR_init R_BL ∈ nws) m1_93 rfl rfl rfl hl.1 ⟨rfl, rfl⟩ ⟨(Nat.le_of_ble_eq_true rfl), (Nat.le_of_ble_eq_true rfl)⟩ (Nat.le_of_ble_eq_true rfl) ⟨(Nat.le_of_ble_eq_true rfl), (Nat.le_of_ble_eq_true rfl)⟩ d_BL_init_31 (fun u16 H locs _ hI => ?_)
  have hI : CI g A s ([(a, .inr (10, [.ref a1, .ref a11, .null, .null, .null, .int 0, .int 0])), (a1, .inr (0, [.ref a3, .ref a4, .ref a5, .ref a6, .ref a7, .int 0, .ref a8, .ref a9, .ref a10, .int 0])), aI g a3 2000, aI g a4 2000, aI g a5 2000, aI g a6 2000, aI g a7 2000, aI g a8 100, aI g a9 100, aI g a10 100, (a11, .inr (1, [.ref a13, .ref a14, .int 0])), aI g a13 40, aI g a14 40] ++ [(a15, .inr (1, [.ref (u16 0), .ref (u16 1), .int 0])), aI g (u16 0) 40, aI g (u16 1) 40]) H locs := CI.swap (w := [(a15, .inr (1, [.ref (u16 0), .ref (u16 1), .int 0])), aI g (u16 0) 40, aI g (u16 1) 40]) (x := [(a, .inr (10, [.ref a1, .ref a11, .null, .null, .null, .int 0, .int 0])), (a1, .inr (0, [.ref a3, .ref a4, .ref a5, .ref a6, .ref a7, .int 0, .ref a8, .ref a9, .ref a10, .int 0])), aI g a3 2000, aI g a4 2000, aI g a5 2000, aI g a6 2000, aI g a7 2000, aI g a8 100, aI g a9 100, aI g a10 100, (a11, .inr (1, [.ref a13, .ref a14, .int 0])), aI g a13 40, aI g a14 40]) hI
  have hI : CI g A s [(a, .inr (10, [.ref a1, .ref a11, .null, .null, .null, .int 0, .int 0])), (a1, .inr (0, [.ref a3, .ref a4, .ref a5, .ref a6, .ref a7, .int 0, .ref a8, .ref a9, .ref a10, .int 0])), aI g a3 2000, aI g a4 2000, aI g a5 2000, aI g a6 2000, aI g a7 2000, aI g a8 100, aI g a9 100, aI g a10 100, (a11, .inr (1, [.ref a13, .ref a14, .int 0])), aI g a13 40, aI g a14 40, (a15, .inr (1, [.ref (u16 0), .ref (u16 1), .int 0])), aI g (u16 0) 40, aI g (u16 1) 40] H locs := hI
  generalize u16 0 = a17 at hI
  generalize u16 1 = a18 at hI
  refine q_putF M hI 0 rfl rfl i_BL t_BL t_BL_ok n_BL 2 (by decide) m2_100 rfl hnm rfl rfl rfl (Nat.le_of_ble_eq_true rfl) (w2 := [(a, .inr (10, [.ref a1, .ref a11, .ref a15, .null, .null, .int 0, .int 0])), (a1, .inr (0, [.ref a3, .ref a4, .ref a5, .ref a6, .ref a7, .int 0, .ref a8, .ref a9, .ref a10, .int 0])), aI g a3 2000, aI g a4 2000, aI g a5 2000, aI g a6 2000, aI g a7 2000, aI g a8 100, aI g a9 100, aI g a10 100, (a11, .inr (1, [.ref a13, .ref a14, .int 0])), aI g a13 40, aI g a14 40, (a15, .inr (1, [.ref a17, .ref a18, .int 0])), aI g a17 40, aI g a18 40]) rfl d_BL_init_34 (fun H locs hI => ?_)
  refine lv_aload_n hx hb d_BL_init_37 rfl (lv_at hl 0 rfl) ?_
  refine q_newO (ci := 9) M hI i_RS t_RS t_RS_ok m1_107 m1_108 m1_4 rfl [.null, .null, .null, .null, .int 0, .null, .null, .null, .null, .null, .null, .null] (by decide) ⟨(Nat.le_of_ble_eq_true rfl), (Nat.le_of_ble_eq_true rfl)⟩ d_BL_init_38 (fun a19 H hI => ?_)
  have hI : CI g A s [(a, .inr (10, [.ref a1, .ref a11, .ref a15, .null, .null, .int 0, .int 0])), (a1, .inr (0, [.ref a3, .ref a4, .ref a5, .ref a6, .ref a7, .int 0, .ref a8, .ref a9, .ref a10, .int 0])), aI g a3 2000, aI g a4 2000, aI g a5 2000, aI g a6 2000, aI g a7 2000, aI g a8 100, aI g a9 100, aI g a10 100, (a11, .inr (1, [.ref a13, .ref a14, .int 0])), aI g a13 40, aI g a14 40, (a15, .inr (1, [.ref a17, .ref a18, .int 0])), aI g a17 40, aI g a18 40, (a19, .inr (9, [.null, .null, .null, .null, .int 0, .null, .null, .null, .null, .null, .null, .null]))] H locs := hI
  refine lv_dup hx hb d_BL_init_41 rfl ?_
  refine lv_aload_n hx hb d_BL_init_42 rfl (lv_at hl 0 rfl) ?_
  refine q_get M hI 0 rfl rfl i_BL 0 (by decide) m2_98 rfl d_BL_init_43 ?_
  refine lv_aload_n hx hb d_BL_init_46 rfl (lv_at hl 0 rfl) ?_
  refine q_get M hI 0 rfl rfl i_BL 1 (by decide) m2_99 rfl d_BL_init_47 ?_
  have hI : CI g A s ([(a19, .inr (9, [.null, .null, .null, .null, .int 0, .null, .null, .null, .null, .null, .null, .null]))] ++ [(a, .inr (10, [.ref a1, .ref a11, .ref a15, .null, .null, .int 0, .int 0])), (a1, .inr (0, [.ref a3, .ref a4, .ref a5, .ref a6, .ref a7, .int 0, .ref a8, .ref a9, .ref a10, .int 0])), aI g a3 2000, aI g a4 2000, aI g a5 2000, aI g a6 2000, aI g a7 2000, aI g a8 100, aI g a9 100, aI g a10 100, (a11, .inr (1, [.ref a13, .ref a14, .int 0])), aI g a13 40, aI g a14 40, (a15, .inr (1, [.ref a17, .ref a18, .int 0])), aI g a17 40, aI g a18 40]) H locs := CI.swap (w := [(a, .inr (10, [.ref a1, .ref a11, .ref a15, .null, .null, .int 0, .int 0])), (a1, .inr (0, [.ref a3, .ref a4, .ref a5, .ref a6, .ref a7, .int 0, .ref a8, .ref a9, .ref a10, .int 0])), aI g a3 2000, aI g a4 2000, aI g a5 2000, aI g a6 2000, aI g a7 2000, aI g a8 100, aI g a9 100, aI g a10 100, (a11, .inr (1, [.ref a13, .ref a14, .int 0])), aI g a13 40, aI g a14 40, (a15, .inr (1, [.ref a17, .ref a18, .int 0])), aI g a17 40, aI g a18 40]) (x := [(a19, .inr (9, [.null, .null, .null, .null, .int 0, .null, .null, .null, .null, .null, .null, .null]))]) hI
  refine q_callC [.ref a1, .ref a11] M hI (c_RS_init l g a19 a1 a11) ok_RS_init m1_109 m1_110 rfl rfl rfl hl.1 ⟨rfl, rfl⟩ ⟨(Nat.le_of_ble_eq_true rfl), (Nat.le_of_ble_eq_true rfl)⟩ (Nat.le_of_ble_eq_true rfl) ⟨(Nat.le_of_ble_eq_true rfl), (Nat.le_of_ble_eq_true rfl)⟩ d_BL_init_50 (fun u20 H locs _ hI => ?_)
  have hI : CI g A s ([(a, .inr (10, [.ref a1, .ref a11, .ref a15, .null, .null, .int 0, .int 0])), (a1, .inr (0, [.ref a3, .ref a4, .ref a5, .ref a6, .ref a7, .int 0, .ref a8, .ref a9, .ref a10, .int 0])), aI g a3 2000, aI g a4 2000, aI g a5 2000, aI g a6 2000, aI g a7 2000, aI g a8 100, aI g a9 100, aI g a10 100, (a11, .inr (1, [.ref a13, .ref a14, .int 0])), aI g a13 40, aI g a14 40, (a15, .inr (1, [.ref a17, .ref a18, .int 0])), aI g a17 40, aI g a18 40] ++ [(a19, .inr (9, [.ref (u20 0), .ref (u20 1), .ref (u20 2), .ref (u20 3), .int 0, .ref a1, .ref (u20 4), .ref (u20 6), .ref (u20 10), .ref (u20 15), .ref (u20 18), .ref (u20 19)])), aI g (u20 0) 2000, aI g (u20 1) 2000, aI g (u20 2) 2000, aI g (u20 3) 2000, (u20 4, .inr (2, [.ref a1, .ref (u20 5)])), aI g (u20 5) 2000, (u20 6, .inr (3, [.ref a1, .ref (u20 4), .ref (u20 7), .ref (u20 8), .ref (u20 9), .int 0, .int 0, .int 0, .int 0])), aI g (u20 7) 127, aI g (u20 8) 127, aZ g (u20 9) 127, (u20 10, .inr (4, [.ref a1, .ref (u20 11), .int 0, .ref (u20 12), .ref (u20 13), .ref (u20 14), .int 0])), aI g (u20 11) 2000, aI g (u20 12) 2000, aI g (u20 13) 2000, aI g (u20 14) 2000, (u20 15, .inr (5, [.ref a1, .ref (u20 16), .ref (u20 17), .int 0, .int 0, .int 0, .int 0])), aI g (u20 16) 2000, aI g (u20 17) 2000, (u20 18, .inr (6, [.ref a1, .ref (u20 15)])), (u20 19, .inr (7, [.ref a1, .ref (u20 15), .ref a11, .ref (u20 20), .ref (u20 21), .int 0, .ref (u20 22)])), aI g (u20 20) 63, aI g (u20 21) 63, aI g (u20 22) 2000]) H locs := CI.swap (w := [(a19, .inr (9, [.ref (u20 0), .ref (u20 1), .ref (u20 2), .ref (u20 3), .int 0, .ref a1, .ref (u20 4), .ref (u20 6), .ref (u20 10), .ref (u20 15), .ref (u20 18), .ref (u20 19)])), aI g (u20 0) 2000, aI g (u20 1) 2000, aI g (u20 2) 2000, aI g (u20 3) 2000, (u20 4, .inr (2, [.ref a1, .ref (u20 5)])), aI g (u20 5) 2000, (u20 6, .inr (3, [.ref a1, .ref (u20 4), .ref (u20 7), .ref (u20 8), .ref (u20 9), .int 0, .int 0, .int 0, .int 0])), aI g (u20 7) 127, aI g (u20 8) 127, aZ g (u20 9) 127, (u20 10, .inr (4, [.ref a1, .ref (u20 11), .int 0, .ref (u20 12), .ref (u20 13), .ref (u20 14), .int 0])), aI g (u20 11) 2000, aI g (u20 12) 2000, aI g (u20 13) 2000, aI g (u20 14) 2000, (u20 15, .inr (5, [.ref a1, .ref (u20 16), .ref (u20 17), .int 0, .int 0, .int 0, .int 0])), aI g (u20 16) 2000, aI g (u20 17) 2000, (u20 18, .inr (6, [.ref a1, .ref (u20 15)])), (u20 19, .inr (7, [.ref a1, .ref (u20 15), .ref a11, .ref (u20 20), .ref (u20 21), .int 0, .ref (u20 22)])), aI g (u20 20) 63, aI g (u20 21) 63, aI g (u20 22) 2000]) (x := [(a, .inr (10, [.ref a1, .ref a11, .ref a15, .null, .null, .int 0, .int 0])), (a1, .inr (0, [.ref a3, .ref a4, .ref a5, .ref a6, .ref a7, .int 0, .ref a8, .ref a9, .ref a10, .int 0])), aI g a3 2000, aI g a4 2000, aI g a5 2000, aI g a6 2000, aI g a7 2000, aI g a8 100, aI g a9 100, aI g a10 100, (a11, .inr (1, [.ref a13, .ref a14, .int 0])), aI g a13 40, aI g a14 40, (a15, .inr (1, [.ref a17, .ref a18, .int 0])), aI g a17 40, aI g a18 40]) hI
  have hI : CI g A s [(a, .inr (10, [.ref a1, .ref a11, .ref a15, .null, .null, .int 0, .int 0])), (a1, .inr (0, [.ref a3, .ref a4, .ref a5, .ref a6, .ref a7, .int 0, .ref a8, .ref a9, .ref a10, .int 0])), aI g a3 2000, aI g a4 2000, aI g a5 2000, aI g a6 2000, aI g a7 2000, aI g a8 100, aI g a9 100, aI g a10 100, (a11, .inr (1, [.ref a13, .ref a14, .int 0])), aI g a13 40, aI g a14 40, (a15, .inr (1, [.ref a17, .ref a18, .int 0])), aI g a17 40, aI g a18 40, (a19, .inr (9, [.ref (u20 0), .ref (u20 1), .ref (u20 2), .ref (u20 3), .int 0, .ref a1, .ref (u20 4), .ref (u20 6), .ref (u20 10), .ref (u20 15), .ref (u20 18), .ref (u20 19)])), aI g (u20 0) 2000, aI g (u20 1) 2000, aI g (u20 2) 2000, aI g (u20 3) 2000, (u20 4, .inr (2, [.ref a1, .ref (u20 5)])), aI g (u20 5) 2000, (u20 6, .inr (3, [.ref a1, .ref (u20 4), .ref (u20 7), .ref (u20 8), .ref (u20 9), .int 0, .int 0, .int 0, .int 0])), aI g (u20 7) 127, aI g (u20 8) 127, aZ g (u20 9) 127, (u20 10, .inr (4, [.ref a1, .ref (u20 11), .int 0, .ref (u20 12), .ref (u20 13), .ref (u20 14), .int 0])), aI g (u20 11) 2000, aI g (u20 12) 2000, aI g (u20 13) 2000, aI g (u20 14) 2000, (u20 15, .inr (5, [.ref a1, .ref (u20 16), .ref (u20 17), .int 0, .int 0, .int 0, .int 0])), aI g (u20 16) 2000, aI g (u20 17) 2000, (u20 18, .inr (6, [.ref a1, .ref (u20 15)])), (u20 19, .inr (7, [.ref a1, .ref (u20 15), .ref a11, .ref (u20 20), .ref (u20 21), .int 0, .ref (u20 22)])), aI g (u20 20) 63, aI g (u20 21) 63, aI g (u20 22) 2000] H locs := hI
  generalize u20 0 = a21 at hI
  generalize u20 1 = a22 at hI
  generalize u20 2 = a23 at hI
  generalize u20 3 = a24 at hI
  generalize u20 4 = a25 at hI
  generalize u20 5 = a26 at hI
  generalize u20 6 = a27 at hI
  generalize u20 7 = a28 at hI
  generalize u20 8 = a29 at hI
  generalize u20 9 = a30 at hI
  generalize u20 10 = a31 at hI
  generalize u20 11 = a32 at hI
  generalize u20 12 = a33 at hI
  generalize u20 13 = a34 at hI
  generalize u20 14 = a35 at hI
  generalize u20 15 = a36 at hI
  generalize u20 16 = a37 at hI
  generalize u20 17 = a38 at hI
  generalize u20 18 = a39 at hI
  generalize u20 19 = a40 at hI
  generalize u20 20 = a41 at hI
  generalize u20 21 = a42 at hI
  generalize u20 22 = a43 at hI
  refine q_putF M hI 0 rfl rfl i_BL t_BL t_BL_ok n_BL 3 (by decide) m2_101 rfl hnm rfl rfl rfl (Nat.le_of_ble_eq_true rfl) (w2 := [(a, .inr (10, [.ref a1, .ref a11, .ref a15, .ref a19, .null, .int 0, .int 0])), (a1, .inr (0, [.ref a3, .ref a4, .ref a5, .ref a6, .ref a7, .int 0, .ref a8, .ref a9, .ref a10, .int 0])), aI g a3 2000, aI g a4 2000, aI g a5 2000, aI g a6 2000, aI g a7 2000, aI g a8 100, aI g a9 100, aI g a10 100, (a11, .inr (1, [.ref a13, .ref a14, .int 0])), aI g a13 40, aI g a14 40, (a15, .inr (1, [.ref a17, .ref a18, .int 0])), aI g a17 40, aI g a18 40, (a19, .inr (9, [.ref a21, .ref a22, .ref a23, .ref a24, .int 0, .ref a1, .ref a25, .ref a27, .ref a31, .ref a36, .ref a39, .ref a40])), aI g a21 2000, aI g a22 2000, aI g a23 2000, aI g a24 2000, (a25, .inr (2, [.ref a1, .ref a26])), aI g a26 2000, (a27, .inr (3, [.ref a1, .ref a25, .ref a28, .ref a29, .ref a30, .int 0, .int 0, .int 0, .int 0])), aI g a28 127, aI g a29 127, aZ g a30 127, (a31, .inr (4, [.ref a1, .ref a32, .int 0, .ref a33, .ref a34, .ref a35, .int 0])), aI g a32 2000, aI g a33 2000, aI g a34 2000, aI g a35 2000, (a36, .inr (5, [.ref a1, .ref a37, .ref a38, .int 0, .int 0, .int 0, .int 0])), aI g a37 2000, aI g a38 2000, (a39, .inr (6, [.ref a1, .ref a36])), (a40, .inr (7, [.ref a1, .ref a36, .ref a11, .ref a41, .ref a42, .int 0, .ref a43])), aI g a41 63, aI g a42 63, aI g a43 2000]) rfl d_BL_init_53 (fun H locs hI => ?_)
  refine lv_aload_n hx hb d_BL_init_56 rfl (lv_at hl 0 rfl) ?_
  refine q_newO (ci := 8) M hI i_LN t_LN t_LN_ok m2_72 m2_73 m1_11 rfl [.null, .null, .null, .null, .int 0] (by decide) ⟨(Nat.le_of_ble_eq_true rfl), (Nat.le_of_ble_eq_true rfl)⟩ d_BL_init_57 (fun a44 H hI => ?_)
  have hI : CI g A s [(a, .inr (10, [.ref a1, .ref a11, .ref a15, .ref a19, .null, .int 0, .int 0])), (a1, .inr (0, [.ref a3, .ref a4, .ref a5, .ref a6, .ref a7, .int 0, .ref a8, .ref a9, .ref a10, .int 0])), aI g a3 2000, aI g a4 2000, aI g a5 2000, aI g a6 2000, aI g a7 2000, aI g a8 100, aI g a9 100, aI g a10 100, (a11, .inr (1, [.ref a13, .ref a14, .int 0])), aI g a13 40, aI g a14 40, (a15, .inr (1, [.ref a17, .ref a18, .int 0])), aI g a17 40, aI g a18 40, (a19, .inr (9, [.ref a21, .ref a22, .ref a23, .ref a24, .int 0, .ref a1, .ref a25, .ref a27, .ref a31, .ref a36, .ref a39, .ref a40])), aI g a21 2000, aI g a22 2000, aI g a23 2000, aI g a24 2000, (a25, .inr (2, [.ref a1, .ref a26])), aI g a26 2000, (a27, .inr (3, [.ref a1, .ref a25, .ref a28, .ref a29, .ref a30, .int 0, .int 0, .int 0, .int 0])), aI g a28 127, aI g a29 127, aZ g a30 127, (a31, .inr (4, [.ref a1, .ref a32, .int 0, .ref a33, .ref a34, .ref a35, .int 0])), aI g a32 2000, aI g a33 2000, aI g a34 2000, aI g a35 2000, (a36, .inr (5, [.ref a1, .ref a37, .ref a38, .int 0, .int 0, .int 0, .int 0])), aI g a37 2000, aI g a38 2000, (a39, .inr (6, [.ref a1, .ref a36])), (a40, .inr (7, [.ref a1, .ref a36, .ref a11, .ref a41, .ref a42, .int 0, .ref a43])), aI g a41 63, aI g a42 63, aI g a43 2000, (a44, .inr (8, [.null, .null, .null, .null, .int 0]))] H locs := hI
  refine lv_dup hx hb d_BL_init_60 rfl ?_
  refine lv_aload_n hx hb d_BL_init_61 rfl (lv_at hl 0 rfl) ?_
  refine q_get M hI 0 rfl rfl i_BL 0 (by decide) m2_98 rfl d_BL_init_62 ?_
  have hI : CI g A s ([(a44, .inr (8, [.null, .null, .null, .null, .int 0]))] ++ [(a, .inr (10, [.ref a1, .ref a11, .ref a15, .ref a19, .null, .int 0, .int 0])), (a1, .inr (0, [.ref a3, .ref a4, .ref a5, .ref a6, .ref a7, .int 0, .ref a8, .ref a9, .ref a10, .int 0])), aI g a3 2000, aI g a4 2000, aI g a5 2000, aI g a6 2000, aI g a7 2000, aI g a8 100, aI g a9 100, aI g a10 100, (a11, .inr (1, [.ref a13, .ref a14, .int 0])), aI g a13 40, aI g a14 40, (a15, .inr (1, [.ref a17, .ref a18, .int 0])), aI g a17 40, aI g a18 40, (a19, .inr (9, [.ref a21, .ref a22, .ref a23, .ref a24, .int 0, .ref a1, .ref a25, .ref a27, .ref a31, .ref a36, .ref a39, .ref a40])), aI g a21 2000, aI g a22 2000, aI g a23 2000, aI g a24 2000, (a25, .inr (2, [.ref a1, .ref a26])), aI g a26 2000, (a27, .inr (3, [.ref a1, .ref a25, .ref a28, .ref a29, .ref a30, .int 0, .int 0, .int 0, .int 0])), aI g a28 127, aI g a29 127, aZ g a30 127, (a31, .inr (4, [.ref a1, .ref a32, .int 0, .ref a33, .ref a34, .ref a35, .int 0])), aI g a32 2000, aI g a33 2000, aI g a34 2000, aI g a35 2000, (a36, .inr (5, [.ref a1, .ref a37, .ref a38, .int 0, .int 0, .int 0, .int 0])), aI g a37 2000, aI g a38 2000, (a39, .inr (6, [.ref a1, .ref a36])), (a40, .inr (7, [.ref a1, .ref a36, .ref a11, .ref a41, .ref a42, .int 0, .ref a43])), aI g a41 63, aI g a42 63, aI g a43 2000]) H locs := CI.swap (w := [(a, .inr (10, [.ref a1, .ref a11, .ref a15, .ref a19, .null, .int 0, .int 0])), (a1, .inr (0, [.ref a3, .ref a4, .ref a5, .ref a6, .ref a7, .int 0, .ref a8, .ref a9, .ref a10, .int 0])), aI g a3 2000, aI g a4 2000, aI g a5 2000, aI g a6 2000, aI g a7 2000, aI g a8 100, aI g a9 100, aI g a10 100, (a11, .inr (1, [.ref a13, .ref a14, .int 0])), aI g a13 40, aI g a14 40, (a15, .inr (1, [.ref a17, .ref a18, .int 0])), aI g a17 40, aI g a18 40, (a19, .inr (9, [.ref a21, .ref a22, .ref a23, .ref a24, .int 0, .ref a1, .ref a25, .ref a27, .ref a31, .ref a36, .ref a39, .ref a40])), aI g a21 2000, aI g a22 2000, aI g a23 2000, aI g a24 2000, (a25, .inr (2, [.ref a1, .ref a26])), aI g a26 2000, (a27, .inr (3, [.ref a1, .ref a25, .ref a28, .ref a29, .ref a30, .int 0, .int 0, .int 0, .int 0])), aI g a28 127, aI g a29 127, aZ g a30 127, (a31, .inr (4, [.ref a1, .ref a32, .int 0, .ref a33, .ref a34, .ref a35, .int 0])), aI g a32 2000, aI g a33 2000, aI g a34 2000, aI g a35 2000, (a36, .inr (5, [.ref a1, .ref a37, .ref a38, .int 0, .int 0, .int 0, .int 0])), aI g a37 2000, aI g a38 2000, (a39, .inr (6, [.ref a1, .ref a36])), (a40, .inr (7, [.ref a1, .ref a36, .ref a11, .ref a41, .ref a42, .int 0, .ref a43])), aI g a41 63, aI g a42 63, aI g a43 2000]) (x := [(a44, .inr (8, [.null, .null, .null, .null, .int 0]))]) hI
  refine q_callC [.ref a1] M hI (c_LN_init l g a44 a1) ok_LN_init m2_74 m2_75 rfl rfl rfl hl.1 ⟨rfl, rfl⟩ ⟨(Nat.le_of_ble_eq_true rfl), (Nat.le_of_ble_eq_true rfl)⟩ (Nat.le_of_ble_eq_true rfl) ⟨(Nat.le_of_ble_eq_true rfl), (Nat.le_of_ble_eq_true rfl)⟩ d_BL_init_65 (fun u45 H locs _ hI => ?_)
  have hI : CI g A s ([(a, .inr (10, [.ref a1, .ref a11, .ref a15, .ref a19, .null, .int 0, .int 0])), (a1, .inr (0, [.ref a3, .ref a4, .ref a5, .ref a6, .ref a7, .int 0, .ref a8, .ref a9, .ref a10, .int 0])), aI g a3 2000, aI g a4 2000, aI g a5 2000, aI g a6 2000, aI g a7 2000, aI g a8 100, aI g a9 100, aI g a10 100, (a11, .inr (1, [.ref a13, .ref a14, .int 0])), aI g a13 40, aI g a14 40, (a15, .inr (1, [.ref a17, .ref a18, .int 0])), aI g a17 40, aI g a18 40, (a19, .inr (9, [.ref a21, .ref a22, .ref a23, .ref a24, .int 0, .ref a1, .ref a25, .ref a27, .ref a31, .ref a36, .ref a39, .ref a40])), aI g a21 2000, aI g a22 2000, aI g a23 2000, aI g a24 2000, (a25, .inr (2, [.ref a1, .ref a26])), aI g a26 2000, (a27, .inr (3, [.ref a1, .ref a25, .ref a28, .ref a29, .ref a30, .int 0, .int 0, .int 0, .int 0])), aI g a28 127, aI g a29 127, aZ g a30 127, (a31, .inr (4, [.ref a1, .ref a32, .int 0, .ref a33, .ref a34, .ref a35, .int 0])), aI g a32 2000, aI g a33 2000, aI g a34 2000, aI g a35 2000, (a36, .inr (5, [.ref a1, .ref a37, .ref a38, .int 0, .int 0, .int 0, .int 0])), aI g a37 2000, aI g a38 2000, (a39, .inr (6, [.ref a1, .ref a36])), (a40, .inr (7, [.ref a1, .ref a36, .ref a11, .ref a41, .ref a42, .int 0, .ref a43])), aI g a41 63, aI g a42 63, aI g a43 2000] ++ [(a44, .inr (8, [.ref a1, .ref (u45 0), .ref (u45 1), .ref (u45 2), .int 0])), aI g (u45 0) 2000, aI g (u45 1) 2000, aI g (u45 2) 2000]) H locs := CI.swap (w := [(a44, .inr (8, [.ref a1, .ref (u45 0), .ref (u45 1), .ref (u45 2), .int 0])), aI g (u45 0) 2000, aI g (u45 1) 2000, aI g (u45 2) 2000]) (x := [(a, .inr (10, [.ref a1, .ref a11, .ref a15, .ref a19, .null, .int 0, .int 0])), (a1, .inr (0, [.ref a3, .ref a4, .ref a5, .ref a6, .ref a7, .int 0, .ref a8, .ref a9, .ref a10, .int 0])), aI g a3 2000, aI g a4 2000, aI g a5 2000, aI g a6 2000, aI g a7 2000, aI g a8 100, aI g a9 100, aI g a10 100, (a11, .inr (1, [.ref a13, .ref a14, .int 0])), aI g a13 40, aI g a14 40, (a15, .inr (1, [.ref a17, .ref a18, .int 0])), aI g a17 40, aI g a18 40, (a19, .inr (9, [.ref a21, .ref a22, .ref a23, .ref a24, .int 0, .ref a1, .ref a25, .ref a27, .ref a31, .ref a36, .ref a39, .ref a40])), aI g a21 2000, aI g a22 2000, aI g a23 2000, aI g a24 2000, (a25, .inr (2, [.ref a1, .ref a26])), aI g a26 2000, (a27, .inr (3, [.ref a1, .ref a25, .ref a28, .ref a29, .ref a30, .int 0, .int 0, .int 0, .int 0])), aI g a28 127, aI g a29 127, aZ g a30 127, (a31, .inr (4, [.ref a1, .ref a32, .int 0, .ref a33, .ref a34, .ref a35, .int 0])), aI g a32 2000, aI g a33 2000, aI g a34 2000, aI g a35 2000, (a36, .inr (5, [.ref a1, .ref a37, .ref a38, .int 0, .int 0, .int 0, .int 0])), aI g a37 2000, aI g a38 2000, (a39, .inr (6, [.ref a1, .ref a36])), (a40, .inr (7, [.ref a1, .ref a36, .ref a11, .ref a41, .ref a42, .int 0, .ref a43])), aI g a41 63, aI g a42 63, aI g a43 2000]) hI
  have hI : CI g A s [(a, .inr (10, [.ref a1, .ref a11, .ref a15, .ref a19, .null, .int 0, .int 0])), (a1, .inr (0, [.ref a3, .ref a4, .ref a5, .ref a6, .ref a7, .int 0, .ref a8, .ref a9, .ref a10, .int 0])), aI g a3 2000, aI g a4 2000, aI g a5 2000, aI g a6 2000, aI g a7 2000, aI g a8 100, aI g a9 100, aI g a10 100, (a11, .inr (1, [.ref a13, .ref a14, .int 0])), aI g a13 40, aI g a14 40, (a15, .inr (1, [.ref a17, .ref a18, .int 0])), aI g a17 40, aI g a18 40, (a19, .inr (9, [.ref a21, .ref a22, .ref a23, .ref a24, .int 0, .ref a1, .ref a25, .ref a27, .ref a31, .ref a36, .ref a39, .ref a40])), aI g a21 2000, aI g a22 2000, aI g a23 2000, aI g a24 2000, (a25, .inr (2, [.ref a1, .ref a26])), aI g a26 2000, (a27, .inr (3, [.ref a1, .ref a25, .ref a28, .ref a29, .ref a30, .int 0, .int 0, .int 0, .int 0])), aI g a28 127, aI g a29 127, aZ g a30 127, (a31, .inr (4, [.ref a1, .ref a32, .int 0, .ref a33, .ref a34, .ref a35, .int 0])), aI g a32 2000, aI g a33 2000, aI g a34 2000, aI g a35 2000, (a36, .inr (5, [.ref a1, .ref a37, .ref a38, .int 0, .int 0, .int 0, .int 0])), aI g a37 2000, aI g a38 2000, (a39, .inr (6, [.ref a1, .ref a36])), (a40, .inr (7, [.ref a1, .ref a36, .ref a11, .ref a41, .ref a42, .int 0, .ref a43])), aI g a41 63, aI g a42 63, aI g a43 2000, (a44, .inr (8, [.ref a1, .ref (u45 0), .ref (u45 1), .ref (u45 2), .int 0])), aI g (u45 0) 2000, aI g (u45 1) 2000, aI g (u45 2) 2000] H locs := hI
  generalize u45 0 = a46 at hI
  generalize u45 1 = a47 at hI
  generalize u45 2 = a48 at hI
  refine q_putF M hI 0 rfl rfl i_BL t_BL t_BL_ok n_BL 4 (by decide) m2_102 rfl hnm rfl rfl rfl (Nat.le_of_ble_eq_true rfl) (w2 := [(a, .inr (10, [.ref a1, .ref a11, .ref a15, .ref a19, .ref a44, .int 0, .int 0])), (a1, .inr (0, [.ref a3, .ref a4, .ref a5, .ref a6, .ref a7, .int 0, .ref a8, .ref a9, .ref a10, .int 0])), aI g a3 2000, aI g a4 2000, aI g a5 2000, aI g a6 2000, aI g a7 2000, aI g a8 100, aI g a9 100, aI g a10 100, (a11, .inr (1, [.ref a13, .ref a14, .int 0])), aI g a13 40, aI g a14 40, (a15, .inr (1, [.ref a17, .ref a18, .int 0])), aI g a17 40, aI g a18 40, (a19, .inr (9, [.ref a21, .ref a22, .ref a23, .ref a24, .int 0, .ref a1, .ref a25, .ref a27, .ref a31, .ref a36, .ref a39, .ref a40])), aI g a21 2000, aI g a22 2000, aI g a23 2000, aI g a24 2000, (a25, .inr (2, [.ref a1, .ref a26])), aI g a26 2000, (a27, .inr (3, [.ref a1, .ref a25, .ref a28, .ref a29, .ref a30, .int 0, .int 0, .int 0, .int 0])), aI g a28 127, aI g a29 127, aZ g a30 127, (a31, .inr (4, [.ref a1, .ref a32, .int 0, .ref a33, .ref a34, .ref a35, .int 0])), aI g a32 2000, aI g a33 2000, aI g a34 2000, aI g a35 2000, (a36, .inr (5, [.ref a1, .ref a37, .ref a38, .int 0, .int 0, .int 0, .int 0])), aI g a37 2000, aI g a38 2000, (a39, .inr (6, [.ref a1, .ref a36])), (a40, .inr (7, [.ref a1, .ref a36, .ref a11, .ref a41, .ref a42, .int 0, .ref a43])), aI g a41 63, aI g a42 63, aI g a43 2000, (a44, .inr (8, [.ref a1, .ref a46, .ref a47, .ref a48, .int 0])), aI g a46 2000, aI g a47 2000, aI g a48 2000]) rfl d_BL_init_68 (fun H locs hI => ?_)
  refine lv_aload_n hx hb d_BL_init_71 rfl (lv_at hl 0 rfl) ?_
  refine lv_iconst (v := 0) hx hb d_BL_init_72 (by decide) ?_
  refine q_put M hI 0 rfl rfl i_BL t_BL t_BL_ok n_BL 5 (by decide) m2_103 rfl rfl rfl (Nat.le_of_ble_eq_true rfl) (w2 := [(a, .inr (10, [.ref a1, .ref a11, .ref a15, .ref a19, .ref a44, .int 0, .int 0])), (a1, .inr (0, [.ref a3, .ref a4, .ref a5, .ref a6, .ref a7, .int 0, .ref a8, .ref a9, .ref a10, .int 0])), aI g a3 2000, aI g a4 2000, aI g a5 2000, aI g a6 2000, aI g a7 2000, aI g a8 100, aI g a9 100, aI g a10 100, (a11, .inr (1, [.ref a13, .ref a14, .int 0])), aI g a13 40, aI g a14 40, (a15, .inr (1, [.ref a17, .ref a18, .int 0])), aI g a17 40, aI g a18 40, (a19, .inr (9, [.ref a21, .ref a22, .ref a23, .ref a24, .int 0, .ref a1, .ref a25, .ref a27, .ref a31, .ref a36, .ref a39, .ref a40])), aI g a21 2000, aI g a22 2000, aI g a23 2000, aI g a24 2000, (a25, .inr (2, [.ref a1, .ref a26])), aI g a26 2000, (a27, .inr (3, [.ref a1, .ref a25, .ref a28, .ref a29, .ref a30, .int 0, .int 0, .int 0, .int 0])), aI g a28 127, aI g a29 127, aZ g a30 127, (a31, .inr (4, [.ref a1, .ref a32, .int 0, .ref a33, .ref a34, .ref a35, .int 0])), aI g a32 2000, aI g a33 2000, aI g a34 2000, aI g a35 2000, (a36, .inr (5, [.ref a1, .ref a37, .ref a38, .int 0, .int 0, .int 0, .int 0])), aI g a37 2000, aI g a38 2000, (a39, .inr (6, [.ref a1, .ref a36])), (a40, .inr (7, [.ref a1, .ref a36, .ref a11, .ref a41, .ref a42, .int 0, .ref a43])), aI g a41 63, aI g a42 63, aI g a43 2000, (a44, .inr (8, [.ref a1, .ref a46, .ref a47, .ref a48, .int 0])), aI g a46 2000, aI g a47 2000, aI g a48 2000]) rfl d_BL_init_73 (fun H locs hI => ?_)
  refine lv_aload_n hx hb d_BL_init_76 rfl (lv_at hl 0 rfl) ?_
  refine lv_iconst (v := 0) hx hb d_BL_init_77 (by decide) ?_
  refine q_put M hI 0 rfl rfl i_BL t_BL t_BL_ok n_BL 6 (by decide) m2_104 rfl rfl rfl (Nat.le_of_ble_eq_true rfl) (w2 := [(a, .inr (10, [.ref a1, .ref a11, .ref a15, .ref a19, .ref a44, .int 0, .int 0])), (a1, .inr (0, [.ref a3, .ref a4, .ref a5, .ref a6, .ref a7, .int 0, .ref a8, .ref a9, .ref a10, .int 0])), aI g a3 2000, aI g a4 2000, aI g a5 2000, aI g a6 2000, aI g a7 2000, aI g a8 100, aI g a9 100, aI g a10 100, (a11, .inr (1, [.ref a13, .ref a14, .int 0])), aI g a13 40, aI g a14 40, (a15, .inr (1, [.ref a17, .ref a18, .int 0])), aI g a17 40, aI g a18 40, (a19, .inr (9, [.ref a21, .ref a22, .ref a23, .ref a24, .int 0, .ref a1, .ref a25, .ref a27, .ref a31, .ref a36, .ref a39, .ref a40])), aI g a21 2000, aI g a22 2000, aI g a23 2000, aI g a24 2000, (a25, .inr (2, [.ref a1, .ref a26])), aI g a26 2000, (a27, .inr (3, [.ref a1, .ref a25, .ref a28, .ref a29, .ref a30, .int 0, .int 0, .int 0, .int 0])), aI g a28 127, aI g a29 127, aZ g a30 127, (a31, .inr (4, [.ref a1, .ref a32, .int 0, .ref a33, .ref a34, .ref a35, .int 0])), aI g a32 2000, aI g a33 2000, aI g a34 2000, aI g a35 2000, (a36, .inr (5, [.ref a1, .ref a37, .ref a38, .int 0, .int 0, .int 0, .int 0])), aI g a37 2000, aI g a38 2000, (a39, .inr (6, [.ref a1, .ref a36])), (a40, .inr (7, [.ref a1, .ref a36, .ref a11, .ref a41, .ref a42, .int 0, .ref a43])), aI g a41 63, aI g a42 63, aI g a43 2000, (a44, .inr (8, [.ref a1, .ref a46, .ref a47, .ref a48, .int 0])), aI g a46 2000, aI g a47 2000, aI g a48 2000]) rfl d_BL_init_78 (fun H locs hI => ?_)
  exact hret (fun k => [a1, a3, a4, a5, a6, a7, a8, a9, a10, a11, a13, a14, a15, a17, a18, a19, a21, a22, a23, a24, a25, a26, a27, a28, a29, a30, a31, a32, a33, a34, a35, a36, a37, a38, a39, a40, a41, a42, a43, a44, a46, a47, a48].getD k 0) _ _ _ _ _ _ d_BL_init_81 hI trivial (Nat.le_of_ble_eq_true rfl) (Nat.le_of_ble_eq_true rfl)
abbrev rm_MD_init : Room := { frames := 1, cells := 22, slots := 28914, locals := 20 }
set_option maxHeartbeats 4000000 in
set_option maxRecDepth 100000 in
theorem c_MD_init (l : Launch) (g : Geo) (a : Nat) : cMv l y_MD_init (.code y_MD_init b_MD_init 1 none :: gw) rm_MD_init g [.ref a] [(a, .inr (11, [.int 0, .int 0, .null, .int 0, .null, .null, .null, .int 0, .null, .null, .int 0, .null, .null, .int 0, .null, .null, .null, .null, .null, .int 0, .null, .int 0, .null, .null, .null, .int 0, .null, .int 0, .int 0, .int 0, .int 0, .null, .null, .int 0, .int 0, .null, .null]))] (fun (_ : Nat → Nat) => True) (fun (u : Nat → Nat) => [(a, .inr (11, [.int 0, .int 0, .ref (u 0), .int 0, .ref (u 1), .ref (u 2), .ref (u 3), .int 0, .ref (u 4), .ref (u 5), .int 0, .ref (u 6), .ref (u 7), .int 0, .ref (u 8), .ref (u 9), .ref (u 10), .ref (u 11), .ref (u 12), .int 0, .ref (u 13), .int 0, .ref (u 14), .ref (u 15), .ref (u 16), .int 0, .ref (u 17), .int 0, .int 0, .int 0, .int 0, .ref (u 18), .ref (u 19), .int 0, .int 0, .ref (u 20), .ref (u 21)])), aI g (u 0) 2000, aI g (u 1) 100, aI g (u 2) 100, aI g (u 3) 100, aI g (u 4) 40, aI g (u 5) 40, aI g (u 6) 40, aI g (u 7) 40, aI g (u 8) 2000, aI g (u 9) 2000, aI g (u 10) 2000, aI g (u 11) 2000, aI g (u 12) 2000, aI g (u 13) 8000, aI g (u 14) 130, aI g (u 15) 130, aZ g (u 16) 130, aI g (u 17) 2000, aI g (u 18) 64, aI g (u 19) 2000, aI g (u 20) 2000, aI g (u 21) 2000]) 22 28914 := by
  refine cMv_of (by decide) (Nat.le_of_ble_eq_true rfl) ?_
  intro p e s m below meth c A Q ls M hnm hret hl hI
  have hnm : meth.name = "<init>" := hnm
  have hl : lv_has ls 1 [(0, .ref a)] := hl
  have M : MC p s m ([.ref a] : List Value).toArray meth c R_MD b_MD_init 1 := M
  generalize ([.ref a] : List Value).toArray = args at M hret ⊢
  have hx := M.1
  have hb := M.2.1
  obtain ⟨H, hH⟩ : ∃ H, H = s.heap := ⟨_, rfl⟩
  rw [← hH] at hI ⊢
  obtain ⟨locs, hlc⟩ : ∃ locs : List Loc, locs = [] := ⟨_, rfl⟩
  rw [← hlc] at hI ⊢
  refine lv_aload_n hx hb d_MD_init_0 rfl (lv_at hl 0 rfl) ?_
  refine q_objI M m4_171 hl.1 ⟨(Nat.le_of_ble_eq_true rfl), (Nat.le_of_ble_eq_true rfl)⟩ (Nat.le_of_ble_eq_true rfl) d_MD_init_1 ?_
  refine lv_aload_n hx hb d_MD_init_4 rfl (lv_at hl 0 rfl) ?_
  refine lv_sipush (v := 2000) hx hb d_MD_init_5 (by decide) ?_
  refine q_newI M hI 2000 (by decide) (by decide) (by decide) ⟨(Nat.le_of_ble_eq_true rfl), (Nat.le_of_ble_eq_true rfl)⟩ d_MD_init_8 (fun a1 H hI => ?_)
  have hI : CI g A s [(a, .inr (11, [.int 0, .int 0, .null, .int 0, .null, .null, .null, .int 0, .null, .null, .int 0, .null, .null, .int 0, .null, .null, .null, .null, .null, .int 0, .null, .int 0, .null, .null, .null, .int 0, .null, .int 0, .int 0, .int 0, .int 0, .null, .null, .int 0, .int 0, .null, .null])), aI g a1 2000] H locs := hI
  refine q_putF M hI 0 rfl rfl i_MD t_MD t_MD_ok n_MD 2 (by decide) m4_174 rfl hnm rfl rfl rfl (Nat.le_of_ble_eq_true rfl) (w2 := [(a, .inr (11, [.int 0, .int 0, .ref a1, .int 0, .null, .null, .null, .int 0, .null, .null, .int 0, .null, .null, .int 0, .null, .null, .null, .null, .null, .int 0, .null, .int 0, .null, .null, .null, .int 0, .null, .int 0, .int 0, .int 0, .int 0, .null, .null, .int 0, .int 0, .null, .null])), aI g a1 2000]) rfl d_MD_init_10 (fun H locs hI => ?_)
  refine lv_aload_n hx hb d_MD_init_13 rfl (lv_at hl 0 rfl) ?_
  refine lv_bipush (v := 100) hx hb d_MD_init_14 (by decide) ?_
  refine q_newI M hI 100 (by decide) (by decide) (by decide) ⟨(Nat.le_of_ble_eq_true rfl), (Nat.le_of_ble_eq_true rfl)⟩ d_MD_init_16 (fun a2 H hI => ?_)
  have hI : CI g A s [(a, .inr (11, [.int 0, .int 0, .ref a1, .int 0, .null, .null, .null, .int 0, .null, .null, .int 0, .null, .null, .int 0, .null, .null, .null, .null, .null, .int 0, .null, .int 0, .null, .null, .null, .int 0, .null, .int 0, .int 0, .int 0, .int 0, .null, .null, .int 0, .int 0, .null, .null])), aI g a1 2000, aI g a2 100] H locs := hI
  refine q_putF M hI 0 rfl rfl i_MD t_MD t_MD_ok n_MD 4 (by decide) m4_176 rfl hnm rfl rfl rfl (Nat.le_of_ble_eq_true rfl) (w2 := [(a, .inr (11, [.int 0, .int 0, .ref a1, .int 0, .ref a2, .null, .null, .int 0, .null, .null, .int 0, .null, .null, .int 0, .null, .null, .null, .null, .null, .int 0, .null, .int 0, .null, .null, .null, .int 0, .null, .int 0, .int 0, .int 0, .int 0, .null, .null, .int 0, .int 0, .null, .null])), aI g a1 2000, aI g a2 100]) rfl d_MD_init_18 (fun H locs hI => ?_)
  refine lv_aload_n hx hb d_MD_init_21 rfl (lv_at hl 0 rfl) ?_
  refine lv_bipush (v := 100) hx hb d_MD_init_22 (by decide) ?_
  refine q_newI M hI 100 (by decide) (by decide) (by decide) ⟨(Nat.le_of_ble_eq_true rfl), (Nat.le_of_ble_eq_true rfl)⟩ d_MD_init_24 (fun a3 H hI => ?_)
  have hI : CI g A s [(a, .inr (11, [.int 0, .int 0, .ref a1, .int 0, .ref a2, .null, .null, .int 0, .null, .null, .int 0, .null, .null, .int 0, .null, .null, .null, .null, .null, .int 0, .null, .int 0, .null, .null, .null, .int 0, .null, .int 0, .int 0, .int 0, .int 0, .null, .null, .int 0, .int 0, .null, .null])), aI g a1 2000, aI g a2 100, aI g a3 100] H locs := hI
  refine q_putF M hI 0 rfl rfl i_MD t_MD t_MD_ok n_MD 5 (by decide) m4_177 rfl hnm rfl rfl rfl (Nat.le_of_ble_eq_true rfl) (w2 := [(a, .inr (11, [.int 0, .int 0, .ref a1, .int 0, .ref a2, .ref a3, .null, .int 0, .null, .null, .int 0, .null, .null, .int 0, .null, .null, .null, .null, .null, .int 0, .null, .int 0, .null, .null, .null, .int 0, .null, .int 0, .int 0, .int 0, .int 0, .null, .null, .int 0, .int 0, .null, .null])), aI g a1 2000, aI g a2 100, aI g a3 100]) rfl d_MD_init_26 (fun H locs hI => ?_)
  refine lv_aload_n hx hb d_MD_init_29 rfl (lv_at hl 0 rfl) ?_
  refine lv_bipush (v := 100) hx hb d_MD_init_30 (by decide) ?_
  refine q_newI M hI 100 (by decide) (by decide) (by decide) ⟨(Nat.le_of_ble_eq_true rfl), (Nat.le_of_ble_eq_true rfl)⟩ d_MD_init_32 (fun a4 H hI => ?_)
  have hI : CI g A s [(a, .inr (11, [.int 0, .int 0, .ref a1, .int 0, .ref a2, .ref a3, .null, .int 0, .null, .null, .int 0, .null, .null, .int 0, .null, .null, .null, .null, .null, .int 0, .null, .int 0, .null, .null, .null, .int 0, .null, .int 0, .int 0, .int 0, .int 0, .null, .null, .int 0, .int 0, .null, .null])), aI g a1 2000, aI g a2 100, aI g a3 100, aI g a4 100] H locs := hI
  refine q_putF M hI 0 rfl rfl i_MD t_MD t_MD_ok n_MD 6 (by decide) m4_178 rfl hnm rfl rfl rfl (Nat.le_of_ble_eq_true rfl) (w2 := [(a, .inr (11, [.int 0, .int 0, .ref a1, .int 0, .ref a2, .ref a3, .ref a4, .int 0, .null, .null, .int 0, .null, .null, .int 0, .null, .null, .null, .null, .null, .int 0, .null, .int 0, .null, .null, .null, .int 0, .null, .int 0, .int 0, .int 0, .int 0, .null, .null, .int 0, .int 0, .null, .null])), aI g a1 2000, aI g a2 100, aI g a3 100, aI g a4 100]) rfl d_MD_init_34 (fun H locs hI => ?_)
  refine lv_aload_n hx hb d_MD_init_37 rfl (lv_at hl 0 rfl) ?_
  refine lv_bipush (v := 40) hx hb d_MD_init_38 (by decide) ?_
  refine q_newI M hI 40 (by decide) (by decide) (by decide) ⟨(Nat.le_of_ble_eq_true rfl), (Nat.le_of_ble_eq_true rfl)⟩ d_MD_init_40 (fun a5 H hI => ?_)
  have hI : CI g A s [(a, .inr (11, [.int 0, .int 0, .ref a1, .int 0, .ref a2, .ref a3, .ref a4, .int 0, .null, .null, .int 0, .null, .null, .int 0, .null, .null, .null, .null, .null, .int 0, .null, .int 0, .null, .null, .null, .int 0, .null, .int 0, .int 0, .int 0, .int 0, .null, .null, .int 0, .int 0, .null, .null])), aI g a1 2000, aI g a2 100, aI g a3 100, aI g a4 100, aI g a5 40] H locs := hI
  refine q_putF M hI 0 rfl rfl i_MD t_MD t_MD_ok n_MD 8 (by decide) m4_180 rfl hnm rfl rfl rfl (Nat.le_of_ble_eq_true rfl) (w2 := [(a, .inr (11, [.int 0, .int 0, .ref a1, .int 0, .ref a2, .ref a3, .ref a4, .int 0, .ref a5, .null, .int 0, .null, .null, .int 0, .null, .null, .null, .null, .null, .int 0, .null, .int 0, .null, .null, .null, .int 0, .null, .int 0, .int 0, .int 0, .int 0, .null, .null, .int 0, .int 0, .null, .null])), aI g a1 2000, aI g a2 100, aI g a3 100, aI g a4 100, aI g a5 40]) rfl d_MD_init_42 (fun H locs hI => ?_)
  refine lv_aload_n hx hb d_MD_init_45 rfl (lv_at hl 0 rfl) ?_
  refine lv_bipush (v := 40) hx hb d_MD_init_46 (by decide) ?_
  refine q_newI M hI 40 (by decide) (by decide) (by decide) ⟨(Nat.le_of_ble_eq_true rfl), (Nat.le_of_ble_eq_true rfl)⟩ d_MD_init_48 (fun a6 H hI => ?_)
  have hI : CI g A s [(a, .inr (11, [.int 0, .int 0, .ref a1, .int 0, .ref a2, .ref a3, .ref a4, .int 0, .ref a5, .null, .int 0, .null, .null, .int 0, .null, .null, .null, .null, .null, .int 0, .null, .int 0, .null, .null, .null, .int 0, .null, .int 0, .int 0, .int 0, .int 0, .null, .null, .int 0, .int 0, .null, .null])), aI g a1 2000, aI g a2 100, aI g a3 100, aI g a4 100, aI g a5 40, aI g a6 40] H locs := hI
  refine q_putF M hI 0 rfl rfl i_MD t_MD t_MD_ok n_MD 9 (by decide) m4_181 rfl hnm rfl rfl rfl (Nat.le_of_ble_eq_true rfl) (w2 := [(a, .inr (11, [.int 0, .int 0, .ref a1, .int 0, .ref a2, .ref a3, .ref a4, .int 0, .ref a5, .ref a6, .int 0, .null, .null, .int 0, .null, .null, .null, .null, .null, .int 0, .null, .int 0, .null, .null, .null, .int 0, .null, .int 0, .int 0, .int 0, .int 0, .null, .null, .int 0, .int 0, .null, .null])), aI g a1 2000, aI g a2 100, aI g a3 100, aI g a4 100, aI g a5 40, aI g a6 40]) rfl d_MD_init_50 (fun H locs hI => ?_)
  refine lv_aload_n hx hb d_MD_init_53 rfl (lv_at hl 0 rfl) ?_
  refine lv_bipush (v := 40) hx hb d_MD_init_54 (by decide) ?_
  refine q_newI M hI 40 (by decide) (by decide) (by decide) ⟨(Nat.le_of_ble_eq_true rfl), (Nat.le_of_ble_eq_true rfl)⟩ d_MD_init_56 (fun a7 H hI => ?_)
  have hI : CI g A s [(a, .inr (11, [.int 0, .int 0, .ref a1, .int 0, .ref a2, .ref a3, .ref a4, .int 0, .ref a5, .ref a6, .int 0, .null, .null, .int 0, .null, .null, .null, .null, .null, .int 0, .null, .int 0, .null, .null, .null, .int 0, .null, .int 0, .int 0, .int 0, .int 0, .null, .null, .int 0, .int 0, .null, .null])), aI g a1 2000, aI g a2 100, aI g a3 100, aI g a4 100, aI g a5 40, aI g a6 40, aI g a7 40] H locs := hI
  refine q_putF M hI 0 rfl rfl i_MD t_MD t_MD_ok n_MD 11 (by decide) m4_183 rfl hnm rfl rfl rfl (Nat.le_of_ble_eq_true rfl) (w2 := [(a, .inr (11, [.int 0, .int 0, .ref a1, .int 0, .ref a2, .ref a3, .ref a4, .int 0, .ref a5, .ref a6, .int 0, .ref a7, .null, .int 0, .null, .null, .null, .null, .null, .int 0, .null, .int 0, .null, .null, .null, .int 0, .null, .int 0, .int 0, .int 0, .int 0, .null, .null, .int 0, .int 0, .null, .null])), aI g a1 2000, aI g a2 100, aI g a3 100, aI g a4 100, aI g a5 40, aI g a6 40, aI g a7 40]) rfl d_MD_init_58 (fun H locs hI => ?_)
  refine lv_aload_n hx hb d_MD_init_61 rfl (lv_at hl 0 rfl) ?_
  refine lv_bipush (v := 40) hx hb d_MD_init_62 (by decide) ?_
  refine q_newI M hI 40 (by decide) (by decide) (by decide) ⟨(Nat.le_of_ble_eq_true rfl), (Nat.le_of_ble_eq_true rfl)⟩ d_MD_init_64 (fun a8 H hI => ?_)
  have hI : CI g A s [(a, .inr (11, [.int 0, .int 0, .ref a1, .int 0, .ref a2, .ref a3, .ref a4, .int 0, .ref a5, .ref a6, .int 0, .ref a7, .null, .int 0, .null, .null, .null, .null, .null, .int 0, .null, .int 0, .null, .null, .null, .int 0, .null, .int 0, .int 0, .int 0, .int 0, .null, .null, .int 0, .int 0, .null, .null])), aI g a1 2000, aI g a2 100, aI g a3 100, aI g a4 100, aI g a5 40, aI g a6 40, aI g a7 40, aI g a8 40] H locs := hI
  refine q_putF M hI 0 rfl rfl i_MD t_MD t_MD_ok n_MD 12 (by decide) m4_184 rfl hnm rfl rfl rfl (Nat.le_of_ble_eq_true rfl) (w2 := [(a, .inr (11, [.int 0, .int 0, .ref a1, .int 0, .ref a2, .ref a3, .ref a4, .int 0, .ref a5, .ref a6, .int 0, .ref a7, .ref a8, .int 0, .null, .null, .null, .null, .null, .int 0, .null, .int 0, .null, .null, .null, .int 0, .null, .int 0, .int 0, .int 0, .int 0, .null, .null, .int 0, .int 0, .null, .null])), aI g a1 2000, aI g a2 100, aI g a3 100, aI g a4 100, aI g a5 40, aI g a6 40, aI g a7 40, aI g a8 40]) rfl d_MD_init_66 (fun H locs hI => ?_)
  refine lv_aload_n hx hb d_MD_init_69 rfl (lv_at hl 0 rfl) ?_
  refine lv_sipush (v := 2000) hx hb d_MD_init_70 (by decide) ?_
  refine q_newI M hI 2000 (by decide) (by decide) (by decide) ⟨(Nat.le_of_ble_eq_true rfl), (Nat.le_of_ble_eq_true rfl)⟩ d_MD_init_73 (fun a9 H hI => ?_)
  have hI : CI g A s [(a, .inr (11, [.int 0, .int 0, .ref a1, .int 0, .ref a2, .ref a3, .ref a4, .int 0, .ref a5, .ref a6, .int 0, .ref a7, .ref a8, .int 0, .null, .null, .null, .null, .null, .int 0, .null, .int 0, .null, .null, .null, .int 0, .null, .int 0, .int 0, .int 0, .int 0, .null, .null, .int 0, .int 0, .null, .null])), aI g a1 2000, aI g a2 100, aI g a3 100, aI g a4 100, aI g a5 40, aI g a6 40, aI g a7 40, aI g a8 40, aI g a9 2000] H locs := hI
  refine q_putF M hI 0 rfl rfl i_MD t_MD t_MD_ok n_MD 14 (by decide) m4_186 rfl hnm rfl rfl rfl (Nat.le_of_ble_eq_true rfl) (w2 := [(a, .inr (11, [.int 0, .int 0, .ref a1, .int 0, .ref a2, .ref a3, .ref a4, .int 0, .ref a5, .ref a6, .int 0, .ref a7, .ref a8, .int 0, .ref a9, .null, .null, .null, .null, .int 0, .null, .int 0, .null, .null, .null, .int 0, .null, .int 0, .int 0, .int 0, .int 0, .null, .null, .int 0, .int 0, .null, .null])), aI g a1 2000, aI g a2 100, aI g a3 100, aI g a4 100, aI g a5 40, aI g a6 40, aI g a7 40, aI g a8 40, aI g a9 2000]) rfl d_MD_init_75 (fun H locs hI => ?_)
  refine lv_aload_n hx hb d_MD_init_78 rfl (lv_at hl 0 rfl) ?_
  refine lv_sipush (v := 2000) hx hb d_MD_init_79 (by decide) ?_
  refine q_newI M hI 2000 (by decide) (by decide) (by decide) ⟨(Nat.le_of_ble_eq_true rfl), (Nat.le_of_ble_eq_true rfl)⟩ d_MD_init_82 (fun a10 H hI => ?_)
  have hI : CI g A s [(a, .inr (11, [.int 0, .int 0, .ref a1, .int 0, .ref a2, .ref a3, .ref a4, .int 0, .ref a5, .ref a6, .int 0, .ref a7, .ref a8, .int 0, .ref a9, .null, .null, .null, .null, .int 0, .null, .int 0, .null, .null, .null, .int 0, .null, .int 0, .int 0, .int 0, .int 0, .null, .null, .int 0, .int 0, .null, .null])), aI g a1 2000, aI g a2 100, aI g a3 100, aI g a4 100, aI g a5 40, aI g a6 40, aI g a7 40, aI g a8 40, aI g a9 2000, aI g a10 2000] H locs := hI
  refine q_putF M hI 0 rfl rfl i_MD t_MD t_MD_ok n_MD 15 (by decide) m4_187 rfl hnm rfl rfl rfl (Nat.le_of_ble_eq_true rfl) (w2 := [(a, .inr (11, [.int 0, .int 0, .ref a1, .int 0, .ref a2, .ref a3, .ref a4, .int 0, .ref a5, .ref a6, .int 0, .ref a7, .ref a8, .int 0, .ref a9, .ref a10, .null, .null, .null, .int 0, .null, .int 0, .null, .null, .null, .int 0, .null, .int 0, .int 0, .int 0, .int 0, .null, .null, .int 0, .int 0, .null, .null])), aI g a1 2000, aI g a2 100, aI g a3 100, aI g a4 100, aI g a5 40, aI g a6 40, aI g a7 40, aI g a8 40, aI g a9 2000, aI g a10 2000]) rfl d_MD_init_84 (fun H locs hI => ?_)
  refine lv_aload_n hx hb d_MD_init_87 rfl (lv_at hl 0 rfl) ?_
  refine lv_sipush (v := 2000) hx hb d_MD_init_88 (by decide) ?_
  refine q_newI M hI 2000 (by decide) (by decide) (by decide) ⟨(Nat.le_of_ble_eq_true rfl), (Nat.le_of_ble_eq_true rfl)⟩ d_MD_init_91 (fun a11 H hI => ?_)
  have hI : CI g A s [(a, .inr (11, [.int 0, .int 0, .ref a1, .int 0, .ref a2, .ref a3, .ref a4, .int 0, .ref a5, .ref a6, .int 0, .ref a7, .ref a8, .int 0, .ref a9, .ref a10, .null, .null, .null, .int 0, .null, .int 0, .null, .null, .null, .int 0, .null, .int 0, .int 0, .int 0, .int 0, .null, .null, .int 0, .int 0, .null, .null])), aI g a1 2000, aI g a2 100, aI g a3 100, aI g a4 100, aI g a5 40, aI g a6 40, aI g a7 40, aI g a8 40, aI g a9 2000, aI g a10 2000, aI g a11 2000] H locs := hI
  refine q_putF M hI 0 rfl rfl i_MD t_MD t_MD_ok n_MD 16 (by decide) m4_188 rfl hnm rfl rfl rfl (Nat.le_of_ble_eq_true rfl) (w2 := [(a, .inr (11, [.int 0, .int 0, .ref a1, .int 0, .ref a2, .ref a3, .ref a4, .int 0, .ref a5, .ref a6, .int 0, .ref a7, .ref a8, .int 0, .ref a9, .ref a10, .ref a11, .null, .null, .int 0, .null, .int 0, .null, .null, .null, .int 0, .null, .int 0, .int 0, .int 0, .int 0, .null, .null, .int 0, .int 0, .null, .null])), aI g a1 2000, aI g a2 100, aI g a3 100, aI g a4 100, aI g a5 40, aI g a6 40, aI g a7 40, aI g a8 40, aI g a9 2000, aI g a10 2000, aI g a11 2000]) rfl d_MD_init_93 (fun H locs hI => ?_)
  refine lv_aload_n hx hb d_MD_init_96 rfl (lv_at hl 0 rfl) ?_
  refine lv_sipush (v := 2000) hx hb d_MD_init_97 (by decide) ?_
  refine q_newI M hI 2000 (by decide) (by decide) (by decide) ⟨(Nat.le_of_ble_eq_true rfl), (Nat.le_of_ble_eq_true rfl)⟩ d_MD_init_100 (fun a12 H hI => ?_)
  have hI : CI g A s [(a, .inr (11, [.int 0, .int 0, .ref a1, .int 0, .ref a2, .ref a3, .ref a4, .int 0, .ref a5, .ref a6, .int 0, .ref a7, .ref a8, .int 0, .ref a9, .ref a10, .ref a11, .null, .null, .int 0, .null, .int 0, .null, .null, .null, .int 0, .null, .int 0, .int 0, .int 0, .int 0, .null, .null, .int 0, .int 0, .null, .null])), aI g a1 2000, aI g a2 100, aI g a3 100, aI g a4 100, aI g a5 40, aI g a6 40, aI g a7 40, aI g a8 40, aI g a9 2000, aI g a10 2000, aI g a11 2000, aI g a12 2000] H locs := hI
  refine q_putF M hI 0 rfl rfl i_MD t_MD t_MD_ok n_MD 17 (by decide) m4_189 rfl hnm rfl rfl rfl (Nat.le_of_ble_eq_true rfl) (w2 := [(a, .inr (11, [.int 0, .int 0, .ref a1, .int 0, .ref a2, .ref a3, .ref a4, .int 0, .ref a5, .ref a6, .int 0, .ref a7, .ref a8, .int 0, .ref a9, .ref a10, .ref a11, .ref a12, .null, .int 0, .null, .int 0, .null, .null, .null, .int 0, .null, .int 0, .int 0, .int 0, .int 0, .null, .null, .int 0, .int 0, .null, .null])), aI g a1 2000, aI g a2 100, aI g a3 100, aI g a4 100, aI g a5 40, aI g a6 40, aI g a7 40, aI g a8 40, aI g a9 2000, aI g a10 2000, aI g a11 2000, aI g a12 2000]) rfl d_MD_init_102 (fun H locs hI => ?_)
  refine lv_aload_n hx hb d_MD_init_105 rfl (lv_at hl 0 rfl) ?_
  refine lv_sipush (v := 2000) hx hb d_MD_init_106 (by decide) ?_
  refine q_newI M hI 2000 (by decide) (by decide) (by decide) ⟨(Nat.le_of_ble_eq_true rfl), (Nat.le_of_ble_eq_true rfl)⟩ d_MD_init_109 (fun a13 H hI => ?_)
  have hI : CI g A s [(a, .inr (11, [.int 0, .int 0, .ref a1, .int 0, .ref a2, .ref a3, .ref a4, .int 0, .ref a5, .ref a6, .int 0, .ref a7, .ref a8, .int 0, .ref a9, .ref a10, .ref a11, .ref a12, .null, .int 0, .null, .int 0, .null, .null, .null, .int 0, .null, .int 0, .int 0, .int 0, .int 0, .null, .null, .int 0, .int 0, .null, .null])), aI g a1 2000, aI g a2 100, aI g a3 100, aI g a4 100, aI g a5 40, aI g a6 40, aI g a7 40, aI g a8 40, aI g a9 2000, aI g a10 2000, aI g a11 2000, aI g a12 2000, aI g a13 2000] H locs := hI
  refine q_putF M hI 0 rfl rfl i_MD t_MD t_MD_ok n_MD 18 (by decide) m4_190 rfl hnm rfl rfl rfl (Nat.le_of_ble_eq_true rfl) (w2 := [(a, .inr (11, [.int 0, .int 0, .ref a1, .int 0, .ref a2, .ref a3, .ref a4, .int 0, .ref a5, .ref a6, .int 0, .ref a7, .ref a8, .int 0, .ref a9, .ref a10, .ref a11, .ref a12, .ref a13, .int 0, .null, .int 0, .null, .null, .null, .int 0, .null, .int 0, .int 0, .int 0, .int 0, .null, .null, .int 0, .int 0, .null, .null])), aI g a1 2000, aI g a2 100, aI g a3 100, aI g a4 100, aI g a5 40, aI g a6 40, aI g a7 40, aI g a8 40, aI g a9 2000, aI g a10 2000, aI g a11 2000, aI g a12 2000, aI g a13 2000]) rfl d_MD_init_111 (fun H locs hI => ?_)
  refine lv_aload_n hx hb d_MD_init_114 rfl (lv_at hl 0 rfl) ?_
  refine lv_sipush (v := 8000) hx hb d_MD_init_115 (by decide) ?_
  refine q_newI M hI 8000 (by decide) (by decide) (by decide) ⟨(Nat.le_of_ble_eq_true rfl), (Nat.le_of_ble_eq_true rfl)⟩ d_MD_init_118 (fun a14 H hI => ?_)
  have hI : CI g A s [(a, .inr (11, [.int 0, .int 0, .ref a1, .int 0, .ref a2, .ref a3, .ref a4, .int 0, .ref a5, .ref a6, .int 0, .ref a7, .ref a8, .int 0, .ref a9, .ref a10, .ref a11, .ref a12, .ref a13, .int 0, .null, .int 0, .null, .null, .null, .int 0, .null, .int 0, .int 0, .int 0, .int 0, .null, .null, .int 0, .int 0, .null, .null])), aI g a1 2000, aI g a2 100, aI g a3 100, aI g a4 100, aI g a5 40, aI g a6 40, aI g a7 40, aI g a8 40, aI g a9 2000, aI g a10 2000, aI g a11 2000, aI g a12 2000, aI g a13 2000, aI g a14 8000] H locs := hI
  refine q_putF M hI 0 rfl rfl i_MD t_MD t_MD_ok n_MD 20 (by decide) m4_192 rfl hnm rfl rfl rfl (Nat.le_of_ble_eq_true rfl) (w2 := [(a, .inr (11, [.int 0, .int 0, .ref a1, .int 0, .ref a2, .ref a3, .ref a4, .int 0, .ref a5, .ref a6, .int 0, .ref a7, .ref a8, .int 0, .ref a9, .ref a10, .ref a11, .ref a12, .ref a13, .int 0, .ref a14, .int 0, .null, .null, .null, .int 0, .null, .int 0, .int 0, .int 0, .int 0, .null, .null, .int 0, .int 0, .null, .null])), aI g a1 2000, aI g a2 100, aI g a3 100, aI g a4 100, aI g a5 40, aI g a6 40, aI g a7 40, aI g a8 40, aI g a9 2000, aI g a10 2000, aI g a11 2000, aI g a12 2000, aI g a13 2000, aI g a14 8000]) rfl d_MD_init_120 (fun H locs hI => ?_)
  refine lv_aload_n hx hb d_MD_init_123 rfl (lv_at hl 0 rfl) ?_
  refine lv_sipush (v := 130) hx hb d_MD_init_124 (by decide) ?_
  refine q_newI M hI 130 (by decide) (by decide) (by decide) ⟨(Nat.le_of_ble_eq_true rfl), (Nat.le_of_ble_eq_true rfl)⟩ d_MD_init_127 (fun a15 H hI => ?_)
  have hI : CI g A s [(a, .inr (11, [.int 0, .int 0, .ref a1, .int 0, .ref a2, .ref a3, .ref a4, .int 0, .ref a5, .ref a6, .int 0, .ref a7, .ref a8, .int 0, .ref a9, .ref a10, .ref a11, .ref a12, .ref a13, .int 0, .ref a14, .int 0, .null, .null, .null, .int 0, .null, .int 0, .int 0, .int 0, .int 0, .null, .null, .int 0, .int 0, .null, .null])), aI g a1 2000, aI g a2 100, aI g a3 100, aI g a4 100, aI g a5 40, aI g a6 40, aI g a7 40, aI g a8 40, aI g a9 2000, aI g a10 2000, aI g a11 2000, aI g a12 2000, aI g a13 2000, aI g a14 8000, aI g a15 130] H locs := hI
  refine q_putF M hI 0 rfl rfl i_MD t_MD t_MD_ok n_MD 22 (by decide) m4_194 rfl hnm rfl rfl rfl (Nat.le_of_ble_eq_true rfl) (w2 := [(a, .inr (11, [.int 0, .int 0, .ref a1, .int 0, .ref a2, .ref a3, .ref a4, .int 0, .ref a5, .ref a6, .int 0, .ref a7, .ref a8, .int 0, .ref a9, .ref a10, .ref a11, .ref a12, .ref a13, .int 0, .ref a14, .int 0, .ref a15, .null, .null, .int 0, .null, .int 0, .int 0, .int 0, .int 0, .null, .null, .int 0, .int 0, .null, .null])), aI g a1 2000, aI g a2 100, aI g a3 100, aI g a4 100, aI g a5 40, aI g a6 40, aI g a7 40, aI g a8 40, aI g a9 2000, aI g a10 2000, aI g a11 2000, aI g a12 2000, aI g a13 2000, aI g a14 8000, aI g a15 130]) rfl d_MD_init_129 (fun H locs hI => ?_)
  refine lv_aload_n hx hb d_MD_init_132 rfl (lv_at hl 0 rfl) ?_
  refine lv_sipush (v := 130) hx hb d_MD_init_133 (by decide) ?_
  refine q_newI M hI 130 (by decide) (by decide) (by decide) ⟨(Nat.le_of_ble_eq_true rfl), (Nat.le_of_ble_eq_true rfl)⟩ d_MD_init_136 (fun a16 H hI => ?_)
  have hI : CI g A s [(a, .inr (11, [.int 0, .int 0, .ref a1, .int 0, .ref a2, .ref a3, .ref a4, .int 0, .ref a5, .ref a6, .int 0, .ref a7, .ref a8, .int 0, .ref a9, .ref a10, .ref a11, .ref a12, .ref a13, .int 0, .ref a14, .int 0, .ref a15, .null, .null, .int 0, .null, .int 0, .int 0, .int 0, .int 0, .null, .null, .int 0, .int 0, .null, .null])), aI g a1 2000, aI g a2 100, aI g a3 100, aI g a4 100, aI g a5 40, aI g a6 40, aI g a7 40, aI g a8 40, aI g a9 2000, aI g a10 2000, aI g a11 2000, aI g a12 2000, aI g a13 2000, aI g a14 8000, aI g a15 130, aI g a16 130] H locs := hI
  refine q_putF M hI 0 rfl rfl i_MD t_MD t_MD_ok n_MD 23 (by decide) m4_195 rfl hnm rfl rfl rfl (Nat.le_of_ble_eq_true rfl) (w2 := [(a, .inr (11, [.int 0, .int 0, .ref a1, .int 0, .ref a2, .ref a3, .ref a4, .int 0, .ref a5, .ref a6, .int 0, .ref a7, .ref a8, .int 0, .ref a9, .ref a10, .ref a11, .ref a12, .ref a13, .int 0, .ref a14, .int 0, .ref a15, .ref a16, .null, .int 0, .null, .int 0, .int 0, .int 0, .int 0, .null, .null, .int 0, .int 0, .null, .null])), aI g a1 2000, aI g a2 100, aI g a3 100, aI g a4 100, aI g a5 40, aI g a6 40, aI g a7 40, aI g a8 40, aI g a9 2000, aI g a10 2000, aI g a11 2000, aI g a12 2000, aI g a13 2000, aI g a14 8000, aI g a15 130, aI g a16 130]) rfl d_MD_init_138 (fun H locs hI => ?_)
  refine lv_aload_n hx hb d_MD_init_141 rfl (lv_at hl 0 rfl) ?_
  refine lv_sipush (v := 130) hx hb d_MD_init_142 (by decide) ?_
  refine q_newZ M hI 130 (by decide) (by decide) (by decide) ⟨(Nat.le_of_ble_eq_true rfl), (Nat.le_of_ble_eq_true rfl)⟩ d_MD_init_145 (fun a17 H hI => ?_)
  have hI : CI g A s [(a, .inr (11, [.int 0, .int 0, .ref a1, .int 0, .ref a2, .ref a3, .ref a4, .int 0, .ref a5, .ref a6, .int 0, .ref a7, .ref a8, .int 0, .ref a9, .ref a10, .ref a11, .ref a12, .ref a13, .int 0, .ref a14, .int 0, .ref a15, .ref a16, .null, .int 0, .null, .int 0, .int 0, .int 0, .int 0, .null, .null, .int 0, .int 0, .null, .null])), aI g a1 2000, aI g a2 100, aI g a3 100, aI g a4 100, aI g a5 40, aI g a6 40, aI g a7 40, aI g a8 40, aI g a9 2000, aI g a10 2000, aI g a11 2000, aI g a12 2000, aI g a13 2000, aI g a14 8000, aI g a15 130, aI g a16 130, aZ g a17 130] H locs := hI
  refine q_putF M hI 0 rfl rfl i_MD t_MD t_MD_ok n_MD 24 (by decide) m4_196 rfl hnm rfl rfl rfl (Nat.le_of_ble_eq_true rfl) (w2 := [(a, .inr (11, [.int 0, .int 0, .ref a1, .int 0, .ref a2, .ref a3, .ref a4, .int 0, .ref a5, .ref a6, .int 0, .ref a7, .ref a8, .int 0, .ref a9, .ref a10, .ref a11, .ref a12, .ref a13, .int 0, .ref a14, .int 0, .ref a15, .ref a16, .ref a17, .int 0, .null, .int 0, .int 0, .int 0, .int 0, .null, .null, .int 0, .int 0, .null, .null])), aI g a1 2000, aI g a2 100, aI g a3 100, aI g a4 100, aI g a5 40, aI g a6 40, aI g a7 40, aI g a8 40, aI g a9 2000, aI g a10 2000, aI g a11 2000, aI g a12 2000, aI g a13 2000, aI g a14 8000, aI g a15 130, aI g a16 130, aZ g a17 130]) rfl d_MD_init_147 (fun H locs hI => ?_)
  refine lv_aload_n hx hb d_MD_init_150 rfl (lv_at hl 0 rfl) ?_
  refine lv_sipush (v := 2000) hx hb d_MD_init_151 (by decide) ?_
  refine q_newI M hI 2000 (by decide) (by decide) (by decide) ⟨(Nat.le_of_ble_eq_true rfl), (Nat.le_of_ble_eq_true rfl)⟩ d_MD_init_154 (fun a18 H hI => ?_)
  have hI : CI g A s [(a, .inr (11, [.int 0, .int 0, .ref a1, .int 0, .ref a2, .ref a3, .ref a4, .int 0, .ref a5, .ref a6, .int 0, .ref a7, .ref a8, .int 0, .ref a9, .ref a10, .ref a11, .ref a12, .ref a13, .int 0, .ref a14, .int 0, .ref a15, .ref a16, .ref a17, .int 0, .null, .int 0, .int 0, .int 0, .int 0, .null, .null, .int 0, .int 0, .null, .null])), aI g a1 2000, aI g a2 100, aI g a3 100, aI g a4 100, aI g a5 40, aI g a6 40, aI g a7 40, aI g a8 40, aI g a9 2000, aI g a10 2000, aI g a11 2000, aI g a12 2000, aI g a13 2000, aI g a14 8000, aI g a15 130, aI g a16 130, aZ g a17 130, aI g a18 2000] H locs := hI
  refine q_putF M hI 0 rfl rfl i_MD t_MD t_MD_ok n_MD 26 (by decide) m4_198 rfl hnm rfl rfl rfl (Nat.le_of_ble_eq_true rfl) (w2 := [(a, .inr (11, [.int 0, .int 0, .ref a1, .int 0, .ref a2, .ref a3, .ref a4, .int 0, .ref a5, .ref a6, .int 0, .ref a7, .ref a8, .int 0, .ref a9, .ref a10, .ref a11, .ref a12, .ref a13, .int 0, .ref a14, .int 0, .ref a15, .ref a16, .ref a17, .int 0, .ref a18, .int 0, .int 0, .int 0, .int 0, .null, .null, .int 0, .int 0, .null, .null])), aI g a1 2000, aI g a2 100, aI g a3 100, aI g a4 100, aI g a5 40, aI g a6 40, aI g a7 40, aI g a8 40, aI g a9 2000, aI g a10 2000, aI g a11 2000, aI g a12 2000, aI g a13 2000, aI g a14 8000, aI g a15 130, aI g a16 130, aZ g a17 130, aI g a18 2000]) rfl d_MD_init_156 (fun H locs hI => ?_)
  refine lv_aload_n hx hb d_MD_init_159 rfl (lv_at hl 0 rfl) ?_
  refine lv_bipush (v := 64) hx hb d_MD_init_160 (by decide) ?_
  refine q_newI M hI 64 (by decide) (by decide) (by decide) ⟨(Nat.le_of_ble_eq_true rfl), (Nat.le_of_ble_eq_true rfl)⟩ d_MD_init_162 (fun a19 H hI => ?_)
  have hI : CI g A s [(a, .inr (11, [.int 0, .int 0, .ref a1, .int 0, .ref a2, .ref a3, .ref a4, .int 0, .ref a5, .ref a6, .int 0, .ref a7, .ref a8, .int 0, .ref a9, .ref a10, .ref a11, .ref a12, .ref a13, .int 0, .ref a14, .int 0, .ref a15, .ref a16, .ref a17, .int 0, .ref a18, .int 0, .int 0, .int 0, .int 0, .null, .null, .int 0, .int 0, .null, .null])), aI g a1 2000, aI g a2 100, aI g a3 100, aI g a4 100, aI g a5 40, aI g a6 40, aI g a7 40, aI g a8 40, aI g a9 2000, aI g a10 2000, aI g a11 2000, aI g a12 2000, aI g a13 2000, aI g a14 8000, aI g a15 130, aI g a16 130, aZ g a17 130, aI g a18 2000, aI g a19 64] H locs := hI
  refine q_putF M hI 0 rfl rfl i_MD t_MD t_MD_ok n_MD 31 (by decide) m4_203 rfl hnm rfl rfl rfl (Nat.le_of_ble_eq_true rfl) (w2 := [(a, .inr (11, [.int 0, .int 0, .ref a1, .int 0, .ref a2, .ref a3, .ref a4, .int 0, .ref a5, .ref a6, .int 0, .ref a7, .ref a8, .int 0, .ref a9, .ref a10, .ref a11, .ref a12, .ref a13, .int 0, .ref a14, .int 0, .ref a15, .ref a16, .ref a17, .int 0, .ref a18, .int 0, .int 0, .int 0, .int 0, .ref a19, .null, .int 0, .int 0, .null, .null])), aI g a1 2000, aI g a2 100, aI g a3 100, aI g a4 100, aI g a5 40, aI g a6 40, aI g a7 40, aI g a8 40, aI g a9 2000, aI g a10 2000, aI g a11 2000, aI g a12 2000, aI g a13 2000, aI g a14 8000, aI g a15 130, aI g a16 130, aZ g a17 130, aI g a18 2000, aI g a19 64]) rfl d_MD_init_164 (fun H locs hI => ?_)
  refine lv_aload_n hx hb d_MD_init_167 rfl (lv_at hl 0 rfl) ?_
  refine lv_sipush (v := 2000) hx hb d_MD_init_168 (by decide) ?_
  refine q_newI M hI 2000 (by decide) (by decide) (by decide) ⟨(Nat.le_of_ble_eq_true rfl), (Nat.le_of_ble_eq_true rfl)⟩ d_MD_init_171 (fun a20 H hI => ?_)
  have hI : CI g A s [(a, .inr (11, [.int 0, .int 0, .ref a1, .int 0, .ref a2, .ref a3, .ref a4, .int 0, .ref a5, .ref a6, .int 0, .ref a7, .ref a8, .int 0, .ref a9, .ref a10, .ref a11, .ref a12, .ref a13, .int 0, .ref a14, .int 0, .ref a15, .ref a16, .ref a17, .int 0, .ref a18, .int 0, .int 0, .int 0, .int 0, .ref a19, .null, .int 0, .int 0, .null, .null])), aI g a1 2000, aI g a2 100, aI g a3 100, aI g a4 100, aI g a5 40, aI g a6 40, aI g a7 40, aI g a8 40, aI g a9 2000, aI g a10 2000, aI g a11 2000, aI g a12 2000, aI g a13 2000, aI g a14 8000, aI g a15 130, aI g a16 130, aZ g a17 130, aI g a18 2000, aI g a19 64, aI g a20 2000] H locs := hI
  refine q_putF M hI 0 rfl rfl i_MD t_MD t_MD_ok n_MD 32 (by decide) m4_204 rfl hnm rfl rfl rfl (Nat.le_of_ble_eq_true rfl) (w2 := [(a, .inr (11, [.int 0, .int 0, .ref a1, .int 0, .ref a2, .ref a3, .ref a4, .int 0, .ref a5, .ref a6, .int 0, .ref a7, .ref a8, .int 0, .ref a9, .ref a10, .ref a11, .ref a12, .ref a13, .int 0, .ref a14, .int 0, .ref a15, .ref a16, .ref a17, .int 0, .ref a18, .int 0, .int 0, .int 0, .int 0, .ref a19, .ref a20, .int 0, .int 0, .null, .null])), aI g a1 2000, aI g a2 100, aI g a3 100, aI g a4 100, aI g a5 40, aI g a6 40, aI g a7 40, aI g a8 40, aI g a9 2000, aI g a10 2000, aI g a11 2000, aI g a12 2000, aI g a13 2000, aI g a14 8000, aI g a15 130, aI g a16 130, aZ g a17 130, aI g a18 2000, aI g a19 64, aI g a20 2000]) rfl d_MD_init_173 (fun H locs hI => ?_)
  refine lv_aload_n hx hb d_MD_init_176 rfl (lv_at hl 0 rfl) ?_
  refine lv_sipush (v := 2000) hx hb d_MD_init_177 (by decide) ?_
  refine q_newI M hI 2000 (by decide) (by decide) (by decide) ⟨(Nat.le_of_ble_eq_true rfl), (Nat.le_of_ble_eq_true rfl)⟩ d_MD_init_180 (fun a21 H hI => ?_)
  have hI : CI g A s [(a, .inr (11, [.int 0, .int 0, .ref a1, .int 0, .ref a2, .ref a3, .ref a4, .int 0, .ref a5, .ref a6, .int 0, .ref a7, .ref a8, .int 0, .ref a9, .ref a10, .ref a11, .ref a12, .ref a13, .int 0, .ref a14, .int 0, .ref a15, .ref a16, .ref a17, .int 0, .ref a18, .int 0, .int 0, .int 0, .int 0, .ref a19, .ref a20, .int 0, .int 0, .null, .null])), aI g a1 2000, aI g a2 100, aI g a3 100, aI g a4 100, aI g a5 40, aI g a6 40, aI g a7 40, aI g a8 40, aI g a9 2000, aI g a10 2000, aI g a11 2000, aI g a12 2000, aI g a13 2000, aI g a14 8000, aI g a15 130, aI g a16 130, aZ g a17 130, aI g a18 2000, aI g a19 64, aI g a20 2000, aI g a21 2000] H locs := hI
  refine q_putF M hI 0 rfl rfl i_MD t_MD t_MD_ok n_MD 35 (by decide) m4_207 rfl hnm rfl rfl rfl (Nat.le_of_ble_eq_true rfl) (w2 := [(a, .inr (11, [.int 0, .int 0, .ref a1, .int 0, .ref a2, .ref a3, .ref a4, .int 0, .ref a5, .ref a6, .int 0, .ref a7, .ref a8, .int 0, .ref a9, .ref a10, .ref a11, .ref a12, .ref a13, .int 0, .ref a14, .int 0, .ref a15, .ref a16, .ref a17, .int 0, .ref a18, .int 0, .int 0, .int 0, .int 0, .ref a19, .ref a20, .int 0, .int 0, .ref a21, .null])), aI g a1 2000, aI g a2 100, aI g a3 100, aI g a4 100, aI g a5 40, aI g a6 40, aI g a7 40, aI g a8 40, aI g a9 2000, aI g a10 2000, aI g a11 2000, aI g a12 2000, aI g a13 2000, aI g a14 8000, aI g a15 130, aI g a16 130, aZ g a17 130, aI g a18 2000, aI g a19 64, aI g a20 2000, aI g a21 2000]) rfl d_MD_init_182 (fun H locs hI => ?_)
  refine lv_aload_n hx hb d_MD_init_185 rfl (lv_at hl 0 rfl) ?_
  refine lv_sipush (v := 2000) hx hb d_MD_init_186 (by decide) ?_
  refine q_newI M hI 2000 (by decide) (by decide) (by decide) ⟨(Nat.le_of_ble_eq_true rfl), (Nat.le_of_ble_eq_true rfl)⟩ d_MD_init_189 (fun a22 H hI => ?_)
  have hI : CI g A s [(a, .inr (11, [.int 0, .int 0, .ref a1, .int 0, .ref a2, .ref a3, .ref a4, .int 0, .ref a5, .ref a6, .int 0, .ref a7, .ref a8, .int 0, .ref a9, .ref a10, .ref a11, .ref a12, .ref a13, .int 0, .ref a14, .int 0, .ref a15, .ref a16, .ref a17, .int 0, .ref a18, .int 0, .int 0, .int 0, .int 0, .ref a19, .ref a20, .int 0, .int 0, .ref a21, .null])), aI g a1 2000, aI g a2 100, aI g a3 100, aI g a4 100, aI g a5 40, aI g a6 40, aI g a7 40, aI g a8 40, aI g a9 2000, aI g a10 2000, aI g a11 2000, aI g a12 2000, aI g a13 2000, aI g a14 8000, aI g a15 130, aI g a16 130, aZ g a17 130, aI g a18 2000, aI g a19 64, aI g a20 2000, aI g a21 2000, aI g a22 2000] H locs := hI
  refine q_putF M hI 0 rfl rfl i_MD t_MD t_MD_ok n_MD 36 (by decide) m4_208 rfl hnm rfl rfl rfl (Nat.le_of_ble_eq_true rfl) (w2 := [(a, .inr (11, [.int 0, .int 0, .ref a1, .int 0, .ref a2, .ref a3, .ref a4, .int 0, .ref a5, .ref a6, .int 0, .ref a7, .ref a8, .int 0, .ref a9, .ref a10, .ref a11, .ref a12, .ref a13, .int 0, .ref a14, .int 0, .ref a15, .ref a16, .ref a17, .int 0, .ref a18, .int 0, .int 0, .int 0, .int 0, .ref a19, .ref a20, .int 0, .int 0, .ref a21, .ref a22])), aI g a1 2000, aI g a2 100, aI g a3 100, aI g a4 100, aI g a5 40, aI g a6 40, aI g a7 40, aI g a8 40, aI g a9 2000, aI g a10 2000, aI g a11 2000, aI g a12 2000, aI g a13 2000, aI g a14 8000, aI g a15 130, aI g a16 130, aZ g a17 130, aI g a18 2000, aI g a19 64, aI g a20 2000, aI g a21 2000, aI g a22 2000]) rfl d_MD_init_191 (fun H locs hI => ?_)
  exact hret (fun k => [a1, a2, a3, a4, a5, a6, a7, a8, a9, a10, a11, a12, a13, a14, a15, a16, a17, a18, a19, a20, a21, a22].getD k 0) _ _ _ _ _ _ d_MD_init_194 hI trivial (Nat.le_of_ble_eq_true rfl) (Nat.le_of_ble_eq_true rfl)
