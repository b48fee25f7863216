def tb_X8_init : List (Nat × ClassFile.Instr × Nat) := [(0, .aload_n 0, 1), (1, .invokespecial 3, 3), (4, .aload_n 0, 1), (5, .sipush 1600, 3), (8, .newarray .int, 2), (10, .putfield 9, 3), (13, .aload_n 0, 1), (14, .iconst 0, 1), (15, .putfield 15, 3), (18, .return_, 1)]
theorem td_X8_init : AllDec cX8_init tb_X8_init := by unfold AllDec; decide +kernel
abbrev mi_X8_init : Mi := (RX8, cX8_init, 1, { frames := 1, cells := 1, slots := 1600, locals := 33 }, none)
theorem lo_X11_3 : Cond.methodLink RX11 3 objectInit ∈ Wt := Wt_of (tk_1 _ (List.mem_of_getElem? (i := 28) rfl)) rfl
theorem nw_X11_9 : NwC RX11 9 8 RX8 TX8 2 [.null, .int 0] := ⟨rfl, iw_X8, ⟨Wt_of (tk_1 _ (List.mem_of_getElem? (i := 31) rfl)) rfl, Wt_of (tk_1 _ (List.mem_of_getElem? (i := 32) rfl)) rfl, Wt_of (tk_1 _ (List.mem_of_getElem? (i := 2) rfl)) rfl⟩, tyX8, tyX8_ok, by decide +kernel⟩
theorem lo_X8_3 : Cond.methodLink RX8 3 objectInit ∈ Wt := Wt_of (tk_1 _ (List.mem_of_getElem? (i := 36) rfl)) rfl
theorem fn_X8_9 : FlN RX8 9 8 0 (.array .int) := ⟨RX8, TX8, _, rfl, iw_X8, by decide, Wt_of (tk_1 _ (List.mem_of_getElem? (i := 37) rfl)) rfl, ⟨tyX8, tyX8_ok⟩, nmX8, Or.inr ⟨rfl, rfl⟩, rfl⟩
theorem fn_X8_15 : FlN RX8 15 8 1 .int := ⟨RX8, TX8, _, rfl, iw_X8, by decide, Wt_of (tk_1 _ (List.mem_of_getElem? (i := 38) rfl)) rfl, ⟨tyX8, tyX8_ok⟩, nmX8, Or.inl rfl, rfl⟩
def tN_Tape (Z : Zt) (β : Nat) : List va_E := [.inr (8, [.ref (β + 1), .int 0])] ++ [.inl (Z.1.1, 1600, .inl (fun _ => 0))]
set_option maxRecDepth 20000 in
set_option maxHeartbeats 4000000 in
theorem okN_Tape (Z : Zt) (β : Nat) : CtN Z yX8_init mi_X8_init [] β (.inr (8, [.null, .int 0])) (tN_Tape Z β) := by
  refine gn_enter (by decide) rfl rfl (Nat.le_of_ble_eq_true rfl) (lv := [(0, .ref (β + 0))]) rfl ?_
  unfold tN_Tape
  refine gn_aload_n td_X8_init 0 rfl (q := 1) rfl 0 rfl ?_
  refine gn_obj td_X8_init 1 rfl (q := 4) rfl lo_X8_3 ⟨Nat.le_of_ble_eq_true rfl, Nat.le_of_ble_eq_true rfl⟩ ?_
  refine gn_aload_n td_X8_init 2 rfl (q := 5) rfl 0 rfl ?_
  refine gn_sipush td_X8_init 3 rfl (q := 8) rfl ks_1600 ?_
  refine gn_newa (N := 1600) 1 td_X8_init 4 rfl (q := 10) rfl ⟨by decide, by decide, Nat.le_of_ble_eq_true rfl⟩ rfl ⟨Nat.le_of_ble_eq_true rfl, Nat.le_of_ble_eq_true rfl⟩ ?_
  refine gn_put (n := 0) _ td_X8_init 5 rfl (q := 13) rfl fn_X8_9 rfl rfl rfl (Nat.le_of_ble_eq_true rfl) rfl ?_
  refine gn_aload_n td_X8_init 6 rfl (q := 14) rfl 0 rfl ?_
  refine gn_iconst td_X8_init 7 rfl (q := 15) rfl kc_0 ?_
  refine gn_put (n := 0) _ td_X8_init 8 rfl (q := 18) rfl fn_X8_15 rfl rfl rfl (Nat.le_of_ble_eq_true rfl) rfl ?_
  exact gn_ret td_X8_init 9 rfl ⟨rfl, rfl⟩
def tb_X4_init : List (Nat × ClassFile.Instr × Nat) := [(0, .aload_n 0, 1), (1, .invokespecial 3, 3), (4, .aload_n 0, 1), (5, .iconst 0, 1), (6, .putfield 9, 3), (9, .aload_n 0, 1), (10, .iconst 0, 1), (11, .putfield 15, 3), (14, .aload_n 0, 1), (15, .iconst 0, 1), (16, .putfield 18, 3), (19, .aload_n 0, 1), (20, .iconst 0, 1), (21, .putfield 21, 3), (24, .aload_n 0, 1), (25, .iconst 0, 1), (26, .putfield 24, 3), (29, .aload_n 0, 1), (30, .iconst 0, 1), (31, .putfield 27, 3), (34, .aload_n 0, 1), (35, .iconst 0, 1), (36, .putfield 30, 3), (39, .aload_n 0, 1), (40, .iconst 0, 1), (41, .putfield 33, 3), (44, .aload_n 0, 1), (45, .bipush 12, 2), (47, .newarray .int, 2), (49, .putfield 36, 3), (52, .aload_n 0, 1), (53, .iconst 4, 1), (54, .newarray .int, 2), (56, .putfield 40, 3), (59, .aload_n 0, 1), (60, .iconst 4, 1), (61, .newarray .int, 2), (63, .putfield 43, 3), (66, .aload_n 0, 1), (67, .iconst 4, 1), (68, .newarray .int, 2), (70, .putfield 46, 3), (73, .aload_n 0, 1), (74, .bipush 8, 2), (76, .newarray .int, 2), (78, .putfield 49, 3), (81, .aload_n 0, 1), (82, .bipush 8, 2), (84, .newarray .int, 2), (86, .putfield 52, 3), (89, .aload_n 0, 1), (90, .bipush 6, 2), (92, .newarray .int, 2), (94, .putfield 55, 3), (97, .aload_n 0, 1), (98, .bipush 6, 2), (100, .newarray .int, 2), (102, .putfield 58, 3), (105, .aload_n 0, 1), (106, .bipush 6, 2), (108, .newarray .int, 2), (110, .putfield 61, 3), (113, .aload_n 0, 1), (114, .bipush 6, 2), (116, .newarray .int, 2), (118, .putfield 64, 3), (121, .aload_n 0, 1), (122, .bipush 6, 2), (124, .newarray .int, 2), (126, .putfield 67, 3), (129, .return_, 1)]
theorem td_X4_init : AllDec cX4_init tb_X4_init := by unfold AllDec; decide +kernel
abbrev mi_X4_init : Mi := (RX4, cX4_init, 1, { frames := 1, cells := 11, slots := 70, locals := 33 }, none)
theorem lb_X8_init : LkB yX8_init mi_X8_init 0 ∧ mi_X8_init.2.2.2.2 = none ∧ yX8_init.name = "<init>" ∧ Cond.instanceMethod yX8_init ∈ Wt := ⟨⟨Wt_of (tk_1 _ (List.mem_of_getElem? (i := 35) rfl)) rfl, Wt_of (tk_1 _ (List.mem_of_getElem? (i := 2) rfl)) rfl, by decide, by decide, by decide +kernel⟩, rfl, rfl, Wt_of (tk_1 _ (List.mem_of_getElem? (i := 34) rfl)) rfl⟩
theorem fn_X11_12 : FlN RX11 12 10 0 (.object "OrbitDesk$Tape") := ⟨RX11, TX11, _, rfl, iw_X11, by decide, Wt_of (tk_2 _ (List.mem_of_getElem? (i := 204) rfl)) rfl, ⟨tyX11, tyX11_ok⟩, nmX11, Or.inr ⟨rfl, rfl⟩, rfl⟩
theorem nw_X11_16 : NwC RX11 16 4 RX4 TX4 19 [.int 0, .int 0, .int 0, .int 0, .int 0, .int 0, .int 0, .int 0, .null, .null, .null, .null, .null, .null, .null, .null, .null, .null, .null] := ⟨rfl, iw_X4, ⟨Wt_of (tk_1 _ (List.mem_of_getElem? (i := 45) rfl)) rfl, Wt_of (tk_1 _ (List.mem_of_getElem? (i := 46) rfl)) rfl, Wt_of (tk_1 _ (List.mem_of_getElem? (i := 3) rfl)) rfl⟩, tyX4, tyX4_ok, by decide +kernel⟩
theorem lo_X4_3 : Cond.methodLink RX4 3 objectInit ∈ Wt := Wt_of (tk_1 _ (List.mem_of_getElem? (i := 50) rfl)) rfl
theorem fn_X4_9 : FlN RX4 9 4 0 .int := ⟨RX4, TX4, _, rfl, iw_X4, by decide, Wt_of (tk_1 _ (List.mem_of_getElem? (i := 51) rfl)) rfl, ⟨tyX4, tyX4_ok⟩, nmX4, Or.inl rfl, rfl⟩
theorem fn_X4_15 : FlN RX4 15 4 1 .int := ⟨RX4, TX4, _, rfl, iw_X4, by decide, Wt_of (tk_1 _ (List.mem_of_getElem? (i := 57) rfl)) rfl, ⟨tyX4, tyX4_ok⟩, nmX4, Or.inl rfl, rfl⟩
theorem fn_X4_18 : FlN RX4 18 4 2 .int := ⟨RX4, TX4, _, rfl, iw_X4, by decide, Wt_of (tk_1 _ (List.mem_of_getElem? (i := 61) rfl)) rfl, ⟨tyX4, tyX4_ok⟩, nmX4, Or.inl rfl, rfl⟩
theorem fn_X4_21 : FlN RX4 21 4 3 .int := ⟨RX4, TX4, _, rfl, iw_X4, by decide, Wt_of (tk_1 _ (List.mem_of_getElem? (i := 65) rfl)) rfl, ⟨tyX4, tyX4_ok⟩, nmX4, Or.inl rfl, rfl⟩
theorem fn_X4_24 : FlN RX4 24 4 4 .int := ⟨RX4, TX4, _, rfl, iw_X4, by decide, Wt_of (tk_1 _ (List.mem_of_getElem? (i := 70) rfl)) rfl, ⟨tyX4, tyX4_ok⟩, nmX4, Or.inl rfl, rfl⟩
theorem fn_X4_27 : FlN RX4 27 4 5 .int := ⟨RX4, TX4, _, rfl, iw_X4, by decide, Wt_of (tk_1 _ (List.mem_of_getElem? (i := 73) rfl)) rfl, ⟨tyX4, tyX4_ok⟩, nmX4, Or.inl rfl, rfl⟩
theorem fn_X4_30 : FlN RX4 30 4 6 .int := ⟨RX4, TX4, _, rfl, iw_X4, by decide, Wt_of (tk_1 _ (List.mem_of_getElem? (i := 77) rfl)) rfl, ⟨tyX4, tyX4_ok⟩, nmX4, Or.inl rfl, rfl⟩
theorem fn_X4_33 : FlN RX4 33 4 7 .int := ⟨RX4, TX4, _, rfl, iw_X4, by decide, Wt_of (tk_1 _ (List.mem_of_getElem? (i := 84) rfl)) rfl, ⟨tyX4, tyX4_ok⟩, nmX4, Or.inl rfl, rfl⟩
theorem fn_X4_36 : FlN RX4 36 4 8 (.array .int) := ⟨RX4, TX4, _, rfl, iw_X4, by decide, Wt_of (tk_1 _ (List.mem_of_getElem? (i := 88) rfl)) rfl, ⟨tyX4, tyX4_ok⟩, nmX4, Or.inr ⟨rfl, rfl⟩, rfl⟩
theorem fn_X4_40 : FlN RX4 40 4 9 (.array .int) := ⟨RX4, TX4, _, rfl, iw_X4, by decide, Wt_of (tk_1 _ (List.mem_of_getElem? (i := 91) rfl)) rfl, ⟨tyX4, tyX4_ok⟩, nmX4, Or.inr ⟨rfl, rfl⟩, rfl⟩
theorem fn_X4_43 : FlN RX4 43 4 10 (.array .int) := ⟨RX4, TX4, _, rfl, iw_X4, by decide, Wt_of (tk_1 _ (List.mem_of_getElem? (i := 94) rfl)) rfl, ⟨tyX4, tyX4_ok⟩, nmX4, Or.inr ⟨rfl, rfl⟩, rfl⟩
theorem fn_X4_46 : FlN RX4 46 4 11 (.array .int) := ⟨RX4, TX4, _, rfl, iw_X4, by decide, Wt_of (tk_1 _ (List.mem_of_getElem? (i := 98) rfl)) rfl, ⟨tyX4, tyX4_ok⟩, nmX4, Or.inr ⟨rfl, rfl⟩, rfl⟩
theorem fn_X4_49 : FlN RX4 49 4 12 (.array .int) := ⟨RX4, TX4, _, rfl, iw_X4, by decide, Wt_of (tk_1 _ (List.mem_of_getElem? (i := 104) rfl)) rfl, ⟨tyX4, tyX4_ok⟩, nmX4, Or.inr ⟨rfl, rfl⟩, rfl⟩
theorem fn_X4_52 : FlN RX4 52 4 13 (.array .int) := ⟨RX4, TX4, _, rfl, iw_X4, by decide, Wt_of (tk_1 _ (List.mem_of_getElem? (i := 107) rfl)) rfl, ⟨tyX4, tyX4_ok⟩, nmX4, Or.inr ⟨rfl, rfl⟩, rfl⟩
theorem fn_X4_55 : FlN RX4 55 4 14 (.array .int) := ⟨RX4, TX4, _, rfl, iw_X4, by decide, Wt_of (tk_1 _ (List.mem_of_getElem? (i := 112) rfl)) rfl, ⟨tyX4, tyX4_ok⟩, nmX4, Or.inr ⟨rfl, rfl⟩, rfl⟩
theorem fn_X4_58 : FlN RX4 58 4 15 (.array .int) := ⟨RX4, TX4, _, rfl, iw_X4, by decide, Wt_of (tk_1 _ (List.mem_of_getElem? (i := 115) rfl)) rfl, ⟨tyX4, tyX4_ok⟩, nmX4, Or.inr ⟨rfl, rfl⟩, rfl⟩
theorem fn_X4_61 : FlN RX4 61 4 16 (.array .int) := ⟨RX4, TX4, _, rfl, iw_X4, by decide, Wt_of (tk_1 _ (List.mem_of_getElem? (i := 119) rfl)) rfl, ⟨tyX4, tyX4_ok⟩, nmX4, Or.inr ⟨rfl, rfl⟩, rfl⟩
theorem fn_X4_64 : FlN RX4 64 4 17 (.array .int) := ⟨RX4, TX4, _, rfl, iw_X4, by decide, Wt_of (tk_1 _ (List.mem_of_getElem? (i := 123) rfl)) rfl, ⟨tyX4, tyX4_ok⟩, nmX4, Or.inr ⟨rfl, rfl⟩, rfl⟩
theorem fn_X4_67 : FlN RX4 67 4 18 (.array .int) := ⟨RX4, TX4, _, rfl, iw_X4, by decide, Wt_of (tk_1 _ (List.mem_of_getElem? (i := 126) rfl)) rfl, ⟨tyX4, tyX4_ok⟩, nmX4, Or.inr ⟨rfl, rfl⟩, rfl⟩
def tN_Plan (Z : Zt) (β : Nat) : List va_E := (((((((((([.inr (4, [.int 0, .int 0, .int 0, .int 0, .int 0, .int 0, .int 0, .int 0, .ref (β + 1), .ref (β + 2), .ref (β + 3), .ref (β + 4), .ref (β + 5), .ref (β + 6), .ref (β + 7), .ref (β + 8), .ref (β + 9), .ref (β + 10), .ref (β + 11)])] ++ [.inl (Z.1.1, 12, .inl (fun _ => 0))]) ++ [.inl (Z.1.1, 4, .inl (fun _ => 0))]) ++ [.inl (Z.1.1, 4, .inl (fun _ => 0))]) ++ [.inl (Z.1.1, 4, .inl (fun _ => 0))]) ++ [.inl (Z.1.1, 8, .inl (fun _ => 0))]) ++ [.inl (Z.1.1, 8, .inl (fun _ => 0))]) ++ [.inl (Z.1.1, 6, .inl (fun _ => 0))]) ++ [.inl (Z.1.1, 6, .inl (fun _ => 0))]) ++ [.inl (Z.1.1, 6, .inl (fun _ => 0))]) ++ [.inl (Z.1.1, 6, .inl (fun _ => 0))]) ++ [.inl (Z.1.1, 6, .inl (fun _ => 0))]
set_option maxRecDepth 20000 in
set_option maxHeartbeats 4000000 in
theorem okN_Plan (Z : Zt) (β : Nat) : CtN Z yX4_init mi_X4_init [] β (.inr (4, [.int 0, .int 0, .int 0, .int 0, .int 0, .int 0, .int 0, .int 0, .null, .null, .null, .null, .null, .null, .null, .null, .null, .null, .null])) (tN_Plan Z β) := by
  refine gn_enter (by decide) rfl rfl (Nat.le_of_ble_eq_true rfl) (lv := [(0, .ref (β + 0))]) rfl ?_
  unfold tN_Plan
  refine gn_aload_n td_X4_init 0 rfl (q := 1) rfl 0 rfl ?_
  refine gn_obj td_X4_init 1 rfl (q := 4) rfl lo_X4_3 ⟨Nat.le_of_ble_eq_true rfl, Nat.le_of_ble_eq_true rfl⟩ ?_
  refine gn_aload_n td_X4_init 2 rfl (q := 5) rfl 0 rfl ?_
  refine gn_iconst td_X4_init 3 rfl (q := 6) rfl kc_0 ?_
  refine gn_put (n := 0) _ td_X4_init 4 rfl (q := 9) rfl fn_X4_9 rfl rfl rfl (Nat.le_of_ble_eq_true rfl) rfl ?_
  refine gn_aload_n td_X4_init 5 rfl (q := 10) rfl 0 rfl ?_
  refine gn_iconst td_X4_init 6 rfl (q := 11) rfl kc_0 ?_
  refine gn_put (n := 0) _ td_X4_init 7 rfl (q := 14) rfl fn_X4_15 rfl rfl rfl (Nat.le_of_ble_eq_true rfl) rfl ?_
  refine gn_aload_n td_X4_init 8 rfl (q := 15) rfl 0 rfl ?_
  refine gn_iconst td_X4_init 9 rfl (q := 16) rfl kc_0 ?_
  refine gn_put (n := 0) _ td_X4_init 10 rfl (q := 19) rfl fn_X4_18 rfl rfl rfl (Nat.le_of_ble_eq_true rfl) rfl ?_
  refine gn_aload_n td_X4_init 11 rfl (q := 20) rfl 0 rfl ?_
  refine gn_iconst td_X4_init 12 rfl (q := 21) rfl kc_0 ?_
  refine gn_put (n := 0) _ td_X4_init 13 rfl (q := 24) rfl fn_X4_21 rfl rfl rfl (Nat.le_of_ble_eq_true rfl) rfl ?_
  refine gn_aload_n td_X4_init 14 rfl (q := 25) rfl 0 rfl ?_
  refine gn_iconst td_X4_init 15 rfl (q := 26) rfl kc_0 ?_
  refine gn_put (n := 0) _ td_X4_init 16 rfl (q := 29) rfl fn_X4_24 rfl rfl rfl (Nat.le_of_ble_eq_true rfl) rfl ?_
  refine gn_aload_n td_X4_init 17 rfl (q := 30) rfl 0 rfl ?_
  refine gn_iconst td_X4_init 18 rfl (q := 31) rfl kc_0 ?_
  refine gn_put (n := 0) _ td_X4_init 19 rfl (q := 34) rfl fn_X4_27 rfl rfl rfl (Nat.le_of_ble_eq_true rfl) rfl ?_
  refine gn_aload_n td_X4_init 20 rfl (q := 35) rfl 0 rfl ?_
  refine gn_iconst td_X4_init 21 rfl (q := 36) rfl kc_0 ?_
  refine gn_put (n := 0) _ td_X4_init 22 rfl (q := 39) rfl fn_X4_30 rfl rfl rfl (Nat.le_of_ble_eq_true rfl) rfl ?_
  refine gn_aload_n td_X4_init 23 rfl (q := 40) rfl 0 rfl ?_
  refine gn_iconst td_X4_init 24 rfl (q := 41) rfl kc_0 ?_
  refine gn_put (n := 0) _ td_X4_init 25 rfl (q := 44) rfl fn_X4_33 rfl rfl rfl (Nat.le_of_ble_eq_true rfl) rfl ?_
  refine gn_aload_n td_X4_init 26 rfl (q := 45) rfl 0 rfl ?_
  refine gn_bipush td_X4_init 27 rfl (q := 47) rfl kb_12 ?_
  refine gn_newa (N := 12) 1 td_X4_init 28 rfl (q := 49) rfl ⟨by decide, by decide, Nat.le_of_ble_eq_true rfl⟩ rfl ⟨Nat.le_of_ble_eq_true rfl, Nat.le_of_ble_eq_true rfl⟩ ?_
  refine gn_put (n := 0) _ td_X4_init 29 rfl (q := 52) rfl fn_X4_36 rfl rfl rfl (Nat.le_of_ble_eq_true rfl) rfl ?_
  refine gn_aload_n td_X4_init 30 rfl (q := 53) rfl 0 rfl ?_
  refine gn_iconst td_X4_init 31 rfl (q := 54) rfl kc_4 ?_
  refine gn_newa (N := 4) 2 td_X4_init 32 rfl (q := 56) rfl ⟨by decide, by decide, Nat.le_of_ble_eq_true rfl⟩ rfl ⟨Nat.le_of_ble_eq_true rfl, Nat.le_of_ble_eq_true rfl⟩ ?_
  refine gn_put (n := 0) _ td_X4_init 33 rfl (q := 59) rfl fn_X4_40 rfl rfl rfl (Nat.le_of_ble_eq_true rfl) rfl ?_
  refine gn_aload_n td_X4_init 34 rfl (q := 60) rfl 0 rfl ?_
  refine gn_iconst td_X4_init 35 rfl (q := 61) rfl kc_4 ?_
  refine gn_newa (N := 4) 3 td_X4_init 36 rfl (q := 63) rfl ⟨by decide, by decide, Nat.le_of_ble_eq_true rfl⟩ rfl ⟨Nat.le_of_ble_eq_true rfl, Nat.le_of_ble_eq_true rfl⟩ ?_
  refine gn_put (n := 0) _ td_X4_init 37 rfl (q := 66) rfl fn_X4_43 rfl rfl rfl (Nat.le_of_ble_eq_true rfl) rfl ?_
  refine gn_aload_n td_X4_init 38 rfl (q := 67) rfl 0 rfl ?_
  refine gn_iconst td_X4_init 39 rfl (q := 68) rfl kc_4 ?_
  refine gn_newa (N := 4) 4 td_X4_init 40 rfl (q := 70) rfl ⟨by decide, by decide, Nat.le_of_ble_eq_true rfl⟩ rfl ⟨Nat.le_of_ble_eq_true rfl, Nat.le_of_ble_eq_true rfl⟩ ?_
  refine gn_put (n := 0) _ td_X4_init 41 rfl (q := 73) rfl fn_X4_46 rfl rfl rfl (Nat.le_of_ble_eq_true rfl) rfl ?_
  refine gn_aload_n td_X4_init 42 rfl (q := 74) rfl 0 rfl ?_
  refine gn_bipush td_X4_init 43 rfl (q := 76) rfl kb_8 ?_
  refine gn_newa (N := 8) 5 td_X4_init 44 rfl (q := 78) rfl ⟨by decide, by decide, Nat.le_of_ble_eq_true rfl⟩ rfl ⟨Nat.le_of_ble_eq_true rfl, Nat.le_of_ble_eq_true rfl⟩ ?_
  refine gn_put (n := 0) _ td_X4_init 45 rfl (q := 81) rfl fn_X4_49 rfl rfl rfl (Nat.le_of_ble_eq_true rfl) rfl ?_
  refine gn_aload_n td_X4_init 46 rfl (q := 82) rfl 0 rfl ?_
  refine gn_bipush td_X4_init 47 rfl (q := 84) rfl kb_8 ?_
  refine gn_newa (N := 8) 6 td_X4_init 48 rfl (q := 86) rfl ⟨by decide, by decide, Nat.le_of_ble_eq_true rfl⟩ rfl ⟨Nat.le_of_ble_eq_true rfl, Nat.le_of_ble_eq_true rfl⟩ ?_
  refine gn_put (n := 0) _ td_X4_init 49 rfl (q := 89) rfl fn_X4_52 rfl rfl rfl (Nat.le_of_ble_eq_true rfl) rfl ?_
  refine gn_aload_n td_X4_init 50 rfl (q := 90) rfl 0 rfl ?_
  refine gn_bipush td_X4_init 51 rfl (q := 92) rfl kb_6 ?_
  refine gn_newa (N := 6) 7 td_X4_init 52 rfl (q := 94) rfl ⟨by decide, by decide, Nat.le_of_ble_eq_true rfl⟩ rfl ⟨Nat.le_of_ble_eq_true rfl, Nat.le_of_ble_eq_true rfl⟩ ?_
  refine gn_put (n := 0) _ td_X4_init 53 rfl (q := 97) rfl fn_X4_55 rfl rfl rfl (Nat.le_of_ble_eq_true rfl) rfl ?_
  refine gn_aload_n td_X4_init 54 rfl (q := 98) rfl 0 rfl ?_
  refine gn_bipush td_X4_init 55 rfl (q := 100) rfl kb_6 ?_
  refine gn_newa (N := 6) 8 td_X4_init 56 rfl (q := 102) rfl ⟨by decide, by decide, Nat.le_of_ble_eq_true rfl⟩ rfl ⟨Nat.le_of_ble_eq_true rfl, Nat.le_of_ble_eq_true rfl⟩ ?_
  refine gn_put (n := 0) _ td_X4_init 57 rfl (q := 105) rfl fn_X4_58 rfl rfl rfl (Nat.le_of_ble_eq_true rfl) rfl ?_
  refine gn_aload_n td_X4_init 58 rfl (q := 106) rfl 0 rfl ?_
  refine gn_bipush td_X4_init 59 rfl (q := 108) rfl kb_6 ?_
  refine gn_newa (N := 6) 9 td_X4_init 60 rfl (q := 110) rfl ⟨by decide, by decide, Nat.le_of_ble_eq_true rfl⟩ rfl ⟨Nat.le_of_ble_eq_true rfl, Nat.le_of_ble_eq_true rfl⟩ ?_
  refine gn_put (n := 0) _ td_X4_init 61 rfl (q := 113) rfl fn_X4_61 rfl rfl rfl (Nat.le_of_ble_eq_true rfl) rfl ?_
  refine gn_aload_n td_X4_init 62 rfl (q := 114) rfl 0 rfl ?_
  refine gn_bipush td_X4_init 63 rfl (q := 116) rfl kb_6 ?_
  refine gn_newa (N := 6) 10 td_X4_init 64 rfl (q := 118) rfl ⟨by decide, by decide, Nat.le_of_ble_eq_true rfl⟩ rfl ⟨Nat.le_of_ble_eq_true rfl, Nat.le_of_ble_eq_true rfl⟩ ?_
  refine gn_put (n := 0) _ td_X4_init 65 rfl (q := 121) rfl fn_X4_64 rfl rfl rfl (Nat.le_of_ble_eq_true rfl) rfl ?_
  refine gn_aload_n td_X4_init 66 rfl (q := 122) rfl 0 rfl ?_
  refine gn_bipush td_X4_init 67 rfl (q := 124) rfl kb_6 ?_
  refine gn_newa (N := 6) 11 td_X4_init 68 rfl (q := 126) rfl ⟨by decide, by decide, Nat.le_of_ble_eq_true rfl⟩ rfl ⟨Nat.le_of_ble_eq_true rfl, Nat.le_of_ble_eq_true rfl⟩ ?_
  refine gn_put (n := 0) _ td_X4_init 69 rfl (q := 129) rfl fn_X4_67 rfl rfl rfl (Nat.le_of_ble_eq_true rfl) rfl ?_
  exact gn_ret td_X4_init 70 rfl ⟨rfl, rfl⟩
def tb_X1_init : List (Nat × ClassFile.Instr × Nat) := [(0, .aload_n 0, 1), (1, .invokespecial 3, 3), (4, .aload_n 0, 1), (5, .iconst 0, 1), (6, .putfield 9, 3), (9, .aload_n 0, 1), (10, .iconst 4, 1), (11, .newarray .int, 2), (13, .putfield 15, 3), (16, .aload_n 0, 1), (17, .bipush 8, 2), (19, .newarray .int, 2), (21, .putfield 19, 3), (24, .aload_n 0, 1), (25, .bipush 8, 2), (27, .newarray .int, 2), (29, .putfield 22, 3), (32, .return_, 1)]
theorem td_X1_init : AllDec cX1_init tb_X1_init := by unfold AllDec; decide +kernel
abbrev mi_X1_init : Mi := (RX1, cX1_init, 1, { frames := 1, cells := 3, slots := 20, locals := 33 }, none)
theorem lb_X4_init : LkB yX4_init mi_X4_init 0 ∧ mi_X4_init.2.2.2.2 = none ∧ yX4_init.name = "<init>" ∧ Cond.instanceMethod yX4_init ∈ Wt := ⟨⟨Wt_of (tk_1 _ (List.mem_of_getElem? (i := 49) rfl)) rfl, Wt_of (tk_1 _ (List.mem_of_getElem? (i := 3) rfl)) rfl, by decide, by decide, by decide +kernel⟩, rfl, rfl, Wt_of (tk_1 _ (List.mem_of_getElem? (i := 48) rfl)) rfl⟩
theorem fn_X11_19 : FlN RX11 19 10 1 (.object "OrbitDesk$Plan") := ⟨RX11, TX11, _, rfl, iw_X11, by decide, Wt_of (tk_2 _ (List.mem_of_getElem? (i := 205) rfl)) rfl, ⟨tyX11, tyX11_ok⟩, nmX11, Or.inr ⟨rfl, rfl⟩, rfl⟩
theorem fn_X11_23 : FlN RX11 23 10 2 (.object "OrbitDesk$Plan") := ⟨RX11, TX11, _, rfl, iw_X11, by decide, Wt_of (tk_2 _ (List.mem_of_getElem? (i := 206) rfl)) rfl, ⟨tyX11, tyX11_ok⟩, nmX11, Or.inr ⟨rfl, rfl⟩, rfl⟩
theorem nw_X11_26 : NwC RX11 26 1 RX1 TX1 4 [.int 0, .null, .null, .null] := ⟨rfl, iw_X1, ⟨Wt_of (tk_1 _ (List.mem_of_getElem? (i := 168) rfl)) rfl, Wt_of (tk_1 _ (List.mem_of_getElem? (i := 169) rfl)) rfl, Wt_of (tk_1 _ (List.mem_of_getElem? (i := 4) rfl)) rfl⟩, tyX1, tyX1_ok, by decide +kernel⟩
theorem lo_X1_3 : Cond.methodLink RX1 3 objectInit ∈ Wt := Wt_of (tk_1 _ (List.mem_of_getElem? (i := 173) rfl)) rfl
theorem fn_X1_9 : FlN RX1 9 1 0 .int := ⟨RX1, TX1, _, rfl, iw_X1, by decide, Wt_of (tk_1 _ (List.mem_of_getElem? (i := 174) rfl)) rfl, ⟨tyX1, tyX1_ok⟩, nmX1, Or.inl rfl, rfl⟩
theorem fn_X1_15 : FlN RX1 15 1 1 (.array .int) := ⟨RX1, TX1, _, rfl, iw_X1, by decide, Wt_of (tk_1 _ (List.mem_of_getElem? (i := 177) rfl)) rfl, ⟨tyX1, tyX1_ok⟩, nmX1, Or.inr ⟨rfl, rfl⟩, rfl⟩
theorem fn_X1_19 : FlN RX1 19 1 2 (.array .int) := ⟨RX1, TX1, _, rfl, iw_X1, by decide, Wt_of (tk_1 _ (List.mem_of_getElem? (i := 182) rfl)) rfl, ⟨tyX1, tyX1_ok⟩, nmX1, Or.inr ⟨rfl, rfl⟩, rfl⟩
theorem fn_X1_22 : FlN RX1 22 1 3 (.array .int) := ⟨RX1, TX1, _, rfl, iw_X1, by decide, Wt_of (tk_1 _ (List.mem_of_getElem? (i := 187) rfl)) rfl, ⟨tyX1, tyX1_ok⟩, nmX1, Or.inr ⟨rfl, rfl⟩, rfl⟩
def tN_Fleet (Z : Zt) (β : Nat) : List va_E := (([.inr (1, [.int 0, .ref (β + 1), .ref (β + 2), .ref (β + 3)])] ++ [.inl (Z.1.1, 4, .inl (fun _ => 0))]) ++ [.inl (Z.1.1, 8, .inl (fun _ => 0))]) ++ [.inl (Z.1.1, 8, .inl (fun _ => 0))]
set_option maxRecDepth 20000 in
set_option maxHeartbeats 4000000 in
theorem okN_Fleet (Z : Zt) (β : Nat) : CtN Z yX1_init mi_X1_init [] β (.inr (1, [.int 0, .null, .null, .null])) (tN_Fleet Z β) := by
  refine gn_enter (by decide) rfl rfl (Nat.le_of_ble_eq_true rfl) (lv := [(0, .ref (β + 0))]) rfl ?_
  unfold tN_Fleet
  refine gn_aload_n td_X1_init 0 rfl (q := 1) rfl 0 rfl ?_
  refine gn_obj td_X1_init 1 rfl (q := 4) rfl lo_X1_3 ⟨Nat.le_of_ble_eq_true rfl, Nat.le_of_ble_eq_true rfl⟩ ?_
  refine gn_aload_n td_X1_init 2 rfl (q := 5) rfl 0 rfl ?_
  refine gn_iconst td_X1_init 3 rfl (q := 6) rfl kc_0 ?_
  refine gn_put (n := 0) _ td_X1_init 4 rfl (q := 9) rfl fn_X1_9 rfl rfl rfl (Nat.le_of_ble_eq_true rfl) rfl ?_
  refine gn_aload_n td_X1_init 5 rfl (q := 10) rfl 0 rfl ?_
  refine gn_iconst td_X1_init 6 rfl (q := 11) rfl kc_4 ?_
  refine gn_newa (N := 4) 1 td_X1_init 7 rfl (q := 13) rfl ⟨by decide, by decide, Nat.le_of_ble_eq_true rfl⟩ rfl ⟨Nat.le_of_ble_eq_true rfl, Nat.le_of_ble_eq_true rfl⟩ ?_
  refine gn_put (n := 0) _ td_X1_init 8 rfl (q := 16) rfl fn_X1_15 rfl rfl rfl (Nat.le_of_ble_eq_true rfl) rfl ?_
  refine gn_aload_n td_X1_init 9 rfl (q := 17) rfl 0 rfl ?_
  refine gn_bipush td_X1_init 10 rfl (q := 19) rfl kb_8 ?_
  refine gn_newa (N := 8) 2 td_X1_init 11 rfl (q := 21) rfl ⟨by decide, by decide, Nat.le_of_ble_eq_true rfl⟩ rfl ⟨Nat.le_of_ble_eq_true rfl, Nat.le_of_ble_eq_true rfl⟩ ?_
  refine gn_put (n := 0) _ td_X1_init 12 rfl (q := 24) rfl fn_X1_19 rfl rfl rfl (Nat.le_of_ble_eq_true rfl) rfl ?_
  refine gn_aload_n td_X1_init 13 rfl (q := 25) rfl 0 rfl ?_
  refine gn_bipush td_X1_init 14 rfl (q := 27) rfl kb_8 ?_
  refine gn_newa (N := 8) 3 td_X1_init 15 rfl (q := 29) rfl ⟨by decide, by decide, Nat.le_of_ble_eq_true rfl⟩ rfl ⟨Nat.le_of_ble_eq_true rfl, Nat.le_of_ble_eq_true rfl⟩ ?_
  refine gn_put (n := 0) _ td_X1_init 16 rfl (q := 32) rfl fn_X1_22 rfl rfl rfl (Nat.le_of_ble_eq_true rfl) rfl ?_
  exact gn_ret td_X1_init 17 rfl ⟨rfl, rfl⟩
def tb_X5_init : List (Nat × ClassFile.Instr × Nat) := [(0, .aload_n 0, 1), (1, .invokespecial 3, 3), (4, .aload_n 0, 1), (5, .iconst 0, 1), (6, .putfield 9, 3), (9, .aload_n 0, 1), (10, .iconst (-1), 1), (11, .putfield 15, 3), (14, .aload_n 0, 1), (15, .iconst 0, 1), (16, .putfield 18, 3), (19, .aload_n 0, 1), (20, .iconst 0, 1), (21, .putfield 21, 3), (24, .aload_n 0, 1), (25, .iconst 0, 1), (26, .putfield 24, 3), (29, .aload_n 0, 1), (30, .iconst 0, 1), (31, .putfield 27, 3), (34, .aload_n 0, 1), (35, .iconst 0, 1), (36, .putfield 30, 3), (39, .aload_n 0, 1), (40, .iconst 0, 1), (41, .putfield 33, 3), (44, .aload_n 0, 1), (45, .iconst 0, 1), (46, .putfield 36, 3), (49, .aload_n 0, 1), (50, .aload_n 1, 1), (51, .putfield 40, 3), (54, .aload_n 0, 1), (55, .aload_n 2, 1), (56, .putfield 44, 3), (59, .aload_n 0, 1), (60, .aload_n 3, 1), (61, .putfield 48, 3), (64, .return_, 1)]
theorem td_X5_init : AllDec cX5_init tb_X5_init := by unfold AllDec; decide +kernel
abbrev mi_X5_init : Mi := (RX5, cX5_init, 4, { frames := 1, cells := 0, slots := 0, locals := 33 }, none)
theorem lb_X1_init : LkB yX1_init mi_X1_init 0 ∧ mi_X1_init.2.2.2.2 = none ∧ yX1_init.name = "<init>" ∧ Cond.instanceMethod yX1_init ∈ Wt := ⟨⟨Wt_of (tk_1 _ (List.mem_of_getElem? (i := 172) rfl)) rfl, Wt_of (tk_1 _ (List.mem_of_getElem? (i := 4) rfl)) rfl, by decide, by decide, by decide +kernel⟩, rfl, rfl, Wt_of (tk_1 _ (List.mem_of_getElem? (i := 171) rfl)) rfl⟩
theorem fn_X11_29 : FlN RX11 29 10 3 (.object "OrbitDesk$Fleet") := ⟨RX11, TX11, _, rfl, iw_X11, by decide, Wt_of (tk_2 _ (List.mem_of_getElem? (i := 207) rfl)) rfl, ⟨tyX11, tyX11_ok⟩, nmX11, Or.inr ⟨rfl, rfl⟩, rfl⟩
theorem fn_X11_33 : FlN RX11 33 10 4 (.object "OrbitDesk$Fleet") := ⟨RX11, TX11, _, rfl, iw_X11, by decide, Wt_of (tk_2 _ (List.mem_of_getElem? (i := 208) rfl)) rfl, ⟨tyX11, tyX11_ok⟩, nmX11, Or.inr ⟨rfl, rfl⟩, rfl⟩
theorem nw_X11_36 : NwC RX11 36 5 RX5 TX5 12 [.int 0, .int 0, .int 0, .null, .null, .null, .int 0, .int 0, .int 0, .int 0, .int 0, .int 0] := ⟨rfl, iw_X5, ⟨Wt_of (tk_1 _ (List.mem_of_getElem? (i := 200) rfl)) rfl, Wt_of (tk_1 _ (List.mem_of_getElem? (i := 201) rfl)) rfl, Wt_of (tk_1 _ (List.mem_of_getElem? (i := 5) rfl)) rfl⟩, tyX5, tyX5_ok, by decide +kernel⟩
theorem fg_X11_12 : FlG RX11 12 10 0 := ⟨RX11, TX11, _, rfl, iw_X11, by decide, Wt_of (tk_2 _ (List.mem_of_getElem? (i := 204) rfl)) rfl⟩
theorem fg_X11_23 : FlG RX11 23 10 2 := ⟨RX11, TX11, _, rfl, iw_X11, by decide, Wt_of (tk_2 _ (List.mem_of_getElem? (i := 206) rfl)) rfl⟩
theorem fg_X11_33 : FlG RX11 33 10 4 := ⟨RX11, TX11, _, rfl, iw_X11, by decide, Wt_of (tk_2 _ (List.mem_of_getElem? (i := 208) rfl)) rfl⟩
theorem lo_X5_3 : Cond.methodLink RX5 3 objectInit ∈ Wt := Wt_of (tk_1 _ (List.mem_of_getElem? (i := 205) rfl)) rfl
theorem fn_X5_9 : FlN RX5 9 5 0 .int := ⟨RX5, TX5, _, rfl, iw_X5, by decide, Wt_of (tk_1 _ (List.mem_of_getElem? (i := 206) rfl)) rfl, ⟨tyX5, tyX5_ok⟩, nmX5, Or.inl rfl, rfl⟩
theorem fn_X5_15 : FlN RX5 15 5 1 .int := ⟨RX5, TX5, _, rfl, iw_X5, by decide, Wt_of (tk_1 _ (List.mem_of_getElem? (i := 208) rfl)) rfl, ⟨tyX5, tyX5_ok⟩, nmX5, Or.inl rfl, rfl⟩
theorem fn_X5_18 : FlN RX5 18 5 2 .int := ⟨RX5, TX5, _, rfl, iw_X5, by decide, Wt_of (tk_1 _ (List.mem_of_getElem? (i := 210) rfl)) rfl, ⟨tyX5, tyX5_ok⟩, nmX5, Or.inl rfl, rfl⟩
theorem fn_X5_21 : FlN RX5 21 5 6 .int := ⟨RX5, TX5, _, rfl, iw_X5, by decide, Wt_of (tk_1 _ (List.mem_of_getElem? (i := 215) rfl)) rfl, ⟨tyX5, tyX5_ok⟩, nmX5, Or.inl rfl, rfl⟩
theorem fn_X5_24 : FlN RX5 24 5 7 .int := ⟨RX5, TX5, _, rfl, iw_X5, by decide, Wt_of (tk_1 _ (List.mem_of_getElem? (i := 216) rfl)) rfl, ⟨tyX5, tyX5_ok⟩, nmX5, Or.inl rfl, rfl⟩
theorem fn_X5_27 : FlN RX5 27 5 8 .int := ⟨RX5, TX5, _, rfl, iw_X5, by decide, Wt_of (tk_1 _ (List.mem_of_getElem? (i := 217) rfl)) rfl, ⟨tyX5, tyX5_ok⟩, nmX5, Or.inl rfl, rfl⟩
theorem fn_X5_30 : FlN RX5 30 5 9 .int := ⟨RX5, TX5, _, rfl, iw_X5, by decide, Wt_of (tk_1 _ (List.mem_of_getElem? (i := 218) rfl)) rfl, ⟨tyX5, tyX5_ok⟩, nmX5, Or.inl rfl, rfl⟩
theorem fn_X5_33 : FlN RX5 33 5 10 .int := ⟨RX5, TX5, _, rfl, iw_X5, by decide, Wt_of (tk_1 _ (List.mem_of_getElem? (i := 219) rfl)) rfl, ⟨tyX5, tyX5_ok⟩, nmX5, Or.inl rfl, rfl⟩
theorem fn_X5_36 : FlN RX5 36 5 11 .boolean := ⟨RX5, TX5, _, rfl, iw_X5, by decide, Wt_of (tk_1 _ (List.mem_of_getElem? (i := 220) rfl)) rfl, ⟨tyX5, tyX5_ok⟩, nmX5, Or.inl rfl, rfl⟩
theorem fn_X5_40 : FlN RX5 40 5 3 (.object "OrbitDesk$Tape") := ⟨RX5, TX5, _, rfl, iw_X5, by decide, Wt_of (tk_1 _ (List.mem_of_getElem? (i := 212) rfl)) rfl, ⟨tyX5, tyX5_ok⟩, nmX5, Or.inr ⟨rfl, rfl⟩, rfl⟩
theorem fn_X5_44 : FlN RX5 44 5 4 (.object "OrbitDesk$Plan") := ⟨RX5, TX5, _, rfl, iw_X5, by decide, Wt_of (tk_1 _ (List.mem_of_getElem? (i := 213) rfl)) rfl, ⟨tyX5, tyX5_ok⟩, nmX5, Or.inr ⟨rfl, rfl⟩, rfl⟩
theorem fn_X5_48 : FlN RX5 48 5 5 (.object "OrbitDesk$Fleet") := ⟨RX5, TX5, _, rfl, iw_X5, by decide, Wt_of (tk_1 _ (List.mem_of_getElem? (i := 214) rfl)) rfl, ⟨tyX5, tyX5_ok⟩, nmX5, Or.inr ⟨rfl, rfl⟩, rfl⟩
def tN_Reader (Z : Zt) (β : Nat) (p1 : Nat) (p2 : Nat) (p3 : Nat) : List va_E := [.inr (5, [.int 0, .int (-1), .int 0, .ref p1, .ref p2, .ref p3, .int 0, .int 0, .int 0, .int 0, .int 0, .int 0])]
set_option maxRecDepth 20000 in
set_option maxHeartbeats 4000000 in
theorem okN_Reader (Z : Zt) (β : Nat) (p1 : Nat) (p2 : Nat) (p3 : Nat) : CtN Z yX5_init mi_X5_init [.ref p1, .ref p2, .ref p3] β (.inr (5, [.int 0, .int 0, .int 0, .null, .null, .null, .int 0, .int 0, .int 0, .int 0, .int 0, .int 0])) (tN_Reader Z β p1 p2 p3) := by
  refine gn_enter (by decide) rfl rfl (Nat.le_of_ble_eq_true rfl) (lv := [(0, .ref (β + 0)), (1, .ref p1), (2, .ref p2), (3, .ref p3)]) rfl ?_
  unfold tN_Reader
  refine gn_aload_n td_X5_init 0 rfl (q := 1) rfl 0 rfl ?_
  refine gn_obj td_X5_init 1 rfl (q := 4) rfl lo_X5_3 ⟨Nat.le_of_ble_eq_true rfl, Nat.le_of_ble_eq_true rfl⟩ ?_
  refine gn_aload_n td_X5_init 2 rfl (q := 5) rfl 0 rfl ?_
  refine gn_iconst td_X5_init 3 rfl (q := 6) rfl kc_0 ?_
  refine gn_put (n := 0) _ td_X5_init 4 rfl (q := 9) rfl fn_X5_9 rfl rfl rfl (Nat.le_of_ble_eq_true rfl) rfl ?_
  refine gn_aload_n td_X5_init 5 rfl (q := 10) rfl 0 rfl ?_
  refine gn_iconst td_X5_init 6 rfl (q := 11) rfl kc_m1 ?_
  refine gn_put (n := 0) _ td_X5_init 7 rfl (q := 14) rfl fn_X5_15 rfl rfl rfl (Nat.le_of_ble_eq_true rfl) rfl ?_
  refine gn_aload_n td_X5_init 8 rfl (q := 15) rfl 0 rfl ?_
  refine gn_iconst td_X5_init 9 rfl (q := 16) rfl kc_0 ?_
  refine gn_put (n := 0) _ td_X5_init 10 rfl (q := 19) rfl fn_X5_18 rfl rfl rfl (Nat.le_of_ble_eq_true rfl) rfl ?_
  refine gn_aload_n td_X5_init 11 rfl (q := 20) rfl 0 rfl ?_
  refine gn_iconst td_X5_init 12 rfl (q := 21) rfl kc_0 ?_
  refine gn_put (n := 0) _ td_X5_init 13 rfl (q := 24) rfl fn_X5_21 rfl rfl rfl (Nat.le_of_ble_eq_true rfl) rfl ?_
  refine gn_aload_n td_X5_init 14 rfl (q := 25) rfl 0 rfl ?_
  refine gn_iconst td_X5_init 15 rfl (q := 26) rfl kc_0 ?_
  refine gn_put (n := 0) _ td_X5_init 16 rfl (q := 29) rfl fn_X5_24 rfl rfl rfl (Nat.le_of_ble_eq_true rfl) rfl ?_
  refine gn_aload_n td_X5_init 17 rfl (q := 30) rfl 0 rfl ?_
  refine gn_iconst td_X5_init 18 rfl (q := 31) rfl kc_0 ?_
  refine gn_put (n := 0) _ td_X5_init 19 rfl (q := 34) rfl fn_X5_27 rfl rfl rfl (Nat.le_of_ble_eq_true rfl) rfl ?_
  refine gn_aload_n td_X5_init 20 rfl (q := 35) rfl 0 rfl ?_
  refine gn_iconst td_X5_init 21 rfl (q := 36) rfl kc_0 ?_
  refine gn_put (n := 0) _ td_X5_init 22 rfl (q := 39) rfl fn_X5_30 rfl rfl rfl (Nat.le_of_ble_eq_true rfl) rfl ?_
  refine gn_aload_n td_X5_init 23 rfl (q := 40) rfl 0 rfl ?_
  refine gn_iconst td_X5_init 24 rfl (q := 41) rfl kc_0 ?_
  refine gn_put (n := 0) _ td_X5_init 25 rfl (q := 44) rfl fn_X5_33 rfl rfl rfl (Nat.le_of_ble_eq_true rfl) rfl ?_
  refine gn_aload_n td_X5_init 26 rfl (q := 45) rfl 0 rfl ?_
  refine gn_iconst td_X5_init 27 rfl (q := 46) rfl kc_0 ?_
  refine gn_put (n := 0) _ td_X5_init 28 rfl (q := 49) rfl fn_X5_36 rfl rfl rfl (Nat.le_of_ble_eq_true rfl) rfl ?_
  refine gn_aload_n td_X5_init 29 rfl (q := 50) rfl 0 rfl ?_
  refine gn_aload_n td_X5_init 30 rfl (q := 51) rfl 1 rfl ?_
  refine gn_put (n := 0) _ td_X5_init 31 rfl (q := 54) rfl fn_X5_40 rfl rfl rfl (Nat.le_of_ble_eq_true rfl) rfl ?_
  refine gn_aload_n td_X5_init 32 rfl (q := 55) rfl 0 rfl ?_
  refine gn_aload_n td_X5_init 33 rfl (q := 56) rfl 2 rfl ?_
  refine gn_put (n := 0) _ td_X5_init 34 rfl (q := 59) rfl fn_X5_44 rfl rfl rfl (Nat.le_of_ble_eq_true rfl) rfl ?_
  refine gn_aload_n td_X5_init 35 rfl (q := 60) rfl 0 rfl ?_
  refine gn_aload_n td_X5_init 36 rfl (q := 61) rfl 3 rfl ?_
  refine gn_put (n := 0) _ td_X5_init 37 rfl (q := 64) rfl fn_X5_48 rfl rfl rfl (Nat.le_of_ble_eq_true rfl) rfl ?_
  exact gn_ret td_X5_init 38 rfl ⟨rfl, rfl⟩
def tb_X2_init : List (Nat × ClassFile.Instr × Nat) := [(0, .aload_n 0, 1), (1, .invokespecial 3, 3), (4, .aload_n 0, 1), (5, .iconst 0, 1), (6, .putfield 9, 3), (9, .aload_n 0, 1), (10, .iconst 0, 1), (11, .putfield 15, 3), (14, .aload_n 0, 1), (15, .bipush 20, 2), (17, .anewarray 18, 3), (20, .putfield 20, 3), (23, .iconst 0, 1), (24, .istore_n 1, 1), (25, .iload_n 1, 1), (26, .bipush 20, 2), (28, .if_icmp .ge 22, 3), (31, .aload_n 0, 1), (32, .getfield 20, 3), (35, .iload_n 1, 1), (36, .new 18, 3), (39, .dup, 1), (40, .invokespecial 24, 3), (43, .aastore, 1), (44, .iinc 1 1, 3), (47, .goto (-22), 3), (50, .return_, 1)]
theorem td_X2_init : AllDec cX2_init tb_X2_init := by unfold AllDec; decide +kernel
abbrev mi_X2_init : Mi := (RX2, cX2_init, 2, { frames := 2, cells := 81, slots := 500, locals := 66 }, none)
theorem lb_X5_init : LkB yX5_init mi_X5_init 3 ∧ mi_X5_init.2.2.2.2 = none ∧ yX5_init.name = "<init>" ∧ Cond.instanceMethod yX5_init ∈ Wt := ⟨⟨Wt_of (tk_1 _ (List.mem_of_getElem? (i := 204) rfl)) rfl, Wt_of (tk_1 _ (List.mem_of_getElem? (i := 5) rfl)) rfl, by decide, by decide, by decide +kernel⟩, rfl, rfl, Wt_of (tk_1 _ (List.mem_of_getElem? (i := 203) rfl)) rfl⟩
theorem fn_X11_41 : FlN RX11 41 10 5 (.object "OrbitDesk$Reader") := ⟨RX11, TX11, _, rfl, iw_X11, by decide, Wt_of (tk_2 _ (List.mem_of_getElem? (i := 209) rfl)) rfl, ⟨tyX11, tyX11_ok⟩, nmX11, Or.inr ⟨rfl, rfl⟩, rfl⟩
theorem nw_X11_45 : NwC RX11 45 2 RX2 TX2 3 [.int 0, .int 0, .null] := ⟨rfl, iw_X2, ⟨Wt_of (tk_2 _ (List.mem_of_getElem? (i := 6) rfl)) rfl, Wt_of (tk_2 _ (List.mem_of_getElem? (i := 7) rfl)) rfl, Wt_of (tk_1 _ (List.mem_of_getElem? (i := 6) rfl)) rfl⟩, tyX2, tyX2_ok, by decide +kernel⟩
theorem lo_X2_3 : Cond.methodLink RX2 3 objectInit ∈ Wt := Wt_of (tk_2 _ (List.mem_of_getElem? (i := 11) rfl)) rfl
theorem fn_X2_9 : FlN RX2 9 2 0 .int := ⟨RX2, TX2, _, rfl, iw_X2, by decide, Wt_of (tk_2 _ (List.mem_of_getElem? (i := 15) rfl)) rfl, ⟨tyX2, tyX2_ok⟩, nmX2, Or.inl rfl, rfl⟩
theorem fn_X2_15 : FlN RX2 15 2 1 .int := ⟨RX2, TX2, _, rfl, iw_X2, by decide, Wt_of (tk_2 _ (List.mem_of_getElem? (i := 17) rfl)) rfl, ⟨tyX2, tyX2_ok⟩, nmX2, Or.inl rfl, rfl⟩
theorem cl_X2_18 : Cond.classLink RX2 18 "OrbitDesk$Fleet" ∈ Wt := Wt_of (tk_2 _ (List.mem_of_getElem? (i := 12) rfl)) rfl
theorem fn_X2_20 : FlN RX2 20 2 2 (.array (.object "OrbitDesk$Fleet")) := ⟨RX2, TX2, _, rfl, iw_X2, by decide, Wt_of (tk_2 _ (List.mem_of_getElem? (i := 18) rfl)) rfl, ⟨tyX2, tyX2_ok⟩, nmX2, Or.inr ⟨rfl, rfl⟩, rfl⟩
theorem fg_X2_20 : FlG RX2 20 2 2 := ⟨RX2, TX2, _, rfl, iw_X2, by decide, Wt_of (tk_2 _ (List.mem_of_getElem? (i := 18) rfl)) rfl⟩
theorem nw_X2_18 : NwC RX2 18 1 RX1 TX1 4 [.int 0, .null, .null, .null] := ⟨rfl, iw_X1, ⟨Wt_of (tk_2 _ (List.mem_of_getElem? (i := 12) rfl)) rfl, Wt_of (tk_1 _ (List.mem_of_getElem? (i := 169) rfl)) rfl, Wt_of (tk_1 _ (List.mem_of_getElem? (i := 4) rfl)) rfl⟩, tyX1, tyX1_ok, by decide +kernel⟩
def tN_History (Z : Zt) (β : Nat) : List va_E := (((((((((((((((((((([.inr (2, [.int 0, .int 0, .ref (β + 1)])] ++ [.inl (Z.1.2.2, 20, .inr (.inr (.inr (.inr (va_up (va_up (va_up (va_up (va_up (va_up (va_up (va_up (va_up (va_up (va_up (va_up (va_up (va_up (va_up (va_up (va_up (va_up (va_up (va_up (fun _ => none) 0 (some (β + 2))) 1 (some (β + 6))) 2 (some (β + 10))) 3 (some (β + 14))) 4 (some (β + 18))) 5 (some (β + 22))) 6 (some (β + 26))) 7 (some (β + 30))) 8 (some (β + 34))) 9 (some (β + 38))) 10 (some (β + 42))) 11 (some (β + 46))) 12 (some (β + 50))) 13 (some (β + 54))) 14 (some (β + 58))) 15 (some (β + 62))) 16 (some (β + 66))) 17 (some (β + 70))) 18 (some (β + 74))) 19 (some (β + 78)))))))]) ++ tN_Fleet Z (β + 2)) ++ tN_Fleet Z (β + 6)) ++ tN_Fleet Z (β + 10)) ++ tN_Fleet Z (β + 14)) ++ tN_Fleet Z (β + 18)) ++ tN_Fleet Z (β + 22)) ++ tN_Fleet Z (β + 26)) ++ tN_Fleet Z (β + 30)) ++ tN_Fleet Z (β + 34)) ++ tN_Fleet Z (β + 38)) ++ tN_Fleet Z (β + 42)) ++ tN_Fleet Z (β + 46)) ++ tN_Fleet Z (β + 50)) ++ tN_Fleet Z (β + 54)) ++ tN_Fleet Z (β + 58)) ++ tN_Fleet Z (β + 62)) ++ tN_Fleet Z (β + 66)) ++ tN_Fleet Z (β + 70)) ++ tN_Fleet Z (β + 74)) ++ tN_Fleet Z (β + 78)
set_option maxRecDepth 20000 in
set_option maxHeartbeats 4000000 in
theorem okN_History (Z : Zt) (β : Nat) : CtN Z yX2_init mi_X2_init [] β (.inr (2, [.int 0, .int 0, .null])) (tN_History Z β) := by
  refine gn_enter (by decide) rfl rfl (Nat.le_of_ble_eq_true rfl) (lv := [(0, .ref (β + 0))]) rfl ?_
  unfold tN_History
  refine gn_aload_n td_X2_init 0 rfl (q := 1) rfl 0 rfl ?_
  refine gn_obj td_X2_init 1 rfl (q := 4) rfl lo_X2_3 ⟨Nat.le_of_ble_eq_true rfl, Nat.le_of_ble_eq_true rfl⟩ ?_
  refine gn_aload_n td_X2_init 2 rfl (q := 5) rfl 0 rfl ?_
  refine gn_iconst td_X2_init 3 rfl (q := 6) rfl kc_0 ?_
  refine gn_put (n := 0) _ td_X2_init 4 rfl (q := 9) rfl fn_X2_9 rfl rfl rfl (Nat.le_of_ble_eq_true rfl) rfl ?_
  refine gn_aload_n td_X2_init 5 rfl (q := 10) rfl 0 rfl ?_
  refine gn_iconst td_X2_init 6 rfl (q := 11) rfl kc_0 ?_
  refine gn_put (n := 0) _ td_X2_init 7 rfl (q := 14) rfl fn_X2_15 rfl rfl rfl (Nat.le_of_ble_eq_true rfl) rfl ?_
  refine gn_aload_n td_X2_init 8 rfl (q := 15) rfl 0 rfl ?_
  refine gn_bipush td_X2_init 9 rfl (q := 17) rfl kb_20 ?_
  refine gn_anew (N := 20) 1 td_X2_init 10 rfl (q := 20) rfl cl_X2_18 ⟨by decide, by decide, Nat.le_of_ble_eq_true rfl⟩ rfl ⟨Nat.le_of_ble_eq_true rfl, Nat.le_of_ble_eq_true rfl⟩ ?_
  refine gn_put (n := 0) _ td_X2_init 11 rfl (q := 23) rfl fn_X2_20 rfl rfl rfl (Nat.le_of_ble_eq_true rfl) rfl ?_
  refine gn_iconst td_X2_init 12 rfl (q := 24) rfl kc_0 ?_
  refine gn_istore_n [(1, .int 0), (0, .ref (β + 0))] td_X2_init 13 rfl (q := 25) rfl (Nat.le_of_ble_eq_true rfl) rfl ?_
  refine gn_iload_n td_X2_init 14 rfl (q := 26) rfl 0 rfl ?_
  refine gn_bipush td_X2_init 15 rfl (q := 28) rfl kb_20 ?_
  refine gn_ge_no (tgt := 50) td_X2_init 16 rfl rfl (q := 31) rfl (by decide) ?_
  refine gn_aload_n td_X2_init 17 rfl (q := 32) rfl 1 rfl ?_
  refine gn_get (n := 0) td_X2_init 18 rfl (q := 35) rfl fg_X2_20 rfl rfl ?_
  refine gn_iload_n td_X2_init 19 rfl (q := 36) rfl 0 rfl ?_
  refine gn_new 2 td_X2_init 20 rfl (q := 39) rfl nw_X2_18 rfl ⟨Nat.le_of_ble_eq_true rfl, Nat.le_of_ble_eq_true rfl⟩ ?_
  refine gn_dup td_X2_init 21 rfl (q := 40) rfl rfl ?_
  refine gn_call true td_X2_init 22 rfl (q := 43) rfl lb_X1_init (show _ ∈ nestA by decide +kernel) (okN_Fleet Z (β + 2) ) ⟨Nat.le_of_ble_eq_true rfl, Nat.le_of_ble_eq_true rfl, Nat.le_of_ble_eq_true rfl, Nat.le_of_ble_eq_true rfl⟩ rfl rfl (Nat.le_of_ble_eq_true rfl) rfl rfl rfl ?_
  refine gn_aast (n := 1) (n2 := 2) _ td_X2_init 23 rfl (q := 44) rfl rfl rfl rfl (by decide) rfl ?_
  refine gn_iinc (v := 1) [(1, .int 1), (0, .ref (β + 0))] td_X2_init 24 rfl (q := 47) rfl 0 rfl (by decide) (Nat.le_of_ble_eq_true rfl) rfl ?_
  refine gn_goto td_X2_init 25 rfl (q := 25) rfl ?_
  refine gn_iload_n td_X2_init 14 rfl (q := 26) rfl 0 rfl ?_
  refine gn_bipush td_X2_init 15 rfl (q := 28) rfl kb_20 ?_
  refine gn_ge_no (tgt := 50) td_X2_init 16 rfl rfl (q := 31) rfl (by decide) ?_
  refine gn_aload_n td_X2_init 17 rfl (q := 32) rfl 1 rfl ?_
  refine gn_get (n := 0) td_X2_init 18 rfl (q := 35) rfl fg_X2_20 rfl rfl ?_
  refine gn_iload_n td_X2_init 19 rfl (q := 36) rfl 0 rfl ?_
  refine gn_new 6 td_X2_init 20 rfl (q := 39) rfl nw_X2_18 rfl ⟨Nat.le_of_ble_eq_true rfl, Nat.le_of_ble_eq_true rfl⟩ ?_
  refine gn_dup td_X2_init 21 rfl (q := 40) rfl rfl ?_
  refine gn_call true td_X2_init 22 rfl (q := 43) rfl lb_X1_init (show _ ∈ nestA by decide +kernel) (okN_Fleet Z (β + 6) ) ⟨Nat.le_of_ble_eq_true rfl, Nat.le_of_ble_eq_true rfl, Nat.le_of_ble_eq_true rfl, Nat.le_of_ble_eq_true rfl⟩ rfl rfl (Nat.le_of_ble_eq_true rfl) rfl rfl rfl ?_
  refine gn_aast (n := 1) (n2 := 6) _ td_X2_init 23 rfl (q := 44) rfl rfl rfl rfl (by decide) rfl ?_
  refine gn_iinc (v := 2) [(1, .int 2), (0, .ref (β + 0))] td_X2_init 24 rfl (q := 47) rfl 0 rfl (by decide) (Nat.le_of_ble_eq_true rfl) rfl ?_
  refine gn_goto td_X2_init 25 rfl (q := 25) rfl ?_
  refine gn_iload_n td_X2_init 14 rfl (q := 26) rfl 0 rfl ?_
  refine gn_bipush td_X2_init 15 rfl (q := 28) rfl kb_20 ?_
  refine gn_ge_no (tgt := 50) td_X2_init 16 rfl rfl (q := 31) rfl (by decide) ?_
  refine gn_aload_n td_X2_init 17 rfl (q := 32) rfl 1 rfl ?_
  refine gn_get (n := 0) td_X2_init 18 rfl (q := 35) rfl fg_X2_20 rfl rfl ?_
  refine gn_iload_n td_X2_init 19 rfl (q := 36) rfl 0 rfl ?_
  refine gn_new 10 td_X2_init 20 rfl (q := 39) rfl nw_X2_18 rfl ⟨Nat.le_of_ble_eq_true rfl, Nat.le_of_ble_eq_true rfl⟩ ?_
  refine gn_dup td_X2_init 21 rfl (q := 40) rfl rfl ?_
  refine gn_call true td_X2_init 22 rfl (q := 43) rfl lb_X1_init (show _ ∈ nestA by decide +kernel) (okN_Fleet Z (β + 10) ) ⟨Nat.le_of_ble_eq_true rfl, Nat.le_of_ble_eq_true rfl, Nat.le_of_ble_eq_true rfl, Nat.le_of_ble_eq_true rfl⟩ rfl rfl (Nat.le_of_ble_eq_true rfl) rfl rfl rfl ?_
  refine gn_aast (n := 1) (n2 := 10) _ td_X2_init 23 rfl (q := 44) rfl rfl rfl rfl (by decide) rfl ?_
  refine gn_iinc (v := 3) [(1, .int 3), (0, .ref (β + 0))] td_X2_init 24 rfl (q := 47) rfl 0 rfl (by decide) (Nat.le_of_ble_eq_true rfl) rfl ?_
  refine gn_goto td_X2_init 25 rfl (q := 25) rfl ?_
  refine gn_iload_n td_X2_init 14 rfl (q := 26) rfl 0 rfl ?_
  refine gn_bipush td_X2_init 15 rfl (q := 28) rfl kb_20 ?_
  refine gn_ge_no (tgt := 50) td_X2_init 16 rfl rfl (q := 31) rfl (by decide) ?_
  refine gn_aload_n td_X2_init 17 rfl (q := 32) rfl 1 rfl ?_
  refine gn_get (n := 0) td_X2_init 18 rfl (q := 35) rfl fg_X2_20 rfl rfl ?_
  refine gn_iload_n td_X2_init 19 rfl (q := 36) rfl 0 rfl ?_
  refine gn_new 14 td_X2_init 20 rfl (q := 39) rfl nw_X2_18 rfl ⟨Nat.le_of_ble_eq_true rfl, Nat.le_of_ble_eq_true rfl⟩ ?_
  refine gn_dup td_X2_init 21 rfl (q := 40) rfl rfl ?_
  refine gn_call true td_X2_init 22 rfl (q := 43) rfl lb_X1_init (show _ ∈ nestA by decide +kernel) (okN_Fleet Z (β + 14) ) ⟨Nat.le_of_ble_eq_true rfl, Nat.le_of_ble_eq_true rfl, Nat.le_of_ble_eq_true rfl, Nat.le_of_ble_eq_true rfl⟩ rfl rfl (Nat.le_of_ble_eq_true rfl) rfl rfl rfl ?_
  refine gn_aast (n := 1) (n2 := 14) _ td_X2_init 23 rfl (q := 44) rfl rfl rfl rfl (by decide) rfl ?_
  refine gn_iinc (v := 4) [(1, .int 4), (0, .ref (β + 0))] td_X2_init 24 rfl (q := 47) rfl 0 rfl (by decide) (Nat.le_of_ble_eq_true rfl) rfl ?_
  refine gn_goto td_X2_init 25 rfl (q := 25) rfl ?_
  refine gn_iload_n td_X2_init 14 rfl (q := 26) rfl 0 rfl ?_
  refine gn_bipush td_X2_init 15 rfl (q := 28) rfl kb_20 ?_
  refine gn_ge_no (tgt := 50) td_X2_init 16 rfl rfl (q := 31) rfl (by decide) ?_
  refine gn_aload_n td_X2_init 17 rfl (q := 32) rfl 1 rfl ?_
  refine gn_get (n := 0) td_X2_init 18 rfl (q := 35) rfl fg_X2_20 rfl rfl ?_
  refine gn_iload_n td_X2_init 19 rfl (q := 36) rfl 0 rfl ?_
  refine gn_new 18 td_X2_init 20 rfl (q := 39) rfl nw_X2_18 rfl ⟨Nat.le_of_ble_eq_true rfl, Nat.le_of_ble_eq_true rfl⟩ ?_
  refine gn_dup td_X2_init 21 rfl (q := 40) rfl rfl ?_
  refine gn_call true td_X2_init 22 rfl (q := 43) rfl lb_X1_init (show _ ∈ nestA by decide +kernel) (okN_Fleet Z (β + 18) ) ⟨Nat.le_of_ble_eq_true rfl, Nat.le_of_ble_eq_true rfl, Nat.le_of_ble_eq_true rfl, Nat.le_of_ble_eq_true rfl⟩ rfl rfl (Nat.le_of_ble_eq_true rfl) rfl rfl rfl ?_
  refine gn_aast (n := 1) (n2 := 18) _ td_X2_init 23 rfl (q := 44) rfl rfl rfl rfl (by decide) rfl ?_
  refine gn_iinc (v := 5) [(1, .int 5), (0, .ref (β + 0))] td_X2_init 24 rfl (q := 47) rfl 0 rfl (by decide) (Nat.le_of_ble_eq_true rfl) rfl ?_
  refine gn_goto td_X2_init 25 rfl (q := 25) rfl ?_
  refine gn_iload_n td_X2_init 14 rfl (q := 26) rfl 0 rfl ?_
  refine gn_bipush td_X2_init 15 rfl (q := 28) rfl kb_20 ?_
  refine gn_ge_no (tgt := 50) td_X2_init 16 rfl rfl (q := 31) rfl (by decide) ?_
  refine gn_aload_n td_X2_init 17 rfl (q := 32) rfl 1 rfl ?_
  refine gn_get (n := 0) td_X2_init 18 rfl (q := 35) rfl fg_X2_20 rfl rfl ?_
  refine gn_iload_n td_X2_init 19 rfl (q := 36) rfl 0 rfl ?_
  refine gn_new 22 td_X2_init 20 rfl (q := 39) rfl nw_X2_18 rfl ⟨Nat.le_of_ble_eq_true rfl, Nat.le_of_ble_eq_true rfl⟩ ?_
  refine gn_dup td_X2_init 21 rfl (q := 40) rfl rfl ?_
  refine gn_call true td_X2_init 22 rfl (q := 43) rfl lb_X1_init (show _ ∈ nestA by decide +kernel) (okN_Fleet Z (β + 22) ) ⟨Nat.le_of_ble_eq_true rfl, Nat.le_of_ble_eq_true rfl, Nat.le_of_ble_eq_true rfl, Nat.le_of_ble_eq_true rfl⟩ rfl rfl (Nat.le_of_ble_eq_true rfl) rfl rfl rfl ?_
  refine gn_aast (n := 1) (n2 := 22) _ td_X2_init 23 rfl (q := 44) rfl rfl rfl rfl (by decide) rfl ?_
  refine gn_iinc (v := 6) [(1, .int 6), (0, .ref (β + 0))] td_X2_init 24 rfl (q := 47) rfl 0 rfl (by decide) (Nat.le_of_ble_eq_true rfl) rfl ?_
  refine gn_goto td_X2_init 25 rfl (q := 25) rfl ?_
  refine gn_iload_n td_X2_init 14 rfl (q := 26) rfl 0 rfl ?_
  refine gn_bipush td_X2_init 15 rfl (q := 28) rfl kb_20 ?_
  refine gn_ge_no (tgt := 50) td_X2_init 16 rfl rfl (q := 31) rfl (by decide) ?_
  refine gn_aload_n td_X2_init 17 rfl (q := 32) rfl 1 rfl ?_
  refine gn_get (n := 0) td_X2_init 18 rfl (q := 35) rfl fg_X2_20 rfl rfl ?_
  refine gn_iload_n td_X2_init 19 rfl (q := 36) rfl 0 rfl ?_
  refine gn_new 26 td_X2_init 20 rfl (q := 39) rfl nw_X2_18 rfl ⟨Nat.le_of_ble_eq_true rfl, Nat.le_of_ble_eq_true rfl⟩ ?_
  refine gn_dup td_X2_init 21 rfl (q := 40) rfl rfl ?_
  refine gn_call true td_X2_init 22 rfl (q := 43) rfl lb_X1_init (show _ ∈ nestA by decide +kernel) (okN_Fleet Z (β + 26) ) ⟨Nat.le_of_ble_eq_true rfl, Nat.le_of_ble_eq_true rfl, Nat.le_of_ble_eq_true rfl, Nat.le_of_ble_eq_true rfl⟩ rfl rfl (Nat.le_of_ble_eq_true rfl) rfl rfl rfl ?_
  refine gn_aast (n := 1) (n2 := 26) _ td_X2_init 23 rfl (q := 44) rfl rfl rfl rfl (by decide) rfl ?_
  refine gn_iinc (v := 7) [(1, .int 7), (0, .ref (β + 0))] td_X2_init 24 rfl (q := 47) rfl 0 rfl (by decide) (Nat.le_of_ble_eq_true rfl) rfl ?_
  refine gn_goto td_X2_init 25 rfl (q := 25) rfl ?_
  refine gn_iload_n td_X2_init 14 rfl (q := 26) rfl 0 rfl ?_
  refine gn_bipush td_X2_init 15 rfl (q := 28) rfl kb_20 ?_
  refine gn_ge_no (tgt := 50) td_X2_init 16 rfl rfl (q := 31) rfl (by decide) ?_
  refine gn_aload_n td_X2_init 17 rfl (q := 32) rfl 1 rfl ?_
  refine gn_get (n := 0) td_X2_init 18 rfl (q := 35) rfl fg_X2_20 rfl rfl ?_
  refine gn_iload_n td_X2_init 19 rfl (q := 36) rfl 0 rfl ?_
  refine gn_new 30 td_X2_init 20 rfl (q := 39) rfl nw_X2_18 rfl ⟨Nat.le_of_ble_eq_true rfl, Nat.le_of_ble_eq_true rfl⟩ ?_
  refine gn_dup td_X2_init 21 rfl (q := 40) rfl rfl ?_
  refine gn_call true td_X2_init 22 rfl (q := 43) rfl lb_X1_init (show _ ∈ nestA by decide +kernel) (okN_Fleet Z (β + 30) ) ⟨Nat.le_of_ble_eq_true rfl, Nat.le_of_ble_eq_true rfl, Nat.le_of_ble_eq_true rfl, Nat.le_of_ble_eq_true rfl⟩ rfl rfl (Nat.le_of_ble_eq_true rfl) rfl rfl rfl ?_
  refine gn_aast (n := 1) (n2 := 30) _ td_X2_init 23 rfl (q := 44) rfl rfl rfl rfl (by decide) rfl ?_
  refine gn_iinc (v := 8) [(1, .int 8), (0, .ref (β + 0))] td_X2_init 24 rfl (q := 47) rfl 0 rfl (by decide) (Nat.le_of_ble_eq_true rfl) rfl ?_
  refine gn_goto td_X2_init 25 rfl (q := 25) rfl ?_
  refine gn_iload_n td_X2_init 14 rfl (q := 26) rfl 0 rfl ?_
  refine gn_bipush td_X2_init 15 rfl (q := 28) rfl kb_20 ?_
  refine gn_ge_no (tgt := 50) td_X2_init 16 rfl rfl (q := 31) rfl (by decide) ?_
  refine gn_aload_n td_X2_init 17 rfl (q := 32) rfl 1 rfl ?_
  refine gn_get (n := 0) td_X2_init 18 rfl (q := 35) rfl fg_X2_20 rfl rfl ?_
  refine gn_iload_n td_X2_init 19 rfl (q := 36) rfl 0 rfl ?_
  refine gn_new 34 td_X2_init 20 rfl (q := 39) rfl nw_X2_18 rfl ⟨Nat.le_of_ble_eq_true rfl, Nat.le_of_ble_eq_true rfl⟩ ?_
  refine gn_dup td_X2_init 21 rfl (q := 40) rfl rfl ?_
  refine gn_call true td_X2_init 22 rfl (q := 43) rfl lb_X1_init (show _ ∈ nestA by decide +kernel) (okN_Fleet Z (β + 34) ) ⟨Nat.le_of_ble_eq_true rfl, Nat.le_of_ble_eq_true rfl, Nat.le_of_ble_eq_true rfl, Nat.le_of_ble_eq_true rfl⟩ rfl rfl (Nat.le_of_ble_eq_true rfl) rfl rfl rfl ?_
  refine gn_aast (n := 1) (n2 := 34) _ td_X2_init 23 rfl (q := 44) rfl rfl rfl rfl (by decide) rfl ?_
  refine gn_iinc (v := 9) [(1, .int 9), (0, .ref (β + 0))] td_X2_init 24 rfl (q := 47) rfl 0 rfl (by decide) (Nat.le_of_ble_eq_true rfl) rfl ?_
  refine gn_goto td_X2_init 25 rfl (q := 25) rfl ?_
  refine gn_iload_n td_X2_init 14 rfl (q := 26) rfl 0 rfl ?_
  refine gn_bipush td_X2_init 15 rfl (q := 28) rfl kb_20 ?_
  refine gn_ge_no (tgt := 50) td_X2_init 16 rfl rfl (q := 31) rfl (by decide) ?_
  refine gn_aload_n td_X2_init 17 rfl (q := 32) rfl 1 rfl ?_
  refine gn_get (n := 0) td_X2_init 18 rfl (q := 35) rfl fg_X2_20 rfl rfl ?_
  refine gn_iload_n td_X2_init 19 rfl (q := 36) rfl 0 rfl ?_
  refine gn_new 38 td_X2_init 20 rfl (q := 39) rfl nw_X2_18 rfl ⟨Nat.le_of_ble_eq_true rfl, Nat.le_of_ble_eq_true rfl⟩ ?_
  refine gn_dup td_X2_init 21 rfl (q := 40) rfl rfl ?_
  refine gn_call true td_X2_init 22 rfl (q := 43) rfl lb_X1_init (show _ ∈ nestA by decide +kernel) (okN_Fleet Z (β + 38) ) ⟨Nat.le_of_ble_eq_true rfl, Nat.le_of_ble_eq_true rfl, Nat.le_of_ble_eq_true rfl, Nat.le_of_ble_eq_true rfl⟩ rfl rfl (Nat.le_of_ble_eq_true rfl) rfl rfl rfl ?_
  refine gn_aast (n := 1) (n2 := 38) _ td_X2_init 23 rfl (q := 44) rfl rfl rfl rfl (by decide) rfl ?_
  refine gn_iinc (v := 10) [(1, .int 10), (0, .ref (β + 0))] td_X2_init 24 rfl (q := 47) rfl 0 rfl (by decide) (Nat.le_of_ble_eq_true rfl) rfl ?_
  refine gn_goto td_X2_init 25 rfl (q := 25) rfl ?_
  refine gn_iload_n td_X2_init 14 rfl (q := 26) rfl 0 rfl ?_
  refine gn_bipush td_X2_init 15 rfl (q := 28) rfl kb_20 ?_
  refine gn_ge_no (tgt := 50) td_X2_init 16 rfl rfl (q := 31) rfl (by decide) ?_
  refine gn_aload_n td_X2_init 17 rfl (q := 32) rfl 1 rfl ?_
  refine gn_get (n := 0) td_X2_init 18 rfl (q := 35) rfl fg_X2_20 rfl rfl ?_
  refine gn_iload_n td_X2_init 19 rfl (q := 36) rfl 0 rfl ?_
  refine gn_new 42 td_X2_init 20 rfl (q := 39) rfl nw_X2_18 rfl ⟨Nat.le_of_ble_eq_true rfl, Nat.le_of_ble_eq_true rfl⟩ ?_
  refine gn_dup td_X2_init 21 rfl (q := 40) rfl rfl ?_
  refine gn_call true td_X2_init 22 rfl (q := 43) rfl lb_X1_init (show _ ∈ nestA by decide +kernel) (okN_Fleet Z (β + 42) ) ⟨Nat.le_of_ble_eq_true rfl, Nat.le_of_ble_eq_true rfl, Nat.le_of_ble_eq_true rfl, Nat.le_of_ble_eq_true rfl⟩ rfl rfl (Nat.le_of_ble_eq_true rfl) rfl rfl rfl ?_
  refine gn_aast (n := 1) (n2 := 42) _ td_X2_init 23 rfl (q := 44) rfl rfl rfl rfl (by decide) rfl ?_
  refine gn_iinc (v := 11) [(1, .int 11), (0, .ref (β + 0))] td_X2_init 24 rfl (q := 47) rfl 0 rfl (by decide) (Nat.le_of_ble_eq_true rfl) rfl ?_
  refine gn_goto td_X2_init 25 rfl (q := 25) rfl ?_
  refine gn_iload_n td_X2_init 14 rfl (q := 26) rfl 0 rfl ?_
  refine gn_bipush td_X2_init 15 rfl (q := 28) rfl kb_20 ?_
  refine gn_ge_no (tgt := 50) td_X2_init 16 rfl rfl (q := 31) rfl (by decide) ?_
  refine gn_aload_n td_X2_init 17 rfl (q := 32) rfl 1 rfl ?_
  refine gn_get (n := 0) td_X2_init 18 rfl (q := 35) rfl fg_X2_20 rfl rfl ?_
  refine gn_iload_n td_X2_init 19 rfl (q := 36) rfl 0 rfl ?_
  refine gn_new 46 td_X2_init 20 rfl (q := 39) rfl nw_X2_18 rfl ⟨Nat.le_of_ble_eq_true rfl, Nat.le_of_ble_eq_true rfl⟩ ?_
  refine gn_dup td_X2_init 21 rfl (q := 40) rfl rfl ?_
  refine gn_call true td_X2_init 22 rfl (q := 43) rfl lb_X1_init (show _ ∈ nestA by decide +kernel) (okN_Fleet Z (β + 46) ) ⟨Nat.le_of_ble_eq_true rfl, Nat.le_of_ble_eq_true rfl, Nat.le_of_ble_eq_true rfl, Nat.le_of_ble_eq_true rfl⟩ rfl rfl (Nat.le_of_ble_eq_true rfl) rfl rfl rfl ?_
  refine gn_aast (n := 1) (n2 := 46) _ td_X2_init 23 rfl (q := 44) rfl rfl rfl rfl (by decide) rfl ?_
  refine gn_iinc (v := 12) [(1, .int 12), (0, .ref (β + 0))] td_X2_init 24 rfl (q := 47) rfl 0 rfl (by decide) (Nat.le_of_ble_eq_true rfl) rfl ?_
  refine gn_goto td_X2_init 25 rfl (q := 25) rfl ?_
  refine gn_iload_n td_X2_init 14 rfl (q := 26) rfl 0 rfl ?_
  refine gn_bipush td_X2_init 15 rfl (q := 28) rfl kb_20 ?_
  refine gn_ge_no (tgt := 50) td_X2_init 16 rfl rfl (q := 31) rfl (by decide) ?_
  refine gn_aload_n td_X2_init 17 rfl (q := 32) rfl 1 rfl ?_
  refine gn_get (n := 0) td_X2_init 18 rfl (q := 35) rfl fg_X2_20 rfl rfl ?_
  refine gn_iload_n td_X2_init 19 rfl (q := 36) rfl 0 rfl ?_
  refine gn_new 50 td_X2_init 20 rfl (q := 39) rfl nw_X2_18 rfl ⟨Nat.le_of_ble_eq_true rfl, Nat.le_of_ble_eq_true rfl⟩ ?_
  refine gn_dup td_X2_init 21 rfl (q := 40) rfl rfl ?_
  refine gn_call true td_X2_init 22 rfl (q := 43) rfl lb_X1_init (show _ ∈ nestA by decide +kernel) (okN_Fleet Z (β + 50) ) ⟨Nat.le_of_ble_eq_true rfl, Nat.le_of_ble_eq_true rfl, Nat.le_of_ble_eq_true rfl, Nat.le_of_ble_eq_true rfl⟩ rfl rfl (Nat.le_of_ble_eq_true rfl) rfl rfl rfl ?_
  refine gn_aast (n := 1) (n2 := 50) _ td_X2_init 23 rfl (q := 44) rfl rfl rfl rfl (by decide) rfl ?_
  refine gn_iinc (v := 13) [(1, .int 13), (0, .ref (β + 0))] td_X2_init 24 rfl (q := 47) rfl 0 rfl (by decide) (Nat.le_of_ble_eq_true rfl) rfl ?_
  refine gn_goto td_X2_init 25 rfl (q := 25) rfl ?_
  refine gn_iload_n td_X2_init 14 rfl (q := 26) rfl 0 rfl ?_
  refine gn_bipush td_X2_init 15 rfl (q := 28) rfl kb_20 ?_
  refine gn_ge_no (tgt := 50) td_X2_init 16 rfl rfl (q := 31) rfl (by decide) ?_
  refine gn_aload_n td_X2_init 17 rfl (q := 32) rfl 1 rfl ?_
  refine gn_get (n := 0) td_X2_init 18 rfl (q := 35) rfl fg_X2_20 rfl rfl ?_
  refine gn_iload_n td_X2_init 19 rfl (q := 36) rfl 0 rfl ?_
  refine gn_new 54 td_X2_init 20 rfl (q := 39) rfl nw_X2_18 rfl ⟨Nat.le_of_ble_eq_true rfl, Nat.le_of_ble_eq_true rfl⟩ ?_
  refine gn_dup td_X2_init 21 rfl (q := 40) rfl rfl ?_
  refine gn_call true td_X2_init 22 rfl (q := 43) rfl lb_X1_init (show _ ∈ nestA by decide +kernel) (okN_Fleet Z (β + 54) ) ⟨Nat.le_of_ble_eq_true rfl, Nat.le_of_ble_eq_true rfl, Nat.le_of_ble_eq_true rfl, Nat.le_of_ble_eq_true rfl⟩ rfl rfl (Nat.le_of_ble_eq_true rfl) rfl rfl rfl ?_
  refine gn_aast (n := 1) (n2 := 54) _ td_X2_init 23 rfl (q := 44) rfl rfl rfl rfl (by decide) rfl ?_
  refine gn_iinc (v := 14) [(1, .int 14), (0, .ref (β + 0))] td_X2_init 24 rfl (q := 47) rfl 0 rfl (by decide) (Nat.le_of_ble_eq_true rfl) rfl ?_
  refine gn_goto td_X2_init 25 rfl (q := 25) rfl ?_
  refine gn_iload_n td_X2_init 14 rfl (q := 26) rfl 0 rfl ?_
  refine gn_bipush td_X2_init 15 rfl (q := 28) rfl kb_20 ?_
  refine gn_ge_no (tgt := 50) td_X2_init 16 rfl rfl (q := 31) rfl (by decide) ?_
  refine gn_aload_n td_X2_init 17 rfl (q := 32) rfl 1 rfl ?_
  refine gn_get (n := 0) td_X2_init 18 rfl (q := 35) rfl fg_X2_20 rfl rfl ?_
  refine gn_iload_n td_X2_init 19 rfl (q := 36) rfl 0 rfl ?_
  refine gn_new 58 td_X2_init 20 rfl (q := 39) rfl nw_X2_18 rfl ⟨Nat.le_of_ble_eq_true rfl, Nat.le_of_ble_eq_true rfl⟩ ?_
  refine gn_dup td_X2_init 21 rfl (q := 40) rfl rfl ?_
  refine gn_call true td_X2_init 22 rfl (q := 43) rfl lb_X1_init (show _ ∈ nestA by decide +kernel) (okN_Fleet Z (β + 58) ) ⟨Nat.le_of_ble_eq_true rfl, Nat.le_of_ble_eq_true rfl, Nat.le_of_ble_eq_true rfl, Nat.le_of_ble_eq_true rfl⟩ rfl rfl (Nat.le_of_ble_eq_true rfl) rfl rfl rfl ?_
  refine gn_aast (n := 1) (n2 := 58) _ td_X2_init 23 rfl (q := 44) rfl rfl rfl rfl (by decide) rfl ?_
  refine gn_iinc (v := 15) [(1, .int 15), (0, .ref (β + 0))] td_X2_init 24 rfl (q := 47) rfl 0 rfl (by decide) (Nat.le_of_ble_eq_true rfl) rfl ?_
  refine gn_goto td_X2_init 25 rfl (q := 25) rfl ?_
  refine gn_iload_n td_X2_init 14 rfl (q := 26) rfl 0 rfl ?_
  refine gn_bipush td_X2_init 15 rfl (q := 28) rfl kb_20 ?_
  refine gn_ge_no (tgt := 50) td_X2_init 16 rfl rfl (q := 31) rfl (by decide) ?_
  refine gn_aload_n td_X2_init 17 rfl (q := 32) rfl 1 rfl ?_
  refine gn_get (n := 0) td_X2_init 18 rfl (q := 35) rfl fg_X2_20 rfl rfl ?_
  refine gn_iload_n td_X2_init 19 rfl (q := 36) rfl 0 rfl ?_
  refine gn_new 62 td_X2_init 20 rfl (q := 39) rfl nw_X2_18 rfl ⟨Nat.le_of_ble_eq_true rfl, Nat.le_of_ble_eq_true rfl⟩ ?_
  refine gn_dup td_X2_init 21 rfl (q := 40) rfl rfl ?_
  refine gn_call true td_X2_init 22 rfl (q := 43) rfl lb_X1_init (show _ ∈ nestA by decide +kernel) (okN_Fleet Z (β + 62) ) ⟨Nat.le_of_ble_eq_true rfl, Nat.le_of_ble_eq_true rfl, Nat.le_of_ble_eq_true rfl, Nat.le_of_ble_eq_true rfl⟩ rfl rfl (Nat.le_of_ble_eq_true rfl) rfl rfl rfl ?_
  refine gn_aast (n := 1) (n2 := 62) _ td_X2_init 23 rfl (q := 44) rfl rfl rfl rfl (by decide) rfl ?_
  refine gn_iinc (v := 16) [(1, .int 16), (0, .ref (β + 0))] td_X2_init 24 rfl (q := 47) rfl 0 rfl (by decide) (Nat.le_of_ble_eq_true rfl) rfl ?_
  refine gn_goto td_X2_init 25 rfl (q := 25) rfl ?_
  refine gn_iload_n td_X2_init 14 rfl (q := 26) rfl 0 rfl ?_
  refine gn_bipush td_X2_init 15 rfl (q := 28) rfl kb_20 ?_
  refine gn_ge_no (tgt := 50) td_X2_init 16 rfl rfl (q := 31) rfl (by decide) ?_
  refine gn_aload_n td_X2_init 17 rfl (q := 32) rfl 1 rfl ?_
  refine gn_get (n := 0) td_X2_init 18 rfl (q := 35) rfl fg_X2_20 rfl rfl ?_
  refine gn_iload_n td_X2_init 19 rfl (q := 36) rfl 0 rfl ?_
  refine gn_new 66 td_X2_init 20 rfl (q := 39) rfl nw_X2_18 rfl ⟨Nat.le_of_ble_eq_true rfl, Nat.le_of_ble_eq_true rfl⟩ ?_
  refine gn_dup td_X2_init 21 rfl (q := 40) rfl rfl ?_
  refine gn_call true td_X2_init 22 rfl (q := 43) rfl lb_X1_init (show _ ∈ nestA by decide +kernel) (okN_Fleet Z (β + 66) ) ⟨Nat.le_of_ble_eq_true rfl, Nat.le_of_ble_eq_true rfl, Nat.le_of_ble_eq_true rfl, Nat.le_of_ble_eq_true rfl⟩ rfl rfl (Nat.le_of_ble_eq_true rfl) rfl rfl rfl ?_
  refine gn_aast (n := 1) (n2 := 66) _ td_X2_init 23 rfl (q := 44) rfl rfl rfl rfl (by decide) rfl ?_
  refine gn_iinc (v := 17) [(1, .int 17), (0, .ref (β + 0))] td_X2_init 24 rfl (q := 47) rfl 0 rfl (by decide) (Nat.le_of_ble_eq_true rfl) rfl ?_
  refine gn_goto td_X2_init 25 rfl (q := 25) rfl ?_
  refine gn_iload_n td_X2_init 14 rfl (q := 26) rfl 0 rfl ?_
  refine gn_bipush td_X2_init 15 rfl (q := 28) rfl kb_20 ?_
  refine gn_ge_no (tgt := 50) td_X2_init 16 rfl rfl (q := 31) rfl (by decide) ?_
  refine gn_aload_n td_X2_init 17 rfl (q := 32) rfl 1 rfl ?_
  refine gn_get (n := 0) td_X2_init 18 rfl (q := 35) rfl fg_X2_20 rfl rfl ?_
  refine gn_iload_n td_X2_init 19 rfl (q := 36) rfl 0 rfl ?_
  refine gn_new 70 td_X2_init 20 rfl (q := 39) rfl nw_X2_18 rfl ⟨Nat.le_of_ble_eq_true rfl, Nat.le_of_ble_eq_true rfl⟩ ?_
  refine gn_dup td_X2_init 21 rfl (q := 40) rfl rfl ?_
  refine gn_call true td_X2_init 22 rfl (q := 43) rfl lb_X1_init (show _ ∈ nestA by decide +kernel) (okN_Fleet Z (β + 70) ) ⟨Nat.le_of_ble_eq_true rfl, Nat.le_of_ble_eq_true rfl, Nat.le_of_ble_eq_true rfl, Nat.le_of_ble_eq_true rfl⟩ rfl rfl (Nat.le_of_ble_eq_true rfl) rfl rfl rfl ?_
  refine gn_aast (n := 1) (n2 := 70) _ td_X2_init 23 rfl (q := 44) rfl rfl rfl rfl (by decide) rfl ?_
  refine gn_iinc (v := 18) [(1, .int 18), (0, .ref (β + 0))] td_X2_init 24 rfl (q := 47) rfl 0 rfl (by decide) (Nat.le_of_ble_eq_true rfl) rfl ?_
  refine gn_goto td_X2_init 25 rfl (q := 25) rfl ?_
  refine gn_iload_n td_X2_init 14 rfl (q := 26) rfl 0 rfl ?_
  refine gn_bipush td_X2_init 15 rfl (q := 28) rfl kb_20 ?_
  refine gn_ge_no (tgt := 50) td_X2_init 16 rfl rfl (q := 31) rfl (by decide) ?_
  refine gn_aload_n td_X2_init 17 rfl (q := 32) rfl 1 rfl ?_
  refine gn_get (n := 0) td_X2_init 18 rfl (q := 35) rfl fg_X2_20 rfl rfl ?_
  refine gn_iload_n td_X2_init 19 rfl (q := 36) rfl 0 rfl ?_
  refine gn_new 74 td_X2_init 20 rfl (q := 39) rfl nw_X2_18 rfl ⟨Nat.le_of_ble_eq_true rfl, Nat.le_of_ble_eq_true rfl⟩ ?_
  refine gn_dup td_X2_init 21 rfl (q := 40) rfl rfl ?_
  refine gn_call true td_X2_init 22 rfl (q := 43) rfl lb_X1_init (show _ ∈ nestA by decide +kernel) (okN_Fleet Z (β + 74) ) ⟨Nat.le_of_ble_eq_true rfl, Nat.le_of_ble_eq_true rfl, Nat.le_of_ble_eq_true rfl, Nat.le_of_ble_eq_true rfl⟩ rfl rfl (Nat.le_of_ble_eq_true rfl) rfl rfl rfl ?_
  refine gn_aast (n := 1) (n2 := 74) _ td_X2_init 23 rfl (q := 44) rfl rfl rfl rfl (by decide) rfl ?_
  refine gn_iinc (v := 19) [(1, .int 19), (0, .ref (β + 0))] td_X2_init 24 rfl (q := 47) rfl 0 rfl (by decide) (Nat.le_of_ble_eq_true rfl) rfl ?_
  refine gn_goto td_X2_init 25 rfl (q := 25) rfl ?_
  refine gn_iload_n td_X2_init 14 rfl (q := 26) rfl 0 rfl ?_
  refine gn_bipush td_X2_init 15 rfl (q := 28) rfl kb_20 ?_
  refine gn_ge_no (tgt := 50) td_X2_init 16 rfl rfl (q := 31) rfl (by decide) ?_
  refine gn_aload_n td_X2_init 17 rfl (q := 32) rfl 1 rfl ?_
  refine gn_get (n := 0) td_X2_init 18 rfl (q := 35) rfl fg_X2_20 rfl rfl ?_
  refine gn_iload_n td_X2_init 19 rfl (q := 36) rfl 0 rfl ?_
  refine gn_new 78 td_X2_init 20 rfl (q := 39) rfl nw_X2_18 rfl ⟨Nat.le_of_ble_eq_true rfl, Nat.le_of_ble_eq_true rfl⟩ ?_
  refine gn_dup td_X2_init 21 rfl (q := 40) rfl rfl ?_
  refine gn_call true td_X2_init 22 rfl (q := 43) rfl lb_X1_init (show _ ∈ nestA by decide +kernel) (okN_Fleet Z (β + 78) ) ⟨Nat.le_of_ble_eq_true rfl, Nat.le_of_ble_eq_true rfl, Nat.le_of_ble_eq_true rfl, Nat.le_of_ble_eq_true rfl⟩ rfl rfl (Nat.le_of_ble_eq_true rfl) rfl rfl rfl ?_
  refine gn_aast (n := 1) (n2 := 78) _ td_X2_init 23 rfl (q := 44) rfl rfl rfl rfl (by decide) rfl ?_
  refine gn_iinc (v := 20) [(1, .int 20), (0, .ref (β + 0))] td_X2_init 24 rfl (q := 47) rfl 0 rfl (by decide) (Nat.le_of_ble_eq_true rfl) rfl ?_
  refine gn_goto td_X2_init 25 rfl (q := 25) rfl ?_
  refine gn_iload_n td_X2_init 14 rfl (q := 26) rfl 0 rfl ?_
  refine gn_bipush td_X2_init 15 rfl (q := 28) rfl kb_20 ?_
  refine gn_ge_yes td_X2_init 16 rfl (q := 50) rfl (by decide) ?_
  exact gn_ret td_X2_init 26 rfl ⟨rfl, rfl⟩
def tb_X6_init : List (Nat × ClassFile.Instr × Nat) := [(0, .aload_n 0, 1), (1, .invokespecial 3, 3), (4, .aload_n 0, 1), (5, .iconst 0, 1), (6, .putfield 9, 3), (9, .aload_n 0, 1), (10, .iconst 0, 1), (11, .putfield 15, 3), (14, .aload_n 0, 1), (15, .sipush 1872, 3), (18, .newarray .int, 2), (20, .putfield 18, 3), (23, .aload_n 0, 1), (24, .bipush 12, 2), (26, .newarray .float, 2), (28, .putfield 22, 3), (31, .aload_n 0, 1), (32, .bipush 8, 2), (34, .newarray .int, 2), (36, .putfield 26, 3), (39, .aload_n 0, 1), (40, .bipush 8, 2), (42, .newarray .int, 2), (44, .putfield 29, 3), (47, .aload_n 0, 1), (48, .bipush 8, 2), (50, .newarray .int, 2), (52, .putfield 32, 3), (55, .aload_n 0, 1), (56, .sipush 1920, 3), (59, .newarray .int, 2), (61, .putfield 35, 3), (64, .aload_n 0, 1), (65, .sipush 1920, 3), (68, .newarray .int, 2), (70, .putfield 38, 3), (73, .aload_n 0, 1), (74, .sipush 23040, 3), (77, .newarray .int, 2), (79, .putfield 41, 3), (82, .aload_n 0, 1), (83, .sipush 2880, 3), (86, .newarray .int, 2), (88, .putfield 44, 3), (91, .aload_n 0, 1), (92, .sipush 2880, 3), (95, .newarray .int, 2), (97, .putfield 47, 3), (100, .aload_n 0, 1), (101, .bipush 24, 2), (103, .newarray .int, 2), (105, .putfield 50, 3), (108, .aload_n 0, 1), (109, .aload_n 1, 1), (110, .putfield 53, 3), (113, .return_, 1)]
theorem td_X6_init : AllDec cX6_init tb_X6_init := by unfold AllDec; decide +kernel
abbrev mi_X6_init : Mi := (RX6, cX6_init, 2, { frames := 1, cells := 11, slots := 34572, locals := 33 }, none)
theorem lb_X2_init : LkB yX2_init mi_X2_init 0 ∧ mi_X2_init.2.2.2.2 = none ∧ yX2_init.name = "<init>" ∧ Cond.instanceMethod yX2_init ∈ Wt := ⟨⟨Wt_of (tk_2 _ (List.mem_of_getElem? (i := 10) rfl)) rfl, Wt_of (tk_1 _ (List.mem_of_getElem? (i := 6) rfl)) rfl, by decide, by decide, by decide +kernel⟩, rfl, rfl, Wt_of (tk_2 _ (List.mem_of_getElem? (i := 9) rfl)) rfl⟩
theorem fn_X11_48 : FlN RX11 48 10 6 (.object "OrbitDesk$History") := ⟨RX11, TX11, _, rfl, iw_X11, by decide, Wt_of (tk_2 _ (List.mem_of_getElem? (i := 210) rfl)) rfl, ⟨tyX11, tyX11_ok⟩, nmX11, Or.inr ⟨rfl, rfl⟩, rfl⟩
theorem nw_X11_52 : NwC RX11 52 6 RX6 TX6 14 [.null, .int 0, .int 0, .null, .null, .null, .null, .null, .null, .null, .null, .null, .null, .null] := ⟨rfl, iw_X6, ⟨Wt_of (tk_2 _ (List.mem_of_getElem? (i := 26) rfl)) rfl, Wt_of (tk_2 _ (List.mem_of_getElem? (i := 27) rfl)) rfl, Wt_of (tk_1 _ (List.mem_of_getElem? (i := 7) rfl)) rfl⟩, tyX6, tyX6_ok, by decide +kernel⟩
theorem fg_X11_19 : FlG RX11 19 10 1 := ⟨RX11, TX11, _, rfl, iw_X11, by decide, Wt_of (tk_2 _ (List.mem_of_getElem? (i := 205) rfl)) rfl⟩
theorem lo_X6_3 : Cond.methodLink RX6 3 objectInit ∈ Wt := Wt_of (tk_2 _ (List.mem_of_getElem? (i := 31) rfl)) rfl
theorem fn_X6_9 : FlN RX6 9 6 1 .int := ⟨RX6, TX6, _, rfl, iw_X6, by decide, Wt_of (tk_2 _ (List.mem_of_getElem? (i := 33) rfl)) rfl, ⟨tyX6, tyX6_ok⟩, nmX6, Or.inl rfl, rfl⟩
theorem fn_X6_15 : FlN RX6 15 6 2 .int := ⟨RX6, TX6, _, rfl, iw_X6, by decide, Wt_of (tk_2 _ (List.mem_of_getElem? (i := 34) rfl)) rfl, ⟨tyX6, tyX6_ok⟩, nmX6, Or.inl rfl, rfl⟩
theorem ks_1872 : (Int16.ofInt 1872).toInt32 = 1872 := by decide
theorem fn_X6_18 : FlN RX6 18 6 3 (.array .int) := ⟨RX6, TX6, _, rfl, iw_X6, by decide, Wt_of (tk_2 _ (List.mem_of_getElem? (i := 35) rfl)) rfl, ⟨tyX6, tyX6_ok⟩, nmX6, Or.inr ⟨rfl, rfl⟩, rfl⟩
theorem fn_X6_22 : FlN RX6 22 6 4 (.array .float) := ⟨RX6, TX6, _, rfl, iw_X6, by decide, Wt_of (tk_2 _ (List.mem_of_getElem? (i := 36) rfl)) rfl, ⟨tyX6, tyX6_ok⟩, nmX6, Or.inr ⟨rfl, rfl⟩, rfl⟩
theorem fn_X6_26 : FlN RX6 26 6 5 (.array .int) := ⟨RX6, TX6, _, rfl, iw_X6, by decide, Wt_of (tk_2 _ (List.mem_of_getElem? (i := 37) rfl)) rfl, ⟨tyX6, tyX6_ok⟩, nmX6, Or.inr ⟨rfl, rfl⟩, rfl⟩
theorem fn_X6_29 : FlN RX6 29 6 6 (.array .int) := ⟨RX6, TX6, _, rfl, iw_X6, by decide, Wt_of (tk_2 _ (List.mem_of_getElem? (i := 38) rfl)) rfl, ⟨tyX6, tyX6_ok⟩, nmX6, Or.inr ⟨rfl, rfl⟩, rfl⟩
theorem fn_X6_32 : FlN RX6 32 6 7 (.array .int) := ⟨RX6, TX6, _, rfl, iw_X6, by decide, Wt_of (tk_2 _ (List.mem_of_getElem? (i := 39) rfl)) rfl, ⟨tyX6, tyX6_ok⟩, nmX6, Or.inr ⟨rfl, rfl⟩, rfl⟩
theorem ks_1920 : (Int16.ofInt 1920).toInt32 = 1920 := by decide
theorem fn_X6_35 : FlN RX6 35 6 8 (.array .int) := ⟨RX6, TX6, _, rfl, iw_X6, by decide, Wt_of (tk_2 _ (List.mem_of_getElem? (i := 40) rfl)) rfl, ⟨tyX6, tyX6_ok⟩, nmX6, Or.inr ⟨rfl, rfl⟩, rfl⟩
theorem fn_X6_38 : FlN RX6 38 6 9 (.array .int) := ⟨RX6, TX6, _, rfl, iw_X6, by decide, Wt_of (tk_2 _ (List.mem_of_getElem? (i := 41) rfl)) rfl, ⟨tyX6, tyX6_ok⟩, nmX6, Or.inr ⟨rfl, rfl⟩, rfl⟩
theorem ks_23040 : (Int16.ofInt 23040).toInt32 = 23040 := by decide
theorem fn_X6_41 : FlN RX6 41 6 10 (.array .int) := ⟨RX6, TX6, _, rfl, iw_X6, by decide, Wt_of (tk_2 _ (List.mem_of_getElem? (i := 42) rfl)) rfl, ⟨tyX6, tyX6_ok⟩, nmX6, Or.inr ⟨rfl, rfl⟩, rfl⟩
theorem ks_2880 : (Int16.ofInt 2880).toInt32 = 2880 := by decide
theorem fn_X6_44 : FlN RX6 44 6 11 (.array .int) := ⟨RX6, TX6, _, rfl, iw_X6, by decide, Wt_of (tk_2 _ (List.mem_of_getElem? (i := 43) rfl)) rfl, ⟨tyX6, tyX6_ok⟩, nmX6, Or.inr ⟨rfl, rfl⟩, rfl⟩
theorem fn_X6_47 : FlN RX6 47 6 12 (.array .int) := ⟨RX6, TX6, _, rfl, iw_X6, by decide, Wt_of (tk_2 _ (List.mem_of_getElem? (i := 44) rfl)) rfl, ⟨tyX6, tyX6_ok⟩, nmX6, Or.inr ⟨rfl, rfl⟩, rfl⟩
theorem fn_X6_50 : FlN RX6 50 6 13 (.array .int) := ⟨RX6, TX6, _, rfl, iw_X6, by decide, Wt_of (tk_2 _ (List.mem_of_getElem? (i := 45) rfl)) rfl, ⟨tyX6, tyX6_ok⟩, nmX6, Or.inr ⟨rfl, rfl⟩, rfl⟩
theorem fn_X6_53 : FlN RX6 53 6 0 (.object "OrbitDesk$Plan") := ⟨RX6, TX6, _, rfl, iw_X6, by decide, Wt_of (tk_2 _ (List.mem_of_getElem? (i := 32) rfl)) rfl, ⟨tyX6, tyX6_ok⟩, nmX6, Or.inr ⟨rfl, rfl⟩, rfl⟩
def tN_Sky (Z : Zt) (β : Nat) (p1 : Nat) : List va_E := (((((((((([.inr (6, [.ref p1, .int 0, .int 0, .ref (β + 1), .ref (β + 2), .ref (β + 3), .ref (β + 4), .ref (β + 5), .ref (β + 6), .ref (β + 7), .ref (β + 8), .ref (β + 9), .ref (β + 10), .ref (β + 11)])] ++ [.inl (Z.1.1, 1872, .inl (fun _ => 0))]) ++ [.inl (Z.1.2.1, 12, .inr (.inr (.inl (fun _ => 0))))]) ++ [.inl (Z.1.1, 8, .inl (fun _ => 0))]) ++ [.inl (Z.1.1, 8, .inl (fun _ => 0))]) ++ [.inl (Z.1.1, 8, .inl (fun _ => 0))]) ++ [.inl (Z.1.1, 1920, .inl (fun _ => 0))]) ++ [.inl (Z.1.1, 1920, .inl (fun _ => 0))]) ++ [.inl (Z.1.1, 23040, .inl (fun _ => 0))]) ++ [.inl (Z.1.1, 2880, .inl (fun _ => 0))]) ++ [.inl (Z.1.1, 2880, .inl (fun _ => 0))]) ++ [.inl (Z.1.1, 24, .inl (fun _ => 0))]
set_option maxRecDepth 20000 in
set_option maxHeartbeats 4000000 in
theorem okN_Sky (Z : Zt) (β : Nat) (p1 : Nat) : CtN Z yX6_init mi_X6_init [.ref p1] β (.inr (6, [.null, .int 0, .int 0, .null, .null, .null, .null, .null, .null, .null, .null, .null, .null, .null])) (tN_Sky Z β p1) := by
  refine gn_enter (by decide) rfl rfl (Nat.le_of_ble_eq_true rfl) (lv := [(0, .ref (β + 0)), (1, .ref p1)]) rfl ?_
  unfold tN_Sky
  refine gn_aload_n td_X6_init 0 rfl (q := 1) rfl 0 rfl ?_
  refine gn_obj td_X6_init 1 rfl (q := 4) rfl lo_X6_3 ⟨Nat.le_of_ble_eq_true rfl, Nat.le_of_ble_eq_true rfl⟩ ?_
  refine gn_aload_n td_X6_init 2 rfl (q := 5) rfl 0 rfl ?_
  refine gn_iconst td_X6_init 3 rfl (q := 6) rfl kc_0 ?_
  refine gn_put (n := 0) _ td_X6_init 4 rfl (q := 9) rfl fn_X6_9 rfl rfl rfl (Nat.le_of_ble_eq_true rfl) rfl ?_
  refine gn_aload_n td_X6_init 5 rfl (q := 10) rfl 0 rfl ?_
  refine gn_iconst td_X6_init 6 rfl (q := 11) rfl kc_0 ?_
  refine gn_put (n := 0) _ td_X6_init 7 rfl (q := 14) rfl fn_X6_15 rfl rfl rfl (Nat.le_of_ble_eq_true rfl) rfl ?_
  refine gn_aload_n td_X6_init 8 rfl (q := 15) rfl 0 rfl ?_
  refine gn_sipush td_X6_init 9 rfl (q := 18) rfl ks_1872 ?_
  refine gn_newa (N := 1872) 1 td_X6_init 10 rfl (q := 20) rfl ⟨by decide, by decide, Nat.le_of_ble_eq_true rfl⟩ rfl ⟨Nat.le_of_ble_eq_true rfl, Nat.le_of_ble_eq_true rfl⟩ ?_
  refine gn_put (n := 0) _ td_X6_init 11 rfl (q := 23) rfl fn_X6_18 rfl rfl rfl (Nat.le_of_ble_eq_true rfl) rfl ?_
  refine gn_aload_n td_X6_init 12 rfl (q := 24) rfl 0 rfl ?_
  refine gn_bipush td_X6_init 13 rfl (q := 26) rfl kb_12 ?_
  refine gn_newf (N := 12) 2 td_X6_init 14 rfl (q := 28) rfl ⟨by decide, by decide, Nat.le_of_ble_eq_true rfl⟩ rfl ⟨Nat.le_of_ble_eq_true rfl, Nat.le_of_ble_eq_true rfl⟩ ?_
  refine gn_put (n := 0) _ td_X6_init 15 rfl (q := 31) rfl fn_X6_22 rfl rfl rfl (Nat.le_of_ble_eq_true rfl) rfl ?_
  refine gn_aload_n td_X6_init 16 rfl (q := 32) rfl 0 rfl ?_
  refine gn_bipush td_X6_init 17 rfl (q := 34) rfl kb_8 ?_
  refine gn_newa (N := 8) 3 td_X6_init 18 rfl (q := 36) rfl ⟨by decide, by decide, Nat.le_of_ble_eq_true rfl⟩ rfl ⟨Nat.le_of_ble_eq_true rfl, Nat.le_of_ble_eq_true rfl⟩ ?_
  refine gn_put (n := 0) _ td_X6_init 19 rfl (q := 39) rfl fn_X6_26 rfl rfl rfl (Nat.le_of_ble_eq_true rfl) rfl ?_
  refine gn_aload_n td_X6_init 20 rfl (q := 40) rfl 0 rfl ?_
  refine gn_bipush td_X6_init 21 rfl (q := 42) rfl kb_8 ?_
  refine gn_newa (N := 8) 4 td_X6_init 22 rfl (q := 44) rfl ⟨by decide, by decide, Nat.le_of_ble_eq_true rfl⟩ rfl ⟨Nat.le_of_ble_eq_true rfl, Nat.le_of_ble_eq_true rfl⟩ ?_
  refine gn_put (n := 0) _ td_X6_init 23 rfl (q := 47) rfl fn_X6_29 rfl rfl rfl (Nat.le_of_ble_eq_true rfl) rfl ?_
  refine gn_aload_n td_X6_init 24 rfl (q := 48) rfl 0 rfl ?_
  refine gn_bipush td_X6_init 25 rfl (q := 50) rfl kb_8 ?_
  refine gn_newa (N := 8) 5 td_X6_init 26 rfl (q := 52) rfl ⟨by decide, by decide, Nat.le_of_ble_eq_true rfl⟩ rfl ⟨Nat.le_of_ble_eq_true rfl, Nat.le_of_ble_eq_true rfl⟩ ?_
  refine gn_put (n := 0) _ td_X6_init 27 rfl (q := 55) rfl fn_X6_32 rfl rfl rfl (Nat.le_of_ble_eq_true rfl) rfl ?_
  refine gn_aload_n td_X6_init 28 rfl (q := 56) rfl 0 rfl ?_
  refine gn_sipush td_X6_init 29 rfl (q := 59) rfl ks_1920 ?_
  refine gn_newa (N := 1920) 6 td_X6_init 30 rfl (q := 61) rfl ⟨by decide, by decide, Nat.le_of_ble_eq_true rfl⟩ rfl ⟨Nat.le_of_ble_eq_true rfl, Nat.le_of_ble_eq_true rfl⟩ ?_
  refine gn_put (n := 0) _ td_X6_init 31 rfl (q := 64) rfl fn_X6_35 rfl rfl rfl (Nat.le_of_ble_eq_true rfl) rfl ?_
  refine gn_aload_n td_X6_init 32 rfl (q := 65) rfl 0 rfl ?_
  refine gn_sipush td_X6_init 33 rfl (q := 68) rfl ks_1920 ?_
  refine gn_newa (N := 1920) 7 td_X6_init 34 rfl (q := 70) rfl ⟨by decide, by decide, Nat.le_of_ble_eq_true rfl⟩ rfl ⟨Nat.le_of_ble_eq_true rfl, Nat.le_of_ble_eq_true rfl⟩ ?_
  refine gn_put (n := 0) _ td_X6_init 35 rfl (q := 73) rfl fn_X6_38 rfl rfl rfl (Nat.le_of_ble_eq_true rfl) rfl ?_
  refine gn_aload_n td_X6_init 36 rfl (q := 74) rfl 0 rfl ?_
  refine gn_sipush td_X6_init 37 rfl (q := 77) rfl ks_23040 ?_
  refine gn_newa (N := 23040) 8 td_X6_init 38 rfl (q := 79) rfl ⟨by decide, by decide, Nat.le_of_ble_eq_true rfl⟩ rfl ⟨Nat.le_of_ble_eq_true rfl, Nat.le_of_ble_eq_true rfl⟩ ?_
  refine gn_put (n := 0) _ td_X6_init 39 rfl (q := 82) rfl fn_X6_41 rfl rfl rfl (Nat.le_of_ble_eq_true rfl) rfl ?_
  refine gn_aload_n td_X6_init 40 rfl (q := 83) rfl 0 rfl ?_
  refine gn_sipush td_X6_init 41 rfl (q := 86) rfl ks_2880 ?_
  refine gn_newa (N := 2880) 9 td_X6_init 42 rfl (q := 88) rfl ⟨by decide, by decide, Nat.le_of_ble_eq_true rfl⟩ rfl ⟨Nat.le_of_ble_eq_true rfl, Nat.le_of_ble_eq_true rfl⟩ ?_
  refine gn_put (n := 0) _ td_X6_init 43 rfl (q := 91) rfl fn_X6_44 rfl rfl rfl (Nat.le_of_ble_eq_true rfl) rfl ?_
  refine gn_aload_n td_X6_init 44 rfl (q := 92) rfl 0 rfl ?_
  refine gn_sipush td_X6_init 45 rfl (q := 95) rfl ks_2880 ?_
  refine gn_newa (N := 2880) 10 td_X6_init 46 rfl (q := 97) rfl ⟨by decide, by decide, Nat.le_of_ble_eq_true rfl⟩ rfl ⟨Nat.le_of_ble_eq_true rfl, Nat.le_of_ble_eq_true rfl⟩ ?_
  refine gn_put (n := 0) _ td_X6_init 47 rfl (q := 100) rfl fn_X6_47 rfl rfl rfl (Nat.le_of_ble_eq_true rfl) rfl ?_
  refine gn_aload_n td_X6_init 48 rfl (q := 101) rfl 0 rfl ?_
  refine gn_bipush td_X6_init 49 rfl (q := 103) rfl kb_24 ?_
  refine gn_newa (N := 24) 11 td_X6_init 50 rfl (q := 105) rfl ⟨by decide, by decide, Nat.le_of_ble_eq_true rfl⟩ rfl ⟨Nat.le_of_ble_eq_true rfl, Nat.le_of_ble_eq_true rfl⟩ ?_
  refine gn_put (n := 0) _ td_X6_init 51 rfl (q := 108) rfl fn_X6_50 rfl rfl rfl (Nat.le_of_ble_eq_true rfl) rfl ?_
  refine gn_aload_n td_X6_init 52 rfl (q := 109) rfl 0 rfl ?_
  refine gn_aload_n td_X6_init 53 rfl (q := 110) rfl 1 rfl ?_
  refine gn_put (n := 0) _ td_X6_init 54 rfl (q := 113) rfl fn_X6_53 rfl rfl rfl (Nat.le_of_ble_eq_true rfl) rfl ?_
  exact gn_ret td_X6_init 55 rfl ⟨rfl, rfl⟩
def tb_X7_init : List (Nat × ClassFile.Instr × Nat) := [(0, .aload_n 0, 1), (1, .invokespecial 5, 3), (4, .aload_n 0, 1), (5, .iconst 0, 1), (6, .putfield 11, 3), (9, .aload_n 0, 1), (10, .iconst 0, 1), (11, .putfield 15, 3), (14, .aload_n 0, 1), (15, .iconst 0, 1), (16, .putfield 18, 3), (19, .aload_n 0, 1), (20, .iconst 0, 1), (21, .putfield 21, 3), (24, .aload_n 0, 1), (25, .sipush 240, 3), (28, .newarray .int, 2), (30, .putfield 24, 3), (33, .aload_n 0, 1), (34, .aload_n 1, 1), (35, .putfield 28, 3), (38, .aload_n 0, 1), (39, .aload_n 2, 1), (40, .putfield 32, 3), (43, .return_, 1)]
theorem td_X7_init : AllDec cX7_init tb_X7_init := by unfold AllDec; decide +kernel
abbrev mi_X7_init : Mi := (RX7, cX7_init, 3, { frames := 1, cells := 1, slots := 240, locals := 33 }, none)
theorem lb_X6_init : LkB yX6_init mi_X6_init 1 ∧ mi_X6_init.2.2.2.2 = none ∧ yX6_init.name = "<init>" ∧ Cond.instanceMethod yX6_init ∈ Wt := ⟨⟨Wt_of (tk_2 _ (List.mem_of_getElem? (i := 30) rfl)) rfl, Wt_of (tk_1 _ (List.mem_of_getElem? (i := 7) rfl)) rfl, by decide, by decide, by decide +kernel⟩, rfl, rfl, Wt_of (tk_2 _ (List.mem_of_getElem? (i := 29) rfl)) rfl⟩
theorem fn_X11_57 : FlN RX11 57 10 7 (.object "OrbitDesk$Sky") := ⟨RX11, TX11, _, rfl, iw_X11, by decide, Wt_of (tk_2 _ (List.mem_of_getElem? (i := 211) rfl)) rfl, ⟨tyX11, tyX11_ok⟩, nmX11, Or.inr ⟨rfl, rfl⟩, rfl⟩
theorem nw_X11_61 : NwC RX11 61 7 RX7 TX7 7 [.int 0, .int 0, .int 0, .int 0, .null, .null, .null] := ⟨rfl, iw_X7, ⟨Wt_of (tk_2 _ (List.mem_of_getElem? (i := 76) rfl)) rfl, Wt_of (tk_2 _ (List.mem_of_getElem? (i := 77) rfl)) rfl, Wt_of (tk_1 _ (List.mem_of_getElem? (i := 8) rfl)) rfl⟩, tyX7, tyX7_ok, by decide +kernel⟩
theorem fg_X11_57 : FlG RX11 57 10 7 := ⟨RX11, TX11, _, rfl, iw_X11, by decide, Wt_of (tk_2 _ (List.mem_of_getElem? (i := 211) rfl)) rfl⟩
theorem lo_X7_5 : Cond.methodLink RX7 5 objectInit ∈ Wt := Wt_of (tk_2 _ (List.mem_of_getElem? (i := 81) rfl)) rfl
theorem fn_X7_11 : FlN RX7 11 7 0 .int := ⟨RX7, TX7, _, rfl, iw_X7, by decide, Wt_of (tk_2 _ (List.mem_of_getElem? (i := 82) rfl)) rfl, ⟨tyX7, tyX7_ok⟩, nmX7, Or.inl rfl, rfl⟩
theorem fn_X7_15 : FlN RX7 15 7 1 .int := ⟨RX7, TX7, _, rfl, iw_X7, by decide, Wt_of (tk_2 _ (List.mem_of_getElem? (i := 84) rfl)) rfl, ⟨tyX7, tyX7_ok⟩, nmX7, Or.inl rfl, rfl⟩
theorem fn_X7_18 : FlN RX7 18 7 2 .int := ⟨RX7, TX7, _, rfl, iw_X7, by decide, Wt_of (tk_2 _ (List.mem_of_getElem? (i := 86) rfl)) rfl, ⟨tyX7, tyX7_ok⟩, nmX7, Or.inl rfl, rfl⟩
theorem fn_X7_21 : FlN RX7 21 7 3 .int := ⟨RX7, TX7, _, rfl, iw_X7, by decide, Wt_of (tk_2 _ (List.mem_of_getElem? (i := 88) rfl)) rfl, ⟨tyX7, tyX7_ok⟩, nmX7, Or.inl rfl, rfl⟩
theorem fn_X7_24 : FlN RX7 24 7 6 (.array .int) := ⟨RX7, TX7, _, rfl, iw_X7, by decide, Wt_of (tk_2 _ (List.mem_of_getElem? (i := 91) rfl)) rfl, ⟨tyX7, tyX7_ok⟩, nmX7, Or.inr ⟨rfl, rfl⟩, rfl⟩
theorem fn_X7_28 : FlN RX7 28 7 4 (.object "OrbitDesk$Plan") := ⟨RX7, TX7, _, rfl, iw_X7, by decide, Wt_of (tk_2 _ (List.mem_of_getElem? (i := 89) rfl)) rfl, ⟨tyX7, tyX7_ok⟩, nmX7, Or.inr ⟨rfl, rfl⟩, rfl⟩
theorem fn_X7_32 : FlN RX7 32 7 5 (.object "OrbitDesk$Sky") := ⟨RX7, TX7, _, rfl, iw_X7, by decide, Wt_of (tk_2 _ (List.mem_of_getElem? (i := 90) rfl)) rfl, ⟨tyX7, tyX7_ok⟩, nmX7, Or.inr ⟨rfl, rfl⟩, rfl⟩
def tN_Strip (Z : Zt) (β : Nat) (p1 : Nat) (p2 : Nat) : List va_E := [.inr (7, [.int 0, .int 0, .int 0, .int 0, .ref p1, .ref p2, .ref (β + 1)])] ++ [.inl (Z.1.1, 240, .inl (fun _ => 0))]
set_option maxRecDepth 20000 in
set_option maxHeartbeats 4000000 in
theorem okN_Strip (Z : Zt) (β : Nat) (p1 : Nat) (p2 : Nat) : CtN Z yX7_init mi_X7_init [.ref p1, .ref p2] β (.inr (7, [.int 0, .int 0, .int 0, .int 0, .null, .null, .null])) (tN_Strip Z β p1 p2) := by
  refine gn_enter (by decide) rfl rfl (Nat.le_of_ble_eq_true rfl) (lv := [(0, .ref (β + 0)), (1, .ref p1), (2, .ref p2)]) rfl ?_
  unfold tN_Strip
  refine gn_aload_n td_X7_init 0 rfl (q := 1) rfl 0 rfl ?_
  refine gn_obj td_X7_init 1 rfl (q := 4) rfl lo_X7_5 ⟨Nat.le_of_ble_eq_true rfl, Nat.le_of_ble_eq_true rfl⟩ ?_
  refine gn_aload_n td_X7_init 2 rfl (q := 5) rfl 0 rfl ?_
  refine gn_iconst td_X7_init 3 rfl (q := 6) rfl kc_0 ?_
  refine gn_put (n := 0) _ td_X7_init 4 rfl (q := 9) rfl fn_X7_11 rfl rfl rfl (Nat.le_of_ble_eq_true rfl) rfl ?_
  refine gn_aload_n td_X7_init 5 rfl (q := 10) rfl 0 rfl ?_
  refine gn_iconst td_X7_init 6 rfl (q := 11) rfl kc_0 ?_
  refine gn_put (n := 0) _ td_X7_init 7 rfl (q := 14) rfl fn_X7_15 rfl rfl rfl (Nat.le_of_ble_eq_true rfl) rfl ?_
  refine gn_aload_n td_X7_init 8 rfl (q := 15) rfl 0 rfl ?_
  refine gn_iconst td_X7_init 9 rfl (q := 16) rfl kc_0 ?_
  refine gn_put (n := 0) _ td_X7_init 10 rfl (q := 19) rfl fn_X7_18 rfl rfl rfl (Nat.le_of_ble_eq_true rfl) rfl ?_
  refine gn_aload_n td_X7_init 11 rfl (q := 20) rfl 0 rfl ?_
  refine gn_iconst td_X7_init 12 rfl (q := 21) rfl kc_0 ?_
  refine gn_put (n := 0) _ td_X7_init 13 rfl (q := 24) rfl fn_X7_21 rfl rfl rfl (Nat.le_of_ble_eq_true rfl) rfl ?_
  refine gn_aload_n td_X7_init 14 rfl (q := 25) rfl 0 rfl ?_
  refine gn_sipush td_X7_init 15 rfl (q := 28) rfl ks_240 ?_
  refine gn_newa (N := 240) 1 td_X7_init 16 rfl (q := 30) rfl ⟨by decide, by decide, Nat.le_of_ble_eq_true rfl⟩ rfl ⟨Nat.le_of_ble_eq_true rfl, Nat.le_of_ble_eq_true rfl⟩ ?_
  refine gn_put (n := 0) _ td_X7_init 17 rfl (q := 33) rfl fn_X7_24 rfl rfl rfl (Nat.le_of_ble_eq_true rfl) rfl ?_
  refine gn_aload_n td_X7_init 18 rfl (q := 34) rfl 0 rfl ?_
  refine gn_aload_n td_X7_init 19 rfl (q := 35) rfl 1 rfl ?_
  refine gn_put (n := 0) _ td_X7_init 20 rfl (q := 38) rfl fn_X7_28 rfl rfl rfl (Nat.le_of_ble_eq_true rfl) rfl ?_
  refine gn_aload_n td_X7_init 21 rfl (q := 39) rfl 0 rfl ?_
  refine gn_aload_n td_X7_init 22 rfl (q := 40) rfl 2 rfl ?_
  refine gn_put (n := 0) _ td_X7_init 23 rfl (q := 43) rfl fn_X7_32 rfl rfl rfl (Nat.le_of_ble_eq_true rfl) rfl ?_
  exact gn_ret td_X7_init 24 rfl ⟨rfl, rfl⟩
def tb_X9_init : List (Nat × ClassFile.Instr × Nat) := [(0, .aload_n 0, 1), (1, .invokespecial 3, 3), (4, .aload_n 0, 1), (5, .iconst (-1), 1), (6, .putfield 9, 3), (9, .aload_n 0, 1), (10, .iconst (-1), 1), (11, .putfield 15, 3), (14, .aload_n 0, 1), (15, .iconst (-1), 1), (16, .putfield 18, 3), (19, .aload_n 0, 1), (20, .fconst 0, 1), (21, .putfield 21, 3), (24, .aload_n 0, 1), (25, .new 25, 3), (28, .dup, 1), (29, .invokespecial 27, 3), (32, .putfield 28, 3), (35, .aload_n 0, 1), (36, .aload_n 1, 1), (37, .putfield 32, 3), (40, .aload_n 0, 1), (41, .aload_n 2, 1), (42, .putfield 36, 3), (45, .aload_n 0, 1), (46, .aload_n 3, 1), (47, .putfield 40, 3), (50, .return_, 1)]
theorem td_X9_init : AllDec cX9_init tb_X9_init := by unfold AllDec; decide +kernel
abbrev mi_X9_init : Mi := (RX9, cX9_init, 4, { frames := 2, cells := 4, slots := 24, locals := 66 }, none)
theorem lb_X7_init : LkB yX7_init mi_X7_init 2 ∧ mi_X7_init.2.2.2.2 = none ∧ yX7_init.name = "<init>" ∧ Cond.instanceMethod yX7_init ∈ Wt := ⟨⟨Wt_of (tk_2 _ (List.mem_of_getElem? (i := 80) rfl)) rfl, Wt_of (tk_1 _ (List.mem_of_getElem? (i := 8) rfl)) rfl, by decide, by decide, by decide +kernel⟩, rfl, rfl, Wt_of (tk_2 _ (List.mem_of_getElem? (i := 79) rfl)) rfl⟩
theorem fn_X11_66 : FlN RX11 66 10 8 (.object "OrbitDesk$Strip") := ⟨RX11, TX11, _, rfl, iw_X11, by decide, Wt_of (tk_2 _ (List.mem_of_getElem? (i := 212) rfl)) rfl, ⟨tyX11, tyX11_ok⟩, nmX11, Or.inr ⟨rfl, rfl⟩, rfl⟩
theorem nw_X11_70 : NwC RX11 70 9 RX9 TX9 8 [.int 0, .int 0, .int 0, .float 0, .null, .null, .null, .null] := ⟨rfl, iw_X9, ⟨Wt_of (tk_2 _ (List.mem_of_getElem? (i := 107) rfl)) rfl, Wt_of (tk_2 _ (List.mem_of_getElem? (i := 108) rfl)) rfl, Wt_of (tk_1 _ (List.mem_of_getElem? (i := 9) rfl)) rfl⟩, tyX9, tyX9_ok, by decide +kernel⟩
theorem fg_X11_29 : FlG RX11 29 10 3 := ⟨RX11, TX11, _, rfl, iw_X11, by decide, Wt_of (tk_2 _ (List.mem_of_getElem? (i := 207) rfl)) rfl⟩
theorem lo_X9_3 : Cond.methodLink RX9 3 objectInit ∈ Wt := Wt_of (tk_2 _ (List.mem_of_getElem? (i := 112) rfl)) rfl
theorem fn_X9_9 : FlN RX9 9 9 0 .int := ⟨RX9, TX9, _, rfl, iw_X9, by decide, Wt_of (tk_2 _ (List.mem_of_getElem? (i := 115) rfl)) rfl, ⟨tyX9, tyX9_ok⟩, nmX9, Or.inl rfl, rfl⟩
theorem fn_X9_15 : FlN RX9 15 9 1 .int := ⟨RX9, TX9, _, rfl, iw_X9, by decide, Wt_of (tk_2 _ (List.mem_of_getElem? (i := 117) rfl)) rfl, ⟨tyX9, tyX9_ok⟩, nmX9, Or.inl rfl, rfl⟩
theorem fn_X9_18 : FlN RX9 18 9 2 .int := ⟨RX9, TX9, _, rfl, iw_X9, by decide, Wt_of (tk_2 _ (List.mem_of_getElem? (i := 119) rfl)) rfl, ⟨tyX9, tyX9_ok⟩, nmX9, Or.inl rfl, rfl⟩
theorem fn_X9_21 : FlN RX9 21 9 3 .float := ⟨RX9, TX9, _, rfl, iw_X9, by decide, Wt_of (tk_2 _ (List.mem_of_getElem? (i := 121) rfl)) rfl, ⟨tyX9, tyX9_ok⟩, nmX9, Or.inl rfl, rfl⟩
theorem nw_X9_25 : NwC RX9 25 1 RX1 TX1 4 [.int 0, .null, .null, .null] := ⟨rfl, iw_X1, ⟨Wt_of (tk_2 _ (List.mem_of_getElem? (i := 113) rfl)) rfl, Wt_of (tk_1 _ (List.mem_of_getElem? (i := 169) rfl)) rfl, Wt_of (tk_1 _ (List.mem_of_getElem? (i := 4) rfl)) rfl⟩, tyX1, tyX1_ok, by decide +kernel⟩
theorem fn_X9_28 : FlN RX9 28 9 7 (.object "OrbitDesk$Fleet") := ⟨RX9, TX9, _, rfl, iw_X9, by decide, Wt_of (tk_2 _ (List.mem_of_getElem? (i := 126) rfl)) rfl, ⟨tyX9, tyX9_ok⟩, nmX9, Or.inr ⟨rfl, rfl⟩, rfl⟩
theorem fn_X9_32 : FlN RX9 32 9 4 (.object "OrbitDesk$Plan") := ⟨RX9, TX9, _, rfl, iw_X9, by decide, Wt_of (tk_2 _ (List.mem_of_getElem? (i := 123) rfl)) rfl, ⟨tyX9, tyX9_ok⟩, nmX9, Or.inr ⟨rfl, rfl⟩, rfl⟩
theorem fn_X9_36 : FlN RX9 36 9 5 (.object "OrbitDesk$Sky") := ⟨RX9, TX9, _, rfl, iw_X9, by decide, Wt_of (tk_2 _ (List.mem_of_getElem? (i := 124) rfl)) rfl, ⟨tyX9, tyX9_ok⟩, nmX9, Or.inr ⟨rfl, rfl⟩, rfl⟩
theorem fn_X9_40 : FlN RX9 40 9 6 (.object "OrbitDesk$Fleet") := ⟨RX9, TX9, _, rfl, iw_X9, by decide, Wt_of (tk_2 _ (List.mem_of_getElem? (i := 125) rfl)) rfl, ⟨tyX9, tyX9_ok⟩, nmX9, Or.inr ⟨rfl, rfl⟩, rfl⟩
def tN_Trial (Z : Zt) (β : Nat) (p1 : Nat) (p2 : Nat) (p3 : Nat) : List va_E := [.inr (9, [.int (-1), .int (-1), .int (-1), .float FP.fconst0, .ref p1, .ref p2, .ref p3, .ref (β + 1)])] ++ tN_Fleet Z (β + 1)
set_option maxRecDepth 20000 in
set_option maxHeartbeats 4000000 in
theorem okN_Trial (Z : Zt) (β : Nat) (p1 : Nat) (p2 : Nat) (p3 : Nat) : CtN Z yX9_init mi_X9_init [.ref p1, .ref p2, .ref p3] β (.inr (9, [.int 0, .int 0, .int 0, .float 0, .null, .null, .null, .null])) (tN_Trial Z β p1 p2 p3) := by
  refine gn_enter (by decide) rfl rfl (Nat.le_of_ble_eq_true rfl) (lv := [(0, .ref (β + 0)), (1, .ref p1), (2, .ref p2), (3, .ref p3)]) rfl ?_
  unfold tN_Trial
  refine gn_aload_n td_X9_init 0 rfl (q := 1) rfl 0 rfl ?_
  refine gn_obj td_X9_init 1 rfl (q := 4) rfl lo_X9_3 ⟨Nat.le_of_ble_eq_true rfl, Nat.le_of_ble_eq_true rfl⟩ ?_
  refine gn_aload_n td_X9_init 2 rfl (q := 5) rfl 0 rfl ?_
  refine gn_iconst td_X9_init 3 rfl (q := 6) rfl kc_m1 ?_
  refine gn_put (n := 0) _ td_X9_init 4 rfl (q := 9) rfl fn_X9_9 rfl rfl rfl (Nat.le_of_ble_eq_true rfl) rfl ?_
  refine gn_aload_n td_X9_init 5 rfl (q := 10) rfl 0 rfl ?_
  refine gn_iconst td_X9_init 6 rfl (q := 11) rfl kc_m1 ?_
  refine gn_put (n := 0) _ td_X9_init 7 rfl (q := 14) rfl fn_X9_15 rfl rfl rfl (Nat.le_of_ble_eq_true rfl) rfl ?_
  refine gn_aload_n td_X9_init 8 rfl (q := 15) rfl 0 rfl ?_
  refine gn_iconst td_X9_init 9 rfl (q := 16) rfl kc_m1 ?_
  refine gn_put (n := 0) _ td_X9_init 10 rfl (q := 19) rfl fn_X9_18 rfl rfl rfl (Nat.le_of_ble_eq_true rfl) rfl ?_
  refine gn_aload_n td_X9_init 11 rfl (q := 20) rfl 0 rfl ?_
  refine gn_fconst0 td_X9_init 12 rfl (q := 21) rfl ?_
  refine gn_put (n := 0) _ td_X9_init 13 rfl (q := 24) rfl fn_X9_21 rfl rfl rfl (Nat.le_of_ble_eq_true rfl) rfl ?_
  refine gn_aload_n td_X9_init 14 rfl (q := 25) rfl 0 rfl ?_
  refine gn_new 1 td_X9_init 15 rfl (q := 28) rfl nw_X9_25 rfl ⟨Nat.le_of_ble_eq_true rfl, Nat.le_of_ble_eq_true rfl⟩ ?_
  refine gn_dup td_X9_init 16 rfl (q := 29) rfl rfl ?_
  refine gn_call true td_X9_init 17 rfl (q := 32) rfl lb_X1_init (show _ ∈ nestA by decide +kernel) (okN_Fleet Z (β + 1) ) ⟨Nat.le_of_ble_eq_true rfl, Nat.le_of_ble_eq_true rfl, Nat.le_of_ble_eq_true rfl, Nat.le_of_ble_eq_true rfl⟩ rfl rfl (Nat.le_of_ble_eq_true rfl) rfl rfl rfl ?_
  refine gn_put (n := 0) _ td_X9_init 18 rfl (q := 35) rfl fn_X9_28 rfl rfl rfl (Nat.le_of_ble_eq_true rfl) rfl ?_
  refine gn_aload_n td_X9_init 19 rfl (q := 36) rfl 0 rfl ?_
  refine gn_aload_n td_X9_init 20 rfl (q := 37) rfl 1 rfl ?_
  refine gn_put (n := 0) _ td_X9_init 21 rfl (q := 40) rfl fn_X9_32 rfl rfl rfl (Nat.le_of_ble_eq_true rfl) rfl ?_
  refine gn_aload_n td_X9_init 22 rfl (q := 41) rfl 0 rfl ?_
  refine gn_aload_n td_X9_init 23 rfl (q := 42) rfl 2 rfl ?_
  refine gn_put (n := 0) _ td_X9_init 24 rfl (q := 45) rfl fn_X9_36 rfl rfl rfl (Nat.le_of_ble_eq_true rfl) rfl ?_
  refine gn_aload_n td_X9_init 25 rfl (q := 46) rfl 0 rfl ?_
  refine gn_aload_n td_X9_init 26 rfl (q := 47) rfl 3 rfl ?_
  refine gn_put (n := 0) _ td_X9_init 27 rfl (q := 50) rfl fn_X9_40 rfl rfl rfl (Nat.le_of_ble_eq_true rfl) rfl ?_
  exact gn_ret td_X9_init 28 rfl ⟨rfl, rfl⟩
def tb_X0_init : List (Nat × ClassFile.Instr × Nat) := [(0, .aload_n 0, 1), (1, .invokespecial 1, 3), (4, .aload_n 0, 1), (5, .iconst 0, 1), (6, .putfield 7, 3), (9, .aload_n 0, 1), (10, .iconst 0, 1), (11, .putfield 13, 3), (14, .aload_n 0, 1), (15, .aload_n 1, 1), (16, .putfield 16, 3), (19, .aload_n 0, 1), (20, .aload_n 2, 1), (21, .putfield 20, 3), (24, .return_, 1)]
theorem td_X0_init : AllDec cX0_init tb_X0_init := by unfold AllDec; decide +kernel
abbrev mi_X0_init : Mi := (RX0, cX0_init, 3, { frames := 1, cells := 0, slots := 0, locals := 33 }, none)
theorem lb_X9_init : LkB yX9_init mi_X9_init 3 ∧ mi_X9_init.2.2.2.2 = none ∧ yX9_init.name = "<init>" ∧ Cond.instanceMethod yX9_init ∈ Wt := ⟨⟨Wt_of (tk_2 _ (List.mem_of_getElem? (i := 111) rfl)) rfl, Wt_of (tk_1 _ (List.mem_of_getElem? (i := 9) rfl)) rfl, by decide, by decide, by decide +kernel⟩, rfl, rfl, Wt_of (tk_2 _ (List.mem_of_getElem? (i := 110) rfl)) rfl⟩
theorem fn_X11_75 : FlN RX11 75 10 9 (.object "OrbitDesk$Trial") := ⟨RX11, TX11, _, rfl, iw_X11, by decide, Wt_of (tk_2 _ (List.mem_of_getElem? (i := 213) rfl)) rfl, ⟨tyX11, tyX11_ok⟩, nmX11, Or.inr ⟨rfl, rfl⟩, rfl⟩
theorem nw_X11_79 : NwC RX11 79 0 RX0 TX0 4 [.int 0, .int 0, .null, .null] := ⟨rfl, iw_X0, ⟨Wt_of (tk_2 _ (List.mem_of_getElem? (i := 144) rfl)) rfl, Wt_of (tk_2 _ (List.mem_of_getElem? (i := 145) rfl)) rfl, Wt_of (tk_1 _ (List.mem_of_getElem? (i := 10) rfl)) rfl⟩, tyX0, tyX0_ok, by decide +kernel⟩
theorem lo_X0_1 : Cond.methodLink RX0 1 objectInit ∈ Wt := Wt_of (tk_2 _ (List.mem_of_getElem? (i := 149) rfl)) rfl
theorem fn_X0_7 : FlN RX0 7 0 0 .int := ⟨RX0, TX0, _, rfl, iw_X0, by decide, Wt_of (tk_2 _ (List.mem_of_getElem? (i := 150) rfl)) rfl, ⟨tyX0, tyX0_ok⟩, nmX0, Or.inl rfl, rfl⟩
theorem fn_X0_13 : FlN RX0 13 0 1 .int := ⟨RX0, TX0, _, rfl, iw_X0, by decide, Wt_of (tk_2 _ (List.mem_of_getElem? (i := 152) rfl)) rfl, ⟨tyX0, tyX0_ok⟩, nmX0, Or.inl rfl, rfl⟩
theorem fn_X0_16 : FlN RX0 16 0 2 (.object "OrbitDesk$Plan") := ⟨RX0, TX0, _, rfl, iw_X0, by decide, Wt_of (tk_2 _ (List.mem_of_getElem? (i := 153) rfl)) rfl, ⟨tyX0, tyX0_ok⟩, nmX0, Or.inr ⟨rfl, rfl⟩, rfl⟩
theorem fn_X0_20 : FlN RX0 20 0 3 (.object "OrbitDesk$Sky") := ⟨RX0, TX0, _, rfl, iw_X0, by decide, Wt_of (tk_2 _ (List.mem_of_getElem? (i := 154) rfl)) rfl, ⟨tyX0, tyX0_ok⟩, nmX0, Or.inr ⟨rfl, rfl⟩, rfl⟩
def tN_Courier (Z : Zt) (β : Nat) (p1 : Nat) (p2 : Nat) : List va_E := [.inr (0, [.int 0, .int 0, .ref p1, .ref p2])]
set_option maxRecDepth 20000 in
set_option maxHeartbeats 4000000 in
theorem okN_Courier (Z : Zt) (β : Nat) (p1 : Nat) (p2 : Nat) : CtN Z yX0_init mi_X0_init [.ref p1, .ref p2] β (.inr (0, [.int 0, .int 0, .null, .null])) (tN_Courier Z β p1 p2) := by
  refine gn_enter (by decide) rfl rfl (Nat.le_of_ble_eq_true rfl) (lv := [(0, .ref (β + 0)), (1, .ref p1), (2, .ref p2)]) rfl ?_
  unfold tN_Courier
  refine gn_aload_n td_X0_init 0 rfl (q := 1) rfl 0 rfl ?_
  refine gn_obj td_X0_init 1 rfl (q := 4) rfl lo_X0_1 ⟨Nat.le_of_ble_eq_true rfl, Nat.le_of_ble_eq_true rfl⟩ ?_
  refine gn_aload_n td_X0_init 2 rfl (q := 5) rfl 0 rfl ?_
  refine gn_iconst td_X0_init 3 rfl (q := 6) rfl kc_0 ?_
  refine gn_put (n := 0) _ td_X0_init 4 rfl (q := 9) rfl fn_X0_7 rfl rfl rfl (Nat.le_of_ble_eq_true rfl) rfl ?_
  refine gn_aload_n td_X0_init 5 rfl (q := 10) rfl 0 rfl ?_
  refine gn_iconst td_X0_init 6 rfl (q := 11) rfl kc_0 ?_
  refine gn_put (n := 0) _ td_X0_init 7 rfl (q := 14) rfl fn_X0_13 rfl rfl rfl (Nat.le_of_ble_eq_true rfl) rfl ?_
  refine gn_aload_n td_X0_init 8 rfl (q := 15) rfl 0 rfl ?_
  refine gn_aload_n td_X0_init 9 rfl (q := 16) rfl 1 rfl ?_
  refine gn_put (n := 0) _ td_X0_init 10 rfl (q := 19) rfl fn_X0_16 rfl rfl rfl (Nat.le_of_ble_eq_true rfl) rfl ?_
  refine gn_aload_n td_X0_init 11 rfl (q := 20) rfl 0 rfl ?_
  refine gn_aload_n td_X0_init 12 rfl (q := 21) rfl 2 rfl ?_
  refine gn_put (n := 0) _ td_X0_init 13 rfl (q := 24) rfl fn_X0_20 rfl rfl rfl (Nat.le_of_ble_eq_true rfl) rfl ?_
  exact gn_ret td_X0_init 14 rfl ⟨rfl, rfl⟩
def tb_X3_init : List (Nat × ClassFile.Instr × Nat) := [(0, .aload_n 0, 1), (1, .invokespecial 3, 3), (4, .aload_n 0, 1), (5, .iconst 0, 1), (6, .putfield 9, 3), (9, .aload_n 0, 1), (10, .iconst 0, 1), (11, .putfield 15, 3), (14, .aload_n 0, 1), (15, .iconst 0, 1), (16, .putfield 18, 3), (19, .aload_n 0, 1), (20, .bipush 16, 2), (22, .newarray .int, 2), (24, .putfield 21, 3), (27, .aload_n 0, 1), (28, .bipush 16, 2), (30, .newarray .int, 2), (32, .putfield 25, 3), (35, .aload_n 0, 1), (36, .bipush 16, 2), (38, .newarray .int, 2), (40, .putfield 28, 3), (43, .aload_n 0, 1), (44, .bipush 16, 2), (46, .newarray .int, 2), (48, .putfield 31, 3), (51, .aload_n 0, 1), (52, .bipush 9, 2), (54, .newarray .int, 2), (56, .putfield 34, 3), (59, .aload_n 0, 1), (60, .aload_n 1, 1), (61, .putfield 37, 3), (64, .aload_n 0, 1), (65, .aload_n 2, 1), (66, .putfield 41, 3), (69, .return_, 1)]
theorem td_X3_init : AllDec cX3_init tb_X3_init := by unfold AllDec; decide +kernel
abbrev mi_X3_init : Mi := (RX3, cX3_init, 3, { frames := 1, cells := 5, slots := 73, locals := 33 }, none)
theorem lb_X0_init : LkB yX0_init mi_X0_init 2 ∧ mi_X0_init.2.2.2.2 = none ∧ yX0_init.name = "<init>" ∧ Cond.instanceMethod yX0_init ∈ Wt := ⟨⟨Wt_of (tk_2 _ (List.mem_of_getElem? (i := 148) rfl)) rfl, Wt_of (tk_1 _ (List.mem_of_getElem? (i := 10) rfl)) rfl, by decide, by decide, by decide +kernel⟩, rfl, rfl, Wt_of (tk_2 _ (List.mem_of_getElem? (i := 147) rfl)) rfl⟩
theorem fn_X11_82 : FlN RX11 82 10 10 (.object "OrbitDesk$Courier") := ⟨RX11, TX11, _, rfl, iw_X11, by decide, Wt_of (tk_2 _ (List.mem_of_getElem? (i := 214) rfl)) rfl, ⟨tyX11, tyX11_ok⟩, nmX11, Or.inr ⟨rfl, rfl⟩, rfl⟩
theorem nw_X11_86 : NwC RX11 86 3 RX3 TX3 10 [.int 0, .int 0, .int 0, .null, .null, .null, .null, .null, .null, .null] := ⟨rfl, iw_X3, ⟨Wt_of (tk_2 _ (List.mem_of_getElem? (i := 164) rfl)) rfl, Wt_of (tk_2 _ (List.mem_of_getElem? (i := 165) rfl)) rfl, Wt_of (tk_1 _ (List.mem_of_getElem? (i := 11) rfl)) rfl⟩, tyX3, tyX3_ok, by decide +kernel⟩
theorem lo_X3_3 : Cond.methodLink RX3 3 objectInit ∈ Wt := Wt_of (tk_2 _ (List.mem_of_getElem? (i := 169) rfl)) rfl
theorem fn_X3_9 : FlN RX3 9 3 0 .int := ⟨RX3, TX3, _, rfl, iw_X3, by decide, Wt_of (tk_2 _ (List.mem_of_getElem? (i := 170) rfl)) rfl, ⟨tyX3, tyX3_ok⟩, nmX3, Or.inl rfl, rfl⟩
theorem fn_X3_15 : FlN RX3 15 3 1 .int := ⟨RX3, TX3, _, rfl, iw_X3, by decide, Wt_of (tk_2 _ (List.mem_of_getElem? (i := 172) rfl)) rfl, ⟨tyX3, tyX3_ok⟩, nmX3, Or.inl rfl, rfl⟩
theorem fn_X3_18 : FlN RX3 18 3 2 .int := ⟨RX3, TX3, _, rfl, iw_X3, by decide, Wt_of (tk_2 _ (List.mem_of_getElem? (i := 174) rfl)) rfl, ⟨tyX3, tyX3_ok⟩, nmX3, Or.inl rfl, rfl⟩
theorem fn_X3_21 : FlN RX3 21 3 3 (.array .int) := ⟨RX3, TX3, _, rfl, iw_X3, by decide, Wt_of (tk_2 _ (List.mem_of_getElem? (i := 176) rfl)) rfl, ⟨tyX3, tyX3_ok⟩, nmX3, Or.inr ⟨rfl, rfl⟩, rfl⟩
theorem fn_X3_25 : FlN RX3 25 3 4 (.array .int) := ⟨RX3, TX3, _, rfl, iw_X3, by decide, Wt_of (tk_2 _ (List.mem_of_getElem? (i := 177) rfl)) rfl, ⟨tyX3, tyX3_ok⟩, nmX3, Or.inr ⟨rfl, rfl⟩, rfl⟩
theorem fn_X3_28 : FlN RX3 28 3 5 (.array .int) := ⟨RX3, TX3, _, rfl, iw_X3, by decide, Wt_of (tk_2 _ (List.mem_of_getElem? (i := 178) rfl)) rfl, ⟨tyX3, tyX3_ok⟩, nmX3, Or.inr ⟨rfl, rfl⟩, rfl⟩
theorem fn_X3_31 : FlN RX3 31 3 6 (.array .int) := ⟨RX3, TX3, _, rfl, iw_X3, by decide, Wt_of (tk_2 _ (List.mem_of_getElem? (i := 179) rfl)) rfl, ⟨tyX3, tyX3_ok⟩, nmX3, Or.inr ⟨rfl, rfl⟩, rfl⟩
theorem fn_X3_34 : FlN RX3 34 3 7 (.array .int) := ⟨RX3, TX3, _, rfl, iw_X3, by decide, Wt_of (tk_2 _ (List.mem_of_getElem? (i := 180) rfl)) rfl, ⟨tyX3, tyX3_ok⟩, nmX3, Or.inr ⟨rfl, rfl⟩, rfl⟩
theorem fn_X3_37 : FlN RX3 37 3 8 (.object "OrbitDesk$Plan") := ⟨RX3, TX3, _, rfl, iw_X3, by decide, Wt_of (tk_2 _ (List.mem_of_getElem? (i := 181) rfl)) rfl, ⟨tyX3, tyX3_ok⟩, nmX3, Or.inr ⟨rfl, rfl⟩, rfl⟩
theorem fn_X3_41 : FlN RX3 41 3 9 (.object "OrbitDesk$Sky") := ⟨RX3, TX3, _, rfl, iw_X3, by decide, Wt_of (tk_2 _ (List.mem_of_getElem? (i := 182) rfl)) rfl, ⟨tyX3, tyX3_ok⟩, nmX3, Or.inr ⟨rfl, rfl⟩, rfl⟩
def tN_Notes (Z : Zt) (β : Nat) (p1 : Nat) (p2 : Nat) : List va_E := (((([.inr (3, [.int 0, .int 0, .int 0, .ref (β + 1), .ref (β + 2), .ref (β + 3), .ref (β + 4), .ref (β + 5), .ref p1, .ref p2])] ++ [.inl (Z.1.1, 16, .inl (fun _ => 0))]) ++ [.inl (Z.1.1, 16, .inl (fun _ => 0))]) ++ [.inl (Z.1.1, 16, .inl (fun _ => 0))]) ++ [.inl (Z.1.1, 16, .inl (fun _ => 0))]) ++ [.inl (Z.1.1, 9, .inl (fun _ => 0))]
set_option maxRecDepth 20000 in
set_option maxHeartbeats 4000000 in
theorem okN_Notes (Z : Zt) (β : Nat) (p1 : Nat) (p2 : Nat) : CtN Z yX3_init mi_X3_init [.ref p1, .ref p2] β (.inr (3, [.int 0, .int 0, .int 0, .null, .null, .null, .null, .null, .null, .null])) (tN_Notes Z β p1 p2) := by
  refine gn_enter (by decide) rfl rfl (Nat.le_of_ble_eq_true rfl) (lv := [(0, .ref (β + 0)), (1, .ref p1), (2, .ref p2)]) rfl ?_
  unfold tN_Notes
  refine gn_aload_n td_X3_init 0 rfl (q := 1) rfl 0 rfl ?_
  refine gn_obj td_X3_init 1 rfl (q := 4) rfl lo_X3_3 ⟨Nat.le_of_ble_eq_true rfl, Nat.le_of_ble_eq_true rfl⟩ ?_
  refine gn_aload_n td_X3_init 2 rfl (q := 5) rfl 0 rfl ?_
  refine gn_iconst td_X3_init 3 rfl (q := 6) rfl kc_0 ?_
  refine gn_put (n := 0) _ td_X3_init 4 rfl (q := 9) rfl fn_X3_9 rfl rfl rfl (Nat.le_of_ble_eq_true rfl) rfl ?_
  refine gn_aload_n td_X3_init 5 rfl (q := 10) rfl 0 rfl ?_
  refine gn_iconst td_X3_init 6 rfl (q := 11) rfl kc_0 ?_
  refine gn_put (n := 0) _ td_X3_init 7 rfl (q := 14) rfl fn_X3_15 rfl rfl rfl (Nat.le_of_ble_eq_true rfl) rfl ?_
  refine gn_aload_n td_X3_init 8 rfl (q := 15) rfl 0 rfl ?_
  refine gn_iconst td_X3_init 9 rfl (q := 16) rfl kc_0 ?_
  refine gn_put (n := 0) _ td_X3_init 10 rfl (q := 19) rfl fn_X3_18 rfl rfl rfl (Nat.le_of_ble_eq_true rfl) rfl ?_
  refine gn_aload_n td_X3_init 11 rfl (q := 20) rfl 0 rfl ?_
  refine gn_bipush td_X3_init 12 rfl (q := 22) rfl kb_16 ?_
  refine gn_newa (N := 16) 1 td_X3_init 13 rfl (q := 24) rfl ⟨by decide, by decide, Nat.le_of_ble_eq_true rfl⟩ rfl ⟨Nat.le_of_ble_eq_true rfl, Nat.le_of_ble_eq_true rfl⟩ ?_
  refine gn_put (n := 0) _ td_X3_init 14 rfl (q := 27) rfl fn_X3_21 rfl rfl rfl (Nat.le_of_ble_eq_true rfl) rfl ?_
  refine gn_aload_n td_X3_init 15 rfl (q := 28) rfl 0 rfl ?_
  refine gn_bipush td_X3_init 16 rfl (q := 30) rfl kb_16 ?_
  refine gn_newa (N := 16) 2 td_X3_init 17 rfl (q := 32) rfl ⟨by decide, by decide, Nat.le_of_ble_eq_true rfl⟩ rfl ⟨Nat.le_of_ble_eq_true rfl, Nat.le_of_ble_eq_true rfl⟩ ?_
  refine gn_put (n := 0) _ td_X3_init 18 rfl (q := 35) rfl fn_X3_25 rfl rfl rfl (Nat.le_of_ble_eq_true rfl) rfl ?_
  refine gn_aload_n td_X3_init 19 rfl (q := 36) rfl 0 rfl ?_
  refine gn_bipush td_X3_init 20 rfl (q := 38) rfl kb_16 ?_
  refine gn_newa (N := 16) 3 td_X3_init 21 rfl (q := 40) rfl ⟨by decide, by decide, Nat.le_of_ble_eq_true rfl⟩ rfl ⟨Nat.le_of_ble_eq_true rfl, Nat.le_of_ble_eq_true rfl⟩ ?_
  refine gn_put (n := 0) _ td_X3_init 22 rfl (q := 43) rfl fn_X3_28 rfl rfl rfl (Nat.le_of_ble_eq_true rfl) rfl ?_
  refine gn_aload_n td_X3_init 23 rfl (q := 44) rfl 0 rfl ?_
  refine gn_bipush td_X3_init 24 rfl (q := 46) rfl kb_16 ?_
  refine gn_newa (N := 16) 4 td_X3_init 25 rfl (q := 48) rfl ⟨by decide, by decide, Nat.le_of_ble_eq_true rfl⟩ rfl ⟨Nat.le_of_ble_eq_true rfl, Nat.le_of_ble_eq_true rfl⟩ ?_
  refine gn_put (n := 0) _ td_X3_init 26 rfl (q := 51) rfl fn_X3_31 rfl rfl rfl (Nat.le_of_ble_eq_true rfl) rfl ?_
  refine gn_aload_n td_X3_init 27 rfl (q := 52) rfl 0 rfl ?_
  refine gn_bipush td_X3_init 28 rfl (q := 54) rfl kb_9 ?_
  refine gn_newa (N := 9) 5 td_X3_init 29 rfl (q := 56) rfl ⟨by decide, by decide, Nat.le_of_ble_eq_true rfl⟩ rfl ⟨Nat.le_of_ble_eq_true rfl, Nat.le_of_ble_eq_true rfl⟩ ?_
  refine gn_put (n := 0) _ td_X3_init 30 rfl (q := 59) rfl fn_X3_34 rfl rfl rfl (Nat.le_of_ble_eq_true rfl) rfl ?_
  refine gn_aload_n td_X3_init 31 rfl (q := 60) rfl 0 rfl ?_
  refine gn_aload_n td_X3_init 32 rfl (q := 61) rfl 1 rfl ?_
  refine gn_put (n := 0) _ td_X3_init 33 rfl (q := 64) rfl fn_X3_37 rfl rfl rfl (Nat.le_of_ble_eq_true rfl) rfl ?_
  refine gn_aload_n td_X3_init 34 rfl (q := 65) rfl 0 rfl ?_
  refine gn_aload_n td_X3_init 35 rfl (q := 66) rfl 2 rfl ?_
  refine gn_put (n := 0) _ td_X3_init 36 rfl (q := 69) rfl fn_X3_41 rfl rfl rfl (Nat.le_of_ble_eq_true rfl) rfl ?_
  exact gn_ret td_X3_init 37 rfl ⟨rfl, rfl⟩
