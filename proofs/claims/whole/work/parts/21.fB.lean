def fB_M_lays (a1 : Int32) (g : G) : Option (G) := Lp (α := Int32 × G) (fun rec1 s1 => (if 4 ≤ s1.1 then bv (sS s1.2 33 ((s1.2.1 33) + 4)) fun g2 => some g2 else ck 1600 ((s1.2.1 33) + s1.1) (bv (sA s1.2 17 ((s1.2.1 33) + s1.1 : Int32).toNatClampNeg ((a1 >>> ((24 - (8 * s1.1)) &&& 31)) &&& 255)) fun g3 => rec1 (s1.1 + 1, g3)))) FU (0, g)
set_option maxRecDepth 20000 in
set_option maxHeartbeats 4000000 in
theorem ok_fB_M_lays (E : Ev) (a1 : Int32) (g : G)  : Ct (wCB E) yX12_lays mi_X12_lays [.ref (E.1 0), .int a1] (fun r => (none, r)) g (fB_M_lays a1 g) := by
  refine go_enter rfl rfl (Nat.le_of_ble_eq_true rfl) (lv := [(0, .ref (E.1 0)), (1, .int a1)]) rfl ?_
  unfold fB_M_lays
  refine go_iconst td_X12_lays 0 rfl (q := 1) rfl kc_0 ?_
  refine go_istore_n [(2, .int 0), (0, .ref (E.1 0)), (1, .int a1)] td_X12_lays 1 rfl (q := 2) rfl (Nat.le_of_ble_eq_true rfl) rfl ?_
  refine go_pick [1, 2, 0] (lv' := [(0, .ref (E.1 0)), (1, .int a1), (2, .int 0)]) rfl ?_
  refine (show ∀ (u1_0 : Int32) (u1_1 : G), Go (wCB E) _ _ u1_1 2 [(0, .ref (E.1 0)), (1, .int a1), (2, .int u1_0)] [] (Lp (α := Int32 × G) _ FU (u1_0, u1_1)) from ?_) 0 g
  intro u1_0 u1_1
  refine go_Lp (α := Int32 × G) (fun s1 => s1.2) (fun s1 => [(0, .ref (E.1 0)), (1, .int a1), (2, .int s1.1)]) ?_ FU (u1_0, u1_1)
  intro rec1 hrec1 s1
  have krec1 : ∀ (u1_0 : Int32) (u1_1 : G), Go (wCB E) _ _ u1_1 2 [(0, .ref (E.1 0)), (1, .int a1), (2, .int u1_0)] [] (rec1 (u1_0, u1_1)) := fun u1_0 u1_1 => hrec1 (u1_0, u1_1)
  refine go_iload_n td_X12_lays 2 rfl (q := 3) rfl 2 rfl ?_
  refine go_iconst td_X12_lays 3 rfl (q := 4) rfl kc_4 ?_
  refine go_icmp_ge 37 td_X12_lays 4 rfl rfl (q := 7) rfl (fun _ => ?_) (fun _ => ?_)
  · refine go_aload_n td_X12_lays 23 rfl (q := 38) rfl 0 rfl ?_
    refine go_dup td_X12_lays 24 rfl (q := 39) rfl rfl ?_
    refine go_get td_X12_lays 25 rfl (q := 42) rfl fl_X12_111 (Bc_0 E s1.2) rfl ?_
    refine go_iconst td_X12_lays 26 rfl (q := 43) rfl kc_4 ?_
    refine go_iadd td_X12_lays 27 rfl (q := 44) rfl ?_
    refine go_put td_X12_lays 28 rfl (q := 47) rfl flp_X12_111 (Bc_0 E s1.2) rfl rfl (Nat.le_of_ble_eq_true rfl) (Bps_33 E s1.2 ((s1.2.1 33) + 4)) ?_
    refine go_bvg (fun g2 => ?_)
    exact go_vret td_X12_lays 29 rfl rfl rfl
  · refine go_aload_n td_X12_lays 5 rfl (q := 8) rfl 0 rfl ?_
    refine go_get td_X12_lays 6 rfl (q := 11) rfl fl_X12_108 (Bc_0 E s1.2) rfl ?_
    refine go_aload_n td_X12_lays 7 rfl (q := 12) rfl 0 rfl ?_
    refine go_get td_X12_lays 8 rfl (q := 15) rfl fl_X12_111 (Bc_0 E s1.2) rfl ?_
    refine go_iload_n td_X12_lays 9 rfl (q := 16) rfl 2 rfl ?_
    refine go_iadd td_X12_lays 10 rfl (q := 17) rfl ?_
    refine go_iload_n td_X12_lays 11 rfl (q := 18) rfl 1 rfl ?_
    refine go_bipush td_X12_lays 12 rfl (q := 20) rfl kb_24 ?_
    refine go_bipush td_X12_lays 13 rfl (q := 22) rfl kb_8 ?_
    refine go_iload_n td_X12_lays 14 rfl (q := 23) rfl 2 rfl ?_
    refine go_imul td_X12_lays 15 rfl (q := 24) rfl ?_
    refine go_isub td_X12_lays 16 rfl (q := 25) rfl ?_
    refine go_ishr td_X12_lays 17 rfl (q := 26) rfl ?_
    refine go_sipush td_X12_lays 18 rfl (q := 29) rfl ks_255 ?_
    refine go_iand td_X12_lays 19 rfl (q := 30) rfl ?_
    refine go_ast td_X12_lays 20 rfl (q := 31) rfl (Bc_17 E s1.2) (t0 := 0) rfl (Bas_17 E s1.2 _) ?_
    refine go_bvg (fun g3 => ?_)
    refine go_iinc [(2, .int (s1.1 + 1)), (0, .ref (E.1 0)), (1, .int a1)] td_X12_lays 21 rfl (q := 34) rfl 2 rfl kc_1 (Nat.le_of_ble_eq_true rfl) rfl ?_
    refine go_goto td_X12_lays 22 rfl (q := 2) rfl ?_
    refine go_pick [1, 2, 0] (lv' := [(0, .ref (E.1 0)), (1, .int a1), (2, .int (s1.1 + 1))]) rfl ?_
    exact krec1 (s1.1 + 1) g3
def fB_M_refuses (a1 : Int32) (g : G) : Option (Int32 × G) := ag 6 (g.2.1 18) a1 fun x1 => ck 6 a1 (bv (sA g 18 (a1 : Int32).toNatClampNeg (x1 + 1)) fun g2 => some ((-1), g2))
set_option maxRecDepth 20000 in
set_option maxHeartbeats 4000000 in
theorem ok_fB_M_refuses (E : Ev) (a1 : Int32) (g : G)  : Ct (wCB E) yX12_refuses mi_X12_refuses [.ref (E.1 0), .int a1] (fun r => (some (.int r.1), r.2)) g (fB_M_refuses a1 g) := by
  refine go_enter rfl rfl (Nat.le_of_ble_eq_true rfl) (lv := [(0, .ref (E.1 0)), (1, .int a1)]) rfl ?_
  unfold fB_M_refuses
  refine go_aload_n td_X12_refuses 0 rfl (q := 1) rfl 0 rfl ?_
  refine go_get td_X12_refuses 1 rfl (q := 4) rfl fl_X12_114 (Bc_0 E g) rfl ?_
  refine go_iload_n td_X12_refuses 2 rfl (q := 5) rfl 1 rfl ?_
  refine go_dup2 td_X12_refuses 3 rfl (q := 6) rfl rfl rfl ?_
  refine go_ald td_X12_refuses 4 rfl (q := 7) rfl (Bc_18 E g) (t0 := 0) rfl (fun x1 => ?_)
  refine go_iconst td_X12_refuses 5 rfl (q := 8) rfl kc_1 ?_
  refine go_iadd td_X12_refuses 6 rfl (q := 9) rfl ?_
  refine go_ast td_X12_refuses 7 rfl (q := 10) rfl (Bc_18 E g) (t0 := 0) rfl (Bas_18 E g _) ?_
  refine go_bvg (fun g2 => ?_)
  refine go_iconst td_X12_refuses 8 rfl (q := 11) rfl kc_m1 ?_
  exact go_iret td_X12_refuses 9 rfl rfl rfl
def fB_M_feed (a1 : Int32) (a2 : Int32) (a3 : Int32) (a4 : Int32) (a5 : Int32) (g : G) : Option (Int32 × G) := (if ((g.1 33) + 20) ≤ 1600 then Option.bind (fB_M_lays a1 g) fun x1 => Option.bind (fB_M_lays a2 x1) fun x2 => Option.bind (fB_M_lays a3 x2) fun x3 => Option.bind (fB_M_lays a4 x3) fun x4 => Option.bind (fB_M_lays a5 x4) fun x5 => some (x5.1 33, x5) else Option.bind (fB_M_refuses 0 g) fun x6 => some (x6.1, x6.2))
set_option maxRecDepth 20000 in
set_option maxHeartbeats 4000000 in
theorem ok_fB_M_feed (E : Ev) (a1 : Int32) (a2 : Int32) (a3 : Int32) (a4 : Int32) (a5 : Int32) (g : G)  : Ct (wCB E) yX12_feed mi_X12_feed [.ref (E.1 0), .int a1, .int a2, .int a3, .int a4, .int a5] (fun r => (some (.int r.1), r.2)) g (fB_M_feed a1 a2 a3 a4 a5 g) := by
  refine go_enter rfl rfl (Nat.le_of_ble_eq_true rfl) (lv := [(0, .ref (E.1 0)), (1, .int a1), (2, .int a2), (3, .int a3), (4, .int a4), (5, .int a5)]) rfl ?_
  unfold fB_M_feed
  refine go_aload_n td_X12_feed 0 rfl (q := 1) rfl 0 rfl ?_
  refine go_get td_X12_feed 1 rfl (q := 4) rfl fl_X12_111 (Bc_0 E g) rfl ?_
  refine go_bipush td_X12_feed 2 rfl (q := 6) rfl kb_20 ?_
  refine go_iadd td_X12_feed 3 rfl (q := 7) rfl ?_
  refine go_sipush td_X12_feed 4 rfl (q := 10) rfl ks_1600 ?_
  refine go_icmp_le 19 td_X12_feed 5 rfl rfl (q := 13) rfl (fun _ => ?_) (fun _ => ?_)
  · refine go_aload_n td_X12_feed 10 rfl (q := 20) rfl 0 rfl ?_
    refine go_iload_n td_X12_feed 11 rfl (q := 21) rfl 1 rfl ?_
    refine go_callV td_X12_feed 12 rfl (q := 24) rfl (XkB E) lk_X12_213 (ok_fB_M_lays E a1 g) ⟨rfl, rfl, Nat.le_of_ble_eq_true rfl, Nat.le_of_ble_eq_true rfl⟩ rfl rfl (Nat.le_of_ble_eq_true rfl) (Bc_0 E g) rfl (fun x1 => ?_)
    show Go (wCB E) _ _ x1 24 _ [] _
    refine go_aload_n td_X12_feed 13 rfl (q := 25) rfl 0 rfl ?_
    refine go_iload_n td_X12_feed 14 rfl (q := 26) rfl 2 rfl ?_
    refine go_callV td_X12_feed 15 rfl (q := 29) rfl (XkB E) lk_X12_213 (ok_fB_M_lays E a2 x1) ⟨rfl, rfl, Nat.le_of_ble_eq_true rfl, Nat.le_of_ble_eq_true rfl⟩ rfl rfl (Nat.le_of_ble_eq_true rfl) (Bc_0 E x1) rfl (fun x2 => ?_)
    show Go (wCB E) _ _ x2 29 _ [] _
    refine go_aload_n td_X12_feed 16 rfl (q := 30) rfl 0 rfl ?_
    refine go_iload_n td_X12_feed 17 rfl (q := 31) rfl 3 rfl ?_
    refine go_callV td_X12_feed 18 rfl (q := 34) rfl (XkB E) lk_X12_213 (ok_fB_M_lays E a3 x2) ⟨rfl, rfl, Nat.le_of_ble_eq_true rfl, Nat.le_of_ble_eq_true rfl⟩ rfl rfl (Nat.le_of_ble_eq_true rfl) (Bc_0 E x2) rfl (fun x3 => ?_)
    show Go (wCB E) _ _ x3 34 _ [] _
    refine go_aload_n td_X12_feed 19 rfl (q := 35) rfl 0 rfl ?_
    refine go_iload td_X12_feed 20 rfl (q := 37) rfl 4 rfl ?_
    refine go_callV td_X12_feed 21 rfl (q := 40) rfl (XkB E) lk_X12_213 (ok_fB_M_lays E a4 x3) ⟨rfl, rfl, Nat.le_of_ble_eq_true rfl, Nat.le_of_ble_eq_true rfl⟩ rfl rfl (Nat.le_of_ble_eq_true rfl) (Bc_0 E x3) rfl (fun x4 => ?_)
    show Go (wCB E) _ _ x4 40 _ [] _
    refine go_aload_n td_X12_feed 22 rfl (q := 41) rfl 0 rfl ?_
    refine go_iload td_X12_feed 23 rfl (q := 43) rfl 5 rfl ?_
    refine go_callV td_X12_feed 24 rfl (q := 46) rfl (XkB E) lk_X12_213 (ok_fB_M_lays E a5 x4) ⟨rfl, rfl, Nat.le_of_ble_eq_true rfl, Nat.le_of_ble_eq_true rfl⟩ rfl rfl (Nat.le_of_ble_eq_true rfl) (Bc_0 E x4) rfl (fun x5 => ?_)
    show Go (wCB E) _ _ x5 46 _ [] _
    refine go_aload_n td_X12_feed 25 rfl (q := 47) rfl 0 rfl ?_
    refine go_get td_X12_feed 26 rfl (q := 50) rfl fl_X12_111 (Bc_0 E x5) rfl ?_
    exact go_iret td_X12_feed 27 rfl rfl rfl
  · refine go_aload_n td_X12_feed 6 rfl (q := 14) rfl 0 rfl ?_
    refine go_iconst td_X12_feed 7 rfl (q := 15) rfl kc_0 ?_
    refine go_callV td_X12_feed 8 rfl (q := 18) rfl (XkB E) lk_X12_209 (ok_fB_M_refuses E 0 g) ⟨rfl, rfl, Nat.le_of_ble_eq_true rfl, Nat.le_of_ble_eq_true rfl⟩ rfl rfl (Nat.le_of_ble_eq_true rfl) (Bc_0 E g) rfl (fun x6 => ?_)
    show Go (wCB E) _ _ x6.2 18 _ [.int x6.1] _
    exact go_iret td_X12_feed 9 rfl rfl rfl
def fB_M_isRefused (a1 : Int32) (g : G) : Option (Int32 × G) := ag 6 (g.2.1 18) a1 fun x1 => ck 6 a1 (bv (sA g 18 (a1 : Int32).toNatClampNeg (x1 + 1)) fun g2 => some (0, g2))
set_option maxRecDepth 20000 in
set_option maxHeartbeats 4000000 in
theorem ok_fB_M_isRefused (E : Ev) (a1 : Int32) (g : G)  : Ct (wCB E) yX12_isRefused mi_X12_isRefused [.ref (E.1 0), .int a1] (fun r => (some (.int r.1), r.2)) g (fB_M_isRefused a1 g) := by
  refine go_enter rfl rfl (Nat.le_of_ble_eq_true rfl) (lv := [(0, .ref (E.1 0)), (1, .int a1)]) rfl ?_
  unfold fB_M_isRefused
  refine go_aload_n td_X12_isRefused 0 rfl (q := 1) rfl 0 rfl ?_
  refine go_get td_X12_isRefused 1 rfl (q := 4) rfl fl_X12_114 (Bc_0 E g) rfl ?_
  refine go_iload_n td_X12_isRefused 2 rfl (q := 5) rfl 1 rfl ?_
  refine go_dup2 td_X12_isRefused 3 rfl (q := 6) rfl rfl rfl ?_
  refine go_ald td_X12_isRefused 4 rfl (q := 7) rfl (Bc_18 E g) (t0 := 0) rfl (fun x1 => ?_)
  refine go_iconst td_X12_isRefused 5 rfl (q := 8) rfl kc_1 ?_
  refine go_iadd td_X12_isRefused 6 rfl (q := 9) rfl ?_
  refine go_ast td_X12_isRefused 7 rfl (q := 10) rfl (Bc_18 E g) (t0 := 0) rfl (Bas_18 E g _) ?_
  refine go_bvg (fun g2 => ?_)
  refine go_iconst td_X12_isRefused 8 rfl (q := 11) rfl kc_0 ?_
  exact go_zret td_X12_isRefused 9 rfl rfl rfl rfl
def fB_M_end (a1 : Int32) (g : G) : Option (Int32 × G) := lj (α := Unit) (fun b1 => Option.bind (fB_M_isRefused 0 g) fun x2 => bt x2.1 (some (x2.1, x2.2))) fun J1 => (if a1 < 0 then J1 () else (if a1 ≤ (g.1 33) then bv (sS g 33 a1) fun g3 => some (1, g3) else J1 ()))
set_option maxRecDepth 20000 in
set_option maxHeartbeats 4000000 in
theorem ok_fB_M_end (E : Ev) (a1 : Int32) (g : G)  : Ct (wCB E) yX12_end mi_X12_end [.ref (E.1 0), .int a1] (fun r => (some (.int r.1), r.2)) g (fB_M_end a1 g) := by
  refine go_enter rfl rfl (Nat.le_of_ble_eq_true rfl) (lv := [(0, .ref (E.1 0)), (1, .int a1)]) rfl ?_
  unfold fB_M_end
  refine go_iload_n td_X12_end 0 rfl (q := 1) rfl 1 rfl ?_
  refine go_ljX (α := Unit) (fun b1 => [(0, .ref (E.1 0))]) (fun b1 => []) (fun b1 => g) 12 ?_ ?_
  · intro b1
    refine go_aload_n td_X12_end 6 rfl (q := 13) rfl 0 rfl ?_
    refine go_iconst td_X12_end 7 rfl (q := 14) rfl kc_0 ?_
    refine go_callV td_X12_end 8 rfl (q := 17) rfl (XkB E) lk_X12_217 (ok_fB_M_isRefused E 0 g) ⟨rfl, rfl, Nat.le_of_ble_eq_true rfl, Nat.le_of_ble_eq_true rfl⟩ rfl rfl (Nat.le_of_ble_eq_true rfl) (Bc_0 E g) rfl (fun x2 => ?_)
    show Go (wCB E) _ _ x2.2 17 _ [.int x2.1] _
    exact go_zretb td_X12_end 9 rfl rfl rfl
  intro J1 hJ1
  have kJ1 : Go (wCB E) _ _ g 12 [(0, .ref (E.1 0))] [] (J1 ()) := hJ1 ()
  refine go_if_lt 12 td_X12_end 1 rfl rfl (q := 4) rfl (fun _ => ?_) (fun _ => ?_)
  · refine go_pick [0] (lv' := [(0, .ref (E.1 0))]) rfl ?_
    exact kJ1 
  · refine go_iload_n td_X12_end 2 rfl (q := 5) rfl 1 rfl ?_
    refine go_aload_n td_X12_end 3 rfl (q := 6) rfl 0 rfl ?_
    refine go_get td_X12_end 4 rfl (q := 9) rfl fl_X12_111 (Bc_0 E g) rfl ?_
    refine go_icmp_le 18 td_X12_end 5 rfl rfl (q := 12) rfl (fun _ => ?_) (fun _ => ?_)
    · refine go_aload_n td_X12_end 10 rfl (q := 19) rfl 0 rfl ?_
      refine go_iload_n td_X12_end 11 rfl (q := 20) rfl 1 rfl ?_
      refine go_put td_X12_end 12 rfl (q := 23) rfl flp_X12_111 (Bc_0 E g) rfl rfl (Nat.le_of_ble_eq_true rfl) (Bps_33 E g a1) ?_
      refine go_bvg (fun g3 => ?_)
      refine go_iconst td_X12_end 13 rfl (q := 24) rfl kc_1 ?_
      exact go_zret td_X12_end 14 rfl rfl rfl rfl
    · refine go_pick [0] (lv' := [(0, .ref (E.1 0))]) rfl ?_
      exact kJ1 
def fB_M_taken (g : G) : Option (Int32 × G) := bv (g.1 33) fun x1 => bv (sS g 33 0) fun g2 => some (x1, g2)
set_option maxRecDepth 20000 in
set_option maxHeartbeats 4000000 in
theorem ok_fB_M_taken (E : Ev)  (g : G)  : Ct (wCB E) yX12_taken mi_X12_taken [.ref (E.1 0)] (fun r => (some (.int r.1), r.2)) g (fB_M_taken g) := by
  refine go_enter rfl rfl (Nat.le_of_ble_eq_true rfl) (lv := [(0, .ref (E.1 0))]) rfl ?_
  unfold fB_M_taken
  refine go_aload_n td_X12_taken 0 rfl (q := 1) rfl 0 rfl ?_
  refine go_get td_X12_taken 1 rfl (q := 4) rfl fl_X12_111 (Bc_0 E g) rfl ?_
  refine go_bvi (fun x1 => ?_)
  refine go_istore_n [(1, .int x1), (0, .ref (E.1 0))] td_X12_taken 2 rfl (q := 5) rfl (Nat.le_of_ble_eq_true rfl) rfl ?_
  refine go_aload_n td_X12_taken 3 rfl (q := 6) rfl 1 rfl ?_
  refine go_iconst td_X12_taken 4 rfl (q := 7) rfl kc_0 ?_
  refine go_put td_X12_taken 5 rfl (q := 10) rfl flp_X12_111 (Bc_0 E g) rfl rfl (Nat.le_of_ble_eq_true rfl) (Bps_33 E g 0) ?_
  refine go_bvg (fun g2 => ?_)
  refine go_iload_n td_X12_taken 6 rfl (q := 11) rfl 0 rfl ?_
  exact go_iret td_X12_taken 7 rfl rfl rfl
def fB_M_goes (g : G) : Option (Int32) := (if (g.1 40) = 0 then some 1 else some 0)
set_option maxRecDepth 20000 in
set_option maxHeartbeats 4000000 in
theorem ok_fB_M_goes (E : Ev)  (g : G)  : Ct (wCB E) yX12_goes mi_X12_goes [.ref (E.1 0)] (fun r => (some (.int r), g)) g (fB_M_goes g) := by
  refine go_enter rfl rfl (Nat.le_of_ble_eq_true rfl) (lv := [(0, .ref (E.1 0))]) rfl ?_
  unfold fB_M_goes
  refine go_aload_n td_X12_goes 0 rfl (q := 1) rfl 0 rfl ?_
  refine go_get td_X12_goes 1 rfl (q := 4) rfl fl_X12_132 (Bc_0 E g) rfl ?_
  refine go_if_ne 11 td_X12_goes 2 rfl rfl (q := 7) rfl (fun _ => ?_) (fun _ => ?_)
  · refine go_iconst td_X12_goes 5 rfl (q := 12) rfl kc_0 ?_
    exact go_zret td_X12_goes 6 rfl rfl rfl rfl
  · refine go_iconst td_X12_goes 3 rfl (q := 8) rfl kc_1 ?_
    refine go_goto td_X12_goes 4 rfl (q := 12) rfl ?_
    exact go_zret td_X12_goes 6 rfl rfl rfl rfl
def fB_M_byteAt (a1 : Int32) (g : G) : Option (Int32) := (if a1 < 0 then some (-1) else (if (g.1 37) ≤ a1 then some (-1) else ag 1600 (g.2.1 17) a1 fun x1 => some x1))
set_option maxRecDepth 20000 in
set_option maxHeartbeats 4000000 in
theorem ok_fB_M_byteAt (E : Ev) (a1 : Int32) (g : G)  : Ct (wCB E) yX12_byteAt mi_X12_byteAt [.ref (E.1 0), .int a1] (fun r => (some (.int r), g)) g (fB_M_byteAt a1 g) := by
  refine go_enter rfl rfl (Nat.le_of_ble_eq_true rfl) (lv := [(0, .ref (E.1 0)), (1, .int a1)]) rfl ?_
  unfold fB_M_byteAt
  refine go_iload_n td_X12_byteAt 0 rfl (q := 1) rfl 1 rfl ?_
  refine go_if_lt 21 td_X12_byteAt 1 rfl rfl (q := 4) rfl (fun _ => ?_) (fun _ => ?_)
  · refine go_iconst td_X12_byteAt 11 rfl (q := 22) rfl kc_m1 ?_
    exact go_iret td_X12_byteAt 12 rfl rfl rfl
  · refine go_iload_n td_X12_byteAt 2 rfl (q := 5) rfl 1 rfl ?_
    refine go_aload_n td_X12_byteAt 3 rfl (q := 6) rfl 0 rfl ?_
    refine go_get td_X12_byteAt 4 rfl (q := 9) rfl fl_X12_123 (Bc_0 E g) rfl ?_
    refine go_icmp_ge 21 td_X12_byteAt 5 rfl rfl (q := 12) rfl (fun _ => ?_) (fun _ => ?_)
    · refine go_iconst td_X12_byteAt 11 rfl (q := 22) rfl kc_m1 ?_
      exact go_iret td_X12_byteAt 12 rfl rfl rfl
    · refine go_aload_n td_X12_byteAt 6 rfl (q := 13) rfl 0 rfl ?_
      refine go_get td_X12_byteAt 7 rfl (q := 16) rfl fl_X12_108 (Bc_0 E g) rfl ?_
      refine go_iload_n td_X12_byteAt 8 rfl (q := 17) rfl 1 rfl ?_
      refine go_ald td_X12_byteAt 9 rfl (q := 18) rfl (Bc_17 E g) (t0 := 0) rfl (fun x1 => ?_)
      refine go_goto td_X12_byteAt 10 rfl (q := 22) rfl ?_
      exact go_iret td_X12_byteAt 12 rfl rfl rfl
def fB_M_here (g : G) : Option (Int32 × G) := Lp (α := G) (fun rec1 s1 => Option.bind (fB_M_byteAt (s1.1 38) s1) fun x2 => lj (α := Unit) (fun b3 => bv (sS s1 38 ((s1.1 38) + 1)) fun g4 => rec1 g4) fun J3 => (if x2 = 10 then J3 () else Option.bind (fB_M_byteAt (s1.1 38) s1) fun x5 => (if x5 = 32 then J3 () else Option.bind (fB_M_byteAt (s1.1 38) s1) fun x6 => some (x6, s1)))) FU g
set_option maxRecDepth 20000 in
set_option maxHeartbeats 4000000 in
theorem ok_fB_M_here (E : Ev)  (g : G)  : Ct (wCB E) yX12_here mi_X12_here [.ref (E.1 0)] (fun r => (some (.int r.1), r.2)) g (fB_M_here g) := by
  refine go_enter rfl rfl (Nat.le_of_ble_eq_true rfl) (lv := [(0, .ref (E.1 0))]) rfl ?_
  unfold fB_M_here
  refine go_pick [0] (lv' := [(0, .ref (E.1 0))]) rfl ?_
  refine (show ∀ (u1_0 : G), Go (wCB E) _ _ u1_0 0 [(0, .ref (E.1 0))] [] (Lp (α := G) _ FU u1_0) from ?_) g
  intro u1_0
  refine go_Lp (α := G) (fun s1 => s1) (fun s1 => [(0, .ref (E.1 0))]) ?_ FU u1_0
  intro rec1 hrec1 s1
  have krec1 : ∀ (u1_0 : G), Go (wCB E) _ _ u1_0 0 [(0, .ref (E.1 0))] [] (rec1 u1_0) := fun u1_0 => hrec1 u1_0
  refine go_aload_n td_X12_here 0 rfl (q := 1) rfl 0 rfl ?_
  refine go_aload_n td_X12_here 1 rfl (q := 2) rfl 0 rfl ?_
  refine go_get td_X12_here 2 rfl (q := 5) rfl fl_X12_126 (Bc_0 E s1) rfl ?_
  refine go_callV td_X12_here 3 rfl (q := 8) rfl (XkB E) lk_X12_221 (ok_fB_M_byteAt E (s1.1 38) s1) ⟨rfl, rfl, Nat.le_of_ble_eq_true rfl, Nat.le_of_ble_eq_true rfl⟩ rfl rfl (Nat.le_of_ble_eq_true rfl) (Bc_0 E s1) rfl (fun x2 => ?_)
  show Go (wCB E) _ _ s1 8 _ [.int x2] _
  refine go_bipush td_X12_here 4 rfl (q := 10) rfl kb_10 ?_
  refine go_ljX (α := Unit) (fun b3 => [(0, .ref (E.1 0))]) (fun b3 => []) (fun b3 => s1) 26 ?_ ?_
  · intro b3
    refine go_aload_n td_X12_here 12 rfl (q := 27) rfl 0 rfl ?_
    refine go_dup td_X12_here 13 rfl (q := 28) rfl rfl ?_
    refine go_get td_X12_here 14 rfl (q := 31) rfl fl_X12_126 (Bc_0 E s1) rfl ?_
    refine go_iconst td_X12_here 15 rfl (q := 32) rfl kc_1 ?_
    refine go_iadd td_X12_here 16 rfl (q := 33) rfl ?_
    refine go_put td_X12_here 17 rfl (q := 36) rfl flp_X12_126 (Bc_0 E s1) rfl rfl (Nat.le_of_ble_eq_true rfl) (Bps_38 E s1 ((s1.1 38) + 1)) ?_
    refine go_bvg (fun g4 => ?_)
    refine go_goto td_X12_here 18 rfl (q := 0) rfl ?_
    refine go_pick [0] (lv' := [(0, .ref (E.1 0))]) rfl ?_
    exact krec1 g4
  intro J3 hJ3
  have kJ3 : Go (wCB E) _ _ s1 26 [(0, .ref (E.1 0))] [] (J3 ()) := hJ3 ()
  refine go_icmp_eq 26 td_X12_here 5 rfl rfl (q := 13) rfl (fun _ => ?_) (fun _ => ?_)
  · refine go_pick [0] (lv' := [(0, .ref (E.1 0))]) rfl ?_
    exact kJ3 
  · refine go_aload_n td_X12_here 6 rfl (q := 14) rfl 0 rfl ?_
    refine go_aload_n td_X12_here 7 rfl (q := 15) rfl 0 rfl ?_
    refine go_get td_X12_here 8 rfl (q := 18) rfl fl_X12_126 (Bc_0 E s1) rfl ?_
    refine go_callV td_X12_here 9 rfl (q := 21) rfl (XkB E) lk_X12_221 (ok_fB_M_byteAt E (s1.1 38) s1) ⟨rfl, rfl, Nat.le_of_ble_eq_true rfl, Nat.le_of_ble_eq_true rfl⟩ rfl rfl (Nat.le_of_ble_eq_true rfl) (Bc_0 E s1) rfl (fun x5 => ?_)
    show Go (wCB E) _ _ s1 21 _ [.int x5] _
    refine go_bipush td_X12_here 10 rfl (q := 23) rfl kb_32 ?_
    refine go_icmp_ne 39 td_X12_here 11 rfl rfl (q := 26) rfl (fun _ => ?_) (fun _ => ?_)
    · refine go_aload_n td_X12_here 19 rfl (q := 40) rfl 0 rfl ?_
      refine go_aload_n td_X12_here 20 rfl (q := 41) rfl 0 rfl ?_
      refine go_get td_X12_here 21 rfl (q := 44) rfl fl_X12_126 (Bc_0 E s1) rfl ?_
      refine go_callV td_X12_here 22 rfl (q := 47) rfl (XkB E) lk_X12_221 (ok_fB_M_byteAt E (s1.1 38) s1) ⟨rfl, rfl, Nat.le_of_ble_eq_true rfl, Nat.le_of_ble_eq_true rfl⟩ rfl rfl (Nat.le_of_ble_eq_true rfl) (Bc_0 E s1) rfl (fun x6 => ?_)
      show Go (wCB E) _ _ s1 47 _ [.int x6] _
      exact go_iret td_X12_here 23 rfl rfl rfl
    · refine go_pick [0] (lv' := [(0, .ref (E.1 0))]) rfl ?_
      exact kJ3 
def fB_M_isSmall (a1 : Int32) (g : G) : Option (Int32) := Option.bind (fB_M_byteAt a1 g) fun x1 => (if x1 < 97 then some 0 else Option.bind (fB_M_byteAt a1 g) fun x2 => (if 122 < x2 then some 0 else some 1))
set_option maxRecDepth 20000 in
set_option maxHeartbeats 4000000 in
theorem ok_fB_M_isSmall (E : Ev) (a1 : Int32) (g : G)  : Ct (wCB E) yX12_isSmall mi_X12_isSmall [.ref (E.1 0), .int a1] (fun r => (some (.int r), g)) g (fB_M_isSmall a1 g) := by
  refine go_enter rfl rfl (Nat.le_of_ble_eq_true rfl) (lv := [(0, .ref (E.1 0)), (1, .int a1)]) rfl ?_
  unfold fB_M_isSmall
  refine go_aload_n td_X12_isSmall 0 rfl (q := 1) rfl 0 rfl ?_
  refine go_iload_n td_X12_isSmall 1 rfl (q := 2) rfl 1 rfl ?_
  refine go_callV td_X12_isSmall 2 rfl (q := 5) rfl (XkB E) lk_X12_221 (ok_fB_M_byteAt E a1 g) ⟨rfl, rfl, Nat.le_of_ble_eq_true rfl, Nat.le_of_ble_eq_true rfl⟩ rfl rfl (Nat.le_of_ble_eq_true rfl) (Bc_0 E g) rfl (fun x1 => ?_)
  show Go (wCB E) _ _ g 5 _ [.int x1] _
  refine go_bipush td_X12_isSmall 3 rfl (q := 7) rfl kb_97 ?_
  refine go_icmp_lt 24 td_X12_isSmall 4 rfl rfl (q := 10) rfl (fun _ => ?_) (fun _ => ?_)
  · refine go_iconst td_X12_isSmall 12 rfl (q := 25) rfl kc_0 ?_
    exact go_zret td_X12_isSmall 13 rfl rfl rfl rfl
  · refine go_aload_n td_X12_isSmall 5 rfl (q := 11) rfl 0 rfl ?_
    refine go_iload_n td_X12_isSmall 6 rfl (q := 12) rfl 1 rfl ?_
    refine go_callV td_X12_isSmall 7 rfl (q := 15) rfl (XkB E) lk_X12_221 (ok_fB_M_byteAt E a1 g) ⟨rfl, rfl, Nat.le_of_ble_eq_true rfl, Nat.le_of_ble_eq_true rfl⟩ rfl rfl (Nat.le_of_ble_eq_true rfl) (Bc_0 E g) rfl (fun x2 => ?_)
    show Go (wCB E) _ _ g 15 _ [.int x2] _
    refine go_bipush td_X12_isSmall 8 rfl (q := 17) rfl kb_122 ?_
    refine go_icmp_gt 24 td_X12_isSmall 9 rfl rfl (q := 20) rfl (fun _ => ?_) (fun _ => ?_)
    · refine go_iconst td_X12_isSmall 12 rfl (q := 25) rfl kc_0 ?_
      exact go_zret td_X12_isSmall 13 rfl rfl rfl rfl
    · refine go_iconst td_X12_isSmall 10 rfl (q := 21) rfl kc_1 ?_
      refine go_goto td_X12_isSmall 11 rfl (q := 25) rfl ?_
      exact go_zret td_X12_isSmall 13 rfl rfl rfl rfl
def fB_M_fails (a1 : Int32) (a2 : Int32) (g : G) : Option (G) := (if (g.1 40) = 0 then bv (sS g 40 a1) fun g1 => bv (sS g1 41 a2) fun g2 => some g2 else some g)
set_option maxRecDepth 20000 in
set_option maxHeartbeats 4000000 in
theorem ok_fB_M_fails (E : Ev) (a1 : Int32) (a2 : Int32) (g : G)  : Ct (wCB E) yX12_fails mi_X12_fails [.ref (E.1 0), .int a1, .int a2] (fun r => (none, r)) g (fB_M_fails a1 a2 g) := by
  refine go_enter rfl rfl (Nat.le_of_ble_eq_true rfl) (lv := [(0, .ref (E.1 0)), (1, .int a1), (2, .int a2)]) rfl ?_
  unfold fB_M_fails
  refine go_aload_n td_X12_fails 0 rfl (q := 1) rfl 0 rfl ?_
  refine go_get td_X12_fails 1 rfl (q := 4) rfl fl_X12_132 (Bc_0 E g) rfl ?_
  refine go_if_eq 8 td_X12_fails 2 rfl rfl (q := 7) rfl (fun _ => ?_) (fun _ => ?_)
  · refine go_aload_n td_X12_fails 4 rfl (q := 9) rfl 0 rfl ?_
    refine go_iload_n td_X12_fails 5 rfl (q := 10) rfl 1 rfl ?_
    refine go_put td_X12_fails 6 rfl (q := 13) rfl flp_X12_132 (Bc_0 E g) rfl rfl (Nat.le_of_ble_eq_true rfl) (Bps_40 E g a1) ?_
    refine go_bvg (fun g1 => ?_)
    refine go_aload_n td_X12_fails 7 rfl (q := 14) rfl 0 rfl ?_
    refine go_iload_n td_X12_fails 8 rfl (q := 15) rfl 2 rfl ?_
    refine go_put td_X12_fails 9 rfl (q := 18) rfl flp_X12_135 (Bc_0 E g1) rfl rfl (Nat.le_of_ble_eq_true rfl) (Bps_41 E g1 a2) ?_
    refine go_bvg (fun g2 => ?_)
    exact go_vret td_X12_fails 10 rfl rfl rfl
  · exact go_vret td_X12_fails 3 rfl rfl rfl
def fB_M_isDigit (a1 : Int32) (g : G) : Option (Int32) := Option.bind (fB_M_byteAt a1 g) fun x1 => (if x1 < 48 then some 0 else Option.bind (fB_M_byteAt a1 g) fun x2 => (if 57 < x2 then some 0 else some 1))
set_option maxRecDepth 20000 in
set_option maxHeartbeats 4000000 in
theorem ok_fB_M_isDigit (E : Ev) (a1 : Int32) (g : G)  : Ct (wCB E) yX12_isDigit mi_X12_isDigit [.ref (E.1 0), .int a1] (fun r => (some (.int r), g)) g (fB_M_isDigit a1 g) := by
  refine go_enter rfl rfl (Nat.le_of_ble_eq_true rfl) (lv := [(0, .ref (E.1 0)), (1, .int a1)]) rfl ?_
  unfold fB_M_isDigit
  refine go_aload_n td_X12_isDigit 0 rfl (q := 1) rfl 0 rfl ?_
  refine go_iload_n td_X12_isDigit 1 rfl (q := 2) rfl 1 rfl ?_
  refine go_callV td_X12_isDigit 2 rfl (q := 5) rfl (XkB E) lk_X12_221 (ok_fB_M_byteAt E a1 g) ⟨rfl, rfl, Nat.le_of_ble_eq_true rfl, Nat.le_of_ble_eq_true rfl⟩ rfl rfl (Nat.le_of_ble_eq_true rfl) (Bc_0 E g) rfl (fun x1 => ?_)
  show Go (wCB E) _ _ g 5 _ [.int x1] _
  refine go_bipush td_X12_isDigit 3 rfl (q := 7) rfl kb_48 ?_
  refine go_icmp_lt 24 td_X12_isDigit 4 rfl rfl (q := 10) rfl (fun _ => ?_) (fun _ => ?_)
  · refine go_iconst td_X12_isDigit 12 rfl (q := 25) rfl kc_0 ?_
    exact go_zret td_X12_isDigit 13 rfl rfl rfl rfl
  · refine go_aload_n td_X12_isDigit 5 rfl (q := 11) rfl 0 rfl ?_
    refine go_iload_n td_X12_isDigit 6 rfl (q := 12) rfl 1 rfl ?_
    refine go_callV td_X12_isDigit 7 rfl (q := 15) rfl (XkB E) lk_X12_221 (ok_fB_M_byteAt E a1 g) ⟨rfl, rfl, Nat.le_of_ble_eq_true rfl, Nat.le_of_ble_eq_true rfl⟩ rfl rfl (Nat.le_of_ble_eq_true rfl) (Bc_0 E g) rfl (fun x2 => ?_)
    show Go (wCB E) _ _ g 15 _ [.int x2] _
    refine go_bipush td_X12_isDigit 8 rfl (q := 17) rfl kb_57 ?_
    refine go_icmp_gt 24 td_X12_isDigit 9 rfl rfl (q := 20) rfl (fun _ => ?_) (fun _ => ?_)
    · refine go_iconst td_X12_isDigit 12 rfl (q := 25) rfl kc_0 ?_
      exact go_zret td_X12_isDigit 13 rfl rfl rfl rfl
    · refine go_iconst td_X12_isDigit 10 rfl (q := 21) rfl kc_1 ?_
      refine go_goto td_X12_isDigit 11 rfl (q := 25) rfl ?_
      exact go_zret td_X12_isDigit 13 rfl rfl rfl rfl
def fB_M_word (g : G) : Option (G) := Option.bind (fB_M_goes g) fun x1 => (if x1 = 0 then some g else Option.bind (fB_M_here g) fun x2 => bv (sS x2.2 39 (x2.2.1 38)) fun g3 => Option.bind (fB_M_isSmall (g3.1 38) g3) fun x4 => lj (α := Unit) (fun b5 => Option.bind (fB_M_fails 1 (g3.1 38) g3) fun x6 => some x6) fun J5 => (if x4 = 0 then J5 () else Option.bind (fB_M_isSmall ((g3.1 38) - 1) g3) fun x7 => (if x7 = 0 then Option.bind (fB_M_isDigit ((g3.1 38) - 1) g3) fun x8 => (if x8 = 0 then Lp (α := G) (fun rec9 s9 => Option.bind (fB_M_isSmall (s9.1 38) s9) fun x10 => (if x10 = 0 then some s9 else bv (sS s9 38 ((s9.1 38) + 1)) fun g11 => rec9 g11)) FU g3 else J5 ()) else J5 ())))
set_option maxRecDepth 20000 in
set_option maxHeartbeats 4000000 in
theorem ok_fB_M_word (E : Ev)  (g : G)  : Ct (wCB E) yX12_word mi_X12_word [.ref (E.1 0)] (fun r => (none, r)) g (fB_M_word g) := by
  refine go_enter rfl rfl (Nat.le_of_ble_eq_true rfl) (lv := [(0, .ref (E.1 0))]) rfl ?_
  unfold fB_M_word
  refine go_aload_n td_X12_word 0 rfl (q := 1) rfl 0 rfl ?_
  refine go_callV td_X12_word 1 rfl (q := 4) rfl (XkB E) lk_X12_224 (ok_fB_M_goes E g) ⟨rfl, rfl, Nat.le_of_ble_eq_true rfl, Nat.le_of_ble_eq_true rfl⟩ rfl rfl (Nat.le_of_ble_eq_true rfl) (Bc_0 E g) rfl (fun x1 => ?_)
  show Go (wCB E) _ _ g 4 _ [.int x1] _
  refine go_if_ne 8 td_X12_word 2 rfl rfl (q := 7) rfl (fun _ => ?_) (fun _ => ?_)
  · refine go_aload_n td_X12_word 4 rfl (q := 9) rfl 0 rfl ?_
    refine go_callV td_X12_word 5 rfl (q := 12) rfl (XkB E) lk_X12_228 (ok_fB_M_here E g) ⟨rfl, rfl, Nat.le_of_ble_eq_true rfl, Nat.le_of_ble_eq_true rfl⟩ rfl rfl (Nat.le_of_ble_eq_true rfl) (Bc_0 E g) rfl (fun x2 => ?_)
    show Go (wCB E) _ _ x2.2 12 _ [.int x2.1] _
    refine go_pop td_X12_word 6 rfl (q := 13) rfl rfl ?_
    refine go_aload_n td_X12_word 7 rfl (q := 14) rfl 0 rfl ?_
    refine go_aload_n td_X12_word 8 rfl (q := 15) rfl 0 rfl ?_
    refine go_get td_X12_word 9 rfl (q := 18) rfl fl_X12_126 (Bc_0 E x2.2) rfl ?_
    refine go_put td_X12_word 10 rfl (q := 21) rfl flp_X12_129 (Bc_0 E x2.2) rfl rfl (Nat.le_of_ble_eq_true rfl) (Bps_39 E x2.2 (x2.2.1 38)) ?_
    refine go_bvg (fun g3 => ?_)
    refine go_aload_n td_X12_word 11 rfl (q := 22) rfl 0 rfl ?_
    refine go_aload_n td_X12_word 12 rfl (q := 23) rfl 0 rfl ?_
    refine go_get td_X12_word 13 rfl (q := 26) rfl fl_X12_126 (Bc_0 E g3) rfl ?_
    refine go_callV td_X12_word 14 rfl (q := 29) rfl (XkB E) lk_X12_232 (ok_fB_M_isSmall E (g3.1 38) g3) ⟨rfl, rfl, Nat.le_of_ble_eq_true rfl, Nat.le_of_ble_eq_true rfl⟩ rfl rfl (Nat.le_of_ble_eq_true rfl) (Bc_0 E g3) rfl (fun x4 => ?_)
    show Go (wCB E) _ _ g3 29 _ [.int x4] _
    refine go_ljX (α := Unit) (fun b5 => [(0, .ref (E.1 0))]) (fun b5 => []) (fun b5 => g3) 58 ?_ ?_
    · intro b5
      refine go_aload_n td_X12_word 30 rfl (q := 59) rfl 0 rfl ?_
      refine go_iconst td_X12_word 31 rfl (q := 60) rfl kc_1 ?_
      refine go_aload_n td_X12_word 32 rfl (q := 61) rfl 0 rfl ?_
      refine go_get td_X12_word 33 rfl (q := 64) rfl fl_X12_126 (Bc_0 E g3) rfl ?_
      refine go_callV td_X12_word 34 rfl (q := 67) rfl (XkB E) lk_X12_238 (ok_fB_M_fails E 1 (g3.1 38) g3) ⟨rfl, rfl, Nat.le_of_ble_eq_true rfl, Nat.le_of_ble_eq_true rfl⟩ rfl rfl (Nat.le_of_ble_eq_true rfl) (Bc_0 E g3) rfl (fun x6 => ?_)
      show Go (wCB E) _ _ x6 67 _ [] _
      exact go_vret td_X12_word 35 rfl rfl rfl
    intro J5 hJ5
    have kJ5 : Go (wCB E) _ _ g3 58 [(0, .ref (E.1 0))] [] (J5 ()) := hJ5 ()
    refine go_if_eq 58 td_X12_word 15 rfl rfl (q := 32) rfl (fun _ => ?_) (fun _ => ?_)
    · refine go_pick [0] (lv' := [(0, .ref (E.1 0))]) rfl ?_
      exact kJ5 
    · refine go_aload_n td_X12_word 16 rfl (q := 33) rfl 0 rfl ?_
      refine go_aload_n td_X12_word 17 rfl (q := 34) rfl 0 rfl ?_
      refine go_get td_X12_word 18 rfl (q := 37) rfl fl_X12_126 (Bc_0 E g3) rfl ?_
      refine go_iconst td_X12_word 19 rfl (q := 38) rfl kc_1 ?_
      refine go_isub td_X12_word 20 rfl (q := 39) rfl ?_
      refine go_callV td_X12_word 21 rfl (q := 42) rfl (XkB E) lk_X12_232 (ok_fB_M_isSmall E ((g3.1 38) - 1) g3) ⟨rfl, rfl, Nat.le_of_ble_eq_true rfl, Nat.le_of_ble_eq_true rfl⟩ rfl rfl (Nat.le_of_ble_eq_true rfl) (Bc_0 E g3) rfl (fun x7 => ?_)
      show Go (wCB E) _ _ g3 42 _ [.int x7] _
      refine go_if_ne 58 td_X12_word 22 rfl rfl (q := 45) rfl (fun _ => ?_) (fun _ => ?_)
      · refine go_pick [0] (lv' := [(0, .ref (E.1 0))]) rfl ?_
        exact kJ5 
      · refine go_aload_n td_X12_word 23 rfl (q := 46) rfl 0 rfl ?_
        refine go_aload_n td_X12_word 24 rfl (q := 47) rfl 0 rfl ?_
        refine go_get td_X12_word 25 rfl (q := 50) rfl fl_X12_126 (Bc_0 E g3) rfl ?_
        refine go_iconst td_X12_word 26 rfl (q := 51) rfl kc_1 ?_
        refine go_isub td_X12_word 27 rfl (q := 52) rfl ?_
        refine go_callV td_X12_word 28 rfl (q := 55) rfl (XkB E) lk_X12_235 (ok_fB_M_isDigit E ((g3.1 38) - 1) g3) ⟨rfl, rfl, Nat.le_of_ble_eq_true rfl, Nat.le_of_ble_eq_true rfl⟩ rfl rfl (Nat.le_of_ble_eq_true rfl) (Bc_0 E g3) rfl (fun x8 => ?_)
        show Go (wCB E) _ _ g3 55 _ [.int x8] _
        refine go_if_eq 68 td_X12_word 29 rfl rfl (q := 58) rfl (fun _ => ?_) (fun _ => ?_)
        · refine go_pick [0] (lv' := [(0, .ref (E.1 0))]) rfl ?_
          refine (show ∀ (u9_0 : G), Go (wCB E) _ _ u9_0 68 [(0, .ref (E.1 0))] [] (Lp (α := G) _ FU u9_0) from ?_) g3
          intro u9_0
          refine go_Lp (α := G) (fun s9 => s9) (fun s9 => [(0, .ref (E.1 0))]) ?_ FU u9_0
          intro rec9 hrec9 s9
          have krec9 : ∀ (u9_0 : G), Go (wCB E) _ _ u9_0 68 [(0, .ref (E.1 0))] [] (rec9 u9_0) := fun u9_0 => hrec9 u9_0
          refine go_aload_n td_X12_word 36 rfl (q := 69) rfl 0 rfl ?_
          refine go_aload_n td_X12_word 37 rfl (q := 70) rfl 0 rfl ?_
          refine go_get td_X12_word 38 rfl (q := 73) rfl fl_X12_126 (Bc_0 E s9) rfl ?_
          refine go_callV td_X12_word 39 rfl (q := 76) rfl (XkB E) lk_X12_232 (ok_fB_M_isSmall E (s9.1 38) s9) ⟨rfl, rfl, Nat.le_of_ble_eq_true rfl, Nat.le_of_ble_eq_true rfl⟩ rfl rfl (Nat.le_of_ble_eq_true rfl) (Bc_0 E s9) rfl (fun x10 => ?_)
          show Go (wCB E) _ _ s9 76 _ [.int x10] _
          refine go_if_eq 92 td_X12_word 40 rfl rfl (q := 79) rfl (fun _ => ?_) (fun _ => ?_)
          · exact go_vret td_X12_word 48 rfl rfl rfl
          · refine go_aload_n td_X12_word 41 rfl (q := 80) rfl 0 rfl ?_
            refine go_dup td_X12_word 42 rfl (q := 81) rfl rfl ?_
            refine go_get td_X12_word 43 rfl (q := 84) rfl fl_X12_126 (Bc_0 E s9) rfl ?_
            refine go_iconst td_X12_word 44 rfl (q := 85) rfl kc_1 ?_
            refine go_iadd td_X12_word 45 rfl (q := 86) rfl ?_
            refine go_put td_X12_word 46 rfl (q := 89) rfl flp_X12_126 (Bc_0 E s9) rfl rfl (Nat.le_of_ble_eq_true rfl) (Bps_38 E s9 ((s9.1 38) + 1)) ?_
            refine go_bvg (fun g11 => ?_)
            refine go_goto td_X12_word 47 rfl (q := 68) rfl ?_
            refine go_pick [0] (lv' := [(0, .ref (E.1 0))]) rfl ?_
            exact krec9 g11
        · refine go_pick [0] (lv' := [(0, .ref (E.1 0))]) rfl ?_
          exact kJ5 
  · exact go_vret td_X12_word 3 rfl rfl rfl
def fB_M_own (g : G) : Option (Int32) := Lp (α := Int32 × Int32) (fun rec1 s1 => (if 70 ≤ s1.1 then some (-1) else Lp (α := Int32) (fun rec2 s2 => ag 70 (g.2.1 19) (s1.1 + s2) fun x3 => lj (α := Unit) (fun b4 => ag 70 (g.2.1 19) (s1.1 + s2) fun x5 => lj (α := Unit) (fun b6 => Lp (α := Int32) (fun rec7 s7 => ag 70 (g.2.1 19) s7 fun x8 => (if x8 = 0 then rec1 (s7 + 1, s1.2 + 1) else rec7 (s7 + 1))) FU s1.1) fun J6 => (if x5 = 0 then (if ((g.1 39) + s2) = (g.1 38) then some s1.2 else J6 ()) else J6 ())) fun J4 => (if x3 = 0 then J4 () else (if (g.1 38) ≤ ((g.1 39) + s2) then J4 () else ag 1600 (g.2.1 17) ((g.1 39) + s2) fun x9 => ag 70 (g.2.1 19) (s1.1 + s2) fun x10 => (if (x9 - 96) = x10 then rec2 (s2 + 1) else J4 ())))) FU 0)) FU (0, 0)
set_option maxRecDepth 20000 in
set_option maxHeartbeats 4000000 in
theorem ok_fB_M_own (E : Ev)  (g : G)  : Ct (wCB E) yX12_own mi_X12_own [.ref (E.1 0)] (fun r => (some (.int r), g)) g (fB_M_own g) := by
  refine go_enter rfl rfl (Nat.le_of_ble_eq_true rfl) (lv := [(0, .ref (E.1 0))]) rfl ?_
  unfold fB_M_own
  refine go_iconst td_X12_own 0 rfl (q := 1) rfl kc_0 ?_
  refine go_istore_n [(1, .int 0), (0, .ref (E.1 0))] td_X12_own 1 rfl (q := 2) rfl (Nat.le_of_ble_eq_true rfl) rfl ?_
  refine go_iconst td_X12_own 2 rfl (q := 3) rfl kc_0 ?_
  refine go_istore_n [(2, .int 0), (1, .int 0), (0, .ref (E.1 0))] td_X12_own 3 rfl (q := 4) rfl (Nat.le_of_ble_eq_true rfl) rfl ?_
  refine go_pick [2, 1, 0] (lv' := [(0, .ref (E.1 0)), (1, .int 0), (2, .int 0)]) rfl ?_
  refine (show ∀ (u1_0 : Int32) (u1_1 : Int32), Go (wCB E) _ _ g 4 [(0, .ref (E.1 0)), (1, .int u1_0), (2, .int u1_1)] [] (Lp (α := Int32 × Int32) _ FU (u1_0, u1_1)) from ?_) 0 0
  intro u1_0 u1_1
  refine go_Lp (α := Int32 × Int32) (fun s1 => g) (fun s1 => [(0, .ref (E.1 0)), (1, .int s1.1), (2, .int s1.2)]) ?_ FU (u1_0, u1_1)
  intro rec1 hrec1 s1
  have krec1 : ∀ (u1_0 : Int32) (u1_1 : Int32), Go (wCB E) _ _ g 4 [(0, .ref (E.1 0)), (1, .int u1_0), (2, .int u1_1)] [] (rec1 (u1_0, u1_1)) := fun u1_0 u1_1 => hrec1 (u1_0, u1_1)
  refine go_iload_n td_X12_own 4 rfl (q := 5) rfl 1 rfl ?_
  refine go_bipush td_X12_own 5 rfl (q := 7) rfl kb_70 ?_
  refine go_icmp_ge 117 td_X12_own 6 rfl rfl (q := 10) rfl (fun _ => ?_) (fun _ => ?_)
  · refine go_iconst td_X12_own 67 rfl (q := 118) rfl kc_m1 ?_
    exact go_iret td_X12_own 68 rfl rfl rfl
  · refine go_iconst td_X12_own 7 rfl (q := 11) rfl kc_0 ?_
    refine go_istore_n [(3, .int 0), (0, .ref (E.1 0)), (1, .int s1.1), (2, .int s1.2)] td_X12_own 8 rfl (q := 12) rfl (Nat.le_of_ble_eq_true rfl) rfl ?_
    refine go_pick [1, 2, 3, 0] (lv' := [(0, .ref (E.1 0)), (1, .int s1.1), (2, .int s1.2), (3, .int 0)]) rfl ?_
    refine (show ∀ (u2_0 : Int32), Go (wCB E) _ _ g 12 [(0, .ref (E.1 0)), (1, .int s1.1), (2, .int s1.2), (3, .int u2_0)] [] (Lp (α := Int32) _ FU u2_0) from ?_) 0
    intro u2_0
    refine go_Lp (α := Int32) (fun s2 => g) (fun s2 => [(0, .ref (E.1 0)), (1, .int s1.1), (2, .int s1.2), (3, .int s2)]) ?_ FU u2_0
    intro rec2 hrec2 s2
    have krec2 : ∀ (u2_0 : Int32), Go (wCB E) _ _ g 12 [(0, .ref (E.1 0)), (1, .int s1.1), (2, .int s1.2), (3, .int u2_0)] [] (rec2 u2_0) := fun u2_0 => hrec2 u2_0
    refine go_aload_n td_X12_own 9 rfl (q := 13) rfl 0 rfl ?_
    refine go_get td_X12_own 10 rfl (q := 16) rfl fl_X12_138 (Bc_0 E g) rfl ?_
    refine go_iload_n td_X12_own 11 rfl (q := 17) rfl 1 rfl ?_
    refine go_iload_n td_X12_own 12 rfl (q := 18) rfl 3 rfl ?_
    refine go_iadd td_X12_own 13 rfl (q := 19) rfl ?_
    refine go_ald td_X12_own 14 rfl (q := 20) rfl (Bc_19 E g) (t0 := 0) rfl (fun x3 => ?_)
    refine go_ljX (α := Unit) (fun b4 => [(0, .ref (E.1 0)), (1, .int s1.1), (2, .int s1.2), (3, .int s2)]) (fun b4 => []) (fun b4 => g) 67 ?_ ?_
    · intro b4
      refine go_aload_n td_X12_own 41 rfl (q := 68) rfl 0 rfl ?_
      refine go_get td_X12_own 42 rfl (q := 71) rfl fl_X12_138 (Bc_0 E g) rfl ?_
      refine go_iload_n td_X12_own 43 rfl (q := 72) rfl 1 rfl ?_
      refine go_iload_n td_X12_own 44 rfl (q := 73) rfl 3 rfl ?_
      refine go_iadd td_X12_own 45 rfl (q := 74) rfl ?_
      refine go_ald td_X12_own 46 rfl (q := 75) rfl (Bc_19 E g) (t0 := 0) rfl (fun x5 => ?_)
      refine go_ljX (α := Unit) (fun b6 => [(0, .ref (E.1 0)), (1, .int s1.1), (2, .int s1.2)]) (fun b6 => []) (fun b6 => g) 93 ?_ ?_
      · intro b6
        refine go_pick [0, 1, 2] (lv' := [(0, .ref (E.1 0)), (1, .int s1.1), (2, .int s1.2)]) rfl ?_
        refine (show ∀ (u7_0 : Int32), Go (wCB E) _ _ g 93 [(0, .ref (E.1 0)), (1, .int u7_0), (2, .int s1.2)] [] (Lp (α := Int32) _ FU u7_0) from ?_) s1.1
        intro u7_0
        refine go_Lp (α := Int32) (fun s7 => g) (fun s7 => [(0, .ref (E.1 0)), (1, .int s7), (2, .int s1.2)]) ?_ FU u7_0
        intro rec7 hrec7 s7
        have krec7 : ∀ (u7_0 : Int32), Go (wCB E) _ _ g 93 [(0, .ref (E.1 0)), (1, .int u7_0), (2, .int s1.2)] [] (rec7 u7_0) := fun u7_0 => hrec7 u7_0
        refine go_aload_n td_X12_own 57 rfl (q := 94) rfl 0 rfl ?_
        refine go_get td_X12_own 58 rfl (q := 97) rfl fl_X12_138 (Bc_0 E g) rfl ?_
        refine go_iload_n td_X12_own 59 rfl (q := 98) rfl 1 rfl ?_
        refine go_ald td_X12_own 60 rfl (q := 99) rfl (Bc_19 E g) (t0 := 0) rfl (fun x8 => ?_)
        refine go_if_eq 108 td_X12_own 61 rfl rfl (q := 102) rfl (fun _ => ?_) (fun _ => ?_)
        · refine go_iinc [(1, .int (s7 + 1)), (0, .ref (E.1 0)), (2, .int s1.2)] td_X12_own 64 rfl (q := 111) rfl 1 rfl kc_1 (Nat.le_of_ble_eq_true rfl) rfl ?_
          refine go_iinc [(2, .int (s1.2 + 1)), (1, .int (s7 + 1)), (0, .ref (E.1 0))] td_X12_own 65 rfl (q := 114) rfl 2 rfl kc_1 (Nat.le_of_ble_eq_true rfl) rfl ?_
          refine go_goto td_X12_own 66 rfl (q := 4) rfl ?_
          refine go_pick [2, 1, 0] (lv' := [(0, .ref (E.1 0)), (1, .int (s7 + 1)), (2, .int (s1.2 + 1))]) rfl ?_
          exact krec1 (s7 + 1) (s1.2 + 1)
        · refine go_iinc [(1, .int (s7 + 1)), (0, .ref (E.1 0)), (2, .int s1.2)] td_X12_own 62 rfl (q := 105) rfl 1 rfl kc_1 (Nat.le_of_ble_eq_true rfl) rfl ?_
          refine go_goto td_X12_own 63 rfl (q := 93) rfl ?_
          refine go_pick [1, 0, 2] (lv' := [(0, .ref (E.1 0)), (1, .int (s7 + 1)), (2, .int s1.2)]) rfl ?_
          exact krec7 (s7 + 1)
      intro J6 hJ6
      have kJ6 : Go (wCB E) _ _ g 93 [(0, .ref (E.1 0)), (1, .int s1.1), (2, .int s1.2)] [] (J6 ()) := hJ6 ()
      refine go_if_ne 93 td_X12_own 47 rfl rfl (q := 78) rfl (fun _ => ?_) (fun _ => ?_)
      · refine go_pick [0, 1, 2] (lv' := [(0, .ref (E.1 0)), (1, .int s1.1), (2, .int s1.2)]) rfl ?_
        exact kJ6 
      · refine go_aload_n td_X12_own 48 rfl (q := 79) rfl 0 rfl ?_
        refine go_get td_X12_own 49 rfl (q := 82) rfl fl_X12_129 (Bc_0 E g) rfl ?_
        refine go_iload_n td_X12_own 50 rfl (q := 83) rfl 3 rfl ?_
        refine go_iadd td_X12_own 51 rfl (q := 84) rfl ?_
        refine go_aload_n td_X12_own 52 rfl (q := 85) rfl 0 rfl ?_
        refine go_get td_X12_own 53 rfl (q := 88) rfl fl_X12_126 (Bc_0 E g) rfl ?_
        refine go_icmp_ne 93 td_X12_own 54 rfl rfl (q := 91) rfl (fun _ => ?_) (fun _ => ?_)
        · refine go_pick [0, 1, 2] (lv' := [(0, .ref (E.1 0)), (1, .int s1.1), (2, .int s1.2)]) rfl ?_
          exact kJ6 
        · refine go_iload_n td_X12_own 55 rfl (q := 92) rfl 2 rfl ?_
          exact go_iret td_X12_own 56 rfl rfl rfl
    intro J4 hJ4
    have kJ4 : Go (wCB E) _ _ g 67 [(0, .ref (E.1 0)), (1, .int s1.1), (2, .int s1.2), (3, .int s2)] [] (J4 ()) := hJ4 ()
    refine go_if_eq 67 td_X12_own 15 rfl rfl (q := 23) rfl (fun _ => ?_) (fun _ => ?_)
    · refine go_pick [0, 1, 2, 3] (lv' := [(0, .ref (E.1 0)), (1, .int s1.1), (2, .int s1.2), (3, .int s2)]) rfl ?_
      exact kJ4 
    · refine go_aload_n td_X12_own 16 rfl (q := 24) rfl 0 rfl ?_
      refine go_get td_X12_own 17 rfl (q := 27) rfl fl_X12_129 (Bc_0 E g) rfl ?_
      refine go_iload_n td_X12_own 18 rfl (q := 28) rfl 3 rfl ?_
      refine go_iadd td_X12_own 19 rfl (q := 29) rfl ?_
      refine go_aload_n td_X12_own 20 rfl (q := 30) rfl 0 rfl ?_
      refine go_get td_X12_own 21 rfl (q := 33) rfl fl_X12_126 (Bc_0 E g) rfl ?_
      refine go_icmp_ge 67 td_X12_own 22 rfl rfl (q := 36) rfl (fun _ => ?_) (fun _ => ?_)
      · refine go_pick [0, 1, 2, 3] (lv' := [(0, .ref (E.1 0)), (1, .int s1.1), (2, .int s1.2), (3, .int s2)]) rfl ?_
        exact kJ4 
      · refine go_aload_n td_X12_own 23 rfl (q := 37) rfl 0 rfl ?_
        refine go_get td_X12_own 24 rfl (q := 40) rfl fl_X12_108 (Bc_0 E g) rfl ?_
        refine go_aload_n td_X12_own 25 rfl (q := 41) rfl 0 rfl ?_
        refine go_get td_X12_own 26 rfl (q := 44) rfl fl_X12_129 (Bc_0 E g) rfl ?_
        refine go_iload_n td_X12_own 27 rfl (q := 45) rfl 3 rfl ?_
        refine go_iadd td_X12_own 28 rfl (q := 46) rfl ?_
        refine go_ald td_X12_own 29 rfl (q := 47) rfl (Bc_17 E g) (t0 := 0) rfl (fun x9 => ?_)
        refine go_bipush td_X12_own 30 rfl (q := 49) rfl kb_96 ?_
        refine go_isub td_X12_own 31 rfl (q := 50) rfl ?_
        refine go_aload_n td_X12_own 32 rfl (q := 51) rfl 0 rfl ?_
        refine go_get td_X12_own 33 rfl (q := 54) rfl fl_X12_138 (Bc_0 E g) rfl ?_
        refine go_iload_n td_X12_own 34 rfl (q := 55) rfl 1 rfl ?_
        refine go_iload_n td_X12_own 35 rfl (q := 56) rfl 3 rfl ?_
        refine go_iadd td_X12_own 36 rfl (q := 57) rfl ?_
        refine go_ald td_X12_own 37 rfl (q := 58) rfl (Bc_19 E g) (t0 := 0) rfl (fun x10 => ?_)
        refine go_icmp_ne 67 td_X12_own 38 rfl rfl (q := 61) rfl (fun _ => ?_) (fun _ => ?_)
        · refine go_pick [0, 1, 2, 3] (lv' := [(0, .ref (E.1 0)), (1, .int s1.1), (2, .int s1.2), (3, .int s2)]) rfl ?_
          exact kJ4 
        · refine go_iinc [(3, .int (s2 + 1)), (0, .ref (E.1 0)), (1, .int s1.1), (2, .int s1.2)] td_X12_own 39 rfl (q := 64) rfl 3 rfl kc_1 (Nat.le_of_ble_eq_true rfl) rfl ?_
          refine go_goto td_X12_own 40 rfl (q := 12) rfl ?_
          refine go_pick [1, 2, 3, 0] (lv' := [(0, .ref (E.1 0)), (1, .int s1.1), (2, .int s1.2), (3, .int (s2 + 1))]) rfl ?_
          exact krec2 (s2 + 1)
def fB_M_must (a1 : Int32) (g : G) : Option (G) := Option.bind (fB_M_word g) fun x1 => Option.bind (fB_M_goes x1) fun x2 => (if x2 = 0 then some x1 else Option.bind (fB_M_own x1) fun x3 => (if x3 = a1 then some x1 else Option.bind (fB_M_fails 1 (x1.1 39) x1) fun x4 => some x4))
set_option maxRecDepth 20000 in
set_option maxHeartbeats 4000000 in
theorem ok_fB_M_must (E : Ev) (a1 : Int32) (g : G)  : Ct (wCB E) yX12_must mi_X12_must [.ref (E.1 0), .int a1] (fun r => (none, r)) g (fB_M_must a1 g) := by
  refine go_enter rfl rfl (Nat.le_of_ble_eq_true rfl) (lv := [(0, .ref (E.1 0)), (1, .int a1)]) rfl ?_
  unfold fB_M_must
  refine go_aload_n td_X12_must 0 rfl (q := 1) rfl 0 rfl ?_
  refine go_callV td_X12_must 1 rfl (q := 4) rfl (XkB E) lk_X12_242 (ok_fB_M_word E g) ⟨rfl, rfl, Nat.le_of_ble_eq_true rfl, Nat.le_of_ble_eq_true rfl⟩ rfl rfl (Nat.le_of_ble_eq_true rfl) (Bc_0 E g) rfl (fun x1 => ?_)
  show Go (wCB E) _ _ x1 4 _ [] _
  refine go_aload_n td_X12_must 2 rfl (q := 5) rfl 0 rfl ?_
  refine go_callV td_X12_must 3 rfl (q := 8) rfl (XkB E) lk_X12_224 (ok_fB_M_goes E x1) ⟨rfl, rfl, Nat.le_of_ble_eq_true rfl, Nat.le_of_ble_eq_true rfl⟩ rfl rfl (Nat.le_of_ble_eq_true rfl) (Bc_0 E x1) rfl (fun x2 => ?_)
  show Go (wCB E) _ _ x1 8 _ [.int x2] _
  refine go_if_eq 28 td_X12_must 4 rfl rfl (q := 11) rfl (fun _ => ?_) (fun _ => ?_)
  · exact go_vret td_X12_must 14 rfl rfl rfl
  · refine go_aload_n td_X12_must 5 rfl (q := 12) rfl 0 rfl ?_
    refine go_callV td_X12_must 6 rfl (q := 15) rfl (XkB E) lk_X12_245 (ok_fB_M_own E x1) ⟨rfl, rfl, Nat.le_of_ble_eq_true rfl, Nat.le_of_ble_eq_true rfl⟩ rfl rfl (Nat.le_of_ble_eq_true rfl) (Bc_0 E x1) rfl (fun x3 => ?_)
    show Go (wCB E) _ _ x1 15 _ [.int x3] _
    refine go_iload_n td_X12_must 7 rfl (q := 16) rfl 1 rfl ?_
    refine go_icmp_eq 28 td_X12_must 8 rfl rfl (q := 19) rfl (fun _ => ?_) (fun _ => ?_)
    · exact go_vret td_X12_must 14 rfl rfl rfl
    · refine go_aload_n td_X12_must 9 rfl (q := 20) rfl 0 rfl ?_
      refine go_iconst td_X12_must 10 rfl (q := 21) rfl kc_1 ?_
      refine go_aload_n td_X12_must 11 rfl (q := 22) rfl 0 rfl ?_
      refine go_get td_X12_must 12 rfl (q := 25) rfl fl_X12_129 (Bc_0 E x1) rfl ?_
      refine go_callV td_X12_must 13 rfl (q := 28) rfl (XkB E) lk_X12_238 (ok_fB_M_fails E 1 (x1.1 39) x1) ⟨rfl, rfl, Nat.le_of_ble_eq_true rfl, Nat.le_of_ble_eq_true rfl⟩ rfl rfl (Nat.le_of_ble_eq_true rfl) (Bc_0 E x1) rfl (fun x4 => ?_)
      show Go (wCB E) _ _ x4 28 _ [] _
      exact go_vret td_X12_must 14 rfl rfl rfl
def fB_M_isIn (a1 : Int32) (a2 : Int32) (a3 : Int32) (g : G) : Option (Int32) := (if a1 < a2 then some 0 else (if a3 < a1 then some 0 else some 1))
set_option maxRecDepth 20000 in
set_option maxHeartbeats 4000000 in
theorem ok_fB_M_isIn (E : Ev) (a1 : Int32) (a2 : Int32) (a3 : Int32) (g : G)  : Ct (wCB E) yX12_isIn mi_X12_isIn [.int a1, .int a2, .int a3] (fun r => (some (.int r), g)) g (fB_M_isIn a1 a2 a3 g) := by
  refine go_enter rfl rfl (Nat.le_of_ble_eq_true rfl) (lv := [(0, .int a1), (1, .int a2), (2, .int a3)]) rfl ?_
  unfold fB_M_isIn
  refine go_iload_n td_X12_isIn 0 rfl (q := 1) rfl 0 rfl ?_
  refine go_iload_n td_X12_isIn 1 rfl (q := 2) rfl 1 rfl ?_
  refine go_icmp_lt 14 td_X12_isIn 2 rfl rfl (q := 5) rfl (fun _ => ?_) (fun _ => ?_)
  · refine go_iconst td_X12_isIn 8 rfl (q := 15) rfl kc_0 ?_
    exact go_zret td_X12_isIn 9 rfl rfl rfl rfl
  · refine go_iload_n td_X12_isIn 3 rfl (q := 6) rfl 0 rfl ?_
    refine go_iload_n td_X12_isIn 4 rfl (q := 7) rfl 2 rfl ?_
    refine go_icmp_gt 14 td_X12_isIn 5 rfl rfl (q := 10) rfl (fun _ => ?_) (fun _ => ?_)
    · refine go_iconst td_X12_isIn 8 rfl (q := 15) rfl kc_0 ?_
      exact go_zret td_X12_isIn 9 rfl rfl rfl rfl
    · refine go_iconst td_X12_isIn 6 rfl (q := 11) rfl kc_1 ?_
      refine go_goto td_X12_isIn 7 rfl (q := 15) rfl ?_
      exact go_zret td_X12_isIn 9 rfl rfl rfl rfl
def fB_M_number (a1 : Int32) (a2 : Int32) (g : G) : Option (Int32 × G) := Option.bind (fB_M_goes g) fun x1 => (if x1 = 0 then some (0, g) else Option.bind (fB_M_here g) fun x2 => bv (sS x2.2 39 (x2.2.1 38)) fun g3 => Option.bind (fB_M_isDigit (g3.1 38) g3) fun x4 => lj (α := Unit) (fun b5 => Option.bind (fB_M_fails 1 (g3.1 38) g3) fun x6 => some (0, x6)) fun J5 => (if x4 = 0 then J5 () else Option.bind (fB_M_isSmall ((g3.1 38) - 1) g3) fun x7 => (if x7 = 0 then Option.bind (fB_M_isDigit ((g3.1 38) - 1) g3) fun x8 => (if x8 = 0 then Lp (α := Int32 × G) (fun rec9 s9 => Option.bind (fB_M_isDigit (s9.2.1 38) s9.2) fun x10 => lj (α := Unit) (fun b11 => Option.bind (fB_M_isIn s9.1 a1 a2 s9.2) fun x12 => lj (α := G) (fun b13 => Option.bind (fB_M_goes b13) fun x14 => (if x14 = 0 then some (0, b13) else some (s9.1, b13))) fun J13 => (if x12 = 0 then Option.bind (fB_M_fails 2 (s9.2.1 39) s9.2) fun x15 => J13 x15 else J13 s9.2)) fun J11 => (if x10 = 0 then J11 () else Option.bind (fB_M_goes s9.2) fun x16 => (if x16 = 0 then J11 () else lj (α := G) (fun b17 => Option.bind (fB_M_byteAt (b17.1 38) b17) fun x18 => bv (((10 * s9.1) + x18) - 48) fun x19 => bv (sS b17 38 ((b17.1 38) + 1)) fun g20 => rec9 (x19, g20)) fun J17 => (if ((s9.2.1 38) - (s9.2.1 39)) = 2 then Option.bind (fB_M_fails 1 (s9.2.1 38) s9.2) fun x21 => J17 x21 else J17 s9.2)))) FU (0, g3) else J5 ()) else J5 ())))
set_option maxRecDepth 20000 in
set_option maxHeartbeats 4000000 in
theorem ok_fB_M_number (E : Ev) (a1 : Int32) (a2 : Int32) (g : G)  : Ct (wCB E) yX12_number mi_X12_number [.ref (E.1 0), .int a1, .int a2] (fun r => (some (.int r.1), r.2)) g (fB_M_number a1 a2 g) := by
  refine go_enter rfl rfl (Nat.le_of_ble_eq_true rfl) (lv := [(0, .ref (E.1 0)), (1, .int a1), (2, .int a2)]) rfl ?_
  unfold fB_M_number
  refine go_aload_n td_X12_number 0 rfl (q := 1) rfl 0 rfl ?_
  refine go_callV td_X12_number 1 rfl (q := 4) rfl (XkB E) lk_X12_224 (ok_fB_M_goes E g) ⟨rfl, rfl, Nat.le_of_ble_eq_true rfl, Nat.le_of_ble_eq_true rfl⟩ rfl rfl (Nat.le_of_ble_eq_true rfl) (Bc_0 E g) rfl (fun x1 => ?_)
  show Go (wCB E) _ _ g 4 _ [.int x1] _
  refine go_if_ne 9 td_X12_number 2 rfl rfl (q := 7) rfl (fun _ => ?_) (fun _ => ?_)
  · refine go_aload_n td_X12_number 5 rfl (q := 10) rfl 0 rfl ?_
    refine go_callV td_X12_number 6 rfl (q := 13) rfl (XkB E) lk_X12_228 (ok_fB_M_here E g) ⟨rfl, rfl, Nat.le_of_ble_eq_true rfl, Nat.le_of_ble_eq_true rfl⟩ rfl rfl (Nat.le_of_ble_eq_true rfl) (Bc_0 E g) rfl (fun x2 => ?_)
    show Go (wCB E) _ _ x2.2 13 _ [.int x2.1] _
    refine go_pop td_X12_number 7 rfl (q := 14) rfl rfl ?_
    refine go_aload_n td_X12_number 8 rfl (q := 15) rfl 0 rfl ?_
    refine go_aload_n td_X12_number 9 rfl (q := 16) rfl 0 rfl ?_
    refine go_get td_X12_number 10 rfl (q := 19) rfl fl_X12_126 (Bc_0 E x2.2) rfl ?_
    refine go_put td_X12_number 11 rfl (q := 22) rfl flp_X12_129 (Bc_0 E x2.2) rfl rfl (Nat.le_of_ble_eq_true rfl) (Bps_39 E x2.2 (x2.2.1 38)) ?_
    refine go_bvg (fun g3 => ?_)
    refine go_aload_n td_X12_number 12 rfl (q := 23) rfl 0 rfl ?_
    refine go_aload_n td_X12_number 13 rfl (q := 24) rfl 0 rfl ?_
    refine go_get td_X12_number 14 rfl (q := 27) rfl fl_X12_126 (Bc_0 E g3) rfl ?_
    refine go_callV td_X12_number 15 rfl (q := 30) rfl (XkB E) lk_X12_235 (ok_fB_M_isDigit E (g3.1 38) g3) ⟨rfl, rfl, Nat.le_of_ble_eq_true rfl, Nat.le_of_ble_eq_true rfl⟩ rfl rfl (Nat.le_of_ble_eq_true rfl) (Bc_0 E g3) rfl (fun x4 => ?_)
    show Go (wCB E) _ _ g3 30 _ [.int x4] _
    refine go_ljX (α := Unit) (fun b5 => [(0, .ref (E.1 0))]) (fun b5 => []) (fun b5 => g3) 59 ?_ ?_
    · intro b5
      refine go_aload_n td_X12_number 31 rfl (q := 60) rfl 0 rfl ?_
      refine go_iconst td_X12_number 32 rfl (q := 61) rfl kc_1 ?_
      refine go_aload_n td_X12_number 33 rfl (q := 62) rfl 0 rfl ?_
      refine go_get td_X12_number 34 rfl (q := 65) rfl fl_X12_126 (Bc_0 E g3) rfl ?_
      refine go_callV td_X12_number 35 rfl (q := 68) rfl (XkB E) lk_X12_238 (ok_fB_M_fails E 1 (g3.1 38) g3) ⟨rfl, rfl, Nat.le_of_ble_eq_true rfl, Nat.le_of_ble_eq_true rfl⟩ rfl rfl (Nat.le_of_ble_eq_true rfl) (Bc_0 E g3) rfl (fun x6 => ?_)
      show Go (wCB E) _ _ x6 68 _ [] _
      refine go_iconst td_X12_number 36 rfl (q := 69) rfl kc_0 ?_
      exact go_iret td_X12_number 37 rfl rfl rfl
    intro J5 hJ5
    have kJ5 : Go (wCB E) _ _ g3 59 [(0, .ref (E.1 0))] [] (J5 ()) := hJ5 ()
    refine go_if_eq 59 td_X12_number 16 rfl rfl (q := 33) rfl (fun _ => ?_) (fun _ => ?_)
    · refine go_pick [0] (lv' := [(0, .ref (E.1 0))]) rfl ?_
      exact kJ5 
    · refine go_aload_n td_X12_number 17 rfl (q := 34) rfl 0 rfl ?_
      refine go_aload_n td_X12_number 18 rfl (q := 35) rfl 0 rfl ?_
      refine go_get td_X12_number 19 rfl (q := 38) rfl fl_X12_126 (Bc_0 E g3) rfl ?_
      refine go_iconst td_X12_number 20 rfl (q := 39) rfl kc_1 ?_
      refine go_isub td_X12_number 21 rfl (q := 40) rfl ?_
      refine go_callV td_X12_number 22 rfl (q := 43) rfl (XkB E) lk_X12_232 (ok_fB_M_isSmall E ((g3.1 38) - 1) g3) ⟨rfl, rfl, Nat.le_of_ble_eq_true rfl, Nat.le_of_ble_eq_true rfl⟩ rfl rfl (Nat.le_of_ble_eq_true rfl) (Bc_0 E g3) rfl (fun x7 => ?_)
      show Go (wCB E) _ _ g3 43 _ [.int x7] _
      refine go_if_ne 59 td_X12_number 23 rfl rfl (q := 46) rfl (fun _ => ?_) (fun _ => ?_)
      · refine go_pick [0] (lv' := [(0, .ref (E.1 0))]) rfl ?_
        exact kJ5 
      · refine go_aload_n td_X12_number 24 rfl (q := 47) rfl 0 rfl ?_
        refine go_aload_n td_X12_number 25 rfl (q := 48) rfl 0 rfl ?_
        refine go_get td_X12_number 26 rfl (q := 51) rfl fl_X12_126 (Bc_0 E g3) rfl ?_
        refine go_iconst td_X12_number 27 rfl (q := 52) rfl kc_1 ?_
        refine go_isub td_X12_number 28 rfl (q := 53) rfl ?_
        refine go_callV td_X12_number 29 rfl (q := 56) rfl (XkB E) lk_X12_235 (ok_fB_M_isDigit E ((g3.1 38) - 1) g3) ⟨rfl, rfl, Nat.le_of_ble_eq_true rfl, Nat.le_of_ble_eq_true rfl⟩ rfl rfl (Nat.le_of_ble_eq_true rfl) (Bc_0 E g3) rfl (fun x8 => ?_)
        show Go (wCB E) _ _ g3 56 _ [.int x8] _
        refine go_if_eq 70 td_X12_number 30 rfl rfl (q := 59) rfl (fun _ => ?_) (fun _ => ?_)
        · refine go_iconst td_X12_number 38 rfl (q := 71) rfl kc_0 ?_
          refine go_istore_n [(3, .int 0), (0, .ref (E.1 0)), (1, .int a1), (2, .int a2)] td_X12_number 39 rfl (q := 72) rfl (Nat.le_of_ble_eq_true rfl) rfl ?_
          refine go_pick [1, 2, 3, 0] (lv' := [(0, .ref (E.1 0)), (1, .int a1), (2, .int a2), (3, .int 0)]) rfl ?_
          refine (show ∀ (u9_0 : Int32) (u9_1 : G), Go (wCB E) _ _ u9_1 72 [(0, .ref (E.1 0)), (1, .int a1), (2, .int a2), (3, .int u9_0)] [] (Lp (α := Int32 × G) _ FU (u9_0, u9_1)) from ?_) 0 g3
          intro u9_0 u9_1
          refine go_Lp (α := Int32 × G) (fun s9 => s9.2) (fun s9 => [(0, .ref (E.1 0)), (1, .int a1), (2, .int a2), (3, .int s9.1)]) ?_ FU (u9_0, u9_1)
          intro rec9 hrec9 s9
          have krec9 : ∀ (u9_0 : Int32) (u9_1 : G), Go (wCB E) _ _ u9_1 72 [(0, .ref (E.1 0)), (1, .int a1), (2, .int a2), (3, .int u9_0)] [] (rec9 (u9_0, u9_1)) := fun u9_0 u9_1 => hrec9 (u9_0, u9_1)
          refine go_aload_n td_X12_number 40 rfl (q := 73) rfl 0 rfl ?_
          refine go_aload_n td_X12_number 41 rfl (q := 74) rfl 0 rfl ?_
          refine go_get td_X12_number 42 rfl (q := 77) rfl fl_X12_126 (Bc_0 E s9.2) rfl ?_
          refine go_callV td_X12_number 43 rfl (q := 80) rfl (XkB E) lk_X12_235 (ok_fB_M_isDigit E (s9.2.1 38) s9.2) ⟨rfl, rfl, Nat.le_of_ble_eq_true rfl, Nat.le_of_ble_eq_true rfl⟩ rfl rfl (Nat.le_of_ble_eq_true rfl) (Bc_0 E s9.2) rfl (fun x10 => ?_)
          show Go (wCB E) _ _ s9.2 80 _ [.int x10] _
          refine go_ljX (α := Unit) (fun b11 => [(0, .ref (E.1 0)), (1, .int a1), (2, .int a2), (3, .int s9.1)]) (fun b11 => []) (fun b11 => s9.2) 142 ?_ ?_
          · intro b11
            refine go_iload_n td_X12_number 78 rfl (q := 143) rfl 3 rfl ?_
            refine go_iload_n td_X12_number 79 rfl (q := 144) rfl 1 rfl ?_
            refine go_iload_n td_X12_number 80 rfl (q := 145) rfl 2 rfl ?_
            refine go_callS td_X12_number 81 rfl (q := 148) rfl (XkB E) lk_X12_248 (ok_fB_M_isIn E s9.1 a1 a2 s9.2) ⟨rfl, rfl, Nat.le_of_ble_eq_true rfl, Nat.le_of_ble_eq_true rfl⟩ rfl rfl (Nat.le_of_ble_eq_true rfl) (fun x12 => ?_)
            show Go (wCB E) _ _ s9.2 148 _ [.int x12] _
            refine go_ljX (α := G) (fun b13 => [(0, .ref (E.1 0)), (3, .int s9.1)]) (fun b13 => []) (fun b13 => b13) 160 ?_ ?_
            · intro b13
              refine go_aload_n td_X12_number 88 rfl (q := 161) rfl 0 rfl ?_
              refine go_callV td_X12_number 89 rfl (q := 164) rfl (XkB E) lk_X12_224 (ok_fB_M_goes E b13) ⟨rfl, rfl, Nat.le_of_ble_eq_true rfl, Nat.le_of_ble_eq_true rfl⟩ rfl rfl (Nat.le_of_ble_eq_true rfl) (Bc_0 E b13) rfl (fun x14 => ?_)
              show Go (wCB E) _ _ b13 164 _ [.int x14] _
              refine go_if_eq 171 td_X12_number 90 rfl rfl (q := 167) rfl (fun _ => ?_) (fun _ => ?_)
              · refine go_iconst td_X12_number 93 rfl (q := 172) rfl kc_0 ?_
                exact go_iret td_X12_number 94 rfl rfl rfl
              · refine go_iload_n td_X12_number 91 rfl (q := 168) rfl 1 rfl ?_
                refine go_goto td_X12_number 92 rfl (q := 172) rfl ?_
                exact go_iret td_X12_number 94 rfl rfl rfl
            intro J13 hJ13
            have kJ13 : ∀ (u13_0 : G), Go (wCB E) _ _ u13_0 160 [(0, .ref (E.1 0)), (3, .int s9.1)] [] (J13 u13_0) := fun u13_0 => hJ13 u13_0
            refine go_if_ne 160 td_X12_number 82 rfl rfl (q := 151) rfl (fun _ => ?_) (fun _ => ?_)
            · refine go_pick [0, 3] (lv' := [(0, .ref (E.1 0)), (3, .int s9.1)]) rfl ?_
              exact kJ13 s9.2
            · refine go_aload_n td_X12_number 83 rfl (q := 152) rfl 0 rfl ?_
              refine go_iconst td_X12_number 84 rfl (q := 153) rfl kc_2 ?_
              refine go_aload_n td_X12_number 85 rfl (q := 154) rfl 0 rfl ?_
              refine go_get td_X12_number 86 rfl (q := 157) rfl fl_X12_129 (Bc_0 E s9.2) rfl ?_
              refine go_callV td_X12_number 87 rfl (q := 160) rfl (XkB E) lk_X12_238 (ok_fB_M_fails E 2 (s9.2.1 39) s9.2) ⟨rfl, rfl, Nat.le_of_ble_eq_true rfl, Nat.le_of_ble_eq_true rfl⟩ rfl rfl (Nat.le_of_ble_eq_true rfl) (Bc_0 E s9.2) rfl (fun x15 => ?_)
              show Go (wCB E) _ _ x15 160 _ [] _
              refine go_pick [0, 3] (lv' := [(0, .ref (E.1 0)), (3, .int s9.1)]) rfl ?_
              exact kJ13 x15
          intro J11 hJ11
          have kJ11 : Go (wCB E) _ _ s9.2 142 [(0, .ref (E.1 0)), (1, .int a1), (2, .int a2), (3, .int s9.1)] [] (J11 ()) := hJ11 ()
          refine go_if_eq 142 td_X12_number 44 rfl rfl (q := 83) rfl (fun _ => ?_) (fun _ => ?_)
          · refine go_pick [0, 1, 2, 3] (lv' := [(0, .ref (E.1 0)), (1, .int a1), (2, .int a2), (3, .int s9.1)]) rfl ?_
            exact kJ11 
          · refine go_aload_n td_X12_number 45 rfl (q := 84) rfl 0 rfl ?_
            refine go_callV td_X12_number 46 rfl (q := 87) rfl (XkB E) lk_X12_224 (ok_fB_M_goes E s9.2) ⟨rfl, rfl, Nat.le_of_ble_eq_true rfl, Nat.le_of_ble_eq_true rfl⟩ rfl rfl (Nat.le_of_ble_eq_true rfl) (Bc_0 E s9.2) rfl (fun x16 => ?_)
            show Go (wCB E) _ _ s9.2 87 _ [.int x16] _
            refine go_if_eq 142 td_X12_number 47 rfl rfl (q := 90) rfl (fun _ => ?_) (fun _ => ?_)
            · refine go_pick [0, 1, 2, 3] (lv' := [(0, .ref (E.1 0)), (1, .int a1), (2, .int a2), (3, .int s9.1)]) rfl ?_
              exact kJ11 
            · refine go_aload_n td_X12_number 48 rfl (q := 91) rfl 0 rfl ?_
              refine go_get td_X12_number 49 rfl (q := 94) rfl fl_X12_126 (Bc_0 E s9.2) rfl ?_
              refine go_aload_n td_X12_number 50 rfl (q := 95) rfl 0 rfl ?_
              refine go_get td_X12_number 51 rfl (q := 98) rfl fl_X12_129 (Bc_0 E s9.2) rfl ?_
              refine go_isub td_X12_number 52 rfl (q := 99) rfl ?_
              refine go_iconst td_X12_number 53 rfl (q := 100) rfl kc_2 ?_
              refine go_ljX (α := G) (fun b17 => [(0, .ref (E.1 0)), (1, .int a1), (2, .int a2), (3, .int s9.1)]) (fun b17 => []) (fun b17 => b17) 112 ?_ ?_
              · intro b17
                refine go_bipush td_X12_number 60 rfl (q := 114) rfl kb_10 ?_
                refine go_iload_n td_X12_number 61 rfl (q := 115) rfl 3 rfl ?_
                refine go_imul td_X12_number 62 rfl (q := 116) rfl ?_
                refine go_aload_n td_X12_number 63 rfl (q := 117) rfl 0 rfl ?_
                refine go_aload_n td_X12_number 64 rfl (q := 118) rfl 0 rfl ?_
                refine go_get td_X12_number 65 rfl (q := 121) rfl fl_X12_126 (Bc_0 E b17) rfl ?_
                refine go_callV td_X12_number 66 rfl (q := 124) rfl (XkB E) lk_X12_221 (ok_fB_M_byteAt E (b17.1 38) b17) ⟨rfl, rfl, Nat.le_of_ble_eq_true rfl, Nat.le_of_ble_eq_true rfl⟩ rfl rfl (Nat.le_of_ble_eq_true rfl) (Bc_0 E b17) rfl (fun x18 => ?_)
                show Go (wCB E) _ _ b17 124 _ [.int x18, .int (10 * s9.1)] _
                refine go_iadd td_X12_number 67 rfl (q := 125) rfl ?_
                refine go_bipush td_X12_number 68 rfl (q := 127) rfl kb_48 ?_
                refine go_isub td_X12_number 69 rfl (q := 128) rfl ?_
                refine go_bvi (fun x19 => ?_)
                refine go_istore_n [(3, .int x19), (0, .ref (E.1 0)), (1, .int a1), (2, .int a2)] td_X12_number 70 rfl (q := 129) rfl (Nat.le_of_ble_eq_true rfl) rfl ?_
                refine go_aload_n td_X12_number 71 rfl (q := 130) rfl 1 rfl ?_
                refine go_dup td_X12_number 72 rfl (q := 131) rfl rfl ?_
                refine go_get td_X12_number 73 rfl (q := 134) rfl fl_X12_126 (Bc_0 E b17) rfl ?_
                refine go_iconst td_X12_number 74 rfl (q := 135) rfl kc_1 ?_
                refine go_iadd td_X12_number 75 rfl (q := 136) rfl ?_
                refine go_put td_X12_number 76 rfl (q := 139) rfl flp_X12_126 (Bc_0 E b17) rfl rfl (Nat.le_of_ble_eq_true rfl) (Bps_38 E b17 ((b17.1 38) + 1)) ?_
                refine go_bvg (fun g20 => ?_)
                refine go_goto td_X12_number 77 rfl (q := 72) rfl ?_
                refine go_pick [1, 2, 3, 0] (lv' := [(0, .ref (E.1 0)), (1, .int a1), (2, .int a2), (3, .int x19)]) rfl ?_
                exact krec9 x19 g20
              intro J17 hJ17
              have kJ17 : ∀ (u17_0 : G), Go (wCB E) _ _ u17_0 112 [(0, .ref (E.1 0)), (1, .int a1), (2, .int a2), (3, .int s9.1)] [] (J17 u17_0) := fun u17_0 => hJ17 u17_0
              refine go_icmp_ne 112 td_X12_number 54 rfl rfl (q := 103) rfl (fun _ => ?_) (fun _ => ?_)
              · refine go_pick [0, 1, 2, 3] (lv' := [(0, .ref (E.1 0)), (1, .int a1), (2, .int a2), (3, .int s9.1)]) rfl ?_
                exact kJ17 s9.2
              · refine go_aload_n td_X12_number 55 rfl (q := 104) rfl 0 rfl ?_
                refine go_iconst td_X12_number 56 rfl (q := 105) rfl kc_1 ?_
                refine go_aload_n td_X12_number 57 rfl (q := 106) rfl 0 rfl ?_
                refine go_get td_X12_number 58 rfl (q := 109) rfl fl_X12_126 (Bc_0 E s9.2) rfl ?_
                refine go_callV td_X12_number 59 rfl (q := 112) rfl (XkB E) lk_X12_238 (ok_fB_M_fails E 1 (s9.2.1 38) s9.2) ⟨rfl, rfl, Nat.le_of_ble_eq_true rfl, Nat.le_of_ble_eq_true rfl⟩ rfl rfl (Nat.le_of_ble_eq_true rfl) (Bc_0 E s9.2) rfl (fun x21 => ?_)
                show Go (wCB E) _ _ x21 112 _ [] _
                refine go_pick [0, 1, 2, 3] (lv' := [(0, .ref (E.1 0)), (1, .int a1), (2, .int a2), (3, .int s9.1)]) rfl ?_
                exact kJ17 x21
        · refine go_pick [0] (lv' := [(0, .ref (E.1 0))]) rfl ?_
          exact kJ5 
  · refine go_iconst td_X12_number 3 rfl (q := 8) rfl kc_0 ?_
    exact go_iret td_X12_number 4 rfl rfl rfl
def fB_M_told (a1 : Int32) (a2 : Int32) (a3 : Int32) (g : G) : Option (Int32 × G) := Option.bind (fB_M_must a1 g) fun x1 => Option.bind (fB_M_number a2 a3 x1) fun x2 => some (x2.1, x2.2)
set_option maxRecDepth 20000 in
set_option maxHeartbeats 4000000 in
theorem ok_fB_M_told (E : Ev) (a1 : Int32) (a2 : Int32) (a3 : Int32) (g : G)  : Ct (wCB E) yX12_told mi_X12_told [.ref (E.1 0), .int a1, .int a2, .int a3] (fun r => (some (.int r.1), r.2)) g (fB_M_told a1 a2 a3 g) := by
  refine go_enter rfl rfl (Nat.le_of_ble_eq_true rfl) (lv := [(0, .ref (E.1 0)), (1, .int a1), (2, .int a2), (3, .int a3)]) rfl ?_
  unfold fB_M_told
  refine go_aload_n td_X12_told 0 rfl (q := 1) rfl 0 rfl ?_
  refine go_iload_n td_X12_told 1 rfl (q := 2) rfl 1 rfl ?_
  refine go_callV td_X12_told 2 rfl (q := 5) rfl (XkB E) lk_X12_252 (ok_fB_M_must E a1 g) ⟨rfl, rfl, Nat.le_of_ble_eq_true rfl, Nat.le_of_ble_eq_true rfl⟩ rfl rfl (Nat.le_of_ble_eq_true rfl) (Bc_0 E g) rfl (fun x1 => ?_)
  show Go (wCB E) _ _ x1 5 _ [] _
  refine go_aload_n td_X12_told 3 rfl (q := 6) rfl 0 rfl ?_
  refine go_iload_n td_X12_told 4 rfl (q := 7) rfl 2 rfl ?_
  refine go_iload_n td_X12_told 5 rfl (q := 8) rfl 3 rfl ?_
  refine go_callV td_X12_told 6 rfl (q := 11) rfl (XkB E) lk_X12_255 (ok_fB_M_number E a2 a3 x1) ⟨rfl, rfl, Nat.le_of_ble_eq_true rfl, Nat.le_of_ble_eq_true rfl⟩ rfl rfl (Nat.le_of_ble_eq_true rfl) (Bc_0 E x1) rfl (fun x2 => ?_)
  show Go (wCB E) _ _ x2.2 11 _ [.int x2.1] _
  exact go_iret td_X12_told 7 rfl rfl rfl
def fB_M_endsWell (g : G) : Option (G) := Option.bind (fB_M_goes g) fun x1 => (if x1 = 0 then some g else Option.bind (fB_M_here g) fun x2 => (if x2.1 = 59 then bv (sS x2.2 38 ((x2.2.1 38) + 1)) fun g4 => some g4 else Option.bind (fB_M_fails 1 (x2.2.1 38) x2.2) fun x3 => some x3))
set_option maxRecDepth 20000 in
set_option maxHeartbeats 4000000 in
theorem ok_fB_M_endsWell (E : Ev)  (g : G)  : Ct (wCB E) yX12_endsWell mi_X12_endsWell [.ref (E.1 0)] (fun r => (none, r)) g (fB_M_endsWell g) := by
  refine go_enter rfl rfl (Nat.le_of_ble_eq_true rfl) (lv := [(0, .ref (E.1 0))]) rfl ?_
  unfold fB_M_endsWell
  refine go_aload_n td_X12_endsWell 0 rfl (q := 1) rfl 0 rfl ?_
  refine go_callV td_X12_endsWell 1 rfl (q := 4) rfl (XkB E) lk_X12_224 (ok_fB_M_goes E g) ⟨rfl, rfl, Nat.le_of_ble_eq_true rfl, Nat.le_of_ble_eq_true rfl⟩ rfl rfl (Nat.le_of_ble_eq_true rfl) (Bc_0 E g) rfl (fun x1 => ?_)
  show Go (wCB E) _ _ g 4 _ [.int x1] _
  refine go_if_ne 8 td_X12_endsWell 2 rfl rfl (q := 7) rfl (fun _ => ?_) (fun _ => ?_)
  · refine go_aload_n td_X12_endsWell 4 rfl (q := 9) rfl 0 rfl ?_
    refine go_callV td_X12_endsWell 5 rfl (q := 12) rfl (XkB E) lk_X12_228 (ok_fB_M_here E g) ⟨rfl, rfl, Nat.le_of_ble_eq_true rfl, Nat.le_of_ble_eq_true rfl⟩ rfl rfl (Nat.le_of_ble_eq_true rfl) (Bc_0 E g) rfl (fun x2 => ?_)
    show Go (wCB E) _ _ x2.2 12 _ [.int x2.1] _
    refine go_bipush td_X12_endsWell 6 rfl (q := 14) rfl kb_59 ?_
    refine go_icmp_ne 30 td_X12_endsWell 7 rfl rfl (q := 17) rfl (fun _ => ?_) (fun _ => ?_)
    · refine go_aload_n td_X12_endsWell 15 rfl (q := 31) rfl 0 rfl ?_
      refine go_iconst td_X12_endsWell 16 rfl (q := 32) rfl kc_1 ?_
      refine go_aload_n td_X12_endsWell 17 rfl (q := 33) rfl 0 rfl ?_
      refine go_get td_X12_endsWell 18 rfl (q := 36) rfl fl_X12_126 (Bc_0 E x2.2) rfl ?_
      refine go_callV td_X12_endsWell 19 rfl (q := 39) rfl (XkB E) lk_X12_238 (ok_fB_M_fails E 1 (x2.2.1 38) x2.2) ⟨rfl, rfl, Nat.le_of_ble_eq_true rfl, Nat.le_of_ble_eq_true rfl⟩ rfl rfl (Nat.le_of_ble_eq_true rfl) (Bc_0 E x2.2) rfl (fun x3 => ?_)
      show Go (wCB E) _ _ x3 39 _ [] _
      exact go_vret td_X12_endsWell 20 rfl rfl rfl
    · refine go_aload_n td_X12_endsWell 8 rfl (q := 18) rfl 0 rfl ?_
      refine go_dup td_X12_endsWell 9 rfl (q := 19) rfl rfl ?_
      refine go_get td_X12_endsWell 10 rfl (q := 22) rfl fl_X12_126 (Bc_0 E x2.2) rfl ?_
      refine go_iconst td_X12_endsWell 11 rfl (q := 23) rfl kc_1 ?_
      refine go_iadd td_X12_endsWell 12 rfl (q := 24) rfl ?_
      refine go_put td_X12_endsWell 13 rfl (q := 27) rfl flp_X12_126 (Bc_0 E x2.2) rfl rfl (Nat.le_of_ble_eq_true rfl) (Bps_38 E x2.2 ((x2.2.1 38) + 1)) ?_
      refine go_bvg (fun g4 => ?_)
      refine go_goto td_X12_endsWell 14 rfl (q := 39) rfl ?_
      exact go_vret td_X12_endsWell 20 rfl rfl rfl
  · exact go_vret td_X12_endsWell 3 rfl rfl rfl
def fB_M_common (a1 : Int32) (a2 : Int32) (g : G) : Option (Int32) := Lp (α := Int32 × Int32) (fun rec1 s1 => (if s1.2 = 0 then some s1.1 else dz s1.2 (bv (s1.1 - s1.1 / s1.2 * s1.2) fun x2 => rec1 (s1.2, x2)))) FU (a1, a2)
set_option maxRecDepth 20000 in
set_option maxHeartbeats 4000000 in
theorem ok_fB_M_common (E : Ev) (a1 : Int32) (a2 : Int32) (g : G)  : Ct (wCB E) yX12_common mi_X12_common [.int a1, .int a2] (fun r => (some (.int r), g)) g (fB_M_common a1 a2 g) := by
  refine go_enter rfl rfl (Nat.le_of_ble_eq_true rfl) (lv := [(0, .int a1), (1, .int a2)]) rfl ?_
  unfold fB_M_common
  refine go_iload_n td_X12_common 0 rfl (q := 1) rfl 0 rfl ?_
  refine go_istore_n [(2, .int a1), (0, .int a1), (1, .int a2)] td_X12_common 1 rfl (q := 2) rfl (Nat.le_of_ble_eq_true rfl) rfl ?_
  refine go_iload_n td_X12_common 2 rfl (q := 3) rfl 2 rfl ?_
  refine go_istore_n [(3, .int a2), (2, .int a1), (0, .int a1), (1, .int a2)] td_X12_common 3 rfl (q := 4) rfl (Nat.le_of_ble_eq_true rfl) rfl ?_
  refine go_pick [1, 0] (lv' := [(2, .int a1), (3, .int a2)]) rfl ?_
  refine (show ∀ (u1_0 : Int32) (u1_1 : Int32), Go (wCB E) _ _ g 4 [(2, .int u1_0), (3, .int u1_1)] [] (Lp (α := Int32 × Int32) _ FU (u1_0, u1_1)) from ?_) a1 a2
  intro u1_0 u1_1
  refine go_Lp (α := Int32 × Int32) (fun s1 => g) (fun s1 => [(2, .int s1.1), (3, .int s1.2)]) ?_ FU (u1_0, u1_1)
  intro rec1 hrec1 s1
  have krec1 : ∀ (u1_0 : Int32) (u1_1 : Int32), Go (wCB E) _ _ g 4 [(2, .int u1_0), (3, .int u1_1)] [] (rec1 (u1_0, u1_1)) := fun u1_0 u1_1 => hrec1 (u1_0, u1_1)
  refine go_iload_n td_X12_common 4 rfl (q := 5) rfl 1 rfl ?_
  refine go_if_eq 21 td_X12_common 5 rfl rfl (q := 8) rfl (fun _ => ?_) (fun _ => ?_)
  · refine go_iload_n td_X12_common 15 rfl (q := 22) rfl 0 rfl ?_
    exact go_iret td_X12_common 16 rfl rfl rfl
  · refine go_iload_n td_X12_common 6 rfl (q := 9) rfl 0 rfl ?_
    refine go_iload_n td_X12_common 7 rfl (q := 10) rfl 1 rfl ?_
    refine go_irem td_X12_common 8 rfl (q := 11) rfl ?_
    refine go_bvi (fun x2 => ?_)
    refine go_istore [(4, .int x2), (2, .int s1.1), (3, .int s1.2)] td_X12_common 9 rfl (q := 13) rfl (Nat.le_of_ble_eq_true rfl) rfl ?_
    refine go_iload_n td_X12_common 10 rfl (q := 14) rfl 2 rfl ?_
    refine go_istore_n [(2, .int s1.2), (4, .int x2), (3, .int s1.2)] td_X12_common 11 rfl (q := 15) rfl (Nat.le_of_ble_eq_true rfl) rfl ?_
    refine go_iload td_X12_common 12 rfl (q := 17) rfl 1 rfl ?_
    refine go_istore_n [(3, .int x2), (2, .int s1.2), (4, .int x2)] td_X12_common 13 rfl (q := 18) rfl (Nat.le_of_ble_eq_true rfl) rfl ?_
    refine go_goto td_X12_common 14 rfl (q := 4) rfl ?_
    refine go_pick [1, 0] (lv' := [(2, .int s1.2), (3, .int x2)]) rfl ?_
    exact krec1 s1.2 x2
def fB_M_readCycle (g : G) : Option (Int32) := bv (g.1 20) fun x1 => Lp (α := Int32 × Int32) (fun rec2 s2 => (if (g.1 21) ≤ s2.2 then some s2.1 else (if 240 < s2.1 then some s2.1 else ag 4 (g.2.1 11) s2.2 fun x3 => Option.bind (fB_M_common s2.1 x3 g) fun x4 => dz x4 (ag 4 (g.2.1 11) s2.2 fun x5 => bv ((s2.1 / x4) * x5) fun x6 => rec2 (x6, s2.2 + 1))))) FU (x1, 0)
set_option maxRecDepth 20000 in
set_option maxHeartbeats 4000000 in
theorem ok_fB_M_readCycle (E : Ev)  (g : G)  : Ct (wCB E) yX12_readCycle mi_X12_readCycle [.ref (E.1 0)] (fun r => (some (.int r), g)) g (fB_M_readCycle g) := by
  refine go_enter rfl rfl (Nat.le_of_ble_eq_true rfl) (lv := [(0, .ref (E.1 0))]) rfl ?_
  unfold fB_M_readCycle
  refine go_aload_n td_X12_readCycle 0 rfl (q := 1) rfl 0 rfl ?_
  refine go_get td_X12_readCycle 1 rfl (q := 4) rfl fl_X12_72 (Bc_0 E g) rfl ?_
  refine go_bvi (fun x1 => ?_)
  refine go_istore_n [(1, .int x1), (0, .ref (E.1 0))] td_X12_readCycle 2 rfl (q := 5) rfl (Nat.le_of_ble_eq_true rfl) rfl ?_
  refine go_iconst td_X12_readCycle 3 rfl (q := 6) rfl kc_0 ?_
  refine go_istore_n [(2, .int 0), (1, .int x1), (0, .ref (E.1 0))] td_X12_readCycle 4 rfl (q := 7) rfl (Nat.le_of_ble_eq_true rfl) rfl ?_
  refine go_pick [2, 1, 0] (lv' := [(0, .ref (E.1 0)), (1, .int x1), (2, .int 0)]) rfl ?_
  refine (show ∀ (u2_0 : Int32) (u2_1 : Int32), Go (wCB E) _ _ g 7 [(0, .ref (E.1 0)), (1, .int u2_0), (2, .int u2_1)] [] (Lp (α := Int32 × Int32) _ FU (u2_0, u2_1)) from ?_) x1 0
  intro u2_0 u2_1
  refine go_Lp (α := Int32 × Int32) (fun s2 => g) (fun s2 => [(0, .ref (E.1 0)), (1, .int s2.1), (2, .int s2.2)]) ?_ FU (u2_0, u2_1)
  intro rec2 hrec2 s2
  have krec2 : ∀ (u2_0 : Int32) (u2_1 : Int32), Go (wCB E) _ _ g 7 [(0, .ref (E.1 0)), (1, .int u2_0), (2, .int u2_1)] [] (rec2 (u2_0, u2_1)) := fun u2_0 u2_1 => hrec2 (u2_0, u2_1)
  refine go_iload_n td_X12_readCycle 5 rfl (q := 8) rfl 2 rfl ?_
  refine go_aload_n td_X12_readCycle 6 rfl (q := 9) rfl 0 rfl ?_
  refine go_get td_X12_readCycle 7 rfl (q := 12) rfl fl_X12_75 (Bc_0 E g) rfl ?_
  refine go_icmp_ge 48 td_X12_readCycle 8 rfl rfl (q := 15) rfl (fun _ => ?_) (fun _ => ?_)
  · refine go_iload_n td_X12_readCycle 28 rfl (q := 49) rfl 1 rfl ?_
    exact go_iret td_X12_readCycle 29 rfl rfl rfl
  · refine go_iload_n td_X12_readCycle 9 rfl (q := 16) rfl 1 rfl ?_
    refine go_sipush td_X12_readCycle 10 rfl (q := 19) rfl ks_240 ?_
    refine go_icmp_gt 48 td_X12_readCycle 11 rfl rfl (q := 22) rfl (fun _ => ?_) (fun _ => ?_)
    · refine go_iload_n td_X12_readCycle 28 rfl (q := 49) rfl 1 rfl ?_
      exact go_iret td_X12_readCycle 29 rfl rfl rfl
    · refine go_iload_n td_X12_readCycle 12 rfl (q := 23) rfl 1 rfl ?_
      refine go_iload_n td_X12_readCycle 13 rfl (q := 24) rfl 1 rfl ?_
      refine go_aload_n td_X12_readCycle 14 rfl (q := 25) rfl 0 rfl ?_
      refine go_get td_X12_readCycle 15 rfl (q := 28) rfl fl_X12_90 (Bc_0 E g) rfl ?_
      refine go_iload_n td_X12_readCycle 16 rfl (q := 29) rfl 2 rfl ?_
      refine go_ald td_X12_readCycle 17 rfl (q := 30) rfl (Bc_11 E g) (t0 := 0) rfl (fun x3 => ?_)
      refine go_callS td_X12_readCycle 18 rfl (q := 33) rfl (XkB E) lk_X12_275 (ok_fB_M_common E s2.1 x3 g) ⟨rfl, rfl, Nat.le_of_ble_eq_true rfl, Nat.le_of_ble_eq_true rfl⟩ rfl rfl (Nat.le_of_ble_eq_true rfl) (fun x4 => ?_)
      show Go (wCB E) _ _ g 33 _ [.int x4, .int s2.1] _
      refine go_idiv td_X12_readCycle 19 rfl (q := 34) rfl ?_
      refine go_aload_n td_X12_readCycle 20 rfl (q := 35) rfl 0 rfl ?_
      refine go_get td_X12_readCycle 21 rfl (q := 38) rfl fl_X12_90 (Bc_0 E g) rfl ?_
      refine go_iload_n td_X12_readCycle 22 rfl (q := 39) rfl 2 rfl ?_
      refine go_ald td_X12_readCycle 23 rfl (q := 40) rfl (Bc_11 E g) (t0 := 0) rfl (fun x5 => ?_)
      refine go_imul td_X12_readCycle 24 rfl (q := 41) rfl ?_
      refine go_bvi (fun x6 => ?_)
      refine go_istore_n [(1, .int x6), (0, .ref (E.1 0)), (2, .int s2.2)] td_X12_readCycle 25 rfl (q := 42) rfl (Nat.le_of_ble_eq_true rfl) rfl ?_
      refine go_iinc [(2, .int (s2.2 + 1)), (1, .int x6), (0, .ref (E.1 0))] td_X12_readCycle 26 rfl (q := 45) rfl 2 rfl kc_1 (Nat.le_of_ble_eq_true rfl) rfl ?_
      refine go_goto td_X12_readCycle 27 rfl (q := 7) rfl ?_
      refine go_pick [2, 1, 0] (lv' := [(0, .ref (E.1 0)), (1, .int x6), (2, .int (s2.2 + 1))]) rfl ?_
      exact krec2 x6 (s2.2 + 1)
def fB_M_name (g : G) : Option (G) := Option.bind (fB_M_word g) fun x1 => Option.bind (fB_M_goes x1) fun x2 => (if x2 = 0 then some x1 else Option.bind (fB_M_own x1) fun x3 => (if x3 = (-1) then (if ((x1.1 38) - (x1.1 39)) ≤ 6 then some x1 else Option.bind (fB_M_fails 1 ((x1.1 39) + 6) x1) fun x4 => some x4) else Option.bind (fB_M_fails 1 (x1.1 39) x1) fun x5 => some x5))
set_option maxRecDepth 20000 in
set_option maxHeartbeats 4000000 in
theorem ok_fB_M_name (E : Ev)  (g : G)  : Ct (wCB E) yX12_name mi_X12_name [.ref (E.1 0)] (fun r => (none, r)) g (fB_M_name g) := by
  refine go_enter rfl rfl (Nat.le_of_ble_eq_true rfl) (lv := [(0, .ref (E.1 0))]) rfl ?_
  unfold fB_M_name
  refine go_aload_n td_X12_name 0 rfl (q := 1) rfl 0 rfl ?_
  refine go_callV td_X12_name 1 rfl (q := 4) rfl (XkB E) lk_X12_242 (ok_fB_M_word E g) ⟨rfl, rfl, Nat.le_of_ble_eq_true rfl, Nat.le_of_ble_eq_true rfl⟩ rfl rfl (Nat.le_of_ble_eq_true rfl) (Bc_0 E g) rfl (fun x1 => ?_)
  show Go (wCB E) _ _ x1 4 _ [] _
  refine go_aload_n td_X12_name 2 rfl (q := 5) rfl 0 rfl ?_
  refine go_callV td_X12_name 3 rfl (q := 8) rfl (XkB E) lk_X12_224 (ok_fB_M_goes E x1) ⟨rfl, rfl, Nat.le_of_ble_eq_true rfl, Nat.le_of_ble_eq_true rfl⟩ rfl rfl (Nat.le_of_ble_eq_true rfl) (Bc_0 E x1) rfl (fun x2 => ?_)
  show Go (wCB E) _ _ x1 8 _ [.int x2] _
  refine go_if_ne 12 td_X12_name 4 rfl rfl (q := 11) rfl (fun _ => ?_) (fun _ => ?_)
  · refine go_aload_n td_X12_name 6 rfl (q := 13) rfl 0 rfl ?_
    refine go_callV td_X12_name 7 rfl (q := 16) rfl (XkB E) lk_X12_245 (ok_fB_M_own E x1) ⟨rfl, rfl, Nat.le_of_ble_eq_true rfl, Nat.le_of_ble_eq_true rfl⟩ rfl rfl (Nat.le_of_ble_eq_true rfl) (Bc_0 E x1) rfl (fun x3 => ?_)
    show Go (wCB E) _ _ x1 16 _ [.int x3] _
    refine go_iconst td_X12_name 8 rfl (q := 17) rfl kc_m1 ?_
    refine go_icmp_eq 32 td_X12_name 9 rfl rfl (q := 20) rfl (fun _ => ?_) (fun _ => ?_)
    · refine go_aload_n td_X12_name 16 rfl (q := 33) rfl 0 rfl ?_
      refine go_get td_X12_name 17 rfl (q := 36) rfl fl_X12_126 (Bc_0 E x1) rfl ?_
      refine go_aload_n td_X12_name 18 rfl (q := 37) rfl 0 rfl ?_
      refine go_get td_X12_name 19 rfl (q := 40) rfl fl_X12_129 (Bc_0 E x1) rfl ?_
      refine go_isub td_X12_name 20 rfl (q := 41) rfl ?_
      refine go_bipush td_X12_name 21 rfl (q := 43) rfl kb_6 ?_
      refine go_icmp_le 58 td_X12_name 22 rfl rfl (q := 46) rfl (fun _ => ?_) (fun _ => ?_)
      · exact go_vret td_X12_name 30 rfl rfl rfl
      · refine go_aload_n td_X12_name 23 rfl (q := 47) rfl 0 rfl ?_
        refine go_iconst td_X12_name 24 rfl (q := 48) rfl kc_1 ?_
        refine go_aload_n td_X12_name 25 rfl (q := 49) rfl 0 rfl ?_
        refine go_get td_X12_name 26 rfl (q := 52) rfl fl_X12_129 (Bc_0 E x1) rfl ?_
        refine go_bipush td_X12_name 27 rfl (q := 54) rfl kb_6 ?_
        refine go_iadd td_X12_name 28 rfl (q := 55) rfl ?_
        refine go_callV td_X12_name 29 rfl (q := 58) rfl (XkB E) lk_X12_238 (ok_fB_M_fails E 1 ((x1.1 39) + 6) x1) ⟨rfl, rfl, Nat.le_of_ble_eq_true rfl, Nat.le_of_ble_eq_true rfl⟩ rfl rfl (Nat.le_of_ble_eq_true rfl) (Bc_0 E x1) rfl (fun x4 => ?_)
        show Go (wCB E) _ _ x4 58 _ [] _
        exact go_vret td_X12_name 30 rfl rfl rfl
    · refine go_aload_n td_X12_name 10 rfl (q := 21) rfl 0 rfl ?_
      refine go_iconst td_X12_name 11 rfl (q := 22) rfl kc_1 ?_
      refine go_aload_n td_X12_name 12 rfl (q := 23) rfl 0 rfl ?_
      refine go_get td_X12_name 13 rfl (q := 26) rfl fl_X12_129 (Bc_0 E x1) rfl ?_
      refine go_callV td_X12_name 14 rfl (q := 29) rfl (XkB E) lk_X12_238 (ok_fB_M_fails E 1 (x1.1 39) x1) ⟨rfl, rfl, Nat.le_of_ble_eq_true rfl, Nat.le_of_ble_eq_true rfl⟩ rfl rfl (Nat.le_of_ble_eq_true rfl) (Bc_0 E x1) rfl (fun x5 => ?_)
      show Go (wCB E) _ _ x5 29 _ [] _
      refine go_goto td_X12_name 15 rfl (q := 58) rfl ?_
      exact go_vret td_X12_name 30 rfl rfl rfl
  · exact go_vret td_X12_name 5 rfl rfl rfl
def fB_M_isName (a1 : Int32) (g : G) : Option (Int32) := Lp (α := Int32) (fun rec1 s1 => (if 6 ≤ s1 then some 1 else lj (α := Int32) (fun b2 => ag 108 (g.2.1 16) ((6 * a1) + s1) fun x3 => (if x3 = b2 then rec1 (s1 + 1) else some 0)) fun J2 => (if (g.1 38) ≤ ((g.1 39) + s1) then J2 0 else ag 1600 (g.2.1 17) ((g.1 39) + s1) fun x4 => J2 (x4 - 96)))) FU 0
set_option maxRecDepth 20000 in
set_option maxHeartbeats 4000000 in
theorem ok_fB_M_isName (E : Ev) (a1 : Int32) (g : G)  : Ct (wCB E) yX12_isName mi_X12_isName [.ref (E.1 0), .int a1] (fun r => (some (.int r), g)) g (fB_M_isName a1 g) := by
  refine go_enter rfl rfl (Nat.le_of_ble_eq_true rfl) (lv := [(0, .ref (E.1 0)), (1, .int a1)]) rfl ?_
  unfold fB_M_isName
  refine go_iconst td_X12_isName 0 rfl (q := 1) rfl kc_0 ?_
  refine go_istore_n [(2, .int 0), (0, .ref (E.1 0)), (1, .int a1)] td_X12_isName 1 rfl (q := 2) rfl (Nat.le_of_ble_eq_true rfl) rfl ?_
  refine go_pick [1, 2, 0] (lv' := [(0, .ref (E.1 0)), (1, .int a1), (2, .int 0)]) rfl ?_
  refine (show ∀ (u1_0 : Int32), Go (wCB E) _ _ g 2 [(0, .ref (E.1 0)), (1, .int a1), (2, .int u1_0)] [] (Lp (α := Int32) _ FU u1_0) from ?_) 0
  intro u1_0
  refine go_Lp (α := Int32) (fun s1 => g) (fun s1 => [(0, .ref (E.1 0)), (1, .int a1), (2, .int s1)]) ?_ FU u1_0
  intro rec1 hrec1 s1
  have krec1 : ∀ (u1_0 : Int32), Go (wCB E) _ _ g 2 [(0, .ref (E.1 0)), (1, .int a1), (2, .int u1_0)] [] (rec1 u1_0) := fun u1_0 => hrec1 u1_0
  refine go_iload_n td_X12_isName 2 rfl (q := 3) rfl 2 rfl ?_
  refine go_bipush td_X12_isName 3 rfl (q := 5) rfl kb_6 ?_
  refine go_icmp_ge 63 td_X12_isName 4 rfl rfl (q := 8) rfl (fun _ => ?_) (fun _ => ?_)
  · refine go_iconst td_X12_isName 38 rfl (q := 64) rfl kc_1 ?_
    exact go_zret td_X12_isName 39 rfl rfl rfl rfl
  · refine go_aload_n td_X12_isName 5 rfl (q := 9) rfl 0 rfl ?_
    refine go_get td_X12_isName 6 rfl (q := 12) rfl fl_X12_129 (Bc_0 E g) rfl ?_
    refine go_iload_n td_X12_isName 7 rfl (q := 13) rfl 2 rfl ?_
    refine go_iadd td_X12_isName 8 rfl (q := 14) rfl ?_
    refine go_aload_n td_X12_isName 9 rfl (q := 15) rfl 0 rfl ?_
    refine go_get td_X12_isName 10 rfl (q := 18) rfl fl_X12_126 (Bc_0 E g) rfl ?_
    refine go_ljX (α := Int32) (fun b2 => [(0, .ref (E.1 0)), (1, .int a1), (2, .int s1)]) (fun b2 => [.int b2]) (fun b2 => g) 39 ?_ ?_
    · intro b2
      refine go_istore_n [(3, .int b2), (0, .ref (E.1 0)), (1, .int a1), (2, .int s1)] td_X12_isName 23 rfl (q := 40) rfl (Nat.le_of_ble_eq_true rfl) rfl ?_
      refine go_aload_n td_X12_isName 24 rfl (q := 41) rfl 1 rfl ?_
      refine go_get td_X12_isName 25 rfl (q := 44) rfl fl_X12_105 (Bc_0 E g) rfl ?_
      refine go_bipush td_X12_isName 26 rfl (q := 46) rfl kb_6 ?_
      refine go_iload_n td_X12_isName 27 rfl (q := 47) rfl 2 rfl ?_
      refine go_imul td_X12_isName 28 rfl (q := 48) rfl ?_
      refine go_iload_n td_X12_isName 29 rfl (q := 49) rfl 3 rfl ?_
      refine go_iadd td_X12_isName 30 rfl (q := 50) rfl ?_
      refine go_ald td_X12_isName 31 rfl (q := 51) rfl (Bc_16 E g) (t0 := 0) rfl (fun x3 => ?_)
      refine go_iload_n td_X12_isName 32 rfl (q := 52) rfl 0 rfl ?_
      refine go_icmp_eq 57 td_X12_isName 33 rfl rfl (q := 55) rfl (fun _ => ?_) (fun _ => ?_)
      · refine go_iinc [(2, .int (s1 + 1)), (3, .int b2), (0, .ref (E.1 0)), (1, .int a1)] td_X12_isName 36 rfl (q := 60) rfl 3 rfl kc_1 (Nat.le_of_ble_eq_true rfl) rfl ?_
        refine go_goto td_X12_isName 37 rfl (q := 2) rfl ?_
        refine go_pick [2, 3, 0] (lv' := [(0, .ref (E.1 0)), (1, .int a1), (2, .int (s1 + 1))]) rfl ?_
        exact krec1 (s1 + 1)
      · refine go_iconst td_X12_isName 34 rfl (q := 56) rfl kc_0 ?_
        exact go_zret td_X12_isName 35 rfl rfl rfl rfl
    intro J2 hJ2
    have kJ2 : ∀ (u2_0 : Int32), Go (wCB E) _ _ g 39 [(0, .ref (E.1 0)), (1, .int a1), (2, .int s1)] [.int u2_0] (J2 u2_0) := fun u2_0 => hJ2 u2_0
    refine go_icmp_ge 38 td_X12_isName 11 rfl rfl (q := 21) rfl (fun _ => ?_) (fun _ => ?_)
    · refine go_iconst td_X12_isName 22 rfl (q := 39) rfl kc_0 ?_
      refine go_pick [0, 1, 2] (lv' := [(0, .ref (E.1 0)), (1, .int a1), (2, .int s1)]) rfl ?_
      exact kJ2 0
    · refine go_aload_n td_X12_isName 12 rfl (q := 22) rfl 0 rfl ?_
      refine go_get td_X12_isName 13 rfl (q := 25) rfl fl_X12_108 (Bc_0 E g) rfl ?_
      refine go_aload_n td_X12_isName 14 rfl (q := 26) rfl 0 rfl ?_
      refine go_get td_X12_isName 15 rfl (q := 29) rfl fl_X12_129 (Bc_0 E g) rfl ?_
      refine go_iload_n td_X12_isName 16 rfl (q := 30) rfl 2 rfl ?_
      refine go_iadd td_X12_isName 17 rfl (q := 31) rfl ?_
      refine go_ald td_X12_isName 18 rfl (q := 32) rfl (Bc_17 E g) (t0 := 0) rfl (fun x4 => ?_)
      refine go_bipush td_X12_isName 19 rfl (q := 34) rfl kb_96 ?_
      refine go_isub td_X12_isName 20 rfl (q := 35) rfl ?_
      refine go_goto td_X12_isName 21 rfl (q := 39) rfl ?_
      refine go_pick [0, 1, 2] (lv' := [(0, .ref (E.1 0)), (1, .int a1), (2, .int s1)]) rfl ?_
      exact kJ2 (x4 - 96)
def fB_M_nameIn (a1 : Int32) (a2 : Int32) (g : G) : Option (Int32) := Lp (α := Int32) (fun rec1 s1 => (if (a1 + a2) ≤ s1 then some (-1) else Option.bind (fB_M_isName s1 g) fun x2 => (if x2 = 0 then rec1 (s1 + 1) else some (s1 - a1)))) FU a1
set_option maxRecDepth 20000 in
set_option maxHeartbeats 4000000 in
theorem ok_fB_M_nameIn (E : Ev) (a1 : Int32) (a2 : Int32) (g : G)  : Ct (wCB E) yX12_nameIn mi_X12_nameIn [.ref (E.1 0), .int a1, .int a2] (fun r => (some (.int r), g)) g (fB_M_nameIn a1 a2 g) := by
  refine go_enter rfl rfl (Nat.le_of_ble_eq_true rfl) (lv := [(0, .ref (E.1 0)), (1, .int a1), (2, .int a2)]) rfl ?_
  unfold fB_M_nameIn
  refine go_iload_n td_X12_nameIn 0 rfl (q := 1) rfl 1 rfl ?_
  refine go_istore_n [(3, .int a1), (0, .ref (E.1 0)), (1, .int a1), (2, .int a2)] td_X12_nameIn 1 rfl (q := 2) rfl (Nat.le_of_ble_eq_true rfl) rfl ?_
  refine go_pick [1, 2, 3, 0] (lv' := [(0, .ref (E.1 0)), (1, .int a1), (2, .int a2), (3, .int a1)]) rfl ?_
  refine (show ∀ (u1_0 : Int32), Go (wCB E) _ _ g 2 [(0, .ref (E.1 0)), (1, .int a1), (2, .int a2), (3, .int u1_0)] [] (Lp (α := Int32) _ FU u1_0) from ?_) a1
  intro u1_0
  refine go_Lp (α := Int32) (fun s1 => g) (fun s1 => [(0, .ref (E.1 0)), (1, .int a1), (2, .int a2), (3, .int s1)]) ?_ FU u1_0
  intro rec1 hrec1 s1
  have krec1 : ∀ (u1_0 : Int32), Go (wCB E) _ _ g 2 [(0, .ref (E.1 0)), (1, .int a1), (2, .int a2), (3, .int u1_0)] [] (rec1 u1_0) := fun u1_0 => hrec1 u1_0
  refine go_iload_n td_X12_nameIn 2 rfl (q := 3) rfl 3 rfl ?_
  refine go_iload_n td_X12_nameIn 3 rfl (q := 4) rfl 1 rfl ?_
  refine go_iload_n td_X12_nameIn 4 rfl (q := 5) rfl 2 rfl ?_
  refine go_iadd td_X12_nameIn 5 rfl (q := 6) rfl ?_
  refine go_icmp_ge 27 td_X12_nameIn 6 rfl rfl (q := 9) rfl (fun _ => ?_) (fun _ => ?_)
  · refine go_iconst td_X12_nameIn 17 rfl (q := 28) rfl kc_m1 ?_
    exact go_iret td_X12_nameIn 18 rfl rfl rfl
  · refine go_aload_n td_X12_nameIn 7 rfl (q := 10) rfl 0 rfl ?_
    refine go_iload_n td_X12_nameIn 8 rfl (q := 11) rfl 3 rfl ?_
    refine go_callV td_X12_nameIn 9 rfl (q := 14) rfl (XkB E) lk_X12_259 (ok_fB_M_isName E s1 g) ⟨rfl, rfl, Nat.le_of_ble_eq_true rfl, Nat.le_of_ble_eq_true rfl⟩ rfl rfl (Nat.le_of_ble_eq_true rfl) (Bc_0 E g) rfl (fun x2 => ?_)
    show Go (wCB E) _ _ g 14 _ [.int x2] _
    refine go_if_eq 21 td_X12_nameIn 10 rfl rfl (q := 17) rfl (fun _ => ?_) (fun _ => ?_)
    · refine go_iinc [(3, .int (s1 + 1)), (0, .ref (E.1 0)), (1, .int a1), (2, .int a2)] td_X12_nameIn 15 rfl (q := 24) rfl 3 rfl kc_1 (Nat.le_of_ble_eq_true rfl) rfl ?_
      refine go_goto td_X12_nameIn 16 rfl (q := 2) rfl ?_
      refine go_pick [1, 2, 3, 0] (lv' := [(0, .ref (E.1 0)), (1, .int a1), (2, .int a2), (3, .int (s1 + 1))]) rfl ?_
      exact krec1 (s1 + 1)
    · refine go_iload_n td_X12_nameIn 11 rfl (q := 18) rfl 3 rfl ?_
      refine go_iload_n td_X12_nameIn 12 rfl (q := 19) rfl 1 rfl ?_
      refine go_isub td_X12_nameIn 13 rfl (q := 20) rfl ?_
      exact go_iret td_X12_nameIn 14 rfl rfl rfl
def fB_M_freshName (a1 : Int32) (g : G) : Option (G) := Option.bind (fB_M_name g) fun x1 => Option.bind (fB_M_goes x1) fun x2 => (if x2 = 0 then some x1 else Option.bind (fB_M_nameIn 0 (x1.1 21) x1) fun x3 => lj (α := Int32) (fun b4 => (if b4 = 0 then Lp (α := Int32 × G) (fun rec5 s5 => (if 6 ≤ s5.1 then some s5.2 else lj (α := Int32) (fun b6 => ck 108 ((6 * a1) + s5.1) (bv (sA s5.2 16 ((6 * a1) + s5.1 : Int32).toNatClampNeg b6) fun g7 => rec5 (s5.1 + 1, g7))) fun J6 => (if (s5.2.1 38) ≤ ((s5.2.1 39) + s5.1) then J6 0 else ag 1600 (s5.2.2.1 17) ((s5.2.1 39) + s5.1) fun x8 => J6 (x8 - 96)))) FU (0, x1) else Option.bind (fB_M_fails 3 (x1.1 39) x1) fun x9 => some x9)) fun J4 => lj (α := Unit) (fun b10 => J4 1) fun J10 => (if x3 = (-1) then Option.bind (fB_M_nameIn 4 (x1.1 22) x1) fun x11 => (if x11 = (-1) then Option.bind (fB_M_nameIn 12 (x1.1 23) x1) fun x12 => (if x12 = (-1) then J4 0 else J10 ()) else J10 ()) else J10 ()))
set_option maxRecDepth 20000 in
set_option maxHeartbeats 4000000 in
theorem ok_fB_M_freshName (E : Ev) (a1 : Int32) (g : G)  : Ct (wCB E) yX12_freshName mi_X12_freshName [.ref (E.1 0), .int a1] (fun r => (none, r)) g (fB_M_freshName a1 g) := by
  refine go_enter rfl rfl (Nat.le_of_ble_eq_true rfl) (lv := [(0, .ref (E.1 0)), (1, .int a1)]) rfl ?_
  unfold fB_M_freshName
  refine go_aload_n td_X12_freshName 0 rfl (q := 1) rfl 0 rfl ?_
  refine go_callV td_X12_freshName 1 rfl (q := 4) rfl (XkB E) lk_X12_262 (ok_fB_M_name E g) ⟨rfl, rfl, Nat.le_of_ble_eq_true rfl, Nat.le_of_ble_eq_true rfl⟩ rfl rfl (Nat.le_of_ble_eq_true rfl) (Bc_0 E g) rfl (fun x1 => ?_)
  show Go (wCB E) _ _ x1 4 _ [] _
  refine go_aload_n td_X12_freshName 2 rfl (q := 5) rfl 0 rfl ?_
  refine go_callV td_X12_freshName 3 rfl (q := 8) rfl (XkB E) lk_X12_224 (ok_fB_M_goes E x1) ⟨rfl, rfl, Nat.le_of_ble_eq_true rfl, Nat.le_of_ble_eq_true rfl⟩ rfl rfl (Nat.le_of_ble_eq_true rfl) (Bc_0 E x1) rfl (fun x2 => ?_)
  show Go (wCB E) _ _ x1 8 _ [.int x2] _
  refine go_if_ne 12 td_X12_freshName 4 rfl rfl (q := 11) rfl (fun _ => ?_) (fun _ => ?_)
  · refine go_aload_n td_X12_freshName 6 rfl (q := 13) rfl 0 rfl ?_
    refine go_iconst td_X12_freshName 7 rfl (q := 14) rfl kc_0 ?_
    refine go_aload_n td_X12_freshName 8 rfl (q := 15) rfl 0 rfl ?_
    refine go_get td_X12_freshName 9 rfl (q := 18) rfl fl_X12_75 (Bc_0 E x1) rfl ?_
    refine go_callV td_X12_freshName 10 rfl (q := 21) rfl (XkB E) lk_X12_265 (ok_fB_M_nameIn E 0 (x1.1 21) x1) ⟨rfl, rfl, Nat.le_of_ble_eq_true rfl, Nat.le_of_ble_eq_true rfl⟩ rfl rfl (Nat.le_of_ble_eq_true rfl) (Bc_0 E x1) rfl (fun x3 => ?_)
    show Go (wCB E) _ _ x1 21 _ [.int x3] _
    refine go_iconst td_X12_freshName 11 rfl (q := 22) rfl kc_m1 ?_
    refine go_ljX (α := Int32) (fun b4 => [(0, .ref (E.1 0)), (1, .int a1)]) (fun b4 => [.int b4]) (fun b4 => x1) 57 ?_ ?_
    · intro b4
      refine go_istore_n [(2, .int b4), (0, .ref (E.1 0)), (1, .int a1)] td_X12_freshName 30 rfl (q := 58) rfl (Nat.le_of_ble_eq_true rfl) rfl ?_
      refine go_iload_n td_X12_freshName 31 rfl (q := 59) rfl 0 rfl ?_
      refine go_if_eq 72 td_X12_freshName 32 rfl rfl (q := 62) rfl (fun _ => ?_) (fun _ => ?_)
      · refine go_iconst td_X12_freshName 39 rfl (q := 73) rfl kc_0 ?_
        refine go_istore_n [(3, .int 0), (2, .int b4), (0, .ref (E.1 0)), (1, .int a1)] td_X12_freshName 40 rfl (q := 74) rfl (Nat.le_of_ble_eq_true rfl) rfl ?_
        refine go_pick [2, 3, 0] (lv' := [(0, .ref (E.1 0)), (1, .int a1), (3, .int 0)]) rfl ?_
        refine (show ∀ (u5_0 : Int32) (u5_1 : G), Go (wCB E) _ _ u5_1 74 [(0, .ref (E.1 0)), (1, .int a1), (3, .int u5_0)] [] (Lp (α := Int32 × G) _ FU (u5_0, u5_1)) from ?_) 0 x1
        intro u5_0 u5_1
        refine go_Lp (α := Int32 × G) (fun s5 => s5.2) (fun s5 => [(0, .ref (E.1 0)), (1, .int a1), (3, .int s5.1)]) ?_ FU (u5_0, u5_1)
        intro rec5 hrec5 s5
        have krec5 : ∀ (u5_0 : Int32) (u5_1 : G), Go (wCB E) _ _ u5_1 74 [(0, .ref (E.1 0)), (1, .int a1), (3, .int u5_0)] [] (rec5 (u5_0, u5_1)) := fun u5_0 u5_1 => hrec5 (u5_0, u5_1)
        refine go_iload_n td_X12_freshName 41 rfl (q := 75) rfl 2 rfl ?_
        refine go_bipush td_X12_freshName 42 rfl (q := 77) rfl kb_6 ?_
        refine go_icmp_ge 128 td_X12_freshName 43 rfl rfl (q := 80) rfl (fun _ => ?_) (fun _ => ?_)
        · exact go_vret td_X12_freshName 72 rfl rfl rfl
        · refine go_aload_n td_X12_freshName 44 rfl (q := 81) rfl 0 rfl ?_
          refine go_get td_X12_freshName 45 rfl (q := 84) rfl fl_X12_105 (Bc_0 E s5.2) rfl ?_
          refine go_bipush td_X12_freshName 46 rfl (q := 86) rfl kb_6 ?_
          refine go_iload_n td_X12_freshName 47 rfl (q := 87) rfl 1 rfl ?_
          refine go_imul td_X12_freshName 48 rfl (q := 88) rfl ?_
          refine go_iload_n td_X12_freshName 49 rfl (q := 89) rfl 2 rfl ?_
          refine go_iadd td_X12_freshName 50 rfl (q := 90) rfl ?_
          refine go_aload_n td_X12_freshName 51 rfl (q := 91) rfl 0 rfl ?_
          refine go_get td_X12_freshName 52 rfl (q := 94) rfl fl_X12_129 (Bc_0 E s5.2) rfl ?_
          refine go_iload_n td_X12_freshName 53 rfl (q := 95) rfl 2 rfl ?_
          refine go_iadd td_X12_freshName 54 rfl (q := 96) rfl ?_
          refine go_aload_n td_X12_freshName 55 rfl (q := 97) rfl 0 rfl ?_
          refine go_get td_X12_freshName 56 rfl (q := 100) rfl fl_X12_126 (Bc_0 E s5.2) rfl ?_
          refine go_ljX (α := Int32) (fun b6 => [(0, .ref (E.1 0)), (1, .int a1), (3, .int s5.1)]) (fun b6 => [.int b6, .int ((6 * a1) + s5.1), .ref (E.1 16)]) (fun b6 => s5.2) 121 ?_ ?_
          · intro b6
            refine go_ast td_X12_freshName 69 rfl (q := 122) rfl (Bc_16 E s5.2) (t0 := 0) rfl (Bas_16 E s5.2 _) ?_
            refine go_bvg (fun g7 => ?_)
            refine go_iinc [(3, .int (s5.1 + 1)), (0, .ref (E.1 0)), (1, .int a1)] td_X12_freshName 70 rfl (q := 125) rfl 2 rfl kc_1 (Nat.le_of_ble_eq_true rfl) rfl ?_
            refine go_goto td_X12_freshName 71 rfl (q := 74) rfl ?_
            refine go_pick [1, 2, 0] (lv' := [(0, .ref (E.1 0)), (1, .int a1), (3, .int (s5.1 + 1))]) rfl ?_
            exact krec5 (s5.1 + 1) g7
          intro J6 hJ6
          have kJ6 : ∀ (u6_0 : Int32), Go (wCB E) _ _ s5.2 121 [(0, .ref (E.1 0)), (1, .int a1), (3, .int s5.1)] [.int u6_0, .int ((6 * a1) + s5.1), .ref (E.1 16)] (J6 u6_0) := fun u6_0 => hJ6 u6_0
          refine go_icmp_ge 120 td_X12_freshName 57 rfl rfl (q := 103) rfl (fun _ => ?_) (fun _ => ?_)
          · refine go_iconst td_X12_freshName 68 rfl (q := 121) rfl kc_0 ?_
            refine go_pick [0, 1, 2] (lv' := [(0, .ref (E.1 0)), (1, .int a1), (3, .int s5.1)]) rfl ?_
            exact kJ6 0
          · refine go_aload_n td_X12_freshName 58 rfl (q := 104) rfl 0 rfl ?_
            refine go_get td_X12_freshName 59 rfl (q := 107) rfl fl_X12_108 (Bc_0 E s5.2) rfl ?_
            refine go_aload_n td_X12_freshName 60 rfl (q := 108) rfl 0 rfl ?_
            refine go_get td_X12_freshName 61 rfl (q := 111) rfl fl_X12_129 (Bc_0 E s5.2) rfl ?_
            refine go_iload_n td_X12_freshName 62 rfl (q := 112) rfl 2 rfl ?_
            refine go_iadd td_X12_freshName 63 rfl (q := 113) rfl ?_
            refine go_ald td_X12_freshName 64 rfl (q := 114) rfl (Bc_17 E s5.2) (t0 := 0) rfl (fun x8 => ?_)
            refine go_bipush td_X12_freshName 65 rfl (q := 116) rfl kb_96 ?_
            refine go_isub td_X12_freshName 66 rfl (q := 117) rfl ?_
            refine go_goto td_X12_freshName 67 rfl (q := 121) rfl ?_
            refine go_pick [0, 1, 2] (lv' := [(0, .ref (E.1 0)), (1, .int a1), (3, .int s5.1)]) rfl ?_
            exact kJ6 (x8 - 96)
      · refine go_aload_n td_X12_freshName 33 rfl (q := 63) rfl 1 rfl ?_
        refine go_iconst td_X12_freshName 34 rfl (q := 64) rfl kc_3 ?_
        refine go_aload_n td_X12_freshName 35 rfl (q := 65) rfl 1 rfl ?_
        refine go_get td_X12_freshName 36 rfl (q := 68) rfl fl_X12_129 (Bc_0 E x1) rfl ?_
        refine go_callV td_X12_freshName 37 rfl (q := 71) rfl (XkB E) lk_X12_238 (ok_fB_M_fails E 3 (x1.1 39) x1) ⟨rfl, rfl, Nat.le_of_ble_eq_true rfl, Nat.le_of_ble_eq_true rfl⟩ rfl rfl (Nat.le_of_ble_eq_true rfl) (Bc_0 E x1) rfl (fun x9 => ?_)
        show Go (wCB E) _ _ x9 71 _ [] _
        exact go_vret td_X12_freshName 38 rfl rfl rfl
    intro J4 hJ4
    have kJ4 : ∀ (u4_0 : Int32), Go (wCB E) _ _ x1 57 [(0, .ref (E.1 0)), (1, .int a1)] [.int u4_0] (J4 u4_0) := fun u4_0 => hJ4 u4_0
    refine go_ljX (α := Unit) (fun b10 => [(0, .ref (E.1 0)), (1, .int a1)]) (fun b10 => []) (fun b10 => x1) 52 ?_ ?_
    · intro b10
      refine go_iconst td_X12_freshName 27 rfl (q := 53) rfl kc_1 ?_
      refine go_goto td_X12_freshName 28 rfl (q := 57) rfl ?_
      refine go_pick [0, 1] (lv' := [(0, .ref (E.1 0)), (1, .int a1)]) rfl ?_
      exact kJ4 1
    intro J10 hJ10
    have kJ10 : Go (wCB E) _ _ x1 52 [(0, .ref (E.1 0)), (1, .int a1)] [] (J10 ()) := hJ10 ()
    refine go_icmp_ne 52 td_X12_freshName 12 rfl rfl (q := 25) rfl (fun _ => ?_) (fun _ => ?_)
    · refine go_pick [0, 1] (lv' := [(0, .ref (E.1 0)), (1, .int a1)]) rfl ?_
      exact kJ10 
    · refine go_aload_n td_X12_freshName 13 rfl (q := 26) rfl 0 rfl ?_
      refine go_iconst td_X12_freshName 14 rfl (q := 27) rfl kc_4 ?_
      refine go_aload_n td_X12_freshName 15 rfl (q := 28) rfl 0 rfl ?_
      refine go_get td_X12_freshName 16 rfl (q := 31) rfl fl_X12_78 (Bc_0 E x1) rfl ?_
      refine go_callV td_X12_freshName 17 rfl (q := 34) rfl (XkB E) lk_X12_265 (ok_fB_M_nameIn E 4 (x1.1 22) x1) ⟨rfl, rfl, Nat.le_of_ble_eq_true rfl, Nat.le_of_ble_eq_true rfl⟩ rfl rfl (Nat.le_of_ble_eq_true rfl) (Bc_0 E x1) rfl (fun x11 => ?_)
      show Go (wCB E) _ _ x1 34 _ [.int x11] _
      refine go_iconst td_X12_freshName 18 rfl (q := 35) rfl kc_m1 ?_
      refine go_icmp_ne 52 td_X12_freshName 19 rfl rfl (q := 38) rfl (fun _ => ?_) (fun _ => ?_)
      · refine go_pick [0, 1] (lv' := [(0, .ref (E.1 0)), (1, .int a1)]) rfl ?_
        exact kJ10 
      · refine go_aload_n td_X12_freshName 20 rfl (q := 39) rfl 0 rfl ?_
        refine go_bipush td_X12_freshName 21 rfl (q := 41) rfl kb_12 ?_
        refine go_aload_n td_X12_freshName 22 rfl (q := 42) rfl 0 rfl ?_
        refine go_get td_X12_freshName 23 rfl (q := 45) rfl fl_X12_81 (Bc_0 E x1) rfl ?_
        refine go_callV td_X12_freshName 24 rfl (q := 48) rfl (XkB E) lk_X12_265 (ok_fB_M_nameIn E 12 (x1.1 23) x1) ⟨rfl, rfl, Nat.le_of_ble_eq_true rfl, Nat.le_of_ble_eq_true rfl⟩ rfl rfl (Nat.le_of_ble_eq_true rfl) (Bc_0 E x1) rfl (fun x12 => ?_)
        show Go (wCB E) _ _ x1 48 _ [.int x12] _
        refine go_iconst td_X12_freshName 25 rfl (q := 49) rfl kc_m1 ?_
        refine go_icmp_eq 56 td_X12_freshName 26 rfl rfl (q := 52) rfl (fun _ => ?_) (fun _ => ?_)
        · refine go_iconst td_X12_freshName 29 rfl (q := 57) rfl kc_0 ?_
          refine go_pick [0, 1] (lv' := [(0, .ref (E.1 0)), (1, .int a1)]) rfl ?_
          exact kJ4 0
        · refine go_pick [0, 1] (lv' := [(0, .ref (E.1 0)), (1, .int a1)]) rfl ?_
          exact kJ10 
  · exact go_vret td_X12_freshName 5 rfl rfl rfl
def fB_M_readsSite (g : G) : Option (G) := lj (α := G) (fun b1 => Option.bind (fB_M_goes b1) fun x2 => (if x2 = 0 then some b1 else Option.bind (fB_M_freshName (12 + (b1.1 23)) b1) fun x3 => bv (4 * (x3.1 23)) fun x4 => Option.bind (fB_M_told 12 0 ((x3.1 18) - 1) x3) fun x5 => ck 24 x4 (bv (sA x5.2 15 (x4 : Int32).toNatClampNeg x5.1) fun g6 => Option.bind (fB_M_number 0 ((g6.1 19) - 1) g6) fun x7 => ck 24 (x4 + 1) (bv (sA x7.2 15 (x4 + 1 : Int32).toNatClampNeg x7.1) fun g8 => Option.bind (fB_M_told 13 0 ((g8.1 20) - 1) g8) fun x9 => ck 24 (x4 + 2) (bv (sA x9.2 15 (x4 + 2 : Int32).toNatClampNeg x9.1) fun g10 => ag 24 (g10.2.1 15) (x4 + 2) fun x11 => Option.bind (fB_M_told 14 (x11 + 1) (g10.1 20) g10) fun x12 => ck 24 (x4 + 3) (bv (sA x12.2 15 (x4 + 3 : Int32).toNatClampNeg x12.1) fun g13 => bv (sS g13 23 ((g13.1 23) + 1)) fun g14 => some g14)))))) fun J1 => (if (g.1 23) = 6 then Option.bind (fB_M_fails 5 (g.1 39) g) fun x15 => J1 x15 else J1 g)
set_option maxRecDepth 20000 in
set_option maxHeartbeats 4000000 in
theorem ok_fB_M_readsSite (E : Ev)  (g : G)  : Ct (wCB E) yX12_readsSite mi_X12_readsSite [.ref (E.1 0)] (fun r => (none, r)) g (fB_M_readsSite g) := by
  refine go_enter rfl rfl (Nat.le_of_ble_eq_true rfl) (lv := [(0, .ref (E.1 0))]) rfl ?_
  unfold fB_M_readsSite
  refine go_aload_n td_X12_readsSite 0 rfl (q := 1) rfl 0 rfl ?_
  refine go_get td_X12_readsSite 1 rfl (q := 4) rfl fl_X12_81 (Bc_0 E g) rfl ?_
  refine go_bipush td_X12_readsSite 2 rfl (q := 6) rfl kb_6 ?_
  refine go_ljX (α := G) (fun b1 => [(0, .ref (E.1 0))]) (fun b1 => []) (fun b1 => b1) 18 ?_ ?_
  · intro b1
    refine go_aload_n td_X12_readsSite 9 rfl (q := 19) rfl 0 rfl ?_
    refine go_callV td_X12_readsSite 10 rfl (q := 22) rfl (XkB E) lk_X12_224 (ok_fB_M_goes E b1) ⟨rfl, rfl, Nat.le_of_ble_eq_true rfl, Nat.le_of_ble_eq_true rfl⟩ rfl rfl (Nat.le_of_ble_eq_true rfl) (Bc_0 E b1) rfl (fun x2 => ?_)
    show Go (wCB E) _ _ b1 22 _ [.int x2] _
    refine go_if_ne 26 td_X12_readsSite 11 rfl rfl (q := 25) rfl (fun _ => ?_) (fun _ => ?_)
    · refine go_aload_n td_X12_readsSite 13 rfl (q := 27) rfl 0 rfl ?_
      refine go_bipush td_X12_readsSite 14 rfl (q := 29) rfl kb_12 ?_
      refine go_aload_n td_X12_readsSite 15 rfl (q := 30) rfl 0 rfl ?_
      refine go_get td_X12_readsSite 16 rfl (q := 33) rfl fl_X12_81 (Bc_0 E b1) rfl ?_
      refine go_iadd td_X12_readsSite 17 rfl (q := 34) rfl ?_
      refine go_callV td_X12_readsSite 18 rfl (q := 37) rfl (XkB E) lk_X12_268 (ok_fB_M_freshName E (12 + (b1.1 23)) b1) ⟨rfl, rfl, Nat.le_of_ble_eq_true rfl, Nat.le_of_ble_eq_true rfl⟩ rfl rfl (Nat.le_of_ble_eq_true rfl) (Bc_0 E b1) rfl (fun x3 => ?_)
      show Go (wCB E) _ _ x3 37 _ [] _
      refine go_iconst td_X12_readsSite 19 rfl (q := 38) rfl kc_4 ?_
      refine go_aload_n td_X12_readsSite 20 rfl (q := 39) rfl 0 rfl ?_
      refine go_get td_X12_readsSite 21 rfl (q := 42) rfl fl_X12_81 (Bc_0 E x3) rfl ?_
      refine go_imul td_X12_readsSite 22 rfl (q := 43) rfl ?_
      refine go_bvi (fun x4 => ?_)
      refine go_istore_n [(1, .int x4), (0, .ref (E.1 0))] td_X12_readsSite 23 rfl (q := 44) rfl (Nat.le_of_ble_eq_true rfl) rfl ?_
      refine go_aload_n td_X12_readsSite 24 rfl (q := 45) rfl 1 rfl ?_
      refine go_get td_X12_readsSite 25 rfl (q := 48) rfl fl_X12_102 (Bc_0 E x3) rfl ?_
      refine go_iload_n td_X12_readsSite 26 rfl (q := 49) rfl 0 rfl ?_
      refine go_aload_n td_X12_readsSite 27 rfl (q := 50) rfl 1 rfl ?_
      refine go_bipush td_X12_readsSite 28 rfl (q := 52) rfl kb_12 ?_
      refine go_iconst td_X12_readsSite 29 rfl (q := 53) rfl kc_0 ?_
      refine go_aload_n td_X12_readsSite 30 rfl (q := 54) rfl 1 rfl ?_
      refine go_get td_X12_readsSite 31 rfl (q := 57) rfl fl_X12_66 (Bc_0 E x3) rfl ?_
      refine go_iconst td_X12_readsSite 32 rfl (q := 58) rfl kc_1 ?_
      refine go_isub td_X12_readsSite 33 rfl (q := 59) rfl ?_
      refine go_callV td_X12_readsSite 34 rfl (q := 62) rfl (XkB E) lk_X12_271 (ok_fB_M_told E 12 0 ((x3.1 18) - 1) x3) ⟨rfl, rfl, Nat.le_of_ble_eq_true rfl, Nat.le_of_ble_eq_true rfl⟩ rfl rfl (Nat.le_of_ble_eq_true rfl) (Bc_0 E x3) rfl (fun x5 => ?_)
      show Go (wCB E) _ _ x5.2 62 _ [.int x5.1, .int x4, .ref (E.1 15)] _
      refine go_ast td_X12_readsSite 35 rfl (q := 63) rfl (Bc_15 E x5.2) (t0 := 0) rfl (Bas_15 E x5.2 _) ?_
      refine go_bvg (fun g6 => ?_)
      refine go_aload_n td_X12_readsSite 36 rfl (q := 64) rfl 1 rfl ?_
      refine go_get td_X12_readsSite 37 rfl (q := 67) rfl fl_X12_102 (Bc_0 E g6) rfl ?_
      refine go_iload_n td_X12_readsSite 38 rfl (q := 68) rfl 0 rfl ?_
      refine go_iconst td_X12_readsSite 39 rfl (q := 69) rfl kc_1 ?_
      refine go_iadd td_X12_readsSite 40 rfl (q := 70) rfl ?_
      refine go_aload_n td_X12_readsSite 41 rfl (q := 71) rfl 1 rfl ?_
      refine go_iconst td_X12_readsSite 42 rfl (q := 72) rfl kc_0 ?_
      refine go_aload_n td_X12_readsSite 43 rfl (q := 73) rfl 1 rfl ?_
      refine go_get td_X12_readsSite 44 rfl (q := 76) rfl fl_X12_69 (Bc_0 E g6) rfl ?_
      refine go_iconst td_X12_readsSite 45 rfl (q := 77) rfl kc_1 ?_
      refine go_isub td_X12_readsSite 46 rfl (q := 78) rfl ?_
      refine go_callV td_X12_readsSite 47 rfl (q := 81) rfl (XkB E) lk_X12_255 (ok_fB_M_number E 0 ((g6.1 19) - 1) g6) ⟨rfl, rfl, Nat.le_of_ble_eq_true rfl, Nat.le_of_ble_eq_true rfl⟩ rfl rfl (Nat.le_of_ble_eq_true rfl) (Bc_0 E g6) rfl (fun x7 => ?_)
      show Go (wCB E) _ _ x7.2 81 _ [.int x7.1, .int (x4 + 1), .ref (E.1 15)] _
      refine go_ast td_X12_readsSite 48 rfl (q := 82) rfl (Bc_15 E x7.2) (t0 := 0) rfl (Bas_15 E x7.2 _) ?_
      refine go_bvg (fun g8 => ?_)
      refine go_aload_n td_X12_readsSite 49 rfl (q := 83) rfl 1 rfl ?_
      refine go_get td_X12_readsSite 50 rfl (q := 86) rfl fl_X12_102 (Bc_0 E g8) rfl ?_
      refine go_iload_n td_X12_readsSite 51 rfl (q := 87) rfl 0 rfl ?_
      refine go_iconst td_X12_readsSite 52 rfl (q := 88) rfl kc_2 ?_
      refine go_iadd td_X12_readsSite 53 rfl (q := 89) rfl ?_
      refine go_aload_n td_X12_readsSite 54 rfl (q := 90) rfl 1 rfl ?_
      refine go_bipush td_X12_readsSite 55 rfl (q := 92) rfl kb_13 ?_
      refine go_iconst td_X12_readsSite 56 rfl (q := 93) rfl kc_0 ?_
      refine go_aload_n td_X12_readsSite 57 rfl (q := 94) rfl 1 rfl ?_
      refine go_get td_X12_readsSite 58 rfl (q := 97) rfl fl_X12_72 (Bc_0 E g8) rfl ?_
      refine go_iconst td_X12_readsSite 59 rfl (q := 98) rfl kc_1 ?_
      refine go_isub td_X12_readsSite 60 rfl (q := 99) rfl ?_
      refine go_callV td_X12_readsSite 61 rfl (q := 102) rfl (XkB E) lk_X12_271 (ok_fB_M_told E 13 0 ((g8.1 20) - 1) g8) ⟨rfl, rfl, Nat.le_of_ble_eq_true rfl, Nat.le_of_ble_eq_true rfl⟩ rfl rfl (Nat.le_of_ble_eq_true rfl) (Bc_0 E g8) rfl (fun x9 => ?_)
      show Go (wCB E) _ _ x9.2 102 _ [.int x9.1, .int (x4 + 2), .ref (E.1 15)] _
      refine go_ast td_X12_readsSite 62 rfl (q := 103) rfl (Bc_15 E x9.2) (t0 := 0) rfl (Bas_15 E x9.2 _) ?_
      refine go_bvg (fun g10 => ?_)
      refine go_aload_n td_X12_readsSite 63 rfl (q := 104) rfl 1 rfl ?_
      refine go_get td_X12_readsSite 64 rfl (q := 107) rfl fl_X12_102 (Bc_0 E g10) rfl ?_
      refine go_iload_n td_X12_readsSite 65 rfl (q := 108) rfl 0 rfl ?_
      refine go_iconst td_X12_readsSite 66 rfl (q := 109) rfl kc_3 ?_
      refine go_iadd td_X12_readsSite 67 rfl (q := 110) rfl ?_
      refine go_aload_n td_X12_readsSite 68 rfl (q := 111) rfl 1 rfl ?_
      refine go_bipush td_X12_readsSite 69 rfl (q := 113) rfl kb_14 ?_
      refine go_aload_n td_X12_readsSite 70 rfl (q := 114) rfl 1 rfl ?_
      refine go_get td_X12_readsSite 71 rfl (q := 117) rfl fl_X12_102 (Bc_0 E g10) rfl ?_
      refine go_iload_n td_X12_readsSite 72 rfl (q := 118) rfl 0 rfl ?_
      refine go_iconst td_X12_readsSite 73 rfl (q := 119) rfl kc_2 ?_
      refine go_iadd td_X12_readsSite 74 rfl (q := 120) rfl ?_
      refine go_ald td_X12_readsSite 75 rfl (q := 121) rfl (Bc_15 E g10) (t0 := 0) rfl (fun x11 => ?_)
      refine go_iconst td_X12_readsSite 76 rfl (q := 122) rfl kc_1 ?_
      refine go_iadd td_X12_readsSite 77 rfl (q := 123) rfl ?_
      refine go_aload_n td_X12_readsSite 78 rfl (q := 124) rfl 1 rfl ?_
      refine go_get td_X12_readsSite 79 rfl (q := 127) rfl fl_X12_72 (Bc_0 E g10) rfl ?_
      refine go_callV td_X12_readsSite 80 rfl (q := 130) rfl (XkB E) lk_X12_271 (ok_fB_M_told E 14 (x11 + 1) (g10.1 20) g10) ⟨rfl, rfl, Nat.le_of_ble_eq_true rfl, Nat.le_of_ble_eq_true rfl⟩ rfl rfl (Nat.le_of_ble_eq_true rfl) (Bc_0 E g10) rfl (fun x12 => ?_)
      show Go (wCB E) _ _ x12.2 130 _ [.int x12.1, .int (x4 + 3), .ref (E.1 15)] _
      refine go_ast td_X12_readsSite 81 rfl (q := 131) rfl (Bc_15 E x12.2) (t0 := 0) rfl (Bas_15 E x12.2 _) ?_
      refine go_bvg (fun g13 => ?_)
      refine go_aload_n td_X12_readsSite 82 rfl (q := 132) rfl 1 rfl ?_
      refine go_dup td_X12_readsSite 83 rfl (q := 133) rfl rfl ?_
      refine go_get td_X12_readsSite 84 rfl (q := 136) rfl fl_X12_81 (Bc_0 E g13) rfl ?_
      refine go_iconst td_X12_readsSite 85 rfl (q := 137) rfl kc_1 ?_
      refine go_iadd td_X12_readsSite 86 rfl (q := 138) rfl ?_
      refine go_put td_X12_readsSite 87 rfl (q := 141) rfl flp_X12_81 (Bc_0 E g13) rfl rfl (Nat.le_of_ble_eq_true rfl) (Bps_23 E g13 ((g13.1 23) + 1)) ?_
      refine go_bvg (fun g14 => ?_)
      exact go_vret td_X12_readsSite 88 rfl rfl rfl
    · exact go_vret td_X12_readsSite 12 rfl rfl rfl
  intro J1 hJ1
  have kJ1 : ∀ (u1_0 : G), Go (wCB E) _ _ u1_0 18 [(0, .ref (E.1 0))] [] (J1 u1_0) := fun u1_0 => hJ1 u1_0
  refine go_icmp_ne 18 td_X12_readsSite 3 rfl rfl (q := 9) rfl (fun _ => ?_) (fun _ => ?_)
  · refine go_pick [0] (lv' := [(0, .ref (E.1 0))]) rfl ?_
    exact kJ1 g
  · refine go_aload_n td_X12_readsSite 4 rfl (q := 10) rfl 0 rfl ?_
    refine go_iconst td_X12_readsSite 5 rfl (q := 11) rfl kc_5 ?_
    refine go_aload_n td_X12_readsSite 6 rfl (q := 12) rfl 0 rfl ?_
    refine go_get td_X12_readsSite 7 rfl (q := 15) rfl fl_X12_129 (Bc_0 E g) rfl ?_
    refine go_callV td_X12_readsSite 8 rfl (q := 18) rfl (XkB E) lk_X12_238 (ok_fB_M_fails E 5 (g.1 39) g) ⟨rfl, rfl, Nat.le_of_ble_eq_true rfl, Nat.le_of_ble_eq_true rfl⟩ rfl rfl (Nat.le_of_ble_eq_true rfl) (Bc_0 E g) rfl (fun x15 => ?_)
    show Go (wCB E) _ _ x15 18 _ [] _
    refine go_pick [0] (lv' := [(0, .ref (E.1 0))]) rfl ?_
    exact kJ1 x15
def fB_M_readsCraft (g : G) : Option (G) := lj (α := G) (fun b1 => Option.bind (fB_M_goes b1) fun x2 => (if x2 = 0 then some b1 else Option.bind (fB_M_freshName (4 + (b1.1 22)) b1) fun x3 => Option.bind (fB_M_must 8 x3) fun x4 => Option.bind (fB_M_name x4) fun x5 => Option.bind (fB_M_goes x5) fun x6 => lj (α := Int32) (fun b7 => lj (α := G) (fun b8 => Option.bind (fB_M_goes b8) fun x9 => (if x9 = 0 then some b8 else ck 8 (b8.1 22) (bv (sA b8 12 (b8.1 22 : Int32).toNatClampNeg b7) fun g10 => ag 4 (g10.2.1 11) b7 fun x11 => Option.bind (fB_M_told 9 0 (x11 - 1) g10) fun x12 => ck 8 (g10.1 22) (bv (sA x12.2 13 (g10.1 22 : Int32).toNatClampNeg x12.1) fun g13 => Option.bind (fB_M_told 10 0 12 g13) fun x14 => ck 8 (g13.1 22) (bv (sA x14.2 14 (g13.1 22 : Int32).toNatClampNeg x14.1) fun g15 => bv (sS g15 22 ((g15.1 22) + 1)) fun g16 => some g16))))) fun J8 => (if b7 = (-1) then Option.bind (fB_M_fails 3 (x5.1 39) x5) fun x17 => J8 x17 else J8 x5)) fun J7 => (if x6 = 0 then J7 0 else Option.bind (fB_M_nameIn 0 (x5.1 21) x5) fun x18 => J7 x18))) fun J1 => (if (g.1 22) = 8 then Option.bind (fB_M_fails 5 (g.1 39) g) fun x19 => J1 x19 else J1 g)
set_option maxRecDepth 20000 in
set_option maxHeartbeats 4000000 in
theorem ok_fB_M_readsCraft (E : Ev)  (g : G)  : Ct (wCB E) yX12_readsCraft mi_X12_readsCraft [.ref (E.1 0)] (fun r => (none, r)) g (fB_M_readsCraft g) := by
  refine go_enter rfl rfl (Nat.le_of_ble_eq_true rfl) (lv := [(0, .ref (E.1 0))]) rfl ?_
  unfold fB_M_readsCraft
  refine go_aload_n td_X12_readsCraft 0 rfl (q := 1) rfl 0 rfl ?_
  refine go_get td_X12_readsCraft 1 rfl (q := 4) rfl fl_X12_78 (Bc_0 E g) rfl ?_
  refine go_bipush td_X12_readsCraft 2 rfl (q := 6) rfl kb_8 ?_
  refine go_ljX (α := G) (fun b1 => [(0, .ref (E.1 0))]) (fun b1 => []) (fun b1 => b1) 18 ?_ ?_
  · intro b1
    refine go_aload_n td_X12_readsCraft 9 rfl (q := 19) rfl 0 rfl ?_
    refine go_callV td_X12_readsCraft 10 rfl (q := 22) rfl (XkB E) lk_X12_224 (ok_fB_M_goes E b1) ⟨rfl, rfl, Nat.le_of_ble_eq_true rfl, Nat.le_of_ble_eq_true rfl⟩ rfl rfl (Nat.le_of_ble_eq_true rfl) (Bc_0 E b1) rfl (fun x2 => ?_)
    show Go (wCB E) _ _ b1 22 _ [.int x2] _
    refine go_if_ne 26 td_X12_readsCraft 11 rfl rfl (q := 25) rfl (fun _ => ?_) (fun _ => ?_)
    · refine go_aload_n td_X12_readsCraft 13 rfl (q := 27) rfl 0 rfl ?_
      refine go_iconst td_X12_readsCraft 14 rfl (q := 28) rfl kc_4 ?_
      refine go_aload_n td_X12_readsCraft 15 rfl (q := 29) rfl 0 rfl ?_
      refine go_get td_X12_readsCraft 16 rfl (q := 32) rfl fl_X12_78 (Bc_0 E b1) rfl ?_
      refine go_iadd td_X12_readsCraft 17 rfl (q := 33) rfl ?_
      refine go_callV td_X12_readsCraft 18 rfl (q := 36) rfl (XkB E) lk_X12_268 (ok_fB_M_freshName E (4 + (b1.1 22)) b1) ⟨rfl, rfl, Nat.le_of_ble_eq_true rfl, Nat.le_of_ble_eq_true rfl⟩ rfl rfl (Nat.le_of_ble_eq_true rfl) (Bc_0 E b1) rfl (fun x3 => ?_)
      show Go (wCB E) _ _ x3 36 _ [] _
      refine go_aload_n td_X12_readsCraft 19 rfl (q := 37) rfl 0 rfl ?_
      refine go_bipush td_X12_readsCraft 20 rfl (q := 39) rfl kb_8 ?_
      refine go_callV td_X12_readsCraft 21 rfl (q := 42) rfl (XkB E) lk_X12_252 (ok_fB_M_must E 8 x3) ⟨rfl, rfl, Nat.le_of_ble_eq_true rfl, Nat.le_of_ble_eq_true rfl⟩ rfl rfl (Nat.le_of_ble_eq_true rfl) (Bc_0 E x3) rfl (fun x4 => ?_)
      show Go (wCB E) _ _ x4 42 _ [] _
      refine go_aload_n td_X12_readsCraft 22 rfl (q := 43) rfl 0 rfl ?_
      refine go_callV td_X12_readsCraft 23 rfl (q := 46) rfl (XkB E) lk_X12_262 (ok_fB_M_name E x4) ⟨rfl, rfl, Nat.le_of_ble_eq_true rfl, Nat.le_of_ble_eq_true rfl⟩ rfl rfl (Nat.le_of_ble_eq_true rfl) (Bc_0 E x4) rfl (fun x5 => ?_)
      show Go (wCB E) _ _ x5 46 _ [] _
      refine go_aload_n td_X12_readsCraft 24 rfl (q := 47) rfl 0 rfl ?_
      refine go_callV td_X12_readsCraft 25 rfl (q := 50) rfl (XkB E) lk_X12_224 (ok_fB_M_goes E x5) ⟨rfl, rfl, Nat.le_of_ble_eq_true rfl, Nat.le_of_ble_eq_true rfl⟩ rfl rfl (Nat.le_of_ble_eq_true rfl) (Bc_0 E x5) rfl (fun x6 => ?_)
      show Go (wCB E) _ _ x5 50 _ [.int x6] _
      refine go_ljX (α := Int32) (fun b7 => [(0, .ref (E.1 0))]) (fun b7 => [.int b7]) (fun b7 => x5) 66 ?_ ?_
      · intro b7
        refine go_istore_n [(1, .int b7), (0, .ref (E.1 0))] td_X12_readsCraft 34 rfl (q := 67) rfl (Nat.le_of_ble_eq_true rfl) rfl ?_
        refine go_iload_n td_X12_readsCraft 35 rfl (q := 68) rfl 0 rfl ?_
        refine go_iconst td_X12_readsCraft 36 rfl (q := 69) rfl kc_m1 ?_
        refine go_ljX (α := G) (fun b8 => [(0, .ref (E.1 0)), (1, .int b7)]) (fun b8 => []) (fun b8 => b8) 81 ?_ ?_
        · intro b8
          refine go_aload_n td_X12_readsCraft 43 rfl (q := 82) rfl 0 rfl ?_
          refine go_callV td_X12_readsCraft 44 rfl (q := 85) rfl (XkB E) lk_X12_224 (ok_fB_M_goes E b8) ⟨rfl, rfl, Nat.le_of_ble_eq_true rfl, Nat.le_of_ble_eq_true rfl⟩ rfl rfl (Nat.le_of_ble_eq_true rfl) (Bc_0 E b8) rfl (fun x9 => ?_)
          show Go (wCB E) _ _ b8 85 _ [.int x9] _
          refine go_if_ne 89 td_X12_readsCraft 45 rfl rfl (q := 88) rfl (fun _ => ?_) (fun _ => ?_)
          · refine go_aload_n td_X12_readsCraft 47 rfl (q := 90) rfl 0 rfl ?_
            refine go_get td_X12_readsCraft 48 rfl (q := 93) rfl fl_X12_93 (Bc_0 E b8) rfl ?_
            refine go_aload_n td_X12_readsCraft 49 rfl (q := 94) rfl 0 rfl ?_
            refine go_get td_X12_readsCraft 50 rfl (q := 97) rfl fl_X12_78 (Bc_0 E b8) rfl ?_
            refine go_iload_n td_X12_readsCraft 51 rfl (q := 98) rfl 1 rfl ?_
            refine go_ast td_X12_readsCraft 52 rfl (q := 99) rfl (Bc_12 E b8) (t0 := 0) rfl (Bas_12 E b8 _) ?_
            refine go_bvg (fun g10 => ?_)
            refine go_aload_n td_X12_readsCraft 53 rfl (q := 100) rfl 0 rfl ?_
            refine go_get td_X12_readsCraft 54 rfl (q := 103) rfl fl_X12_96 (Bc_0 E g10) rfl ?_
            refine go_aload_n td_X12_readsCraft 55 rfl (q := 104) rfl 0 rfl ?_
            refine go_get td_X12_readsCraft 56 rfl (q := 107) rfl fl_X12_78 (Bc_0 E g10) rfl ?_
            refine go_aload_n td_X12_readsCraft 57 rfl (q := 108) rfl 0 rfl ?_
            refine go_bipush td_X12_readsCraft 58 rfl (q := 110) rfl kb_9 ?_
            refine go_iconst td_X12_readsCraft 59 rfl (q := 111) rfl kc_0 ?_
            refine go_aload_n td_X12_readsCraft 60 rfl (q := 112) rfl 0 rfl ?_
            refine go_get td_X12_readsCraft 61 rfl (q := 115) rfl fl_X12_90 (Bc_0 E g10) rfl ?_
            refine go_iload_n td_X12_readsCraft 62 rfl (q := 116) rfl 1 rfl ?_
            refine go_ald td_X12_readsCraft 63 rfl (q := 117) rfl (Bc_11 E g10) (t0 := 0) rfl (fun x11 => ?_)
            refine go_iconst td_X12_readsCraft 64 rfl (q := 118) rfl kc_1 ?_
            refine go_isub td_X12_readsCraft 65 rfl (q := 119) rfl ?_
            refine go_callV td_X12_readsCraft 66 rfl (q := 122) rfl (XkB E) lk_X12_271 (ok_fB_M_told E 9 0 (x11 - 1) g10) ⟨rfl, rfl, Nat.le_of_ble_eq_true rfl, Nat.le_of_ble_eq_true rfl⟩ rfl rfl (Nat.le_of_ble_eq_true rfl) (Bc_0 E g10) rfl (fun x12 => ?_)
            show Go (wCB E) _ _ x12.2 122 _ [.int x12.1, .int (g10.1 22), .ref (E.1 13)] _
            refine go_ast td_X12_readsCraft 67 rfl (q := 123) rfl (Bc_13 E x12.2) (t0 := 0) rfl (Bas_13 E x12.2 _) ?_
            refine go_bvg (fun g13 => ?_)
            refine go_aload_n td_X12_readsCraft 68 rfl (q := 124) rfl 0 rfl ?_
            refine go_get td_X12_readsCraft 69 rfl (q := 127) rfl fl_X12_99 (Bc_0 E g13) rfl ?_
            refine go_aload_n td_X12_readsCraft 70 rfl (q := 128) rfl 0 rfl ?_
            refine go_get td_X12_readsCraft 71 rfl (q := 131) rfl fl_X12_78 (Bc_0 E g13) rfl ?_
            refine go_aload_n td_X12_readsCraft 72 rfl (q := 132) rfl 0 rfl ?_
            refine go_bipush td_X12_readsCraft 73 rfl (q := 134) rfl kb_10 ?_
            refine go_iconst td_X12_readsCraft 74 rfl (q := 135) rfl kc_0 ?_
            refine go_bipush td_X12_readsCraft 75 rfl (q := 137) rfl kb_12 ?_
            refine go_callV td_X12_readsCraft 76 rfl (q := 140) rfl (XkB E) lk_X12_271 (ok_fB_M_told E 10 0 12 g13) ⟨rfl, rfl, Nat.le_of_ble_eq_true rfl, Nat.le_of_ble_eq_true rfl⟩ rfl rfl (Nat.le_of_ble_eq_true rfl) (Bc_0 E g13) rfl (fun x14 => ?_)
            show Go (wCB E) _ _ x14.2 140 _ [.int x14.1, .int (g13.1 22), .ref (E.1 14)] _
            refine go_ast td_X12_readsCraft 77 rfl (q := 141) rfl (Bc_14 E x14.2) (t0 := 0) rfl (Bas_14 E x14.2 _) ?_
            refine go_bvg (fun g15 => ?_)
            refine go_aload_n td_X12_readsCraft 78 rfl (q := 142) rfl 0 rfl ?_
            refine go_dup td_X12_readsCraft 79 rfl (q := 143) rfl rfl ?_
            refine go_get td_X12_readsCraft 80 rfl (q := 146) rfl fl_X12_78 (Bc_0 E g15) rfl ?_
            refine go_iconst td_X12_readsCraft 81 rfl (q := 147) rfl kc_1 ?_
            refine go_iadd td_X12_readsCraft 82 rfl (q := 148) rfl ?_
            refine go_put td_X12_readsCraft 83 rfl (q := 151) rfl flp_X12_78 (Bc_0 E g15) rfl rfl (Nat.le_of_ble_eq_true rfl) (Bps_22 E g15 ((g15.1 22) + 1)) ?_
            refine go_bvg (fun g16 => ?_)
            exact go_vret td_X12_readsCraft 84 rfl rfl rfl
          · exact go_vret td_X12_readsCraft 46 rfl rfl rfl
        intro J8 hJ8
        have kJ8 : ∀ (u8_0 : G), Go (wCB E) _ _ u8_0 81 [(0, .ref (E.1 0)), (1, .int b7)] [] (J8 u8_0) := fun u8_0 => hJ8 u8_0
        refine go_icmp_ne 81 td_X12_readsCraft 37 rfl rfl (q := 72) rfl (fun _ => ?_) (fun _ => ?_)
        · refine go_pick [1, 0] (lv' := [(0, .ref (E.1 0)), (1, .int b7)]) rfl ?_
          exact kJ8 x5
        · refine go_aload_n td_X12_readsCraft 38 rfl (q := 73) rfl 1 rfl ?_
          refine go_iconst td_X12_readsCraft 39 rfl (q := 74) rfl kc_3 ?_
          refine go_aload_n td_X12_readsCraft 40 rfl (q := 75) rfl 1 rfl ?_
          refine go_get td_X12_readsCraft 41 rfl (q := 78) rfl fl_X12_129 (Bc_0 E x5) rfl ?_
          refine go_callV td_X12_readsCraft 42 rfl (q := 81) rfl (XkB E) lk_X12_238 (ok_fB_M_fails E 3 (x5.1 39) x5) ⟨rfl, rfl, Nat.le_of_ble_eq_true rfl, Nat.le_of_ble_eq_true rfl⟩ rfl rfl (Nat.le_of_ble_eq_true rfl) (Bc_0 E x5) rfl (fun x17 => ?_)
          show Go (wCB E) _ _ x17 81 _ [] _
          refine go_pick [1, 0] (lv' := [(0, .ref (E.1 0)), (1, .int b7)]) rfl ?_
          exact kJ8 x17
      intro J7 hJ7
      have kJ7 : ∀ (u7_0 : Int32), Go (wCB E) _ _ x5 66 [(0, .ref (E.1 0))] [.int u7_0] (J7 u7_0) := fun u7_0 => hJ7 u7_0
      refine go_if_eq 65 td_X12_readsCraft 26 rfl rfl (q := 53) rfl (fun _ => ?_) (fun _ => ?_)
      · refine go_iconst td_X12_readsCraft 33 rfl (q := 66) rfl kc_0 ?_
        refine go_pick [0] (lv' := [(0, .ref (E.1 0))]) rfl ?_
        exact kJ7 0
      · refine go_aload_n td_X12_readsCraft 27 rfl (q := 54) rfl 0 rfl ?_
        refine go_iconst td_X12_readsCraft 28 rfl (q := 55) rfl kc_0 ?_
        refine go_aload_n td_X12_readsCraft 29 rfl (q := 56) rfl 0 rfl ?_
        refine go_get td_X12_readsCraft 30 rfl (q := 59) rfl fl_X12_75 (Bc_0 E x5) rfl ?_
        refine go_callV td_X12_readsCraft 31 rfl (q := 62) rfl (XkB E) lk_X12_265 (ok_fB_M_nameIn E 0 (x5.1 21) x5) ⟨rfl, rfl, Nat.le_of_ble_eq_true rfl, Nat.le_of_ble_eq_true rfl⟩ rfl rfl (Nat.le_of_ble_eq_true rfl) (Bc_0 E x5) rfl (fun x18 => ?_)
        show Go (wCB E) _ _ x5 62 _ [.int x18] _
        refine go_goto td_X12_readsCraft 32 rfl (q := 66) rfl ?_
        refine go_pick [0] (lv' := [(0, .ref (E.1 0))]) rfl ?_
        exact kJ7 x18
    · exact go_vret td_X12_readsCraft 12 rfl rfl rfl
  intro J1 hJ1
  have kJ1 : ∀ (u1_0 : G), Go (wCB E) _ _ u1_0 18 [(0, .ref (E.1 0))] [] (J1 u1_0) := fun u1_0 => hJ1 u1_0
  refine go_icmp_ne 18 td_X12_readsCraft 3 rfl rfl (q := 9) rfl (fun _ => ?_) (fun _ => ?_)
  · refine go_pick [0] (lv' := [(0, .ref (E.1 0))]) rfl ?_
    exact kJ1 g
  · refine go_aload_n td_X12_readsCraft 4 rfl (q := 10) rfl 0 rfl ?_
    refine go_iconst td_X12_readsCraft 5 rfl (q := 11) rfl kc_5 ?_
    refine go_aload_n td_X12_readsCraft 6 rfl (q := 12) rfl 0 rfl ?_
    refine go_get td_X12_readsCraft 7 rfl (q := 15) rfl fl_X12_129 (Bc_0 E g) rfl ?_
    refine go_callV td_X12_readsCraft 8 rfl (q := 18) rfl (XkB E) lk_X12_238 (ok_fB_M_fails E 5 (g.1 39) g) ⟨rfl, rfl, Nat.le_of_ble_eq_true rfl, Nat.le_of_ble_eq_true rfl⟩ rfl rfl (Nat.le_of_ble_eq_true rfl) (Bc_0 E g) rfl (fun x19 => ?_)
    show Go (wCB E) _ _ x19 18 _ [] _
    refine go_pick [0] (lv' := [(0, .ref (E.1 0))]) rfl ?_
    exact kJ1 x19
def fB_M_readsPlane (g : G) : Option (G) := lj (α := G) (fun b1 => Option.bind (fB_M_goes b1) fun x2 => (if x2 = 0 then some b1 else Option.bind (fB_M_freshName (b1.1 21) b1) fun x3 => Option.bind (fB_M_told 4 0 ((x3.1 18) - 1) x3) fun x4 => ck 4 (x3.1 21) (bv (sA x4.2 9 (x3.1 21 : Int32).toNatClampNeg x4.1) fun g5 => dz 2 (Option.bind (fB_M_told 5 0 ((g5.1 19) / 2) g5) fun x6 => ck 4 (g5.1 21) (bv (sA x6.2 10 (g5.1 21 : Int32).toNatClampNeg x6.1) fun g7 => Option.bind (fB_M_told 6 2 96 g7) fun x8 => ck 4 (g7.1 21) (bv (sA x8.2 11 (g7.1 21 : Int32).toNatClampNeg x8.1) fun g9 => bv (sS g9 21 ((g9.1 21) + 1)) fun g10 => some g10)))))) fun J1 => (if (g.1 21) = 4 then Option.bind (fB_M_fails 5 (g.1 39) g) fun x11 => J1 x11 else J1 g)
set_option maxRecDepth 20000 in
set_option maxHeartbeats 4000000 in
theorem ok_fB_M_readsPlane (E : Ev)  (g : G)  : Ct (wCB E) yX12_readsPlane mi_X12_readsPlane [.ref (E.1 0)] (fun r => (none, r)) g (fB_M_readsPlane g) := by
  refine go_enter rfl rfl (Nat.le_of_ble_eq_true rfl) (lv := [(0, .ref (E.1 0))]) rfl ?_
  unfold fB_M_readsPlane
  refine go_aload_n td_X12_readsPlane 0 rfl (q := 1) rfl 0 rfl ?_
  refine go_get td_X12_readsPlane 1 rfl (q := 4) rfl fl_X12_75 (Bc_0 E g) rfl ?_
  refine go_iconst td_X12_readsPlane 2 rfl (q := 5) rfl kc_4 ?_
  refine go_ljX (α := G) (fun b1 => [(0, .ref (E.1 0))]) (fun b1 => []) (fun b1 => b1) 17 ?_ ?_
  · intro b1
    refine go_aload_n td_X12_readsPlane 9 rfl (q := 18) rfl 0 rfl ?_
    refine go_callV td_X12_readsPlane 10 rfl (q := 21) rfl (XkB E) lk_X12_224 (ok_fB_M_goes E b1) ⟨rfl, rfl, Nat.le_of_ble_eq_true rfl, Nat.le_of_ble_eq_true rfl⟩ rfl rfl (Nat.le_of_ble_eq_true rfl) (Bc_0 E b1) rfl (fun x2 => ?_)
    show Go (wCB E) _ _ b1 21 _ [.int x2] _
    refine go_if_ne 25 td_X12_readsPlane 11 rfl rfl (q := 24) rfl (fun _ => ?_) (fun _ => ?_)
    · refine go_aload_n td_X12_readsPlane 13 rfl (q := 26) rfl 0 rfl ?_
      refine go_aload_n td_X12_readsPlane 14 rfl (q := 27) rfl 0 rfl ?_
      refine go_get td_X12_readsPlane 15 rfl (q := 30) rfl fl_X12_75 (Bc_0 E b1) rfl ?_
      refine go_callV td_X12_readsPlane 16 rfl (q := 33) rfl (XkB E) lk_X12_268 (ok_fB_M_freshName E (b1.1 21) b1) ⟨rfl, rfl, Nat.le_of_ble_eq_true rfl, Nat.le_of_ble_eq_true rfl⟩ rfl rfl (Nat.le_of_ble_eq_true rfl) (Bc_0 E b1) rfl (fun x3 => ?_)
      show Go (wCB E) _ _ x3 33 _ [] _
      refine go_aload_n td_X12_readsPlane 17 rfl (q := 34) rfl 0 rfl ?_
      refine go_get td_X12_readsPlane 18 rfl (q := 37) rfl fl_X12_84 (Bc_0 E x3) rfl ?_
      refine go_aload_n td_X12_readsPlane 19 rfl (q := 38) rfl 0 rfl ?_
      refine go_get td_X12_readsPlane 20 rfl (q := 41) rfl fl_X12_75 (Bc_0 E x3) rfl ?_
      refine go_aload_n td_X12_readsPlane 21 rfl (q := 42) rfl 0 rfl ?_
      refine go_iconst td_X12_readsPlane 22 rfl (q := 43) rfl kc_4 ?_
      refine go_iconst td_X12_readsPlane 23 rfl (q := 44) rfl kc_0 ?_
      refine go_aload_n td_X12_readsPlane 24 rfl (q := 45) rfl 0 rfl ?_
      refine go_get td_X12_readsPlane 25 rfl (q := 48) rfl fl_X12_66 (Bc_0 E x3) rfl ?_
      refine go_iconst td_X12_readsPlane 26 rfl (q := 49) rfl kc_1 ?_
      refine go_isub td_X12_readsPlane 27 rfl (q := 50) rfl ?_
      refine go_callV td_X12_readsPlane 28 rfl (q := 53) rfl (XkB E) lk_X12_271 (ok_fB_M_told E 4 0 ((x3.1 18) - 1) x3) ⟨rfl, rfl, Nat.le_of_ble_eq_true rfl, Nat.le_of_ble_eq_true rfl⟩ rfl rfl (Nat.le_of_ble_eq_true rfl) (Bc_0 E x3) rfl (fun x4 => ?_)
      show Go (wCB E) _ _ x4.2 53 _ [.int x4.1, .int (x3.1 21), .ref (E.1 9)] _
      refine go_ast td_X12_readsPlane 29 rfl (q := 54) rfl (Bc_9 E x4.2) (t0 := 0) rfl (Bas_9 E x4.2 _) ?_
      refine go_bvg (fun g5 => ?_)
      refine go_aload_n td_X12_readsPlane 30 rfl (q := 55) rfl 0 rfl ?_
      refine go_get td_X12_readsPlane 31 rfl (q := 58) rfl fl_X12_87 (Bc_0 E g5) rfl ?_
      refine go_aload_n td_X12_readsPlane 32 rfl (q := 59) rfl 0 rfl ?_
      refine go_get td_X12_readsPlane 33 rfl (q := 62) rfl fl_X12_75 (Bc_0 E g5) rfl ?_
      refine go_aload_n td_X12_readsPlane 34 rfl (q := 63) rfl 0 rfl ?_
      refine go_iconst td_X12_readsPlane 35 rfl (q := 64) rfl kc_5 ?_
      refine go_iconst td_X12_readsPlane 36 rfl (q := 65) rfl kc_0 ?_
      refine go_aload_n td_X12_readsPlane 37 rfl (q := 66) rfl 0 rfl ?_
      refine go_get td_X12_readsPlane 38 rfl (q := 69) rfl fl_X12_69 (Bc_0 E g5) rfl ?_
      refine go_iconst td_X12_readsPlane 39 rfl (q := 70) rfl kc_2 ?_
      refine go_idiv td_X12_readsPlane 40 rfl (q := 71) rfl ?_
      refine go_callV td_X12_readsPlane 41 rfl (q := 74) rfl (XkB E) lk_X12_271 (ok_fB_M_told E 5 0 ((g5.1 19) / 2) g5) ⟨rfl, rfl, Nat.le_of_ble_eq_true rfl, Nat.le_of_ble_eq_true rfl⟩ rfl rfl (Nat.le_of_ble_eq_true rfl) (Bc_0 E g5) rfl (fun x6 => ?_)
      show Go (wCB E) _ _ x6.2 74 _ [.int x6.1, .int (g5.1 21), .ref (E.1 10)] _
      refine go_ast td_X12_readsPlane 42 rfl (q := 75) rfl (Bc_10 E x6.2) (t0 := 0) rfl (Bas_10 E x6.2 _) ?_
      refine go_bvg (fun g7 => ?_)
      refine go_aload_n td_X12_readsPlane 43 rfl (q := 76) rfl 0 rfl ?_
      refine go_get td_X12_readsPlane 44 rfl (q := 79) rfl fl_X12_90 (Bc_0 E g7) rfl ?_
      refine go_aload_n td_X12_readsPlane 45 rfl (q := 80) rfl 0 rfl ?_
      refine go_get td_X12_readsPlane 46 rfl (q := 83) rfl fl_X12_75 (Bc_0 E g7) rfl ?_
      refine go_aload_n td_X12_readsPlane 47 rfl (q := 84) rfl 0 rfl ?_
      refine go_bipush td_X12_readsPlane 48 rfl (q := 86) rfl kb_6 ?_
      refine go_iconst td_X12_readsPlane 49 rfl (q := 87) rfl kc_2 ?_
      refine go_bipush td_X12_readsPlane 50 rfl (q := 89) rfl kb_96 ?_
      refine go_callV td_X12_readsPlane 51 rfl (q := 92) rfl (XkB E) lk_X12_271 (ok_fB_M_told E 6 2 96 g7) ⟨rfl, rfl, Nat.le_of_ble_eq_true rfl, Nat.le_of_ble_eq_true rfl⟩ rfl rfl (Nat.le_of_ble_eq_true rfl) (Bc_0 E g7) rfl (fun x8 => ?_)
      show Go (wCB E) _ _ x8.2 92 _ [.int x8.1, .int (g7.1 21), .ref (E.1 11)] _
      refine go_ast td_X12_readsPlane 52 rfl (q := 93) rfl (Bc_11 E x8.2) (t0 := 0) rfl (Bas_11 E x8.2 _) ?_
      refine go_bvg (fun g9 => ?_)
      refine go_aload_n td_X12_readsPlane 53 rfl (q := 94) rfl 0 rfl ?_
      refine go_dup td_X12_readsPlane 54 rfl (q := 95) rfl rfl ?_
      refine go_get td_X12_readsPlane 55 rfl (q := 98) rfl fl_X12_75 (Bc_0 E g9) rfl ?_
      refine go_iconst td_X12_readsPlane 56 rfl (q := 99) rfl kc_1 ?_
      refine go_iadd td_X12_readsPlane 57 rfl (q := 100) rfl ?_
      refine go_put td_X12_readsPlane 58 rfl (q := 103) rfl flp_X12_75 (Bc_0 E g9) rfl rfl (Nat.le_of_ble_eq_true rfl) (Bps_21 E g9 ((g9.1 21) + 1)) ?_
      refine go_bvg (fun g10 => ?_)
      exact go_vret td_X12_readsPlane 59 rfl rfl rfl
    · exact go_vret td_X12_readsPlane 12 rfl rfl rfl
  intro J1 hJ1
  have kJ1 : ∀ (u1_0 : G), Go (wCB E) _ _ u1_0 17 [(0, .ref (E.1 0))] [] (J1 u1_0) := fun u1_0 => hJ1 u1_0
  refine go_icmp_ne 17 td_X12_readsPlane 3 rfl rfl (q := 8) rfl (fun _ => ?_) (fun _ => ?_)
  · refine go_pick [0] (lv' := [(0, .ref (E.1 0))]) rfl ?_
    exact kJ1 g
  · refine go_aload_n td_X12_readsPlane 4 rfl (q := 9) rfl 0 rfl ?_
    refine go_iconst td_X12_readsPlane 5 rfl (q := 10) rfl kc_5 ?_
    refine go_aload_n td_X12_readsPlane 6 rfl (q := 11) rfl 0 rfl ?_
    refine go_get td_X12_readsPlane 7 rfl (q := 14) rfl fl_X12_129 (Bc_0 E g) rfl ?_
    refine go_callV td_X12_readsPlane 8 rfl (q := 17) rfl (XkB E) lk_X12_238 (ok_fB_M_fails E 5 (g.1 39) g) ⟨rfl, rfl, Nat.le_of_ble_eq_true rfl, Nat.le_of_ble_eq_true rfl⟩ rfl rfl (Nat.le_of_ble_eq_true rfl) (Bc_0 E g) rfl (fun x11 => ?_)
    show Go (wCB E) _ _ x11 17 _ [] _
    refine go_pick [0] (lv' := [(0, .ref (E.1 0))]) rfl ?_
    exact kJ1 x11
def fB_M_readsAll (g : G) : Option (Int32 × G) := bv (sS g 21 0) fun g1 => bv (sS g1 22 0) fun g2 => bv (sS g2 23 0) fun g3 => Option.bind (fB_M_told 0 4 24 g3) fun x4 => bv (sS x4.2 18 x4.1) fun g5 => Option.bind (fB_M_told 1 3 12 g5) fun x6 => bv (sS x6.2 19 x6.1) fun g7 => Option.bind (fB_M_told 2 2 96 g7) fun x8 => bv (sS x8.2 20 x8.1) fun g9 => Option.bind (fB_M_endsWell g9) fun x10 => Lp (α := Int32 × G) (fun rec11 s11 => Option.bind (fB_M_goes s11.2) fun x12 => lj (α := G) (fun b13 => Option.bind (fB_M_goes b13) fun x14 => (if x14 = 0 then some (s11.1, b13) else Option.bind (fB_M_readCycle b13) fun x15 => (if x15 ≤ 240 then some (s11.1, b13) else Option.bind (fB_M_fails 6 (b13.1 37) b13) fun x16 => some (s11.1, x16)))) fun J13 => (if x12 = 0 then J13 s11.2 else Option.bind (fB_M_here s11.2) fun x17 => (if x17.1 = (-1) then J13 x17.2 else Option.bind (fB_M_word x17.2) fun x18 => Option.bind (fB_M_goes x18) fun x19 => lj (α := Int32) (fun b20 => lj (α := G) (fun b21 => Option.bind (fB_M_endsWell b21) fun x22 => rec11 (s11.1 + 1, x22)) fun J21 => (if b20 = 3 then Option.bind (fB_M_readsPlane x18) fun x26 => J21 x26 else (if b20 = 7 then Option.bind (fB_M_readsCraft x18) fun x25 => J21 x25 else (if b20 = 11 then Option.bind (fB_M_readsSite x18) fun x24 => J21 x24 else Option.bind (fB_M_fails 1 (x18.1 39) x18) fun x23 => J21 x23)))) fun J20 => (if x19 = 0 then J20 (-1) else Option.bind (fB_M_own x18) fun x27 => J20 x27)))) FU (1, x10)
set_option maxRecDepth 20000 in
set_option maxHeartbeats 4000000 in
theorem ok_fB_M_readsAll (E : Ev)  (g : G)  : Ct (wCB E) yX12_readsAll mi_X12_readsAll [.ref (E.1 0)] (fun r => (some (.int r.1), r.2)) g (fB_M_readsAll g) := by
  refine go_enter rfl rfl (Nat.le_of_ble_eq_true rfl) (lv := [(0, .ref (E.1 0))]) rfl ?_
  unfold fB_M_readsAll
  refine go_aload_n td_X12_readsAll 0 rfl (q := 1) rfl 0 rfl ?_
  refine go_iconst td_X12_readsAll 1 rfl (q := 2) rfl kc_0 ?_
  refine go_put td_X12_readsAll 2 rfl (q := 5) rfl flp_X12_75 (Bc_0 E g) rfl rfl (Nat.le_of_ble_eq_true rfl) (Bps_21 E g 0) ?_
  refine go_bvg (fun g1 => ?_)
  refine go_aload_n td_X12_readsAll 3 rfl (q := 6) rfl 0 rfl ?_
  refine go_iconst td_X12_readsAll 4 rfl (q := 7) rfl kc_0 ?_
  refine go_put td_X12_readsAll 5 rfl (q := 10) rfl flp_X12_78 (Bc_0 E g1) rfl rfl (Nat.le_of_ble_eq_true rfl) (Bps_22 E g1 0) ?_
  refine go_bvg (fun g2 => ?_)
  refine go_aload_n td_X12_readsAll 6 rfl (q := 11) rfl 0 rfl ?_
  refine go_iconst td_X12_readsAll 7 rfl (q := 12) rfl kc_0 ?_
  refine go_put td_X12_readsAll 8 rfl (q := 15) rfl flp_X12_81 (Bc_0 E g2) rfl rfl (Nat.le_of_ble_eq_true rfl) (Bps_23 E g2 0) ?_
  refine go_bvg (fun g3 => ?_)
  refine go_aload_n td_X12_readsAll 9 rfl (q := 16) rfl 0 rfl ?_
  refine go_aload_n td_X12_readsAll 10 rfl (q := 17) rfl 0 rfl ?_
  refine go_iconst td_X12_readsAll 11 rfl (q := 18) rfl kc_0 ?_
  refine go_iconst td_X12_readsAll 12 rfl (q := 19) rfl kc_4 ?_
  refine go_bipush td_X12_readsAll 13 rfl (q := 21) rfl kb_24 ?_
  refine go_callV td_X12_readsAll 14 rfl (q := 24) rfl (XkB E) lk_X12_271 (ok_fB_M_told E 0 4 24 g3) ⟨rfl, rfl, Nat.le_of_ble_eq_true rfl, Nat.le_of_ble_eq_true rfl⟩ rfl rfl (Nat.le_of_ble_eq_true rfl) (Bc_0 E g3) rfl (fun x4 => ?_)
  show Go (wCB E) _ _ x4.2 24 _ [.int x4.1, .ref (E.1 0)] _
  refine go_put td_X12_readsAll 15 rfl (q := 27) rfl flp_X12_66 (Bc_0 E x4.2) rfl rfl (Nat.le_of_ble_eq_true rfl) (Bps_18 E x4.2 x4.1) ?_
  refine go_bvg (fun g5 => ?_)
  refine go_aload_n td_X12_readsAll 16 rfl (q := 28) rfl 0 rfl ?_
  refine go_aload_n td_X12_readsAll 17 rfl (q := 29) rfl 0 rfl ?_
  refine go_iconst td_X12_readsAll 18 rfl (q := 30) rfl kc_1 ?_
  refine go_iconst td_X12_readsAll 19 rfl (q := 31) rfl kc_3 ?_
  refine go_bipush td_X12_readsAll 20 rfl (q := 33) rfl kb_12 ?_
  refine go_callV td_X12_readsAll 21 rfl (q := 36) rfl (XkB E) lk_X12_271 (ok_fB_M_told E 1 3 12 g5) ⟨rfl, rfl, Nat.le_of_ble_eq_true rfl, Nat.le_of_ble_eq_true rfl⟩ rfl rfl (Nat.le_of_ble_eq_true rfl) (Bc_0 E g5) rfl (fun x6 => ?_)
  show Go (wCB E) _ _ x6.2 36 _ [.int x6.1, .ref (E.1 0)] _
  refine go_put td_X12_readsAll 22 rfl (q := 39) rfl flp_X12_69 (Bc_0 E x6.2) rfl rfl (Nat.le_of_ble_eq_true rfl) (Bps_19 E x6.2 x6.1) ?_
  refine go_bvg (fun g7 => ?_)
  refine go_aload_n td_X12_readsAll 23 rfl (q := 40) rfl 0 rfl ?_
  refine go_aload_n td_X12_readsAll 24 rfl (q := 41) rfl 0 rfl ?_
  refine go_iconst td_X12_readsAll 25 rfl (q := 42) rfl kc_2 ?_
  refine go_iconst td_X12_readsAll 26 rfl (q := 43) rfl kc_2 ?_
  refine go_bipush td_X12_readsAll 27 rfl (q := 45) rfl kb_96 ?_
  refine go_callV td_X12_readsAll 28 rfl (q := 48) rfl (XkB E) lk_X12_271 (ok_fB_M_told E 2 2 96 g7) ⟨rfl, rfl, Nat.le_of_ble_eq_true rfl, Nat.le_of_ble_eq_true rfl⟩ rfl rfl (Nat.le_of_ble_eq_true rfl) (Bc_0 E g7) rfl (fun x8 => ?_)
  show Go (wCB E) _ _ x8.2 48 _ [.int x8.1, .ref (E.1 0)] _
  refine go_put td_X12_readsAll 29 rfl (q := 51) rfl flp_X12_72 (Bc_0 E x8.2) rfl rfl (Nat.le_of_ble_eq_true rfl) (Bps_20 E x8.2 x8.1) ?_
  refine go_bvg (fun g9 => ?_)
  refine go_aload_n td_X12_readsAll 30 rfl (q := 52) rfl 0 rfl ?_
  refine go_callV td_X12_readsAll 31 rfl (q := 55) rfl (XkB E) lk_X12_278 (ok_fB_M_endsWell E g9) ⟨rfl, rfl, Nat.le_of_ble_eq_true rfl, Nat.le_of_ble_eq_true rfl⟩ rfl rfl (Nat.le_of_ble_eq_true rfl) (Bc_0 E g9) rfl (fun x10 => ?_)
  show Go (wCB E) _ _ x10 55 _ [] _
  refine go_iconst td_X12_readsAll 32 rfl (q := 56) rfl kc_1 ?_
  refine go_istore_n [(1, .int 1), (0, .ref (E.1 0))] td_X12_readsAll 33 rfl (q := 57) rfl (Nat.le_of_ble_eq_true rfl) rfl ?_
  refine go_pick [1, 0] (lv' := [(0, .ref (E.1 0)), (1, .int 1)]) rfl ?_
  refine (show ∀ (u11_0 : Int32) (u11_1 : G), Go (wCB E) _ _ u11_1 57 [(0, .ref (E.1 0)), (1, .int u11_0)] [] (Lp (α := Int32 × G) _ FU (u11_0, u11_1)) from ?_) 1 x10
  intro u11_0 u11_1
  refine go_Lp (α := Int32 × G) (fun s11 => s11.2) (fun s11 => [(0, .ref (E.1 0)), (1, .int s11.1)]) ?_ FU (u11_0, u11_1)
  intro rec11 hrec11 s11
  have krec11 : ∀ (u11_0 : Int32) (u11_1 : G), Go (wCB E) _ _ u11_1 57 [(0, .ref (E.1 0)), (1, .int u11_0)] [] (rec11 (u11_0, u11_1)) := fun u11_0 u11_1 => hrec11 (u11_0, u11_1)
  refine go_aload_n td_X12_readsAll 34 rfl (q := 58) rfl 0 rfl ?_
  refine go_callV td_X12_readsAll 35 rfl (q := 61) rfl (XkB E) lk_X12_224 (ok_fB_M_goes E s11.2) ⟨rfl, rfl, Nat.le_of_ble_eq_true rfl, Nat.le_of_ble_eq_true rfl⟩ rfl rfl (Nat.le_of_ble_eq_true rfl) (Bc_0 E s11.2) rfl (fun x12 => ?_)
  show Go (wCB E) _ _ s11.2 61 _ [.int x12] _
  refine go_ljX (α := G) (fun b13 => [(0, .ref (E.1 0)), (1, .int s11.1)]) (fun b13 => []) (fun b13 => b13) 149 ?_ ?_
  · intro b13
    refine go_aload_n td_X12_readsAll 78 rfl (q := 150) rfl 0 rfl ?_
    refine go_callV td_X12_readsAll 79 rfl (q := 153) rfl (XkB E) lk_X12_224 (ok_fB_M_goes E b13) ⟨rfl, rfl, Nat.le_of_ble_eq_true rfl, Nat.le_of_ble_eq_true rfl⟩ rfl rfl (Nat.le_of_ble_eq_true rfl) (Bc_0 E b13) rfl (fun x14 => ?_)
    show Go (wCB E) _ _ b13 153 _ [.int x14] _
    refine go_if_eq 176 td_X12_readsAll 80 rfl rfl (q := 156) rfl (fun _ => ?_) (fun _ => ?_)
    · refine go_iload_n td_X12_readsAll 90 rfl (q := 177) rfl 1 rfl ?_
      exact go_iret td_X12_readsAll 91 rfl rfl rfl
    · refine go_aload_n td_X12_readsAll 81 rfl (q := 157) rfl 0 rfl ?_
      refine go_callV td_X12_readsAll 82 rfl (q := 160) rfl (XkB E) lk_X12_290 (ok_fB_M_readCycle E b13) ⟨rfl, rfl, Nat.le_of_ble_eq_true rfl, Nat.le_of_ble_eq_true rfl⟩ rfl rfl (Nat.le_of_ble_eq_true rfl) (Bc_0 E b13) rfl (fun x15 => ?_)
      show Go (wCB E) _ _ b13 160 _ [.int x15] _
      refine go_sipush td_X12_readsAll 83 rfl (q := 163) rfl ks_240 ?_
      refine go_icmp_le 176 td_X12_readsAll 84 rfl rfl (q := 166) rfl (fun _ => ?_) (fun _ => ?_)
      · refine go_iload_n td_X12_readsAll 90 rfl (q := 177) rfl 1 rfl ?_
        exact go_iret td_X12_readsAll 91 rfl rfl rfl
      · refine go_aload_n td_X12_readsAll 85 rfl (q := 167) rfl 0 rfl ?_
        refine go_bipush td_X12_readsAll 86 rfl (q := 169) rfl kb_6 ?_
        refine go_aload_n td_X12_readsAll 87 rfl (q := 170) rfl 0 rfl ?_
        refine go_get td_X12_readsAll 88 rfl (q := 173) rfl fl_X12_123 (Bc_0 E b13) rfl ?_
        refine go_callV td_X12_readsAll 89 rfl (q := 176) rfl (XkB E) lk_X12_238 (ok_fB_M_fails E 6 (b13.1 37) b13) ⟨rfl, rfl, Nat.le_of_ble_eq_true rfl, Nat.le_of_ble_eq_true rfl⟩ rfl rfl (Nat.le_of_ble_eq_true rfl) (Bc_0 E b13) rfl (fun x16 => ?_)
        show Go (wCB E) _ _ x16 176 _ [] _
        refine go_iload_n td_X12_readsAll 90 rfl (q := 177) rfl 1 rfl ?_
        exact go_iret td_X12_readsAll 91 rfl rfl rfl
  intro J13 hJ13
  have kJ13 : ∀ (u13_0 : G), Go (wCB E) _ _ u13_0 149 [(0, .ref (E.1 0)), (1, .int s11.1)] [] (J13 u13_0) := fun u13_0 => hJ13 u13_0
  refine go_if_eq 149 td_X12_readsAll 36 rfl rfl (q := 64) rfl (fun _ => ?_) (fun _ => ?_)
  · refine go_pick [0, 1] (lv' := [(0, .ref (E.1 0)), (1, .int s11.1)]) rfl ?_
    exact kJ13 s11.2
  · refine go_aload_n td_X12_readsAll 37 rfl (q := 65) rfl 0 rfl ?_
    refine go_callV td_X12_readsAll 38 rfl (q := 68) rfl (XkB E) lk_X12_228 (ok_fB_M_here E s11.2) ⟨rfl, rfl, Nat.le_of_ble_eq_true rfl, Nat.le_of_ble_eq_true rfl⟩ rfl rfl (Nat.le_of_ble_eq_true rfl) (Bc_0 E s11.2) rfl (fun x17 => ?_)
    show Go (wCB E) _ _ x17.2 68 _ [.int x17.1] _
    refine go_iconst td_X12_readsAll 39 rfl (q := 69) rfl kc_m1 ?_
    refine go_icmp_eq 149 td_X12_readsAll 40 rfl rfl (q := 72) rfl (fun _ => ?_) (fun _ => ?_)
    · refine go_pick [0, 1] (lv' := [(0, .ref (E.1 0)), (1, .int s11.1)]) rfl ?_
      exact kJ13 x17.2
    · refine go_aload_n td_X12_readsAll 41 rfl (q := 73) rfl 0 rfl ?_
      refine go_callV td_X12_readsAll 42 rfl (q := 76) rfl (XkB E) lk_X12_242 (ok_fB_M_word E x17.2) ⟨rfl, rfl, Nat.le_of_ble_eq_true rfl, Nat.le_of_ble_eq_true rfl⟩ rfl rfl (Nat.le_of_ble_eq_true rfl) (Bc_0 E x17.2) rfl (fun x18 => ?_)
      show Go (wCB E) _ _ x18 76 _ [] _
      refine go_aload_n td_X12_readsAll 43 rfl (q := 77) rfl 0 rfl ?_
      refine go_callV td_X12_readsAll 44 rfl (q := 80) rfl (XkB E) lk_X12_224 (ok_fB_M_goes E x18) ⟨rfl, rfl, Nat.le_of_ble_eq_true rfl, Nat.le_of_ble_eq_true rfl⟩ rfl rfl (Nat.le_of_ble_eq_true rfl) (Bc_0 E x18) rfl (fun x19 => ?_)
      show Go (wCB E) _ _ x18 80 _ [.int x19] _
      refine go_ljX (α := Int32) (fun b20 => [(0, .ref (E.1 0)), (1, .int s11.1)]) (fun b20 => [.int b20]) (fun b20 => x18) 91 ?_ ?_
      · intro b20
        refine go_istore_n [(2, .int b20), (0, .ref (E.1 0)), (1, .int s11.1)] td_X12_readsAll 50 rfl (q := 92) rfl (Nat.le_of_ble_eq_true rfl) rfl ?_
        refine go_iload_n td_X12_readsAll 51 rfl (q := 93) rfl 0 rfl ?_
        refine go_iconst td_X12_readsAll 52 rfl (q := 94) rfl kc_3 ?_
        refine go_ljX (α := G) (fun b21 => [(0, .ref (E.1 0)), (1, .int s11.1)]) (fun b21 => []) (fun b21 => b21) 139 ?_ ?_
        · intro b21
          refine go_aload_n td_X12_readsAll 74 rfl (q := 140) rfl 0 rfl ?_
          refine go_callV td_X12_readsAll 75 rfl (q := 143) rfl (XkB E) lk_X12_278 (ok_fB_M_endsWell E b21) ⟨rfl, rfl, Nat.le_of_ble_eq_true rfl, Nat.le_of_ble_eq_true rfl⟩ rfl rfl (Nat.le_of_ble_eq_true rfl) (Bc_0 E b21) rfl (fun x22 => ?_)
          show Go (wCB E) _ _ x22 143 _ [] _
          refine go_iinc [(1, .int (s11.1 + 1)), (0, .ref (E.1 0))] td_X12_readsAll 76 rfl (q := 146) rfl 1 rfl kc_1 (Nat.le_of_ble_eq_true rfl) rfl ?_
          refine go_goto td_X12_readsAll 77 rfl (q := 57) rfl ?_
          refine go_pick [1, 0] (lv' := [(0, .ref (E.1 0)), (1, .int (s11.1 + 1))]) rfl ?_
          exact krec11 (s11.1 + 1) x22
        intro J21 hJ21
        have kJ21 : ∀ (u21_0 : G), Go (wCB E) _ _ u21_0 139 [(0, .ref (E.1 0)), (1, .int s11.1)] [] (J21 u21_0) := fun u21_0 => hJ21 u21_0
        refine go_icmp_ne 104 td_X12_readsAll 53 rfl rfl (q := 97) rfl (fun _ => ?_) (fun _ => ?_)
        · refine go_iload_n td_X12_readsAll 57 rfl (q := 105) rfl 0 rfl ?_
          refine go_bipush td_X12_readsAll 58 rfl (q := 107) rfl kb_7 ?_
          refine go_icmp_ne 117 td_X12_readsAll 59 rfl rfl (q := 110) rfl (fun _ => ?_) (fun _ => ?_)
          · refine go_iload_n td_X12_readsAll 63 rfl (q := 118) rfl 0 rfl ?_
            refine go_bipush td_X12_readsAll 64 rfl (q := 120) rfl kb_11 ?_
            refine go_icmp_ne 130 td_X12_readsAll 65 rfl rfl (q := 123) rfl (fun _ => ?_) (fun _ => ?_)
            · refine go_aload_n td_X12_readsAll 69 rfl (q := 131) rfl 1 rfl ?_
              refine go_iconst td_X12_readsAll 70 rfl (q := 132) rfl kc_1 ?_
              refine go_aload_n td_X12_readsAll 71 rfl (q := 133) rfl 1 rfl ?_
              refine go_get td_X12_readsAll 72 rfl (q := 136) rfl fl_X12_129 (Bc_0 E x18) rfl ?_
              refine go_callV td_X12_readsAll 73 rfl (q := 139) rfl (XkB E) lk_X12_238 (ok_fB_M_fails E 1 (x18.1 39) x18) ⟨rfl, rfl, Nat.le_of_ble_eq_true rfl, Nat.le_of_ble_eq_true rfl⟩ rfl rfl (Nat.le_of_ble_eq_true rfl) (Bc_0 E x18) rfl (fun x23 => ?_)
              show Go (wCB E) _ _ x23 139 _ [] _
              refine go_pick [1, 2] (lv' := [(0, .ref (E.1 0)), (1, .int s11.1)]) rfl ?_
              exact kJ21 x23
            · refine go_aload_n td_X12_readsAll 66 rfl (q := 124) rfl 1 rfl ?_
              refine go_callV td_X12_readsAll 67 rfl (q := 127) rfl (XkB E) lk_X12_287 (ok_fB_M_readsSite E x18) ⟨rfl, rfl, Nat.le_of_ble_eq_true rfl, Nat.le_of_ble_eq_true rfl⟩ rfl rfl (Nat.le_of_ble_eq_true rfl) (Bc_0 E x18) rfl (fun x24 => ?_)
              show Go (wCB E) _ _ x24 127 _ [] _
              refine go_goto td_X12_readsAll 68 rfl (q := 139) rfl ?_
              refine go_pick [1, 2] (lv' := [(0, .ref (E.1 0)), (1, .int s11.1)]) rfl ?_
              exact kJ21 x24
          · refine go_aload_n td_X12_readsAll 60 rfl (q := 111) rfl 1 rfl ?_
            refine go_callV td_X12_readsAll 61 rfl (q := 114) rfl (XkB E) lk_X12_284 (ok_fB_M_readsCraft E x18) ⟨rfl, rfl, Nat.le_of_ble_eq_true rfl, Nat.le_of_ble_eq_true rfl⟩ rfl rfl (Nat.le_of_ble_eq_true rfl) (Bc_0 E x18) rfl (fun x25 => ?_)
            show Go (wCB E) _ _ x25 114 _ [] _
            refine go_goto td_X12_readsAll 62 rfl (q := 139) rfl ?_
            refine go_pick [1, 2] (lv' := [(0, .ref (E.1 0)), (1, .int s11.1)]) rfl ?_
            exact kJ21 x25
        · refine go_aload_n td_X12_readsAll 54 rfl (q := 98) rfl 1 rfl ?_
          refine go_callV td_X12_readsAll 55 rfl (q := 101) rfl (XkB E) lk_X12_281 (ok_fB_M_readsPlane E x18) ⟨rfl, rfl, Nat.le_of_ble_eq_true rfl, Nat.le_of_ble_eq_true rfl⟩ rfl rfl (Nat.le_of_ble_eq_true rfl) (Bc_0 E x18) rfl (fun x26 => ?_)
          show Go (wCB E) _ _ x26 101 _ [] _
          refine go_goto td_X12_readsAll 56 rfl (q := 139) rfl ?_
          refine go_pick [1, 2] (lv' := [(0, .ref (E.1 0)), (1, .int s11.1)]) rfl ?_
          exact kJ21 x26
      intro J20 hJ20
      have kJ20 : ∀ (u20_0 : Int32), Go (wCB E) _ _ x18 91 [(0, .ref (E.1 0)), (1, .int s11.1)] [.int u20_0] (J20 u20_0) := fun u20_0 => hJ20 u20_0
      refine go_if_eq 90 td_X12_readsAll 45 rfl rfl (q := 83) rfl (fun _ => ?_) (fun _ => ?_)
      · refine go_iconst td_X12_readsAll 49 rfl (q := 91) rfl kc_m1 ?_
        refine go_pick [0, 1] (lv' := [(0, .ref (E.1 0)), (1, .int s11.1)]) rfl ?_
        exact kJ20 (-1)
      · refine go_aload_n td_X12_readsAll 46 rfl (q := 84) rfl 0 rfl ?_
        refine go_callV td_X12_readsAll 47 rfl (q := 87) rfl (XkB E) lk_X12_245 (ok_fB_M_own E x18) ⟨rfl, rfl, Nat.le_of_ble_eq_true rfl, Nat.le_of_ble_eq_true rfl⟩ rfl rfl (Nat.le_of_ble_eq_true rfl) (Bc_0 E x18) rfl (fun x27 => ?_)
        show Go (wCB E) _ _ x18 87 _ [.int x27] _
        refine go_goto td_X12_readsAll 48 rfl (q := 91) rfl ?_
        refine go_pick [0, 1] (lv' := [(0, .ref (E.1 0)), (1, .int s11.1)]) rfl ?_
        exact kJ20 x27
def fB_M_away (a1 : Int32) (a2 : Int32) (g : G) : Option (Int32) := (if a2 ≤ a1 then some (a1 - a2) else some (a2 - a1))
set_option maxRecDepth 20000 in
set_option maxHeartbeats 4000000 in
theorem ok_fB_M_away (E : Ev) (a1 : Int32) (a2 : Int32) (g : G)  : Ct (wCB E) yX12_away mi_X12_away [.int a1, .int a2] (fun r => (some (.int r), g)) g (fB_M_away a1 a2 g) := by
  refine go_enter rfl rfl (Nat.le_of_ble_eq_true rfl) (lv := [(0, .int a1), (1, .int a2)]) rfl ?_
  unfold fB_M_away
  refine go_iload_n td_X12_away 0 rfl (q := 1) rfl 0 rfl ?_
  refine go_iload_n td_X12_away 1 rfl (q := 2) rfl 1 rfl ?_
  refine go_icmp_ge 11 td_X12_away 2 rfl rfl (q := 5) rfl (fun _ => ?_) (fun _ => ?_)
  · refine go_iload_n td_X12_away 7 rfl (q := 12) rfl 0 rfl ?_
    refine go_iload_n td_X12_away 8 rfl (q := 13) rfl 1 rfl ?_
    refine go_isub td_X12_away 9 rfl (q := 14) rfl ?_
    exact go_iret td_X12_away 10 rfl rfl rfl
  · refine go_iload_n td_X12_away 3 rfl (q := 6) rfl 1 rfl ?_
    refine go_iload_n td_X12_away 4 rfl (q := 7) rfl 0 rfl ?_
    refine go_isub td_X12_away 5 rfl (q := 8) rfl ?_
    refine go_goto td_X12_away 6 rfl (q := 14) rfl ?_
    exact go_iret td_X12_away 10 rfl rfl rfl
def fB_M_widthOf (a1 : Int32) (g : G) : Option (Int32) := Option.bind (fB_M_away (2 * a1) ((g.1 2) - 1) g) fun x1 => dz 2 (some ((g.1 2) - (x1 / 2)))
set_option maxRecDepth 20000 in
set_option maxHeartbeats 4000000 in
theorem ok_fB_M_widthOf (E : Ev) (a1 : Int32) (g : G)  : Ct (wCB E) yX12_widthOf mi_X12_widthOf [.ref (E.1 0), .int a1] (fun r => (some (.int r), g)) g (fB_M_widthOf a1 g) := by
  refine go_enter rfl rfl (Nat.le_of_ble_eq_true rfl) (lv := [(0, .ref (E.1 0)), (1, .int a1)]) rfl ?_
  unfold fB_M_widthOf
  refine go_aload_n td_X12_widthOf 0 rfl (q := 1) rfl 0 rfl ?_
  refine go_get td_X12_widthOf 1 rfl (q := 4) rfl fl_X12_17 (Bc_0 E g) rfl ?_
  refine go_iconst td_X12_widthOf 2 rfl (q := 5) rfl kc_2 ?_
  refine go_iload_n td_X12_widthOf 3 rfl (q := 6) rfl 1 rfl ?_
  refine go_imul td_X12_widthOf 4 rfl (q := 7) rfl ?_
  refine go_aload_n td_X12_widthOf 5 rfl (q := 8) rfl 0 rfl ?_
  refine go_get td_X12_widthOf 6 rfl (q := 11) rfl fl_X12_17 (Bc_0 E g) rfl ?_
  refine go_iconst td_X12_widthOf 7 rfl (q := 12) rfl kc_1 ?_
  refine go_isub td_X12_widthOf 8 rfl (q := 13) rfl ?_
  refine go_callS td_X12_widthOf 9 rfl (q := 16) rfl (XkB E) lk_X12_311 (ok_fB_M_away E (2 * a1) ((g.1 2) - 1) g) ⟨rfl, rfl, Nat.le_of_ble_eq_true rfl, Nat.le_of_ble_eq_true rfl⟩ rfl rfl (Nat.le_of_ble_eq_true rfl) (fun x1 => ?_)
  show Go (wCB E) _ _ g 16 _ [.int x1, .int (g.1 2)] _
  refine go_iconst td_X12_widthOf 10 rfl (q := 17) rfl kc_2 ?_
  refine go_idiv td_X12_widthOf 11 rfl (q := 18) rfl ?_
  refine go_isub td_X12_widthOf 12 rfl (q := 19) rfl ?_
  exact go_iret td_X12_widthOf 13 rfl rfl rfl
def fB_M_tellsAll (g : G) : Option (G) := bv (sS g 0 1) fun g1 => bv (sS g1 1 (g1.1 18)) fun g2 => bv (sS g2 2 (g2.1 19)) fun g3 => bv (sS g3 3 (g3.1 20)) fun g4 => bv (sS g4 4 (g4.1 21)) fun g5 => bv (sS g5 5 (g5.1 22)) fun g6 => bv (sS g6 6 (g6.1 23)) fun g7 => Option.bind (fB_M_readCycle g7) fun x8 => bv (sS g7 7 x8) fun g9 => bv (sS g9 8 ((g9.1 1) * (g9.1 2))) fun g10 => Lp (α := Int32 × G) (fun rec11 s11 => (if (s11.2.1 4) ≤ s11.1 then Lp (α := Int32 × G) (fun rec12 s12 => (if (s12.2.1 5) ≤ s12.1 then Lp (α := Int32 × G) (fun rec13 s13 => (if 24 ≤ s13.1 then Lp (α := Int32 × G) (fun rec14 s14 => (if 108 ≤ s14.1 then bv (sS s14.2 9 0) fun g15 => Lp (α := Int32 × G) (fun rec16 s16 => (if (s16.2.1 2) ≤ s16.1 then some s16.2 else Option.bind (fB_M_widthOf s16.1 s16.2) fun x17 => bv (sS s16.2 9 ((s16.2.1 9) + ((s16.2.1 1) * x17))) fun g18 => rec16 (s16.1 + 1, g18))) FU (0, g15) else ag 108 (s14.2.2.1 16) s14.1 fun x19 => ck 108 s14.1 (bv (sA s14.2 8 (s14.1 : Int32).toNatClampNeg x19) fun g20 => rec14 (s14.1 + 1, g20)))) FU (0, s13.2) else ag 24 (s13.2.2.1 15) s13.1 fun x21 => ck 24 s13.1 (bv (sA s13.2 7 (s13.1 : Int32).toNatClampNeg x21) fun g22 => rec13 (s13.1 + 1, g22)))) FU (0, s12.2) else ag 8 (s12.2.2.1 12) s12.1 fun x23 => ck 8 s12.1 (bv (sA s12.2 4 (s12.1 : Int32).toNatClampNeg x23) fun g24 => ag 8 (g24.2.1 13) s12.1 fun x25 => ck 8 s12.1 (bv (sA g24 5 (s12.1 : Int32).toNatClampNeg x25) fun g26 => ag 8 (g26.2.1 14) s12.1 fun x27 => ck 8 s12.1 (bv (sA g26 6 (s12.1 : Int32).toNatClampNeg x27) fun g28 => rec12 (s12.1 + 1, g28)))))) FU (0, s11.2) else ag 4 (s11.2.2.1 9) s11.1 fun x29 => ck 4 s11.1 (bv (sA s11.2 1 (s11.1 : Int32).toNatClampNeg x29) fun g30 => ag 4 (g30.2.1 10) s11.1 fun x31 => ck 4 s11.1 (bv (sA g30 2 (s11.1 : Int32).toNatClampNeg x31) fun g32 => ag 4 (g32.2.1 11) s11.1 fun x33 => ck 4 s11.1 (bv (sA g32 3 (s11.1 : Int32).toNatClampNeg x33) fun g34 => rec11 (s11.1 + 1, g34)))))) FU (0, g10)
set_option maxRecDepth 20000 in
set_option maxHeartbeats 4000000 in
theorem ok_fB_M_tellsAll (E : Ev)  (g : G)  : Ct (wCB E) yX12_tellsAll mi_X12_tellsAll [.ref (E.1 0)] (fun r => (none, r)) g (fB_M_tellsAll g) := by
  refine go_enter rfl rfl (Nat.le_of_ble_eq_true rfl) (lv := [(0, .ref (E.1 0))]) rfl ?_
  unfold fB_M_tellsAll
  refine go_aload_n td_X12_tellsAll 0 rfl (q := 1) rfl 0 rfl ?_
  refine go_iconst td_X12_tellsAll 1 rfl (q := 2) rfl kc_1 ?_
  refine go_put td_X12_tellsAll 2 rfl (q := 5) rfl flp_X12_7 (Bc_0 E g) rfl rfl (Nat.le_of_ble_eq_true rfl) (Bps_0 E g 1) ?_
  refine go_bvg (fun g1 => ?_)
  refine go_aload_n td_X12_tellsAll 3 rfl (q := 6) rfl 0 rfl ?_
  refine go_aload_n td_X12_tellsAll 4 rfl (q := 7) rfl 0 rfl ?_
  refine go_get td_X12_tellsAll 5 rfl (q := 10) rfl fl_X12_66 (Bc_0 E g1) rfl ?_
  refine go_put td_X12_tellsAll 6 rfl (q := 13) rfl flp_X12_13 (Bc_0 E g1) rfl rfl (Nat.le_of_ble_eq_true rfl) (Bps_1 E g1 (g1.1 18)) ?_
  refine go_bvg (fun g2 => ?_)
  refine go_aload_n td_X12_tellsAll 7 rfl (q := 14) rfl 0 rfl ?_
  refine go_aload_n td_X12_tellsAll 8 rfl (q := 15) rfl 0 rfl ?_
  refine go_get td_X12_tellsAll 9 rfl (q := 18) rfl fl_X12_69 (Bc_0 E g2) rfl ?_
  refine go_put td_X12_tellsAll 10 rfl (q := 21) rfl flp_X12_17 (Bc_0 E g2) rfl rfl (Nat.le_of_ble_eq_true rfl) (Bps_2 E g2 (g2.1 19)) ?_
  refine go_bvg (fun g3 => ?_)
  refine go_aload_n td_X12_tellsAll 11 rfl (q := 22) rfl 0 rfl ?_
  refine go_aload_n td_X12_tellsAll 12 rfl (q := 23) rfl 0 rfl ?_
  refine go_get td_X12_tellsAll 13 rfl (q := 26) rfl fl_X12_72 (Bc_0 E g3) rfl ?_
  refine go_put td_X12_tellsAll 14 rfl (q := 29) rfl flp_X12_20 (Bc_0 E g3) rfl rfl (Nat.le_of_ble_eq_true rfl) (Bps_3 E g3 (g3.1 20)) ?_
  refine go_bvg (fun g4 => ?_)
  refine go_aload_n td_X12_tellsAll 15 rfl (q := 30) rfl 0 rfl ?_
  refine go_aload_n td_X12_tellsAll 16 rfl (q := 31) rfl 0 rfl ?_
  refine go_get td_X12_tellsAll 17 rfl (q := 34) rfl fl_X12_75 (Bc_0 E g4) rfl ?_
  refine go_put td_X12_tellsAll 18 rfl (q := 37) rfl flp_X12_23 (Bc_0 E g4) rfl rfl (Nat.le_of_ble_eq_true rfl) (Bps_4 E g4 (g4.1 21)) ?_
  refine go_bvg (fun g5 => ?_)
  refine go_aload_n td_X12_tellsAll 19 rfl (q := 38) rfl 0 rfl ?_
  refine go_aload_n td_X12_tellsAll 20 rfl (q := 39) rfl 0 rfl ?_
  refine go_get td_X12_tellsAll 21 rfl (q := 42) rfl fl_X12_78 (Bc_0 E g5) rfl ?_
  refine go_put td_X12_tellsAll 22 rfl (q := 45) rfl flp_X12_26 (Bc_0 E g5) rfl rfl (Nat.le_of_ble_eq_true rfl) (Bps_5 E g5 (g5.1 22)) ?_
  refine go_bvg (fun g6 => ?_)
  refine go_aload_n td_X12_tellsAll 23 rfl (q := 46) rfl 0 rfl ?_
  refine go_aload_n td_X12_tellsAll 24 rfl (q := 47) rfl 0 rfl ?_
  refine go_get td_X12_tellsAll 25 rfl (q := 50) rfl fl_X12_81 (Bc_0 E g6) rfl ?_
  refine go_put td_X12_tellsAll 26 rfl (q := 53) rfl flp_X12_29 (Bc_0 E g6) rfl rfl (Nat.le_of_ble_eq_true rfl) (Bps_6 E g6 (g6.1 23)) ?_
  refine go_bvg (fun g7 => ?_)
  refine go_aload_n td_X12_tellsAll 27 rfl (q := 54) rfl 0 rfl ?_
  refine go_aload_n td_X12_tellsAll 28 rfl (q := 55) rfl 0 rfl ?_
  refine go_callV td_X12_tellsAll 29 rfl (q := 58) rfl (XkB E) lk_X12_290 (ok_fB_M_readCycle E g7) ⟨rfl, rfl, Nat.le_of_ble_eq_true rfl, Nat.le_of_ble_eq_true rfl⟩ rfl rfl (Nat.le_of_ble_eq_true rfl) (Bc_0 E g7) rfl (fun x8 => ?_)
  show Go (wCB E) _ _ g7 58 _ [.int x8, .ref (E.1 0)] _
  refine go_put td_X12_tellsAll 30 rfl (q := 61) rfl flp_X12_32 (Bc_0 E g7) rfl rfl (Nat.le_of_ble_eq_true rfl) (Bps_7 E g7 x8) ?_
  refine go_bvg (fun g9 => ?_)
  refine go_aload_n td_X12_tellsAll 31 rfl (q := 62) rfl 0 rfl ?_
  refine go_aload_n td_X12_tellsAll 32 rfl (q := 63) rfl 0 rfl ?_
  refine go_get td_X12_tellsAll 33 rfl (q := 66) rfl fl_X12_13 (Bc_0 E g9) rfl ?_
  refine go_aload_n td_X12_tellsAll 34 rfl (q := 67) rfl 0 rfl ?_
  refine go_get td_X12_tellsAll 35 rfl (q := 70) rfl fl_X12_17 (Bc_0 E g9) rfl ?_
  refine go_imul td_X12_tellsAll 36 rfl (q := 71) rfl ?_
  refine go_put td_X12_tellsAll 37 rfl (q := 74) rfl flp_X12_35 (Bc_0 E g9) rfl rfl (Nat.le_of_ble_eq_true rfl) (Bps_8 E g9 ((g9.1 1) * (g9.1 2))) ?_
  refine go_bvg (fun g10 => ?_)
  refine go_iconst td_X12_tellsAll 38 rfl (q := 75) rfl kc_0 ?_
  refine go_istore_n [(1, .int 0), (0, .ref (E.1 0))] td_X12_tellsAll 39 rfl (q := 76) rfl (Nat.le_of_ble_eq_true rfl) rfl ?_
  refine go_pick [1, 0] (lv' := [(0, .ref (E.1 0)), (1, .int 0)]) rfl ?_
  refine (show ∀ (u11_0 : Int32) (u11_1 : G), Go (wCB E) _ _ u11_1 76 [(0, .ref (E.1 0)), (1, .int u11_0)] [] (Lp (α := Int32 × G) _ FU (u11_0, u11_1)) from ?_) 0 g10
  intro u11_0 u11_1
  refine go_Lp (α := Int32 × G) (fun s11 => s11.2) (fun s11 => [(0, .ref (E.1 0)), (1, .int s11.1)]) ?_ FU (u11_0, u11_1)
  intro rec11 hrec11 s11
  have krec11 : ∀ (u11_0 : Int32) (u11_1 : G), Go (wCB E) _ _ u11_1 76 [(0, .ref (E.1 0)), (1, .int u11_0)] [] (rec11 (u11_0, u11_1)) := fun u11_0 u11_1 => hrec11 (u11_0, u11_1)
  refine go_iload_n td_X12_tellsAll 40 rfl (q := 77) rfl 1 rfl ?_
  refine go_aload_n td_X12_tellsAll 41 rfl (q := 78) rfl 0 rfl ?_
  refine go_get td_X12_tellsAll 42 rfl (q := 81) rfl fl_X12_23 (Bc_0 E s11.2) rfl ?_
  refine go_icmp_ge 126 td_X12_tellsAll 43 rfl rfl (q := 84) rfl (fun _ => ?_) (fun _ => ?_)
  · refine go_iconst td_X12_tellsAll 70 rfl (q := 127) rfl kc_0 ?_
    refine go_istore_n [(1, .int 0), (0, .ref (E.1 0))] td_X12_tellsAll 71 rfl (q := 128) rfl (Nat.le_of_ble_eq_true rfl) rfl ?_
    refine go_pick [1, 0] (lv' := [(0, .ref (E.1 0)), (1, .int 0)]) rfl ?_
    refine (show ∀ (u12_0 : Int32) (u12_1 : G), Go (wCB E) _ _ u12_1 128 [(0, .ref (E.1 0)), (1, .int u12_0)] [] (Lp (α := Int32 × G) _ FU (u12_0, u12_1)) from ?_) 0 s11.2
    intro u12_0 u12_1
    refine go_Lp (α := Int32 × G) (fun s12 => s12.2) (fun s12 => [(0, .ref (E.1 0)), (1, .int s12.1)]) ?_ FU (u12_0, u12_1)
    intro rec12 hrec12 s12
    have krec12 : ∀ (u12_0 : Int32) (u12_1 : G), Go (wCB E) _ _ u12_1 128 [(0, .ref (E.1 0)), (1, .int u12_0)] [] (rec12 (u12_0, u12_1)) := fun u12_0 u12_1 => hrec12 (u12_0, u12_1)
    refine go_iload_n td_X12_tellsAll 72 rfl (q := 129) rfl 1 rfl ?_
    refine go_aload_n td_X12_tellsAll 73 rfl (q := 130) rfl 0 rfl ?_
    refine go_get td_X12_tellsAll 74 rfl (q := 133) rfl fl_X12_26 (Bc_0 E s12.2) rfl ?_
    refine go_icmp_ge 178 td_X12_tellsAll 75 rfl rfl (q := 136) rfl (fun _ => ?_) (fun _ => ?_)
    · refine go_iconst td_X12_tellsAll 102 rfl (q := 179) rfl kc_0 ?_
      refine go_istore_n [(1, .int 0), (0, .ref (E.1 0))] td_X12_tellsAll 103 rfl (q := 180) rfl (Nat.le_of_ble_eq_true rfl) rfl ?_
      refine go_pick [1, 0] (lv' := [(0, .ref (E.1 0)), (1, .int 0)]) rfl ?_
      refine (show ∀ (u13_0 : Int32) (u13_1 : G), Go (wCB E) _ _ u13_1 180 [(0, .ref (E.1 0)), (1, .int u13_0)] [] (Lp (α := Int32 × G) _ FU (u13_0, u13_1)) from ?_) 0 s12.2
      intro u13_0 u13_1
      refine go_Lp (α := Int32 × G) (fun s13 => s13.2) (fun s13 => [(0, .ref (E.1 0)), (1, .int s13.1)]) ?_ FU (u13_0, u13_1)
      intro rec13 hrec13 s13
      have krec13 : ∀ (u13_0 : Int32) (u13_1 : G), Go (wCB E) _ _ u13_1 180 [(0, .ref (E.1 0)), (1, .int u13_0)] [] (rec13 (u13_0, u13_1)) := fun u13_0 u13_1 => hrec13 (u13_0, u13_1)
      refine go_iload_n td_X12_tellsAll 104 rfl (q := 181) rfl 1 rfl ?_
      refine go_bipush td_X12_tellsAll 105 rfl (q := 183) rfl kb_24 ?_
      refine go_icmp_ge 204 td_X12_tellsAll 106 rfl rfl (q := 186) rfl (fun _ => ?_) (fun _ => ?_)
      · refine go_iconst td_X12_tellsAll 117 rfl (q := 205) rfl kc_0 ?_
        refine go_istore_n [(1, .int 0), (0, .ref (E.1 0))] td_X12_tellsAll 118 rfl (q := 206) rfl (Nat.le_of_ble_eq_true rfl) rfl ?_
        refine go_pick [1, 0] (lv' := [(0, .ref (E.1 0)), (1, .int 0)]) rfl ?_
        refine (show ∀ (u14_0 : Int32) (u14_1 : G), Go (wCB E) _ _ u14_1 206 [(0, .ref (E.1 0)), (1, .int u14_0)] [] (Lp (α := Int32 × G) _ FU (u14_0, u14_1)) from ?_) 0 s13.2
        intro u14_0 u14_1
        refine go_Lp (α := Int32 × G) (fun s14 => s14.2) (fun s14 => [(0, .ref (E.1 0)), (1, .int s14.1)]) ?_ FU (u14_0, u14_1)
        intro rec14 hrec14 s14
        have krec14 : ∀ (u14_0 : Int32) (u14_1 : G), Go (wCB E) _ _ u14_1 206 [(0, .ref (E.1 0)), (1, .int u14_0)] [] (rec14 (u14_0, u14_1)) := fun u14_0 u14_1 => hrec14 (u14_0, u14_1)
        refine go_iload_n td_X12_tellsAll 119 rfl (q := 207) rfl 1 rfl ?_
        refine go_bipush td_X12_tellsAll 120 rfl (q := 209) rfl kb_108 ?_
        refine go_icmp_ge 230 td_X12_tellsAll 121 rfl rfl (q := 212) rfl (fun _ => ?_) (fun _ => ?_)
        · refine go_aload_n td_X12_tellsAll 132 rfl (q := 231) rfl 0 rfl ?_
          refine go_iconst td_X12_tellsAll 133 rfl (q := 232) rfl kc_0 ?_
          refine go_put td_X12_tellsAll 134 rfl (q := 235) rfl flp_X12_38 (Bc_0 E s14.2) rfl rfl (Nat.le_of_ble_eq_true rfl) (Bps_9 E s14.2 0) ?_
          refine go_bvg (fun g15 => ?_)
          refine go_iconst td_X12_tellsAll 135 rfl (q := 236) rfl kc_0 ?_
          refine go_istore_n [(1, .int 0), (0, .ref (E.1 0))] td_X12_tellsAll 136 rfl (q := 237) rfl (Nat.le_of_ble_eq_true rfl) rfl ?_
          refine go_pick [1, 0] (lv' := [(0, .ref (E.1 0)), (1, .int 0)]) rfl ?_
          refine (show ∀ (u16_0 : Int32) (u16_1 : G), Go (wCB E) _ _ u16_1 237 [(0, .ref (E.1 0)), (1, .int u16_0)] [] (Lp (α := Int32 × G) _ FU (u16_0, u16_1)) from ?_) 0 g15
          intro u16_0 u16_1
          refine go_Lp (α := Int32 × G) (fun s16 => s16.2) (fun s16 => [(0, .ref (E.1 0)), (1, .int s16.1)]) ?_ FU (u16_0, u16_1)
          intro rec16 hrec16 s16
          have krec16 : ∀ (u16_0 : Int32) (u16_1 : G), Go (wCB E) _ _ u16_1 237 [(0, .ref (E.1 0)), (1, .int u16_0)] [] (rec16 (u16_0, u16_1)) := fun u16_0 u16_1 => hrec16 (u16_0, u16_1)
          refine go_iload_n td_X12_tellsAll 137 rfl (q := 238) rfl 1 rfl ?_
          refine go_aload_n td_X12_tellsAll 138 rfl (q := 239) rfl 0 rfl ?_
          refine go_get td_X12_tellsAll 139 rfl (q := 242) rfl fl_X12_17 (Bc_0 E s16.2) rfl ?_
          refine go_icmp_ge 270 td_X12_tellsAll 140 rfl rfl (q := 245) rfl (fun _ => ?_) (fun _ => ?_)
          · exact go_vret td_X12_tellsAll 154 rfl rfl rfl
          · refine go_aload_n td_X12_tellsAll 141 rfl (q := 246) rfl 0 rfl ?_
            refine go_dup td_X12_tellsAll 142 rfl (q := 247) rfl rfl ?_
            refine go_get td_X12_tellsAll 143 rfl (q := 250) rfl fl_X12_38 (Bc_0 E s16.2) rfl ?_
            refine go_aload_n td_X12_tellsAll 144 rfl (q := 251) rfl 0 rfl ?_
            refine go_get td_X12_tellsAll 145 rfl (q := 254) rfl fl_X12_13 (Bc_0 E s16.2) rfl ?_
            refine go_aload_n td_X12_tellsAll 146 rfl (q := 255) rfl 0 rfl ?_
            refine go_iload_n td_X12_tellsAll 147 rfl (q := 256) rfl 1 rfl ?_
            refine go_callV td_X12_tellsAll 148 rfl (q := 259) rfl (XkB E) lk_X12_293 (ok_fB_M_widthOf E s16.1 s16.2) ⟨rfl, rfl, Nat.le_of_ble_eq_true rfl, Nat.le_of_ble_eq_true rfl⟩ rfl rfl (Nat.le_of_ble_eq_true rfl) (Bc_0 E s16.2) rfl (fun x17 => ?_)
            show Go (wCB E) _ _ s16.2 259 _ [.int x17, .int (s16.2.1 1), .int (s16.2.1 9), .ref (E.1 0)] _
            refine go_imul td_X12_tellsAll 149 rfl (q := 260) rfl ?_
            refine go_iadd td_X12_tellsAll 150 rfl (q := 261) rfl ?_
            refine go_put td_X12_tellsAll 151 rfl (q := 264) rfl flp_X12_38 (Bc_0 E s16.2) rfl rfl (Nat.le_of_ble_eq_true rfl) (Bps_9 E s16.2 ((s16.2.1 9) + ((s16.2.1 1) * x17))) ?_
            refine go_bvg (fun g18 => ?_)
            refine go_iinc [(1, .int (s16.1 + 1)), (0, .ref (E.1 0))] td_X12_tellsAll 152 rfl (q := 267) rfl 1 rfl kc_1 (Nat.le_of_ble_eq_true rfl) rfl ?_
            refine go_goto td_X12_tellsAll 153 rfl (q := 237) rfl ?_
            refine go_pick [1, 0] (lv' := [(0, .ref (E.1 0)), (1, .int (s16.1 + 1))]) rfl ?_
            exact krec16 (s16.1 + 1) g18
        · refine go_aload_n td_X12_tellsAll 122 rfl (q := 213) rfl 0 rfl ?_
          refine go_get td_X12_tellsAll 123 rfl (q := 216) rfl fl_X12_63 (Bc_0 E s14.2) rfl ?_
          refine go_iload_n td_X12_tellsAll 124 rfl (q := 217) rfl 1 rfl ?_
          refine go_aload_n td_X12_tellsAll 125 rfl (q := 218) rfl 0 rfl ?_
          refine go_get td_X12_tellsAll 126 rfl (q := 221) rfl fl_X12_105 (Bc_0 E s14.2) rfl ?_
          refine go_iload_n td_X12_tellsAll 127 rfl (q := 222) rfl 1 rfl ?_
          refine go_ald td_X12_tellsAll 128 rfl (q := 223) rfl (Bc_16 E s14.2) (t0 := 0) rfl (fun x19 => ?_)
          refine go_ast td_X12_tellsAll 129 rfl (q := 224) rfl (Bc_8 E s14.2) (t0 := 0) rfl (Bas_8 E s14.2 _) ?_
          refine go_bvg (fun g20 => ?_)
          refine go_iinc [(1, .int (s14.1 + 1)), (0, .ref (E.1 0))] td_X12_tellsAll 130 rfl (q := 227) rfl 1 rfl kc_1 (Nat.le_of_ble_eq_true rfl) rfl ?_
          refine go_goto td_X12_tellsAll 131 rfl (q := 206) rfl ?_
          refine go_pick [1, 0] (lv' := [(0, .ref (E.1 0)), (1, .int (s14.1 + 1))]) rfl ?_
          exact krec14 (s14.1 + 1) g20
      · refine go_aload_n td_X12_tellsAll 107 rfl (q := 187) rfl 0 rfl ?_
        refine go_get td_X12_tellsAll 108 rfl (q := 190) rfl fl_X12_60 (Bc_0 E s13.2) rfl ?_
        refine go_iload_n td_X12_tellsAll 109 rfl (q := 191) rfl 1 rfl ?_
        refine go_aload_n td_X12_tellsAll 110 rfl (q := 192) rfl 0 rfl ?_
        refine go_get td_X12_tellsAll 111 rfl (q := 195) rfl fl_X12_102 (Bc_0 E s13.2) rfl ?_
        refine go_iload_n td_X12_tellsAll 112 rfl (q := 196) rfl 1 rfl ?_
        refine go_ald td_X12_tellsAll 113 rfl (q := 197) rfl (Bc_15 E s13.2) (t0 := 0) rfl (fun x21 => ?_)
        refine go_ast td_X12_tellsAll 114 rfl (q := 198) rfl (Bc_7 E s13.2) (t0 := 0) rfl (Bas_7 E s13.2 _) ?_
        refine go_bvg (fun g22 => ?_)
        refine go_iinc [(1, .int (s13.1 + 1)), (0, .ref (E.1 0))] td_X12_tellsAll 115 rfl (q := 201) rfl 1 rfl kc_1 (Nat.le_of_ble_eq_true rfl) rfl ?_
        refine go_goto td_X12_tellsAll 116 rfl (q := 180) rfl ?_
        refine go_pick [1, 0] (lv' := [(0, .ref (E.1 0)), (1, .int (s13.1 + 1))]) rfl ?_
        exact krec13 (s13.1 + 1) g22
    · refine go_aload_n td_X12_tellsAll 76 rfl (q := 137) rfl 0 rfl ?_
      refine go_get td_X12_tellsAll 77 rfl (q := 140) rfl fl_X12_51 (Bc_0 E s12.2) rfl ?_
      refine go_iload_n td_X12_tellsAll 78 rfl (q := 141) rfl 1 rfl ?_
      refine go_aload_n td_X12_tellsAll 79 rfl (q := 142) rfl 0 rfl ?_
      refine go_get td_X12_tellsAll 80 rfl (q := 145) rfl fl_X12_93 (Bc_0 E s12.2) rfl ?_
      refine go_iload_n td_X12_tellsAll 81 rfl (q := 146) rfl 1 rfl ?_
      refine go_ald td_X12_tellsAll 82 rfl (q := 147) rfl (Bc_12 E s12.2) (t0 := 0) rfl (fun x23 => ?_)
      refine go_ast td_X12_tellsAll 83 rfl (q := 148) rfl (Bc_4 E s12.2) (t0 := 0) rfl (Bas_4 E s12.2 _) ?_
      refine go_bvg (fun g24 => ?_)
      refine go_aload_n td_X12_tellsAll 84 rfl (q := 149) rfl 0 rfl ?_
      refine go_get td_X12_tellsAll 85 rfl (q := 152) rfl fl_X12_54 (Bc_0 E g24) rfl ?_
      refine go_iload_n td_X12_tellsAll 86 rfl (q := 153) rfl 1 rfl ?_
      refine go_aload_n td_X12_tellsAll 87 rfl (q := 154) rfl 0 rfl ?_
      refine go_get td_X12_tellsAll 88 rfl (q := 157) rfl fl_X12_96 (Bc_0 E g24) rfl ?_
      refine go_iload_n td_X12_tellsAll 89 rfl (q := 158) rfl 1 rfl ?_
      refine go_ald td_X12_tellsAll 90 rfl (q := 159) rfl (Bc_13 E g24) (t0 := 0) rfl (fun x25 => ?_)
      refine go_ast td_X12_tellsAll 91 rfl (q := 160) rfl (Bc_5 E g24) (t0 := 0) rfl (Bas_5 E g24 _) ?_
      refine go_bvg (fun g26 => ?_)
      refine go_aload_n td_X12_tellsAll 92 rfl (q := 161) rfl 0 rfl ?_
      refine go_get td_X12_tellsAll 93 rfl (q := 164) rfl fl_X12_57 (Bc_0 E g26) rfl ?_
      refine go_iload_n td_X12_tellsAll 94 rfl (q := 165) rfl 1 rfl ?_
      refine go_aload_n td_X12_tellsAll 95 rfl (q := 166) rfl 0 rfl ?_
      refine go_get td_X12_tellsAll 96 rfl (q := 169) rfl fl_X12_99 (Bc_0 E g26) rfl ?_
      refine go_iload_n td_X12_tellsAll 97 rfl (q := 170) rfl 1 rfl ?_
      refine go_ald td_X12_tellsAll 98 rfl (q := 171) rfl (Bc_14 E g26) (t0 := 0) rfl (fun x27 => ?_)
      refine go_ast td_X12_tellsAll 99 rfl (q := 172) rfl (Bc_6 E g26) (t0 := 0) rfl (Bas_6 E g26 _) ?_
      refine go_bvg (fun g28 => ?_)
      refine go_iinc [(1, .int (s12.1 + 1)), (0, .ref (E.1 0))] td_X12_tellsAll 100 rfl (q := 175) rfl 1 rfl kc_1 (Nat.le_of_ble_eq_true rfl) rfl ?_
      refine go_goto td_X12_tellsAll 101 rfl (q := 128) rfl ?_
      refine go_pick [1, 0] (lv' := [(0, .ref (E.1 0)), (1, .int (s12.1 + 1))]) rfl ?_
      exact krec12 (s12.1 + 1) g28
  · refine go_aload_n td_X12_tellsAll 44 rfl (q := 85) rfl 0 rfl ?_
    refine go_get td_X12_tellsAll 45 rfl (q := 88) rfl fl_X12_41 (Bc_0 E s11.2) rfl ?_
    refine go_iload_n td_X12_tellsAll 46 rfl (q := 89) rfl 1 rfl ?_
    refine go_aload_n td_X12_tellsAll 47 rfl (q := 90) rfl 0 rfl ?_
    refine go_get td_X12_tellsAll 48 rfl (q := 93) rfl fl_X12_84 (Bc_0 E s11.2) rfl ?_
    refine go_iload_n td_X12_tellsAll 49 rfl (q := 94) rfl 1 rfl ?_
    refine go_ald td_X12_tellsAll 50 rfl (q := 95) rfl (Bc_9 E s11.2) (t0 := 0) rfl (fun x29 => ?_)
    refine go_ast td_X12_tellsAll 51 rfl (q := 96) rfl (Bc_1 E s11.2) (t0 := 0) rfl (Bas_1 E s11.2 _) ?_
    refine go_bvg (fun g30 => ?_)
    refine go_aload_n td_X12_tellsAll 52 rfl (q := 97) rfl 0 rfl ?_
    refine go_get td_X12_tellsAll 53 rfl (q := 100) rfl fl_X12_45 (Bc_0 E g30) rfl ?_
    refine go_iload_n td_X12_tellsAll 54 rfl (q := 101) rfl 1 rfl ?_
    refine go_aload_n td_X12_tellsAll 55 rfl (q := 102) rfl 0 rfl ?_
    refine go_get td_X12_tellsAll 56 rfl (q := 105) rfl fl_X12_87 (Bc_0 E g30) rfl ?_
    refine go_iload_n td_X12_tellsAll 57 rfl (q := 106) rfl 1 rfl ?_
    refine go_ald td_X12_tellsAll 58 rfl (q := 107) rfl (Bc_10 E g30) (t0 := 0) rfl (fun x31 => ?_)
    refine go_ast td_X12_tellsAll 59 rfl (q := 108) rfl (Bc_2 E g30) (t0 := 0) rfl (Bas_2 E g30 _) ?_
    refine go_bvg (fun g32 => ?_)
    refine go_aload_n td_X12_tellsAll 60 rfl (q := 109) rfl 0 rfl ?_
    refine go_get td_X12_tellsAll 61 rfl (q := 112) rfl fl_X12_48 (Bc_0 E g32) rfl ?_
    refine go_iload_n td_X12_tellsAll 62 rfl (q := 113) rfl 1 rfl ?_
    refine go_aload_n td_X12_tellsAll 63 rfl (q := 114) rfl 0 rfl ?_
    refine go_get td_X12_tellsAll 64 rfl (q := 117) rfl fl_X12_90 (Bc_0 E g32) rfl ?_
    refine go_iload_n td_X12_tellsAll 65 rfl (q := 118) rfl 1 rfl ?_
    refine go_ald td_X12_tellsAll 66 rfl (q := 119) rfl (Bc_11 E g32) (t0 := 0) rfl (fun x33 => ?_)
    refine go_ast td_X12_tellsAll 67 rfl (q := 120) rfl (Bc_3 E g32) (t0 := 0) rfl (Bas_3 E g32 _) ?_
    refine go_bvg (fun g34 => ?_)
    refine go_iinc [(1, .int (s11.1 + 1)), (0, .ref (E.1 0))] td_X12_tellsAll 68 rfl (q := 123) rfl 1 rfl kc_1 (Nat.le_of_ble_eq_true rfl) rfl ?_
    refine go_goto td_X12_tellsAll 69 rfl (q := 76) rfl ?_
    refine go_pick [1, 0] (lv' := [(0, .ref (E.1 0)), (1, .int (s11.1 + 1))]) rfl ?_
    exact krec11 (s11.1 + 1) g34
def fB_M_desk (g : G) : Option (Int32 × G) := Option.bind (fB_M_taken g) fun x1 => bv (sS x1.2 37 x1.1) fun g2 => bv (sS g2 38 0) fun g3 => bv (sS g3 40 0) fun g4 => bv (sS g4 41 (-1)) fun g5 => Option.bind (fB_M_readsAll g5) fun x6 => bv (sS x6.2 35 (x6.2.1 40)) fun g7 => bv (sS g7 36 (g7.1 41)) fun g8 => (if (g8.1 40) = 0 then Option.bind (fB_M_tellsAll g8) fun x9 => Lp (α := Int32 × G) (fun rec10 s10 => (if (s10.2.1 4) ≤ s10.1 then Lp (α := Int32 × G) (fun rec11 s11 => (if (s11.2.1 5) ≤ s11.1 then bv (sS s11.2 45 0) fun g12 => bv (sS g12 58 0) fun g13 => bv (sS g13 47 0) fun g14 => some (x6.1, g14) else ck 28 (4 + s11.1) (bv (sA s11.2 20 (4 + s11.1 : Int32).toNatClampNeg 1) fun g15 => ag 8 (g15.2.1 5) s11.1 fun x16 => ck 28 (12 + s11.1) (bv (sA g15 20 (12 + s11.1 : Int32).toNatClampNeg x16) fun g17 => ag 8 (g17.2.1 6) s11.1 fun x18 => ck 28 (20 + s11.1) (bv (sA g17 20 (20 + s11.1 : Int32).toNatClampNeg x18) fun g19 => rec11 (s11.1 + 1, g19)))))) FU (0, s10.2) else ag 4 (s10.2.2.1 1) s10.1 fun x20 => ck 28 (0 + s10.1) (bv (sA s10.2 20 (0 + s10.1 : Int32).toNatClampNeg x20) fun g21 => rec10 (s10.1 + 1, g21)))) FU (0, x9) else Option.bind (fB_M_refuses 1 g8) fun x22 => some (x22.1, x22.2))
set_option maxRecDepth 20000 in
set_option maxHeartbeats 4000000 in
theorem ok_fB_M_desk (E : Ev)  (g : G)  : Ct (wCB E) yX12_desk mi_X12_desk [.ref (E.1 0)] (fun r => (some (.int r.1), r.2)) g (fB_M_desk g) := by
  refine go_enter rfl rfl (Nat.le_of_ble_eq_true rfl) (lv := [(0, .ref (E.1 0))]) rfl ?_
  unfold fB_M_desk
  refine go_aload_n td_X12_desk 0 rfl (q := 1) rfl 0 rfl ?_
  refine go_aload_n td_X12_desk 1 rfl (q := 2) rfl 0 rfl ?_
  refine go_callV td_X12_desk 2 rfl (q := 5) rfl (XkB E) lk_X12_296 (ok_fB_M_taken E g) ⟨rfl, rfl, Nat.le_of_ble_eq_true rfl, Nat.le_of_ble_eq_true rfl⟩ rfl rfl (Nat.le_of_ble_eq_true rfl) (Bc_0 E g) rfl (fun x1 => ?_)
  show Go (wCB E) _ _ x1.2 5 _ [.int x1.1, .ref (E.1 0)] _
  refine go_put td_X12_desk 3 rfl (q := 8) rfl flp_X12_123 (Bc_0 E x1.2) rfl rfl (Nat.le_of_ble_eq_true rfl) (Bps_37 E x1.2 x1.1) ?_
  refine go_bvg (fun g2 => ?_)
  refine go_aload_n td_X12_desk 4 rfl (q := 9) rfl 0 rfl ?_
  refine go_iconst td_X12_desk 5 rfl (q := 10) rfl kc_0 ?_
  refine go_put td_X12_desk 6 rfl (q := 13) rfl flp_X12_126 (Bc_0 E g2) rfl rfl (Nat.le_of_ble_eq_true rfl) (Bps_38 E g2 0) ?_
  refine go_bvg (fun g3 => ?_)
  refine go_aload_n td_X12_desk 7 rfl (q := 14) rfl 0 rfl ?_
  refine go_iconst td_X12_desk 8 rfl (q := 15) rfl kc_0 ?_
  refine go_put td_X12_desk 9 rfl (q := 18) rfl flp_X12_132 (Bc_0 E g3) rfl rfl (Nat.le_of_ble_eq_true rfl) (Bps_40 E g3 0) ?_
  refine go_bvg (fun g4 => ?_)
  refine go_aload_n td_X12_desk 10 rfl (q := 19) rfl 0 rfl ?_
  refine go_iconst td_X12_desk 11 rfl (q := 20) rfl kc_m1 ?_
  refine go_put td_X12_desk 12 rfl (q := 23) rfl flp_X12_135 (Bc_0 E g4) rfl rfl (Nat.le_of_ble_eq_true rfl) (Bps_41 E g4 (-1)) ?_
  refine go_bvg (fun g5 => ?_)
  refine go_aload_n td_X12_desk 13 rfl (q := 24) rfl 0 rfl ?_
  refine go_callV td_X12_desk 14 rfl (q := 27) rfl (XkB E) lk_X12_299 (ok_fB_M_readsAll E g5) ⟨rfl, rfl, Nat.le_of_ble_eq_true rfl, Nat.le_of_ble_eq_true rfl⟩ rfl rfl (Nat.le_of_ble_eq_true rfl) (Bc_0 E g5) rfl (fun x6 => ?_)
  show Go (wCB E) _ _ x6.2 27 _ [.int x6.1] _
  refine go_istore_n [(1, .int x6.1), (0, .ref (E.1 0))] td_X12_desk 15 rfl (q := 28) rfl (Nat.le_of_ble_eq_true rfl) rfl ?_
  refine go_aload_n td_X12_desk 16 rfl (q := 29) rfl 1 rfl ?_
  refine go_aload_n td_X12_desk 17 rfl (q := 30) rfl 1 rfl ?_
  refine go_get td_X12_desk 18 rfl (q := 33) rfl fl_X12_132 (Bc_0 E x6.2) rfl ?_
  refine go_put td_X12_desk 19 rfl (q := 36) rfl flp_X12_117 (Bc_0 E x6.2) rfl rfl (Nat.le_of_ble_eq_true rfl) (Bps_35 E x6.2 (x6.2.1 40)) ?_
  refine go_bvg (fun g7 => ?_)
  refine go_aload_n td_X12_desk 20 rfl (q := 37) rfl 1 rfl ?_
  refine go_aload_n td_X12_desk 21 rfl (q := 38) rfl 1 rfl ?_
  refine go_get td_X12_desk 22 rfl (q := 41) rfl fl_X12_135 (Bc_0 E g7) rfl ?_
  refine go_put td_X12_desk 23 rfl (q := 44) rfl flp_X12_120 (Bc_0 E g7) rfl rfl (Nat.le_of_ble_eq_true rfl) (Bps_36 E g7 (g7.1 41)) ?_
  refine go_bvg (fun g8 => ?_)
  refine go_aload_n td_X12_desk 24 rfl (q := 45) rfl 1 rfl ?_
  refine go_get td_X12_desk 25 rfl (q := 48) rfl fl_X12_132 (Bc_0 E g8) rfl ?_
  refine go_if_eq 57 td_X12_desk 26 rfl rfl (q := 51) rfl (fun _ => ?_) (fun _ => ?_)
  · refine go_aload_n td_X12_desk 31 rfl (q := 58) rfl 1 rfl ?_
    refine go_callV td_X12_desk 32 rfl (q := 61) rfl (XkB E) lk_X12_302 (ok_fB_M_tellsAll E g8) ⟨rfl, rfl, Nat.le_of_ble_eq_true rfl, Nat.le_of_ble_eq_true rfl⟩ rfl rfl (Nat.le_of_ble_eq_true rfl) (Bc_0 E g8) rfl (fun x9 => ?_)
    show Go (wCB E) _ _ x9 61 _ [] _
    refine go_iconst td_X12_desk 33 rfl (q := 62) rfl kc_0 ?_
    refine go_istore_n [(2, .int 0), (1, .int x6.1), (0, .ref (E.1 0))] td_X12_desk 34 rfl (q := 63) rfl (Nat.le_of_ble_eq_true rfl) rfl ?_
    refine go_pick [2, 1, 0] (lv' := [(0, .ref (E.1 0)), (1, .int x6.1), (2, .int 0)]) rfl ?_
    refine (show ∀ (u10_0 : Int32) (u10_1 : G), Go (wCB E) _ _ u10_1 63 [(0, .ref (E.1 0)), (1, .int x6.1), (2, .int u10_0)] [] (Lp (α := Int32 × G) _ FU (u10_0, u10_1)) from ?_) 0 x9
    intro u10_0 u10_1
    refine go_Lp (α := Int32 × G) (fun s10 => s10.2) (fun s10 => [(0, .ref (E.1 0)), (1, .int x6.1), (2, .int s10.1)]) ?_ FU (u10_0, u10_1)
    intro rec10 hrec10 s10
    have krec10 : ∀ (u10_0 : Int32) (u10_1 : G), Go (wCB E) _ _ u10_1 63 [(0, .ref (E.1 0)), (1, .int x6.1), (2, .int u10_0)] [] (rec10 (u10_0, u10_1)) := fun u10_0 u10_1 => hrec10 (u10_0, u10_1)
    refine go_iload_n td_X12_desk 35 rfl (q := 64) rfl 2 rfl ?_
    refine go_aload_n td_X12_desk 36 rfl (q := 65) rfl 0 rfl ?_
    refine go_get td_X12_desk 37 rfl (q := 68) rfl fl_X12_23 (Bc_0 E s10.2) rfl ?_
    refine go_icmp_ge 91 td_X12_desk 38 rfl rfl (q := 71) rfl (fun _ => ?_) (fun _ => ?_)
    · refine go_iconst td_X12_desk 51 rfl (q := 92) rfl kc_0 ?_
      refine go_istore_n [(2, .int 0), (0, .ref (E.1 0)), (1, .int x6.1)] td_X12_desk 52 rfl (q := 93) rfl (Nat.le_of_ble_eq_true rfl) rfl ?_
      refine go_pick [1, 2, 0] (lv' := [(0, .ref (E.1 0)), (1, .int x6.1), (2, .int 0)]) rfl ?_
      refine (show ∀ (u11_0 : Int32) (u11_1 : G), Go (wCB E) _ _ u11_1 93 [(0, .ref (E.1 0)), (1, .int x6.1), (2, .int u11_0)] [] (Lp (α := Int32 × G) _ FU (u11_0, u11_1)) from ?_) 0 s10.2
      intro u11_0 u11_1
      refine go_Lp (α := Int32 × G) (fun s11 => s11.2) (fun s11 => [(0, .ref (E.1 0)), (1, .int x6.1), (2, .int s11.1)]) ?_ FU (u11_0, u11_1)
      intro rec11 hrec11 s11
      have krec11 : ∀ (u11_0 : Int32) (u11_1 : G), Go (wCB E) _ _ u11_1 93 [(0, .ref (E.1 0)), (1, .int x6.1), (2, .int u11_0)] [] (rec11 (u11_0, u11_1)) := fun u11_0 u11_1 => hrec11 (u11_0, u11_1)
      refine go_iload_n td_X12_desk 53 rfl (q := 94) rfl 2 rfl ?_
      refine go_aload_n td_X12_desk 54 rfl (q := 95) rfl 0 rfl ?_
      refine go_get td_X12_desk 55 rfl (q := 98) rfl fl_X12_26 (Bc_0 E s11.2) rfl ?_
      refine go_icmp_ge 146 td_X12_desk 56 rfl rfl (q := 101) rfl (fun _ => ?_) (fun _ => ?_)
      · refine go_aload_n td_X12_desk 86 rfl (q := 147) rfl 0 rfl ?_
        refine go_iconst td_X12_desk 87 rfl (q := 148) rfl kc_0 ?_
        refine go_put td_X12_desk 88 rfl (q := 151) rfl flp_X12_147 (Bc_0 E s11.2) rfl rfl (Nat.le_of_ble_eq_true rfl) (Bps_45 E s11.2 0) ?_
        refine go_bvg (fun g12 => ?_)
        refine go_aload_n td_X12_desk 89 rfl (q := 152) rfl 0 rfl ?_
        refine go_iconst td_X12_desk 90 rfl (q := 153) rfl kc_0 ?_
        refine go_put td_X12_desk 91 rfl (q := 156) rfl flp_X12_188 (Bc_0 E g12) rfl rfl (Nat.le_of_ble_eq_true rfl) (Bps_58 E g12 0) ?_
        refine go_bvg (fun g13 => ?_)
        refine go_aload_n td_X12_desk 92 rfl (q := 157) rfl 0 rfl ?_
        refine go_iconst td_X12_desk 93 rfl (q := 158) rfl kc_0 ?_
        refine go_put td_X12_desk 94 rfl (q := 161) rfl flp_X12_154 (Bc_0 E g13) rfl rfl (Nat.le_of_ble_eq_true rfl) (Bps_47 E g13 0) ?_
        refine go_bvg (fun g14 => ?_)
        refine go_iload_n td_X12_desk 95 rfl (q := 162) rfl 1 rfl ?_
        exact go_iret td_X12_desk 96 rfl rfl rfl
      · refine go_aload_n td_X12_desk 57 rfl (q := 102) rfl 0 rfl ?_
        refine go_get td_X12_desk 58 rfl (q := 105) rfl fl_X12_141 (Bc_0 E s11.2) rfl ?_
        refine go_iconst td_X12_desk 59 rfl (q := 106) rfl kc_4 ?_
        refine go_iload_n td_X12_desk 60 rfl (q := 107) rfl 2 rfl ?_
        refine go_iadd td_X12_desk 61 rfl (q := 108) rfl ?_
        refine go_iconst td_X12_desk 62 rfl (q := 109) rfl kc_1 ?_
        refine go_ast td_X12_desk 63 rfl (q := 110) rfl (Bc_20 E s11.2) (t0 := 0) rfl (Bas_20 E s11.2 _) ?_
        refine go_bvg (fun g15 => ?_)
        refine go_aload_n td_X12_desk 64 rfl (q := 111) rfl 0 rfl ?_
        refine go_get td_X12_desk 65 rfl (q := 114) rfl fl_X12_141 (Bc_0 E g15) rfl ?_
        refine go_bipush td_X12_desk 66 rfl (q := 116) rfl kb_12 ?_
        refine go_iload_n td_X12_desk 67 rfl (q := 117) rfl 2 rfl ?_
        refine go_iadd td_X12_desk 68 rfl (q := 118) rfl ?_
        refine go_aload_n td_X12_desk 69 rfl (q := 119) rfl 0 rfl ?_
        refine go_get td_X12_desk 70 rfl (q := 122) rfl fl_X12_54 (Bc_0 E g15) rfl ?_
        refine go_iload_n td_X12_desk 71 rfl (q := 123) rfl 2 rfl ?_
        refine go_ald td_X12_desk 72 rfl (q := 124) rfl (Bc_5 E g15) (t0 := 0) rfl (fun x16 => ?_)
        refine go_ast td_X12_desk 73 rfl (q := 125) rfl (Bc_20 E g15) (t0 := 0) rfl (Bas_20 E g15 _) ?_
        refine go_bvg (fun g17 => ?_)
        refine go_aload_n td_X12_desk 74 rfl (q := 126) rfl 0 rfl ?_
        refine go_get td_X12_desk 75 rfl (q := 129) rfl fl_X12_141 (Bc_0 E g17) rfl ?_
        refine go_bipush td_X12_desk 76 rfl (q := 131) rfl kb_20 ?_
        refine go_iload_n td_X12_desk 77 rfl (q := 132) rfl 2 rfl ?_
        refine go_iadd td_X12_desk 78 rfl (q := 133) rfl ?_
        refine go_aload_n td_X12_desk 79 rfl (q := 134) rfl 0 rfl ?_
        refine go_get td_X12_desk 80 rfl (q := 137) rfl fl_X12_57 (Bc_0 E g17) rfl ?_
        refine go_iload_n td_X12_desk 81 rfl (q := 138) rfl 2 rfl ?_
        refine go_ald td_X12_desk 82 rfl (q := 139) rfl (Bc_6 E g17) (t0 := 0) rfl (fun x18 => ?_)
        refine go_ast td_X12_desk 83 rfl (q := 140) rfl (Bc_20 E g17) (t0 := 0) rfl (Bas_20 E g17 _) ?_
        refine go_bvg (fun g19 => ?_)
        refine go_iinc [(2, .int (s11.1 + 1)), (0, .ref (E.1 0)), (1, .int x6.1)] td_X12_desk 84 rfl (q := 143) rfl 2 rfl kc_1 (Nat.le_of_ble_eq_true rfl) rfl ?_
        refine go_goto td_X12_desk 85 rfl (q := 93) rfl ?_
        refine go_pick [1, 2, 0] (lv' := [(0, .ref (E.1 0)), (1, .int x6.1), (2, .int (s11.1 + 1))]) rfl ?_
        exact krec11 (s11.1 + 1) g19
    · refine go_aload_n td_X12_desk 39 rfl (q := 72) rfl 0 rfl ?_
      refine go_get td_X12_desk 40 rfl (q := 75) rfl fl_X12_141 (Bc_0 E s10.2) rfl ?_
      refine go_iconst td_X12_desk 41 rfl (q := 76) rfl kc_0 ?_
      refine go_iload_n td_X12_desk 42 rfl (q := 77) rfl 2 rfl ?_
      refine go_iadd td_X12_desk 43 rfl (q := 78) rfl ?_
      refine go_aload_n td_X12_desk 44 rfl (q := 79) rfl 0 rfl ?_
      refine go_get td_X12_desk 45 rfl (q := 82) rfl fl_X12_41 (Bc_0 E s10.2) rfl ?_
      refine go_iload_n td_X12_desk 46 rfl (q := 83) rfl 2 rfl ?_
      refine go_ald td_X12_desk 47 rfl (q := 84) rfl (Bc_1 E s10.2) (t0 := 0) rfl (fun x20 => ?_)
      refine go_ast td_X12_desk 48 rfl (q := 85) rfl (Bc_20 E s10.2) (t0 := 0) rfl (Bas_20 E s10.2 _) ?_
      refine go_bvg (fun g21 => ?_)
      refine go_iinc [(2, .int (s10.1 + 1)), (0, .ref (E.1 0)), (1, .int x6.1)] td_X12_desk 49 rfl (q := 88) rfl 2 rfl kc_1 (Nat.le_of_ble_eq_true rfl) rfl ?_
      refine go_goto td_X12_desk 50 rfl (q := 63) rfl ?_
      refine go_pick [1, 2, 0] (lv' := [(0, .ref (E.1 0)), (1, .int x6.1), (2, .int (s10.1 + 1))]) rfl ?_
      exact krec10 (s10.1 + 1) g21
  · refine go_aload_n td_X12_desk 27 rfl (q := 52) rfl 1 rfl ?_
    refine go_iconst td_X12_desk 28 rfl (q := 53) rfl kc_1 ?_
    refine go_callV td_X12_desk 29 rfl (q := 56) rfl (XkB E) lk_X12_209 (ok_fB_M_refuses E 1 g8) ⟨rfl, rfl, Nat.le_of_ble_eq_true rfl, Nat.le_of_ble_eq_true rfl⟩ rfl rfl (Nat.le_of_ble_eq_true rfl) (Bc_0 E g8) rfl (fun x22 => ?_)
    show Go (wCB E) _ _ x22.2 56 _ [.int x22.1] _
    exact go_iret td_X12_desk 30 rfl rfl rfl
def fB_M_fault (a1 : Int32) (g : G) : Option (Int32) := (if a1 = 0 then some (g.1 35) else (if a1 = 1 then some (g.1 36) else some (-1)))
set_option maxRecDepth 20000 in
set_option maxHeartbeats 4000000 in
theorem ok_fB_M_fault (E : Ev) (a1 : Int32) (g : G)  : Ct (wCB E) yX12_fault mi_X12_fault [.ref (E.1 0), .int a1] (fun r => (some (.int r), g)) g (fB_M_fault a1 g) := by
  refine go_enter rfl rfl (Nat.le_of_ble_eq_true rfl) (lv := [(0, .ref (E.1 0)), (1, .int a1)]) rfl ?_
  unfold fB_M_fault
  refine go_iload_n td_X12_fault 0 rfl (q := 1) rfl 1 rfl ?_
  refine go_if_ne 11 td_X12_fault 1 rfl rfl (q := 4) rfl (fun _ => ?_) (fun _ => ?_)
  · refine go_iload_n td_X12_fault 5 rfl (q := 12) rfl 1 rfl ?_
    refine go_iconst td_X12_fault 6 rfl (q := 13) rfl kc_1 ?_
    refine go_icmp_ne 23 td_X12_fault 7 rfl rfl (q := 16) rfl (fun _ => ?_) (fun _ => ?_)
    · refine go_iconst td_X12_fault 11 rfl (q := 24) rfl kc_m1 ?_
      exact go_iret td_X12_fault 12 rfl rfl rfl
    · refine go_aload_n td_X12_fault 8 rfl (q := 17) rfl 0 rfl ?_
      refine go_get td_X12_fault 9 rfl (q := 20) rfl fl_X12_120 (Bc_0 E g) rfl ?_
      refine go_goto td_X12_fault 10 rfl (q := 24) rfl ?_
      exact go_iret td_X12_fault 12 rfl rfl rfl
  · refine go_aload_n td_X12_fault 2 rfl (q := 5) rfl 0 rfl ?_
    refine go_get td_X12_fault 3 rfl (q := 8) rfl fl_X12_117 (Bc_0 E g) rfl ?_
    refine go_goto td_X12_fault 4 rfl (q := 24) rfl ?_
    exact go_iret td_X12_fault 12 rfl rfl rfl
def fB_M_upMany (a1 : Int32) (g : G) : Option (Int32) := Lp (α := Int32 × Int32) (fun rec1 s1 => (if (g.1 5) ≤ s1.2 then some s1.1 else lj (α := Int32) (fun b2 => bv (s1.1 + b2) fun x3 => rec1 (x3, s1.2 + 1)) fun J2 => lj (α := Unit) (fun b4 => ag 28 (g.2.1 20) (4 + s1.2) fun x5 => J2 x5) fun J4 => (if a1 = (-1) then J4 () else ag 8 (g.2.1 4) s1.2 fun x6 => (if x6 = a1 then J4 () else J2 0)))) FU (0, 0)
set_option maxRecDepth 20000 in
set_option maxHeartbeats 4000000 in
theorem ok_fB_M_upMany (E : Ev) (a1 : Int32) (g : G)  : Ct (wCB E) yX12_upMany mi_X12_upMany [.ref (E.1 0), .int a1] (fun r => (some (.int r), g)) g (fB_M_upMany a1 g) := by
  refine go_enter rfl rfl (Nat.le_of_ble_eq_true rfl) (lv := [(0, .ref (E.1 0)), (1, .int a1)]) rfl ?_
  unfold fB_M_upMany
  refine go_iconst td_X12_upMany 0 rfl (q := 1) rfl kc_0 ?_
  refine go_istore_n [(2, .int 0), (0, .ref (E.1 0)), (1, .int a1)] td_X12_upMany 1 rfl (q := 2) rfl (Nat.le_of_ble_eq_true rfl) rfl ?_
  refine go_iconst td_X12_upMany 2 rfl (q := 3) rfl kc_0 ?_
  refine go_istore_n [(3, .int 0), (2, .int 0), (0, .ref (E.1 0)), (1, .int a1)] td_X12_upMany 3 rfl (q := 4) rfl (Nat.le_of_ble_eq_true rfl) rfl ?_
  refine go_pick [2, 3, 1, 0] (lv' := [(0, .ref (E.1 0)), (1, .int a1), (2, .int 0), (3, .int 0)]) rfl ?_
  refine (show ∀ (u1_0 : Int32) (u1_1 : Int32), Go (wCB E) _ _ g 4 [(0, .ref (E.1 0)), (1, .int a1), (2, .int u1_0), (3, .int u1_1)] [] (Lp (α := Int32 × Int32) _ FU (u1_0, u1_1)) from ?_) 0 0
  intro u1_0 u1_1
  refine go_Lp (α := Int32 × Int32) (fun s1 => g) (fun s1 => [(0, .ref (E.1 0)), (1, .int a1), (2, .int s1.1), (3, .int s1.2)]) ?_ FU (u1_0, u1_1)
  intro rec1 hrec1 s1
  have krec1 : ∀ (u1_0 : Int32) (u1_1 : Int32), Go (wCB E) _ _ g 4 [(0, .ref (E.1 0)), (1, .int a1), (2, .int u1_0), (3, .int u1_1)] [] (rec1 (u1_0, u1_1)) := fun u1_0 u1_1 => hrec1 (u1_0, u1_1)
  refine go_iload_n td_X12_upMany 4 rfl (q := 5) rfl 3 rfl ?_
  refine go_aload_n td_X12_upMany 5 rfl (q := 6) rfl 0 rfl ?_
  refine go_get td_X12_upMany 6 rfl (q := 9) rfl fl_X12_26 (Bc_0 E g) rfl ?_
  refine go_icmp_ge 48 td_X12_upMany 7 rfl rfl (q := 12) rfl (fun _ => ?_) (fun _ => ?_)
  · refine go_iload_n td_X12_upMany 30 rfl (q := 49) rfl 2 rfl ?_
    exact go_iret td_X12_upMany 31 rfl rfl rfl
  · refine go_iload_n td_X12_upMany 8 rfl (q := 13) rfl 2 rfl ?_
    refine go_iload_n td_X12_upMany 9 rfl (q := 14) rfl 1 rfl ?_
    refine go_iconst td_X12_upMany 10 rfl (q := 15) rfl kc_m1 ?_
    refine go_ljX (α := Int32) (fun b2 => [(0, .ref (E.1 0)), (1, .int a1), (3, .int s1.2)]) (fun b2 => [.int b2, .int s1.1]) (fun b2 => g) 40 ?_ ?_
    · intro b2
      refine go_iadd td_X12_upMany 26 rfl (q := 41) rfl ?_
      refine go_bvi (fun x3 => ?_)
      refine go_istore_n [(2, .int x3), (0, .ref (E.1 0)), (1, .int a1), (3, .int s1.2)] td_X12_upMany 27 rfl (q := 42) rfl (Nat.le_of_ble_eq_true rfl) rfl ?_
      refine go_iinc [(3, .int (s1.2 + 1)), (2, .int x3), (0, .ref (E.1 0)), (1, .int a1)] td_X12_upMany 28 rfl (q := 45) rfl 3 rfl kc_1 (Nat.le_of_ble_eq_true rfl) rfl ?_
      refine go_goto td_X12_upMany 29 rfl (q := 4) rfl ?_
      refine go_pick [2, 3, 1, 0] (lv' := [(0, .ref (E.1 0)), (1, .int a1), (2, .int x3), (3, .int (s1.2 + 1))]) rfl ?_
      exact krec1 x3 (s1.2 + 1)
    intro J2 hJ2
    have kJ2 : ∀ (u2_0 : Int32), Go (wCB E) _ _ g 40 [(0, .ref (E.1 0)), (1, .int a1), (3, .int s1.2)] [.int u2_0, .int s1.1] (J2 u2_0) := fun u2_0 => hJ2 u2_0
    refine go_ljX (α := Unit) (fun b4 => [(0, .ref (E.1 0)), (1, .int a1), (3, .int s1.2)]) (fun b4 => [.int s1.1]) (fun b4 => g) 28 ?_ ?_
    · intro b4
      refine go_aload_n td_X12_upMany 18 rfl (q := 29) rfl 0 rfl ?_
      refine go_get td_X12_upMany 19 rfl (q := 32) rfl fl_X12_141 (Bc_0 E g) rfl ?_
      refine go_iconst td_X12_upMany 20 rfl (q := 33) rfl kc_4 ?_
      refine go_iload_n td_X12_upMany 21 rfl (q := 34) rfl 2 rfl ?_
      refine go_iadd td_X12_upMany 22 rfl (q := 35) rfl ?_
      refine go_ald td_X12_upMany 23 rfl (q := 36) rfl (Bc_20 E g) (t0 := 0) rfl (fun x5 => ?_)
      refine go_goto td_X12_upMany 24 rfl (q := 40) rfl ?_
      refine go_pick [0, 1, 2] (lv' := [(0, .ref (E.1 0)), (1, .int a1), (3, .int s1.2)]) rfl ?_
      exact kJ2 x5
    intro J4 hJ4
    have kJ4 : Go (wCB E) _ _ g 28 [(0, .ref (E.1 0)), (1, .int a1), (3, .int s1.2)] [.int s1.1] (J4 ()) := hJ4 ()
    refine go_icmp_eq 28 td_X12_upMany 11 rfl rfl (q := 18) rfl (fun _ => ?_) (fun _ => ?_)
    · refine go_pick [0, 1, 3] (lv' := [(0, .ref (E.1 0)), (1, .int a1), (3, .int s1.2)]) rfl ?_
      exact kJ4 
    · refine go_aload_n td_X12_upMany 12 rfl (q := 19) rfl 0 rfl ?_
      refine go_get td_X12_upMany 13 rfl (q := 22) rfl fl_X12_51 (Bc_0 E g) rfl ?_
      refine go_iload_n td_X12_upMany 14 rfl (q := 23) rfl 3 rfl ?_
      refine go_ald td_X12_upMany 15 rfl (q := 24) rfl (Bc_4 E g) (t0 := 0) rfl (fun x6 => ?_)
      refine go_iload_n td_X12_upMany 16 rfl (q := 25) rfl 1 rfl ?_
      refine go_icmp_ne 39 td_X12_upMany 17 rfl rfl (q := 28) rfl (fun _ => ?_) (fun _ => ?_)
      · refine go_iconst td_X12_upMany 25 rfl (q := 40) rfl kc_0 ?_
        refine go_pick [0, 1, 3] (lv' := [(0, .ref (E.1 0)), (1, .int a1), (3, .int s1.2)]) rfl ?_
        exact kJ2 0
      · refine go_pick [0, 1, 3] (lv' := [(0, .ref (E.1 0)), (1, .int a1), (3, .int s1.2)]) rfl ?_
        exact kJ4 
def fB_M_has (a1 : Int32) (g : G) : Option (Int32) := (if a1 = 11 then some (g.1 62) else (if (g.1 0) = 0 then Option.bind (fB_M_isIn a1 0 10 g) fun x13 => (if x13 = 0 then some (-1) else some 0) else (if a1 = 0 then some (g.1 1) else if a1 = 1 then some (g.1 2) else if a1 = 2 then some (g.1 3) else if a1 = 3 then some (g.1 4) else if a1 = 4 then some (g.1 5) else if a1 = 5 then Option.bind (fB_M_upMany (-1) g) fun x6 => some x6 else if a1 = 6 then some (g.1 6) else if a1 = 7 then some (g.1 7) else if a1 = 8 then some (g.1 9) else if a1 = 9 then some (g.1 58) else if a1 = 10 then some (g.1 45) else some (-1))))
set_option maxRecDepth 20000 in
set_option maxHeartbeats 4000000 in
theorem ok_fB_M_has (E : Ev) (a1 : Int32) (g : G)  : Ct (wCB E) yX12_has mi_X12_has [.ref (E.1 0), .int a1] (fun r => (some (.int r), g)) g (fB_M_has a1 g) := by
  refine go_enter rfl rfl (Nat.le_of_ble_eq_true rfl) (lv := [(0, .ref (E.1 0)), (1, .int a1)]) rfl ?_
  unfold fB_M_has
  refine go_iload_n td_X12_has 0 rfl (q := 1) rfl 1 rfl ?_
  refine go_bipush td_X12_has 1 rfl (q := 3) rfl kb_11 ?_
  refine go_icmp_ne 11 td_X12_has 2 rfl rfl (q := 6) rfl (fun _ => ?_) (fun _ => ?_)
  · refine go_aload_n td_X12_has 6 rfl (q := 12) rfl 0 rfl ?_
    refine go_get td_X12_has 7 rfl (q := 15) rfl fl_X12_7 (Bc_0 E g) rfl ?_
    refine go_if_ne 34 td_X12_has 8 rfl rfl (q := 18) rfl (fun _ => ?_) (fun _ => ?_)
    · refine go_iload_n td_X12_has 18 rfl (q := 35) rfl 1 rfl ?_
      refine go_tcase (v := 0) 92 td_X12_has 19 rfl ⟨by decide, by decide, rfl, rfl⟩ ?_ (fun n1 => ?_)
      · refine go_aload_n td_X12_has 20 rfl (q := 93) rfl 0 rfl ?_
        refine go_get td_X12_has 21 rfl (q := 96) rfl fl_X12_13 (Bc_0 E g) rfl ?_
        exact go_iret td_X12_has 22 rfl rfl rfl
      refine go_tcase (v := 1) 97 td_X12_has 19 rfl ⟨by decide, by decide, rfl, rfl⟩ ?_ (fun n2 => ?_)
      · refine go_aload_n td_X12_has 23 rfl (q := 98) rfl 0 rfl ?_
        refine go_get td_X12_has 24 rfl (q := 101) rfl fl_X12_17 (Bc_0 E g) rfl ?_
        exact go_iret td_X12_has 25 rfl rfl rfl
      refine go_tcase (v := 2) 102 td_X12_has 19 rfl ⟨by decide, by decide, rfl, rfl⟩ ?_ (fun n3 => ?_)
      · refine go_aload_n td_X12_has 26 rfl (q := 103) rfl 0 rfl ?_
        refine go_get td_X12_has 27 rfl (q := 106) rfl fl_X12_20 (Bc_0 E g) rfl ?_
        exact go_iret td_X12_has 28 rfl rfl rfl
      refine go_tcase (v := 3) 107 td_X12_has 19 rfl ⟨by decide, by decide, rfl, rfl⟩ ?_ (fun n4 => ?_)
      · refine go_aload_n td_X12_has 29 rfl (q := 108) rfl 0 rfl ?_
        refine go_get td_X12_has 30 rfl (q := 111) rfl fl_X12_23 (Bc_0 E g) rfl ?_
        exact go_iret td_X12_has 31 rfl rfl rfl
      refine go_tcase (v := 4) 112 td_X12_has 19 rfl ⟨by decide, by decide, rfl, rfl⟩ ?_ (fun n5 => ?_)
      · refine go_aload_n td_X12_has 32 rfl (q := 113) rfl 0 rfl ?_
        refine go_get td_X12_has 33 rfl (q := 116) rfl fl_X12_26 (Bc_0 E g) rfl ?_
        exact go_iret td_X12_has 34 rfl rfl rfl
      refine go_tcase (v := 5) 117 td_X12_has 19 rfl ⟨by decide, by decide, rfl, rfl⟩ ?_ (fun n7 => ?_)
      · refine go_aload_n td_X12_has 35 rfl (q := 118) rfl 0 rfl ?_
        refine go_iconst td_X12_has 36 rfl (q := 119) rfl kc_m1 ?_
        refine go_callV td_X12_has 37 rfl (q := 122) rfl (XkB E) lk_X12_344 (ok_fB_M_upMany E (-1) g) ⟨rfl, rfl, Nat.le_of_ble_eq_true rfl, Nat.le_of_ble_eq_true rfl⟩ rfl rfl (Nat.le_of_ble_eq_true rfl) (Bc_0 E g) rfl (fun x6 => ?_)
        show Go (wCB E) _ _ g 122 _ [.int x6] _
        exact go_iret td_X12_has 38 rfl rfl rfl
      refine go_tcase (v := 6) 123 td_X12_has 19 rfl ⟨by decide, by decide, rfl, rfl⟩ ?_ (fun n8 => ?_)
      · refine go_aload_n td_X12_has 39 rfl (q := 124) rfl 0 rfl ?_
        refine go_get td_X12_has 40 rfl (q := 127) rfl fl_X12_29 (Bc_0 E g) rfl ?_
        exact go_iret td_X12_has 41 rfl rfl rfl
      refine go_tcase (v := 7) 128 td_X12_has 19 rfl ⟨by decide, by decide, rfl, rfl⟩ ?_ (fun n9 => ?_)
      · refine go_aload_n td_X12_has 42 rfl (q := 129) rfl 0 rfl ?_
        refine go_get td_X12_has 43 rfl (q := 132) rfl fl_X12_32 (Bc_0 E g) rfl ?_
        exact go_iret td_X12_has 44 rfl rfl rfl
      refine go_tcase (v := 8) 133 td_X12_has 19 rfl ⟨by decide, by decide, rfl, rfl⟩ ?_ (fun n10 => ?_)
      · refine go_aload_n td_X12_has 45 rfl (q := 134) rfl 0 rfl ?_
        refine go_get td_X12_has 46 rfl (q := 137) rfl fl_X12_38 (Bc_0 E g) rfl ?_
        exact go_iret td_X12_has 47 rfl rfl rfl
      refine go_tcase (v := 9) 138 td_X12_has 19 rfl ⟨by decide, by decide, rfl, rfl⟩ ?_ (fun n11 => ?_)
      · refine go_aload_n td_X12_has 48 rfl (q := 139) rfl 0 rfl ?_
        refine go_get td_X12_has 49 rfl (q := 142) rfl fl_X12_188 (Bc_0 E g) rfl ?_
        exact go_iret td_X12_has 50 rfl rfl rfl
      refine go_tcase (v := 10) 143 td_X12_has 19 rfl ⟨by decide, by decide, rfl, rfl⟩ ?_ (fun n12 => ?_)
      · refine go_aload_n td_X12_has 51 rfl (q := 144) rfl 0 rfl ?_
        refine go_get td_X12_has 52 rfl (q := 147) rfl fl_X12_147 (Bc_0 E g) rfl ?_
        exact go_iret td_X12_has 53 rfl rfl rfl
      refine go_tdef 148 td_X12_has 19 rfl (sw_X12_has_35 n1 n2 n3 n4 n5 n7 n8 n9 n10 n11 n12) rfl ?_
      refine go_iconst td_X12_has 54 rfl (q := 149) rfl kc_m1 ?_
      exact go_iret td_X12_has 55 rfl rfl rfl
    · refine go_iload_n td_X12_has 9 rfl (q := 19) rfl 1 rfl ?_
      refine go_iconst td_X12_has 10 rfl (q := 20) rfl kc_0 ?_
      refine go_bipush td_X12_has 11 rfl (q := 22) rfl kb_10 ?_
      refine go_callS td_X12_has 12 rfl (q := 25) rfl (XkB E) lk_X12_248 (ok_fB_M_isIn E a1 0 10 g) ⟨rfl, rfl, Nat.le_of_ble_eq_true rfl, Nat.le_of_ble_eq_true rfl⟩ rfl rfl (Nat.le_of_ble_eq_true rfl) (fun x13 => ?_)
      show Go (wCB E) _ _ g 25 _ [.int x13] _
      refine go_if_eq 32 td_X12_has 13 rfl rfl (q := 28) rfl (fun _ => ?_) (fun _ => ?_)
      · refine go_iconst td_X12_has 16 rfl (q := 33) rfl kc_m1 ?_
        exact go_iret td_X12_has 17 rfl rfl rfl
      · refine go_iconst td_X12_has 14 rfl (q := 29) rfl kc_0 ?_
        refine go_goto td_X12_has 15 rfl (q := 33) rfl ?_
        exact go_iret td_X12_has 17 rfl rfl rfl
  · refine go_aload_n td_X12_has 3 rfl (q := 7) rfl 0 rfl ?_
    refine go_get td_X12_has 4 rfl (q := 10) rfl fl_X12_200 (Bc_0 E g) rfl ?_
    exact go_iret td_X12_has 5 rfl rfl rfl
def fB_M_letter (a1 : Int32) (a2 : Int32) (a3 : Int32) (g : G) : Option (Int32) := Option.bind (fB_M_isIn a1 0 2 g) fun x1 => (if x1 = 0 then some (-1) else Option.bind (fB_M_isIn a3 0 5 g) fun x2 => (if x2 = 0 then some (-1) else lj (α := Int32) (fun b3 => lj (α := Int32) (fun b4 => Option.bind (fB_M_isIn a2 0 (b3 - 1) g) fun x5 => (if x5 = 0 then some (-1) else ag 108 (g.2.1 8) ((6 * (b4 + a2)) + a3) fun x6 => some x6)) fun J4 => (if a1 = 0 then J4 0 else (if a1 = 1 then J4 4 else J4 12))) fun J3 => (if a1 = 0 then J3 (g.1 4) else (if a1 = 1 then J3 (g.1 5) else J3 (g.1 6)))))
set_option maxRecDepth 20000 in
set_option maxHeartbeats 4000000 in
theorem ok_fB_M_letter (E : Ev) (a1 : Int32) (a2 : Int32) (a3 : Int32) (g : G)  : Ct (wCB E) yX12_letter mi_X12_letter [.ref (E.1 0), .int a1, .int a2, .int a3] (fun r => (some (.int r), g)) g (fB_M_letter a1 a2 a3 g) := by
  refine go_enter rfl rfl (Nat.le_of_ble_eq_true rfl) (lv := [(0, .ref (E.1 0)), (1, .int a1), (2, .int a2), (3, .int a3)]) rfl ?_
  unfold fB_M_letter
  refine go_iload_n td_X12_letter 0 rfl (q := 1) rfl 1 rfl ?_
  refine go_iconst td_X12_letter 1 rfl (q := 2) rfl kc_0 ?_
  refine go_iconst td_X12_letter 2 rfl (q := 3) rfl kc_2 ?_
  refine go_callS td_X12_letter 3 rfl (q := 6) rfl (XkB E) lk_X12_248 (ok_fB_M_isIn E a1 0 2 g) ⟨rfl, rfl, Nat.le_of_ble_eq_true rfl, Nat.le_of_ble_eq_true rfl⟩ rfl rfl (Nat.le_of_ble_eq_true rfl) (fun x1 => ?_)
  show Go (wCB E) _ _ g 6 _ [.int x1] _
  refine go_if_eq 18 td_X12_letter 4 rfl rfl (q := 9) rfl (fun _ => ?_) (fun _ => ?_)
  · refine go_iconst td_X12_letter 10 rfl (q := 19) rfl kc_m1 ?_
    exact go_iret td_X12_letter 11 rfl rfl rfl
  · refine go_iload_n td_X12_letter 5 rfl (q := 10) rfl 3 rfl ?_
    refine go_iconst td_X12_letter 6 rfl (q := 11) rfl kc_0 ?_
    refine go_iconst td_X12_letter 7 rfl (q := 12) rfl kc_5 ?_
    refine go_callS td_X12_letter 8 rfl (q := 15) rfl (XkB E) lk_X12_248 (ok_fB_M_isIn E a3 0 5 g) ⟨rfl, rfl, Nat.le_of_ble_eq_true rfl, Nat.le_of_ble_eq_true rfl⟩ rfl rfl (Nat.le_of_ble_eq_true rfl) (fun x2 => ?_)
    show Go (wCB E) _ _ g 15 _ [.int x2] _
    refine go_if_ne 20 td_X12_letter 9 rfl rfl (q := 18) rfl (fun _ => ?_) (fun _ => ?_)
    · refine go_iload_n td_X12_letter 12 rfl (q := 21) rfl 1 rfl ?_
      refine go_ljX (α := Int32) (fun b3 => [(0, .ref (E.1 0)), (1, .int a1), (2, .int a2), (3, .int a3)]) (fun b3 => [.int b3]) (fun b3 => g) 47 ?_ ?_
      · intro b3
        refine go_istore [(4, .int b3), (0, .ref (E.1 0)), (1, .int a1), (2, .int a2), (3, .int a3)] td_X12_letter 25 rfl (q := 49) rfl (Nat.le_of_ble_eq_true rfl) rfl ?_
        refine go_iload_n td_X12_letter 26 rfl (q := 50) rfl 2 rfl ?_
        refine go_ljX (α := Int32) (fun b4 => [(0, .ref (E.1 0)), (2, .int a2), (3, .int a3), (4, .int b3)]) (fun b4 => [.int b4]) (fun b4 => g) 68 ?_ ?_
        · intro b4
          refine go_istore [(5, .int b4), (0, .ref (E.1 0)), (2, .int a2), (3, .int a3), (4, .int b3)] td_X12_letter 36 rfl (q := 70) rfl (Nat.le_of_ble_eq_true rfl) rfl ?_
          refine go_iload_n td_X12_letter 37 rfl (q := 71) rfl 2 rfl ?_
          refine go_iconst td_X12_letter 38 rfl (q := 72) rfl kc_0 ?_
          refine go_iload td_X12_letter 39 rfl (q := 74) rfl 4 rfl ?_
          refine go_iconst td_X12_letter 40 rfl (q := 75) rfl kc_1 ?_
          refine go_isub td_X12_letter 41 rfl (q := 76) rfl ?_
          refine go_callS td_X12_letter 42 rfl (q := 79) rfl (XkB E) lk_X12_248 (ok_fB_M_isIn E a2 0 (b3 - 1) g) ⟨rfl, rfl, Nat.le_of_ble_eq_true rfl, Nat.le_of_ble_eq_true rfl⟩ rfl rfl (Nat.le_of_ble_eq_true rfl) (fun x5 => ?_)
          show Go (wCB E) _ _ g 79 _ [.int x5] _
          refine go_if_eq 99 td_X12_letter 43 rfl rfl (q := 82) rfl (fun _ => ?_) (fun _ => ?_)
          · refine go_iconst td_X12_letter 55 rfl (q := 100) rfl kc_m1 ?_
            exact go_iret td_X12_letter 56 rfl rfl rfl
          · refine go_aload_n td_X12_letter 44 rfl (q := 83) rfl 1 rfl ?_
            refine go_get td_X12_letter 45 rfl (q := 86) rfl fl_X12_63 (Bc_0 E g) rfl ?_
            refine go_bipush td_X12_letter 46 rfl (q := 88) rfl kb_6 ?_
            refine go_iload td_X12_letter 47 rfl (q := 90) rfl 0 rfl ?_
            refine go_iload_n td_X12_letter 48 rfl (q := 91) rfl 2 rfl ?_
            refine go_iadd td_X12_letter 49 rfl (q := 92) rfl ?_
            refine go_imul td_X12_letter 50 rfl (q := 93) rfl ?_
            refine go_iload_n td_X12_letter 51 rfl (q := 94) rfl 3 rfl ?_
            refine go_iadd td_X12_letter 52 rfl (q := 95) rfl ?_
            refine go_ald td_X12_letter 53 rfl (q := 96) rfl (Bc_8 E g) (t0 := 0) rfl (fun x6 => ?_)
            refine go_goto td_X12_letter 54 rfl (q := 100) rfl ?_
            exact go_iret td_X12_letter 56 rfl rfl rfl
        intro J4 hJ4
        have kJ4 : ∀ (u4_0 : Int32), Go (wCB E) _ _ g 68 [(0, .ref (E.1 0)), (2, .int a2), (3, .int a3), (4, .int b3)] [.int u4_0] (J4 u4_0) := fun u4_0 => hJ4 u4_0
        refine go_if_ne 57 td_X12_letter 27 rfl rfl (q := 53) rfl (fun _ => ?_) (fun _ => ?_)
        · refine go_iload_n td_X12_letter 30 rfl (q := 58) rfl 2 rfl ?_
          refine go_iconst td_X12_letter 31 rfl (q := 59) rfl kc_1 ?_
          refine go_icmp_ne 66 td_X12_letter 32 rfl rfl (q := 62) rfl (fun _ => ?_) (fun _ => ?_)
          · refine go_bipush td_X12_letter 35 rfl (q := 68) rfl kb_12 ?_
            refine go_pick [1, 3, 4, 0] (lv' := [(0, .ref (E.1 0)), (2, .int a2), (3, .int a3), (4, .int b3)]) rfl ?_
            exact kJ4 12
          · refine go_iconst td_X12_letter 33 rfl (q := 63) rfl kc_4 ?_
            refine go_goto td_X12_letter 34 rfl (q := 68) rfl ?_
            refine go_pick [1, 3, 4, 0] (lv' := [(0, .ref (E.1 0)), (2, .int a2), (3, .int a3), (4, .int b3)]) rfl ?_
            exact kJ4 4
        · refine go_iconst td_X12_letter 28 rfl (q := 54) rfl kc_0 ?_
          refine go_goto td_X12_letter 29 rfl (q := 68) rfl ?_
          refine go_pick [1, 3, 4, 0] (lv' := [(0, .ref (E.1 0)), (2, .int a2), (3, .int a3), (4, .int b3)]) rfl ?_
          exact kJ4 0
      intro J3 hJ3
      have kJ3 : ∀ (u3_0 : Int32), Go (wCB E) _ _ g 47 [(0, .ref (E.1 0)), (1, .int a1), (2, .int a2), (3, .int a3)] [.int u3_0] (J3 u3_0) := fun u3_0 => hJ3 u3_0
      refine go_if_ne 31 td_X12_letter 13 rfl rfl (q := 24) rfl (fun _ => ?_) (fun _ => ?_)
      · refine go_iload_n td_X12_letter 17 rfl (q := 32) rfl 1 rfl ?_
        refine go_iconst td_X12_letter 18 rfl (q := 33) rfl kc_1 ?_
        refine go_icmp_ne 43 td_X12_letter 19 rfl rfl (q := 36) rfl (fun _ => ?_) (fun _ => ?_)
        · refine go_aload_n td_X12_letter 23 rfl (q := 44) rfl 0 rfl ?_
          refine go_get td_X12_letter 24 rfl (q := 47) rfl fl_X12_29 (Bc_0 E g) rfl ?_
          refine go_pick [0, 1, 2, 3] (lv' := [(0, .ref (E.1 0)), (1, .int a1), (2, .int a2), (3, .int a3)]) rfl ?_
          exact kJ3 (g.1 6)
        · refine go_aload_n td_X12_letter 20 rfl (q := 37) rfl 0 rfl ?_
          refine go_get td_X12_letter 21 rfl (q := 40) rfl fl_X12_26 (Bc_0 E g) rfl ?_
          refine go_goto td_X12_letter 22 rfl (q := 47) rfl ?_
          refine go_pick [0, 1, 2, 3] (lv' := [(0, .ref (E.1 0)), (1, .int a1), (2, .int a2), (3, .int a3)]) rfl ?_
          exact kJ3 (g.1 5)
      · refine go_aload_n td_X12_letter 14 rfl (q := 25) rfl 0 rfl ?_
        refine go_get td_X12_letter 15 rfl (q := 28) rfl fl_X12_23 (Bc_0 E g) rfl ?_
        refine go_goto td_X12_letter 16 rfl (q := 47) rfl ?_
        refine go_pick [0, 1, 2, 3] (lv' := [(0, .ref (E.1 0)), (1, .int a1), (2, .int a2), (3, .int a3)]) rfl ?_
        exact kJ3 (g.1 4)
    · refine go_iconst td_X12_letter 10 rfl (q := 19) rfl kc_m1 ?_
      exact go_iret td_X12_letter 11 rfl rfl rfl
def fB_M_isPlane (a1 : Int32) (g : G) : Option (Int32) := Option.bind (fB_M_isIn a1 0 ((g.1 4) - 1) g) fun x1 => bt x1 (some x1)
set_option maxRecDepth 20000 in
set_option maxHeartbeats 4000000 in
theorem ok_fB_M_isPlane (E : Ev) (a1 : Int32) (g : G)  : Ct (wCB E) yX12_isPlane mi_X12_isPlane [.ref (E.1 0), .int a1] (fun r => (some (.int r), g)) g (fB_M_isPlane a1 g) := by
  refine go_enter rfl rfl (Nat.le_of_ble_eq_true rfl) (lv := [(0, .ref (E.1 0)), (1, .int a1)]) rfl ?_
  unfold fB_M_isPlane
  refine go_iload_n td_X12_isPlane 0 rfl (q := 1) rfl 1 rfl ?_
  refine go_iconst td_X12_isPlane 1 rfl (q := 2) rfl kc_0 ?_
  refine go_aload_n td_X12_isPlane 2 rfl (q := 3) rfl 0 rfl ?_
  refine go_get td_X12_isPlane 3 rfl (q := 6) rfl fl_X12_23 (Bc_0 E g) rfl ?_
  refine go_iconst td_X12_isPlane 4 rfl (q := 7) rfl kc_1 ?_
  refine go_isub td_X12_isPlane 5 rfl (q := 8) rfl ?_
  refine go_callS td_X12_isPlane 6 rfl (q := 11) rfl (XkB E) lk_X12_248 (ok_fB_M_isIn E a1 0 ((g.1 4) - 1) g) ⟨rfl, rfl, Nat.le_of_ble_eq_true rfl, Nat.le_of_ble_eq_true rfl⟩ rfl rfl (Nat.le_of_ble_eq_true rfl) (fun x1 => ?_)
  show Go (wCB E) _ _ g 11 _ [.int x1] _
  exact go_zretb td_X12_isPlane 7 rfl rfl rfl
def fB_M_plane (a1 : Int32) (a2 : Int32) (g : G) : Option (Int32) := Option.bind (fB_M_isPlane a1 g) fun x1 => (if x1 = 0 then some (-1) else Lp (α := Int32 × Int32) (fun rec2 s2 => (if (g.1 5) ≤ s2.2 then (if a2 = 0 then ag 28 (g.2.1 20) (0 + a1) fun x5 => some x5 else (if a2 = 1 then ag 4 (g.2.1 2) a1 fun x4 => some x4 else (if a2 = 2 then ag 4 (g.2.1 3) a1 fun x3 => some x3 else (if a2 = 3 then some s2.1 else some (-1))))) else ag 8 (g.2.1 4) s2.2 fun x6 => lj (α := Int32) (fun b7 => bv (s2.1 + b7) fun x8 => rec2 (x8, s2.2 + 1)) fun J7 => (if x6 = a1 then J7 1 else J7 0))) FU (0, 0))
set_option maxRecDepth 20000 in
set_option maxHeartbeats 4000000 in
theorem ok_fB_M_plane (E : Ev) (a1 : Int32) (a2 : Int32) (g : G)  : Ct (wCB E) yX12_plane mi_X12_plane [.ref (E.1 0), .int a1, .int a2] (fun r => (some (.int r), g)) g (fB_M_plane a1 a2 g) := by
  refine go_enter rfl rfl (Nat.le_of_ble_eq_true rfl) (lv := [(0, .ref (E.1 0)), (1, .int a1), (2, .int a2)]) rfl ?_
  unfold fB_M_plane
  refine go_aload_n td_X12_plane 0 rfl (q := 1) rfl 0 rfl ?_
  refine go_iload_n td_X12_plane 1 rfl (q := 2) rfl 1 rfl ?_
  refine go_callV td_X12_plane 2 rfl (q := 5) rfl (XkB E) lk_X12_347 (ok_fB_M_isPlane E a1 g) ⟨rfl, rfl, Nat.le_of_ble_eq_true rfl, Nat.le_of_ble_eq_true rfl⟩ rfl rfl (Nat.le_of_ble_eq_true rfl) (Bc_0 E g) rfl (fun x1 => ?_)
  show Go (wCB E) _ _ g 5 _ [.int x1] _
  refine go_if_ne 10 td_X12_plane 3 rfl rfl (q := 8) rfl (fun _ => ?_) (fun _ => ?_)
  · refine go_iconst td_X12_plane 6 rfl (q := 11) rfl kc_0 ?_
    refine go_istore_n [(3, .int 0), (0, .ref (E.1 0)), (1, .int a1), (2, .int a2)] td_X12_plane 7 rfl (q := 12) rfl (Nat.le_of_ble_eq_true rfl) rfl ?_
    refine go_iconst td_X12_plane 8 rfl (q := 13) rfl kc_0 ?_
    refine go_istore [(4, .int 0), (3, .int 0), (0, .ref (E.1 0)), (1, .int a1), (2, .int a2)] td_X12_plane 9 rfl (q := 15) rfl (Nat.le_of_ble_eq_true rfl) rfl ?_
    refine go_pick [2, 3, 4, 1, 0] (lv' := [(0, .ref (E.1 0)), (1, .int a1), (2, .int a2), (3, .int 0), (4, .int 0)]) rfl ?_
    refine (show ∀ (u2_0 : Int32) (u2_1 : Int32), Go (wCB E) _ _ g 15 [(0, .ref (E.1 0)), (1, .int a1), (2, .int a2), (3, .int u2_0), (4, .int u2_1)] [] (Lp (α := Int32 × Int32) _ FU (u2_0, u2_1)) from ?_) 0 0
    intro u2_0 u2_1
    refine go_Lp (α := Int32 × Int32) (fun s2 => g) (fun s2 => [(0, .ref (E.1 0)), (1, .int a1), (2, .int a2), (3, .int s2.1), (4, .int s2.2)]) ?_ FU (u2_0, u2_1)
    intro rec2 hrec2 s2
    have krec2 : ∀ (u2_0 : Int32) (u2_1 : Int32), Go (wCB E) _ _ g 15 [(0, .ref (E.1 0)), (1, .int a1), (2, .int a2), (3, .int u2_0), (4, .int u2_1)] [] (rec2 (u2_0, u2_1)) := fun u2_0 u2_1 => hrec2 (u2_0, u2_1)
    refine go_iload td_X12_plane 10 rfl (q := 17) rfl 4 rfl ?_
    refine go_aload_n td_X12_plane 11 rfl (q := 18) rfl 0 rfl ?_
    refine go_get td_X12_plane 12 rfl (q := 21) rfl fl_X12_26 (Bc_0 E g) rfl ?_
    refine go_icmp_ge 49 td_X12_plane 13 rfl rfl (q := 24) rfl (fun _ => ?_) (fun _ => ?_)
    · refine go_iload_n td_X12_plane 28 rfl (q := 50) rfl 2 rfl ?_
      refine go_if_ne 64 td_X12_plane 29 rfl rfl (q := 53) rfl (fun _ => ?_) (fun _ => ?_)
      · refine go_iload_n td_X12_plane 37 rfl (q := 65) rfl 2 rfl ?_
        refine go_iconst td_X12_plane 38 rfl (q := 66) rfl kc_1 ?_
        refine go_icmp_ne 78 td_X12_plane 39 rfl rfl (q := 69) rfl (fun _ => ?_) (fun _ => ?_)
        · refine go_iload_n td_X12_plane 45 rfl (q := 79) rfl 2 rfl ?_
          refine go_iconst td_X12_plane 46 rfl (q := 80) rfl kc_2 ?_
          refine go_icmp_ne 92 td_X12_plane 47 rfl rfl (q := 83) rfl (fun _ => ?_) (fun _ => ?_)
          · refine go_iload_n td_X12_plane 53 rfl (q := 93) rfl 2 rfl ?_
            refine go_iconst td_X12_plane 54 rfl (q := 94) rfl kc_3 ?_
            refine go_icmp_ne 101 td_X12_plane 55 rfl rfl (q := 97) rfl (fun _ => ?_) (fun _ => ?_)
            · refine go_iconst td_X12_plane 58 rfl (q := 102) rfl kc_m1 ?_
              exact go_iret td_X12_plane 59 rfl rfl rfl
            · refine go_iload_n td_X12_plane 56 rfl (q := 98) rfl 3 rfl ?_
              refine go_goto td_X12_plane 57 rfl (q := 102) rfl ?_
              exact go_iret td_X12_plane 59 rfl rfl rfl
          · refine go_aload_n td_X12_plane 48 rfl (q := 84) rfl 0 rfl ?_
            refine go_get td_X12_plane 49 rfl (q := 87) rfl fl_X12_48 (Bc_0 E g) rfl ?_
            refine go_iload_n td_X12_plane 50 rfl (q := 88) rfl 1 rfl ?_
            refine go_ald td_X12_plane 51 rfl (q := 89) rfl (Bc_3 E g) (t0 := 0) rfl (fun x3 => ?_)
            refine go_goto td_X12_plane 52 rfl (q := 102) rfl ?_
            exact go_iret td_X12_plane 59 rfl rfl rfl
        · refine go_aload_n td_X12_plane 40 rfl (q := 70) rfl 0 rfl ?_
          refine go_get td_X12_plane 41 rfl (q := 73) rfl fl_X12_45 (Bc_0 E g) rfl ?_
          refine go_iload_n td_X12_plane 42 rfl (q := 74) rfl 1 rfl ?_
          refine go_ald td_X12_plane 43 rfl (q := 75) rfl (Bc_2 E g) (t0 := 0) rfl (fun x4 => ?_)
          refine go_goto td_X12_plane 44 rfl (q := 102) rfl ?_
          exact go_iret td_X12_plane 59 rfl rfl rfl
      · refine go_aload_n td_X12_plane 30 rfl (q := 54) rfl 0 rfl ?_
        refine go_get td_X12_plane 31 rfl (q := 57) rfl fl_X12_141 (Bc_0 E g) rfl ?_
        refine go_iconst td_X12_plane 32 rfl (q := 58) rfl kc_0 ?_
        refine go_iload_n td_X12_plane 33 rfl (q := 59) rfl 1 rfl ?_
        refine go_iadd td_X12_plane 34 rfl (q := 60) rfl ?_
        refine go_ald td_X12_plane 35 rfl (q := 61) rfl (Bc_20 E g) (t0 := 0) rfl (fun x5 => ?_)
        refine go_goto td_X12_plane 36 rfl (q := 102) rfl ?_
        exact go_iret td_X12_plane 59 rfl rfl rfl
    · refine go_iload_n td_X12_plane 14 rfl (q := 25) rfl 3 rfl ?_
      refine go_aload_n td_X12_plane 15 rfl (q := 26) rfl 0 rfl ?_
      refine go_get td_X12_plane 16 rfl (q := 29) rfl fl_X12_51 (Bc_0 E g) rfl ?_
      refine go_iload td_X12_plane 17 rfl (q := 31) rfl 4 rfl ?_
      refine go_ald td_X12_plane 18 rfl (q := 32) rfl (Bc_4 E g) (t0 := 0) rfl (fun x6 => ?_)
      refine go_iload_n td_X12_plane 19 rfl (q := 33) rfl 1 rfl ?_
      refine go_ljX (α := Int32) (fun b7 => [(0, .ref (E.1 0)), (1, .int a1), (2, .int a2), (4, .int s2.2)]) (fun b7 => [.int b7, .int s2.1]) (fun b7 => g) 41 ?_ ?_
      · intro b7
        refine go_iadd td_X12_plane 24 rfl (q := 42) rfl ?_
        refine go_bvi (fun x8 => ?_)
        refine go_istore_n [(3, .int x8), (0, .ref (E.1 0)), (1, .int a1), (2, .int a2), (4, .int s2.2)] td_X12_plane 25 rfl (q := 43) rfl (Nat.le_of_ble_eq_true rfl) rfl ?_
        refine go_iinc [(4, .int (s2.2 + 1)), (3, .int x8), (0, .ref (E.1 0)), (1, .int a1), (2, .int a2)] td_X12_plane 26 rfl (q := 46) rfl 4 rfl kc_1 (Nat.le_of_ble_eq_true rfl) rfl ?_
        refine go_goto td_X12_plane 27 rfl (q := 15) rfl ?_
        refine go_pick [2, 3, 4, 1, 0] (lv' := [(0, .ref (E.1 0)), (1, .int a1), (2, .int a2), (3, .int x8), (4, .int (s2.2 + 1))]) rfl ?_
        exact krec2 x8 (s2.2 + 1)
      intro J7 hJ7
      have kJ7 : ∀ (u7_0 : Int32), Go (wCB E) _ _ g 41 [(0, .ref (E.1 0)), (1, .int a1), (2, .int a2), (4, .int s2.2)] [.int u7_0, .int s2.1] (J7 u7_0) := fun u7_0 => hJ7 u7_0
      refine go_icmp_ne 40 td_X12_plane 20 rfl rfl (q := 36) rfl (fun _ => ?_) (fun _ => ?_)
      · refine go_iconst td_X12_plane 23 rfl (q := 41) rfl kc_0 ?_
        refine go_pick [0, 1, 2, 4] (lv' := [(0, .ref (E.1 0)), (1, .int a1), (2, .int a2), (4, .int s2.2)]) rfl ?_
        exact kJ7 0
      · refine go_iconst td_X12_plane 21 rfl (q := 37) rfl kc_1 ?_
        refine go_goto td_X12_plane 22 rfl (q := 41) rfl ?_
        refine go_pick [0, 1, 2, 4] (lv' := [(0, .ref (E.1 0)), (1, .int a1), (2, .int a2), (4, .int s2.2)]) rfl ?_
        exact kJ7 1
  · refine go_iconst td_X12_plane 4 rfl (q := 9) rfl kc_m1 ?_
    exact go_iret td_X12_plane 5 rfl rfl rfl
def fB_M_isCraft (a1 : Int32) (g : G) : Option (Int32) := Option.bind (fB_M_isIn a1 0 ((g.1 5) - 1) g) fun x1 => bt x1 (some x1)
set_option maxRecDepth 20000 in
set_option maxHeartbeats 4000000 in
theorem ok_fB_M_isCraft (E : Ev) (a1 : Int32) (g : G)  : Ct (wCB E) yX12_isCraft mi_X12_isCraft [.ref (E.1 0), .int a1] (fun r => (some (.int r), g)) g (fB_M_isCraft a1 g) := by
  refine go_enter rfl rfl (Nat.le_of_ble_eq_true rfl) (lv := [(0, .ref (E.1 0)), (1, .int a1)]) rfl ?_
  unfold fB_M_isCraft
  refine go_iload_n td_X12_isCraft 0 rfl (q := 1) rfl 1 rfl ?_
  refine go_iconst td_X12_isCraft 1 rfl (q := 2) rfl kc_0 ?_
  refine go_aload_n td_X12_isCraft 2 rfl (q := 3) rfl 0 rfl ?_
  refine go_get td_X12_isCraft 3 rfl (q := 6) rfl fl_X12_26 (Bc_0 E g) rfl ?_
  refine go_iconst td_X12_isCraft 4 rfl (q := 7) rfl kc_1 ?_
  refine go_isub td_X12_isCraft 5 rfl (q := 8) rfl ?_
  refine go_callS td_X12_isCraft 6 rfl (q := 11) rfl (XkB E) lk_X12_248 (ok_fB_M_isIn E a1 0 ((g.1 5) - 1) g) ⟨rfl, rfl, Nat.le_of_ble_eq_true rfl, Nat.le_of_ble_eq_true rfl⟩ rfl rfl (Nat.le_of_ble_eq_true rfl) (fun x1 => ?_)
  show Go (wCB E) _ _ g 11 _ [.int x1] _
  exact go_zretb td_X12_isCraft 7 rfl rfl rfl
def fB_M_craft (a1 : Int32) (a2 : Int32) (g : G) : Option (Int32) := Option.bind (fB_M_isCraft a1 g) fun x1 => (if x1 = 0 then some (-1) else (if a2 = 0 then ag 8 (g.2.1 4) a1 fun x5 => some x5 else (if a2 = 1 then ag 28 (g.2.1 20) (12 + a1) fun x4 => some x4 else (if a2 = 2 then ag 28 (g.2.1 20) (20 + a1) fun x3 => some x3 else (if a2 = 3 then ag 28 (g.2.1 20) (4 + a1) fun x2 => some x2 else some (-1))))))
set_option maxRecDepth 20000 in
set_option maxHeartbeats 4000000 in
theorem ok_fB_M_craft (E : Ev) (a1 : Int32) (a2 : Int32) (g : G)  : Ct (wCB E) yX12_craft mi_X12_craft [.ref (E.1 0), .int a1, .int a2] (fun r => (some (.int r), g)) g (fB_M_craft a1 a2 g) := by
  refine go_enter rfl rfl (Nat.le_of_ble_eq_true rfl) (lv := [(0, .ref (E.1 0)), (1, .int a1), (2, .int a2)]) rfl ?_
  unfold fB_M_craft
  refine go_aload_n td_X12_craft 0 rfl (q := 1) rfl 0 rfl ?_
  refine go_iload_n td_X12_craft 1 rfl (q := 2) rfl 1 rfl ?_
  refine go_callV td_X12_craft 2 rfl (q := 5) rfl (XkB E) lk_X12_350 (ok_fB_M_isCraft E a1 g) ⟨rfl, rfl, Nat.le_of_ble_eq_true rfl, Nat.le_of_ble_eq_true rfl⟩ rfl rfl (Nat.le_of_ble_eq_true rfl) (Bc_0 E g) rfl (fun x1 => ?_)
  show Go (wCB E) _ _ g 5 _ [.int x1] _
  refine go_if_ne 10 td_X12_craft 3 rfl rfl (q := 8) rfl (fun _ => ?_) (fun _ => ?_)
  · refine go_iload_n td_X12_craft 6 rfl (q := 11) rfl 2 rfl ?_
    refine go_if_ne 23 td_X12_craft 7 rfl rfl (q := 14) rfl (fun _ => ?_) (fun _ => ?_)
    · refine go_iload_n td_X12_craft 13 rfl (q := 24) rfl 2 rfl ?_
      refine go_iconst td_X12_craft 14 rfl (q := 25) rfl kc_1 ?_
      refine go_icmp_ne 40 td_X12_craft 15 rfl rfl (q := 28) rfl (fun _ => ?_) (fun _ => ?_)
      · refine go_iload_n td_X12_craft 23 rfl (q := 41) rfl 2 rfl ?_
        refine go_iconst td_X12_craft 24 rfl (q := 42) rfl kc_2 ?_
        refine go_icmp_ne 57 td_X12_craft 25 rfl rfl (q := 45) rfl (fun _ => ?_) (fun _ => ?_)
        · refine go_iload_n td_X12_craft 33 rfl (q := 58) rfl 2 rfl ?_
          refine go_iconst td_X12_craft 34 rfl (q := 59) rfl kc_3 ?_
          refine go_icmp_ne 73 td_X12_craft 35 rfl rfl (q := 62) rfl (fun _ => ?_) (fun _ => ?_)
          · refine go_iconst td_X12_craft 43 rfl (q := 74) rfl kc_m1 ?_
            exact go_iret td_X12_craft 44 rfl rfl rfl
          · refine go_aload_n td_X12_craft 36 rfl (q := 63) rfl 0 rfl ?_
            refine go_get td_X12_craft 37 rfl (q := 66) rfl fl_X12_141 (Bc_0 E g) rfl ?_
            refine go_iconst td_X12_craft 38 rfl (q := 67) rfl kc_4 ?_
            refine go_iload_n td_X12_craft 39 rfl (q := 68) rfl 1 rfl ?_
            refine go_iadd td_X12_craft 40 rfl (q := 69) rfl ?_
            refine go_ald td_X12_craft 41 rfl (q := 70) rfl (Bc_20 E g) (t0 := 0) rfl (fun x2 => ?_)
            refine go_goto td_X12_craft 42 rfl (q := 74) rfl ?_
            exact go_iret td_X12_craft 44 rfl rfl rfl
        · refine go_aload_n td_X12_craft 26 rfl (q := 46) rfl 0 rfl ?_
          refine go_get td_X12_craft 27 rfl (q := 49) rfl fl_X12_141 (Bc_0 E g) rfl ?_
          refine go_bipush td_X12_craft 28 rfl (q := 51) rfl kb_20 ?_
          refine go_iload_n td_X12_craft 29 rfl (q := 52) rfl 1 rfl ?_
          refine go_iadd td_X12_craft 30 rfl (q := 53) rfl ?_
          refine go_ald td_X12_craft 31 rfl (q := 54) rfl (Bc_20 E g) (t0 := 0) rfl (fun x3 => ?_)
          refine go_goto td_X12_craft 32 rfl (q := 74) rfl ?_
          exact go_iret td_X12_craft 44 rfl rfl rfl
      · refine go_aload_n td_X12_craft 16 rfl (q := 29) rfl 0 rfl ?_
        refine go_get td_X12_craft 17 rfl (q := 32) rfl fl_X12_141 (Bc_0 E g) rfl ?_
        refine go_bipush td_X12_craft 18 rfl (q := 34) rfl kb_12 ?_
        refine go_iload_n td_X12_craft 19 rfl (q := 35) rfl 1 rfl ?_
        refine go_iadd td_X12_craft 20 rfl (q := 36) rfl ?_
        refine go_ald td_X12_craft 21 rfl (q := 37) rfl (Bc_20 E g) (t0 := 0) rfl (fun x4 => ?_)
        refine go_goto td_X12_craft 22 rfl (q := 74) rfl ?_
        exact go_iret td_X12_craft 44 rfl rfl rfl
    · refine go_aload_n td_X12_craft 8 rfl (q := 15) rfl 0 rfl ?_
      refine go_get td_X12_craft 9 rfl (q := 18) rfl fl_X12_51 (Bc_0 E g) rfl ?_
      refine go_iload_n td_X12_craft 10 rfl (q := 19) rfl 1 rfl ?_
      refine go_ald td_X12_craft 11 rfl (q := 20) rfl (Bc_4 E g) (t0 := 0) rfl (fun x5 => ?_)
      refine go_goto td_X12_craft 12 rfl (q := 74) rfl ?_
      exact go_iret td_X12_craft 44 rfl rfl rfl
  · refine go_iconst td_X12_craft 4 rfl (q := 9) rfl kc_m1 ?_
    exact go_iret td_X12_craft 5 rfl rfl rfl
def fB_M_isSite (a1 : Int32) (g : G) : Option (Int32) := Option.bind (fB_M_isIn a1 0 ((g.1 6) - 1) g) fun x1 => bt x1 (some x1)
set_option maxRecDepth 20000 in
set_option maxHeartbeats 4000000 in
theorem ok_fB_M_isSite (E : Ev) (a1 : Int32) (g : G)  : Ct (wCB E) yX12_isSite mi_X12_isSite [.ref (E.1 0), .int a1] (fun r => (some (.int r), g)) g (fB_M_isSite a1 g) := by
  refine go_enter rfl rfl (Nat.le_of_ble_eq_true rfl) (lv := [(0, .ref (E.1 0)), (1, .int a1)]) rfl ?_
  unfold fB_M_isSite
  refine go_iload_n td_X12_isSite 0 rfl (q := 1) rfl 1 rfl ?_
  refine go_iconst td_X12_isSite 1 rfl (q := 2) rfl kc_0 ?_
  refine go_aload_n td_X12_isSite 2 rfl (q := 3) rfl 0 rfl ?_
  refine go_get td_X12_isSite 3 rfl (q := 6) rfl fl_X12_29 (Bc_0 E g) rfl ?_
  refine go_iconst td_X12_isSite 4 rfl (q := 7) rfl kc_1 ?_
  refine go_isub td_X12_isSite 5 rfl (q := 8) rfl ?_
  refine go_callS td_X12_isSite 6 rfl (q := 11) rfl (XkB E) lk_X12_248 (ok_fB_M_isIn E a1 0 ((g.1 6) - 1) g) ⟨rfl, rfl, Nat.le_of_ble_eq_true rfl, Nat.le_of_ble_eq_true rfl⟩ rfl rfl (Nat.le_of_ble_eq_true rfl) (fun x1 => ?_)
  show Go (wCB E) _ _ g 11 _ [.int x1] _
  exact go_zretb td_X12_isSite 7 rfl rfl rfl
def fB_M_turnOf (a1 : Int32) (g : G) : Option (Int32) := ag 8 (g.2.1 4) a1 fun x1 => ag 4 (g.2.1 3) x1 fun x2 => some x2
set_option maxRecDepth 20000 in
set_option maxHeartbeats 4000000 in
theorem ok_fB_M_turnOf (E : Ev) (a1 : Int32) (g : G)  : Ct (wCB E) yX12_turnOf mi_X12_turnOf [.ref (E.1 0), .int a1] (fun r => (some (.int r), g)) g (fB_M_turnOf a1 g) := by
  refine go_enter rfl rfl (Nat.le_of_ble_eq_true rfl) (lv := [(0, .ref (E.1 0)), (1, .int a1)]) rfl ?_
  unfold fB_M_turnOf
  refine go_aload_n td_X12_turnOf 0 rfl (q := 1) rfl 0 rfl ?_
  refine go_get td_X12_turnOf 1 rfl (q := 4) rfl fl_X12_48 (Bc_0 E g) rfl ?_
  refine go_aload_n td_X12_turnOf 2 rfl (q := 5) rfl 0 rfl ?_
  refine go_get td_X12_turnOf 3 rfl (q := 8) rfl fl_X12_51 (Bc_0 E g) rfl ?_
  refine go_iload_n td_X12_turnOf 4 rfl (q := 9) rfl 1 rfl ?_
  refine go_ald td_X12_turnOf 5 rfl (q := 10) rfl (Bc_4 E g) (t0 := 0) rfl (fun x1 => ?_)
  refine go_ald td_X12_turnOf 6 rfl (q := 11) rfl (Bc_3 E g) (t0 := 0) rfl (fun x2 => ?_)
  exact go_iret td_X12_turnOf 7 rfl rfl rfl
def fB_M_gone (a1 : Int32) (a2 : Int32) (g : G) : Option (Int32) := ag 28 (g.2.1 20) (12 + a1) fun x1 => Option.bind (fB_M_turnOf a1 g) fun x2 => dz x2 (some ((x1 + a2) - (x1 + a2) / x2 * x2))
set_option maxRecDepth 20000 in
set_option maxHeartbeats 4000000 in
theorem ok_fB_M_gone (E : Ev) (a1 : Int32) (a2 : Int32) (g : G)  : Ct (wCB E) yX12_gone mi_X12_gone [.ref (E.1 0), .int a1, .int a2] (fun r => (some (.int r), g)) g (fB_M_gone a1 a2 g) := by
  refine go_enter rfl rfl (Nat.le_of_ble_eq_true rfl) (lv := [(0, .ref (E.1 0)), (1, .int a1), (2, .int a2)]) rfl ?_
  unfold fB_M_gone
  refine go_aload_n td_X12_gone 0 rfl (q := 1) rfl 0 rfl ?_
  refine go_get td_X12_gone 1 rfl (q := 4) rfl fl_X12_141 (Bc_0 E g) rfl ?_
  refine go_bipush td_X12_gone 2 rfl (q := 6) rfl kb_12 ?_
  refine go_iload_n td_X12_gone 3 rfl (q := 7) rfl 1 rfl ?_
  refine go_iadd td_X12_gone 4 rfl (q := 8) rfl ?_
  refine go_ald td_X12_gone 5 rfl (q := 9) rfl (Bc_20 E g) (t0 := 0) rfl (fun x1 => ?_)
  refine go_iload_n td_X12_gone 6 rfl (q := 10) rfl 2 rfl ?_
  refine go_iadd td_X12_gone 7 rfl (q := 11) rfl ?_
  refine go_aload_n td_X12_gone 8 rfl (q := 12) rfl 0 rfl ?_
  refine go_iload_n td_X12_gone 9 rfl (q := 13) rfl 1 rfl ?_
  refine go_callV td_X12_gone 10 rfl (q := 16) rfl (XkB E) lk_X12_305 (ok_fB_M_turnOf E a1 g) ⟨rfl, rfl, Nat.le_of_ble_eq_true rfl, Nat.le_of_ble_eq_true rfl⟩ rfl rfl (Nat.le_of_ble_eq_true rfl) (Bc_0 E g) rfl (fun x2 => ?_)
  show Go (wCB E) _ _ g 16 _ [.int x2, .int (x1 + a2)] _
  refine go_irem td_X12_gone 11 rfl (q := 17) rfl ?_
  exact go_iret td_X12_gone 12 rfl rfl rfl
def fB_M_columnAt (a1 : Int32) (a2 : Int32) (g : G) : Option (Int32) := ag 8 (g.2.1 4) a1 fun x1 => ag 28 (g.2.1 20) (0 + x1) fun x2 => Option.bind (fB_M_gone a1 a2 g) fun x3 => Option.bind (fB_M_turnOf a1 g) fun x4 => dz x4 (dz (g.1 3) (dz (g.1 3) (bv ((x2 + (((g.1 1) * x3) / x4)) - (((g.1 1) * (a2 - a2 / (g.1 3) * (g.1 3))) / (g.1 3))) fun x5 => dz (g.1 1) (bv (x5 - x5 / (g.1 1) * (g.1 1)) fun x6 => (if 0 ≤ x6 then some x6 else some (x6 + (g.1 1)))))))
set_option maxRecDepth 20000 in
set_option maxHeartbeats 4000000 in
theorem ok_fB_M_columnAt (E : Ev) (a1 : Int32) (a2 : Int32) (g : G)  : Ct (wCB E) yX12_columnAt mi_X12_columnAt [.ref (E.1 0), .int a1, .int a2] (fun r => (some (.int r), g)) g (fB_M_columnAt a1 a2 g) := by
  refine go_enter rfl rfl (Nat.le_of_ble_eq_true rfl) (lv := [(0, .ref (E.1 0)), (1, .int a1), (2, .int a2)]) rfl ?_
  unfold fB_M_columnAt
  refine go_aload_n td_X12_columnAt 0 rfl (q := 1) rfl 0 rfl ?_
  refine go_get td_X12_columnAt 1 rfl (q := 4) rfl fl_X12_141 (Bc_0 E g) rfl ?_
  refine go_iconst td_X12_columnAt 2 rfl (q := 5) rfl kc_0 ?_
  refine go_aload_n td_X12_columnAt 3 rfl (q := 6) rfl 0 rfl ?_
  refine go_get td_X12_columnAt 4 rfl (q := 9) rfl fl_X12_51 (Bc_0 E g) rfl ?_
  refine go_iload_n td_X12_columnAt 5 rfl (q := 10) rfl 1 rfl ?_
  refine go_ald td_X12_columnAt 6 rfl (q := 11) rfl (Bc_4 E g) (t0 := 0) rfl (fun x1 => ?_)
  refine go_iadd td_X12_columnAt 7 rfl (q := 12) rfl ?_
  refine go_ald td_X12_columnAt 8 rfl (q := 13) rfl (Bc_20 E g) (t0 := 0) rfl (fun x2 => ?_)
  refine go_aload_n td_X12_columnAt 9 rfl (q := 14) rfl 0 rfl ?_
  refine go_get td_X12_columnAt 10 rfl (q := 17) rfl fl_X12_13 (Bc_0 E g) rfl ?_
  refine go_aload_n td_X12_columnAt 11 rfl (q := 18) rfl 0 rfl ?_
  refine go_iload_n td_X12_columnAt 12 rfl (q := 19) rfl 1 rfl ?_
  refine go_iload_n td_X12_columnAt 13 rfl (q := 20) rfl 2 rfl ?_
  refine go_callV td_X12_columnAt 14 rfl (q := 23) rfl (XkB E) lk_X12_308 (ok_fB_M_gone E a1 a2 g) ⟨rfl, rfl, Nat.le_of_ble_eq_true rfl, Nat.le_of_ble_eq_true rfl⟩ rfl rfl (Nat.le_of_ble_eq_true rfl) (Bc_0 E g) rfl (fun x3 => ?_)
  show Go (wCB E) _ _ g 23 _ [.int x3, .int (g.1 1), .int x2] _
  refine go_imul td_X12_columnAt 15 rfl (q := 24) rfl ?_
  refine go_aload_n td_X12_columnAt 16 rfl (q := 25) rfl 0 rfl ?_
  refine go_iload_n td_X12_columnAt 17 rfl (q := 26) rfl 1 rfl ?_
  refine go_callV td_X12_columnAt 18 rfl (q := 29) rfl (XkB E) lk_X12_305 (ok_fB_M_turnOf E a1 g) ⟨rfl, rfl, Nat.le_of_ble_eq_true rfl, Nat.le_of_ble_eq_true rfl⟩ rfl rfl (Nat.le_of_ble_eq_true rfl) (Bc_0 E g) rfl (fun x4 => ?_)
  show Go (wCB E) _ _ g 29 _ [.int x4, .int ((g.1 1) * x3), .int x2] _
  refine go_idiv td_X12_columnAt 19 rfl (q := 30) rfl ?_
  refine go_iadd td_X12_columnAt 20 rfl (q := 31) rfl ?_
  refine go_aload_n td_X12_columnAt 21 rfl (q := 32) rfl 0 rfl ?_
  refine go_get td_X12_columnAt 22 rfl (q := 35) rfl fl_X12_13 (Bc_0 E g) rfl ?_
  refine go_iload_n td_X12_columnAt 23 rfl (q := 36) rfl 2 rfl ?_
  refine go_aload_n td_X12_columnAt 24 rfl (q := 37) rfl 0 rfl ?_
  refine go_get td_X12_columnAt 25 rfl (q := 40) rfl fl_X12_20 (Bc_0 E g) rfl ?_
  refine go_irem td_X12_columnAt 26 rfl (q := 41) rfl ?_
  refine go_imul td_X12_columnAt 27 rfl (q := 42) rfl ?_
  refine go_aload_n td_X12_columnAt 28 rfl (q := 43) rfl 0 rfl ?_
  refine go_get td_X12_columnAt 29 rfl (q := 46) rfl fl_X12_20 (Bc_0 E g) rfl ?_
  refine go_idiv td_X12_columnAt 30 rfl (q := 47) rfl ?_
  refine go_isub td_X12_columnAt 31 rfl (q := 48) rfl ?_
  refine go_bvi (fun x5 => ?_)
  refine go_istore_n [(3, .int x5), (0, .ref (E.1 0)), (1, .int a1), (2, .int a2)] td_X12_columnAt 32 rfl (q := 49) rfl (Nat.le_of_ble_eq_true rfl) rfl ?_
  refine go_iload_n td_X12_columnAt 33 rfl (q := 50) rfl 0 rfl ?_
  refine go_aload_n td_X12_columnAt 34 rfl (q := 51) rfl 1 rfl ?_
  refine go_get td_X12_columnAt 35 rfl (q := 54) rfl fl_X12_13 (Bc_0 E g) rfl ?_
  refine go_irem td_X12_columnAt 36 rfl (q := 55) rfl ?_
  refine go_bvi (fun x6 => ?_)
  refine go_istore [(4, .int x6), (3, .int x5), (0, .ref (E.1 0)), (1, .int a1), (2, .int a2)] td_X12_columnAt 37 rfl (q := 57) rfl (Nat.le_of_ble_eq_true rfl) rfl ?_
  refine go_iload td_X12_columnAt 38 rfl (q := 59) rfl 0 rfl ?_
  refine go_if_ge 72 td_X12_columnAt 39 rfl rfl (q := 62) rfl (fun _ => ?_) (fun _ => ?_)
  · refine go_iload td_X12_columnAt 45 rfl (q := 74) rfl 0 rfl ?_
    exact go_iret td_X12_columnAt 46 rfl rfl rfl
  · refine go_iload td_X12_columnAt 40 rfl (q := 64) rfl 0 rfl ?_
    refine go_aload_n td_X12_columnAt 41 rfl (q := 65) rfl 2 rfl ?_
    refine go_get td_X12_columnAt 42 rfl (q := 68) rfl fl_X12_13 (Bc_0 E g) rfl ?_
    refine go_iadd td_X12_columnAt 43 rfl (q := 69) rfl ?_
    refine go_goto td_X12_columnAt 44 rfl (q := 74) rfl ?_
    exact go_iret td_X12_columnAt 46 rfl rfl rfl
def fB_M_rowAt (a1 : Int32) (a2 : Int32) (g : G) : Option (Int32) := ag 8 (g.2.1 4) a1 fun x1 => ag 4 (g.2.1 2) x1 fun x2 => Option.bind (fB_M_gone a1 a2 g) fun x3 => Option.bind (fB_M_turnOf a1 g) fun x4 => dz x4 (bv (((4 * x3) * x2) / x4) fun x5 => lj (α := Int32) (fun b6 => dz 2 (bv (((g.1 2) / 2) + b6) fun x7 => (if x7 < (g.1 2) then some x7 else some ((g.1 2) - 1)))) fun J6 => (if x2 < x5 then (if (3 * x2) < x5 then J6 (x5 - (4 * x2)) else J6 ((2 * x2) - x5)) else J6 x5))
set_option maxRecDepth 20000 in
set_option maxHeartbeats 4000000 in
theorem ok_fB_M_rowAt (E : Ev) (a1 : Int32) (a2 : Int32) (g : G)  : Ct (wCB E) yX12_rowAt mi_X12_rowAt [.ref (E.1 0), .int a1, .int a2] (fun r => (some (.int r), g)) g (fB_M_rowAt a1 a2 g) := by
  refine go_enter rfl rfl (Nat.le_of_ble_eq_true rfl) (lv := [(0, .ref (E.1 0)), (1, .int a1), (2, .int a2)]) rfl ?_
  unfold fB_M_rowAt
  refine go_aload_n td_X12_rowAt 0 rfl (q := 1) rfl 0 rfl ?_
  refine go_get td_X12_rowAt 1 rfl (q := 4) rfl fl_X12_45 (Bc_0 E g) rfl ?_
  refine go_aload_n td_X12_rowAt 2 rfl (q := 5) rfl 0 rfl ?_
  refine go_get td_X12_rowAt 3 rfl (q := 8) rfl fl_X12_51 (Bc_0 E g) rfl ?_
  refine go_iload_n td_X12_rowAt 4 rfl (q := 9) rfl 1 rfl ?_
  refine go_ald td_X12_rowAt 5 rfl (q := 10) rfl (Bc_4 E g) (t0 := 0) rfl (fun x1 => ?_)
  refine go_ald td_X12_rowAt 6 rfl (q := 11) rfl (Bc_2 E g) (t0 := 0) rfl (fun x2 => ?_)
  refine go_istore_n [(3, .int x2), (0, .ref (E.1 0)), (1, .int a1), (2, .int a2)] td_X12_rowAt 7 rfl (q := 12) rfl (Nat.le_of_ble_eq_true rfl) rfl ?_
  refine go_iconst td_X12_rowAt 8 rfl (q := 13) rfl kc_4 ?_
  refine go_aload_n td_X12_rowAt 9 rfl (q := 14) rfl 1 rfl ?_
  refine go_iload_n td_X12_rowAt 10 rfl (q := 15) rfl 2 rfl ?_
  refine go_iload_n td_X12_rowAt 11 rfl (q := 16) rfl 3 rfl ?_
  refine go_callV td_X12_rowAt 12 rfl (q := 19) rfl (XkB E) lk_X12_308 (ok_fB_M_gone E a1 a2 g) ⟨rfl, rfl, Nat.le_of_ble_eq_true rfl, Nat.le_of_ble_eq_true rfl⟩ rfl rfl (Nat.le_of_ble_eq_true rfl) (Bc_0 E g) rfl (fun x3 => ?_)
  show Go (wCB E) _ _ g 19 _ [.int x3, .int 4] _
  refine go_imul td_X12_rowAt 13 rfl (q := 20) rfl ?_
  refine go_iload_n td_X12_rowAt 14 rfl (q := 21) rfl 0 rfl ?_
  refine go_imul td_X12_rowAt 15 rfl (q := 22) rfl ?_
  refine go_aload_n td_X12_rowAt 16 rfl (q := 23) rfl 1 rfl ?_
  refine go_iload_n td_X12_rowAt 17 rfl (q := 24) rfl 2 rfl ?_
  refine go_callV td_X12_rowAt 18 rfl (q := 27) rfl (XkB E) lk_X12_305 (ok_fB_M_turnOf E a1 g) ⟨rfl, rfl, Nat.le_of_ble_eq_true rfl, Nat.le_of_ble_eq_true rfl⟩ rfl rfl (Nat.le_of_ble_eq_true rfl) (Bc_0 E g) rfl (fun x4 => ?_)
  show Go (wCB E) _ _ g 27 _ [.int x4, .int ((4 * x3) * x2)] _
  refine go_idiv td_X12_rowAt 19 rfl (q := 28) rfl ?_
  refine go_bvi (fun x5 => ?_)
  refine go_istore [(4, .int x5), (3, .int x2), (0, .ref (E.1 0)), (1, .int a1), (2, .int a2)] td_X12_rowAt 20 rfl (q := 30) rfl (Nat.le_of_ble_eq_true rfl) rfl ?_
  refine go_iload td_X12_rowAt 21 rfl (q := 32) rfl 0 rfl ?_
  refine go_iload_n td_X12_rowAt 22 rfl (q := 33) rfl 1 rfl ?_
  refine go_ljX (α := Int32) (fun b6 => [(0, .ref (E.1 0))]) (fun b6 => [.int b6]) (fun b6 => g) 64 ?_ ?_
  · intro b6
    refine go_istore [(5, .int b6), (0, .ref (E.1 0))] td_X12_rowAt 42 rfl (q := 66) rfl (Nat.le_of_ble_eq_true rfl) rfl ?_
    refine go_aload_n td_X12_rowAt 43 rfl (q := 67) rfl 1 rfl ?_
    refine go_get td_X12_rowAt 44 rfl (q := 70) rfl fl_X12_17 (Bc_0 E g) rfl ?_
    refine go_iconst td_X12_rowAt 45 rfl (q := 71) rfl kc_2 ?_
    refine go_idiv td_X12_rowAt 46 rfl (q := 72) rfl ?_
    refine go_iload td_X12_rowAt 47 rfl (q := 74) rfl 0 rfl ?_
    refine go_iadd td_X12_rowAt 48 rfl (q := 75) rfl ?_
    refine go_bvi (fun x7 => ?_)
    refine go_istore [(6, .int x7), (5, .int b6), (0, .ref (E.1 0))] td_X12_rowAt 49 rfl (q := 77) rfl (Nat.le_of_ble_eq_true rfl) rfl ?_
    refine go_iload td_X12_rowAt 50 rfl (q := 79) rfl 0 rfl ?_
    refine go_aload_n td_X12_rowAt 51 rfl (q := 80) rfl 2 rfl ?_
    refine go_get td_X12_rowAt 52 rfl (q := 83) rfl fl_X12_17 (Bc_0 E g) rfl ?_
    refine go_icmp_lt 95 td_X12_rowAt 53 rfl rfl (q := 86) rfl (fun _ => ?_) (fun _ => ?_)
    · refine go_iload td_X12_rowAt 59 rfl (q := 97) rfl 0 rfl ?_
      exact go_iret td_X12_rowAt 60 rfl rfl rfl
    · refine go_aload_n td_X12_rowAt 54 rfl (q := 87) rfl 2 rfl ?_
      refine go_get td_X12_rowAt 55 rfl (q := 90) rfl fl_X12_17 (Bc_0 E g) rfl ?_
      refine go_iconst td_X12_rowAt 56 rfl (q := 91) rfl kc_1 ?_
      refine go_isub td_X12_rowAt 57 rfl (q := 92) rfl ?_
      refine go_goto td_X12_rowAt 58 rfl (q := 97) rfl ?_
      exact go_iret td_X12_rowAt 60 rfl rfl rfl
  intro J6 hJ6
  have kJ6 : ∀ (u6_0 : Int32), Go (wCB E) _ _ g 64 [(0, .ref (E.1 0))] [.int u6_0] (J6 u6_0) := fun u6_0 => hJ6 u6_0
  refine go_icmp_gt 41 td_X12_rowAt 23 rfl rfl (q := 36) rfl (fun _ => ?_) (fun _ => ?_)
  · refine go_iload td_X12_rowAt 26 rfl (q := 43) rfl 0 rfl ?_
    refine go_iconst td_X12_rowAt 27 rfl (q := 44) rfl kc_3 ?_
    refine go_iload_n td_X12_rowAt 28 rfl (q := 45) rfl 1 rfl ?_
    refine go_imul td_X12_rowAt 29 rfl (q := 46) rfl ?_
    refine go_icmp_gt 58 td_X12_rowAt 30 rfl rfl (q := 49) rfl (fun _ => ?_) (fun _ => ?_)
    · refine go_iload td_X12_rowAt 37 rfl (q := 60) rfl 0 rfl ?_
      refine go_iconst td_X12_rowAt 38 rfl (q := 61) rfl kc_4 ?_
      refine go_iload_n td_X12_rowAt 39 rfl (q := 62) rfl 1 rfl ?_
      refine go_imul td_X12_rowAt 40 rfl (q := 63) rfl ?_
      refine go_isub td_X12_rowAt 41 rfl (q := 64) rfl ?_
      refine go_pick [2] (lv' := [(0, .ref (E.1 0))]) rfl ?_
      exact kJ6 (x5 - (4 * x2))
    · refine go_iconst td_X12_rowAt 31 rfl (q := 50) rfl kc_2 ?_
      refine go_iload_n td_X12_rowAt 32 rfl (q := 51) rfl 1 rfl ?_
      refine go_imul td_X12_rowAt 33 rfl (q := 52) rfl ?_
      refine go_iload td_X12_rowAt 34 rfl (q := 54) rfl 0 rfl ?_
      refine go_isub td_X12_rowAt 35 rfl (q := 55) rfl ?_
      refine go_goto td_X12_rowAt 36 rfl (q := 64) rfl ?_
      refine go_pick [2] (lv' := [(0, .ref (E.1 0))]) rfl ?_
      exact kJ6 ((2 * x2) - x5)
  · refine go_iload td_X12_rowAt 24 rfl (q := 38) rfl 0 rfl ?_
    refine go_goto td_X12_rowAt 25 rfl (q := 64) rfl ?_
    refine go_pick [2] (lv' := [(0, .ref (E.1 0))]) rfl ?_
    exact kJ6 x5
def fB_M_reaches (a1 : Int32) (a2 : Int32) (a3 : Int32) (a4 : Int32) (a5 : Int32) (g : G) : Option (Int32) := Option.bind (fB_M_away a1 a4 g) fun x1 => lj (α := Int32) (fun b2 => Option.bind (fB_M_widthOf a5 g) fun x3 => bv (b2 * x3) fun x4 => Option.bind (fB_M_away a2 a5 g) fun x5 => bv (x5 * (g.1 2)) fun x6 => (if (((a3 * a3) * (g.1 2)) * (g.1 2)) < ((x4 * x4) + (x6 * x6)) then some 0 else some 1)) fun J2 => (if x1 ≤ ((g.1 1) - x1) then J2 x1 else bv ((g.1 1) - x1) fun x7 => J2 x7)
set_option maxRecDepth 20000 in
set_option maxHeartbeats 4000000 in
theorem ok_fB_M_reaches (E : Ev) (a1 : Int32) (a2 : Int32) (a3 : Int32) (a4 : Int32) (a5 : Int32) (g : G)  : Ct (wCB E) yX12_reaches mi_X12_reaches [.ref (E.1 0), .int a1, .int a2, .int a3, .int a4, .int a5] (fun r => (some (.int r), g)) g (fB_M_reaches a1 a2 a3 a4 a5 g) := by
  refine go_enter rfl rfl (Nat.le_of_ble_eq_true rfl) (lv := [(0, .ref (E.1 0)), (1, .int a1), (2, .int a2), (3, .int a3), (4, .int a4), (5, .int a5)]) rfl ?_
  unfold fB_M_reaches
  refine go_iload_n td_X12_reaches 0 rfl (q := 1) rfl 1 rfl ?_
  refine go_iload td_X12_reaches 1 rfl (q := 3) rfl 4 rfl ?_
  refine go_callS td_X12_reaches 2 rfl (q := 6) rfl (XkB E) lk_X12_311 (ok_fB_M_away E a1 a4 g) ⟨rfl, rfl, Nat.le_of_ble_eq_true rfl, Nat.le_of_ble_eq_true rfl⟩ rfl rfl (Nat.le_of_ble_eq_true rfl) (fun x1 => ?_)
  show Go (wCB E) _ _ g 6 _ [.int x1] _
  refine go_istore [(6, .int x1), (0, .ref (E.1 0)), (1, .int a1), (2, .int a2), (3, .int a3), (4, .int a4), (5, .int a5)] td_X12_reaches 3 rfl (q := 8) rfl (Nat.le_of_ble_eq_true rfl) rfl ?_
  refine go_aload_n td_X12_reaches 4 rfl (q := 9) rfl 1 rfl ?_
  refine go_get td_X12_reaches 5 rfl (q := 12) rfl fl_X12_13 (Bc_0 E g) rfl ?_
  refine go_iload td_X12_reaches 6 rfl (q := 14) rfl 0 rfl ?_
  refine go_isub td_X12_reaches 7 rfl (q := 15) rfl ?_
  refine go_iload td_X12_reaches 8 rfl (q := 17) rfl 0 rfl ?_
  refine go_ljX (α := Int32) (fun b2 => [(0, .ref (E.1 0)), (2, .int a2), (3, .int a3), (5, .int a5), (6, .int b2)]) (fun b2 => []) (fun b2 => g) 29 ?_ ?_
  · intro b2
    refine go_iload td_X12_reaches 15 rfl (q := 31) rfl 4 rfl ?_
    refine go_aload_n td_X12_reaches 16 rfl (q := 32) rfl 0 rfl ?_
    refine go_iload td_X12_reaches 17 rfl (q := 34) rfl 3 rfl ?_
    refine go_callV td_X12_reaches 18 rfl (q := 37) rfl (XkB E) lk_X12_293 (ok_fB_M_widthOf E a5 g) ⟨rfl, rfl, Nat.le_of_ble_eq_true rfl, Nat.le_of_ble_eq_true rfl⟩ rfl rfl (Nat.le_of_ble_eq_true rfl) (Bc_0 E g) rfl (fun x3 => ?_)
    show Go (wCB E) _ _ g 37 _ [.int x3, .int b2] _
    refine go_imul td_X12_reaches 19 rfl (q := 38) rfl ?_
    refine go_bvi (fun x4 => ?_)
    refine go_istore [(7, .int x4), (0, .ref (E.1 0)), (2, .int a2), (3, .int a3), (5, .int a5), (6, .int b2)] td_X12_reaches 20 rfl (q := 40) rfl (Nat.le_of_ble_eq_true rfl) rfl ?_
    refine go_iload_n td_X12_reaches 21 rfl (q := 41) rfl 2 rfl ?_
    refine go_iload td_X12_reaches 22 rfl (q := 43) rfl 4 rfl ?_
    refine go_callS td_X12_reaches 23 rfl (q := 46) rfl (XkB E) lk_X12_311 (ok_fB_M_away E a2 a5 g) ⟨rfl, rfl, Nat.le_of_ble_eq_true rfl, Nat.le_of_ble_eq_true rfl⟩ rfl rfl (Nat.le_of_ble_eq_true rfl) (fun x5 => ?_)
    show Go (wCB E) _ _ g 46 _ [.int x5] _
    refine go_aload_n td_X12_reaches 24 rfl (q := 47) rfl 1 rfl ?_
    refine go_get td_X12_reaches 25 rfl (q := 50) rfl fl_X12_17 (Bc_0 E g) rfl ?_
    refine go_imul td_X12_reaches 26 rfl (q := 51) rfl ?_
    refine go_bvi (fun x6 => ?_)
    refine go_istore [(8, .int x6), (7, .int x4), (0, .ref (E.1 0)), (2, .int a2), (3, .int a3), (5, .int a5), (6, .int b2)] td_X12_reaches 27 rfl (q := 53) rfl (Nat.le_of_ble_eq_true rfl) rfl ?_
    refine go_iload td_X12_reaches 28 rfl (q := 55) rfl 1 rfl ?_
    refine go_iload td_X12_reaches 29 rfl (q := 57) rfl 1 rfl ?_
    refine go_imul td_X12_reaches 30 rfl (q := 58) rfl ?_
    refine go_iload td_X12_reaches 31 rfl (q := 60) rfl 0 rfl ?_
    refine go_iload td_X12_reaches 32 rfl (q := 62) rfl 0 rfl ?_
    refine go_imul td_X12_reaches 33 rfl (q := 63) rfl ?_
    refine go_iadd td_X12_reaches 34 rfl (q := 64) rfl ?_
    refine go_iload_n td_X12_reaches 35 rfl (q := 65) rfl 4 rfl ?_
    refine go_iload_n td_X12_reaches 36 rfl (q := 66) rfl 4 rfl ?_
    refine go_imul td_X12_reaches 37 rfl (q := 67) rfl ?_
    refine go_aload_n td_X12_reaches 38 rfl (q := 68) rfl 2 rfl ?_
    refine go_get td_X12_reaches 39 rfl (q := 71) rfl fl_X12_17 (Bc_0 E g) rfl ?_
    refine go_imul td_X12_reaches 40 rfl (q := 72) rfl ?_
    refine go_aload_n td_X12_reaches 41 rfl (q := 73) rfl 2 rfl ?_
    refine go_get td_X12_reaches 42 rfl (q := 76) rfl fl_X12_17 (Bc_0 E g) rfl ?_
    refine go_imul td_X12_reaches 43 rfl (q := 77) rfl ?_
    refine go_icmp_gt 84 td_X12_reaches 44 rfl rfl (q := 80) rfl (fun _ => ?_) (fun _ => ?_)
    · refine go_iconst td_X12_reaches 47 rfl (q := 85) rfl kc_0 ?_
      exact go_zret td_X12_reaches 48 rfl rfl rfl rfl
    · refine go_iconst td_X12_reaches 45 rfl (q := 81) rfl kc_1 ?_
      refine go_goto td_X12_reaches 46 rfl (q := 85) rfl ?_
      exact go_zret td_X12_reaches 48 rfl rfl rfl rfl
  intro J2 hJ2
  have kJ2 : ∀ (u2_0 : Int32), Go (wCB E) _ _ g 29 [(0, .ref (E.1 0)), (2, .int a2), (3, .int a3), (5, .int a5), (6, .int u2_0)] [] (J2 u2_0) := fun u2_0 => hJ2 u2_0
  refine go_icmp_ge 29 td_X12_reaches 9 rfl rfl (q := 20) rfl (fun _ => ?_) (fun _ => ?_)
  · refine go_pick [1, 3, 4, 6, 0] (lv' := [(0, .ref (E.1 0)), (2, .int a2), (3, .int a3), (5, .int a5), (6, .int x1)]) rfl ?_
    exact kJ2 x1
  · refine go_aload_n td_X12_reaches 10 rfl (q := 21) rfl 1 rfl ?_
    refine go_get td_X12_reaches 11 rfl (q := 24) rfl fl_X12_13 (Bc_0 E g) rfl ?_
    refine go_iload td_X12_reaches 12 rfl (q := 26) rfl 0 rfl ?_
    refine go_isub td_X12_reaches 13 rfl (q := 27) rfl ?_
    refine go_bvi (fun x7 => ?_)
    refine go_istore [(6, .int x7), (0, .ref (E.1 0)), (1, .int a1), (2, .int a2), (3, .int a3), (4, .int a4), (5, .int a5)] td_X12_reaches 14 rfl (q := 29) rfl (Nat.le_of_ble_eq_true rfl) rfl ?_
    refine go_pick [1, 3, 4, 6, 0] (lv' := [(0, .ref (E.1 0)), (2, .int a2), (3, .int a3), (5, .int a5), (6, .int x7)]) rfl ?_
    exact kJ2 x7
def fB_M_laysOne (a1 : Int32) (g : G) : Option (G) := Lp (α := Int32 × G) (fun rec1 s1 => (if (s1.2.1 7) ≤ s1.1 then some s1.2 else Option.bind (fB_M_columnAt a1 s1.1 s1.2) fun x2 => Option.bind (fB_M_rowAt a1 s1.1 s1.2) fun x3 => Lp (α := Int32 × G) (fun rec4 s4 => (if (s4.2.1 2) ≤ s4.1 then rec1 (s1.1 + 1, s4.2) else Lp (α := Int32 × G) (fun rec5 s5 => (if (s5.2.1 1) ≤ s5.1 then rec4 (s4.1 + 1, s5.2) else bv ((((s5.2.1 8) * s1.1) + ((s5.2.1 1) * s4.1)) + s5.1) fun x6 => ag 28 (s5.2.2.1 20) (20 + a1) fun x7 => Option.bind (fB_M_reaches x2 x3 x7 s5.1 s4.1 s5.2) fun x8 => lj (α := Int32) (fun b9 => ck 69120 x6 (bv (sA s5.2 22 (x6 : Int32).toNatClampNeg b9) fun g10 => rec5 (s5.1 + 1, g10))) fun J9 => (if x8 = 0 then ag 69120 (s5.2.2.1 22) x6 fun x11 => J9 (x11 &&& (((1 : Int32) <<< (a1 &&& 31)) ^^^ (-1))) else ag 69120 (s5.2.2.1 22) x6 fun x12 => J9 (x12 ||| ((1 : Int32) <<< (a1 &&& 31)))))) FU (0, s4.2))) FU (0, s1.2))) FU (0, g)
set_option maxRecDepth 20000 in
set_option maxHeartbeats 4000000 in
theorem ok_fB_M_laysOne (E : Ev) (a1 : Int32) (g : G)  : Ct (wCB E) yX12_laysOne mi_X12_laysOne [.ref (E.1 0), .int a1] (fun r => (none, r)) g (fB_M_laysOne a1 g) := by
  refine go_enter rfl rfl (Nat.le_of_ble_eq_true rfl) (lv := [(0, .ref (E.1 0)), (1, .int a1)]) rfl ?_
  unfold fB_M_laysOne
  refine go_iconst td_X12_laysOne 0 rfl (q := 1) rfl kc_0 ?_
  refine go_istore_n [(2, .int 0), (0, .ref (E.1 0)), (1, .int a1)] td_X12_laysOne 1 rfl (q := 2) rfl (Nat.le_of_ble_eq_true rfl) rfl ?_
  refine go_pick [1, 2, 0] (lv' := [(0, .ref (E.1 0)), (1, .int a1), (2, .int 0)]) rfl ?_
  refine (show ∀ (u1_0 : Int32) (u1_1 : G), Go (wCB E) _ _ u1_1 2 [(0, .ref (E.1 0)), (1, .int a1), (2, .int u1_0)] [] (Lp (α := Int32 × G) _ FU (u1_0, u1_1)) from ?_) 0 g
  intro u1_0 u1_1
  refine go_Lp (α := Int32 × G) (fun s1 => s1.2) (fun s1 => [(0, .ref (E.1 0)), (1, .int a1), (2, .int s1.1)]) ?_ FU (u1_0, u1_1)
  intro rec1 hrec1 s1
  have krec1 : ∀ (u1_0 : Int32) (u1_1 : G), Go (wCB E) _ _ u1_1 2 [(0, .ref (E.1 0)), (1, .int a1), (2, .int u1_0)] [] (rec1 (u1_0, u1_1)) := fun u1_0 u1_1 => hrec1 (u1_0, u1_1)
  refine go_iload_n td_X12_laysOne 2 rfl (q := 3) rfl 2 rfl ?_
  refine go_aload_n td_X12_laysOne 3 rfl (q := 4) rfl 0 rfl ?_
  refine go_get td_X12_laysOne 4 rfl (q := 7) rfl fl_X12_32 (Bc_0 E s1.2) rfl ?_
  refine go_icmp_ge 143 td_X12_laysOne 5 rfl rfl (q := 10) rfl (fun _ => ?_) (fun _ => ?_)
  · exact go_vret td_X12_laysOne 82 rfl rfl rfl
  · refine go_aload_n td_X12_laysOne 6 rfl (q := 11) rfl 0 rfl ?_
    refine go_iload_n td_X12_laysOne 7 rfl (q := 12) rfl 1 rfl ?_
    refine go_iload_n td_X12_laysOne 8 rfl (q := 13) rfl 2 rfl ?_
    refine go_callV td_X12_laysOne 9 rfl (q := 16) rfl (XkB E) lk_X12_314 (ok_fB_M_columnAt E a1 s1.1 s1.2) ⟨rfl, rfl, Nat.le_of_ble_eq_true rfl, Nat.le_of_ble_eq_true rfl⟩ rfl rfl (Nat.le_of_ble_eq_true rfl) (Bc_0 E s1.2) rfl (fun x2 => ?_)
    show Go (wCB E) _ _ s1.2 16 _ [.int x2] _
    refine go_istore_n [(3, .int x2), (0, .ref (E.1 0)), (1, .int a1), (2, .int s1.1)] td_X12_laysOne 10 rfl (q := 17) rfl (Nat.le_of_ble_eq_true rfl) rfl ?_
    refine go_aload_n td_X12_laysOne 11 rfl (q := 18) rfl 1 rfl ?_
    refine go_iload_n td_X12_laysOne 12 rfl (q := 19) rfl 2 rfl ?_
    refine go_iload_n td_X12_laysOne 13 rfl (q := 20) rfl 3 rfl ?_
    refine go_callV td_X12_laysOne 14 rfl (q := 23) rfl (XkB E) lk_X12_317 (ok_fB_M_rowAt E a1 s1.1 s1.2) ⟨rfl, rfl, Nat.le_of_ble_eq_true rfl, Nat.le_of_ble_eq_true rfl⟩ rfl rfl (Nat.le_of_ble_eq_true rfl) (Bc_0 E s1.2) rfl (fun x3 => ?_)
    show Go (wCB E) _ _ s1.2 23 _ [.int x3] _
    refine go_istore [(4, .int x3), (3, .int x2), (0, .ref (E.1 0)), (1, .int a1), (2, .int s1.1)] td_X12_laysOne 15 rfl (q := 25) rfl (Nat.le_of_ble_eq_true rfl) rfl ?_
    refine go_iconst td_X12_laysOne 16 rfl (q := 26) rfl kc_0 ?_
    refine go_istore [(5, .int 0), (4, .int x3), (3, .int x2), (0, .ref (E.1 0)), (1, .int a1), (2, .int s1.1)] td_X12_laysOne 17 rfl (q := 28) rfl (Nat.le_of_ble_eq_true rfl) rfl ?_
    refine go_pick [3, 4, 5, 2, 1, 0] (lv' := [(0, .ref (E.1 0)), (1, .int a1), (2, .int s1.1), (3, .int x2), (4, .int x3), (5, .int 0)]) rfl ?_
    refine (show ∀ (u4_0 : Int32) (u4_1 : G), Go (wCB E) _ _ u4_1 28 [(0, .ref (E.1 0)), (1, .int a1), (2, .int s1.1), (3, .int x2), (4, .int x3), (5, .int u4_0)] [] (Lp (α := Int32 × G) _ FU (u4_0, u4_1)) from ?_) 0 s1.2
    intro u4_0 u4_1
    refine go_Lp (α := Int32 × G) (fun s4 => s4.2) (fun s4 => [(0, .ref (E.1 0)), (1, .int a1), (2, .int s1.1), (3, .int x2), (4, .int x3), (5, .int s4.1)]) ?_ FU (u4_0, u4_1)
    intro rec4 hrec4 s4
    have krec4 : ∀ (u4_0 : Int32) (u4_1 : G), Go (wCB E) _ _ u4_1 28 [(0, .ref (E.1 0)), (1, .int a1), (2, .int s1.1), (3, .int x2), (4, .int x3), (5, .int u4_0)] [] (rec4 (u4_0, u4_1)) := fun u4_0 u4_1 => hrec4 (u4_0, u4_1)
    refine go_iload td_X12_laysOne 18 rfl (q := 30) rfl 5 rfl ?_
    refine go_aload_n td_X12_laysOne 19 rfl (q := 31) rfl 0 rfl ?_
    refine go_get td_X12_laysOne 20 rfl (q := 34) rfl fl_X12_17 (Bc_0 E s4.2) rfl ?_
    refine go_icmp_ge 137 td_X12_laysOne 21 rfl rfl (q := 37) rfl (fun _ => ?_) (fun _ => ?_)
    · refine go_iinc [(2, .int (s1.1 + 1)), (0, .ref (E.1 0)), (1, .int a1), (3, .int x2), (4, .int x3), (5, .int s4.1)] td_X12_laysOne 80 rfl (q := 140) rfl 2 rfl kc_1 (Nat.le_of_ble_eq_true rfl) rfl ?_
      refine go_goto td_X12_laysOne 81 rfl (q := 2) rfl ?_
      refine go_pick [1, 2, 0] (lv' := [(0, .ref (E.1 0)), (1, .int a1), (2, .int (s1.1 + 1))]) rfl ?_
      exact krec1 (s1.1 + 1) s4.2
    · refine go_iconst td_X12_laysOne 22 rfl (q := 38) rfl kc_0 ?_
      refine go_istore [(6, .int 0), (0, .ref (E.1 0)), (1, .int a1), (2, .int s1.1), (3, .int x2), (4, .int x3), (5, .int s4.1)] td_X12_laysOne 23 rfl (q := 40) rfl (Nat.le_of_ble_eq_true rfl) rfl ?_
      refine go_pick [1, 2, 3, 4, 5, 6, 0] (lv' := [(0, .ref (E.1 0)), (1, .int a1), (2, .int s1.1), (3, .int x2), (4, .int x3), (5, .int s4.1), (6, .int 0)]) rfl ?_
      refine (show ∀ (u5_0 : Int32) (u5_1 : G), Go (wCB E) _ _ u5_1 40 [(0, .ref (E.1 0)), (1, .int a1), (2, .int s1.1), (3, .int x2), (4, .int x3), (5, .int s4.1), (6, .int u5_0)] [] (Lp (α := Int32 × G) _ FU (u5_0, u5_1)) from ?_) 0 s4.2
      intro u5_0 u5_1
      refine go_Lp (α := Int32 × G) (fun s5 => s5.2) (fun s5 => [(0, .ref (E.1 0)), (1, .int a1), (2, .int s1.1), (3, .int x2), (4, .int x3), (5, .int s4.1), (6, .int s5.1)]) ?_ FU (u5_0, u5_1)
      intro rec5 hrec5 s5
      have krec5 : ∀ (u5_0 : Int32) (u5_1 : G), Go (wCB E) _ _ u5_1 40 [(0, .ref (E.1 0)), (1, .int a1), (2, .int s1.1), (3, .int x2), (4, .int x3), (5, .int s4.1), (6, .int u5_0)] [] (rec5 (u5_0, u5_1)) := fun u5_0 u5_1 => hrec5 (u5_0, u5_1)
      refine go_iload td_X12_laysOne 24 rfl (q := 42) rfl 6 rfl ?_
      refine go_aload_n td_X12_laysOne 25 rfl (q := 43) rfl 0 rfl ?_
      refine go_get td_X12_laysOne 26 rfl (q := 46) rfl fl_X12_13 (Bc_0 E s5.2) rfl ?_
      refine go_icmp_ge 131 td_X12_laysOne 27 rfl rfl (q := 49) rfl (fun _ => ?_) (fun _ => ?_)
      · refine go_iinc [(5, .int (s4.1 + 1)), (0, .ref (E.1 0)), (1, .int a1), (2, .int s1.1), (3, .int x2), (4, .int x3), (6, .int s5.1)] td_X12_laysOne 78 rfl (q := 134) rfl 5 rfl kc_1 (Nat.le_of_ble_eq_true rfl) rfl ?_
        refine go_goto td_X12_laysOne 79 rfl (q := 28) rfl ?_
        refine go_pick [1, 2, 3, 4, 5, 0] (lv' := [(0, .ref (E.1 0)), (1, .int a1), (2, .int s1.1), (3, .int x2), (4, .int x3), (5, .int (s4.1 + 1))]) rfl ?_
        exact krec4 (s4.1 + 1) s5.2
      · refine go_aload_n td_X12_laysOne 28 rfl (q := 50) rfl 0 rfl ?_
        refine go_get td_X12_laysOne 29 rfl (q := 53) rfl fl_X12_35 (Bc_0 E s5.2) rfl ?_
        refine go_iload_n td_X12_laysOne 30 rfl (q := 54) rfl 2 rfl ?_
        refine go_imul td_X12_laysOne 31 rfl (q := 55) rfl ?_
        refine go_aload_n td_X12_laysOne 32 rfl (q := 56) rfl 0 rfl ?_
        refine go_get td_X12_laysOne 33 rfl (q := 59) rfl fl_X12_13 (Bc_0 E s5.2) rfl ?_
        refine go_iload td_X12_laysOne 34 rfl (q := 61) rfl 5 rfl ?_
        refine go_imul td_X12_laysOne 35 rfl (q := 62) rfl ?_
        refine go_iadd td_X12_laysOne 36 rfl (q := 63) rfl ?_
        refine go_iload td_X12_laysOne 37 rfl (q := 65) rfl 6 rfl ?_
        refine go_iadd td_X12_laysOne 38 rfl (q := 66) rfl ?_
        refine go_bvi (fun x6 => ?_)
        refine go_istore [(7, .int x6), (0, .ref (E.1 0)), (1, .int a1), (2, .int s1.1), (3, .int x2), (4, .int x3), (5, .int s4.1), (6, .int s5.1)] td_X12_laysOne 39 rfl (q := 68) rfl (Nat.le_of_ble_eq_true rfl) rfl ?_
        refine go_aload_n td_X12_laysOne 40 rfl (q := 69) rfl 1 rfl ?_
        refine go_get td_X12_laysOne 41 rfl (q := 72) rfl fl_X12_151 (Bc_0 E s5.2) rfl ?_
        refine go_iload td_X12_laysOne 42 rfl (q := 74) rfl 0 rfl ?_
        refine go_aload_n td_X12_laysOne 43 rfl (q := 75) rfl 1 rfl ?_
        refine go_iload_n td_X12_laysOne 44 rfl (q := 76) rfl 4 rfl ?_
        refine go_iload td_X12_laysOne 45 rfl (q := 78) rfl 5 rfl ?_
        refine go_aload_n td_X12_laysOne 46 rfl (q := 79) rfl 1 rfl ?_
        refine go_get td_X12_laysOne 47 rfl (q := 82) rfl fl_X12_141 (Bc_0 E s5.2) rfl ?_
        refine go_bipush td_X12_laysOne 48 rfl (q := 84) rfl kb_20 ?_
        refine go_iload_n td_X12_laysOne 49 rfl (q := 85) rfl 2 rfl ?_
        refine go_iadd td_X12_laysOne 50 rfl (q := 86) rfl ?_
        refine go_ald td_X12_laysOne 51 rfl (q := 87) rfl (Bc_20 E s5.2) (t0 := 0) rfl (fun x7 => ?_)
        refine go_iload td_X12_laysOne 52 rfl (q := 89) rfl 7 rfl ?_
        refine go_iload td_X12_laysOne 53 rfl (q := 91) rfl 6 rfl ?_
        refine go_callV td_X12_laysOne 54 rfl (q := 94) rfl (XkB E) lk_X12_320 (ok_fB_M_reaches E x2 x3 x7 s5.1 s4.1 s5.2) ⟨rfl, rfl, Nat.le_of_ble_eq_true rfl, Nat.le_of_ble_eq_true rfl⟩ rfl rfl (Nat.le_of_ble_eq_true rfl) (Bc_0 E s5.2) rfl (fun x8 => ?_)
        show Go (wCB E) _ _ s5.2 94 _ [.int x8, .int x6, .ref (E.1 22)] _
        refine go_ljX (α := Int32) (fun b9 => [(0, .ref (E.1 0)), (1, .int a1), (2, .int s1.1), (3, .int x2), (4, .int x3), (5, .int s4.1), (6, .int s5.1)]) (fun b9 => [.int b9, .int x6, .ref (E.1 22)]) (fun b9 => s5.2) 124 ?_ ?_
        · intro b9
          refine go_ast td_X12_laysOne 75 rfl (q := 125) rfl (Bc_22 E s5.2) (t0 := 0) rfl (Bas_22 E s5.2 _) ?_
          refine go_bvg (fun g10 => ?_)
          refine go_iinc [(6, .int (s5.1 + 1)), (0, .ref (E.1 0)), (1, .int a1), (2, .int s1.1), (3, .int x2), (4, .int x3), (5, .int s4.1)] td_X12_laysOne 76 rfl (q := 128) rfl 6 rfl kc_1 (Nat.le_of_ble_eq_true rfl) rfl ?_
          refine go_goto td_X12_laysOne 77 rfl (q := 40) rfl ?_
          refine go_pick [1, 2, 3, 4, 5, 6, 0] (lv' := [(0, .ref (E.1 0)), (1, .int a1), (2, .int s1.1), (3, .int x2), (4, .int x3), (5, .int s4.1), (6, .int (s5.1 + 1))]) rfl ?_
          exact krec5 (s5.1 + 1) g10
        intro J9 hJ9
        have kJ9 : ∀ (u9_0 : Int32), Go (wCB E) _ _ s5.2 124 [(0, .ref (E.1 0)), (1, .int a1), (2, .int s1.1), (3, .int x2), (4, .int x3), (5, .int s4.1), (6, .int s5.1)] [.int u9_0, .int x6, .ref (E.1 22)] (J9 u9_0) := fun u9_0 => hJ9 u9_0
        refine go_if_eq 111 td_X12_laysOne 55 rfl rfl (q := 97) rfl (fun _ => ?_) (fun _ => ?_)
        · refine go_aload_n td_X12_laysOne 65 rfl (q := 112) rfl 1 rfl ?_
          refine go_get td_X12_laysOne 66 rfl (q := 115) rfl fl_X12_151 (Bc_0 E s5.2) rfl ?_
          refine go_iload td_X12_laysOne 67 rfl (q := 117) rfl 0 rfl ?_
          refine go_ald td_X12_laysOne 68 rfl (q := 118) rfl (Bc_22 E s5.2) (t0 := 0) rfl (fun x11 => ?_)
          refine go_iconst td_X12_laysOne 69 rfl (q := 119) rfl kc_1 ?_
          refine go_iload_n td_X12_laysOne 70 rfl (q := 120) rfl 2 rfl ?_
          refine go_ishl td_X12_laysOne 71 rfl (q := 121) rfl ?_
          refine go_iconst td_X12_laysOne 72 rfl (q := 122) rfl kc_m1 ?_
          refine go_ixor td_X12_laysOne 73 rfl (q := 123) rfl ?_
          refine go_iand td_X12_laysOne 74 rfl (q := 124) rfl ?_
          refine go_pick [1, 2, 3, 4, 5, 6, 7] (lv' := [(0, .ref (E.1 0)), (1, .int a1), (2, .int s1.1), (3, .int x2), (4, .int x3), (5, .int s4.1), (6, .int s5.1)]) rfl ?_
          exact kJ9 (x11 &&& (((1 : Int32) <<< (a1 &&& 31)) ^^^ (-1)))
        · refine go_aload_n td_X12_laysOne 56 rfl (q := 98) rfl 1 rfl ?_
          refine go_get td_X12_laysOne 57 rfl (q := 101) rfl fl_X12_151 (Bc_0 E s5.2) rfl ?_
          refine go_iload td_X12_laysOne 58 rfl (q := 103) rfl 0 rfl ?_
          refine go_ald td_X12_laysOne 59 rfl (q := 104) rfl (Bc_22 E s5.2) (t0 := 0) rfl (fun x12 => ?_)
          refine go_iconst td_X12_laysOne 60 rfl (q := 105) rfl kc_1 ?_
          refine go_iload_n td_X12_laysOne 61 rfl (q := 106) rfl 2 rfl ?_
          refine go_ishl td_X12_laysOne 62 rfl (q := 107) rfl ?_
          refine go_ior td_X12_laysOne 63 rfl (q := 108) rfl ?_
          refine go_goto td_X12_laysOne 64 rfl (q := 124) rfl ?_
          refine go_pick [1, 2, 3, 4, 5, 6, 7] (lv' := [(0, .ref (E.1 0)), (1, .int a1), (2, .int s1.1), (3, .int x2), (4, .int x3), (5, .int s4.1), (6, .int s5.1)]) rfl ?_
          exact kJ9 (x12 ||| ((1 : Int32) <<< (a1 &&& 31)))
