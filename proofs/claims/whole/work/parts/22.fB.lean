def fB_M_laysSets (g : G) : Option (G) := (if (g.1 47) = 0 then Lp (α := Int32 × G) (fun rec1 s1 => (if ((s1.2.1 8) * (s1.2.1 7)) ≤ s1.1 then Lp (α := Int32 × G) (fun rec2 s2 => (if (s2.2.1 5) ≤ s2.1 then bv (sS s2.2 47 1) fun g3 => some g3 else Option.bind (fB_M_laysOne s2.1 s2.2) fun x4 => rec2 (s2.1 + 1, x4))) FU (0, s1.2) else ck 69120 s1.1 (bv (sA s1.2 22 (s1.1 : Int32).toNatClampNeg 0) fun g5 => rec1 (s1.1 + 1, g5)))) FU (0, g) else some g)
set_option maxRecDepth 20000 in
set_option maxHeartbeats 4000000 in
theorem ok_fB_M_laysSets (E : Ev)  (g : G)  : Ct (wCB E) yX12_laysSets mi_X12_laysSets [.ref (E.1 0)] (fun r => (none, r)) g (fB_M_laysSets g) := by
  refine go_enter rfl rfl (Nat.le_of_ble_eq_true rfl) (lv := [(0, .ref (E.1 0))]) rfl ?_
  unfold fB_M_laysSets
  refine go_aload_n td_X12_laysSets 0 rfl (q := 1) rfl 0 rfl ?_
  refine go_get td_X12_laysSets 1 rfl (q := 4) rfl fl_X12_154 (Bc_0 E g) rfl ?_
  refine go_if_eq 8 td_X12_laysSets 2 rfl rfl (q := 7) rfl (fun _ => ?_) (fun _ => ?_)
  · refine go_iconst td_X12_laysSets 4 rfl (q := 9) rfl kc_0 ?_
    refine go_istore_n [(1, .int 0), (0, .ref (E.1 0))] td_X12_laysSets 5 rfl (q := 10) rfl (Nat.le_of_ble_eq_true rfl) rfl ?_
    refine go_pick [1, 0] (lv' := [(0, .ref (E.1 0)), (1, .int 0)]) rfl ?_
    refine (show ∀ (u1_0 : Int32) (u1_1 : G), Go (wCB E) _ _ u1_1 10 [(0, .ref (E.1 0)), (1, .int u1_0)] [] (Lp (α := Int32 × G) _ FU (u1_0, u1_1)) from ?_) 0 g
    intro u1_0 u1_1
    refine go_Lp (α := Int32 × G) (fun s1 => s1.2) (fun s1 => [(0, .ref (E.1 0)), (1, .int s1.1)]) ?_ FU (u1_0, u1_1)
    intro rec1 hrec1 s1
    have krec1 : ∀ (u1_0 : Int32) (u1_1 : G), Go (wCB E) _ _ u1_1 10 [(0, .ref (E.1 0)), (1, .int u1_0)] [] (rec1 (u1_0, u1_1)) := fun u1_0 u1_1 => hrec1 (u1_0, u1_1)
    refine go_iload_n td_X12_laysSets 6 rfl (q := 11) rfl 1 rfl ?_
    refine go_aload_n td_X12_laysSets 7 rfl (q := 12) rfl 0 rfl ?_
    refine go_get td_X12_laysSets 8 rfl (q := 15) rfl fl_X12_35 (Bc_0 E s1.2) rfl ?_
    refine go_aload_n td_X12_laysSets 9 rfl (q := 16) rfl 0 rfl ?_
    refine go_get td_X12_laysSets 10 rfl (q := 19) rfl fl_X12_32 (Bc_0 E s1.2) rfl ?_
    refine go_imul td_X12_laysSets 11 rfl (q := 20) rfl ?_
    refine go_icmp_ge 36 td_X12_laysSets 12 rfl rfl (q := 23) rfl (fun _ => ?_) (fun _ => ?_)
    · refine go_iconst td_X12_laysSets 20 rfl (q := 37) rfl kc_0 ?_
      refine go_istore_n [(1, .int 0), (0, .ref (E.1 0))] td_X12_laysSets 21 rfl (q := 38) rfl (Nat.le_of_ble_eq_true rfl) rfl ?_
      refine go_pick [1, 0] (lv' := [(0, .ref (E.1 0)), (1, .int 0)]) rfl ?_
      refine (show ∀ (u2_0 : Int32) (u2_1 : G), Go (wCB E) _ _ u2_1 38 [(0, .ref (E.1 0)), (1, .int u2_0)] [] (Lp (α := Int32 × G) _ FU (u2_0, u2_1)) from ?_) 0 s1.2
      intro u2_0 u2_1
      refine go_Lp (α := Int32 × G) (fun s2 => s2.2) (fun s2 => [(0, .ref (E.1 0)), (1, .int s2.1)]) ?_ FU (u2_0, u2_1)
      intro rec2 hrec2 s2
      have krec2 : ∀ (u2_0 : Int32) (u2_1 : G), Go (wCB E) _ _ u2_1 38 [(0, .ref (E.1 0)), (1, .int u2_0)] [] (rec2 (u2_0, u2_1)) := fun u2_0 u2_1 => hrec2 (u2_0, u2_1)
      refine go_iload_n td_X12_laysSets 22 rfl (q := 39) rfl 1 rfl ?_
      refine go_aload_n td_X12_laysSets 23 rfl (q := 40) rfl 0 rfl ?_
      refine go_get td_X12_laysSets 24 rfl (q := 43) rfl fl_X12_26 (Bc_0 E s2.2) rfl ?_
      refine go_icmp_ge 57 td_X12_laysSets 25 rfl rfl (q := 46) rfl (fun _ => ?_) (fun _ => ?_)
      · refine go_aload_n td_X12_laysSets 31 rfl (q := 58) rfl 0 rfl ?_
        refine go_iconst td_X12_laysSets 32 rfl (q := 59) rfl kc_1 ?_
        refine go_put td_X12_laysSets 33 rfl (q := 62) rfl flp_X12_154 (Bc_0 E s2.2) rfl rfl (Nat.le_of_ble_eq_true rfl) (Bps_47 E s2.2 1) ?_
        refine go_bvg (fun g3 => ?_)
        exact go_vret td_X12_laysSets 34 rfl rfl rfl
      · refine go_aload_n td_X12_laysSets 26 rfl (q := 47) rfl 0 rfl ?_
        refine go_iload_n td_X12_laysSets 27 rfl (q := 48) rfl 1 rfl ?_
        refine go_callV td_X12_laysSets 28 rfl (q := 51) rfl (XkB E) lk_X12_324 (ok_fB_M_laysOne E s2.1 s2.2) ⟨rfl, rfl, Nat.le_of_ble_eq_true rfl, Nat.le_of_ble_eq_true rfl⟩ rfl rfl (Nat.le_of_ble_eq_true rfl) (Bc_0 E s2.2) rfl (fun x4 => ?_)
        show Go (wCB E) _ _ x4 51 _ [] _
        refine go_iinc [(1, .int (s2.1 + 1)), (0, .ref (E.1 0))] td_X12_laysSets 29 rfl (q := 54) rfl 1 rfl kc_1 (Nat.le_of_ble_eq_true rfl) rfl ?_
        refine go_goto td_X12_laysSets 30 rfl (q := 38) rfl ?_
        refine go_pick [1, 0] (lv' := [(0, .ref (E.1 0)), (1, .int (s2.1 + 1))]) rfl ?_
        exact krec2 (s2.1 + 1) x4
    · refine go_aload_n td_X12_laysSets 13 rfl (q := 24) rfl 0 rfl ?_
      refine go_get td_X12_laysSets 14 rfl (q := 27) rfl fl_X12_151 (Bc_0 E s1.2) rfl ?_
      refine go_iload_n td_X12_laysSets 15 rfl (q := 28) rfl 1 rfl ?_
      refine go_iconst td_X12_laysSets 16 rfl (q := 29) rfl kc_0 ?_
      refine go_ast td_X12_laysSets 17 rfl (q := 30) rfl (Bc_22 E s1.2) (t0 := 0) rfl (Bas_22 E s1.2 _) ?_
      refine go_bvg (fun g5 => ?_)
      refine go_iinc [(1, .int (s1.1 + 1)), (0, .ref (E.1 0))] td_X12_laysSets 18 rfl (q := 33) rfl 1 rfl kc_1 (Nat.le_of_ble_eq_true rfl) rfl ?_
      refine go_goto td_X12_laysSets 19 rfl (q := 10) rfl ?_
      refine go_pick [1, 0] (lv' := [(0, .ref (E.1 0)), (1, .int (s1.1 + 1))]) rfl ?_
      exact krec1 (s1.1 + 1) g5
  · exact go_vret td_X12_laysSets 3 rfl rfl rfl
def fB_M_upSet (g : G) : Option (Int32) := Lp (α := Int32 × Int32) (fun rec1 s1 => (if (g.1 5) ≤ s1.2 then some s1.1 else ag 28 (g.2.1 20) (4 + s1.2) fun x2 => bv (s1.1 ||| (x2 <<< (s1.2 &&& 31))) fun x3 => rec1 (x3, s1.2 + 1))) FU (0, 0)
set_option maxRecDepth 20000 in
set_option maxHeartbeats 4000000 in
theorem ok_fB_M_upSet (E : Ev)  (g : G)  : Ct (wCB E) yX12_upSet mi_X12_upSet [.ref (E.1 0)] (fun r => (some (.int r), g)) g (fB_M_upSet g) := by
  refine go_enter rfl rfl (Nat.le_of_ble_eq_true rfl) (lv := [(0, .ref (E.1 0))]) rfl ?_
  unfold fB_M_upSet
  refine go_iconst td_X12_upSet 0 rfl (q := 1) rfl kc_0 ?_
  refine go_istore_n [(1, .int 0), (0, .ref (E.1 0))] td_X12_upSet 1 rfl (q := 2) rfl (Nat.le_of_ble_eq_true rfl) rfl ?_
  refine go_iconst td_X12_upSet 2 rfl (q := 3) rfl kc_0 ?_
  refine go_istore_n [(2, .int 0), (1, .int 0), (0, .ref (E.1 0))] td_X12_upSet 3 rfl (q := 4) rfl (Nat.le_of_ble_eq_true rfl) rfl ?_
  refine go_pick [2, 1, 0] (lv' := [(0, .ref (E.1 0)), (1, .int 0), (2, .int 0)]) rfl ?_
  refine (show ∀ (u1_0 : Int32) (u1_1 : Int32), Go (wCB E) _ _ g 4 [(0, .ref (E.1 0)), (1, .int u1_0), (2, .int u1_1)] [] (Lp (α := Int32 × Int32) _ FU (u1_0, u1_1)) from ?_) 0 0
  intro u1_0 u1_1
  refine go_Lp (α := Int32 × Int32) (fun s1 => g) (fun s1 => [(0, .ref (E.1 0)), (1, .int s1.1), (2, .int s1.2)]) ?_ FU (u1_0, u1_1)
  intro rec1 hrec1 s1
  have krec1 : ∀ (u1_0 : Int32) (u1_1 : Int32), Go (wCB E) _ _ g 4 [(0, .ref (E.1 0)), (1, .int u1_0), (2, .int u1_1)] [] (rec1 (u1_0, u1_1)) := fun u1_0 u1_1 => hrec1 (u1_0, u1_1)
  refine go_iload_n td_X12_upSet 4 rfl (q := 5) rfl 2 rfl ?_
  refine go_aload_n td_X12_upSet 5 rfl (q := 6) rfl 0 rfl ?_
  refine go_get td_X12_upSet 6 rfl (q := 9) rfl fl_X12_26 (Bc_0 E g) rfl ?_
  refine go_icmp_ge 31 td_X12_upSet 7 rfl rfl (q := 12) rfl (fun _ => ?_) (fun _ => ?_)
  · refine go_iload_n td_X12_upSet 21 rfl (q := 32) rfl 1 rfl ?_
    exact go_iret td_X12_upSet 22 rfl rfl rfl
  · refine go_iload_n td_X12_upSet 8 rfl (q := 13) rfl 1 rfl ?_
    refine go_aload_n td_X12_upSet 9 rfl (q := 14) rfl 0 rfl ?_
    refine go_get td_X12_upSet 10 rfl (q := 17) rfl fl_X12_141 (Bc_0 E g) rfl ?_
    refine go_iconst td_X12_upSet 11 rfl (q := 18) rfl kc_4 ?_
    refine go_iload_n td_X12_upSet 12 rfl (q := 19) rfl 2 rfl ?_
    refine go_iadd td_X12_upSet 13 rfl (q := 20) rfl ?_
    refine go_ald td_X12_upSet 14 rfl (q := 21) rfl (Bc_20 E g) (t0 := 0) rfl (fun x2 => ?_)
    refine go_iload_n td_X12_upSet 15 rfl (q := 22) rfl 2 rfl ?_
    refine go_ishl td_X12_upSet 16 rfl (q := 23) rfl ?_
    refine go_ior td_X12_upSet 17 rfl (q := 24) rfl ?_
    refine go_bvi (fun x3 => ?_)
    refine go_istore_n [(1, .int x3), (0, .ref (E.1 0)), (2, .int s1.2)] td_X12_upSet 18 rfl (q := 25) rfl (Nat.le_of_ble_eq_true rfl) rfl ?_
    refine go_iinc [(2, .int (s1.2 + 1)), (1, .int x3), (0, .ref (E.1 0))] td_X12_upSet 19 rfl (q := 28) rfl 2 rfl kc_1 (Nat.le_of_ble_eq_true rfl) rfl ?_
    refine go_goto td_X12_upSet 20 rfl (q := 4) rfl ?_
    refine go_pick [2, 1, 0] (lv' := [(0, .ref (E.1 0)), (1, .int x3), (2, .int (s1.2 + 1))]) rfl ?_
    exact krec1 x3 (s1.2 + 1)
def fB_M_isBy (a1 : Int32) (a2 : Int32) (a3 : Int32) (g : G) : Option (Int32) := dz (g.1 7) (ag 69120 (g.2.1 22) (((g.1 8) * (a2 - a2 / (g.1 7) * (g.1 7))) + a1) fun x1 => (if (x1 &&& a3) = 0 then some 0 else some 1))
set_option maxRecDepth 20000 in
set_option maxHeartbeats 4000000 in
theorem ok_fB_M_isBy (E : Ev) (a1 : Int32) (a2 : Int32) (a3 : Int32) (g : G)  : Ct (wCB E) yX12_isBy mi_X12_isBy [.ref (E.1 0), .int a1, .int a2, .int a3] (fun r => (some (.int r), g)) g (fB_M_isBy a1 a2 a3 g) := by
  refine go_enter rfl rfl (Nat.le_of_ble_eq_true rfl) (lv := [(0, .ref (E.1 0)), (1, .int a1), (2, .int a2), (3, .int a3)]) rfl ?_
  unfold fB_M_isBy
  refine go_aload_n td_X12_isBy 0 rfl (q := 1) rfl 0 rfl ?_
  refine go_get td_X12_isBy 1 rfl (q := 4) rfl fl_X12_151 (Bc_0 E g) rfl ?_
  refine go_aload_n td_X12_isBy 2 rfl (q := 5) rfl 0 rfl ?_
  refine go_get td_X12_isBy 3 rfl (q := 8) rfl fl_X12_35 (Bc_0 E g) rfl ?_
  refine go_iload_n td_X12_isBy 4 rfl (q := 9) rfl 2 rfl ?_
  refine go_aload_n td_X12_isBy 5 rfl (q := 10) rfl 0 rfl ?_
  refine go_get td_X12_isBy 6 rfl (q := 13) rfl fl_X12_32 (Bc_0 E g) rfl ?_
  refine go_irem td_X12_isBy 7 rfl (q := 14) rfl ?_
  refine go_imul td_X12_isBy 8 rfl (q := 15) rfl ?_
  refine go_iload_n td_X12_isBy 9 rfl (q := 16) rfl 1 rfl ?_
  refine go_iadd td_X12_isBy 10 rfl (q := 17) rfl ?_
  refine go_ald td_X12_isBy 11 rfl (q := 18) rfl (Bc_22 E g) (t0 := 0) rfl (fun x1 => ?_)
  refine go_iload_n td_X12_isBy 12 rfl (q := 19) rfl 3 rfl ?_
  refine go_iand td_X12_isBy 13 rfl (q := 20) rfl ?_
  refine go_if_eq 27 td_X12_isBy 14 rfl rfl (q := 23) rfl (fun _ => ?_) (fun _ => ?_)
  · refine go_iconst td_X12_isBy 17 rfl (q := 28) rfl kc_0 ?_
    exact go_zret td_X12_isBy 18 rfl rfl rfl rfl
  · refine go_iconst td_X12_isBy 15 rfl (q := 24) rfl kc_1 ?_
    refine go_goto td_X12_isBy 16 rfl (q := 28) rfl ?_
    exact go_zret td_X12_isBy 18 rfl rfl rfl rfl
def fB_M_laysStretches (a1 : Int32) (a2 : Int32) (a3 : Int32) (g : G) : Option (G) := bv (sS g 50 0) fun g1 => Lp (α := Int32 × Int32) (fun rec2 s2 => (if (g1.1 7) ≤ s2.2 then lj (α := G) (fun b3 => (if s2.1 = (b3.1 7) then some b3 else (if s2.1 = 0 then some b3 else Lp (α := Int32 × G) (fun rec4 s4 => (if (s4.2.1 7) ≤ s4.1 then some s4.2 else Option.bind (fB_M_isBy a1 s4.1 a2 s4.2) fun x5 => lj (α := G) (fun b6 => rec4 (s4.1 + 1, b6)) fun J6 => (if x5 = a3 then Option.bind (fB_M_isBy a1 ((s4.1 + (s4.2.1 7)) - 1) a2 s4.2) fun x7 => (if x7 = a3 then J6 s4.2 else Lp (α := Int32) (fun rec8 s8 => Option.bind (fB_M_isBy a1 (s4.1 + s8) a2 s4.2) fun x9 => (if x9 = a3 then rec8 (s8 + 1) else ck 240 (s4.2.1 50) (bv (sA s4.2 23 (s4.2.1 50 : Int32).toNatClampNeg s4.1) fun g10 => ck 240 (g10.1 50) (bv (sA g10 24 (g10.1 50 : Int32).toNatClampNeg s8) fun g11 => bv (sS g11 50 ((g11.1 50) + 1)) fun g12 => J6 g12)))) FU 1) else J6 s4.2))) FU (0, b3)))) fun J3 => (if s2.1 = (g1.1 7) then ck 240 0 (bv (sA g1 23 (0 : Int32).toNatClampNeg 0) fun g13 => ck 240 0 (bv (sA g13 24 (0 : Int32).toNatClampNeg (g13.1 7)) fun g14 => bv (sS g14 50 1) fun g15 => J3 g15)) else J3 g1) else Option.bind (fB_M_isBy a1 s2.2 a2 g1) fun x16 => lj (α := Int32) (fun b17 => bv (s2.1 + b17) fun x18 => rec2 (x18, s2.2 + 1)) fun J17 => (if x16 = a3 then J17 1 else J17 0))) FU (0, 0)
set_option maxRecDepth 20000 in
set_option maxHeartbeats 4000000 in
theorem ok_fB_M_laysStretches (E : Ev) (a1 : Int32) (a2 : Int32) (a3 : Int32) (g : G)  : Ct (wCB E) yX12_laysStretches mi_X12_laysStretches [.ref (E.1 0), .int a1, .int a2, .int a3] (fun r => (none, r)) g (fB_M_laysStretches a1 a2 a3 g) := by
  refine go_enter rfl rfl (Nat.le_of_ble_eq_true rfl) (lv := [(0, .ref (E.1 0)), (1, .int a1), (2, .int a2), (3, .int a3)]) rfl ?_
  unfold fB_M_laysStretches
  refine go_aload_n td_X12_laysStretches 0 rfl (q := 1) rfl 0 rfl ?_
  refine go_iconst td_X12_laysStretches 1 rfl (q := 2) rfl kc_0 ?_
  refine go_put td_X12_laysStretches 2 rfl (q := 5) rfl flp_X12_163 (Bc_0 E g) rfl rfl (Nat.le_of_ble_eq_true rfl) (Bps_50 E g 0) ?_
  refine go_bvg (fun g1 => ?_)
  refine go_iconst td_X12_laysStretches 3 rfl (q := 6) rfl kc_0 ?_
  refine go_istore [(4, .int 0), (0, .ref (E.1 0)), (1, .int a1), (2, .int a2), (3, .int a3)] td_X12_laysStretches 4 rfl (q := 8) rfl (Nat.le_of_ble_eq_true rfl) rfl ?_
  refine go_iconst td_X12_laysStretches 5 rfl (q := 9) rfl kc_0 ?_
  refine go_istore [(5, .int 0), (4, .int 0), (0, .ref (E.1 0)), (1, .int a1), (2, .int a2), (3, .int a3)] td_X12_laysStretches 6 rfl (q := 11) rfl (Nat.le_of_ble_eq_true rfl) rfl ?_
  refine go_pick [2, 3, 4, 5, 1, 0] (lv' := [(0, .ref (E.1 0)), (1, .int a1), (2, .int a2), (3, .int a3), (4, .int 0), (5, .int 0)]) rfl ?_
  refine (show ∀ (u2_0 : Int32) (u2_1 : Int32), Go (wCB E) _ _ g1 11 [(0, .ref (E.1 0)), (1, .int a1), (2, .int a2), (3, .int a3), (4, .int u2_0), (5, .int u2_1)] [] (Lp (α := Int32 × Int32) _ FU (u2_0, u2_1)) from ?_) 0 0
  intro u2_0 u2_1
  refine go_Lp (α := Int32 × Int32) (fun s2 => g1) (fun s2 => [(0, .ref (E.1 0)), (1, .int a1), (2, .int a2), (3, .int a3), (4, .int s2.1), (5, .int s2.2)]) ?_ FU (u2_0, u2_1)
  intro rec2 hrec2 s2
  have krec2 : ∀ (u2_0 : Int32) (u2_1 : Int32), Go (wCB E) _ _ g1 11 [(0, .ref (E.1 0)), (1, .int a1), (2, .int a2), (3, .int a3), (4, .int u2_0), (5, .int u2_1)] [] (rec2 (u2_0, u2_1)) := fun u2_0 u2_1 => hrec2 (u2_0, u2_1)
  refine go_iload td_X12_laysStretches 7 rfl (q := 13) rfl 5 rfl ?_
  refine go_aload_n td_X12_laysStretches 8 rfl (q := 14) rfl 0 rfl ?_
  refine go_get td_X12_laysStretches 9 rfl (q := 17) rfl fl_X12_32 (Bc_0 E g1) rfl ?_
  refine go_icmp_ge 48 td_X12_laysStretches 10 rfl rfl (q := 20) rfl (fun _ => ?_) (fun _ => ?_)
  · refine go_iload td_X12_laysStretches 26 rfl (q := 50) rfl 4 rfl ?_
    refine go_aload_n td_X12_laysStretches 27 rfl (q := 51) rfl 0 rfl ?_
    refine go_get td_X12_laysStretches 28 rfl (q := 54) rfl fl_X12_32 (Bc_0 E g1) rfl ?_
    refine go_ljX (α := G) (fun b3 => [(0, .ref (E.1 0)), (1, .int a1), (2, .int a2), (3, .int a3), (4, .int s2.1)]) (fun b3 => []) (fun b3 => b3) 79 ?_ ?_
    · intro b3
      refine go_iload td_X12_laysStretches 44 rfl (q := 81) rfl 4 rfl ?_
      refine go_aload_n td_X12_laysStretches 45 rfl (q := 82) rfl 0 rfl ?_
      refine go_get td_X12_laysStretches 46 rfl (q := 85) rfl fl_X12_32 (Bc_0 E b3) rfl ?_
      refine go_icmp_eq 93 td_X12_laysStretches 47 rfl rfl (q := 88) rfl (fun _ => ?_) (fun _ => ?_)
      · exact go_vret td_X12_laysStretches 50 rfl rfl rfl
      · refine go_iload td_X12_laysStretches 48 rfl (q := 90) rfl 4 rfl ?_
        refine go_if_ne 94 td_X12_laysStretches 49 rfl rfl (q := 93) rfl (fun _ => ?_) (fun _ => ?_)
        · refine go_iconst td_X12_laysStretches 51 rfl (q := 95) rfl kc_0 ?_
          refine go_istore [(5, .int 0), (0, .ref (E.1 0)), (1, .int a1), (2, .int a2), (3, .int a3), (4, .int s2.1)] td_X12_laysStretches 52 rfl (q := 97) rfl (Nat.le_of_ble_eq_true rfl) rfl ?_
          refine go_pick [1, 2, 3, 4, 0] (lv' := [(0, .ref (E.1 0)), (1, .int a1), (2, .int a2), (3, .int a3), (5, .int 0)]) rfl ?_
          refine (show ∀ (u4_0 : Int32) (u4_1 : G), Go (wCB E) _ _ u4_1 97 [(0, .ref (E.1 0)), (1, .int a1), (2, .int a2), (3, .int a3), (5, .int u4_0)] [] (Lp (α := Int32 × G) _ FU (u4_0, u4_1)) from ?_) 0 b3
          intro u4_0 u4_1
          refine go_Lp (α := Int32 × G) (fun s4 => s4.2) (fun s4 => [(0, .ref (E.1 0)), (1, .int a1), (2, .int a2), (3, .int a3), (5, .int s4.1)]) ?_ FU (u4_0, u4_1)
          intro rec4 hrec4 s4
          have krec4 : ∀ (u4_0 : Int32) (u4_1 : G), Go (wCB E) _ _ u4_1 97 [(0, .ref (E.1 0)), (1, .int a1), (2, .int a2), (3, .int a3), (5, .int u4_0)] [] (rec4 (u4_0, u4_1)) := fun u4_0 u4_1 => hrec4 (u4_0, u4_1)
          refine go_iload td_X12_laysStretches 53 rfl (q := 99) rfl 4 rfl ?_
          refine go_aload_n td_X12_laysStretches 54 rfl (q := 100) rfl 0 rfl ?_
          refine go_get td_X12_laysStretches 55 rfl (q := 103) rfl fl_X12_32 (Bc_0 E s4.2) rfl ?_
          refine go_icmp_ge 202 td_X12_laysStretches 56 rfl rfl (q := 106) rfl (fun _ => ?_) (fun _ => ?_)
          · exact go_vret td_X12_laysStretches 110 rfl rfl rfl
          · refine go_aload_n td_X12_laysStretches 57 rfl (q := 107) rfl 0 rfl ?_
            refine go_iload_n td_X12_laysStretches 58 rfl (q := 108) rfl 1 rfl ?_
            refine go_iload td_X12_laysStretches 59 rfl (q := 110) rfl 4 rfl ?_
            refine go_iload_n td_X12_laysStretches 60 rfl (q := 111) rfl 2 rfl ?_
            refine go_callV td_X12_laysStretches 61 rfl (q := 114) rfl (XkB E) lk_X12_327 (ok_fB_M_isBy E a1 s4.1 a2 s4.2) ⟨rfl, rfl, Nat.le_of_ble_eq_true rfl, Nat.le_of_ble_eq_true rfl⟩ rfl rfl (Nat.le_of_ble_eq_true rfl) (Bc_0 E s4.2) rfl (fun x5 => ?_)
            show Go (wCB E) _ _ s4.2 114 _ [.int x5] _
            refine go_iload_n td_X12_laysStretches 62 rfl (q := 115) rfl 3 rfl ?_
            refine go_ljX (α := G) (fun b6 => [(0, .ref (E.1 0)), (1, .int a1), (2, .int a2), (3, .int a3), (5, .int s4.1)]) (fun b6 => []) (fun b6 => b6) 196 ?_ ?_
            · intro b6
              refine go_iinc [(5, .int (s4.1 + 1)), (0, .ref (E.1 0)), (1, .int a1), (2, .int a2), (3, .int a3)] td_X12_laysStretches 108 rfl (q := 199) rfl 4 rfl kc_1 (Nat.le_of_ble_eq_true rfl) rfl ?_
              refine go_goto td_X12_laysStretches 109 rfl (q := 97) rfl ?_
              refine go_pick [1, 2, 3, 4, 0] (lv' := [(0, .ref (E.1 0)), (1, .int a1), (2, .int a2), (3, .int a3), (5, .int (s4.1 + 1))]) rfl ?_
              exact krec4 (s4.1 + 1) b6
            intro J6 hJ6
            have kJ6 : ∀ (u6_0 : G), Go (wCB E) _ _ u6_0 196 [(0, .ref (E.1 0)), (1, .int a1), (2, .int a2), (3, .int a3), (5, .int s4.1)] [] (J6 u6_0) := fun u6_0 => hJ6 u6_0
            refine go_icmp_ne 196 td_X12_laysStretches 63 rfl rfl (q := 118) rfl (fun _ => ?_) (fun _ => ?_)
            · refine go_pick [0, 1, 2, 3, 4] (lv' := [(0, .ref (E.1 0)), (1, .int a1), (2, .int a2), (3, .int a3), (5, .int s4.1)]) rfl ?_
              exact kJ6 s4.2
            · refine go_aload_n td_X12_laysStretches 64 rfl (q := 119) rfl 0 rfl ?_
              refine go_iload_n td_X12_laysStretches 65 rfl (q := 120) rfl 1 rfl ?_
              refine go_iload td_X12_laysStretches 66 rfl (q := 122) rfl 4 rfl ?_
              refine go_aload_n td_X12_laysStretches 67 rfl (q := 123) rfl 0 rfl ?_
              refine go_get td_X12_laysStretches 68 rfl (q := 126) rfl fl_X12_32 (Bc_0 E s4.2) rfl ?_
              refine go_iadd td_X12_laysStretches 69 rfl (q := 127) rfl ?_
              refine go_iconst td_X12_laysStretches 70 rfl (q := 128) rfl kc_1 ?_
              refine go_isub td_X12_laysStretches 71 rfl (q := 129) rfl ?_
              refine go_iload_n td_X12_laysStretches 72 rfl (q := 130) rfl 2 rfl ?_
              refine go_callV td_X12_laysStretches 73 rfl (q := 133) rfl (XkB E) lk_X12_327 (ok_fB_M_isBy E a1 ((s4.1 + (s4.2.1 7)) - 1) a2 s4.2) ⟨rfl, rfl, Nat.le_of_ble_eq_true rfl, Nat.le_of_ble_eq_true rfl⟩ rfl rfl (Nat.le_of_ble_eq_true rfl) (Bc_0 E s4.2) rfl (fun x7 => ?_)
              show Go (wCB E) _ _ s4.2 133 _ [.int x7] _
              refine go_iload_n td_X12_laysStretches 74 rfl (q := 134) rfl 3 rfl ?_
              refine go_icmp_ne 140 td_X12_laysStretches 75 rfl rfl (q := 137) rfl (fun _ => ?_) (fun _ => ?_)
              · refine go_iconst td_X12_laysStretches 77 rfl (q := 141) rfl kc_1 ?_
                refine go_istore [(6, .int 1), (0, .ref (E.1 0)), (1, .int a1), (2, .int a2), (3, .int a3), (5, .int s4.1)] td_X12_laysStretches 78 rfl (q := 143) rfl (Nat.le_of_ble_eq_true rfl) rfl ?_
                refine go_pick [1, 2, 3, 4, 5, 0] (lv' := [(0, .ref (E.1 0)), (1, .int a1), (2, .int a2), (3, .int a3), (5, .int s4.1), (6, .int 1)]) rfl ?_
                refine (show ∀ (u8_0 : Int32), Go (wCB E) _ _ s4.2 143 [(0, .ref (E.1 0)), (1, .int a1), (2, .int a2), (3, .int a3), (5, .int s4.1), (6, .int u8_0)] [] (Lp (α := Int32) _ FU u8_0) from ?_) 1
                intro u8_0
                refine go_Lp (α := Int32) (fun s8 => s4.2) (fun s8 => [(0, .ref (E.1 0)), (1, .int a1), (2, .int a2), (3, .int a3), (5, .int s4.1), (6, .int s8)]) ?_ FU u8_0
                intro rec8 hrec8 s8
                have krec8 : ∀ (u8_0 : Int32), Go (wCB E) _ _ s4.2 143 [(0, .ref (E.1 0)), (1, .int a1), (2, .int a2), (3, .int a3), (5, .int s4.1), (6, .int u8_0)] [] (rec8 u8_0) := fun u8_0 => hrec8 u8_0
                refine go_aload_n td_X12_laysStretches 79 rfl (q := 144) rfl 0 rfl ?_
                refine go_iload_n td_X12_laysStretches 80 rfl (q := 145) rfl 1 rfl ?_
                refine go_iload td_X12_laysStretches 81 rfl (q := 147) rfl 4 rfl ?_
                refine go_iload td_X12_laysStretches 82 rfl (q := 149) rfl 5 rfl ?_
                refine go_iadd td_X12_laysStretches 83 rfl (q := 150) rfl ?_
                refine go_iload_n td_X12_laysStretches 84 rfl (q := 151) rfl 2 rfl ?_
                refine go_callV td_X12_laysStretches 85 rfl (q := 154) rfl (XkB E) lk_X12_327 (ok_fB_M_isBy E a1 (s4.1 + s8) a2 s4.2) ⟨rfl, rfl, Nat.le_of_ble_eq_true rfl, Nat.le_of_ble_eq_true rfl⟩ rfl rfl (Nat.le_of_ble_eq_true rfl) (Bc_0 E s4.2) rfl (fun x9 => ?_)
                show Go (wCB E) _ _ s4.2 154 _ [.int x9] _
                refine go_iload_n td_X12_laysStretches 86 rfl (q := 155) rfl 3 rfl ?_
                refine go_icmp_ne 164 td_X12_laysStretches 87 rfl rfl (q := 158) rfl (fun _ => ?_) (fun _ => ?_)
                · refine go_aload_n td_X12_laysStretches 90 rfl (q := 165) rfl 0 rfl ?_
                  refine go_get td_X12_laysStretches 91 rfl (q := 168) rfl fl_X12_157 (Bc_0 E s4.2) rfl ?_
                  refine go_aload_n td_X12_laysStretches 92 rfl (q := 169) rfl 0 rfl ?_
                  refine go_get td_X12_laysStretches 93 rfl (q := 172) rfl fl_X12_163 (Bc_0 E s4.2) rfl ?_
                  refine go_iload td_X12_laysStretches 94 rfl (q := 174) rfl 4 rfl ?_
                  refine go_ast td_X12_laysStretches 95 rfl (q := 175) rfl (Bc_23 E s4.2) (t0 := 0) rfl (Bas_23 E s4.2 _) ?_
                  refine go_bvg (fun g10 => ?_)
                  refine go_aload_n td_X12_laysStretches 96 rfl (q := 176) rfl 0 rfl ?_
                  refine go_get td_X12_laysStretches 97 rfl (q := 179) rfl fl_X12_160 (Bc_0 E g10) rfl ?_
                  refine go_aload_n td_X12_laysStretches 98 rfl (q := 180) rfl 0 rfl ?_
                  refine go_get td_X12_laysStretches 99 rfl (q := 183) rfl fl_X12_163 (Bc_0 E g10) rfl ?_
                  refine go_iload td_X12_laysStretches 100 rfl (q := 185) rfl 5 rfl ?_
                  refine go_ast td_X12_laysStretches 101 rfl (q := 186) rfl (Bc_24 E g10) (t0 := 0) rfl (Bas_24 E g10 _) ?_
                  refine go_bvg (fun g11 => ?_)
                  refine go_aload_n td_X12_laysStretches 102 rfl (q := 187) rfl 0 rfl ?_
                  refine go_dup td_X12_laysStretches 103 rfl (q := 188) rfl rfl ?_
                  refine go_get td_X12_laysStretches 104 rfl (q := 191) rfl fl_X12_163 (Bc_0 E g11) rfl ?_
                  refine go_iconst td_X12_laysStretches 105 rfl (q := 192) rfl kc_1 ?_
                  refine go_iadd td_X12_laysStretches 106 rfl (q := 193) rfl ?_
                  refine go_put td_X12_laysStretches 107 rfl (q := 196) rfl flp_X12_163 (Bc_0 E g11) rfl rfl (Nat.le_of_ble_eq_true rfl) (Bps_50 E g11 ((g11.1 50) + 1)) ?_
                  refine go_bvg (fun g12 => ?_)
                  refine go_pick [0, 1, 2, 3, 4] (lv' := [(0, .ref (E.1 0)), (1, .int a1), (2, .int a2), (3, .int a3), (5, .int s4.1)]) rfl ?_
                  exact kJ6 g12
                · refine go_iinc [(6, .int (s8 + 1)), (0, .ref (E.1 0)), (1, .int a1), (2, .int a2), (3, .int a3), (5, .int s4.1)] td_X12_laysStretches 88 rfl (q := 161) rfl 5 rfl kc_1 (Nat.le_of_ble_eq_true rfl) rfl ?_
                  refine go_goto td_X12_laysStretches 89 rfl (q := 143) rfl ?_
                  refine go_pick [1, 2, 3, 4, 5, 0] (lv' := [(0, .ref (E.1 0)), (1, .int a1), (2, .int a2), (3, .int a3), (5, .int s4.1), (6, .int (s8 + 1))]) rfl ?_
                  exact krec8 (s8 + 1)
              · refine go_goto td_X12_laysStretches 76 rfl (q := 196) rfl ?_
                refine go_pick [0, 1, 2, 3, 4] (lv' := [(0, .ref (E.1 0)), (1, .int a1), (2, .int a2), (3, .int a3), (5, .int s4.1)]) rfl ?_
                exact kJ6 s4.2
        · exact go_vret td_X12_laysStretches 50 rfl rfl rfl
    intro J3 hJ3
    have kJ3 : ∀ (u3_0 : G), Go (wCB E) _ _ u3_0 79 [(0, .ref (E.1 0)), (1, .int a1), (2, .int a2), (3, .int a3), (4, .int s2.1)] [] (J3 u3_0) := fun u3_0 => hJ3 u3_0
    refine go_icmp_ne 79 td_X12_laysStretches 29 rfl rfl (q := 57) rfl (fun _ => ?_) (fun _ => ?_)
    · refine go_pick [0, 1, 2, 3, 4] (lv' := [(0, .ref (E.1 0)), (1, .int a1), (2, .int a2), (3, .int a3), (4, .int s2.1)]) rfl ?_
      exact kJ3 g1
    · refine go_aload_n td_X12_laysStretches 30 rfl (q := 58) rfl 0 rfl ?_
      refine go_get td_X12_laysStretches 31 rfl (q := 61) rfl fl_X12_157 (Bc_0 E g1) rfl ?_
      refine go_iconst td_X12_laysStretches 32 rfl (q := 62) rfl kc_0 ?_
      refine go_iconst td_X12_laysStretches 33 rfl (q := 63) rfl kc_0 ?_
      refine go_ast td_X12_laysStretches 34 rfl (q := 64) rfl (Bc_23 E g1) (t0 := 0) rfl (Bas_23 E g1 _) ?_
      refine go_bvg (fun g13 => ?_)
      refine go_aload_n td_X12_laysStretches 35 rfl (q := 65) rfl 0 rfl ?_
      refine go_get td_X12_laysStretches 36 rfl (q := 68) rfl fl_X12_160 (Bc_0 E g13) rfl ?_
      refine go_iconst td_X12_laysStretches 37 rfl (q := 69) rfl kc_0 ?_
      refine go_aload_n td_X12_laysStretches 38 rfl (q := 70) rfl 0 rfl ?_
      refine go_get td_X12_laysStretches 39 rfl (q := 73) rfl fl_X12_32 (Bc_0 E g13) rfl ?_
      refine go_ast td_X12_laysStretches 40 rfl (q := 74) rfl (Bc_24 E g13) (t0 := 0) rfl (Bas_24 E g13 _) ?_
      refine go_bvg (fun g14 => ?_)
      refine go_aload_n td_X12_laysStretches 41 rfl (q := 75) rfl 0 rfl ?_
      refine go_iconst td_X12_laysStretches 42 rfl (q := 76) rfl kc_1 ?_
      refine go_put td_X12_laysStretches 43 rfl (q := 79) rfl flp_X12_163 (Bc_0 E g14) rfl rfl (Nat.le_of_ble_eq_true rfl) (Bps_50 E g14 1) ?_
      refine go_bvg (fun g15 => ?_)
      refine go_pick [0, 1, 2, 3, 4] (lv' := [(0, .ref (E.1 0)), (1, .int a1), (2, .int a2), (3, .int a3), (4, .int s2.1)]) rfl ?_
      exact kJ3 g15
  · refine go_iload td_X12_laysStretches 11 rfl (q := 22) rfl 4 rfl ?_
    refine go_aload_n td_X12_laysStretches 12 rfl (q := 23) rfl 0 rfl ?_
    refine go_iload_n td_X12_laysStretches 13 rfl (q := 24) rfl 1 rfl ?_
    refine go_iload td_X12_laysStretches 14 rfl (q := 26) rfl 5 rfl ?_
    refine go_iload_n td_X12_laysStretches 15 rfl (q := 27) rfl 2 rfl ?_
    refine go_callV td_X12_laysStretches 16 rfl (q := 30) rfl (XkB E) lk_X12_327 (ok_fB_M_isBy E a1 s2.2 a2 g1) ⟨rfl, rfl, Nat.le_of_ble_eq_true rfl, Nat.le_of_ble_eq_true rfl⟩ rfl rfl (Nat.le_of_ble_eq_true rfl) (Bc_0 E g1) rfl (fun x16 => ?_)
    show Go (wCB E) _ _ g1 30 _ [.int x16, .int s2.1] _
    refine go_iload_n td_X12_laysStretches 17 rfl (q := 31) rfl 3 rfl ?_
    refine go_ljX (α := Int32) (fun b17 => [(0, .ref (E.1 0)), (1, .int a1), (2, .int a2), (3, .int a3), (5, .int s2.2)]) (fun b17 => [.int b17, .int s2.1]) (fun b17 => g1) 39 ?_ ?_
    · intro b17
      refine go_iadd td_X12_laysStretches 22 rfl (q := 40) rfl ?_
      refine go_bvi (fun x18 => ?_)
      refine go_istore [(4, .int x18), (0, .ref (E.1 0)), (1, .int a1), (2, .int a2), (3, .int a3), (5, .int s2.2)] td_X12_laysStretches 23 rfl (q := 42) rfl (Nat.le_of_ble_eq_true rfl) rfl ?_
      refine go_iinc [(5, .int (s2.2 + 1)), (4, .int x18), (0, .ref (E.1 0)), (1, .int a1), (2, .int a2), (3, .int a3)] td_X12_laysStretches 24 rfl (q := 45) rfl 5 rfl kc_1 (Nat.le_of_ble_eq_true rfl) rfl ?_
      refine go_goto td_X12_laysStretches 25 rfl (q := 11) rfl ?_
      refine go_pick [2, 3, 4, 5, 1, 0] (lv' := [(0, .ref (E.1 0)), (1, .int a1), (2, .int a2), (3, .int a3), (4, .int x18), (5, .int (s2.2 + 1))]) rfl ?_
      exact krec2 x18 (s2.2 + 1)
    intro J17 hJ17
    have kJ17 : ∀ (u17_0 : Int32), Go (wCB E) _ _ g1 39 [(0, .ref (E.1 0)), (1, .int a1), (2, .int a2), (3, .int a3), (5, .int s2.2)] [.int u17_0, .int s2.1] (J17 u17_0) := fun u17_0 => hJ17 u17_0
    refine go_icmp_ne 38 td_X12_laysStretches 18 rfl rfl (q := 34) rfl (fun _ => ?_) (fun _ => ?_)
    · refine go_iconst td_X12_laysStretches 21 rfl (q := 39) rfl kc_0 ?_
      refine go_pick [0, 1, 2, 3, 5] (lv' := [(0, .ref (E.1 0)), (1, .int a1), (2, .int a2), (3, .int a3), (5, .int s2.2)]) rfl ?_
      exact kJ17 0
    · refine go_iconst td_X12_laysStretches 19 rfl (q := 35) rfl kc_1 ?_
      refine go_goto td_X12_laysStretches 20 rfl (q := 39) rfl ?_
      refine go_pick [0, 1, 2, 3, 5] (lv' := [(0, .ref (E.1 0)), (1, .int a1), (2, .int a2), (3, .int a3), (5, .int s2.2)]) rfl ?_
      exact kJ17 1
def fB_M_site (a1 : Int32) (a2 : Int32) (g : G) : Option (Int32 × G) := Option.bind (fB_M_isSite a1 g) fun x1 => (if x1 = 0 then some ((-1), g) else Option.bind (fB_M_isIn a2 0 5 g) fun x2 => (if x2 = 0 then some ((-1), g) else bv (4 * a1) fun x3 => (if 4 ≤ a2 then Option.bind (fB_M_laysSets g) fun x4 => Lp (α := Int32 × Int32 × Int32 × G) (fun rec5 s5 => (if (s5.2.2.2.1 5) ≤ s5.2.2.1 then (if a2 = 4 then some (s5.1, s5.2.2.2) else some (s5.2.1, s5.2.2.2)) else ag 24 (s5.2.2.2.2.1 7) (x3 + 1) fun x6 => ag 24 (s5.2.2.2.2.1 7) x3 fun x7 => Option.bind (fB_M_upSet s5.2.2.2) fun x8 => Option.bind (fB_M_laysStretches (((s5.2.2.2.1 1) * x6) + x7) (x8 &&& ((1 : Int32) <<< (s5.2.2.1 &&& 31))) 1 s5.2.2.2) fun x9 => Lp (α := Int32 × Int32 × Int32) (fun rec10 s10 => (if (x9.1 50) ≤ s10.2.2 then rec5 (s10.1, s10.2.1, s5.2.2.1 + 1, x9) else ag 240 (x9.2.1 23) s10.2.2 fun x11 => dz (x9.1 3) (bv (x11 - x11 / (x9.1 3) * (x9.1 3)) fun x12 => ag 24 (x9.2.1 7) (x3 + 2) fun x13 => lj (α := Int32 × Int32) (fun b14 => rec10 (b14.1, b14.2, s10.2.2 + 1)) fun J14 => (if x12 < x13 then J14 (s10.1, s10.2.1) else ag 240 (x9.2.1 24) s10.2.2 fun x15 => ag 24 (x9.2.1 7) (x3 + 3) fun x16 => (if (x12 + x15) ≤ x16 then ag 240 (x9.2.1 24) s10.2.2 fun x17 => bv (s10.2.1 + x17) fun x18 => J14 (s10.1 + 1, x18) else J14 (s10.1, s10.2.1)))))) FU (s5.1, s5.2.1, 0))) FU (0, 0, 0, x4) else ag 24 (g.2.1 7) (x3 + a2) fun x19 => some (x19, g))))
set_option maxRecDepth 20000 in
set_option maxHeartbeats 4000000 in
theorem ok_fB_M_site (E : Ev) (a1 : Int32) (a2 : Int32) (g : G)  : Ct (wCB E) yX12_site mi_X12_site [.ref (E.1 0), .int a1, .int a2] (fun r => (some (.int r.1), r.2)) g (fB_M_site a1 a2 g) := by
  refine go_enter rfl rfl (Nat.le_of_ble_eq_true rfl) (lv := [(0, .ref (E.1 0)), (1, .int a1), (2, .int a2)]) rfl ?_
  unfold fB_M_site
  refine go_aload_n td_X12_site 0 rfl (q := 1) rfl 0 rfl ?_
  refine go_iload_n td_X12_site 1 rfl (q := 2) rfl 1 rfl ?_
  refine go_callV td_X12_site 2 rfl (q := 5) rfl (XkB E) lk_X12_353 (ok_fB_M_isSite E a1 g) ⟨rfl, rfl, Nat.le_of_ble_eq_true rfl, Nat.le_of_ble_eq_true rfl⟩ rfl rfl (Nat.le_of_ble_eq_true rfl) (Bc_0 E g) rfl (fun x1 => ?_)
  show Go (wCB E) _ _ g 5 _ [.int x1] _
  refine go_if_eq 17 td_X12_site 3 rfl rfl (q := 8) rfl (fun _ => ?_) (fun _ => ?_)
  · refine go_iconst td_X12_site 9 rfl (q := 18) rfl kc_m1 ?_
    exact go_iret td_X12_site 10 rfl rfl rfl
  · refine go_iload_n td_X12_site 4 rfl (q := 9) rfl 2 rfl ?_
    refine go_iconst td_X12_site 5 rfl (q := 10) rfl kc_0 ?_
    refine go_iconst td_X12_site 6 rfl (q := 11) rfl kc_5 ?_
    refine go_callS td_X12_site 7 rfl (q := 14) rfl (XkB E) lk_X12_248 (ok_fB_M_isIn E a2 0 5 g) ⟨rfl, rfl, Nat.le_of_ble_eq_true rfl, Nat.le_of_ble_eq_true rfl⟩ rfl rfl (Nat.le_of_ble_eq_true rfl) (fun x2 => ?_)
    show Go (wCB E) _ _ g 14 _ [.int x2] _
    refine go_if_ne 19 td_X12_site 8 rfl rfl (q := 17) rfl (fun _ => ?_) (fun _ => ?_)
    · refine go_iconst td_X12_site 11 rfl (q := 20) rfl kc_4 ?_
      refine go_iload_n td_X12_site 12 rfl (q := 21) rfl 1 rfl ?_
      refine go_imul td_X12_site 13 rfl (q := 22) rfl ?_
      refine go_bvi (fun x3 => ?_)
      refine go_istore_n [(3, .int x3), (0, .ref (E.1 0)), (1, .int a1), (2, .int a2)] td_X12_site 14 rfl (q := 23) rfl (Nat.le_of_ble_eq_true rfl) rfl ?_
      refine go_iload_n td_X12_site 15 rfl (q := 24) rfl 3 rfl ?_
      refine go_iconst td_X12_site 16 rfl (q := 25) rfl kc_4 ?_
      refine go_icmp_ge 37 td_X12_site 17 rfl rfl (q := 28) rfl (fun _ => ?_) (fun _ => ?_)
      · refine go_aload_n td_X12_site 25 rfl (q := 38) rfl 1 rfl ?_
        refine go_callV td_X12_site 26 rfl (q := 41) rfl (XkB E) lk_X12_356 (ok_fB_M_laysSets E g) ⟨rfl, rfl, Nat.le_of_ble_eq_true rfl, Nat.le_of_ble_eq_true rfl⟩ rfl rfl (Nat.le_of_ble_eq_true rfl) (Bc_0 E g) rfl (fun x4 => ?_)
        show Go (wCB E) _ _ x4 41 _ [] _
        refine go_iconst td_X12_site 27 rfl (q := 42) rfl kc_0 ?_
        refine go_istore [(4, .int 0), (3, .int x3), (0, .ref (E.1 0)), (1, .int a1), (2, .int a2)] td_X12_site 28 rfl (q := 44) rfl (Nat.le_of_ble_eq_true rfl) rfl ?_
        refine go_iconst td_X12_site 29 rfl (q := 45) rfl kc_0 ?_
        refine go_istore [(5, .int 0), (4, .int 0), (3, .int x3), (0, .ref (E.1 0)), (1, .int a1), (2, .int a2)] td_X12_site 30 rfl (q := 47) rfl (Nat.le_of_ble_eq_true rfl) rfl ?_
        refine go_iconst td_X12_site 31 rfl (q := 48) rfl kc_0 ?_
        refine go_istore [(6, .int 0), (5, .int 0), (4, .int 0), (3, .int x3), (0, .ref (E.1 0)), (1, .int a1), (2, .int a2)] td_X12_site 32 rfl (q := 50) rfl (Nat.le_of_ble_eq_true rfl) rfl ?_
        refine go_pick [4, 6, 3, 2, 1, 0] (lv' := [(0, .ref (E.1 0)), (2, .int a2), (3, .int x3), (4, .int 0), (5, .int 0), (6, .int 0)]) rfl ?_
        refine (show ∀ (u5_0 : Int32) (u5_1 : Int32) (u5_2 : Int32) (u5_3 : G), Go (wCB E) _ _ u5_3 50 [(0, .ref (E.1 0)), (2, .int a2), (3, .int x3), (4, .int u5_0), (5, .int u5_1), (6, .int u5_2)] [] (Lp (α := Int32 × Int32 × Int32 × G) _ FU (u5_0, u5_1, u5_2, u5_3)) from ?_) 0 0 0 x4
        intro u5_0 u5_1 u5_2 u5_3
        refine go_Lp (α := Int32 × Int32 × Int32 × G) (fun s5 => s5.2.2.2) (fun s5 => [(0, .ref (E.1 0)), (2, .int a2), (3, .int x3), (4, .int s5.1), (5, .int s5.2.1), (6, .int s5.2.2.1)]) ?_ FU (u5_0, u5_1, u5_2, u5_3)
        intro rec5 hrec5 s5
        have krec5 : ∀ (u5_0 : Int32) (u5_1 : Int32) (u5_2 : Int32) (u5_3 : G), Go (wCB E) _ _ u5_3 50 [(0, .ref (E.1 0)), (2, .int a2), (3, .int x3), (4, .int u5_0), (5, .int u5_1), (6, .int u5_2)] [] (rec5 (u5_0, u5_1, u5_2, u5_3)) := fun u5_0 u5_1 u5_2 u5_3 => hrec5 (u5_0, u5_1, u5_2, u5_3)
        refine go_iload td_X12_site 33 rfl (q := 52) rfl 5 rfl ?_
        refine go_aload_n td_X12_site 34 rfl (q := 53) rfl 0 rfl ?_
        refine go_get td_X12_site 35 rfl (q := 56) rfl fl_X12_26 (Bc_0 E s5.2.2.2) rfl ?_
        refine go_icmp_ge 183 td_X12_site 36 rfl rfl (q := 59) rfl (fun _ => ?_) (fun _ => ?_)
        · refine go_iload_n td_X12_site 108 rfl (q := 184) rfl 1 rfl ?_
          refine go_iconst td_X12_site 109 rfl (q := 185) rfl kc_4 ?_
          refine go_icmp_ne 193 td_X12_site 110 rfl rfl (q := 188) rfl (fun _ => ?_) (fun _ => ?_)
          · refine go_iload td_X12_site 113 rfl (q := 195) rfl 4 rfl ?_
            exact go_iret td_X12_site 114 rfl rfl rfl
          · refine go_iload td_X12_site 111 rfl (q := 190) rfl 3 rfl ?_
            refine go_goto td_X12_site 112 rfl (q := 195) rfl ?_
            exact go_iret td_X12_site 114 rfl rfl rfl
        · refine go_aload_n td_X12_site 37 rfl (q := 60) rfl 0 rfl ?_
          refine go_aload_n td_X12_site 38 rfl (q := 61) rfl 0 rfl ?_
          refine go_get td_X12_site 39 rfl (q := 64) rfl fl_X12_13 (Bc_0 E s5.2.2.2) rfl ?_
          refine go_aload_n td_X12_site 40 rfl (q := 65) rfl 0 rfl ?_
          refine go_get td_X12_site 41 rfl (q := 68) rfl fl_X12_60 (Bc_0 E s5.2.2.2) rfl ?_
          refine go_iload_n td_X12_site 42 rfl (q := 69) rfl 2 rfl ?_
          refine go_iconst td_X12_site 43 rfl (q := 70) rfl kc_1 ?_
          refine go_iadd td_X12_site 44 rfl (q := 71) rfl ?_
          refine go_ald td_X12_site 45 rfl (q := 72) rfl (Bc_7 E s5.2.2.2) (t0 := 0) rfl (fun x6 => ?_)
          refine go_imul td_X12_site 46 rfl (q := 73) rfl ?_
          refine go_aload_n td_X12_site 47 rfl (q := 74) rfl 0 rfl ?_
          refine go_get td_X12_site 48 rfl (q := 77) rfl fl_X12_60 (Bc_0 E s5.2.2.2) rfl ?_
          refine go_iload_n td_X12_site 49 rfl (q := 78) rfl 2 rfl ?_
          refine go_ald td_X12_site 50 rfl (q := 79) rfl (Bc_7 E s5.2.2.2) (t0 := 0) rfl (fun x7 => ?_)
          refine go_iadd td_X12_site 51 rfl (q := 80) rfl ?_
          refine go_aload_n td_X12_site 52 rfl (q := 81) rfl 0 rfl ?_
          refine go_callV td_X12_site 53 rfl (q := 84) rfl (XkB E) lk_X12_359 (ok_fB_M_upSet E s5.2.2.2) ⟨rfl, rfl, Nat.le_of_ble_eq_true rfl, Nat.le_of_ble_eq_true rfl⟩ rfl rfl (Nat.le_of_ble_eq_true rfl) (Bc_0 E s5.2.2.2) rfl (fun x8 => ?_)
          show Go (wCB E) _ _ s5.2.2.2 84 _ [.int x8, .int (((s5.2.2.2.1 1) * x6) + x7), .ref (E.1 0)] _
          refine go_iconst td_X12_site 54 rfl (q := 85) rfl kc_1 ?_
          refine go_iload td_X12_site 55 rfl (q := 87) rfl 5 rfl ?_
          refine go_ishl td_X12_site 56 rfl (q := 88) rfl ?_
          refine go_iand td_X12_site 57 rfl (q := 89) rfl ?_
          refine go_iconst td_X12_site 58 rfl (q := 90) rfl kc_1 ?_
          refine go_callV td_X12_site 59 rfl (q := 93) rfl (XkB E) lk_X12_330 (ok_fB_M_laysStretches E (((s5.2.2.2.1 1) * x6) + x7) (x8 &&& ((1 : Int32) <<< (s5.2.2.1 &&& 31))) 1 s5.2.2.2) ⟨rfl, rfl, Nat.le_of_ble_eq_true rfl, Nat.le_of_ble_eq_true rfl⟩ rfl rfl (Nat.le_of_ble_eq_true rfl) (Bc_0 E s5.2.2.2) rfl (fun x9 => ?_)
          show Go (wCB E) _ _ x9 93 _ [] _
          refine go_iconst td_X12_site 60 rfl (q := 94) rfl kc_0 ?_
          refine go_istore [(7, .int 0), (0, .ref (E.1 0)), (2, .int a2), (3, .int x3), (4, .int s5.1), (5, .int s5.2.1), (6, .int s5.2.2.1)] td_X12_site 61 rfl (q := 96) rfl (Nat.le_of_ble_eq_true rfl) rfl ?_
          refine go_pick [1, 2, 3, 4, 5, 6, 0] (lv' := [(0, .ref (E.1 0)), (2, .int a2), (3, .int x3), (4, .int s5.1), (5, .int s5.2.1), (6, .int s5.2.2.1), (7, .int 0)]) rfl ?_
          refine (show ∀ (u10_0 : Int32) (u10_1 : Int32) (u10_2 : Int32), Go (wCB E) _ _ x9 96 [(0, .ref (E.1 0)), (2, .int a2), (3, .int x3), (4, .int u10_0), (5, .int u10_1), (6, .int s5.2.2.1), (7, .int u10_2)] [] (Lp (α := Int32 × Int32 × Int32) _ FU (u10_0, u10_1, u10_2)) from ?_) s5.1 s5.2.1 0
          intro u10_0 u10_1 u10_2
          refine go_Lp (α := Int32 × Int32 × Int32) (fun s10 => x9) (fun s10 => [(0, .ref (E.1 0)), (2, .int a2), (3, .int x3), (4, .int s10.1), (5, .int s10.2.1), (6, .int s5.2.2.1), (7, .int s10.2.2)]) ?_ FU (u10_0, u10_1, u10_2)
          intro rec10 hrec10 s10
          have krec10 : ∀ (u10_0 : Int32) (u10_1 : Int32) (u10_2 : Int32), Go (wCB E) _ _ x9 96 [(0, .ref (E.1 0)), (2, .int a2), (3, .int x3), (4, .int u10_0), (5, .int u10_1), (6, .int s5.2.2.1), (7, .int u10_2)] [] (rec10 (u10_0, u10_1, u10_2)) := fun u10_0 u10_1 u10_2 => hrec10 (u10_0, u10_1, u10_2)
          refine go_iload td_X12_site 62 rfl (q := 98) rfl 6 rfl ?_
          refine go_aload_n td_X12_site 63 rfl (q := 99) rfl 0 rfl ?_
          refine go_get td_X12_site 64 rfl (q := 102) rfl fl_X12_163 (Bc_0 E x9) rfl ?_
          refine go_icmp_ge 177 td_X12_site 65 rfl rfl (q := 105) rfl (fun _ => ?_) (fun _ => ?_)
          · refine go_iinc [(6, .int (s5.2.2.1 + 1)), (0, .ref (E.1 0)), (2, .int a2), (3, .int x3), (4, .int s10.1), (5, .int s10.2.1), (7, .int s10.2.2)] td_X12_site 106 rfl (q := 180) rfl 5 rfl kc_1 (Nat.le_of_ble_eq_true rfl) rfl ?_
            refine go_goto td_X12_site 107 rfl (q := 50) rfl ?_
            refine go_pick [1, 2, 3, 4, 5, 0] (lv' := [(0, .ref (E.1 0)), (2, .int a2), (3, .int x3), (4, .int s10.1), (5, .int s10.2.1), (6, .int (s5.2.2.1 + 1))]) rfl ?_
            exact krec5 s10.1 s10.2.1 (s5.2.2.1 + 1) x9
          · refine go_aload_n td_X12_site 66 rfl (q := 106) rfl 0 rfl ?_
            refine go_get td_X12_site 67 rfl (q := 109) rfl fl_X12_157 (Bc_0 E x9) rfl ?_
            refine go_iload td_X12_site 68 rfl (q := 111) rfl 6 rfl ?_
            refine go_ald td_X12_site 69 rfl (q := 112) rfl (Bc_23 E x9) (t0 := 0) rfl (fun x11 => ?_)
            refine go_aload_n td_X12_site 70 rfl (q := 113) rfl 0 rfl ?_
            refine go_get td_X12_site 71 rfl (q := 116) rfl fl_X12_20 (Bc_0 E x9) rfl ?_
            refine go_irem td_X12_site 72 rfl (q := 117) rfl ?_
            refine go_bvi (fun x12 => ?_)
            refine go_istore [(8, .int x12), (0, .ref (E.1 0)), (2, .int a2), (3, .int x3), (4, .int s10.1), (5, .int s10.2.1), (6, .int s5.2.2.1), (7, .int s10.2.2)] td_X12_site 73 rfl (q := 119) rfl (Nat.le_of_ble_eq_true rfl) rfl ?_
            refine go_iload td_X12_site 74 rfl (q := 121) rfl 0 rfl ?_
            refine go_aload_n td_X12_site 75 rfl (q := 122) rfl 1 rfl ?_
            refine go_get td_X12_site 76 rfl (q := 125) rfl fl_X12_60 (Bc_0 E x9) rfl ?_
            refine go_iload_n td_X12_site 77 rfl (q := 126) rfl 3 rfl ?_
            refine go_iconst td_X12_site 78 rfl (q := 127) rfl kc_2 ?_
            refine go_iadd td_X12_site 79 rfl (q := 128) rfl ?_
            refine go_ald td_X12_site 80 rfl (q := 129) rfl (Bc_7 E x9) (t0 := 0) rfl (fun x13 => ?_)
            refine go_ljX (α := Int32 × Int32) (fun b14 => [(0, .ref (E.1 0)), (2, .int a2), (3, .int x3), (4, .int b14.1), (5, .int b14.2), (6, .int s5.2.2.1), (7, .int s10.2.2)]) (fun b14 => []) (fun b14 => x9) 171 ?_ ?_
            · intro b14
              refine go_iinc [(7, .int (s10.2.2 + 1)), (0, .ref (E.1 0)), (2, .int a2), (3, .int x3), (4, .int b14.1), (5, .int b14.2), (6, .int s5.2.2.1)] td_X12_site 104 rfl (q := 174) rfl 6 rfl kc_1 (Nat.le_of_ble_eq_true rfl) rfl ?_
              refine go_goto td_X12_site 105 rfl (q := 96) rfl ?_
              refine go_pick [1, 2, 3, 4, 5, 6, 0] (lv' := [(0, .ref (E.1 0)), (2, .int a2), (3, .int x3), (4, .int b14.1), (5, .int b14.2), (6, .int s5.2.2.1), (7, .int (s10.2.2 + 1))]) rfl ?_
              exact krec10 b14.1 b14.2 (s10.2.2 + 1)
            intro J14 hJ14
            have kJ14 : ∀ (u14_0 : Int32) (u14_1 : Int32), Go (wCB E) _ _ x9 171 [(0, .ref (E.1 0)), (2, .int a2), (3, .int x3), (4, .int u14_0), (5, .int u14_1), (6, .int s5.2.2.1), (7, .int s10.2.2)] [] (J14 (u14_0, u14_1)) := fun u14_0 u14_1 => hJ14 (u14_0, u14_1)
            refine go_icmp_lt 171 td_X12_site 81 rfl rfl (q := 132) rfl (fun _ => ?_) (fun _ => ?_)
            · refine go_pick [1, 2, 3, 4, 5, 6, 7] (lv' := [(0, .ref (E.1 0)), (2, .int a2), (3, .int x3), (4, .int s10.1), (5, .int s10.2.1), (6, .int s5.2.2.1), (7, .int s10.2.2)]) rfl ?_
              exact kJ14 s10.1 s10.2.1
            · refine go_iload td_X12_site 82 rfl (q := 134) rfl 0 rfl ?_
              refine go_aload_n td_X12_site 83 rfl (q := 135) rfl 1 rfl ?_
              refine go_get td_X12_site 84 rfl (q := 138) rfl fl_X12_160 (Bc_0 E x9) rfl ?_
              refine go_iload td_X12_site 85 rfl (q := 140) rfl 7 rfl ?_
              refine go_ald td_X12_site 86 rfl (q := 141) rfl (Bc_24 E x9) (t0 := 0) rfl (fun x15 => ?_)
              refine go_iadd td_X12_site 87 rfl (q := 142) rfl ?_
              refine go_aload_n td_X12_site 88 rfl (q := 143) rfl 1 rfl ?_
              refine go_get td_X12_site 89 rfl (q := 146) rfl fl_X12_60 (Bc_0 E x9) rfl ?_
              refine go_iload_n td_X12_site 90 rfl (q := 147) rfl 3 rfl ?_
              refine go_iconst td_X12_site 91 rfl (q := 148) rfl kc_3 ?_
              refine go_iadd td_X12_site 92 rfl (q := 149) rfl ?_
              refine go_ald td_X12_site 93 rfl (q := 150) rfl (Bc_7 E x9) (t0 := 0) rfl (fun x16 => ?_)
              refine go_icmp_le 156 td_X12_site 94 rfl rfl (q := 153) rfl (fun _ => ?_) (fun _ => ?_)
              · refine go_iinc [(4, .int (s10.1 + 1)), (8, .int x12), (0, .ref (E.1 0)), (2, .int a2), (3, .int x3), (5, .int s10.2.1), (6, .int s5.2.2.1), (7, .int s10.2.2)] td_X12_site 96 rfl (q := 159) rfl 4 rfl kc_1 (Nat.le_of_ble_eq_true rfl) rfl ?_
                refine go_iload td_X12_site 97 rfl (q := 161) rfl 5 rfl ?_
                refine go_aload_n td_X12_site 98 rfl (q := 162) rfl 2 rfl ?_
                refine go_get td_X12_site 99 rfl (q := 165) rfl fl_X12_160 (Bc_0 E x9) rfl ?_
                refine go_iload td_X12_site 100 rfl (q := 167) rfl 7 rfl ?_
                refine go_ald td_X12_site 101 rfl (q := 168) rfl (Bc_24 E x9) (t0 := 0) rfl (fun x17 => ?_)
                refine go_iadd td_X12_site 102 rfl (q := 169) rfl ?_
                refine go_bvi (fun x18 => ?_)
                refine go_istore [(5, .int x18), (4, .int (s10.1 + 1)), (8, .int x12), (0, .ref (E.1 0)), (2, .int a2), (3, .int x3), (6, .int s5.2.2.1), (7, .int s10.2.2)] td_X12_site 103 rfl (q := 171) rfl (Nat.le_of_ble_eq_true rfl) rfl ?_
                refine go_pick [3, 4, 5, 1, 0, 6, 7] (lv' := [(0, .ref (E.1 0)), (2, .int a2), (3, .int x3), (4, .int (s10.1 + 1)), (5, .int x18), (6, .int s5.2.2.1), (7, .int s10.2.2)]) rfl ?_
                exact kJ14 (s10.1 + 1) x18
              · refine go_goto td_X12_site 95 rfl (q := 171) rfl ?_
                refine go_pick [1, 2, 3, 4, 5, 6, 7] (lv' := [(0, .ref (E.1 0)), (2, .int a2), (3, .int x3), (4, .int s10.1), (5, .int s10.2.1), (6, .int s5.2.2.1), (7, .int s10.2.2)]) rfl ?_
                exact kJ14 s10.1 s10.2.1
      · refine go_aload_n td_X12_site 18 rfl (q := 29) rfl 1 rfl ?_
        refine go_get td_X12_site 19 rfl (q := 32) rfl fl_X12_60 (Bc_0 E g) rfl ?_
        refine go_iload_n td_X12_site 20 rfl (q := 33) rfl 0 rfl ?_
        refine go_iload_n td_X12_site 21 rfl (q := 34) rfl 3 rfl ?_
        refine go_iadd td_X12_site 22 rfl (q := 35) rfl ?_
        refine go_ald td_X12_site 23 rfl (q := 36) rfl (Bc_7 E g) (t0 := 0) rfl (fun x19 => ?_)
        exact go_iret td_X12_site 24 rfl rfl rfl
    · refine go_iconst td_X12_site 9 rfl (q := 18) rfl kc_m1 ?_
      exact go_iret td_X12_site 10 rfl rfl rfl
def fB_M_isTick (a1 : Int32) (g : G) : Option (Int32) := Option.bind (fB_M_isIn a1 0 9999 g) fun x1 => bt x1 (some x1)
set_option maxRecDepth 20000 in
set_option maxHeartbeats 4000000 in
theorem ok_fB_M_isTick (E : Ev) (a1 : Int32) (g : G)  : Ct (wCB E) yX12_isTick mi_X12_isTick [.int a1] (fun r => (some (.int r), g)) g (fB_M_isTick a1 g) := by
  refine go_enter rfl rfl (Nat.le_of_ble_eq_true rfl) (lv := [(0, .int a1)]) rfl ?_
  unfold fB_M_isTick
  refine go_iload_n td_X12_isTick 0 rfl (q := 1) rfl 0 rfl ?_
  refine go_iconst td_X12_isTick 1 rfl (q := 2) rfl kc_0 ?_
  refine go_sipush td_X12_isTick 2 rfl (q := 5) rfl ks_9999 ?_
  refine go_callS td_X12_isTick 3 rfl (q := 8) rfl (XkB E) lk_X12_248 (ok_fB_M_isIn E a1 0 9999 g) ⟨rfl, rfl, Nat.le_of_ble_eq_true rfl, Nat.le_of_ble_eq_true rfl⟩ rfl rfl (Nat.le_of_ble_eq_true rfl) (fun x1 => ?_)
  show Go (wCB E) _ _ g 8 _ [.int x1] _
  exact go_zretb td_X12_isTick 4 rfl rfl rfl
def fB_M_spot (a1 : Int32) (a2 : Int32) (a3 : Int32) (g : G) : Option (Int32) := Option.bind (fB_M_isCraft a1 g) fun x1 => (if x1 = 0 then some (-1) else Option.bind (fB_M_isTick a2 g) fun x2 => (if x2 = 0 then some (-1) else (if a3 = 0 then Option.bind (fB_M_columnAt a1 a2 g) fun x4 => some x4 else (if a3 = 1 then Option.bind (fB_M_rowAt a1 a2 g) fun x3 => some x3 else some (-1)))))
set_option maxRecDepth 20000 in
set_option maxHeartbeats 4000000 in
theorem ok_fB_M_spot (E : Ev) (a1 : Int32) (a2 : Int32) (a3 : Int32) (g : G)  : Ct (wCB E) yX12_spot mi_X12_spot [.ref (E.1 0), .int a1, .int a2, .int a3] (fun r => (some (.int r), g)) g (fB_M_spot a1 a2 a3 g) := by
  refine go_enter rfl rfl (Nat.le_of_ble_eq_true rfl) (lv := [(0, .ref (E.1 0)), (1, .int a1), (2, .int a2), (3, .int a3)]) rfl ?_
  unfold fB_M_spot
  refine go_aload_n td_X12_spot 0 rfl (q := 1) rfl 0 rfl ?_
  refine go_iload_n td_X12_spot 1 rfl (q := 2) rfl 1 rfl ?_
  refine go_callV td_X12_spot 2 rfl (q := 5) rfl (XkB E) lk_X12_350 (ok_fB_M_isCraft E a1 g) ⟨rfl, rfl, Nat.le_of_ble_eq_true rfl, Nat.le_of_ble_eq_true rfl⟩ rfl rfl (Nat.le_of_ble_eq_true rfl) (Bc_0 E g) rfl (fun x1 => ?_)
  show Go (wCB E) _ _ g 5 _ [.int x1] _
  refine go_if_eq 15 td_X12_spot 3 rfl rfl (q := 8) rfl (fun _ => ?_) (fun _ => ?_)
  · refine go_iconst td_X12_spot 7 rfl (q := 16) rfl kc_m1 ?_
    exact go_iret td_X12_spot 8 rfl rfl rfl
  · refine go_iload_n td_X12_spot 4 rfl (q := 9) rfl 2 rfl ?_
    refine go_callS td_X12_spot 5 rfl (q := 12) rfl (XkB E) lk_X12_362 (ok_fB_M_isTick E a2 g) ⟨rfl, rfl, Nat.le_of_ble_eq_true rfl, Nat.le_of_ble_eq_true rfl⟩ rfl rfl (Nat.le_of_ble_eq_true rfl) (fun x2 => ?_)
    show Go (wCB E) _ _ g 12 _ [.int x2] _
    refine go_if_ne 17 td_X12_spot 6 rfl rfl (q := 15) rfl (fun _ => ?_) (fun _ => ?_)
    · refine go_iload_n td_X12_spot 9 rfl (q := 18) rfl 3 rfl ?_
      refine go_if_ne 30 td_X12_spot 10 rfl rfl (q := 21) rfl (fun _ => ?_) (fun _ => ?_)
      · refine go_iload_n td_X12_spot 16 rfl (q := 31) rfl 3 rfl ?_
        refine go_iconst td_X12_spot 17 rfl (q := 32) rfl kc_1 ?_
        refine go_icmp_ne 44 td_X12_spot 18 rfl rfl (q := 35) rfl (fun _ => ?_) (fun _ => ?_)
        · refine go_iconst td_X12_spot 24 rfl (q := 45) rfl kc_m1 ?_
          exact go_iret td_X12_spot 25 rfl rfl rfl
        · refine go_aload_n td_X12_spot 19 rfl (q := 36) rfl 0 rfl ?_
          refine go_iload_n td_X12_spot 20 rfl (q := 37) rfl 1 rfl ?_
          refine go_iload_n td_X12_spot 21 rfl (q := 38) rfl 2 rfl ?_
          refine go_callV td_X12_spot 22 rfl (q := 41) rfl (XkB E) lk_X12_317 (ok_fB_M_rowAt E a1 a2 g) ⟨rfl, rfl, Nat.le_of_ble_eq_true rfl, Nat.le_of_ble_eq_true rfl⟩ rfl rfl (Nat.le_of_ble_eq_true rfl) (Bc_0 E g) rfl (fun x3 => ?_)
          show Go (wCB E) _ _ g 41 _ [.int x3] _
          refine go_goto td_X12_spot 23 rfl (q := 45) rfl ?_
          exact go_iret td_X12_spot 25 rfl rfl rfl
      · refine go_aload_n td_X12_spot 11 rfl (q := 22) rfl 0 rfl ?_
        refine go_iload_n td_X12_spot 12 rfl (q := 23) rfl 1 rfl ?_
        refine go_iload_n td_X12_spot 13 rfl (q := 24) rfl 2 rfl ?_
        refine go_callV td_X12_spot 14 rfl (q := 27) rfl (XkB E) lk_X12_314 (ok_fB_M_columnAt E a1 a2 g) ⟨rfl, rfl, Nat.le_of_ble_eq_true rfl, Nat.le_of_ble_eq_true rfl⟩ rfl rfl (Nat.le_of_ble_eq_true rfl) (Bc_0 E g) rfl (fun x4 => ?_)
        show Go (wCB E) _ _ g 27 _ [.int x4] _
        refine go_goto td_X12_spot 15 rfl (q := 45) rfl ?_
        exact go_iret td_X12_spot 25 rfl rfl rfl
    · refine go_iconst td_X12_spot 7 rfl (q := 16) rfl kc_m1 ?_
      exact go_iret td_X12_spot 8 rfl rfl rfl
def fB_M_isCell (a1 : Int32) (a2 : Int32) (g : G) : Option (Int32) := Option.bind (fB_M_isIn a1 0 ((g.1 1) - 1) g) fun x1 => (if x1 = 0 then some 0 else Option.bind (fB_M_isIn a2 0 ((g.1 2) - 1) g) fun x2 => (if x2 = 0 then some 0 else some 1))
set_option maxRecDepth 20000 in
set_option maxHeartbeats 4000000 in
theorem ok_fB_M_isCell (E : Ev) (a1 : Int32) (a2 : Int32) (g : G)  : Ct (wCB E) yX12_isCell mi_X12_isCell [.ref (E.1 0), .int a1, .int a2] (fun r => (some (.int r), g)) g (fB_M_isCell a1 a2 g) := by
  refine go_enter rfl rfl (Nat.le_of_ble_eq_true rfl) (lv := [(0, .ref (E.1 0)), (1, .int a1), (2, .int a2)]) rfl ?_
  unfold fB_M_isCell
  refine go_iload_n td_X12_isCell 0 rfl (q := 1) rfl 1 rfl ?_
  refine go_iconst td_X12_isCell 1 rfl (q := 2) rfl kc_0 ?_
  refine go_aload_n td_X12_isCell 2 rfl (q := 3) rfl 0 rfl ?_
  refine go_get td_X12_isCell 3 rfl (q := 6) rfl fl_X12_13 (Bc_0 E g) rfl ?_
  refine go_iconst td_X12_isCell 4 rfl (q := 7) rfl kc_1 ?_
  refine go_isub td_X12_isCell 5 rfl (q := 8) rfl ?_
  refine go_callS td_X12_isCell 6 rfl (q := 11) rfl (XkB E) lk_X12_248 (ok_fB_M_isIn E a1 0 ((g.1 1) - 1) g) ⟨rfl, rfl, Nat.le_of_ble_eq_true rfl, Nat.le_of_ble_eq_true rfl⟩ rfl rfl (Nat.le_of_ble_eq_true rfl) (fun x1 => ?_)
  show Go (wCB E) _ _ g 11 _ [.int x1] _
  refine go_if_eq 32 td_X12_isCell 7 rfl rfl (q := 14) rfl (fun _ => ?_) (fun _ => ?_)
  · refine go_iconst td_X12_isCell 18 rfl (q := 33) rfl kc_0 ?_
    exact go_zret td_X12_isCell 19 rfl rfl rfl rfl
  · refine go_iload_n td_X12_isCell 8 rfl (q := 15) rfl 2 rfl ?_
    refine go_iconst td_X12_isCell 9 rfl (q := 16) rfl kc_0 ?_
    refine go_aload_n td_X12_isCell 10 rfl (q := 17) rfl 0 rfl ?_
    refine go_get td_X12_isCell 11 rfl (q := 20) rfl fl_X12_17 (Bc_0 E g) rfl ?_
    refine go_iconst td_X12_isCell 12 rfl (q := 21) rfl kc_1 ?_
    refine go_isub td_X12_isCell 13 rfl (q := 22) rfl ?_
    refine go_callS td_X12_isCell 14 rfl (q := 25) rfl (XkB E) lk_X12_248 (ok_fB_M_isIn E a2 0 ((g.1 2) - 1) g) ⟨rfl, rfl, Nat.le_of_ble_eq_true rfl, Nat.le_of_ble_eq_true rfl⟩ rfl rfl (Nat.le_of_ble_eq_true rfl) (fun x2 => ?_)
    show Go (wCB E) _ _ g 25 _ [.int x2] _
    refine go_if_eq 32 td_X12_isCell 15 rfl rfl (q := 28) rfl (fun _ => ?_) (fun _ => ?_)
    · refine go_iconst td_X12_isCell 18 rfl (q := 33) rfl kc_0 ?_
      exact go_zret td_X12_isCell 19 rfl rfl rfl rfl
    · refine go_iconst td_X12_isCell 16 rfl (q := 29) rfl kc_1 ?_
      refine go_goto td_X12_isCell 17 rfl (q := 33) rfl ?_
      exact go_zret td_X12_isCell 19 rfl rfl rfl rfl
def fB_M_doesSee (a1 : Int32) (a2 : Int32) (a3 : Int32) (a4 : Int32) (g : G) : Option (Int32) := ag 28 (g.2.1 20) (4 + a1) fun x1 => (if x1 = 1 then Option.bind (fB_M_columnAt a1 a2 g) fun x2 => Option.bind (fB_M_rowAt a1 a2 g) fun x3 => ag 28 (g.2.1 20) (20 + a1) fun x4 => Option.bind (fB_M_reaches x2 x3 x4 a3 a4 g) fun x5 => (if x5 = 0 then some 0 else some 1) else some 0)
set_option maxRecDepth 20000 in
set_option maxHeartbeats 4000000 in
theorem ok_fB_M_doesSee (E : Ev) (a1 : Int32) (a2 : Int32) (a3 : Int32) (a4 : Int32) (g : G)  : Ct (wCB E) yX12_doesSee mi_X12_doesSee [.ref (E.1 0), .int a1, .int a2, .int a3, .int a4] (fun r => (some (.int r), g)) g (fB_M_doesSee a1 a2 a3 a4 g) := by
  refine go_enter rfl rfl (Nat.le_of_ble_eq_true rfl) (lv := [(0, .ref (E.1 0)), (1, .int a1), (2, .int a2), (3, .int a3), (4, .int a4)]) rfl ?_
  unfold fB_M_doesSee
  refine go_aload_n td_X12_doesSee 0 rfl (q := 1) rfl 0 rfl ?_
  refine go_get td_X12_doesSee 1 rfl (q := 4) rfl fl_X12_141 (Bc_0 E g) rfl ?_
  refine go_iconst td_X12_doesSee 2 rfl (q := 5) rfl kc_4 ?_
  refine go_iload_n td_X12_doesSee 3 rfl (q := 6) rfl 1 rfl ?_
  refine go_iadd td_X12_doesSee 4 rfl (q := 7) rfl ?_
  refine go_ald td_X12_doesSee 5 rfl (q := 8) rfl (Bc_20 E g) (t0 := 0) rfl (fun x1 => ?_)
  refine go_iconst td_X12_doesSee 6 rfl (q := 9) rfl kc_1 ?_
  refine go_icmp_ne 47 td_X12_doesSee 7 rfl rfl (q := 12) rfl (fun _ => ?_) (fun _ => ?_)
  · refine go_iconst td_X12_doesSee 29 rfl (q := 48) rfl kc_0 ?_
    exact go_zret td_X12_doesSee 30 rfl rfl rfl rfl
  · refine go_aload_n td_X12_doesSee 8 rfl (q := 13) rfl 0 rfl ?_
    refine go_aload_n td_X12_doesSee 9 rfl (q := 14) rfl 0 rfl ?_
    refine go_iload_n td_X12_doesSee 10 rfl (q := 15) rfl 1 rfl ?_
    refine go_iload_n td_X12_doesSee 11 rfl (q := 16) rfl 2 rfl ?_
    refine go_callV td_X12_doesSee 12 rfl (q := 19) rfl (XkB E) lk_X12_314 (ok_fB_M_columnAt E a1 a2 g) ⟨rfl, rfl, Nat.le_of_ble_eq_true rfl, Nat.le_of_ble_eq_true rfl⟩ rfl rfl (Nat.le_of_ble_eq_true rfl) (Bc_0 E g) rfl (fun x2 => ?_)
    show Go (wCB E) _ _ g 19 _ [.int x2, .ref (E.1 0)] _
    refine go_aload_n td_X12_doesSee 13 rfl (q := 20) rfl 0 rfl ?_
    refine go_iload_n td_X12_doesSee 14 rfl (q := 21) rfl 1 rfl ?_
    refine go_iload_n td_X12_doesSee 15 rfl (q := 22) rfl 2 rfl ?_
    refine go_callV td_X12_doesSee 16 rfl (q := 25) rfl (XkB E) lk_X12_317 (ok_fB_M_rowAt E a1 a2 g) ⟨rfl, rfl, Nat.le_of_ble_eq_true rfl, Nat.le_of_ble_eq_true rfl⟩ rfl rfl (Nat.le_of_ble_eq_true rfl) (Bc_0 E g) rfl (fun x3 => ?_)
    show Go (wCB E) _ _ g 25 _ [.int x3, .int x2, .ref (E.1 0)] _
    refine go_aload_n td_X12_doesSee 17 rfl (q := 26) rfl 0 rfl ?_
    refine go_get td_X12_doesSee 18 rfl (q := 29) rfl fl_X12_141 (Bc_0 E g) rfl ?_
    refine go_bipush td_X12_doesSee 19 rfl (q := 31) rfl kb_20 ?_
    refine go_iload_n td_X12_doesSee 20 rfl (q := 32) rfl 1 rfl ?_
    refine go_iadd td_X12_doesSee 21 rfl (q := 33) rfl ?_
    refine go_ald td_X12_doesSee 22 rfl (q := 34) rfl (Bc_20 E g) (t0 := 0) rfl (fun x4 => ?_)
    refine go_iload_n td_X12_doesSee 23 rfl (q := 35) rfl 3 rfl ?_
    refine go_iload td_X12_doesSee 24 rfl (q := 37) rfl 4 rfl ?_
    refine go_callV td_X12_doesSee 25 rfl (q := 40) rfl (XkB E) lk_X12_320 (ok_fB_M_reaches E x2 x3 x4 a3 a4 g) ⟨rfl, rfl, Nat.le_of_ble_eq_true rfl, Nat.le_of_ble_eq_true rfl⟩ rfl rfl (Nat.le_of_ble_eq_true rfl) (Bc_0 E g) rfl (fun x5 => ?_)
    show Go (wCB E) _ _ g 40 _ [.int x5] _
    refine go_if_eq 47 td_X12_doesSee 26 rfl rfl (q := 43) rfl (fun _ => ?_) (fun _ => ?_)
    · refine go_iconst td_X12_doesSee 29 rfl (q := 48) rfl kc_0 ?_
      exact go_zret td_X12_doesSee 30 rfl rfl rfl rfl
    · refine go_iconst td_X12_doesSee 27 rfl (q := 44) rfl kc_1 ?_
      refine go_goto td_X12_doesSee 28 rfl (q := 48) rfl ?_
      exact go_zret td_X12_doesSee 30 rfl rfl rfl rfl
def fB_M_sees (a1 : Int32) (a2 : Int32) (a3 : Int32) (a4 : Int32) (g : G) : Option (Int32) := Option.bind (fB_M_isCraft a1 g) fun x1 => (if x1 = 0 then some (-1) else Option.bind (fB_M_isTick a2 g) fun x2 => (if x2 = 0 then some (-1) else Option.bind (fB_M_isCell a3 a4 g) fun x3 => (if x3 = 0 then some (-1) else Option.bind (fB_M_doesSee a1 a2 a3 a4 g) fun x4 => (if x4 = 0 then some 0 else some 1))))
set_option maxRecDepth 20000 in
set_option maxHeartbeats 4000000 in
theorem ok_fB_M_sees (E : Ev) (a1 : Int32) (a2 : Int32) (a3 : Int32) (a4 : Int32) (g : G)  : Ct (wCB E) yX12_sees mi_X12_sees [.ref (E.1 0), .int a1, .int a2, .int a3, .int a4] (fun r => (some (.int r), g)) g (fB_M_sees a1 a2 a3 a4 g) := by
  refine go_enter rfl rfl (Nat.le_of_ble_eq_true rfl) (lv := [(0, .ref (E.1 0)), (1, .int a1), (2, .int a2), (3, .int a3), (4, .int a4)]) rfl ?_
  unfold fB_M_sees
  refine go_aload_n td_X12_sees 0 rfl (q := 1) rfl 0 rfl ?_
  refine go_iload_n td_X12_sees 1 rfl (q := 2) rfl 1 rfl ?_
  refine go_callV td_X12_sees 2 rfl (q := 5) rfl (XkB E) lk_X12_350 (ok_fB_M_isCraft E a1 g) ⟨rfl, rfl, Nat.le_of_ble_eq_true rfl, Nat.le_of_ble_eq_true rfl⟩ rfl rfl (Nat.le_of_ble_eq_true rfl) (Bc_0 E g) rfl (fun x1 => ?_)
  show Go (wCB E) _ _ g 5 _ [.int x1] _
  refine go_if_eq 25 td_X12_sees 3 rfl rfl (q := 8) rfl (fun _ => ?_) (fun _ => ?_)
  · refine go_iconst td_X12_sees 12 rfl (q := 26) rfl kc_m1 ?_
    exact go_iret td_X12_sees 13 rfl rfl rfl
  · refine go_iload_n td_X12_sees 4 rfl (q := 9) rfl 2 rfl ?_
    refine go_callS td_X12_sees 5 rfl (q := 12) rfl (XkB E) lk_X12_362 (ok_fB_M_isTick E a2 g) ⟨rfl, rfl, Nat.le_of_ble_eq_true rfl, Nat.le_of_ble_eq_true rfl⟩ rfl rfl (Nat.le_of_ble_eq_true rfl) (fun x2 => ?_)
    show Go (wCB E) _ _ g 12 _ [.int x2] _
    refine go_if_eq 25 td_X12_sees 6 rfl rfl (q := 15) rfl (fun _ => ?_) (fun _ => ?_)
    · refine go_iconst td_X12_sees 12 rfl (q := 26) rfl kc_m1 ?_
      exact go_iret td_X12_sees 13 rfl rfl rfl
    · refine go_aload_n td_X12_sees 7 rfl (q := 16) rfl 0 rfl ?_
      refine go_iload_n td_X12_sees 8 rfl (q := 17) rfl 3 rfl ?_
      refine go_iload td_X12_sees 9 rfl (q := 19) rfl 4 rfl ?_
      refine go_callV td_X12_sees 10 rfl (q := 22) rfl (XkB E) lk_X12_365 (ok_fB_M_isCell E a3 a4 g) ⟨rfl, rfl, Nat.le_of_ble_eq_true rfl, Nat.le_of_ble_eq_true rfl⟩ rfl rfl (Nat.le_of_ble_eq_true rfl) (Bc_0 E g) rfl (fun x3 => ?_)
      show Go (wCB E) _ _ g 22 _ [.int x3] _
      refine go_if_ne 27 td_X12_sees 11 rfl rfl (q := 25) rfl (fun _ => ?_) (fun _ => ?_)
      · refine go_aload_n td_X12_sees 14 rfl (q := 28) rfl 0 rfl ?_
        refine go_iload_n td_X12_sees 15 rfl (q := 29) rfl 1 rfl ?_
        refine go_iload_n td_X12_sees 16 rfl (q := 30) rfl 2 rfl ?_
        refine go_iload_n td_X12_sees 17 rfl (q := 31) rfl 3 rfl ?_
        refine go_iload td_X12_sees 18 rfl (q := 33) rfl 4 rfl ?_
        refine go_callV td_X12_sees 19 rfl (q := 36) rfl (XkB E) lk_X12_369 (ok_fB_M_doesSee E a1 a2 a3 a4 g) ⟨rfl, rfl, Nat.le_of_ble_eq_true rfl, Nat.le_of_ble_eq_true rfl⟩ rfl rfl (Nat.le_of_ble_eq_true rfl) (Bc_0 E g) rfl (fun x4 => ?_)
        show Go (wCB E) _ _ g 36 _ [.int x4] _
        refine go_if_eq 43 td_X12_sees 20 rfl rfl (q := 39) rfl (fun _ => ?_) (fun _ => ?_)
        · refine go_iconst td_X12_sees 23 rfl (q := 44) rfl kc_0 ?_
          exact go_iret td_X12_sees 24 rfl rfl rfl
        · refine go_iconst td_X12_sees 21 rfl (q := 40) rfl kc_1 ?_
          refine go_goto td_X12_sees 22 rfl (q := 44) rfl ?_
          exact go_iret td_X12_sees 24 rfl rfl rfl
      · refine go_iconst td_X12_sees 12 rfl (q := 26) rfl kc_m1 ?_
        exact go_iret td_X12_sees 13 rfl rfl rfl
def fB_M_seen (a1 : Int32) (a2 : Int32) (a3 : Int32) (g : G) : Option (Int32) := Option.bind (fB_M_isTick a1 g) fun x1 => (if x1 = 0 then some (-1) else Option.bind (fB_M_isCell a2 a3 g) fun x2 => (if x2 = 0 then some (-1) else Lp (α := Int32 × Int32) (fun rec3 s3 => (if (g.1 5) ≤ s3.2 then some s3.1 else Option.bind (fB_M_doesSee s3.2 a1 a2 a3 g) fun x4 => lj (α := Int32) (fun b5 => bv (s3.1 + b5) fun x6 => rec3 (x6, s3.2 + 1)) fun J5 => (if x4 = 0 then J5 0 else J5 1))) FU (0, 0)))
set_option maxRecDepth 20000 in
set_option maxHeartbeats 4000000 in
theorem ok_fB_M_seen (E : Ev) (a1 : Int32) (a2 : Int32) (a3 : Int32) (g : G)  : Ct (wCB E) yX12_seen mi_X12_seen [.ref (E.1 0), .int a1, .int a2, .int a3] (fun r => (some (.int r), g)) g (fB_M_seen a1 a2 a3 g) := by
  refine go_enter rfl rfl (Nat.le_of_ble_eq_true rfl) (lv := [(0, .ref (E.1 0)), (1, .int a1), (2, .int a2), (3, .int a3)]) rfl ?_
  unfold fB_M_seen
  refine go_iload_n td_X12_seen 0 rfl (q := 1) rfl 1 rfl ?_
  refine go_callS td_X12_seen 1 rfl (q := 4) rfl (XkB E) lk_X12_362 (ok_fB_M_isTick E a1 g) ⟨rfl, rfl, Nat.le_of_ble_eq_true rfl, Nat.le_of_ble_eq_true rfl⟩ rfl rfl (Nat.le_of_ble_eq_true rfl) (fun x1 => ?_)
  show Go (wCB E) _ _ g 4 _ [.int x1] _
  refine go_if_eq 16 td_X12_seen 2 rfl rfl (q := 7) rfl (fun _ => ?_) (fun _ => ?_)
  · refine go_iconst td_X12_seen 8 rfl (q := 17) rfl kc_m1 ?_
    exact go_iret td_X12_seen 9 rfl rfl rfl
  · refine go_aload_n td_X12_seen 3 rfl (q := 8) rfl 0 rfl ?_
    refine go_iload_n td_X12_seen 4 rfl (q := 9) rfl 2 rfl ?_
    refine go_iload_n td_X12_seen 5 rfl (q := 10) rfl 3 rfl ?_
    refine go_callV td_X12_seen 6 rfl (q := 13) rfl (XkB E) lk_X12_365 (ok_fB_M_isCell E a2 a3 g) ⟨rfl, rfl, Nat.le_of_ble_eq_true rfl, Nat.le_of_ble_eq_true rfl⟩ rfl rfl (Nat.le_of_ble_eq_true rfl) (Bc_0 E g) rfl (fun x2 => ?_)
    show Go (wCB E) _ _ g 13 _ [.int x2] _
    refine go_if_ne 18 td_X12_seen 7 rfl rfl (q := 16) rfl (fun _ => ?_) (fun _ => ?_)
    · refine go_iconst td_X12_seen 10 rfl (q := 19) rfl kc_0 ?_
      refine go_istore [(4, .int 0), (0, .ref (E.1 0)), (1, .int a1), (2, .int a2), (3, .int a3)] td_X12_seen 11 rfl (q := 21) rfl (Nat.le_of_ble_eq_true rfl) rfl ?_
      refine go_iconst td_X12_seen 12 rfl (q := 22) rfl kc_0 ?_
      refine go_istore [(5, .int 0), (4, .int 0), (0, .ref (E.1 0)), (1, .int a1), (2, .int a2), (3, .int a3)] td_X12_seen 13 rfl (q := 24) rfl (Nat.le_of_ble_eq_true rfl) rfl ?_
      refine go_pick [2, 3, 4, 5, 1, 0] (lv' := [(0, .ref (E.1 0)), (1, .int a1), (2, .int a2), (3, .int a3), (4, .int 0), (5, .int 0)]) rfl ?_
      refine (show ∀ (u3_0 : Int32) (u3_1 : Int32), Go (wCB E) _ _ g 24 [(0, .ref (E.1 0)), (1, .int a1), (2, .int a2), (3, .int a3), (4, .int u3_0), (5, .int u3_1)] [] (Lp (α := Int32 × Int32) _ FU (u3_0, u3_1)) from ?_) 0 0
      intro u3_0 u3_1
      refine go_Lp (α := Int32 × Int32) (fun s3 => g) (fun s3 => [(0, .ref (E.1 0)), (1, .int a1), (2, .int a2), (3, .int a3), (4, .int s3.1), (5, .int s3.2)]) ?_ FU (u3_0, u3_1)
      intro rec3 hrec3 s3
      have krec3 : ∀ (u3_0 : Int32) (u3_1 : Int32), Go (wCB E) _ _ g 24 [(0, .ref (E.1 0)), (1, .int a1), (2, .int a2), (3, .int a3), (4, .int u3_0), (5, .int u3_1)] [] (rec3 (u3_0, u3_1)) := fun u3_0 u3_1 => hrec3 (u3_0, u3_1)
      refine go_iload td_X12_seen 14 rfl (q := 26) rfl 5 rfl ?_
      refine go_aload_n td_X12_seen 15 rfl (q := 27) rfl 0 rfl ?_
      refine go_get td_X12_seen 16 rfl (q := 30) rfl fl_X12_26 (Bc_0 E g) rfl ?_
      refine go_icmp_ge 61 td_X12_seen 17 rfl rfl (q := 33) rfl (fun _ => ?_) (fun _ => ?_)
      · refine go_iload td_X12_seen 33 rfl (q := 63) rfl 4 rfl ?_
        exact go_iret td_X12_seen 34 rfl rfl rfl
      · refine go_iload td_X12_seen 18 rfl (q := 35) rfl 4 rfl ?_
        refine go_aload_n td_X12_seen 19 rfl (q := 36) rfl 0 rfl ?_
        refine go_iload td_X12_seen 20 rfl (q := 38) rfl 5 rfl ?_
        refine go_iload_n td_X12_seen 21 rfl (q := 39) rfl 1 rfl ?_
        refine go_iload_n td_X12_seen 22 rfl (q := 40) rfl 2 rfl ?_
        refine go_iload_n td_X12_seen 23 rfl (q := 41) rfl 3 rfl ?_
        refine go_callV td_X12_seen 24 rfl (q := 44) rfl (XkB E) lk_X12_369 (ok_fB_M_doesSee E s3.2 a1 a2 a3 g) ⟨rfl, rfl, Nat.le_of_ble_eq_true rfl, Nat.le_of_ble_eq_true rfl⟩ rfl rfl (Nat.le_of_ble_eq_true rfl) (Bc_0 E g) rfl (fun x4 => ?_)
        show Go (wCB E) _ _ g 44 _ [.int x4, .int s3.1] _
        refine go_ljX (α := Int32) (fun b5 => [(0, .ref (E.1 0)), (1, .int a1), (2, .int a2), (3, .int a3), (5, .int s3.2)]) (fun b5 => [.int b5, .int s3.1]) (fun b5 => g) 52 ?_ ?_
        · intro b5
          refine go_iadd td_X12_seen 29 rfl (q := 53) rfl ?_
          refine go_bvi (fun x6 => ?_)
          refine go_istore [(4, .int x6), (0, .ref (E.1 0)), (1, .int a1), (2, .int a2), (3, .int a3), (5, .int s3.2)] td_X12_seen 30 rfl (q := 55) rfl (Nat.le_of_ble_eq_true rfl) rfl ?_
          refine go_iinc [(5, .int (s3.2 + 1)), (4, .int x6), (0, .ref (E.1 0)), (1, .int a1), (2, .int a2), (3, .int a3)] td_X12_seen 31 rfl (q := 58) rfl 5 rfl kc_1 (Nat.le_of_ble_eq_true rfl) rfl ?_
          refine go_goto td_X12_seen 32 rfl (q := 24) rfl ?_
          refine go_pick [2, 3, 4, 5, 1, 0] (lv' := [(0, .ref (E.1 0)), (1, .int a1), (2, .int a2), (3, .int a3), (4, .int x6), (5, .int (s3.2 + 1))]) rfl ?_
          exact krec3 x6 (s3.2 + 1)
        intro J5 hJ5
        have kJ5 : ∀ (u5_0 : Int32), Go (wCB E) _ _ g 52 [(0, .ref (E.1 0)), (1, .int a1), (2, .int a2), (3, .int a3), (5, .int s3.2)] [.int u5_0, .int s3.1] (J5 u5_0) := fun u5_0 => hJ5 u5_0
        refine go_if_eq 51 td_X12_seen 25 rfl rfl (q := 47) rfl (fun _ => ?_) (fun _ => ?_)
        · refine go_iconst td_X12_seen 28 rfl (q := 52) rfl kc_0 ?_
          refine go_pick [0, 1, 2, 3, 5] (lv' := [(0, .ref (E.1 0)), (1, .int a1), (2, .int a2), (3, .int a3), (5, .int s3.2)]) rfl ?_
          exact kJ5 0
        · refine go_iconst td_X12_seen 26 rfl (q := 48) rfl kc_1 ?_
          refine go_goto td_X12_seen 27 rfl (q := 52) rfl ?_
          refine go_pick [0, 1, 2, 3, 5] (lv' := [(0, .ref (E.1 0)), (1, .int a1), (2, .int a2), (3, .int a3), (5, .int s3.2)]) rfl ?_
          exact kJ5 1
    · refine go_iconst td_X12_seen 8 rfl (q := 17) rfl kc_m1 ?_
      exact go_iret td_X12_seen 9 rfl rfl rfl
def fB_M_width (a1 : Int32) (g : G) : Option (Int32) := Option.bind (fB_M_isIn a1 0 ((g.1 2) - 1) g) fun x1 => (if x1 = 0 then some (-1) else Option.bind (fB_M_widthOf a1 g) fun x2 => some x2)
set_option maxRecDepth 20000 in
set_option maxHeartbeats 4000000 in
theorem ok_fB_M_width (E : Ev) (a1 : Int32) (g : G)  : Ct (wCB E) yX12_width mi_X12_width [.ref (E.1 0), .int a1] (fun r => (some (.int r), g)) g (fB_M_width a1 g) := by
  refine go_enter rfl rfl (Nat.le_of_ble_eq_true rfl) (lv := [(0, .ref (E.1 0)), (1, .int a1)]) rfl ?_
  unfold fB_M_width
  refine go_iload_n td_X12_width 0 rfl (q := 1) rfl 1 rfl ?_
  refine go_iconst td_X12_width 1 rfl (q := 2) rfl kc_0 ?_
  refine go_aload_n td_X12_width 2 rfl (q := 3) rfl 0 rfl ?_
  refine go_get td_X12_width 3 rfl (q := 6) rfl fl_X12_17 (Bc_0 E g) rfl ?_
  refine go_iconst td_X12_width 4 rfl (q := 7) rfl kc_1 ?_
  refine go_isub td_X12_width 5 rfl (q := 8) rfl ?_
  refine go_callS td_X12_width 6 rfl (q := 11) rfl (XkB E) lk_X12_248 (ok_fB_M_isIn E a1 0 ((g.1 2) - 1) g) ⟨rfl, rfl, Nat.le_of_ble_eq_true rfl, Nat.le_of_ble_eq_true rfl⟩ rfl rfl (Nat.le_of_ble_eq_true rfl) (fun x1 => ?_)
  show Go (wCB E) _ _ g 11 _ [.int x1] _
  refine go_if_eq 22 td_X12_width 7 rfl rfl (q := 14) rfl (fun _ => ?_) (fun _ => ?_)
  · refine go_iconst td_X12_width 12 rfl (q := 23) rfl kc_m1 ?_
    exact go_iret td_X12_width 13 rfl rfl rfl
  · refine go_aload_n td_X12_width 8 rfl (q := 15) rfl 0 rfl ?_
    refine go_iload_n td_X12_width 9 rfl (q := 16) rfl 1 rfl ?_
    refine go_callV td_X12_width 10 rfl (q := 19) rfl (XkB E) lk_X12_293 (ok_fB_M_widthOf E a1 g) ⟨rfl, rfl, Nat.le_of_ble_eq_true rfl, Nat.le_of_ble_eq_true rfl⟩ rfl rfl (Nat.le_of_ble_eq_true rfl) (Bc_0 E g) rfl (fun x2 => ?_)
    show Go (wCB E) _ _ g 19 _ [.int x2] _
    refine go_goto td_X12_width 11 rfl (q := 23) rfl ?_
    exact go_iret td_X12_width 13 rfl rfl rfl
def fB_M_passes (a1 : Int32) (a2 : Int32) (a3 : Int32) (g : G) : Option (Int32 × G) := Option.bind (fB_M_isCell a1 a2 g) fun x1 => (if x1 = 0 then some ((-1), g) else lj (α := Unit) (fun b2 => Option.bind (fB_M_laysSets g) fun x3 => Lp (α := Int32 × Int32 × G) (fun rec4 s4 => (if (s4.2.2.1 5) ≤ s4.2.1 then some (s4.1, s4.2.2) else lj (α := Int32 × G) (fun b5 => rec4 (b5.1, s4.2.1 + 1, b5.2)) fun J5 => lj (α := Unit) (fun b6 => Option.bind (fB_M_upSet s4.2.2) fun x7 => Option.bind (fB_M_laysStretches (((s4.2.2.1 1) * a2) + a1) (x7 &&& ((1 : Int32) <<< (s4.2.1 &&& 31))) 1 s4.2.2) fun x8 => bv (s4.1 + (x8.1 50)) fun x9 => J5 (x9, x8)) fun J6 => (if a3 = (-1) then J6 () else (if s4.2.1 = a3 then J6 () else J5 (s4.1, s4.2.2))))) FU (0, 0, x3)) fun J2 => (if a3 = (-1) then J2 () else Option.bind (fB_M_isCraft a3 g) fun x10 => (if x10 = 0 then some ((-1), g) else J2 ())))
set_option maxRecDepth 20000 in
set_option maxHeartbeats 4000000 in
theorem ok_fB_M_passes (E : Ev) (a1 : Int32) (a2 : Int32) (a3 : Int32) (g : G)  : Ct (wCB E) yX12_passes mi_X12_passes [.ref (E.1 0), .int a1, .int a2, .int a3] (fun r => (some (.int r.1), r.2)) g (fB_M_passes a1 a2 a3 g) := by
  refine go_enter rfl rfl (Nat.le_of_ble_eq_true rfl) (lv := [(0, .ref (E.1 0)), (1, .int a1), (2, .int a2), (3, .int a3)]) rfl ?_
  unfold fB_M_passes
  refine go_aload_n td_X12_passes 0 rfl (q := 1) rfl 0 rfl ?_
  refine go_iload_n td_X12_passes 1 rfl (q := 2) rfl 1 rfl ?_
  refine go_iload_n td_X12_passes 2 rfl (q := 3) rfl 2 rfl ?_
  refine go_callV td_X12_passes 3 rfl (q := 6) rfl (XkB E) lk_X12_365 (ok_fB_M_isCell E a1 a2 g) ⟨rfl, rfl, Nat.le_of_ble_eq_true rfl, Nat.le_of_ble_eq_true rfl⟩ rfl rfl (Nat.le_of_ble_eq_true rfl) (Bc_0 E g) rfl (fun x1 => ?_)
  show Go (wCB E) _ _ g 6 _ [.int x1] _
  refine go_if_eq 22 td_X12_passes 4 rfl rfl (q := 9) rfl (fun _ => ?_) (fun _ => ?_)
  · refine go_iconst td_X12_passes 12 rfl (q := 23) rfl kc_m1 ?_
    exact go_iret td_X12_passes 13 rfl rfl rfl
  · refine go_iload_n td_X12_passes 5 rfl (q := 10) rfl 3 rfl ?_
    refine go_iconst td_X12_passes 6 rfl (q := 11) rfl kc_m1 ?_
    refine go_ljX (α := Unit) (fun b2 => [(0, .ref (E.1 0)), (1, .int a1), (2, .int a2), (3, .int a3)]) (fun b2 => []) (fun b2 => g) 24 ?_ ?_
    · intro b2
      refine go_aload_n td_X12_passes 14 rfl (q := 25) rfl 0 rfl ?_
      refine go_callV td_X12_passes 15 rfl (q := 28) rfl (XkB E) lk_X12_356 (ok_fB_M_laysSets E g) ⟨rfl, rfl, Nat.le_of_ble_eq_true rfl, Nat.le_of_ble_eq_true rfl⟩ rfl rfl (Nat.le_of_ble_eq_true rfl) (Bc_0 E g) rfl (fun x3 => ?_)
      show Go (wCB E) _ _ x3 28 _ [] _
      refine go_iconst td_X12_passes 16 rfl (q := 29) rfl kc_0 ?_
      refine go_istore [(4, .int 0), (0, .ref (E.1 0)), (1, .int a1), (2, .int a2), (3, .int a3)] td_X12_passes 17 rfl (q := 31) rfl (Nat.le_of_ble_eq_true rfl) rfl ?_
      refine go_iconst td_X12_passes 18 rfl (q := 32) rfl kc_0 ?_
      refine go_istore [(5, .int 0), (4, .int 0), (0, .ref (E.1 0)), (1, .int a1), (2, .int a2), (3, .int a3)] td_X12_passes 19 rfl (q := 34) rfl (Nat.le_of_ble_eq_true rfl) rfl ?_
      refine go_pick [2, 3, 4, 5, 1, 0] (lv' := [(0, .ref (E.1 0)), (1, .int a1), (2, .int a2), (3, .int a3), (4, .int 0), (5, .int 0)]) rfl ?_
      refine (show ∀ (u4_0 : Int32) (u4_1 : Int32) (u4_2 : G), Go (wCB E) _ _ u4_2 34 [(0, .ref (E.1 0)), (1, .int a1), (2, .int a2), (3, .int a3), (4, .int u4_0), (5, .int u4_1)] [] (Lp (α := Int32 × Int32 × G) _ FU (u4_0, u4_1, u4_2)) from ?_) 0 0 x3
      intro u4_0 u4_1 u4_2
      refine go_Lp (α := Int32 × Int32 × G) (fun s4 => s4.2.2) (fun s4 => [(0, .ref (E.1 0)), (1, .int a1), (2, .int a2), (3, .int a3), (4, .int s4.1), (5, .int s4.2.1)]) ?_ FU (u4_0, u4_1, u4_2)
      intro rec4 hrec4 s4
      have krec4 : ∀ (u4_0 : Int32) (u4_1 : Int32) (u4_2 : G), Go (wCB E) _ _ u4_2 34 [(0, .ref (E.1 0)), (1, .int a1), (2, .int a2), (3, .int a3), (4, .int u4_0), (5, .int u4_1)] [] (rec4 (u4_0, u4_1, u4_2)) := fun u4_0 u4_1 u4_2 => hrec4 (u4_0, u4_1, u4_2)
      refine go_iload td_X12_passes 20 rfl (q := 36) rfl 5 rfl ?_
      refine go_aload_n td_X12_passes 21 rfl (q := 37) rfl 0 rfl ?_
      refine go_get td_X12_passes 22 rfl (q := 40) rfl fl_X12_26 (Bc_0 E s4.2.2) rfl ?_
      refine go_icmp_ge 94 td_X12_passes 23 rfl rfl (q := 43) rfl (fun _ => ?_) (fun _ => ?_)
      · refine go_iload td_X12_passes 53 rfl (q := 96) rfl 4 rfl ?_
        exact go_iret td_X12_passes 54 rfl rfl rfl
      · refine go_iload_n td_X12_passes 24 rfl (q := 44) rfl 3 rfl ?_
        refine go_iconst td_X12_passes 25 rfl (q := 45) rfl kc_m1 ?_
        refine go_ljX (α := Int32 × G) (fun b5 => [(0, .ref (E.1 0)), (1, .int a1), (2, .int a2), (3, .int a3), (4, .int b5.1), (5, .int s4.2.1)]) (fun b5 => []) (fun b5 => b5.2) 88 ?_ ?_
        · intro b5
          refine go_iinc [(5, .int (s4.2.1 + 1)), (0, .ref (E.1 0)), (1, .int a1), (2, .int a2), (3, .int a3), (4, .int b5.1)] td_X12_passes 51 rfl (q := 91) rfl 5 rfl kc_1 (Nat.le_of_ble_eq_true rfl) rfl ?_
          refine go_goto td_X12_passes 52 rfl (q := 34) rfl ?_
          refine go_pick [1, 2, 3, 4, 5, 0] (lv' := [(0, .ref (E.1 0)), (1, .int a1), (2, .int a2), (3, .int a3), (4, .int b5.1), (5, .int (s4.2.1 + 1))]) rfl ?_
          exact krec4 b5.1 (s4.2.1 + 1) b5.2
        intro J5 hJ5
        have kJ5 : ∀ (u5_0 : Int32) (u5_1 : G), Go (wCB E) _ _ u5_1 88 [(0, .ref (E.1 0)), (1, .int a1), (2, .int a2), (3, .int a3), (4, .int u5_0), (5, .int s4.2.1)] [] (J5 (u5_0, u5_1)) := fun u5_0 u5_1 => hJ5 (u5_0, u5_1)
        refine go_ljX (α := Unit) (fun b6 => [(0, .ref (E.1 0)), (1, .int a1), (2, .int a2), (3, .int a3), (4, .int s4.1), (5, .int s4.2.1)]) (fun b6 => []) (fun b6 => s4.2.2) 57 ?_ ?_
        · intro b6
          refine go_aload_n td_X12_passes 31 rfl (q := 58) rfl 0 rfl ?_
          refine go_aload_n td_X12_passes 32 rfl (q := 59) rfl 0 rfl ?_
          refine go_get td_X12_passes 33 rfl (q := 62) rfl fl_X12_13 (Bc_0 E s4.2.2) rfl ?_
          refine go_iload_n td_X12_passes 34 rfl (q := 63) rfl 2 rfl ?_
          refine go_imul td_X12_passes 35 rfl (q := 64) rfl ?_
          refine go_iload_n td_X12_passes 36 rfl (q := 65) rfl 1 rfl ?_
          refine go_iadd td_X12_passes 37 rfl (q := 66) rfl ?_
          refine go_aload_n td_X12_passes 38 rfl (q := 67) rfl 0 rfl ?_
          refine go_callV td_X12_passes 39 rfl (q := 70) rfl (XkB E) lk_X12_359 (ok_fB_M_upSet E s4.2.2) ⟨rfl, rfl, Nat.le_of_ble_eq_true rfl, Nat.le_of_ble_eq_true rfl⟩ rfl rfl (Nat.le_of_ble_eq_true rfl) (Bc_0 E s4.2.2) rfl (fun x7 => ?_)
          show Go (wCB E) _ _ s4.2.2 70 _ [.int x7, .int (((s4.2.2.1 1) * a2) + a1), .ref (E.1 0)] _
          refine go_iconst td_X12_passes 40 rfl (q := 71) rfl kc_1 ?_
          refine go_iload td_X12_passes 41 rfl (q := 73) rfl 5 rfl ?_
          refine go_ishl td_X12_passes 42 rfl (q := 74) rfl ?_
          refine go_iand td_X12_passes 43 rfl (q := 75) rfl ?_
          refine go_iconst td_X12_passes 44 rfl (q := 76) rfl kc_1 ?_
          refine go_callV td_X12_passes 45 rfl (q := 79) rfl (XkB E) lk_X12_330 (ok_fB_M_laysStretches E (((s4.2.2.1 1) * a2) + a1) (x7 &&& ((1 : Int32) <<< (s4.2.1 &&& 31))) 1 s4.2.2) ⟨rfl, rfl, Nat.le_of_ble_eq_true rfl, Nat.le_of_ble_eq_true rfl⟩ rfl rfl (Nat.le_of_ble_eq_true rfl) (Bc_0 E s4.2.2) rfl (fun x8 => ?_)
          show Go (wCB E) _ _ x8 79 _ [] _
          refine go_iload td_X12_passes 46 rfl (q := 81) rfl 4 rfl ?_
          refine go_aload_n td_X12_passes 47 rfl (q := 82) rfl 0 rfl ?_
          refine go_get td_X12_passes 48 rfl (q := 85) rfl fl_X12_163 (Bc_0 E x8) rfl ?_
          refine go_iadd td_X12_passes 49 rfl (q := 86) rfl ?_
          refine go_bvi (fun x9 => ?_)
          refine go_istore [(4, .int x9), (0, .ref (E.1 0)), (1, .int a1), (2, .int a2), (3, .int a3), (5, .int s4.2.1)] td_X12_passes 50 rfl (q := 88) rfl (Nat.le_of_ble_eq_true rfl) rfl ?_
          refine go_pick [1, 2, 3, 4, 0, 5] (lv' := [(0, .ref (E.1 0)), (1, .int a1), (2, .int a2), (3, .int a3), (4, .int x9), (5, .int s4.2.1)]) rfl ?_
          exact kJ5 x9 x8
        intro J6 hJ6
        have kJ6 : Go (wCB E) _ _ s4.2.2 57 [(0, .ref (E.1 0)), (1, .int a1), (2, .int a2), (3, .int a3), (4, .int s4.1), (5, .int s4.2.1)] [] (J6 ()) := hJ6 ()
        refine go_icmp_eq 57 td_X12_passes 26 rfl rfl (q := 48) rfl (fun _ => ?_) (fun _ => ?_)
        · refine go_pick [0, 1, 2, 3, 4, 5] (lv' := [(0, .ref (E.1 0)), (1, .int a1), (2, .int a2), (3, .int a3), (4, .int s4.1), (5, .int s4.2.1)]) rfl ?_
          exact kJ6 
        · refine go_iload td_X12_passes 27 rfl (q := 50) rfl 5 rfl ?_
          refine go_iload_n td_X12_passes 28 rfl (q := 51) rfl 3 rfl ?_
          refine go_icmp_eq 57 td_X12_passes 29 rfl rfl (q := 54) rfl (fun _ => ?_) (fun _ => ?_)
          · refine go_pick [0, 1, 2, 3, 4, 5] (lv' := [(0, .ref (E.1 0)), (1, .int a1), (2, .int a2), (3, .int a3), (4, .int s4.1), (5, .int s4.2.1)]) rfl ?_
            exact kJ6 
          · refine go_goto td_X12_passes 30 rfl (q := 88) rfl ?_
            refine go_pick [0, 1, 2, 3, 4, 5] (lv' := [(0, .ref (E.1 0)), (1, .int a1), (2, .int a2), (3, .int a3), (4, .int s4.1), (5, .int s4.2.1)]) rfl ?_
            exact kJ5 s4.1 s4.2.2
    intro J2 hJ2
    have kJ2 : Go (wCB E) _ _ g 24 [(0, .ref (E.1 0)), (1, .int a1), (2, .int a2), (3, .int a3)] [] (J2 ()) := hJ2 ()
    refine go_icmp_eq 24 td_X12_passes 7 rfl rfl (q := 14) rfl (fun _ => ?_) (fun _ => ?_)
    · refine go_pick [0, 1, 2, 3] (lv' := [(0, .ref (E.1 0)), (1, .int a1), (2, .int a2), (3, .int a3)]) rfl ?_
      exact kJ2 
    · refine go_aload_n td_X12_passes 8 rfl (q := 15) rfl 0 rfl ?_
      refine go_iload_n td_X12_passes 9 rfl (q := 16) rfl 3 rfl ?_
      refine go_callV td_X12_passes 10 rfl (q := 19) rfl (XkB E) lk_X12_350 (ok_fB_M_isCraft E a3 g) ⟨rfl, rfl, Nat.le_of_ble_eq_true rfl, Nat.le_of_ble_eq_true rfl⟩ rfl rfl (Nat.le_of_ble_eq_true rfl) (Bc_0 E g) rfl (fun x10 => ?_)
      show Go (wCB E) _ _ g 19 _ [.int x10] _
      refine go_if_ne 24 td_X12_passes 11 rfl rfl (q := 22) rfl (fun _ => ?_) (fun _ => ?_)
      · refine go_pick [0, 1, 2, 3] (lv' := [(0, .ref (E.1 0)), (1, .int a1), (2, .int a2), (3, .int a3)]) rfl ?_
        exact kJ2 
      · refine go_iconst td_X12_passes 12 rfl (q := 23) rfl kc_m1 ?_
        exact go_iret td_X12_passes 13 rfl rfl rfl
def fB_M_findsPass (a1 : Int32) (a2 : Int32) (a3 : Int32) (a4 : Int32) (g : G) : Option (Int32 × G) := bv (sS g 51 1000000) fun g1 => Lp (α := Int32 × G) (fun rec2 s2 => (if (s2.2.1 5) ≤ s2.1 then (if (s2.2.1 51) = 1000000 then some (0, s2.2) else some (1, s2.2)) else lj (α := G) (fun b3 => rec2 (s2.1 + 1, b3)) fun J3 => lj (α := Unit) (fun b4 => Option.bind (fB_M_upSet s2.2) fun x5 => Option.bind (fB_M_laysStretches a1 (x5 &&& ((1 : Int32) <<< (s2.1 &&& 31))) 1 s2.2) fun x6 => Lp (α := Int32 × G) (fun rec7 s7 => (if (s7.2.1 50) ≤ s7.1 then J3 s7.2 else ag 240 (s7.2.2.1 23) s7.1 fun x8 => lj (α := Int32) (fun b9 => lj (α := G) (fun b10 => rec7 (s7.1 + 1, b10)) fun J10 => (if b9 = 0 then J10 s7.2 else ag 240 (s7.2.2.1 23) s7.1 fun x11 => (if x11 < (s7.2.1 51) then ag 240 (s7.2.2.1 23) s7.1 fun x12 => bv (sS s7.2 51 x12) fun g13 => ag 240 (g13.2.1 24) s7.1 fun x14 => bv (sS g13 52 x14) fun g15 => bv (sS g15 53 s2.1) fun g16 => J10 g16 else J10 s7.2))) fun J9 => lj (α := Unit) (fun b17 => J9 1) fun J17 => (if a3 < x8 then J17 () else ag 240 (s7.2.2.1 23) s7.1 fun x18 => lj (α := Unit) (fun b19 => J9 0) fun J19 => (if x18 = a3 then (if s2.1 < a4 then J19 () else J17 ()) else J19 ())))) FU (0, x6)) fun J4 => (if a2 = (-1) then J4 () else (if s2.1 = a2 then J4 () else J3 s2.2)))) FU (0, g1)
set_option maxRecDepth 20000 in
set_option maxHeartbeats 4000000 in
theorem ok_fB_M_findsPass (E : Ev) (a1 : Int32) (a2 : Int32) (a3 : Int32) (a4 : Int32) (g : G)  : Ct (wCB E) yX12_findsPass mi_X12_findsPass [.ref (E.1 0), .int a1, .int a2, .int a3, .int a4] (fun r => (some (.int r.1), r.2)) g (fB_M_findsPass a1 a2 a3 a4 g) := by
  refine go_enter rfl rfl (Nat.le_of_ble_eq_true rfl) (lv := [(0, .ref (E.1 0)), (1, .int a1), (2, .int a2), (3, .int a3), (4, .int a4)]) rfl ?_
  unfold fB_M_findsPass
  refine go_aload_n td_X12_findsPass 0 rfl (q := 1) rfl 0 rfl ?_
  refine go_ldcw td_X12_findsPass 1 rfl (q := 4) rfl cn_X12_373 ?_
  refine go_put td_X12_findsPass 2 rfl (q := 7) rfl flp_X12_166 (Bc_0 E g) rfl rfl (Nat.le_of_ble_eq_true rfl) (Bps_51 E g 1000000) ?_
  refine go_bvg (fun g1 => ?_)
  refine go_iconst td_X12_findsPass 3 rfl (q := 8) rfl kc_0 ?_
  refine go_istore [(5, .int 0), (0, .ref (E.1 0)), (1, .int a1), (2, .int a2), (3, .int a3), (4, .int a4)] td_X12_findsPass 4 rfl (q := 10) rfl (Nat.le_of_ble_eq_true rfl) rfl ?_
  refine go_pick [1, 2, 3, 4, 5, 0] (lv' := [(0, .ref (E.1 0)), (1, .int a1), (2, .int a2), (3, .int a3), (4, .int a4), (5, .int 0)]) rfl ?_
  refine (show ∀ (u2_0 : Int32) (u2_1 : G), Go (wCB E) _ _ u2_1 10 [(0, .ref (E.1 0)), (1, .int a1), (2, .int a2), (3, .int a3), (4, .int a4), (5, .int u2_0)] [] (Lp (α := Int32 × G) _ FU (u2_0, u2_1)) from ?_) 0 g1
  intro u2_0 u2_1
  refine go_Lp (α := Int32 × G) (fun s2 => s2.2) (fun s2 => [(0, .ref (E.1 0)), (1, .int a1), (2, .int a2), (3, .int a3), (4, .int a4), (5, .int s2.1)]) ?_ FU (u2_0, u2_1)
  intro rec2 hrec2 s2
  have krec2 : ∀ (u2_0 : Int32) (u2_1 : G), Go (wCB E) _ _ u2_1 10 [(0, .ref (E.1 0)), (1, .int a1), (2, .int a2), (3, .int a3), (4, .int a4), (5, .int u2_0)] [] (rec2 (u2_0, u2_1)) := fun u2_0 u2_1 => hrec2 (u2_0, u2_1)
  refine go_iload td_X12_findsPass 5 rfl (q := 12) rfl 5 rfl ?_
  refine go_aload_n td_X12_findsPass 6 rfl (q := 13) rfl 0 rfl ?_
  refine go_get td_X12_findsPass 7 rfl (q := 16) rfl fl_X12_26 (Bc_0 E s2.2) rfl ?_
  refine go_icmp_ge 158 td_X12_findsPass 8 rfl rfl (q := 19) rfl (fun _ => ?_) (fun _ => ?_)
  · refine go_aload_n td_X12_findsPass 80 rfl (q := 159) rfl 0 rfl ?_
    refine go_get td_X12_findsPass 81 rfl (q := 162) rfl fl_X12_166 (Bc_0 E s2.2) rfl ?_
    refine go_ldcw td_X12_findsPass 82 rfl (q := 165) rfl cn_X12_373 ?_
    refine go_icmp_eq 172 td_X12_findsPass 83 rfl rfl (q := 168) rfl (fun _ => ?_) (fun _ => ?_)
    · refine go_iconst td_X12_findsPass 86 rfl (q := 173) rfl kc_0 ?_
      exact go_zret td_X12_findsPass 87 rfl rfl rfl rfl
    · refine go_iconst td_X12_findsPass 84 rfl (q := 169) rfl kc_1 ?_
      refine go_goto td_X12_findsPass 85 rfl (q := 173) rfl ?_
      exact go_zret td_X12_findsPass 87 rfl rfl rfl rfl
  · refine go_iload_n td_X12_findsPass 9 rfl (q := 20) rfl 2 rfl ?_
    refine go_iconst td_X12_findsPass 10 rfl (q := 21) rfl kc_m1 ?_
    refine go_ljX (α := G) (fun b3 => [(0, .ref (E.1 0)), (1, .int a1), (2, .int a2), (3, .int a3), (4, .int a4), (5, .int s2.1)]) (fun b3 => []) (fun b3 => b3) 152 ?_ ?_
    · intro b3
      refine go_iinc [(5, .int (s2.1 + 1)), (0, .ref (E.1 0)), (1, .int a1), (2, .int a2), (3, .int a3), (4, .int a4)] td_X12_findsPass 78 rfl (q := 155) rfl 5 rfl kc_1 (Nat.le_of_ble_eq_true rfl) rfl ?_
      refine go_goto td_X12_findsPass 79 rfl (q := 10) rfl ?_
      refine go_pick [1, 2, 3, 4, 5, 0] (lv' := [(0, .ref (E.1 0)), (1, .int a1), (2, .int a2), (3, .int a3), (4, .int a4), (5, .int (s2.1 + 1))]) rfl ?_
      exact krec2 (s2.1 + 1) b3
    intro J3 hJ3
    have kJ3 : ∀ (u3_0 : G), Go (wCB E) _ _ u3_0 152 [(0, .ref (E.1 0)), (1, .int a1), (2, .int a2), (3, .int a3), (4, .int a4), (5, .int s2.1)] [] (J3 u3_0) := fun u3_0 => hJ3 u3_0
    refine go_ljX (α := Unit) (fun b4 => [(0, .ref (E.1 0)), (1, .int a1), (2, .int a2), (3, .int a3), (4, .int a4), (5, .int s2.1)]) (fun b4 => []) (fun b4 => s2.2) 33 ?_ ?_
    · intro b4
      refine go_aload_n td_X12_findsPass 16 rfl (q := 34) rfl 0 rfl ?_
      refine go_iload_n td_X12_findsPass 17 rfl (q := 35) rfl 1 rfl ?_
      refine go_aload_n td_X12_findsPass 18 rfl (q := 36) rfl 0 rfl ?_
      refine go_callV td_X12_findsPass 19 rfl (q := 39) rfl (XkB E) lk_X12_359 (ok_fB_M_upSet E s2.2) ⟨rfl, rfl, Nat.le_of_ble_eq_true rfl, Nat.le_of_ble_eq_true rfl⟩ rfl rfl (Nat.le_of_ble_eq_true rfl) (Bc_0 E s2.2) rfl (fun x5 => ?_)
      show Go (wCB E) _ _ s2.2 39 _ [.int x5, .int a1, .ref (E.1 0)] _
      refine go_iconst td_X12_findsPass 20 rfl (q := 40) rfl kc_1 ?_
      refine go_iload td_X12_findsPass 21 rfl (q := 42) rfl 5 rfl ?_
      refine go_ishl td_X12_findsPass 22 rfl (q := 43) rfl ?_
      refine go_iand td_X12_findsPass 23 rfl (q := 44) rfl ?_
      refine go_iconst td_X12_findsPass 24 rfl (q := 45) rfl kc_1 ?_
      refine go_callV td_X12_findsPass 25 rfl (q := 48) rfl (XkB E) lk_X12_330 (ok_fB_M_laysStretches E a1 (x5 &&& ((1 : Int32) <<< (s2.1 &&& 31))) 1 s2.2) ⟨rfl, rfl, Nat.le_of_ble_eq_true rfl, Nat.le_of_ble_eq_true rfl⟩ rfl rfl (Nat.le_of_ble_eq_true rfl) (Bc_0 E s2.2) rfl (fun x6 => ?_)
      show Go (wCB E) _ _ x6 48 _ [] _
      refine go_iconst td_X12_findsPass 26 rfl (q := 49) rfl kc_0 ?_
      refine go_istore [(6, .int 0), (0, .ref (E.1 0)), (1, .int a1), (2, .int a2), (3, .int a3), (4, .int a4), (5, .int s2.1)] td_X12_findsPass 27 rfl (q := 51) rfl (Nat.le_of_ble_eq_true rfl) rfl ?_
      refine go_pick [1, 2, 3, 4, 5, 6, 0] (lv' := [(0, .ref (E.1 0)), (1, .int a1), (2, .int a2), (3, .int a3), (4, .int a4), (5, .int s2.1), (6, .int 0)]) rfl ?_
      refine (show ∀ (u7_0 : Int32) (u7_1 : G), Go (wCB E) _ _ u7_1 51 [(0, .ref (E.1 0)), (1, .int a1), (2, .int a2), (3, .int a3), (4, .int a4), (5, .int s2.1), (6, .int u7_0)] [] (Lp (α := Int32 × G) _ FU (u7_0, u7_1)) from ?_) 0 x6
      intro u7_0 u7_1
      refine go_Lp (α := Int32 × G) (fun s7 => s7.2) (fun s7 => [(0, .ref (E.1 0)), (1, .int a1), (2, .int a2), (3, .int a3), (4, .int a4), (5, .int s2.1), (6, .int s7.1)]) ?_ FU (u7_0, u7_1)
      intro rec7 hrec7 s7
      have krec7 : ∀ (u7_0 : Int32) (u7_1 : G), Go (wCB E) _ _ u7_1 51 [(0, .ref (E.1 0)), (1, .int a1), (2, .int a2), (3, .int a3), (4, .int a4), (5, .int s2.1), (6, .int u7_0)] [] (rec7 (u7_0, u7_1)) := fun u7_0 u7_1 => hrec7 (u7_0, u7_1)
      refine go_iload td_X12_findsPass 28 rfl (q := 53) rfl 6 rfl ?_
      refine go_aload_n td_X12_findsPass 29 rfl (q := 54) rfl 0 rfl ?_
      refine go_get td_X12_findsPass 30 rfl (q := 57) rfl fl_X12_163 (Bc_0 E s7.2) rfl ?_
      refine go_icmp_ge 152 td_X12_findsPass 31 rfl rfl (q := 60) rfl (fun _ => ?_) (fun _ => ?_)
      · refine go_pick [0, 1, 2, 3, 4, 5] (lv' := [(0, .ref (E.1 0)), (1, .int a1), (2, .int a2), (3, .int a3), (4, .int a4), (5, .int s2.1)]) rfl ?_
        exact kJ3 s7.2
      · refine go_aload_n td_X12_findsPass 32 rfl (q := 61) rfl 0 rfl ?_
        refine go_get td_X12_findsPass 33 rfl (q := 64) rfl fl_X12_157 (Bc_0 E s7.2) rfl ?_
        refine go_iload td_X12_findsPass 34 rfl (q := 66) rfl 6 rfl ?_
        refine go_ald td_X12_findsPass 35 rfl (q := 67) rfl (Bc_23 E s7.2) (t0 := 0) rfl (fun x8 => ?_)
        refine go_iload_n td_X12_findsPass 36 rfl (q := 68) rfl 3 rfl ?_
        refine go_ljX (α := Int32) (fun b9 => [(0, .ref (E.1 0)), (1, .int a1), (2, .int a2), (3, .int a3), (4, .int a4), (5, .int s2.1), (6, .int s7.1)]) (fun b9 => [.int b9]) (fun b9 => s7.2) 94 ?_ ?_
        · intro b9
          refine go_istore [(7, .int b9), (0, .ref (E.1 0)), (1, .int a1), (2, .int a2), (3, .int a3), (4, .int a4), (5, .int s2.1), (6, .int s7.1)] td_X12_findsPass 50 rfl (q := 96) rfl (Nat.le_of_ble_eq_true rfl) rfl ?_
          refine go_iload td_X12_findsPass 51 rfl (q := 98) rfl 0 rfl ?_
          refine go_ljX (α := G) (fun b10 => [(0, .ref (E.1 0)), (1, .int a1), (2, .int a2), (3, .int a3), (4, .int a4), (5, .int s2.1), (6, .int s7.1)]) (fun b10 => []) (fun b10 => b10) 146 ?_ ?_
          · intro b10
            refine go_iinc [(6, .int (s7.1 + 1)), (0, .ref (E.1 0)), (1, .int a1), (2, .int a2), (3, .int a3), (4, .int a4), (5, .int s2.1)] td_X12_findsPass 76 rfl (q := 149) rfl 6 rfl kc_1 (Nat.le_of_ble_eq_true rfl) rfl ?_
            refine go_goto td_X12_findsPass 77 rfl (q := 51) rfl ?_
            refine go_pick [1, 2, 3, 4, 5, 6, 0] (lv' := [(0, .ref (E.1 0)), (1, .int a1), (2, .int a2), (3, .int a3), (4, .int a4), (5, .int s2.1), (6, .int (s7.1 + 1))]) rfl ?_
            exact krec7 (s7.1 + 1) b10
          intro J10 hJ10
          have kJ10 : ∀ (u10_0 : G), Go (wCB E) _ _ u10_0 146 [(0, .ref (E.1 0)), (1, .int a1), (2, .int a2), (3, .int a3), (4, .int a4), (5, .int s2.1), (6, .int s7.1)] [] (J10 u10_0) := fun u10_0 => hJ10 u10_0
          refine go_if_eq 146 td_X12_findsPass 52 rfl rfl (q := 101) rfl (fun _ => ?_) (fun _ => ?_)
          · refine go_pick [1, 2, 3, 4, 5, 6, 7] (lv' := [(0, .ref (E.1 0)), (1, .int a1), (2, .int a2), (3, .int a3), (4, .int a4), (5, .int s2.1), (6, .int s7.1)]) rfl ?_
            exact kJ10 s7.2
          · refine go_aload_n td_X12_findsPass 53 rfl (q := 102) rfl 1 rfl ?_
            refine go_get td_X12_findsPass 54 rfl (q := 105) rfl fl_X12_157 (Bc_0 E s7.2) rfl ?_
            refine go_iload td_X12_findsPass 55 rfl (q := 107) rfl 7 rfl ?_
            refine go_ald td_X12_findsPass 56 rfl (q := 108) rfl (Bc_23 E s7.2) (t0 := 0) rfl (fun x11 => ?_)
            refine go_aload_n td_X12_findsPass 57 rfl (q := 109) rfl 1 rfl ?_
            refine go_get td_X12_findsPass 58 rfl (q := 112) rfl fl_X12_166 (Bc_0 E s7.2) rfl ?_
            refine go_icmp_lt 118 td_X12_findsPass 59 rfl rfl (q := 115) rfl (fun _ => ?_) (fun _ => ?_)
            · refine go_aload_n td_X12_findsPass 61 rfl (q := 119) rfl 1 rfl ?_
              refine go_aload_n td_X12_findsPass 62 rfl (q := 120) rfl 1 rfl ?_
              refine go_get td_X12_findsPass 63 rfl (q := 123) rfl fl_X12_157 (Bc_0 E s7.2) rfl ?_
              refine go_iload td_X12_findsPass 64 rfl (q := 125) rfl 7 rfl ?_
              refine go_ald td_X12_findsPass 65 rfl (q := 126) rfl (Bc_23 E s7.2) (t0 := 0) rfl (fun x12 => ?_)
              refine go_put td_X12_findsPass 66 rfl (q := 129) rfl flp_X12_166 (Bc_0 E s7.2) rfl rfl (Nat.le_of_ble_eq_true rfl) (Bps_51 E s7.2 x12) ?_
              refine go_bvg (fun g13 => ?_)
              refine go_aload_n td_X12_findsPass 67 rfl (q := 130) rfl 1 rfl ?_
              refine go_aload_n td_X12_findsPass 68 rfl (q := 131) rfl 1 rfl ?_
              refine go_get td_X12_findsPass 69 rfl (q := 134) rfl fl_X12_160 (Bc_0 E g13) rfl ?_
              refine go_iload td_X12_findsPass 70 rfl (q := 136) rfl 7 rfl ?_
              refine go_ald td_X12_findsPass 71 rfl (q := 137) rfl (Bc_24 E g13) (t0 := 0) rfl (fun x14 => ?_)
              refine go_put td_X12_findsPass 72 rfl (q := 140) rfl flp_X12_169 (Bc_0 E g13) rfl rfl (Nat.le_of_ble_eq_true rfl) (Bps_52 E g13 x14) ?_
              refine go_bvg (fun g15 => ?_)
              refine go_aload_n td_X12_findsPass 73 rfl (q := 141) rfl 1 rfl ?_
              refine go_iload td_X12_findsPass 74 rfl (q := 143) rfl 6 rfl ?_
              refine go_put td_X12_findsPass 75 rfl (q := 146) rfl flp_X12_172 (Bc_0 E g15) rfl rfl (Nat.le_of_ble_eq_true rfl) (Bps_53 E g15 s2.1) ?_
              refine go_bvg (fun g16 => ?_)
              refine go_pick [1, 2, 3, 4, 5, 6, 7] (lv' := [(0, .ref (E.1 0)), (1, .int a1), (2, .int a2), (3, .int a3), (4, .int a4), (5, .int s2.1), (6, .int s7.1)]) rfl ?_
              exact kJ10 g16
            · refine go_goto td_X12_findsPass 60 rfl (q := 146) rfl ?_
              refine go_pick [1, 2, 3, 4, 5, 6, 7] (lv' := [(0, .ref (E.1 0)), (1, .int a1), (2, .int a2), (3, .int a3), (4, .int a4), (5, .int s2.1), (6, .int s7.1)]) rfl ?_
              exact kJ10 s7.2
        intro J9 hJ9
        have kJ9 : ∀ (u9_0 : Int32), Go (wCB E) _ _ s7.2 94 [(0, .ref (E.1 0)), (1, .int a1), (2, .int a2), (3, .int a3), (4, .int a4), (5, .int s2.1), (6, .int s7.1)] [.int u9_0] (J9 u9_0) := fun u9_0 => hJ9 u9_0
        refine go_ljX (α := Unit) (fun b17 => [(0, .ref (E.1 0)), (1, .int a1), (2, .int a2), (3, .int a3), (4, .int a4), (5, .int s2.1), (6, .int s7.1)]) (fun b17 => []) (fun b17 => s7.2) 89 ?_ ?_
        · intro b17
          refine go_iconst td_X12_findsPass 47 rfl (q := 90) rfl kc_1 ?_
          refine go_goto td_X12_findsPass 48 rfl (q := 94) rfl ?_
          refine go_pick [0, 1, 2, 3, 4, 5, 6] (lv' := [(0, .ref (E.1 0)), (1, .int a1), (2, .int a2), (3, .int a3), (4, .int a4), (5, .int s2.1), (6, .int s7.1)]) rfl ?_
          exact kJ9 1
        intro J17 hJ17
        have kJ17 : Go (wCB E) _ _ s7.2 89 [(0, .ref (E.1 0)), (1, .int a1), (2, .int a2), (3, .int a3), (4, .int a4), (5, .int s2.1), (6, .int s7.1)] [] (J17 ()) := hJ17 ()
        refine go_icmp_gt 89 td_X12_findsPass 37 rfl rfl (q := 71) rfl (fun _ => ?_) (fun _ => ?_)
        · refine go_pick [0, 1, 2, 3, 4, 5, 6] (lv' := [(0, .ref (E.1 0)), (1, .int a1), (2, .int a2), (3, .int a3), (4, .int a4), (5, .int s2.1), (6, .int s7.1)]) rfl ?_
          exact kJ17 
        · refine go_aload_n td_X12_findsPass 38 rfl (q := 72) rfl 0 rfl ?_
          refine go_get td_X12_findsPass 39 rfl (q := 75) rfl fl_X12_157 (Bc_0 E s7.2) rfl ?_
          refine go_iload td_X12_findsPass 40 rfl (q := 77) rfl 6 rfl ?_
          refine go_ald td_X12_findsPass 41 rfl (q := 78) rfl (Bc_23 E s7.2) (t0 := 0) rfl (fun x18 => ?_)
          refine go_iload_n td_X12_findsPass 42 rfl (q := 79) rfl 3 rfl ?_
          refine go_ljX (α := Unit) (fun b19 => [(0, .ref (E.1 0)), (1, .int a1), (2, .int a2), (3, .int a3), (4, .int a4), (5, .int s2.1), (6, .int s7.1)]) (fun b19 => []) (fun b19 => s7.2) 93 ?_ ?_
          · intro b19
            refine go_iconst td_X12_findsPass 49 rfl (q := 94) rfl kc_0 ?_
            refine go_pick [0, 1, 2, 3, 4, 5, 6] (lv' := [(0, .ref (E.1 0)), (1, .int a1), (2, .int a2), (3, .int a3), (4, .int a4), (5, .int s2.1), (6, .int s7.1)]) rfl ?_
            exact kJ9 0
          intro J19 hJ19
          have kJ19 : Go (wCB E) _ _ s7.2 93 [(0, .ref (E.1 0)), (1, .int a1), (2, .int a2), (3, .int a3), (4, .int a4), (5, .int s2.1), (6, .int s7.1)] [] (J19 ()) := hJ19 ()
          refine go_icmp_ne 93 td_X12_findsPass 43 rfl rfl (q := 82) rfl (fun _ => ?_) (fun _ => ?_)
          · refine go_pick [0, 1, 2, 3, 4, 5, 6] (lv' := [(0, .ref (E.1 0)), (1, .int a1), (2, .int a2), (3, .int a3), (4, .int a4), (5, .int s2.1), (6, .int s7.1)]) rfl ?_
            exact kJ19 
          · refine go_iload td_X12_findsPass 44 rfl (q := 84) rfl 5 rfl ?_
            refine go_iload td_X12_findsPass 45 rfl (q := 86) rfl 4 rfl ?_
            refine go_icmp_lt 93 td_X12_findsPass 46 rfl rfl (q := 89) rfl (fun _ => ?_) (fun _ => ?_)
            · refine go_pick [0, 1, 2, 3, 4, 5, 6] (lv' := [(0, .ref (E.1 0)), (1, .int a1), (2, .int a2), (3, .int a3), (4, .int a4), (5, .int s2.1), (6, .int s7.1)]) rfl ?_
              exact kJ19 
            · refine go_pick [0, 1, 2, 3, 4, 5, 6] (lv' := [(0, .ref (E.1 0)), (1, .int a1), (2, .int a2), (3, .int a3), (4, .int a4), (5, .int s2.1), (6, .int s7.1)]) rfl ?_
              exact kJ17 
    intro J4 hJ4
    have kJ4 : Go (wCB E) _ _ s2.2 33 [(0, .ref (E.1 0)), (1, .int a1), (2, .int a2), (3, .int a3), (4, .int a4), (5, .int s2.1)] [] (J4 ()) := hJ4 ()
    refine go_icmp_eq 33 td_X12_findsPass 11 rfl rfl (q := 24) rfl (fun _ => ?_) (fun _ => ?_)
    · refine go_pick [0, 1, 2, 3, 4, 5] (lv' := [(0, .ref (E.1 0)), (1, .int a1), (2, .int a2), (3, .int a3), (4, .int a4), (5, .int s2.1)]) rfl ?_
      exact kJ4 
    · refine go_iload td_X12_findsPass 12 rfl (q := 26) rfl 5 rfl ?_
      refine go_iload_n td_X12_findsPass 13 rfl (q := 27) rfl 2 rfl ?_
      refine go_icmp_eq 33 td_X12_findsPass 14 rfl rfl (q := 30) rfl (fun _ => ?_) (fun _ => ?_)
      · refine go_pick [0, 1, 2, 3, 4, 5] (lv' := [(0, .ref (E.1 0)), (1, .int a1), (2, .int a2), (3, .int a3), (4, .int a4), (5, .int s2.1)]) rfl ?_
        exact kJ4 
      · refine go_goto td_X12_findsPass 15 rfl (q := 152) rfl ?_
        refine go_pick [0, 1, 2, 3, 4, 5] (lv' := [(0, .ref (E.1 0)), (1, .int a1), (2, .int a2), (3, .int a3), (4, .int a4), (5, .int s2.1)]) rfl ?_
        exact kJ3 s2.2
def fB_M_pass (a1 : Int32) (a2 : Int32) (a3 : Int32) (a4 : Int32) (a5 : Int32) (g : G) : Option (Int32 × G) := Option.bind (fB_M_isIn a5 0 2 g) fun x1 => (if x1 = 0 then some ((-1), g) else Option.bind (fB_M_passes a1 a2 a3 g) fun x2 => Option.bind (fB_M_isIn a4 0 (x2.1 - 1) x2.2) fun x3 => (if x3 = 0 then some ((-1), x2.2) else Lp (α := Int32 × Int32 × Int32 × G) (fun rec4 s4 => (if a4 < s4.2.2.1 then (if a5 = 0 then some (s4.2.2.2.1 51, s4.2.2.2) else (if a5 = 1 then some (s4.2.2.2.1 52, s4.2.2.2) else some (s4.2.2.2.1 53, s4.2.2.2))) else Option.bind (fB_M_findsPass (((s4.2.2.2.1 1) * a2) + a1) a3 s4.1 s4.2.1 s4.2.2.2) fun x5 => (if x5.1 = 0 then some ((-1), x5.2) else bv (x5.2.1 51) fun x6 => bv ((x5.2.1 53) + 1) fun x7 => rec4 (x6, x7, s4.2.2.1 + 1, x5.2)))) FU (0, 0, 0, x2.2)))
set_option maxRecDepth 20000 in
set_option maxHeartbeats 4000000 in
theorem ok_fB_M_pass (E : Ev) (a1 : Int32) (a2 : Int32) (a3 : Int32) (a4 : Int32) (a5 : Int32) (g : G)  : Ct (wCB E) yX12_pass mi_X12_pass [.ref (E.1 0), .int a1, .int a2, .int a3, .int a4, .int a5] (fun r => (some (.int r.1), r.2)) g (fB_M_pass a1 a2 a3 a4 a5 g) := by
  refine go_enter rfl rfl (Nat.le_of_ble_eq_true rfl) (lv := [(0, .ref (E.1 0)), (1, .int a1), (2, .int a2), (3, .int a3), (4, .int a4), (5, .int a5)]) rfl ?_
  unfold fB_M_pass
  refine go_iload td_X12_pass 0 rfl (q := 2) rfl 5 rfl ?_
  refine go_iconst td_X12_pass 1 rfl (q := 3) rfl kc_0 ?_
  refine go_iconst td_X12_pass 2 rfl (q := 4) rfl kc_2 ?_
  refine go_callS td_X12_pass 3 rfl (q := 7) rfl (XkB E) lk_X12_248 (ok_fB_M_isIn E a5 0 2 g) ⟨rfl, rfl, Nat.le_of_ble_eq_true rfl, Nat.le_of_ble_eq_true rfl⟩ rfl rfl (Nat.le_of_ble_eq_true rfl) (fun x1 => ?_)
  show Go (wCB E) _ _ g 7 _ [.int x1] _
  refine go_if_eq 28 td_X12_pass 4 rfl rfl (q := 10) rfl (fun _ => ?_) (fun _ => ?_)
  · refine go_iconst td_X12_pass 16 rfl (q := 29) rfl kc_m1 ?_
    exact go_iret td_X12_pass 17 rfl rfl rfl
  · refine go_iload td_X12_pass 5 rfl (q := 12) rfl 4 rfl ?_
    refine go_iconst td_X12_pass 6 rfl (q := 13) rfl kc_0 ?_
    refine go_aload_n td_X12_pass 7 rfl (q := 14) rfl 0 rfl ?_
    refine go_iload_n td_X12_pass 8 rfl (q := 15) rfl 1 rfl ?_
    refine go_iload_n td_X12_pass 9 rfl (q := 16) rfl 2 rfl ?_
    refine go_iload_n td_X12_pass 10 rfl (q := 17) rfl 3 rfl ?_
    refine go_callV td_X12_pass 11 rfl (q := 20) rfl (XkB E) lk_X12_374 (ok_fB_M_passes E a1 a2 a3 g) ⟨rfl, rfl, Nat.le_of_ble_eq_true rfl, Nat.le_of_ble_eq_true rfl⟩ rfl rfl (Nat.le_of_ble_eq_true rfl) (Bc_0 E g) rfl (fun x2 => ?_)
    show Go (wCB E) _ _ x2.2 20 _ [.int x2.1, .int 0, .int a4] _
    refine go_iconst td_X12_pass 12 rfl (q := 21) rfl kc_1 ?_
    refine go_isub td_X12_pass 13 rfl (q := 22) rfl ?_
    refine go_callS td_X12_pass 14 rfl (q := 25) rfl (XkB E) lk_X12_248 (ok_fB_M_isIn E a4 0 (x2.1 - 1) x2.2) ⟨rfl, rfl, Nat.le_of_ble_eq_true rfl, Nat.le_of_ble_eq_true rfl⟩ rfl rfl (Nat.le_of_ble_eq_true rfl) (fun x3 => ?_)
    show Go (wCB E) _ _ x2.2 25 _ [.int x3] _
    refine go_if_ne 30 td_X12_pass 15 rfl rfl (q := 28) rfl (fun _ => ?_) (fun _ => ?_)
    · refine go_iconst td_X12_pass 18 rfl (q := 31) rfl kc_0 ?_
      refine go_istore [(6, .int 0), (0, .ref (E.1 0)), (1, .int a1), (2, .int a2), (3, .int a3), (4, .int a4), (5, .int a5)] td_X12_pass 19 rfl (q := 33) rfl (Nat.le_of_ble_eq_true rfl) rfl ?_
      refine go_iconst td_X12_pass 20 rfl (q := 34) rfl kc_0 ?_
      refine go_istore [(7, .int 0), (6, .int 0), (0, .ref (E.1 0)), (1, .int a1), (2, .int a2), (3, .int a3), (4, .int a4), (5, .int a5)] td_X12_pass 21 rfl (q := 36) rfl (Nat.le_of_ble_eq_true rfl) rfl ?_
      refine go_iconst td_X12_pass 22 rfl (q := 37) rfl kc_0 ?_
      refine go_istore [(8, .int 0), (7, .int 0), (6, .int 0), (0, .ref (E.1 0)), (1, .int a1), (2, .int a2), (3, .int a3), (4, .int a4), (5, .int a5)] td_X12_pass 23 rfl (q := 39) rfl (Nat.le_of_ble_eq_true rfl) rfl ?_
      refine go_pick [3, 4, 5, 6, 7, 8, 2, 1, 0] (lv' := [(0, .ref (E.1 0)), (1, .int a1), (2, .int a2), (3, .int a3), (4, .int a4), (5, .int a5), (6, .int 0), (7, .int 0), (8, .int 0)]) rfl ?_
      refine (show ∀ (u4_0 : Int32) (u4_1 : Int32) (u4_2 : Int32) (u4_3 : G), Go (wCB E) _ _ u4_3 39 [(0, .ref (E.1 0)), (1, .int a1), (2, .int a2), (3, .int a3), (4, .int a4), (5, .int a5), (6, .int u4_0), (7, .int u4_1), (8, .int u4_2)] [] (Lp (α := Int32 × Int32 × Int32 × G) _ FU (u4_0, u4_1, u4_2, u4_3)) from ?_) 0 0 0 x2.2
      intro u4_0 u4_1 u4_2 u4_3
      refine go_Lp (α := Int32 × Int32 × Int32 × G) (fun s4 => s4.2.2.2) (fun s4 => [(0, .ref (E.1 0)), (1, .int a1), (2, .int a2), (3, .int a3), (4, .int a4), (5, .int a5), (6, .int s4.1), (7, .int s4.2.1), (8, .int s4.2.2.1)]) ?_ FU (u4_0, u4_1, u4_2, u4_3)
      intro rec4 hrec4 s4
      have krec4 : ∀ (u4_0 : Int32) (u4_1 : Int32) (u4_2 : Int32) (u4_3 : G), Go (wCB E) _ _ u4_3 39 [(0, .ref (E.1 0)), (1, .int a1), (2, .int a2), (3, .int a3), (4, .int a4), (5, .int a5), (6, .int u4_0), (7, .int u4_1), (8, .int u4_2)] [] (rec4 (u4_0, u4_1, u4_2, u4_3)) := fun u4_0 u4_1 u4_2 u4_3 => hrec4 (u4_0, u4_1, u4_2, u4_3)
      refine go_iload td_X12_pass 24 rfl (q := 41) rfl 8 rfl ?_
      refine go_iload td_X12_pass 25 rfl (q := 43) rfl 4 rfl ?_
      refine go_icmp_gt 88 td_X12_pass 26 rfl rfl (q := 46) rfl (fun _ => ?_) (fun _ => ?_)
      · refine go_iload td_X12_pass 51 rfl (q := 90) rfl 5 rfl ?_
        refine go_if_ne 100 td_X12_pass 52 rfl rfl (q := 93) rfl (fun _ => ?_) (fun _ => ?_)
        · refine go_iload td_X12_pass 56 rfl (q := 102) rfl 5 rfl ?_
          refine go_iconst td_X12_pass 57 rfl (q := 103) rfl kc_1 ?_
          refine go_icmp_ne 113 td_X12_pass 58 rfl rfl (q := 106) rfl (fun _ => ?_) (fun _ => ?_)
          · refine go_aload_n td_X12_pass 62 rfl (q := 114) rfl 0 rfl ?_
            refine go_get td_X12_pass 63 rfl (q := 117) rfl fl_X12_172 (Bc_0 E s4.2.2.2) rfl ?_
            exact go_iret td_X12_pass 64 rfl rfl rfl
          · refine go_aload_n td_X12_pass 59 rfl (q := 107) rfl 0 rfl ?_
            refine go_get td_X12_pass 60 rfl (q := 110) rfl fl_X12_169 (Bc_0 E s4.2.2.2) rfl ?_
            refine go_goto td_X12_pass 61 rfl (q := 117) rfl ?_
            exact go_iret td_X12_pass 64 rfl rfl rfl
        · refine go_aload_n td_X12_pass 53 rfl (q := 94) rfl 0 rfl ?_
          refine go_get td_X12_pass 54 rfl (q := 97) rfl fl_X12_166 (Bc_0 E s4.2.2.2) rfl ?_
          refine go_goto td_X12_pass 55 rfl (q := 117) rfl ?_
          exact go_iret td_X12_pass 64 rfl rfl rfl
      · refine go_aload_n td_X12_pass 27 rfl (q := 47) rfl 0 rfl ?_
        refine go_aload_n td_X12_pass 28 rfl (q := 48) rfl 0 rfl ?_
        refine go_get td_X12_pass 29 rfl (q := 51) rfl fl_X12_13 (Bc_0 E s4.2.2.2) rfl ?_
        refine go_iload_n td_X12_pass 30 rfl (q := 52) rfl 2 rfl ?_
        refine go_imul td_X12_pass 31 rfl (q := 53) rfl ?_
        refine go_iload_n td_X12_pass 32 rfl (q := 54) rfl 1 rfl ?_
        refine go_iadd td_X12_pass 33 rfl (q := 55) rfl ?_
        refine go_iload_n td_X12_pass 34 rfl (q := 56) rfl 3 rfl ?_
        refine go_iload td_X12_pass 35 rfl (q := 58) rfl 6 rfl ?_
        refine go_iload td_X12_pass 36 rfl (q := 60) rfl 7 rfl ?_
        refine go_callV td_X12_pass 37 rfl (q := 63) rfl (XkB E) lk_X12_377 (ok_fB_M_findsPass E (((s4.2.2.2.1 1) * a2) + a1) a3 s4.1 s4.2.1 s4.2.2.2) ⟨rfl, rfl, Nat.le_of_ble_eq_true rfl, Nat.le_of_ble_eq_true rfl⟩ rfl rfl (Nat.le_of_ble_eq_true rfl) (Bc_0 E s4.2.2.2) rfl (fun x5 => ?_)
        show Go (wCB E) _ _ x5.2 63 _ [.int x5.1] _
        refine go_if_ne 68 td_X12_pass 38 rfl rfl (q := 66) rfl (fun _ => ?_) (fun _ => ?_)
        · refine go_aload_n td_X12_pass 41 rfl (q := 69) rfl 0 rfl ?_
          refine go_get td_X12_pass 42 rfl (q := 72) rfl fl_X12_166 (Bc_0 E x5.2) rfl ?_
          refine go_bvi (fun x6 => ?_)
          refine go_istore [(6, .int x6), (0, .ref (E.1 0)), (1, .int a1), (2, .int a2), (3, .int a3), (4, .int a4), (5, .int a5), (7, .int s4.2.1), (8, .int s4.2.2.1)] td_X12_pass 43 rfl (q := 74) rfl (Nat.le_of_ble_eq_true rfl) rfl ?_
          refine go_aload_n td_X12_pass 44 rfl (q := 75) rfl 1 rfl ?_
          refine go_get td_X12_pass 45 rfl (q := 78) rfl fl_X12_172 (Bc_0 E x5.2) rfl ?_
          refine go_iconst td_X12_pass 46 rfl (q := 79) rfl kc_1 ?_
          refine go_iadd td_X12_pass 47 rfl (q := 80) rfl ?_
          refine go_bvi (fun x7 => ?_)
          refine go_istore [(7, .int x7), (6, .int x6), (0, .ref (E.1 0)), (1, .int a1), (2, .int a2), (3, .int a3), (4, .int a4), (5, .int a5), (8, .int s4.2.2.1)] td_X12_pass 48 rfl (q := 82) rfl (Nat.le_of_ble_eq_true rfl) rfl ?_
          refine go_iinc [(8, .int (s4.2.2.1 + 1)), (7, .int x7), (6, .int x6), (0, .ref (E.1 0)), (1, .int a1), (2, .int a2), (3, .int a3), (4, .int a4), (5, .int a5)] td_X12_pass 49 rfl (q := 85) rfl 8 rfl kc_1 (Nat.le_of_ble_eq_true rfl) rfl ?_
          refine go_goto td_X12_pass 50 rfl (q := 39) rfl ?_
          refine go_pick [3, 4, 5, 6, 7, 8, 2, 1, 0] (lv' := [(0, .ref (E.1 0)), (1, .int a1), (2, .int a2), (3, .int a3), (4, .int a4), (5, .int a5), (6, .int x6), (7, .int x7), (8, .int (s4.2.2.1 + 1))]) rfl ?_
          exact krec4 x6 x7 (s4.2.2.1 + 1) x5.2
        · refine go_iconst td_X12_pass 39 rfl (q := 67) rfl kc_m1 ?_
          exact go_iret td_X12_pass 40 rfl rfl rfl
    · refine go_iconst td_X12_pass 16 rfl (q := 29) rfl kc_m1 ?_
      exact go_iret td_X12_pass 17 rfl rfl rfl
def fB_M_gaps (a1 : Int32) (a2 : Int32) (g : G) : Option (Int32 × G) := Option.bind (fB_M_isCell a1 a2 g) fun x1 => (if x1 = 0 then some ((-1), g) else Option.bind (fB_M_laysSets g) fun x2 => Option.bind (fB_M_upSet x2) fun x3 => Option.bind (fB_M_laysStretches (((x2.1 1) * a2) + a1) x3 0 x2) fun x4 => some (x4.1 50, x4))
set_option maxRecDepth 20000 in
set_option maxHeartbeats 4000000 in
theorem ok_fB_M_gaps (E : Ev) (a1 : Int32) (a2 : Int32) (g : G)  : Ct (wCB E) yX12_gaps mi_X12_gaps [.ref (E.1 0), .int a1, .int a2] (fun r => (some (.int r.1), r.2)) g (fB_M_gaps a1 a2 g) := by
  refine go_enter rfl rfl (Nat.le_of_ble_eq_true rfl) (lv := [(0, .ref (E.1 0)), (1, .int a1), (2, .int a2)]) rfl ?_
  unfold fB_M_gaps
  refine go_aload_n td_X12_gaps 0 rfl (q := 1) rfl 0 rfl ?_
  refine go_iload_n td_X12_gaps 1 rfl (q := 2) rfl 1 rfl ?_
  refine go_iload_n td_X12_gaps 2 rfl (q := 3) rfl 2 rfl ?_
  refine go_callV td_X12_gaps 3 rfl (q := 6) rfl (XkB E) lk_X12_365 (ok_fB_M_isCell E a1 a2 g) ⟨rfl, rfl, Nat.le_of_ble_eq_true rfl, Nat.le_of_ble_eq_true rfl⟩ rfl rfl (Nat.le_of_ble_eq_true rfl) (Bc_0 E g) rfl (fun x1 => ?_)
  show Go (wCB E) _ _ g 6 _ [.int x1] _
  refine go_if_ne 11 td_X12_gaps 4 rfl rfl (q := 9) rfl (fun _ => ?_) (fun _ => ?_)
  · refine go_aload_n td_X12_gaps 7 rfl (q := 12) rfl 0 rfl ?_
    refine go_callV td_X12_gaps 8 rfl (q := 15) rfl (XkB E) lk_X12_356 (ok_fB_M_laysSets E g) ⟨rfl, rfl, Nat.le_of_ble_eq_true rfl, Nat.le_of_ble_eq_true rfl⟩ rfl rfl (Nat.le_of_ble_eq_true rfl) (Bc_0 E g) rfl (fun x2 => ?_)
    show Go (wCB E) _ _ x2 15 _ [] _
    refine go_aload_n td_X12_gaps 9 rfl (q := 16) rfl 0 rfl ?_
    refine go_aload_n td_X12_gaps 10 rfl (q := 17) rfl 0 rfl ?_
    refine go_get td_X12_gaps 11 rfl (q := 20) rfl fl_X12_13 (Bc_0 E x2) rfl ?_
    refine go_iload_n td_X12_gaps 12 rfl (q := 21) rfl 2 rfl ?_
    refine go_imul td_X12_gaps 13 rfl (q := 22) rfl ?_
    refine go_iload_n td_X12_gaps 14 rfl (q := 23) rfl 1 rfl ?_
    refine go_iadd td_X12_gaps 15 rfl (q := 24) rfl ?_
    refine go_aload_n td_X12_gaps 16 rfl (q := 25) rfl 0 rfl ?_
    refine go_callV td_X12_gaps 17 rfl (q := 28) rfl (XkB E) lk_X12_359 (ok_fB_M_upSet E x2) ⟨rfl, rfl, Nat.le_of_ble_eq_true rfl, Nat.le_of_ble_eq_true rfl⟩ rfl rfl (Nat.le_of_ble_eq_true rfl) (Bc_0 E x2) rfl (fun x3 => ?_)
    show Go (wCB E) _ _ x2 28 _ [.int x3, .int (((x2.1 1) * a2) + a1), .ref (E.1 0)] _
    refine go_iconst td_X12_gaps 18 rfl (q := 29) rfl kc_0 ?_
    refine go_callV td_X12_gaps 19 rfl (q := 32) rfl (XkB E) lk_X12_330 (ok_fB_M_laysStretches E (((x2.1 1) * a2) + a1) x3 0 x2) ⟨rfl, rfl, Nat.le_of_ble_eq_true rfl, Nat.le_of_ble_eq_true rfl⟩ rfl rfl (Nat.le_of_ble_eq_true rfl) (Bc_0 E x2) rfl (fun x4 => ?_)
    show Go (wCB E) _ _ x4 32 _ [] _
    refine go_aload_n td_X12_gaps 20 rfl (q := 33) rfl 0 rfl ?_
    refine go_get td_X12_gaps 21 rfl (q := 36) rfl fl_X12_163 (Bc_0 E x4) rfl ?_
    exact go_iret td_X12_gaps 22 rfl rfl rfl
  · refine go_iconst td_X12_gaps 5 rfl (q := 10) rfl kc_m1 ?_
    exact go_iret td_X12_gaps 6 rfl rfl rfl
def fB_M_gap (a1 : Int32) (a2 : Int32) (a3 : Int32) (a4 : Int32) (g : G) : Option (Int32 × G) := Option.bind (fB_M_isIn a4 0 1 g) fun x1 => (if x1 = 0 then some ((-1), g) else Option.bind (fB_M_gaps a1 a2 g) fun x2 => Option.bind (fB_M_isIn a3 0 (x2.1 - 1) x2.2) fun x3 => (if x3 = 0 then some ((-1), x2.2) else (if a4 = 0 then ag 240 (x2.2.2.1 23) a3 fun x5 => some (x5, x2.2) else ag 240 (x2.2.2.1 24) a3 fun x4 => some (x4, x2.2))))
set_option maxRecDepth 20000 in
set_option maxHeartbeats 4000000 in
theorem ok_fB_M_gap (E : Ev) (a1 : Int32) (a2 : Int32) (a3 : Int32) (a4 : Int32) (g : G)  : Ct (wCB E) yX12_gap mi_X12_gap [.ref (E.1 0), .int a1, .int a2, .int a3, .int a4] (fun r => (some (.int r.1), r.2)) g (fB_M_gap a1 a2 a3 a4 g) := by
  refine go_enter rfl rfl (Nat.le_of_ble_eq_true rfl) (lv := [(0, .ref (E.1 0)), (1, .int a1), (2, .int a2), (3, .int a3), (4, .int a4)]) rfl ?_
  unfold fB_M_gap
  refine go_iload td_X12_gap 0 rfl (q := 2) rfl 4 rfl ?_
  refine go_iconst td_X12_gap 1 rfl (q := 3) rfl kc_0 ?_
  refine go_iconst td_X12_gap 2 rfl (q := 4) rfl kc_1 ?_
  refine go_callS td_X12_gap 3 rfl (q := 7) rfl (XkB E) lk_X12_248 (ok_fB_M_isIn E a4 0 1 g) ⟨rfl, rfl, Nat.le_of_ble_eq_true rfl, Nat.le_of_ble_eq_true rfl⟩ rfl rfl (Nat.le_of_ble_eq_true rfl) (fun x1 => ?_)
  show Go (wCB E) _ _ g 7 _ [.int x1] _
  refine go_if_eq 26 td_X12_gap 4 rfl rfl (q := 10) rfl (fun _ => ?_) (fun _ => ?_)
  · refine go_iconst td_X12_gap 15 rfl (q := 27) rfl kc_m1 ?_
    exact go_iret td_X12_gap 16 rfl rfl rfl
  · refine go_iload_n td_X12_gap 5 rfl (q := 11) rfl 3 rfl ?_
    refine go_iconst td_X12_gap 6 rfl (q := 12) rfl kc_0 ?_
    refine go_aload_n td_X12_gap 7 rfl (q := 13) rfl 0 rfl ?_
    refine go_iload_n td_X12_gap 8 rfl (q := 14) rfl 1 rfl ?_
    refine go_iload_n td_X12_gap 9 rfl (q := 15) rfl 2 rfl ?_
    refine go_callV td_X12_gap 10 rfl (q := 18) rfl (XkB E) lk_X12_380 (ok_fB_M_gaps E a1 a2 g) ⟨rfl, rfl, Nat.le_of_ble_eq_true rfl, Nat.le_of_ble_eq_true rfl⟩ rfl rfl (Nat.le_of_ble_eq_true rfl) (Bc_0 E g) rfl (fun x2 => ?_)
    show Go (wCB E) _ _ x2.2 18 _ [.int x2.1, .int 0, .int a3] _
    refine go_iconst td_X12_gap 11 rfl (q := 19) rfl kc_1 ?_
    refine go_isub td_X12_gap 12 rfl (q := 20) rfl ?_
    refine go_callS td_X12_gap 13 rfl (q := 23) rfl (XkB E) lk_X12_248 (ok_fB_M_isIn E a3 0 (x2.1 - 1) x2.2) ⟨rfl, rfl, Nat.le_of_ble_eq_true rfl, Nat.le_of_ble_eq_true rfl⟩ rfl rfl (Nat.le_of_ble_eq_true rfl) (fun x3 => ?_)
    show Go (wCB E) _ _ x2.2 23 _ [.int x3] _
    refine go_if_ne 28 td_X12_gap 14 rfl rfl (q := 26) rfl (fun _ => ?_) (fun _ => ?_)
    · refine go_iload td_X12_gap 17 rfl (q := 30) rfl 4 rfl ?_
      refine go_if_ne 42 td_X12_gap 18 rfl rfl (q := 33) rfl (fun _ => ?_) (fun _ => ?_)
      · refine go_aload_n td_X12_gap 24 rfl (q := 43) rfl 0 rfl ?_
        refine go_get td_X12_gap 25 rfl (q := 46) rfl fl_X12_160 (Bc_0 E x2.2) rfl ?_
        refine go_iload_n td_X12_gap 26 rfl (q := 47) rfl 3 rfl ?_
        refine go_ald td_X12_gap 27 rfl (q := 48) rfl (Bc_24 E x2.2) (t0 := 0) rfl (fun x4 => ?_)
        exact go_iret td_X12_gap 28 rfl rfl rfl
      · refine go_aload_n td_X12_gap 19 rfl (q := 34) rfl 0 rfl ?_
        refine go_get td_X12_gap 20 rfl (q := 37) rfl fl_X12_157 (Bc_0 E x2.2) rfl ?_
        refine go_iload_n td_X12_gap 21 rfl (q := 38) rfl 3 rfl ?_
        refine go_ald td_X12_gap 22 rfl (q := 39) rfl (Bc_23 E x2.2) (t0 := 0) rfl (fun x5 => ?_)
        refine go_goto td_X12_gap 23 rfl (q := 48) rfl ?_
        exact go_iret td_X12_gap 28 rfl rfl rfl
    · refine go_iconst td_X12_gap 15 rfl (q := 27) rfl kc_m1 ?_
      exact go_iret td_X12_gap 16 rfl rfl rfl
def fB_M_greater (a1 : Int32) (a2 : Int32) (g : G) : Option (Int32) := (if a1 ≤ a2 then some a2 else some a1)
set_option maxRecDepth 20000 in
set_option maxHeartbeats 4000000 in
theorem ok_fB_M_greater (E : Ev) (a1 : Int32) (a2 : Int32) (g : G)  : Ct (wCB E) yX12_greater mi_X12_greater [.int a1, .int a2] (fun r => (some (.int r), g)) g (fB_M_greater a1 a2 g) := by
  refine go_enter rfl rfl (Nat.le_of_ble_eq_true rfl) (lv := [(0, .int a1), (1, .int a2)]) rfl ?_
  unfold fB_M_greater
  refine go_iload_n td_X12_greater 0 rfl (q := 1) rfl 0 rfl ?_
  refine go_iload_n td_X12_greater 1 rfl (q := 2) rfl 1 rfl ?_
  refine go_icmp_le 9 td_X12_greater 2 rfl rfl (q := 5) rfl (fun _ => ?_) (fun _ => ?_)
  · refine go_iload_n td_X12_greater 5 rfl (q := 10) rfl 1 rfl ?_
    exact go_iret td_X12_greater 6 rfl rfl rfl
  · refine go_iload_n td_X12_greater 3 rfl (q := 6) rfl 0 rfl ?_
    refine go_goto td_X12_greater 4 rfl (q := 10) rfl ?_
    exact go_iret td_X12_greater 6 rfl rfl rfl
def fB_M_greatestOf (a1 : Int32) (a2 : Int32) (g : G) : Option (Int32 × G) := Option.bind (fB_M_laysStretches a1 a2 0 g) fun x1 => Lp (α := Int32 × Int32) (fun rec2 s2 => (if (x1.1 50) ≤ s2.2 then some (s2.1, x1) else ag 240 (x1.2.1 24) s2.2 fun x3 => Option.bind (fB_M_greater s2.1 x3 x1) fun x4 => rec2 (x4, s2.2 + 1))) FU (0, 0)
set_option maxRecDepth 20000 in
set_option maxHeartbeats 4000000 in
theorem ok_fB_M_greatestOf (E : Ev) (a1 : Int32) (a2 : Int32) (g : G)  : Ct (wCB E) yX12_greatestOf mi_X12_greatestOf [.ref (E.1 0), .int a1, .int a2] (fun r => (some (.int r.1), r.2)) g (fB_M_greatestOf a1 a2 g) := by
  refine go_enter rfl rfl (Nat.le_of_ble_eq_true rfl) (lv := [(0, .ref (E.1 0)), (1, .int a1), (2, .int a2)]) rfl ?_
  unfold fB_M_greatestOf
  refine go_aload_n td_X12_greatestOf 0 rfl (q := 1) rfl 0 rfl ?_
  refine go_iload_n td_X12_greatestOf 1 rfl (q := 2) rfl 1 rfl ?_
  refine go_iload_n td_X12_greatestOf 2 rfl (q := 3) rfl 2 rfl ?_
  refine go_iconst td_X12_greatestOf 3 rfl (q := 4) rfl kc_0 ?_
  refine go_callV td_X12_greatestOf 4 rfl (q := 7) rfl (XkB E) lk_X12_330 (ok_fB_M_laysStretches E a1 a2 0 g) ⟨rfl, rfl, Nat.le_of_ble_eq_true rfl, Nat.le_of_ble_eq_true rfl⟩ rfl rfl (Nat.le_of_ble_eq_true rfl) (Bc_0 E g) rfl (fun x1 => ?_)
  show Go (wCB E) _ _ x1 7 _ [] _
  refine go_iconst td_X12_greatestOf 5 rfl (q := 8) rfl kc_0 ?_
  refine go_istore_n [(3, .int 0), (0, .ref (E.1 0)), (1, .int a1), (2, .int a2)] td_X12_greatestOf 6 rfl (q := 9) rfl (Nat.le_of_ble_eq_true rfl) rfl ?_
  refine go_iconst td_X12_greatestOf 7 rfl (q := 10) rfl kc_0 ?_
  refine go_istore [(4, .int 0), (3, .int 0), (0, .ref (E.1 0)), (1, .int a1), (2, .int a2)] td_X12_greatestOf 8 rfl (q := 12) rfl (Nat.le_of_ble_eq_true rfl) rfl ?_
  refine go_pick [2, 1, 0] (lv' := [(0, .ref (E.1 0)), (3, .int 0), (4, .int 0)]) rfl ?_
  refine (show ∀ (u2_0 : Int32) (u2_1 : Int32), Go (wCB E) _ _ x1 12 [(0, .ref (E.1 0)), (3, .int u2_0), (4, .int u2_1)] [] (Lp (α := Int32 × Int32) _ FU (u2_0, u2_1)) from ?_) 0 0
  intro u2_0 u2_1
  refine go_Lp (α := Int32 × Int32) (fun s2 => x1) (fun s2 => [(0, .ref (E.1 0)), (3, .int s2.1), (4, .int s2.2)]) ?_ FU (u2_0, u2_1)
  intro rec2 hrec2 s2
  have krec2 : ∀ (u2_0 : Int32) (u2_1 : Int32), Go (wCB E) _ _ x1 12 [(0, .ref (E.1 0)), (3, .int u2_0), (4, .int u2_1)] [] (rec2 (u2_0, u2_1)) := fun u2_0 u2_1 => hrec2 (u2_0, u2_1)
  refine go_iload td_X12_greatestOf 9 rfl (q := 14) rfl 2 rfl ?_
  refine go_aload_n td_X12_greatestOf 10 rfl (q := 15) rfl 0 rfl ?_
  refine go_get td_X12_greatestOf 11 rfl (q := 18) rfl fl_X12_163 (Bc_0 E x1) rfl ?_
  refine go_icmp_ge 39 td_X12_greatestOf 12 rfl rfl (q := 21) rfl (fun _ => ?_) (fun _ => ?_)
  · refine go_iload_n td_X12_greatestOf 22 rfl (q := 40) rfl 1 rfl ?_
    exact go_iret td_X12_greatestOf 23 rfl rfl rfl
  · refine go_iload_n td_X12_greatestOf 13 rfl (q := 22) rfl 1 rfl ?_
    refine go_aload_n td_X12_greatestOf 14 rfl (q := 23) rfl 0 rfl ?_
    refine go_get td_X12_greatestOf 15 rfl (q := 26) rfl fl_X12_160 (Bc_0 E x1) rfl ?_
    refine go_iload td_X12_greatestOf 16 rfl (q := 28) rfl 2 rfl ?_
    refine go_ald td_X12_greatestOf 17 rfl (q := 29) rfl (Bc_24 E x1) (t0 := 0) rfl (fun x3 => ?_)
    refine go_callS td_X12_greatestOf 18 rfl (q := 32) rfl (XkB E) lk_X12_334 (ok_fB_M_greater E s2.1 x3 x1) ⟨rfl, rfl, Nat.le_of_ble_eq_true rfl, Nat.le_of_ble_eq_true rfl⟩ rfl rfl (Nat.le_of_ble_eq_true rfl) (fun x4 => ?_)
    show Go (wCB E) _ _ x1 32 _ [.int x4] _
    refine go_istore_n [(3, .int x4), (0, .ref (E.1 0)), (4, .int s2.2)] td_X12_greatestOf 19 rfl (q := 33) rfl (Nat.le_of_ble_eq_true rfl) rfl ?_
    refine go_iinc [(4, .int (s2.2 + 1)), (3, .int x4), (0, .ref (E.1 0))] td_X12_greatestOf 20 rfl (q := 36) rfl 2 rfl kc_1 (Nat.le_of_ble_eq_true rfl) rfl ?_
    refine go_goto td_X12_greatestOf 21 rfl (q := 12) rfl ?_
    refine go_pick [2, 1, 0] (lv' := [(0, .ref (E.1 0)), (3, .int x4), (4, .int (s2.2 + 1))]) rfl ?_
    exact krec2 x4 (s2.2 + 1)
def fB_M_greatest (a1 : Int32) (a2 : Int32) (g : G) : Option (Int32 × G) := Option.bind (fB_M_isCell a1 a2 g) fun x1 => (if x1 = 0 then some ((-1), g) else Option.bind (fB_M_laysSets g) fun x2 => Option.bind (fB_M_upSet x2) fun x3 => Option.bind (fB_M_greatestOf (((x2.1 1) * a2) + a1) x3 x2) fun x4 => some (x4.1, x4.2))
set_option maxRecDepth 20000 in
set_option maxHeartbeats 4000000 in
theorem ok_fB_M_greatest (E : Ev) (a1 : Int32) (a2 : Int32) (g : G)  : Ct (wCB E) yX12_greatest mi_X12_greatest [.ref (E.1 0), .int a1, .int a2] (fun r => (some (.int r.1), r.2)) g (fB_M_greatest a1 a2 g) := by
  refine go_enter rfl rfl (Nat.le_of_ble_eq_true rfl) (lv := [(0, .ref (E.1 0)), (1, .int a1), (2, .int a2)]) rfl ?_
  unfold fB_M_greatest
  refine go_aload_n td_X12_greatest 0 rfl (q := 1) rfl 0 rfl ?_
  refine go_iload_n td_X12_greatest 1 rfl (q := 2) rfl 1 rfl ?_
  refine go_iload_n td_X12_greatest 2 rfl (q := 3) rfl 2 rfl ?_
  refine go_callV td_X12_greatest 3 rfl (q := 6) rfl (XkB E) lk_X12_365 (ok_fB_M_isCell E a1 a2 g) ⟨rfl, rfl, Nat.le_of_ble_eq_true rfl, Nat.le_of_ble_eq_true rfl⟩ rfl rfl (Nat.le_of_ble_eq_true rfl) (Bc_0 E g) rfl (fun x1 => ?_)
  show Go (wCB E) _ _ g 6 _ [.int x1] _
  refine go_if_ne 11 td_X12_greatest 4 rfl rfl (q := 9) rfl (fun _ => ?_) (fun _ => ?_)
  · refine go_aload_n td_X12_greatest 7 rfl (q := 12) rfl 0 rfl ?_
    refine go_callV td_X12_greatest 8 rfl (q := 15) rfl (XkB E) lk_X12_356 (ok_fB_M_laysSets E g) ⟨rfl, rfl, Nat.le_of_ble_eq_true rfl, Nat.le_of_ble_eq_true rfl⟩ rfl rfl (Nat.le_of_ble_eq_true rfl) (Bc_0 E g) rfl (fun x2 => ?_)
    show Go (wCB E) _ _ x2 15 _ [] _
    refine go_aload_n td_X12_greatest 9 rfl (q := 16) rfl 0 rfl ?_
    refine go_aload_n td_X12_greatest 10 rfl (q := 17) rfl 0 rfl ?_
    refine go_get td_X12_greatest 11 rfl (q := 20) rfl fl_X12_13 (Bc_0 E x2) rfl ?_
    refine go_iload_n td_X12_greatest 12 rfl (q := 21) rfl 2 rfl ?_
    refine go_imul td_X12_greatest 13 rfl (q := 22) rfl ?_
    refine go_iload_n td_X12_greatest 14 rfl (q := 23) rfl 1 rfl ?_
    refine go_iadd td_X12_greatest 15 rfl (q := 24) rfl ?_
    refine go_aload_n td_X12_greatest 16 rfl (q := 25) rfl 0 rfl ?_
    refine go_callV td_X12_greatest 17 rfl (q := 28) rfl (XkB E) lk_X12_359 (ok_fB_M_upSet E x2) ⟨rfl, rfl, Nat.le_of_ble_eq_true rfl, Nat.le_of_ble_eq_true rfl⟩ rfl rfl (Nat.le_of_ble_eq_true rfl) (Bc_0 E x2) rfl (fun x3 => ?_)
    show Go (wCB E) _ _ x2 28 _ [.int x3, .int (((x2.1 1) * a2) + a1), .ref (E.1 0)] _
    refine go_callV td_X12_greatest 18 rfl (q := 31) rfl (XkB E) lk_X12_337 (ok_fB_M_greatestOf E (((x2.1 1) * a2) + a1) x3 x2) ⟨rfl, rfl, Nat.le_of_ble_eq_true rfl, Nat.le_of_ble_eq_true rfl⟩ rfl rfl (Nat.le_of_ble_eq_true rfl) (Bc_0 E x2) rfl (fun x4 => ?_)
    show Go (wCB E) _ _ x4.2 31 _ [.int x4.1] _
    exact go_iret td_X12_greatest 19 rfl rfl rfl
  · refine go_iconst td_X12_greatest 5 rfl (q := 10) rfl kc_m1 ?_
    exact go_iret td_X12_greatest 6 rfl rfl rfl
def fB_Double_isNaN (a1 : UInt64) (g : G) : Option (Int32) := (if (Op.cmpValue (FP.dcmp a1 a1) .l) = 0 then some 0 else some 1)
set_option maxRecDepth 20000 in
set_option maxHeartbeats 4000000 in
theorem ok_fB_Double_isNaN (E : Ev) (a1 : UInt64) (g : G)  : Ct (wCB E) yJxe99ae_isNaN_b9ae7 mi_Jxe99ae_isNaN_b9ae7 [.double a1] (fun r => (some (.int r), g)) g (fB_Double_isNaN a1 g) := by
  refine go_enterF (by decide +kernel) rfl (Nat.le_of_ble_eq_true rfl) (lv := [(0, .double a1)]) rfl ?_
  unfold fB_Double_isNaN
  refine go_dload_n td_Jxe99ae_isNaN_b9ae7 0 rfl (q := 1) rfl 0 rfl ?_
  refine go_dload_n td_Jxe99ae_isNaN_b9ae7 1 rfl (q := 2) rfl 0 rfl ?_
  refine go_dcmp td_Jxe99ae_isNaN_b9ae7 2 rfl (q := 3) rfl ?_
  refine go_if_eq 10 td_Jxe99ae_isNaN_b9ae7 3 rfl rfl (q := 6) rfl (fun _ => ?_) (fun _ => ?_)
  · refine go_iconst td_Jxe99ae_isNaN_b9ae7 6 rfl (q := 11) rfl kc_0 ?_
    exact go_zret td_Jxe99ae_isNaN_b9ae7 7 rfl rfl rfl rfl
  · refine go_iconst td_Jxe99ae_isNaN_b9ae7 4 rfl (q := 7) rfl kc_1 ?_
    refine go_goto td_Jxe99ae_isNaN_b9ae7 5 rfl (q := 11) rfl ?_
    exact go_zret td_Jxe99ae_isNaN_b9ae7 7 rfl rfl rfl rfl
def fB_Double_doubleToLongBits (a1 : UInt64) (g : G) : Option (Int64) := Option.bind (fB_Double_isNaN a1 g) fun x1 => (if x1 = 0 then some ((a1 : UInt64).toInt64) else some 9221120237041090560)
set_option maxRecDepth 20000 in
set_option maxHeartbeats 4000000 in
theorem ok_fB_Double_doubleToLongBits (E : Ev) (a1 : UInt64) (g : G)  : Ct (wCB E) yJxe99ae_doubleToLongBits_ccdee mi_Jxe99ae_doubleToLongBits_ccdee [.double a1] (fun r => (some (.long r), g)) g (fB_Double_doubleToLongBits a1 g) := by
  refine go_enterF (by decide +kernel) rfl (Nat.le_of_ble_eq_true rfl) (lv := [(0, .double a1)]) rfl ?_
  unfold fB_Double_doubleToLongBits
  refine go_dload_n td_Jxe99ae_doubleToLongBits_ccdee 0 rfl (q := 1) rfl 0 rfl ?_
  refine go_callS td_Jxe99ae_doubleToLongBits_ccdee 1 rfl (q := 4) rfl (XkB E) lk_Jxe99ae_122 (ok_fB_Double_isNaN E a1 g) ⟨rfl, rfl, Nat.le_of_ble_eq_true rfl, Nat.le_of_ble_eq_true rfl⟩ rfl rfl (Nat.le_of_ble_eq_true rfl) (fun x1 => ?_)
  show Go (wCB E) _ _ g 4 _ [.int x1] _
  refine go_if_ne 12 td_Jxe99ae_doubleToLongBits_ccdee 2 rfl rfl (q := 7) rfl (fun _ => ?_) (fun _ => ?_)
  · refine go_ldc2 td_Jxe99ae_doubleToLongBits_ccdee 6 rfl (q := 15) rfl cn_Jxe99ae_137 ?_
    exact go_lret td_Jxe99ae_doubleToLongBits_ccdee 7 rfl rfl rfl
  · refine go_dload_n td_Jxe99ae_doubleToLongBits_ccdee 3 rfl (q := 8) rfl 0 rfl ?_
    refine go_rawd2l td_Jxe99ae_doubleToLongBits_ccdee 4 rfl (q := 11) rfl lk_Jxe99ae_134 ⟨Nat.le_of_ble_eq_true rfl, Nat.le_of_ble_eq_true rfl⟩ ?_
    exact go_lret td_Jxe99ae_doubleToLongBits_ccdee 5 rfl rfl rfl
def fB_M_mean (a1 : Int32) (a2 : Int32) (g : G) : Option (Int64 × G) := Option.bind (fB_M_isCell a1 a2 g) fun x1 => (if x1 = 0 then some ((-1), g) else Option.bind (fB_M_gaps a1 a2 g) fun x2 => (if x2.1 = 0 then some ((-1), x2.2) else Lp (α := Int32 × Int32) (fun rec3 s3 => (if (x2.2.1 50) ≤ s3.2 then nd (FP.ddiv (FP.i2d s3.1) (FP.i2d (x2.2.1 50))) (Option.bind (fB_Double_doubleToLongBits (FP.ddiv (FP.i2d s3.1) (FP.i2d (x2.2.1 50))) x2.2) fun x4 => some (x4, x2.2)) else ag 240 (x2.2.2.1 24) s3.2 fun x5 => bv (s3.1 + x5) fun x6 => rec3 (x6, s3.2 + 1))) FU (0, 0)))
set_option maxRecDepth 20000 in
set_option maxHeartbeats 4000000 in
theorem ok_fB_M_mean (E : Ev) (a1 : Int32) (a2 : Int32) (g : G)  : Ct (wCB E) yX12_mean mi_X12_mean [.ref (E.1 0), .int a1, .int a2] (fun r => (some (.long r.1), r.2)) g (fB_M_mean a1 a2 g) := by
  refine go_enter rfl rfl (Nat.le_of_ble_eq_true rfl) (lv := [(0, .ref (E.1 0)), (1, .int a1), (2, .int a2)]) rfl ?_
  unfold fB_M_mean
  refine go_aload_n td_X12_mean 0 rfl (q := 1) rfl 0 rfl ?_
  refine go_iload_n td_X12_mean 1 rfl (q := 2) rfl 1 rfl ?_
  refine go_iload_n td_X12_mean 2 rfl (q := 3) rfl 2 rfl ?_
  refine go_callV td_X12_mean 3 rfl (q := 6) rfl (XkB E) lk_X12_365 (ok_fB_M_isCell E a1 a2 g) ⟨rfl, rfl, Nat.le_of_ble_eq_true rfl, Nat.le_of_ble_eq_true rfl⟩ rfl rfl (Nat.le_of_ble_eq_true rfl) (Bc_0 E g) rfl (fun x1 => ?_)
  show Go (wCB E) _ _ g 6 _ [.int x1] _
  refine go_if_eq 18 td_X12_mean 4 rfl rfl (q := 9) rfl (fun _ => ?_) (fun _ => ?_)
  · refine go_ldc2 td_X12_mean 10 rfl (q := 21) rfl cn_X12_383 ?_
    exact go_lret td_X12_mean 11 rfl rfl rfl
  · refine go_aload_n td_X12_mean 5 rfl (q := 10) rfl 0 rfl ?_
    refine go_iload_n td_X12_mean 6 rfl (q := 11) rfl 1 rfl ?_
    refine go_iload_n td_X12_mean 7 rfl (q := 12) rfl 2 rfl ?_
    refine go_callV td_X12_mean 8 rfl (q := 15) rfl (XkB E) lk_X12_380 (ok_fB_M_gaps E a1 a2 g) ⟨rfl, rfl, Nat.le_of_ble_eq_true rfl, Nat.le_of_ble_eq_true rfl⟩ rfl rfl (Nat.le_of_ble_eq_true rfl) (Bc_0 E g) rfl (fun x2 => ?_)
    show Go (wCB E) _ _ x2.2 15 _ [.int x2.1] _
    refine go_if_ne 22 td_X12_mean 9 rfl rfl (q := 18) rfl (fun _ => ?_) (fun _ => ?_)
    · refine go_iconst td_X12_mean 12 rfl (q := 23) rfl kc_0 ?_
      refine go_istore_n [(3, .int 0), (0, .ref (E.1 0)), (1, .int a1), (2, .int a2)] td_X12_mean 13 rfl (q := 24) rfl (Nat.le_of_ble_eq_true rfl) rfl ?_
      refine go_iconst td_X12_mean 14 rfl (q := 25) rfl kc_0 ?_
      refine go_istore [(4, .int 0), (3, .int 0), (0, .ref (E.1 0)), (1, .int a1), (2, .int a2)] td_X12_mean 15 rfl (q := 27) rfl (Nat.le_of_ble_eq_true rfl) rfl ?_
      refine go_pick [2, 1, 0] (lv' := [(0, .ref (E.1 0)), (3, .int 0), (4, .int 0)]) rfl ?_
      refine (show ∀ (u3_0 : Int32) (u3_1 : Int32), Go (wCB E) _ _ x2.2 27 [(0, .ref (E.1 0)), (3, .int u3_0), (4, .int u3_1)] [] (Lp (α := Int32 × Int32) _ FU (u3_0, u3_1)) from ?_) 0 0
      intro u3_0 u3_1
      refine go_Lp (α := Int32 × Int32) (fun s3 => x2.2) (fun s3 => [(0, .ref (E.1 0)), (3, .int s3.1), (4, .int s3.2)]) ?_ FU (u3_0, u3_1)
      intro rec3 hrec3 s3
      have krec3 : ∀ (u3_0 : Int32) (u3_1 : Int32), Go (wCB E) _ _ x2.2 27 [(0, .ref (E.1 0)), (3, .int u3_0), (4, .int u3_1)] [] (rec3 (u3_0, u3_1)) := fun u3_0 u3_1 => hrec3 (u3_0, u3_1)
      refine go_iload td_X12_mean 16 rfl (q := 29) rfl 2 rfl ?_
      refine go_aload_n td_X12_mean 17 rfl (q := 30) rfl 0 rfl ?_
      refine go_get td_X12_mean 18 rfl (q := 33) rfl fl_X12_163 (Bc_0 E x2.2) rfl ?_
      refine go_icmp_ge 52 td_X12_mean 19 rfl rfl (q := 36) rfl (fun _ => ?_) (fun _ => ?_)
      · refine go_iload_n td_X12_mean 29 rfl (q := 53) rfl 1 rfl ?_
        refine go_i2d td_X12_mean 30 rfl (q := 54) rfl ?_
        refine go_aload_n td_X12_mean 31 rfl (q := 55) rfl 0 rfl ?_
        refine go_get td_X12_mean 32 rfl (q := 58) rfl fl_X12_163 (Bc_0 E x2.2) rfl ?_
        refine go_i2d td_X12_mean 33 rfl (q := 59) rfl ?_
        refine go_ddiv td_X12_mean 34 rfl (q := 60) rfl ?_
        refine go_callS td_X12_mean 35 rfl (q := 63) rfl (XkB E) lk_X12_385 (ok_fB_Double_doubleToLongBits E (FP.ddiv (FP.i2d s3.1) (FP.i2d (x2.2.1 50))) x2.2) ⟨rfl, rfl, Nat.le_of_ble_eq_true rfl, Nat.le_of_ble_eq_true rfl⟩ rfl rfl (Nat.le_of_ble_eq_true rfl) (fun x4 => ?_)
        show Go (wCB E) _ _ x2.2 63 _ [.long x4] _
        exact go_lret td_X12_mean 36 rfl rfl rfl
      · refine go_iload_n td_X12_mean 20 rfl (q := 37) rfl 1 rfl ?_
        refine go_aload_n td_X12_mean 21 rfl (q := 38) rfl 0 rfl ?_
        refine go_get td_X12_mean 22 rfl (q := 41) rfl fl_X12_160 (Bc_0 E x2.2) rfl ?_
        refine go_iload td_X12_mean 23 rfl (q := 43) rfl 2 rfl ?_
        refine go_ald td_X12_mean 24 rfl (q := 44) rfl (Bc_24 E x2.2) (t0 := 0) rfl (fun x5 => ?_)
        refine go_iadd td_X12_mean 25 rfl (q := 45) rfl ?_
        refine go_bvi (fun x6 => ?_)
        refine go_istore_n [(3, .int x6), (0, .ref (E.1 0)), (4, .int s3.2)] td_X12_mean 26 rfl (q := 46) rfl (Nat.le_of_ble_eq_true rfl) rfl ?_
        refine go_iinc [(4, .int (s3.2 + 1)), (3, .int x6), (0, .ref (E.1 0))] td_X12_mean 27 rfl (q := 49) rfl 2 rfl kc_1 (Nat.le_of_ble_eq_true rfl) rfl ?_
        refine go_goto td_X12_mean 28 rfl (q := 27) rfl ?_
        refine go_pick [2, 1, 0] (lv' := [(0, .ref (E.1 0)), (3, .int x6), (4, .int (s3.2 + 1))]) rfl ?_
        exact krec3 x6 (s3.2 + 1)
    · refine go_ldc2 td_X12_mean 10 rfl (q := 21) rfl cn_X12_383 ?_
      exact go_lret td_X12_mean 11 rfl rfl rfl
def fB_M_coveredBy (a1 : Int32) (a2 : Int32) (g : G) : Option (Int32) := Lp (α := Int32 × Int32) (fun rec1 s1 => (if (g.1 8) ≤ s1.2 then some s1.1 else Option.bind (fB_M_isBy s1.2 a1 a2 g) fun x2 => lj (α := Int32) (fun b3 => bv (s1.1 + b3) fun x4 => rec1 (x4, s1.2 + 1)) fun J3 => (if x2 = 0 then J3 0 else J3 1))) FU (0, 0)
set_option maxRecDepth 20000 in
set_option maxHeartbeats 4000000 in
theorem ok_fB_M_coveredBy (E : Ev) (a1 : Int32) (a2 : Int32) (g : G)  : Ct (wCB E) yX12_coveredBy mi_X12_coveredBy [.ref (E.1 0), .int a1, .int a2] (fun r => (some (.int r), g)) g (fB_M_coveredBy a1 a2 g) := by
  refine go_enter rfl rfl (Nat.le_of_ble_eq_true rfl) (lv := [(0, .ref (E.1 0)), (1, .int a1), (2, .int a2)]) rfl ?_
  unfold fB_M_coveredBy
  refine go_iconst td_X12_coveredBy 0 rfl (q := 1) rfl kc_0 ?_
  refine go_istore_n [(3, .int 0), (0, .ref (E.1 0)), (1, .int a1), (2, .int a2)] td_X12_coveredBy 1 rfl (q := 2) rfl (Nat.le_of_ble_eq_true rfl) rfl ?_
  refine go_iconst td_X12_coveredBy 2 rfl (q := 3) rfl kc_0 ?_
  refine go_istore [(4, .int 0), (3, .int 0), (0, .ref (E.1 0)), (1, .int a1), (2, .int a2)] td_X12_coveredBy 3 rfl (q := 5) rfl (Nat.le_of_ble_eq_true rfl) rfl ?_
  refine go_pick [2, 3, 4, 1, 0] (lv' := [(0, .ref (E.1 0)), (1, .int a1), (2, .int a2), (3, .int 0), (4, .int 0)]) rfl ?_
  refine (show ∀ (u1_0 : Int32) (u1_1 : Int32), Go (wCB E) _ _ g 5 [(0, .ref (E.1 0)), (1, .int a1), (2, .int a2), (3, .int u1_0), (4, .int u1_1)] [] (Lp (α := Int32 × Int32) _ FU (u1_0, u1_1)) from ?_) 0 0
  intro u1_0 u1_1
  refine go_Lp (α := Int32 × Int32) (fun s1 => g) (fun s1 => [(0, .ref (E.1 0)), (1, .int a1), (2, .int a2), (3, .int s1.1), (4, .int s1.2)]) ?_ FU (u1_0, u1_1)
  intro rec1 hrec1 s1
  have krec1 : ∀ (u1_0 : Int32) (u1_1 : Int32), Go (wCB E) _ _ g 5 [(0, .ref (E.1 0)), (1, .int a1), (2, .int a2), (3, .int u1_0), (4, .int u1_1)] [] (rec1 (u1_0, u1_1)) := fun u1_0 u1_1 => hrec1 (u1_0, u1_1)
  refine go_iload td_X12_coveredBy 4 rfl (q := 7) rfl 4 rfl ?_
  refine go_aload_n td_X12_coveredBy 5 rfl (q := 8) rfl 0 rfl ?_
  refine go_get td_X12_coveredBy 6 rfl (q := 11) rfl fl_X12_35 (Bc_0 E g) rfl ?_
  refine go_icmp_ge 39 td_X12_coveredBy 7 rfl rfl (q := 14) rfl (fun _ => ?_) (fun _ => ?_)
  · refine go_iload_n td_X12_coveredBy 22 rfl (q := 40) rfl 3 rfl ?_
    exact go_iret td_X12_coveredBy 23 rfl rfl rfl
  · refine go_iload_n td_X12_coveredBy 8 rfl (q := 15) rfl 3 rfl ?_
    refine go_aload_n td_X12_coveredBy 9 rfl (q := 16) rfl 0 rfl ?_
    refine go_iload td_X12_coveredBy 10 rfl (q := 18) rfl 4 rfl ?_
    refine go_iload_n td_X12_coveredBy 11 rfl (q := 19) rfl 1 rfl ?_
    refine go_iload_n td_X12_coveredBy 12 rfl (q := 20) rfl 2 rfl ?_
    refine go_callV td_X12_coveredBy 13 rfl (q := 23) rfl (XkB E) lk_X12_327 (ok_fB_M_isBy E s1.2 a1 a2 g) ⟨rfl, rfl, Nat.le_of_ble_eq_true rfl, Nat.le_of_ble_eq_true rfl⟩ rfl rfl (Nat.le_of_ble_eq_true rfl) (Bc_0 E g) rfl (fun x2 => ?_)
    show Go (wCB E) _ _ g 23 _ [.int x2, .int s1.1] _
    refine go_ljX (α := Int32) (fun b3 => [(0, .ref (E.1 0)), (1, .int a1), (2, .int a2), (4, .int s1.2)]) (fun b3 => [.int b3, .int s1.1]) (fun b3 => g) 31 ?_ ?_
    · intro b3
      refine go_iadd td_X12_coveredBy 18 rfl (q := 32) rfl ?_
      refine go_bvi (fun x4 => ?_)
      refine go_istore_n [(3, .int x4), (0, .ref (E.1 0)), (1, .int a1), (2, .int a2), (4, .int s1.2)] td_X12_coveredBy 19 rfl (q := 33) rfl (Nat.le_of_ble_eq_true rfl) rfl ?_
      refine go_iinc [(4, .int (s1.2 + 1)), (3, .int x4), (0, .ref (E.1 0)), (1, .int a1), (2, .int a2)] td_X12_coveredBy 20 rfl (q := 36) rfl 4 rfl kc_1 (Nat.le_of_ble_eq_true rfl) rfl ?_
      refine go_goto td_X12_coveredBy 21 rfl (q := 5) rfl ?_
      refine go_pick [2, 3, 4, 1, 0] (lv' := [(0, .ref (E.1 0)), (1, .int a1), (2, .int a2), (3, .int x4), (4, .int (s1.2 + 1))]) rfl ?_
      exact krec1 x4 (s1.2 + 1)
    intro J3 hJ3
    have kJ3 : ∀ (u3_0 : Int32), Go (wCB E) _ _ g 31 [(0, .ref (E.1 0)), (1, .int a1), (2, .int a2), (4, .int s1.2)] [.int u3_0, .int s1.1] (J3 u3_0) := fun u3_0 => hJ3 u3_0
    refine go_if_eq 30 td_X12_coveredBy 14 rfl rfl (q := 26) rfl (fun _ => ?_) (fun _ => ?_)
    · refine go_iconst td_X12_coveredBy 17 rfl (q := 31) rfl kc_0 ?_
      refine go_pick [0, 1, 2, 4] (lv' := [(0, .ref (E.1 0)), (1, .int a1), (2, .int a2), (4, .int s1.2)]) rfl ?_
      exact kJ3 0
    · refine go_iconst td_X12_coveredBy 15 rfl (q := 27) rfl kc_1 ?_
      refine go_goto td_X12_coveredBy 16 rfl (q := 31) rfl ?_
      refine go_pick [0, 1, 2, 4] (lv' := [(0, .ref (E.1 0)), (1, .int a1), (2, .int a2), (4, .int s1.2)]) rfl ?_
      exact kJ3 1
def fB_M_covered (a1 : Int32) (g : G) : Option (Int32 × G) := (if (g.1 0) = 0 then some ((-1), g) else Option.bind (fB_M_isTick a1 g) fun x1 => (if x1 = 0 then some ((-1), g) else Option.bind (fB_M_laysSets g) fun x2 => Option.bind (fB_M_upSet x2) fun x3 => Option.bind (fB_M_coveredBy a1 x3 x2) fun x4 => some (x4, x2)))
set_option maxRecDepth 20000 in
set_option maxHeartbeats 4000000 in
theorem ok_fB_M_covered (E : Ev) (a1 : Int32) (g : G)  : Ct (wCB E) yX12_covered mi_X12_covered [.ref (E.1 0), .int a1] (fun r => (some (.int r.1), r.2)) g (fB_M_covered a1 g) := by
  refine go_enter rfl rfl (Nat.le_of_ble_eq_true rfl) (lv := [(0, .ref (E.1 0)), (1, .int a1)]) rfl ?_
  unfold fB_M_covered
  refine go_aload_n td_X12_covered 0 rfl (q := 1) rfl 0 rfl ?_
  refine go_get td_X12_covered 1 rfl (q := 4) rfl fl_X12_7 (Bc_0 E g) rfl ?_
  refine go_if_eq 14 td_X12_covered 2 rfl rfl (q := 7) rfl (fun _ => ?_) (fun _ => ?_)
  · refine go_iconst td_X12_covered 6 rfl (q := 15) rfl kc_m1 ?_
    exact go_iret td_X12_covered 7 rfl rfl rfl
  · refine go_iload_n td_X12_covered 3 rfl (q := 8) rfl 1 rfl ?_
    refine go_callS td_X12_covered 4 rfl (q := 11) rfl (XkB E) lk_X12_362 (ok_fB_M_isTick E a1 g) ⟨rfl, rfl, Nat.le_of_ble_eq_true rfl, Nat.le_of_ble_eq_true rfl⟩ rfl rfl (Nat.le_of_ble_eq_true rfl) (fun x1 => ?_)
    show Go (wCB E) _ _ g 11 _ [.int x1] _
    refine go_if_ne 16 td_X12_covered 5 rfl rfl (q := 14) rfl (fun _ => ?_) (fun _ => ?_)
    · refine go_aload_n td_X12_covered 8 rfl (q := 17) rfl 0 rfl ?_
      refine go_callV td_X12_covered 9 rfl (q := 20) rfl (XkB E) lk_X12_356 (ok_fB_M_laysSets E g) ⟨rfl, rfl, Nat.le_of_ble_eq_true rfl, Nat.le_of_ble_eq_true rfl⟩ rfl rfl (Nat.le_of_ble_eq_true rfl) (Bc_0 E g) rfl (fun x2 => ?_)
      show Go (wCB E) _ _ x2 20 _ [] _
      refine go_aload_n td_X12_covered 10 rfl (q := 21) rfl 0 rfl ?_
      refine go_iload_n td_X12_covered 11 rfl (q := 22) rfl 1 rfl ?_
      refine go_aload_n td_X12_covered 12 rfl (q := 23) rfl 0 rfl ?_
      refine go_callV td_X12_covered 13 rfl (q := 26) rfl (XkB E) lk_X12_359 (ok_fB_M_upSet E x2) ⟨rfl, rfl, Nat.le_of_ble_eq_true rfl, Nat.le_of_ble_eq_true rfl⟩ rfl rfl (Nat.le_of_ble_eq_true rfl) (Bc_0 E x2) rfl (fun x3 => ?_)
      show Go (wCB E) _ _ x2 26 _ [.int x3, .int a1, .ref (E.1 0)] _
      refine go_callV td_X12_covered 14 rfl (q := 29) rfl (XkB E) lk_X12_391 (ok_fB_M_coveredBy E a1 x3 x2) ⟨rfl, rfl, Nat.le_of_ble_eq_true rfl, Nat.le_of_ble_eq_true rfl⟩ rfl rfl (Nat.le_of_ble_eq_true rfl) (Bc_0 E x2) rfl (fun x4 => ?_)
      show Go (wCB E) _ _ x2 29 _ [.int x4] _
      exact go_iret td_X12_covered 15 rfl rfl rfl
    · refine go_iconst td_X12_covered 6 rfl (q := 15) rfl kc_m1 ?_
      exact go_iret td_X12_covered 7 rfl rfl rfl
def fB_M_coverBy (a1 : Int32) (a2 : Int32) (g : G) : Option (UInt32) := Lp (α := UInt32 × Int32) (fun rec1 s1 => (if (g.1 2) ≤ s1.2 then some s1.1 else Option.bind (fB_M_widthOf s1.2 g) fun x2 => nf (FP.fdiv (FP.i2f x2) (FP.i2f (g.1 9))) (bv (FP.fdiv (FP.i2f x2) (FP.i2f (g.1 9))) fun x3 => Lp (α := UInt32 × Int32) (fun rec4 s4 => (if (g.1 1) ≤ s4.2 then rec1 (s4.1, s1.2 + 1) else Option.bind (fB_M_isBy (((g.1 1) * s1.2) + s4.2) a1 a2 g) fun x5 => lj (α := UInt32) (fun b6 => rec4 (b6, s4.2 + 1)) fun J6 => (if x5 = 0 then J6 s4.1 else nf (FP.fadd s4.1 x3) (bv (FP.fadd s4.1 x3) fun x7 => J6 x7)))) FU (s1.1, 0)))) FU (FP.fconst0, 0)
set_option maxRecDepth 20000 in
set_option maxHeartbeats 4000000 in
theorem ok_fB_M_coverBy (E : Ev) (a1 : Int32) (a2 : Int32) (g : G)  : Ct (wCB E) yX12_coverBy mi_X12_coverBy [.ref (E.1 0), .int a1, .int a2] (fun r => (some (.float r), g)) g (fB_M_coverBy a1 a2 g) := by
  refine go_enter rfl rfl (Nat.le_of_ble_eq_true rfl) (lv := [(0, .ref (E.1 0)), (1, .int a1), (2, .int a2)]) rfl ?_
  unfold fB_M_coverBy
  refine go_fconst0 td_X12_coverBy 0 rfl (q := 1) rfl ?_
  refine go_fstore_n [(3, .float FP.fconst0), (0, .ref (E.1 0)), (1, .int a1), (2, .int a2)] td_X12_coverBy 1 rfl (q := 2) rfl (Nat.le_of_ble_eq_true rfl) rfl ?_
  refine go_iconst td_X12_coverBy 2 rfl (q := 3) rfl kc_0 ?_
  refine go_istore [(4, .int 0), (3, .float FP.fconst0), (0, .ref (E.1 0)), (1, .int a1), (2, .int a2)] td_X12_coverBy 3 rfl (q := 5) rfl (Nat.le_of_ble_eq_true rfl) rfl ?_
  refine go_pick [2, 3, 4, 1, 0] (lv' := [(0, .ref (E.1 0)), (1, .int a1), (2, .int a2), (3, .float FP.fconst0), (4, .int 0)]) rfl ?_
  refine (show ∀ (u1_0 : UInt32) (u1_1 : Int32), Go (wCB E) _ _ g 5 [(0, .ref (E.1 0)), (1, .int a1), (2, .int a2), (3, .float u1_0), (4, .int u1_1)] [] (Lp (α := UInt32 × Int32) _ FU (u1_0, u1_1)) from ?_) FP.fconst0 0
  intro u1_0 u1_1
  refine go_Lp (α := UInt32 × Int32) (fun s1 => g) (fun s1 => [(0, .ref (E.1 0)), (1, .int a1), (2, .int a2), (3, .float s1.1), (4, .int s1.2)]) ?_ FU (u1_0, u1_1)
  intro rec1 hrec1 s1
  have krec1 : ∀ (u1_0 : UInt32) (u1_1 : Int32), Go (wCB E) _ _ g 5 [(0, .ref (E.1 0)), (1, .int a1), (2, .int a2), (3, .float u1_0), (4, .int u1_1)] [] (rec1 (u1_0, u1_1)) := fun u1_0 u1_1 => hrec1 (u1_0, u1_1)
  refine go_iload td_X12_coverBy 4 rfl (q := 7) rfl 4 rfl ?_
  refine go_aload_n td_X12_coverBy 5 rfl (q := 8) rfl 0 rfl ?_
  refine go_get td_X12_coverBy 6 rfl (q := 11) rfl fl_X12_17 (Bc_0 E g) rfl ?_
  refine go_icmp_ge 77 td_X12_coverBy 7 rfl rfl (q := 14) rfl (fun _ => ?_) (fun _ => ?_)
  · refine go_fload_n td_X12_coverBy 42 rfl (q := 78) rfl 3 rfl ?_
    exact go_fret td_X12_coverBy 43 rfl rfl rfl
  · refine go_aload_n td_X12_coverBy 8 rfl (q := 15) rfl 0 rfl ?_
    refine go_iload td_X12_coverBy 9 rfl (q := 17) rfl 4 rfl ?_
    refine go_callV td_X12_coverBy 10 rfl (q := 20) rfl (XkB E) lk_X12_293 (ok_fB_M_widthOf E s1.2 g) ⟨rfl, rfl, Nat.le_of_ble_eq_true rfl, Nat.le_of_ble_eq_true rfl⟩ rfl rfl (Nat.le_of_ble_eq_true rfl) (Bc_0 E g) rfl (fun x2 => ?_)
    show Go (wCB E) _ _ g 20 _ [.int x2] _
    refine go_i2f td_X12_coverBy 11 rfl (q := 21) rfl ?_
    refine go_aload_n td_X12_coverBy 12 rfl (q := 22) rfl 0 rfl ?_
    refine go_get td_X12_coverBy 13 rfl (q := 25) rfl fl_X12_38 (Bc_0 E g) rfl ?_
    refine go_i2f td_X12_coverBy 14 rfl (q := 26) rfl ?_
    refine go_fdiv td_X12_coverBy 15 rfl (q := 27) rfl ?_
    refine go_bvf (fun x3 => ?_)
    refine go_fstore [(5, .float x3), (0, .ref (E.1 0)), (1, .int a1), (2, .int a2), (3, .float s1.1), (4, .int s1.2)] td_X12_coverBy 16 rfl (q := 29) rfl (Nat.le_of_ble_eq_true rfl) rfl ?_
    refine go_iconst td_X12_coverBy 17 rfl (q := 30) rfl kc_0 ?_
    refine go_istore [(6, .int 0), (5, .float x3), (0, .ref (E.1 0)), (1, .int a1), (2, .int a2), (3, .float s1.1), (4, .int s1.2)] td_X12_coverBy 18 rfl (q := 32) rfl (Nat.le_of_ble_eq_true rfl) rfl ?_
    refine go_pick [2, 3, 4, 5, 6, 1, 0] (lv' := [(0, .ref (E.1 0)), (1, .int a1), (2, .int a2), (3, .float s1.1), (4, .int s1.2), (5, .float x3), (6, .int 0)]) rfl ?_
    refine (show ∀ (u4_0 : UInt32) (u4_1 : Int32), Go (wCB E) _ _ g 32 [(0, .ref (E.1 0)), (1, .int a1), (2, .int a2), (3, .float u4_0), (4, .int s1.2), (5, .float x3), (6, .int u4_1)] [] (Lp (α := UInt32 × Int32) _ FU (u4_0, u4_1)) from ?_) s1.1 0
    intro u4_0 u4_1
    refine go_Lp (α := UInt32 × Int32) (fun s4 => g) (fun s4 => [(0, .ref (E.1 0)), (1, .int a1), (2, .int a2), (3, .float s4.1), (4, .int s1.2), (5, .float x3), (6, .int s4.2)]) ?_ FU (u4_0, u4_1)
    intro rec4 hrec4 s4
    have krec4 : ∀ (u4_0 : UInt32) (u4_1 : Int32), Go (wCB E) _ _ g 32 [(0, .ref (E.1 0)), (1, .int a1), (2, .int a2), (3, .float u4_0), (4, .int s1.2), (5, .float x3), (6, .int u4_1)] [] (rec4 (u4_0, u4_1)) := fun u4_0 u4_1 => hrec4 (u4_0, u4_1)
    refine go_iload td_X12_coverBy 19 rfl (q := 34) rfl 6 rfl ?_
    refine go_aload_n td_X12_coverBy 20 rfl (q := 35) rfl 0 rfl ?_
    refine go_get td_X12_coverBy 21 rfl (q := 38) rfl fl_X12_13 (Bc_0 E g) rfl ?_
    refine go_icmp_ge 71 td_X12_coverBy 22 rfl rfl (q := 41) rfl (fun _ => ?_) (fun _ => ?_)
    · refine go_iinc [(4, .int (s1.2 + 1)), (0, .ref (E.1 0)), (1, .int a1), (2, .int a2), (3, .float s4.1), (5, .float x3), (6, .int s4.2)] td_X12_coverBy 40 rfl (q := 74) rfl 4 rfl kc_1 (Nat.le_of_ble_eq_true rfl) rfl ?_
      refine go_goto td_X12_coverBy 41 rfl (q := 5) rfl ?_
      refine go_pick [1, 2, 3, 4, 0] (lv' := [(0, .ref (E.1 0)), (1, .int a1), (2, .int a2), (3, .float s4.1), (4, .int (s1.2 + 1))]) rfl ?_
      exact krec1 s4.1 (s1.2 + 1)
    · refine go_aload_n td_X12_coverBy 23 rfl (q := 42) rfl 0 rfl ?_
      refine go_aload_n td_X12_coverBy 24 rfl (q := 43) rfl 0 rfl ?_
      refine go_get td_X12_coverBy 25 rfl (q := 46) rfl fl_X12_13 (Bc_0 E g) rfl ?_
      refine go_iload td_X12_coverBy 26 rfl (q := 48) rfl 4 rfl ?_
      refine go_imul td_X12_coverBy 27 rfl (q := 49) rfl ?_
      refine go_iload td_X12_coverBy 28 rfl (q := 51) rfl 6 rfl ?_
      refine go_iadd td_X12_coverBy 29 rfl (q := 52) rfl ?_
      refine go_iload_n td_X12_coverBy 30 rfl (q := 53) rfl 1 rfl ?_
      refine go_iload_n td_X12_coverBy 31 rfl (q := 54) rfl 2 rfl ?_
      refine go_callV td_X12_coverBy 32 rfl (q := 57) rfl (XkB E) lk_X12_327 (ok_fB_M_isBy E (((g.1 1) * s1.2) + s4.2) a1 a2 g) ⟨rfl, rfl, Nat.le_of_ble_eq_true rfl, Nat.le_of_ble_eq_true rfl⟩ rfl rfl (Nat.le_of_ble_eq_true rfl) (Bc_0 E g) rfl (fun x5 => ?_)
      show Go (wCB E) _ _ g 57 _ [.int x5] _
      refine go_ljX (α := UInt32) (fun b6 => [(0, .ref (E.1 0)), (1, .int a1), (2, .int a2), (3, .float b6), (4, .int s1.2), (5, .float x3), (6, .int s4.2)]) (fun b6 => []) (fun b6 => g) 65 ?_ ?_
      · intro b6
        refine go_iinc [(6, .int (s4.2 + 1)), (0, .ref (E.1 0)), (1, .int a1), (2, .int a2), (3, .float b6), (4, .int s1.2), (5, .float x3)] td_X12_coverBy 38 rfl (q := 68) rfl 6 rfl kc_1 (Nat.le_of_ble_eq_true rfl) rfl ?_
        refine go_goto td_X12_coverBy 39 rfl (q := 32) rfl ?_
        refine go_pick [1, 2, 3, 4, 5, 6, 0] (lv' := [(0, .ref (E.1 0)), (1, .int a1), (2, .int a2), (3, .float b6), (4, .int s1.2), (5, .float x3), (6, .int (s4.2 + 1))]) rfl ?_
        exact krec4 b6 (s4.2 + 1)
      intro J6 hJ6
      have kJ6 : ∀ (u6_0 : UInt32), Go (wCB E) _ _ g 65 [(0, .ref (E.1 0)), (1, .int a1), (2, .int a2), (3, .float u6_0), (4, .int s1.2), (5, .float x3), (6, .int s4.2)] [] (J6 u6_0) := fun u6_0 => hJ6 u6_0
      refine go_if_eq 65 td_X12_coverBy 33 rfl rfl (q := 60) rfl (fun _ => ?_) (fun _ => ?_)
      · refine go_pick [0, 1, 2, 3, 4, 5, 6] (lv' := [(0, .ref (E.1 0)), (1, .int a1), (2, .int a2), (3, .float s4.1), (4, .int s1.2), (5, .float x3), (6, .int s4.2)]) rfl ?_
        exact kJ6 s4.1
      · refine go_fload_n td_X12_coverBy 34 rfl (q := 61) rfl 3 rfl ?_
        refine go_fload td_X12_coverBy 35 rfl (q := 63) rfl 5 rfl ?_
        refine go_fadd td_X12_coverBy 36 rfl (q := 64) rfl ?_
        refine go_bvf (fun x7 => ?_)
        refine go_fstore_n [(3, .float x7), (0, .ref (E.1 0)), (1, .int a1), (2, .int a2), (4, .int s1.2), (5, .float x3), (6, .int s4.2)] td_X12_coverBy 37 rfl (q := 65) rfl (Nat.le_of_ble_eq_true rfl) rfl ?_
        refine go_pick [1, 2, 3, 0, 4, 5, 6] (lv' := [(0, .ref (E.1 0)), (1, .int a1), (2, .int a2), (3, .float x7), (4, .int s1.2), (5, .float x3), (6, .int s4.2)]) rfl ?_
        exact kJ6 x7
def fB_Float_isNaN (a1 : UInt32) (g : G) : Option (Int32) := (if (Op.cmpValue (FP.fcmp a1 a1) .l) = 0 then some 0 else some 1)
set_option maxRecDepth 20000 in
set_option maxHeartbeats 4000000 in
theorem ok_fB_Float_isNaN (E : Ev) (a1 : UInt32) (g : G)  : Ct (wCB E) yJxf58ca_isNaN_12338 mi_Jxf58ca_isNaN_12338 [.float a1] (fun r => (some (.int r), g)) g (fB_Float_isNaN a1 g) := by
  refine go_enterF (by decide +kernel) rfl (Nat.le_of_ble_eq_true rfl) (lv := [(0, .float a1)]) rfl ?_
  unfold fB_Float_isNaN
  refine go_fload_n td_Jxf58ca_isNaN_12338 0 rfl (q := 1) rfl 0 rfl ?_
  refine go_fload_n td_Jxf58ca_isNaN_12338 1 rfl (q := 2) rfl 0 rfl ?_
  refine go_fcmp td_Jxf58ca_isNaN_12338 2 rfl (q := 3) rfl ?_
  refine go_if_eq 10 td_Jxf58ca_isNaN_12338 3 rfl rfl (q := 6) rfl (fun _ => ?_) (fun _ => ?_)
  · refine go_iconst td_Jxf58ca_isNaN_12338 6 rfl (q := 11) rfl kc_0 ?_
    exact go_zret td_Jxf58ca_isNaN_12338 7 rfl rfl rfl rfl
  · refine go_iconst td_Jxf58ca_isNaN_12338 4 rfl (q := 7) rfl kc_1 ?_
    refine go_goto td_Jxf58ca_isNaN_12338 5 rfl (q := 11) rfl ?_
    exact go_zret td_Jxf58ca_isNaN_12338 7 rfl rfl rfl rfl
def fB_Float_floatToIntBits (a1 : UInt32) (g : G) : Option (Int32) := Option.bind (fB_Float_isNaN a1 g) fun x1 => (if x1 = 0 then some ((a1 : UInt32).toInt32) else some 2143289344)
set_option maxRecDepth 20000 in
set_option maxHeartbeats 4000000 in
theorem ok_fB_Float_floatToIntBits (E : Ev) (a1 : UInt32) (g : G)  : Ct (wCB E) yJxf58ca_floatToIntBits_5c35a mi_Jxf58ca_floatToIntBits_5c35a [.float a1] (fun r => (some (.int r), g)) g (fB_Float_floatToIntBits a1 g) := by
  refine go_enterF (by decide +kernel) rfl (Nat.le_of_ble_eq_true rfl) (lv := [(0, .float a1)]) rfl ?_
  unfold fB_Float_floatToIntBits
  refine go_fload_n td_Jxf58ca_floatToIntBits_5c35a 0 rfl (q := 1) rfl 0 rfl ?_
  refine go_callS td_Jxf58ca_floatToIntBits_5c35a 1 rfl (q := 4) rfl (XkB E) lk_Jxf58ca_59 (ok_fB_Float_isNaN E a1 g) ⟨rfl, rfl, Nat.le_of_ble_eq_true rfl, Nat.le_of_ble_eq_true rfl⟩ rfl rfl (Nat.le_of_ble_eq_true rfl) (fun x1 => ?_)
  show Go (wCB E) _ _ g 4 _ [.int x1] _
  refine go_if_ne 12 td_Jxf58ca_floatToIntBits_5c35a 2 rfl rfl (q := 7) rfl (fun _ => ?_) (fun _ => ?_)
  · refine go_ldc td_Jxf58ca_floatToIntBits_5c35a 6 rfl (q := 14) rfl cn_Jxf58ca_77 ?_
    exact go_iret td_Jxf58ca_floatToIntBits_5c35a 7 rfl rfl rfl
  · refine go_fload_n td_Jxf58ca_floatToIntBits_5c35a 3 rfl (q := 8) rfl 0 rfl ?_
    refine go_rawf2i td_Jxf58ca_floatToIntBits_5c35a 4 rfl (q := 11) rfl lk_Jxf58ca_74 ⟨Nat.le_of_ble_eq_true rfl, Nat.le_of_ble_eq_true rfl⟩ ?_
    exact go_iret td_Jxf58ca_floatToIntBits_5c35a 5 rfl rfl rfl
def fB_M_cover (a1 : Int32) (g : G) : Option (Int32 × G) := (if (g.1 0) = 0 then some ((-1), g) else Option.bind (fB_M_isTick a1 g) fun x1 => (if x1 = 0 then some ((-1), g) else Option.bind (fB_M_laysSets g) fun x2 => Option.bind (fB_M_upSet x2) fun x3 => Option.bind (fB_M_coverBy a1 x3 x2) fun x4 => Option.bind (fB_Float_floatToIntBits x4 x2) fun x5 => some (x5, x2)))
set_option maxRecDepth 20000 in
set_option maxHeartbeats 4000000 in
theorem ok_fB_M_cover (E : Ev) (a1 : Int32) (g : G)  : Ct (wCB E) yX12_cover mi_X12_cover [.ref (E.1 0), .int a1] (fun r => (some (.int r.1), r.2)) g (fB_M_cover a1 g) := by
  refine go_enter rfl rfl (Nat.le_of_ble_eq_true rfl) (lv := [(0, .ref (E.1 0)), (1, .int a1)]) rfl ?_
  unfold fB_M_cover
  refine go_aload_n td_X12_cover 0 rfl (q := 1) rfl 0 rfl ?_
  refine go_get td_X12_cover 1 rfl (q := 4) rfl fl_X12_7 (Bc_0 E g) rfl ?_
  refine go_if_eq 14 td_X12_cover 2 rfl rfl (q := 7) rfl (fun _ => ?_) (fun _ => ?_)
  · refine go_iconst td_X12_cover 6 rfl (q := 15) rfl kc_m1 ?_
    exact go_iret td_X12_cover 7 rfl rfl rfl
  · refine go_iload_n td_X12_cover 3 rfl (q := 8) rfl 1 rfl ?_
    refine go_callS td_X12_cover 4 rfl (q := 11) rfl (XkB E) lk_X12_362 (ok_fB_M_isTick E a1 g) ⟨rfl, rfl, Nat.le_of_ble_eq_true rfl, Nat.le_of_ble_eq_true rfl⟩ rfl rfl (Nat.le_of_ble_eq_true rfl) (fun x1 => ?_)
    show Go (wCB E) _ _ g 11 _ [.int x1] _
    refine go_if_ne 16 td_X12_cover 5 rfl rfl (q := 14) rfl (fun _ => ?_) (fun _ => ?_)
    · refine go_aload_n td_X12_cover 8 rfl (q := 17) rfl 0 rfl ?_
      refine go_callV td_X12_cover 9 rfl (q := 20) rfl (XkB E) lk_X12_356 (ok_fB_M_laysSets E g) ⟨rfl, rfl, Nat.le_of_ble_eq_true rfl, Nat.le_of_ble_eq_true rfl⟩ rfl rfl (Nat.le_of_ble_eq_true rfl) (Bc_0 E g) rfl (fun x2 => ?_)
      show Go (wCB E) _ _ x2 20 _ [] _
      refine go_aload_n td_X12_cover 10 rfl (q := 21) rfl 0 rfl ?_
      refine go_iload_n td_X12_cover 11 rfl (q := 22) rfl 1 rfl ?_
      refine go_aload_n td_X12_cover 12 rfl (q := 23) rfl 0 rfl ?_
      refine go_callV td_X12_cover 13 rfl (q := 26) rfl (XkB E) lk_X12_359 (ok_fB_M_upSet E x2) ⟨rfl, rfl, Nat.le_of_ble_eq_true rfl, Nat.le_of_ble_eq_true rfl⟩ rfl rfl (Nat.le_of_ble_eq_true rfl) (Bc_0 E x2) rfl (fun x3 => ?_)
      show Go (wCB E) _ _ x2 26 _ [.int x3, .int a1, .ref (E.1 0)] _
      refine go_callV td_X12_cover 14 rfl (q := 29) rfl (XkB E) lk_X12_340 (ok_fB_M_coverBy E a1 x3 x2) ⟨rfl, rfl, Nat.le_of_ble_eq_true rfl, Nat.le_of_ble_eq_true rfl⟩ rfl rfl (Nat.le_of_ble_eq_true rfl) (Bc_0 E x2) rfl (fun x4 => ?_)
      show Go (wCB E) _ _ x2 29 _ [.float x4] _
      refine go_callS td_X12_cover 15 rfl (q := 32) rfl (XkB E) lk_X12_394 (ok_fB_Float_floatToIntBits E x4 x2) ⟨rfl, rfl, Nat.le_of_ble_eq_true rfl, Nat.le_of_ble_eq_true rfl⟩ rfl rfl (Nat.le_of_ble_eq_true rfl) (fun x5 => ?_)
      show Go (wCB E) _ _ x2 32 _ [.int x5] _
      exact go_iret td_X12_cover 16 rfl rfl rfl
    · refine go_iconst td_X12_cover 6 rfl (q := 15) rfl kc_m1 ?_
      exact go_iret td_X12_cover 7 rfl rfl rfl
def fB_M_scoreBy (a1 : Int32) (g : G) : Option (UInt32) := Lp (α := UInt32 × Int32) (fun rec1 s1 => (if (g.1 7) ≤ s1.2 then some s1.1 else Option.bind (fB_M_coverBy s1.2 a1 g) fun x2 => nf (FP.fdiv x2 (FP.i2f (g.1 7))) (nf (FP.fadd s1.1 (FP.fdiv x2 (FP.i2f (g.1 7)))) (bv (FP.fadd s1.1 (FP.fdiv x2 (FP.i2f (g.1 7)))) fun x3 => rec1 (x3, s1.2 + 1))))) FU (FP.fconst0, 0)
set_option maxRecDepth 20000 in
set_option maxHeartbeats 4000000 in
theorem ok_fB_M_scoreBy (E : Ev) (a1 : Int32) (g : G)  : Ct (wCB E) yX12_scoreBy mi_X12_scoreBy [.ref (E.1 0), .int a1] (fun r => (some (.float r), g)) g (fB_M_scoreBy a1 g) := by
  refine go_enter rfl rfl (Nat.le_of_ble_eq_true rfl) (lv := [(0, .ref (E.1 0)), (1, .int a1)]) rfl ?_
  unfold fB_M_scoreBy
  refine go_fconst0 td_X12_scoreBy 0 rfl (q := 1) rfl ?_
  refine go_fstore_n [(2, .float FP.fconst0), (0, .ref (E.1 0)), (1, .int a1)] td_X12_scoreBy 1 rfl (q := 2) rfl (Nat.le_of_ble_eq_true rfl) rfl ?_
  refine go_iconst td_X12_scoreBy 2 rfl (q := 3) rfl kc_0 ?_
  refine go_istore_n [(3, .int 0), (2, .float FP.fconst0), (0, .ref (E.1 0)), (1, .int a1)] td_X12_scoreBy 3 rfl (q := 4) rfl (Nat.le_of_ble_eq_true rfl) rfl ?_
  refine go_pick [2, 3, 1, 0] (lv' := [(0, .ref (E.1 0)), (1, .int a1), (2, .float FP.fconst0), (3, .int 0)]) rfl ?_
  refine (show ∀ (u1_0 : UInt32) (u1_1 : Int32), Go (wCB E) _ _ g 4 [(0, .ref (E.1 0)), (1, .int a1), (2, .float u1_0), (3, .int u1_1)] [] (Lp (α := UInt32 × Int32) _ FU (u1_0, u1_1)) from ?_) FP.fconst0 0
  intro u1_0 u1_1
  refine go_Lp (α := UInt32 × Int32) (fun s1 => g) (fun s1 => [(0, .ref (E.1 0)), (1, .int a1), (2, .float s1.1), (3, .int s1.2)]) ?_ FU (u1_0, u1_1)
  intro rec1 hrec1 s1
  have krec1 : ∀ (u1_0 : UInt32) (u1_1 : Int32), Go (wCB E) _ _ g 4 [(0, .ref (E.1 0)), (1, .int a1), (2, .float u1_0), (3, .int u1_1)] [] (rec1 (u1_0, u1_1)) := fun u1_0 u1_1 => hrec1 (u1_0, u1_1)
  refine go_iload_n td_X12_scoreBy 4 rfl (q := 5) rfl 3 rfl ?_
  refine go_aload_n td_X12_scoreBy 5 rfl (q := 6) rfl 0 rfl ?_
  refine go_get td_X12_scoreBy 6 rfl (q := 9) rfl fl_X12_32 (Bc_0 E g) rfl ?_
  refine go_icmp_ge 33 td_X12_scoreBy 7 rfl rfl (q := 12) rfl (fun _ => ?_) (fun _ => ?_)
  · refine go_fload_n td_X12_scoreBy 21 rfl (q := 34) rfl 2 rfl ?_
    exact go_fret td_X12_scoreBy 22 rfl rfl rfl
  · refine go_fload_n td_X12_scoreBy 8 rfl (q := 13) rfl 2 rfl ?_
    refine go_aload_n td_X12_scoreBy 9 rfl (q := 14) rfl 0 rfl ?_
    refine go_iload_n td_X12_scoreBy 10 rfl (q := 15) rfl 3 rfl ?_
    refine go_iload_n td_X12_scoreBy 11 rfl (q := 16) rfl 1 rfl ?_
    refine go_callV td_X12_scoreBy 12 rfl (q := 19) rfl (XkB E) lk_X12_340 (ok_fB_M_coverBy E s1.2 a1 g) ⟨rfl, rfl, Nat.le_of_ble_eq_true rfl, Nat.le_of_ble_eq_true rfl⟩ rfl rfl (Nat.le_of_ble_eq_true rfl) (Bc_0 E g) rfl (fun x2 => ?_)
    show Go (wCB E) _ _ g 19 _ [.float x2, .float s1.1] _
    refine go_aload_n td_X12_scoreBy 13 rfl (q := 20) rfl 0 rfl ?_
    refine go_get td_X12_scoreBy 14 rfl (q := 23) rfl fl_X12_32 (Bc_0 E g) rfl ?_
    refine go_i2f td_X12_scoreBy 15 rfl (q := 24) rfl ?_
    refine go_fdiv td_X12_scoreBy 16 rfl (q := 25) rfl ?_
    refine go_fadd td_X12_scoreBy 17 rfl (q := 26) rfl ?_
    refine go_bvf (fun x3 => ?_)
    refine go_fstore_n [(2, .float x3), (0, .ref (E.1 0)), (1, .int a1), (3, .int s1.2)] td_X12_scoreBy 18 rfl (q := 27) rfl (Nat.le_of_ble_eq_true rfl) rfl ?_
    refine go_iinc [(3, .int (s1.2 + 1)), (2, .float x3), (0, .ref (E.1 0)), (1, .int a1)] td_X12_scoreBy 19 rfl (q := 30) rfl 3 rfl kc_1 (Nat.le_of_ble_eq_true rfl) rfl ?_
    refine go_goto td_X12_scoreBy 20 rfl (q := 4) rfl ?_
    refine go_pick [2, 3, 1, 0] (lv' := [(0, .ref (E.1 0)), (1, .int a1), (2, .float x3), (3, .int (s1.2 + 1))]) rfl ?_
    exact krec1 x3 (s1.2 + 1)
def fB_M_score (g : G) : Option (Int32 × G) := (if (g.1 0) = 0 then some ((-1), g) else Option.bind (fB_M_laysSets g) fun x1 => Option.bind (fB_M_upSet x1) fun x2 => Option.bind (fB_M_scoreBy x2 x1) fun x3 => Option.bind (fB_Float_floatToIntBits x3 x1) fun x4 => some (x4, x1))
set_option maxRecDepth 20000 in
set_option maxHeartbeats 4000000 in
theorem ok_fB_M_score (E : Ev)  (g : G)  : Ct (wCB E) yX12_score mi_X12_score [.ref (E.1 0)] (fun r => (some (.int r.1), r.2)) g (fB_M_score g) := by
  refine go_enter rfl rfl (Nat.le_of_ble_eq_true rfl) (lv := [(0, .ref (E.1 0))]) rfl ?_
  unfold fB_M_score
  refine go_aload_n td_X12_score 0 rfl (q := 1) rfl 0 rfl ?_
  refine go_get td_X12_score 1 rfl (q := 4) rfl fl_X12_7 (Bc_0 E g) rfl ?_
  refine go_if_ne 9 td_X12_score 2 rfl rfl (q := 7) rfl (fun _ => ?_) (fun _ => ?_)
  · refine go_aload_n td_X12_score 5 rfl (q := 10) rfl 0 rfl ?_
    refine go_callV td_X12_score 6 rfl (q := 13) rfl (XkB E) lk_X12_356 (ok_fB_M_laysSets E g) ⟨rfl, rfl, Nat.le_of_ble_eq_true rfl, Nat.le_of_ble_eq_true rfl⟩ rfl rfl (Nat.le_of_ble_eq_true rfl) (Bc_0 E g) rfl (fun x1 => ?_)
    show Go (wCB E) _ _ x1 13 _ [] _
    refine go_aload_n td_X12_score 7 rfl (q := 14) rfl 0 rfl ?_
    refine go_aload_n td_X12_score 8 rfl (q := 15) rfl 0 rfl ?_
    refine go_callV td_X12_score 9 rfl (q := 18) rfl (XkB E) lk_X12_359 (ok_fB_M_upSet E x1) ⟨rfl, rfl, Nat.le_of_ble_eq_true rfl, Nat.le_of_ble_eq_true rfl⟩ rfl rfl (Nat.le_of_ble_eq_true rfl) (Bc_0 E x1) rfl (fun x2 => ?_)
    show Go (wCB E) _ _ x1 18 _ [.int x2, .ref (E.1 0)] _
    refine go_callV td_X12_score 10 rfl (q := 21) rfl (XkB E) lk_X12_400 (ok_fB_M_scoreBy E x2 x1) ⟨rfl, rfl, Nat.le_of_ble_eq_true rfl, Nat.le_of_ble_eq_true rfl⟩ rfl rfl (Nat.le_of_ble_eq_true rfl) (Bc_0 E x1) rfl (fun x3 => ?_)
    show Go (wCB E) _ _ x1 21 _ [.float x3] _
    refine go_callS td_X12_score 11 rfl (q := 24) rfl (XkB E) lk_X12_394 (ok_fB_Float_floatToIntBits E x3 x1) ⟨rfl, rfl, Nat.le_of_ble_eq_true rfl, Nat.le_of_ble_eq_true rfl⟩ rfl rfl (Nat.le_of_ble_eq_true rfl) (fun x4 => ?_)
    show Go (wCB E) _ _ x1 24 _ [.int x4] _
    exact go_iret td_X12_score 12 rfl rfl rfl
  · refine go_iconst td_X12_score 3 rfl (q := 8) rfl kc_m1 ?_
    exact go_iret td_X12_score 4 rfl rfl rfl
def fB_M_worst (a1 : Int32) (g : G) : Option (Int32 × G) := (if (g.1 0) = 0 then some ((-1), g) else Option.bind (fB_M_isIn a1 0 2 g) fun x1 => (if x1 = 0 then some ((-1), g) else Option.bind (fB_M_laysSets g) fun x2 => Lp (α := Int32 × Int32 × Int32 × G) (fun rec3 s3 => (if (s3.2.2.2.1 8) ≤ s3.2.2.1 then (if a1 = 0 then some (s3.1, s3.2.2.2) else (if a1 = 1 then dz (s3.2.2.2.1 1) (some (s3.2.1 - s3.2.1 / (s3.2.2.2.1 1) * (s3.2.2.2.1 1), s3.2.2.2)) else dz (s3.2.2.2.1 1) (some (s3.2.1 / (s3.2.2.2.1 1), s3.2.2.2)))) else Option.bind (fB_M_upSet s3.2.2.2) fun x4 => Option.bind (fB_M_greatestOf s3.2.2.1 x4 s3.2.2.2) fun x5 => lj (α := Int32 × Int32) (fun b6 => rec3 (b6.1, b6.2, s3.2.2.1 + 1, x5.2)) fun J6 => (if s3.1 < x5.1 then J6 (x5.1, s3.2.2.1) else J6 (s3.1, s3.2.1)))) FU ((-1), 0, 0, x2)))
set_option maxRecDepth 20000 in
set_option maxHeartbeats 4000000 in
theorem ok_fB_M_worst (E : Ev) (a1 : Int32) (g : G)  : Ct (wCB E) yX12_worst mi_X12_worst [.ref (E.1 0), .int a1] (fun r => (some (.int r.1), r.2)) g (fB_M_worst a1 g) := by
  refine go_enter rfl rfl (Nat.le_of_ble_eq_true rfl) (lv := [(0, .ref (E.1 0)), (1, .int a1)]) rfl ?_
  unfold fB_M_worst
  refine go_aload_n td_X12_worst 0 rfl (q := 1) rfl 0 rfl ?_
  refine go_get td_X12_worst 1 rfl (q := 4) rfl fl_X12_7 (Bc_0 E g) rfl ?_
  refine go_if_eq 16 td_X12_worst 2 rfl rfl (q := 7) rfl (fun _ => ?_) (fun _ => ?_)
  · refine go_iconst td_X12_worst 8 rfl (q := 17) rfl kc_m1 ?_
    exact go_iret td_X12_worst 9 rfl rfl rfl
  · refine go_iload_n td_X12_worst 3 rfl (q := 8) rfl 1 rfl ?_
    refine go_iconst td_X12_worst 4 rfl (q := 9) rfl kc_0 ?_
    refine go_iconst td_X12_worst 5 rfl (q := 10) rfl kc_2 ?_
    refine go_callS td_X12_worst 6 rfl (q := 13) rfl (XkB E) lk_X12_248 (ok_fB_M_isIn E a1 0 2 g) ⟨rfl, rfl, Nat.le_of_ble_eq_true rfl, Nat.le_of_ble_eq_true rfl⟩ rfl rfl (Nat.le_of_ble_eq_true rfl) (fun x1 => ?_)
    show Go (wCB E) _ _ g 13 _ [.int x1] _
    refine go_if_ne 18 td_X12_worst 7 rfl rfl (q := 16) rfl (fun _ => ?_) (fun _ => ?_)
    · refine go_aload_n td_X12_worst 10 rfl (q := 19) rfl 0 rfl ?_
      refine go_callV td_X12_worst 11 rfl (q := 22) rfl (XkB E) lk_X12_356 (ok_fB_M_laysSets E g) ⟨rfl, rfl, Nat.le_of_ble_eq_true rfl, Nat.le_of_ble_eq_true rfl⟩ rfl rfl (Nat.le_of_ble_eq_true rfl) (Bc_0 E g) rfl (fun x2 => ?_)
      show Go (wCB E) _ _ x2 22 _ [] _
      refine go_iconst td_X12_worst 12 rfl (q := 23) rfl kc_m1 ?_
      refine go_istore_n [(2, .int (-1)), (0, .ref (E.1 0)), (1, .int a1)] td_X12_worst 13 rfl (q := 24) rfl (Nat.le_of_ble_eq_true rfl) rfl ?_
      refine go_iconst td_X12_worst 14 rfl (q := 25) rfl kc_0 ?_
      refine go_istore_n [(3, .int 0), (2, .int (-1)), (0, .ref (E.1 0)), (1, .int a1)] td_X12_worst 15 rfl (q := 26) rfl (Nat.le_of_ble_eq_true rfl) rfl ?_
      refine go_iconst td_X12_worst 16 rfl (q := 27) rfl kc_0 ?_
      refine go_istore [(4, .int 0), (3, .int 0), (2, .int (-1)), (0, .ref (E.1 0)), (1, .int a1)] td_X12_worst 17 rfl (q := 29) rfl (Nat.le_of_ble_eq_true rfl) rfl ?_
      refine go_pick [3, 4, 2, 1, 0] (lv' := [(0, .ref (E.1 0)), (1, .int a1), (2, .int (-1)), (3, .int 0), (4, .int 0)]) rfl ?_
      refine (show ∀ (u3_0 : Int32) (u3_1 : Int32) (u3_2 : Int32) (u3_3 : G), Go (wCB E) _ _ u3_3 29 [(0, .ref (E.1 0)), (1, .int a1), (2, .int u3_0), (3, .int u3_1), (4, .int u3_2)] [] (Lp (α := Int32 × Int32 × Int32 × G) _ FU (u3_0, u3_1, u3_2, u3_3)) from ?_) (-1) 0 0 x2
      intro u3_0 u3_1 u3_2 u3_3
      refine go_Lp (α := Int32 × Int32 × Int32 × G) (fun s3 => s3.2.2.2) (fun s3 => [(0, .ref (E.1 0)), (1, .int a1), (2, .int s3.1), (3, .int s3.2.1), (4, .int s3.2.2.1)]) ?_ FU (u3_0, u3_1, u3_2, u3_3)
      intro rec3 hrec3 s3
      have krec3 : ∀ (u3_0 : Int32) (u3_1 : Int32) (u3_2 : Int32) (u3_3 : G), Go (wCB E) _ _ u3_3 29 [(0, .ref (E.1 0)), (1, .int a1), (2, .int u3_0), (3, .int u3_1), (4, .int u3_2)] [] (rec3 (u3_0, u3_1, u3_2, u3_3)) := fun u3_0 u3_1 u3_2 u3_3 => hrec3 (u3_0, u3_1, u3_2, u3_3)
      refine go_iload td_X12_worst 18 rfl (q := 31) rfl 4 rfl ?_
      refine go_aload_n td_X12_worst 19 rfl (q := 32) rfl 0 rfl ?_
      refine go_get td_X12_worst 20 rfl (q := 35) rfl fl_X12_35 (Bc_0 E s3.2.2.2) rfl ?_
      refine go_icmp_ge 71 td_X12_worst 21 rfl rfl (q := 38) rfl (fun _ => ?_) (fun _ => ?_)
      · refine go_iload_n td_X12_worst 38 rfl (q := 72) rfl 1 rfl ?_
        refine go_if_ne 79 td_X12_worst 39 rfl rfl (q := 75) rfl (fun _ => ?_) (fun _ => ?_)
        · refine go_iload_n td_X12_worst 42 rfl (q := 80) rfl 1 rfl ?_
          refine go_iconst td_X12_worst 43 rfl (q := 81) rfl kc_1 ?_
          refine go_icmp_ne 93 td_X12_worst 44 rfl rfl (q := 84) rfl (fun _ => ?_) (fun _ => ?_)
          · refine go_iload_n td_X12_worst 50 rfl (q := 94) rfl 3 rfl ?_
            refine go_aload_n td_X12_worst 51 rfl (q := 95) rfl 0 rfl ?_
            refine go_get td_X12_worst 52 rfl (q := 98) rfl fl_X12_13 (Bc_0 E s3.2.2.2) rfl ?_
            refine go_idiv td_X12_worst 53 rfl (q := 99) rfl ?_
            exact go_iret td_X12_worst 54 rfl rfl rfl
          · refine go_iload_n td_X12_worst 45 rfl (q := 85) rfl 3 rfl ?_
            refine go_aload_n td_X12_worst 46 rfl (q := 86) rfl 0 rfl ?_
            refine go_get td_X12_worst 47 rfl (q := 89) rfl fl_X12_13 (Bc_0 E s3.2.2.2) rfl ?_
            refine go_irem td_X12_worst 48 rfl (q := 90) rfl ?_
            refine go_goto td_X12_worst 49 rfl (q := 99) rfl ?_
            exact go_iret td_X12_worst 54 rfl rfl rfl
        · refine go_iload_n td_X12_worst 40 rfl (q := 76) rfl 2 rfl ?_
          refine go_goto td_X12_worst 41 rfl (q := 99) rfl ?_
          exact go_iret td_X12_worst 54 rfl rfl rfl
      · refine go_aload_n td_X12_worst 22 rfl (q := 39) rfl 0 rfl ?_
        refine go_iload td_X12_worst 23 rfl (q := 41) rfl 4 rfl ?_
        refine go_aload_n td_X12_worst 24 rfl (q := 42) rfl 0 rfl ?_
        refine go_callV td_X12_worst 25 rfl (q := 45) rfl (XkB E) lk_X12_359 (ok_fB_M_upSet E s3.2.2.2) ⟨rfl, rfl, Nat.le_of_ble_eq_true rfl, Nat.le_of_ble_eq_true rfl⟩ rfl rfl (Nat.le_of_ble_eq_true rfl) (Bc_0 E s3.2.2.2) rfl (fun x4 => ?_)
        show Go (wCB E) _ _ s3.2.2.2 45 _ [.int x4, .int s3.2.2.1, .ref (E.1 0)] _
        refine go_callV td_X12_worst 26 rfl (q := 48) rfl (XkB E) lk_X12_337 (ok_fB_M_greatestOf E s3.2.2.1 x4 s3.2.2.2) ⟨rfl, rfl, Nat.le_of_ble_eq_true rfl, Nat.le_of_ble_eq_true rfl⟩ rfl rfl (Nat.le_of_ble_eq_true rfl) (Bc_0 E s3.2.2.2) rfl (fun x5 => ?_)
        show Go (wCB E) _ _ x5.2 48 _ [.int x5.1] _
        refine go_istore [(5, .int x5.1), (0, .ref (E.1 0)), (1, .int a1), (2, .int s3.1), (3, .int s3.2.1), (4, .int s3.2.2.1)] td_X12_worst 27 rfl (q := 50) rfl (Nat.le_of_ble_eq_true rfl) rfl ?_
        refine go_iload td_X12_worst 28 rfl (q := 52) rfl 0 rfl ?_
        refine go_iload_n td_X12_worst 29 rfl (q := 53) rfl 3 rfl ?_
        refine go_ljX (α := Int32 × Int32) (fun b6 => [(0, .ref (E.1 0)), (1, .int a1), (2, .int b6.1), (3, .int b6.2), (4, .int s3.2.2.1)]) (fun b6 => []) (fun b6 => x5.2) 65 ?_ ?_
        · intro b6
          refine go_iinc [(4, .int (s3.2.2.1 + 1)), (0, .ref (E.1 0)), (1, .int a1), (2, .int b6.1), (3, .int b6.2)] td_X12_worst 36 rfl (q := 68) rfl 4 rfl kc_1 (Nat.le_of_ble_eq_true rfl) rfl ?_
          refine go_goto td_X12_worst 37 rfl (q := 29) rfl ?_
          refine go_pick [1, 2, 3, 4, 0] (lv' := [(0, .ref (E.1 0)), (1, .int a1), (2, .int b6.1), (3, .int b6.2), (4, .int (s3.2.2.1 + 1))]) rfl ?_
          exact krec3 b6.1 b6.2 (s3.2.2.1 + 1) x5.2
        intro J6 hJ6
        have kJ6 : ∀ (u6_0 : Int32) (u6_1 : Int32), Go (wCB E) _ _ x5.2 65 [(0, .ref (E.1 0)), (1, .int a1), (2, .int u6_0), (3, .int u6_1), (4, .int s3.2.2.1)] [] (J6 (u6_0, u6_1)) := fun u6_0 u6_1 => hJ6 (u6_0, u6_1)
        refine go_icmp_gt 59 td_X12_worst 30 rfl rfl (q := 56) rfl (fun _ => ?_) (fun _ => ?_)
        · refine go_iload td_X12_worst 32 rfl (q := 61) rfl 0 rfl ?_
          refine go_istore_n [(2, .int x5.1), (5, .int x5.1), (0, .ref (E.1 0)), (1, .int a1), (3, .int s3.2.1), (4, .int s3.2.2.1)] td_X12_worst 33 rfl (q := 62) rfl (Nat.le_of_ble_eq_true rfl) rfl ?_
          refine go_iload td_X12_worst 34 rfl (q := 64) rfl 5 rfl ?_
          refine go_istore_n [(3, .int s3.2.2.1), (2, .int x5.1), (5, .int x5.1), (0, .ref (E.1 0)), (1, .int a1), (4, .int s3.2.2.1)] td_X12_worst 35 rfl (q := 65) rfl (Nat.le_of_ble_eq_true rfl) rfl ?_
          refine go_pick [3, 4, 1, 0, 5] (lv' := [(0, .ref (E.1 0)), (1, .int a1), (2, .int x5.1), (3, .int s3.2.2.1), (4, .int s3.2.2.1)]) rfl ?_
          exact kJ6 x5.1 s3.2.2.1
        · refine go_goto td_X12_worst 31 rfl (q := 65) rfl ?_
          refine go_pick [1, 2, 3, 4, 5] (lv' := [(0, .ref (E.1 0)), (1, .int a1), (2, .int s3.1), (3, .int s3.2.1), (4, .int s3.2.2.1)]) rfl ?_
          exact kJ6 s3.1 s3.2.1
    · refine go_iconst td_X12_worst 8 rfl (q := 17) rfl kc_m1 ?_
      exact go_iret td_X12_worst 9 rfl rfl rfl
def fB_M_never (g : G) : Option (Int32 × G) := (if (g.1 0) = 0 then some ((-1), g) else Option.bind (fB_M_laysSets g) fun x1 => Lp (α := Int32 × Int32 × G) (fun rec2 s2 => (if (s2.2.2.1 8) ≤ s2.2.1 then some (s2.1, s2.2.2) else Option.bind (fB_M_upSet s2.2.2) fun x3 => Option.bind (fB_M_greatestOf s2.2.1 x3 s2.2.2) fun x4 => lj (α := Int32) (fun b5 => bv (s2.1 + b5) fun x6 => rec2 (x6, s2.2.1 + 1, x4.2)) fun J5 => (if x4.1 = (x4.2.1 7) then J5 1 else J5 0))) FU (0, 0, x1))
set_option maxRecDepth 20000 in
set_option maxHeartbeats 4000000 in
theorem ok_fB_M_never (E : Ev)  (g : G)  : Ct (wCB E) yX12_never mi_X12_never [.ref (E.1 0)] (fun r => (some (.int r.1), r.2)) g (fB_M_never g) := by
  refine go_enter rfl rfl (Nat.le_of_ble_eq_true rfl) (lv := [(0, .ref (E.1 0))]) rfl ?_
  unfold fB_M_never
  refine go_aload_n td_X12_never 0 rfl (q := 1) rfl 0 rfl ?_
  refine go_get td_X12_never 1 rfl (q := 4) rfl fl_X12_7 (Bc_0 E g) rfl ?_
  refine go_if_ne 9 td_X12_never 2 rfl rfl (q := 7) rfl (fun _ => ?_) (fun _ => ?_)
  · refine go_aload_n td_X12_never 5 rfl (q := 10) rfl 0 rfl ?_
    refine go_callV td_X12_never 6 rfl (q := 13) rfl (XkB E) lk_X12_356 (ok_fB_M_laysSets E g) ⟨rfl, rfl, Nat.le_of_ble_eq_true rfl, Nat.le_of_ble_eq_true rfl⟩ rfl rfl (Nat.le_of_ble_eq_true rfl) (Bc_0 E g) rfl (fun x1 => ?_)
    show Go (wCB E) _ _ x1 13 _ [] _
    refine go_iconst td_X12_never 7 rfl (q := 14) rfl kc_0 ?_
    refine go_istore_n [(1, .int 0), (0, .ref (E.1 0))] td_X12_never 8 rfl (q := 15) rfl (Nat.le_of_ble_eq_true rfl) rfl ?_
    refine go_iconst td_X12_never 9 rfl (q := 16) rfl kc_0 ?_
    refine go_istore_n [(2, .int 0), (1, .int 0), (0, .ref (E.1 0))] td_X12_never 10 rfl (q := 17) rfl (Nat.le_of_ble_eq_true rfl) rfl ?_
    refine go_pick [2, 1, 0] (lv' := [(0, .ref (E.1 0)), (1, .int 0), (2, .int 0)]) rfl ?_
    refine (show ∀ (u2_0 : Int32) (u2_1 : Int32) (u2_2 : G), Go (wCB E) _ _ u2_2 17 [(0, .ref (E.1 0)), (1, .int u2_0), (2, .int u2_1)] [] (Lp (α := Int32 × Int32 × G) _ FU (u2_0, u2_1, u2_2)) from ?_) 0 0 x1
    intro u2_0 u2_1 u2_2
    refine go_Lp (α := Int32 × Int32 × G) (fun s2 => s2.2.2) (fun s2 => [(0, .ref (E.1 0)), (1, .int s2.1), (2, .int s2.2.1)]) ?_ FU (u2_0, u2_1, u2_2)
    intro rec2 hrec2 s2
    have krec2 : ∀ (u2_0 : Int32) (u2_1 : Int32) (u2_2 : G), Go (wCB E) _ _ u2_2 17 [(0, .ref (E.1 0)), (1, .int u2_0), (2, .int u2_1)] [] (rec2 (u2_0, u2_1, u2_2)) := fun u2_0 u2_1 u2_2 => hrec2 (u2_0, u2_1, u2_2)
    refine go_iload_n td_X12_never 11 rfl (q := 18) rfl 2 rfl ?_
    refine go_aload_n td_X12_never 12 rfl (q := 19) rfl 0 rfl ?_
    refine go_get td_X12_never 13 rfl (q := 22) rfl fl_X12_35 (Bc_0 E s2.2.2) rfl ?_
    refine go_icmp_ge 55 td_X12_never 14 rfl rfl (q := 25) rfl (fun _ => ?_) (fun _ => ?_)
    · refine go_iload_n td_X12_never 31 rfl (q := 56) rfl 1 rfl ?_
      exact go_iret td_X12_never 32 rfl rfl rfl
    · refine go_iload_n td_X12_never 15 rfl (q := 26) rfl 1 rfl ?_
      refine go_aload_n td_X12_never 16 rfl (q := 27) rfl 0 rfl ?_
      refine go_iload_n td_X12_never 17 rfl (q := 28) rfl 2 rfl ?_
      refine go_aload_n td_X12_never 18 rfl (q := 29) rfl 0 rfl ?_
      refine go_callV td_X12_never 19 rfl (q := 32) rfl (XkB E) lk_X12_359 (ok_fB_M_upSet E s2.2.2) ⟨rfl, rfl, Nat.le_of_ble_eq_true rfl, Nat.le_of_ble_eq_true rfl⟩ rfl rfl (Nat.le_of_ble_eq_true rfl) (Bc_0 E s2.2.2) rfl (fun x3 => ?_)
      show Go (wCB E) _ _ s2.2.2 32 _ [.int x3, .int s2.2.1, .ref (E.1 0), .int s2.1] _
      refine go_callV td_X12_never 20 rfl (q := 35) rfl (XkB E) lk_X12_337 (ok_fB_M_greatestOf E s2.2.1 x3 s2.2.2) ⟨rfl, rfl, Nat.le_of_ble_eq_true rfl, Nat.le_of_ble_eq_true rfl⟩ rfl rfl (Nat.le_of_ble_eq_true rfl) (Bc_0 E s2.2.2) rfl (fun x4 => ?_)
      show Go (wCB E) _ _ x4.2 35 _ [.int x4.1, .int s2.1] _
      refine go_aload_n td_X12_never 21 rfl (q := 36) rfl 0 rfl ?_
      refine go_get td_X12_never 22 rfl (q := 39) rfl fl_X12_32 (Bc_0 E x4.2) rfl ?_
      refine go_ljX (α := Int32) (fun b5 => [(0, .ref (E.1 0)), (2, .int s2.2.1)]) (fun b5 => [.int b5, .int s2.1]) (fun b5 => x4.2) 47 ?_ ?_
      · intro b5
        refine go_iadd td_X12_never 27 rfl (q := 48) rfl ?_
        refine go_bvi (fun x6 => ?_)
        refine go_istore_n [(1, .int x6), (0, .ref (E.1 0)), (2, .int s2.2.1)] td_X12_never 28 rfl (q := 49) rfl (Nat.le_of_ble_eq_true rfl) rfl ?_
        refine go_iinc [(2, .int (s2.2.1 + 1)), (1, .int x6), (0, .ref (E.1 0))] td_X12_never 29 rfl (q := 52) rfl 2 rfl kc_1 (Nat.le_of_ble_eq_true rfl) rfl ?_
        refine go_goto td_X12_never 30 rfl (q := 17) rfl ?_
        refine go_pick [2, 1, 0] (lv' := [(0, .ref (E.1 0)), (1, .int x6), (2, .int (s2.2.1 + 1))]) rfl ?_
        exact krec2 x6 (s2.2.1 + 1) x4.2
      intro J5 hJ5
      have kJ5 : ∀ (u5_0 : Int32), Go (wCB E) _ _ x4.2 47 [(0, .ref (E.1 0)), (2, .int s2.2.1)] [.int u5_0, .int s2.1] (J5 u5_0) := fun u5_0 => hJ5 u5_0
      refine go_icmp_ne 46 td_X12_never 23 rfl rfl (q := 42) rfl (fun _ => ?_) (fun _ => ?_)
      · refine go_iconst td_X12_never 26 rfl (q := 47) rfl kc_0 ?_
        refine go_pick [0, 2] (lv' := [(0, .ref (E.1 0)), (2, .int s2.2.1)]) rfl ?_
        exact kJ5 0
      · refine go_iconst td_X12_never 24 rfl (q := 43) rfl kc_1 ?_
        refine go_goto td_X12_never 25 rfl (q := 47) rfl ?_
        refine go_pick [0, 2] (lv' := [(0, .ref (E.1 0)), (2, .int s2.2.1)]) rfl ?_
        exact kJ5 1
  · refine go_iconst td_X12_never 3 rfl (q := 8) rfl kc_m1 ?_
    exact go_iret td_X12_never 4 rfl rfl rfl
def fB_M_nextOf (a1 : Int32) (a2 : Int32) (a3 : Int32) (g : G) : Option (Int32) := Lp (α := Int32) (fun rec1 s1 => (if (g.1 7) ≤ s1 then some (-1) else Option.bind (fB_M_isBy a1 (a2 + s1) a3 g) fun x2 => (if x2 = 0 then rec1 (s1 + 1) else some s1))) FU 0
set_option maxRecDepth 20000 in
set_option maxHeartbeats 4000000 in
theorem ok_fB_M_nextOf (E : Ev) (a1 : Int32) (a2 : Int32) (a3 : Int32) (g : G)  : Ct (wCB E) yX12_nextOf mi_X12_nextOf [.ref (E.1 0), .int a1, .int a2, .int a3] (fun r => (some (.int r), g)) g (fB_M_nextOf a1 a2 a3 g) := by
  refine go_enter rfl rfl (Nat.le_of_ble_eq_true rfl) (lv := [(0, .ref (E.1 0)), (1, .int a1), (2, .int a2), (3, .int a3)]) rfl ?_
  unfold fB_M_nextOf
  refine go_iconst td_X12_nextOf 0 rfl (q := 1) rfl kc_0 ?_
  refine go_istore [(4, .int 0), (0, .ref (E.1 0)), (1, .int a1), (2, .int a2), (3, .int a3)] td_X12_nextOf 1 rfl (q := 3) rfl (Nat.le_of_ble_eq_true rfl) rfl ?_
  refine go_pick [1, 2, 3, 4, 0] (lv' := [(0, .ref (E.1 0)), (1, .int a1), (2, .int a2), (3, .int a3), (4, .int 0)]) rfl ?_
  refine (show ∀ (u1_0 : Int32), Go (wCB E) _ _ g 3 [(0, .ref (E.1 0)), (1, .int a1), (2, .int a2), (3, .int a3), (4, .int u1_0)] [] (Lp (α := Int32) _ FU u1_0) from ?_) 0
  intro u1_0
  refine go_Lp (α := Int32) (fun s1 => g) (fun s1 => [(0, .ref (E.1 0)), (1, .int a1), (2, .int a2), (3, .int a3), (4, .int s1)]) ?_ FU u1_0
  intro rec1 hrec1 s1
  have krec1 : ∀ (u1_0 : Int32), Go (wCB E) _ _ g 3 [(0, .ref (E.1 0)), (1, .int a1), (2, .int a2), (3, .int a3), (4, .int u1_0)] [] (rec1 u1_0) := fun u1_0 => hrec1 u1_0
  refine go_iload td_X12_nextOf 2 rfl (q := 5) rfl 4 rfl ?_
  refine go_aload_n td_X12_nextOf 3 rfl (q := 6) rfl 0 rfl ?_
  refine go_get td_X12_nextOf 4 rfl (q := 9) rfl fl_X12_32 (Bc_0 E g) rfl ?_
  refine go_icmp_ge 34 td_X12_nextOf 5 rfl rfl (q := 12) rfl (fun _ => ?_) (fun _ => ?_)
  · refine go_iconst td_X12_nextOf 18 rfl (q := 35) rfl kc_m1 ?_
    exact go_iret td_X12_nextOf 19 rfl rfl rfl
  · refine go_aload_n td_X12_nextOf 6 rfl (q := 13) rfl 0 rfl ?_
    refine go_iload_n td_X12_nextOf 7 rfl (q := 14) rfl 1 rfl ?_
    refine go_iload_n td_X12_nextOf 8 rfl (q := 15) rfl 2 rfl ?_
    refine go_iload td_X12_nextOf 9 rfl (q := 17) rfl 4 rfl ?_
    refine go_iadd td_X12_nextOf 10 rfl (q := 18) rfl ?_
    refine go_iload_n td_X12_nextOf 11 rfl (q := 19) rfl 3 rfl ?_
    refine go_callV td_X12_nextOf 12 rfl (q := 22) rfl (XkB E) lk_X12_327 (ok_fB_M_isBy E a1 (a2 + s1) a3 g) ⟨rfl, rfl, Nat.le_of_ble_eq_true rfl, Nat.le_of_ble_eq_true rfl⟩ rfl rfl (Nat.le_of_ble_eq_true rfl) (Bc_0 E g) rfl (fun x2 => ?_)
    show Go (wCB E) _ _ g 22 _ [.int x2] _
    refine go_if_eq 28 td_X12_nextOf 13 rfl rfl (q := 25) rfl (fun _ => ?_) (fun _ => ?_)
    · refine go_iinc [(4, .int (s1 + 1)), (0, .ref (E.1 0)), (1, .int a1), (2, .int a2), (3, .int a3)] td_X12_nextOf 16 rfl (q := 31) rfl 4 rfl kc_1 (Nat.le_of_ble_eq_true rfl) rfl ?_
      refine go_goto td_X12_nextOf 17 rfl (q := 3) rfl ?_
      refine go_pick [1, 2, 3, 4, 0] (lv' := [(0, .ref (E.1 0)), (1, .int a1), (2, .int a2), (3, .int a3), (4, .int (s1 + 1))]) rfl ?_
      exact krec1 (s1 + 1)
    · refine go_iload td_X12_nextOf 14 rfl (q := 27) rfl 4 rfl ?_
      exact go_iret td_X12_nextOf 15 rfl rfl rfl
def fB_M_soon (a1 : Int32) (g : G) : Option (Int32 × G) := (if (g.1 0) = 0 then some ((-1), g) else Option.bind (fB_M_isTick a1 g) fun x1 => (if x1 = 0 then some ((-1), g) else Option.bind (fB_M_laysSets g) fun x2 => Lp (α := Int32 × Int32) (fun rec3 s3 => (if (x2.1 8) ≤ s3.2 then some (s3.1 + 1, x2) else Option.bind (fB_M_upSet x2) fun x4 => Option.bind (fB_M_nextOf s3.2 a1 x4 x2) fun x5 => (if x5 = (-1) then some ((-1), x2) else Option.bind (fB_M_greater s3.1 x5 x2) fun x6 => rec3 (x6, s3.2 + 1)))) FU (0, 0)))
set_option maxRecDepth 20000 in
set_option maxHeartbeats 4000000 in
theorem ok_fB_M_soon (E : Ev) (a1 : Int32) (g : G)  : Ct (wCB E) yX12_soon mi_X12_soon [.ref (E.1 0), .int a1] (fun r => (some (.int r.1), r.2)) g (fB_M_soon a1 g) := by
  refine go_enter rfl rfl (Nat.le_of_ble_eq_true rfl) (lv := [(0, .ref (E.1 0)), (1, .int a1)]) rfl ?_
  unfold fB_M_soon
  refine go_aload_n td_X12_soon 0 rfl (q := 1) rfl 0 rfl ?_
  refine go_get td_X12_soon 1 rfl (q := 4) rfl fl_X12_7 (Bc_0 E g) rfl ?_
  refine go_if_eq 14 td_X12_soon 2 rfl rfl (q := 7) rfl (fun _ => ?_) (fun _ => ?_)
  · refine go_iconst td_X12_soon 6 rfl (q := 15) rfl kc_m1 ?_
    exact go_iret td_X12_soon 7 rfl rfl rfl
  · refine go_iload_n td_X12_soon 3 rfl (q := 8) rfl 1 rfl ?_
    refine go_callS td_X12_soon 4 rfl (q := 11) rfl (XkB E) lk_X12_362 (ok_fB_M_isTick E a1 g) ⟨rfl, rfl, Nat.le_of_ble_eq_true rfl, Nat.le_of_ble_eq_true rfl⟩ rfl rfl (Nat.le_of_ble_eq_true rfl) (fun x1 => ?_)
    show Go (wCB E) _ _ g 11 _ [.int x1] _
    refine go_if_ne 16 td_X12_soon 5 rfl rfl (q := 14) rfl (fun _ => ?_) (fun _ => ?_)
    · refine go_aload_n td_X12_soon 8 rfl (q := 17) rfl 0 rfl ?_
      refine go_callV td_X12_soon 9 rfl (q := 20) rfl (XkB E) lk_X12_356 (ok_fB_M_laysSets E g) ⟨rfl, rfl, Nat.le_of_ble_eq_true rfl, Nat.le_of_ble_eq_true rfl⟩ rfl rfl (Nat.le_of_ble_eq_true rfl) (Bc_0 E g) rfl (fun x2 => ?_)
      show Go (wCB E) _ _ x2 20 _ [] _
      refine go_iconst td_X12_soon 10 rfl (q := 21) rfl kc_0 ?_
      refine go_istore_n [(2, .int 0), (0, .ref (E.1 0)), (1, .int a1)] td_X12_soon 11 rfl (q := 22) rfl (Nat.le_of_ble_eq_true rfl) rfl ?_
      refine go_iconst td_X12_soon 12 rfl (q := 23) rfl kc_0 ?_
      refine go_istore_n [(3, .int 0), (2, .int 0), (0, .ref (E.1 0)), (1, .int a1)] td_X12_soon 13 rfl (q := 24) rfl (Nat.le_of_ble_eq_true rfl) rfl ?_
      refine go_pick [2, 3, 1, 0] (lv' := [(0, .ref (E.1 0)), (1, .int a1), (2, .int 0), (3, .int 0)]) rfl ?_
      refine (show ∀ (u3_0 : Int32) (u3_1 : Int32), Go (wCB E) _ _ x2 24 [(0, .ref (E.1 0)), (1, .int a1), (2, .int u3_0), (3, .int u3_1)] [] (Lp (α := Int32 × Int32) _ FU (u3_0, u3_1)) from ?_) 0 0
      intro u3_0 u3_1
      refine go_Lp (α := Int32 × Int32) (fun s3 => x2) (fun s3 => [(0, .ref (E.1 0)), (1, .int a1), (2, .int s3.1), (3, .int s3.2)]) ?_ FU (u3_0, u3_1)
      intro rec3 hrec3 s3
      have krec3 : ∀ (u3_0 : Int32) (u3_1 : Int32), Go (wCB E) _ _ x2 24 [(0, .ref (E.1 0)), (1, .int a1), (2, .int u3_0), (3, .int u3_1)] [] (rec3 (u3_0, u3_1)) := fun u3_0 u3_1 => hrec3 (u3_0, u3_1)
      refine go_iload_n td_X12_soon 14 rfl (q := 25) rfl 3 rfl ?_
      refine go_aload_n td_X12_soon 15 rfl (q := 26) rfl 0 rfl ?_
      refine go_get td_X12_soon 16 rfl (q := 29) rfl fl_X12_35 (Bc_0 E x2) rfl ?_
      refine go_icmp_ge 65 td_X12_soon 17 rfl rfl (q := 32) rfl (fun _ => ?_) (fun _ => ?_)
      · refine go_iload_n td_X12_soon 36 rfl (q := 66) rfl 2 rfl ?_
        refine go_iconst td_X12_soon 37 rfl (q := 67) rfl kc_1 ?_
        refine go_iadd td_X12_soon 38 rfl (q := 68) rfl ?_
        exact go_iret td_X12_soon 39 rfl rfl rfl
      · refine go_aload_n td_X12_soon 18 rfl (q := 33) rfl 0 rfl ?_
        refine go_iload_n td_X12_soon 19 rfl (q := 34) rfl 3 rfl ?_
        refine go_iload_n td_X12_soon 20 rfl (q := 35) rfl 1 rfl ?_
        refine go_aload_n td_X12_soon 21 rfl (q := 36) rfl 0 rfl ?_
        refine go_callV td_X12_soon 22 rfl (q := 39) rfl (XkB E) lk_X12_359 (ok_fB_M_upSet E x2) ⟨rfl, rfl, Nat.le_of_ble_eq_true rfl, Nat.le_of_ble_eq_true rfl⟩ rfl rfl (Nat.le_of_ble_eq_true rfl) (Bc_0 E x2) rfl (fun x4 => ?_)
        show Go (wCB E) _ _ x2 39 _ [.int x4, .int a1, .int s3.2, .ref (E.1 0)] _
        refine go_callV td_X12_soon 23 rfl (q := 42) rfl (XkB E) lk_X12_404 (ok_fB_M_nextOf E s3.2 a1 x4 x2) ⟨rfl, rfl, Nat.le_of_ble_eq_true rfl, Nat.le_of_ble_eq_true rfl⟩ rfl rfl (Nat.le_of_ble_eq_true rfl) (Bc_0 E x2) rfl (fun x5 => ?_)
        show Go (wCB E) _ _ x2 42 _ [.int x5] _
        refine go_istore [(4, .int x5), (0, .ref (E.1 0)), (1, .int a1), (2, .int s3.1), (3, .int s3.2)] td_X12_soon 24 rfl (q := 44) rfl (Nat.le_of_ble_eq_true rfl) rfl ?_
        refine go_iload td_X12_soon 25 rfl (q := 46) rfl 0 rfl ?_
        refine go_iconst td_X12_soon 26 rfl (q := 47) rfl kc_m1 ?_
        refine go_icmp_ne 52 td_X12_soon 27 rfl rfl (q := 50) rfl (fun _ => ?_) (fun _ => ?_)
        · refine go_iload_n td_X12_soon 30 rfl (q := 53) rfl 3 rfl ?_
          refine go_iload td_X12_soon 31 rfl (q := 55) rfl 0 rfl ?_
          refine go_callS td_X12_soon 32 rfl (q := 58) rfl (XkB E) lk_X12_334 (ok_fB_M_greater E s3.1 x5 x2) ⟨rfl, rfl, Nat.le_of_ble_eq_true rfl, Nat.le_of_ble_eq_true rfl⟩ rfl rfl (Nat.le_of_ble_eq_true rfl) (fun x6 => ?_)
          show Go (wCB E) _ _ x2 58 _ [.int x6] _
          refine go_istore_n [(2, .int x6), (4, .int x5), (0, .ref (E.1 0)), (1, .int a1), (3, .int s3.2)] td_X12_soon 33 rfl (q := 59) rfl (Nat.le_of_ble_eq_true rfl) rfl ?_
          refine go_iinc [(3, .int (s3.2 + 1)), (2, .int x6), (4, .int x5), (0, .ref (E.1 0)), (1, .int a1)] td_X12_soon 34 rfl (q := 62) rfl 4 rfl kc_1 (Nat.le_of_ble_eq_true rfl) rfl ?_
          refine go_goto td_X12_soon 35 rfl (q := 24) rfl ?_
          refine go_pick [3, 4, 1, 0] (lv' := [(0, .ref (E.1 0)), (1, .int a1), (2, .int x6), (3, .int (s3.2 + 1))]) rfl ?_
          exact krec3 x6 (s3.2 + 1)
        · refine go_iconst td_X12_soon 28 rfl (q := 51) rfl kc_m1 ?_
          exact go_iret td_X12_soon 29 rfl rfl rfl
    · refine go_iconst td_X12_soon 6 rfl (q := 15) rfl kc_m1 ?_
      exact go_iret td_X12_soon 7 rfl rfl rfl
def fB_M_next (a1 : Int32) (a2 : Int32) (a3 : Int32) (g : G) : Option (Int32 × G) := Option.bind (fB_M_isTick a1 g) fun x1 => (if x1 = 0 then some ((-1), g) else Option.bind (fB_M_isCell a2 a3 g) fun x2 => (if x2 = 0 then some ((-1), g) else Option.bind (fB_M_laysSets g) fun x3 => Option.bind (fB_M_upSet x3) fun x4 => Option.bind (fB_M_nextOf (((x3.1 1) * a3) + a2) a1 x4 x3) fun x5 => some (x5, x3)))
set_option maxRecDepth 20000 in
set_option maxHeartbeats 4000000 in
theorem ok_fB_M_next (E : Ev) (a1 : Int32) (a2 : Int32) (a3 : Int32) (g : G)  : Ct (wCB E) yX12_next mi_X12_next [.ref (E.1 0), .int a1, .int a2, .int a3] (fun r => (some (.int r.1), r.2)) g (fB_M_next a1 a2 a3 g) := by
  refine go_enter rfl rfl (Nat.le_of_ble_eq_true rfl) (lv := [(0, .ref (E.1 0)), (1, .int a1), (2, .int a2), (3, .int a3)]) rfl ?_
  unfold fB_M_next
  refine go_iload_n td_X12_next 0 rfl (q := 1) rfl 1 rfl ?_
  refine go_callS td_X12_next 1 rfl (q := 4) rfl (XkB E) lk_X12_362 (ok_fB_M_isTick E a1 g) ⟨rfl, rfl, Nat.le_of_ble_eq_true rfl, Nat.le_of_ble_eq_true rfl⟩ rfl rfl (Nat.le_of_ble_eq_true rfl) (fun x1 => ?_)
  show Go (wCB E) _ _ g 4 _ [.int x1] _
  refine go_if_eq 16 td_X12_next 2 rfl rfl (q := 7) rfl (fun _ => ?_) (fun _ => ?_)
  · refine go_iconst td_X12_next 8 rfl (q := 17) rfl kc_m1 ?_
    exact go_iret td_X12_next 9 rfl rfl rfl
  · refine go_aload_n td_X12_next 3 rfl (q := 8) rfl 0 rfl ?_
    refine go_iload_n td_X12_next 4 rfl (q := 9) rfl 2 rfl ?_
    refine go_iload_n td_X12_next 5 rfl (q := 10) rfl 3 rfl ?_
    refine go_callV td_X12_next 6 rfl (q := 13) rfl (XkB E) lk_X12_365 (ok_fB_M_isCell E a2 a3 g) ⟨rfl, rfl, Nat.le_of_ble_eq_true rfl, Nat.le_of_ble_eq_true rfl⟩ rfl rfl (Nat.le_of_ble_eq_true rfl) (Bc_0 E g) rfl (fun x2 => ?_)
    show Go (wCB E) _ _ g 13 _ [.int x2] _
    refine go_if_ne 18 td_X12_next 7 rfl rfl (q := 16) rfl (fun _ => ?_) (fun _ => ?_)
    · refine go_aload_n td_X12_next 10 rfl (q := 19) rfl 0 rfl ?_
      refine go_callV td_X12_next 11 rfl (q := 22) rfl (XkB E) lk_X12_356 (ok_fB_M_laysSets E g) ⟨rfl, rfl, Nat.le_of_ble_eq_true rfl, Nat.le_of_ble_eq_true rfl⟩ rfl rfl (Nat.le_of_ble_eq_true rfl) (Bc_0 E g) rfl (fun x3 => ?_)
      show Go (wCB E) _ _ x3 22 _ [] _
      refine go_aload_n td_X12_next 12 rfl (q := 23) rfl 0 rfl ?_
      refine go_aload_n td_X12_next 13 rfl (q := 24) rfl 0 rfl ?_
      refine go_get td_X12_next 14 rfl (q := 27) rfl fl_X12_13 (Bc_0 E x3) rfl ?_
      refine go_iload_n td_X12_next 15 rfl (q := 28) rfl 3 rfl ?_
      refine go_imul td_X12_next 16 rfl (q := 29) rfl ?_
      refine go_iload_n td_X12_next 17 rfl (q := 30) rfl 2 rfl ?_
      refine go_iadd td_X12_next 18 rfl (q := 31) rfl ?_
      refine go_iload_n td_X12_next 19 rfl (q := 32) rfl 1 rfl ?_
      refine go_aload_n td_X12_next 20 rfl (q := 33) rfl 0 rfl ?_
      refine go_callV td_X12_next 21 rfl (q := 36) rfl (XkB E) lk_X12_359 (ok_fB_M_upSet E x3) ⟨rfl, rfl, Nat.le_of_ble_eq_true rfl, Nat.le_of_ble_eq_true rfl⟩ rfl rfl (Nat.le_of_ble_eq_true rfl) (Bc_0 E x3) rfl (fun x4 => ?_)
      show Go (wCB E) _ _ x3 36 _ [.int x4, .int a1, .int (((x3.1 1) * a3) + a2), .ref (E.1 0)] _
      refine go_callV td_X12_next 22 rfl (q := 39) rfl (XkB E) lk_X12_404 (ok_fB_M_nextOf E (((x3.1 1) * a3) + a2) a1 x4 x3) ⟨rfl, rfl, Nat.le_of_ble_eq_true rfl, Nat.le_of_ble_eq_true rfl⟩ rfl rfl (Nat.le_of_ble_eq_true rfl) (Bc_0 E x3) rfl (fun x5 => ?_)
      show Go (wCB E) _ _ x3 39 _ [.int x5] _
      exact go_iret td_X12_next 23 rfl rfl rfl
    · refine go_iconst td_X12_next 8 rfl (q := 17) rfl kc_m1 ?_
      exact go_iret td_X12_next 9 rfl rfl rfl
def fB_M_best (a1 : Int32) (a2 : Int32) (g : G) : Option (Int32 × G) := Option.bind (fB_M_isCraft a1 g) fun x1 => (if x1 = 0 then some ((-1), g) else Option.bind (fB_M_isIn a2 0 1 g) fun x2 => (if x2 = 0 then some ((-1), g) else Option.bind (fB_M_laysSets g) fun x3 => ag 28 (x3.2.1 20) (12 + a1) fun x4 => Lp (α := Int32 × Int32 × G) (fun rec5 s5 => Option.bind (fB_M_turnOf a1 s5.2.2) fun x6 => (if x6 ≤ s5.2.1 then ck 28 (12 + a1) (bv (sA s5.2.2 20 (12 + a1 : Int32).toNatClampNeg x4) fun g7 => Option.bind (fB_M_laysOne a1 g7) fun x8 => (if a2 = 0 then some (s5.1, x8) else Option.bind (fB_Float_floatToIntBits (x8.2.2.2.1 0) x8) fun x9 => some (x9, x8))) else ck 28 (12 + a1) (bv (sA s5.2.2 20 (12 + a1 : Int32).toNatClampNeg s5.2.1) fun g10 => Option.bind (fB_M_laysOne a1 g10) fun x11 => Option.bind (fB_M_upSet x11) fun x12 => Option.bind (fB_M_scoreBy x12 x11) fun x13 => lj (α := Int32 × G) (fun b14 => rec5 (b14.1, s5.2.1 + 1, b14.2)) fun J14 => lj (α := Unit) (fun b15 => bv (sF x11 0 x13) fun g16 => J14 (s5.2.1, g16)) fun J15 => (if s5.1 = (-1) then J15 () else (if 0 < (Op.cmpValue (FP.fcmp x13 (x11.2.2.2.1 0)) .g) then J15 () else J14 (s5.1, x11)))))) FU ((-1), 0, x3)))
set_option maxRecDepth 20000 in
set_option maxHeartbeats 4000000 in
theorem ok_fB_M_best (E : Ev) (a1 : Int32) (a2 : Int32) (g : G)  : Ct (wCB E) yX12_best mi_X12_best [.ref (E.1 0), .int a1, .int a2] (fun r => (some (.int r.1), r.2)) g (fB_M_best a1 a2 g) := by
  refine go_enter rfl rfl (Nat.le_of_ble_eq_true rfl) (lv := [(0, .ref (E.1 0)), (1, .int a1), (2, .int a2)]) rfl ?_
  unfold fB_M_best
  refine go_aload_n td_X12_best 0 rfl (q := 1) rfl 0 rfl ?_
  refine go_iload_n td_X12_best 1 rfl (q := 2) rfl 1 rfl ?_
  refine go_callV td_X12_best 2 rfl (q := 5) rfl (XkB E) lk_X12_350 (ok_fB_M_isCraft E a1 g) ⟨rfl, rfl, Nat.le_of_ble_eq_true rfl, Nat.le_of_ble_eq_true rfl⟩ rfl rfl (Nat.le_of_ble_eq_true rfl) (Bc_0 E g) rfl (fun x1 => ?_)
  show Go (wCB E) _ _ g 5 _ [.int x1] _
  refine go_if_eq 17 td_X12_best 3 rfl rfl (q := 8) rfl (fun _ => ?_) (fun _ => ?_)
  · refine go_iconst td_X12_best 9 rfl (q := 18) rfl kc_m1 ?_
    exact go_iret td_X12_best 10 rfl rfl rfl
  · refine go_iload_n td_X12_best 4 rfl (q := 9) rfl 2 rfl ?_
    refine go_iconst td_X12_best 5 rfl (q := 10) rfl kc_0 ?_
    refine go_iconst td_X12_best 6 rfl (q := 11) rfl kc_1 ?_
    refine go_callS td_X12_best 7 rfl (q := 14) rfl (XkB E) lk_X12_248 (ok_fB_M_isIn E a2 0 1 g) ⟨rfl, rfl, Nat.le_of_ble_eq_true rfl, Nat.le_of_ble_eq_true rfl⟩ rfl rfl (Nat.le_of_ble_eq_true rfl) (fun x2 => ?_)
    show Go (wCB E) _ _ g 14 _ [.int x2] _
    refine go_if_ne 19 td_X12_best 8 rfl rfl (q := 17) rfl (fun _ => ?_) (fun _ => ?_)
    · refine go_aload_n td_X12_best 11 rfl (q := 20) rfl 0 rfl ?_
      refine go_callV td_X12_best 12 rfl (q := 23) rfl (XkB E) lk_X12_356 (ok_fB_M_laysSets E g) ⟨rfl, rfl, Nat.le_of_ble_eq_true rfl, Nat.le_of_ble_eq_true rfl⟩ rfl rfl (Nat.le_of_ble_eq_true rfl) (Bc_0 E g) rfl (fun x3 => ?_)
      show Go (wCB E) _ _ x3 23 _ [] _
      refine go_aload_n td_X12_best 13 rfl (q := 24) rfl 0 rfl ?_
      refine go_get td_X12_best 14 rfl (q := 27) rfl fl_X12_141 (Bc_0 E x3) rfl ?_
      refine go_bipush td_X12_best 15 rfl (q := 29) rfl kb_12 ?_
      refine go_iload_n td_X12_best 16 rfl (q := 30) rfl 1 rfl ?_
      refine go_iadd td_X12_best 17 rfl (q := 31) rfl ?_
      refine go_ald td_X12_best 18 rfl (q := 32) rfl (Bc_20 E x3) (t0 := 0) rfl (fun x4 => ?_)
      refine go_istore_n [(3, .int x4), (0, .ref (E.1 0)), (1, .int a1), (2, .int a2)] td_X12_best 19 rfl (q := 33) rfl (Nat.le_of_ble_eq_true rfl) rfl ?_
      refine go_iconst td_X12_best 20 rfl (q := 34) rfl kc_m1 ?_
      refine go_istore [(4, .int (-1)), (3, .int x4), (0, .ref (E.1 0)), (1, .int a1), (2, .int a2)] td_X12_best 21 rfl (q := 36) rfl (Nat.le_of_ble_eq_true rfl) rfl ?_
      refine go_iconst td_X12_best 22 rfl (q := 37) rfl kc_0 ?_
      refine go_istore [(5, .int 0), (4, .int (-1)), (3, .int x4), (0, .ref (E.1 0)), (1, .int a1), (2, .int a2)] td_X12_best 23 rfl (q := 39) rfl (Nat.le_of_ble_eq_true rfl) rfl ?_
      refine go_pick [3, 4, 5, 2, 1, 0] (lv' := [(0, .ref (E.1 0)), (1, .int a1), (2, .int a2), (3, .int x4), (4, .int (-1)), (5, .int 0)]) rfl ?_
      refine (show ∀ (u5_0 : Int32) (u5_1 : Int32) (u5_2 : G), Go (wCB E) _ _ u5_2 39 [(0, .ref (E.1 0)), (1, .int a1), (2, .int a2), (3, .int x4), (4, .int u5_0), (5, .int u5_1)] [] (Lp (α := Int32 × Int32 × G) _ FU (u5_0, u5_1, u5_2)) from ?_) (-1) 0 x3
      intro u5_0 u5_1 u5_2
      refine go_Lp (α := Int32 × Int32 × G) (fun s5 => s5.2.2) (fun s5 => [(0, .ref (E.1 0)), (1, .int a1), (2, .int a2), (3, .int x4), (4, .int s5.1), (5, .int s5.2.1)]) ?_ FU (u5_0, u5_1, u5_2)
      intro rec5 hrec5 s5
      have krec5 : ∀ (u5_0 : Int32) (u5_1 : Int32) (u5_2 : G), Go (wCB E) _ _ u5_2 39 [(0, .ref (E.1 0)), (1, .int a1), (2, .int a2), (3, .int x4), (4, .int u5_0), (5, .int u5_1)] [] (rec5 (u5_0, u5_1, u5_2)) := fun u5_0 u5_1 u5_2 => hrec5 (u5_0, u5_1, u5_2)
      refine go_iload td_X12_best 24 rfl (q := 41) rfl 5 rfl ?_
      refine go_aload_n td_X12_best 25 rfl (q := 42) rfl 0 rfl ?_
      refine go_iload_n td_X12_best 26 rfl (q := 43) rfl 1 rfl ?_
      refine go_callV td_X12_best 27 rfl (q := 46) rfl (XkB E) lk_X12_305 (ok_fB_M_turnOf E a1 s5.2.2) ⟨rfl, rfl, Nat.le_of_ble_eq_true rfl, Nat.le_of_ble_eq_true rfl⟩ rfl rfl (Nat.le_of_ble_eq_true rfl) (Bc_0 E s5.2.2) rfl (fun x6 => ?_)
      show Go (wCB E) _ _ s5.2.2 46 _ [.int x6, .int s5.2.1] _
      refine go_icmp_ge 110 td_X12_best 28 rfl rfl (q := 49) rfl (fun _ => ?_) (fun _ => ?_)
      · refine go_aload_n td_X12_best 60 rfl (q := 111) rfl 0 rfl ?_
        refine go_get td_X12_best 61 rfl (q := 114) rfl fl_X12_141 (Bc_0 E s5.2.2) rfl ?_
        refine go_bipush td_X12_best 62 rfl (q := 116) rfl kb_12 ?_
        refine go_iload_n td_X12_best 63 rfl (q := 117) rfl 1 rfl ?_
        refine go_iadd td_X12_best 64 rfl (q := 118) rfl ?_
        refine go_iload_n td_X12_best 65 rfl (q := 119) rfl 3 rfl ?_
        refine go_ast td_X12_best 66 rfl (q := 120) rfl (Bc_20 E s5.2.2) (t0 := 0) rfl (Bas_20 E s5.2.2 _) ?_
        refine go_bvg (fun g7 => ?_)
        refine go_aload_n td_X12_best 67 rfl (q := 121) rfl 0 rfl ?_
        refine go_iload_n td_X12_best 68 rfl (q := 122) rfl 1 rfl ?_
        refine go_callV td_X12_best 69 rfl (q := 125) rfl (XkB E) lk_X12_324 (ok_fB_M_laysOne E a1 g7) ⟨rfl, rfl, Nat.le_of_ble_eq_true rfl, Nat.le_of_ble_eq_true rfl⟩ rfl rfl (Nat.le_of_ble_eq_true rfl) (Bc_0 E g7) rfl (fun x8 => ?_)
        show Go (wCB E) _ _ x8 125 _ [] _
        refine go_iload_n td_X12_best 70 rfl (q := 126) rfl 2 rfl ?_
        refine go_if_ne 134 td_X12_best 71 rfl rfl (q := 129) rfl (fun _ => ?_) (fun _ => ?_)
        · refine go_aload_n td_X12_best 74 rfl (q := 135) rfl 0 rfl ?_
          refine go_get td_X12_best 75 rfl (q := 138) rfl fl_X12_175 (Bc_0 E x8) rfl ?_
          refine go_callS td_X12_best 76 rfl (q := 141) rfl (XkB E) lk_X12_394 (ok_fB_Float_floatToIntBits E (x8.2.2.2.1 0) x8) ⟨rfl, rfl, Nat.le_of_ble_eq_true rfl, Nat.le_of_ble_eq_true rfl⟩ rfl rfl (Nat.le_of_ble_eq_true rfl) (fun x9 => ?_)
          show Go (wCB E) _ _ x8 141 _ [.int x9] _
          exact go_iret td_X12_best 77 rfl rfl rfl
        · refine go_iload td_X12_best 72 rfl (q := 131) rfl 4 rfl ?_
          refine go_goto td_X12_best 73 rfl (q := 141) rfl ?_
          exact go_iret td_X12_best 77 rfl rfl rfl
      · refine go_aload_n td_X12_best 29 rfl (q := 50) rfl 0 rfl ?_
        refine go_get td_X12_best 30 rfl (q := 53) rfl fl_X12_141 (Bc_0 E s5.2.2) rfl ?_
        refine go_bipush td_X12_best 31 rfl (q := 55) rfl kb_12 ?_
        refine go_iload_n td_X12_best 32 rfl (q := 56) rfl 1 rfl ?_
        refine go_iadd td_X12_best 33 rfl (q := 57) rfl ?_
        refine go_iload td_X12_best 34 rfl (q := 59) rfl 5 rfl ?_
        refine go_ast td_X12_best 35 rfl (q := 60) rfl (Bc_20 E s5.2.2) (t0 := 0) rfl (Bas_20 E s5.2.2 _) ?_
        refine go_bvg (fun g10 => ?_)
        refine go_aload_n td_X12_best 36 rfl (q := 61) rfl 0 rfl ?_
        refine go_iload_n td_X12_best 37 rfl (q := 62) rfl 1 rfl ?_
        refine go_callV td_X12_best 38 rfl (q := 65) rfl (XkB E) lk_X12_324 (ok_fB_M_laysOne E a1 g10) ⟨rfl, rfl, Nat.le_of_ble_eq_true rfl, Nat.le_of_ble_eq_true rfl⟩ rfl rfl (Nat.le_of_ble_eq_true rfl) (Bc_0 E g10) rfl (fun x11 => ?_)
        show Go (wCB E) _ _ x11 65 _ [] _
        refine go_aload_n td_X12_best 39 rfl (q := 66) rfl 0 rfl ?_
        refine go_aload_n td_X12_best 40 rfl (q := 67) rfl 0 rfl ?_
        refine go_callV td_X12_best 41 rfl (q := 70) rfl (XkB E) lk_X12_359 (ok_fB_M_upSet E x11) ⟨rfl, rfl, Nat.le_of_ble_eq_true rfl, Nat.le_of_ble_eq_true rfl⟩ rfl rfl (Nat.le_of_ble_eq_true rfl) (Bc_0 E x11) rfl (fun x12 => ?_)
        show Go (wCB E) _ _ x11 70 _ [.int x12, .ref (E.1 0)] _
        refine go_callV td_X12_best 42 rfl (q := 73) rfl (XkB E) lk_X12_400 (ok_fB_M_scoreBy E x12 x11) ⟨rfl, rfl, Nat.le_of_ble_eq_true rfl, Nat.le_of_ble_eq_true rfl⟩ rfl rfl (Nat.le_of_ble_eq_true rfl) (Bc_0 E x11) rfl (fun x13 => ?_)
        show Go (wCB E) _ _ x11 73 _ [.float x13] _
        refine go_fstore [(6, .float x13), (0, .ref (E.1 0)), (1, .int a1), (2, .int a2), (3, .int x4), (4, .int s5.1), (5, .int s5.2.1)] td_X12_best 43 rfl (q := 75) rfl (Nat.le_of_ble_eq_true rfl) rfl ?_
        refine go_iload td_X12_best 44 rfl (q := 77) rfl 5 rfl ?_
        refine go_iconst td_X12_best 45 rfl (q := 78) rfl kc_m1 ?_
        refine go_ljX (α := Int32 × G) (fun b14 => [(0, .ref (E.1 0)), (1, .int a1), (2, .int a2), (3, .int x4), (4, .int b14.1), (5, .int s5.2.1)]) (fun b14 => []) (fun b14 => b14.2) 104 ?_ ?_
        · intro b14
          refine go_iinc [(5, .int (s5.2.1 + 1)), (0, .ref (E.1 0)), (1, .int a1), (2, .int a2), (3, .int x4), (4, .int b14.1)] td_X12_best 58 rfl (q := 107) rfl 5 rfl kc_1 (Nat.le_of_ble_eq_true rfl) rfl ?_
          refine go_goto td_X12_best 59 rfl (q := 39) rfl ?_
          refine go_pick [1, 2, 3, 4, 5, 0] (lv' := [(0, .ref (E.1 0)), (1, .int a1), (2, .int a2), (3, .int x4), (4, .int b14.1), (5, .int (s5.2.1 + 1))]) rfl ?_
          exact krec5 b14.1 (s5.2.1 + 1) b14.2
        intro J14 hJ14
        have kJ14 : ∀ (u14_0 : Int32) (u14_1 : G), Go (wCB E) _ _ u14_1 104 [(0, .ref (E.1 0)), (1, .int a1), (2, .int a2), (3, .int x4), (4, .int u14_0), (5, .int s5.2.1)] [] (J14 (u14_0, u14_1)) := fun u14_0 u14_1 => hJ14 (u14_0, u14_1)
        refine go_ljX (α := Unit) (fun b15 => [(0, .ref (E.1 0)), (1, .int a1), (2, .int a2), (3, .int x4), (5, .int s5.2.1), (6, .float x13)]) (fun b15 => []) (fun b15 => x11) 94 ?_ ?_
        · intro b15
          refine go_iload td_X12_best 53 rfl (q := 96) rfl 4 rfl ?_
          refine go_istore [(4, .int s5.2.1), (0, .ref (E.1 0)), (1, .int a1), (2, .int a2), (3, .int x4), (5, .int s5.2.1), (6, .float x13)] td_X12_best 54 rfl (q := 98) rfl (Nat.le_of_ble_eq_true rfl) rfl ?_
          refine go_aload_n td_X12_best 55 rfl (q := 99) rfl 1 rfl ?_
          refine go_fload td_X12_best 56 rfl (q := 101) rfl 6 rfl ?_
          refine go_put td_X12_best 57 rfl (q := 104) rfl flp_X12_175 (Bc_0 E x11) rfl rfl (Nat.le_of_ble_eq_true rfl) (Bpf E x11 x13) ?_
          refine go_bvg (fun g16 => ?_)
          refine go_pick [1, 2, 3, 4, 0, 5] (lv' := [(0, .ref (E.1 0)), (1, .int a1), (2, .int a2), (3, .int x4), (4, .int s5.2.1), (5, .int s5.2.1)]) rfl ?_
          exact kJ14 s5.2.1 g16
        intro J15 hJ15
        have kJ15 : Go (wCB E) _ _ x11 94 [(0, .ref (E.1 0)), (1, .int a1), (2, .int a2), (3, .int x4), (5, .int s5.2.1), (6, .float x13)] [] (J15 ()) := hJ15 ()
        refine go_icmp_eq 94 td_X12_best 46 rfl rfl (q := 81) rfl (fun _ => ?_) (fun _ => ?_)
        · refine go_pick [1, 2, 3, 4, 6, 0] (lv' := [(0, .ref (E.1 0)), (1, .int a1), (2, .int a2), (3, .int x4), (5, .int s5.2.1), (6, .float x13)]) rfl ?_
          exact kJ15 
        · refine go_fload td_X12_best 47 rfl (q := 83) rfl 0 rfl ?_
          refine go_aload_n td_X12_best 48 rfl (q := 84) rfl 1 rfl ?_
          refine go_get td_X12_best 49 rfl (q := 87) rfl fl_X12_175 (Bc_0 E x11) rfl ?_
          refine go_fcmp td_X12_best 50 rfl (q := 88) rfl ?_
          refine go_if_gt 94 td_X12_best 51 rfl rfl (q := 91) rfl (fun _ => ?_) (fun _ => ?_)
          · refine go_pick [1, 2, 3, 4, 6, 0] (lv' := [(0, .ref (E.1 0)), (1, .int a1), (2, .int a2), (3, .int x4), (5, .int s5.2.1), (6, .float x13)]) rfl ?_
            exact kJ15 
          · refine go_goto td_X12_best 52 rfl (q := 104) rfl ?_
            refine go_pick [1, 2, 3, 4, 5, 6] (lv' := [(0, .ref (E.1 0)), (1, .int a1), (2, .int a2), (3, .int x4), (4, .int s5.1), (5, .int s5.2.1)]) rfl ?_
            exact kJ14 s5.1 x11
    · refine go_iconst td_X12_best 9 rfl (q := 18) rfl kc_m1 ?_
      exact go_iret td_X12_best 10 rfl rfl rfl
def fB_M_laysPlane (a1 : Int32) (g : G) : Option (G) := Lp (α := Int32 × G) (fun rec1 s1 => (if (s1.2.1 5) ≤ s1.1 then some s1.2 else ag 8 (s1.2.2.1 4) s1.1 fun x2 => lj (α := G) (fun b3 => rec1 (s1.1 + 1, b3)) fun J3 => (if x2 = a1 then Option.bind (fB_M_laysOne s1.1 s1.2) fun x4 => J3 x4 else J3 s1.2))) FU (0, g)
set_option maxRecDepth 20000 in
set_option maxHeartbeats 4000000 in
theorem ok_fB_M_laysPlane (E : Ev) (a1 : Int32) (g : G)  : Ct (wCB E) yX12_laysPlane mi_X12_laysPlane [.ref (E.1 0), .int a1] (fun r => (none, r)) g (fB_M_laysPlane a1 g) := by
  refine go_enter rfl rfl (Nat.le_of_ble_eq_true rfl) (lv := [(0, .ref (E.1 0)), (1, .int a1)]) rfl ?_
  unfold fB_M_laysPlane
  refine go_iconst td_X12_laysPlane 0 rfl (q := 1) rfl kc_0 ?_
  refine go_istore_n [(2, .int 0), (0, .ref (E.1 0)), (1, .int a1)] td_X12_laysPlane 1 rfl (q := 2) rfl (Nat.le_of_ble_eq_true rfl) rfl ?_
  refine go_pick [1, 2, 0] (lv' := [(0, .ref (E.1 0)), (1, .int a1), (2, .int 0)]) rfl ?_
  refine (show ∀ (u1_0 : Int32) (u1_1 : G), Go (wCB E) _ _ u1_1 2 [(0, .ref (E.1 0)), (1, .int a1), (2, .int u1_0)] [] (Lp (α := Int32 × G) _ FU (u1_0, u1_1)) from ?_) 0 g
  intro u1_0 u1_1
  refine go_Lp (α := Int32 × G) (fun s1 => s1.2) (fun s1 => [(0, .ref (E.1 0)), (1, .int a1), (2, .int s1.1)]) ?_ FU (u1_0, u1_1)
  intro rec1 hrec1 s1
  have krec1 : ∀ (u1_0 : Int32) (u1_1 : G), Go (wCB E) _ _ u1_1 2 [(0, .ref (E.1 0)), (1, .int a1), (2, .int u1_0)] [] (rec1 (u1_0, u1_1)) := fun u1_0 u1_1 => hrec1 (u1_0, u1_1)
  refine go_iload_n td_X12_laysPlane 2 rfl (q := 3) rfl 2 rfl ?_
  refine go_aload_n td_X12_laysPlane 3 rfl (q := 4) rfl 0 rfl ?_
  refine go_get td_X12_laysPlane 4 rfl (q := 7) rfl fl_X12_26 (Bc_0 E s1.2) rfl ?_
  refine go_icmp_ge 31 td_X12_laysPlane 5 rfl rfl (q := 10) rfl (fun _ => ?_) (fun _ => ?_)
  · exact go_vret td_X12_laysPlane 17 rfl rfl rfl
  · refine go_aload_n td_X12_laysPlane 6 rfl (q := 11) rfl 0 rfl ?_
    refine go_get td_X12_laysPlane 7 rfl (q := 14) rfl fl_X12_51 (Bc_0 E s1.2) rfl ?_
    refine go_iload_n td_X12_laysPlane 8 rfl (q := 15) rfl 2 rfl ?_
    refine go_ald td_X12_laysPlane 9 rfl (q := 16) rfl (Bc_4 E s1.2) (t0 := 0) rfl (fun x2 => ?_)
    refine go_iload_n td_X12_laysPlane 10 rfl (q := 17) rfl 1 rfl ?_
    refine go_ljX (α := G) (fun b3 => [(0, .ref (E.1 0)), (1, .int a1), (2, .int s1.1)]) (fun b3 => []) (fun b3 => b3) 25 ?_ ?_
    · intro b3
      refine go_iinc [(2, .int (s1.1 + 1)), (0, .ref (E.1 0)), (1, .int a1)] td_X12_laysPlane 15 rfl (q := 28) rfl 2 rfl kc_1 (Nat.le_of_ble_eq_true rfl) rfl ?_
      refine go_goto td_X12_laysPlane 16 rfl (q := 2) rfl ?_
      refine go_pick [1, 2, 0] (lv' := [(0, .ref (E.1 0)), (1, .int a1), (2, .int (s1.1 + 1))]) rfl ?_
      exact krec1 (s1.1 + 1) b3
    intro J3 hJ3
    have kJ3 : ∀ (u3_0 : G), Go (wCB E) _ _ u3_0 25 [(0, .ref (E.1 0)), (1, .int a1), (2, .int s1.1)] [] (J3 u3_0) := fun u3_0 => hJ3 u3_0
    refine go_icmp_ne 25 td_X12_laysPlane 11 rfl rfl (q := 20) rfl (fun _ => ?_) (fun _ => ?_)
    · refine go_pick [0, 1, 2] (lv' := [(0, .ref (E.1 0)), (1, .int a1), (2, .int s1.1)]) rfl ?_
      exact kJ3 s1.2
    · refine go_aload_n td_X12_laysPlane 12 rfl (q := 21) rfl 0 rfl ?_
      refine go_iload_n td_X12_laysPlane 13 rfl (q := 22) rfl 2 rfl ?_
      refine go_callV td_X12_laysPlane 14 rfl (q := 25) rfl (XkB E) lk_X12_324 (ok_fB_M_laysOne E s1.1 s1.2) ⟨rfl, rfl, Nat.le_of_ble_eq_true rfl, Nat.le_of_ble_eq_true rfl⟩ rfl rfl (Nat.le_of_ble_eq_true rfl) (Bc_0 E s1.2) rfl (fun x4 => ?_)
      show Go (wCB E) _ _ x4 25 _ [] _
      refine go_pick [0, 1, 2] (lv' := [(0, .ref (E.1 0)), (1, .int a1), (2, .int s1.1)]) rfl ?_
      exact kJ3 x4
def fB_M_bestNode (a1 : Int32) (a2 : Int32) (g : G) : Option (Int32 × G) := Option.bind (fB_M_isPlane a1 g) fun x1 => (if x1 = 0 then some ((-1), g) else Option.bind (fB_M_isIn a2 0 1 g) fun x2 => (if x2 = 0 then some ((-1), g) else Option.bind (fB_M_laysSets g) fun x3 => ag 28 (x3.2.1 20) (0 + a1) fun x4 => Lp (α := Int32 × Int32 × G) (fun rec5 s5 => (if (s5.2.2.1 1) ≤ s5.2.1 then ck 28 (0 + a1) (bv (sA s5.2.2 20 (0 + a1 : Int32).toNatClampNeg x4) fun g6 => Option.bind (fB_M_laysPlane a1 g6) fun x7 => (if a2 = 0 then some (s5.1, x7) else Option.bind (fB_Float_floatToIntBits (x7.2.2.2.1 0) x7) fun x8 => some (x8, x7))) else ck 28 (0 + a1) (bv (sA s5.2.2 20 (0 + a1 : Int32).toNatClampNeg s5.2.1) fun g9 => Option.bind (fB_M_laysPlane a1 g9) fun x10 => Option.bind (fB_M_upSet x10) fun x11 => Option.bind (fB_M_scoreBy x11 x10) fun x12 => lj (α := Int32 × G) (fun b13 => rec5 (b13.1, s5.2.1 + 1, b13.2)) fun J13 => lj (α := Unit) (fun b14 => bv (sF x10 0 x12) fun g15 => J13 (s5.2.1, g15)) fun J14 => (if s5.1 = (-1) then J14 () else (if 0 < (Op.cmpValue (FP.fcmp x12 (x10.2.2.2.1 0)) .g) then J14 () else J13 (s5.1, x10)))))) FU ((-1), 0, x3)))
set_option maxRecDepth 20000 in
set_option maxHeartbeats 4000000 in
theorem ok_fB_M_bestNode (E : Ev) (a1 : Int32) (a2 : Int32) (g : G)  : Ct (wCB E) yX12_bestNode mi_X12_bestNode [.ref (E.1 0), .int a1, .int a2] (fun r => (some (.int r.1), r.2)) g (fB_M_bestNode a1 a2 g) := by
  refine go_enter rfl rfl (Nat.le_of_ble_eq_true rfl) (lv := [(0, .ref (E.1 0)), (1, .int a1), (2, .int a2)]) rfl ?_
  unfold fB_M_bestNode
  refine go_aload_n td_X12_bestNode 0 rfl (q := 1) rfl 0 rfl ?_
  refine go_iload_n td_X12_bestNode 1 rfl (q := 2) rfl 1 rfl ?_
  refine go_callV td_X12_bestNode 2 rfl (q := 5) rfl (XkB E) lk_X12_347 (ok_fB_M_isPlane E a1 g) ⟨rfl, rfl, Nat.le_of_ble_eq_true rfl, Nat.le_of_ble_eq_true rfl⟩ rfl rfl (Nat.le_of_ble_eq_true rfl) (Bc_0 E g) rfl (fun x1 => ?_)
  show Go (wCB E) _ _ g 5 _ [.int x1] _
  refine go_if_eq 17 td_X12_bestNode 3 rfl rfl (q := 8) rfl (fun _ => ?_) (fun _ => ?_)
  · refine go_iconst td_X12_bestNode 9 rfl (q := 18) rfl kc_m1 ?_
    exact go_iret td_X12_bestNode 10 rfl rfl rfl
  · refine go_iload_n td_X12_bestNode 4 rfl (q := 9) rfl 2 rfl ?_
    refine go_iconst td_X12_bestNode 5 rfl (q := 10) rfl kc_0 ?_
    refine go_iconst td_X12_bestNode 6 rfl (q := 11) rfl kc_1 ?_
    refine go_callS td_X12_bestNode 7 rfl (q := 14) rfl (XkB E) lk_X12_248 (ok_fB_M_isIn E a2 0 1 g) ⟨rfl, rfl, Nat.le_of_ble_eq_true rfl, Nat.le_of_ble_eq_true rfl⟩ rfl rfl (Nat.le_of_ble_eq_true rfl) (fun x2 => ?_)
    show Go (wCB E) _ _ g 14 _ [.int x2] _
    refine go_if_ne 19 td_X12_bestNode 8 rfl rfl (q := 17) rfl (fun _ => ?_) (fun _ => ?_)
    · refine go_aload_n td_X12_bestNode 11 rfl (q := 20) rfl 0 rfl ?_
      refine go_callV td_X12_bestNode 12 rfl (q := 23) rfl (XkB E) lk_X12_356 (ok_fB_M_laysSets E g) ⟨rfl, rfl, Nat.le_of_ble_eq_true rfl, Nat.le_of_ble_eq_true rfl⟩ rfl rfl (Nat.le_of_ble_eq_true rfl) (Bc_0 E g) rfl (fun x3 => ?_)
      show Go (wCB E) _ _ x3 23 _ [] _
      refine go_aload_n td_X12_bestNode 13 rfl (q := 24) rfl 0 rfl ?_
      refine go_get td_X12_bestNode 14 rfl (q := 27) rfl fl_X12_141 (Bc_0 E x3) rfl ?_
      refine go_iconst td_X12_bestNode 15 rfl (q := 28) rfl kc_0 ?_
      refine go_iload_n td_X12_bestNode 16 rfl (q := 29) rfl 1 rfl ?_
      refine go_iadd td_X12_bestNode 17 rfl (q := 30) rfl ?_
      refine go_ald td_X12_bestNode 18 rfl (q := 31) rfl (Bc_20 E x3) (t0 := 0) rfl (fun x4 => ?_)
      refine go_istore_n [(3, .int x4), (0, .ref (E.1 0)), (1, .int a1), (2, .int a2)] td_X12_bestNode 19 rfl (q := 32) rfl (Nat.le_of_ble_eq_true rfl) rfl ?_
      refine go_iconst td_X12_bestNode 20 rfl (q := 33) rfl kc_m1 ?_
      refine go_istore [(4, .int (-1)), (3, .int x4), (0, .ref (E.1 0)), (1, .int a1), (2, .int a2)] td_X12_bestNode 21 rfl (q := 35) rfl (Nat.le_of_ble_eq_true rfl) rfl ?_
      refine go_iconst td_X12_bestNode 22 rfl (q := 36) rfl kc_0 ?_
      refine go_istore [(5, .int 0), (4, .int (-1)), (3, .int x4), (0, .ref (E.1 0)), (1, .int a1), (2, .int a2)] td_X12_bestNode 23 rfl (q := 38) rfl (Nat.le_of_ble_eq_true rfl) rfl ?_
      refine go_pick [3, 4, 5, 2, 1, 0] (lv' := [(0, .ref (E.1 0)), (1, .int a1), (2, .int a2), (3, .int x4), (4, .int (-1)), (5, .int 0)]) rfl ?_
      refine (show ∀ (u5_0 : Int32) (u5_1 : Int32) (u5_2 : G), Go (wCB E) _ _ u5_2 38 [(0, .ref (E.1 0)), (1, .int a1), (2, .int a2), (3, .int x4), (4, .int u5_0), (5, .int u5_1)] [] (Lp (α := Int32 × Int32 × G) _ FU (u5_0, u5_1, u5_2)) from ?_) (-1) 0 x3
      intro u5_0 u5_1 u5_2
      refine go_Lp (α := Int32 × Int32 × G) (fun s5 => s5.2.2) (fun s5 => [(0, .ref (E.1 0)), (1, .int a1), (2, .int a2), (3, .int x4), (4, .int s5.1), (5, .int s5.2.1)]) ?_ FU (u5_0, u5_1, u5_2)
      intro rec5 hrec5 s5
      have krec5 : ∀ (u5_0 : Int32) (u5_1 : Int32) (u5_2 : G), Go (wCB E) _ _ u5_2 38 [(0, .ref (E.1 0)), (1, .int a1), (2, .int a2), (3, .int x4), (4, .int u5_0), (5, .int u5_1)] [] (rec5 (u5_0, u5_1, u5_2)) := fun u5_0 u5_1 u5_2 => hrec5 (u5_0, u5_1, u5_2)
      refine go_iload td_X12_bestNode 24 rfl (q := 40) rfl 5 rfl ?_
      refine go_aload_n td_X12_bestNode 25 rfl (q := 41) rfl 0 rfl ?_
      refine go_get td_X12_bestNode 26 rfl (q := 44) rfl fl_X12_13 (Bc_0 E s5.2.2) rfl ?_
      refine go_icmp_ge 107 td_X12_bestNode 27 rfl rfl (q := 47) rfl (fun _ => ?_) (fun _ => ?_)
      · refine go_aload_n td_X12_bestNode 59 rfl (q := 108) rfl 0 rfl ?_
        refine go_get td_X12_bestNode 60 rfl (q := 111) rfl fl_X12_141 (Bc_0 E s5.2.2) rfl ?_
        refine go_iconst td_X12_bestNode 61 rfl (q := 112) rfl kc_0 ?_
        refine go_iload_n td_X12_bestNode 62 rfl (q := 113) rfl 1 rfl ?_
        refine go_iadd td_X12_bestNode 63 rfl (q := 114) rfl ?_
        refine go_iload_n td_X12_bestNode 64 rfl (q := 115) rfl 3 rfl ?_
        refine go_ast td_X12_bestNode 65 rfl (q := 116) rfl (Bc_20 E s5.2.2) (t0 := 0) rfl (Bas_20 E s5.2.2 _) ?_
        refine go_bvg (fun g6 => ?_)
        refine go_aload_n td_X12_bestNode 66 rfl (q := 117) rfl 0 rfl ?_
        refine go_iload_n td_X12_bestNode 67 rfl (q := 118) rfl 1 rfl ?_
        refine go_callV td_X12_bestNode 68 rfl (q := 121) rfl (XkB E) lk_X12_407 (ok_fB_M_laysPlane E a1 g6) ⟨rfl, rfl, Nat.le_of_ble_eq_true rfl, Nat.le_of_ble_eq_true rfl⟩ rfl rfl (Nat.le_of_ble_eq_true rfl) (Bc_0 E g6) rfl (fun x7 => ?_)
        show Go (wCB E) _ _ x7 121 _ [] _
        refine go_iload_n td_X12_bestNode 69 rfl (q := 122) rfl 2 rfl ?_
        refine go_if_ne 130 td_X12_bestNode 70 rfl rfl (q := 125) rfl (fun _ => ?_) (fun _ => ?_)
        · refine go_aload_n td_X12_bestNode 73 rfl (q := 131) rfl 0 rfl ?_
          refine go_get td_X12_bestNode 74 rfl (q := 134) rfl fl_X12_175 (Bc_0 E x7) rfl ?_
          refine go_callS td_X12_bestNode 75 rfl (q := 137) rfl (XkB E) lk_X12_394 (ok_fB_Float_floatToIntBits E (x7.2.2.2.1 0) x7) ⟨rfl, rfl, Nat.le_of_ble_eq_true rfl, Nat.le_of_ble_eq_true rfl⟩ rfl rfl (Nat.le_of_ble_eq_true rfl) (fun x8 => ?_)
          show Go (wCB E) _ _ x7 137 _ [.int x8] _
          exact go_iret td_X12_bestNode 76 rfl rfl rfl
        · refine go_iload td_X12_bestNode 71 rfl (q := 127) rfl 4 rfl ?_
          refine go_goto td_X12_bestNode 72 rfl (q := 137) rfl ?_
          exact go_iret td_X12_bestNode 76 rfl rfl rfl
      · refine go_aload_n td_X12_bestNode 28 rfl (q := 48) rfl 0 rfl ?_
        refine go_get td_X12_bestNode 29 rfl (q := 51) rfl fl_X12_141 (Bc_0 E s5.2.2) rfl ?_
        refine go_iconst td_X12_bestNode 30 rfl (q := 52) rfl kc_0 ?_
        refine go_iload_n td_X12_bestNode 31 rfl (q := 53) rfl 1 rfl ?_
        refine go_iadd td_X12_bestNode 32 rfl (q := 54) rfl ?_
        refine go_iload td_X12_bestNode 33 rfl (q := 56) rfl 5 rfl ?_
        refine go_ast td_X12_bestNode 34 rfl (q := 57) rfl (Bc_20 E s5.2.2) (t0 := 0) rfl (Bas_20 E s5.2.2 _) ?_
        refine go_bvg (fun g9 => ?_)
        refine go_aload_n td_X12_bestNode 35 rfl (q := 58) rfl 0 rfl ?_
        refine go_iload_n td_X12_bestNode 36 rfl (q := 59) rfl 1 rfl ?_
        refine go_callV td_X12_bestNode 37 rfl (q := 62) rfl (XkB E) lk_X12_407 (ok_fB_M_laysPlane E a1 g9) ⟨rfl, rfl, Nat.le_of_ble_eq_true rfl, Nat.le_of_ble_eq_true rfl⟩ rfl rfl (Nat.le_of_ble_eq_true rfl) (Bc_0 E g9) rfl (fun x10 => ?_)
        show Go (wCB E) _ _ x10 62 _ [] _
        refine go_aload_n td_X12_bestNode 38 rfl (q := 63) rfl 0 rfl ?_
        refine go_aload_n td_X12_bestNode 39 rfl (q := 64) rfl 0 rfl ?_
        refine go_callV td_X12_bestNode 40 rfl (q := 67) rfl (XkB E) lk_X12_359 (ok_fB_M_upSet E x10) ⟨rfl, rfl, Nat.le_of_ble_eq_true rfl, Nat.le_of_ble_eq_true rfl⟩ rfl rfl (Nat.le_of_ble_eq_true rfl) (Bc_0 E x10) rfl (fun x11 => ?_)
        show Go (wCB E) _ _ x10 67 _ [.int x11, .ref (E.1 0)] _
        refine go_callV td_X12_bestNode 41 rfl (q := 70) rfl (XkB E) lk_X12_400 (ok_fB_M_scoreBy E x11 x10) ⟨rfl, rfl, Nat.le_of_ble_eq_true rfl, Nat.le_of_ble_eq_true rfl⟩ rfl rfl (Nat.le_of_ble_eq_true rfl) (Bc_0 E x10) rfl (fun x12 => ?_)
        show Go (wCB E) _ _ x10 70 _ [.float x12] _
        refine go_fstore [(6, .float x12), (0, .ref (E.1 0)), (1, .int a1), (2, .int a2), (3, .int x4), (4, .int s5.1), (5, .int s5.2.1)] td_X12_bestNode 42 rfl (q := 72) rfl (Nat.le_of_ble_eq_true rfl) rfl ?_
        refine go_iload td_X12_bestNode 43 rfl (q := 74) rfl 5 rfl ?_
        refine go_iconst td_X12_bestNode 44 rfl (q := 75) rfl kc_m1 ?_
        refine go_ljX (α := Int32 × G) (fun b13 => [(0, .ref (E.1 0)), (1, .int a1), (2, .int a2), (3, .int x4), (4, .int b13.1), (5, .int s5.2.1)]) (fun b13 => []) (fun b13 => b13.2) 101 ?_ ?_
        · intro b13
          refine go_iinc [(5, .int (s5.2.1 + 1)), (0, .ref (E.1 0)), (1, .int a1), (2, .int a2), (3, .int x4), (4, .int b13.1)] td_X12_bestNode 57 rfl (q := 104) rfl 5 rfl kc_1 (Nat.le_of_ble_eq_true rfl) rfl ?_
          refine go_goto td_X12_bestNode 58 rfl (q := 38) rfl ?_
          refine go_pick [1, 2, 3, 4, 5, 0] (lv' := [(0, .ref (E.1 0)), (1, .int a1), (2, .int a2), (3, .int x4), (4, .int b13.1), (5, .int (s5.2.1 + 1))]) rfl ?_
          exact krec5 b13.1 (s5.2.1 + 1) b13.2
        intro J13 hJ13
        have kJ13 : ∀ (u13_0 : Int32) (u13_1 : G), Go (wCB E) _ _ u13_1 101 [(0, .ref (E.1 0)), (1, .int a1), (2, .int a2), (3, .int x4), (4, .int u13_0), (5, .int s5.2.1)] [] (J13 (u13_0, u13_1)) := fun u13_0 u13_1 => hJ13 (u13_0, u13_1)
        refine go_ljX (α := Unit) (fun b14 => [(0, .ref (E.1 0)), (1, .int a1), (2, .int a2), (3, .int x4), (5, .int s5.2.1), (6, .float x12)]) (fun b14 => []) (fun b14 => x10) 91 ?_ ?_
        · intro b14
          refine go_iload td_X12_bestNode 52 rfl (q := 93) rfl 4 rfl ?_
          refine go_istore [(4, .int s5.2.1), (0, .ref (E.1 0)), (1, .int a1), (2, .int a2), (3, .int x4), (5, .int s5.2.1), (6, .float x12)] td_X12_bestNode 53 rfl (q := 95) rfl (Nat.le_of_ble_eq_true rfl) rfl ?_
          refine go_aload_n td_X12_bestNode 54 rfl (q := 96) rfl 1 rfl ?_
          refine go_fload td_X12_bestNode 55 rfl (q := 98) rfl 6 rfl ?_
          refine go_put td_X12_bestNode 56 rfl (q := 101) rfl flp_X12_175 (Bc_0 E x10) rfl rfl (Nat.le_of_ble_eq_true rfl) (Bpf E x10 x12) ?_
          refine go_bvg (fun g15 => ?_)
          refine go_pick [1, 2, 3, 4, 0, 5] (lv' := [(0, .ref (E.1 0)), (1, .int a1), (2, .int a2), (3, .int x4), (4, .int s5.2.1), (5, .int s5.2.1)]) rfl ?_
          exact kJ13 s5.2.1 g15
        intro J14 hJ14
        have kJ14 : Go (wCB E) _ _ x10 91 [(0, .ref (E.1 0)), (1, .int a1), (2, .int a2), (3, .int x4), (5, .int s5.2.1), (6, .float x12)] [] (J14 ()) := hJ14 ()
        refine go_icmp_eq 91 td_X12_bestNode 45 rfl rfl (q := 78) rfl (fun _ => ?_) (fun _ => ?_)
        · refine go_pick [1, 2, 3, 4, 6, 0] (lv' := [(0, .ref (E.1 0)), (1, .int a1), (2, .int a2), (3, .int x4), (5, .int s5.2.1), (6, .float x12)]) rfl ?_
          exact kJ14 
        · refine go_fload td_X12_bestNode 46 rfl (q := 80) rfl 0 rfl ?_
          refine go_aload_n td_X12_bestNode 47 rfl (q := 81) rfl 1 rfl ?_
          refine go_get td_X12_bestNode 48 rfl (q := 84) rfl fl_X12_175 (Bc_0 E x10) rfl ?_
          refine go_fcmp td_X12_bestNode 49 rfl (q := 85) rfl ?_
          refine go_if_gt 91 td_X12_bestNode 50 rfl rfl (q := 88) rfl (fun _ => ?_) (fun _ => ?_)
          · refine go_pick [1, 2, 3, 4, 6, 0] (lv' := [(0, .ref (E.1 0)), (1, .int a1), (2, .int a2), (3, .int x4), (5, .int s5.2.1), (6, .float x12)]) rfl ?_
            exact kJ14 
          · refine go_goto td_X12_bestNode 51 rfl (q := 101) rfl ?_
            refine go_pick [1, 2, 3, 4, 5, 6] (lv' := [(0, .ref (E.1 0)), (1, .int a1), (2, .int a2), (3, .int x4), (4, .int s5.1), (5, .int s5.2.1)]) rfl ?_
            exact kJ13 s5.1 x10
    · refine go_iconst td_X12_bestNode 9 rfl (q := 18) rfl kc_m1 ?_
      exact go_iret td_X12_bestNode 10 rfl rfl rfl
def fB_M_spreads (a1 : Int32) (a2 : Int32) (g : G) : Option (G) := Option.bind (fB_M_upMany a1 g) fun x1 => Lp (α := Int32 × Int32 × G) (fun rec2 s2 => (if (s2.2.2.1 5) ≤ s2.2.1 then some s2.2.2 else ag 8 (s2.2.2.2.1 4) s2.2.1 fun x3 => lj (α := Int32 × G) (fun b4 => rec2 (b4.1, s2.2.1 + 1, b4.2)) fun J4 => (if x3 = a1 then ag 28 (s2.2.2.2.1 20) (4 + s2.2.1) fun x5 => (if x5 = 0 then J4 (s2.1, s2.2.2) else ag 4 (s2.2.2.2.1 3) a1 fun x6 => dz x1 (ag 4 (s2.2.2.2.1 3) a1 fun x7 => dz x7 (ck 28 (12 + s2.2.1) (bv (sA s2.2.2 20 (12 + s2.2.1 : Int32).toNatClampNeg ((a2 + ((s2.1 * x6) / x1)) - (a2 + ((s2.1 * x6) / x1)) / x7 * x7)) fun g8 => J4 (s2.1 + 1, g8))))) else J4 (s2.1, s2.2.2)))) FU (0, 0, g)
set_option maxRecDepth 20000 in
set_option maxHeartbeats 4000000 in
theorem ok_fB_M_spreads (E : Ev) (a1 : Int32) (a2 : Int32) (g : G)  : Ct (wCB E) yX12_spreads mi_X12_spreads [.ref (E.1 0), .int a1, .int a2] (fun r => (none, r)) g (fB_M_spreads a1 a2 g) := by
  refine go_enter rfl rfl (Nat.le_of_ble_eq_true rfl) (lv := [(0, .ref (E.1 0)), (1, .int a1), (2, .int a2)]) rfl ?_
  unfold fB_M_spreads
  refine go_aload_n td_X12_spreads 0 rfl (q := 1) rfl 0 rfl ?_
  refine go_iload_n td_X12_spreads 1 rfl (q := 2) rfl 1 rfl ?_
  refine go_callV td_X12_spreads 2 rfl (q := 5) rfl (XkB E) lk_X12_344 (ok_fB_M_upMany E a1 g) ⟨rfl, rfl, Nat.le_of_ble_eq_true rfl, Nat.le_of_ble_eq_true rfl⟩ rfl rfl (Nat.le_of_ble_eq_true rfl) (Bc_0 E g) rfl (fun x1 => ?_)
  show Go (wCB E) _ _ g 5 _ [.int x1] _
  refine go_istore_n [(3, .int x1), (0, .ref (E.1 0)), (1, .int a1), (2, .int a2)] td_X12_spreads 3 rfl (q := 6) rfl (Nat.le_of_ble_eq_true rfl) rfl ?_
  refine go_iconst td_X12_spreads 4 rfl (q := 7) rfl kc_0 ?_
  refine go_istore [(4, .int 0), (3, .int x1), (0, .ref (E.1 0)), (1, .int a1), (2, .int a2)] td_X12_spreads 5 rfl (q := 9) rfl (Nat.le_of_ble_eq_true rfl) rfl ?_
  refine go_iconst td_X12_spreads 6 rfl (q := 10) rfl kc_0 ?_
  refine go_istore [(5, .int 0), (4, .int 0), (3, .int x1), (0, .ref (E.1 0)), (1, .int a1), (2, .int a2)] td_X12_spreads 7 rfl (q := 12) rfl (Nat.le_of_ble_eq_true rfl) rfl ?_
  refine go_pick [3, 4, 5, 2, 1, 0] (lv' := [(0, .ref (E.1 0)), (1, .int a1), (2, .int a2), (3, .int x1), (4, .int 0), (5, .int 0)]) rfl ?_
  refine (show ∀ (u2_0 : Int32) (u2_1 : Int32) (u2_2 : G), Go (wCB E) _ _ u2_2 12 [(0, .ref (E.1 0)), (1, .int a1), (2, .int a2), (3, .int x1), (4, .int u2_0), (5, .int u2_1)] [] (Lp (α := Int32 × Int32 × G) _ FU (u2_0, u2_1, u2_2)) from ?_) 0 0 g
  intro u2_0 u2_1 u2_2
  refine go_Lp (α := Int32 × Int32 × G) (fun s2 => s2.2.2) (fun s2 => [(0, .ref (E.1 0)), (1, .int a1), (2, .int a2), (3, .int x1), (4, .int s2.1), (5, .int s2.2.1)]) ?_ FU (u2_0, u2_1, u2_2)
  intro rec2 hrec2 s2
  have krec2 : ∀ (u2_0 : Int32) (u2_1 : Int32) (u2_2 : G), Go (wCB E) _ _ u2_2 12 [(0, .ref (E.1 0)), (1, .int a1), (2, .int a2), (3, .int x1), (4, .int u2_0), (5, .int u2_1)] [] (rec2 (u2_0, u2_1, u2_2)) := fun u2_0 u2_1 u2_2 => hrec2 (u2_0, u2_1, u2_2)
  refine go_iload td_X12_spreads 8 rfl (q := 14) rfl 5 rfl ?_
  refine go_aload_n td_X12_spreads 9 rfl (q := 15) rfl 0 rfl ?_
  refine go_get td_X12_spreads 10 rfl (q := 18) rfl fl_X12_26 (Bc_0 E s2.2.2) rfl ?_
  refine go_icmp_ge 86 td_X12_spreads 11 rfl rfl (q := 21) rfl (fun _ => ?_) (fun _ => ?_)
  · exact go_vret td_X12_spreads 50 rfl rfl rfl
  · refine go_aload_n td_X12_spreads 12 rfl (q := 22) rfl 0 rfl ?_
    refine go_get td_X12_spreads 13 rfl (q := 25) rfl fl_X12_51 (Bc_0 E s2.2.2) rfl ?_
    refine go_iload td_X12_spreads 14 rfl (q := 27) rfl 5 rfl ?_
    refine go_ald td_X12_spreads 15 rfl (q := 28) rfl (Bc_4 E s2.2.2) (t0 := 0) rfl (fun x3 => ?_)
    refine go_iload_n td_X12_spreads 16 rfl (q := 29) rfl 1 rfl ?_
    refine go_ljX (α := Int32 × G) (fun b4 => [(0, .ref (E.1 0)), (1, .int a1), (2, .int a2), (3, .int x1), (4, .int b4.1), (5, .int s2.2.1)]) (fun b4 => []) (fun b4 => b4.2) 80 ?_ ?_
    · intro b4
      refine go_iinc [(5, .int (s2.2.1 + 1)), (0, .ref (E.1 0)), (1, .int a1), (2, .int a2), (3, .int x1), (4, .int b4.1)] td_X12_spreads 48 rfl (q := 83) rfl 5 rfl kc_1 (Nat.le_of_ble_eq_true rfl) rfl ?_
      refine go_goto td_X12_spreads 49 rfl (q := 12) rfl ?_
      refine go_pick [1, 2, 3, 4, 5, 0] (lv' := [(0, .ref (E.1 0)), (1, .int a1), (2, .int a2), (3, .int x1), (4, .int b4.1), (5, .int (s2.2.1 + 1))]) rfl ?_
      exact krec2 b4.1 (s2.2.1 + 1) b4.2
    intro J4 hJ4
    have kJ4 : ∀ (u4_0 : Int32) (u4_1 : G), Go (wCB E) _ _ u4_1 80 [(0, .ref (E.1 0)), (1, .int a1), (2, .int a2), (3, .int x1), (4, .int u4_0), (5, .int s2.2.1)] [] (J4 (u4_0, u4_1)) := fun u4_0 u4_1 => hJ4 (u4_0, u4_1)
    refine go_icmp_ne 80 td_X12_spreads 17 rfl rfl (q := 32) rfl (fun _ => ?_) (fun _ => ?_)
    · refine go_pick [0, 1, 2, 3, 4, 5] (lv' := [(0, .ref (E.1 0)), (1, .int a1), (2, .int a2), (3, .int x1), (4, .int s2.1), (5, .int s2.2.1)]) rfl ?_
      exact kJ4 s2.1 s2.2.2
    · refine go_aload_n td_X12_spreads 18 rfl (q := 33) rfl 0 rfl ?_
      refine go_get td_X12_spreads 19 rfl (q := 36) rfl fl_X12_141 (Bc_0 E s2.2.2) rfl ?_
      refine go_iconst td_X12_spreads 20 rfl (q := 37) rfl kc_4 ?_
      refine go_iload td_X12_spreads 21 rfl (q := 39) rfl 5 rfl ?_
      refine go_iadd td_X12_spreads 22 rfl (q := 40) rfl ?_
      refine go_ald td_X12_spreads 23 rfl (q := 41) rfl (Bc_20 E s2.2.2) (t0 := 0) rfl (fun x5 => ?_)
      refine go_if_ne 47 td_X12_spreads 24 rfl rfl (q := 44) rfl (fun _ => ?_) (fun _ => ?_)
      · refine go_aload_n td_X12_spreads 26 rfl (q := 48) rfl 0 rfl ?_
        refine go_get td_X12_spreads 27 rfl (q := 51) rfl fl_X12_141 (Bc_0 E s2.2.2) rfl ?_
        refine go_bipush td_X12_spreads 28 rfl (q := 53) rfl kb_12 ?_
        refine go_iload td_X12_spreads 29 rfl (q := 55) rfl 5 rfl ?_
        refine go_iadd td_X12_spreads 30 rfl (q := 56) rfl ?_
        refine go_iload_n td_X12_spreads 31 rfl (q := 57) rfl 2 rfl ?_
        refine go_iload td_X12_spreads 32 rfl (q := 59) rfl 4 rfl ?_
        refine go_aload_n td_X12_spreads 33 rfl (q := 60) rfl 0 rfl ?_
        refine go_get td_X12_spreads 34 rfl (q := 63) rfl fl_X12_48 (Bc_0 E s2.2.2) rfl ?_
        refine go_iload_n td_X12_spreads 35 rfl (q := 64) rfl 1 rfl ?_
        refine go_ald td_X12_spreads 36 rfl (q := 65) rfl (Bc_3 E s2.2.2) (t0 := 0) rfl (fun x6 => ?_)
        refine go_imul td_X12_spreads 37 rfl (q := 66) rfl ?_
        refine go_iload_n td_X12_spreads 38 rfl (q := 67) rfl 3 rfl ?_
        refine go_idiv td_X12_spreads 39 rfl (q := 68) rfl ?_
        refine go_iadd td_X12_spreads 40 rfl (q := 69) rfl ?_
        refine go_aload_n td_X12_spreads 41 rfl (q := 70) rfl 0 rfl ?_
        refine go_get td_X12_spreads 42 rfl (q := 73) rfl fl_X12_48 (Bc_0 E s2.2.2) rfl ?_
        refine go_iload_n td_X12_spreads 43 rfl (q := 74) rfl 1 rfl ?_
        refine go_ald td_X12_spreads 44 rfl (q := 75) rfl (Bc_3 E s2.2.2) (t0 := 0) rfl (fun x7 => ?_)
        refine go_irem td_X12_spreads 45 rfl (q := 76) rfl ?_
        refine go_ast td_X12_spreads 46 rfl (q := 77) rfl (Bc_20 E s2.2.2) (t0 := 0) rfl (Bas_20 E s2.2.2 _) ?_
        refine go_bvg (fun g8 => ?_)
        refine go_iinc [(4, .int (s2.1 + 1)), (0, .ref (E.1 0)), (1, .int a1), (2, .int a2), (3, .int x1), (5, .int s2.2.1)] td_X12_spreads 47 rfl (q := 80) rfl 4 rfl kc_1 (Nat.le_of_ble_eq_true rfl) rfl ?_
        refine go_pick [1, 2, 3, 4, 0, 5] (lv' := [(0, .ref (E.1 0)), (1, .int a1), (2, .int a2), (3, .int x1), (4, .int (s2.1 + 1)), (5, .int s2.2.1)]) rfl ?_
        exact kJ4 (s2.1 + 1) g8
      · refine go_goto td_X12_spreads 25 rfl (q := 80) rfl ?_
        refine go_pick [0, 1, 2, 3, 4, 5] (lv' := [(0, .ref (E.1 0)), (1, .int a1), (2, .int a2), (3, .int x1), (4, .int s2.1), (5, .int s2.2.1)]) rfl ?_
        exact kJ4 s2.1 s2.2.2
def fB_M_worstBy (a1 : Int32) (g : G) : Option (Int32 × G) := Lp (α := Int32 × Int32 × G) (fun rec1 s1 => (if (s1.2.2.1 8) ≤ s1.2.1 then some (s1.1, s1.2.2) else Option.bind (fB_M_greatestOf s1.2.1 a1 s1.2.2) fun x2 => Option.bind (fB_M_greater s1.1 x2.1 x2.2) fun x3 => rec1 (x3, s1.2.1 + 1, x2.2))) FU (0, 0, g)
set_option maxRecDepth 20000 in
set_option maxHeartbeats 4000000 in
theorem ok_fB_M_worstBy (E : Ev) (a1 : Int32) (g : G)  : Ct (wCB E) yX12_worstBy mi_X12_worstBy [.ref (E.1 0), .int a1] (fun r => (some (.int r.1), r.2)) g (fB_M_worstBy a1 g) := by
  refine go_enter rfl rfl (Nat.le_of_ble_eq_true rfl) (lv := [(0, .ref (E.1 0)), (1, .int a1)]) rfl ?_
  unfold fB_M_worstBy
  refine go_iconst td_X12_worstBy 0 rfl (q := 1) rfl kc_0 ?_
  refine go_istore_n [(2, .int 0), (0, .ref (E.1 0)), (1, .int a1)] td_X12_worstBy 1 rfl (q := 2) rfl (Nat.le_of_ble_eq_true rfl) rfl ?_
  refine go_iconst td_X12_worstBy 2 rfl (q := 3) rfl kc_0 ?_
  refine go_istore_n [(3, .int 0), (2, .int 0), (0, .ref (E.1 0)), (1, .int a1)] td_X12_worstBy 3 rfl (q := 4) rfl (Nat.le_of_ble_eq_true rfl) rfl ?_
  refine go_pick [2, 3, 1, 0] (lv' := [(0, .ref (E.1 0)), (1, .int a1), (2, .int 0), (3, .int 0)]) rfl ?_
  refine (show ∀ (u1_0 : Int32) (u1_1 : Int32) (u1_2 : G), Go (wCB E) _ _ u1_2 4 [(0, .ref (E.1 0)), (1, .int a1), (2, .int u1_0), (3, .int u1_1)] [] (Lp (α := Int32 × Int32 × G) _ FU (u1_0, u1_1, u1_2)) from ?_) 0 0 g
  intro u1_0 u1_1 u1_2
  refine go_Lp (α := Int32 × Int32 × G) (fun s1 => s1.2.2) (fun s1 => [(0, .ref (E.1 0)), (1, .int a1), (2, .int s1.1), (3, .int s1.2.1)]) ?_ FU (u1_0, u1_1, u1_2)
  intro rec1 hrec1 s1
  have krec1 : ∀ (u1_0 : Int32) (u1_1 : Int32) (u1_2 : G), Go (wCB E) _ _ u1_2 4 [(0, .ref (E.1 0)), (1, .int a1), (2, .int u1_0), (3, .int u1_1)] [] (rec1 (u1_0, u1_1, u1_2)) := fun u1_0 u1_1 u1_2 => hrec1 (u1_0, u1_1, u1_2)
  refine go_iload_n td_X12_worstBy 4 rfl (q := 5) rfl 3 rfl ?_
  refine go_aload_n td_X12_worstBy 5 rfl (q := 6) rfl 0 rfl ?_
  refine go_get td_X12_worstBy 6 rfl (q := 9) rfl fl_X12_35 (Bc_0 E s1.2.2) rfl ?_
  refine go_icmp_ge 29 td_X12_worstBy 7 rfl rfl (q := 12) rfl (fun _ => ?_) (fun _ => ?_)
  · refine go_iload_n td_X12_worstBy 17 rfl (q := 30) rfl 2 rfl ?_
    exact go_iret td_X12_worstBy 18 rfl rfl rfl
  · refine go_iload_n td_X12_worstBy 8 rfl (q := 13) rfl 2 rfl ?_
    refine go_aload_n td_X12_worstBy 9 rfl (q := 14) rfl 0 rfl ?_
    refine go_iload_n td_X12_worstBy 10 rfl (q := 15) rfl 3 rfl ?_
    refine go_iload_n td_X12_worstBy 11 rfl (q := 16) rfl 1 rfl ?_
    refine go_callV td_X12_worstBy 12 rfl (q := 19) rfl (XkB E) lk_X12_337 (ok_fB_M_greatestOf E s1.2.1 a1 s1.2.2) ⟨rfl, rfl, Nat.le_of_ble_eq_true rfl, Nat.le_of_ble_eq_true rfl⟩ rfl rfl (Nat.le_of_ble_eq_true rfl) (Bc_0 E s1.2.2) rfl (fun x2 => ?_)
    show Go (wCB E) _ _ x2.2 19 _ [.int x2.1, .int s1.1] _
    refine go_callS td_X12_worstBy 13 rfl (q := 22) rfl (XkB E) lk_X12_334 (ok_fB_M_greater E s1.1 x2.1 x2.2) ⟨rfl, rfl, Nat.le_of_ble_eq_true rfl, Nat.le_of_ble_eq_true rfl⟩ rfl rfl (Nat.le_of_ble_eq_true rfl) (fun x3 => ?_)
    show Go (wCB E) _ _ x2.2 22 _ [.int x3] _
    refine go_istore_n [(2, .int x3), (0, .ref (E.1 0)), (1, .int a1), (3, .int s1.2.1)] td_X12_worstBy 14 rfl (q := 23) rfl (Nat.le_of_ble_eq_true rfl) rfl ?_
    refine go_iinc [(3, .int (s1.2.1 + 1)), (2, .int x3), (0, .ref (E.1 0)), (1, .int a1)] td_X12_worstBy 15 rfl (q := 26) rfl 3 rfl kc_1 (Nat.le_of_ble_eq_true rfl) rfl ?_
    refine go_goto td_X12_worstBy 16 rfl (q := 4) rfl ?_
    refine go_pick [2, 3, 1, 0] (lv' := [(0, .ref (E.1 0)), (1, .int a1), (2, .int x3), (3, .int (s1.2.1 + 1))]) rfl ?_
    exact krec1 x3 (s1.2.1 + 1) x2.2
def fB_M_even (a1 : Int32) (a2 : Int32) (g : G) : Option (Int32 × G) := Option.bind (fB_M_isPlane a1 g) fun x1 => (if x1 = 0 then some ((-1), g) else Option.bind (fB_M_upMany a1 g) fun x2 => (if x2 = 0 then some ((-1), g) else Option.bind (fB_M_isIn a2 0 1 g) fun x3 => (if x3 = 0 then some ((-1), g) else Option.bind (fB_M_laysSets g) fun x4 => Lp (α := Int32 × G) (fun rec5 s5 => (if 28 ≤ s5.1 then Lp (α := Int32 × Int32 × Int32 × G) (fun rec6 s6 => ag 4 (s6.2.2.2.2.1 3) a1 fun x7 => (if x7 ≤ s6.2.2.1 then Lp (α := Int32 × G) (fun rec8 s8 => (if 28 ≤ s8.1 then Option.bind (fB_M_laysPlane a1 s8.2) fun x9 => (if a2 = 0 then some (s6.1, x9) else some (s6.2.1, x9)) else ag 28 (s8.2.2.1 25) s8.1 fun x10 => ck 28 s8.1 (bv (sA s8.2 20 (s8.1 : Int32).toNatClampNeg x10) fun g11 => rec8 (s8.1 + 1, g11)))) FU (0, s6.2.2.2) else Option.bind (fB_M_spreads a1 s6.2.2.1 s6.2.2.2) fun x12 => Option.bind (fB_M_laysPlane a1 x12) fun x13 => Option.bind (fB_M_upSet x13) fun x14 => Option.bind (fB_M_worstBy x14 x13) fun x15 => lj (α := Int32 × Int32 × G) (fun b16 => rec6 (b16.1, b16.2.1, s6.2.2.1 + 1, b16.2.2)) fun J16 => lj (α := Unit) (fun b17 => Option.bind (fB_M_upSet x15.2) fun x18 => Option.bind (fB_M_scoreBy x18 x15.2) fun x19 => lj (α := Unit) (fun b20 => bv (sF x15.2 0 x19) fun g21 => J16 (s6.2.2.1, x15.1, g21)) fun J20 => (if s6.1 = (-1) then J20 () else (if x15.1 = s6.2.1 then (if 0 < (Op.cmpValue (FP.fcmp x19 (x15.2.2.2.2.1 0)) .g) then J20 () else J16 (s6.1, s6.2.1, x15.2)) else J20 ()))) fun J17 => (if s6.1 = (-1) then J17 () else (if x15.1 ≤ s6.2.1 then J17 () else J16 (s6.1, s6.2.1, x15.2))))) FU ((-1), 0, 0, s5.2) else ag 28 (s5.2.2.1 20) s5.1 fun x22 => ck 28 s5.1 (bv (sA s5.2 25 (s5.1 : Int32).toNatClampNeg x22) fun g23 => rec5 (s5.1 + 1, g23)))) FU (0, x4))))
set_option maxRecDepth 20000 in
set_option maxHeartbeats 4000000 in
theorem ok_fB_M_even (E : Ev) (a1 : Int32) (a2 : Int32) (g : G)  : Ct (wCB E) yX12_even mi_X12_even [.ref (E.1 0), .int a1, .int a2] (fun r => (some (.int r.1), r.2)) g (fB_M_even a1 a2 g) := by
  refine go_enter rfl rfl (Nat.le_of_ble_eq_true rfl) (lv := [(0, .ref (E.1 0)), (1, .int a1), (2, .int a2)]) rfl ?_
  unfold fB_M_even
  refine go_aload_n td_X12_even 0 rfl (q := 1) rfl 0 rfl ?_
  refine go_iload_n td_X12_even 1 rfl (q := 2) rfl 1 rfl ?_
  refine go_callV td_X12_even 2 rfl (q := 5) rfl (XkB E) lk_X12_347 (ok_fB_M_isPlane E a1 g) ⟨rfl, rfl, Nat.le_of_ble_eq_true rfl, Nat.le_of_ble_eq_true rfl⟩ rfl rfl (Nat.le_of_ble_eq_true rfl) (Bc_0 E g) rfl (fun x1 => ?_)
  show Go (wCB E) _ _ g 5 _ [.int x1] _
  refine go_if_eq 25 td_X12_even 3 rfl rfl (q := 8) rfl (fun _ => ?_) (fun _ => ?_)
  · refine go_iconst td_X12_even 13 rfl (q := 26) rfl kc_m1 ?_
    exact go_iret td_X12_even 14 rfl rfl rfl
  · refine go_aload_n td_X12_even 4 rfl (q := 9) rfl 0 rfl ?_
    refine go_iload_n td_X12_even 5 rfl (q := 10) rfl 1 rfl ?_
    refine go_callV td_X12_even 6 rfl (q := 13) rfl (XkB E) lk_X12_344 (ok_fB_M_upMany E a1 g) ⟨rfl, rfl, Nat.le_of_ble_eq_true rfl, Nat.le_of_ble_eq_true rfl⟩ rfl rfl (Nat.le_of_ble_eq_true rfl) (Bc_0 E g) rfl (fun x2 => ?_)
    show Go (wCB E) _ _ g 13 _ [.int x2] _
    refine go_if_eq 25 td_X12_even 7 rfl rfl (q := 16) rfl (fun _ => ?_) (fun _ => ?_)
    · refine go_iconst td_X12_even 13 rfl (q := 26) rfl kc_m1 ?_
      exact go_iret td_X12_even 14 rfl rfl rfl
    · refine go_iload_n td_X12_even 8 rfl (q := 17) rfl 2 rfl ?_
      refine go_iconst td_X12_even 9 rfl (q := 18) rfl kc_0 ?_
      refine go_iconst td_X12_even 10 rfl (q := 19) rfl kc_1 ?_
      refine go_callS td_X12_even 11 rfl (q := 22) rfl (XkB E) lk_X12_248 (ok_fB_M_isIn E a2 0 1 g) ⟨rfl, rfl, Nat.le_of_ble_eq_true rfl, Nat.le_of_ble_eq_true rfl⟩ rfl rfl (Nat.le_of_ble_eq_true rfl) (fun x3 => ?_)
      show Go (wCB E) _ _ g 22 _ [.int x3] _
      refine go_if_ne 27 td_X12_even 12 rfl rfl (q := 25) rfl (fun _ => ?_) (fun _ => ?_)
      · refine go_aload_n td_X12_even 15 rfl (q := 28) rfl 0 rfl ?_
        refine go_callV td_X12_even 16 rfl (q := 31) rfl (XkB E) lk_X12_356 (ok_fB_M_laysSets E g) ⟨rfl, rfl, Nat.le_of_ble_eq_true rfl, Nat.le_of_ble_eq_true rfl⟩ rfl rfl (Nat.le_of_ble_eq_true rfl) (Bc_0 E g) rfl (fun x4 => ?_)
        show Go (wCB E) _ _ x4 31 _ [] _
        refine go_iconst td_X12_even 17 rfl (q := 32) rfl kc_0 ?_
        refine go_istore_n [(3, .int 0), (0, .ref (E.1 0)), (1, .int a1), (2, .int a2)] td_X12_even 18 rfl (q := 33) rfl (Nat.le_of_ble_eq_true rfl) rfl ?_
        refine go_pick [1, 2, 3, 0] (lv' := [(0, .ref (E.1 0)), (1, .int a1), (2, .int a2), (3, .int 0)]) rfl ?_
        refine (show ∀ (u5_0 : Int32) (u5_1 : G), Go (wCB E) _ _ u5_1 33 [(0, .ref (E.1 0)), (1, .int a1), (2, .int a2), (3, .int u5_0)] [] (Lp (α := Int32 × G) _ FU (u5_0, u5_1)) from ?_) 0 x4
        intro u5_0 u5_1
        refine go_Lp (α := Int32 × G) (fun s5 => s5.2) (fun s5 => [(0, .ref (E.1 0)), (1, .int a1), (2, .int a2), (3, .int s5.1)]) ?_ FU (u5_0, u5_1)
        intro rec5 hrec5 s5
        have krec5 : ∀ (u5_0 : Int32) (u5_1 : G), Go (wCB E) _ _ u5_1 33 [(0, .ref (E.1 0)), (1, .int a1), (2, .int a2), (3, .int u5_0)] [] (rec5 (u5_0, u5_1)) := fun u5_0 u5_1 => hrec5 (u5_0, u5_1)
        refine go_iload_n td_X12_even 19 rfl (q := 34) rfl 3 rfl ?_
        refine go_bipush td_X12_even 20 rfl (q := 36) rfl kb_28 ?_
        refine go_icmp_ge 57 td_X12_even 21 rfl rfl (q := 39) rfl (fun _ => ?_) (fun _ => ?_)
        · refine go_iconst td_X12_even 32 rfl (q := 58) rfl kc_m1 ?_
          refine go_istore_n [(3, .int (-1)), (0, .ref (E.1 0)), (1, .int a1), (2, .int a2)] td_X12_even 33 rfl (q := 59) rfl (Nat.le_of_ble_eq_true rfl) rfl ?_
          refine go_iconst td_X12_even 34 rfl (q := 60) rfl kc_0 ?_
          refine go_istore [(4, .int 0), (3, .int (-1)), (0, .ref (E.1 0)), (1, .int a1), (2, .int a2)] td_X12_even 35 rfl (q := 62) rfl (Nat.le_of_ble_eq_true rfl) rfl ?_
          refine go_iconst td_X12_even 36 rfl (q := 63) rfl kc_0 ?_
          refine go_istore [(5, .int 0), (4, .int 0), (3, .int (-1)), (0, .ref (E.1 0)), (1, .int a1), (2, .int a2)] td_X12_even 37 rfl (q := 65) rfl (Nat.le_of_ble_eq_true rfl) rfl ?_
          refine go_pick [3, 4, 5, 2, 1, 0] (lv' := [(0, .ref (E.1 0)), (1, .int a1), (2, .int a2), (3, .int (-1)), (4, .int 0), (5, .int 0)]) rfl ?_
          refine (show ∀ (u6_0 : Int32) (u6_1 : Int32) (u6_2 : Int32) (u6_3 : G), Go (wCB E) _ _ u6_3 65 [(0, .ref (E.1 0)), (1, .int a1), (2, .int a2), (3, .int u6_0), (4, .int u6_1), (5, .int u6_2)] [] (Lp (α := Int32 × Int32 × Int32 × G) _ FU (u6_0, u6_1, u6_2, u6_3)) from ?_) (-1) 0 0 s5.2
          intro u6_0 u6_1 u6_2 u6_3
          refine go_Lp (α := Int32 × Int32 × Int32 × G) (fun s6 => s6.2.2.2) (fun s6 => [(0, .ref (E.1 0)), (1, .int a1), (2, .int a2), (3, .int s6.1), (4, .int s6.2.1), (5, .int s6.2.2.1)]) ?_ FU (u6_0, u6_1, u6_2, u6_3)
          intro rec6 hrec6 s6
          have krec6 : ∀ (u6_0 : Int32) (u6_1 : Int32) (u6_2 : Int32) (u6_3 : G), Go (wCB E) _ _ u6_3 65 [(0, .ref (E.1 0)), (1, .int a1), (2, .int a2), (3, .int u6_0), (4, .int u6_1), (5, .int u6_2)] [] (rec6 (u6_0, u6_1, u6_2, u6_3)) := fun u6_0 u6_1 u6_2 u6_3 => hrec6 (u6_0, u6_1, u6_2, u6_3)
          refine go_iload td_X12_even 38 rfl (q := 67) rfl 5 rfl ?_
          refine go_aload_n td_X12_even 39 rfl (q := 68) rfl 0 rfl ?_
          refine go_get td_X12_even 40 rfl (q := 71) rfl fl_X12_48 (Bc_0 E s6.2.2.2) rfl ?_
          refine go_iload_n td_X12_even 41 rfl (q := 72) rfl 1 rfl ?_
          refine go_ald td_X12_even 42 rfl (q := 73) rfl (Bc_3 E s6.2.2.2) (t0 := 0) rfl (fun x7 => ?_)
          refine go_icmp_ge 167 td_X12_even 43 rfl rfl (q := 76) rfl (fun _ => ?_) (fun _ => ?_)
          · refine go_iconst td_X12_even 89 rfl (q := 168) rfl kc_0 ?_
            refine go_istore [(5, .int 0), (0, .ref (E.1 0)), (1, .int a1), (2, .int a2), (3, .int s6.1), (4, .int s6.2.1)] td_X12_even 90 rfl (q := 170) rfl (Nat.le_of_ble_eq_true rfl) rfl ?_
            refine go_pick [1, 2, 3, 4, 5, 0] (lv' := [(0, .ref (E.1 0)), (1, .int a1), (2, .int a2), (3, .int s6.1), (4, .int s6.2.1), (5, .int 0)]) rfl ?_
            refine (show ∀ (u8_0 : Int32) (u8_1 : G), Go (wCB E) _ _ u8_1 170 [(0, .ref (E.1 0)), (1, .int a1), (2, .int a2), (3, .int s6.1), (4, .int s6.2.1), (5, .int u8_0)] [] (Lp (α := Int32 × G) _ FU (u8_0, u8_1)) from ?_) 0 s6.2.2.2
            intro u8_0 u8_1
            refine go_Lp (α := Int32 × G) (fun s8 => s8.2) (fun s8 => [(0, .ref (E.1 0)), (1, .int a1), (2, .int a2), (3, .int s6.1), (4, .int s6.2.1), (5, .int s8.1)]) ?_ FU (u8_0, u8_1)
            intro rec8 hrec8 s8
            have krec8 : ∀ (u8_0 : Int32) (u8_1 : G), Go (wCB E) _ _ u8_1 170 [(0, .ref (E.1 0)), (1, .int a1), (2, .int a2), (3, .int s6.1), (4, .int s6.2.1), (5, .int u8_0)] [] (rec8 (u8_0, u8_1)) := fun u8_0 u8_1 => hrec8 (u8_0, u8_1)
            refine go_iload td_X12_even 91 rfl (q := 172) rfl 5 rfl ?_
            refine go_bipush td_X12_even 92 rfl (q := 174) rfl kb_28 ?_
            refine go_icmp_ge 197 td_X12_even 93 rfl rfl (q := 177) rfl (fun _ => ?_) (fun _ => ?_)
            · refine go_aload_n td_X12_even 104 rfl (q := 198) rfl 0 rfl ?_
              refine go_iload_n td_X12_even 105 rfl (q := 199) rfl 1 rfl ?_
              refine go_callV td_X12_even 106 rfl (q := 202) rfl (XkB E) lk_X12_407 (ok_fB_M_laysPlane E a1 s8.2) ⟨rfl, rfl, Nat.le_of_ble_eq_true rfl, Nat.le_of_ble_eq_true rfl⟩ rfl rfl (Nat.le_of_ble_eq_true rfl) (Bc_0 E s8.2) rfl (fun x9 => ?_)
              show Go (wCB E) _ _ x9 202 _ [] _
              refine go_iload_n td_X12_even 107 rfl (q := 203) rfl 2 rfl ?_
              refine go_if_ne 210 td_X12_even 108 rfl rfl (q := 206) rfl (fun _ => ?_) (fun _ => ?_)
              · refine go_iload td_X12_even 111 rfl (q := 212) rfl 4 rfl ?_
                exact go_iret td_X12_even 112 rfl rfl rfl
              · refine go_iload_n td_X12_even 109 rfl (q := 207) rfl 3 rfl ?_
                refine go_goto td_X12_even 110 rfl (q := 212) rfl ?_
                exact go_iret td_X12_even 112 rfl rfl rfl
            · refine go_aload_n td_X12_even 94 rfl (q := 178) rfl 0 rfl ?_
              refine go_get td_X12_even 95 rfl (q := 181) rfl fl_X12_141 (Bc_0 E s8.2) rfl ?_
              refine go_iload td_X12_even 96 rfl (q := 183) rfl 5 rfl ?_
              refine go_aload_n td_X12_even 97 rfl (q := 184) rfl 0 rfl ?_
              refine go_get td_X12_even 98 rfl (q := 187) rfl fl_X12_179 (Bc_0 E s8.2) rfl ?_
              refine go_iload td_X12_even 99 rfl (q := 189) rfl 5 rfl ?_
              refine go_ald td_X12_even 100 rfl (q := 190) rfl (Bc_25 E s8.2) (t0 := 0) rfl (fun x10 => ?_)
              refine go_ast td_X12_even 101 rfl (q := 191) rfl (Bc_20 E s8.2) (t0 := 0) rfl (Bas_20 E s8.2 _) ?_
              refine go_bvg (fun g11 => ?_)
              refine go_iinc [(5, .int (s8.1 + 1)), (0, .ref (E.1 0)), (1, .int a1), (2, .int a2), (3, .int s6.1), (4, .int s6.2.1)] td_X12_even 102 rfl (q := 194) rfl 5 rfl kc_1 (Nat.le_of_ble_eq_true rfl) rfl ?_
              refine go_goto td_X12_even 103 rfl (q := 170) rfl ?_
              refine go_pick [1, 2, 3, 4, 5, 0] (lv' := [(0, .ref (E.1 0)), (1, .int a1), (2, .int a2), (3, .int s6.1), (4, .int s6.2.1), (5, .int (s8.1 + 1))]) rfl ?_
              exact krec8 (s8.1 + 1) g11
          · refine go_aload_n td_X12_even 44 rfl (q := 77) rfl 0 rfl ?_
            refine go_iload_n td_X12_even 45 rfl (q := 78) rfl 1 rfl ?_
            refine go_iload td_X12_even 46 rfl (q := 80) rfl 5 rfl ?_
            refine go_callV td_X12_even 47 rfl (q := 83) rfl (XkB E) lk_X12_410 (ok_fB_M_spreads E a1 s6.2.2.1 s6.2.2.2) ⟨rfl, rfl, Nat.le_of_ble_eq_true rfl, Nat.le_of_ble_eq_true rfl⟩ rfl rfl (Nat.le_of_ble_eq_true rfl) (Bc_0 E s6.2.2.2) rfl (fun x12 => ?_)
            show Go (wCB E) _ _ x12 83 _ [] _
            refine go_aload_n td_X12_even 48 rfl (q := 84) rfl 0 rfl ?_
            refine go_iload_n td_X12_even 49 rfl (q := 85) rfl 1 rfl ?_
            refine go_callV td_X12_even 50 rfl (q := 88) rfl (XkB E) lk_X12_407 (ok_fB_M_laysPlane E a1 x12) ⟨rfl, rfl, Nat.le_of_ble_eq_true rfl, Nat.le_of_ble_eq_true rfl⟩ rfl rfl (Nat.le_of_ble_eq_true rfl) (Bc_0 E x12) rfl (fun x13 => ?_)
            show Go (wCB E) _ _ x13 88 _ [] _
            refine go_aload_n td_X12_even 51 rfl (q := 89) rfl 0 rfl ?_
            refine go_aload_n td_X12_even 52 rfl (q := 90) rfl 0 rfl ?_
            refine go_callV td_X12_even 53 rfl (q := 93) rfl (XkB E) lk_X12_359 (ok_fB_M_upSet E x13) ⟨rfl, rfl, Nat.le_of_ble_eq_true rfl, Nat.le_of_ble_eq_true rfl⟩ rfl rfl (Nat.le_of_ble_eq_true rfl) (Bc_0 E x13) rfl (fun x14 => ?_)
            show Go (wCB E) _ _ x13 93 _ [.int x14, .ref (E.1 0)] _
            refine go_callV td_X12_even 54 rfl (q := 96) rfl (XkB E) lk_X12_413 (ok_fB_M_worstBy E x14 x13) ⟨rfl, rfl, Nat.le_of_ble_eq_true rfl, Nat.le_of_ble_eq_true rfl⟩ rfl rfl (Nat.le_of_ble_eq_true rfl) (Bc_0 E x13) rfl (fun x15 => ?_)
            show Go (wCB E) _ _ x15.2 96 _ [.int x15.1] _
            refine go_istore [(6, .int x15.1), (0, .ref (E.1 0)), (1, .int a1), (2, .int a2), (3, .int s6.1), (4, .int s6.2.1), (5, .int s6.2.2.1)] td_X12_even 55 rfl (q := 98) rfl (Nat.le_of_ble_eq_true rfl) rfl ?_
            refine go_iload_n td_X12_even 56 rfl (q := 99) rfl 4 rfl ?_
            refine go_iconst td_X12_even 57 rfl (q := 100) rfl kc_m1 ?_
            refine go_ljX (α := Int32 × Int32 × G) (fun b16 => [(0, .ref (E.1 0)), (1, .int a1), (2, .int a2), (3, .int b16.1), (4, .int b16.2.1), (5, .int s6.2.2.1)]) (fun b16 => []) (fun b16 => b16.2.2) 161 ?_ ?_
            · intro b16
              refine go_iinc [(5, .int (s6.2.2.1 + 1)), (0, .ref (E.1 0)), (1, .int a1), (2, .int a2), (3, .int b16.1), (4, .int b16.2.1)] td_X12_even 87 rfl (q := 164) rfl 5 rfl kc_1 (Nat.le_of_ble_eq_true rfl) rfl ?_
              refine go_goto td_X12_even 88 rfl (q := 65) rfl ?_
              refine go_pick [1, 2, 3, 4, 5, 0] (lv' := [(0, .ref (E.1 0)), (1, .int a1), (2, .int a2), (3, .int b16.1), (4, .int b16.2.1), (5, .int (s6.2.2.1 + 1))]) rfl ?_
              exact krec6 b16.1 b16.2.1 (s6.2.2.1 + 1) b16.2.2
            intro J16 hJ16
            have kJ16 : ∀ (u16_0 : Int32) (u16_1 : Int32) (u16_2 : G), Go (wCB E) _ _ u16_2 161 [(0, .ref (E.1 0)), (1, .int a1), (2, .int a2), (3, .int u16_0), (4, .int u16_1), (5, .int s6.2.2.1)] [] (J16 (u16_0, u16_1, u16_2)) := fun u16_0 u16_1 u16_2 => hJ16 (u16_0, u16_1, u16_2)
            refine go_ljX (α := Unit) (fun b17 => [(0, .ref (E.1 0)), (1, .int a1), (2, .int a2), (3, .int s6.1), (4, .int s6.2.1), (5, .int s6.2.2.1), (6, .int x15.1)]) (fun b17 => []) (fun b17 => x15.2) 113 ?_ ?_
            · intro b17
              refine go_aload_n td_X12_even 63 rfl (q := 114) rfl 0 rfl ?_
              refine go_aload_n td_X12_even 64 rfl (q := 115) rfl 0 rfl ?_
              refine go_callV td_X12_even 65 rfl (q := 118) rfl (XkB E) lk_X12_359 (ok_fB_M_upSet E x15.2) ⟨rfl, rfl, Nat.le_of_ble_eq_true rfl, Nat.le_of_ble_eq_true rfl⟩ rfl rfl (Nat.le_of_ble_eq_true rfl) (Bc_0 E x15.2) rfl (fun x18 => ?_)
              show Go (wCB E) _ _ x15.2 118 _ [.int x18, .ref (E.1 0)] _
              refine go_callV td_X12_even 66 rfl (q := 121) rfl (XkB E) lk_X12_400 (ok_fB_M_scoreBy E x18 x15.2) ⟨rfl, rfl, Nat.le_of_ble_eq_true rfl, Nat.le_of_ble_eq_true rfl⟩ rfl rfl (Nat.le_of_ble_eq_true rfl) (Bc_0 E x15.2) rfl (fun x19 => ?_)
              show Go (wCB E) _ _ x15.2 121 _ [.float x19] _
              refine go_fstore [(7, .float x19), (0, .ref (E.1 0)), (1, .int a1), (2, .int a2), (3, .int s6.1), (4, .int s6.2.1), (5, .int s6.2.2.1), (6, .int x15.1)] td_X12_even 67 rfl (q := 123) rfl (Nat.le_of_ble_eq_true rfl) rfl ?_
              refine go_iload_n td_X12_even 68 rfl (q := 124) rfl 4 rfl ?_
              refine go_iconst td_X12_even 69 rfl (q := 125) rfl kc_m1 ?_
              refine go_ljX (α := Unit) (fun b20 => [(0, .ref (E.1 0)), (1, .int a1), (2, .int a2), (5, .int s6.2.2.1), (6, .int x15.1), (7, .float x19)]) (fun b20 => []) (fun b20 => x15.2) 148 ?_ ?_
              · intro b20
                refine go_iload td_X12_even 80 rfl (q := 150) rfl 3 rfl ?_
                refine go_istore_n [(3, .int s6.2.2.1), (0, .ref (E.1 0)), (1, .int a1), (2, .int a2), (5, .int s6.2.2.1), (6, .int x15.1), (7, .float x19)] td_X12_even 81 rfl (q := 151) rfl (Nat.le_of_ble_eq_true rfl) rfl ?_
                refine go_iload td_X12_even 82 rfl (q := 153) rfl 5 rfl ?_
                refine go_istore [(4, .int x15.1), (3, .int s6.2.2.1), (0, .ref (E.1 0)), (1, .int a1), (2, .int a2), (5, .int s6.2.2.1), (6, .int x15.1), (7, .float x19)] td_X12_even 83 rfl (q := 155) rfl (Nat.le_of_ble_eq_true rfl) rfl ?_
                refine go_aload_n td_X12_even 84 rfl (q := 156) rfl 2 rfl ?_
                refine go_fload td_X12_even 85 rfl (q := 158) rfl 7 rfl ?_
                refine go_put td_X12_even 86 rfl (q := 161) rfl flp_X12_175 (Bc_0 E x15.2) rfl rfl (Nat.le_of_ble_eq_true rfl) (Bpf E x15.2 x19) ?_
                refine go_bvg (fun g21 => ?_)
                refine go_pick [2, 3, 4, 1, 0, 5] (lv' := [(0, .ref (E.1 0)), (1, .int a1), (2, .int a2), (3, .int s6.2.2.1), (4, .int x15.1), (5, .int s6.2.2.1)]) rfl ?_
                exact kJ16 s6.2.2.1 x15.1 g21
              intro J20 hJ20
              have kJ20 : Go (wCB E) _ _ x15.2 148 [(0, .ref (E.1 0)), (1, .int a1), (2, .int a2), (5, .int s6.2.2.1), (6, .int x15.1), (7, .float x19)] [] (J20 ()) := hJ20 ()
              refine go_icmp_eq 148 td_X12_even 70 rfl rfl (q := 128) rfl (fun _ => ?_) (fun _ => ?_)
              · refine go_pick [1, 2, 3, 6, 7, 0] (lv' := [(0, .ref (E.1 0)), (1, .int a1), (2, .int a2), (5, .int s6.2.2.1), (6, .int x15.1), (7, .float x19)]) rfl ?_
                exact kJ20 
              · refine go_iload td_X12_even 71 rfl (q := 130) rfl 7 rfl ?_
                refine go_iload td_X12_even 72 rfl (q := 132) rfl 5 rfl ?_
                refine go_icmp_ne 148 td_X12_even 73 rfl rfl (q := 135) rfl (fun _ => ?_) (fun _ => ?_)
                · refine go_pick [1, 2, 3, 6, 7, 0] (lv' := [(0, .ref (E.1 0)), (1, .int a1), (2, .int a2), (5, .int s6.2.2.1), (6, .int x15.1), (7, .float x19)]) rfl ?_
                  exact kJ20 
                · refine go_fload td_X12_even 74 rfl (q := 137) rfl 0 rfl ?_
                  refine go_aload_n td_X12_even 75 rfl (q := 138) rfl 1 rfl ?_
                  refine go_get td_X12_even 76 rfl (q := 141) rfl fl_X12_175 (Bc_0 E x15.2) rfl ?_
                  refine go_fcmp td_X12_even 77 rfl (q := 142) rfl ?_
                  refine go_if_gt 148 td_X12_even 78 rfl rfl (q := 145) rfl (fun _ => ?_) (fun _ => ?_)
                  · refine go_pick [1, 2, 3, 6, 7, 0] (lv' := [(0, .ref (E.1 0)), (1, .int a1), (2, .int a2), (5, .int s6.2.2.1), (6, .int x15.1), (7, .float x19)]) rfl ?_
                    exact kJ20 
                  · refine go_goto td_X12_even 79 rfl (q := 161) rfl ?_
                    refine go_pick [1, 2, 3, 4, 5, 6] (lv' := [(0, .ref (E.1 0)), (1, .int a1), (2, .int a2), (3, .int s6.1), (4, .int s6.2.1), (5, .int s6.2.2.1)]) rfl ?_
                    exact kJ16 s6.1 s6.2.1 x15.2
            intro J17 hJ17
            have kJ17 : Go (wCB E) _ _ x15.2 113 [(0, .ref (E.1 0)), (1, .int a1), (2, .int a2), (3, .int s6.1), (4, .int s6.2.1), (5, .int s6.2.2.1), (6, .int x15.1)] [] (J17 ()) := hJ17 ()
            refine go_icmp_eq 113 td_X12_even 58 rfl rfl (q := 103) rfl (fun _ => ?_) (fun _ => ?_)
            · refine go_pick [1, 2, 3, 4, 5, 6, 0] (lv' := [(0, .ref (E.1 0)), (1, .int a1), (2, .int a2), (3, .int s6.1), (4, .int s6.2.1), (5, .int s6.2.2.1), (6, .int x15.1)]) rfl ?_
              exact kJ17 
            · refine go_iload td_X12_even 59 rfl (q := 105) rfl 0 rfl ?_
              refine go_iload td_X12_even 60 rfl (q := 107) rfl 5 rfl ?_
              refine go_icmp_le 113 td_X12_even 61 rfl rfl (q := 110) rfl (fun _ => ?_) (fun _ => ?_)
              · refine go_pick [1, 2, 3, 4, 5, 6, 0] (lv' := [(0, .ref (E.1 0)), (1, .int a1), (2, .int a2), (3, .int s6.1), (4, .int s6.2.1), (5, .int s6.2.2.1), (6, .int x15.1)]) rfl ?_
                exact kJ17 
              · refine go_goto td_X12_even 62 rfl (q := 161) rfl ?_
                refine go_pick [1, 2, 3, 4, 5, 6] (lv' := [(0, .ref (E.1 0)), (1, .int a1), (2, .int a2), (3, .int s6.1), (4, .int s6.2.1), (5, .int s6.2.2.1)]) rfl ?_
                exact kJ16 s6.1 s6.2.1 x15.2
        · refine go_aload_n td_X12_even 22 rfl (q := 40) rfl 0 rfl ?_
          refine go_get td_X12_even 23 rfl (q := 43) rfl fl_X12_179 (Bc_0 E s5.2) rfl ?_
          refine go_iload_n td_X12_even 24 rfl (q := 44) rfl 3 rfl ?_
          refine go_aload_n td_X12_even 25 rfl (q := 45) rfl 0 rfl ?_
          refine go_get td_X12_even 26 rfl (q := 48) rfl fl_X12_141 (Bc_0 E s5.2) rfl ?_
          refine go_iload_n td_X12_even 27 rfl (q := 49) rfl 3 rfl ?_
          refine go_ald td_X12_even 28 rfl (q := 50) rfl (Bc_20 E s5.2) (t0 := 0) rfl (fun x22 => ?_)
          refine go_ast td_X12_even 29 rfl (q := 51) rfl (Bc_25 E s5.2) (t0 := 0) rfl (Bas_25 E s5.2 _) ?_
          refine go_bvg (fun g23 => ?_)
          refine go_iinc [(3, .int (s5.1 + 1)), (0, .ref (E.1 0)), (1, .int a1), (2, .int a2)] td_X12_even 30 rfl (q := 54) rfl 3 rfl kc_1 (Nat.le_of_ble_eq_true rfl) rfl ?_
          refine go_goto td_X12_even 31 rfl (q := 33) rfl ?_
          refine go_pick [1, 2, 3, 0] (lv' := [(0, .ref (E.1 0)), (1, .int a1), (2, .int a2), (3, .int (s5.1 + 1))]) rfl ?_
          exact krec5 (s5.1 + 1) g23
      · refine go_iconst td_X12_even 13 rfl (q := 26) rfl kc_m1 ?_
        exact go_iret td_X12_even 14 rfl rfl rfl
def fB_M_critical (a1 : Int32) (g : G) : Option (Int32 × G) := Option.bind (fB_M_upMany (-1) g) fun x1 => (if x1 = 0 then some ((-1), g) else Option.bind (fB_M_isIn a1 0 2 g) fun x2 => (if x2 = 0 then some ((-1), g) else Option.bind (fB_M_laysSets g) fun x3 => Lp (α := Int32 × Int32 × Int32 × G) (fun rec4 s4 => (if (s4.2.2.2.1 5) ≤ s4.2.2.1 then (if a1 = 0 then some (s4.1, s4.2.2.2) else (if a1 = 1 then some (s4.2.1, s4.2.2.2) else Option.bind (fB_Float_floatToIntBits (s4.2.2.2.2.2.2.1 0) s4.2.2.2) fun x5 => some (x5, s4.2.2.2))) else ag 28 (s4.2.2.2.2.1 20) (4 + s4.2.2.1) fun x6 => lj (α := Int32 × Int32 × G) (fun b7 => rec4 (b7.1, b7.2.1, s4.2.2.1 + 1, b7.2.2)) fun J7 => (if x6 = 0 then J7 (s4.1, s4.2.1, s4.2.2.2) else Option.bind (fB_M_upSet s4.2.2.2) fun x8 => bv (x8 &&& (((1 : Int32) <<< (s4.2.2.1 &&& 31)) ^^^ (-1))) fun x9 => Option.bind (fB_M_worstBy x9 s4.2.2.2) fun x10 => lj (α := Unit) (fun b11 => Option.bind (fB_M_scoreBy x9 x10.2) fun x12 => lj (α := Unit) (fun b13 => bv (sF x10.2 0 x12) fun g14 => J7 (s4.2.2.1, x10.1, g14)) fun J13 => (if s4.1 = (-1) then J13 () else (if x10.1 = s4.2.1 then (if (Op.cmpValue (FP.fcmp x12 (x10.2.2.2.2.1 0)) .l) < 0 then J13 () else J7 (s4.1, s4.2.1, x10.2)) else J13 ()))) fun J11 => (if s4.1 = (-1) then J11 () else (if s4.2.1 ≤ x10.1 then J11 () else J7 (s4.1, s4.2.1, x10.2)))))) FU ((-1), 0, 0, x3)))
set_option maxRecDepth 20000 in
set_option maxHeartbeats 4000000 in
theorem ok_fB_M_critical (E : Ev) (a1 : Int32) (g : G)  : Ct (wCB E) yX12_critical mi_X12_critical [.ref (E.1 0), .int a1] (fun r => (some (.int r.1), r.2)) g (fB_M_critical a1 g) := by
  refine go_enter rfl rfl (Nat.le_of_ble_eq_true rfl) (lv := [(0, .ref (E.1 0)), (1, .int a1)]) rfl ?_
  unfold fB_M_critical
  refine go_aload_n td_X12_critical 0 rfl (q := 1) rfl 0 rfl ?_
  refine go_iconst td_X12_critical 1 rfl (q := 2) rfl kc_m1 ?_
  refine go_callV td_X12_critical 2 rfl (q := 5) rfl (XkB E) lk_X12_344 (ok_fB_M_upMany E (-1) g) ⟨rfl, rfl, Nat.le_of_ble_eq_true rfl, Nat.le_of_ble_eq_true rfl⟩ rfl rfl (Nat.le_of_ble_eq_true rfl) (Bc_0 E g) rfl (fun x1 => ?_)
  show Go (wCB E) _ _ g 5 _ [.int x1] _
  refine go_if_eq 17 td_X12_critical 3 rfl rfl (q := 8) rfl (fun _ => ?_) (fun _ => ?_)
  · refine go_iconst td_X12_critical 9 rfl (q := 18) rfl kc_m1 ?_
    exact go_iret td_X12_critical 10 rfl rfl rfl
  · refine go_iload_n td_X12_critical 4 rfl (q := 9) rfl 1 rfl ?_
    refine go_iconst td_X12_critical 5 rfl (q := 10) rfl kc_0 ?_
    refine go_iconst td_X12_critical 6 rfl (q := 11) rfl kc_2 ?_
    refine go_callS td_X12_critical 7 rfl (q := 14) rfl (XkB E) lk_X12_248 (ok_fB_M_isIn E a1 0 2 g) ⟨rfl, rfl, Nat.le_of_ble_eq_true rfl, Nat.le_of_ble_eq_true rfl⟩ rfl rfl (Nat.le_of_ble_eq_true rfl) (fun x2 => ?_)
    show Go (wCB E) _ _ g 14 _ [.int x2] _
    refine go_if_ne 19 td_X12_critical 8 rfl rfl (q := 17) rfl (fun _ => ?_) (fun _ => ?_)
    · refine go_aload_n td_X12_critical 11 rfl (q := 20) rfl 0 rfl ?_
      refine go_callV td_X12_critical 12 rfl (q := 23) rfl (XkB E) lk_X12_356 (ok_fB_M_laysSets E g) ⟨rfl, rfl, Nat.le_of_ble_eq_true rfl, Nat.le_of_ble_eq_true rfl⟩ rfl rfl (Nat.le_of_ble_eq_true rfl) (Bc_0 E g) rfl (fun x3 => ?_)
      show Go (wCB E) _ _ x3 23 _ [] _
      refine go_iconst td_X12_critical 13 rfl (q := 24) rfl kc_m1 ?_
      refine go_istore_n [(2, .int (-1)), (0, .ref (E.1 0)), (1, .int a1)] td_X12_critical 14 rfl (q := 25) rfl (Nat.le_of_ble_eq_true rfl) rfl ?_
      refine go_iconst td_X12_critical 15 rfl (q := 26) rfl kc_0 ?_
      refine go_istore_n [(3, .int 0), (2, .int (-1)), (0, .ref (E.1 0)), (1, .int a1)] td_X12_critical 16 rfl (q := 27) rfl (Nat.le_of_ble_eq_true rfl) rfl ?_
      refine go_iconst td_X12_critical 17 rfl (q := 28) rfl kc_0 ?_
      refine go_istore [(4, .int 0), (3, .int 0), (2, .int (-1)), (0, .ref (E.1 0)), (1, .int a1)] td_X12_critical 18 rfl (q := 30) rfl (Nat.le_of_ble_eq_true rfl) rfl ?_
      refine go_pick [3, 4, 2, 1, 0] (lv' := [(0, .ref (E.1 0)), (1, .int a1), (2, .int (-1)), (3, .int 0), (4, .int 0)]) rfl ?_
      refine (show ∀ (u4_0 : Int32) (u4_1 : Int32) (u4_2 : Int32) (u4_3 : G), Go (wCB E) _ _ u4_3 30 [(0, .ref (E.1 0)), (1, .int a1), (2, .int u4_0), (3, .int u4_1), (4, .int u4_2)] [] (Lp (α := Int32 × Int32 × Int32 × G) _ FU (u4_0, u4_1, u4_2, u4_3)) from ?_) (-1) 0 0 x3
      intro u4_0 u4_1 u4_2 u4_3
      refine go_Lp (α := Int32 × Int32 × Int32 × G) (fun s4 => s4.2.2.2) (fun s4 => [(0, .ref (E.1 0)), (1, .int a1), (2, .int s4.1), (3, .int s4.2.1), (4, .int s4.2.2.1)]) ?_ FU (u4_0, u4_1, u4_2, u4_3)
      intro rec4 hrec4 s4
      have krec4 : ∀ (u4_0 : Int32) (u4_1 : Int32) (u4_2 : Int32) (u4_3 : G), Go (wCB E) _ _ u4_3 30 [(0, .ref (E.1 0)), (1, .int a1), (2, .int u4_0), (3, .int u4_1), (4, .int u4_2)] [] (rec4 (u4_0, u4_1, u4_2, u4_3)) := fun u4_0 u4_1 u4_2 u4_3 => hrec4 (u4_0, u4_1, u4_2, u4_3)
      refine go_iload td_X12_critical 19 rfl (q := 32) rfl 4 rfl ?_
      refine go_aload_n td_X12_critical 20 rfl (q := 33) rfl 0 rfl ?_
      refine go_get td_X12_critical 21 rfl (q := 36) rfl fl_X12_26 (Bc_0 E s4.2.2.2) rfl ?_
      refine go_icmp_ge 139 td_X12_critical 22 rfl rfl (q := 39) rfl (fun _ => ?_) (fun _ => ?_)
      · refine go_iload_n td_X12_critical 76 rfl (q := 140) rfl 1 rfl ?_
        refine go_if_ne 147 td_X12_critical 77 rfl rfl (q := 143) rfl (fun _ => ?_) (fun _ => ?_)
        · refine go_iload_n td_X12_critical 80 rfl (q := 148) rfl 1 rfl ?_
          refine go_iconst td_X12_critical 81 rfl (q := 149) rfl kc_1 ?_
          refine go_icmp_ne 156 td_X12_critical 82 rfl rfl (q := 152) rfl (fun _ => ?_) (fun _ => ?_)
          · refine go_aload_n td_X12_critical 85 rfl (q := 157) rfl 0 rfl ?_
            refine go_get td_X12_critical 86 rfl (q := 160) rfl fl_X12_175 (Bc_0 E s4.2.2.2) rfl ?_
            refine go_callS td_X12_critical 87 rfl (q := 163) rfl (XkB E) lk_X12_394 (ok_fB_Float_floatToIntBits E (s4.2.2.2.2.2.2.1 0) s4.2.2.2) ⟨rfl, rfl, Nat.le_of_ble_eq_true rfl, Nat.le_of_ble_eq_true rfl⟩ rfl rfl (Nat.le_of_ble_eq_true rfl) (fun x5 => ?_)
            show Go (wCB E) _ _ s4.2.2.2 163 _ [.int x5] _
            exact go_iret td_X12_critical 88 rfl rfl rfl
          · refine go_iload_n td_X12_critical 83 rfl (q := 153) rfl 3 rfl ?_
            refine go_goto td_X12_critical 84 rfl (q := 163) rfl ?_
            exact go_iret td_X12_critical 88 rfl rfl rfl
        · refine go_iload_n td_X12_critical 78 rfl (q := 144) rfl 2 rfl ?_
          refine go_goto td_X12_critical 79 rfl (q := 163) rfl ?_
          exact go_iret td_X12_critical 88 rfl rfl rfl
      · refine go_aload_n td_X12_critical 23 rfl (q := 40) rfl 0 rfl ?_
        refine go_get td_X12_critical 24 rfl (q := 43) rfl fl_X12_141 (Bc_0 E s4.2.2.2) rfl ?_
        refine go_iconst td_X12_critical 25 rfl (q := 44) rfl kc_4 ?_
        refine go_iload td_X12_critical 26 rfl (q := 46) rfl 4 rfl ?_
        refine go_iadd td_X12_critical 27 rfl (q := 47) rfl ?_
        refine go_ald td_X12_critical 28 rfl (q := 48) rfl (Bc_20 E s4.2.2.2) (t0 := 0) rfl (fun x6 => ?_)
        refine go_ljX (α := Int32 × Int32 × G) (fun b7 => [(0, .ref (E.1 0)), (1, .int a1), (2, .int b7.1), (3, .int b7.2.1), (4, .int s4.2.2.1)]) (fun b7 => []) (fun b7 => b7.2.2) 133 ?_ ?_
        · intro b7
          refine go_iinc [(4, .int (s4.2.2.1 + 1)), (0, .ref (E.1 0)), (1, .int a1), (2, .int b7.1), (3, .int b7.2.1)] td_X12_critical 74 rfl (q := 136) rfl 4 rfl kc_1 (Nat.le_of_ble_eq_true rfl) rfl ?_
          refine go_goto td_X12_critical 75 rfl (q := 30) rfl ?_
          refine go_pick [1, 2, 3, 4, 0] (lv' := [(0, .ref (E.1 0)), (1, .int a1), (2, .int b7.1), (3, .int b7.2.1), (4, .int (s4.2.2.1 + 1))]) rfl ?_
          exact krec4 b7.1 b7.2.1 (s4.2.2.1 + 1) b7.2.2
        intro J7 hJ7
        have kJ7 : ∀ (u7_0 : Int32) (u7_1 : Int32) (u7_2 : G), Go (wCB E) _ _ u7_2 133 [(0, .ref (E.1 0)), (1, .int a1), (2, .int u7_0), (3, .int u7_1), (4, .int s4.2.2.1)] [] (J7 (u7_0, u7_1, u7_2)) := fun u7_0 u7_1 u7_2 => hJ7 (u7_0, u7_1, u7_2)
        refine go_if_ne 54 td_X12_critical 29 rfl rfl (q := 51) rfl (fun _ => ?_) (fun _ => ?_)
        · refine go_aload_n td_X12_critical 31 rfl (q := 55) rfl 0 rfl ?_
          refine go_callV td_X12_critical 32 rfl (q := 58) rfl (XkB E) lk_X12_359 (ok_fB_M_upSet E s4.2.2.2) ⟨rfl, rfl, Nat.le_of_ble_eq_true rfl, Nat.le_of_ble_eq_true rfl⟩ rfl rfl (Nat.le_of_ble_eq_true rfl) (Bc_0 E s4.2.2.2) rfl (fun x8 => ?_)
          show Go (wCB E) _ _ s4.2.2.2 58 _ [.int x8] _
          refine go_iconst td_X12_critical 33 rfl (q := 59) rfl kc_1 ?_
          refine go_iload td_X12_critical 34 rfl (q := 61) rfl 4 rfl ?_
          refine go_ishl td_X12_critical 35 rfl (q := 62) rfl ?_
          refine go_iconst td_X12_critical 36 rfl (q := 63) rfl kc_m1 ?_
          refine go_ixor td_X12_critical 37 rfl (q := 64) rfl ?_
          refine go_iand td_X12_critical 38 rfl (q := 65) rfl ?_
          refine go_bvi (fun x9 => ?_)
          refine go_istore [(5, .int x9), (0, .ref (E.1 0)), (1, .int a1), (2, .int s4.1), (3, .int s4.2.1), (4, .int s4.2.2.1)] td_X12_critical 39 rfl (q := 67) rfl (Nat.le_of_ble_eq_true rfl) rfl ?_
          refine go_aload_n td_X12_critical 40 rfl (q := 68) rfl 1 rfl ?_
          refine go_iload td_X12_critical 41 rfl (q := 70) rfl 0 rfl ?_
          refine go_callV td_X12_critical 42 rfl (q := 73) rfl (XkB E) lk_X12_413 (ok_fB_M_worstBy E x9 s4.2.2.2) ⟨rfl, rfl, Nat.le_of_ble_eq_true rfl, Nat.le_of_ble_eq_true rfl⟩ rfl rfl (Nat.le_of_ble_eq_true rfl) (Bc_0 E s4.2.2.2) rfl (fun x10 => ?_)
          show Go (wCB E) _ _ x10.2 73 _ [.int x10.1] _
          refine go_istore [(6, .int x10.1), (5, .int x9), (0, .ref (E.1 0)), (1, .int a1), (2, .int s4.1), (3, .int s4.2.1), (4, .int s4.2.2.1)] td_X12_critical 43 rfl (q := 75) rfl (Nat.le_of_ble_eq_true rfl) rfl ?_
          refine go_iload_n td_X12_critical 44 rfl (q := 76) rfl 4 rfl ?_
          refine go_iconst td_X12_critical 45 rfl (q := 77) rfl kc_m1 ?_
          refine go_ljX (α := Unit) (fun b11 => [(0, .ref (E.1 0)), (1, .int a1), (2, .int s4.1), (3, .int s4.2.1), (4, .int s4.2.2.1), (5, .int x9), (6, .int x10.1)]) (fun b11 => []) (fun b11 => x10.2) 89 ?_ ?_
          · intro b11
            refine go_aload_n td_X12_critical 51 rfl (q := 90) rfl 0 rfl ?_
            refine go_iload td_X12_critical 52 rfl (q := 92) rfl 5 rfl ?_
            refine go_callV td_X12_critical 53 rfl (q := 95) rfl (XkB E) lk_X12_400 (ok_fB_M_scoreBy E x9 x10.2) ⟨rfl, rfl, Nat.le_of_ble_eq_true rfl, Nat.le_of_ble_eq_true rfl⟩ rfl rfl (Nat.le_of_ble_eq_true rfl) (Bc_0 E x10.2) rfl (fun x12 => ?_)
            show Go (wCB E) _ _ x10.2 95 _ [.float x12] _
            refine go_fstore [(7, .float x12), (0, .ref (E.1 0)), (1, .int a1), (2, .int s4.1), (3, .int s4.2.1), (4, .int s4.2.2.1), (5, .int x9), (6, .int x10.1)] td_X12_critical 54 rfl (q := 97) rfl (Nat.le_of_ble_eq_true rfl) rfl ?_
            refine go_iload_n td_X12_critical 55 rfl (q := 98) rfl 3 rfl ?_
            refine go_iconst td_X12_critical 56 rfl (q := 99) rfl kc_m1 ?_
            refine go_ljX (α := Unit) (fun b13 => [(0, .ref (E.1 0)), (1, .int a1), (4, .int s4.2.2.1), (6, .int x10.1), (7, .float x12)]) (fun b13 => []) (fun b13 => x10.2) 121 ?_ ?_
            · intro b13
              refine go_iload td_X12_critical 67 rfl (q := 123) rfl 2 rfl ?_
              refine go_istore_n [(2, .int s4.2.2.1), (0, .ref (E.1 0)), (1, .int a1), (4, .int s4.2.2.1), (6, .int x10.1), (7, .float x12)] td_X12_critical 68 rfl (q := 124) rfl (Nat.le_of_ble_eq_true rfl) rfl ?_
              refine go_iload td_X12_critical 69 rfl (q := 126) rfl 4 rfl ?_
              refine go_istore_n [(3, .int x10.1), (2, .int s4.2.2.1), (0, .ref (E.1 0)), (1, .int a1), (4, .int s4.2.2.1), (6, .int x10.1), (7, .float x12)] td_X12_critical 70 rfl (q := 127) rfl (Nat.le_of_ble_eq_true rfl) rfl ?_
              refine go_aload_n td_X12_critical 71 rfl (q := 128) rfl 2 rfl ?_
              refine go_fload td_X12_critical 72 rfl (q := 130) rfl 6 rfl ?_
              refine go_put td_X12_critical 73 rfl (q := 133) rfl flp_X12_175 (Bc_0 E x10.2) rfl rfl (Nat.le_of_ble_eq_true rfl) (Bpf E x10.2 x12) ?_
              refine go_bvg (fun g14 => ?_)
              refine go_pick [2, 3, 1, 0, 4] (lv' := [(0, .ref (E.1 0)), (1, .int a1), (2, .int s4.2.2.1), (3, .int x10.1), (4, .int s4.2.2.1)]) rfl ?_
              exact kJ7 s4.2.2.1 x10.1 g14
            intro J13 hJ13
            have kJ13 : Go (wCB E) _ _ x10.2 121 [(0, .ref (E.1 0)), (1, .int a1), (4, .int s4.2.2.1), (6, .int x10.1), (7, .float x12)] [] (J13 ()) := hJ13 ()
            refine go_icmp_eq 121 td_X12_critical 57 rfl rfl (q := 102) rfl (fun _ => ?_) (fun _ => ?_)
            · refine go_pick [1, 2, 5, 7, 0] (lv' := [(0, .ref (E.1 0)), (1, .int a1), (4, .int s4.2.2.1), (6, .int x10.1), (7, .float x12)]) rfl ?_
              exact kJ13 
            · refine go_iload td_X12_critical 58 rfl (q := 104) rfl 7 rfl ?_
              refine go_iload_n td_X12_critical 59 rfl (q := 105) rfl 4 rfl ?_
              refine go_icmp_ne 121 td_X12_critical 60 rfl rfl (q := 108) rfl (fun _ => ?_) (fun _ => ?_)
              · refine go_pick [1, 2, 5, 7, 0] (lv' := [(0, .ref (E.1 0)), (1, .int a1), (4, .int s4.2.2.1), (6, .int x10.1), (7, .float x12)]) rfl ?_
                exact kJ13 
              · refine go_fload td_X12_critical 61 rfl (q := 110) rfl 0 rfl ?_
                refine go_aload_n td_X12_critical 62 rfl (q := 111) rfl 1 rfl ?_
                refine go_get td_X12_critical 63 rfl (q := 114) rfl fl_X12_175 (Bc_0 E x10.2) rfl ?_
                refine go_fcmp td_X12_critical 64 rfl (q := 115) rfl ?_
                refine go_if_lt 121 td_X12_critical 65 rfl rfl (q := 118) rfl (fun _ => ?_) (fun _ => ?_)
                · refine go_pick [1, 2, 5, 7, 0] (lv' := [(0, .ref (E.1 0)), (1, .int a1), (4, .int s4.2.2.1), (6, .int x10.1), (7, .float x12)]) rfl ?_
                  exact kJ13 
                · refine go_goto td_X12_critical 66 rfl (q := 133) rfl ?_
                  refine go_pick [1, 2, 3, 4, 5] (lv' := [(0, .ref (E.1 0)), (1, .int a1), (2, .int s4.1), (3, .int s4.2.1), (4, .int s4.2.2.1)]) rfl ?_
                  exact kJ7 s4.1 s4.2.1 x10.2
          intro J11 hJ11
          have kJ11 : Go (wCB E) _ _ x10.2 89 [(0, .ref (E.1 0)), (1, .int a1), (2, .int s4.1), (3, .int s4.2.1), (4, .int s4.2.2.1), (5, .int x9), (6, .int x10.1)] [] (J11 ()) := hJ11 ()
          refine go_icmp_eq 89 td_X12_critical 46 rfl rfl (q := 80) rfl (fun _ => ?_) (fun _ => ?_)
          · refine go_pick [2, 3, 4, 5, 6, 1, 0] (lv' := [(0, .ref (E.1 0)), (1, .int a1), (2, .int s4.1), (3, .int s4.2.1), (4, .int s4.2.2.1), (5, .int x9), (6, .int x10.1)]) rfl ?_
            exact kJ11 
          · refine go_iload td_X12_critical 47 rfl (q := 82) rfl 0 rfl ?_
            refine go_iload_n td_X12_critical 48 rfl (q := 83) rfl 5 rfl ?_
            refine go_icmp_ge 89 td_X12_critical 49 rfl rfl (q := 86) rfl (fun _ => ?_) (fun _ => ?_)
            · refine go_pick [2, 3, 4, 5, 6, 1, 0] (lv' := [(0, .ref (E.1 0)), (1, .int a1), (2, .int s4.1), (3, .int s4.2.1), (4, .int s4.2.2.1), (5, .int x9), (6, .int x10.1)]) rfl ?_
              exact kJ11 
            · refine go_goto td_X12_critical 50 rfl (q := 133) rfl ?_
              refine go_pick [2, 3, 4, 5, 6] (lv' := [(0, .ref (E.1 0)), (1, .int a1), (2, .int s4.1), (3, .int s4.2.1), (4, .int s4.2.2.1)]) rfl ?_
              exact kJ7 s4.1 s4.2.1 x10.2
        · refine go_goto td_X12_critical 30 rfl (q := 133) rfl ?_
          refine go_pick [0, 1, 2, 3, 4] (lv' := [(0, .ref (E.1 0)), (1, .int a1), (2, .int s4.1), (3, .int s4.2.1), (4, .int s4.2.2.1)]) rfl ?_
          exact kJ7 s4.1 s4.2.1 s4.2.2.2
    · refine go_iconst td_X12_critical 9 rfl (q := 18) rfl kc_m1 ?_
      exact go_iret td_X12_critical 10 rfl rfl rfl
def fB_M_relief (a1 : Int32) (a2 : Int32) (g : G) : Option (Int32 × G) := Option.bind (fB_M_isCraft a1 g) fun x1 => (if x1 = 0 then some ((-1), g) else ag 28 (g.2.1 20) (4 + a1) fun x2 => (if x2 = 1 then some ((-1), g) else ag 8 (g.2.1 4) a1 fun x3 => Option.bind (fB_M_upMany x3 g) fun x4 => (if x4 = 0 then some ((-1), g) else Option.bind (fB_M_isIn a2 0 1 g) fun x5 => (if x5 = 0 then some ((-1), g) else Option.bind (fB_M_laysSets g) fun x6 => Lp (α := Int32 × Int32 × Int32 × G) (fun rec7 s7 => (if (s7.2.2.2.1 5) ≤ s7.2.2.1 then (if a2 = 0 then some (s7.1, s7.2.2.2) else some (s7.2.1, s7.2.2.2)) else ag 8 (s7.2.2.2.2.1 4) s7.2.2.1 fun x8 => ag 8 (s7.2.2.2.2.1 4) a1 fun x9 => lj (α := Int32 × Int32 × G) (fun b10 => rec7 (b10.1, b10.2.1, s7.2.2.1 + 1, b10.2.2)) fun J10 => (if x8 = x9 then ag 28 (s7.2.2.2.2.1 20) (4 + s7.2.2.1) fun x11 => (if x11 = 0 then J10 (s7.1, s7.2.1, s7.2.2.2) else ag 28 (s7.2.2.2.2.1 20) (12 + s7.2.2.1) fun x12 => ag 28 (s7.2.2.2.2.1 20) (12 + a1) fun x13 => ck 28 (12 + s7.2.2.1) (bv (sA s7.2.2.2 20 (12 + s7.2.2.1 : Int32).toNatClampNeg x13) fun g14 => Option.bind (fB_M_laysOne s7.2.2.1 g14) fun x15 => Option.bind (fB_M_upSet x15) fun x16 => Option.bind (fB_M_worstBy x16 x15) fun x17 => Option.bind (fB_M_upSet x17.2) fun x18 => Option.bind (fB_M_scoreBy x18 x17.2) fun x19 => ck 28 (12 + s7.2.2.1) (bv (sA x17.2 20 (12 + s7.2.2.1 : Int32).toNatClampNeg x12) fun g20 => Option.bind (fB_M_laysOne s7.2.2.1 g20) fun x21 => lj (α := Unit) (fun b22 => bv (sF x21 0 x19) fun g23 => J10 (s7.2.2.1, x17.1, g23)) fun J22 => (if s7.1 = (-1) then J22 () else (if s7.2.1 < x17.1 then J10 (s7.1, s7.2.1, x21) else (if x17.1 = s7.2.1 then (if 0 < (Op.cmpValue (FP.fcmp x19 (x21.2.2.2.1 0)) .g) then J22 () else J10 (s7.1, s7.2.1, x21)) else J22 ())))))) else J10 (s7.1, s7.2.1, s7.2.2.2)))) FU ((-1), 0, 0, x6)))))
set_option maxRecDepth 20000 in
set_option maxHeartbeats 4000000 in
theorem ok_fB_M_relief (E : Ev) (a1 : Int32) (a2 : Int32) (g : G)  : Ct (wCB E) yX12_relief mi_X12_relief [.ref (E.1 0), .int a1, .int a2] (fun r => (some (.int r.1), r.2)) g (fB_M_relief a1 a2 g) := by
  refine go_enter rfl rfl (Nat.le_of_ble_eq_true rfl) (lv := [(0, .ref (E.1 0)), (1, .int a1), (2, .int a2)]) rfl ?_
  unfold fB_M_relief
  refine go_aload_n td_X12_relief 0 rfl (q := 1) rfl 0 rfl ?_
  refine go_iload_n td_X12_relief 1 rfl (q := 2) rfl 1 rfl ?_
  refine go_callV td_X12_relief 2 rfl (q := 5) rfl (XkB E) lk_X12_350 (ok_fB_M_isCraft E a1 g) ⟨rfl, rfl, Nat.le_of_ble_eq_true rfl, Nat.le_of_ble_eq_true rfl⟩ rfl rfl (Nat.le_of_ble_eq_true rfl) (Bc_0 E g) rfl (fun x1 => ?_)
  show Go (wCB E) _ _ g 5 _ [.int x1] _
  refine go_if_eq 42 td_X12_relief 3 rfl rfl (q := 8) rfl (fun _ => ?_) (fun _ => ?_)
  · refine go_iconst td_X12_relief 24 rfl (q := 43) rfl kc_m1 ?_
    exact go_iret td_X12_relief 25 rfl rfl rfl
  · refine go_aload_n td_X12_relief 4 rfl (q := 9) rfl 0 rfl ?_
    refine go_get td_X12_relief 5 rfl (q := 12) rfl fl_X12_141 (Bc_0 E g) rfl ?_
    refine go_iconst td_X12_relief 6 rfl (q := 13) rfl kc_4 ?_
    refine go_iload_n td_X12_relief 7 rfl (q := 14) rfl 1 rfl ?_
    refine go_iadd td_X12_relief 8 rfl (q := 15) rfl ?_
    refine go_ald td_X12_relief 9 rfl (q := 16) rfl (Bc_20 E g) (t0 := 0) rfl (fun x2 => ?_)
    refine go_iconst td_X12_relief 10 rfl (q := 17) rfl kc_1 ?_
    refine go_icmp_eq 42 td_X12_relief 11 rfl rfl (q := 20) rfl (fun _ => ?_) (fun _ => ?_)
    · refine go_iconst td_X12_relief 24 rfl (q := 43) rfl kc_m1 ?_
      exact go_iret td_X12_relief 25 rfl rfl rfl
    · refine go_aload_n td_X12_relief 12 rfl (q := 21) rfl 0 rfl ?_
      refine go_aload_n td_X12_relief 13 rfl (q := 22) rfl 0 rfl ?_
      refine go_get td_X12_relief 14 rfl (q := 25) rfl fl_X12_51 (Bc_0 E g) rfl ?_
      refine go_iload_n td_X12_relief 15 rfl (q := 26) rfl 1 rfl ?_
      refine go_ald td_X12_relief 16 rfl (q := 27) rfl (Bc_4 E g) (t0 := 0) rfl (fun x3 => ?_)
      refine go_callV td_X12_relief 17 rfl (q := 30) rfl (XkB E) lk_X12_344 (ok_fB_M_upMany E x3 g) ⟨rfl, rfl, Nat.le_of_ble_eq_true rfl, Nat.le_of_ble_eq_true rfl⟩ rfl rfl (Nat.le_of_ble_eq_true rfl) (Bc_0 E g) rfl (fun x4 => ?_)
      show Go (wCB E) _ _ g 30 _ [.int x4] _
      refine go_if_eq 42 td_X12_relief 18 rfl rfl (q := 33) rfl (fun _ => ?_) (fun _ => ?_)
      · refine go_iconst td_X12_relief 24 rfl (q := 43) rfl kc_m1 ?_
        exact go_iret td_X12_relief 25 rfl rfl rfl
      · refine go_iload_n td_X12_relief 19 rfl (q := 34) rfl 2 rfl ?_
        refine go_iconst td_X12_relief 20 rfl (q := 35) rfl kc_0 ?_
        refine go_iconst td_X12_relief 21 rfl (q := 36) rfl kc_1 ?_
        refine go_callS td_X12_relief 22 rfl (q := 39) rfl (XkB E) lk_X12_248 (ok_fB_M_isIn E a2 0 1 g) ⟨rfl, rfl, Nat.le_of_ble_eq_true rfl, Nat.le_of_ble_eq_true rfl⟩ rfl rfl (Nat.le_of_ble_eq_true rfl) (fun x5 => ?_)
        show Go (wCB E) _ _ g 39 _ [.int x5] _
        refine go_if_ne 44 td_X12_relief 23 rfl rfl (q := 42) rfl (fun _ => ?_) (fun _ => ?_)
        · refine go_aload_n td_X12_relief 26 rfl (q := 45) rfl 0 rfl ?_
          refine go_callV td_X12_relief 27 rfl (q := 48) rfl (XkB E) lk_X12_356 (ok_fB_M_laysSets E g) ⟨rfl, rfl, Nat.le_of_ble_eq_true rfl, Nat.le_of_ble_eq_true rfl⟩ rfl rfl (Nat.le_of_ble_eq_true rfl) (Bc_0 E g) rfl (fun x6 => ?_)
          show Go (wCB E) _ _ x6 48 _ [] _
          refine go_iconst td_X12_relief 28 rfl (q := 49) rfl kc_m1 ?_
          refine go_istore_n [(3, .int (-1)), (0, .ref (E.1 0)), (1, .int a1), (2, .int a2)] td_X12_relief 29 rfl (q := 50) rfl (Nat.le_of_ble_eq_true rfl) rfl ?_
          refine go_iconst td_X12_relief 30 rfl (q := 51) rfl kc_0 ?_
          refine go_istore [(4, .int 0), (3, .int (-1)), (0, .ref (E.1 0)), (1, .int a1), (2, .int a2)] td_X12_relief 31 rfl (q := 53) rfl (Nat.le_of_ble_eq_true rfl) rfl ?_
          refine go_iconst td_X12_relief 32 rfl (q := 54) rfl kc_0 ?_
          refine go_istore [(5, .int 0), (4, .int 0), (3, .int (-1)), (0, .ref (E.1 0)), (1, .int a1), (2, .int a2)] td_X12_relief 33 rfl (q := 56) rfl (Nat.le_of_ble_eq_true rfl) rfl ?_
          refine go_pick [3, 4, 5, 2, 1, 0] (lv' := [(0, .ref (E.1 0)), (1, .int a1), (2, .int a2), (3, .int (-1)), (4, .int 0), (5, .int 0)]) rfl ?_
          refine (show ∀ (u7_0 : Int32) (u7_1 : Int32) (u7_2 : Int32) (u7_3 : G), Go (wCB E) _ _ u7_3 56 [(0, .ref (E.1 0)), (1, .int a1), (2, .int a2), (3, .int u7_0), (4, .int u7_1), (5, .int u7_2)] [] (Lp (α := Int32 × Int32 × Int32 × G) _ FU (u7_0, u7_1, u7_2, u7_3)) from ?_) (-1) 0 0 x6
          intro u7_0 u7_1 u7_2 u7_3
          refine go_Lp (α := Int32 × Int32 × Int32 × G) (fun s7 => s7.2.2.2) (fun s7 => [(0, .ref (E.1 0)), (1, .int a1), (2, .int a2), (3, .int s7.1), (4, .int s7.2.1), (5, .int s7.2.2.1)]) ?_ FU (u7_0, u7_1, u7_2, u7_3)
          intro rec7 hrec7 s7
          have krec7 : ∀ (u7_0 : Int32) (u7_1 : Int32) (u7_2 : Int32) (u7_3 : G), Go (wCB E) _ _ u7_3 56 [(0, .ref (E.1 0)), (1, .int a1), (2, .int a2), (3, .int u7_0), (4, .int u7_1), (5, .int u7_2)] [] (rec7 (u7_0, u7_1, u7_2, u7_3)) := fun u7_0 u7_1 u7_2 u7_3 => hrec7 (u7_0, u7_1, u7_2, u7_3)
          refine go_iload td_X12_relief 34 rfl (q := 58) rfl 5 rfl ?_
          refine go_aload_n td_X12_relief 35 rfl (q := 59) rfl 0 rfl ?_
          refine go_get td_X12_relief 36 rfl (q := 62) rfl fl_X12_26 (Bc_0 E s7.2.2.2) rfl ?_
          refine go_icmp_ge 222 td_X12_relief 37 rfl rfl (q := 65) rfl (fun _ => ?_) (fun _ => ?_)
          · refine go_iload_n td_X12_relief 121 rfl (q := 223) rfl 2 rfl ?_
            refine go_if_ne 230 td_X12_relief 122 rfl rfl (q := 226) rfl (fun _ => ?_) (fun _ => ?_)
            · refine go_iload td_X12_relief 125 rfl (q := 232) rfl 4 rfl ?_
              exact go_iret td_X12_relief 126 rfl rfl rfl
            · refine go_iload_n td_X12_relief 123 rfl (q := 227) rfl 3 rfl ?_
              refine go_goto td_X12_relief 124 rfl (q := 232) rfl ?_
              exact go_iret td_X12_relief 126 rfl rfl rfl
          · refine go_aload_n td_X12_relief 38 rfl (q := 66) rfl 0 rfl ?_
            refine go_get td_X12_relief 39 rfl (q := 69) rfl fl_X12_51 (Bc_0 E s7.2.2.2) rfl ?_
            refine go_iload td_X12_relief 40 rfl (q := 71) rfl 5 rfl ?_
            refine go_ald td_X12_relief 41 rfl (q := 72) rfl (Bc_4 E s7.2.2.2) (t0 := 0) rfl (fun x8 => ?_)
            refine go_aload_n td_X12_relief 42 rfl (q := 73) rfl 0 rfl ?_
            refine go_get td_X12_relief 43 rfl (q := 76) rfl fl_X12_51 (Bc_0 E s7.2.2.2) rfl ?_
            refine go_iload_n td_X12_relief 44 rfl (q := 77) rfl 1 rfl ?_
            refine go_ald td_X12_relief 45 rfl (q := 78) rfl (Bc_4 E s7.2.2.2) (t0 := 0) rfl (fun x9 => ?_)
            refine go_ljX (α := Int32 × Int32 × G) (fun b10 => [(0, .ref (E.1 0)), (1, .int a1), (2, .int a2), (3, .int b10.1), (4, .int b10.2.1), (5, .int s7.2.2.1)]) (fun b10 => []) (fun b10 => b10.2.2) 216 ?_ ?_
            · intro b10
              refine go_iinc [(5, .int (s7.2.2.1 + 1)), (0, .ref (E.1 0)), (1, .int a1), (2, .int a2), (3, .int b10.1), (4, .int b10.2.1)] td_X12_relief 119 rfl (q := 219) rfl 5 rfl kc_1 (Nat.le_of_ble_eq_true rfl) rfl ?_
              refine go_goto td_X12_relief 120 rfl (q := 56) rfl ?_
              refine go_pick [1, 2, 3, 4, 5, 0] (lv' := [(0, .ref (E.1 0)), (1, .int a1), (2, .int a2), (3, .int b10.1), (4, .int b10.2.1), (5, .int (s7.2.2.1 + 1))]) rfl ?_
              exact krec7 b10.1 b10.2.1 (s7.2.2.1 + 1) b10.2.2
            intro J10 hJ10
            have kJ10 : ∀ (u10_0 : Int32) (u10_1 : Int32) (u10_2 : G), Go (wCB E) _ _ u10_2 216 [(0, .ref (E.1 0)), (1, .int a1), (2, .int a2), (3, .int u10_0), (4, .int u10_1), (5, .int s7.2.2.1)] [] (J10 (u10_0, u10_1, u10_2)) := fun u10_0 u10_1 u10_2 => hJ10 (u10_0, u10_1, u10_2)
            refine go_icmp_ne 216 td_X12_relief 46 rfl rfl (q := 81) rfl (fun _ => ?_) (fun _ => ?_)
            · refine go_pick [0, 1, 2, 3, 4, 5] (lv' := [(0, .ref (E.1 0)), (1, .int a1), (2, .int a2), (3, .int s7.1), (4, .int s7.2.1), (5, .int s7.2.2.1)]) rfl ?_
              exact kJ10 s7.1 s7.2.1 s7.2.2.2
            · refine go_aload_n td_X12_relief 47 rfl (q := 82) rfl 0 rfl ?_
              refine go_get td_X12_relief 48 rfl (q := 85) rfl fl_X12_141 (Bc_0 E s7.2.2.2) rfl ?_
              refine go_iconst td_X12_relief 49 rfl (q := 86) rfl kc_4 ?_
              refine go_iload td_X12_relief 50 rfl (q := 88) rfl 5 rfl ?_
              refine go_iadd td_X12_relief 51 rfl (q := 89) rfl ?_
              refine go_ald td_X12_relief 52 rfl (q := 90) rfl (Bc_20 E s7.2.2.2) (t0 := 0) rfl (fun x11 => ?_)
              refine go_if_ne 96 td_X12_relief 53 rfl rfl (q := 93) rfl (fun _ => ?_) (fun _ => ?_)
              · refine go_aload_n td_X12_relief 55 rfl (q := 97) rfl 0 rfl ?_
                refine go_get td_X12_relief 56 rfl (q := 100) rfl fl_X12_141 (Bc_0 E s7.2.2.2) rfl ?_
                refine go_bipush td_X12_relief 57 rfl (q := 102) rfl kb_12 ?_
                refine go_iload td_X12_relief 58 rfl (q := 104) rfl 5 rfl ?_
                refine go_iadd td_X12_relief 59 rfl (q := 105) rfl ?_
                refine go_ald td_X12_relief 60 rfl (q := 106) rfl (Bc_20 E s7.2.2.2) (t0 := 0) rfl (fun x12 => ?_)
                refine go_istore [(6, .int x12), (0, .ref (E.1 0)), (1, .int a1), (2, .int a2), (3, .int s7.1), (4, .int s7.2.1), (5, .int s7.2.2.1)] td_X12_relief 61 rfl (q := 108) rfl (Nat.le_of_ble_eq_true rfl) rfl ?_
                refine go_aload_n td_X12_relief 62 rfl (q := 109) rfl 1 rfl ?_
                refine go_get td_X12_relief 63 rfl (q := 112) rfl fl_X12_141 (Bc_0 E s7.2.2.2) rfl ?_
                refine go_bipush td_X12_relief 64 rfl (q := 114) rfl kb_12 ?_
                refine go_iload td_X12_relief 65 rfl (q := 116) rfl 6 rfl ?_
                refine go_iadd td_X12_relief 66 rfl (q := 117) rfl ?_
                refine go_aload_n td_X12_relief 67 rfl (q := 118) rfl 1 rfl ?_
                refine go_get td_X12_relief 68 rfl (q := 121) rfl fl_X12_141 (Bc_0 E s7.2.2.2) rfl ?_
                refine go_bipush td_X12_relief 69 rfl (q := 123) rfl kb_12 ?_
                refine go_iload_n td_X12_relief 70 rfl (q := 124) rfl 2 rfl ?_
                refine go_iadd td_X12_relief 71 rfl (q := 125) rfl ?_
                refine go_ald td_X12_relief 72 rfl (q := 126) rfl (Bc_20 E s7.2.2.2) (t0 := 0) rfl (fun x13 => ?_)
                refine go_ast td_X12_relief 73 rfl (q := 127) rfl (Bc_20 E s7.2.2.2) (t0 := 0) rfl (Bas_20 E s7.2.2.2 _) ?_
                refine go_bvg (fun g14 => ?_)
                refine go_aload_n td_X12_relief 74 rfl (q := 128) rfl 1 rfl ?_
                refine go_iload td_X12_relief 75 rfl (q := 130) rfl 6 rfl ?_
                refine go_callV td_X12_relief 76 rfl (q := 133) rfl (XkB E) lk_X12_324 (ok_fB_M_laysOne E s7.2.2.1 g14) ⟨rfl, rfl, Nat.le_of_ble_eq_true rfl, Nat.le_of_ble_eq_true rfl⟩ rfl rfl (Nat.le_of_ble_eq_true rfl) (Bc_0 E g14) rfl (fun x15 => ?_)
                show Go (wCB E) _ _ x15 133 _ [] _
                refine go_aload_n td_X12_relief 77 rfl (q := 134) rfl 1 rfl ?_
                refine go_aload_n td_X12_relief 78 rfl (q := 135) rfl 1 rfl ?_
                refine go_callV td_X12_relief 79 rfl (q := 138) rfl (XkB E) lk_X12_359 (ok_fB_M_upSet E x15) ⟨rfl, rfl, Nat.le_of_ble_eq_true rfl, Nat.le_of_ble_eq_true rfl⟩ rfl rfl (Nat.le_of_ble_eq_true rfl) (Bc_0 E x15) rfl (fun x16 => ?_)
                show Go (wCB E) _ _ x15 138 _ [.int x16, .ref (E.1 0)] _
                refine go_callV td_X12_relief 80 rfl (q := 141) rfl (XkB E) lk_X12_413 (ok_fB_M_worstBy E x16 x15) ⟨rfl, rfl, Nat.le_of_ble_eq_true rfl, Nat.le_of_ble_eq_true rfl⟩ rfl rfl (Nat.le_of_ble_eq_true rfl) (Bc_0 E x15) rfl (fun x17 => ?_)
                show Go (wCB E) _ _ x17.2 141 _ [.int x17.1] _
                refine go_istore [(7, .int x17.1), (6, .int x12), (0, .ref (E.1 0)), (1, .int a1), (2, .int a2), (3, .int s7.1), (4, .int s7.2.1), (5, .int s7.2.2.1)] td_X12_relief 81 rfl (q := 143) rfl (Nat.le_of_ble_eq_true rfl) rfl ?_
                refine go_aload_n td_X12_relief 82 rfl (q := 144) rfl 2 rfl ?_
                refine go_aload_n td_X12_relief 83 rfl (q := 145) rfl 2 rfl ?_
                refine go_callV td_X12_relief 84 rfl (q := 148) rfl (XkB E) lk_X12_359 (ok_fB_M_upSet E x17.2) ⟨rfl, rfl, Nat.le_of_ble_eq_true rfl, Nat.le_of_ble_eq_true rfl⟩ rfl rfl (Nat.le_of_ble_eq_true rfl) (Bc_0 E x17.2) rfl (fun x18 => ?_)
                show Go (wCB E) _ _ x17.2 148 _ [.int x18, .ref (E.1 0)] _
                refine go_callV td_X12_relief 85 rfl (q := 151) rfl (XkB E) lk_X12_400 (ok_fB_M_scoreBy E x18 x17.2) ⟨rfl, rfl, Nat.le_of_ble_eq_true rfl, Nat.le_of_ble_eq_true rfl⟩ rfl rfl (Nat.le_of_ble_eq_true rfl) (Bc_0 E x17.2) rfl (fun x19 => ?_)
                show Go (wCB E) _ _ x17.2 151 _ [.float x19] _
                refine go_fstore [(8, .float x19), (7, .int x17.1), (6, .int x12), (0, .ref (E.1 0)), (1, .int a1), (2, .int a2), (3, .int s7.1), (4, .int s7.2.1), (5, .int s7.2.2.1)] td_X12_relief 86 rfl (q := 153) rfl (Nat.le_of_ble_eq_true rfl) rfl ?_
                refine go_aload_n td_X12_relief 87 rfl (q := 154) rfl 3 rfl ?_
                refine go_get td_X12_relief 88 rfl (q := 157) rfl fl_X12_141 (Bc_0 E x17.2) rfl ?_
                refine go_bipush td_X12_relief 89 rfl (q := 159) rfl kb_12 ?_
                refine go_iload td_X12_relief 90 rfl (q := 161) rfl 8 rfl ?_
                refine go_iadd td_X12_relief 91 rfl (q := 162) rfl ?_
                refine go_iload td_X12_relief 92 rfl (q := 164) rfl 2 rfl ?_
                refine go_ast td_X12_relief 93 rfl (q := 165) rfl (Bc_20 E x17.2) (t0 := 0) rfl (Bas_20 E x17.2 _) ?_
                refine go_bvg (fun g20 => ?_)
                refine go_aload_n td_X12_relief 94 rfl (q := 166) rfl 3 rfl ?_
                refine go_iload td_X12_relief 95 rfl (q := 168) rfl 8 rfl ?_
                refine go_callV td_X12_relief 96 rfl (q := 171) rfl (XkB E) lk_X12_324 (ok_fB_M_laysOne E s7.2.2.1 g20) ⟨rfl, rfl, Nat.le_of_ble_eq_true rfl, Nat.le_of_ble_eq_true rfl⟩ rfl rfl (Nat.le_of_ble_eq_true rfl) (Bc_0 E g20) rfl (fun x21 => ?_)
                show Go (wCB E) _ _ x21 171 _ [] _
                refine go_iload_n td_X12_relief 97 rfl (q := 172) rfl 6 rfl ?_
                refine go_iconst td_X12_relief 98 rfl (q := 173) rfl kc_m1 ?_
                refine go_ljX (α := Unit) (fun b22 => [(0, .ref (E.1 0)), (1, .int a1), (2, .int a2), (5, .int s7.2.2.1), (7, .int x17.1), (8, .float x19)]) (fun b22 => []) (fun b22 => x21) 203 ?_ ?_
                · intro b22
                  refine go_iload td_X12_relief 112 rfl (q := 205) rfl 3 rfl ?_
                  refine go_istore_n [(3, .int s7.2.2.1), (0, .ref (E.1 0)), (1, .int a1), (2, .int a2), (5, .int s7.2.2.1), (7, .int x17.1), (8, .float x19)] td_X12_relief 113 rfl (q := 206) rfl (Nat.le_of_ble_eq_true rfl) rfl ?_
                  refine go_iload td_X12_relief 114 rfl (q := 208) rfl 5 rfl ?_
                  refine go_istore [(4, .int x17.1), (3, .int s7.2.2.1), (0, .ref (E.1 0)), (1, .int a1), (2, .int a2), (5, .int s7.2.2.1), (7, .int x17.1), (8, .float x19)] td_X12_relief 115 rfl (q := 210) rfl (Nat.le_of_ble_eq_true rfl) rfl ?_
                  refine go_aload_n td_X12_relief 116 rfl (q := 211) rfl 2 rfl ?_
                  refine go_fload td_X12_relief 117 rfl (q := 213) rfl 7 rfl ?_
                  refine go_put td_X12_relief 118 rfl (q := 216) rfl flp_X12_175 (Bc_0 E x21) rfl rfl (Nat.le_of_ble_eq_true rfl) (Bpf E x21 x19) ?_
                  refine go_bvg (fun g23 => ?_)
                  refine go_pick [2, 3, 4, 1, 0, 5] (lv' := [(0, .ref (E.1 0)), (1, .int a1), (2, .int a2), (3, .int s7.2.2.1), (4, .int x17.1), (5, .int s7.2.2.1)]) rfl ?_
                  exact kJ10 s7.2.2.1 x17.1 g23
                intro J22 hJ22
                have kJ22 : Go (wCB E) _ _ x21 203 [(0, .ref (E.1 0)), (1, .int a1), (2, .int a2), (5, .int s7.2.2.1), (7, .int x17.1), (8, .float x19)] [] (J22 ()) := hJ22 ()
                refine go_icmp_eq 203 td_X12_relief 99 rfl rfl (q := 176) rfl (fun _ => ?_) (fun _ => ?_)
                · refine go_pick [3, 4, 5, 8, 1, 0] (lv' := [(0, .ref (E.1 0)), (1, .int a1), (2, .int a2), (5, .int s7.2.2.1), (7, .int x17.1), (8, .float x19)]) rfl ?_
                  exact kJ22 
                · refine go_iload td_X12_relief 100 rfl (q := 178) rfl 1 rfl ?_
                  refine go_iload td_X12_relief 101 rfl (q := 180) rfl 7 rfl ?_
                  refine go_icmp_gt 216 td_X12_relief 102 rfl rfl (q := 183) rfl (fun _ => ?_) (fun _ => ?_)
                  · refine go_pick [3, 4, 5, 6, 7, 8] (lv' := [(0, .ref (E.1 0)), (1, .int a1), (2, .int a2), (3, .int s7.1), (4, .int s7.2.1), (5, .int s7.2.2.1)]) rfl ?_
                    exact kJ10 s7.1 s7.2.1 x21
                  · refine go_iload td_X12_relief 103 rfl (q := 185) rfl 1 rfl ?_
                    refine go_iload td_X12_relief 104 rfl (q := 187) rfl 7 rfl ?_
                    refine go_icmp_ne 203 td_X12_relief 105 rfl rfl (q := 190) rfl (fun _ => ?_) (fun _ => ?_)
                    · refine go_pick [3, 4, 5, 8, 1, 0] (lv' := [(0, .ref (E.1 0)), (1, .int a1), (2, .int a2), (5, .int s7.2.2.1), (7, .int x17.1), (8, .float x19)]) rfl ?_
                      exact kJ22 
                    · refine go_fload td_X12_relief 106 rfl (q := 192) rfl 0 rfl ?_
                      refine go_aload_n td_X12_relief 107 rfl (q := 193) rfl 3 rfl ?_
                      refine go_get td_X12_relief 108 rfl (q := 196) rfl fl_X12_175 (Bc_0 E x21) rfl ?_
                      refine go_fcmp td_X12_relief 109 rfl (q := 197) rfl ?_
                      refine go_if_gt 203 td_X12_relief 110 rfl rfl (q := 200) rfl (fun _ => ?_) (fun _ => ?_)
                      · refine go_pick [3, 4, 5, 8, 1, 0] (lv' := [(0, .ref (E.1 0)), (1, .int a1), (2, .int a2), (5, .int s7.2.2.1), (7, .int x17.1), (8, .float x19)]) rfl ?_
                        exact kJ22 
                      · refine go_goto td_X12_relief 111 rfl (q := 216) rfl ?_
                        refine go_pick [3, 4, 5, 6, 7, 8] (lv' := [(0, .ref (E.1 0)), (1, .int a1), (2, .int a2), (3, .int s7.1), (4, .int s7.2.1), (5, .int s7.2.2.1)]) rfl ?_
                        exact kJ10 s7.1 s7.2.1 x21
              · refine go_goto td_X12_relief 54 rfl (q := 216) rfl ?_
                refine go_pick [0, 1, 2, 3, 4, 5] (lv' := [(0, .ref (E.1 0)), (1, .int a1), (2, .int a2), (3, .int s7.1), (4, .int s7.2.1), (5, .int s7.2.2.1)]) rfl ?_
                exact kJ10 s7.1 s7.2.1 s7.2.2.2
        · refine go_iconst td_X12_relief 24 rfl (q := 43) rfl kc_m1 ?_
          exact go_iret td_X12_relief 25 rfl rfl rfl
def fB_M_isWithin (a1 : Int32) (a2 : Int32) (g : G) : Option (Int32 × G) := Lp (α := Int32 × G) (fun rec1 s1 => (if (s1.2.1 8) ≤ s1.1 then some (1, s1.2) else Option.bind (fB_M_greatestOf s1.1 a1 s1.2) fun x2 => (if x2.1 ≤ a2 then rec1 (s1.1 + 1, x2.2) else some (0, x2.2)))) FU (0, g)
set_option maxRecDepth 20000 in
set_option maxHeartbeats 4000000 in
theorem ok_fB_M_isWithin (E : Ev) (a1 : Int32) (a2 : Int32) (g : G)  : Ct (wCB E) yX12_isWithin mi_X12_isWithin [.ref (E.1 0), .int a1, .int a2] (fun r => (some (.int r.1), r.2)) g (fB_M_isWithin a1 a2 g) := by
  refine go_enter rfl rfl (Nat.le_of_ble_eq_true rfl) (lv := [(0, .ref (E.1 0)), (1, .int a1), (2, .int a2)]) rfl ?_
  unfold fB_M_isWithin
  refine go_iconst td_X12_isWithin 0 rfl (q := 1) rfl kc_0 ?_
  refine go_istore_n [(3, .int 0), (0, .ref (E.1 0)), (1, .int a1), (2, .int a2)] td_X12_isWithin 1 rfl (q := 2) rfl (Nat.le_of_ble_eq_true rfl) rfl ?_
  refine go_pick [1, 2, 3, 0] (lv' := [(0, .ref (E.1 0)), (1, .int a1), (2, .int a2), (3, .int 0)]) rfl ?_
  refine (show ∀ (u1_0 : Int32) (u1_1 : G), Go (wCB E) _ _ u1_1 2 [(0, .ref (E.1 0)), (1, .int a1), (2, .int a2), (3, .int u1_0)] [] (Lp (α := Int32 × G) _ FU (u1_0, u1_1)) from ?_) 0 g
  intro u1_0 u1_1
  refine go_Lp (α := Int32 × G) (fun s1 => s1.2) (fun s1 => [(0, .ref (E.1 0)), (1, .int a1), (2, .int a2), (3, .int s1.1)]) ?_ FU (u1_0, u1_1)
  intro rec1 hrec1 s1
  have krec1 : ∀ (u1_0 : Int32) (u1_1 : G), Go (wCB E) _ _ u1_1 2 [(0, .ref (E.1 0)), (1, .int a1), (2, .int a2), (3, .int u1_0)] [] (rec1 (u1_0, u1_1)) := fun u1_0 u1_1 => hrec1 (u1_0, u1_1)
  refine go_iload_n td_X12_isWithin 2 rfl (q := 3) rfl 3 rfl ?_
  refine go_aload_n td_X12_isWithin 3 rfl (q := 4) rfl 0 rfl ?_
  refine go_get td_X12_isWithin 4 rfl (q := 7) rfl fl_X12_35 (Bc_0 E s1.2) rfl ?_
  refine go_icmp_ge 28 td_X12_isWithin 5 rfl rfl (q := 10) rfl (fun _ => ?_) (fun _ => ?_)
  · refine go_iconst td_X12_isWithin 16 rfl (q := 29) rfl kc_1 ?_
    exact go_zret td_X12_isWithin 17 rfl rfl rfl rfl
  · refine go_aload_n td_X12_isWithin 6 rfl (q := 11) rfl 0 rfl ?_
    refine go_iload_n td_X12_isWithin 7 rfl (q := 12) rfl 3 rfl ?_
    refine go_iload_n td_X12_isWithin 8 rfl (q := 13) rfl 1 rfl ?_
    refine go_callV td_X12_isWithin 9 rfl (q := 16) rfl (XkB E) lk_X12_337 (ok_fB_M_greatestOf E s1.1 a1 s1.2) ⟨rfl, rfl, Nat.le_of_ble_eq_true rfl, Nat.le_of_ble_eq_true rfl⟩ rfl rfl (Nat.le_of_ble_eq_true rfl) (Bc_0 E s1.2) rfl (fun x2 => ?_)
    show Go (wCB E) _ _ x2.2 16 _ [.int x2.1] _
    refine go_iload_n td_X12_isWithin 10 rfl (q := 17) rfl 2 rfl ?_
    refine go_icmp_le 22 td_X12_isWithin 11 rfl rfl (q := 20) rfl (fun _ => ?_) (fun _ => ?_)
    · refine go_iinc [(3, .int (s1.1 + 1)), (0, .ref (E.1 0)), (1, .int a1), (2, .int a2)] td_X12_isWithin 14 rfl (q := 25) rfl 3 rfl kc_1 (Nat.le_of_ble_eq_true rfl) rfl ?_
      refine go_goto td_X12_isWithin 15 rfl (q := 2) rfl ?_
      refine go_pick [1, 2, 3, 0] (lv' := [(0, .ref (E.1 0)), (1, .int a1), (2, .int a2), (3, .int (s1.1 + 1))]) rfl ?_
      exact krec1 (s1.1 + 1) x2.2
    · refine go_iconst td_X12_isWithin 12 rfl (q := 21) rfl kc_0 ?_
      exact go_zret td_X12_isWithin 13 rfl rfl rfl rfl
def fB_M_manyIn (a1 : Int32) (g : G) : Option (Int32) := Lp (α := Int32 × Int32) (fun rec1 s1 => (if 8 ≤ s1.2 then some s1.1 else bv (s1.1 + ((a1 >>> (s1.2 &&& 31)) &&& 1)) fun x2 => rec1 (x2, s1.2 + 1))) FU (0, 0)
set_option maxRecDepth 20000 in
set_option maxHeartbeats 4000000 in
theorem ok_fB_M_manyIn (E : Ev) (a1 : Int32) (g : G)  : Ct (wCB E) yX12_manyIn mi_X12_manyIn [.int a1] (fun r => (some (.int r), g)) g (fB_M_manyIn a1 g) := by
  refine go_enter rfl rfl (Nat.le_of_ble_eq_true rfl) (lv := [(0, .int a1)]) rfl ?_
  unfold fB_M_manyIn
  refine go_iconst td_X12_manyIn 0 rfl (q := 1) rfl kc_0 ?_
  refine go_istore_n [(1, .int 0), (0, .int a1)] td_X12_manyIn 1 rfl (q := 2) rfl (Nat.le_of_ble_eq_true rfl) rfl ?_
  refine go_iconst td_X12_manyIn 2 rfl (q := 3) rfl kc_0 ?_
  refine go_istore_n [(2, .int 0), (1, .int 0), (0, .int a1)] td_X12_manyIn 3 rfl (q := 4) rfl (Nat.le_of_ble_eq_true rfl) rfl ?_
  refine go_pick [2, 1, 0] (lv' := [(0, .int a1), (1, .int 0), (2, .int 0)]) rfl ?_
  refine (show ∀ (u1_0 : Int32) (u1_1 : Int32), Go (wCB E) _ _ g 4 [(0, .int a1), (1, .int u1_0), (2, .int u1_1)] [] (Lp (α := Int32 × Int32) _ FU (u1_0, u1_1)) from ?_) 0 0
  intro u1_0 u1_1
  refine go_Lp (α := Int32 × Int32) (fun s1 => g) (fun s1 => [(0, .int a1), (1, .int s1.1), (2, .int s1.2)]) ?_ FU (u1_0, u1_1)
  intro rec1 hrec1 s1
  have krec1 : ∀ (u1_0 : Int32) (u1_1 : Int32), Go (wCB E) _ _ g 4 [(0, .int a1), (1, .int u1_0), (2, .int u1_1)] [] (rec1 (u1_0, u1_1)) := fun u1_0 u1_1 => hrec1 (u1_0, u1_1)
  refine go_iload_n td_X12_manyIn 4 rfl (q := 5) rfl 2 rfl ?_
  refine go_bipush td_X12_manyIn 5 rfl (q := 7) rfl kb_8 ?_
  refine go_icmp_ge 24 td_X12_manyIn 6 rfl rfl (q := 10) rfl (fun _ => ?_) (fun _ => ?_)
  · refine go_iload_n td_X12_manyIn 17 rfl (q := 25) rfl 1 rfl ?_
    exact go_iret td_X12_manyIn 18 rfl rfl rfl
  · refine go_iload_n td_X12_manyIn 7 rfl (q := 11) rfl 1 rfl ?_
    refine go_iload_n td_X12_manyIn 8 rfl (q := 12) rfl 0 rfl ?_
    refine go_iload_n td_X12_manyIn 9 rfl (q := 13) rfl 2 rfl ?_
    refine go_ishr td_X12_manyIn 10 rfl (q := 14) rfl ?_
    refine go_iconst td_X12_manyIn 11 rfl (q := 15) rfl kc_1 ?_
    refine go_iand td_X12_manyIn 12 rfl (q := 16) rfl ?_
    refine go_iadd td_X12_manyIn 13 rfl (q := 17) rfl ?_
    refine go_bvi (fun x2 => ?_)
    refine go_istore_n [(1, .int x2), (0, .int a1), (2, .int s1.2)] td_X12_manyIn 14 rfl (q := 18) rfl (Nat.le_of_ble_eq_true rfl) rfl ?_
    refine go_iinc [(2, .int (s1.2 + 1)), (1, .int x2), (0, .int a1)] td_X12_manyIn 15 rfl (q := 21) rfl 2 rfl kc_1 (Nat.le_of_ble_eq_true rfl) rfl ?_
    refine go_goto td_X12_manyIn 16 rfl (q := 4) rfl ?_
    refine go_pick [2, 1, 0] (lv' := [(0, .int a1), (1, .int x2), (2, .int (s1.2 + 1))]) rfl ?_
    exact krec1 x2 (s1.2 + 1)
def fB_M_fewest (a1 : Int32) (a2 : Int32) (g : G) : Option (Int32 × G) := (if (g.1 0) = 0 then some ((-1), g) else (if a1 < 0 then some ((-1), g) else Option.bind (fB_M_isIn a2 0 1 g) fun x1 => (if x1 = 0 then some ((-1), g) else Option.bind (fB_M_laysSets g) fun x2 => Option.bind (fB_M_upSet x2) fun x3 => Option.bind (fB_M_isWithin x3 a1 x2) fun x4 => (if x4.1 = 0 then some ((-1), x4.2) else Lp (α := Int32 × Int32 × G) (fun rec5 s5 => (if x3 ≤ s5.2.1 then (if a2 = 0 then some (s5.1, s5.2.2) else Option.bind (fB_M_manyIn s5.1 s5.2.2) fun x6 => some (x6, s5.2.2)) else lj (α := Int32 × G) (fun b7 => rec5 (b7.1, s5.2.1 + 1, b7.2)) fun J7 => (if (s5.2.1 &&& (x3 ^^^ (-1))) = 0 then Option.bind (fB_M_manyIn s5.2.1 s5.2.2) fun x8 => Option.bind (fB_M_manyIn s5.1 s5.2.2) fun x9 => (if x9 < x8 then J7 (s5.1, s5.2.2) else Option.bind (fB_M_manyIn s5.2.1 s5.2.2) fun x10 => Option.bind (fB_M_manyIn s5.1 s5.2.2) fun x11 => lj (α := Unit) (fun b12 => Option.bind (fB_M_isWithin s5.2.1 a1 s5.2.2) fun x13 => (if x13.1 = 0 then J7 (s5.1, x13.2) else J7 (s5.2.1, x13.2))) fun J12 => (if x10 = x11 then (if s5.1 < s5.2.1 then J7 (s5.1, s5.2.2) else J12 ()) else J12 ())) else J7 (s5.1, s5.2.2)))) FU (x3, 0, x4.2)))))
set_option maxRecDepth 20000 in
set_option maxHeartbeats 4000000 in
theorem ok_fB_M_fewest (E : Ev) (a1 : Int32) (a2 : Int32) (g : G)  : Ct (wCB E) yX12_fewest mi_X12_fewest [.ref (E.1 0), .int a1, .int a2] (fun r => (some (.int r.1), r.2)) g (fB_M_fewest a1 a2 g) := by
  refine go_enter rfl rfl (Nat.le_of_ble_eq_true rfl) (lv := [(0, .ref (E.1 0)), (1, .int a1), (2, .int a2)]) rfl ?_
  unfold fB_M_fewest
  refine go_aload_n td_X12_fewest 0 rfl (q := 1) rfl 0 rfl ?_
  refine go_get td_X12_fewest 1 rfl (q := 4) rfl fl_X12_7 (Bc_0 E g) rfl ?_
  refine go_if_eq 20 td_X12_fewest 2 rfl rfl (q := 7) rfl (fun _ => ?_) (fun _ => ?_)
  · refine go_iconst td_X12_fewest 10 rfl (q := 21) rfl kc_m1 ?_
    exact go_iret td_X12_fewest 11 rfl rfl rfl
  · refine go_iload_n td_X12_fewest 3 rfl (q := 8) rfl 1 rfl ?_
    refine go_if_lt 20 td_X12_fewest 4 rfl rfl (q := 11) rfl (fun _ => ?_) (fun _ => ?_)
    · refine go_iconst td_X12_fewest 10 rfl (q := 21) rfl kc_m1 ?_
      exact go_iret td_X12_fewest 11 rfl rfl rfl
    · refine go_iload_n td_X12_fewest 5 rfl (q := 12) rfl 2 rfl ?_
      refine go_iconst td_X12_fewest 6 rfl (q := 13) rfl kc_0 ?_
      refine go_iconst td_X12_fewest 7 rfl (q := 14) rfl kc_1 ?_
      refine go_callS td_X12_fewest 8 rfl (q := 17) rfl (XkB E) lk_X12_248 (ok_fB_M_isIn E a2 0 1 g) ⟨rfl, rfl, Nat.le_of_ble_eq_true rfl, Nat.le_of_ble_eq_true rfl⟩ rfl rfl (Nat.le_of_ble_eq_true rfl) (fun x1 => ?_)
      show Go (wCB E) _ _ g 17 _ [.int x1] _
      refine go_if_ne 22 td_X12_fewest 9 rfl rfl (q := 20) rfl (fun _ => ?_) (fun _ => ?_)
      · refine go_aload_n td_X12_fewest 12 rfl (q := 23) rfl 0 rfl ?_
        refine go_callV td_X12_fewest 13 rfl (q := 26) rfl (XkB E) lk_X12_356 (ok_fB_M_laysSets E g) ⟨rfl, rfl, Nat.le_of_ble_eq_true rfl, Nat.le_of_ble_eq_true rfl⟩ rfl rfl (Nat.le_of_ble_eq_true rfl) (Bc_0 E g) rfl (fun x2 => ?_)
        show Go (wCB E) _ _ x2 26 _ [] _
        refine go_aload_n td_X12_fewest 14 rfl (q := 27) rfl 0 rfl ?_
        refine go_callV td_X12_fewest 15 rfl (q := 30) rfl (XkB E) lk_X12_359 (ok_fB_M_upSet E x2) ⟨rfl, rfl, Nat.le_of_ble_eq_true rfl, Nat.le_of_ble_eq_true rfl⟩ rfl rfl (Nat.le_of_ble_eq_true rfl) (Bc_0 E x2) rfl (fun x3 => ?_)
        show Go (wCB E) _ _ x2 30 _ [.int x3] _
        refine go_istore_n [(3, .int x3), (0, .ref (E.1 0)), (1, .int a1), (2, .int a2)] td_X12_fewest 16 rfl (q := 31) rfl (Nat.le_of_ble_eq_true rfl) rfl ?_
        refine go_aload_n td_X12_fewest 17 rfl (q := 32) rfl 1 rfl ?_
        refine go_iload_n td_X12_fewest 18 rfl (q := 33) rfl 0 rfl ?_
        refine go_iload_n td_X12_fewest 19 rfl (q := 34) rfl 2 rfl ?_
        refine go_callV td_X12_fewest 20 rfl (q := 37) rfl (XkB E) lk_X12_416 (ok_fB_M_isWithin E x3 a1 x2) ⟨rfl, rfl, Nat.le_of_ble_eq_true rfl, Nat.le_of_ble_eq_true rfl⟩ rfl rfl (Nat.le_of_ble_eq_true rfl) (Bc_0 E x2) rfl (fun x4 => ?_)
        show Go (wCB E) _ _ x4.2 37 _ [.int x4.1] _
        refine go_if_ne 42 td_X12_fewest 21 rfl rfl (q := 40) rfl (fun _ => ?_) (fun _ => ?_)
        · refine go_iload_n td_X12_fewest 24 rfl (q := 43) rfl 0 rfl ?_
          refine go_istore [(4, .int x3), (3, .int x3), (0, .ref (E.1 0)), (1, .int a1), (2, .int a2)] td_X12_fewest 25 rfl (q := 45) rfl (Nat.le_of_ble_eq_true rfl) rfl ?_
          refine go_iconst td_X12_fewest 26 rfl (q := 46) rfl kc_0 ?_
          refine go_istore [(5, .int 0), (4, .int x3), (3, .int x3), (0, .ref (E.1 0)), (1, .int a1), (2, .int a2)] td_X12_fewest 27 rfl (q := 48) rfl (Nat.le_of_ble_eq_true rfl) rfl ?_
          refine go_pick [3, 4, 5, 2, 1, 0] (lv' := [(0, .ref (E.1 0)), (1, .int a1), (2, .int a2), (3, .int x3), (4, .int x3), (5, .int 0)]) rfl ?_
          refine (show ∀ (u5_0 : Int32) (u5_1 : Int32) (u5_2 : G), Go (wCB E) _ _ u5_2 48 [(0, .ref (E.1 0)), (1, .int a1), (2, .int a2), (3, .int x3), (4, .int u5_0), (5, .int u5_1)] [] (Lp (α := Int32 × Int32 × G) _ FU (u5_0, u5_1, u5_2)) from ?_) x3 0 x4.2
          intro u5_0 u5_1 u5_2
          refine go_Lp (α := Int32 × Int32 × G) (fun s5 => s5.2.2) (fun s5 => [(0, .ref (E.1 0)), (1, .int a1), (2, .int a2), (3, .int x3), (4, .int s5.1), (5, .int s5.2.1)]) ?_ FU (u5_0, u5_1, u5_2)
          intro rec5 hrec5 s5
          have krec5 : ∀ (u5_0 : Int32) (u5_1 : Int32) (u5_2 : G), Go (wCB E) _ _ u5_2 48 [(0, .ref (E.1 0)), (1, .int a1), (2, .int a2), (3, .int x3), (4, .int u5_0), (5, .int u5_1)] [] (rec5 (u5_0, u5_1, u5_2)) := fun u5_0 u5_1 u5_2 => hrec5 (u5_0, u5_1, u5_2)
          refine go_iload td_X12_fewest 28 rfl (q := 50) rfl 5 rfl ?_
          refine go_iload_n td_X12_fewest 29 rfl (q := 51) rfl 3 rfl ?_
          refine go_icmp_ge 119 td_X12_fewest 30 rfl rfl (q := 54) rfl (fun _ => ?_) (fun _ => ?_)
          · refine go_iload_n td_X12_fewest 60 rfl (q := 120) rfl 2 rfl ?_
            refine go_if_ne 128 td_X12_fewest 61 rfl rfl (q := 123) rfl (fun _ => ?_) (fun _ => ?_)
            · refine go_iload td_X12_fewest 64 rfl (q := 130) rfl 4 rfl ?_
              refine go_callS td_X12_fewest 65 rfl (q := 133) rfl (XkB E) lk_X12_419 (ok_fB_M_manyIn E s5.1 s5.2.2) ⟨rfl, rfl, Nat.le_of_ble_eq_true rfl, Nat.le_of_ble_eq_true rfl⟩ rfl rfl (Nat.le_of_ble_eq_true rfl) (fun x6 => ?_)
              show Go (wCB E) _ _ s5.2.2 133 _ [.int x6] _
              exact go_iret td_X12_fewest 66 rfl rfl rfl
            · refine go_iload td_X12_fewest 62 rfl (q := 125) rfl 4 rfl ?_
              refine go_goto td_X12_fewest 63 rfl (q := 133) rfl ?_
              exact go_iret td_X12_fewest 66 rfl rfl rfl
          · refine go_iload td_X12_fewest 31 rfl (q := 56) rfl 5 rfl ?_
            refine go_iload_n td_X12_fewest 32 rfl (q := 57) rfl 3 rfl ?_
            refine go_iconst td_X12_fewest 33 rfl (q := 58) rfl kc_m1 ?_
            refine go_ixor td_X12_fewest 34 rfl (q := 59) rfl ?_
            refine go_iand td_X12_fewest 35 rfl (q := 60) rfl ?_
            refine go_ljX (α := Int32 × G) (fun b7 => [(0, .ref (E.1 0)), (1, .int a1), (2, .int a2), (3, .int x3), (4, .int b7.1), (5, .int s5.2.1)]) (fun b7 => []) (fun b7 => b7.2) 113 ?_ ?_
            · intro b7
              refine go_iinc [(5, .int (s5.2.1 + 1)), (0, .ref (E.1 0)), (1, .int a1), (2, .int a2), (3, .int x3), (4, .int b7.1)] td_X12_fewest 58 rfl (q := 116) rfl 5 rfl kc_1 (Nat.le_of_ble_eq_true rfl) rfl ?_
              refine go_goto td_X12_fewest 59 rfl (q := 48) rfl ?_
              refine go_pick [1, 2, 3, 4, 5, 0] (lv' := [(0, .ref (E.1 0)), (1, .int a1), (2, .int a2), (3, .int x3), (4, .int b7.1), (5, .int (s5.2.1 + 1))]) rfl ?_
              exact krec5 b7.1 (s5.2.1 + 1) b7.2
            intro J7 hJ7
            have kJ7 : ∀ (u7_0 : Int32) (u7_1 : G), Go (wCB E) _ _ u7_1 113 [(0, .ref (E.1 0)), (1, .int a1), (2, .int a2), (3, .int x3), (4, .int u7_0), (5, .int s5.2.1)] [] (J7 (u7_0, u7_1)) := fun u7_0 u7_1 => hJ7 (u7_0, u7_1)
            refine go_if_ne 113 td_X12_fewest 36 rfl rfl (q := 63) rfl (fun _ => ?_) (fun _ => ?_)
            · refine go_pick [0, 1, 2, 3, 4, 5] (lv' := [(0, .ref (E.1 0)), (1, .int a1), (2, .int a2), (3, .int x3), (4, .int s5.1), (5, .int s5.2.1)]) rfl ?_
              exact kJ7 s5.1 s5.2.2
            · refine go_iload td_X12_fewest 37 rfl (q := 65) rfl 5 rfl ?_
              refine go_callS td_X12_fewest 38 rfl (q := 68) rfl (XkB E) lk_X12_419 (ok_fB_M_manyIn E s5.2.1 s5.2.2) ⟨rfl, rfl, Nat.le_of_ble_eq_true rfl, Nat.le_of_ble_eq_true rfl⟩ rfl rfl (Nat.le_of_ble_eq_true rfl) (fun x8 => ?_)
              show Go (wCB E) _ _ s5.2.2 68 _ [.int x8] _
              refine go_iload td_X12_fewest 39 rfl (q := 70) rfl 4 rfl ?_
              refine go_callS td_X12_fewest 40 rfl (q := 73) rfl (XkB E) lk_X12_419 (ok_fB_M_manyIn E s5.1 s5.2.2) ⟨rfl, rfl, Nat.le_of_ble_eq_true rfl, Nat.le_of_ble_eq_true rfl⟩ rfl rfl (Nat.le_of_ble_eq_true rfl) (fun x9 => ?_)
              show Go (wCB E) _ _ s5.2.2 73 _ [.int x9, .int x8] _
              refine go_icmp_gt 113 td_X12_fewest 41 rfl rfl (q := 76) rfl (fun _ => ?_) (fun _ => ?_)
              · refine go_pick [0, 1, 2, 3, 4, 5] (lv' := [(0, .ref (E.1 0)), (1, .int a1), (2, .int a2), (3, .int x3), (4, .int s5.1), (5, .int s5.2.1)]) rfl ?_
                exact kJ7 s5.1 s5.2.2
              · refine go_iload td_X12_fewest 42 rfl (q := 78) rfl 5 rfl ?_
                refine go_callS td_X12_fewest 43 rfl (q := 81) rfl (XkB E) lk_X12_419 (ok_fB_M_manyIn E s5.2.1 s5.2.2) ⟨rfl, rfl, Nat.le_of_ble_eq_true rfl, Nat.le_of_ble_eq_true rfl⟩ rfl rfl (Nat.le_of_ble_eq_true rfl) (fun x10 => ?_)
                show Go (wCB E) _ _ s5.2.2 81 _ [.int x10] _
                refine go_iload td_X12_fewest 44 rfl (q := 83) rfl 4 rfl ?_
                refine go_callS td_X12_fewest 45 rfl (q := 86) rfl (XkB E) lk_X12_419 (ok_fB_M_manyIn E s5.1 s5.2.2) ⟨rfl, rfl, Nat.le_of_ble_eq_true rfl, Nat.le_of_ble_eq_true rfl⟩ rfl rfl (Nat.le_of_ble_eq_true rfl) (fun x11 => ?_)
                show Go (wCB E) _ _ s5.2.2 86 _ [.int x11, .int x10] _
                refine go_ljX (α := Unit) (fun b12 => [(0, .ref (E.1 0)), (1, .int a1), (2, .int a2), (3, .int x3), (4, .int s5.1), (5, .int s5.2.1)]) (fun b12 => []) (fun b12 => s5.2.2) 96 ?_ ?_
                · intro b12
                  refine go_aload_n td_X12_fewest 50 rfl (q := 97) rfl 0 rfl ?_
                  refine go_iload td_X12_fewest 51 rfl (q := 99) rfl 5 rfl ?_
                  refine go_iload_n td_X12_fewest 52 rfl (q := 100) rfl 1 rfl ?_
                  refine go_callV td_X12_fewest 53 rfl (q := 103) rfl (XkB E) lk_X12_416 (ok_fB_M_isWithin E s5.2.1 a1 s5.2.2) ⟨rfl, rfl, Nat.le_of_ble_eq_true rfl, Nat.le_of_ble_eq_true rfl⟩ rfl rfl (Nat.le_of_ble_eq_true rfl) (Bc_0 E s5.2.2) rfl (fun x13 => ?_)
                  show Go (wCB E) _ _ x13.2 103 _ [.int x13.1] _
                  refine go_if_ne 109 td_X12_fewest 54 rfl rfl (q := 106) rfl (fun _ => ?_) (fun _ => ?_)
                  · refine go_iload td_X12_fewest 56 rfl (q := 111) rfl 5 rfl ?_
                    refine go_istore [(4, .int s5.2.1), (0, .ref (E.1 0)), (1, .int a1), (2, .int a2), (3, .int x3), (5, .int s5.2.1)] td_X12_fewest 57 rfl (q := 113) rfl (Nat.le_of_ble_eq_true rfl) rfl ?_
                    refine go_pick [1, 2, 3, 4, 0, 5] (lv' := [(0, .ref (E.1 0)), (1, .int a1), (2, .int a2), (3, .int x3), (4, .int s5.2.1), (5, .int s5.2.1)]) rfl ?_
                    exact kJ7 s5.2.1 x13.2
                  · refine go_goto td_X12_fewest 55 rfl (q := 113) rfl ?_
                    refine go_pick [0, 1, 2, 3, 4, 5] (lv' := [(0, .ref (E.1 0)), (1, .int a1), (2, .int a2), (3, .int x3), (4, .int s5.1), (5, .int s5.2.1)]) rfl ?_
                    exact kJ7 s5.1 x13.2
                intro J12 hJ12
                have kJ12 : Go (wCB E) _ _ s5.2.2 96 [(0, .ref (E.1 0)), (1, .int a1), (2, .int a2), (3, .int x3), (4, .int s5.1), (5, .int s5.2.1)] [] (J12 ()) := hJ12 ()
                refine go_icmp_ne 96 td_X12_fewest 46 rfl rfl (q := 89) rfl (fun _ => ?_) (fun _ => ?_)
                · refine go_pick [0, 1, 2, 3, 4, 5] (lv' := [(0, .ref (E.1 0)), (1, .int a1), (2, .int a2), (3, .int x3), (4, .int s5.1), (5, .int s5.2.1)]) rfl ?_
                  exact kJ12 
                · refine go_iload td_X12_fewest 47 rfl (q := 91) rfl 5 rfl ?_
                  refine go_iload td_X12_fewest 48 rfl (q := 93) rfl 4 rfl ?_
                  refine go_icmp_gt 113 td_X12_fewest 49 rfl rfl (q := 96) rfl (fun _ => ?_) (fun _ => ?_)
                  · refine go_pick [0, 1, 2, 3, 4, 5] (lv' := [(0, .ref (E.1 0)), (1, .int a1), (2, .int a2), (3, .int x3), (4, .int s5.1), (5, .int s5.2.1)]) rfl ?_
                    exact kJ7 s5.1 s5.2.2
                  · refine go_pick [0, 1, 2, 3, 4, 5] (lv' := [(0, .ref (E.1 0)), (1, .int a1), (2, .int a2), (3, .int x3), (4, .int s5.1), (5, .int s5.2.1)]) rfl ?_
                    exact kJ12 
        · refine go_iconst td_X12_fewest 22 rfl (q := 41) rfl kc_m1 ?_
          exact go_iret td_X12_fewest 23 rfl rfl rfl
      · refine go_iconst td_X12_fewest 10 rfl (q := 21) rfl kc_m1 ?_
        exact go_iret td_X12_fewest 11 rfl rfl rfl
