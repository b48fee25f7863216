def fB_M_meets (a1 : Int32) (a2 : Int32) (g : G) : Option (Int32) := Option.bind (fB_M_isCraft a1 g) fun x1 => (if x1 = 0 then some (-1) else Option.bind (fB_M_isCraft a2 g) fun x2 => (if x2 = 0 then some (-1) else (if a1 = a2 then some (-1) else Lp (α := Int32 × Int32) (fun rec3 s3 => (if (g.1 7) ≤ s3.2 then some s3.1 else Option.bind (fB_M_columnAt a1 s3.2 g) fun x4 => Option.bind (fB_M_columnAt a2 s3.2 g) fun x5 => lj (α := Int32) (fun b6 => bv (s3.1 + b6) fun x7 => rec3 (x7, s3.2 + 1)) fun J6 => lj (α := Unit) (fun b8 => J6 0) fun J8 => (if x4 = x5 then Option.bind (fB_M_rowAt a1 s3.2 g) fun x9 => Option.bind (fB_M_rowAt a2 s3.2 g) fun x10 => (if x9 = x10 then J6 1 else J8 ()) else J8 ()))) FU (0, 0))))
set_option maxRecDepth 20000 in
set_option maxHeartbeats 4000000 in
theorem ok_fB_M_meets (E : Ev) (a1 : Int32) (a2 : Int32) (g : G)  : Ct (wCB E) yX12_meets mi_X12_meets [.ref (E.1 0), .int a1, .int a2] (fun r => (some (.int r), g)) g (fB_M_meets a1 a2 g) := by
  refine go_enter rfl rfl (Nat.le_of_ble_eq_true rfl) (lv := [(0, .ref (E.1 0)), (1, .int a1), (2, .int a2)]) rfl ?_
  unfold fB_M_meets
  refine go_aload_n td_X12_meets 0 rfl (q := 1) rfl 0 rfl ?_
  refine go_iload_n td_X12_meets 1 rfl (q := 2) rfl 1 rfl ?_
  refine go_callV td_X12_meets 2 rfl (q := 5) rfl (XkB E) lk_X12_350 (ok_fB_M_isCraft E a1 g) ⟨rfl, rfl, Nat.le_of_ble_eq_true rfl, Nat.le_of_ble_eq_true rfl⟩ rfl rfl (Nat.le_of_ble_eq_true rfl) (Bc_0 E g) rfl (fun x1 => ?_)
  show Go (wCB E) _ _ g 5 _ [.int x1] _
  refine go_if_eq 21 td_X12_meets 3 rfl rfl (q := 8) rfl (fun _ => ?_) (fun _ => ?_)
  · refine go_iconst td_X12_meets 11 rfl (q := 22) rfl kc_m1 ?_
    exact go_iret td_X12_meets 12 rfl rfl rfl
  · refine go_aload_n td_X12_meets 4 rfl (q := 9) rfl 0 rfl ?_
    refine go_iload_n td_X12_meets 5 rfl (q := 10) rfl 2 rfl ?_
    refine go_callV td_X12_meets 6 rfl (q := 13) rfl (XkB E) lk_X12_350 (ok_fB_M_isCraft E a2 g) ⟨rfl, rfl, Nat.le_of_ble_eq_true rfl, Nat.le_of_ble_eq_true rfl⟩ rfl rfl (Nat.le_of_ble_eq_true rfl) (Bc_0 E g) rfl (fun x2 => ?_)
    show Go (wCB E) _ _ g 13 _ [.int x2] _
    refine go_if_eq 21 td_X12_meets 7 rfl rfl (q := 16) rfl (fun _ => ?_) (fun _ => ?_)
    · refine go_iconst td_X12_meets 11 rfl (q := 22) rfl kc_m1 ?_
      exact go_iret td_X12_meets 12 rfl rfl rfl
    · refine go_iload_n td_X12_meets 8 rfl (q := 17) rfl 1 rfl ?_
      refine go_iload_n td_X12_meets 9 rfl (q := 18) rfl 2 rfl ?_
      refine go_icmp_ne 23 td_X12_meets 10 rfl rfl (q := 21) rfl (fun _ => ?_) (fun _ => ?_)
      · refine go_iconst td_X12_meets 13 rfl (q := 24) rfl kc_0 ?_
        refine go_istore_n [(3, .int 0), (0, .ref (E.1 0)), (1, .int a1), (2, .int a2)] td_X12_meets 14 rfl (q := 25) rfl (Nat.le_of_ble_eq_true rfl) rfl ?_
        refine go_iconst td_X12_meets 15 rfl (q := 26) rfl kc_0 ?_
        refine go_istore [(4, .int 0), (3, .int 0), (0, .ref (E.1 0)), (1, .int a1), (2, .int a2)] td_X12_meets 16 rfl (q := 28) rfl (Nat.le_of_ble_eq_true rfl) rfl ?_
        refine go_pick [2, 3, 4, 1, 0] (lv' := [(0, .ref (E.1 0)), (1, .int a1), (2, .int a2), (3, .int 0), (4, .int 0)]) rfl ?_
        refine (show ∀ (u3_0 : Int32) (u3_1 : Int32), Go (wCB E) _ _ g 28 [(0, .ref (E.1 0)), (1, .int a1), (2, .int a2), (3, .int u3_0), (4, .int u3_1)] [] (Lp (α := Int32 × Int32) _ FU (u3_0, u3_1)) from ?_) 0 0
        intro u3_0 u3_1
        refine go_Lp (α := Int32 × Int32) (fun s3 => g) (fun s3 => [(0, .ref (E.1 0)), (1, .int a1), (2, .int a2), (3, .int s3.1), (4, .int s3.2)]) ?_ FU (u3_0, u3_1)
        intro rec3 hrec3 s3
        have krec3 : ∀ (u3_0 : Int32) (u3_1 : Int32), Go (wCB E) _ _ g 28 [(0, .ref (E.1 0)), (1, .int a1), (2, .int a2), (3, .int u3_0), (4, .int u3_1)] [] (rec3 (u3_0, u3_1)) := fun u3_0 u3_1 => hrec3 (u3_0, u3_1)
        refine go_iload td_X12_meets 17 rfl (q := 30) rfl 4 rfl ?_
        refine go_aload_n td_X12_meets 18 rfl (q := 31) rfl 0 rfl ?_
        refine go_get td_X12_meets 19 rfl (q := 34) rfl fl_X12_32 (Bc_0 E g) rfl ?_
        refine go_icmp_ge 85 td_X12_meets 20 rfl rfl (q := 37) rfl (fun _ => ?_) (fun _ => ?_)
        · refine go_iload_n td_X12_meets 47 rfl (q := 86) rfl 3 rfl ?_
          exact go_iret td_X12_meets 48 rfl rfl rfl
        · refine go_iload_n td_X12_meets 21 rfl (q := 38) rfl 3 rfl ?_
          refine go_aload_n td_X12_meets 22 rfl (q := 39) rfl 0 rfl ?_
          refine go_iload_n td_X12_meets 23 rfl (q := 40) rfl 1 rfl ?_
          refine go_iload td_X12_meets 24 rfl (q := 42) rfl 4 rfl ?_
          refine go_callV td_X12_meets 25 rfl (q := 45) rfl (XkB E) lk_X12_314 (ok_fB_M_columnAt E a1 s3.2 g) ⟨rfl, rfl, Nat.le_of_ble_eq_true rfl, Nat.le_of_ble_eq_true rfl⟩ rfl rfl (Nat.le_of_ble_eq_true rfl) (Bc_0 E g) rfl (fun x4 => ?_)
          show Go (wCB E) _ _ g 45 _ [.int x4, .int s3.1] _
          refine go_aload_n td_X12_meets 26 rfl (q := 46) rfl 0 rfl ?_
          refine go_iload_n td_X12_meets 27 rfl (q := 47) rfl 2 rfl ?_
          refine go_iload td_X12_meets 28 rfl (q := 49) rfl 4 rfl ?_
          refine go_callV td_X12_meets 29 rfl (q := 52) rfl (XkB E) lk_X12_314 (ok_fB_M_columnAt E a2 s3.2 g) ⟨rfl, rfl, Nat.le_of_ble_eq_true rfl, Nat.le_of_ble_eq_true rfl⟩ rfl rfl (Nat.le_of_ble_eq_true rfl) (Bc_0 E g) rfl (fun x5 => ?_)
          show Go (wCB E) _ _ g 52 _ [.int x5, .int x4, .int s3.1] _
          refine go_ljX (α := Int32) (fun b6 => [(0, .ref (E.1 0)), (1, .int a1), (2, .int a2), (4, .int s3.2)]) (fun b6 => [.int b6, .int s3.1]) (fun b6 => g) 77 ?_ ?_
          · intro b6
            refine go_iadd td_X12_meets 43 rfl (q := 78) rfl ?_
            refine go_bvi (fun x7 => ?_)
            refine go_istore_n [(3, .int x7), (0, .ref (E.1 0)), (1, .int a1), (2, .int a2), (4, .int s3.2)] td_X12_meets 44 rfl (q := 79) rfl (Nat.le_of_ble_eq_true rfl) rfl ?_
            refine go_iinc [(4, .int (s3.2 + 1)), (3, .int x7), (0, .ref (E.1 0)), (1, .int a1), (2, .int a2)] td_X12_meets 45 rfl (q := 82) rfl 4 rfl kc_1 (Nat.le_of_ble_eq_true rfl) rfl ?_
            refine go_goto td_X12_meets 46 rfl (q := 28) rfl ?_
            refine go_pick [2, 3, 4, 1, 0] (lv' := [(0, .ref (E.1 0)), (1, .int a1), (2, .int a2), (3, .int x7), (4, .int (s3.2 + 1))]) rfl ?_
            exact krec3 x7 (s3.2 + 1)
          intro J6 hJ6
          have kJ6 : ∀ (u6_0 : Int32), Go (wCB E) _ _ g 77 [(0, .ref (E.1 0)), (1, .int a1), (2, .int a2), (4, .int s3.2)] [.int u6_0, .int s3.1] (J6 u6_0) := fun u6_0 => hJ6 u6_0
          refine go_ljX (α := Unit) (fun b8 => [(0, .ref (E.1 0)), (1, .int a1), (2, .int a2), (4, .int s3.2)]) (fun b8 => [.int s3.1]) (fun b8 => g) 76 ?_ ?_
          · intro b8
            refine go_iconst td_X12_meets 42 rfl (q := 77) rfl kc_0 ?_
            refine go_pick [0, 1, 2, 3] (lv' := [(0, .ref (E.1 0)), (1, .int a1), (2, .int a2), (4, .int s3.2)]) rfl ?_
            exact kJ6 0
          intro J8 hJ8
          have kJ8 : Go (wCB E) _ _ g 76 [(0, .ref (E.1 0)), (1, .int a1), (2, .int a2), (4, .int s3.2)] [.int s3.1] (J8 ()) := hJ8 ()
          refine go_icmp_ne 76 td_X12_meets 30 rfl rfl (q := 55) rfl (fun _ => ?_) (fun _ => ?_)
          · refine go_pick [0, 1, 2, 4] (lv' := [(0, .ref (E.1 0)), (1, .int a1), (2, .int a2), (4, .int s3.2)]) rfl ?_
            exact kJ8 
          · refine go_aload_n td_X12_meets 31 rfl (q := 56) rfl 0 rfl ?_
            refine go_iload_n td_X12_meets 32 rfl (q := 57) rfl 1 rfl ?_
            refine go_iload td_X12_meets 33 rfl (q := 59) rfl 4 rfl ?_
            refine go_callV td_X12_meets 34 rfl (q := 62) rfl (XkB E) lk_X12_317 (ok_fB_M_rowAt E a1 s3.2 g) ⟨rfl, rfl, Nat.le_of_ble_eq_true rfl, Nat.le_of_ble_eq_true rfl⟩ rfl rfl (Nat.le_of_ble_eq_true rfl) (Bc_0 E g) rfl (fun x9 => ?_)
            show Go (wCB E) _ _ g 62 _ [.int x9, .int s3.1] _
            refine go_aload_n td_X12_meets 35 rfl (q := 63) rfl 0 rfl ?_
            refine go_iload_n td_X12_meets 36 rfl (q := 64) rfl 2 rfl ?_
            refine go_iload td_X12_meets 37 rfl (q := 66) rfl 4 rfl ?_
            refine go_callV td_X12_meets 38 rfl (q := 69) rfl (XkB E) lk_X12_317 (ok_fB_M_rowAt E a2 s3.2 g) ⟨rfl, rfl, Nat.le_of_ble_eq_true rfl, Nat.le_of_ble_eq_true rfl⟩ rfl rfl (Nat.le_of_ble_eq_true rfl) (Bc_0 E g) rfl (fun x10 => ?_)
            show Go (wCB E) _ _ g 69 _ [.int x10, .int x9, .int s3.1] _
            refine go_icmp_ne 76 td_X12_meets 39 rfl rfl (q := 72) rfl (fun _ => ?_) (fun _ => ?_)
            · refine go_pick [0, 1, 2, 4] (lv' := [(0, .ref (E.1 0)), (1, .int a1), (2, .int a2), (4, .int s3.2)]) rfl ?_
              exact kJ8 
            · refine go_iconst td_X12_meets 40 rfl (q := 73) rfl kc_1 ?_
              refine go_goto td_X12_meets 41 rfl (q := 77) rfl ?_
              refine go_pick [0, 1, 2, 4] (lv' := [(0, .ref (E.1 0)), (1, .int a1), (2, .int a2), (4, .int s3.2)]) rfl ?_
              exact kJ6 1
      · refine go_iconst td_X12_meets 11 rfl (q := 22) rfl kc_m1 ?_
        exact go_iret td_X12_meets 12 rfl rfl rfl
def fB_M_extreme (a1 : Int32) (a2 : Int32) (g : G) : Option (Int32 × G) := (if (g.1 0) = 0 then some ((-1), g) else Option.bind (fB_M_isIn a2 0 1 g) fun x1 => (if x1 = 0 then some ((-1), g) else Option.bind (fB_M_laysSets g) fun x2 => Option.bind (fB_M_upSet x2) fun x3 => Option.bind (fB_M_coveredBy 0 x3 x2) fun x4 => Lp (α := Int32 × Int32 × Int32) (fun rec5 s5 => (if (x2.1 7) ≤ s5.2.2 then (if a2 = 0 then some (s5.1, x2) else some (s5.2.1, x2)) else Option.bind (fB_M_upSet x2) fun x6 => Option.bind (fB_M_coveredBy s5.2.2 x6 x2) fun x7 => lj (α := Int32 × Int32) (fun b8 => rec5 (b8.1, b8.2, s5.2.2 + 1)) fun J8 => lj (α := Unit) (fun b9 => J8 (s5.2.2, x7)) fun J9 => (if a1 = 0 then (if x7 < s5.2.1 then J9 () else J8 (s5.1, s5.2.1)) else (if s5.2.1 < x7 then J9 () else J8 (s5.1, s5.2.1))))) FU (0, x4, 1)))
set_option maxRecDepth 20000 in
set_option maxHeartbeats 4000000 in
theorem ok_fB_M_extreme (E : Ev) (a1 : Int32) (a2 : Int32) (g : G)  : Ct (wCB E) yX12_extreme mi_X12_extreme [.ref (E.1 0), .int a1, .int a2] (fun r => (some (.int r.1), r.2)) g (fB_M_extreme a1 a2 g) := by
  refine go_enter rfl rfl (Nat.le_of_ble_eq_true rfl) (lv := [(0, .ref (E.1 0)), (1, .int a1), (2, .int a2)]) rfl ?_
  unfold fB_M_extreme
  refine go_aload_n td_X12_extreme 0 rfl (q := 1) rfl 0 rfl ?_
  refine go_get td_X12_extreme 1 rfl (q := 4) rfl fl_X12_7 (Bc_0 E g) rfl ?_
  refine go_if_eq 16 td_X12_extreme 2 rfl rfl (q := 7) rfl (fun _ => ?_) (fun _ => ?_)
  · refine go_iconst td_X12_extreme 8 rfl (q := 17) rfl kc_m1 ?_
    exact go_iret td_X12_extreme 9 rfl rfl rfl
  · refine go_iload_n td_X12_extreme 3 rfl (q := 8) rfl 2 rfl ?_
    refine go_iconst td_X12_extreme 4 rfl (q := 9) rfl kc_0 ?_
    refine go_iconst td_X12_extreme 5 rfl (q := 10) rfl kc_1 ?_
    refine go_callS td_X12_extreme 6 rfl (q := 13) rfl (XkB E) lk_X12_248 (ok_fB_M_isIn E a2 0 1 g) ⟨rfl, rfl, Nat.le_of_ble_eq_true rfl, Nat.le_of_ble_eq_true rfl⟩ rfl rfl (Nat.le_of_ble_eq_true rfl) (fun x1 => ?_)
    show Go (wCB E) _ _ g 13 _ [.int x1] _
    refine go_if_ne 18 td_X12_extreme 7 rfl rfl (q := 16) rfl (fun _ => ?_) (fun _ => ?_)
    · refine go_aload_n td_X12_extreme 10 rfl (q := 19) rfl 0 rfl ?_
      refine go_callV td_X12_extreme 11 rfl (q := 22) rfl (XkB E) lk_X12_356 (ok_fB_M_laysSets E g) ⟨rfl, rfl, Nat.le_of_ble_eq_true rfl, Nat.le_of_ble_eq_true rfl⟩ rfl rfl (Nat.le_of_ble_eq_true rfl) (Bc_0 E g) rfl (fun x2 => ?_)
      show Go (wCB E) _ _ x2 22 _ [] _
      refine go_iconst td_X12_extreme 12 rfl (q := 23) rfl kc_0 ?_
      refine go_istore_n [(3, .int 0), (0, .ref (E.1 0)), (1, .int a1), (2, .int a2)] td_X12_extreme 13 rfl (q := 24) rfl (Nat.le_of_ble_eq_true rfl) rfl ?_
      refine go_aload_n td_X12_extreme 14 rfl (q := 25) rfl 1 rfl ?_
      refine go_iconst td_X12_extreme 15 rfl (q := 26) rfl kc_0 ?_
      refine go_aload_n td_X12_extreme 16 rfl (q := 27) rfl 1 rfl ?_
      refine go_callV td_X12_extreme 17 rfl (q := 30) rfl (XkB E) lk_X12_359 (ok_fB_M_upSet E x2) ⟨rfl, rfl, Nat.le_of_ble_eq_true rfl, Nat.le_of_ble_eq_true rfl⟩ rfl rfl (Nat.le_of_ble_eq_true rfl) (Bc_0 E x2) rfl (fun x3 => ?_)
      show Go (wCB E) _ _ x2 30 _ [.int x3, .int 0, .ref (E.1 0)] _
      refine go_callV td_X12_extreme 18 rfl (q := 33) rfl (XkB E) lk_X12_391 (ok_fB_M_coveredBy E 0 x3 x2) ⟨rfl, rfl, Nat.le_of_ble_eq_true rfl, Nat.le_of_ble_eq_true rfl⟩ rfl rfl (Nat.le_of_ble_eq_true rfl) (Bc_0 E x2) rfl (fun x4 => ?_)
      show Go (wCB E) _ _ x2 33 _ [.int x4] _
      refine go_istore [(4, .int x4), (3, .int 0), (0, .ref (E.1 0)), (1, .int a1), (2, .int a2)] td_X12_extreme 19 rfl (q := 35) rfl (Nat.le_of_ble_eq_true rfl) rfl ?_
      refine go_iconst td_X12_extreme 20 rfl (q := 36) rfl kc_1 ?_
      refine go_istore [(5, .int 1), (4, .int x4), (3, .int 0), (0, .ref (E.1 0)), (1, .int a1), (2, .int a2)] td_X12_extreme 21 rfl (q := 38) rfl (Nat.le_of_ble_eq_true rfl) rfl ?_
      refine go_pick [3, 4, 5, 2, 1, 0] (lv' := [(0, .ref (E.1 0)), (1, .int a1), (2, .int a2), (3, .int 0), (4, .int x4), (5, .int 1)]) rfl ?_
      refine (show ∀ (u5_0 : Int32) (u5_1 : Int32) (u5_2 : Int32), Go (wCB E) _ _ x2 38 [(0, .ref (E.1 0)), (1, .int a1), (2, .int a2), (3, .int u5_0), (4, .int u5_1), (5, .int u5_2)] [] (Lp (α := Int32 × Int32 × Int32) _ FU (u5_0, u5_1, u5_2)) from ?_) 0 x4 1
      intro u5_0 u5_1 u5_2
      refine go_Lp (α := Int32 × Int32 × Int32) (fun s5 => x2) (fun s5 => [(0, .ref (E.1 0)), (1, .int a1), (2, .int a2), (3, .int s5.1), (4, .int s5.2.1), (5, .int s5.2.2)]) ?_ FU (u5_0, u5_1, u5_2)
      intro rec5 hrec5 s5
      have krec5 : ∀ (u5_0 : Int32) (u5_1 : Int32) (u5_2 : Int32), Go (wCB E) _ _ x2 38 [(0, .ref (E.1 0)), (1, .int a1), (2, .int a2), (3, .int u5_0), (4, .int u5_1), (5, .int u5_2)] [] (rec5 (u5_0, u5_1, u5_2)) := fun u5_0 u5_1 u5_2 => hrec5 (u5_0, u5_1, u5_2)
      refine go_iload td_X12_extreme 22 rfl (q := 40) rfl 5 rfl ?_
      refine go_aload_n td_X12_extreme 23 rfl (q := 41) rfl 0 rfl ?_
      refine go_get td_X12_extreme 24 rfl (q := 44) rfl fl_X12_32 (Bc_0 E x2) rfl ?_
      refine go_icmp_ge 96 td_X12_extreme 25 rfl rfl (q := 47) rfl (fun _ => ?_) (fun _ => ?_)
      · refine go_iload_n td_X12_extreme 48 rfl (q := 97) rfl 2 rfl ?_
        refine go_if_ne 104 td_X12_extreme 49 rfl rfl (q := 100) rfl (fun _ => ?_) (fun _ => ?_)
        · refine go_iload td_X12_extreme 52 rfl (q := 106) rfl 4 rfl ?_
          exact go_iret td_X12_extreme 53 rfl rfl rfl
        · refine go_iload_n td_X12_extreme 50 rfl (q := 101) rfl 3 rfl ?_
          refine go_goto td_X12_extreme 51 rfl (q := 106) rfl ?_
          exact go_iret td_X12_extreme 53 rfl rfl rfl
      · refine go_aload_n td_X12_extreme 26 rfl (q := 48) rfl 0 rfl ?_
        refine go_iload td_X12_extreme 27 rfl (q := 50) rfl 5 rfl ?_
        refine go_aload_n td_X12_extreme 28 rfl (q := 51) rfl 0 rfl ?_
        refine go_callV td_X12_extreme 29 rfl (q := 54) rfl (XkB E) lk_X12_359 (ok_fB_M_upSet E x2) ⟨rfl, rfl, Nat.le_of_ble_eq_true rfl, Nat.le_of_ble_eq_true rfl⟩ rfl rfl (Nat.le_of_ble_eq_true rfl) (Bc_0 E x2) rfl (fun x6 => ?_)
        show Go (wCB E) _ _ x2 54 _ [.int x6, .int s5.2.2, .ref (E.1 0)] _
        refine go_callV td_X12_extreme 30 rfl (q := 57) rfl (XkB E) lk_X12_391 (ok_fB_M_coveredBy E s5.2.2 x6 x2) ⟨rfl, rfl, Nat.le_of_ble_eq_true rfl, Nat.le_of_ble_eq_true rfl⟩ rfl rfl (Nat.le_of_ble_eq_true rfl) (Bc_0 E x2) rfl (fun x7 => ?_)
        show Go (wCB E) _ _ x2 57 _ [.int x7] _
        refine go_istore [(6, .int x7), (0, .ref (E.1 0)), (1, .int a1), (2, .int a2), (3, .int s5.1), (4, .int s5.2.1), (5, .int s5.2.2)] td_X12_extreme 31 rfl (q := 59) rfl (Nat.le_of_ble_eq_true rfl) rfl ?_
        refine go_iload_n td_X12_extreme 32 rfl (q := 60) rfl 2 rfl ?_
        refine go_ljX (α := Int32 × Int32) (fun b8 => [(0, .ref (E.1 0)), (1, .int a1), (2, .int a2), (3, .int b8.1), (4, .int b8.2), (5, .int s5.2.2)]) (fun b8 => []) (fun b8 => x2) 90 ?_ ?_
        · intro b8
          refine go_iinc [(5, .int (s5.2.2 + 1)), (0, .ref (E.1 0)), (1, .int a1), (2, .int a2), (3, .int b8.1), (4, .int b8.2)] td_X12_extreme 46 rfl (q := 93) rfl 5 rfl kc_1 (Nat.le_of_ble_eq_true rfl) rfl ?_
          refine go_goto td_X12_extreme 47 rfl (q := 38) rfl ?_
          refine go_pick [1, 2, 3, 4, 5, 0] (lv' := [(0, .ref (E.1 0)), (1, .int a1), (2, .int a2), (3, .int b8.1), (4, .int b8.2), (5, .int (s5.2.2 + 1))]) rfl ?_
          exact krec5 b8.1 b8.2 (s5.2.2 + 1)
        intro J8 hJ8
        have kJ8 : ∀ (u8_0 : Int32) (u8_1 : Int32), Go (wCB E) _ _ x2 90 [(0, .ref (E.1 0)), (1, .int a1), (2, .int a2), (3, .int u8_0), (4, .int u8_1), (5, .int s5.2.2)] [] (J8 (u8_0, u8_1)) := fun u8_0 u8_1 => hJ8 (u8_0, u8_1)
        refine go_ljX (α := Unit) (fun b9 => [(0, .ref (E.1 0)), (1, .int a1), (2, .int a2), (5, .int s5.2.2), (6, .int x7)]) (fun b9 => []) (fun b9 => x2) 83 ?_ ?_
        · intro b9
          refine go_iload td_X12_extreme 42 rfl (q := 85) rfl 3 rfl ?_
          refine go_istore_n [(3, .int s5.2.2), (0, .ref (E.1 0)), (1, .int a1), (2, .int a2), (5, .int s5.2.2), (6, .int x7)] td_X12_extreme 43 rfl (q := 86) rfl (Nat.le_of_ble_eq_true rfl) rfl ?_
          refine go_iload td_X12_extreme 44 rfl (q := 88) rfl 5 rfl ?_
          refine go_istore [(4, .int x7), (3, .int s5.2.2), (0, .ref (E.1 0)), (1, .int a1), (2, .int a2), (5, .int s5.2.2), (6, .int x7)] td_X12_extreme 45 rfl (q := 90) rfl (Nat.le_of_ble_eq_true rfl) rfl ?_
          refine go_pick [2, 3, 4, 1, 0, 5] (lv' := [(0, .ref (E.1 0)), (1, .int a1), (2, .int a2), (3, .int s5.2.2), (4, .int x7), (5, .int s5.2.2)]) rfl ?_
          exact kJ8 s5.2.2 x7
        intro J9 hJ9
        have kJ9 : Go (wCB E) _ _ x2 83 [(0, .ref (E.1 0)), (1, .int a1), (2, .int a2), (5, .int s5.2.2), (6, .int x7)] [] (J9 ()) := hJ9 ()
        refine go_if_eq 73 td_X12_extreme 33 rfl rfl (q := 63) rfl (fun _ => ?_) (fun _ => ?_)
        · refine go_iload td_X12_extreme 38 rfl (q := 75) rfl 0 rfl ?_
          refine go_iload td_X12_extreme 39 rfl (q := 77) rfl 5 rfl ?_
          refine go_icmp_lt 83 td_X12_extreme 40 rfl rfl (q := 80) rfl (fun _ => ?_) (fun _ => ?_)
          · refine go_pick [1, 2, 3, 6, 0] (lv' := [(0, .ref (E.1 0)), (1, .int a1), (2, .int a2), (5, .int s5.2.2), (6, .int x7)]) rfl ?_
            exact kJ9 
          · refine go_goto td_X12_extreme 41 rfl (q := 90) rfl ?_
            refine go_pick [1, 2, 3, 4, 5, 6] (lv' := [(0, .ref (E.1 0)), (1, .int a1), (2, .int a2), (3, .int s5.1), (4, .int s5.2.1), (5, .int s5.2.2)]) rfl ?_
            exact kJ8 s5.1 s5.2.1
        · refine go_iload td_X12_extreme 34 rfl (q := 65) rfl 0 rfl ?_
          refine go_iload td_X12_extreme 35 rfl (q := 67) rfl 5 rfl ?_
          refine go_icmp_gt 83 td_X12_extreme 36 rfl rfl (q := 70) rfl (fun _ => ?_) (fun _ => ?_)
          · refine go_pick [1, 2, 3, 6, 0] (lv' := [(0, .ref (E.1 0)), (1, .int a1), (2, .int a2), (5, .int s5.2.2), (6, .int x7)]) rfl ?_
            exact kJ9 
          · refine go_goto td_X12_extreme 37 rfl (q := 90) rfl ?_
            refine go_pick [1, 2, 3, 4, 5, 6] (lv' := [(0, .ref (E.1 0)), (1, .int a1), (2, .int a2), (3, .int s5.1), (4, .int s5.2.1), (5, .int s5.2.2)]) rfl ?_
            exact kJ8 s5.1 s5.2.1
    · refine go_iconst td_X12_extreme 8 rfl (q := 17) rfl kc_m1 ?_
      exact go_iret td_X12_extreme 9 rfl rfl rfl
def fB_M_depth (a1 : Int32) (a2 : Int32) (a3 : Int32) (g : G) : Option (Int32 × G) := Option.bind (fB_M_isCell a1 a2 g) fun x1 => (if x1 = 0 then some ((-1), g) else Option.bind (fB_M_isIn a3 0 2 g) fun x2 => (if x2 = 0 then some ((-1), g) else Option.bind (fB_M_laysSets g) fun x3 => Lp (α := Int32 × Int32 × Int32 × Int32) (fun rec4 s4 => (if (x3.1 7) ≤ s4.2.2.2 then (if a3 = 0 then some (s4.1, x3) else (if a3 = 1 then some (s4.2.1, x3) else some (s4.2.2.1, x3))) else ag 69120 (x3.2.1 22) ((((x3.1 8) * s4.2.2.2) + ((x3.1 1) * a2)) + a1) fun x5 => Option.bind (fB_M_upSet x3) fun x6 => Option.bind (fB_M_manyIn (x5 &&& x6) x3) fun x7 => lj (α := Int32) (fun b8 => bv (s4.2.2.1 + b8) fun x9 => lj (α := Int32 × Int32) (fun b10 => rec4 (b10.1, b10.2, x9, s4.2.2.2 + 1)) fun J10 => (if s4.1 < x7 then J10 (x7, s4.2.2.2) else J10 (s4.1, s4.2.1))) fun J8 => (if x7 < 2 then J8 0 else J8 1))) FU ((-1), 0, 0, 0)))
set_option maxRecDepth 20000 in
set_option maxHeartbeats 4000000 in
theorem ok_fB_M_depth (E : Ev) (a1 : Int32) (a2 : Int32) (a3 : Int32) (g : G)  : Ct (wCB E) yX12_depth mi_X12_depth [.ref (E.1 0), .int a1, .int a2, .int a3] (fun r => (some (.int r.1), r.2)) g (fB_M_depth a1 a2 a3 g) := by
  refine go_enter rfl rfl (Nat.le_of_ble_eq_true rfl) (lv := [(0, .ref (E.1 0)), (1, .int a1), (2, .int a2), (3, .int a3)]) rfl ?_
  unfold fB_M_depth
  refine go_aload_n td_X12_depth 0 rfl (q := 1) rfl 0 rfl ?_
  refine go_iload_n td_X12_depth 1 rfl (q := 2) rfl 1 rfl ?_
  refine go_iload_n td_X12_depth 2 rfl (q := 3) rfl 2 rfl ?_
  refine go_callV td_X12_depth 3 rfl (q := 6) rfl (XkB E) lk_X12_365 (ok_fB_M_isCell E a1 a2 g) ⟨rfl, rfl, Nat.le_of_ble_eq_true rfl, Nat.le_of_ble_eq_true rfl⟩ rfl rfl (Nat.le_of_ble_eq_true rfl) (Bc_0 E g) rfl (fun x1 => ?_)
  show Go (wCB E) _ _ g 6 _ [.int x1] _
  refine go_if_eq 18 td_X12_depth 4 rfl rfl (q := 9) rfl (fun _ => ?_) (fun _ => ?_)
  · refine go_iconst td_X12_depth 10 rfl (q := 19) rfl kc_m1 ?_
    exact go_iret td_X12_depth 11 rfl rfl rfl
  · refine go_iload_n td_X12_depth 5 rfl (q := 10) rfl 3 rfl ?_
    refine go_iconst td_X12_depth 6 rfl (q := 11) rfl kc_0 ?_
    refine go_iconst td_X12_depth 7 rfl (q := 12) rfl kc_2 ?_
    refine go_callS td_X12_depth 8 rfl (q := 15) rfl (XkB E) lk_X12_248 (ok_fB_M_isIn E a3 0 2 g) ⟨rfl, rfl, Nat.le_of_ble_eq_true rfl, Nat.le_of_ble_eq_true rfl⟩ rfl rfl (Nat.le_of_ble_eq_true rfl) (fun x2 => ?_)
    show Go (wCB E) _ _ g 15 _ [.int x2] _
    refine go_if_ne 20 td_X12_depth 9 rfl rfl (q := 18) rfl (fun _ => ?_) (fun _ => ?_)
    · refine go_aload_n td_X12_depth 12 rfl (q := 21) rfl 0 rfl ?_
      refine go_callV td_X12_depth 13 rfl (q := 24) rfl (XkB E) lk_X12_356 (ok_fB_M_laysSets E g) ⟨rfl, rfl, Nat.le_of_ble_eq_true rfl, Nat.le_of_ble_eq_true rfl⟩ rfl rfl (Nat.le_of_ble_eq_true rfl) (Bc_0 E g) rfl (fun x3 => ?_)
      show Go (wCB E) _ _ x3 24 _ [] _
      refine go_iconst td_X12_depth 14 rfl (q := 25) rfl kc_m1 ?_
      refine go_istore [(4, .int (-1)), (0, .ref (E.1 0)), (1, .int a1), (2, .int a2), (3, .int a3)] td_X12_depth 15 rfl (q := 27) rfl (Nat.le_of_ble_eq_true rfl) rfl ?_
      refine go_iconst td_X12_depth 16 rfl (q := 28) rfl kc_0 ?_
      refine go_istore [(5, .int 0), (4, .int (-1)), (0, .ref (E.1 0)), (1, .int a1), (2, .int a2), (3, .int a3)] td_X12_depth 17 rfl (q := 30) rfl (Nat.le_of_ble_eq_true rfl) rfl ?_
      refine go_iconst td_X12_depth 18 rfl (q := 31) rfl kc_0 ?_
      refine go_istore [(6, .int 0), (5, .int 0), (4, .int (-1)), (0, .ref (E.1 0)), (1, .int a1), (2, .int a2), (3, .int a3)] td_X12_depth 19 rfl (q := 33) rfl (Nat.le_of_ble_eq_true rfl) rfl ?_
      refine go_iconst td_X12_depth 20 rfl (q := 34) rfl kc_0 ?_
      refine go_istore [(7, .int 0), (6, .int 0), (5, .int 0), (4, .int (-1)), (0, .ref (E.1 0)), (1, .int a1), (2, .int a2), (3, .int a3)] td_X12_depth 21 rfl (q := 36) rfl (Nat.le_of_ble_eq_true rfl) rfl ?_
      refine go_pick [4, 5, 6, 7, 3, 2, 1, 0] (lv' := [(0, .ref (E.1 0)), (1, .int a1), (2, .int a2), (3, .int a3), (4, .int (-1)), (5, .int 0), (6, .int 0), (7, .int 0)]) rfl ?_
      refine (show ∀ (u4_0 : Int32) (u4_1 : Int32) (u4_2 : Int32) (u4_3 : Int32), Go (wCB E) _ _ x3 36 [(0, .ref (E.1 0)), (1, .int a1), (2, .int a2), (3, .int a3), (4, .int u4_0), (5, .int u4_1), (6, .int u4_2), (7, .int u4_3)] [] (Lp (α := Int32 × Int32 × Int32 × Int32) _ FU (u4_0, u4_1, u4_2, u4_3)) from ?_) (-1) 0 0 0
      intro u4_0 u4_1 u4_2 u4_3
      refine go_Lp (α := Int32 × Int32 × Int32 × Int32) (fun s4 => x3) (fun s4 => [(0, .ref (E.1 0)), (1, .int a1), (2, .int a2), (3, .int a3), (4, .int s4.1), (5, .int s4.2.1), (6, .int s4.2.2.1), (7, .int s4.2.2.2)]) ?_ FU (u4_0, u4_1, u4_2, u4_3)
      intro rec4 hrec4 s4
      have krec4 : ∀ (u4_0 : Int32) (u4_1 : Int32) (u4_2 : Int32) (u4_3 : Int32), Go (wCB E) _ _ x3 36 [(0, .ref (E.1 0)), (1, .int a1), (2, .int a2), (3, .int a3), (4, .int u4_0), (5, .int u4_1), (6, .int u4_2), (7, .int u4_3)] [] (rec4 (u4_0, u4_1, u4_2, u4_3)) := fun u4_0 u4_1 u4_2 u4_3 => hrec4 (u4_0, u4_1, u4_2, u4_3)
      refine go_iload td_X12_depth 22 rfl (q := 38) rfl 7 rfl ?_
      refine go_aload_n td_X12_depth 23 rfl (q := 39) rfl 0 rfl ?_
      refine go_get td_X12_depth 24 rfl (q := 42) rfl fl_X12_32 (Bc_0 E x3) rfl ?_
      refine go_icmp_ge 116 td_X12_depth 25 rfl rfl (q := 45) rfl (fun _ => ?_) (fun _ => ?_)
      · refine go_iload_n td_X12_depth 64 rfl (q := 117) rfl 3 rfl ?_
        refine go_if_ne 125 td_X12_depth 65 rfl rfl (q := 120) rfl (fun _ => ?_) (fun _ => ?_)
        · refine go_iload_n td_X12_depth 68 rfl (q := 126) rfl 3 rfl ?_
          refine go_iconst td_X12_depth 69 rfl (q := 127) rfl kc_1 ?_
          refine go_icmp_ne 135 td_X12_depth 70 rfl rfl (q := 130) rfl (fun _ => ?_) (fun _ => ?_)
          · refine go_iload td_X12_depth 73 rfl (q := 137) rfl 6 rfl ?_
            exact go_iret td_X12_depth 74 rfl rfl rfl
          · refine go_iload td_X12_depth 71 rfl (q := 132) rfl 5 rfl ?_
            refine go_goto td_X12_depth 72 rfl (q := 137) rfl ?_
            exact go_iret td_X12_depth 74 rfl rfl rfl
        · refine go_iload td_X12_depth 66 rfl (q := 122) rfl 4 rfl ?_
          refine go_goto td_X12_depth 67 rfl (q := 137) rfl ?_
          exact go_iret td_X12_depth 74 rfl rfl rfl
      · refine go_aload_n td_X12_depth 26 rfl (q := 46) rfl 0 rfl ?_
        refine go_get td_X12_depth 27 rfl (q := 49) rfl fl_X12_151 (Bc_0 E x3) rfl ?_
        refine go_aload_n td_X12_depth 28 rfl (q := 50) rfl 0 rfl ?_
        refine go_get td_X12_depth 29 rfl (q := 53) rfl fl_X12_35 (Bc_0 E x3) rfl ?_
        refine go_iload td_X12_depth 30 rfl (q := 55) rfl 7 rfl ?_
        refine go_imul td_X12_depth 31 rfl (q := 56) rfl ?_
        refine go_aload_n td_X12_depth 32 rfl (q := 57) rfl 0 rfl ?_
        refine go_get td_X12_depth 33 rfl (q := 60) rfl fl_X12_13 (Bc_0 E x3) rfl ?_
        refine go_iload_n td_X12_depth 34 rfl (q := 61) rfl 2 rfl ?_
        refine go_imul td_X12_depth 35 rfl (q := 62) rfl ?_
        refine go_iadd td_X12_depth 36 rfl (q := 63) rfl ?_
        refine go_iload_n td_X12_depth 37 rfl (q := 64) rfl 1 rfl ?_
        refine go_iadd td_X12_depth 38 rfl (q := 65) rfl ?_
        refine go_ald td_X12_depth 39 rfl (q := 66) rfl (Bc_22 E x3) (t0 := 0) rfl (fun x5 => ?_)
        refine go_aload_n td_X12_depth 40 rfl (q := 67) rfl 0 rfl ?_
        refine go_callV td_X12_depth 41 rfl (q := 70) rfl (XkB E) lk_X12_359 (ok_fB_M_upSet E x3) ⟨rfl, rfl, Nat.le_of_ble_eq_true rfl, Nat.le_of_ble_eq_true rfl⟩ rfl rfl (Nat.le_of_ble_eq_true rfl) (Bc_0 E x3) rfl (fun x6 => ?_)
        show Go (wCB E) _ _ x3 70 _ [.int x6, .int x5] _
        refine go_iand td_X12_depth 42 rfl (q := 71) rfl ?_
        refine go_callS td_X12_depth 43 rfl (q := 74) rfl (XkB E) lk_X12_419 (ok_fB_M_manyIn E (x5 &&& x6) x3) ⟨rfl, rfl, Nat.le_of_ble_eq_true rfl, Nat.le_of_ble_eq_true rfl⟩ rfl rfl (Nat.le_of_ble_eq_true rfl) (fun x7 => ?_)
        show Go (wCB E) _ _ x3 74 _ [.int x7] _
        refine go_istore [(8, .int x7), (0, .ref (E.1 0)), (1, .int a1), (2, .int a2), (3, .int a3), (4, .int s4.1), (5, .int s4.2.1), (6, .int s4.2.2.1), (7, .int s4.2.2.2)] td_X12_depth 44 rfl (q := 76) rfl (Nat.le_of_ble_eq_true rfl) rfl ?_
        refine go_iload td_X12_depth 45 rfl (q := 78) rfl 7 rfl ?_
        refine go_iload td_X12_depth 46 rfl (q := 80) rfl 0 rfl ?_
        refine go_iconst td_X12_depth 47 rfl (q := 81) rfl kc_2 ?_
        refine go_ljX (α := Int32) (fun b8 => [(0, .ref (E.1 0)), (1, .int a1), (2, .int a2), (3, .int a3), (4, .int s4.1), (5, .int s4.2.1), (7, .int s4.2.2.2), (8, .int x7)]) (fun b8 => [.int b8, .int s4.2.2.1]) (fun b8 => x3) 89 ?_ ?_
        · intro b8
          refine go_iadd td_X12_depth 52 rfl (q := 90) rfl ?_
          refine go_bvi (fun x9 => ?_)
          refine go_istore [(6, .int x9), (0, .ref (E.1 0)), (1, .int a1), (2, .int a2), (3, .int a3), (4, .int s4.1), (5, .int s4.2.1), (7, .int s4.2.2.2), (8, .int x7)] td_X12_depth 53 rfl (q := 92) rfl (Nat.le_of_ble_eq_true rfl) rfl ?_
          refine go_iload td_X12_depth 54 rfl (q := 94) rfl 8 rfl ?_
          refine go_iload td_X12_depth 55 rfl (q := 96) rfl 5 rfl ?_
          refine go_ljX (α := Int32 × Int32) (fun b10 => [(0, .ref (E.1 0)), (1, .int a1), (2, .int a2), (3, .int a3), (4, .int b10.1), (5, .int b10.2), (6, .int x9), (7, .int s4.2.2.2)]) (fun b10 => []) (fun b10 => x3) 110 ?_ ?_
          · intro b10
            refine go_iinc [(7, .int (s4.2.2.2 + 1)), (0, .ref (E.1 0)), (1, .int a1), (2, .int a2), (3, .int a3), (4, .int b10.1), (5, .int b10.2), (6, .int x9)] td_X12_depth 62 rfl (q := 113) rfl 7 rfl kc_1 (Nat.le_of_ble_eq_true rfl) rfl ?_
            refine go_goto td_X12_depth 63 rfl (q := 36) rfl ?_
            refine go_pick [1, 2, 3, 4, 5, 6, 7, 0] (lv' := [(0, .ref (E.1 0)), (1, .int a1), (2, .int a2), (3, .int a3), (4, .int b10.1), (5, .int b10.2), (6, .int x9), (7, .int (s4.2.2.2 + 1))]) rfl ?_
            exact krec4 b10.1 b10.2 x9 (s4.2.2.2 + 1)
          intro J10 hJ10
          have kJ10 : ∀ (u10_0 : Int32) (u10_1 : Int32), Go (wCB E) _ _ x3 110 [(0, .ref (E.1 0)), (1, .int a1), (2, .int a2), (3, .int a3), (4, .int u10_0), (5, .int u10_1), (6, .int x9), (7, .int s4.2.2.2)] [] (J10 (u10_0, u10_1)) := fun u10_0 u10_1 => hJ10 (u10_0, u10_1)
          refine go_icmp_gt 102 td_X12_depth 56 rfl rfl (q := 99) rfl (fun _ => ?_) (fun _ => ?_)
          · refine go_iload td_X12_depth 58 rfl (q := 104) rfl 8 rfl ?_
            refine go_istore [(4, .int x7), (6, .int x9), (0, .ref (E.1 0)), (1, .int a1), (2, .int a2), (3, .int a3), (5, .int s4.2.1), (7, .int s4.2.2.2), (8, .int x7)] td_X12_depth 59 rfl (q := 106) rfl (Nat.le_of_ble_eq_true rfl) rfl ?_
            refine go_iload td_X12_depth 60 rfl (q := 108) rfl 7 rfl ?_
            refine go_istore [(5, .int s4.2.2.2), (4, .int x7), (6, .int x9), (0, .ref (E.1 0)), (1, .int a1), (2, .int a2), (3, .int a3), (7, .int s4.2.2.2), (8, .int x7)] td_X12_depth 61 rfl (q := 110) rfl (Nat.le_of_ble_eq_true rfl) rfl ?_
            refine go_pick [3, 4, 5, 6, 1, 0, 2, 7] (lv' := [(0, .ref (E.1 0)), (1, .int a1), (2, .int a2), (3, .int a3), (4, .int x7), (5, .int s4.2.2.2), (6, .int x9), (7, .int s4.2.2.2)]) rfl ?_
            exact kJ10 x7 s4.2.2.2
          · refine go_goto td_X12_depth 57 rfl (q := 110) rfl ?_
            refine go_pick [1, 2, 3, 4, 5, 6, 0, 7] (lv' := [(0, .ref (E.1 0)), (1, .int a1), (2, .int a2), (3, .int a3), (4, .int s4.1), (5, .int s4.2.1), (6, .int x9), (7, .int s4.2.2.2)]) rfl ?_
            exact kJ10 s4.1 s4.2.1
        intro J8 hJ8
        have kJ8 : ∀ (u8_0 : Int32), Go (wCB E) _ _ x3 89 [(0, .ref (E.1 0)), (1, .int a1), (2, .int a2), (3, .int a3), (4, .int s4.1), (5, .int s4.2.1), (7, .int s4.2.2.2), (8, .int x7)] [.int u8_0, .int s4.2.2.1] (J8 u8_0) := fun u8_0 => hJ8 u8_0
        refine go_icmp_lt 88 td_X12_depth 48 rfl rfl (q := 84) rfl (fun _ => ?_) (fun _ => ?_)
        · refine go_iconst td_X12_depth 51 rfl (q := 89) rfl kc_0 ?_
          refine go_pick [1, 2, 3, 4, 5, 6, 8, 0] (lv' := [(0, .ref (E.1 0)), (1, .int a1), (2, .int a2), (3, .int a3), (4, .int s4.1), (5, .int s4.2.1), (7, .int s4.2.2.2), (8, .int x7)]) rfl ?_
          exact kJ8 0
        · refine go_iconst td_X12_depth 49 rfl (q := 85) rfl kc_1 ?_
          refine go_goto td_X12_depth 50 rfl (q := 89) rfl ?_
          refine go_pick [1, 2, 3, 4, 5, 6, 8, 0] (lv' := [(0, .ref (E.1 0)), (1, .int a1), (2, .int a2), (3, .int a3), (4, .int s4.1), (5, .int s4.2.1), (7, .int s4.2.2.2), (8, .int x7)]) rfl ?_
          exact kJ8 1
    · refine go_iconst td_X12_depth 10 rfl (q := 19) rfl kc_m1 ?_
      exact go_iret td_X12_depth 11 rfl rfl rfl
def fB_M_couple (a1 : Int32) (g : G) : Option (Int32 × G) := Option.bind (fB_M_upMany (-1) g) fun x1 => (if x1 < 2 then some ((-1), g) else Option.bind (fB_M_isIn a1 0 2 g) fun x2 => (if x2 = 0 then some ((-1), g) else Option.bind (fB_M_laysSets g) fun x3 => Lp (α := Int32 × Int32 × Int32 × Int32 × G) (fun rec4 s4 => (if (s4.2.2.2.2.1 5) ≤ s4.2.2.2.1 then (if a1 = 0 then some (s4.1, s4.2.2.2.2) else (if a1 = 1 then some (s4.2.1, s4.2.2.2.2) else some (s4.2.2.1, s4.2.2.2.2))) else bv (s4.2.2.2.1 + 1) fun x5 => Lp (α := Int32 × Int32 × Int32 × Int32 × G) (fun rec6 s6 => (if (s6.2.2.2.2.1 5) ≤ s6.2.2.2.1 then rec4 (s6.1, s6.2.1, s6.2.2.1, s4.2.2.2.1 + 1, s6.2.2.2.2) else ag 28 (s6.2.2.2.2.2.1 20) (4 + s4.2.2.2.1) fun x7 => lj (α := Int32 × Int32 × Int32 × G) (fun b8 => rec6 (b8.1, b8.2.1, b8.2.2.1, s6.2.2.2.1 + 1, b8.2.2.2)) fun J8 => (if x7 = 0 then J8 (s6.1, s6.2.1, s6.2.2.1, s6.2.2.2.2) else ag 28 (s6.2.2.2.2.2.1 20) (4 + s6.2.2.2.1) fun x9 => (if x9 = 0 then J8 (s6.1, s6.2.1, s6.2.2.1, s6.2.2.2.2) else Option.bind (fB_M_upSet s6.2.2.2.2) fun x10 => Option.bind (fB_M_worstBy ((x10 &&& (((1 : Int32) <<< (s4.2.2.2.1 &&& 31)) ^^^ (-1))) &&& (((1 : Int32) <<< (s6.2.2.2.1 &&& 31)) ^^^ (-1))) s6.2.2.2.2) fun x11 => (if s6.2.2.1 < x11.1 then J8 (s4.2.2.2.1, s6.2.2.2.1, x11.1, x11.2) else J8 (s6.1, s6.2.1, s6.2.2.1, x11.2)))))) FU (s4.1, s4.2.1, s4.2.2.1, x5, s4.2.2.2.2))) FU ((-1), (-1), (-1), 0, x3)))
set_option maxRecDepth 20000 in
set_option maxHeartbeats 4000000 in
theorem ok_fB_M_couple (E : Ev) (a1 : Int32) (g : G)  : Ct (wCB E) yX12_couple mi_X12_couple [.ref (E.1 0), .int a1] (fun r => (some (.int r.1), r.2)) g (fB_M_couple a1 g) := by
  refine go_enter rfl rfl (Nat.le_of_ble_eq_true rfl) (lv := [(0, .ref (E.1 0)), (1, .int a1)]) rfl ?_
  unfold fB_M_couple
  refine go_aload_n td_X12_couple 0 rfl (q := 1) rfl 0 rfl ?_
  refine go_iconst td_X12_couple 1 rfl (q := 2) rfl kc_m1 ?_
  refine go_callV td_X12_couple 2 rfl (q := 5) rfl (XkB E) lk_X12_344 (ok_fB_M_upMany E (-1) g) ⟨rfl, rfl, Nat.le_of_ble_eq_true rfl, Nat.le_of_ble_eq_true rfl⟩ rfl rfl (Nat.le_of_ble_eq_true rfl) (Bc_0 E g) rfl (fun x1 => ?_)
  show Go (wCB E) _ _ g 5 _ [.int x1] _
  refine go_iconst td_X12_couple 3 rfl (q := 6) rfl kc_2 ?_
  refine go_icmp_lt 18 td_X12_couple 4 rfl rfl (q := 9) rfl (fun _ => ?_) (fun _ => ?_)
  · refine go_iconst td_X12_couple 10 rfl (q := 19) rfl kc_m1 ?_
    exact go_iret td_X12_couple 11 rfl rfl rfl
  · refine go_iload_n td_X12_couple 5 rfl (q := 10) rfl 1 rfl ?_
    refine go_iconst td_X12_couple 6 rfl (q := 11) rfl kc_0 ?_
    refine go_iconst td_X12_couple 7 rfl (q := 12) rfl kc_2 ?_
    refine go_callS td_X12_couple 8 rfl (q := 15) rfl (XkB E) lk_X12_248 (ok_fB_M_isIn E a1 0 2 g) ⟨rfl, rfl, Nat.le_of_ble_eq_true rfl, Nat.le_of_ble_eq_true rfl⟩ rfl rfl (Nat.le_of_ble_eq_true rfl) (fun x2 => ?_)
    show Go (wCB E) _ _ g 15 _ [.int x2] _
    refine go_if_ne 20 td_X12_couple 9 rfl rfl (q := 18) rfl (fun _ => ?_) (fun _ => ?_)
    · refine go_aload_n td_X12_couple 12 rfl (q := 21) rfl 0 rfl ?_
      refine go_callV td_X12_couple 13 rfl (q := 24) rfl (XkB E) lk_X12_356 (ok_fB_M_laysSets E g) ⟨rfl, rfl, Nat.le_of_ble_eq_true rfl, Nat.le_of_ble_eq_true rfl⟩ rfl rfl (Nat.le_of_ble_eq_true rfl) (Bc_0 E g) rfl (fun x3 => ?_)
      show Go (wCB E) _ _ x3 24 _ [] _
      refine go_iconst td_X12_couple 14 rfl (q := 25) rfl kc_m1 ?_
      refine go_istore_n [(2, .int (-1)), (0, .ref (E.1 0)), (1, .int a1)] td_X12_couple 15 rfl (q := 26) rfl (Nat.le_of_ble_eq_true rfl) rfl ?_
      refine go_iconst td_X12_couple 16 rfl (q := 27) rfl kc_m1 ?_
      refine go_istore_n [(3, .int (-1)), (2, .int (-1)), (0, .ref (E.1 0)), (1, .int a1)] td_X12_couple 17 rfl (q := 28) rfl (Nat.le_of_ble_eq_true rfl) rfl ?_
      refine go_iconst td_X12_couple 18 rfl (q := 29) rfl kc_m1 ?_
      refine go_istore [(4, .int (-1)), (3, .int (-1)), (2, .int (-1)), (0, .ref (E.1 0)), (1, .int a1)] td_X12_couple 19 rfl (q := 31) rfl (Nat.le_of_ble_eq_true rfl) rfl ?_
      refine go_iconst td_X12_couple 20 rfl (q := 32) rfl kc_0 ?_
      refine go_istore [(5, .int 0), (4, .int (-1)), (3, .int (-1)), (2, .int (-1)), (0, .ref (E.1 0)), (1, .int a1)] td_X12_couple 21 rfl (q := 34) rfl (Nat.le_of_ble_eq_true rfl) rfl ?_
      refine go_pick [4, 5, 3, 2, 1, 0] (lv' := [(0, .ref (E.1 0)), (1, .int a1), (2, .int (-1)), (3, .int (-1)), (4, .int (-1)), (5, .int 0)]) rfl ?_
      refine (show ∀ (u4_0 : Int32) (u4_1 : Int32) (u4_2 : Int32) (u4_3 : Int32) (u4_4 : G), Go (wCB E) _ _ u4_4 34 [(0, .ref (E.1 0)), (1, .int a1), (2, .int u4_0), (3, .int u4_1), (4, .int u4_2), (5, .int u4_3)] [] (Lp (α := Int32 × Int32 × Int32 × Int32 × G) _ FU (u4_0, u4_1, u4_2, u4_3, u4_4)) from ?_) (-1) (-1) (-1) 0 x3
      intro u4_0 u4_1 u4_2 u4_3 u4_4
      refine go_Lp (α := Int32 × Int32 × Int32 × Int32 × G) (fun s4 => s4.2.2.2.2) (fun s4 => [(0, .ref (E.1 0)), (1, .int a1), (2, .int s4.1), (3, .int s4.2.1), (4, .int s4.2.2.1), (5, .int s4.2.2.2.1)]) ?_ FU (u4_0, u4_1, u4_2, u4_3, u4_4)
      intro rec4 hrec4 s4
      have krec4 : ∀ (u4_0 : Int32) (u4_1 : Int32) (u4_2 : Int32) (u4_3 : Int32) (u4_4 : G), Go (wCB E) _ _ u4_4 34 [(0, .ref (E.1 0)), (1, .int a1), (2, .int u4_0), (3, .int u4_1), (4, .int u4_2), (5, .int u4_3)] [] (rec4 (u4_0, u4_1, u4_2, u4_3, u4_4)) := fun u4_0 u4_1 u4_2 u4_3 u4_4 => hrec4 (u4_0, u4_1, u4_2, u4_3, u4_4)
      refine go_iload td_X12_couple 22 rfl (q := 36) rfl 5 rfl ?_
      refine go_aload_n td_X12_couple 23 rfl (q := 37) rfl 0 rfl ?_
      refine go_get td_X12_couple 24 rfl (q := 40) rfl fl_X12_26 (Bc_0 E s4.2.2.2.2) rfl ?_
      refine go_icmp_ge 141 td_X12_couple 25 rfl rfl (q := 43) rfl (fun _ => ?_) (fun _ => ?_)
      · refine go_iload_n td_X12_couple 80 rfl (q := 142) rfl 1 rfl ?_
        refine go_if_ne 149 td_X12_couple 81 rfl rfl (q := 145) rfl (fun _ => ?_) (fun _ => ?_)
        · refine go_iload_n td_X12_couple 84 rfl (q := 150) rfl 1 rfl ?_
          refine go_iconst td_X12_couple 85 rfl (q := 151) rfl kc_1 ?_
          refine go_icmp_ne 158 td_X12_couple 86 rfl rfl (q := 154) rfl (fun _ => ?_) (fun _ => ?_)
          · refine go_iload td_X12_couple 89 rfl (q := 160) rfl 4 rfl ?_
            exact go_iret td_X12_couple 90 rfl rfl rfl
          · refine go_iload_n td_X12_couple 87 rfl (q := 155) rfl 3 rfl ?_
            refine go_goto td_X12_couple 88 rfl (q := 160) rfl ?_
            exact go_iret td_X12_couple 90 rfl rfl rfl
        · refine go_iload_n td_X12_couple 82 rfl (q := 146) rfl 2 rfl ?_
          refine go_goto td_X12_couple 83 rfl (q := 160) rfl ?_
          exact go_iret td_X12_couple 90 rfl rfl rfl
      · refine go_iload td_X12_couple 26 rfl (q := 45) rfl 5 rfl ?_
        refine go_iconst td_X12_couple 27 rfl (q := 46) rfl kc_1 ?_
        refine go_iadd td_X12_couple 28 rfl (q := 47) rfl ?_
        refine go_bvi (fun x5 => ?_)
        refine go_istore [(6, .int x5), (0, .ref (E.1 0)), (1, .int a1), (2, .int s4.1), (3, .int s4.2.1), (4, .int s4.2.2.1), (5, .int s4.2.2.2.1)] td_X12_couple 29 rfl (q := 49) rfl (Nat.le_of_ble_eq_true rfl) rfl ?_
        refine go_pick [1, 2, 3, 4, 5, 6, 0] (lv' := [(0, .ref (E.1 0)), (1, .int a1), (2, .int s4.1), (3, .int s4.2.1), (4, .int s4.2.2.1), (5, .int s4.2.2.2.1), (6, .int x5)]) rfl ?_
        refine (show ∀ (u6_0 : Int32) (u6_1 : Int32) (u6_2 : Int32) (u6_3 : Int32) (u6_4 : G), Go (wCB E) _ _ u6_4 49 [(0, .ref (E.1 0)), (1, .int a1), (2, .int u6_0), (3, .int u6_1), (4, .int u6_2), (5, .int s4.2.2.2.1), (6, .int u6_3)] [] (Lp (α := Int32 × Int32 × Int32 × Int32 × G) _ FU (u6_0, u6_1, u6_2, u6_3, u6_4)) from ?_) s4.1 s4.2.1 s4.2.2.1 x5 s4.2.2.2.2
        intro u6_0 u6_1 u6_2 u6_3 u6_4
        refine go_Lp (α := Int32 × Int32 × Int32 × Int32 × G) (fun s6 => s6.2.2.2.2) (fun s6 => [(0, .ref (E.1 0)), (1, .int a1), (2, .int s6.1), (3, .int s6.2.1), (4, .int s6.2.2.1), (5, .int s4.2.2.2.1), (6, .int s6.2.2.2.1)]) ?_ FU (u6_0, u6_1, u6_2, u6_3, u6_4)
        intro rec6 hrec6 s6
        have krec6 : ∀ (u6_0 : Int32) (u6_1 : Int32) (u6_2 : Int32) (u6_3 : Int32) (u6_4 : G), Go (wCB E) _ _ u6_4 49 [(0, .ref (E.1 0)), (1, .int a1), (2, .int u6_0), (3, .int u6_1), (4, .int u6_2), (5, .int s4.2.2.2.1), (6, .int u6_3)] [] (rec6 (u6_0, u6_1, u6_2, u6_3, u6_4)) := fun u6_0 u6_1 u6_2 u6_3 u6_4 => hrec6 (u6_0, u6_1, u6_2, u6_3, u6_4)
        refine go_iload td_X12_couple 30 rfl (q := 51) rfl 6 rfl ?_
        refine go_aload_n td_X12_couple 31 rfl (q := 52) rfl 0 rfl ?_
        refine go_get td_X12_couple 32 rfl (q := 55) rfl fl_X12_26 (Bc_0 E s6.2.2.2.2) rfl ?_
        refine go_icmp_ge 135 td_X12_couple 33 rfl rfl (q := 58) rfl (fun _ => ?_) (fun _ => ?_)
        · refine go_iinc [(5, .int (s4.2.2.2.1 + 1)), (0, .ref (E.1 0)), (1, .int a1), (2, .int s6.1), (3, .int s6.2.1), (4, .int s6.2.2.1), (6, .int s6.2.2.2.1)] td_X12_couple 78 rfl (q := 138) rfl 5 rfl kc_1 (Nat.le_of_ble_eq_true rfl) rfl ?_
          refine go_goto td_X12_couple 79 rfl (q := 34) rfl ?_
          refine go_pick [1, 2, 3, 4, 5, 0] (lv' := [(0, .ref (E.1 0)), (1, .int a1), (2, .int s6.1), (3, .int s6.2.1), (4, .int s6.2.2.1), (5, .int (s4.2.2.2.1 + 1))]) rfl ?_
          exact krec4 s6.1 s6.2.1 s6.2.2.1 (s4.2.2.2.1 + 1) s6.2.2.2.2
        · refine go_aload_n td_X12_couple 34 rfl (q := 59) rfl 0 rfl ?_
          refine go_get td_X12_couple 35 rfl (q := 62) rfl fl_X12_141 (Bc_0 E s6.2.2.2.2) rfl ?_
          refine go_iconst td_X12_couple 36 rfl (q := 63) rfl kc_4 ?_
          refine go_iload td_X12_couple 37 rfl (q := 65) rfl 5 rfl ?_
          refine go_iadd td_X12_couple 38 rfl (q := 66) rfl ?_
          refine go_ald td_X12_couple 39 rfl (q := 67) rfl (Bc_20 E s6.2.2.2.2) (t0 := 0) rfl (fun x7 => ?_)
          refine go_ljX (α := Int32 × Int32 × Int32 × G) (fun b8 => [(0, .ref (E.1 0)), (1, .int a1), (2, .int b8.1), (3, .int b8.2.1), (4, .int b8.2.2.1), (5, .int s4.2.2.2.1), (6, .int s6.2.2.2.1)]) (fun b8 => []) (fun b8 => b8.2.2.2) 129 ?_ ?_
          · intro b8
            refine go_iinc [(6, .int (s6.2.2.2.1 + 1)), (0, .ref (E.1 0)), (1, .int a1), (2, .int b8.1), (3, .int b8.2.1), (4, .int b8.2.2.1), (5, .int s4.2.2.2.1)] td_X12_couple 76 rfl (q := 132) rfl 6 rfl kc_1 (Nat.le_of_ble_eq_true rfl) rfl ?_
            refine go_goto td_X12_couple 77 rfl (q := 49) rfl ?_
            refine go_pick [1, 2, 3, 4, 5, 6, 0] (lv' := [(0, .ref (E.1 0)), (1, .int a1), (2, .int b8.1), (3, .int b8.2.1), (4, .int b8.2.2.1), (5, .int s4.2.2.2.1), (6, .int (s6.2.2.2.1 + 1))]) rfl ?_
            exact krec6 b8.1 b8.2.1 b8.2.2.1 (s6.2.2.2.1 + 1) b8.2.2.2
          intro J8 hJ8
          have kJ8 : ∀ (u8_0 : Int32) (u8_1 : Int32) (u8_2 : Int32) (u8_3 : G), Go (wCB E) _ _ u8_3 129 [(0, .ref (E.1 0)), (1, .int a1), (2, .int u8_0), (3, .int u8_1), (4, .int u8_2), (5, .int s4.2.2.2.1), (6, .int s6.2.2.2.1)] [] (J8 (u8_0, u8_1, u8_2, u8_3)) := fun u8_0 u8_1 u8_2 u8_3 => hJ8 (u8_0, u8_1, u8_2, u8_3)
          refine go_if_eq 129 td_X12_couple 40 rfl rfl (q := 70) rfl (fun _ => ?_) (fun _ => ?_)
          · refine go_pick [0, 1, 2, 3, 4, 5, 6] (lv' := [(0, .ref (E.1 0)), (1, .int a1), (2, .int s6.1), (3, .int s6.2.1), (4, .int s6.2.2.1), (5, .int s4.2.2.2.1), (6, .int s6.2.2.2.1)]) rfl ?_
            exact kJ8 s6.1 s6.2.1 s6.2.2.1 s6.2.2.2.2
          · refine go_aload_n td_X12_couple 41 rfl (q := 71) rfl 0 rfl ?_
            refine go_get td_X12_couple 42 rfl (q := 74) rfl fl_X12_141 (Bc_0 E s6.2.2.2.2) rfl ?_
            refine go_iconst td_X12_couple 43 rfl (q := 75) rfl kc_4 ?_
            refine go_iload td_X12_couple 44 rfl (q := 77) rfl 6 rfl ?_
            refine go_iadd td_X12_couple 45 rfl (q := 78) rfl ?_
            refine go_ald td_X12_couple 46 rfl (q := 79) rfl (Bc_20 E s6.2.2.2.2) (t0 := 0) rfl (fun x9 => ?_)
            refine go_if_ne 85 td_X12_couple 47 rfl rfl (q := 82) rfl (fun _ => ?_) (fun _ => ?_)
            · refine go_aload_n td_X12_couple 49 rfl (q := 86) rfl 0 rfl ?_
              refine go_aload_n td_X12_couple 50 rfl (q := 87) rfl 0 rfl ?_
              refine go_callV td_X12_couple 51 rfl (q := 90) rfl (XkB E) lk_X12_359 (ok_fB_M_upSet E s6.2.2.2.2) ⟨rfl, rfl, Nat.le_of_ble_eq_true rfl, Nat.le_of_ble_eq_true rfl⟩ rfl rfl (Nat.le_of_ble_eq_true rfl) (Bc_0 E s6.2.2.2.2) rfl (fun x10 => ?_)
              show Go (wCB E) _ _ s6.2.2.2.2 90 _ [.int x10, .ref (E.1 0)] _
              refine go_iconst td_X12_couple 52 rfl (q := 91) rfl kc_1 ?_
              refine go_iload td_X12_couple 53 rfl (q := 93) rfl 5 rfl ?_
              refine go_ishl td_X12_couple 54 rfl (q := 94) rfl ?_
              refine go_iconst td_X12_couple 55 rfl (q := 95) rfl kc_m1 ?_
              refine go_ixor td_X12_couple 56 rfl (q := 96) rfl ?_
              refine go_iand td_X12_couple 57 rfl (q := 97) rfl ?_
              refine go_iconst td_X12_couple 58 rfl (q := 98) rfl kc_1 ?_
              refine go_iload td_X12_couple 59 rfl (q := 100) rfl 6 rfl ?_
              refine go_ishl td_X12_couple 60 rfl (q := 101) rfl ?_
              refine go_iconst td_X12_couple 61 rfl (q := 102) rfl kc_m1 ?_
              refine go_ixor td_X12_couple 62 rfl (q := 103) rfl ?_
              refine go_iand td_X12_couple 63 rfl (q := 104) rfl ?_
              refine go_callV td_X12_couple 64 rfl (q := 107) rfl (XkB E) lk_X12_413 (ok_fB_M_worstBy E ((x10 &&& (((1 : Int32) <<< (s4.2.2.2.1 &&& 31)) ^^^ (-1))) &&& (((1 : Int32) <<< (s6.2.2.2.1 &&& 31)) ^^^ (-1))) s6.2.2.2.2) ⟨rfl, rfl, Nat.le_of_ble_eq_true rfl, Nat.le_of_ble_eq_true rfl⟩ rfl rfl (Nat.le_of_ble_eq_true rfl) (Bc_0 E s6.2.2.2.2) rfl (fun x11 => ?_)
              show Go (wCB E) _ _ x11.2 107 _ [.int x11.1] _
              refine go_istore [(7, .int x11.1), (0, .ref (E.1 0)), (1, .int a1), (2, .int s6.1), (3, .int s6.2.1), (4, .int s6.2.2.1), (5, .int s4.2.2.2.1), (6, .int s6.2.2.2.1)] td_X12_couple 65 rfl (q := 109) rfl (Nat.le_of_ble_eq_true rfl) rfl ?_
              refine go_iload td_X12_couple 66 rfl (q := 111) rfl 0 rfl ?_
              refine go_iload td_X12_couple 67 rfl (q := 113) rfl 5 rfl ?_
              refine go_icmp_gt 119 td_X12_couple 68 rfl rfl (q := 116) rfl (fun _ => ?_) (fun _ => ?_)
              · refine go_iload td_X12_couple 70 rfl (q := 121) rfl 0 rfl ?_
                refine go_istore [(4, .int x11.1), (7, .int x11.1), (0, .ref (E.1 0)), (1, .int a1), (2, .int s6.1), (3, .int s6.2.1), (5, .int s4.2.2.2.1), (6, .int s6.2.2.2.1)] td_X12_couple 71 rfl (q := 123) rfl (Nat.le_of_ble_eq_true rfl) rfl ?_
                refine go_iload td_X12_couple 72 rfl (q := 125) rfl 6 rfl ?_
                refine go_istore_n [(2, .int s4.2.2.2.1), (4, .int x11.1), (7, .int x11.1), (0, .ref (E.1 0)), (1, .int a1), (3, .int s6.2.1), (5, .int s4.2.2.2.1), (6, .int s6.2.2.2.1)] td_X12_couple 73 rfl (q := 126) rfl (Nat.le_of_ble_eq_true rfl) rfl ?_
                refine go_iload td_X12_couple 74 rfl (q := 128) rfl 7 rfl ?_
                refine go_istore_n [(3, .int s6.2.2.2.1), (2, .int s4.2.2.2.1), (4, .int x11.1), (7, .int x11.1), (0, .ref (E.1 0)), (1, .int a1), (5, .int s4.2.2.2.1), (6, .int s6.2.2.2.1)] td_X12_couple 75 rfl (q := 129) rfl (Nat.le_of_ble_eq_true rfl) rfl ?_
                refine go_pick [4, 5, 1, 0, 2, 6, 7] (lv' := [(0, .ref (E.1 0)), (1, .int a1), (2, .int s4.2.2.2.1), (3, .int s6.2.2.2.1), (4, .int x11.1), (5, .int s4.2.2.2.1), (6, .int s6.2.2.2.1)]) rfl ?_
                exact kJ8 s4.2.2.2.1 s6.2.2.2.1 x11.1 x11.2
              · refine go_goto td_X12_couple 69 rfl (q := 129) rfl ?_
                refine go_pick [1, 2, 3, 4, 5, 6, 7] (lv' := [(0, .ref (E.1 0)), (1, .int a1), (2, .int s6.1), (3, .int s6.2.1), (4, .int s6.2.2.1), (5, .int s4.2.2.2.1), (6, .int s6.2.2.2.1)]) rfl ?_
                exact kJ8 s6.1 s6.2.1 s6.2.2.1 x11.2
            · refine go_goto td_X12_couple 48 rfl (q := 129) rfl ?_
              refine go_pick [0, 1, 2, 3, 4, 5, 6] (lv' := [(0, .ref (E.1 0)), (1, .int a1), (2, .int s6.1), (3, .int s6.2.1), (4, .int s6.2.2.1), (5, .int s4.2.2.2.1), (6, .int s6.2.2.2.1)]) rfl ?_
              exact kJ8 s6.1 s6.2.1 s6.2.2.1 s6.2.2.2.2
    · refine go_iconst td_X12_couple 10 rfl (q := 19) rfl kc_m1 ?_
      exact go_iret td_X12_couple 11 rfl rfl rfl
def fB_M_begins (a1 : Int32) (g : G) : Option (G) := bv (sS g 56 ((1 : Int32) <<< (a1 &&& 31))) fun g1 => bv (sS g1 57 0) fun g2 => some g2
set_option maxRecDepth 20000 in
set_option maxHeartbeats 4000000 in
theorem ok_fB_M_begins (E : Ev) (a1 : Int32) (g : G)  : Ct (wCB E) yX12_begins mi_X12_begins [.ref (E.1 0), .int a1] (fun r => (none, r)) g (fB_M_begins a1 g) := by
  refine go_enter rfl rfl (Nat.le_of_ble_eq_true rfl) (lv := [(0, .ref (E.1 0)), (1, .int a1)]) rfl ?_
  unfold fB_M_begins
  refine go_aload_n td_X12_begins 0 rfl (q := 1) rfl 0 rfl ?_
  refine go_iconst td_X12_begins 1 rfl (q := 2) rfl kc_1 ?_
  refine go_iload_n td_X12_begins 2 rfl (q := 3) rfl 1 rfl ?_
  refine go_ishl td_X12_begins 3 rfl (q := 4) rfl ?_
  refine go_put td_X12_begins 4 rfl (q := 7) rfl flp_X12_182 (Bc_0 E g) rfl rfl (Nat.le_of_ble_eq_true rfl) (Bps_56 E g ((1 : Int32) <<< (a1 &&& 31))) ?_
  refine go_bvg (fun g1 => ?_)
  refine go_aload_n td_X12_begins 5 rfl (q := 8) rfl 0 rfl ?_
  refine go_iconst td_X12_begins 6 rfl (q := 9) rfl kc_0 ?_
  refine go_put td_X12_begins 7 rfl (q := 12) rfl flp_X12_185 (Bc_0 E g1) rfl rfl (Nat.le_of_ble_eq_true rfl) (Bps_57 E g1 0) ?_
  refine go_bvg (fun g2 => ?_)
  exact go_vret td_X12_begins 8 rfl rfl rfl
def fB_M_isAbove (a1 : Int32) (a2 : Int32) (a3 : Int32) (g : G) : Option (Int32) := ag 24 (g.2.1 7) (4 * a3) fun x1 => ag 24 (g.2.1 7) ((4 * a3) + 1) fun x2 => Option.bind (fB_M_doesSee a1 a2 x1 x2 g) fun x3 => bt x3 (some x3)
set_option maxRecDepth 20000 in
set_option maxHeartbeats 4000000 in
theorem ok_fB_M_isAbove (E : Ev) (a1 : Int32) (a2 : Int32) (a3 : Int32) (g : G)  : Ct (wCB E) yX12_isAbove mi_X12_isAbove [.ref (E.1 0), .int a1, .int a2, .int a3] (fun r => (some (.int r), g)) g (fB_M_isAbove a1 a2 a3 g) := by
  refine go_enter rfl rfl (Nat.le_of_ble_eq_true rfl) (lv := [(0, .ref (E.1 0)), (1, .int a1), (2, .int a2), (3, .int a3)]) rfl ?_
  unfold fB_M_isAbove
  refine go_aload_n td_X12_isAbove 0 rfl (q := 1) rfl 0 rfl ?_
  refine go_iload_n td_X12_isAbove 1 rfl (q := 2) rfl 1 rfl ?_
  refine go_iload_n td_X12_isAbove 2 rfl (q := 3) rfl 2 rfl ?_
  refine go_aload_n td_X12_isAbove 3 rfl (q := 4) rfl 0 rfl ?_
  refine go_get td_X12_isAbove 4 rfl (q := 7) rfl fl_X12_60 (Bc_0 E g) rfl ?_
  refine go_iconst td_X12_isAbove 5 rfl (q := 8) rfl kc_4 ?_
  refine go_iload_n td_X12_isAbove 6 rfl (q := 9) rfl 3 rfl ?_
  refine go_imul td_X12_isAbove 7 rfl (q := 10) rfl ?_
  refine go_ald td_X12_isAbove 8 rfl (q := 11) rfl (Bc_7 E g) (t0 := 0) rfl (fun x1 => ?_)
  refine go_aload_n td_X12_isAbove 9 rfl (q := 12) rfl 0 rfl ?_
  refine go_get td_X12_isAbove 10 rfl (q := 15) rfl fl_X12_60 (Bc_0 E g) rfl ?_
  refine go_iconst td_X12_isAbove 11 rfl (q := 16) rfl kc_4 ?_
  refine go_iload_n td_X12_isAbove 12 rfl (q := 17) rfl 3 rfl ?_
  refine go_imul td_X12_isAbove 13 rfl (q := 18) rfl ?_
  refine go_iconst td_X12_isAbove 14 rfl (q := 19) rfl kc_1 ?_
  refine go_iadd td_X12_isAbove 15 rfl (q := 20) rfl ?_
  refine go_ald td_X12_isAbove 16 rfl (q := 21) rfl (Bc_7 E g) (t0 := 0) rfl (fun x2 => ?_)
  refine go_callV td_X12_isAbove 17 rfl (q := 24) rfl (XkB E) lk_X12_369 (ok_fB_M_doesSee E a1 a2 x1 x2 g) ⟨rfl, rfl, Nat.le_of_ble_eq_true rfl, Nat.le_of_ble_eq_true rfl⟩ rfl rfl (Nat.le_of_ble_eq_true rfl) (Bc_0 E g) rfl (fun x3 => ?_)
  show Go (wCB E) _ _ g 24 _ [.int x3] _
  exact go_zretb td_X12_isAbove 18 rfl rfl rfl
def fB_M_carries (a1 : Int32) (g : G) : Option (G) := Lp (α := Int32 × G) (fun rec1 s1 => (if (s1.2.1 5) ≤ s1.1 then Lp (α := Int32 × G) (fun rec2 s2 => (if (s2.2.1 5) ≤ s2.1 then some s2.2 else Lp (α := Int32 × G) (fun rec3 s3 => (if (s3.2.1 6) ≤ s3.1 then rec2 (s2.1 + 1, s3.2) else lj (α := G) (fun b4 => rec3 (s3.1 + 1, b4)) fun J4 => (if (((s3.2.1 57) >>> (s2.1 &&& 31)) &&& 1) = 1 then Option.bind (fB_M_isAbove s2.1 a1 s3.1 s3.2) fun x5 => (if x5 = 0 then J4 s3.2 else bv (sS s3.2 56 ((s3.2.1 56) ||| ((1 : Int32) <<< (s3.1 &&& 31)))) fun g6 => J4 g6) else J4 s3.2))) FU (0, s2.2))) FU (0, s1.2) else Lp (α := Int32 × G) (fun rec7 s7 => (if (s7.2.1 6) ≤ s7.1 then rec1 (s1.1 + 1, s7.2) else lj (α := G) (fun b8 => rec7 (s7.1 + 1, b8)) fun J8 => (if (((s7.2.1 56) >>> (s7.1 &&& 31)) &&& 1) = 1 then Option.bind (fB_M_isAbove s1.1 a1 s7.1 s7.2) fun x9 => (if x9 = 0 then J8 s7.2 else bv (sS s7.2 57 ((s7.2.1 57) ||| ((1 : Int32) <<< (s1.1 &&& 31)))) fun g10 => J8 g10) else J8 s7.2))) FU (0, s1.2))) FU (0, g)
set_option maxRecDepth 20000 in
set_option maxHeartbeats 4000000 in
theorem ok_fB_M_carries (E : Ev) (a1 : Int32) (g : G)  : Ct (wCB E) yX12_carries mi_X12_carries [.ref (E.1 0), .int a1] (fun r => (none, r)) g (fB_M_carries a1 g) := by
  refine go_enter rfl rfl (Nat.le_of_ble_eq_true rfl) (lv := [(0, .ref (E.1 0)), (1, .int a1)]) rfl ?_
  unfold fB_M_carries
  refine go_iconst td_X12_carries 0 rfl (q := 1) rfl kc_0 ?_
  refine go_istore_n [(2, .int 0), (0, .ref (E.1 0)), (1, .int a1)] td_X12_carries 1 rfl (q := 2) rfl (Nat.le_of_ble_eq_true rfl) rfl ?_
  refine go_pick [1, 2, 0] (lv' := [(0, .ref (E.1 0)), (1, .int a1), (2, .int 0)]) rfl ?_
  refine (show ∀ (u1_0 : Int32) (u1_1 : G), Go (wCB E) _ _ u1_1 2 [(0, .ref (E.1 0)), (1, .int a1), (2, .int u1_0)] [] (Lp (α := Int32 × G) _ FU (u1_0, u1_1)) from ?_) 0 g
  intro u1_0 u1_1
  refine go_Lp (α := Int32 × G) (fun s1 => s1.2) (fun s1 => [(0, .ref (E.1 0)), (1, .int a1), (2, .int s1.1)]) ?_ FU (u1_0, u1_1)
  intro rec1 hrec1 s1
  have krec1 : ∀ (u1_0 : Int32) (u1_1 : G), Go (wCB E) _ _ u1_1 2 [(0, .ref (E.1 0)), (1, .int a1), (2, .int u1_0)] [] (rec1 (u1_0, u1_1)) := fun u1_0 u1_1 => hrec1 (u1_0, u1_1)
  refine go_iload_n td_X12_carries 2 rfl (q := 3) rfl 2 rfl ?_
  refine go_aload_n td_X12_carries 3 rfl (q := 4) rfl 0 rfl ?_
  refine go_get td_X12_carries 4 rfl (q := 7) rfl fl_X12_26 (Bc_0 E s1.2) rfl ?_
  refine go_icmp_ge 66 td_X12_carries 5 rfl rfl (q := 10) rfl (fun _ => ?_) (fun _ => ?_)
  · refine go_iconst td_X12_carries 38 rfl (q := 67) rfl kc_0 ?_
    refine go_istore_n [(2, .int 0), (0, .ref (E.1 0)), (1, .int a1)] td_X12_carries 39 rfl (q := 68) rfl (Nat.le_of_ble_eq_true rfl) rfl ?_
    refine go_pick [1, 2, 0] (lv' := [(0, .ref (E.1 0)), (1, .int a1), (2, .int 0)]) rfl ?_
    refine (show ∀ (u2_0 : Int32) (u2_1 : G), Go (wCB E) _ _ u2_1 68 [(0, .ref (E.1 0)), (1, .int a1), (2, .int u2_0)] [] (Lp (α := Int32 × G) _ FU (u2_0, u2_1)) from ?_) 0 s1.2
    intro u2_0 u2_1
    refine go_Lp (α := Int32 × G) (fun s2 => s2.2) (fun s2 => [(0, .ref (E.1 0)), (1, .int a1), (2, .int s2.1)]) ?_ FU (u2_0, u2_1)
    intro rec2 hrec2 s2
    have krec2 : ∀ (u2_0 : Int32) (u2_1 : G), Go (wCB E) _ _ u2_1 68 [(0, .ref (E.1 0)), (1, .int a1), (2, .int u2_0)] [] (rec2 (u2_0, u2_1)) := fun u2_0 u2_1 => hrec2 (u2_0, u2_1)
    refine go_iload_n td_X12_carries 40 rfl (q := 69) rfl 2 rfl ?_
    refine go_aload_n td_X12_carries 41 rfl (q := 70) rfl 0 rfl ?_
    refine go_get td_X12_carries 42 rfl (q := 73) rfl fl_X12_26 (Bc_0 E s2.2) rfl ?_
    refine go_icmp_ge 132 td_X12_carries 43 rfl rfl (q := 76) rfl (fun _ => ?_) (fun _ => ?_)
    · exact go_vret td_X12_carries 76 rfl rfl rfl
    · refine go_iconst td_X12_carries 44 rfl (q := 77) rfl kc_0 ?_
      refine go_istore_n [(3, .int 0), (0, .ref (E.1 0)), (1, .int a1), (2, .int s2.1)] td_X12_carries 45 rfl (q := 78) rfl (Nat.le_of_ble_eq_true rfl) rfl ?_
      refine go_pick [1, 2, 3, 0] (lv' := [(0, .ref (E.1 0)), (1, .int a1), (2, .int s2.1), (3, .int 0)]) rfl ?_
      refine (show ∀ (u3_0 : Int32) (u3_1 : G), Go (wCB E) _ _ u3_1 78 [(0, .ref (E.1 0)), (1, .int a1), (2, .int s2.1), (3, .int u3_0)] [] (Lp (α := Int32 × G) _ FU (u3_0, u3_1)) from ?_) 0 s2.2
      intro u3_0 u3_1
      refine go_Lp (α := Int32 × G) (fun s3 => s3.2) (fun s3 => [(0, .ref (E.1 0)), (1, .int a1), (2, .int s2.1), (3, .int s3.1)]) ?_ FU (u3_0, u3_1)
      intro rec3 hrec3 s3
      have krec3 : ∀ (u3_0 : Int32) (u3_1 : G), Go (wCB E) _ _ u3_1 78 [(0, .ref (E.1 0)), (1, .int a1), (2, .int s2.1), (3, .int u3_0)] [] (rec3 (u3_0, u3_1)) := fun u3_0 u3_1 => hrec3 (u3_0, u3_1)
      refine go_iload_n td_X12_carries 46 rfl (q := 79) rfl 3 rfl ?_
      refine go_aload_n td_X12_carries 47 rfl (q := 80) rfl 0 rfl ?_
      refine go_get td_X12_carries 48 rfl (q := 83) rfl fl_X12_29 (Bc_0 E s3.2) rfl ?_
      refine go_icmp_ge 126 td_X12_carries 49 rfl rfl (q := 86) rfl (fun _ => ?_) (fun _ => ?_)
      · refine go_iinc [(2, .int (s2.1 + 1)), (0, .ref (E.1 0)), (1, .int a1), (3, .int s3.1)] td_X12_carries 74 rfl (q := 129) rfl 2 rfl kc_1 (Nat.le_of_ble_eq_true rfl) rfl ?_
        refine go_goto td_X12_carries 75 rfl (q := 68) rfl ?_
        refine go_pick [1, 2, 0] (lv' := [(0, .ref (E.1 0)), (1, .int a1), (2, .int (s2.1 + 1))]) rfl ?_
        exact krec2 (s2.1 + 1) s3.2
      · refine go_aload_n td_X12_carries 50 rfl (q := 87) rfl 0 rfl ?_
        refine go_get td_X12_carries 51 rfl (q := 90) rfl fl_X12_185 (Bc_0 E s3.2) rfl ?_
        refine go_iload_n td_X12_carries 52 rfl (q := 91) rfl 2 rfl ?_
        refine go_ishr td_X12_carries 53 rfl (q := 92) rfl ?_
        refine go_iconst td_X12_carries 54 rfl (q := 93) rfl kc_1 ?_
        refine go_iand td_X12_carries 55 rfl (q := 94) rfl ?_
        refine go_iconst td_X12_carries 56 rfl (q := 95) rfl kc_1 ?_
        refine go_ljX (α := G) (fun b4 => [(0, .ref (E.1 0)), (1, .int a1), (2, .int s2.1), (3, .int s3.1)]) (fun b4 => []) (fun b4 => b4) 120 ?_ ?_
        · intro b4
          refine go_iinc [(3, .int (s3.1 + 1)), (0, .ref (E.1 0)), (1, .int a1), (2, .int s2.1)] td_X12_carries 72 rfl (q := 123) rfl 3 rfl kc_1 (Nat.le_of_ble_eq_true rfl) rfl ?_
          refine go_goto td_X12_carries 73 rfl (q := 78) rfl ?_
          refine go_pick [1, 2, 3, 0] (lv' := [(0, .ref (E.1 0)), (1, .int a1), (2, .int s2.1), (3, .int (s3.1 + 1))]) rfl ?_
          exact krec3 (s3.1 + 1) b4
        intro J4 hJ4
        have kJ4 : ∀ (u4_0 : G), Go (wCB E) _ _ u4_0 120 [(0, .ref (E.1 0)), (1, .int a1), (2, .int s2.1), (3, .int s3.1)] [] (J4 u4_0) := fun u4_0 => hJ4 u4_0
        refine go_icmp_ne 120 td_X12_carries 57 rfl rfl (q := 98) rfl (fun _ => ?_) (fun _ => ?_)
        · refine go_pick [0, 1, 2, 3] (lv' := [(0, .ref (E.1 0)), (1, .int a1), (2, .int s2.1), (3, .int s3.1)]) rfl ?_
          exact kJ4 s3.2
        · refine go_aload_n td_X12_carries 58 rfl (q := 99) rfl 0 rfl ?_
          refine go_iload_n td_X12_carries 59 rfl (q := 100) rfl 2 rfl ?_
          refine go_iload_n td_X12_carries 60 rfl (q := 101) rfl 1 rfl ?_
          refine go_iload_n td_X12_carries 61 rfl (q := 102) rfl 3 rfl ?_
          refine go_callV td_X12_carries 62 rfl (q := 105) rfl (XkB E) lk_X12_422 (ok_fB_M_isAbove E s2.1 a1 s3.1 s3.2) ⟨rfl, rfl, Nat.le_of_ble_eq_true rfl, Nat.le_of_ble_eq_true rfl⟩ rfl rfl (Nat.le_of_ble_eq_true rfl) (Bc_0 E s3.2) rfl (fun x5 => ?_)
          show Go (wCB E) _ _ s3.2 105 _ [.int x5] _
          refine go_if_eq 120 td_X12_carries 63 rfl rfl (q := 108) rfl (fun _ => ?_) (fun _ => ?_)
          · refine go_pick [0, 1, 2, 3] (lv' := [(0, .ref (E.1 0)), (1, .int a1), (2, .int s2.1), (3, .int s3.1)]) rfl ?_
            exact kJ4 s3.2
          · refine go_aload_n td_X12_carries 64 rfl (q := 109) rfl 0 rfl ?_
            refine go_dup td_X12_carries 65 rfl (q := 110) rfl rfl ?_
            refine go_get td_X12_carries 66 rfl (q := 113) rfl fl_X12_182 (Bc_0 E s3.2) rfl ?_
            refine go_iconst td_X12_carries 67 rfl (q := 114) rfl kc_1 ?_
            refine go_iload_n td_X12_carries 68 rfl (q := 115) rfl 3 rfl ?_
            refine go_ishl td_X12_carries 69 rfl (q := 116) rfl ?_
            refine go_ior td_X12_carries 70 rfl (q := 117) rfl ?_
            refine go_put td_X12_carries 71 rfl (q := 120) rfl flp_X12_182 (Bc_0 E s3.2) rfl rfl (Nat.le_of_ble_eq_true rfl) (Bps_56 E s3.2 ((s3.2.1 56) ||| ((1 : Int32) <<< (s3.1 &&& 31)))) ?_
            refine go_bvg (fun g6 => ?_)
            refine go_pick [0, 1, 2, 3] (lv' := [(0, .ref (E.1 0)), (1, .int a1), (2, .int s2.1), (3, .int s3.1)]) rfl ?_
            exact kJ4 g6
  · refine go_iconst td_X12_carries 6 rfl (q := 11) rfl kc_0 ?_
    refine go_istore_n [(3, .int 0), (0, .ref (E.1 0)), (1, .int a1), (2, .int s1.1)] td_X12_carries 7 rfl (q := 12) rfl (Nat.le_of_ble_eq_true rfl) rfl ?_
    refine go_pick [1, 2, 3, 0] (lv' := [(0, .ref (E.1 0)), (1, .int a1), (2, .int s1.1), (3, .int 0)]) rfl ?_
    refine (show ∀ (u7_0 : Int32) (u7_1 : G), Go (wCB E) _ _ u7_1 12 [(0, .ref (E.1 0)), (1, .int a1), (2, .int s1.1), (3, .int u7_0)] [] (Lp (α := Int32 × G) _ FU (u7_0, u7_1)) from ?_) 0 s1.2
    intro u7_0 u7_1
    refine go_Lp (α := Int32 × G) (fun s7 => s7.2) (fun s7 => [(0, .ref (E.1 0)), (1, .int a1), (2, .int s1.1), (3, .int s7.1)]) ?_ FU (u7_0, u7_1)
    intro rec7 hrec7 s7
    have krec7 : ∀ (u7_0 : Int32) (u7_1 : G), Go (wCB E) _ _ u7_1 12 [(0, .ref (E.1 0)), (1, .int a1), (2, .int s1.1), (3, .int u7_0)] [] (rec7 (u7_0, u7_1)) := fun u7_0 u7_1 => hrec7 (u7_0, u7_1)
    refine go_iload_n td_X12_carries 8 rfl (q := 13) rfl 3 rfl ?_
    refine go_aload_n td_X12_carries 9 rfl (q := 14) rfl 0 rfl ?_
    refine go_get td_X12_carries 10 rfl (q := 17) rfl fl_X12_29 (Bc_0 E s7.2) rfl ?_
    refine go_icmp_ge 60 td_X12_carries 11 rfl rfl (q := 20) rfl (fun _ => ?_) (fun _ => ?_)
    · refine go_iinc [(2, .int (s1.1 + 1)), (0, .ref (E.1 0)), (1, .int a1), (3, .int s7.1)] td_X12_carries 36 rfl (q := 63) rfl 2 rfl kc_1 (Nat.le_of_ble_eq_true rfl) rfl ?_
      refine go_goto td_X12_carries 37 rfl (q := 2) rfl ?_
      refine go_pick [1, 2, 0] (lv' := [(0, .ref (E.1 0)), (1, .int a1), (2, .int (s1.1 + 1))]) rfl ?_
      exact krec1 (s1.1 + 1) s7.2
    · refine go_aload_n td_X12_carries 12 rfl (q := 21) rfl 0 rfl ?_
      refine go_get td_X12_carries 13 rfl (q := 24) rfl fl_X12_182 (Bc_0 E s7.2) rfl ?_
      refine go_iload_n td_X12_carries 14 rfl (q := 25) rfl 3 rfl ?_
      refine go_ishr td_X12_carries 15 rfl (q := 26) rfl ?_
      refine go_iconst td_X12_carries 16 rfl (q := 27) rfl kc_1 ?_
      refine go_iand td_X12_carries 17 rfl (q := 28) rfl ?_
      refine go_iconst td_X12_carries 18 rfl (q := 29) rfl kc_1 ?_
      refine go_ljX (α := G) (fun b8 => [(0, .ref (E.1 0)), (1, .int a1), (2, .int s1.1), (3, .int s7.1)]) (fun b8 => []) (fun b8 => b8) 54 ?_ ?_
      · intro b8
        refine go_iinc [(3, .int (s7.1 + 1)), (0, .ref (E.1 0)), (1, .int a1), (2, .int s1.1)] td_X12_carries 34 rfl (q := 57) rfl 3 rfl kc_1 (Nat.le_of_ble_eq_true rfl) rfl ?_
        refine go_goto td_X12_carries 35 rfl (q := 12) rfl ?_
        refine go_pick [1, 2, 3, 0] (lv' := [(0, .ref (E.1 0)), (1, .int a1), (2, .int s1.1), (3, .int (s7.1 + 1))]) rfl ?_
        exact krec7 (s7.1 + 1) b8
      intro J8 hJ8
      have kJ8 : ∀ (u8_0 : G), Go (wCB E) _ _ u8_0 54 [(0, .ref (E.1 0)), (1, .int a1), (2, .int s1.1), (3, .int s7.1)] [] (J8 u8_0) := fun u8_0 => hJ8 u8_0
      refine go_icmp_ne 54 td_X12_carries 19 rfl rfl (q := 32) rfl (fun _ => ?_) (fun _ => ?_)
      · refine go_pick [0, 1, 2, 3] (lv' := [(0, .ref (E.1 0)), (1, .int a1), (2, .int s1.1), (3, .int s7.1)]) rfl ?_
        exact kJ8 s7.2
      · refine go_aload_n td_X12_carries 20 rfl (q := 33) rfl 0 rfl ?_
        refine go_iload_n td_X12_carries 21 rfl (q := 34) rfl 2 rfl ?_
        refine go_iload_n td_X12_carries 22 rfl (q := 35) rfl 1 rfl ?_
        refine go_iload_n td_X12_carries 23 rfl (q := 36) rfl 3 rfl ?_
        refine go_callV td_X12_carries 24 rfl (q := 39) rfl (XkB E) lk_X12_422 (ok_fB_M_isAbove E s1.1 a1 s7.1 s7.2) ⟨rfl, rfl, Nat.le_of_ble_eq_true rfl, Nat.le_of_ble_eq_true rfl⟩ rfl rfl (Nat.le_of_ble_eq_true rfl) (Bc_0 E s7.2) rfl (fun x9 => ?_)
        show Go (wCB E) _ _ s7.2 39 _ [.int x9] _
        refine go_if_eq 54 td_X12_carries 25 rfl rfl (q := 42) rfl (fun _ => ?_) (fun _ => ?_)
        · refine go_pick [0, 1, 2, 3] (lv' := [(0, .ref (E.1 0)), (1, .int a1), (2, .int s1.1), (3, .int s7.1)]) rfl ?_
          exact kJ8 s7.2
        · refine go_aload_n td_X12_carries 26 rfl (q := 43) rfl 0 rfl ?_
          refine go_dup td_X12_carries 27 rfl (q := 44) rfl rfl ?_
          refine go_get td_X12_carries 28 rfl (q := 47) rfl fl_X12_185 (Bc_0 E s7.2) rfl ?_
          refine go_iconst td_X12_carries 29 rfl (q := 48) rfl kc_1 ?_
          refine go_iload_n td_X12_carries 30 rfl (q := 49) rfl 2 rfl ?_
          refine go_ishl td_X12_carries 31 rfl (q := 50) rfl ?_
          refine go_ior td_X12_carries 32 rfl (q := 51) rfl ?_
          refine go_put td_X12_carries 33 rfl (q := 54) rfl flp_X12_185 (Bc_0 E s7.2) rfl rfl (Nat.le_of_ble_eq_true rfl) (Bps_57 E s7.2 ((s7.2.1 57) ||| ((1 : Int32) <<< (s1.1 &&& 31)))) ?_
          refine go_bvg (fun g10 => ?_)
          refine go_pick [0, 1, 2, 3] (lv' := [(0, .ref (E.1 0)), (1, .int a1), (2, .int s1.1), (3, .int s7.1)]) rfl ?_
          exact kJ8 g10
def fB_M_carry (a1 : Int32) (a2 : Int32) (a3 : Int32) (g : G) : Option (Int32 × G) := Option.bind (fB_M_isTick a1 g) fun x1 => (if x1 = 0 then some ((-1), g) else Option.bind (fB_M_isSite a2 g) fun x2 => (if x2 = 0 then some ((-1), g) else Option.bind (fB_M_isSite a3 g) fun x3 => (if x3 = 0 then some ((-1), g) else Option.bind (fB_M_begins a2 g) fun x4 => Lp (α := Int32 × G) (fun rec5 s5 => (if (2 * (s5.2.1 7)) < s5.1 then some ((-1), s5.2) else (if (((s5.2.1 56) >>> (a3 &&& 31)) &&& 1) = 1 then some (s5.1, s5.2) else Option.bind (fB_M_carries (a1 + s5.1) s5.2) fun x6 => rec5 (s5.1 + 1, x6)))) FU (0, x4))))
set_option maxRecDepth 20000 in
set_option maxHeartbeats 4000000 in
theorem ok_fB_M_carry (E : Ev) (a1 : Int32) (a2 : Int32) (a3 : Int32) (g : G)  : Ct (wCB E) yX12_carry mi_X12_carry [.ref (E.1 0), .int a1, .int a2, .int a3] (fun r => (some (.int r.1), r.2)) g (fB_M_carry a1 a2 a3 g) := by
  refine go_enter rfl rfl (Nat.le_of_ble_eq_true rfl) (lv := [(0, .ref (E.1 0)), (1, .int a1), (2, .int a2), (3, .int a3)]) rfl ?_
  unfold fB_M_carry
  refine go_iload_n td_X12_carry 0 rfl (q := 1) rfl 1 rfl ?_
  refine go_callS td_X12_carry 1 rfl (q := 4) rfl (XkB E) lk_X12_362 (ok_fB_M_isTick E a1 g) ⟨rfl, rfl, Nat.le_of_ble_eq_true rfl, Nat.le_of_ble_eq_true rfl⟩ rfl rfl (Nat.le_of_ble_eq_true rfl) (fun x1 => ?_)
  show Go (wCB E) _ _ g 4 _ [.int x1] _
  refine go_if_eq 23 td_X12_carry 2 rfl rfl (q := 7) rfl (fun _ => ?_) (fun _ => ?_)
  · refine go_iconst td_X12_carry 11 rfl (q := 24) rfl kc_m1 ?_
    exact go_iret td_X12_carry 12 rfl rfl rfl
  · refine go_aload_n td_X12_carry 3 rfl (q := 8) rfl 0 rfl ?_
    refine go_iload_n td_X12_carry 4 rfl (q := 9) rfl 2 rfl ?_
    refine go_callV td_X12_carry 5 rfl (q := 12) rfl (XkB E) lk_X12_353 (ok_fB_M_isSite E a2 g) ⟨rfl, rfl, Nat.le_of_ble_eq_true rfl, Nat.le_of_ble_eq_true rfl⟩ rfl rfl (Nat.le_of_ble_eq_true rfl) (Bc_0 E g) rfl (fun x2 => ?_)
    show Go (wCB E) _ _ g 12 _ [.int x2] _
    refine go_if_eq 23 td_X12_carry 6 rfl rfl (q := 15) rfl (fun _ => ?_) (fun _ => ?_)
    · refine go_iconst td_X12_carry 11 rfl (q := 24) rfl kc_m1 ?_
      exact go_iret td_X12_carry 12 rfl rfl rfl
    · refine go_aload_n td_X12_carry 7 rfl (q := 16) rfl 0 rfl ?_
      refine go_iload_n td_X12_carry 8 rfl (q := 17) rfl 3 rfl ?_
      refine go_callV td_X12_carry 9 rfl (q := 20) rfl (XkB E) lk_X12_353 (ok_fB_M_isSite E a3 g) ⟨rfl, rfl, Nat.le_of_ble_eq_true rfl, Nat.le_of_ble_eq_true rfl⟩ rfl rfl (Nat.le_of_ble_eq_true rfl) (Bc_0 E g) rfl (fun x3 => ?_)
      show Go (wCB E) _ _ g 20 _ [.int x3] _
      refine go_if_ne 25 td_X12_carry 10 rfl rfl (q := 23) rfl (fun _ => ?_) (fun _ => ?_)
      · refine go_aload_n td_X12_carry 13 rfl (q := 26) rfl 0 rfl ?_
        refine go_iload_n td_X12_carry 14 rfl (q := 27) rfl 2 rfl ?_
        refine go_callV td_X12_carry 15 rfl (q := 30) rfl (XkB E) lk_X12_425 (ok_fB_M_begins E a2 g) ⟨rfl, rfl, Nat.le_of_ble_eq_true rfl, Nat.le_of_ble_eq_true rfl⟩ rfl rfl (Nat.le_of_ble_eq_true rfl) (Bc_0 E g) rfl (fun x4 => ?_)
        show Go (wCB E) _ _ x4 30 _ [] _
        refine go_iconst td_X12_carry 16 rfl (q := 31) rfl kc_0 ?_
        refine go_istore [(4, .int 0), (0, .ref (E.1 0)), (1, .int a1), (2, .int a2), (3, .int a3)] td_X12_carry 17 rfl (q := 33) rfl (Nat.le_of_ble_eq_true rfl) rfl ?_
        refine go_pick [1, 2, 4, 0] (lv' := [(0, .ref (E.1 0)), (1, .int a1), (3, .int a3), (4, .int 0)]) rfl ?_
        refine (show ∀ (u5_0 : Int32) (u5_1 : G), Go (wCB E) _ _ u5_1 33 [(0, .ref (E.1 0)), (1, .int a1), (3, .int a3), (4, .int u5_0)] [] (Lp (α := Int32 × G) _ FU (u5_0, u5_1)) from ?_) 0 x4
        intro u5_0 u5_1
        refine go_Lp (α := Int32 × G) (fun s5 => s5.2) (fun s5 => [(0, .ref (E.1 0)), (1, .int a1), (3, .int a3), (4, .int s5.1)]) ?_ FU (u5_0, u5_1)
        intro rec5 hrec5 s5
        have krec5 : ∀ (u5_0 : Int32) (u5_1 : G), Go (wCB E) _ _ u5_1 33 [(0, .ref (E.1 0)), (1, .int a1), (3, .int a3), (4, .int u5_0)] [] (rec5 (u5_0, u5_1)) := fun u5_0 u5_1 => hrec5 (u5_0, u5_1)
        refine go_iload td_X12_carry 18 rfl (q := 35) rfl 3 rfl ?_
        refine go_iconst td_X12_carry 19 rfl (q := 36) rfl kc_2 ?_
        refine go_aload_n td_X12_carry 20 rfl (q := 37) rfl 0 rfl ?_
        refine go_get td_X12_carry 21 rfl (q := 40) rfl fl_X12_32 (Bc_0 E s5.2) rfl ?_
        refine go_imul td_X12_carry 22 rfl (q := 41) rfl ?_
        refine go_icmp_gt 73 td_X12_carry 23 rfl rfl (q := 44) rfl (fun _ => ?_) (fun _ => ?_)
        · refine go_iconst td_X12_carry 41 rfl (q := 74) rfl kc_m1 ?_
          exact go_iret td_X12_carry 42 rfl rfl rfl
        · refine go_aload_n td_X12_carry 24 rfl (q := 45) rfl 0 rfl ?_
          refine go_get td_X12_carry 25 rfl (q := 48) rfl fl_X12_182 (Bc_0 E s5.2) rfl ?_
          refine go_iload_n td_X12_carry 26 rfl (q := 49) rfl 2 rfl ?_
          refine go_ishr td_X12_carry 27 rfl (q := 50) rfl ?_
          refine go_iconst td_X12_carry 28 rfl (q := 51) rfl kc_1 ?_
          refine go_iand td_X12_carry 29 rfl (q := 52) rfl ?_
          refine go_iconst td_X12_carry 30 rfl (q := 53) rfl kc_1 ?_
          refine go_icmp_ne 59 td_X12_carry 31 rfl rfl (q := 56) rfl (fun _ => ?_) (fun _ => ?_)
          · refine go_aload_n td_X12_carry 34 rfl (q := 60) rfl 0 rfl ?_
            refine go_iload_n td_X12_carry 35 rfl (q := 61) rfl 1 rfl ?_
            refine go_iload td_X12_carry 36 rfl (q := 63) rfl 3 rfl ?_
            refine go_iadd td_X12_carry 37 rfl (q := 64) rfl ?_
            refine go_callV td_X12_carry 38 rfl (q := 67) rfl (XkB E) lk_X12_428 (ok_fB_M_carries E (a1 + s5.1) s5.2) ⟨rfl, rfl, Nat.le_of_ble_eq_true rfl, Nat.le_of_ble_eq_true rfl⟩ rfl rfl (Nat.le_of_ble_eq_true rfl) (Bc_0 E s5.2) rfl (fun x6 => ?_)
            show Go (wCB E) _ _ x6 67 _ [] _
            refine go_iinc [(4, .int (s5.1 + 1)), (0, .ref (E.1 0)), (1, .int a1), (3, .int a3)] td_X12_carry 39 rfl (q := 70) rfl 3 rfl kc_1 (Nat.le_of_ble_eq_true rfl) rfl ?_
            refine go_goto td_X12_carry 40 rfl (q := 33) rfl ?_
            refine go_pick [1, 2, 3, 0] (lv' := [(0, .ref (E.1 0)), (1, .int a1), (3, .int a3), (4, .int (s5.1 + 1))]) rfl ?_
            exact krec5 (s5.1 + 1) x6
          · refine go_iload td_X12_carry 32 rfl (q := 58) rfl 3 rfl ?_
            exact go_iret td_X12_carry 33 rfl rfl rfl
      · refine go_iconst td_X12_carry 11 rfl (q := 24) rfl kc_m1 ?_
        exact go_iret td_X12_carry 12 rfl rfl rfl
def fB_M_holdersOf (a1 : Int32) (a2 : Int32) (a3 : Int32) (g : G) : Option (Int32 × G) := Option.bind (fB_M_begins a2 g) fun x1 => Lp (α := Int32 × G) (fun rec2 s2 => (if a3 ≤ s2.1 then some (s2.2.1 56, s2.2) else Option.bind (fB_M_carries (a1 + s2.1) s2.2) fun x3 => rec2 (s2.1 + 1, x3))) FU (0, x1)
set_option maxRecDepth 20000 in
set_option maxHeartbeats 4000000 in
theorem ok_fB_M_holdersOf (E : Ev) (a1 : Int32) (a2 : Int32) (a3 : Int32) (g : G)  : Ct (wCB E) yX12_holdersOf mi_X12_holdersOf [.ref (E.1 0), .int a1, .int a2, .int a3] (fun r => (some (.int r.1), r.2)) g (fB_M_holdersOf a1 a2 a3 g) := by
  refine go_enter rfl rfl (Nat.le_of_ble_eq_true rfl) (lv := [(0, .ref (E.1 0)), (1, .int a1), (2, .int a2), (3, .int a3)]) rfl ?_
  unfold fB_M_holdersOf
  refine go_aload_n td_X12_holdersOf 0 rfl (q := 1) rfl 0 rfl ?_
  refine go_iload_n td_X12_holdersOf 1 rfl (q := 2) rfl 2 rfl ?_
  refine go_callV td_X12_holdersOf 2 rfl (q := 5) rfl (XkB E) lk_X12_425 (ok_fB_M_begins E a2 g) ⟨rfl, rfl, Nat.le_of_ble_eq_true rfl, Nat.le_of_ble_eq_true rfl⟩ rfl rfl (Nat.le_of_ble_eq_true rfl) (Bc_0 E g) rfl (fun x1 => ?_)
  show Go (wCB E) _ _ x1 5 _ [] _
  refine go_iconst td_X12_holdersOf 3 rfl (q := 6) rfl kc_0 ?_
  refine go_istore [(4, .int 0), (0, .ref (E.1 0)), (1, .int a1), (2, .int a2), (3, .int a3)] td_X12_holdersOf 4 rfl (q := 8) rfl (Nat.le_of_ble_eq_true rfl) rfl ?_
  refine go_pick [1, 2, 4, 0] (lv' := [(0, .ref (E.1 0)), (1, .int a1), (3, .int a3), (4, .int 0)]) rfl ?_
  refine (show ∀ (u2_0 : Int32) (u2_1 : G), Go (wCB E) _ _ u2_1 8 [(0, .ref (E.1 0)), (1, .int a1), (3, .int a3), (4, .int u2_0)] [] (Lp (α := Int32 × G) _ FU (u2_0, u2_1)) from ?_) 0 x1
  intro u2_0 u2_1
  refine go_Lp (α := Int32 × G) (fun s2 => s2.2) (fun s2 => [(0, .ref (E.1 0)), (1, .int a1), (3, .int a3), (4, .int s2.1)]) ?_ FU (u2_0, u2_1)
  intro rec2 hrec2 s2
  have krec2 : ∀ (u2_0 : Int32) (u2_1 : G), Go (wCB E) _ _ u2_1 8 [(0, .ref (E.1 0)), (1, .int a1), (3, .int a3), (4, .int u2_0)] [] (rec2 (u2_0, u2_1)) := fun u2_0 u2_1 => hrec2 (u2_0, u2_1)
  refine go_iload td_X12_holdersOf 5 rfl (q := 10) rfl 3 rfl ?_
  refine go_iload_n td_X12_holdersOf 6 rfl (q := 11) rfl 2 rfl ?_
  refine go_icmp_ge 28 td_X12_holdersOf 7 rfl rfl (q := 14) rfl (fun _ => ?_) (fun _ => ?_)
  · refine go_aload_n td_X12_holdersOf 15 rfl (q := 29) rfl 0 rfl ?_
    refine go_get td_X12_holdersOf 16 rfl (q := 32) rfl fl_X12_182 (Bc_0 E s2.2) rfl ?_
    exact go_iret td_X12_holdersOf 17 rfl rfl rfl
  · refine go_aload_n td_X12_holdersOf 8 rfl (q := 15) rfl 0 rfl ?_
    refine go_iload_n td_X12_holdersOf 9 rfl (q := 16) rfl 1 rfl ?_
    refine go_iload td_X12_holdersOf 10 rfl (q := 18) rfl 3 rfl ?_
    refine go_iadd td_X12_holdersOf 11 rfl (q := 19) rfl ?_
    refine go_callV td_X12_holdersOf 12 rfl (q := 22) rfl (XkB E) lk_X12_428 (ok_fB_M_carries E (a1 + s2.1) s2.2) ⟨rfl, rfl, Nat.le_of_ble_eq_true rfl, Nat.le_of_ble_eq_true rfl⟩ rfl rfl (Nat.le_of_ble_eq_true rfl) (Bc_0 E s2.2) rfl (fun x3 => ?_)
    show Go (wCB E) _ _ x3 22 _ [] _
    refine go_iinc [(4, .int (s2.1 + 1)), (0, .ref (E.1 0)), (1, .int a1), (3, .int a3)] td_X12_holdersOf 13 rfl (q := 25) rfl 3 rfl kc_1 (Nat.le_of_ble_eq_true rfl) rfl ?_
    refine go_goto td_X12_holdersOf 14 rfl (q := 8) rfl ?_
    refine go_pick [1, 2, 3, 0] (lv' := [(0, .ref (E.1 0)), (1, .int a1), (3, .int a3), (4, .int (s2.1 + 1))]) rfl ?_
    exact krec2 (s2.1 + 1) x3
def fB_M_holders (a1 : Int32) (a2 : Int32) (a3 : Int32) (g : G) : Option (Int32 × G) := Option.bind (fB_M_isTick a1 g) fun x1 => (if x1 = 0 then some ((-1), g) else Option.bind (fB_M_isSite a2 g) fun x2 => (if x2 = 0 then some ((-1), g) else Option.bind (fB_M_isIn a3 0 480 g) fun x3 => (if x3 = 0 then some ((-1), g) else Option.bind (fB_M_holdersOf a1 a2 a3 g) fun x4 => some (x4.1, x4.2))))
set_option maxRecDepth 20000 in
set_option maxHeartbeats 4000000 in
theorem ok_fB_M_holders (E : Ev) (a1 : Int32) (a2 : Int32) (a3 : Int32) (g : G)  : Ct (wCB E) yX12_holders mi_X12_holders [.ref (E.1 0), .int a1, .int a2, .int a3] (fun r => (some (.int r.1), r.2)) g (fB_M_holders a1 a2 a3 g) := by
  refine go_enter rfl rfl (Nat.le_of_ble_eq_true rfl) (lv := [(0, .ref (E.1 0)), (1, .int a1), (2, .int a2), (3, .int a3)]) rfl ?_
  unfold fB_M_holders
  refine go_iload_n td_X12_holders 0 rfl (q := 1) rfl 1 rfl ?_
  refine go_callS td_X12_holders 1 rfl (q := 4) rfl (XkB E) lk_X12_362 (ok_fB_M_isTick E a1 g) ⟨rfl, rfl, Nat.le_of_ble_eq_true rfl, Nat.le_of_ble_eq_true rfl⟩ rfl rfl (Nat.le_of_ble_eq_true rfl) (fun x1 => ?_)
  show Go (wCB E) _ _ g 4 _ [.int x1] _
  refine go_if_eq 36 td_X12_holders 2 rfl rfl (q := 7) rfl (fun _ => ?_) (fun _ => ?_)
  · refine go_iconst td_X12_holders 18 rfl (q := 37) rfl kc_m1 ?_
    exact go_iret td_X12_holders 19 rfl rfl rfl
  · refine go_aload_n td_X12_holders 3 rfl (q := 8) rfl 0 rfl ?_
    refine go_iload_n td_X12_holders 4 rfl (q := 9) rfl 2 rfl ?_
    refine go_callV td_X12_holders 5 rfl (q := 12) rfl (XkB E) lk_X12_353 (ok_fB_M_isSite E a2 g) ⟨rfl, rfl, Nat.le_of_ble_eq_true rfl, Nat.le_of_ble_eq_true rfl⟩ rfl rfl (Nat.le_of_ble_eq_true rfl) (Bc_0 E g) rfl (fun x2 => ?_)
    show Go (wCB E) _ _ g 12 _ [.int x2] _
    refine go_if_eq 36 td_X12_holders 6 rfl rfl (q := 15) rfl (fun _ => ?_) (fun _ => ?_)
    · refine go_iconst td_X12_holders 18 rfl (q := 37) rfl kc_m1 ?_
      exact go_iret td_X12_holders 19 rfl rfl rfl
    · refine go_iload_n td_X12_holders 7 rfl (q := 16) rfl 3 rfl ?_
      refine go_iconst td_X12_holders 8 rfl (q := 17) rfl kc_0 ?_
      refine go_sipush td_X12_holders 9 rfl (q := 20) rfl ks_480 ?_
      refine go_callS td_X12_holders 10 rfl (q := 23) rfl (XkB E) lk_X12_248 (ok_fB_M_isIn E a3 0 480 g) ⟨rfl, rfl, Nat.le_of_ble_eq_true rfl, Nat.le_of_ble_eq_true rfl⟩ rfl rfl (Nat.le_of_ble_eq_true rfl) (fun x3 => ?_)
      show Go (wCB E) _ _ g 23 _ [.int x3] _
      refine go_if_eq 36 td_X12_holders 11 rfl rfl (q := 26) rfl (fun _ => ?_) (fun _ => ?_)
      · refine go_iconst td_X12_holders 18 rfl (q := 37) rfl kc_m1 ?_
        exact go_iret td_X12_holders 19 rfl rfl rfl
      · refine go_aload_n td_X12_holders 12 rfl (q := 27) rfl 0 rfl ?_
        refine go_iload_n td_X12_holders 13 rfl (q := 28) rfl 1 rfl ?_
        refine go_iload_n td_X12_holders 14 rfl (q := 29) rfl 2 rfl ?_
        refine go_iload_n td_X12_holders 15 rfl (q := 30) rfl 3 rfl ?_
        refine go_callV td_X12_holders 16 rfl (q := 33) rfl (XkB E) lk_X12_431 (ok_fB_M_holdersOf E a1 a2 a3 g) ⟨rfl, rfl, Nat.le_of_ble_eq_true rfl, Nat.le_of_ble_eq_true rfl⟩ rfl rfl (Nat.le_of_ble_eq_true rfl) (Bc_0 E g) rfl (fun x4 => ?_)
        show Go (wCB E) _ _ x4.2 33 _ [.int x4.1] _
        refine go_goto td_X12_holders 17 rfl (q := 37) rfl ?_
        exact go_iret td_X12_holders 19 rfl rfl rfl
def fB_M_source (a1 : Int32) (a2 : Int32) (a3 : Int32) (g : G) : Option (Int32 × G) := (if (g.1 6) = 0 then some ((-1), g) else Option.bind (fB_M_isTick a1 g) fun x1 => (if x1 = 0 then some ((-1), g) else Option.bind (fB_M_isIn a2 0 480 g) fun x2 => (if x2 = 0 then some ((-1), g) else Option.bind (fB_M_isIn a3 0 1 g) fun x3 => (if x3 = 0 then some ((-1), g) else Lp (α := Int32 × Int32 × Int32 × G) (fun rec4 s4 => (if (s4.2.2.2.1 6) ≤ s4.2.2.1 then (if a3 = 0 then some (s4.1, s4.2.2.2) else some (s4.2.1, s4.2.2.2)) else Option.bind (fB_M_holdersOf a1 s4.2.2.1 a2 s4.2.2.2) fun x5 => Option.bind (fB_M_manyIn x5.1 x5.2) fun x6 => lj (α := Int32 × Int32) (fun b7 => rec4 (b7.1, b7.2, s4.2.2.1 + 1, x5.2)) fun J7 => (if s4.2.1 < x6 then J7 (s4.2.2.1, x6) else J7 (s4.1, s4.2.1)))) FU ((-1), 0, 0, g)))))
set_option maxRecDepth 20000 in
set_option maxHeartbeats 4000000 in
theorem ok_fB_M_source (E : Ev) (a1 : Int32) (a2 : Int32) (a3 : Int32) (g : G)  : Ct (wCB E) yX12_source mi_X12_source [.ref (E.1 0), .int a1, .int a2, .int a3] (fun r => (some (.int r.1), r.2)) g (fB_M_source a1 a2 a3 g) := by
  refine go_enter rfl rfl (Nat.le_of_ble_eq_true rfl) (lv := [(0, .ref (E.1 0)), (1, .int a1), (2, .int a2), (3, .int a3)]) rfl ?_
  unfold fB_M_source
  refine go_aload_n td_X12_source 0 rfl (q := 1) rfl 0 rfl ?_
  refine go_get td_X12_source 1 rfl (q := 4) rfl fl_X12_29 (Bc_0 E g) rfl ?_
  refine go_if_eq 34 td_X12_source 2 rfl rfl (q := 7) rfl (fun _ => ?_) (fun _ => ?_)
  · refine go_iconst td_X12_source 16 rfl (q := 35) rfl kc_m1 ?_
    exact go_iret td_X12_source 17 rfl rfl rfl
  · refine go_iload_n td_X12_source 3 rfl (q := 8) rfl 1 rfl ?_
    refine go_callS td_X12_source 4 rfl (q := 11) rfl (XkB E) lk_X12_362 (ok_fB_M_isTick E a1 g) ⟨rfl, rfl, Nat.le_of_ble_eq_true rfl, Nat.le_of_ble_eq_true rfl⟩ rfl rfl (Nat.le_of_ble_eq_true rfl) (fun x1 => ?_)
    show Go (wCB E) _ _ g 11 _ [.int x1] _
    refine go_if_eq 34 td_X12_source 5 rfl rfl (q := 14) rfl (fun _ => ?_) (fun _ => ?_)
    · refine go_iconst td_X12_source 16 rfl (q := 35) rfl kc_m1 ?_
      exact go_iret td_X12_source 17 rfl rfl rfl
    · refine go_iload_n td_X12_source 6 rfl (q := 15) rfl 2 rfl ?_
      refine go_iconst td_X12_source 7 rfl (q := 16) rfl kc_0 ?_
      refine go_sipush td_X12_source 8 rfl (q := 19) rfl ks_480 ?_
      refine go_callS td_X12_source 9 rfl (q := 22) rfl (XkB E) lk_X12_248 (ok_fB_M_isIn E a2 0 480 g) ⟨rfl, rfl, Nat.le_of_ble_eq_true rfl, Nat.le_of_ble_eq_true rfl⟩ rfl rfl (Nat.le_of_ble_eq_true rfl) (fun x2 => ?_)
      show Go (wCB E) _ _ g 22 _ [.int x2] _
      refine go_if_eq 34 td_X12_source 10 rfl rfl (q := 25) rfl (fun _ => ?_) (fun _ => ?_)
      · refine go_iconst td_X12_source 16 rfl (q := 35) rfl kc_m1 ?_
        exact go_iret td_X12_source 17 rfl rfl rfl
      · refine go_iload_n td_X12_source 11 rfl (q := 26) rfl 3 rfl ?_
        refine go_iconst td_X12_source 12 rfl (q := 27) rfl kc_0 ?_
        refine go_iconst td_X12_source 13 rfl (q := 28) rfl kc_1 ?_
        refine go_callS td_X12_source 14 rfl (q := 31) rfl (XkB E) lk_X12_248 (ok_fB_M_isIn E a3 0 1 g) ⟨rfl, rfl, Nat.le_of_ble_eq_true rfl, Nat.le_of_ble_eq_true rfl⟩ rfl rfl (Nat.le_of_ble_eq_true rfl) (fun x3 => ?_)
        show Go (wCB E) _ _ g 31 _ [.int x3] _
        refine go_if_ne 36 td_X12_source 15 rfl rfl (q := 34) rfl (fun _ => ?_) (fun _ => ?_)
        · refine go_iconst td_X12_source 18 rfl (q := 37) rfl kc_m1 ?_
          refine go_istore [(4, .int (-1)), (0, .ref (E.1 0)), (1, .int a1), (2, .int a2), (3, .int a3)] td_X12_source 19 rfl (q := 39) rfl (Nat.le_of_ble_eq_true rfl) rfl ?_
          refine go_iconst td_X12_source 20 rfl (q := 40) rfl kc_0 ?_
          refine go_istore [(5, .int 0), (4, .int (-1)), (0, .ref (E.1 0)), (1, .int a1), (2, .int a2), (3, .int a3)] td_X12_source 21 rfl (q := 42) rfl (Nat.le_of_ble_eq_true rfl) rfl ?_
          refine go_iconst td_X12_source 22 rfl (q := 43) rfl kc_0 ?_
          refine go_istore [(6, .int 0), (5, .int 0), (4, .int (-1)), (0, .ref (E.1 0)), (1, .int a1), (2, .int a2), (3, .int a3)] td_X12_source 23 rfl (q := 45) rfl (Nat.le_of_ble_eq_true rfl) rfl ?_
          refine go_pick [3, 4, 5, 6, 2, 1, 0] (lv' := [(0, .ref (E.1 0)), (1, .int a1), (2, .int a2), (3, .int a3), (4, .int (-1)), (5, .int 0), (6, .int 0)]) rfl ?_
          refine (show ∀ (u4_0 : Int32) (u4_1 : Int32) (u4_2 : Int32) (u4_3 : G), Go (wCB E) _ _ u4_3 45 [(0, .ref (E.1 0)), (1, .int a1), (2, .int a2), (3, .int a3), (4, .int u4_0), (5, .int u4_1), (6, .int u4_2)] [] (Lp (α := Int32 × Int32 × Int32 × G) _ FU (u4_0, u4_1, u4_2, u4_3)) from ?_) (-1) 0 0 g
          intro u4_0 u4_1 u4_2 u4_3
          refine go_Lp (α := Int32 × Int32 × Int32 × G) (fun s4 => s4.2.2.2) (fun s4 => [(0, .ref (E.1 0)), (1, .int a1), (2, .int a2), (3, .int a3), (4, .int s4.1), (5, .int s4.2.1), (6, .int s4.2.2.1)]) ?_ FU (u4_0, u4_1, u4_2, u4_3)
          intro rec4 hrec4 s4
          have krec4 : ∀ (u4_0 : Int32) (u4_1 : Int32) (u4_2 : Int32) (u4_3 : G), Go (wCB E) _ _ u4_3 45 [(0, .ref (E.1 0)), (1, .int a1), (2, .int a2), (3, .int a3), (4, .int u4_0), (5, .int u4_1), (6, .int u4_2)] [] (rec4 (u4_0, u4_1, u4_2, u4_3)) := fun u4_0 u4_1 u4_2 u4_3 => hrec4 (u4_0, u4_1, u4_2, u4_3)
          refine go_iload td_X12_source 24 rfl (q := 47) rfl 6 rfl ?_
          refine go_aload_n td_X12_source 25 rfl (q := 48) rfl 0 rfl ?_
          refine go_get td_X12_source 26 rfl (q := 51) rfl fl_X12_29 (Bc_0 E s4.2.2.2) rfl ?_
          refine go_icmp_ge 91 td_X12_source 27 rfl rfl (q := 54) rfl (fun _ => ?_) (fun _ => ?_)
          · refine go_iload_n td_X12_source 45 rfl (q := 92) rfl 3 rfl ?_
            refine go_if_ne 100 td_X12_source 46 rfl rfl (q := 95) rfl (fun _ => ?_) (fun _ => ?_)
            · refine go_iload td_X12_source 49 rfl (q := 102) rfl 5 rfl ?_
              exact go_iret td_X12_source 50 rfl rfl rfl
            · refine go_iload td_X12_source 47 rfl (q := 97) rfl 4 rfl ?_
              refine go_goto td_X12_source 48 rfl (q := 102) rfl ?_
              exact go_iret td_X12_source 50 rfl rfl rfl
          · refine go_aload_n td_X12_source 28 rfl (q := 55) rfl 0 rfl ?_
            refine go_iload_n td_X12_source 29 rfl (q := 56) rfl 1 rfl ?_
            refine go_iload td_X12_source 30 rfl (q := 58) rfl 6 rfl ?_
            refine go_iload_n td_X12_source 31 rfl (q := 59) rfl 2 rfl ?_
            refine go_callV td_X12_source 32 rfl (q := 62) rfl (XkB E) lk_X12_431 (ok_fB_M_holdersOf E a1 s4.2.2.1 a2 s4.2.2.2) ⟨rfl, rfl, Nat.le_of_ble_eq_true rfl, Nat.le_of_ble_eq_true rfl⟩ rfl rfl (Nat.le_of_ble_eq_true rfl) (Bc_0 E s4.2.2.2) rfl (fun x5 => ?_)
            show Go (wCB E) _ _ x5.2 62 _ [.int x5.1] _
            refine go_callS td_X12_source 33 rfl (q := 65) rfl (XkB E) lk_X12_419 (ok_fB_M_manyIn E x5.1 x5.2) ⟨rfl, rfl, Nat.le_of_ble_eq_true rfl, Nat.le_of_ble_eq_true rfl⟩ rfl rfl (Nat.le_of_ble_eq_true rfl) (fun x6 => ?_)
            show Go (wCB E) _ _ x5.2 65 _ [.int x6] _
            refine go_istore [(7, .int x6), (0, .ref (E.1 0)), (1, .int a1), (2, .int a2), (3, .int a3), (4, .int s4.1), (5, .int s4.2.1), (6, .int s4.2.2.1)] td_X12_source 34 rfl (q := 67) rfl (Nat.le_of_ble_eq_true rfl) rfl ?_
            refine go_iload td_X12_source 35 rfl (q := 69) rfl 0 rfl ?_
            refine go_iload td_X12_source 36 rfl (q := 71) rfl 6 rfl ?_
            refine go_ljX (α := Int32 × Int32) (fun b7 => [(0, .ref (E.1 0)), (1, .int a1), (2, .int a2), (3, .int a3), (4, .int b7.1), (5, .int b7.2), (6, .int s4.2.2.1)]) (fun b7 => []) (fun b7 => x5.2) 85 ?_ ?_
            · intro b7
              refine go_iinc [(6, .int (s4.2.2.1 + 1)), (0, .ref (E.1 0)), (1, .int a1), (2, .int a2), (3, .int a3), (4, .int b7.1), (5, .int b7.2)] td_X12_source 43 rfl (q := 88) rfl 6 rfl kc_1 (Nat.le_of_ble_eq_true rfl) rfl ?_
              refine go_goto td_X12_source 44 rfl (q := 45) rfl ?_
              refine go_pick [1, 2, 3, 4, 5, 6, 0] (lv' := [(0, .ref (E.1 0)), (1, .int a1), (2, .int a2), (3, .int a3), (4, .int b7.1), (5, .int b7.2), (6, .int (s4.2.2.1 + 1))]) rfl ?_
              exact krec4 b7.1 b7.2 (s4.2.2.1 + 1) x5.2
            intro J7 hJ7
            have kJ7 : ∀ (u7_0 : Int32) (u7_1 : Int32), Go (wCB E) _ _ x5.2 85 [(0, .ref (E.1 0)), (1, .int a1), (2, .int a2), (3, .int a3), (4, .int u7_0), (5, .int u7_1), (6, .int s4.2.2.1)] [] (J7 (u7_0, u7_1)) := fun u7_0 u7_1 => hJ7 (u7_0, u7_1)
            refine go_icmp_gt 77 td_X12_source 37 rfl rfl (q := 74) rfl (fun _ => ?_) (fun _ => ?_)
            · refine go_iload td_X12_source 39 rfl (q := 79) rfl 7 rfl ?_
              refine go_istore [(4, .int s4.2.2.1), (7, .int x6), (0, .ref (E.1 0)), (1, .int a1), (2, .int a2), (3, .int a3), (5, .int s4.2.1), (6, .int s4.2.2.1)] td_X12_source 40 rfl (q := 81) rfl (Nat.le_of_ble_eq_true rfl) rfl ?_
              refine go_iload td_X12_source 41 rfl (q := 83) rfl 1 rfl ?_
              refine go_istore [(5, .int x6), (4, .int s4.2.2.1), (7, .int x6), (0, .ref (E.1 0)), (1, .int a1), (2, .int a2), (3, .int a3), (6, .int s4.2.2.1)] td_X12_source 42 rfl (q := 85) rfl (Nat.le_of_ble_eq_true rfl) rfl ?_
              refine go_pick [3, 4, 5, 6, 1, 0, 7] (lv' := [(0, .ref (E.1 0)), (1, .int a1), (2, .int a2), (3, .int a3), (4, .int s4.2.2.1), (5, .int x6), (6, .int s4.2.2.1)]) rfl ?_
              exact kJ7 s4.2.2.1 x6
            · refine go_goto td_X12_source 38 rfl (q := 85) rfl ?_
              refine go_pick [1, 2, 3, 4, 5, 6, 7] (lv' := [(0, .ref (E.1 0)), (1, .int a1), (2, .int a2), (3, .int a3), (4, .int s4.1), (5, .int s4.2.1), (6, .int s4.2.2.1)]) rfl ?_
              exact kJ7 s4.1 s4.2.1
        · refine go_iconst td_X12_source 16 rfl (q := 35) rfl kc_m1 ?_
          exact go_iret td_X12_source 17 rfl rfl rfl
def fB_M_note (g : G) : Option (Int32 × G) := Option.bind (fB_M_taken g) fun x1 => lj (α := Int32) (fun b2 => Lp (α := Int32 × Int32) (fun rec3 s3 => lj (α := Unit) (fun b4 => (if s3.1 = 0 then Option.bind (fB_M_refuses 5 x1.2) fun x9 => some (x9.1, x9.2) else dz 4 (bv (sS x1.2 58 (x1.1 / 4)) fun g5 => Lp (α := Int32 × G) (fun rec6 s6 => (if x1.1 ≤ s6.1 then some (s6.2.1 58, s6.2) else ag 1600 (s6.2.2.1 17) s6.1 fun x7 => ck 64 s6.1 (bv (sA s6.2 26 (s6.1 : Int32).toNatClampNeg x7) fun g8 => rec6 (s6.1 + 1, g8)))) FU (0, g5)))) fun J4 => (if s3.1 = 0 then J4 () else (if x1.1 ≤ s3.2 then J4 () else ag 1600 (x1.2.2.1 17) s3.2 fun x10 => lj (α := Int32) (fun b11 => rec3 (b11, s3.2 + 4)) fun J11 => lj (α := Unit) (fun b12 => J11 0) fun J12 => (if (x1.2.1 7) ≤ x10 then J12 () else ag 1600 (x1.2.2.1 17) (s3.2 + 1) fun x13 => ag 1600 (x1.2.2.1 17) (s3.2 + 2) fun x14 => Option.bind (fB_M_isCell x13 x14 x1.2) fun x15 => (if x15 = 0 then J12 () else ag 1600 (x1.2.2.1 17) (s3.2 + 3) fun x16 => (if 1 < x16 then J12 () else J11 1)))))) FU (b2, 0)) fun J2 => lj (α := Unit) (fun b17 => J2 0) fun J17 => (if (x1.2.1 0) = 0 then J17 () else (if x1.1 ≤ 0 then J17 () else dz 4 ((if (x1.1 - x1.1 / 4 * 4) = 0 then (if 64 < x1.1 then J17 () else J2 1) else J17 ()))))
set_option maxRecDepth 20000 in
set_option maxHeartbeats 4000000 in
theorem ok_fB_M_note (E : Ev)  (g : G)  : Ct (wCB E) yX12_note mi_X12_note [.ref (E.1 0)] (fun r => (some (.int r.1), r.2)) g (fB_M_note g) := by
  refine go_enter rfl rfl (Nat.le_of_ble_eq_true rfl) (lv := [(0, .ref (E.1 0))]) rfl ?_
  unfold fB_M_note
  refine go_aload_n td_X12_note 0 rfl (q := 1) rfl 0 rfl ?_
  refine go_callV td_X12_note 1 rfl (q := 4) rfl (XkB E) lk_X12_296 (ok_fB_M_taken E g) ⟨rfl, rfl, Nat.le_of_ble_eq_true rfl, Nat.le_of_ble_eq_true rfl⟩ rfl rfl (Nat.le_of_ble_eq_true rfl) (Bc_0 E g) rfl (fun x1 => ?_)
  show Go (wCB E) _ _ x1.2 4 _ [.int x1.1] _
  refine go_istore_n [(1, .int x1.1), (0, .ref (E.1 0))] td_X12_note 2 rfl (q := 5) rfl (Nat.le_of_ble_eq_true rfl) rfl ?_
  refine go_aload_n td_X12_note 3 rfl (q := 6) rfl 1 rfl ?_
  refine go_get td_X12_note 4 rfl (q := 9) rfl fl_X12_7 (Bc_0 E x1.2) rfl ?_
  refine go_ljX (α := Int32) (fun b2 => [(0, .ref (E.1 0)), (1, .int x1.1)]) (fun b2 => [.int b2]) (fun b2 => x1.2) 33 ?_ ?_
  · intro b2
    refine go_istore_n [(2, .int b2), (0, .ref (E.1 0)), (1, .int x1.1)] td_X12_note 18 rfl (q := 34) rfl (Nat.le_of_ble_eq_true rfl) rfl ?_
    refine go_iconst td_X12_note 19 rfl (q := 35) rfl kc_0 ?_
    refine go_istore_n [(3, .int 0), (2, .int b2), (0, .ref (E.1 0)), (1, .int x1.1)] td_X12_note 20 rfl (q := 36) rfl (Nat.le_of_ble_eq_true rfl) rfl ?_
    refine go_pick [2, 3, 1, 0] (lv' := [(0, .ref (E.1 0)), (1, .int x1.1), (2, .int b2), (3, .int 0)]) rfl ?_
    refine (show ∀ (u3_0 : Int32) (u3_1 : Int32), Go (wCB E) _ _ x1.2 36 [(0, .ref (E.1 0)), (1, .int x1.1), (2, .int u3_0), (3, .int u3_1)] [] (Lp (α := Int32 × Int32) _ FU (u3_0, u3_1)) from ?_) b2 0
    intro u3_0 u3_1
    refine go_Lp (α := Int32 × Int32) (fun s3 => x1.2) (fun s3 => [(0, .ref (E.1 0)), (1, .int x1.1), (2, .int s3.1), (3, .int s3.2)]) ?_ FU (u3_0, u3_1)
    intro rec3 hrec3 s3
    have krec3 : ∀ (u3_0 : Int32) (u3_1 : Int32), Go (wCB E) _ _ x1.2 36 [(0, .ref (E.1 0)), (1, .int x1.1), (2, .int u3_0), (3, .int u3_1)] [] (rec3 (u3_0, u3_1)) := fun u3_0 u3_1 => hrec3 (u3_0, u3_1)
    refine go_iload_n td_X12_note 21 rfl (q := 37) rfl 2 rfl ?_
    refine go_ljX (α := Unit) (fun b4 => [(0, .ref (E.1 0)), (1, .int x1.1), (2, .int s3.1)]) (fun b4 => []) (fun b4 => x1.2) 105 ?_ ?_
    · intro b4
      refine go_iload_n td_X12_note 62 rfl (q := 106) rfl 2 rfl ?_
      refine go_if_ne 115 td_X12_note 63 rfl rfl (q := 109) rfl (fun _ => ?_) (fun _ => ?_)
      · refine go_aload_n td_X12_note 68 rfl (q := 116) rfl 0 rfl ?_
        refine go_iload_n td_X12_note 69 rfl (q := 117) rfl 1 rfl ?_
        refine go_iconst td_X12_note 70 rfl (q := 118) rfl kc_4 ?_
        refine go_idiv td_X12_note 71 rfl (q := 119) rfl ?_
        refine go_put td_X12_note 72 rfl (q := 122) rfl flp_X12_188 (Bc_0 E x1.2) rfl rfl (Nat.le_of_ble_eq_true rfl) (Bps_58 E x1.2 (x1.1 / 4)) ?_
        refine go_bvg (fun g5 => ?_)
        refine go_iconst td_X12_note 73 rfl (q := 123) rfl kc_0 ?_
        refine go_istore_n [(3, .int 0), (0, .ref (E.1 0)), (1, .int x1.1), (2, .int s3.1)] td_X12_note 74 rfl (q := 124) rfl (Nat.le_of_ble_eq_true rfl) rfl ?_
        refine go_pick [1, 2, 0] (lv' := [(0, .ref (E.1 0)), (1, .int x1.1), (3, .int 0)]) rfl ?_
        refine (show ∀ (u6_0 : Int32) (u6_1 : G), Go (wCB E) _ _ u6_1 124 [(0, .ref (E.1 0)), (1, .int x1.1), (3, .int u6_0)] [] (Lp (α := Int32 × G) _ FU (u6_0, u6_1)) from ?_) 0 g5
        intro u6_0 u6_1
        refine go_Lp (α := Int32 × G) (fun s6 => s6.2) (fun s6 => [(0, .ref (E.1 0)), (1, .int x1.1), (3, .int s6.1)]) ?_ FU (u6_0, u6_1)
        intro rec6 hrec6 s6
        have krec6 : ∀ (u6_0 : Int32) (u6_1 : G), Go (wCB E) _ _ u6_1 124 [(0, .ref (E.1 0)), (1, .int x1.1), (3, .int u6_0)] [] (rec6 (u6_0, u6_1)) := fun u6_0 u6_1 => hrec6 (u6_0, u6_1)
        refine go_iload_n td_X12_note 75 rfl (q := 125) rfl 2 rfl ?_
        refine go_iload_n td_X12_note 76 rfl (q := 126) rfl 1 rfl ?_
        refine go_icmp_ge 147 td_X12_note 77 rfl rfl (q := 129) rfl (fun _ => ?_) (fun _ => ?_)
        · refine go_aload_n td_X12_note 88 rfl (q := 148) rfl 0 rfl ?_
          refine go_get td_X12_note 89 rfl (q := 151) rfl fl_X12_188 (Bc_0 E s6.2) rfl ?_
          exact go_iret td_X12_note 90 rfl rfl rfl
        · refine go_aload_n td_X12_note 78 rfl (q := 130) rfl 0 rfl ?_
          refine go_get td_X12_note 79 rfl (q := 133) rfl fl_X12_191 (Bc_0 E s6.2) rfl ?_
          refine go_iload_n td_X12_note 80 rfl (q := 134) rfl 2 rfl ?_
          refine go_aload_n td_X12_note 81 rfl (q := 135) rfl 0 rfl ?_
          refine go_get td_X12_note 82 rfl (q := 138) rfl fl_X12_108 (Bc_0 E s6.2) rfl ?_
          refine go_iload_n td_X12_note 83 rfl (q := 139) rfl 2 rfl ?_
          refine go_ald td_X12_note 84 rfl (q := 140) rfl (Bc_17 E s6.2) (t0 := 0) rfl (fun x7 => ?_)
          refine go_ast td_X12_note 85 rfl (q := 141) rfl (Bc_26 E s6.2) (t0 := 0) rfl (Bas_26 E s6.2 _) ?_
          refine go_bvg (fun g8 => ?_)
          refine go_iinc [(3, .int (s6.1 + 1)), (0, .ref (E.1 0)), (1, .int x1.1)] td_X12_note 86 rfl (q := 144) rfl 2 rfl kc_1 (Nat.le_of_ble_eq_true rfl) rfl ?_
          refine go_goto td_X12_note 87 rfl (q := 124) rfl ?_
          refine go_pick [1, 2, 0] (lv' := [(0, .ref (E.1 0)), (1, .int x1.1), (3, .int (s6.1 + 1))]) rfl ?_
          exact krec6 (s6.1 + 1) g8
      · refine go_aload_n td_X12_note 64 rfl (q := 110) rfl 0 rfl ?_
        refine go_iconst td_X12_note 65 rfl (q := 111) rfl kc_5 ?_
        refine go_callV td_X12_note 66 rfl (q := 114) rfl (XkB E) lk_X12_209 (ok_fB_M_refuses E 5 x1.2) ⟨rfl, rfl, Nat.le_of_ble_eq_true rfl, Nat.le_of_ble_eq_true rfl⟩ rfl rfl (Nat.le_of_ble_eq_true rfl) (Bc_0 E x1.2) rfl (fun x9 => ?_)
        show Go (wCB E) _ _ x9.2 114 _ [.int x9.1] _
        exact go_iret td_X12_note 67 rfl rfl rfl
    intro J4 hJ4
    have kJ4 : Go (wCB E) _ _ x1.2 105 [(0, .ref (E.1 0)), (1, .int x1.1), (2, .int s3.1)] [] (J4 ()) := hJ4 ()
    refine go_if_eq 105 td_X12_note 22 rfl rfl (q := 40) rfl (fun _ => ?_) (fun _ => ?_)
    · refine go_pick [0, 1, 2] (lv' := [(0, .ref (E.1 0)), (1, .int x1.1), (2, .int s3.1)]) rfl ?_
      exact kJ4 
    · refine go_iload_n td_X12_note 23 rfl (q := 41) rfl 3 rfl ?_
      refine go_iload_n td_X12_note 24 rfl (q := 42) rfl 1 rfl ?_
      refine go_icmp_ge 105 td_X12_note 25 rfl rfl (q := 45) rfl (fun _ => ?_) (fun _ => ?_)
      · refine go_pick [0, 1, 2] (lv' := [(0, .ref (E.1 0)), (1, .int x1.1), (2, .int s3.1)]) rfl ?_
        exact kJ4 
      · refine go_aload_n td_X12_note 26 rfl (q := 46) rfl 0 rfl ?_
        refine go_get td_X12_note 27 rfl (q := 49) rfl fl_X12_108 (Bc_0 E x1.2) rfl ?_
        refine go_iload_n td_X12_note 28 rfl (q := 50) rfl 3 rfl ?_
        refine go_ald td_X12_note 29 rfl (q := 51) rfl (Bc_17 E x1.2) (t0 := 0) rfl (fun x10 => ?_)
        refine go_aload_n td_X12_note 30 rfl (q := 52) rfl 0 rfl ?_
        refine go_get td_X12_note 31 rfl (q := 55) rfl fl_X12_32 (Bc_0 E x1.2) rfl ?_
        refine go_ljX (α := Int32) (fun b11 => [(0, .ref (E.1 0)), (1, .int x1.1), (3, .int s3.2)]) (fun b11 => [.int b11]) (fun b11 => x1.2) 98 ?_ ?_
        · intro b11
          refine go_istore_n [(2, .int b11), (0, .ref (E.1 0)), (1, .int x1.1), (3, .int s3.2)] td_X12_note 59 rfl (q := 99) rfl (Nat.le_of_ble_eq_true rfl) rfl ?_
          refine go_iinc [(3, .int (s3.2 + 4)), (2, .int b11), (0, .ref (E.1 0)), (1, .int x1.1)] td_X12_note 60 rfl (q := 102) rfl 3 rfl kc_4 (Nat.le_of_ble_eq_true rfl) rfl ?_
          refine go_goto td_X12_note 61 rfl (q := 36) rfl ?_
          refine go_pick [2, 3, 1, 0] (lv' := [(0, .ref (E.1 0)), (1, .int x1.1), (2, .int b11), (3, .int (s3.2 + 4))]) rfl ?_
          exact krec3 b11 (s3.2 + 4)
        intro J11 hJ11
        have kJ11 : ∀ (u11_0 : Int32), Go (wCB E) _ _ x1.2 98 [(0, .ref (E.1 0)), (1, .int x1.1), (3, .int s3.2)] [.int u11_0] (J11 u11_0) := fun u11_0 => hJ11 u11_0
        refine go_ljX (α := Unit) (fun b12 => [(0, .ref (E.1 0)), (1, .int x1.1), (3, .int s3.2)]) (fun b12 => []) (fun b12 => x1.2) 97 ?_ ?_
        · intro b12
          refine go_iconst td_X12_note 58 rfl (q := 98) rfl kc_0 ?_
          refine go_pick [0, 1, 2] (lv' := [(0, .ref (E.1 0)), (1, .int x1.1), (3, .int s3.2)]) rfl ?_
          exact kJ11 0
        intro J12 hJ12
        have kJ12 : Go (wCB E) _ _ x1.2 97 [(0, .ref (E.1 0)), (1, .int x1.1), (3, .int s3.2)] [] (J12 ()) := hJ12 ()
        refine go_icmp_ge 97 td_X12_note 32 rfl rfl (q := 58) rfl (fun _ => ?_) (fun _ => ?_)
        · refine go_pick [0, 1, 3] (lv' := [(0, .ref (E.1 0)), (1, .int x1.1), (3, .int s3.2)]) rfl ?_
          exact kJ12 
        · refine go_aload_n td_X12_note 33 rfl (q := 59) rfl 0 rfl ?_
          refine go_aload_n td_X12_note 34 rfl (q := 60) rfl 0 rfl ?_
          refine go_get td_X12_note 35 rfl (q := 63) rfl fl_X12_108 (Bc_0 E x1.2) rfl ?_
          refine go_iload_n td_X12_note 36 rfl (q := 64) rfl 3 rfl ?_
          refine go_iconst td_X12_note 37 rfl (q := 65) rfl kc_1 ?_
          refine go_iadd td_X12_note 38 rfl (q := 66) rfl ?_
          refine go_ald td_X12_note 39 rfl (q := 67) rfl (Bc_17 E x1.2) (t0 := 0) rfl (fun x13 => ?_)
          refine go_aload_n td_X12_note 40 rfl (q := 68) rfl 0 rfl ?_
          refine go_get td_X12_note 41 rfl (q := 71) rfl fl_X12_108 (Bc_0 E x1.2) rfl ?_
          refine go_iload_n td_X12_note 42 rfl (q := 72) rfl 3 rfl ?_
          refine go_iconst td_X12_note 43 rfl (q := 73) rfl kc_2 ?_
          refine go_iadd td_X12_note 44 rfl (q := 74) rfl ?_
          refine go_ald td_X12_note 45 rfl (q := 75) rfl (Bc_17 E x1.2) (t0 := 0) rfl (fun x14 => ?_)
          refine go_callV td_X12_note 46 rfl (q := 78) rfl (XkB E) lk_X12_365 (ok_fB_M_isCell E x13 x14 x1.2) ⟨rfl, rfl, Nat.le_of_ble_eq_true rfl, Nat.le_of_ble_eq_true rfl⟩ rfl rfl (Nat.le_of_ble_eq_true rfl) (Bc_0 E x1.2) rfl (fun x15 => ?_)
          show Go (wCB E) _ _ x1.2 78 _ [.int x15] _
          refine go_if_eq 97 td_X12_note 47 rfl rfl (q := 81) rfl (fun _ => ?_) (fun _ => ?_)
          · refine go_pick [0, 1, 3] (lv' := [(0, .ref (E.1 0)), (1, .int x1.1), (3, .int s3.2)]) rfl ?_
            exact kJ12 
          · refine go_aload_n td_X12_note 48 rfl (q := 82) rfl 0 rfl ?_
            refine go_get td_X12_note 49 rfl (q := 85) rfl fl_X12_108 (Bc_0 E x1.2) rfl ?_
            refine go_iload_n td_X12_note 50 rfl (q := 86) rfl 3 rfl ?_
            refine go_iconst td_X12_note 51 rfl (q := 87) rfl kc_3 ?_
            refine go_iadd td_X12_note 52 rfl (q := 88) rfl ?_
            refine go_ald td_X12_note 53 rfl (q := 89) rfl (Bc_17 E x1.2) (t0 := 0) rfl (fun x16 => ?_)
            refine go_iconst td_X12_note 54 rfl (q := 90) rfl kc_1 ?_
            refine go_icmp_gt 97 td_X12_note 55 rfl rfl (q := 93) rfl (fun _ => ?_) (fun _ => ?_)
            · refine go_pick [0, 1, 3] (lv' := [(0, .ref (E.1 0)), (1, .int x1.1), (3, .int s3.2)]) rfl ?_
              exact kJ12 
            · refine go_iconst td_X12_note 56 rfl (q := 94) rfl kc_1 ?_
              refine go_goto td_X12_note 57 rfl (q := 98) rfl ?_
              refine go_pick [0, 1, 3] (lv' := [(0, .ref (E.1 0)), (1, .int x1.1), (3, .int s3.2)]) rfl ?_
              exact kJ11 1
  intro J2 hJ2
  have kJ2 : ∀ (u2_0 : Int32), Go (wCB E) _ _ x1.2 33 [(0, .ref (E.1 0)), (1, .int x1.1)] [.int u2_0] (J2 u2_0) := fun u2_0 => hJ2 u2_0
  refine go_ljX (α := Unit) (fun b17 => [(0, .ref (E.1 0)), (1, .int x1.1)]) (fun b17 => []) (fun b17 => x1.2) 32 ?_ ?_
  · intro b17
    refine go_iconst td_X12_note 17 rfl (q := 33) rfl kc_0 ?_
    refine go_pick [0, 1] (lv' := [(0, .ref (E.1 0)), (1, .int x1.1)]) rfl ?_
    exact kJ2 0
  intro J17 hJ17
  have kJ17 : Go (wCB E) _ _ x1.2 32 [(0, .ref (E.1 0)), (1, .int x1.1)] [] (J17 ()) := hJ17 ()
  refine go_if_eq 32 td_X12_note 5 rfl rfl (q := 12) rfl (fun _ => ?_) (fun _ => ?_)
  · refine go_pick [1, 0] (lv' := [(0, .ref (E.1 0)), (1, .int x1.1)]) rfl ?_
    exact kJ17 
  · refine go_iload_n td_X12_note 6 rfl (q := 13) rfl 0 rfl ?_
    refine go_if_le 32 td_X12_note 7 rfl rfl (q := 16) rfl (fun _ => ?_) (fun _ => ?_)
    · refine go_pick [1, 0] (lv' := [(0, .ref (E.1 0)), (1, .int x1.1)]) rfl ?_
      exact kJ17 
    · refine go_iload_n td_X12_note 8 rfl (q := 17) rfl 0 rfl ?_
      refine go_iconst td_X12_note 9 rfl (q := 18) rfl kc_4 ?_
      refine go_irem td_X12_note 10 rfl (q := 19) rfl ?_
      refine go_if_ne 32 td_X12_note 11 rfl rfl (q := 22) rfl (fun _ => ?_) (fun _ => ?_)
      · refine go_pick [1, 0] (lv' := [(0, .ref (E.1 0)), (1, .int x1.1)]) rfl ?_
        exact kJ17 
      · refine go_iload_n td_X12_note 12 rfl (q := 23) rfl 0 rfl ?_
        refine go_bipush td_X12_note 13 rfl (q := 25) rfl kb_64 ?_
        refine go_icmp_gt 32 td_X12_note 14 rfl rfl (q := 28) rfl (fun _ => ?_) (fun _ => ?_)
        · refine go_pick [1, 0] (lv' := [(0, .ref (E.1 0)), (1, .int x1.1)]) rfl ?_
          exact kJ17 
        · refine go_iconst td_X12_note 15 rfl (q := 29) rfl kc_1 ?_
          refine go_goto td_X12_note 16 rfl (q := 33) rfl ?_
          refine go_pick [1, 0] (lv' := [(0, .ref (E.1 0)), (1, .int x1.1)]) rfl ?_
          exact kJ2 1
def fB_M_without (a1 : Int32) (g : G) : Option (Int32) := (if a1 = (g.1 5) then Option.bind (fB_M_upSet g) fun x2 => some x2 else Option.bind (fB_M_upSet g) fun x1 => some (x1 &&& (((1 : Int32) <<< (a1 &&& 31)) ^^^ (-1))))
set_option maxRecDepth 20000 in
set_option maxHeartbeats 4000000 in
theorem ok_fB_M_without (E : Ev) (a1 : Int32) (g : G)  : Ct (wCB E) yX12_without mi_X12_without [.ref (E.1 0), .int a1] (fun r => (some (.int r), g)) g (fB_M_without a1 g) := by
  refine go_enter rfl rfl (Nat.le_of_ble_eq_true rfl) (lv := [(0, .ref (E.1 0)), (1, .int a1)]) rfl ?_
  unfold fB_M_without
  refine go_iload_n td_X12_without 0 rfl (q := 1) rfl 1 rfl ?_
  refine go_aload_n td_X12_without 1 rfl (q := 2) rfl 0 rfl ?_
  refine go_get td_X12_without 2 rfl (q := 5) rfl fl_X12_26 (Bc_0 E g) rfl ?_
  refine go_icmp_ne 15 td_X12_without 3 rfl rfl (q := 8) rfl (fun _ => ?_) (fun _ => ?_)
  · refine go_aload_n td_X12_without 7 rfl (q := 16) rfl 0 rfl ?_
    refine go_callV td_X12_without 8 rfl (q := 19) rfl (XkB E) lk_X12_359 (ok_fB_M_upSet E g) ⟨rfl, rfl, Nat.le_of_ble_eq_true rfl, Nat.le_of_ble_eq_true rfl⟩ rfl rfl (Nat.le_of_ble_eq_true rfl) (Bc_0 E g) rfl (fun x1 => ?_)
    show Go (wCB E) _ _ g 19 _ [.int x1] _
    refine go_iconst td_X12_without 9 rfl (q := 20) rfl kc_1 ?_
    refine go_iload_n td_X12_without 10 rfl (q := 21) rfl 1 rfl ?_
    refine go_ishl td_X12_without 11 rfl (q := 22) rfl ?_
    refine go_iconst td_X12_without 12 rfl (q := 23) rfl kc_m1 ?_
    refine go_ixor td_X12_without 13 rfl (q := 24) rfl ?_
    refine go_iand td_X12_without 14 rfl (q := 25) rfl ?_
    exact go_iret td_X12_without 15 rfl rfl rfl
  · refine go_aload_n td_X12_without 4 rfl (q := 9) rfl 0 rfl ?_
    refine go_callV td_X12_without 5 rfl (q := 12) rfl (XkB E) lk_X12_359 (ok_fB_M_upSet E g) ⟨rfl, rfl, Nat.le_of_ble_eq_true rfl, Nat.le_of_ble_eq_true rfl⟩ rfl rfl (Nat.le_of_ble_eq_true rfl) (Bc_0 E g) rfl (fun x2 => ?_)
    show Go (wCB E) _ _ g 12 _ [.int x2] _
    refine go_goto td_X12_without 6 rfl (q := 25) rfl ?_
    exact go_iret td_X12_without 15 rfl rfl rfl
def fB_M_isSuspect (a1 : Int32) (g : G) : Option (Int32) := lj (α := Unit) (fun b1 => Lp (α := Int32) (fun rec2 s2 => (if (g.1 58) ≤ s2 then some 1 else ag 64 (g.2.1 26) ((4 * s2) + 2) fun x3 => ag 64 (g.2.1 26) ((4 * s2) + 1) fun x4 => bv (((g.1 1) * x3) + x4) fun x5 => ag 64 (g.2.1 26) (4 * s2) fun x6 => Option.bind (fB_M_without a1 g) fun x7 => Option.bind (fB_M_isBy x5 x6 x7 g) fun x8 => ag 64 (g.2.1 26) ((4 * s2) + 3) fun x9 => lj (α := Int32) (fun b10 => (if x8 = b10 then rec2 (s2 + 1) else some 0)) fun J10 => (if x9 = 1 then J10 1 else J10 0))) FU 0) fun J1 => (if (g.1 5) ≤ a1 then J1 () else ag 28 (g.2.1 20) (4 + a1) fun x11 => (if x11 = 0 then some 0 else J1 ()))
set_option maxRecDepth 20000 in
set_option maxHeartbeats 4000000 in
theorem ok_fB_M_isSuspect (E : Ev) (a1 : Int32) (g : G)  : Ct (wCB E) yX12_isSuspect mi_X12_isSuspect [.ref (E.1 0), .int a1] (fun r => (some (.int r), g)) g (fB_M_isSuspect a1 g) := by
  refine go_enter rfl rfl (Nat.le_of_ble_eq_true rfl) (lv := [(0, .ref (E.1 0)), (1, .int a1)]) rfl ?_
  unfold fB_M_isSuspect
  refine go_iload_n td_X12_isSuspect 0 rfl (q := 1) rfl 1 rfl ?_
  refine go_aload_n td_X12_isSuspect 1 rfl (q := 2) rfl 0 rfl ?_
  refine go_get td_X12_isSuspect 2 rfl (q := 5) rfl fl_X12_26 (Bc_0 E g) rfl ?_
  refine go_ljX (α := Unit) (fun b1 => [(0, .ref (E.1 0)), (1, .int a1)]) (fun b1 => []) (fun b1 => g) 21 ?_ ?_
  · intro b1
    refine go_iconst td_X12_isSuspect 13 rfl (q := 22) rfl kc_0 ?_
    refine go_istore_n [(2, .int 0), (0, .ref (E.1 0)), (1, .int a1)] td_X12_isSuspect 14 rfl (q := 23) rfl (Nat.le_of_ble_eq_true rfl) rfl ?_
    refine go_pick [1, 2, 0] (lv' := [(0, .ref (E.1 0)), (1, .int a1), (2, .int 0)]) rfl ?_
    refine (show ∀ (u2_0 : Int32), Go (wCB E) _ _ g 23 [(0, .ref (E.1 0)), (1, .int a1), (2, .int u2_0)] [] (Lp (α := Int32) _ FU u2_0) from ?_) 0
    intro u2_0
    refine go_Lp (α := Int32) (fun s2 => g) (fun s2 => [(0, .ref (E.1 0)), (1, .int a1), (2, .int s2)]) ?_ FU u2_0
    intro rec2 hrec2 s2
    have krec2 : ∀ (u2_0 : Int32), Go (wCB E) _ _ g 23 [(0, .ref (E.1 0)), (1, .int a1), (2, .int u2_0)] [] (rec2 u2_0) := fun u2_0 => hrec2 u2_0
    refine go_iload_n td_X12_isSuspect 15 rfl (q := 24) rfl 2 rfl ?_
    refine go_aload_n td_X12_isSuspect 16 rfl (q := 25) rfl 0 rfl ?_
    refine go_get td_X12_isSuspect 17 rfl (q := 28) rfl fl_X12_188 (Bc_0 E g) rfl ?_
    refine go_icmp_ge 106 td_X12_isSuspect 18 rfl rfl (q := 31) rfl (fun _ => ?_) (fun _ => ?_)
    · refine go_iconst td_X12_isSuspect 70 rfl (q := 107) rfl kc_1 ?_
      exact go_zret td_X12_isSuspect 71 rfl rfl rfl rfl
    · refine go_aload_n td_X12_isSuspect 19 rfl (q := 32) rfl 0 rfl ?_
      refine go_get td_X12_isSuspect 20 rfl (q := 35) rfl fl_X12_13 (Bc_0 E g) rfl ?_
      refine go_aload_n td_X12_isSuspect 21 rfl (q := 36) rfl 0 rfl ?_
      refine go_get td_X12_isSuspect 22 rfl (q := 39) rfl fl_X12_191 (Bc_0 E g) rfl ?_
      refine go_iconst td_X12_isSuspect 23 rfl (q := 40) rfl kc_4 ?_
      refine go_iload_n td_X12_isSuspect 24 rfl (q := 41) rfl 2 rfl ?_
      refine go_imul td_X12_isSuspect 25 rfl (q := 42) rfl ?_
      refine go_iconst td_X12_isSuspect 26 rfl (q := 43) rfl kc_2 ?_
      refine go_iadd td_X12_isSuspect 27 rfl (q := 44) rfl ?_
      refine go_ald td_X12_isSuspect 28 rfl (q := 45) rfl (Bc_26 E g) (t0 := 0) rfl (fun x3 => ?_)
      refine go_imul td_X12_isSuspect 29 rfl (q := 46) rfl ?_
      refine go_aload_n td_X12_isSuspect 30 rfl (q := 47) rfl 0 rfl ?_
      refine go_get td_X12_isSuspect 31 rfl (q := 50) rfl fl_X12_191 (Bc_0 E g) rfl ?_
      refine go_iconst td_X12_isSuspect 32 rfl (q := 51) rfl kc_4 ?_
      refine go_iload_n td_X12_isSuspect 33 rfl (q := 52) rfl 2 rfl ?_
      refine go_imul td_X12_isSuspect 34 rfl (q := 53) rfl ?_
      refine go_iconst td_X12_isSuspect 35 rfl (q := 54) rfl kc_1 ?_
      refine go_iadd td_X12_isSuspect 36 rfl (q := 55) rfl ?_
      refine go_ald td_X12_isSuspect 37 rfl (q := 56) rfl (Bc_26 E g) (t0 := 0) rfl (fun x4 => ?_)
      refine go_iadd td_X12_isSuspect 38 rfl (q := 57) rfl ?_
      refine go_bvi (fun x5 => ?_)
      refine go_istore_n [(3, .int x5), (0, .ref (E.1 0)), (1, .int a1), (2, .int s2)] td_X12_isSuspect 39 rfl (q := 58) rfl (Nat.le_of_ble_eq_true rfl) rfl ?_
      refine go_aload_n td_X12_isSuspect 40 rfl (q := 59) rfl 1 rfl ?_
      refine go_iload_n td_X12_isSuspect 41 rfl (q := 60) rfl 0 rfl ?_
      refine go_aload_n td_X12_isSuspect 42 rfl (q := 61) rfl 1 rfl ?_
      refine go_get td_X12_isSuspect 43 rfl (q := 64) rfl fl_X12_191 (Bc_0 E g) rfl ?_
      refine go_iconst td_X12_isSuspect 44 rfl (q := 65) rfl kc_4 ?_
      refine go_iload_n td_X12_isSuspect 45 rfl (q := 66) rfl 3 rfl ?_
      refine go_imul td_X12_isSuspect 46 rfl (q := 67) rfl ?_
      refine go_ald td_X12_isSuspect 47 rfl (q := 68) rfl (Bc_26 E g) (t0 := 0) rfl (fun x6 => ?_)
      refine go_aload_n td_X12_isSuspect 48 rfl (q := 69) rfl 1 rfl ?_
      refine go_iload_n td_X12_isSuspect 49 rfl (q := 70) rfl 2 rfl ?_
      refine go_callV td_X12_isSuspect 50 rfl (q := 73) rfl (XkB E) lk_X12_434 (ok_fB_M_without E a1 g) ⟨rfl, rfl, Nat.le_of_ble_eq_true rfl, Nat.le_of_ble_eq_true rfl⟩ rfl rfl (Nat.le_of_ble_eq_true rfl) (Bc_0 E g) rfl (fun x7 => ?_)
      show Go (wCB E) _ _ g 73 _ [.int x7, .int x6, .int x5, .ref (E.1 0)] _
      refine go_callV td_X12_isSuspect 51 rfl (q := 76) rfl (XkB E) lk_X12_327 (ok_fB_M_isBy E x5 x6 x7 g) ⟨rfl, rfl, Nat.le_of_ble_eq_true rfl, Nat.le_of_ble_eq_true rfl⟩ rfl rfl (Nat.le_of_ble_eq_true rfl) (Bc_0 E g) rfl (fun x8 => ?_)
      show Go (wCB E) _ _ g 76 _ [.int x8] _
      refine go_aload_n td_X12_isSuspect 52 rfl (q := 77) rfl 1 rfl ?_
      refine go_get td_X12_isSuspect 53 rfl (q := 80) rfl fl_X12_191 (Bc_0 E g) rfl ?_
      refine go_iconst td_X12_isSuspect 54 rfl (q := 81) rfl kc_4 ?_
      refine go_iload_n td_X12_isSuspect 55 rfl (q := 82) rfl 3 rfl ?_
      refine go_imul td_X12_isSuspect 56 rfl (q := 83) rfl ?_
      refine go_iconst td_X12_isSuspect 57 rfl (q := 84) rfl kc_3 ?_
      refine go_iadd td_X12_isSuspect 58 rfl (q := 85) rfl ?_
      refine go_ald td_X12_isSuspect 59 rfl (q := 86) rfl (Bc_26 E g) (t0 := 0) rfl (fun x9 => ?_)
      refine go_iconst td_X12_isSuspect 60 rfl (q := 87) rfl kc_1 ?_
      refine go_ljX (α := Int32) (fun b10 => [(0, .ref (E.1 0)), (1, .int a1), (2, .int s2)]) (fun b10 => [.int b10, .int x8]) (fun b10 => g) 95 ?_ ?_
      · intro b10
        refine go_icmp_eq 100 td_X12_isSuspect 65 rfl rfl (q := 98) rfl (fun _ => ?_) (fun _ => ?_)
        · refine go_iinc [(2, .int (s2 + 1)), (0, .ref (E.1 0)), (1, .int a1)] td_X12_isSuspect 68 rfl (q := 103) rfl 2 rfl kc_1 (Nat.le_of_ble_eq_true rfl) rfl ?_
          refine go_goto td_X12_isSuspect 69 rfl (q := 23) rfl ?_
          refine go_pick [1, 2, 0] (lv' := [(0, .ref (E.1 0)), (1, .int a1), (2, .int (s2 + 1))]) rfl ?_
          exact krec2 (s2 + 1)
        · refine go_iconst td_X12_isSuspect 66 rfl (q := 99) rfl kc_0 ?_
          exact go_zret td_X12_isSuspect 67 rfl rfl rfl rfl
      intro J10 hJ10
      have kJ10 : ∀ (u10_0 : Int32), Go (wCB E) _ _ g 95 [(0, .ref (E.1 0)), (1, .int a1), (2, .int s2)] [.int u10_0, .int x8] (J10 u10_0) := fun u10_0 => hJ10 u10_0
      refine go_icmp_ne 94 td_X12_isSuspect 61 rfl rfl (q := 90) rfl (fun _ => ?_) (fun _ => ?_)
      · refine go_iconst td_X12_isSuspect 64 rfl (q := 95) rfl kc_0 ?_
        refine go_pick [1, 2, 3] (lv' := [(0, .ref (E.1 0)), (1, .int a1), (2, .int s2)]) rfl ?_
        exact kJ10 0
      · refine go_iconst td_X12_isSuspect 62 rfl (q := 91) rfl kc_1 ?_
        refine go_goto td_X12_isSuspect 63 rfl (q := 95) rfl ?_
        refine go_pick [1, 2, 3] (lv' := [(0, .ref (E.1 0)), (1, .int a1), (2, .int s2)]) rfl ?_
        exact kJ10 1
  intro J1 hJ1
  have kJ1 : Go (wCB E) _ _ g 21 [(0, .ref (E.1 0)), (1, .int a1)] [] (J1 ()) := hJ1 ()
  refine go_icmp_ge 21 td_X12_isSuspect 3 rfl rfl (q := 8) rfl (fun _ => ?_) (fun _ => ?_)
  · refine go_pick [0, 1] (lv' := [(0, .ref (E.1 0)), (1, .int a1)]) rfl ?_
    exact kJ1 
  · refine go_aload_n td_X12_isSuspect 4 rfl (q := 9) rfl 0 rfl ?_
    refine go_get td_X12_isSuspect 5 rfl (q := 12) rfl fl_X12_141 (Bc_0 E g) rfl ?_
    refine go_iconst td_X12_isSuspect 6 rfl (q := 13) rfl kc_4 ?_
    refine go_iload_n td_X12_isSuspect 7 rfl (q := 14) rfl 1 rfl ?_
    refine go_iadd td_X12_isSuspect 8 rfl (q := 15) rfl ?_
    refine go_ald td_X12_isSuspect 9 rfl (q := 16) rfl (Bc_20 E g) (t0 := 0) rfl (fun x11 => ?_)
    refine go_if_ne 21 td_X12_isSuspect 10 rfl rfl (q := 19) rfl (fun _ => ?_) (fun _ => ?_)
    · refine go_pick [0, 1] (lv' := [(0, .ref (E.1 0)), (1, .int a1)]) rfl ?_
      exact kJ1 
    · refine go_iconst td_X12_isSuspect 11 rfl (q := 20) rfl kc_0 ?_
      exact go_zret td_X12_isSuspect 12 rfl rfl rfl rfl
def fB_M_suspect (a1 : Int32) (g : G) : Option (Int32 × G) := (if (g.1 0) = 0 then some ((-1), g) else (if (-1) ≤ a1 then Option.bind (fB_M_laysSets g) fun x1 => Lp (α := Int32 × Int32) (fun rec2 s2 => (if (x1.1 5) < s2.2 then (if a1 = (-1) then some (s2.1, x1) else some ((-1), x1)) else Option.bind (fB_M_isSuspect s2.2 x1) fun x3 => lj (α := Int32) (fun b4 => rec2 (b4, s2.2 + 1)) fun J4 => (if x3 = 0 then J4 s2.1 else (if s2.1 = a1 then some (s2.2, x1) else J4 (s2.1 + 1))))) FU (0, 0) else some ((-1), g)))
set_option maxRecDepth 20000 in
set_option maxHeartbeats 4000000 in
theorem ok_fB_M_suspect (E : Ev) (a1 : Int32) (g : G)  : Ct (wCB E) yX12_suspect mi_X12_suspect [.ref (E.1 0), .int a1] (fun r => (some (.int r.1), r.2)) g (fB_M_suspect a1 g) := by
  refine go_enter rfl rfl (Nat.le_of_ble_eq_true rfl) (lv := [(0, .ref (E.1 0)), (1, .int a1)]) rfl ?_
  unfold fB_M_suspect
  refine go_aload_n td_X12_suspect 0 rfl (q := 1) rfl 0 rfl ?_
  refine go_get td_X12_suspect 1 rfl (q := 4) rfl fl_X12_7 (Bc_0 E g) rfl ?_
  refine go_if_eq 12 td_X12_suspect 2 rfl rfl (q := 7) rfl (fun _ => ?_) (fun _ => ?_)
  · refine go_iconst td_X12_suspect 6 rfl (q := 13) rfl kc_m1 ?_
    exact go_iret td_X12_suspect 7 rfl rfl rfl
  · refine go_iload_n td_X12_suspect 3 rfl (q := 8) rfl 1 rfl ?_
    refine go_iconst td_X12_suspect 4 rfl (q := 9) rfl kc_m1 ?_
    refine go_icmp_ge 14 td_X12_suspect 5 rfl rfl (q := 12) rfl (fun _ => ?_) (fun _ => ?_)
    · refine go_aload_n td_X12_suspect 8 rfl (q := 15) rfl 0 rfl ?_
      refine go_callV td_X12_suspect 9 rfl (q := 18) rfl (XkB E) lk_X12_356 (ok_fB_M_laysSets E g) ⟨rfl, rfl, Nat.le_of_ble_eq_true rfl, Nat.le_of_ble_eq_true rfl⟩ rfl rfl (Nat.le_of_ble_eq_true rfl) (Bc_0 E g) rfl (fun x1 => ?_)
      show Go (wCB E) _ _ x1 18 _ [] _
      refine go_iconst td_X12_suspect 10 rfl (q := 19) rfl kc_0 ?_
      refine go_istore_n [(2, .int 0), (0, .ref (E.1 0)), (1, .int a1)] td_X12_suspect 11 rfl (q := 20) rfl (Nat.le_of_ble_eq_true rfl) rfl ?_
      refine go_iconst td_X12_suspect 12 rfl (q := 21) rfl kc_0 ?_
      refine go_istore_n [(3, .int 0), (2, .int 0), (0, .ref (E.1 0)), (1, .int a1)] td_X12_suspect 13 rfl (q := 22) rfl (Nat.le_of_ble_eq_true rfl) rfl ?_
      refine go_pick [2, 3, 1, 0] (lv' := [(0, .ref (E.1 0)), (1, .int a1), (2, .int 0), (3, .int 0)]) rfl ?_
      refine (show ∀ (u2_0 : Int32) (u2_1 : Int32), Go (wCB E) _ _ x1 22 [(0, .ref (E.1 0)), (1, .int a1), (2, .int u2_0), (3, .int u2_1)] [] (Lp (α := Int32 × Int32) _ FU (u2_0, u2_1)) from ?_) 0 0
      intro u2_0 u2_1
      refine go_Lp (α := Int32 × Int32) (fun s2 => x1) (fun s2 => [(0, .ref (E.1 0)), (1, .int a1), (2, .int s2.1), (3, .int s2.2)]) ?_ FU (u2_0, u2_1)
      intro rec2 hrec2 s2
      have krec2 : ∀ (u2_0 : Int32) (u2_1 : Int32), Go (wCB E) _ _ x1 22 [(0, .ref (E.1 0)), (1, .int a1), (2, .int u2_0), (3, .int u2_1)] [] (rec2 (u2_0, u2_1)) := fun u2_0 u2_1 => hrec2 (u2_0, u2_1)
      refine go_iload_n td_X12_suspect 14 rfl (q := 23) rfl 3 rfl ?_
      refine go_aload_n td_X12_suspect 15 rfl (q := 24) rfl 0 rfl ?_
      refine go_get td_X12_suspect 16 rfl (q := 27) rfl fl_X12_26 (Bc_0 E x1) rfl ?_
      refine go_icmp_gt 57 td_X12_suspect 17 rfl rfl (q := 30) rfl (fun _ => ?_) (fun _ => ?_)
      · refine go_iload_n td_X12_suspect 31 rfl (q := 58) rfl 1 rfl ?_
        refine go_iconst td_X12_suspect 32 rfl (q := 59) rfl kc_m1 ?_
        refine go_icmp_ne 66 td_X12_suspect 33 rfl rfl (q := 62) rfl (fun _ => ?_) (fun _ => ?_)
        · refine go_iconst td_X12_suspect 36 rfl (q := 67) rfl kc_m1 ?_
          exact go_iret td_X12_suspect 37 rfl rfl rfl
        · refine go_iload_n td_X12_suspect 34 rfl (q := 63) rfl 2 rfl ?_
          refine go_goto td_X12_suspect 35 rfl (q := 67) rfl ?_
          exact go_iret td_X12_suspect 37 rfl rfl rfl
      · refine go_aload_n td_X12_suspect 18 rfl (q := 31) rfl 0 rfl ?_
        refine go_iload_n td_X12_suspect 19 rfl (q := 32) rfl 3 rfl ?_
        refine go_callV td_X12_suspect 20 rfl (q := 35) rfl (XkB E) lk_X12_437 (ok_fB_M_isSuspect E s2.2 x1) ⟨rfl, rfl, Nat.le_of_ble_eq_true rfl, Nat.le_of_ble_eq_true rfl⟩ rfl rfl (Nat.le_of_ble_eq_true rfl) (Bc_0 E x1) rfl (fun x3 => ?_)
        show Go (wCB E) _ _ x1 35 _ [.int x3] _
        refine go_ljX (α := Int32) (fun b4 => [(0, .ref (E.1 0)), (1, .int a1), (2, .int b4), (3, .int s2.2)]) (fun b4 => []) (fun b4 => x1) 51 ?_ ?_
        · intro b4
          refine go_iinc [(3, .int (s2.2 + 1)), (0, .ref (E.1 0)), (1, .int a1), (2, .int b4)] td_X12_suspect 29 rfl (q := 54) rfl 3 rfl kc_1 (Nat.le_of_ble_eq_true rfl) rfl ?_
          refine go_goto td_X12_suspect 30 rfl (q := 22) rfl ?_
          refine go_pick [1, 2, 3, 0] (lv' := [(0, .ref (E.1 0)), (1, .int a1), (2, .int b4), (3, .int (s2.2 + 1))]) rfl ?_
          exact krec2 b4 (s2.2 + 1)
        intro J4 hJ4
        have kJ4 : ∀ (u4_0 : Int32), Go (wCB E) _ _ x1 51 [(0, .ref (E.1 0)), (1, .int a1), (2, .int u4_0), (3, .int s2.2)] [] (J4 u4_0) := fun u4_0 => hJ4 u4_0
        refine go_if_ne 41 td_X12_suspect 21 rfl rfl (q := 38) rfl (fun _ => ?_) (fun _ => ?_)
        · refine go_iload_n td_X12_suspect 23 rfl (q := 42) rfl 2 rfl ?_
          refine go_iload_n td_X12_suspect 24 rfl (q := 43) rfl 1 rfl ?_
          refine go_icmp_ne 48 td_X12_suspect 25 rfl rfl (q := 46) rfl (fun _ => ?_) (fun _ => ?_)
          · refine go_iinc [(2, .int (s2.1 + 1)), (0, .ref (E.1 0)), (1, .int a1), (3, .int s2.2)] td_X12_suspect 28 rfl (q := 51) rfl 2 rfl kc_1 (Nat.le_of_ble_eq_true rfl) rfl ?_
            refine go_pick [1, 2, 0, 3] (lv' := [(0, .ref (E.1 0)), (1, .int a1), (2, .int (s2.1 + 1)), (3, .int s2.2)]) rfl ?_
            exact kJ4 (s2.1 + 1)
          · refine go_iload_n td_X12_suspect 26 rfl (q := 47) rfl 3 rfl ?_
            exact go_iret td_X12_suspect 27 rfl rfl rfl
        · refine go_goto td_X12_suspect 22 rfl (q := 51) rfl ?_
          refine go_pick [0, 1, 2, 3] (lv' := [(0, .ref (E.1 0)), (1, .int a1), (2, .int s2.1), (3, .int s2.2)]) rfl ?_
          exact kJ4 s2.1
    · refine go_iconst td_X12_suspect 6 rfl (q := 13) rfl kc_m1 ?_
      exact go_iret td_X12_suspect 7 rfl rfl rfl
def fB_M_tells (a1 : Int32) (g : G) : Option (Int32 × G) := (if (g.1 0) = 0 then some ((-1), g) else Option.bind (fB_M_isIn a1 0 1 g) fun x1 => (if x1 = 0 then some ((-1), g) else Option.bind (fB_M_laysSets g) fun x2 => Lp (α := Int32 × Int32 × G) (fun rec3 s3 => (if (s3.2.2.1 5) < s3.2.1 then (if s3.1 = 0 then some ((-1), s3.2.2) else Lp (α := Int32 × Int32 × Int32 × G) (fun rec4 s4 => (if (s4.2.2.2.1 7) ≤ s4.2.2.1 then (if a1 = 0 then some (s4.1, s4.2.2.2) else some (s4.2.1, s4.2.2.2)) else Lp (α := Int32 × G) (fun rec5 s5 => (if s3.1 ≤ s5.1 then Lp (α := Int32 × Int32) (fun rec6 s6 => (if s3.1 ≤ s6.2 then lj (α := Int32 × Int32) (fun b7 => rec4 (b7.1, b7.2, s4.2.2.1 + 1, s5.2)) fun J7 => (if s6.1 < s4.2.1 then J7 (s4.2.2.1, s6.1) else J7 (s4.1, s4.2.1)) else Lp (α := Int32 × Int32) (fun rec8 s8 => (if s3.1 ≤ s8.2 then Option.bind (fB_M_greater s6.1 s8.1 s5.2) fun x9 => rec6 (x9, s6.2 + 1) else ag 9 (s5.2.2.1 28) s8.2 fun x10 => ag 9 (s5.2.2.1 28) s6.2 fun x11 => lj (α := Int32) (fun b12 => bv (s8.1 + b12) fun x13 => rec8 (x13, s8.2 + 1)) fun J12 => (if x10 = x11 then J12 1 else J12 0))) FU (0, 0))) FU (0, 0) else ag 9 (s5.2.2.1 27) s5.1 fun x14 => Option.bind (fB_M_without x14 s5.2) fun x15 => Option.bind (fB_M_coveredBy s4.2.2.1 x15 s5.2) fun x16 => ck 9 s5.1 (bv (sA s5.2 28 (s5.1 : Int32).toNatClampNeg x16) fun g17 => rec5 (s5.1 + 1, g17)))) FU (0, s4.2.2.2))) FU ((-1), 1000000, 0, s3.2.2)) else Option.bind (fB_M_isSuspect s3.2.1 s3.2.2) fun x18 => lj (α := Int32 × G) (fun b19 => rec3 (b19.1, s3.2.1 + 1, b19.2)) fun J19 => (if x18 = 0 then J19 (s3.1, s3.2.2) else ck 9 s3.1 (bv (sA s3.2.2 27 (s3.1 : Int32).toNatClampNeg s3.2.1) fun g20 => J19 (s3.1 + 1, g20))))) FU (0, 0, x2)))
set_option maxRecDepth 20000 in
set_option maxHeartbeats 4000000 in
theorem ok_fB_M_tells (E : Ev) (a1 : Int32) (g : G)  : Ct (wCB E) yX12_tells mi_X12_tells [.ref (E.1 0), .int a1] (fun r => (some (.int r.1), r.2)) g (fB_M_tells a1 g) := by
  refine go_enter rfl rfl (Nat.le_of_ble_eq_true rfl) (lv := [(0, .ref (E.1 0)), (1, .int a1)]) rfl ?_
  unfold fB_M_tells
  refine go_aload_n td_X12_tells 0 rfl (q := 1) rfl 0 rfl ?_
  refine go_get td_X12_tells 1 rfl (q := 4) rfl fl_X12_7 (Bc_0 E g) rfl ?_
  refine go_if_eq 16 td_X12_tells 2 rfl rfl (q := 7) rfl (fun _ => ?_) (fun _ => ?_)
  · refine go_iconst td_X12_tells 8 rfl (q := 17) rfl kc_m1 ?_
    exact go_iret td_X12_tells 9 rfl rfl rfl
  · refine go_iload_n td_X12_tells 3 rfl (q := 8) rfl 1 rfl ?_
    refine go_iconst td_X12_tells 4 rfl (q := 9) rfl kc_0 ?_
    refine go_iconst td_X12_tells 5 rfl (q := 10) rfl kc_1 ?_
    refine go_callS td_X12_tells 6 rfl (q := 13) rfl (XkB E) lk_X12_248 (ok_fB_M_isIn E a1 0 1 g) ⟨rfl, rfl, Nat.le_of_ble_eq_true rfl, Nat.le_of_ble_eq_true rfl⟩ rfl rfl (Nat.le_of_ble_eq_true rfl) (fun x1 => ?_)
    show Go (wCB E) _ _ g 13 _ [.int x1] _
    refine go_if_ne 18 td_X12_tells 7 rfl rfl (q := 16) rfl (fun _ => ?_) (fun _ => ?_)
    · refine go_aload_n td_X12_tells 10 rfl (q := 19) rfl 0 rfl ?_
      refine go_callV td_X12_tells 11 rfl (q := 22) rfl (XkB E) lk_X12_356 (ok_fB_M_laysSets E g) ⟨rfl, rfl, Nat.le_of_ble_eq_true rfl, Nat.le_of_ble_eq_true rfl⟩ rfl rfl (Nat.le_of_ble_eq_true rfl) (Bc_0 E g) rfl (fun x2 => ?_)
      show Go (wCB E) _ _ x2 22 _ [] _
      refine go_iconst td_X12_tells 12 rfl (q := 23) rfl kc_0 ?_
      refine go_istore_n [(2, .int 0), (0, .ref (E.1 0)), (1, .int a1)] td_X12_tells 13 rfl (q := 24) rfl (Nat.le_of_ble_eq_true rfl) rfl ?_
      refine go_iconst td_X12_tells 14 rfl (q := 25) rfl kc_0 ?_
      refine go_istore_n [(3, .int 0), (2, .int 0), (0, .ref (E.1 0)), (1, .int a1)] td_X12_tells 15 rfl (q := 26) rfl (Nat.le_of_ble_eq_true rfl) rfl ?_
      refine go_pick [2, 3, 1, 0] (lv' := [(0, .ref (E.1 0)), (1, .int a1), (2, .int 0), (3, .int 0)]) rfl ?_
      refine (show ∀ (u3_0 : Int32) (u3_1 : Int32) (u3_2 : G), Go (wCB E) _ _ u3_2 26 [(0, .ref (E.1 0)), (1, .int a1), (2, .int u3_0), (3, .int u3_1)] [] (Lp (α := Int32 × Int32 × G) _ FU (u3_0, u3_1, u3_2)) from ?_) 0 0 x2
      intro u3_0 u3_1 u3_2
      refine go_Lp (α := Int32 × Int32 × G) (fun s3 => s3.2.2) (fun s3 => [(0, .ref (E.1 0)), (1, .int a1), (2, .int s3.1), (3, .int s3.2.1)]) ?_ FU (u3_0, u3_1, u3_2)
      intro rec3 hrec3 s3
      have krec3 : ∀ (u3_0 : Int32) (u3_1 : Int32) (u3_2 : G), Go (wCB E) _ _ u3_2 26 [(0, .ref (E.1 0)), (1, .int a1), (2, .int u3_0), (3, .int u3_1)] [] (rec3 (u3_0, u3_1, u3_2)) := fun u3_0 u3_1 u3_2 => hrec3 (u3_0, u3_1, u3_2)
      refine go_iload_n td_X12_tells 16 rfl (q := 27) rfl 3 rfl ?_
      refine go_aload_n td_X12_tells 17 rfl (q := 28) rfl 0 rfl ?_
      refine go_get td_X12_tells 18 rfl (q := 31) rfl fl_X12_26 (Bc_0 E s3.2.2) rfl ?_
      refine go_icmp_gt 61 td_X12_tells 19 rfl rfl (q := 34) rfl (fun _ => ?_) (fun _ => ?_)
      · refine go_iload_n td_X12_tells 33 rfl (q := 62) rfl 2 rfl ?_
        refine go_if_ne 67 td_X12_tells 34 rfl rfl (q := 65) rfl (fun _ => ?_) (fun _ => ?_)
        · refine go_iconst td_X12_tells 37 rfl (q := 68) rfl kc_m1 ?_
          refine go_istore_n [(3, .int (-1)), (0, .ref (E.1 0)), (1, .int a1), (2, .int s3.1)] td_X12_tells 38 rfl (q := 69) rfl (Nat.le_of_ble_eq_true rfl) rfl ?_
          refine go_ldcw td_X12_tells 39 rfl (q := 72) rfl cn_X12_373 ?_
          refine go_istore [(4, .int 1000000), (3, .int (-1)), (0, .ref (E.1 0)), (1, .int a1), (2, .int s3.1)] td_X12_tells 40 rfl (q := 74) rfl (Nat.le_of_ble_eq_true rfl) rfl ?_
          refine go_iconst td_X12_tells 41 rfl (q := 75) rfl kc_0 ?_
          refine go_istore [(5, .int 0), (4, .int 1000000), (3, .int (-1)), (0, .ref (E.1 0)), (1, .int a1), (2, .int s3.1)] td_X12_tells 42 rfl (q := 77) rfl (Nat.le_of_ble_eq_true rfl) rfl ?_
          refine go_pick [3, 4, 5, 2, 1, 0] (lv' := [(0, .ref (E.1 0)), (1, .int a1), (2, .int s3.1), (3, .int (-1)), (4, .int 1000000), (5, .int 0)]) rfl ?_
          refine (show ∀ (u4_0 : Int32) (u4_1 : Int32) (u4_2 : Int32) (u4_3 : G), Go (wCB E) _ _ u4_3 77 [(0, .ref (E.1 0)), (1, .int a1), (2, .int s3.1), (3, .int u4_0), (4, .int u4_1), (5, .int u4_2)] [] (Lp (α := Int32 × Int32 × Int32 × G) _ FU (u4_0, u4_1, u4_2, u4_3)) from ?_) (-1) 1000000 0 s3.2.2
          intro u4_0 u4_1 u4_2 u4_3
          refine go_Lp (α := Int32 × Int32 × Int32 × G) (fun s4 => s4.2.2.2) (fun s4 => [(0, .ref (E.1 0)), (1, .int a1), (2, .int s3.1), (3, .int s4.1), (4, .int s4.2.1), (5, .int s4.2.2.1)]) ?_ FU (u4_0, u4_1, u4_2, u4_3)
          intro rec4 hrec4 s4
          have krec4 : ∀ (u4_0 : Int32) (u4_1 : Int32) (u4_2 : Int32) (u4_3 : G), Go (wCB E) _ _ u4_3 77 [(0, .ref (E.1 0)), (1, .int a1), (2, .int s3.1), (3, .int u4_0), (4, .int u4_1), (5, .int u4_2)] [] (rec4 (u4_0, u4_1, u4_2, u4_3)) := fun u4_0 u4_1 u4_2 u4_3 => hrec4 (u4_0, u4_1, u4_2, u4_3)
          refine go_iload td_X12_tells 43 rfl (q := 79) rfl 5 rfl ?_
          refine go_aload_n td_X12_tells 44 rfl (q := 80) rfl 0 rfl ?_
          refine go_get td_X12_tells 45 rfl (q := 83) rfl fl_X12_32 (Bc_0 E s4.2.2.2) rfl ?_
          refine go_icmp_ge 220 td_X12_tells 46 rfl rfl (q := 86) rfl (fun _ => ?_) (fun _ => ?_)
          · refine go_iload_n td_X12_tells 114 rfl (q := 221) rfl 1 rfl ?_
            refine go_if_ne 228 td_X12_tells 115 rfl rfl (q := 224) rfl (fun _ => ?_) (fun _ => ?_)
            · refine go_iload td_X12_tells 118 rfl (q := 230) rfl 4 rfl ?_
              exact go_iret td_X12_tells 119 rfl rfl rfl
            · refine go_iload_n td_X12_tells 116 rfl (q := 225) rfl 3 rfl ?_
              refine go_goto td_X12_tells 117 rfl (q := 230) rfl ?_
              exact go_iret td_X12_tells 119 rfl rfl rfl
          · refine go_iconst td_X12_tells 47 rfl (q := 87) rfl kc_0 ?_
            refine go_istore [(6, .int 0), (0, .ref (E.1 0)), (1, .int a1), (2, .int s3.1), (3, .int s4.1), (4, .int s4.2.1), (5, .int s4.2.2.1)] td_X12_tells 48 rfl (q := 89) rfl (Nat.le_of_ble_eq_true rfl) rfl ?_
            refine go_iconst td_X12_tells 49 rfl (q := 90) rfl kc_0 ?_
            refine go_istore [(7, .int 0), (6, .int 0), (0, .ref (E.1 0)), (1, .int a1), (2, .int s3.1), (3, .int s4.1), (4, .int s4.2.1), (5, .int s4.2.2.1)] td_X12_tells 50 rfl (q := 92) rfl (Nat.le_of_ble_eq_true rfl) rfl ?_
            refine go_pick [2, 3, 4, 5, 6, 7, 1, 0] (lv' := [(0, .ref (E.1 0)), (1, .int a1), (2, .int s3.1), (3, .int s4.1), (4, .int s4.2.1), (5, .int s4.2.2.1), (6, .int 0), (7, .int 0)]) rfl ?_
            refine (show ∀ (u5_0 : Int32) (u5_1 : G), Go (wCB E) _ _ u5_1 92 [(0, .ref (E.1 0)), (1, .int a1), (2, .int s3.1), (3, .int s4.1), (4, .int s4.2.1), (5, .int s4.2.2.1), (6, .int 0), (7, .int u5_0)] [] (Lp (α := Int32 × G) _ FU (u5_0, u5_1)) from ?_) 0 s4.2.2.2
            intro u5_0 u5_1
            refine go_Lp (α := Int32 × G) (fun s5 => s5.2) (fun s5 => [(0, .ref (E.1 0)), (1, .int a1), (2, .int s3.1), (3, .int s4.1), (4, .int s4.2.1), (5, .int s4.2.2.1), (6, .int 0), (7, .int s5.1)]) ?_ FU (u5_0, u5_1)
            intro rec5 hrec5 s5
            have krec5 : ∀ (u5_0 : Int32) (u5_1 : G), Go (wCB E) _ _ u5_1 92 [(0, .ref (E.1 0)), (1, .int a1), (2, .int s3.1), (3, .int s4.1), (4, .int s4.2.1), (5, .int s4.2.2.1), (6, .int 0), (7, .int u5_0)] [] (rec5 (u5_0, u5_1)) := fun u5_0 u5_1 => hrec5 (u5_0, u5_1)
            refine go_iload td_X12_tells 51 rfl (q := 94) rfl 7 rfl ?_
            refine go_iload_n td_X12_tells 52 rfl (q := 95) rfl 2 rfl ?_
            refine go_icmp_ge 128 td_X12_tells 53 rfl rfl (q := 98) rfl (fun _ => ?_) (fun _ => ?_)
            · refine go_iconst td_X12_tells 69 rfl (q := 129) rfl kc_0 ?_
              refine go_istore [(7, .int 0), (0, .ref (E.1 0)), (1, .int a1), (2, .int s3.1), (3, .int s4.1), (4, .int s4.2.1), (5, .int s4.2.2.1), (6, .int 0)] td_X12_tells 70 rfl (q := 131) rfl (Nat.le_of_ble_eq_true rfl) rfl ?_
              refine go_pick [1, 2, 3, 4, 5, 6, 7, 0] (lv' := [(0, .ref (E.1 0)), (1, .int a1), (2, .int s3.1), (3, .int s4.1), (4, .int s4.2.1), (5, .int s4.2.2.1), (6, .int 0), (7, .int 0)]) rfl ?_
              refine (show ∀ (u6_0 : Int32) (u6_1 : Int32), Go (wCB E) _ _ s5.2 131 [(0, .ref (E.1 0)), (1, .int a1), (2, .int s3.1), (3, .int s4.1), (4, .int s4.2.1), (5, .int s4.2.2.1), (6, .int u6_0), (7, .int u6_1)] [] (Lp (α := Int32 × Int32) _ FU (u6_0, u6_1)) from ?_) 0 0
              intro u6_0 u6_1
              refine go_Lp (α := Int32 × Int32) (fun s6 => s5.2) (fun s6 => [(0, .ref (E.1 0)), (1, .int a1), (2, .int s3.1), (3, .int s4.1), (4, .int s4.2.1), (5, .int s4.2.2.1), (6, .int s6.1), (7, .int s6.2)]) ?_ FU (u6_0, u6_1)
              intro rec6 hrec6 s6
              have krec6 : ∀ (u6_0 : Int32) (u6_1 : Int32), Go (wCB E) _ _ s5.2 131 [(0, .ref (E.1 0)), (1, .int a1), (2, .int s3.1), (3, .int s4.1), (4, .int s4.2.1), (5, .int s4.2.2.1), (6, .int u6_0), (7, .int u6_1)] [] (rec6 (u6_0, u6_1)) := fun u6_0 u6_1 => hrec6 (u6_0, u6_1)
              refine go_iload td_X12_tells 71 rfl (q := 133) rfl 7 rfl ?_
              refine go_iload_n td_X12_tells 72 rfl (q := 134) rfl 2 rfl ?_
              refine go_icmp_ge 197 td_X12_tells 73 rfl rfl (q := 137) rfl (fun _ => ?_) (fun _ => ?_)
              · refine go_iload td_X12_tells 104 rfl (q := 199) rfl 6 rfl ?_
                refine go_iload td_X12_tells 105 rfl (q := 201) rfl 4 rfl ?_
                refine go_ljX (α := Int32 × Int32) (fun b7 => [(0, .ref (E.1 0)), (1, .int a1), (2, .int s3.1), (3, .int b7.1), (4, .int b7.2), (5, .int s4.2.2.1)]) (fun b7 => []) (fun b7 => s5.2) 214 ?_ ?_
                · intro b7
                  refine go_iinc [(5, .int (s4.2.2.1 + 1)), (0, .ref (E.1 0)), (1, .int a1), (2, .int s3.1), (3, .int b7.1), (4, .int b7.2)] td_X12_tells 112 rfl (q := 217) rfl 5 rfl kc_1 (Nat.le_of_ble_eq_true rfl) rfl ?_
                  refine go_goto td_X12_tells 113 rfl (q := 77) rfl ?_
                  refine go_pick [1, 2, 3, 4, 5, 0] (lv' := [(0, .ref (E.1 0)), (1, .int a1), (2, .int s3.1), (3, .int b7.1), (4, .int b7.2), (5, .int (s4.2.2.1 + 1))]) rfl ?_
                  exact krec4 b7.1 b7.2 (s4.2.2.1 + 1) s5.2
                intro J7 hJ7
                have kJ7 : ∀ (u7_0 : Int32) (u7_1 : Int32), Go (wCB E) _ _ s5.2 214 [(0, .ref (E.1 0)), (1, .int a1), (2, .int s3.1), (3, .int u7_0), (4, .int u7_1), (5, .int s4.2.2.1)] [] (J7 (u7_0, u7_1)) := fun u7_0 u7_1 => hJ7 (u7_0, u7_1)
                refine go_icmp_lt 207 td_X12_tells 106 rfl rfl (q := 204) rfl (fun _ => ?_) (fun _ => ?_)
                · refine go_iload td_X12_tells 108 rfl (q := 209) rfl 5 rfl ?_
                  refine go_istore_n [(3, .int s4.2.2.1), (0, .ref (E.1 0)), (1, .int a1), (2, .int s3.1), (4, .int s4.2.1), (5, .int s4.2.2.1), (6, .int s6.1), (7, .int s6.2)] td_X12_tells 109 rfl (q := 210) rfl (Nat.le_of_ble_eq_true rfl) rfl ?_
                  refine go_iload td_X12_tells 110 rfl (q := 212) rfl 6 rfl ?_
                  refine go_istore [(4, .int s6.1), (3, .int s4.2.2.1), (0, .ref (E.1 0)), (1, .int a1), (2, .int s3.1), (5, .int s4.2.2.1), (6, .int s6.1), (7, .int s6.2)] td_X12_tells 111 rfl (q := 214) rfl (Nat.le_of_ble_eq_true rfl) rfl ?_
                  refine go_pick [2, 3, 4, 1, 0, 5] (lv' := [(0, .ref (E.1 0)), (1, .int a1), (2, .int s3.1), (3, .int s4.2.2.1), (4, .int s6.1), (5, .int s4.2.2.1)]) rfl ?_
                  exact kJ7 s4.2.2.1 s6.1
                · refine go_goto td_X12_tells 107 rfl (q := 214) rfl ?_
                  refine go_pick [0, 1, 2, 3, 4, 5] (lv' := [(0, .ref (E.1 0)), (1, .int a1), (2, .int s3.1), (3, .int s4.1), (4, .int s4.2.1), (5, .int s4.2.2.1)]) rfl ?_
                  exact kJ7 s4.1 s4.2.1
              · refine go_iconst td_X12_tells 74 rfl (q := 138) rfl kc_0 ?_
                refine go_istore [(8, .int 0), (0, .ref (E.1 0)), (1, .int a1), (2, .int s3.1), (3, .int s4.1), (4, .int s4.2.1), (5, .int s4.2.2.1), (6, .int s6.1), (7, .int s6.2)] td_X12_tells 75 rfl (q := 140) rfl (Nat.le_of_ble_eq_true rfl) rfl ?_
                refine go_iconst td_X12_tells 76 rfl (q := 141) rfl kc_0 ?_
                refine go_istore [(9, .int 0), (8, .int 0), (0, .ref (E.1 0)), (1, .int a1), (2, .int s3.1), (3, .int s4.1), (4, .int s4.2.1), (5, .int s4.2.2.1), (6, .int s6.1), (7, .int s6.2)] td_X12_tells 77 rfl (q := 143) rfl (Nat.le_of_ble_eq_true rfl) rfl ?_
                refine go_pick [2, 3, 4, 5, 6, 7, 8, 9, 1, 0] (lv' := [(0, .ref (E.1 0)), (1, .int a1), (2, .int s3.1), (3, .int s4.1), (4, .int s4.2.1), (5, .int s4.2.2.1), (6, .int s6.1), (7, .int s6.2), (8, .int 0), (9, .int 0)]) rfl ?_
                refine (show ∀ (u8_0 : Int32) (u8_1 : Int32), Go (wCB E) _ _ s5.2 143 [(0, .ref (E.1 0)), (1, .int a1), (2, .int s3.1), (3, .int s4.1), (4, .int s4.2.1), (5, .int s4.2.2.1), (6, .int s6.1), (7, .int s6.2), (8, .int u8_0), (9, .int u8_1)] [] (Lp (α := Int32 × Int32) _ FU (u8_0, u8_1)) from ?_) 0 0
                intro u8_0 u8_1
                refine go_Lp (α := Int32 × Int32) (fun s8 => s5.2) (fun s8 => [(0, .ref (E.1 0)), (1, .int a1), (2, .int s3.1), (3, .int s4.1), (4, .int s4.2.1), (5, .int s4.2.2.1), (6, .int s6.1), (7, .int s6.2), (8, .int s8.1), (9, .int s8.2)]) ?_ FU (u8_0, u8_1)
                intro rec8 hrec8 s8
                have krec8 : ∀ (u8_0 : Int32) (u8_1 : Int32), Go (wCB E) _ _ s5.2 143 [(0, .ref (E.1 0)), (1, .int a1), (2, .int s3.1), (3, .int s4.1), (4, .int s4.2.1), (5, .int s4.2.2.1), (6, .int s6.1), (7, .int s6.2), (8, .int u8_0), (9, .int u8_1)] [] (rec8 (u8_0, u8_1)) := fun u8_0 u8_1 => hrec8 (u8_0, u8_1)
                refine go_iload td_X12_tells 78 rfl (q := 145) rfl 9 rfl ?_
                refine go_iload_n td_X12_tells 79 rfl (q := 146) rfl 2 rfl ?_
                refine go_icmp_ge 182 td_X12_tells 80 rfl rfl (q := 149) rfl (fun _ => ?_) (fun _ => ?_)
                · refine go_iload td_X12_tells 98 rfl (q := 184) rfl 6 rfl ?_
                  refine go_iload td_X12_tells 99 rfl (q := 186) rfl 8 rfl ?_
                  refine go_callS td_X12_tells 100 rfl (q := 189) rfl (XkB E) lk_X12_334 (ok_fB_M_greater E s6.1 s8.1 s5.2) ⟨rfl, rfl, Nat.le_of_ble_eq_true rfl, Nat.le_of_ble_eq_true rfl⟩ rfl rfl (Nat.le_of_ble_eq_true rfl) (fun x9 => ?_)
                  show Go (wCB E) _ _ s5.2 189 _ [.int x9] _
                  refine go_istore [(6, .int x9), (0, .ref (E.1 0)), (1, .int a1), (2, .int s3.1), (3, .int s4.1), (4, .int s4.2.1), (5, .int s4.2.2.1), (7, .int s6.2), (8, .int s8.1), (9, .int s8.2)] td_X12_tells 101 rfl (q := 191) rfl (Nat.le_of_ble_eq_true rfl) rfl ?_
                  refine go_iinc [(7, .int (s6.2 + 1)), (6, .int x9), (0, .ref (E.1 0)), (1, .int a1), (2, .int s3.1), (3, .int s4.1), (4, .int s4.2.1), (5, .int s4.2.2.1), (8, .int s8.1), (9, .int s8.2)] td_X12_tells 102 rfl (q := 194) rfl 7 rfl kc_1 (Nat.le_of_ble_eq_true rfl) rfl ?_
                  refine go_goto td_X12_tells 103 rfl (q := 131) rfl ?_
                  refine go_pick [2, 3, 4, 5, 6, 7, 1, 0] (lv' := [(0, .ref (E.1 0)), (1, .int a1), (2, .int s3.1), (3, .int s4.1), (4, .int s4.2.1), (5, .int s4.2.2.1), (6, .int x9), (7, .int (s6.2 + 1))]) rfl ?_
                  exact krec6 x9 (s6.2 + 1)
                · refine go_iload td_X12_tells 81 rfl (q := 151) rfl 8 rfl ?_
                  refine go_aload_n td_X12_tells 82 rfl (q := 152) rfl 0 rfl ?_
                  refine go_get td_X12_tells 83 rfl (q := 155) rfl fl_X12_197 (Bc_0 E s5.2) rfl ?_
                  refine go_iload td_X12_tells 84 rfl (q := 157) rfl 9 rfl ?_
                  refine go_ald td_X12_tells 85 rfl (q := 158) rfl (Bc_28 E s5.2) (t0 := 0) rfl (fun x10 => ?_)
                  refine go_aload_n td_X12_tells 86 rfl (q := 159) rfl 0 rfl ?_
                  refine go_get td_X12_tells 87 rfl (q := 162) rfl fl_X12_197 (Bc_0 E s5.2) rfl ?_
                  refine go_iload td_X12_tells 88 rfl (q := 164) rfl 7 rfl ?_
                  refine go_ald td_X12_tells 89 rfl (q := 165) rfl (Bc_28 E s5.2) (t0 := 0) rfl (fun x11 => ?_)
                  refine go_ljX (α := Int32) (fun b12 => [(0, .ref (E.1 0)), (1, .int a1), (2, .int s3.1), (3, .int s4.1), (4, .int s4.2.1), (5, .int s4.2.2.1), (6, .int s6.1), (7, .int s6.2), (9, .int s8.2)]) (fun b12 => [.int b12, .int s8.1]) (fun b12 => s5.2) 173 ?_ ?_
                  · intro b12
                    refine go_iadd td_X12_tells 94 rfl (q := 174) rfl ?_
                    refine go_bvi (fun x13 => ?_)
                    refine go_istore [(8, .int x13), (0, .ref (E.1 0)), (1, .int a1), (2, .int s3.1), (3, .int s4.1), (4, .int s4.2.1), (5, .int s4.2.2.1), (6, .int s6.1), (7, .int s6.2), (9, .int s8.2)] td_X12_tells 95 rfl (q := 176) rfl (Nat.le_of_ble_eq_true rfl) rfl ?_
                    refine go_iinc [(9, .int (s8.2 + 1)), (8, .int x13), (0, .ref (E.1 0)), (1, .int a1), (2, .int s3.1), (3, .int s4.1), (4, .int s4.2.1), (5, .int s4.2.2.1), (6, .int s6.1), (7, .int s6.2)] td_X12_tells 96 rfl (q := 179) rfl 9 rfl kc_1 (Nat.le_of_ble_eq_true rfl) rfl ?_
                    refine go_goto td_X12_tells 97 rfl (q := 143) rfl ?_
                    refine go_pick [2, 3, 4, 5, 6, 7, 8, 9, 1, 0] (lv' := [(0, .ref (E.1 0)), (1, .int a1), (2, .int s3.1), (3, .int s4.1), (4, .int s4.2.1), (5, .int s4.2.2.1), (6, .int s6.1), (7, .int s6.2), (8, .int x13), (9, .int (s8.2 + 1))]) rfl ?_
                    exact krec8 x13 (s8.2 + 1)
                  intro J12 hJ12
                  have kJ12 : ∀ (u12_0 : Int32), Go (wCB E) _ _ s5.2 173 [(0, .ref (E.1 0)), (1, .int a1), (2, .int s3.1), (3, .int s4.1), (4, .int s4.2.1), (5, .int s4.2.2.1), (6, .int s6.1), (7, .int s6.2), (9, .int s8.2)] [.int u12_0, .int s8.1] (J12 u12_0) := fun u12_0 => hJ12 u12_0
                  refine go_icmp_ne 172 td_X12_tells 90 rfl rfl (q := 168) rfl (fun _ => ?_) (fun _ => ?_)
                  · refine go_iconst td_X12_tells 93 rfl (q := 173) rfl kc_0 ?_
                    refine go_pick [0, 1, 2, 3, 4, 5, 6, 7, 9] (lv' := [(0, .ref (E.1 0)), (1, .int a1), (2, .int s3.1), (3, .int s4.1), (4, .int s4.2.1), (5, .int s4.2.2.1), (6, .int s6.1), (7, .int s6.2), (9, .int s8.2)]) rfl ?_
                    exact kJ12 0
                  · refine go_iconst td_X12_tells 91 rfl (q := 169) rfl kc_1 ?_
                    refine go_goto td_X12_tells 92 rfl (q := 173) rfl ?_
                    refine go_pick [0, 1, 2, 3, 4, 5, 6, 7, 9] (lv' := [(0, .ref (E.1 0)), (1, .int a1), (2, .int s3.1), (3, .int s4.1), (4, .int s4.2.1), (5, .int s4.2.2.1), (6, .int s6.1), (7, .int s6.2), (9, .int s8.2)]) rfl ?_
                    exact kJ12 1
            · refine go_aload_n td_X12_tells 54 rfl (q := 99) rfl 0 rfl ?_
              refine go_get td_X12_tells 55 rfl (q := 102) rfl fl_X12_197 (Bc_0 E s5.2) rfl ?_
              refine go_iload td_X12_tells 56 rfl (q := 104) rfl 7 rfl ?_
              refine go_aload_n td_X12_tells 57 rfl (q := 105) rfl 0 rfl ?_
              refine go_iload td_X12_tells 58 rfl (q := 107) rfl 5 rfl ?_
              refine go_aload_n td_X12_tells 59 rfl (q := 108) rfl 0 rfl ?_
              refine go_aload_n td_X12_tells 60 rfl (q := 109) rfl 0 rfl ?_
              refine go_get td_X12_tells 61 rfl (q := 112) rfl fl_X12_194 (Bc_0 E s5.2) rfl ?_
              refine go_iload td_X12_tells 62 rfl (q := 114) rfl 7 rfl ?_
              refine go_ald td_X12_tells 63 rfl (q := 115) rfl (Bc_27 E s5.2) (t0 := 0) rfl (fun x14 => ?_)
              refine go_callV td_X12_tells 64 rfl (q := 118) rfl (XkB E) lk_X12_434 (ok_fB_M_without E x14 s5.2) ⟨rfl, rfl, Nat.le_of_ble_eq_true rfl, Nat.le_of_ble_eq_true rfl⟩ rfl rfl (Nat.le_of_ble_eq_true rfl) (Bc_0 E s5.2) rfl (fun x15 => ?_)
              show Go (wCB E) _ _ s5.2 118 _ [.int x15, .int s4.2.2.1, .ref (E.1 0), .int s5.1, .ref (E.1 28)] _
              refine go_callV td_X12_tells 65 rfl (q := 121) rfl (XkB E) lk_X12_391 (ok_fB_M_coveredBy E s4.2.2.1 x15 s5.2) ⟨rfl, rfl, Nat.le_of_ble_eq_true rfl, Nat.le_of_ble_eq_true rfl⟩ rfl rfl (Nat.le_of_ble_eq_true rfl) (Bc_0 E s5.2) rfl (fun x16 => ?_)
              show Go (wCB E) _ _ s5.2 121 _ [.int x16, .int s5.1, .ref (E.1 28)] _
              refine go_ast td_X12_tells 66 rfl (q := 122) rfl (Bc_28 E s5.2) (t0 := 0) rfl (Bas_28 E s5.2 _) ?_
              refine go_bvg (fun g17 => ?_)
              refine go_iinc [(7, .int (s5.1 + 1)), (0, .ref (E.1 0)), (1, .int a1), (2, .int s3.1), (3, .int s4.1), (4, .int s4.2.1), (5, .int s4.2.2.1), (6, .int 0)] td_X12_tells 67 rfl (q := 125) rfl 7 rfl kc_1 (Nat.le_of_ble_eq_true rfl) rfl ?_
              refine go_goto td_X12_tells 68 rfl (q := 92) rfl ?_
              refine go_pick [1, 2, 3, 4, 5, 6, 7, 0] (lv' := [(0, .ref (E.1 0)), (1, .int a1), (2, .int s3.1), (3, .int s4.1), (4, .int s4.2.1), (5, .int s4.2.2.1), (6, .int 0), (7, .int (s5.1 + 1))]) rfl ?_
              exact krec5 (s5.1 + 1) g17
        · refine go_iconst td_X12_tells 35 rfl (q := 66) rfl kc_m1 ?_
          exact go_iret td_X12_tells 36 rfl rfl rfl
      · refine go_aload_n td_X12_tells 20 rfl (q := 35) rfl 0 rfl ?_
        refine go_iload_n td_X12_tells 21 rfl (q := 36) rfl 3 rfl ?_
        refine go_callV td_X12_tells 22 rfl (q := 39) rfl (XkB E) lk_X12_437 (ok_fB_M_isSuspect E s3.2.1 s3.2.2) ⟨rfl, rfl, Nat.le_of_ble_eq_true rfl, Nat.le_of_ble_eq_true rfl⟩ rfl rfl (Nat.le_of_ble_eq_true rfl) (Bc_0 E s3.2.2) rfl (fun x18 => ?_)
        show Go (wCB E) _ _ s3.2.2 39 _ [.int x18] _
        refine go_ljX (α := Int32 × G) (fun b19 => [(0, .ref (E.1 0)), (1, .int a1), (2, .int b19.1), (3, .int s3.2.1)]) (fun b19 => []) (fun b19 => b19.2) 55 ?_ ?_
        · intro b19
          refine go_iinc [(3, .int (s3.2.1 + 1)), (0, .ref (E.1 0)), (1, .int a1), (2, .int b19.1)] td_X12_tells 31 rfl (q := 58) rfl 3 rfl kc_1 (Nat.le_of_ble_eq_true rfl) rfl ?_
          refine go_goto td_X12_tells 32 rfl (q := 26) rfl ?_
          refine go_pick [1, 2, 3, 0] (lv' := [(0, .ref (E.1 0)), (1, .int a1), (2, .int b19.1), (3, .int (s3.2.1 + 1))]) rfl ?_
          exact krec3 b19.1 (s3.2.1 + 1) b19.2
        intro J19 hJ19
        have kJ19 : ∀ (u19_0 : Int32) (u19_1 : G), Go (wCB E) _ _ u19_1 55 [(0, .ref (E.1 0)), (1, .int a1), (2, .int u19_0), (3, .int s3.2.1)] [] (J19 (u19_0, u19_1)) := fun u19_0 u19_1 => hJ19 (u19_0, u19_1)
        refine go_if_ne 45 td_X12_tells 23 rfl rfl (q := 42) rfl (fun _ => ?_) (fun _ => ?_)
        · refine go_aload_n td_X12_tells 25 rfl (q := 46) rfl 0 rfl ?_
          refine go_get td_X12_tells 26 rfl (q := 49) rfl fl_X12_194 (Bc_0 E s3.2.2) rfl ?_
          refine go_iload_n td_X12_tells 27 rfl (q := 50) rfl 2 rfl ?_
          refine go_iload_n td_X12_tells 28 rfl (q := 51) rfl 3 rfl ?_
          refine go_ast td_X12_tells 29 rfl (q := 52) rfl (Bc_27 E s3.2.2) (t0 := 0) rfl (Bas_27 E s3.2.2 _) ?_
          refine go_bvg (fun g20 => ?_)
          refine go_iinc [(2, .int (s3.1 + 1)), (0, .ref (E.1 0)), (1, .int a1), (3, .int s3.2.1)] td_X12_tells 30 rfl (q := 55) rfl 2 rfl kc_1 (Nat.le_of_ble_eq_true rfl) rfl ?_
          refine go_pick [1, 2, 0, 3] (lv' := [(0, .ref (E.1 0)), (1, .int a1), (2, .int (s3.1 + 1)), (3, .int s3.2.1)]) rfl ?_
          exact kJ19 (s3.1 + 1) g20
        · refine go_goto td_X12_tells 24 rfl (q := 55) rfl ?_
          refine go_pick [0, 1, 2, 3] (lv' := [(0, .ref (E.1 0)), (1, .int a1), (2, .int s3.1), (3, .int s3.2.1)]) rfl ?_
          exact kJ19 s3.1 s3.2.2
    · refine go_iconst td_X12_tells 8 rfl (q := 17) rfl kc_m1 ?_
      exact go_iret td_X12_tells 9 rfl rfl rfl
def fB_M_remembers (g : G) : Option (G) := lj (α := G) (fun b1 => Lp (α := Int32 × G) (fun rec2 s2 => (if 28 ≤ s2.1 then bv (sS s2.2 45 ((s2.2.1 45) + 1)) fun g3 => bv (sS g3 47 0) fun g4 => some g4 else ag 28 (s2.2.2.1 20) s2.1 fun x5 => ck 560 ((28 * (s2.2.1 45)) + s2.1) (bv (sA s2.2 21 ((28 * (s2.2.1 45)) + s2.1 : Int32).toNatClampNeg x5) fun g6 => rec2 (s2.1 + 1, g6)))) FU (0, b1)) fun J1 => (if (g.1 45) = 20 then Lp (α := Int32 × G) (fun rec7 s7 => (if 532 ≤ s7.1 then bv (sS s7.2 45 ((s7.2.1 45) - 1)) fun g8 => J1 g8 else ag 560 (s7.2.2.1 21) (s7.1 + 28) fun x9 => ck 560 s7.1 (bv (sA s7.2 21 (s7.1 : Int32).toNatClampNeg x9) fun g10 => rec7 (s7.1 + 1, g10)))) FU (0, g) else J1 g)
set_option maxRecDepth 20000 in
set_option maxHeartbeats 4000000 in
theorem ok_fB_M_remembers (E : Ev)  (g : G)  : Ct (wCB E) yX12_remembers mi_X12_remembers [.ref (E.1 0)] (fun r => (none, r)) g (fB_M_remembers g) := by
  refine go_enter rfl rfl (Nat.le_of_ble_eq_true rfl) (lv := [(0, .ref (E.1 0))]) rfl ?_
  unfold fB_M_remembers
  refine go_aload_n td_X12_remembers 0 rfl (q := 1) rfl 0 rfl ?_
  refine go_get td_X12_remembers 1 rfl (q := 4) rfl fl_X12_147 (Bc_0 E g) rfl ?_
  refine go_bipush td_X12_remembers 2 rfl (q := 6) rfl kb_20 ?_
  refine go_ljX (α := G) (fun b1 => [(0, .ref (E.1 0))]) (fun b1 => []) (fun b1 => b1) 49 ?_ ?_
  · intro b1
    refine go_iconst td_X12_remembers 27 rfl (q := 50) rfl kc_0 ?_
    refine go_istore_n [(1, .int 0), (0, .ref (E.1 0))] td_X12_remembers 28 rfl (q := 51) rfl (Nat.le_of_ble_eq_true rfl) rfl ?_
    refine go_pick [1, 0] (lv' := [(0, .ref (E.1 0)), (1, .int 0)]) rfl ?_
    refine (show ∀ (u2_0 : Int32) (u2_1 : G), Go (wCB E) _ _ u2_1 51 [(0, .ref (E.1 0)), (1, .int u2_0)] [] (Lp (α := Int32 × G) _ FU (u2_0, u2_1)) from ?_) 0 b1
    intro u2_0 u2_1
    refine go_Lp (α := Int32 × G) (fun s2 => s2.2) (fun s2 => [(0, .ref (E.1 0)), (1, .int s2.1)]) ?_ FU (u2_0, u2_1)
    intro rec2 hrec2 s2
    have krec2 : ∀ (u2_0 : Int32) (u2_1 : G), Go (wCB E) _ _ u2_1 51 [(0, .ref (E.1 0)), (1, .int u2_0)] [] (rec2 (u2_0, u2_1)) := fun u2_0 u2_1 => hrec2 (u2_0, u2_1)
    refine go_iload_n td_X12_remembers 29 rfl (q := 52) rfl 1 rfl ?_
    refine go_bipush td_X12_remembers 30 rfl (q := 54) rfl kb_28 ?_
    refine go_icmp_ge 83 td_X12_remembers 31 rfl rfl (q := 57) rfl (fun _ => ?_) (fun _ => ?_)
    · refine go_aload_n td_X12_remembers 47 rfl (q := 84) rfl 0 rfl ?_
      refine go_dup td_X12_remembers 48 rfl (q := 85) rfl rfl ?_
      refine go_get td_X12_remembers 49 rfl (q := 88) rfl fl_X12_147 (Bc_0 E s2.2) rfl ?_
      refine go_iconst td_X12_remembers 50 rfl (q := 89) rfl kc_1 ?_
      refine go_iadd td_X12_remembers 51 rfl (q := 90) rfl ?_
      refine go_put td_X12_remembers 52 rfl (q := 93) rfl flp_X12_147 (Bc_0 E s2.2) rfl rfl (Nat.le_of_ble_eq_true rfl) (Bps_45 E s2.2 ((s2.2.1 45) + 1)) ?_
      refine go_bvg (fun g3 => ?_)
      refine go_aload_n td_X12_remembers 53 rfl (q := 94) rfl 0 rfl ?_
      refine go_iconst td_X12_remembers 54 rfl (q := 95) rfl kc_0 ?_
      refine go_put td_X12_remembers 55 rfl (q := 98) rfl flp_X12_154 (Bc_0 E g3) rfl rfl (Nat.le_of_ble_eq_true rfl) (Bps_47 E g3 0) ?_
      refine go_bvg (fun g4 => ?_)
      exact go_vret td_X12_remembers 56 rfl rfl rfl
    · refine go_aload_n td_X12_remembers 32 rfl (q := 58) rfl 0 rfl ?_
      refine go_get td_X12_remembers 33 rfl (q := 61) rfl fl_X12_144 (Bc_0 E s2.2) rfl ?_
      refine go_bipush td_X12_remembers 34 rfl (q := 63) rfl kb_28 ?_
      refine go_aload_n td_X12_remembers 35 rfl (q := 64) rfl 0 rfl ?_
      refine go_get td_X12_remembers 36 rfl (q := 67) rfl fl_X12_147 (Bc_0 E s2.2) rfl ?_
      refine go_imul td_X12_remembers 37 rfl (q := 68) rfl ?_
      refine go_iload_n td_X12_remembers 38 rfl (q := 69) rfl 1 rfl ?_
      refine go_iadd td_X12_remembers 39 rfl (q := 70) rfl ?_
      refine go_aload_n td_X12_remembers 40 rfl (q := 71) rfl 0 rfl ?_
      refine go_get td_X12_remembers 41 rfl (q := 74) rfl fl_X12_141 (Bc_0 E s2.2) rfl ?_
      refine go_iload_n td_X12_remembers 42 rfl (q := 75) rfl 1 rfl ?_
      refine go_ald td_X12_remembers 43 rfl (q := 76) rfl (Bc_20 E s2.2) (t0 := 0) rfl (fun x5 => ?_)
      refine go_ast td_X12_remembers 44 rfl (q := 77) rfl (Bc_21 E s2.2) (t0 := 0) rfl (Bas_21 E s2.2 _) ?_
      refine go_bvg (fun g6 => ?_)
      refine go_iinc [(1, .int (s2.1 + 1)), (0, .ref (E.1 0))] td_X12_remembers 45 rfl (q := 80) rfl 1 rfl kc_1 (Nat.le_of_ble_eq_true rfl) rfl ?_
      refine go_goto td_X12_remembers 46 rfl (q := 51) rfl ?_
      refine go_pick [1, 0] (lv' := [(0, .ref (E.1 0)), (1, .int (s2.1 + 1))]) rfl ?_
      exact krec2 (s2.1 + 1) g6
  intro J1 hJ1
  have kJ1 : ∀ (u1_0 : G), Go (wCB E) _ _ u1_0 49 [(0, .ref (E.1 0))] [] (J1 u1_0) := fun u1_0 => hJ1 u1_0
  refine go_icmp_ne 49 td_X12_remembers 3 rfl rfl (q := 9) rfl (fun _ => ?_) (fun _ => ?_)
  · refine go_pick [0] (lv' := [(0, .ref (E.1 0))]) rfl ?_
    exact kJ1 g
  · refine go_iconst td_X12_remembers 4 rfl (q := 10) rfl kc_0 ?_
    refine go_istore_n [(1, .int 0), (0, .ref (E.1 0))] td_X12_remembers 5 rfl (q := 11) rfl (Nat.le_of_ble_eq_true rfl) rfl ?_
    refine go_pick [1, 0] (lv' := [(0, .ref (E.1 0)), (1, .int 0)]) rfl ?_
    refine (show ∀ (u7_0 : Int32) (u7_1 : G), Go (wCB E) _ _ u7_1 11 [(0, .ref (E.1 0)), (1, .int u7_0)] [] (Lp (α := Int32 × G) _ FU (u7_0, u7_1)) from ?_) 0 g
    intro u7_0 u7_1
    refine go_Lp (α := Int32 × G) (fun s7 => s7.2) (fun s7 => [(0, .ref (E.1 0)), (1, .int s7.1)]) ?_ FU (u7_0, u7_1)
    intro rec7 hrec7 s7
    have krec7 : ∀ (u7_0 : Int32) (u7_1 : G), Go (wCB E) _ _ u7_1 11 [(0, .ref (E.1 0)), (1, .int u7_0)] [] (rec7 (u7_0, u7_1)) := fun u7_0 u7_1 => hrec7 (u7_0, u7_1)
    refine go_iload_n td_X12_remembers 6 rfl (q := 12) rfl 1 rfl ?_
    refine go_sipush td_X12_remembers 7 rfl (q := 15) rfl ks_532 ?_
    refine go_icmp_ge 39 td_X12_remembers 8 rfl rfl (q := 18) rfl (fun _ => ?_) (fun _ => ?_)
    · refine go_aload_n td_X12_remembers 21 rfl (q := 40) rfl 0 rfl ?_
      refine go_dup td_X12_remembers 22 rfl (q := 41) rfl rfl ?_
      refine go_get td_X12_remembers 23 rfl (q := 44) rfl fl_X12_147 (Bc_0 E s7.2) rfl ?_
      refine go_iconst td_X12_remembers 24 rfl (q := 45) rfl kc_1 ?_
      refine go_isub td_X12_remembers 25 rfl (q := 46) rfl ?_
      refine go_put td_X12_remembers 26 rfl (q := 49) rfl flp_X12_147 (Bc_0 E s7.2) rfl rfl (Nat.le_of_ble_eq_true rfl) (Bps_45 E s7.2 ((s7.2.1 45) - 1)) ?_
      refine go_bvg (fun g8 => ?_)
      refine go_pick [0] (lv' := [(0, .ref (E.1 0))]) rfl ?_
      exact kJ1 g8
    · refine go_aload_n td_X12_remembers 9 rfl (q := 19) rfl 0 rfl ?_
      refine go_get td_X12_remembers 10 rfl (q := 22) rfl fl_X12_144 (Bc_0 E s7.2) rfl ?_
      refine go_iload_n td_X12_remembers 11 rfl (q := 23) rfl 1 rfl ?_
      refine go_aload_n td_X12_remembers 12 rfl (q := 24) rfl 0 rfl ?_
      refine go_get td_X12_remembers 13 rfl (q := 27) rfl fl_X12_144 (Bc_0 E s7.2) rfl ?_
      refine go_iload_n td_X12_remembers 14 rfl (q := 28) rfl 1 rfl ?_
      refine go_bipush td_X12_remembers 15 rfl (q := 30) rfl kb_28 ?_
      refine go_iadd td_X12_remembers 16 rfl (q := 31) rfl ?_
      refine go_ald td_X12_remembers 17 rfl (q := 32) rfl (Bc_21 E s7.2) (t0 := 0) rfl (fun x9 => ?_)
      refine go_ast td_X12_remembers 18 rfl (q := 33) rfl (Bc_21 E s7.2) (t0 := 0) rfl (Bas_21 E s7.2 _) ?_
      refine go_bvg (fun g10 => ?_)
      refine go_iinc [(1, .int (s7.1 + 1)), (0, .ref (E.1 0))] td_X12_remembers 19 rfl (q := 36) rfl 1 rfl kc_1 (Nat.le_of_ble_eq_true rfl) rfl ?_
      refine go_goto td_X12_remembers 20 rfl (q := 11) rfl ?_
      refine go_pick [1, 0] (lv' := [(0, .ref (E.1 0)), (1, .int (s7.1 + 1))]) rfl ?_
      exact krec7 (s7.1 + 1) g10
def fB_M_lose (a1 : Int32) (g : G) : Option (Int32 × G) := Option.bind (fB_M_isCraft a1 g) fun x1 => lj (α := Unit) (fun b2 => Option.bind (fB_M_isRefused 2 g) fun x3 => bt x3.1 (some (x3.1, x3.2))) fun J2 => (if x1 = 0 then J2 () else ag 28 (g.2.1 20) (4 + a1) fun x4 => (if x4 = 0 then J2 () else Option.bind (fB_M_remembers g) fun x5 => ck 28 (4 + a1) (bv (sA x5 20 (4 + a1 : Int32).toNatClampNeg 0) fun g6 => some (1, g6))))
set_option maxRecDepth 20000 in
set_option maxHeartbeats 4000000 in
theorem ok_fB_M_lose (E : Ev) (a1 : Int32) (g : G)  : Ct (wCB E) yX12_lose mi_X12_lose [.ref (E.1 0), .int a1] (fun r => (some (.int r.1), r.2)) g (fB_M_lose a1 g) := by
  refine go_enter rfl rfl (Nat.le_of_ble_eq_true rfl) (lv := [(0, .ref (E.1 0)), (1, .int a1)]) rfl ?_
  unfold fB_M_lose
  refine go_aload_n td_X12_lose 0 rfl (q := 1) rfl 0 rfl ?_
  refine go_iload_n td_X12_lose 1 rfl (q := 2) rfl 1 rfl ?_
  refine go_callV td_X12_lose 2 rfl (q := 5) rfl (XkB E) lk_X12_350 (ok_fB_M_isCraft E a1 g) ⟨rfl, rfl, Nat.le_of_ble_eq_true rfl, Nat.le_of_ble_eq_true rfl⟩ rfl rfl (Nat.le_of_ble_eq_true rfl) (Bc_0 E g) rfl (fun x1 => ?_)
  show Go (wCB E) _ _ g 5 _ [.int x1] _
  refine go_ljX (α := Unit) (fun b2 => [(0, .ref (E.1 0))]) (fun b2 => []) (fun b2 => g) 19 ?_ ?_
  · intro b2
    refine go_aload_n td_X12_lose 11 rfl (q := 20) rfl 0 rfl ?_
    refine go_iconst td_X12_lose 12 rfl (q := 21) rfl kc_2 ?_
    refine go_callV td_X12_lose 13 rfl (q := 24) rfl (XkB E) lk_X12_217 (ok_fB_M_isRefused E 2 g) ⟨rfl, rfl, Nat.le_of_ble_eq_true rfl, Nat.le_of_ble_eq_true rfl⟩ rfl rfl (Nat.le_of_ble_eq_true rfl) (Bc_0 E g) rfl (fun x3 => ?_)
    show Go (wCB E) _ _ x3.2 24 _ [.int x3.1] _
    exact go_zretb td_X12_lose 14 rfl rfl rfl
  intro J2 hJ2
  have kJ2 : Go (wCB E) _ _ g 19 [(0, .ref (E.1 0))] [] (J2 ()) := hJ2 ()
  refine go_if_eq 19 td_X12_lose 3 rfl rfl (q := 8) rfl (fun _ => ?_) (fun _ => ?_)
  · refine go_pick [0] (lv' := [(0, .ref (E.1 0))]) rfl ?_
    exact kJ2 
  · refine go_aload_n td_X12_lose 4 rfl (q := 9) rfl 0 rfl ?_
    refine go_get td_X12_lose 5 rfl (q := 12) rfl fl_X12_141 (Bc_0 E g) rfl ?_
    refine go_iconst td_X12_lose 6 rfl (q := 13) rfl kc_4 ?_
    refine go_iload_n td_X12_lose 7 rfl (q := 14) rfl 1 rfl ?_
    refine go_iadd td_X12_lose 8 rfl (q := 15) rfl ?_
    refine go_ald td_X12_lose 9 rfl (q := 16) rfl (Bc_20 E g) (t0 := 0) rfl (fun x4 => ?_)
    refine go_if_ne 25 td_X12_lose 10 rfl rfl (q := 19) rfl (fun _ => ?_) (fun _ => ?_)
    · refine go_aload_n td_X12_lose 15 rfl (q := 26) rfl 0 rfl ?_
      refine go_callV td_X12_lose 16 rfl (q := 29) rfl (XkB E) lk_X12_440 (ok_fB_M_remembers E g) ⟨rfl, rfl, Nat.le_of_ble_eq_true rfl, Nat.le_of_ble_eq_true rfl⟩ rfl rfl (Nat.le_of_ble_eq_true rfl) (Bc_0 E g) rfl (fun x5 => ?_)
      show Go (wCB E) _ _ x5 29 _ [] _
      refine go_aload_n td_X12_lose 17 rfl (q := 30) rfl 0 rfl ?_
      refine go_get td_X12_lose 18 rfl (q := 33) rfl fl_X12_141 (Bc_0 E x5) rfl ?_
      refine go_iconst td_X12_lose 19 rfl (q := 34) rfl kc_4 ?_
      refine go_iload_n td_X12_lose 20 rfl (q := 35) rfl 1 rfl ?_
      refine go_iadd td_X12_lose 21 rfl (q := 36) rfl ?_
      refine go_iconst td_X12_lose 22 rfl (q := 37) rfl kc_0 ?_
      refine go_ast td_X12_lose 23 rfl (q := 38) rfl (Bc_20 E x5) (t0 := 0) rfl (Bas_20 E x5 _) ?_
      refine go_bvg (fun g6 => ?_)
      refine go_iconst td_X12_lose 24 rfl (q := 39) rfl kc_1 ?_
      exact go_zret td_X12_lose 25 rfl rfl rfl rfl
    · refine go_pick [0] (lv' := [(0, .ref (E.1 0))]) rfl ?_
      exact kJ2 
def fB_M_find (a1 : Int32) (g : G) : Option (Int32 × G) := Option.bind (fB_M_isCraft a1 g) fun x1 => lj (α := Unit) (fun b2 => Option.bind (fB_M_isRefused 2 g) fun x3 => bt x3.1 (some (x3.1, x3.2))) fun J2 => (if x1 = 0 then J2 () else ag 28 (g.2.1 20) (4 + a1) fun x4 => (if x4 = 1 then J2 () else Option.bind (fB_M_remembers g) fun x5 => ck 28 (4 + a1) (bv (sA x5 20 (4 + a1 : Int32).toNatClampNeg 1) fun g6 => some (1, g6))))
set_option maxRecDepth 20000 in
set_option maxHeartbeats 4000000 in
theorem ok_fB_M_find (E : Ev) (a1 : Int32) (g : G)  : Ct (wCB E) yX12_find mi_X12_find [.ref (E.1 0), .int a1] (fun r => (some (.int r.1), r.2)) g (fB_M_find a1 g) := by
  refine go_enter rfl rfl (Nat.le_of_ble_eq_true rfl) (lv := [(0, .ref (E.1 0)), (1, .int a1)]) rfl ?_
  unfold fB_M_find
  refine go_aload_n td_X12_find 0 rfl (q := 1) rfl 0 rfl ?_
  refine go_iload_n td_X12_find 1 rfl (q := 2) rfl 1 rfl ?_
  refine go_callV td_X12_find 2 rfl (q := 5) rfl (XkB E) lk_X12_350 (ok_fB_M_isCraft E a1 g) ⟨rfl, rfl, Nat.le_of_ble_eq_true rfl, Nat.le_of_ble_eq_true rfl⟩ rfl rfl (Nat.le_of_ble_eq_true rfl) (Bc_0 E g) rfl (fun x1 => ?_)
  show Go (wCB E) _ _ g 5 _ [.int x1] _
  refine go_ljX (α := Unit) (fun b2 => [(0, .ref (E.1 0))]) (fun b2 => []) (fun b2 => g) 20 ?_ ?_
  · intro b2
    refine go_aload_n td_X12_find 12 rfl (q := 21) rfl 0 rfl ?_
    refine go_iconst td_X12_find 13 rfl (q := 22) rfl kc_2 ?_
    refine go_callV td_X12_find 14 rfl (q := 25) rfl (XkB E) lk_X12_217 (ok_fB_M_isRefused E 2 g) ⟨rfl, rfl, Nat.le_of_ble_eq_true rfl, Nat.le_of_ble_eq_true rfl⟩ rfl rfl (Nat.le_of_ble_eq_true rfl) (Bc_0 E g) rfl (fun x3 => ?_)
    show Go (wCB E) _ _ x3.2 25 _ [.int x3.1] _
    exact go_zretb td_X12_find 15 rfl rfl rfl
  intro J2 hJ2
  have kJ2 : Go (wCB E) _ _ g 20 [(0, .ref (E.1 0))] [] (J2 ()) := hJ2 ()
  refine go_if_eq 20 td_X12_find 3 rfl rfl (q := 8) rfl (fun _ => ?_) (fun _ => ?_)
  · refine go_pick [0] (lv' := [(0, .ref (E.1 0))]) rfl ?_
    exact kJ2 
  · refine go_aload_n td_X12_find 4 rfl (q := 9) rfl 0 rfl ?_
    refine go_get td_X12_find 5 rfl (q := 12) rfl fl_X12_141 (Bc_0 E g) rfl ?_
    refine go_iconst td_X12_find 6 rfl (q := 13) rfl kc_4 ?_
    refine go_iload_n td_X12_find 7 rfl (q := 14) rfl 1 rfl ?_
    refine go_iadd td_X12_find 8 rfl (q := 15) rfl ?_
    refine go_ald td_X12_find 9 rfl (q := 16) rfl (Bc_20 E g) (t0 := 0) rfl (fun x4 => ?_)
    refine go_iconst td_X12_find 10 rfl (q := 17) rfl kc_1 ?_
    refine go_icmp_ne 26 td_X12_find 11 rfl rfl (q := 20) rfl (fun _ => ?_) (fun _ => ?_)
    · refine go_aload_n td_X12_find 16 rfl (q := 27) rfl 0 rfl ?_
      refine go_callV td_X12_find 17 rfl (q := 30) rfl (XkB E) lk_X12_440 (ok_fB_M_remembers E g) ⟨rfl, rfl, Nat.le_of_ble_eq_true rfl, Nat.le_of_ble_eq_true rfl⟩ rfl rfl (Nat.le_of_ble_eq_true rfl) (Bc_0 E g) rfl (fun x5 => ?_)
      show Go (wCB E) _ _ x5 30 _ [] _
      refine go_aload_n td_X12_find 18 rfl (q := 31) rfl 0 rfl ?_
      refine go_get td_X12_find 19 rfl (q := 34) rfl fl_X12_141 (Bc_0 E x5) rfl ?_
      refine go_iconst td_X12_find 20 rfl (q := 35) rfl kc_4 ?_
      refine go_iload_n td_X12_find 21 rfl (q := 36) rfl 1 rfl ?_
      refine go_iadd td_X12_find 22 rfl (q := 37) rfl ?_
      refine go_iconst td_X12_find 23 rfl (q := 38) rfl kc_1 ?_
      refine go_ast td_X12_find 24 rfl (q := 39) rfl (Bc_20 E x5) (t0 := 0) rfl (Bas_20 E x5 _) ?_
      refine go_bvg (fun g6 => ?_)
      refine go_iconst td_X12_find 25 rfl (q := 40) rfl kc_1 ?_
      exact go_zret td_X12_find 26 rfl rfl rfl rfl
    · refine go_pick [0] (lv' := [(0, .ref (E.1 0))]) rfl ?_
      exact kJ2 
def fB_M_phase (a1 : Int32) (a2 : Int32) (g : G) : Option (Int32 × G) := Option.bind (fB_M_isCraft a1 g) fun x1 => lj (α := Unit) (fun b2 => Option.bind (fB_M_isRefused 3 g) fun x3 => bt x3.1 (some (x3.1, x3.2))) fun J2 => (if x1 = 0 then J2 () else Option.bind (fB_M_turnOf a1 g) fun x4 => Option.bind (fB_M_isIn a2 0 (x4 - 1) g) fun x5 => (if x5 = 0 then J2 () else ag 28 (g.2.1 20) (12 + a1) fun x6 => (if x6 = a2 then J2 () else Option.bind (fB_M_remembers g) fun x7 => ck 28 (12 + a1) (bv (sA x7 20 (12 + a1 : Int32).toNatClampNeg a2) fun g8 => some (1, g8)))))
set_option maxRecDepth 20000 in
set_option maxHeartbeats 4000000 in
theorem ok_fB_M_phase (E : Ev) (a1 : Int32) (a2 : Int32) (g : G)  : Ct (wCB E) yX12_phase mi_X12_phase [.ref (E.1 0), .int a1, .int a2] (fun r => (some (.int r.1), r.2)) g (fB_M_phase a1 a2 g) := by
  refine go_enter rfl rfl (Nat.le_of_ble_eq_true rfl) (lv := [(0, .ref (E.1 0)), (1, .int a1), (2, .int a2)]) rfl ?_
  unfold fB_M_phase
  refine go_aload_n td_X12_phase 0 rfl (q := 1) rfl 0 rfl ?_
  refine go_iload_n td_X12_phase 1 rfl (q := 2) rfl 1 rfl ?_
  refine go_callV td_X12_phase 2 rfl (q := 5) rfl (XkB E) lk_X12_350 (ok_fB_M_isCraft E a1 g) ⟨rfl, rfl, Nat.le_of_ble_eq_true rfl, Nat.le_of_ble_eq_true rfl⟩ rfl rfl (Nat.le_of_ble_eq_true rfl) (Bc_0 E g) rfl (fun x1 => ?_)
  show Go (wCB E) _ _ g 5 _ [.int x1] _
  refine go_ljX (α := Unit) (fun b2 => [(0, .ref (E.1 0))]) (fun b2 => []) (fun b2 => g) 36 ?_ ?_
  · intro b2
    refine go_aload_n td_X12_phase 21 rfl (q := 37) rfl 0 rfl ?_
    refine go_iconst td_X12_phase 22 rfl (q := 38) rfl kc_3 ?_
    refine go_callV td_X12_phase 23 rfl (q := 41) rfl (XkB E) lk_X12_217 (ok_fB_M_isRefused E 3 g) ⟨rfl, rfl, Nat.le_of_ble_eq_true rfl, Nat.le_of_ble_eq_true rfl⟩ rfl rfl (Nat.le_of_ble_eq_true rfl) (Bc_0 E g) rfl (fun x3 => ?_)
    show Go (wCB E) _ _ x3.2 41 _ [.int x3.1] _
    exact go_zretb td_X12_phase 24 rfl rfl rfl
  intro J2 hJ2
  have kJ2 : Go (wCB E) _ _ g 36 [(0, .ref (E.1 0))] [] (J2 ()) := hJ2 ()
  refine go_if_eq 36 td_X12_phase 3 rfl rfl (q := 8) rfl (fun _ => ?_) (fun _ => ?_)
  · refine go_pick [0] (lv' := [(0, .ref (E.1 0))]) rfl ?_
    exact kJ2 
  · refine go_iload_n td_X12_phase 4 rfl (q := 9) rfl 2 rfl ?_
    refine go_iconst td_X12_phase 5 rfl (q := 10) rfl kc_0 ?_
    refine go_aload_n td_X12_phase 6 rfl (q := 11) rfl 0 rfl ?_
    refine go_iload_n td_X12_phase 7 rfl (q := 12) rfl 1 rfl ?_
    refine go_callV td_X12_phase 8 rfl (q := 15) rfl (XkB E) lk_X12_305 (ok_fB_M_turnOf E a1 g) ⟨rfl, rfl, Nat.le_of_ble_eq_true rfl, Nat.le_of_ble_eq_true rfl⟩ rfl rfl (Nat.le_of_ble_eq_true rfl) (Bc_0 E g) rfl (fun x4 => ?_)
    show Go (wCB E) _ _ g 15 _ [.int x4, .int 0, .int a2] _
    refine go_iconst td_X12_phase 9 rfl (q := 16) rfl kc_1 ?_
    refine go_isub td_X12_phase 10 rfl (q := 17) rfl ?_
    refine go_callS td_X12_phase 11 rfl (q := 20) rfl (XkB E) lk_X12_248 (ok_fB_M_isIn E a2 0 (x4 - 1) g) ⟨rfl, rfl, Nat.le_of_ble_eq_true rfl, Nat.le_of_ble_eq_true rfl⟩ rfl rfl (Nat.le_of_ble_eq_true rfl) (fun x5 => ?_)
    show Go (wCB E) _ _ g 20 _ [.int x5] _
    refine go_if_eq 36 td_X12_phase 12 rfl rfl (q := 23) rfl (fun _ => ?_) (fun _ => ?_)
    · refine go_pick [0] (lv' := [(0, .ref (E.1 0))]) rfl ?_
      exact kJ2 
    · refine go_aload_n td_X12_phase 13 rfl (q := 24) rfl 0 rfl ?_
      refine go_get td_X12_phase 14 rfl (q := 27) rfl fl_X12_141 (Bc_0 E g) rfl ?_
      refine go_bipush td_X12_phase 15 rfl (q := 29) rfl kb_12 ?_
      refine go_iload_n td_X12_phase 16 rfl (q := 30) rfl 1 rfl ?_
      refine go_iadd td_X12_phase 17 rfl (q := 31) rfl ?_
      refine go_ald td_X12_phase 18 rfl (q := 32) rfl (Bc_20 E g) (t0 := 0) rfl (fun x6 => ?_)
      refine go_iload_n td_X12_phase 19 rfl (q := 33) rfl 2 rfl ?_
      refine go_icmp_ne 42 td_X12_phase 20 rfl rfl (q := 36) rfl (fun _ => ?_) (fun _ => ?_)
      · refine go_aload_n td_X12_phase 25 rfl (q := 43) rfl 0 rfl ?_
        refine go_callV td_X12_phase 26 rfl (q := 46) rfl (XkB E) lk_X12_440 (ok_fB_M_remembers E g) ⟨rfl, rfl, Nat.le_of_ble_eq_true rfl, Nat.le_of_ble_eq_true rfl⟩ rfl rfl (Nat.le_of_ble_eq_true rfl) (Bc_0 E g) rfl (fun x7 => ?_)
        show Go (wCB E) _ _ x7 46 _ [] _
        refine go_aload_n td_X12_phase 27 rfl (q := 47) rfl 0 rfl ?_
        refine go_get td_X12_phase 28 rfl (q := 50) rfl fl_X12_141 (Bc_0 E x7) rfl ?_
        refine go_bipush td_X12_phase 29 rfl (q := 52) rfl kb_12 ?_
        refine go_iload_n td_X12_phase 30 rfl (q := 53) rfl 1 rfl ?_
        refine go_iadd td_X12_phase 31 rfl (q := 54) rfl ?_
        refine go_iload_n td_X12_phase 32 rfl (q := 55) rfl 2 rfl ?_
        refine go_ast td_X12_phase 33 rfl (q := 56) rfl (Bc_20 E x7) (t0 := 0) rfl (Bas_20 E x7 _) ?_
        refine go_bvg (fun g8 => ?_)
        refine go_iconst td_X12_phase 34 rfl (q := 57) rfl kc_1 ?_
        exact go_zret td_X12_phase 35 rfl rfl rfl rfl
      · refine go_pick [0] (lv' := [(0, .ref (E.1 0))]) rfl ?_
        exact kJ2 
def fB_M_reach (a1 : Int32) (a2 : Int32) (g : G) : Option (Int32 × G) := Option.bind (fB_M_isCraft a1 g) fun x1 => lj (α := Unit) (fun b2 => Option.bind (fB_M_isRefused 3 g) fun x3 => bt x3.1 (some (x3.1, x3.2))) fun J2 => (if x1 = 0 then J2 () else Option.bind (fB_M_isIn a2 0 12 g) fun x4 => (if x4 = 0 then J2 () else ag 28 (g.2.1 20) (20 + a1) fun x5 => (if x5 = a2 then J2 () else Option.bind (fB_M_remembers g) fun x6 => ck 28 (20 + a1) (bv (sA x6 20 (20 + a1 : Int32).toNatClampNeg a2) fun g7 => some (1, g7)))))
set_option maxRecDepth 20000 in
set_option maxHeartbeats 4000000 in
theorem ok_fB_M_reach (E : Ev) (a1 : Int32) (a2 : Int32) (g : G)  : Ct (wCB E) yX12_reach mi_X12_reach [.ref (E.1 0), .int a1, .int a2] (fun r => (some (.int r.1), r.2)) g (fB_M_reach a1 a2 g) := by
  refine go_enter rfl rfl (Nat.le_of_ble_eq_true rfl) (lv := [(0, .ref (E.1 0)), (1, .int a1), (2, .int a2)]) rfl ?_
  unfold fB_M_reach
  refine go_aload_n td_X12_reach 0 rfl (q := 1) rfl 0 rfl ?_
  refine go_iload_n td_X12_reach 1 rfl (q := 2) rfl 1 rfl ?_
  refine go_callV td_X12_reach 2 rfl (q := 5) rfl (XkB E) lk_X12_350 (ok_fB_M_isCraft E a1 g) ⟨rfl, rfl, Nat.le_of_ble_eq_true rfl, Nat.le_of_ble_eq_true rfl⟩ rfl rfl (Nat.le_of_ble_eq_true rfl) (Bc_0 E g) rfl (fun x1 => ?_)
  show Go (wCB E) _ _ g 5 _ [.int x1] _
  refine go_ljX (α := Unit) (fun b2 => [(0, .ref (E.1 0))]) (fun b2 => []) (fun b2 => g) 31 ?_ ?_
  · intro b2
    refine go_aload_n td_X12_reach 17 rfl (q := 32) rfl 0 rfl ?_
    refine go_iconst td_X12_reach 18 rfl (q := 33) rfl kc_3 ?_
    refine go_callV td_X12_reach 19 rfl (q := 36) rfl (XkB E) lk_X12_217 (ok_fB_M_isRefused E 3 g) ⟨rfl, rfl, Nat.le_of_ble_eq_true rfl, Nat.le_of_ble_eq_true rfl⟩ rfl rfl (Nat.le_of_ble_eq_true rfl) (Bc_0 E g) rfl (fun x3 => ?_)
    show Go (wCB E) _ _ x3.2 36 _ [.int x3.1] _
    exact go_zretb td_X12_reach 20 rfl rfl rfl
  intro J2 hJ2
  have kJ2 : Go (wCB E) _ _ g 31 [(0, .ref (E.1 0))] [] (J2 ()) := hJ2 ()
  refine go_if_eq 31 td_X12_reach 3 rfl rfl (q := 8) rfl (fun _ => ?_) (fun _ => ?_)
  · refine go_pick [0] (lv' := [(0, .ref (E.1 0))]) rfl ?_
    exact kJ2 
  · refine go_iload_n td_X12_reach 4 rfl (q := 9) rfl 2 rfl ?_
    refine go_iconst td_X12_reach 5 rfl (q := 10) rfl kc_0 ?_
    refine go_bipush td_X12_reach 6 rfl (q := 12) rfl kb_12 ?_
    refine go_callS td_X12_reach 7 rfl (q := 15) rfl (XkB E) lk_X12_248 (ok_fB_M_isIn E a2 0 12 g) ⟨rfl, rfl, Nat.le_of_ble_eq_true rfl, Nat.le_of_ble_eq_true rfl⟩ rfl rfl (Nat.le_of_ble_eq_true rfl) (fun x4 => ?_)
    show Go (wCB E) _ _ g 15 _ [.int x4] _
    refine go_if_eq 31 td_X12_reach 8 rfl rfl (q := 18) rfl (fun _ => ?_) (fun _ => ?_)
    · refine go_pick [0] (lv' := [(0, .ref (E.1 0))]) rfl ?_
      exact kJ2 
    · refine go_aload_n td_X12_reach 9 rfl (q := 19) rfl 0 rfl ?_
      refine go_get td_X12_reach 10 rfl (q := 22) rfl fl_X12_141 (Bc_0 E g) rfl ?_
      refine go_bipush td_X12_reach 11 rfl (q := 24) rfl kb_20 ?_
      refine go_iload_n td_X12_reach 12 rfl (q := 25) rfl 1 rfl ?_
      refine go_iadd td_X12_reach 13 rfl (q := 26) rfl ?_
      refine go_ald td_X12_reach 14 rfl (q := 27) rfl (Bc_20 E g) (t0 := 0) rfl (fun x5 => ?_)
      refine go_iload_n td_X12_reach 15 rfl (q := 28) rfl 2 rfl ?_
      refine go_icmp_ne 37 td_X12_reach 16 rfl rfl (q := 31) rfl (fun _ => ?_) (fun _ => ?_)
      · refine go_aload_n td_X12_reach 21 rfl (q := 38) rfl 0 rfl ?_
        refine go_callV td_X12_reach 22 rfl (q := 41) rfl (XkB E) lk_X12_440 (ok_fB_M_remembers E g) ⟨rfl, rfl, Nat.le_of_ble_eq_true rfl, Nat.le_of_ble_eq_true rfl⟩ rfl rfl (Nat.le_of_ble_eq_true rfl) (Bc_0 E g) rfl (fun x6 => ?_)
        show Go (wCB E) _ _ x6 41 _ [] _
        refine go_aload_n td_X12_reach 23 rfl (q := 42) rfl 0 rfl ?_
        refine go_get td_X12_reach 24 rfl (q := 45) rfl fl_X12_141 (Bc_0 E x6) rfl ?_
        refine go_bipush td_X12_reach 25 rfl (q := 47) rfl kb_20 ?_
        refine go_iload_n td_X12_reach 26 rfl (q := 48) rfl 1 rfl ?_
        refine go_iadd td_X12_reach 27 rfl (q := 49) rfl ?_
        refine go_iload_n td_X12_reach 28 rfl (q := 50) rfl 2 rfl ?_
        refine go_ast td_X12_reach 29 rfl (q := 51) rfl (Bc_20 E x6) (t0 := 0) rfl (Bas_20 E x6 _) ?_
        refine go_bvg (fun g7 => ?_)
        refine go_iconst td_X12_reach 30 rfl (q := 52) rfl kc_1 ?_
        exact go_zret td_X12_reach 31 rfl rfl rfl rfl
      · refine go_pick [0] (lv' := [(0, .ref (E.1 0))]) rfl ?_
        exact kJ2 
def fB_M_node (a1 : Int32) (a2 : Int32) (g : G) : Option (Int32 × G) := Option.bind (fB_M_isPlane a1 g) fun x1 => lj (α := Unit) (fun b2 => Option.bind (fB_M_isRefused 3 g) fun x3 => bt x3.1 (some (x3.1, x3.2))) fun J2 => (if x1 = 0 then J2 () else Option.bind (fB_M_isIn a2 0 ((g.1 1) - 1) g) fun x4 => (if x4 = 0 then J2 () else ag 28 (g.2.1 20) (0 + a1) fun x5 => (if x5 = a2 then J2 () else Option.bind (fB_M_remembers g) fun x6 => ck 28 (0 + a1) (bv (sA x6 20 (0 + a1 : Int32).toNatClampNeg a2) fun g7 => some (1, g7)))))
set_option maxRecDepth 20000 in
set_option maxHeartbeats 4000000 in
theorem ok_fB_M_node (E : Ev) (a1 : Int32) (a2 : Int32) (g : G)  : Ct (wCB E) yX12_node mi_X12_node [.ref (E.1 0), .int a1, .int a2] (fun r => (some (.int r.1), r.2)) g (fB_M_node a1 a2 g) := by
  refine go_enter rfl rfl (Nat.le_of_ble_eq_true rfl) (lv := [(0, .ref (E.1 0)), (1, .int a1), (2, .int a2)]) rfl ?_
  unfold fB_M_node
  refine go_aload_n td_X12_node 0 rfl (q := 1) rfl 0 rfl ?_
  refine go_iload_n td_X12_node 1 rfl (q := 2) rfl 1 rfl ?_
  refine go_callV td_X12_node 2 rfl (q := 5) rfl (XkB E) lk_X12_347 (ok_fB_M_isPlane E a1 g) ⟨rfl, rfl, Nat.le_of_ble_eq_true rfl, Nat.le_of_ble_eq_true rfl⟩ rfl rfl (Nat.le_of_ble_eq_true rfl) (Bc_0 E g) rfl (fun x1 => ?_)
  show Go (wCB E) _ _ g 5 _ [.int x1] _
  refine go_ljX (α := Unit) (fun b2 => [(0, .ref (E.1 0))]) (fun b2 => []) (fun b2 => g) 34 ?_ ?_
  · intro b2
    refine go_aload_n td_X12_node 20 rfl (q := 35) rfl 0 rfl ?_
    refine go_iconst td_X12_node 21 rfl (q := 36) rfl kc_3 ?_
    refine go_callV td_X12_node 22 rfl (q := 39) rfl (XkB E) lk_X12_217 (ok_fB_M_isRefused E 3 g) ⟨rfl, rfl, Nat.le_of_ble_eq_true rfl, Nat.le_of_ble_eq_true rfl⟩ rfl rfl (Nat.le_of_ble_eq_true rfl) (Bc_0 E g) rfl (fun x3 => ?_)
    show Go (wCB E) _ _ x3.2 39 _ [.int x3.1] _
    exact go_zretb td_X12_node 23 rfl rfl rfl
  intro J2 hJ2
  have kJ2 : Go (wCB E) _ _ g 34 [(0, .ref (E.1 0))] [] (J2 ()) := hJ2 ()
  refine go_if_eq 34 td_X12_node 3 rfl rfl (q := 8) rfl (fun _ => ?_) (fun _ => ?_)
  · refine go_pick [0] (lv' := [(0, .ref (E.1 0))]) rfl ?_
    exact kJ2 
  · refine go_iload_n td_X12_node 4 rfl (q := 9) rfl 2 rfl ?_
    refine go_iconst td_X12_node 5 rfl (q := 10) rfl kc_0 ?_
    refine go_aload_n td_X12_node 6 rfl (q := 11) rfl 0 rfl ?_
    refine go_get td_X12_node 7 rfl (q := 14) rfl fl_X12_13 (Bc_0 E g) rfl ?_
    refine go_iconst td_X12_node 8 rfl (q := 15) rfl kc_1 ?_
    refine go_isub td_X12_node 9 rfl (q := 16) rfl ?_
    refine go_callS td_X12_node 10 rfl (q := 19) rfl (XkB E) lk_X12_248 (ok_fB_M_isIn E a2 0 ((g.1 1) - 1) g) ⟨rfl, rfl, Nat.le_of_ble_eq_true rfl, Nat.le_of_ble_eq_true rfl⟩ rfl rfl (Nat.le_of_ble_eq_true rfl) (fun x4 => ?_)
    show Go (wCB E) _ _ g 19 _ [.int x4] _
    refine go_if_eq 34 td_X12_node 11 rfl rfl (q := 22) rfl (fun _ => ?_) (fun _ => ?_)
    · refine go_pick [0] (lv' := [(0, .ref (E.1 0))]) rfl ?_
      exact kJ2 
    · refine go_aload_n td_X12_node 12 rfl (q := 23) rfl 0 rfl ?_
      refine go_get td_X12_node 13 rfl (q := 26) rfl fl_X12_141 (Bc_0 E g) rfl ?_
      refine go_iconst td_X12_node 14 rfl (q := 27) rfl kc_0 ?_
      refine go_iload_n td_X12_node 15 rfl (q := 28) rfl 1 rfl ?_
      refine go_iadd td_X12_node 16 rfl (q := 29) rfl ?_
      refine go_ald td_X12_node 17 rfl (q := 30) rfl (Bc_20 E g) (t0 := 0) rfl (fun x5 => ?_)
      refine go_iload_n td_X12_node 18 rfl (q := 31) rfl 2 rfl ?_
      refine go_icmp_ne 40 td_X12_node 19 rfl rfl (q := 34) rfl (fun _ => ?_) (fun _ => ?_)
      · refine go_aload_n td_X12_node 24 rfl (q := 41) rfl 0 rfl ?_
        refine go_callV td_X12_node 25 rfl (q := 44) rfl (XkB E) lk_X12_440 (ok_fB_M_remembers E g) ⟨rfl, rfl, Nat.le_of_ble_eq_true rfl, Nat.le_of_ble_eq_true rfl⟩ rfl rfl (Nat.le_of_ble_eq_true rfl) (Bc_0 E g) rfl (fun x6 => ?_)
        show Go (wCB E) _ _ x6 44 _ [] _
        refine go_aload_n td_X12_node 26 rfl (q := 45) rfl 0 rfl ?_
        refine go_get td_X12_node 27 rfl (q := 48) rfl fl_X12_141 (Bc_0 E x6) rfl ?_
        refine go_iconst td_X12_node 28 rfl (q := 49) rfl kc_0 ?_
        refine go_iload_n td_X12_node 29 rfl (q := 50) rfl 1 rfl ?_
        refine go_iadd td_X12_node 30 rfl (q := 51) rfl ?_
        refine go_iload_n td_X12_node 31 rfl (q := 52) rfl 2 rfl ?_
        refine go_ast td_X12_node 32 rfl (q := 53) rfl (Bc_20 E x6) (t0 := 0) rfl (Bas_20 E x6 _) ?_
        refine go_bvg (fun g7 => ?_)
        refine go_iconst td_X12_node 33 rfl (q := 54) rfl kc_1 ?_
        exact go_zret td_X12_node 34 rfl rfl rfl rfl
      · refine go_pick [0] (lv' := [(0, .ref (E.1 0))]) rfl ?_
        exact kJ2 
def fB_M_spread (a1 : Int32) (a2 : Int32) (g : G) : Option (Int32 × G) := Option.bind (fB_M_isPlane a1 g) fun x1 => lj (α := Unit) (fun b2 => Option.bind (fB_M_refuses 3 g) fun x3 => some (x3.1, x3.2)) fun J2 => (if x1 = 0 then J2 () else ag 4 (g.2.1 3) a1 fun x4 => Option.bind (fB_M_isIn a2 0 (x4 - 1) g) fun x5 => (if x5 = 0 then J2 () else Option.bind (fB_M_upMany a1 g) fun x6 => (if x6 = 0 then J2 () else Option.bind (fB_M_remembers g) fun x7 => Option.bind (fB_M_spreads a1 a2 x7) fun x8 => Option.bind (fB_M_upMany a1 x8) fun x9 => some (x9, x8))))
set_option maxRecDepth 20000 in
set_option maxHeartbeats 4000000 in
theorem ok_fB_M_spread (E : Ev) (a1 : Int32) (a2 : Int32) (g : G)  : Ct (wCB E) yX12_spread mi_X12_spread [.ref (E.1 0), .int a1, .int a2] (fun r => (some (.int r.1), r.2)) g (fB_M_spread a1 a2 g) := by
  refine go_enter rfl rfl (Nat.le_of_ble_eq_true rfl) (lv := [(0, .ref (E.1 0)), (1, .int a1), (2, .int a2)]) rfl ?_
  unfold fB_M_spread
  refine go_aload_n td_X12_spread 0 rfl (q := 1) rfl 0 rfl ?_
  refine go_iload_n td_X12_spread 1 rfl (q := 2) rfl 1 rfl ?_
  refine go_callV td_X12_spread 2 rfl (q := 5) rfl (XkB E) lk_X12_347 (ok_fB_M_isPlane E a1 g) ⟨rfl, rfl, Nat.le_of_ble_eq_true rfl, Nat.le_of_ble_eq_true rfl⟩ rfl rfl (Nat.le_of_ble_eq_true rfl) (Bc_0 E g) rfl (fun x1 => ?_)
  show Go (wCB E) _ _ g 5 _ [.int x1] _
  refine go_ljX (α := Unit) (fun b2 => [(0, .ref (E.1 0))]) (fun b2 => []) (fun b2 => g) 32 ?_ ?_
  · intro b2
    refine go_aload_n td_X12_spread 18 rfl (q := 33) rfl 0 rfl ?_
    refine go_iconst td_X12_spread 19 rfl (q := 34) rfl kc_3 ?_
    refine go_callV td_X12_spread 20 rfl (q := 37) rfl (XkB E) lk_X12_209 (ok_fB_M_refuses E 3 g) ⟨rfl, rfl, Nat.le_of_ble_eq_true rfl, Nat.le_of_ble_eq_true rfl⟩ rfl rfl (Nat.le_of_ble_eq_true rfl) (Bc_0 E g) rfl (fun x3 => ?_)
    show Go (wCB E) _ _ x3.2 37 _ [.int x3.1] _
    exact go_iret td_X12_spread 21 rfl rfl rfl
  intro J2 hJ2
  have kJ2 : Go (wCB E) _ _ g 32 [(0, .ref (E.1 0))] [] (J2 ()) := hJ2 ()
  refine go_if_eq 32 td_X12_spread 3 rfl rfl (q := 8) rfl (fun _ => ?_) (fun _ => ?_)
  · refine go_pick [0] (lv' := [(0, .ref (E.1 0))]) rfl ?_
    exact kJ2 
  · refine go_iload_n td_X12_spread 4 rfl (q := 9) rfl 2 rfl ?_
    refine go_iconst td_X12_spread 5 rfl (q := 10) rfl kc_0 ?_
    refine go_aload_n td_X12_spread 6 rfl (q := 11) rfl 0 rfl ?_
    refine go_get td_X12_spread 7 rfl (q := 14) rfl fl_X12_48 (Bc_0 E g) rfl ?_
    refine go_iload_n td_X12_spread 8 rfl (q := 15) rfl 1 rfl ?_
    refine go_ald td_X12_spread 9 rfl (q := 16) rfl (Bc_3 E g) (t0 := 0) rfl (fun x4 => ?_)
    refine go_iconst td_X12_spread 10 rfl (q := 17) rfl kc_1 ?_
    refine go_isub td_X12_spread 11 rfl (q := 18) rfl ?_
    refine go_callS td_X12_spread 12 rfl (q := 21) rfl (XkB E) lk_X12_248 (ok_fB_M_isIn E a2 0 (x4 - 1) g) ⟨rfl, rfl, Nat.le_of_ble_eq_true rfl, Nat.le_of_ble_eq_true rfl⟩ rfl rfl (Nat.le_of_ble_eq_true rfl) (fun x5 => ?_)
    show Go (wCB E) _ _ g 21 _ [.int x5] _
    refine go_if_eq 32 td_X12_spread 13 rfl rfl (q := 24) rfl (fun _ => ?_) (fun _ => ?_)
    · refine go_pick [0] (lv' := [(0, .ref (E.1 0))]) rfl ?_
      exact kJ2 
    · refine go_aload_n td_X12_spread 14 rfl (q := 25) rfl 0 rfl ?_
      refine go_iload_n td_X12_spread 15 rfl (q := 26) rfl 1 rfl ?_
      refine go_callV td_X12_spread 16 rfl (q := 29) rfl (XkB E) lk_X12_344 (ok_fB_M_upMany E a1 g) ⟨rfl, rfl, Nat.le_of_ble_eq_true rfl, Nat.le_of_ble_eq_true rfl⟩ rfl rfl (Nat.le_of_ble_eq_true rfl) (Bc_0 E g) rfl (fun x6 => ?_)
      show Go (wCB E) _ _ g 29 _ [.int x6] _
      refine go_if_ne 38 td_X12_spread 17 rfl rfl (q := 32) rfl (fun _ => ?_) (fun _ => ?_)
      · refine go_aload_n td_X12_spread 22 rfl (q := 39) rfl 0 rfl ?_
        refine go_callV td_X12_spread 23 rfl (q := 42) rfl (XkB E) lk_X12_440 (ok_fB_M_remembers E g) ⟨rfl, rfl, Nat.le_of_ble_eq_true rfl, Nat.le_of_ble_eq_true rfl⟩ rfl rfl (Nat.le_of_ble_eq_true rfl) (Bc_0 E g) rfl (fun x7 => ?_)
        show Go (wCB E) _ _ x7 42 _ [] _
        refine go_aload_n td_X12_spread 24 rfl (q := 43) rfl 0 rfl ?_
        refine go_iload_n td_X12_spread 25 rfl (q := 44) rfl 1 rfl ?_
        refine go_iload_n td_X12_spread 26 rfl (q := 45) rfl 2 rfl ?_
        refine go_callV td_X12_spread 27 rfl (q := 48) rfl (XkB E) lk_X12_410 (ok_fB_M_spreads E a1 a2 x7) ⟨rfl, rfl, Nat.le_of_ble_eq_true rfl, Nat.le_of_ble_eq_true rfl⟩ rfl rfl (Nat.le_of_ble_eq_true rfl) (Bc_0 E x7) rfl (fun x8 => ?_)
        show Go (wCB E) _ _ x8 48 _ [] _
        refine go_aload_n td_X12_spread 28 rfl (q := 49) rfl 0 rfl ?_
        refine go_iload_n td_X12_spread 29 rfl (q := 50) rfl 1 rfl ?_
        refine go_callV td_X12_spread 30 rfl (q := 53) rfl (XkB E) lk_X12_344 (ok_fB_M_upMany E a1 x8) ⟨rfl, rfl, Nat.le_of_ble_eq_true rfl, Nat.le_of_ble_eq_true rfl⟩ rfl rfl (Nat.le_of_ble_eq_true rfl) (Bc_0 E x8) rfl (fun x9 => ?_)
        show Go (wCB E) _ _ x8 53 _ [.int x9] _
        exact go_iret td_X12_spread 31 rfl rfl rfl
      · refine go_pick [0] (lv' := [(0, .ref (E.1 0))]) rfl ?_
        exact kJ2 
def fB_M_draw (a1 : Int32) (g : G) : Option (Int32 × G) := dzl 2147483648 (bv (sS g 62 ((((1103515245 * ((g.1 62 : Int32).toInt64)) + 12345) - ((1103515245 * ((g.1 62 : Int32).toInt64)) + 12345) / 2147483648 * 2147483648 : Int64).toInt32)) fun g1 => dz 64 (dz a1 (some (((g1.1 62) / 64) - ((g1.1 62) / 64) / a1 * a1, g1))))
set_option maxRecDepth 20000 in
set_option maxHeartbeats 4000000 in
theorem ok_fB_M_draw (E : Ev) (a1 : Int32) (g : G)  : Ct (wCB E) yX12_draw mi_X12_draw [.ref (E.1 0), .int a1] (fun r => (some (.int r.1), r.2)) g (fB_M_draw a1 g) := by
  refine go_enter rfl rfl (Nat.le_of_ble_eq_true rfl) (lv := [(0, .ref (E.1 0)), (1, .int a1)]) rfl ?_
  unfold fB_M_draw
  refine go_aload_n td_X12_draw 0 rfl (q := 1) rfl 0 rfl ?_
  refine go_ldc2 td_X12_draw 1 rfl (q := 4) rfl cn_X12_443 ?_
  refine go_aload_n td_X12_draw 2 rfl (q := 5) rfl 0 rfl ?_
  refine go_get td_X12_draw 3 rfl (q := 8) rfl fl_X12_200 (Bc_0 E g) rfl ?_
  refine go_i2l td_X12_draw 4 rfl (q := 9) rfl ?_
  refine go_lmul td_X12_draw 5 rfl (q := 10) rfl ?_
  refine go_ldc2 td_X12_draw 6 rfl (q := 13) rfl cn_X12_445 ?_
  refine go_ladd td_X12_draw 7 rfl (q := 14) rfl ?_
  refine go_ldc2 td_X12_draw 8 rfl (q := 17) rfl cn_X12_447 ?_
  refine go_lrem td_X12_draw 9 rfl (q := 18) rfl ?_
  refine go_l2i td_X12_draw 10 rfl (q := 19) rfl ?_
  refine go_put td_X12_draw 11 rfl (q := 22) rfl flp_X12_200 (Bc_0 E g) rfl rfl (Nat.le_of_ble_eq_true rfl) (Bps_62 E g ((((1103515245 * ((g.1 62 : Int32).toInt64)) + 12345) - ((1103515245 * ((g.1 62 : Int32).toInt64)) + 12345) / 2147483648 * 2147483648 : Int64).toInt32)) ?_
  refine go_bvg (fun g1 => ?_)
  refine go_aload_n td_X12_draw 12 rfl (q := 23) rfl 0 rfl ?_
  refine go_get td_X12_draw 13 rfl (q := 26) rfl fl_X12_200 (Bc_0 E g1) rfl ?_
  refine go_bipush td_X12_draw 14 rfl (q := 28) rfl kb_64 ?_
  refine go_idiv td_X12_draw 15 rfl (q := 29) rfl ?_
  refine go_iload_n td_X12_draw 16 rfl (q := 30) rfl 1 rfl ?_
  refine go_irem td_X12_draw 17 rfl (q := 31) rfl ?_
  exact go_iret td_X12_draw 18 rfl rfl rfl
def fB_M_chance (a1 : Int32) (g : G) : Option (Int32 × G) := lj (α := Unit) (fun b1 => Option.bind (fB_M_refuses 2 g) fun x2 => some (x2.1, x2.2)) fun J1 => (if (g.1 5) = 0 then J1 () else Option.bind (fB_M_isIn a1 1 40 g) fun x3 => (if x3 = 0 then J1 () else Option.bind (fB_M_remembers g) fun x4 => Lp (α := Int32 × G) (fun rec5 s5 => (if a1 ≤ s5.1 then Option.bind (fB_M_upMany (-1) s5.2) fun x6 => some (x6, s5.2) else Option.bind (fB_M_draw (s5.2.1 5) s5.2) fun x7 => Option.bind (fB_M_draw 4 x7.2) fun x8 => lj (α := G) (fun b9 => rec5 (s5.1 + 1, b9)) fun J9 => (if x8.1 = 0 then ag 28 (x8.2.2.1 20) (4 + x7.1) fun x18 => ck 28 (4 + x7.1) (bv (sA x8.2 20 (4 + x7.1 : Int32).toNatClampNeg (1 - x18)) fun g19 => J9 g19) else (if x8.1 = 1 then Option.bind (fB_M_turnOf x7.1 x8.2) fun x15 => Option.bind (fB_M_draw x15 x8.2) fun x16 => ck 28 (12 + x7.1) (bv (sA x16.2 20 (12 + x7.1 : Int32).toNatClampNeg x16.1) fun g17 => J9 g17) else (if x8.1 = 2 then Option.bind (fB_M_draw 7 x8.2) fun x13 => ck 28 (20 + x7.1) (bv (sA x13.2 20 (20 + x7.1 : Int32).toNatClampNeg x13.1) fun g14 => J9 g14) else ag 8 (x8.2.2.1 4) x7.1 fun x10 => Option.bind (fB_M_draw (x8.2.1 1) x8.2) fun x11 => ck 28 (0 + x10) (bv (sA x11.2 20 (0 + x10 : Int32).toNatClampNeg x11.1) fun g12 => J9 g12)))))) FU (0, x4)))
set_option maxRecDepth 20000 in
set_option maxHeartbeats 4000000 in
theorem ok_fB_M_chance (E : Ev) (a1 : Int32) (g : G)  : Ct (wCB E) yX12_chance mi_X12_chance [.ref (E.1 0), .int a1] (fun r => (some (.int r.1), r.2)) g (fB_M_chance a1 g) := by
  refine go_enter rfl rfl (Nat.le_of_ble_eq_true rfl) (lv := [(0, .ref (E.1 0)), (1, .int a1)]) rfl ?_
  unfold fB_M_chance
  refine go_aload_n td_X12_chance 0 rfl (q := 1) rfl 0 rfl ?_
  refine go_get td_X12_chance 1 rfl (q := 4) rfl fl_X12_26 (Bc_0 E g) rfl ?_
  refine go_ljX (α := Unit) (fun b1 => [(0, .ref (E.1 0))]) (fun b1 => []) (fun b1 => g) 17 ?_ ?_
  · intro b1
    refine go_aload_n td_X12_chance 8 rfl (q := 18) rfl 0 rfl ?_
    refine go_iconst td_X12_chance 9 rfl (q := 19) rfl kc_2 ?_
    refine go_callV td_X12_chance 10 rfl (q := 22) rfl (XkB E) lk_X12_209 (ok_fB_M_refuses E 2 g) ⟨rfl, rfl, Nat.le_of_ble_eq_true rfl, Nat.le_of_ble_eq_true rfl⟩ rfl rfl (Nat.le_of_ble_eq_true rfl) (Bc_0 E g) rfl (fun x2 => ?_)
    show Go (wCB E) _ _ x2.2 22 _ [.int x2.1] _
    exact go_iret td_X12_chance 11 rfl rfl rfl
  intro J1 hJ1
  have kJ1 : Go (wCB E) _ _ g 17 [(0, .ref (E.1 0))] [] (J1 ()) := hJ1 ()
  refine go_if_eq 17 td_X12_chance 2 rfl rfl (q := 7) rfl (fun _ => ?_) (fun _ => ?_)
  · refine go_pick [0] (lv' := [(0, .ref (E.1 0))]) rfl ?_
    exact kJ1 
  · refine go_iload_n td_X12_chance 3 rfl (q := 8) rfl 1 rfl ?_
    refine go_iconst td_X12_chance 4 rfl (q := 9) rfl kc_1 ?_
    refine go_bipush td_X12_chance 5 rfl (q := 11) rfl kb_40 ?_
    refine go_callS td_X12_chance 6 rfl (q := 14) rfl (XkB E) lk_X12_248 (ok_fB_M_isIn E a1 1 40 g) ⟨rfl, rfl, Nat.le_of_ble_eq_true rfl, Nat.le_of_ble_eq_true rfl⟩ rfl rfl (Nat.le_of_ble_eq_true rfl) (fun x3 => ?_)
    show Go (wCB E) _ _ g 14 _ [.int x3] _
    refine go_if_ne 23 td_X12_chance 7 rfl rfl (q := 17) rfl (fun _ => ?_) (fun _ => ?_)
    · refine go_aload_n td_X12_chance 12 rfl (q := 24) rfl 0 rfl ?_
      refine go_callV td_X12_chance 13 rfl (q := 27) rfl (XkB E) lk_X12_440 (ok_fB_M_remembers E g) ⟨rfl, rfl, Nat.le_of_ble_eq_true rfl, Nat.le_of_ble_eq_true rfl⟩ rfl rfl (Nat.le_of_ble_eq_true rfl) (Bc_0 E g) rfl (fun x4 => ?_)
      show Go (wCB E) _ _ x4 27 _ [] _
      refine go_iconst td_X12_chance 14 rfl (q := 28) rfl kc_0 ?_
      refine go_istore_n [(2, .int 0), (0, .ref (E.1 0)), (1, .int a1)] td_X12_chance 15 rfl (q := 29) rfl (Nat.le_of_ble_eq_true rfl) rfl ?_
      refine go_pick [1, 2, 0] (lv' := [(0, .ref (E.1 0)), (1, .int a1), (2, .int 0)]) rfl ?_
      refine (show ∀ (u5_0 : Int32) (u5_1 : G), Go (wCB E) _ _ u5_1 29 [(0, .ref (E.1 0)), (1, .int a1), (2, .int u5_0)] [] (Lp (α := Int32 × G) _ FU (u5_0, u5_1)) from ?_) 0 x4
      intro u5_0 u5_1
      refine go_Lp (α := Int32 × G) (fun s5 => s5.2) (fun s5 => [(0, .ref (E.1 0)), (1, .int a1), (2, .int s5.1)]) ?_ FU (u5_0, u5_1)
      intro rec5 hrec5 s5
      have krec5 : ∀ (u5_0 : Int32) (u5_1 : G), Go (wCB E) _ _ u5_1 29 [(0, .ref (E.1 0)), (1, .int a1), (2, .int u5_0)] [] (rec5 (u5_0, u5_1)) := fun u5_0 u5_1 => hrec5 (u5_0, u5_1)
      refine go_iload_n td_X12_chance 16 rfl (q := 30) rfl 2 rfl ?_
      refine go_iload_n td_X12_chance 17 rfl (q := 31) rfl 1 rfl ?_
      refine go_icmp_ge 154 td_X12_chance 18 rfl rfl (q := 34) rfl (fun _ => ?_) (fun _ => ?_)
      · refine go_aload_n td_X12_chance 88 rfl (q := 155) rfl 0 rfl ?_
        refine go_iconst td_X12_chance 89 rfl (q := 156) rfl kc_m1 ?_
        refine go_callV td_X12_chance 90 rfl (q := 159) rfl (XkB E) lk_X12_344 (ok_fB_M_upMany E (-1) s5.2) ⟨rfl, rfl, Nat.le_of_ble_eq_true rfl, Nat.le_of_ble_eq_true rfl⟩ rfl rfl (Nat.le_of_ble_eq_true rfl) (Bc_0 E s5.2) rfl (fun x6 => ?_)
        show Go (wCB E) _ _ s5.2 159 _ [.int x6] _
        exact go_iret td_X12_chance 91 rfl rfl rfl
      · refine go_aload_n td_X12_chance 19 rfl (q := 35) rfl 0 rfl ?_
        refine go_aload_n td_X12_chance 20 rfl (q := 36) rfl 0 rfl ?_
        refine go_get td_X12_chance 21 rfl (q := 39) rfl fl_X12_26 (Bc_0 E s5.2) rfl ?_
        refine go_callV td_X12_chance 22 rfl (q := 42) rfl (XkB E) lk_X12_449 (ok_fB_M_draw E (s5.2.1 5) s5.2) ⟨rfl, rfl, Nat.le_of_ble_eq_true rfl, Nat.le_of_ble_eq_true rfl⟩ rfl rfl (Nat.le_of_ble_eq_true rfl) (Bc_0 E s5.2) rfl (fun x7 => ?_)
        show Go (wCB E) _ _ x7.2 42 _ [.int x7.1] _
        refine go_istore_n [(3, .int x7.1), (0, .ref (E.1 0)), (1, .int a1), (2, .int s5.1)] td_X12_chance 23 rfl (q := 43) rfl (Nat.le_of_ble_eq_true rfl) rfl ?_
        refine go_aload_n td_X12_chance 24 rfl (q := 44) rfl 1 rfl ?_
        refine go_iconst td_X12_chance 25 rfl (q := 45) rfl kc_4 ?_
        refine go_callV td_X12_chance 26 rfl (q := 48) rfl (XkB E) lk_X12_449 (ok_fB_M_draw E 4 x7.2) ⟨rfl, rfl, Nat.le_of_ble_eq_true rfl, Nat.le_of_ble_eq_true rfl⟩ rfl rfl (Nat.le_of_ble_eq_true rfl) (Bc_0 E x7.2) rfl (fun x8 => ?_)
        show Go (wCB E) _ _ x8.2 48 _ [.int x8.1] _
        refine go_istore [(4, .int x8.1), (3, .int x7.1), (0, .ref (E.1 0)), (1, .int a1), (2, .int s5.1)] td_X12_chance 27 rfl (q := 50) rfl (Nat.le_of_ble_eq_true rfl) rfl ?_
        refine go_iload td_X12_chance 28 rfl (q := 52) rfl 0 rfl ?_
        refine go_ljX (α := G) (fun b9 => [(0, .ref (E.1 0)), (1, .int a1), (2, .int s5.1)]) (fun b9 => []) (fun b9 => b9) 148 ?_ ?_
        · intro b9
          refine go_iinc [(2, .int (s5.1 + 1)), (0, .ref (E.1 0)), (1, .int a1)] td_X12_chance 86 rfl (q := 151) rfl 2 rfl kc_1 (Nat.le_of_ble_eq_true rfl) rfl ?_
          refine go_goto td_X12_chance 87 rfl (q := 29) rfl ?_
          refine go_pick [1, 2, 0] (lv' := [(0, .ref (E.1 0)), (1, .int a1), (2, .int (s5.1 + 1))]) rfl ?_
          exact krec5 (s5.1 + 1) b9
        intro J9 hJ9
        have kJ9 : ∀ (u9_0 : G), Go (wCB E) _ _ u9_0 148 [(0, .ref (E.1 0)), (1, .int a1), (2, .int s5.1)] [] (J9 u9_0) := fun u9_0 => hJ9 u9_0
        refine go_if_ne 76 td_X12_chance 29 rfl rfl (q := 55) rfl (fun _ => ?_) (fun _ => ?_)
        · refine go_iload td_X12_chance 45 rfl (q := 78) rfl 0 rfl ?_
          refine go_iconst td_X12_chance 46 rfl (q := 79) rfl kc_1 ?_
          refine go_icmp_ne 103 td_X12_chance 47 rfl rfl (q := 82) rfl (fun _ => ?_) (fun _ => ?_)
          · refine go_iload td_X12_chance 60 rfl (q := 105) rfl 0 rfl ?_
            refine go_iconst td_X12_chance 61 rfl (q := 106) rfl kc_2 ?_
            refine go_icmp_ne 127 td_X12_chance 62 rfl rfl (q := 109) rfl (fun _ => ?_) (fun _ => ?_)
            · refine go_aload_n td_X12_chance 73 rfl (q := 128) rfl 2 rfl ?_
              refine go_get td_X12_chance 74 rfl (q := 131) rfl fl_X12_141 (Bc_0 E x8.2) rfl ?_
              refine go_iconst td_X12_chance 75 rfl (q := 132) rfl kc_0 ?_
              refine go_aload_n td_X12_chance 76 rfl (q := 133) rfl 2 rfl ?_
              refine go_get td_X12_chance 77 rfl (q := 136) rfl fl_X12_51 (Bc_0 E x8.2) rfl ?_
              refine go_iload_n td_X12_chance 78 rfl (q := 137) rfl 1 rfl ?_
              refine go_ald td_X12_chance 79 rfl (q := 138) rfl (Bc_4 E x8.2) (t0 := 0) rfl (fun x10 => ?_)
              refine go_iadd td_X12_chance 80 rfl (q := 139) rfl ?_
              refine go_aload_n td_X12_chance 81 rfl (q := 140) rfl 2 rfl ?_
              refine go_aload_n td_X12_chance 82 rfl (q := 141) rfl 2 rfl ?_
              refine go_get td_X12_chance 83 rfl (q := 144) rfl fl_X12_13 (Bc_0 E x8.2) rfl ?_
              refine go_callV td_X12_chance 84 rfl (q := 147) rfl (XkB E) lk_X12_449 (ok_fB_M_draw E (x8.2.1 1) x8.2) ⟨rfl, rfl, Nat.le_of_ble_eq_true rfl, Nat.le_of_ble_eq_true rfl⟩ rfl rfl (Nat.le_of_ble_eq_true rfl) (Bc_0 E x8.2) rfl (fun x11 => ?_)
              show Go (wCB E) _ _ x11.2 147 _ [.int x11.1, .int (0 + x10), .ref (E.1 20)] _
              refine go_ast td_X12_chance 85 rfl (q := 148) rfl (Bc_20 E x11.2) (t0 := 0) rfl (Bas_20 E x11.2 _) ?_
              refine go_bvg (fun g12 => ?_)
              refine go_pick [2, 3, 4] (lv' := [(0, .ref (E.1 0)), (1, .int a1), (2, .int s5.1)]) rfl ?_
              exact kJ9 g12
            · refine go_aload_n td_X12_chance 63 rfl (q := 110) rfl 2 rfl ?_
              refine go_get td_X12_chance 64 rfl (q := 113) rfl fl_X12_141 (Bc_0 E x8.2) rfl ?_
              refine go_bipush td_X12_chance 65 rfl (q := 115) rfl kb_20 ?_
              refine go_iload_n td_X12_chance 66 rfl (q := 116) rfl 1 rfl ?_
              refine go_iadd td_X12_chance 67 rfl (q := 117) rfl ?_
              refine go_aload_n td_X12_chance 68 rfl (q := 118) rfl 2 rfl ?_
              refine go_bipush td_X12_chance 69 rfl (q := 120) rfl kb_7 ?_
              refine go_callV td_X12_chance 70 rfl (q := 123) rfl (XkB E) lk_X12_449 (ok_fB_M_draw E 7 x8.2) ⟨rfl, rfl, Nat.le_of_ble_eq_true rfl, Nat.le_of_ble_eq_true rfl⟩ rfl rfl (Nat.le_of_ble_eq_true rfl) (Bc_0 E x8.2) rfl (fun x13 => ?_)
              show Go (wCB E) _ _ x13.2 123 _ [.int x13.1, .int (20 + x7.1), .ref (E.1 20)] _
              refine go_ast td_X12_chance 71 rfl (q := 124) rfl (Bc_20 E x13.2) (t0 := 0) rfl (Bas_20 E x13.2 _) ?_
              refine go_bvg (fun g14 => ?_)
              refine go_goto td_X12_chance 72 rfl (q := 148) rfl ?_
              refine go_pick [2, 3, 4] (lv' := [(0, .ref (E.1 0)), (1, .int a1), (2, .int s5.1)]) rfl ?_
              exact kJ9 g14
          · refine go_aload_n td_X12_chance 48 rfl (q := 83) rfl 2 rfl ?_
            refine go_get td_X12_chance 49 rfl (q := 86) rfl fl_X12_141 (Bc_0 E x8.2) rfl ?_
            refine go_bipush td_X12_chance 50 rfl (q := 88) rfl kb_12 ?_
            refine go_iload_n td_X12_chance 51 rfl (q := 89) rfl 1 rfl ?_
            refine go_iadd td_X12_chance 52 rfl (q := 90) rfl ?_
            refine go_aload_n td_X12_chance 53 rfl (q := 91) rfl 2 rfl ?_
            refine go_aload_n td_X12_chance 54 rfl (q := 92) rfl 2 rfl ?_
            refine go_iload_n td_X12_chance 55 rfl (q := 93) rfl 1 rfl ?_
            refine go_callV td_X12_chance 56 rfl (q := 96) rfl (XkB E) lk_X12_305 (ok_fB_M_turnOf E x7.1 x8.2) ⟨rfl, rfl, Nat.le_of_ble_eq_true rfl, Nat.le_of_ble_eq_true rfl⟩ rfl rfl (Nat.le_of_ble_eq_true rfl) (Bc_0 E x8.2) rfl (fun x15 => ?_)
            show Go (wCB E) _ _ x8.2 96 _ [.int x15, .ref (E.1 0), .int (12 + x7.1), .ref (E.1 20)] _
            refine go_callV td_X12_chance 57 rfl (q := 99) rfl (XkB E) lk_X12_449 (ok_fB_M_draw E x15 x8.2) ⟨rfl, rfl, Nat.le_of_ble_eq_true rfl, Nat.le_of_ble_eq_true rfl⟩ rfl rfl (Nat.le_of_ble_eq_true rfl) (Bc_0 E x8.2) rfl (fun x16 => ?_)
            show Go (wCB E) _ _ x16.2 99 _ [.int x16.1, .int (12 + x7.1), .ref (E.1 20)] _
            refine go_ast td_X12_chance 58 rfl (q := 100) rfl (Bc_20 E x16.2) (t0 := 0) rfl (Bas_20 E x16.2 _) ?_
            refine go_bvg (fun g17 => ?_)
            refine go_goto td_X12_chance 59 rfl (q := 148) rfl ?_
            refine go_pick [2, 3, 4] (lv' := [(0, .ref (E.1 0)), (1, .int a1), (2, .int s5.1)]) rfl ?_
            exact kJ9 g17
        · refine go_aload_n td_X12_chance 30 rfl (q := 56) rfl 2 rfl ?_
          refine go_get td_X12_chance 31 rfl (q := 59) rfl fl_X12_141 (Bc_0 E x8.2) rfl ?_
          refine go_iconst td_X12_chance 32 rfl (q := 60) rfl kc_4 ?_
          refine go_iload_n td_X12_chance 33 rfl (q := 61) rfl 1 rfl ?_
          refine go_iadd td_X12_chance 34 rfl (q := 62) rfl ?_
          refine go_iconst td_X12_chance 35 rfl (q := 63) rfl kc_1 ?_
          refine go_aload_n td_X12_chance 36 rfl (q := 64) rfl 2 rfl ?_
          refine go_get td_X12_chance 37 rfl (q := 67) rfl fl_X12_141 (Bc_0 E x8.2) rfl ?_
          refine go_iconst td_X12_chance 38 rfl (q := 68) rfl kc_4 ?_
          refine go_iload_n td_X12_chance 39 rfl (q := 69) rfl 1 rfl ?_
          refine go_iadd td_X12_chance 40 rfl (q := 70) rfl ?_
          refine go_ald td_X12_chance 41 rfl (q := 71) rfl (Bc_20 E x8.2) (t0 := 0) rfl (fun x18 => ?_)
          refine go_isub td_X12_chance 42 rfl (q := 72) rfl ?_
          refine go_ast td_X12_chance 43 rfl (q := 73) rfl (Bc_20 E x8.2) (t0 := 0) rfl (Bas_20 E x8.2 _) ?_
          refine go_bvg (fun g19 => ?_)
          refine go_goto td_X12_chance 44 rfl (q := 148) rfl ?_
          refine go_pick [2, 3, 4] (lv' := [(0, .ref (E.1 0)), (1, .int a1), (2, .int s5.1)]) rfl ?_
          exact kJ9 g19
    · refine go_pick [0] (lv' := [(0, .ref (E.1 0))]) rfl ?_
      exact kJ1 
def fB_M_undo (g : G) : Option (Int32 × G) := (if (g.1 45) = 0 then Option.bind (fB_M_isRefused 4 g) fun x6 => bt x6.1 (some (x6.1, x6.2)) else bv (sS g 45 ((g.1 45) - 1)) fun g1 => Lp (α := Int32 × G) (fun rec2 s2 => (if 28 ≤ s2.1 then bv (sS s2.2 47 0) fun g3 => some (1, g3) else ag 560 (s2.2.2.1 21) ((28 * (s2.2.1 45)) + s2.1) fun x4 => ck 28 s2.1 (bv (sA s2.2 20 (s2.1 : Int32).toNatClampNeg x4) fun g5 => rec2 (s2.1 + 1, g5)))) FU (0, g1))
set_option maxRecDepth 20000 in
set_option maxHeartbeats 4000000 in
theorem ok_fB_M_undo (E : Ev)  (g : G)  : Ct (wCB E) yX12_undo mi_X12_undo [.ref (E.1 0)] (fun r => (some (.int r.1), r.2)) g (fB_M_undo g) := by
  refine go_enter rfl rfl (Nat.le_of_ble_eq_true rfl) (lv := [(0, .ref (E.1 0))]) rfl ?_
  unfold fB_M_undo
  refine go_aload_n td_X12_undo 0 rfl (q := 1) rfl 0 rfl ?_
  refine go_get td_X12_undo 1 rfl (q := 4) rfl fl_X12_147 (Bc_0 E g) rfl ?_
  refine go_if_ne 13 td_X12_undo 2 rfl rfl (q := 7) rfl (fun _ => ?_) (fun _ => ?_)
  · refine go_aload_n td_X12_undo 7 rfl (q := 14) rfl 0 rfl ?_
    refine go_dup td_X12_undo 8 rfl (q := 15) rfl rfl ?_
    refine go_get td_X12_undo 9 rfl (q := 18) rfl fl_X12_147 (Bc_0 E g) rfl ?_
    refine go_iconst td_X12_undo 10 rfl (q := 19) rfl kc_1 ?_
    refine go_isub td_X12_undo 11 rfl (q := 20) rfl ?_
    refine go_put td_X12_undo 12 rfl (q := 23) rfl flp_X12_147 (Bc_0 E g) rfl rfl (Nat.le_of_ble_eq_true rfl) (Bps_45 E g ((g.1 45) - 1)) ?_
    refine go_bvg (fun g1 => ?_)
    refine go_iconst td_X12_undo 13 rfl (q := 24) rfl kc_0 ?_
    refine go_istore_n [(1, .int 0), (0, .ref (E.1 0))] td_X12_undo 14 rfl (q := 25) rfl (Nat.le_of_ble_eq_true rfl) rfl ?_
    refine go_pick [1, 0] (lv' := [(0, .ref (E.1 0)), (1, .int 0)]) rfl ?_
    refine (show ∀ (u2_0 : Int32) (u2_1 : G), Go (wCB E) _ _ u2_1 25 [(0, .ref (E.1 0)), (1, .int u2_0)] [] (Lp (α := Int32 × G) _ FU (u2_0, u2_1)) from ?_) 0 g1
    intro u2_0 u2_1
    refine go_Lp (α := Int32 × G) (fun s2 => s2.2) (fun s2 => [(0, .ref (E.1 0)), (1, .int s2.1)]) ?_ FU (u2_0, u2_1)
    intro rec2 hrec2 s2
    have krec2 : ∀ (u2_0 : Int32) (u2_1 : G), Go (wCB E) _ _ u2_1 25 [(0, .ref (E.1 0)), (1, .int u2_0)] [] (rec2 (u2_0, u2_1)) := fun u2_0 u2_1 => hrec2 (u2_0, u2_1)
    refine go_iload_n td_X12_undo 15 rfl (q := 26) rfl 1 rfl ?_
    refine go_bipush td_X12_undo 16 rfl (q := 28) rfl kb_28 ?_
    refine go_icmp_ge 57 td_X12_undo 17 rfl rfl (q := 31) rfl (fun _ => ?_) (fun _ => ?_)
    · refine go_aload_n td_X12_undo 33 rfl (q := 58) rfl 0 rfl ?_
      refine go_iconst td_X12_undo 34 rfl (q := 59) rfl kc_0 ?_
      refine go_put td_X12_undo 35 rfl (q := 62) rfl flp_X12_154 (Bc_0 E s2.2) rfl rfl (Nat.le_of_ble_eq_true rfl) (Bps_47 E s2.2 0) ?_
      refine go_bvg (fun g3 => ?_)
      refine go_iconst td_X12_undo 36 rfl (q := 63) rfl kc_1 ?_
      exact go_zret td_X12_undo 37 rfl rfl rfl rfl
    · refine go_aload_n td_X12_undo 18 rfl (q := 32) rfl 0 rfl ?_
      refine go_get td_X12_undo 19 rfl (q := 35) rfl fl_X12_141 (Bc_0 E s2.2) rfl ?_
      refine go_iload_n td_X12_undo 20 rfl (q := 36) rfl 1 rfl ?_
      refine go_aload_n td_X12_undo 21 rfl (q := 37) rfl 0 rfl ?_
      refine go_get td_X12_undo 22 rfl (q := 40) rfl fl_X12_144 (Bc_0 E s2.2) rfl ?_
      refine go_bipush td_X12_undo 23 rfl (q := 42) rfl kb_28 ?_
      refine go_aload_n td_X12_undo 24 rfl (q := 43) rfl 0 rfl ?_
      refine go_get td_X12_undo 25 rfl (q := 46) rfl fl_X12_147 (Bc_0 E s2.2) rfl ?_
      refine go_imul td_X12_undo 26 rfl (q := 47) rfl ?_
      refine go_iload_n td_X12_undo 27 rfl (q := 48) rfl 1 rfl ?_
      refine go_iadd td_X12_undo 28 rfl (q := 49) rfl ?_
      refine go_ald td_X12_undo 29 rfl (q := 50) rfl (Bc_21 E s2.2) (t0 := 0) rfl (fun x4 => ?_)
      refine go_ast td_X12_undo 30 rfl (q := 51) rfl (Bc_20 E s2.2) (t0 := 0) rfl (Bas_20 E s2.2 _) ?_
      refine go_bvg (fun g5 => ?_)
      refine go_iinc [(1, .int (s2.1 + 1)), (0, .ref (E.1 0))] td_X12_undo 31 rfl (q := 54) rfl 1 rfl kc_1 (Nat.le_of_ble_eq_true rfl) rfl ?_
      refine go_goto td_X12_undo 32 rfl (q := 25) rfl ?_
      refine go_pick [1, 0] (lv' := [(0, .ref (E.1 0)), (1, .int (s2.1 + 1))]) rfl ?_
      exact krec2 (s2.1 + 1) g5
  · refine go_aload_n td_X12_undo 3 rfl (q := 8) rfl 0 rfl ?_
    refine go_iconst td_X12_undo 4 rfl (q := 9) rfl kc_4 ?_
    refine go_callV td_X12_undo 5 rfl (q := 12) rfl (XkB E) lk_X12_217 (ok_fB_M_isRefused E 4 g) ⟨rfl, rfl, Nat.le_of_ble_eq_true rfl, Nat.le_of_ble_eq_true rfl⟩ rfl rfl (Nat.le_of_ble_eq_true rfl) (Bc_0 E g) rfl (fun x6 => ?_)
    show Go (wCB E) _ _ x6.2 12 _ [.int x6.1] _
    exact go_zretb td_X12_undo 6 rfl rfl rfl
def fB_M_seed (a1 : Int32) (g : G) : Option (Int32 × G) := (if 0 ≤ a1 then bv (sS g 62 a1) fun g1 => some (1, g1) else Option.bind (fB_M_isRefused 5 g) fun x2 => bt x2.1 (some (x2.1, x2.2)))
set_option maxRecDepth 20000 in
set_option maxHeartbeats 4000000 in
theorem ok_fB_M_seed (E : Ev) (a1 : Int32) (g : G)  : Ct (wCB E) yX12_seed mi_X12_seed [.ref (E.1 0), .int a1] (fun r => (some (.int r.1), r.2)) g (fB_M_seed a1 g) := by
  refine go_enter rfl rfl (Nat.le_of_ble_eq_true rfl) (lv := [(0, .ref (E.1 0)), (1, .int a1)]) rfl ?_
  unfold fB_M_seed
  refine go_iload_n td_X12_seed 0 rfl (q := 1) rfl 1 rfl ?_
  refine go_if_ge 10 td_X12_seed 1 rfl rfl (q := 4) rfl (fun _ => ?_) (fun _ => ?_)
  · refine go_aload_n td_X12_seed 6 rfl (q := 11) rfl 0 rfl ?_
    refine go_iload_n td_X12_seed 7 rfl (q := 12) rfl 1 rfl ?_
    refine go_put td_X12_seed 8 rfl (q := 15) rfl flp_X12_200 (Bc_0 E g) rfl rfl (Nat.le_of_ble_eq_true rfl) (Bps_62 E g a1) ?_
    refine go_bvg (fun g1 => ?_)
    refine go_iconst td_X12_seed 9 rfl (q := 16) rfl kc_1 ?_
    exact go_zret td_X12_seed 10 rfl rfl rfl rfl
  · refine go_aload_n td_X12_seed 2 rfl (q := 5) rfl 0 rfl ?_
    refine go_iconst td_X12_seed 3 rfl (q := 6) rfl kc_5 ?_
    refine go_callV td_X12_seed 4 rfl (q := 9) rfl (XkB E) lk_X12_217 (ok_fB_M_isRefused E 5 g) ⟨rfl, rfl, Nat.le_of_ble_eq_true rfl, Nat.le_of_ble_eq_true rfl⟩ rfl rfl (Nat.le_of_ble_eq_true rfl) (Bc_0 E g) rfl (fun x2 => ?_)
    show Go (wCB E) _ _ x2.2 9 _ [.int x2.1] _
    exact go_zretb td_X12_seed 5 rfl rfl rfl
def fB_M_says (a1 : Int32) (g : G) : Option (G) := ck 29 (g.1 64) (bv (sA g 29 (g.1 64 : Int32).toNatClampNeg a1) fun g1 => bv (sS g1 64 ((g1.1 64) + 1)) fun g2 => some g2)
set_option maxRecDepth 20000 in
set_option maxHeartbeats 4000000 in
theorem ok_fB_M_says (E : Ev) (a1 : Int32) (g : G)  : Ct (wCB E) yX12_says mi_X12_says [.ref (E.1 0), .int a1] (fun r => (none, r)) g (fB_M_says a1 g) := by
  refine go_enter rfl rfl (Nat.le_of_ble_eq_true rfl) (lv := [(0, .ref (E.1 0)), (1, .int a1)]) rfl ?_
  unfold fB_M_says
  refine go_aload_n td_X12_says 0 rfl (q := 1) rfl 0 rfl ?_
  refine go_get td_X12_says 1 rfl (q := 4) rfl fl_X12_203 (Bc_0 E g) rfl ?_
  refine go_aload_n td_X12_says 2 rfl (q := 5) rfl 0 rfl ?_
  refine go_get td_X12_says 3 rfl (q := 8) rfl fl_X12_206 (Bc_0 E g) rfl ?_
  refine go_iload_n td_X12_says 4 rfl (q := 9) rfl 1 rfl ?_
  refine go_ast td_X12_says 5 rfl (q := 10) rfl (Bc_29 E g) (t0 := 0) rfl (Bas_29 E g _) ?_
  refine go_bvg (fun g1 => ?_)
  refine go_aload_n td_X12_says 6 rfl (q := 11) rfl 0 rfl ?_
  refine go_dup td_X12_says 7 rfl (q := 12) rfl rfl ?_
  refine go_get td_X12_says 8 rfl (q := 15) rfl fl_X12_206 (Bc_0 E g1) rfl ?_
  refine go_iconst td_X12_says 9 rfl (q := 16) rfl kc_1 ?_
  refine go_iadd td_X12_says 10 rfl (q := 17) rfl ?_
  refine go_put td_X12_says 11 rfl (q := 20) rfl flp_X12_206 (Bc_0 E g1) rfl rfl (Nat.le_of_ble_eq_true rfl) (Bps_64 E g1 ((g1.1 64) + 1)) ?_
  refine go_bvg (fun g2 => ?_)
  exact go_vret td_X12_says 12 rfl rfl rfl
def fB_M_image (g : G) : Option (Int32 × G) := bv (sS g 64 0) fun g1 => Lp (α := Int32 × G) (fun rec2 s2 => (if (s2.2.1 4) ≤ s2.1 then Lp (α := Int32 × G) (fun rec3 s3 => (if (s3.2.1 5) ≤ s3.1 then Lp (α := Int32 × Int32) (fun rec4 s4 => (if (s3.2.1 64) ≤ s4.2 then Option.bind (fB_M_says s4.1 s3.2) fun x5 => some (x5.1 64, x5) else ag 29 (s3.2.2.1 29) s4.2 fun x6 => dz 251 (bv (((3 * s4.1) + x6) - ((3 * s4.1) + x6) / 251 * 251) fun x7 => rec4 (x7, s4.2 + 1)))) FU (167, 0) else ag 28 (s3.2.2.1 20) (4 + s3.1) fun x8 => Option.bind (fB_M_says x8 s3.2) fun x9 => ag 28 (x9.2.1 20) (12 + s3.1) fun x10 => Option.bind (fB_M_says x10 x9) fun x11 => ag 28 (x11.2.1 20) (20 + s3.1) fun x12 => Option.bind (fB_M_says x12 x11) fun x13 => rec3 (s3.1 + 1, x13))) FU (0, s2.2) else ag 28 (s2.2.2.1 20) (0 + s2.1) fun x14 => Option.bind (fB_M_says x14 s2.2) fun x15 => rec2 (s2.1 + 1, x15))) FU (0, g1)
set_option maxRecDepth 20000 in
set_option maxHeartbeats 4000000 in
theorem ok_fB_M_image (E : Ev)  (g : G)  : Ct (wCB E) yX12_image mi_X12_image [.ref (E.1 0)] (fun r => (some (.int r.1), r.2)) g (fB_M_image g) := by
  refine go_enter rfl rfl (Nat.le_of_ble_eq_true rfl) (lv := [(0, .ref (E.1 0))]) rfl ?_
  unfold fB_M_image
  refine go_aload_n td_X12_image 0 rfl (q := 1) rfl 0 rfl ?_
  refine go_iconst td_X12_image 1 rfl (q := 2) rfl kc_0 ?_
  refine go_put td_X12_image 2 rfl (q := 5) rfl flp_X12_206 (Bc_0 E g) rfl rfl (Nat.le_of_ble_eq_true rfl) (Bps_64 E g 0) ?_
  refine go_bvg (fun g1 => ?_)
  refine go_iconst td_X12_image 3 rfl (q := 6) rfl kc_0 ?_
  refine go_istore_n [(1, .int 0), (0, .ref (E.1 0))] td_X12_image 4 rfl (q := 7) rfl (Nat.le_of_ble_eq_true rfl) rfl ?_
  refine go_pick [1, 0] (lv' := [(0, .ref (E.1 0)), (1, .int 0)]) rfl ?_
  refine (show ∀ (u2_0 : Int32) (u2_1 : G), Go (wCB E) _ _ u2_1 7 [(0, .ref (E.1 0)), (1, .int u2_0)] [] (Lp (α := Int32 × G) _ FU (u2_0, u2_1)) from ?_) 0 g1
  intro u2_0 u2_1
  refine go_Lp (α := Int32 × G) (fun s2 => s2.2) (fun s2 => [(0, .ref (E.1 0)), (1, .int s2.1)]) ?_ FU (u2_0, u2_1)
  intro rec2 hrec2 s2
  have krec2 : ∀ (u2_0 : Int32) (u2_1 : G), Go (wCB E) _ _ u2_1 7 [(0, .ref (E.1 0)), (1, .int u2_0)] [] (rec2 (u2_0, u2_1)) := fun u2_0 u2_1 => hrec2 (u2_0, u2_1)
  refine go_iload_n td_X12_image 5 rfl (q := 8) rfl 1 rfl ?_
  refine go_aload_n td_X12_image 6 rfl (q := 9) rfl 0 rfl ?_
  refine go_get td_X12_image 7 rfl (q := 12) rfl fl_X12_23 (Bc_0 E s2.2) rfl ?_
  refine go_icmp_ge 33 td_X12_image 8 rfl rfl (q := 15) rfl (fun _ => ?_) (fun _ => ?_)
  · refine go_iconst td_X12_image 19 rfl (q := 34) rfl kc_0 ?_
    refine go_istore_n [(1, .int 0), (0, .ref (E.1 0))] td_X12_image 20 rfl (q := 35) rfl (Nat.le_of_ble_eq_true rfl) rfl ?_
    refine go_pick [1, 0] (lv' := [(0, .ref (E.1 0)), (1, .int 0)]) rfl ?_
    refine (show ∀ (u3_0 : Int32) (u3_1 : G), Go (wCB E) _ _ u3_1 35 [(0, .ref (E.1 0)), (1, .int u3_0)] [] (Lp (α := Int32 × G) _ FU (u3_0, u3_1)) from ?_) 0 s2.2
    intro u3_0 u3_1
    refine go_Lp (α := Int32 × G) (fun s3 => s3.2) (fun s3 => [(0, .ref (E.1 0)), (1, .int s3.1)]) ?_ FU (u3_0, u3_1)
    intro rec3 hrec3 s3
    have krec3 : ∀ (u3_0 : Int32) (u3_1 : G), Go (wCB E) _ _ u3_1 35 [(0, .ref (E.1 0)), (1, .int u3_0)] [] (rec3 (u3_0, u3_1)) := fun u3_0 u3_1 => hrec3 (u3_0, u3_1)
    refine go_iload_n td_X12_image 21 rfl (q := 36) rfl 1 rfl ?_
    refine go_aload_n td_X12_image 22 rfl (q := 37) rfl 0 rfl ?_
    refine go_get td_X12_image 23 rfl (q := 40) rfl fl_X12_26 (Bc_0 E s3.2) rfl ?_
    refine go_icmp_ge 87 td_X12_image 24 rfl rfl (q := 43) rfl (fun _ => ?_) (fun _ => ?_)
    · refine go_sipush td_X12_image 51 rfl (q := 90) rfl ks_167 ?_
      refine go_istore_n [(1, .int 167), (0, .ref (E.1 0))] td_X12_image 52 rfl (q := 91) rfl (Nat.le_of_ble_eq_true rfl) rfl ?_
      refine go_iconst td_X12_image 53 rfl (q := 92) rfl kc_0 ?_
      refine go_istore_n [(2, .int 0), (1, .int 167), (0, .ref (E.1 0))] td_X12_image 54 rfl (q := 93) rfl (Nat.le_of_ble_eq_true rfl) rfl ?_
      refine go_pick [2, 1, 0] (lv' := [(0, .ref (E.1 0)), (1, .int 167), (2, .int 0)]) rfl ?_
      refine (show ∀ (u4_0 : Int32) (u4_1 : Int32), Go (wCB E) _ _ s3.2 93 [(0, .ref (E.1 0)), (1, .int u4_0), (2, .int u4_1)] [] (Lp (α := Int32 × Int32) _ FU (u4_0, u4_1)) from ?_) 167 0
      intro u4_0 u4_1
      refine go_Lp (α := Int32 × Int32) (fun s4 => s3.2) (fun s4 => [(0, .ref (E.1 0)), (1, .int s4.1), (2, .int s4.2)]) ?_ FU (u4_0, u4_1)
      intro rec4 hrec4 s4
      have krec4 : ∀ (u4_0 : Int32) (u4_1 : Int32), Go (wCB E) _ _ s3.2 93 [(0, .ref (E.1 0)), (1, .int u4_0), (2, .int u4_1)] [] (rec4 (u4_0, u4_1)) := fun u4_0 u4_1 => hrec4 (u4_0, u4_1)
      refine go_iload_n td_X12_image 55 rfl (q := 94) rfl 2 rfl ?_
      refine go_aload_n td_X12_image 56 rfl (q := 95) rfl 0 rfl ?_
      refine go_get td_X12_image 57 rfl (q := 98) rfl fl_X12_206 (Bc_0 E s3.2) rfl ?_
      refine go_icmp_ge 122 td_X12_image 58 rfl rfl (q := 101) rfl (fun _ => ?_) (fun _ => ?_)
      · refine go_aload_n td_X12_image 72 rfl (q := 123) rfl 0 rfl ?_
        refine go_iload_n td_X12_image 73 rfl (q := 124) rfl 1 rfl ?_
        refine go_callV td_X12_image 74 rfl (q := 127) rfl (XkB E) lk_X12_452 (ok_fB_M_says E s4.1 s3.2) ⟨rfl, rfl, Nat.le_of_ble_eq_true rfl, Nat.le_of_ble_eq_true rfl⟩ rfl rfl (Nat.le_of_ble_eq_true rfl) (Bc_0 E s3.2) rfl (fun x5 => ?_)
        show Go (wCB E) _ _ x5 127 _ [] _
        refine go_aload_n td_X12_image 75 rfl (q := 128) rfl 0 rfl ?_
        refine go_get td_X12_image 76 rfl (q := 131) rfl fl_X12_206 (Bc_0 E x5) rfl ?_
        exact go_iret td_X12_image 77 rfl rfl rfl
      · refine go_iconst td_X12_image 59 rfl (q := 102) rfl kc_3 ?_
        refine go_iload_n td_X12_image 60 rfl (q := 103) rfl 1 rfl ?_
        refine go_imul td_X12_image 61 rfl (q := 104) rfl ?_
        refine go_aload_n td_X12_image 62 rfl (q := 105) rfl 0 rfl ?_
        refine go_get td_X12_image 63 rfl (q := 108) rfl fl_X12_203 (Bc_0 E s3.2) rfl ?_
        refine go_iload_n td_X12_image 64 rfl (q := 109) rfl 2 rfl ?_
        refine go_ald td_X12_image 65 rfl (q := 110) rfl (Bc_29 E s3.2) (t0 := 0) rfl (fun x6 => ?_)
        refine go_iadd td_X12_image 66 rfl (q := 111) rfl ?_
        refine go_sipush td_X12_image 67 rfl (q := 114) rfl ks_251 ?_
        refine go_irem td_X12_image 68 rfl (q := 115) rfl ?_
        refine go_bvi (fun x7 => ?_)
        refine go_istore_n [(1, .int x7), (0, .ref (E.1 0)), (2, .int s4.2)] td_X12_image 69 rfl (q := 116) rfl (Nat.le_of_ble_eq_true rfl) rfl ?_
        refine go_iinc [(2, .int (s4.2 + 1)), (1, .int x7), (0, .ref (E.1 0))] td_X12_image 70 rfl (q := 119) rfl 2 rfl kc_1 (Nat.le_of_ble_eq_true rfl) rfl ?_
        refine go_goto td_X12_image 71 rfl (q := 93) rfl ?_
        refine go_pick [2, 1, 0] (lv' := [(0, .ref (E.1 0)), (1, .int x7), (2, .int (s4.2 + 1))]) rfl ?_
        exact krec4 x7 (s4.2 + 1)
    · refine go_aload_n td_X12_image 25 rfl (q := 44) rfl 0 rfl ?_
      refine go_aload_n td_X12_image 26 rfl (q := 45) rfl 0 rfl ?_
      refine go_get td_X12_image 27 rfl (q := 48) rfl fl_X12_141 (Bc_0 E s3.2) rfl ?_
      refine go_iconst td_X12_image 28 rfl (q := 49) rfl kc_4 ?_
      refine go_iload_n td_X12_image 29 rfl (q := 50) rfl 1 rfl ?_
      refine go_iadd td_X12_image 30 rfl (q := 51) rfl ?_
      refine go_ald td_X12_image 31 rfl (q := 52) rfl (Bc_20 E s3.2) (t0 := 0) rfl (fun x8 => ?_)
      refine go_callV td_X12_image 32 rfl (q := 55) rfl (XkB E) lk_X12_452 (ok_fB_M_says E x8 s3.2) ⟨rfl, rfl, Nat.le_of_ble_eq_true rfl, Nat.le_of_ble_eq_true rfl⟩ rfl rfl (Nat.le_of_ble_eq_true rfl) (Bc_0 E s3.2) rfl (fun x9 => ?_)
      show Go (wCB E) _ _ x9 55 _ [] _
      refine go_aload_n td_X12_image 33 rfl (q := 56) rfl 0 rfl ?_
      refine go_aload_n td_X12_image 34 rfl (q := 57) rfl 0 rfl ?_
      refine go_get td_X12_image 35 rfl (q := 60) rfl fl_X12_141 (Bc_0 E x9) rfl ?_
      refine go_bipush td_X12_image 36 rfl (q := 62) rfl kb_12 ?_
      refine go_iload_n td_X12_image 37 rfl (q := 63) rfl 1 rfl ?_
      refine go_iadd td_X12_image 38 rfl (q := 64) rfl ?_
      refine go_ald td_X12_image 39 rfl (q := 65) rfl (Bc_20 E x9) (t0 := 0) rfl (fun x10 => ?_)
      refine go_callV td_X12_image 40 rfl (q := 68) rfl (XkB E) lk_X12_452 (ok_fB_M_says E x10 x9) ⟨rfl, rfl, Nat.le_of_ble_eq_true rfl, Nat.le_of_ble_eq_true rfl⟩ rfl rfl (Nat.le_of_ble_eq_true rfl) (Bc_0 E x9) rfl (fun x11 => ?_)
      show Go (wCB E) _ _ x11 68 _ [] _
      refine go_aload_n td_X12_image 41 rfl (q := 69) rfl 0 rfl ?_
      refine go_aload_n td_X12_image 42 rfl (q := 70) rfl 0 rfl ?_
      refine go_get td_X12_image 43 rfl (q := 73) rfl fl_X12_141 (Bc_0 E x11) rfl ?_
      refine go_bipush td_X12_image 44 rfl (q := 75) rfl kb_20 ?_
      refine go_iload_n td_X12_image 45 rfl (q := 76) rfl 1 rfl ?_
      refine go_iadd td_X12_image 46 rfl (q := 77) rfl ?_
      refine go_ald td_X12_image 47 rfl (q := 78) rfl (Bc_20 E x11) (t0 := 0) rfl (fun x12 => ?_)
      refine go_callV td_X12_image 48 rfl (q := 81) rfl (XkB E) lk_X12_452 (ok_fB_M_says E x12 x11) ⟨rfl, rfl, Nat.le_of_ble_eq_true rfl, Nat.le_of_ble_eq_true rfl⟩ rfl rfl (Nat.le_of_ble_eq_true rfl) (Bc_0 E x11) rfl (fun x13 => ?_)
      show Go (wCB E) _ _ x13 81 _ [] _
      refine go_iinc [(1, .int (s3.1 + 1)), (0, .ref (E.1 0))] td_X12_image 49 rfl (q := 84) rfl 1 rfl kc_1 (Nat.le_of_ble_eq_true rfl) rfl ?_
      refine go_goto td_X12_image 50 rfl (q := 35) rfl ?_
      refine go_pick [1, 0] (lv' := [(0, .ref (E.1 0)), (1, .int (s3.1 + 1))]) rfl ?_
      exact krec3 (s3.1 + 1) x13
  · refine go_aload_n td_X12_image 9 rfl (q := 16) rfl 0 rfl ?_
    refine go_aload_n td_X12_image 10 rfl (q := 17) rfl 0 rfl ?_
    refine go_get td_X12_image 11 rfl (q := 20) rfl fl_X12_141 (Bc_0 E s2.2) rfl ?_
    refine go_iconst td_X12_image 12 rfl (q := 21) rfl kc_0 ?_
    refine go_iload_n td_X12_image 13 rfl (q := 22) rfl 1 rfl ?_
    refine go_iadd td_X12_image 14 rfl (q := 23) rfl ?_
    refine go_ald td_X12_image 15 rfl (q := 24) rfl (Bc_20 E s2.2) (t0 := 0) rfl (fun x14 => ?_)
    refine go_callV td_X12_image 16 rfl (q := 27) rfl (XkB E) lk_X12_452 (ok_fB_M_says E x14 s2.2) ⟨rfl, rfl, Nat.le_of_ble_eq_true rfl, Nat.le_of_ble_eq_true rfl⟩ rfl rfl (Nat.le_of_ble_eq_true rfl) (Bc_0 E s2.2) rfl (fun x15 => ?_)
    show Go (wCB E) _ _ x15 27 _ [] _
    refine go_iinc [(1, .int (s2.1 + 1)), (0, .ref (E.1 0))] td_X12_image 17 rfl (q := 30) rfl 1 rfl kc_1 (Nat.le_of_ble_eq_true rfl) rfl ?_
    refine go_goto td_X12_image 18 rfl (q := 7) rfl ?_
    refine go_pick [1, 0] (lv' := [(0, .ref (E.1 0)), (1, .int (s2.1 + 1))]) rfl ?_
    exact krec2 (s2.1 + 1) x15
def fB_M_octet (a1 : Int32) (g : G) : Option (Int32) := Option.bind (fB_M_isIn a1 0 ((g.1 64) - 1) g) fun x1 => (if x1 = 0 then some (-1) else ag 29 (g.2.1 29) a1 fun x2 => some x2)
set_option maxRecDepth 20000 in
set_option maxHeartbeats 4000000 in
theorem ok_fB_M_octet (E : Ev) (a1 : Int32) (g : G)  : Ct (wCB E) yX12_octet mi_X12_octet [.ref (E.1 0), .int a1] (fun r => (some (.int r), g)) g (fB_M_octet a1 g) := by
  refine go_enter rfl rfl (Nat.le_of_ble_eq_true rfl) (lv := [(0, .ref (E.1 0)), (1, .int a1)]) rfl ?_
  unfold fB_M_octet
  refine go_iload_n td_X12_octet 0 rfl (q := 1) rfl 1 rfl ?_
  refine go_iconst td_X12_octet 1 rfl (q := 2) rfl kc_0 ?_
  refine go_aload_n td_X12_octet 2 rfl (q := 3) rfl 0 rfl ?_
  refine go_get td_X12_octet 3 rfl (q := 6) rfl fl_X12_206 (Bc_0 E g) rfl ?_
  refine go_iconst td_X12_octet 4 rfl (q := 7) rfl kc_1 ?_
  refine go_isub td_X12_octet 5 rfl (q := 8) rfl ?_
  refine go_callS td_X12_octet 6 rfl (q := 11) rfl (XkB E) lk_X12_248 (ok_fB_M_isIn E a1 0 ((g.1 64) - 1) g) ⟨rfl, rfl, Nat.le_of_ble_eq_true rfl, Nat.le_of_ble_eq_true rfl⟩ rfl rfl (Nat.le_of_ble_eq_true rfl) (fun x1 => ?_)
  show Go (wCB E) _ _ g 11 _ [.int x1] _
  refine go_if_eq 23 td_X12_octet 7 rfl rfl (q := 14) rfl (fun _ => ?_) (fun _ => ?_)
  · refine go_iconst td_X12_octet 13 rfl (q := 24) rfl kc_m1 ?_
    exact go_iret td_X12_octet 14 rfl rfl rfl
  · refine go_aload_n td_X12_octet 8 rfl (q := 15) rfl 0 rfl ?_
    refine go_get td_X12_octet 9 rfl (q := 18) rfl fl_X12_203 (Bc_0 E g) rfl ?_
    refine go_iload_n td_X12_octet 10 rfl (q := 19) rfl 1 rfl ?_
    refine go_ald td_X12_octet 11 rfl (q := 20) rfl (Bc_29 E g) (t0 := 0) rfl (fun x2 => ?_)
    refine go_goto td_X12_octet 12 rfl (q := 24) rfl ?_
    exact go_iret td_X12_octet 14 rfl rfl rfl
def fB_M_isImage (a1 : Int32) (g : G) : Option (Int32) := bv ((g.1 4) + (3 * (g.1 5))) fun x1 => (if (g.1 0) = 0 then some 0 else (if a1 = (x1 + 1) then Lp (α := Int32 × Int32) (fun rec2 s2 => (if x1 ≤ s2.2 then ag 1600 (g.2.1 17) x1 fun x3 => lj (α := Int32) (fun b4 => Lp (α := Int32 × Int32) (fun rec5 s5 => lj (α := Unit) (fun b6 => Lp (α := Int32 × Int32) (fun rec7 s7 => (if s7.1 = 0 then bt s7.1 (some s7.1) else (if (g.1 5) ≤ s7.2 then bt s7.1 (some s7.1) else bv ((g.1 4) + (3 * s7.2)) fun x8 => ag 1600 (g.2.1 17) x8 fun x9 => lj (α := Int32) (fun b10 => rec7 (b10, s7.2 + 1)) fun J10 => lj (α := Unit) (fun b11 => J10 0) fun J11 => (if 1 < x9 then J11 () else ag 1600 (g.2.1 17) (x8 + 1) fun x12 => Option.bind (fB_M_turnOf s7.2 g) fun x13 => (if x13 ≤ x12 then J11 () else ag 1600 (g.2.1 17) (x8 + 2) fun x14 => (if 12 < x14 then J11 () else J10 1)))))) FU (s5.1, 0)) fun J6 => (if s5.1 = 0 then J6 () else (if (g.1 4) ≤ s5.2 then J6 () else ag 1600 (g.2.1 17) s5.2 fun x15 => lj (α := Int32) (fun b16 => rec5 (b16, s5.2 + 1)) fun J16 => (if (g.1 1) ≤ x15 then J16 0 else J16 1)))) FU (b4, 0)) fun J4 => (if x3 = s2.1 then J4 1 else J4 0) else ag 1600 (g.2.1 17) s2.2 fun x17 => dz 251 (bv (((3 * s2.1) + x17) - ((3 * s2.1) + x17) / 251 * 251) fun x18 => rec2 (x18, s2.2 + 1)))) FU (167, 0) else some 0))
set_option maxRecDepth 20000 in
set_option maxHeartbeats 4000000 in
theorem ok_fB_M_isImage (E : Ev) (a1 : Int32) (g : G)  : Ct (wCB E) yX12_isImage mi_X12_isImage [.ref (E.1 0), .int a1] (fun r => (some (.int r), g)) g (fB_M_isImage a1 g) := by
  refine go_enter rfl rfl (Nat.le_of_ble_eq_true rfl) (lv := [(0, .ref (E.1 0)), (1, .int a1)]) rfl ?_
  unfold fB_M_isImage
  refine go_aload_n td_X12_isImage 0 rfl (q := 1) rfl 0 rfl ?_
  refine go_get td_X12_isImage 1 rfl (q := 4) rfl fl_X12_23 (Bc_0 E g) rfl ?_
  refine go_iconst td_X12_isImage 2 rfl (q := 5) rfl kc_3 ?_
  refine go_aload_n td_X12_isImage 3 rfl (q := 6) rfl 0 rfl ?_
  refine go_get td_X12_isImage 4 rfl (q := 9) rfl fl_X12_26 (Bc_0 E g) rfl ?_
  refine go_imul td_X12_isImage 5 rfl (q := 10) rfl ?_
  refine go_iadd td_X12_isImage 6 rfl (q := 11) rfl ?_
  refine go_bvi (fun x1 => ?_)
  refine go_istore_n [(2, .int x1), (0, .ref (E.1 0)), (1, .int a1)] td_X12_isImage 7 rfl (q := 12) rfl (Nat.le_of_ble_eq_true rfl) rfl ?_
  refine go_aload_n td_X12_isImage 8 rfl (q := 13) rfl 1 rfl ?_
  refine go_get td_X12_isImage 9 rfl (q := 16) rfl fl_X12_7 (Bc_0 E g) rfl ?_
  refine go_if_eq 26 td_X12_isImage 10 rfl rfl (q := 19) rfl (fun _ => ?_) (fun _ => ?_)
  · refine go_iconst td_X12_isImage 16 rfl (q := 27) rfl kc_0 ?_
    exact go_zret td_X12_isImage 17 rfl rfl rfl rfl
  · refine go_iload_n td_X12_isImage 11 rfl (q := 20) rfl 2 rfl ?_
    refine go_iload_n td_X12_isImage 12 rfl (q := 21) rfl 0 rfl ?_
    refine go_iconst td_X12_isImage 13 rfl (q := 22) rfl kc_1 ?_
    refine go_iadd td_X12_isImage 14 rfl (q := 23) rfl ?_
    refine go_icmp_eq 28 td_X12_isImage 15 rfl rfl (q := 26) rfl (fun _ => ?_) (fun _ => ?_)
    · refine go_sipush td_X12_isImage 18 rfl (q := 31) rfl ks_167 ?_
      refine go_istore_n [(3, .int 167), (2, .int x1), (0, .ref (E.1 0)), (1, .int a1)] td_X12_isImage 19 rfl (q := 32) rfl (Nat.le_of_ble_eq_true rfl) rfl ?_
      refine go_iconst td_X12_isImage 20 rfl (q := 33) rfl kc_0 ?_
      refine go_istore [(4, .int 0), (3, .int 167), (2, .int x1), (0, .ref (E.1 0)), (1, .int a1)] td_X12_isImage 21 rfl (q := 35) rfl (Nat.le_of_ble_eq_true rfl) rfl ?_
      refine go_pick [3, 2, 1, 0] (lv' := [(0, .ref (E.1 0)), (2, .int x1), (3, .int 167), (4, .int 0)]) rfl ?_
      refine (show ∀ (u2_0 : Int32) (u2_1 : Int32), Go (wCB E) _ _ g 35 [(0, .ref (E.1 0)), (2, .int x1), (3, .int u2_0), (4, .int u2_1)] [] (Lp (α := Int32 × Int32) _ FU (u2_0, u2_1)) from ?_) 167 0
      intro u2_0 u2_1
      refine go_Lp (α := Int32 × Int32) (fun s2 => g) (fun s2 => [(0, .ref (E.1 0)), (2, .int x1), (3, .int s2.1), (4, .int s2.2)]) ?_ FU (u2_0, u2_1)
      intro rec2 hrec2 s2
      have krec2 : ∀ (u2_0 : Int32) (u2_1 : Int32), Go (wCB E) _ _ g 35 [(0, .ref (E.1 0)), (2, .int x1), (3, .int u2_0), (4, .int u2_1)] [] (rec2 (u2_0, u2_1)) := fun u2_0 u2_1 => hrec2 (u2_0, u2_1)
      refine go_iload td_X12_isImage 22 rfl (q := 37) rfl 3 rfl ?_
      refine go_iload_n td_X12_isImage 23 rfl (q := 38) rfl 1 rfl ?_
      refine go_icmp_ge 63 td_X12_isImage 24 rfl rfl (q := 41) rfl (fun _ => ?_) (fun _ => ?_)
      · refine go_aload_n td_X12_isImage 38 rfl (q := 64) rfl 0 rfl ?_
        refine go_get td_X12_isImage 39 rfl (q := 67) rfl fl_X12_108 (Bc_0 E g) rfl ?_
        refine go_iload_n td_X12_isImage 40 rfl (q := 68) rfl 1 rfl ?_
        refine go_ald td_X12_isImage 41 rfl (q := 69) rfl (Bc_17 E g) (t0 := 0) rfl (fun x3 => ?_)
        refine go_iload_n td_X12_isImage 42 rfl (q := 70) rfl 2 rfl ?_
        refine go_ljX (α := Int32) (fun b4 => [(0, .ref (E.1 0))]) (fun b4 => [.int b4]) (fun b4 => g) 78 ?_ ?_
        · intro b4
          refine go_istore [(4, .int b4), (0, .ref (E.1 0))] td_X12_isImage 47 rfl (q := 80) rfl (Nat.le_of_ble_eq_true rfl) rfl ?_
          refine go_iconst td_X12_isImage 48 rfl (q := 81) rfl kc_0 ?_
          refine go_istore [(5, .int 0), (4, .int b4), (0, .ref (E.1 0))] td_X12_isImage 49 rfl (q := 83) rfl (Nat.le_of_ble_eq_true rfl) rfl ?_
          refine go_pick [2, 1, 0] (lv' := [(0, .ref (E.1 0)), (4, .int b4), (5, .int 0)]) rfl ?_
          refine (show ∀ (u5_0 : Int32) (u5_1 : Int32), Go (wCB E) _ _ g 83 [(0, .ref (E.1 0)), (4, .int u5_0), (5, .int u5_1)] [] (Lp (α := Int32 × Int32) _ FU (u5_0, u5_1)) from ?_) b4 0
          intro u5_0 u5_1
          refine go_Lp (α := Int32 × Int32) (fun s5 => g) (fun s5 => [(0, .ref (E.1 0)), (4, .int s5.1), (5, .int s5.2)]) ?_ FU (u5_0, u5_1)
          intro rec5 hrec5 s5
          have krec5 : ∀ (u5_0 : Int32) (u5_1 : Int32), Go (wCB E) _ _ g 83 [(0, .ref (E.1 0)), (4, .int u5_0), (5, .int u5_1)] [] (rec5 (u5_0, u5_1)) := fun u5_0 u5_1 => hrec5 (u5_0, u5_1)
          refine go_iload td_X12_isImage 50 rfl (q := 85) rfl 1 rfl ?_
          refine go_ljX (α := Unit) (fun b6 => [(0, .ref (E.1 0)), (4, .int s5.1)]) (fun b6 => []) (fun b6 => g) 124 ?_ ?_
          · intro b6
            refine go_iconst td_X12_isImage 69 rfl (q := 125) rfl kc_0 ?_
            refine go_istore [(5, .int 0), (0, .ref (E.1 0)), (4, .int s5.1)] td_X12_isImage 70 rfl (q := 127) rfl (Nat.le_of_ble_eq_true rfl) rfl ?_
            refine go_pick [1, 2, 0] (lv' := [(0, .ref (E.1 0)), (4, .int s5.1), (5, .int 0)]) rfl ?_
            refine (show ∀ (u7_0 : Int32) (u7_1 : Int32), Go (wCB E) _ _ g 127 [(0, .ref (E.1 0)), (4, .int u7_0), (5, .int u7_1)] [] (Lp (α := Int32 × Int32) _ FU (u7_0, u7_1)) from ?_) s5.1 0
            intro u7_0 u7_1
            refine go_Lp (α := Int32 × Int32) (fun s7 => g) (fun s7 => [(0, .ref (E.1 0)), (4, .int s7.1), (5, .int s7.2)]) ?_ FU (u7_0, u7_1)
            intro rec7 hrec7 s7
            have krec7 : ∀ (u7_0 : Int32) (u7_1 : Int32), Go (wCB E) _ _ g 127 [(0, .ref (E.1 0)), (4, .int u7_0), (5, .int u7_1)] [] (rec7 (u7_0, u7_1)) := fun u7_0 u7_1 => hrec7 (u7_0, u7_1)
            refine go_iload td_X12_isImage 71 rfl (q := 129) rfl 1 rfl ?_
            refine go_if_eq 208 td_X12_isImage 72 rfl rfl (q := 132) rfl (fun _ => ?_) (fun _ => ?_)
            · refine go_iload td_X12_isImage 114 rfl (q := 210) rfl 1 rfl ?_
              exact go_zretb td_X12_isImage 115 rfl rfl rfl
            · refine go_iload td_X12_isImage 73 rfl (q := 134) rfl 2 rfl ?_
              refine go_aload_n td_X12_isImage 74 rfl (q := 135) rfl 0 rfl ?_
              refine go_get td_X12_isImage 75 rfl (q := 138) rfl fl_X12_26 (Bc_0 E g) rfl ?_
              refine go_icmp_ge 208 td_X12_isImage 76 rfl rfl (q := 141) rfl (fun _ => ?_) (fun _ => ?_)
              · refine go_iload td_X12_isImage 114 rfl (q := 210) rfl 1 rfl ?_
                exact go_zretb td_X12_isImage 115 rfl rfl rfl
              · refine go_aload_n td_X12_isImage 77 rfl (q := 142) rfl 0 rfl ?_
                refine go_get td_X12_isImage 78 rfl (q := 145) rfl fl_X12_23 (Bc_0 E g) rfl ?_
                refine go_iconst td_X12_isImage 79 rfl (q := 146) rfl kc_3 ?_
                refine go_iload td_X12_isImage 80 rfl (q := 148) rfl 2 rfl ?_
                refine go_imul td_X12_isImage 81 rfl (q := 149) rfl ?_
                refine go_iadd td_X12_isImage 82 rfl (q := 150) rfl ?_
                refine go_bvi (fun x8 => ?_)
                refine go_istore [(6, .int x8), (0, .ref (E.1 0)), (4, .int s7.1), (5, .int s7.2)] td_X12_isImage 83 rfl (q := 152) rfl (Nat.le_of_ble_eq_true rfl) rfl ?_
                refine go_aload_n td_X12_isImage 84 rfl (q := 153) rfl 1 rfl ?_
                refine go_get td_X12_isImage 85 rfl (q := 156) rfl fl_X12_108 (Bc_0 E g) rfl ?_
                refine go_iload td_X12_isImage 86 rfl (q := 158) rfl 0 rfl ?_
                refine go_ald td_X12_isImage 87 rfl (q := 159) rfl (Bc_17 E g) (t0 := 0) rfl (fun x9 => ?_)
                refine go_iconst td_X12_isImage 88 rfl (q := 160) rfl kc_1 ?_
                refine go_ljX (α := Int32) (fun b10 => [(0, .ref (E.1 0)), (5, .int s7.2)]) (fun b10 => [.int b10]) (fun b10 => g) 200 ?_ ?_
                · intro b10
                  refine go_istore [(4, .int b10), (0, .ref (E.1 0)), (5, .int s7.2)] td_X12_isImage 111 rfl (q := 202) rfl (Nat.le_of_ble_eq_true rfl) rfl ?_
                  refine go_iinc [(5, .int (s7.2 + 1)), (4, .int b10), (0, .ref (E.1 0))] td_X12_isImage 112 rfl (q := 205) rfl 2 rfl kc_1 (Nat.le_of_ble_eq_true rfl) rfl ?_
                  refine go_goto td_X12_isImage 113 rfl (q := 127) rfl ?_
                  refine go_pick [2, 1, 0] (lv' := [(0, .ref (E.1 0)), (4, .int b10), (5, .int (s7.2 + 1))]) rfl ?_
                  exact krec7 b10 (s7.2 + 1)
                intro J10 hJ10
                have kJ10 : ∀ (u10_0 : Int32), Go (wCB E) _ _ g 200 [(0, .ref (E.1 0)), (5, .int s7.2)] [.int u10_0] (J10 u10_0) := fun u10_0 => hJ10 u10_0
                refine go_ljX (α := Unit) (fun b11 => [(0, .ref (E.1 0)), (5, .int s7.2)]) (fun b11 => []) (fun b11 => g) 199 ?_ ?_
                · intro b11
                  refine go_iconst td_X12_isImage 110 rfl (q := 200) rfl kc_0 ?_
                  refine go_pick [0, 1] (lv' := [(0, .ref (E.1 0)), (5, .int s7.2)]) rfl ?_
                  exact kJ10 0
                intro J11 hJ11
                have kJ11 : Go (wCB E) _ _ g 199 [(0, .ref (E.1 0)), (5, .int s7.2)] [] (J11 ()) := hJ11 ()
                refine go_icmp_gt 199 td_X12_isImage 89 rfl rfl (q := 163) rfl (fun _ => ?_) (fun _ => ?_)
                · refine go_pick [1, 3] (lv' := [(0, .ref (E.1 0)), (5, .int s7.2)]) rfl ?_
                  exact kJ11 
                · refine go_aload_n td_X12_isImage 90 rfl (q := 164) rfl 1 rfl ?_
                  refine go_get td_X12_isImage 91 rfl (q := 167) rfl fl_X12_108 (Bc_0 E g) rfl ?_
                  refine go_iload td_X12_isImage 92 rfl (q := 169) rfl 0 rfl ?_
                  refine go_iconst td_X12_isImage 93 rfl (q := 170) rfl kc_1 ?_
                  refine go_iadd td_X12_isImage 94 rfl (q := 171) rfl ?_
                  refine go_ald td_X12_isImage 95 rfl (q := 172) rfl (Bc_17 E g) (t0 := 0) rfl (fun x12 => ?_)
                  refine go_aload_n td_X12_isImage 96 rfl (q := 173) rfl 1 rfl ?_
                  refine go_iload td_X12_isImage 97 rfl (q := 175) rfl 3 rfl ?_
                  refine go_callV td_X12_isImage 98 rfl (q := 178) rfl (XkB E) lk_X12_305 (ok_fB_M_turnOf E s7.2 g) ⟨rfl, rfl, Nat.le_of_ble_eq_true rfl, Nat.le_of_ble_eq_true rfl⟩ rfl rfl (Nat.le_of_ble_eq_true rfl) (Bc_0 E g) rfl (fun x13 => ?_)
                  show Go (wCB E) _ _ g 178 _ [.int x13, .int x12] _
                  refine go_icmp_ge 199 td_X12_isImage 99 rfl rfl (q := 181) rfl (fun _ => ?_) (fun _ => ?_)
                  · refine go_pick [1, 3] (lv' := [(0, .ref (E.1 0)), (5, .int s7.2)]) rfl ?_
                    exact kJ11 
                  · refine go_aload_n td_X12_isImage 100 rfl (q := 182) rfl 1 rfl ?_
                    refine go_get td_X12_isImage 101 rfl (q := 185) rfl fl_X12_108 (Bc_0 E g) rfl ?_
                    refine go_iload td_X12_isImage 102 rfl (q := 187) rfl 0 rfl ?_
                    refine go_iconst td_X12_isImage 103 rfl (q := 188) rfl kc_2 ?_
                    refine go_iadd td_X12_isImage 104 rfl (q := 189) rfl ?_
                    refine go_ald td_X12_isImage 105 rfl (q := 190) rfl (Bc_17 E g) (t0 := 0) rfl (fun x14 => ?_)
                    refine go_bipush td_X12_isImage 106 rfl (q := 192) rfl kb_12 ?_
                    refine go_icmp_gt 199 td_X12_isImage 107 rfl rfl (q := 195) rfl (fun _ => ?_) (fun _ => ?_)
                    · refine go_pick [1, 3] (lv' := [(0, .ref (E.1 0)), (5, .int s7.2)]) rfl ?_
                      exact kJ11 
                    · refine go_iconst td_X12_isImage 108 rfl (q := 196) rfl kc_1 ?_
                      refine go_goto td_X12_isImage 109 rfl (q := 200) rfl ?_
                      refine go_pick [1, 3] (lv' := [(0, .ref (E.1 0)), (5, .int s7.2)]) rfl ?_
                      exact kJ10 1
          intro J6 hJ6
          have kJ6 : Go (wCB E) _ _ g 124 [(0, .ref (E.1 0)), (4, .int s5.1)] [] (J6 ()) := hJ6 ()
          refine go_if_eq 124 td_X12_isImage 51 rfl rfl (q := 88) rfl (fun _ => ?_) (fun _ => ?_)
          · refine go_pick [0, 1] (lv' := [(0, .ref (E.1 0)), (4, .int s5.1)]) rfl ?_
            exact kJ6 
          · refine go_iload td_X12_isImage 52 rfl (q := 90) rfl 2 rfl ?_
            refine go_aload_n td_X12_isImage 53 rfl (q := 91) rfl 0 rfl ?_
            refine go_get td_X12_isImage 54 rfl (q := 94) rfl fl_X12_23 (Bc_0 E g) rfl ?_
            refine go_icmp_ge 124 td_X12_isImage 55 rfl rfl (q := 97) rfl (fun _ => ?_) (fun _ => ?_)
            · refine go_pick [0, 1] (lv' := [(0, .ref (E.1 0)), (4, .int s5.1)]) rfl ?_
              exact kJ6 
            · refine go_aload_n td_X12_isImage 56 rfl (q := 98) rfl 0 rfl ?_
              refine go_get td_X12_isImage 57 rfl (q := 101) rfl fl_X12_108 (Bc_0 E g) rfl ?_
              refine go_iload td_X12_isImage 58 rfl (q := 103) rfl 2 rfl ?_
              refine go_ald td_X12_isImage 59 rfl (q := 104) rfl (Bc_17 E g) (t0 := 0) rfl (fun x15 => ?_)
              refine go_aload_n td_X12_isImage 60 rfl (q := 105) rfl 0 rfl ?_
              refine go_get td_X12_isImage 61 rfl (q := 108) rfl fl_X12_13 (Bc_0 E g) rfl ?_
              refine go_ljX (α := Int32) (fun b16 => [(0, .ref (E.1 0)), (5, .int s5.2)]) (fun b16 => [.int b16]) (fun b16 => g) 116 ?_ ?_
              · intro b16
                refine go_istore [(4, .int b16), (0, .ref (E.1 0)), (5, .int s5.2)] td_X12_isImage 66 rfl (q := 118) rfl (Nat.le_of_ble_eq_true rfl) rfl ?_
                refine go_iinc [(5, .int (s5.2 + 1)), (4, .int b16), (0, .ref (E.1 0))] td_X12_isImage 67 rfl (q := 121) rfl 2 rfl kc_1 (Nat.le_of_ble_eq_true rfl) rfl ?_
                refine go_goto td_X12_isImage 68 rfl (q := 83) rfl ?_
                refine go_pick [2, 1, 0] (lv' := [(0, .ref (E.1 0)), (4, .int b16), (5, .int (s5.2 + 1))]) rfl ?_
                exact krec5 b16 (s5.2 + 1)
              intro J16 hJ16
              have kJ16 : ∀ (u16_0 : Int32), Go (wCB E) _ _ g 116 [(0, .ref (E.1 0)), (5, .int s5.2)] [.int u16_0] (J16 u16_0) := fun u16_0 => hJ16 u16_0
              refine go_icmp_ge 115 td_X12_isImage 62 rfl rfl (q := 111) rfl (fun _ => ?_) (fun _ => ?_)
              · refine go_iconst td_X12_isImage 65 rfl (q := 116) rfl kc_0 ?_
                refine go_pick [0, 2] (lv' := [(0, .ref (E.1 0)), (5, .int s5.2)]) rfl ?_
                exact kJ16 0
              · refine go_iconst td_X12_isImage 63 rfl (q := 112) rfl kc_1 ?_
                refine go_goto td_X12_isImage 64 rfl (q := 116) rfl ?_
                refine go_pick [0, 2] (lv' := [(0, .ref (E.1 0)), (5, .int s5.2)]) rfl ?_
                exact kJ16 1
        intro J4 hJ4
        have kJ4 : ∀ (u4_0 : Int32), Go (wCB E) _ _ g 78 [(0, .ref (E.1 0))] [.int u4_0] (J4 u4_0) := fun u4_0 => hJ4 u4_0
        refine go_icmp_ne 77 td_X12_isImage 43 rfl rfl (q := 73) rfl (fun _ => ?_) (fun _ => ?_)
        · refine go_iconst td_X12_isImage 46 rfl (q := 78) rfl kc_0 ?_
          refine go_pick [0] (lv' := [(0, .ref (E.1 0))]) rfl ?_
          exact kJ4 0
        · refine go_iconst td_X12_isImage 44 rfl (q := 74) rfl kc_1 ?_
          refine go_goto td_X12_isImage 45 rfl (q := 78) rfl ?_
          refine go_pick [0] (lv' := [(0, .ref (E.1 0))]) rfl ?_
          exact kJ4 1
      · refine go_iconst td_X12_isImage 25 rfl (q := 42) rfl kc_3 ?_
        refine go_iload_n td_X12_isImage 26 rfl (q := 43) rfl 2 rfl ?_
        refine go_imul td_X12_isImage 27 rfl (q := 44) rfl ?_
        refine go_aload_n td_X12_isImage 28 rfl (q := 45) rfl 0 rfl ?_
        refine go_get td_X12_isImage 29 rfl (q := 48) rfl fl_X12_108 (Bc_0 E g) rfl ?_
        refine go_iload td_X12_isImage 30 rfl (q := 50) rfl 3 rfl ?_
        refine go_ald td_X12_isImage 31 rfl (q := 51) rfl (Bc_17 E g) (t0 := 0) rfl (fun x17 => ?_)
        refine go_iadd td_X12_isImage 32 rfl (q := 52) rfl ?_
        refine go_sipush td_X12_isImage 33 rfl (q := 55) rfl ks_251 ?_
        refine go_irem td_X12_isImage 34 rfl (q := 56) rfl ?_
        refine go_bvi (fun x18 => ?_)
        refine go_istore_n [(3, .int x18), (0, .ref (E.1 0)), (2, .int x1), (4, .int s2.2)] td_X12_isImage 35 rfl (q := 57) rfl (Nat.le_of_ble_eq_true rfl) rfl ?_
        refine go_iinc [(4, .int (s2.2 + 1)), (3, .int x18), (0, .ref (E.1 0)), (2, .int x1)] td_X12_isImage 36 rfl (q := 60) rfl 3 rfl kc_1 (Nat.le_of_ble_eq_true rfl) rfl ?_
        refine go_goto td_X12_isImage 37 rfl (q := 35) rfl ?_
        refine go_pick [2, 3, 1, 0] (lv' := [(0, .ref (E.1 0)), (2, .int x1), (3, .int x18), (4, .int (s2.2 + 1))]) rfl ?_
        exact krec2 x18 (s2.2 + 1)
    · refine go_iconst td_X12_isImage 16 rfl (q := 27) rfl kc_0 ?_
      exact go_zret td_X12_isImage 17 rfl rfl rfl rfl
def fB_M_on (g : G) : Option (Int32 × G) := Option.bind (fB_M_taken g) fun x1 => Option.bind (fB_M_isImage x1.1 x1.2) fun x2 => (if x2 = 0 then Option.bind (fB_M_isRefused 5 x1.2) fun x15 => bt x15.1 (some (x15.1, x15.2)) else Lp (α := Int32 × G) (fun rec3 s3 => (if (s3.2.1 4) ≤ s3.1 then Lp (α := Int32 × G) (fun rec4 s4 => (if (s4.2.1 5) ≤ s4.1 then bv (sS s4.2 45 0) fun g5 => bv (sS g5 47 0) fun g6 => some (1, g6) else ag 1600 (s4.2.2.1 17) ((s4.2.1 4) + (3 * s4.1)) fun x7 => ck 28 (4 + s4.1) (bv (sA s4.2 20 (4 + s4.1 : Int32).toNatClampNeg x7) fun g8 => ag 1600 (g8.2.1 17) (((g8.1 4) + (3 * s4.1)) + 1) fun x9 => ck 28 (12 + s4.1) (bv (sA g8 20 (12 + s4.1 : Int32).toNatClampNeg x9) fun g10 => ag 1600 (g10.2.1 17) (((g10.1 4) + (3 * s4.1)) + 2) fun x11 => ck 28 (20 + s4.1) (bv (sA g10 20 (20 + s4.1 : Int32).toNatClampNeg x11) fun g12 => rec4 (s4.1 + 1, g12)))))) FU (0, s3.2) else ag 1600 (s3.2.2.1 17) s3.1 fun x13 => ck 28 (0 + s3.1) (bv (sA s3.2 20 (0 + s3.1 : Int32).toNatClampNeg x13) fun g14 => rec3 (s3.1 + 1, g14)))) FU (0, x1.2))
set_option maxRecDepth 20000 in
set_option maxHeartbeats 4000000 in
theorem ok_fB_M_on (E : Ev)  (g : G)  : Ct (wCB E) yX12_on mi_X12_on [.ref (E.1 0)] (fun r => (some (.int r.1), r.2)) g (fB_M_on g) := by
  refine go_enter rfl rfl (Nat.le_of_ble_eq_true rfl) (lv := [(0, .ref (E.1 0))]) rfl ?_
  unfold fB_M_on
  refine go_aload_n td_X12_on 0 rfl (q := 1) rfl 0 rfl ?_
  refine go_callV td_X12_on 1 rfl (q := 4) rfl (XkB E) lk_X12_296 (ok_fB_M_taken E g) ⟨rfl, rfl, Nat.le_of_ble_eq_true rfl, Nat.le_of_ble_eq_true rfl⟩ rfl rfl (Nat.le_of_ble_eq_true rfl) (Bc_0 E g) rfl (fun x1 => ?_)
  show Go (wCB E) _ _ x1.2 4 _ [.int x1.1] _
  refine go_istore_n [(1, .int x1.1), (0, .ref (E.1 0))] td_X12_on 2 rfl (q := 5) rfl (Nat.le_of_ble_eq_true rfl) rfl ?_
  refine go_aload_n td_X12_on 3 rfl (q := 6) rfl 1 rfl ?_
  refine go_iload_n td_X12_on 4 rfl (q := 7) rfl 0 rfl ?_
  refine go_callV td_X12_on 5 rfl (q := 10) rfl (XkB E) lk_X12_455 (ok_fB_M_isImage E x1.1 x1.2) ⟨rfl, rfl, Nat.le_of_ble_eq_true rfl, Nat.le_of_ble_eq_true rfl⟩ rfl rfl (Nat.le_of_ble_eq_true rfl) (Bc_0 E x1.2) rfl (fun x2 => ?_)
  show Go (wCB E) _ _ x1.2 10 _ [.int x2] _
  refine go_if_ne 19 td_X12_on 6 rfl rfl (q := 13) rfl (fun _ => ?_) (fun _ => ?_)
  · refine go_iconst td_X12_on 11 rfl (q := 20) rfl kc_0 ?_
    refine go_istore_n [(2, .int 0), (1, .int x1.1), (0, .ref (E.1 0))] td_X12_on 12 rfl (q := 21) rfl (Nat.le_of_ble_eq_true rfl) rfl ?_
    refine go_pick [2, 0] (lv' := [(0, .ref (E.1 0)), (2, .int 0)]) rfl ?_
    refine (show ∀ (u3_0 : Int32) (u3_1 : G), Go (wCB E) _ _ u3_1 21 [(0, .ref (E.1 0)), (2, .int u3_0)] [] (Lp (α := Int32 × G) _ FU (u3_0, u3_1)) from ?_) 0 x1.2
    intro u3_0 u3_1
    refine go_Lp (α := Int32 × G) (fun s3 => s3.2) (fun s3 => [(0, .ref (E.1 0)), (2, .int s3.1)]) ?_ FU (u3_0, u3_1)
    intro rec3 hrec3 s3
    have krec3 : ∀ (u3_0 : Int32) (u3_1 : G), Go (wCB E) _ _ u3_1 21 [(0, .ref (E.1 0)), (2, .int u3_0)] [] (rec3 (u3_0, u3_1)) := fun u3_0 u3_1 => hrec3 (u3_0, u3_1)
    refine go_iload_n td_X12_on 13 rfl (q := 22) rfl 1 rfl ?_
    refine go_aload_n td_X12_on 14 rfl (q := 23) rfl 0 rfl ?_
    refine go_get td_X12_on 15 rfl (q := 26) rfl fl_X12_23 (Bc_0 E s3.2) rfl ?_
    refine go_icmp_ge 49 td_X12_on 16 rfl rfl (q := 29) rfl (fun _ => ?_) (fun _ => ?_)
    · refine go_iconst td_X12_on 29 rfl (q := 50) rfl kc_0 ?_
      refine go_istore_n [(2, .int 0), (0, .ref (E.1 0))] td_X12_on 30 rfl (q := 51) rfl (Nat.le_of_ble_eq_true rfl) rfl ?_
      refine go_pick [1, 0] (lv' := [(0, .ref (E.1 0)), (2, .int 0)]) rfl ?_
      refine (show ∀ (u4_0 : Int32) (u4_1 : G), Go (wCB E) _ _ u4_1 51 [(0, .ref (E.1 0)), (2, .int u4_0)] [] (Lp (α := Int32 × G) _ FU (u4_0, u4_1)) from ?_) 0 s3.2
      intro u4_0 u4_1
      refine go_Lp (α := Int32 × G) (fun s4 => s4.2) (fun s4 => [(0, .ref (E.1 0)), (2, .int s4.1)]) ?_ FU (u4_0, u4_1)
      intro rec4 hrec4 s4
      have krec4 : ∀ (u4_0 : Int32) (u4_1 : G), Go (wCB E) _ _ u4_1 51 [(0, .ref (E.1 0)), (2, .int u4_0)] [] (rec4 (u4_0, u4_1)) := fun u4_0 u4_1 => hrec4 (u4_0, u4_1)
      refine go_iload_n td_X12_on 31 rfl (q := 52) rfl 1 rfl ?_
      refine go_aload_n td_X12_on 32 rfl (q := 53) rfl 0 rfl ?_
      refine go_get td_X12_on 33 rfl (q := 56) rfl fl_X12_26 (Bc_0 E s4.2) rfl ?_
      refine go_icmp_ge 134 td_X12_on 34 rfl rfl (q := 59) rfl (fun _ => ?_) (fun _ => ?_)
      · refine go_aload_n td_X12_on 86 rfl (q := 135) rfl 0 rfl ?_
        refine go_iconst td_X12_on 87 rfl (q := 136) rfl kc_0 ?_
        refine go_put td_X12_on 88 rfl (q := 139) rfl flp_X12_147 (Bc_0 E s4.2) rfl rfl (Nat.le_of_ble_eq_true rfl) (Bps_45 E s4.2 0) ?_
        refine go_bvg (fun g5 => ?_)
        refine go_aload_n td_X12_on 89 rfl (q := 140) rfl 0 rfl ?_
        refine go_iconst td_X12_on 90 rfl (q := 141) rfl kc_0 ?_
        refine go_put td_X12_on 91 rfl (q := 144) rfl flp_X12_154 (Bc_0 E g5) rfl rfl (Nat.le_of_ble_eq_true rfl) (Bps_47 E g5 0) ?_
        refine go_bvg (fun g6 => ?_)
        refine go_iconst td_X12_on 92 rfl (q := 145) rfl kc_1 ?_
        exact go_zret td_X12_on 93 rfl rfl rfl rfl
      · refine go_aload_n td_X12_on 35 rfl (q := 60) rfl 0 rfl ?_
        refine go_get td_X12_on 36 rfl (q := 63) rfl fl_X12_141 (Bc_0 E s4.2) rfl ?_
        refine go_iconst td_X12_on 37 rfl (q := 64) rfl kc_4 ?_
        refine go_iload_n td_X12_on 38 rfl (q := 65) rfl 1 rfl ?_
        refine go_iadd td_X12_on 39 rfl (q := 66) rfl ?_
        refine go_aload_n td_X12_on 40 rfl (q := 67) rfl 0 rfl ?_
        refine go_get td_X12_on 41 rfl (q := 70) rfl fl_X12_108 (Bc_0 E s4.2) rfl ?_
        refine go_aload_n td_X12_on 42 rfl (q := 71) rfl 0 rfl ?_
        refine go_get td_X12_on 43 rfl (q := 74) rfl fl_X12_23 (Bc_0 E s4.2) rfl ?_
        refine go_iconst td_X12_on 44 rfl (q := 75) rfl kc_3 ?_
        refine go_iload_n td_X12_on 45 rfl (q := 76) rfl 1 rfl ?_
        refine go_imul td_X12_on 46 rfl (q := 77) rfl ?_
        refine go_iadd td_X12_on 47 rfl (q := 78) rfl ?_
        refine go_ald td_X12_on 48 rfl (q := 79) rfl (Bc_17 E s4.2) (t0 := 0) rfl (fun x7 => ?_)
        refine go_ast td_X12_on 49 rfl (q := 80) rfl (Bc_20 E s4.2) (t0 := 0) rfl (Bas_20 E s4.2 _) ?_
        refine go_bvg (fun g8 => ?_)
        refine go_aload_n td_X12_on 50 rfl (q := 81) rfl 0 rfl ?_
        refine go_get td_X12_on 51 rfl (q := 84) rfl fl_X12_141 (Bc_0 E g8) rfl ?_
        refine go_bipush td_X12_on 52 rfl (q := 86) rfl kb_12 ?_
        refine go_iload_n td_X12_on 53 rfl (q := 87) rfl 1 rfl ?_
        refine go_iadd td_X12_on 54 rfl (q := 88) rfl ?_
        refine go_aload_n td_X12_on 55 rfl (q := 89) rfl 0 rfl ?_
        refine go_get td_X12_on 56 rfl (q := 92) rfl fl_X12_108 (Bc_0 E g8) rfl ?_
        refine go_aload_n td_X12_on 57 rfl (q := 93) rfl 0 rfl ?_
        refine go_get td_X12_on 58 rfl (q := 96) rfl fl_X12_23 (Bc_0 E g8) rfl ?_
        refine go_iconst td_X12_on 59 rfl (q := 97) rfl kc_3 ?_
        refine go_iload_n td_X12_on 60 rfl (q := 98) rfl 1 rfl ?_
        refine go_imul td_X12_on 61 rfl (q := 99) rfl ?_
        refine go_iadd td_X12_on 62 rfl (q := 100) rfl ?_
        refine go_iconst td_X12_on 63 rfl (q := 101) rfl kc_1 ?_
        refine go_iadd td_X12_on 64 rfl (q := 102) rfl ?_
        refine go_ald td_X12_on 65 rfl (q := 103) rfl (Bc_17 E g8) (t0 := 0) rfl (fun x9 => ?_)
        refine go_ast td_X12_on 66 rfl (q := 104) rfl (Bc_20 E g8) (t0 := 0) rfl (Bas_20 E g8 _) ?_
        refine go_bvg (fun g10 => ?_)
        refine go_aload_n td_X12_on 67 rfl (q := 105) rfl 0 rfl ?_
        refine go_get td_X12_on 68 rfl (q := 108) rfl fl_X12_141 (Bc_0 E g10) rfl ?_
        refine go_bipush td_X12_on 69 rfl (q := 110) rfl kb_20 ?_
        refine go_iload_n td_X12_on 70 rfl (q := 111) rfl 1 rfl ?_
        refine go_iadd td_X12_on 71 rfl (q := 112) rfl ?_
        refine go_aload_n td_X12_on 72 rfl (q := 113) rfl 0 rfl ?_
        refine go_get td_X12_on 73 rfl (q := 116) rfl fl_X12_108 (Bc_0 E g10) rfl ?_
        refine go_aload_n td_X12_on 74 rfl (q := 117) rfl 0 rfl ?_
        refine go_get td_X12_on 75 rfl (q := 120) rfl fl_X12_23 (Bc_0 E g10) rfl ?_
        refine go_iconst td_X12_on 76 rfl (q := 121) rfl kc_3 ?_
        refine go_iload_n td_X12_on 77 rfl (q := 122) rfl 1 rfl ?_
        refine go_imul td_X12_on 78 rfl (q := 123) rfl ?_
        refine go_iadd td_X12_on 79 rfl (q := 124) rfl ?_
        refine go_iconst td_X12_on 80 rfl (q := 125) rfl kc_2 ?_
        refine go_iadd td_X12_on 81 rfl (q := 126) rfl ?_
        refine go_ald td_X12_on 82 rfl (q := 127) rfl (Bc_17 E g10) (t0 := 0) rfl (fun x11 => ?_)
        refine go_ast td_X12_on 83 rfl (q := 128) rfl (Bc_20 E g10) (t0 := 0) rfl (Bas_20 E g10 _) ?_
        refine go_bvg (fun g12 => ?_)
        refine go_iinc [(2, .int (s4.1 + 1)), (0, .ref (E.1 0))] td_X12_on 84 rfl (q := 131) rfl 1 rfl kc_1 (Nat.le_of_ble_eq_true rfl) rfl ?_
        refine go_goto td_X12_on 85 rfl (q := 51) rfl ?_
        refine go_pick [1, 0] (lv' := [(0, .ref (E.1 0)), (2, .int (s4.1 + 1))]) rfl ?_
        exact krec4 (s4.1 + 1) g12
    · refine go_aload_n td_X12_on 17 rfl (q := 30) rfl 0 rfl ?_
      refine go_get td_X12_on 18 rfl (q := 33) rfl fl_X12_141 (Bc_0 E s3.2) rfl ?_
      refine go_iconst td_X12_on 19 rfl (q := 34) rfl kc_0 ?_
      refine go_iload_n td_X12_on 20 rfl (q := 35) rfl 1 rfl ?_
      refine go_iadd td_X12_on 21 rfl (q := 36) rfl ?_
      refine go_aload_n td_X12_on 22 rfl (q := 37) rfl 0 rfl ?_
      refine go_get td_X12_on 23 rfl (q := 40) rfl fl_X12_108 (Bc_0 E s3.2) rfl ?_
      refine go_iload_n td_X12_on 24 rfl (q := 41) rfl 1 rfl ?_
      refine go_ald td_X12_on 25 rfl (q := 42) rfl (Bc_17 E s3.2) (t0 := 0) rfl (fun x13 => ?_)
      refine go_ast td_X12_on 26 rfl (q := 43) rfl (Bc_20 E s3.2) (t0 := 0) rfl (Bas_20 E s3.2 _) ?_
      refine go_bvg (fun g14 => ?_)
      refine go_iinc [(2, .int (s3.1 + 1)), (0, .ref (E.1 0))] td_X12_on 27 rfl (q := 46) rfl 1 rfl kc_1 (Nat.le_of_ble_eq_true rfl) rfl ?_
      refine go_goto td_X12_on 28 rfl (q := 21) rfl ?_
      refine go_pick [1, 0] (lv' := [(0, .ref (E.1 0)), (2, .int (s3.1 + 1))]) rfl ?_
      exact krec3 (s3.1 + 1) g14
  · refine go_aload_n td_X12_on 7 rfl (q := 14) rfl 1 rfl ?_
    refine go_iconst td_X12_on 8 rfl (q := 15) rfl kc_5 ?_
    refine go_callV td_X12_on 9 rfl (q := 18) rfl (XkB E) lk_X12_217 (ok_fB_M_isRefused E 5 x1.2) ⟨rfl, rfl, Nat.le_of_ble_eq_true rfl, Nat.le_of_ble_eq_true rfl⟩ rfl rfl (Nat.le_of_ble_eq_true rfl) (Bc_0 E x1.2) rfl (fun x15 => ?_)
    show Go (wCB E) _ _ x15.2 18 _ [.int x15.1] _
    exact go_zretb td_X12_on 10 rfl rfl rfl
def fB_M_status (a1 : Int32) (g : G) : Option (Int32) := Option.bind (fB_M_isIn a1 0 5 g) fun x1 => (if x1 = 0 then some (-1) else ag 6 (g.2.1 18) a1 fun x2 => some x2)
set_option maxRecDepth 20000 in
set_option maxHeartbeats 4000000 in
theorem ok_fB_M_status (E : Ev) (a1 : Int32) (g : G)  : Ct (wCB E) yX12_status mi_X12_status [.ref (E.1 0), .int a1] (fun r => (some (.int r), g)) g (fB_M_status a1 g) := by
  refine go_enter rfl rfl (Nat.le_of_ble_eq_true rfl) (lv := [(0, .ref (E.1 0)), (1, .int a1)]) rfl ?_
  unfold fB_M_status
  refine go_iload_n td_X12_status 0 rfl (q := 1) rfl 1 rfl ?_
  refine go_iconst td_X12_status 1 rfl (q := 2) rfl kc_0 ?_
  refine go_iconst td_X12_status 2 rfl (q := 3) rfl kc_5 ?_
  refine go_callS td_X12_status 3 rfl (q := 6) rfl (XkB E) lk_X12_248 (ok_fB_M_isIn E a1 0 5 g) ⟨rfl, rfl, Nat.le_of_ble_eq_true rfl, Nat.le_of_ble_eq_true rfl⟩ rfl rfl (Nat.le_of_ble_eq_true rfl) (fun x1 => ?_)
  show Go (wCB E) _ _ g 6 _ [.int x1] _
  refine go_if_eq 18 td_X12_status 4 rfl rfl (q := 9) rfl (fun _ => ?_) (fun _ => ?_)
  · refine go_iconst td_X12_status 10 rfl (q := 19) rfl kc_m1 ?_
    exact go_iret td_X12_status 11 rfl rfl rfl
  · refine go_aload_n td_X12_status 5 rfl (q := 10) rfl 0 rfl ?_
    refine go_get td_X12_status 6 rfl (q := 13) rfl fl_X12_114 (Bc_0 E g) rfl ?_
    refine go_iload_n td_X12_status 7 rfl (q := 14) rfl 1 rfl ?_
    refine go_ald td_X12_status 8 rfl (q := 15) rfl (Bc_18 E g) (t0 := 0) rfl (fun x2 => ?_)
    refine go_goto td_X12_status 9 rfl (q := 19) rfl ?_
    exact go_iret td_X12_status 11 rfl rfl rfl
