def fA_Plan_craftIn (a1 : Int32) (g : G) : Option (Int32) := Lp (α := Int32 × Int32) (fun rec1 s1 => (if (g.1 306) ≤ s1.2 then some s1.1 else ag 8 (g.2.1 9) s1.2 fun x2 => lj (α := Int32) (fun b3 => rec1 (b3, s1.2 + 1)) fun J3 => (if x2 = a1 then bv (s1.1 ||| ((1 : Int32) <<< (s1.2 &&& 31))) fun x4 => J3 x4 else J3 s1.1))) FU (0, 0)
set_option maxRecDepth 20000 in
set_option maxHeartbeats 4000000 in
theorem ok_fA_Plan_craftIn (E : Ev) (a1 : Int32) (g : G)  : Ct (wCA E) yX4_craftIn mi_X4_craftIn [.ref (E.1 3), .int a1] (fun r => (some (.int r), g)) g (fA_Plan_craftIn a1 g) := by
  refine go_enter rfl rfl (Nat.le_of_ble_eq_true rfl) (lv := [(0, .ref (E.1 3)), (1, .int a1)]) rfl ?_
  unfold fA_Plan_craftIn
  refine go_iconst td_X4_craftIn 0 rfl (q := 1) rfl kc_0 ?_
  refine go_istore_n [(2, .int 0), (0, .ref (E.1 3)), (1, .int a1)] td_X4_craftIn 1 rfl (q := 2) rfl (Nat.le_of_ble_eq_true rfl) rfl ?_
  refine go_iconst td_X4_craftIn 2 rfl (q := 3) rfl kc_0 ?_
  refine go_istore_n [(3, .int 0), (2, .int 0), (0, .ref (E.1 3)), (1, .int a1)] td_X4_craftIn 3 rfl (q := 4) rfl (Nat.le_of_ble_eq_true rfl) rfl ?_
  refine go_pick [2, 3, 1, 0] (lv' := [(0, .ref (E.1 3)), (1, .int a1), (2, .int 0), (3, .int 0)]) rfl ?_
  refine (show ∀ (u1_0 : Int32) (u1_1 : Int32), Go (wCA E) _ _ g 4 [(0, .ref (E.1 3)), (1, .int a1), (2, .int u1_0), (3, .int u1_1)] [] (Lp (α := Int32 × Int32) _ FU (u1_0, u1_1)) from ?_) 0 0
  intro u1_0 u1_1
  refine go_Lp (α := Int32 × Int32) (fun s1 => g) (fun s1 => [(0, .ref (E.1 3)), (1, .int a1), (2, .int s1.1), (3, .int s1.2)]) ?_ FU (u1_0, u1_1)
  intro rec1 hrec1 s1
  have krec1 : ∀ (u1_0 : Int32) (u1_1 : Int32), Go (wCA E) _ _ g 4 [(0, .ref (E.1 3)), (1, .int a1), (2, .int u1_0), (3, .int u1_1)] [] (rec1 (u1_0, u1_1)) := fun u1_0 u1_1 => hrec1 (u1_0, u1_1)
  refine go_iload_n td_X4_craftIn 4 rfl (q := 5) rfl 3 rfl ?_
  refine go_aload_n td_X4_craftIn 5 rfl (q := 6) rfl 0 rfl ?_
  refine go_get td_X4_craftIn 6 rfl (q := 9) rfl fl_X4_30 (Ac_3 E g) rfl ?_
  refine go_icmp_ge 34 td_X4_craftIn 7 rfl rfl (q := 12) rfl (fun _ => ?_) (fun _ => ?_)
  · refine go_iload_n td_X4_craftIn 22 rfl (q := 35) rfl 2 rfl ?_
    exact go_iret td_X4_craftIn 23 rfl rfl rfl
  · refine go_aload_n td_X4_craftIn 8 rfl (q := 13) rfl 0 rfl ?_
    refine go_get td_X4_craftIn 9 rfl (q := 16) rfl fl_X4_52 (Ac_3 E g) rfl ?_
    refine go_iload_n td_X4_craftIn 10 rfl (q := 17) rfl 3 rfl ?_
    refine go_ald td_X4_craftIn 11 rfl (q := 18) rfl (Ac_9 E g) (t0 := 0) rfl (fun x2 => ?_)
    refine go_iload_n td_X4_craftIn 12 rfl (q := 19) rfl 1 rfl ?_
    refine go_ljX (α := Int32) (fun b3 => [(0, .ref (E.1 3)), (1, .int a1), (2, .int b3), (3, .int s1.2)]) (fun b3 => []) (fun b3 => g) 28 ?_ ?_
    · intro b3
      refine go_iinc [(3, .int (s1.2 + 1)), (0, .ref (E.1 3)), (1, .int a1), (2, .int b3)] td_X4_craftIn 20 rfl (q := 31) rfl 3 rfl kc_1 (Nat.le_of_ble_eq_true rfl) rfl ?_
      refine go_goto td_X4_craftIn 21 rfl (q := 4) rfl ?_
      refine go_pick [1, 2, 3, 0] (lv' := [(0, .ref (E.1 3)), (1, .int a1), (2, .int b3), (3, .int (s1.2 + 1))]) rfl ?_
      exact krec1 b3 (s1.2 + 1)
    intro J3 hJ3
    have kJ3 : ∀ (u3_0 : Int32), Go (wCA E) _ _ g 28 [(0, .ref (E.1 3)), (1, .int a1), (2, .int u3_0), (3, .int s1.2)] [] (J3 u3_0) := fun u3_0 => hJ3 u3_0
    refine go_icmp_ne 28 td_X4_craftIn 13 rfl rfl (q := 22) rfl (fun _ => ?_) (fun _ => ?_)
    · refine go_pick [0, 1, 2, 3] (lv' := [(0, .ref (E.1 3)), (1, .int a1), (2, .int s1.1), (3, .int s1.2)]) rfl ?_
      exact kJ3 s1.1
    · refine go_iload_n td_X4_craftIn 14 rfl (q := 23) rfl 2 rfl ?_
      refine go_iconst td_X4_craftIn 15 rfl (q := 24) rfl kc_1 ?_
      refine go_iload_n td_X4_craftIn 16 rfl (q := 25) rfl 3 rfl ?_
      refine go_ishl td_X4_craftIn 17 rfl (q := 26) rfl ?_
      refine go_ior td_X4_craftIn 18 rfl (q := 27) rfl ?_
      refine go_bvi (fun x4 => ?_)
      refine go_istore_n [(2, .int x4), (0, .ref (E.1 3)), (1, .int a1), (3, .int s1.2)] td_X4_craftIn 19 rfl (q := 28) rfl (Nat.le_of_ble_eq_true rfl) rfl ?_
      refine go_pick [1, 2, 0, 3] (lv' := [(0, .ref (E.1 3)), (1, .int a1), (2, .int x4), (3, .int s1.2)]) rfl ?_
      exact kJ3 x4
def fA_D_plane (a1 : Int32) (a2 : Int32) (g : G) : Option (Int32) := Option.bind (fA_Plan_hasPlane a1 g) fun x1 => (if x1 = 0 then some (-1) else (if a2 = 0 then ag 4 (g.2.1 28) a1 fun x2 => some x2 else if a2 = 1 then ag 4 (g.2.1 6) a1 fun x4 => some x4 else if a2 = 2 then ag 4 (g.2.1 7) a1 fun x6 => some x6 else if a2 = 3 then Option.bind (fA_Plan_craftIn a1 g) fun x8 => Option.bind (fA_Integer_bitCount x8 g) fun x9 => some x9 else some (-1)))
set_option maxRecDepth 20000 in
set_option maxHeartbeats 4000000 in
theorem ok_fA_D_plane (E : Ev) (a1 : Int32) (a2 : Int32) (g : G)  : Ct (wCA E) yX11_plane mi_X11_plane [.ref (E.1 0), .int a1, .int a2] (fun r => (some (.int r), g)) g (fA_D_plane a1 a2 g) := by
  refine go_enter rfl rfl (Nat.le_of_ble_eq_true rfl) (lv := [(0, .ref (E.1 0)), (1, .int a1), (2, .int a2)]) rfl ?_
  unfold fA_D_plane
  refine go_aload_n td_X11_plane 0 rfl (q := 1) rfl 0 rfl ?_
  refine go_get td_X11_plane 1 rfl (q := 4) rfl fl_X11_19 (Ac_0 E g) rfl ?_
  refine go_iload_n td_X11_plane 2 rfl (q := 5) rfl 1 rfl ?_
  refine go_callV td_X11_plane 3 rfl (q := 8) rfl (XkA E) lk_X11_201 (ok_fA_Plan_hasPlane E a1 g) ⟨rfl, rfl, Nat.le_of_ble_eq_true rfl, Nat.le_of_ble_eq_true rfl⟩ rfl rfl (Nat.le_of_ble_eq_true rfl) (Ac_3 E g) rfl (fun x1 => ?_)
  show Go (wCA E) _ _ g 8 _ [.int x1] _
  refine go_if_ne 13 td_X11_plane 4 rfl rfl (q := 11) rfl (fun _ => ?_) (fun _ => ?_)
  · refine go_iload_n td_X11_plane 7 rfl (q := 14) rfl 2 rfl ?_
    refine go_tcase (v := 0) 44 td_X11_plane 8 rfl ⟨by decide, by decide, rfl, rfl⟩ ?_ (fun n3 => ?_)
    · refine go_aload_n td_X11_plane 9 rfl (q := 45) rfl 0 rfl ?_
      refine go_get td_X11_plane 10 rfl (q := 48) rfl fl_X11_29 (Ac_0 E g) rfl ?_
      refine go_get td_X11_plane 11 rfl (q := 51) rfl fl_X11_223 (Ac_27 E g) rfl ?_
      refine go_iload_n td_X11_plane 12 rfl (q := 52) rfl 1 rfl ?_
      refine go_ald td_X11_plane 13 rfl (q := 53) rfl (Ac_28 E g) (t0 := 0) rfl (fun x2 => ?_)
      exact go_iret td_X11_plane 14 rfl rfl rfl
    refine go_tcase (v := 1) 54 td_X11_plane 8 rfl ⟨by decide, by decide, rfl, rfl⟩ ?_ (fun n5 => ?_)
    · refine go_aload_n td_X11_plane 15 rfl (q := 55) rfl 0 rfl ?_
      refine go_get td_X11_plane 16 rfl (q := 58) rfl fl_X11_19 (Ac_0 E g) rfl ?_
      refine go_get td_X11_plane 17 rfl (q := 61) rfl fl_X11_226 (Ac_3 E g) rfl ?_
      refine go_iload_n td_X11_plane 18 rfl (q := 62) rfl 1 rfl ?_
      refine go_ald td_X11_plane 19 rfl (q := 63) rfl (Ac_6 E g) (t0 := 0) rfl (fun x4 => ?_)
      exact go_iret td_X11_plane 20 rfl rfl rfl
    refine go_tcase (v := 2) 64 td_X11_plane 8 rfl ⟨by decide, by decide, rfl, rfl⟩ ?_ (fun n7 => ?_)
    · refine go_aload_n td_X11_plane 21 rfl (q := 65) rfl 0 rfl ?_
      refine go_get td_X11_plane 22 rfl (q := 68) rfl fl_X11_19 (Ac_0 E g) rfl ?_
      refine go_get td_X11_plane 23 rfl (q := 71) rfl fl_X11_229 (Ac_3 E g) rfl ?_
      refine go_iload_n td_X11_plane 24 rfl (q := 72) rfl 1 rfl ?_
      refine go_ald td_X11_plane 25 rfl (q := 73) rfl (Ac_7 E g) (t0 := 0) rfl (fun x6 => ?_)
      exact go_iret td_X11_plane 26 rfl rfl rfl
    refine go_tcase (v := 3) 74 td_X11_plane 8 rfl ⟨by decide, by decide, rfl, rfl⟩ ?_ (fun n10 => ?_)
    · refine go_aload_n td_X11_plane 27 rfl (q := 75) rfl 0 rfl ?_
      refine go_get td_X11_plane 28 rfl (q := 78) rfl fl_X11_19 (Ac_0 E g) rfl ?_
      refine go_iload_n td_X11_plane 29 rfl (q := 79) rfl 1 rfl ?_
      refine go_callV td_X11_plane 30 rfl (q := 82) rfl (XkA E) lk_X11_232 (ok_fA_Plan_craftIn E a1 g) ⟨rfl, rfl, Nat.le_of_ble_eq_true rfl, Nat.le_of_ble_eq_true rfl⟩ rfl rfl (Nat.le_of_ble_eq_true rfl) (Ac_3 E g) rfl (fun x8 => ?_)
      show Go (wCA E) _ _ g 82 _ [.int x8] _
      refine go_callS td_X11_plane 31 rfl (q := 85) rfl (XkA E) lk_X11_181 (ok_fA_Integer_bitCount E x8 g) ⟨rfl, rfl, Nat.le_of_ble_eq_true rfl, Nat.le_of_ble_eq_true rfl⟩ rfl rfl (Nat.le_of_ble_eq_true rfl) (fun x9 => ?_)
      show Go (wCA E) _ _ g 85 _ [.int x9] _
      exact go_iret td_X11_plane 32 rfl rfl rfl
    refine go_tdef 86 td_X11_plane 8 rfl (sw_X11_plane_14 n3 n5 n7 n10) rfl ?_
    refine go_iconst td_X11_plane 33 rfl (q := 87) rfl kc_m1 ?_
    exact go_iret td_X11_plane 34 rfl rfl rfl
  · refine go_iconst td_X11_plane 5 rfl (q := 12) rfl kc_m1 ?_
    exact go_iret td_X11_plane 6 rfl rfl rfl
def fA_Fleet_isUp (a1 : Int32) (g : G) : Option (Int32) := (if (((g.1 2700) >>> (a1 &&& 31)) &&& 1) = 0 then some 0 else some 1)
set_option maxRecDepth 20000 in
set_option maxHeartbeats 4000000 in
theorem ok_fA_Fleet_isUp (E : Ev) (a1 : Int32) (g : G)  : Ct (wCA E) yX1_isUp mi_X1_isUp [.ref (E.1 27), .int a1] (fun r => (some (.int r), g)) g (fA_Fleet_isUp a1 g) := by
  refine go_enter rfl rfl (Nat.le_of_ble_eq_true rfl) (lv := [(0, .ref (E.1 27)), (1, .int a1)]) rfl ?_
  unfold fA_Fleet_isUp
  refine go_aload_n td_X1_isUp 0 rfl (q := 1) rfl 0 rfl ?_
  refine go_get td_X1_isUp 1 rfl (q := 4) rfl fl_X1_9 (Ac_27 E g) rfl ?_
  refine go_iload_n td_X1_isUp 2 rfl (q := 5) rfl 1 rfl ?_
  refine go_ishr td_X1_isUp 3 rfl (q := 6) rfl ?_
  refine go_iconst td_X1_isUp 4 rfl (q := 7) rfl kc_1 ?_
  refine go_iand td_X1_isUp 5 rfl (q := 8) rfl ?_
  refine go_if_eq 15 td_X1_isUp 6 rfl rfl (q := 11) rfl (fun _ => ?_) (fun _ => ?_)
  · refine go_iconst td_X1_isUp 9 rfl (q := 16) rfl kc_0 ?_
    exact go_zret td_X1_isUp 10 rfl rfl rfl rfl
  · refine go_iconst td_X1_isUp 7 rfl (q := 12) rfl kc_1 ?_
    refine go_goto td_X1_isUp 8 rfl (q := 16) rfl ?_
    exact go_zret td_X1_isUp 10 rfl rfl rfl rfl
def fA_D_craft (a1 : Int32) (a2 : Int32) (g : G) : Option (Int32) := Option.bind (fA_Plan_hasCraft a1 g) fun x1 => (if x1 = 0 then some (-1) else (if a2 = 0 then ag 8 (g.2.1 9) a1 fun x2 => some x2 else if a2 = 1 then ag 8 (g.2.1 29) a1 fun x4 => some x4 else if a2 = 2 then ag 8 (g.2.1 30) a1 fun x6 => some x6 else if a2 = 3 then Option.bind (fA_Fleet_isUp a1 g) fun x8 => (if x8 = 0 then some 0 else some 1) else some (-1)))
set_option maxRecDepth 20000 in
set_option maxHeartbeats 4000000 in
theorem ok_fA_D_craft (E : Ev) (a1 : Int32) (a2 : Int32) (g : G)  : Ct (wCA E) yX11_craft mi_X11_craft [.ref (E.1 0), .int a1, .int a2] (fun r => (some (.int r), g)) g (fA_D_craft a1 a2 g) := by
  refine go_enter rfl rfl (Nat.le_of_ble_eq_true rfl) (lv := [(0, .ref (E.1 0)), (1, .int a1), (2, .int a2)]) rfl ?_
  unfold fA_D_craft
  refine go_aload_n td_X11_craft 0 rfl (q := 1) rfl 0 rfl ?_
  refine go_get td_X11_craft 1 rfl (q := 4) rfl fl_X11_19 (Ac_0 E g) rfl ?_
  refine go_iload_n td_X11_craft 2 rfl (q := 5) rfl 1 rfl ?_
  refine go_callV td_X11_craft 3 rfl (q := 8) rfl (XkA E) lk_X11_211 (ok_fA_Plan_hasCraft E a1 g) ⟨rfl, rfl, Nat.le_of_ble_eq_true rfl, Nat.le_of_ble_eq_true rfl⟩ rfl rfl (Nat.le_of_ble_eq_true rfl) (Ac_3 E g) rfl (fun x1 => ?_)
  show Go (wCA E) _ _ g 8 _ [.int x1] _
  refine go_if_ne 13 td_X11_craft 4 rfl rfl (q := 11) rfl (fun _ => ?_) (fun _ => ?_)
  · refine go_iload_n td_X11_craft 7 rfl (q := 14) rfl 2 rfl ?_
    refine go_tcase (v := 0) 44 td_X11_craft 8 rfl ⟨by decide, by decide, rfl, rfl⟩ ?_ (fun n3 => ?_)
    · refine go_aload_n td_X11_craft 9 rfl (q := 45) rfl 0 rfl ?_
      refine go_get td_X11_craft 10 rfl (q := 48) rfl fl_X11_19 (Ac_0 E g) rfl ?_
      refine go_get td_X11_craft 11 rfl (q := 51) rfl fl_X11_235 (Ac_3 E g) rfl ?_
      refine go_iload_n td_X11_craft 12 rfl (q := 52) rfl 1 rfl ?_
      refine go_ald td_X11_craft 13 rfl (q := 53) rfl (Ac_9 E g) (t0 := 0) rfl (fun x2 => ?_)
      exact go_iret td_X11_craft 14 rfl rfl rfl
    refine go_tcase (v := 1) 54 td_X11_craft 8 rfl ⟨by decide, by decide, rfl, rfl⟩ ?_ (fun n5 => ?_)
    · refine go_aload_n td_X11_craft 15 rfl (q := 55) rfl 0 rfl ?_
      refine go_get td_X11_craft 16 rfl (q := 58) rfl fl_X11_29 (Ac_0 E g) rfl ?_
      refine go_get td_X11_craft 17 rfl (q := 61) rfl fl_X11_238 (Ac_27 E g) rfl ?_
      refine go_iload_n td_X11_craft 18 rfl (q := 62) rfl 1 rfl ?_
      refine go_ald td_X11_craft 19 rfl (q := 63) rfl (Ac_29 E g) (t0 := 0) rfl (fun x4 => ?_)
      exact go_iret td_X11_craft 20 rfl rfl rfl
    refine go_tcase (v := 2) 64 td_X11_craft 8 rfl ⟨by decide, by decide, rfl, rfl⟩ ?_ (fun n7 => ?_)
    · refine go_aload_n td_X11_craft 21 rfl (q := 65) rfl 0 rfl ?_
      refine go_get td_X11_craft 22 rfl (q := 68) rfl fl_X11_29 (Ac_0 E g) rfl ?_
      refine go_get td_X11_craft 23 rfl (q := 71) rfl fl_X11_241 (Ac_27 E g) rfl ?_
      refine go_iload_n td_X11_craft 24 rfl (q := 72) rfl 1 rfl ?_
      refine go_ald td_X11_craft 25 rfl (q := 73) rfl (Ac_30 E g) (t0 := 0) rfl (fun x6 => ?_)
      exact go_iret td_X11_craft 26 rfl rfl rfl
    refine go_tcase (v := 3) 74 td_X11_craft 8 rfl ⟨by decide, by decide, rfl, rfl⟩ ?_ (fun n9 => ?_)
    · refine go_aload_n td_X11_craft 27 rfl (q := 75) rfl 0 rfl ?_
      refine go_get td_X11_craft 28 rfl (q := 78) rfl fl_X11_29 (Ac_0 E g) rfl ?_
      refine go_iload_n td_X11_craft 29 rfl (q := 79) rfl 1 rfl ?_
      refine go_callV td_X11_craft 30 rfl (q := 82) rfl (XkA E) lk_X11_244 (ok_fA_Fleet_isUp E a1 g) ⟨rfl, rfl, Nat.le_of_ble_eq_true rfl, Nat.le_of_ble_eq_true rfl⟩ rfl rfl (Nat.le_of_ble_eq_true rfl) (Ac_27 E g) rfl (fun x8 => ?_)
      show Go (wCA E) _ _ g 82 _ [.int x8] _
      refine go_if_eq 89 td_X11_craft 31 rfl rfl (q := 85) rfl (fun _ => ?_) (fun _ => ?_)
      · refine go_iconst td_X11_craft 34 rfl (q := 90) rfl kc_0 ?_
        exact go_iret td_X11_craft 35 rfl rfl rfl
      · refine go_iconst td_X11_craft 32 rfl (q := 86) rfl kc_1 ?_
        refine go_goto td_X11_craft 33 rfl (q := 90) rfl ?_
        exact go_iret td_X11_craft 35 rfl rfl rfl
    refine go_tdef 91 td_X11_craft 8 rfl (sw_X11_craft_14 n3 n5 n7 n9) rfl ?_
    refine go_iconst td_X11_craft 36 rfl (q := 92) rfl kc_m1 ?_
    exact go_iret td_X11_craft 37 rfl rfl rfl
  · refine go_iconst td_X11_craft 5 rfl (q := 12) rfl kc_m1 ?_
    exact go_iret td_X11_craft 6 rfl rfl rfl
def fA_Sky_arcOf (a1 : Int32) (a2 : Int32) (a3 : Int32) (g : G) : Option (Int32) := ag 12 (g.2.1 4) a2 fun x1 => bv (a3 * (g.1 301)) fun x2 => bv (a1 * (g.1 301)) fun x3 => Lp (α := Int32 × Int32) (fun rec4 s4 => (if (g.1 300) ≤ s4.2 then some s4.1 else bv (if ((g.1 300) - s4.2) < s4.2 then ((g.1 300) - s4.2) else s4.2) fun x5 => bv (x5 * x1) fun x6 => lj (α := Int32) (fun b7 => rec4 (b7, s4.2 + 1)) fun J7 => (if (x3 * x3) < ((x6 * x6) + (x2 * x2)) then J7 s4.1 else bv (s4.1 ||| ((1 : Int32) <<< (s4.2 &&& 31))) fun x8 => J7 x8))) FU (0, 0)
set_option maxRecDepth 20000 in
set_option maxHeartbeats 4000000 in
theorem ok_fA_Sky_arcOf (E : Ev) (a1 : Int32) (a2 : Int32) (a3 : Int32) (g : G)  : Ct (wCA E) yX6_arcOf mi_X6_arcOf [.ref (E.1 118), .int a1, .int a2, .int a3] (fun r => (some (.int r), g)) g (fA_Sky_arcOf a1 a2 a3 g) := by
  refine go_enter rfl rfl (Nat.le_of_ble_eq_true rfl) (lv := [(0, .ref (E.1 118)), (1, .int a1), (2, .int a2), (3, .int a3)]) rfl ?_
  unfold fA_Sky_arcOf
  refine go_aload_n td_X6_arcOf 0 rfl (q := 1) rfl 0 rfl ?_
  refine go_get td_X6_arcOf 1 rfl (q := 4) rfl fl_X6_53 (Ac_118 E g) rfl ?_
  refine go_get td_X6_arcOf 2 rfl (q := 7) rfl fl_X6_68 (Ac_3 E g) rfl ?_
  refine go_iload_n td_X6_arcOf 3 rfl (q := 8) rfl 2 rfl ?_
  refine go_ald td_X6_arcOf 4 rfl (q := 9) rfl (Ac_4 E g) (t0 := 0) rfl (fun x1 => ?_)
  refine go_istore [(4, .int x1), (0, .ref (E.1 118)), (1, .int a1), (2, .int a2), (3, .int a3)] td_X6_arcOf 5 rfl (q := 11) rfl (Nat.le_of_ble_eq_true rfl) rfl ?_
  refine go_iload_n td_X6_arcOf 6 rfl (q := 12) rfl 4 rfl ?_
  refine go_aload_n td_X6_arcOf 7 rfl (q := 13) rfl 1 rfl ?_
  refine go_get td_X6_arcOf 8 rfl (q := 16) rfl fl_X6_53 (Ac_118 E g) rfl ?_
  refine go_get td_X6_arcOf 9 rfl (q := 19) rfl fl_X6_62 (Ac_3 E g) rfl ?_
  refine go_imul td_X6_arcOf 10 rfl (q := 20) rfl ?_
  refine go_bvi (fun x2 => ?_)
  refine go_istore [(5, .int x2), (4, .int x1), (0, .ref (E.1 118)), (1, .int a1), (2, .int a2), (3, .int a3)] td_X6_arcOf 11 rfl (q := 22) rfl (Nat.le_of_ble_eq_true rfl) rfl ?_
  refine go_iload_n td_X6_arcOf 12 rfl (q := 23) rfl 3 rfl ?_
  refine go_aload_n td_X6_arcOf 13 rfl (q := 24) rfl 2 rfl ?_
  refine go_get td_X6_arcOf 14 rfl (q := 27) rfl fl_X6_53 (Ac_118 E g) rfl ?_
  refine go_get td_X6_arcOf 15 rfl (q := 30) rfl fl_X6_62 (Ac_3 E g) rfl ?_
  refine go_imul td_X6_arcOf 16 rfl (q := 31) rfl ?_
  refine go_bvi (fun x3 => ?_)
  refine go_istore [(6, .int x3), (5, .int x2), (4, .int x1), (0, .ref (E.1 118)), (1, .int a1), (2, .int a2), (3, .int a3)] td_X6_arcOf 17 rfl (q := 33) rfl (Nat.le_of_ble_eq_true rfl) rfl ?_
  refine go_iconst td_X6_arcOf 18 rfl (q := 34) rfl kc_0 ?_
  refine go_istore [(7, .int 0), (6, .int x3), (5, .int x2), (4, .int x1), (0, .ref (E.1 118)), (1, .int a1), (2, .int a2), (3, .int a3)] td_X6_arcOf 19 rfl (q := 36) rfl (Nat.le_of_ble_eq_true rfl) rfl ?_
  refine go_iconst td_X6_arcOf 20 rfl (q := 37) rfl kc_0 ?_
  refine go_istore [(8, .int 0), (7, .int 0), (6, .int x3), (5, .int x2), (4, .int x1), (0, .ref (E.1 118)), (1, .int a1), (2, .int a2), (3, .int a3)] td_X6_arcOf 21 rfl (q := 39) rfl (Nat.le_of_ble_eq_true rfl) rfl ?_
  refine go_pick [5, 4, 3, 2, 1, 0] (lv' := [(0, .ref (E.1 118)), (4, .int x1), (5, .int x2), (6, .int x3), (7, .int 0), (8, .int 0)]) rfl ?_
  refine (show ∀ (u4_0 : Int32) (u4_1 : Int32), Go (wCA E) _ _ g 39 [(0, .ref (E.1 118)), (4, .int x1), (5, .int x2), (6, .int x3), (7, .int u4_0), (8, .int u4_1)] [] (Lp (α := Int32 × Int32) _ FU (u4_0, u4_1)) from ?_) 0 0
  intro u4_0 u4_1
  refine go_Lp (α := Int32 × Int32) (fun s4 => g) (fun s4 => [(0, .ref (E.1 118)), (4, .int x1), (5, .int x2), (6, .int x3), (7, .int s4.1), (8, .int s4.2)]) ?_ FU (u4_0, u4_1)
  intro rec4 hrec4 s4
  have krec4 : ∀ (u4_0 : Int32) (u4_1 : Int32), Go (wCA E) _ _ g 39 [(0, .ref (E.1 118)), (4, .int x1), (5, .int x2), (6, .int x3), (7, .int u4_0), (8, .int u4_1)] [] (rec4 (u4_0, u4_1)) := fun u4_0 u4_1 => hrec4 (u4_0, u4_1)
  refine go_iload td_X6_arcOf 22 rfl (q := 41) rfl 5 rfl ?_
  refine go_aload_n td_X6_arcOf 23 rfl (q := 42) rfl 0 rfl ?_
  refine go_get td_X6_arcOf 24 rfl (q := 45) rfl fl_X6_53 (Ac_118 E g) rfl ?_
  refine go_get td_X6_arcOf 25 rfl (q := 48) rfl fl_X6_57 (Ac_3 E g) rfl ?_
  refine go_icmp_ge 105 td_X6_arcOf 26 rfl rfl (q := 51) rfl (fun _ => ?_) (fun _ => ?_)
  · refine go_iload td_X6_arcOf 56 rfl (q := 107) rfl 4 rfl ?_
    exact go_iret td_X6_arcOf 57 rfl rfl rfl
  · refine go_iload td_X6_arcOf 27 rfl (q := 53) rfl 5 rfl ?_
    refine go_aload_n td_X6_arcOf 28 rfl (q := 54) rfl 0 rfl ?_
    refine go_get td_X6_arcOf 29 rfl (q := 57) rfl fl_X6_53 (Ac_118 E g) rfl ?_
    refine go_get td_X6_arcOf 30 rfl (q := 60) rfl fl_X6_57 (Ac_3 E g) rfl ?_
    refine go_iload td_X6_arcOf 31 rfl (q := 62) rfl 5 rfl ?_
    refine go_isub td_X6_arcOf 32 rfl (q := 63) rfl ?_
    refine go_mmin td_X6_arcOf 33 rfl (q := 66) rfl lk_X6_75 ⟨Nat.le_of_ble_eq_true rfl, Nat.le_of_ble_eq_true rfl⟩ ?_
    refine go_bvi (fun x5 => ?_)
    refine go_iload td_X6_arcOf 34 rfl (q := 68) rfl 1 rfl ?_
    refine go_imul td_X6_arcOf 35 rfl (q := 69) rfl ?_
    refine go_bvi (fun x6 => ?_)
    refine go_istore [(9, .int x6), (0, .ref (E.1 118)), (4, .int x1), (5, .int x2), (6, .int x3), (7, .int s4.1), (8, .int s4.2)] td_X6_arcOf 36 rfl (q := 71) rfl (Nat.le_of_ble_eq_true rfl) rfl ?_
    refine go_iload td_X6_arcOf 37 rfl (q := 73) rfl 0 rfl ?_
    refine go_iload td_X6_arcOf 38 rfl (q := 75) rfl 0 rfl ?_
    refine go_imul td_X6_arcOf 39 rfl (q := 76) rfl ?_
    refine go_iload td_X6_arcOf 40 rfl (q := 78) rfl 3 rfl ?_
    refine go_iload td_X6_arcOf 41 rfl (q := 80) rfl 3 rfl ?_
    refine go_imul td_X6_arcOf 42 rfl (q := 81) rfl ?_
    refine go_iadd td_X6_arcOf 43 rfl (q := 82) rfl ?_
    refine go_iload td_X6_arcOf 44 rfl (q := 84) rfl 4 rfl ?_
    refine go_iload td_X6_arcOf 45 rfl (q := 86) rfl 4 rfl ?_
    refine go_imul td_X6_arcOf 46 rfl (q := 87) rfl ?_
    refine go_ljX (α := Int32) (fun b7 => [(0, .ref (E.1 118)), (4, .int x1), (5, .int x2), (6, .int x3), (7, .int b7), (8, .int s4.2)]) (fun b7 => []) (fun b7 => g) 99 ?_ ?_
    · intro b7
      refine go_iinc [(8, .int (s4.2 + 1)), (0, .ref (E.1 118)), (4, .int x1), (5, .int x2), (6, .int x3), (7, .int b7)] td_X6_arcOf 54 rfl (q := 102) rfl 5 rfl kc_1 (Nat.le_of_ble_eq_true rfl) rfl ?_
      refine go_goto td_X6_arcOf 55 rfl (q := 39) rfl ?_
      refine go_pick [1, 2, 3, 4, 5, 0] (lv' := [(0, .ref (E.1 118)), (4, .int x1), (5, .int x2), (6, .int x3), (7, .int b7), (8, .int (s4.2 + 1))]) rfl ?_
      exact krec4 b7 (s4.2 + 1)
    intro J7 hJ7
    have kJ7 : ∀ (u7_0 : Int32), Go (wCA E) _ _ g 99 [(0, .ref (E.1 118)), (4, .int x1), (5, .int x2), (6, .int x3), (7, .int u7_0), (8, .int s4.2)] [] (J7 u7_0) := fun u7_0 => hJ7 u7_0
    refine go_icmp_gt 99 td_X6_arcOf 47 rfl rfl (q := 90) rfl (fun _ => ?_) (fun _ => ?_)
    · refine go_pick [1, 2, 3, 4, 5, 6] (lv' := [(0, .ref (E.1 118)), (4, .int x1), (5, .int x2), (6, .int x3), (7, .int s4.1), (8, .int s4.2)]) rfl ?_
      exact kJ7 s4.1
    · refine go_iload td_X6_arcOf 48 rfl (q := 92) rfl 5 rfl ?_
      refine go_iconst td_X6_arcOf 49 rfl (q := 93) rfl kc_1 ?_
      refine go_iload td_X6_arcOf 50 rfl (q := 95) rfl 6 rfl ?_
      refine go_ishl td_X6_arcOf 51 rfl (q := 96) rfl ?_
      refine go_ior td_X6_arcOf 52 rfl (q := 97) rfl ?_
      refine go_bvi (fun x8 => ?_)
      refine go_istore [(7, .int x8), (9, .int x6), (0, .ref (E.1 118)), (4, .int x1), (5, .int x2), (6, .int x3), (8, .int s4.2)] td_X6_arcOf 53 rfl (q := 99) rfl (Nat.le_of_ble_eq_true rfl) rfl ?_
      refine go_pick [2, 3, 4, 5, 0, 6] (lv' := [(0, .ref (E.1 118)), (4, .int x1), (5, .int x2), (6, .int x3), (7, .int x8), (8, .int s4.2)]) rfl ?_
      exact kJ7 x8
def fA_Sky_makeArcs (a1 : Int32) (g : G) : Option (G) := (if (((g.1 11802) >>> (a1 &&& 31)) &&& 1) = 0 then bv (sS g 11802 ((g.1 11802) ||| ((1 : Int32) <<< (a1 &&& 31)))) fun g1 => Lp (α := Int32 × G) (fun rec2 s2 => (if (s2.2.1 301) ≤ s2.1 then some s2.2 else Lp (α := Int32 × G) (fun rec3 s3 => (if (s3.2.1 301) ≤ s3.1 then rec2 (s2.1 + 1, s3.2) else Option.bind (fA_Sky_arcOf a1 s2.1 s3.1 s3.2) fun x4 => ck 1872 ((((a1 * 12) + s2.1) * 12) + s3.1) (bv (sA s3.2 119 ((((a1 * 12) + s2.1) * 12) + s3.1 : Int32).toNatClampNeg x4) fun g5 => rec3 (s3.1 + 1, g5)))) FU (0, s2.2))) FU (0, g1) else some g)
set_option maxRecDepth 20000 in
set_option maxHeartbeats 4000000 in
theorem ok_fA_Sky_makeArcs (E : Ev) (a1 : Int32) (g : G)  : Ct (wCA E) yX6_makeArcs mi_X6_makeArcs [.ref (E.1 118), .int a1] (fun r => (none, r)) g (fA_Sky_makeArcs a1 g) := by
  refine go_enter rfl rfl (Nat.le_of_ble_eq_true rfl) (lv := [(0, .ref (E.1 118)), (1, .int a1)]) rfl ?_
  unfold fA_Sky_makeArcs
  refine go_aload_n td_X6_makeArcs 0 rfl (q := 1) rfl 0 rfl ?_
  refine go_get td_X6_makeArcs 1 rfl (q := 4) rfl fl_X6_15 (Ac_118 E g) rfl ?_
  refine go_iload_n td_X6_makeArcs 2 rfl (q := 5) rfl 1 rfl ?_
  refine go_ishr td_X6_makeArcs 3 rfl (q := 6) rfl ?_
  refine go_iconst td_X6_makeArcs 4 rfl (q := 7) rfl kc_1 ?_
  refine go_iand td_X6_makeArcs 5 rfl (q := 8) rfl ?_
  refine go_if_eq 12 td_X6_makeArcs 6 rfl rfl (q := 11) rfl (fun _ => ?_) (fun _ => ?_)
  · refine go_aload_n td_X6_makeArcs 8 rfl (q := 13) rfl 0 rfl ?_
    refine go_dup td_X6_makeArcs 9 rfl (q := 14) rfl rfl ?_
    refine go_get td_X6_makeArcs 10 rfl (q := 17) rfl fl_X6_15 (Ac_118 E g) rfl ?_
    refine go_iconst td_X6_makeArcs 11 rfl (q := 18) rfl kc_1 ?_
    refine go_iload_n td_X6_makeArcs 12 rfl (q := 19) rfl 1 rfl ?_
    refine go_ishl td_X6_makeArcs 13 rfl (q := 20) rfl ?_
    refine go_ior td_X6_makeArcs 14 rfl (q := 21) rfl ?_
    refine go_put td_X6_makeArcs 15 rfl (q := 24) rfl flp_X6_15 (Ac_118 E g) rfl rfl (Nat.le_of_ble_eq_true rfl) (Aps_11802 E g ((g.1 11802) ||| ((1 : Int32) <<< (a1 &&& 31)))) ?_
    refine go_bvg (fun g1 => ?_)
    refine go_iconst td_X6_makeArcs 16 rfl (q := 25) rfl kc_0 ?_
    refine go_istore_n [(2, .int 0), (0, .ref (E.1 118)), (1, .int a1)] td_X6_makeArcs 17 rfl (q := 26) rfl (Nat.le_of_ble_eq_true rfl) rfl ?_
    refine go_pick [1, 2, 0] (lv' := [(0, .ref (E.1 118)), (1, .int a1), (2, .int 0)]) rfl ?_
    refine (show ∀ (u2_0 : Int32) (u2_1 : G), Go (wCA E) _ _ u2_1 26 [(0, .ref (E.1 118)), (1, .int a1), (2, .int u2_0)] [] (Lp (α := Int32 × G) _ FU (u2_0, u2_1)) from ?_) 0 g1
    intro u2_0 u2_1
    refine go_Lp (α := Int32 × G) (fun s2 => s2.2) (fun s2 => [(0, .ref (E.1 118)), (1, .int a1), (2, .int s2.1)]) ?_ FU (u2_0, u2_1)
    intro rec2 hrec2 s2
    have krec2 : ∀ (u2_0 : Int32) (u2_1 : G), Go (wCA E) _ _ u2_1 26 [(0, .ref (E.1 118)), (1, .int a1), (2, .int u2_0)] [] (rec2 (u2_0, u2_1)) := fun u2_0 u2_1 => hrec2 (u2_0, u2_1)
    refine go_iload_n td_X6_makeArcs 18 rfl (q := 27) rfl 2 rfl ?_
    refine go_aload_n td_X6_makeArcs 19 rfl (q := 28) rfl 0 rfl ?_
    refine go_get td_X6_makeArcs 20 rfl (q := 31) rfl fl_X6_53 (Ac_118 E s2.2) rfl ?_
    refine go_get td_X6_makeArcs 21 rfl (q := 34) rfl fl_X6_62 (Ac_3 E s2.2) rfl ?_
    refine go_icmp_ge 85 td_X6_makeArcs 22 rfl rfl (q := 37) rfl (fun _ => ?_) (fun _ => ?_)
    · exact go_vret td_X6_makeArcs 51 rfl rfl rfl
    · refine go_iconst td_X6_makeArcs 23 rfl (q := 38) rfl kc_0 ?_
      refine go_istore_n [(3, .int 0), (0, .ref (E.1 118)), (1, .int a1), (2, .int s2.1)] td_X6_makeArcs 24 rfl (q := 39) rfl (Nat.le_of_ble_eq_true rfl) rfl ?_
      refine go_pick [1, 2, 3, 0] (lv' := [(0, .ref (E.1 118)), (1, .int a1), (2, .int s2.1), (3, .int 0)]) rfl ?_
      refine (show ∀ (u3_0 : Int32) (u3_1 : G), Go (wCA E) _ _ u3_1 39 [(0, .ref (E.1 118)), (1, .int a1), (2, .int s2.1), (3, .int u3_0)] [] (Lp (α := Int32 × G) _ FU (u3_0, u3_1)) from ?_) 0 s2.2
      intro u3_0 u3_1
      refine go_Lp (α := Int32 × G) (fun s3 => s3.2) (fun s3 => [(0, .ref (E.1 118)), (1, .int a1), (2, .int s2.1), (3, .int s3.1)]) ?_ FU (u3_0, u3_1)
      intro rec3 hrec3 s3
      have krec3 : ∀ (u3_0 : Int32) (u3_1 : G), Go (wCA E) _ _ u3_1 39 [(0, .ref (E.1 118)), (1, .int a1), (2, .int s2.1), (3, .int u3_0)] [] (rec3 (u3_0, u3_1)) := fun u3_0 u3_1 => hrec3 (u3_0, u3_1)
      refine go_iload_n td_X6_makeArcs 25 rfl (q := 40) rfl 3 rfl ?_
      refine go_aload_n td_X6_makeArcs 26 rfl (q := 41) rfl 0 rfl ?_
      refine go_get td_X6_makeArcs 27 rfl (q := 44) rfl fl_X6_53 (Ac_118 E s3.2) rfl ?_
      refine go_get td_X6_makeArcs 28 rfl (q := 47) rfl fl_X6_62 (Ac_3 E s3.2) rfl ?_
      refine go_icmp_ge 79 td_X6_makeArcs 29 rfl rfl (q := 50) rfl (fun _ => ?_) (fun _ => ?_)
      · refine go_iinc [(2, .int (s2.1 + 1)), (0, .ref (E.1 118)), (1, .int a1), (3, .int s3.1)] td_X6_makeArcs 49 rfl (q := 82) rfl 2 rfl kc_1 (Nat.le_of_ble_eq_true rfl) rfl ?_
        refine go_goto td_X6_makeArcs 50 rfl (q := 26) rfl ?_
        refine go_pick [1, 2, 0] (lv' := [(0, .ref (E.1 118)), (1, .int a1), (2, .int (s2.1 + 1))]) rfl ?_
        exact krec2 (s2.1 + 1) s3.2
      · refine go_aload_n td_X6_makeArcs 30 rfl (q := 51) rfl 0 rfl ?_
        refine go_get td_X6_makeArcs 31 rfl (q := 54) rfl fl_X6_18 (Ac_118 E s3.2) rfl ?_
        refine go_iload_n td_X6_makeArcs 32 rfl (q := 55) rfl 1 rfl ?_
        refine go_bipush td_X6_makeArcs 33 rfl (q := 57) rfl kb_12 ?_
        refine go_imul td_X6_makeArcs 34 rfl (q := 58) rfl ?_
        refine go_iload_n td_X6_makeArcs 35 rfl (q := 59) rfl 2 rfl ?_
        refine go_iadd td_X6_makeArcs 36 rfl (q := 60) rfl ?_
        refine go_bipush td_X6_makeArcs 37 rfl (q := 62) rfl kb_12 ?_
        refine go_imul td_X6_makeArcs 38 rfl (q := 63) rfl ?_
        refine go_iload_n td_X6_makeArcs 39 rfl (q := 64) rfl 3 rfl ?_
        refine go_iadd td_X6_makeArcs 40 rfl (q := 65) rfl ?_
        refine go_aload_n td_X6_makeArcs 41 rfl (q := 66) rfl 0 rfl ?_
        refine go_iload_n td_X6_makeArcs 42 rfl (q := 67) rfl 1 rfl ?_
        refine go_iload_n td_X6_makeArcs 43 rfl (q := 68) rfl 2 rfl ?_
        refine go_iload_n td_X6_makeArcs 44 rfl (q := 69) rfl 3 rfl ?_
        refine go_callV td_X6_makeArcs 45 rfl (q := 72) rfl (XkA E) lk_X6_71 (ok_fA_Sky_arcOf E a1 s2.1 s3.1 s3.2) ⟨rfl, rfl, Nat.le_of_ble_eq_true rfl, Nat.le_of_ble_eq_true rfl⟩ rfl rfl (Nat.le_of_ble_eq_true rfl) (Ac_118 E s3.2) rfl (fun x4 => ?_)
        show Go (wCA E) _ _ s3.2 72 _ [.int x4, .int ((((a1 * 12) + s2.1) * 12) + s3.1), .ref (E.1 119)] _
        refine go_ast td_X6_makeArcs 46 rfl (q := 73) rfl (Ac_119 E s3.2) (t0 := 0) rfl (Aas_119 E s3.2 _) ?_
        refine go_bvg (fun g5 => ?_)
        refine go_iinc [(3, .int (s3.1 + 1)), (0, .ref (E.1 118)), (1, .int a1), (2, .int s2.1)] td_X6_makeArcs 47 rfl (q := 76) rfl 3 rfl kc_1 (Nat.le_of_ble_eq_true rfl) rfl ?_
        refine go_goto td_X6_makeArcs 48 rfl (q := 39) rfl ?_
        refine go_pick [1, 2, 3, 0] (lv' := [(0, .ref (E.1 118)), (1, .int a1), (2, .int s2.1), (3, .int (s3.1 + 1))]) rfl ?_
        exact krec3 (s3.1 + 1) g5
  · exact go_vret td_X6_makeArcs 7 rfl rfl rfl
def fA_D_cut (a1 : Int32) (a2 : Int32) (g : G) : Option (Int32) := (if a2 ≤ 0 then some 0 else dz a2 (some (a1 / a2)))
set_option maxRecDepth 20000 in
set_option maxHeartbeats 4000000 in
theorem ok_fA_D_cut (E : Ev) (a1 : Int32) (a2 : Int32) (g : G)  : Ct (wCA E) yX11_cut mi_X11_cut [.int a1, .int a2] (fun r => (some (.int r), g)) g (fA_D_cut a1 a2 g) := by
  refine go_enter rfl rfl (Nat.le_of_ble_eq_true rfl) (lv := [(0, .int a1), (1, .int a2)]) rfl ?_
  unfold fA_D_cut
  refine go_iload_n td_X11_cut 0 rfl (q := 1) rfl 1 rfl ?_
  refine go_if_le 10 td_X11_cut 1 rfl rfl (q := 4) rfl (fun _ => ?_) (fun _ => ?_)
  · refine go_iconst td_X11_cut 6 rfl (q := 11) rfl kc_0 ?_
    exact go_iret td_X11_cut 7 rfl rfl rfl
  · refine go_iload_n td_X11_cut 2 rfl (q := 5) rfl 0 rfl ?_
    refine go_iload_n td_X11_cut 3 rfl (q := 6) rfl 1 rfl ?_
    refine go_idiv td_X11_cut 4 rfl (q := 7) rfl ?_
    refine go_goto td_X11_cut 5 rfl (q := 11) rfl ?_
    exact go_iret td_X11_cut 7 rfl rfl rfl
def fA_Sky_place (a1 : Int32) (a2 : Int32) (a3 : Int32) (a4 : Int32) (g : G) : Option (G) := ag 8 (g.2.1 9) a1 fun x1 => ag 4 (g.2.1 7) x1 fun x2 => ag 4 (g.2.1 6) x1 fun x3 => Option.bind (fA_D_rest (a4 + a2) x2 g) fun x4 => Option.bind (fA_D_cut ((4 * x4) * x3) x2 g) fun x5 => lj (α := Int32) (fun b6 => Option.bind (fA_D_cut ((g.1 300) * x4) x2 g) fun x7 => Option.bind (fA_D_rest a2 (g.1 302) g) fun x8 => Option.bind (fA_D_cut ((g.1 300) * x8) (g.1 302) g) fun x9 => dz 2 (bv (if ((g.1 301) - 1) < (((g.1 301) / 2) + b6) then ((g.1 301) - 1) else (((g.1 301) / 2) + b6)) fun x10 => ck 1920 ((a1 * 240) + a2) (bv (sA g 125 ((a1 * 240) + a2 : Int32).toNatClampNeg x10) fun g11 => Option.bind (fA_D_rest ((a3 + x7) - x9) (g11.1 300) g11) fun x12 => ck 1920 ((a1 * 240) + a2) (bv (sA g11 124 ((a1 * 240) + a2 : Int32).toNatClampNeg x12) fun g13 => some g13)))) fun J6 => (if x3 < x5 then (if (3 * x3) < x5 then J6 (x5 - (4 * x3)) else J6 ((2 * x3) - x5)) else J6 x5)
set_option maxRecDepth 20000 in
set_option maxHeartbeats 4000000 in
theorem ok_fA_Sky_place (E : Ev) (a1 : Int32) (a2 : Int32) (a3 : Int32) (a4 : Int32) (g : G)  : Ct (wCA E) yX6_place mi_X6_place [.ref (E.1 118), .int a1, .int a2, .int a3, .int a4] (fun r => (none, r)) g (fA_Sky_place a1 a2 a3 a4 g) := by
  refine go_enter rfl rfl (Nat.le_of_ble_eq_true rfl) (lv := [(0, .ref (E.1 118)), (1, .int a1), (2, .int a2), (3, .int a3), (4, .int a4)]) rfl ?_
  unfold fA_Sky_place
  refine go_aload_n td_X6_place 0 rfl (q := 1) rfl 0 rfl ?_
  refine go_get td_X6_place 1 rfl (q := 4) rfl fl_X6_53 (Ac_118 E g) rfl ?_
  refine go_get td_X6_place 2 rfl (q := 7) rfl fl_X6_93 (Ac_3 E g) rfl ?_
  refine go_iload_n td_X6_place 3 rfl (q := 8) rfl 1 rfl ?_
  refine go_ald td_X6_place 4 rfl (q := 9) rfl (Ac_9 E g) (t0 := 0) rfl (fun x1 => ?_)
  refine go_istore [(5, .int x1), (0, .ref (E.1 118)), (1, .int a1), (2, .int a2), (3, .int a3), (4, .int a4)] td_X6_place 5 rfl (q := 11) rfl (Nat.le_of_ble_eq_true rfl) rfl ?_
  refine go_aload_n td_X6_place 6 rfl (q := 12) rfl 1 rfl ?_
  refine go_get td_X6_place 7 rfl (q := 15) rfl fl_X6_53 (Ac_118 E g) rfl ?_
  refine go_get td_X6_place 8 rfl (q := 18) rfl fl_X6_117 (Ac_3 E g) rfl ?_
  refine go_iload td_X6_place 9 rfl (q := 20) rfl 0 rfl ?_
  refine go_ald td_X6_place 10 rfl (q := 21) rfl (Ac_7 E g) (t0 := 0) rfl (fun x2 => ?_)
  refine go_istore [(6, .int x2), (5, .int x1), (0, .ref (E.1 118)), (1, .int a1), (2, .int a2), (3, .int a3), (4, .int a4)] td_X6_place 11 rfl (q := 23) rfl (Nat.le_of_ble_eq_true rfl) rfl ?_
  refine go_aload_n td_X6_place 12 rfl (q := 24) rfl 2 rfl ?_
  refine go_get td_X6_place 13 rfl (q := 27) rfl fl_X6_53 (Ac_118 E g) rfl ?_
  refine go_get td_X6_place 14 rfl (q := 30) rfl fl_X6_120 (Ac_3 E g) rfl ?_
  refine go_iload td_X6_place 15 rfl (q := 32) rfl 1 rfl ?_
  refine go_ald td_X6_place 16 rfl (q := 33) rfl (Ac_6 E g) (t0 := 0) rfl (fun x3 => ?_)
  refine go_istore [(7, .int x3), (6, .int x2), (5, .int x1), (0, .ref (E.1 118)), (1, .int a1), (2, .int a2), (3, .int a3), (4, .int a4)] td_X6_place 17 rfl (q := 35) rfl (Nat.le_of_ble_eq_true rfl) rfl ?_
  refine go_iload td_X6_place 18 rfl (q := 37) rfl 7 rfl ?_
  refine go_iload_n td_X6_place 19 rfl (q := 38) rfl 5 rfl ?_
  refine go_iadd td_X6_place 20 rfl (q := 39) rfl ?_
  refine go_iload td_X6_place 21 rfl (q := 41) rfl 1 rfl ?_
  refine go_callN td_X6_place 22 rfl (q := 44) rfl (XkA E) (lk_X6_123 E) (ok_fA_D_rest E (a4 + a2) x2 g) ⟨rfl, rfl, Nat.le_of_ble_eq_true rfl, Nat.le_of_ble_eq_true rfl⟩ rfl rfl (Nat.le_of_ble_eq_true rfl) (fun x4 => ?_)
  show Go (wCA E) _ _ g 44 _ [.int x4] _
  refine go_istore [(8, .int x4), (7, .int x3), (6, .int x2), (5, .int x1), (0, .ref (E.1 118)), (1, .int a1), (2, .int a2), (3, .int a3), (4, .int a4)] td_X6_place 23 rfl (q := 46) rfl (Nat.le_of_ble_eq_true rfl) rfl ?_
  refine go_iconst td_X6_place 24 rfl (q := 47) rfl kc_4 ?_
  refine go_iload td_X6_place 25 rfl (q := 49) rfl 0 rfl ?_
  refine go_imul td_X6_place 26 rfl (q := 50) rfl ?_
  refine go_iload td_X6_place 27 rfl (q := 52) rfl 1 rfl ?_
  refine go_imul td_X6_place 28 rfl (q := 53) rfl ?_
  refine go_iload td_X6_place 29 rfl (q := 55) rfl 2 rfl ?_
  refine go_callN td_X6_place 30 rfl (q := 58) rfl (XkA E) (lk_X6_126 E) (ok_fA_D_cut E ((4 * x4) * x3) x2 g) ⟨rfl, rfl, Nat.le_of_ble_eq_true rfl, Nat.le_of_ble_eq_true rfl⟩ rfl rfl (Nat.le_of_ble_eq_true rfl) (fun x5 => ?_)
  show Go (wCA E) _ _ g 58 _ [.int x5] _
  refine go_istore [(9, .int x5), (8, .int x4), (7, .int x3), (6, .int x2), (5, .int x1), (0, .ref (E.1 118)), (1, .int a1), (2, .int a2), (3, .int a3), (4, .int a4)] td_X6_place 31 rfl (q := 60) rfl (Nat.le_of_ble_eq_true rfl) rfl ?_
  refine go_iload td_X6_place 32 rfl (q := 62) rfl 0 rfl ?_
  refine go_iload td_X6_place 33 rfl (q := 64) rfl 2 rfl ?_
  refine go_ljX (α := Int32) (fun b6 => [(0, .ref (E.1 118)), (1, .int a1), (2, .int a2), (3, .int a3), (6, .int x2), (8, .int x4)]) (fun b6 => [.int b6]) (fun b6 => g) 98 ?_ ?_
  · intro b6
    refine go_istore [(10, .int b6), (0, .ref (E.1 118)), (1, .int a1), (2, .int a2), (3, .int a3), (6, .int x2), (8, .int x4)] td_X6_place 53 rfl (q := 100) rfl (Nat.le_of_ble_eq_true rfl) rfl ?_
    refine go_aload_n td_X6_place 54 rfl (q := 101) rfl 1 rfl ?_
    refine go_get td_X6_place 55 rfl (q := 104) rfl fl_X6_53 (Ac_118 E g) rfl ?_
    refine go_get td_X6_place 56 rfl (q := 107) rfl fl_X6_57 (Ac_3 E g) rfl ?_
    refine go_iload td_X6_place 57 rfl (q := 109) rfl 6 rfl ?_
    refine go_imul td_X6_place 58 rfl (q := 110) rfl ?_
    refine go_iload td_X6_place 59 rfl (q := 112) rfl 5 rfl ?_
    refine go_callN td_X6_place 60 rfl (q := 115) rfl (XkA E) (lk_X6_126 E) (ok_fA_D_cut E ((g.1 300) * x4) x2 g) ⟨rfl, rfl, Nat.le_of_ble_eq_true rfl, Nat.le_of_ble_eq_true rfl⟩ rfl rfl (Nat.le_of_ble_eq_true rfl) (fun x7 => ?_)
    show Go (wCA E) _ _ g 115 _ [.int x7] _
    refine go_istore [(11, .int x7), (10, .int b6), (0, .ref (E.1 118)), (1, .int a1), (2, .int a2), (3, .int a3), (6, .int x2), (8, .int x4)] td_X6_place 61 rfl (q := 117) rfl (Nat.le_of_ble_eq_true rfl) rfl ?_
    refine go_aload_n td_X6_place 62 rfl (q := 118) rfl 2 rfl ?_
    refine go_get td_X6_place 63 rfl (q := 121) rfl fl_X6_53 (Ac_118 E g) rfl ?_
    refine go_get td_X6_place 64 rfl (q := 124) rfl fl_X6_57 (Ac_3 E g) rfl ?_
    refine go_iload_n td_X6_place 65 rfl (q := 125) rfl 4 rfl ?_
    refine go_aload_n td_X6_place 66 rfl (q := 126) rfl 2 rfl ?_
    refine go_get td_X6_place 67 rfl (q := 129) rfl fl_X6_53 (Ac_118 E g) rfl ?_
    refine go_get td_X6_place 68 rfl (q := 132) rfl fl_X6_129 (Ac_3 E g) rfl ?_
    refine go_callN td_X6_place 69 rfl (q := 135) rfl (XkA E) (lk_X6_123 E) (ok_fA_D_rest E a2 (g.1 302) g) ⟨rfl, rfl, Nat.le_of_ble_eq_true rfl, Nat.le_of_ble_eq_true rfl⟩ rfl rfl (Nat.le_of_ble_eq_true rfl) (fun x8 => ?_)
    show Go (wCA E) _ _ g 135 _ [.int x8, .int (g.1 300)] _
    refine go_imul td_X6_place 70 rfl (q := 136) rfl ?_
    refine go_aload_n td_X6_place 71 rfl (q := 137) rfl 2 rfl ?_
    refine go_get td_X6_place 72 rfl (q := 140) rfl fl_X6_53 (Ac_118 E g) rfl ?_
    refine go_get td_X6_place 73 rfl (q := 143) rfl fl_X6_129 (Ac_3 E g) rfl ?_
    refine go_callN td_X6_place 74 rfl (q := 146) rfl (XkA E) (lk_X6_126 E) (ok_fA_D_cut E ((g.1 300) * x8) (g.1 302) g) ⟨rfl, rfl, Nat.le_of_ble_eq_true rfl, Nat.le_of_ble_eq_true rfl⟩ rfl rfl (Nat.le_of_ble_eq_true rfl) (fun x9 => ?_)
    show Go (wCA E) _ _ g 146 _ [.int x9] _
    refine go_istore [(12, .int x9), (11, .int x7), (10, .int b6), (0, .ref (E.1 118)), (1, .int a1), (2, .int a2), (3, .int a3), (6, .int x2), (8, .int x4)] td_X6_place 75 rfl (q := 148) rfl (Nat.le_of_ble_eq_true rfl) rfl ?_
    refine go_aload_n td_X6_place 76 rfl (q := 149) rfl 3 rfl ?_
    refine go_get td_X6_place 77 rfl (q := 152) rfl fl_X6_38 (Ac_118 E g) rfl ?_
    refine go_iload_n td_X6_place 78 rfl (q := 153) rfl 4 rfl ?_
    refine go_sipush td_X6_place 79 rfl (q := 156) rfl ks_240 ?_
    refine go_imul td_X6_place 80 rfl (q := 157) rfl ?_
    refine go_iload_n td_X6_place 81 rfl (q := 158) rfl 5 rfl ?_
    refine go_iadd td_X6_place 82 rfl (q := 159) rfl ?_
    refine go_aload_n td_X6_place 83 rfl (q := 160) rfl 3 rfl ?_
    refine go_get td_X6_place 84 rfl (q := 163) rfl fl_X6_53 (Ac_118 E g) rfl ?_
    refine go_get td_X6_place 85 rfl (q := 166) rfl fl_X6_62 (Ac_3 E g) rfl ?_
    refine go_iconst td_X6_place 86 rfl (q := 167) rfl kc_2 ?_
    refine go_idiv td_X6_place 87 rfl (q := 168) rfl ?_
    refine go_iload td_X6_place 88 rfl (q := 170) rfl 2 rfl ?_
    refine go_iadd td_X6_place 89 rfl (q := 171) rfl ?_
    refine go_aload_n td_X6_place 90 rfl (q := 172) rfl 3 rfl ?_
    refine go_get td_X6_place 91 rfl (q := 175) rfl fl_X6_53 (Ac_118 E g) rfl ?_
    refine go_get td_X6_place 92 rfl (q := 178) rfl fl_X6_62 (Ac_3 E g) rfl ?_
    refine go_iconst td_X6_place 93 rfl (q := 179) rfl kc_1 ?_
    refine go_isub td_X6_place 94 rfl (q := 180) rfl ?_
    refine go_mmin td_X6_place 95 rfl (q := 183) rfl lk_X6_75 ⟨Nat.le_of_ble_eq_true rfl, Nat.le_of_ble_eq_true rfl⟩ ?_
    refine go_bvi (fun x10 => ?_)
    refine go_ast td_X6_place 96 rfl (q := 184) rfl (Ac_125 E g) (t0 := 0) rfl (Aas_125 E g _) ?_
    refine go_bvg (fun g11 => ?_)
    refine go_aload_n td_X6_place 97 rfl (q := 185) rfl 3 rfl ?_
    refine go_get td_X6_place 98 rfl (q := 188) rfl fl_X6_35 (Ac_118 E g11) rfl ?_
    refine go_iload_n td_X6_place 99 rfl (q := 189) rfl 4 rfl ?_
    refine go_sipush td_X6_place 100 rfl (q := 192) rfl ks_240 ?_
    refine go_imul td_X6_place 101 rfl (q := 193) rfl ?_
    refine go_iload_n td_X6_place 102 rfl (q := 194) rfl 5 rfl ?_
    refine go_iadd td_X6_place 103 rfl (q := 195) rfl ?_
    refine go_iload_n td_X6_place 104 rfl (q := 196) rfl 6 rfl ?_
    refine go_iload td_X6_place 105 rfl (q := 198) rfl 1 rfl ?_
    refine go_iadd td_X6_place 106 rfl (q := 199) rfl ?_
    refine go_iload td_X6_place 107 rfl (q := 201) rfl 0 rfl ?_
    refine go_isub td_X6_place 108 rfl (q := 202) rfl ?_
    refine go_aload_n td_X6_place 109 rfl (q := 203) rfl 3 rfl ?_
    refine go_get td_X6_place 110 rfl (q := 206) rfl fl_X6_53 (Ac_118 E g11) rfl ?_
    refine go_get td_X6_place 111 rfl (q := 209) rfl fl_X6_57 (Ac_3 E g11) rfl ?_
    refine go_callN td_X6_place 112 rfl (q := 212) rfl (XkA E) (lk_X6_123 E) (ok_fA_D_rest E ((a3 + x7) - x9) (g11.1 300) g11) ⟨rfl, rfl, Nat.le_of_ble_eq_true rfl, Nat.le_of_ble_eq_true rfl⟩ rfl rfl (Nat.le_of_ble_eq_true rfl) (fun x12 => ?_)
    show Go (wCA E) _ _ g11 212 _ [.int x12, .int ((a1 * 240) + a2), .ref (E.1 124)] _
    refine go_ast td_X6_place 113 rfl (q := 213) rfl (Ac_124 E g11) (t0 := 0) rfl (Aas_124 E g11 _) ?_
    refine go_bvg (fun g13 => ?_)
    exact go_vret td_X6_place 114 rfl rfl rfl
  intro J6 hJ6
  have kJ6 : ∀ (u6_0 : Int32), Go (wCA E) _ _ g 98 [(0, .ref (E.1 118)), (1, .int a1), (2, .int a2), (3, .int a3), (6, .int x2), (8, .int x4)] [.int u6_0] (J6 u6_0) := fun u6_0 => hJ6 u6_0
  refine go_icmp_gt 72 td_X6_place 34 rfl rfl (q := 67) rfl (fun _ => ?_) (fun _ => ?_)
  · refine go_iload td_X6_place 37 rfl (q := 74) rfl 0 rfl ?_
    refine go_iconst td_X6_place 38 rfl (q := 75) rfl kc_3 ?_
    refine go_iload td_X6_place 39 rfl (q := 77) rfl 2 rfl ?_
    refine go_imul td_X6_place 40 rfl (q := 78) rfl ?_
    refine go_icmp_gt 91 td_X6_place 41 rfl rfl (q := 81) rfl (fun _ => ?_) (fun _ => ?_)
    · refine go_iload td_X6_place 48 rfl (q := 93) rfl 0 rfl ?_
      refine go_iconst td_X6_place 49 rfl (q := 94) rfl kc_4 ?_
      refine go_iload td_X6_place 50 rfl (q := 96) rfl 2 rfl ?_
      refine go_imul td_X6_place 51 rfl (q := 97) rfl ?_
      refine go_isub td_X6_place 52 rfl (q := 98) rfl ?_
      refine go_pick [5, 6, 7, 8, 3, 1] (lv' := [(0, .ref (E.1 118)), (1, .int a1), (2, .int a2), (3, .int a3), (6, .int x2), (8, .int x4)]) rfl ?_
      exact kJ6 (x5 - (4 * x3))
    · refine go_iconst td_X6_place 42 rfl (q := 82) rfl kc_2 ?_
      refine go_iload td_X6_place 43 rfl (q := 84) rfl 2 rfl ?_
      refine go_imul td_X6_place 44 rfl (q := 85) rfl ?_
      refine go_iload td_X6_place 45 rfl (q := 87) rfl 0 rfl ?_
      refine go_isub td_X6_place 46 rfl (q := 88) rfl ?_
      refine go_goto td_X6_place 47 rfl (q := 98) rfl ?_
      refine go_pick [5, 6, 7, 8, 3, 1] (lv' := [(0, .ref (E.1 118)), (1, .int a1), (2, .int a2), (3, .int a3), (6, .int x2), (8, .int x4)]) rfl ?_
      exact kJ6 ((2 * x3) - x5)
  · refine go_iload td_X6_place 35 rfl (q := 69) rfl 0 rfl ?_
    refine go_goto td_X6_place 36 rfl (q := 98) rfl ?_
    refine go_pick [5, 6, 7, 8, 3, 1] (lv' := [(0, .ref (E.1 118)), (1, .int a1), (2, .int a2), (3, .int a3), (6, .int x2), (8, .int x4)]) rfl ?_
    exact kJ6 x5
def fA_Sky_paint (a1 : Int32) (a2 : Int32) (a3 : Int32) (g : G) : Option (G) := ag 1920 (g.2.1 124) ((a1 * 240) + a2) fun x1 => ag 1920 (g.2.1 125) ((a1 * 240) + a2) fun x2 => Lp (α := Int32 × G) (fun rec3 s3 => (if (s3.2.1 301) ≤ s3.1 then some s3.2 else bv (if 0 ≤ (s3.1 - x2) then (s3.1 - x2) else 0 - (s3.1 - x2)) fun x4 => ag 1872 (s3.2.2.1 119) ((((a3 * 12) + s3.1) * 12) + x4) fun x5 => bv ((x5 <<< (x1 &&& 31)) ||| (((x5 : Int32).toUInt32 >>> (((s3.2.1 300) - x1 : Int32).toUInt32 &&& Int32.toUInt32 31)).toInt32)) fun x6 => ck 23040 ((((a1 * 12) + s3.1) * 240) + a2) (bv (sA s3.2 126 ((((a1 * 12) + s3.1) * 240) + a2 : Int32).toNatClampNeg (x6 &&& (s3.2.1 11801))) fun g7 => rec3 (s3.1 + 1, g7)))) FU (0, g)
set_option maxRecDepth 20000 in
set_option maxHeartbeats 4000000 in
theorem ok_fA_Sky_paint (E : Ev) (a1 : Int32) (a2 : Int32) (a3 : Int32) (g : G)  : Ct (wCA E) yX6_paint mi_X6_paint [.ref (E.1 118), .int a1, .int a2, .int a3] (fun r => (none, r)) g (fA_Sky_paint a1 a2 a3 g) := by
  refine go_enter rfl rfl (Nat.le_of_ble_eq_true rfl) (lv := [(0, .ref (E.1 118)), (1, .int a1), (2, .int a2), (3, .int a3)]) rfl ?_
  unfold fA_Sky_paint
  refine go_aload_n td_X6_paint 0 rfl (q := 1) rfl 0 rfl ?_
  refine go_get td_X6_paint 1 rfl (q := 4) rfl fl_X6_35 (Ac_118 E g) rfl ?_
  refine go_iload_n td_X6_paint 2 rfl (q := 5) rfl 1 rfl ?_
  refine go_sipush td_X6_paint 3 rfl (q := 8) rfl ks_240 ?_
  refine go_imul td_X6_paint 4 rfl (q := 9) rfl ?_
  refine go_iload_n td_X6_paint 5 rfl (q := 10) rfl 2 rfl ?_
  refine go_iadd td_X6_paint 6 rfl (q := 11) rfl ?_
  refine go_ald td_X6_paint 7 rfl (q := 12) rfl (Ac_124 E g) (t0 := 0) rfl (fun x1 => ?_)
  refine go_istore [(4, .int x1), (0, .ref (E.1 118)), (1, .int a1), (2, .int a2), (3, .int a3)] td_X6_paint 8 rfl (q := 14) rfl (Nat.le_of_ble_eq_true rfl) rfl ?_
  refine go_aload_n td_X6_paint 9 rfl (q := 15) rfl 1 rfl ?_
  refine go_get td_X6_paint 10 rfl (q := 18) rfl fl_X6_38 (Ac_118 E g) rfl ?_
  refine go_iload_n td_X6_paint 11 rfl (q := 19) rfl 2 rfl ?_
  refine go_sipush td_X6_paint 12 rfl (q := 22) rfl ks_240 ?_
  refine go_imul td_X6_paint 13 rfl (q := 23) rfl ?_
  refine go_iload_n td_X6_paint 14 rfl (q := 24) rfl 3 rfl ?_
  refine go_iadd td_X6_paint 15 rfl (q := 25) rfl ?_
  refine go_ald td_X6_paint 16 rfl (q := 26) rfl (Ac_125 E g) (t0 := 0) rfl (fun x2 => ?_)
  refine go_istore [(5, .int x2), (4, .int x1), (0, .ref (E.1 118)), (1, .int a1), (2, .int a2), (3, .int a3)] td_X6_paint 17 rfl (q := 28) rfl (Nat.le_of_ble_eq_true rfl) rfl ?_
  refine go_iconst td_X6_paint 18 rfl (q := 29) rfl kc_0 ?_
  refine go_istore [(6, .int 0), (5, .int x2), (4, .int x1), (0, .ref (E.1 118)), (1, .int a1), (2, .int a2), (3, .int a3)] td_X6_paint 19 rfl (q := 31) rfl (Nat.le_of_ble_eq_true rfl) rfl ?_
  refine go_pick [3, 4, 5, 6, 2, 1, 0] (lv' := [(0, .ref (E.1 118)), (1, .int a1), (2, .int a2), (3, .int a3), (4, .int x1), (5, .int x2), (6, .int 0)]) rfl ?_
  refine (show ∀ (u3_0 : Int32) (u3_1 : G), Go (wCA E) _ _ u3_1 31 [(0, .ref (E.1 118)), (1, .int a1), (2, .int a2), (3, .int a3), (4, .int x1), (5, .int x2), (6, .int u3_0)] [] (Lp (α := Int32 × G) _ FU (u3_0, u3_1)) from ?_) 0 g
  intro u3_0 u3_1
  refine go_Lp (α := Int32 × G) (fun s3 => s3.2) (fun s3 => [(0, .ref (E.1 118)), (1, .int a1), (2, .int a2), (3, .int a3), (4, .int x1), (5, .int x2), (6, .int s3.1)]) ?_ FU (u3_0, u3_1)
  intro rec3 hrec3 s3
  have krec3 : ∀ (u3_0 : Int32) (u3_1 : G), Go (wCA E) _ _ u3_1 31 [(0, .ref (E.1 118)), (1, .int a1), (2, .int a2), (3, .int a3), (4, .int x1), (5, .int x2), (6, .int u3_0)] [] (rec3 (u3_0, u3_1)) := fun u3_0 u3_1 => hrec3 (u3_0, u3_1)
  refine go_iload td_X6_paint 20 rfl (q := 33) rfl 6 rfl ?_
  refine go_aload_n td_X6_paint 21 rfl (q := 34) rfl 0 rfl ?_
  refine go_get td_X6_paint 22 rfl (q := 37) rfl fl_X6_53 (Ac_118 E s3.2) rfl ?_
  refine go_get td_X6_paint 23 rfl (q := 40) rfl fl_X6_62 (Ac_3 E s3.2) rfl ?_
  refine go_icmp_ge 121 td_X6_paint 24 rfl rfl (q := 43) rfl (fun _ => ?_) (fun _ => ?_)
  · exact go_vret td_X6_paint 71 rfl rfl rfl
  · refine go_aload_n td_X6_paint 25 rfl (q := 44) rfl 0 rfl ?_
    refine go_get td_X6_paint 26 rfl (q := 47) rfl fl_X6_18 (Ac_118 E s3.2) rfl ?_
    refine go_iload_n td_X6_paint 27 rfl (q := 48) rfl 3 rfl ?_
    refine go_bipush td_X6_paint 28 rfl (q := 50) rfl kb_12 ?_
    refine go_imul td_X6_paint 29 rfl (q := 51) rfl ?_
    refine go_iload td_X6_paint 30 rfl (q := 53) rfl 6 rfl ?_
    refine go_iadd td_X6_paint 31 rfl (q := 54) rfl ?_
    refine go_bipush td_X6_paint 32 rfl (q := 56) rfl kb_12 ?_
    refine go_imul td_X6_paint 33 rfl (q := 57) rfl ?_
    refine go_iload td_X6_paint 34 rfl (q := 59) rfl 6 rfl ?_
    refine go_iload td_X6_paint 35 rfl (q := 61) rfl 5 rfl ?_
    refine go_isub td_X6_paint 36 rfl (q := 62) rfl ?_
    refine go_mabs td_X6_paint 37 rfl (q := 65) rfl lk_X6_132 ⟨Nat.le_of_ble_eq_true rfl, Nat.le_of_ble_eq_true rfl⟩ ?_
    refine go_bvi (fun x4 => ?_)
    refine go_iadd td_X6_paint 38 rfl (q := 66) rfl ?_
    refine go_ald td_X6_paint 39 rfl (q := 67) rfl (Ac_119 E s3.2) (t0 := 0) rfl (fun x5 => ?_)
    refine go_istore [(7, .int x5), (0, .ref (E.1 118)), (1, .int a1), (2, .int a2), (3, .int a3), (4, .int x1), (5, .int x2), (6, .int s3.1)] td_X6_paint 40 rfl (q := 69) rfl (Nat.le_of_ble_eq_true rfl) rfl ?_
    refine go_iload td_X6_paint 41 rfl (q := 71) rfl 0 rfl ?_
    refine go_iload td_X6_paint 42 rfl (q := 73) rfl 5 rfl ?_
    refine go_ishl td_X6_paint 43 rfl (q := 74) rfl ?_
    refine go_iload td_X6_paint 44 rfl (q := 76) rfl 0 rfl ?_
    refine go_aload_n td_X6_paint 45 rfl (q := 77) rfl 1 rfl ?_
    refine go_get td_X6_paint 46 rfl (q := 80) rfl fl_X6_53 (Ac_118 E s3.2) rfl ?_
    refine go_get td_X6_paint 47 rfl (q := 83) rfl fl_X6_57 (Ac_3 E s3.2) rfl ?_
    refine go_iload td_X6_paint 48 rfl (q := 85) rfl 5 rfl ?_
    refine go_isub td_X6_paint 49 rfl (q := 86) rfl ?_
    refine go_iushr td_X6_paint 50 rfl (q := 87) rfl ?_
    refine go_ior td_X6_paint 51 rfl (q := 88) rfl ?_
    refine go_bvi (fun x6 => ?_)
    refine go_istore [(8, .int x6), (7, .int x5), (0, .ref (E.1 118)), (1, .int a1), (2, .int a2), (3, .int a3), (4, .int x1), (5, .int x2), (6, .int s3.1)] td_X6_paint 52 rfl (q := 90) rfl (Nat.le_of_ble_eq_true rfl) rfl ?_
    refine go_aload_n td_X6_paint 53 rfl (q := 91) rfl 2 rfl ?_
    refine go_get td_X6_paint 54 rfl (q := 94) rfl fl_X6_41 (Ac_118 E s3.2) rfl ?_
    refine go_iload_n td_X6_paint 55 rfl (q := 95) rfl 3 rfl ?_
    refine go_bipush td_X6_paint 56 rfl (q := 97) rfl kb_12 ?_
    refine go_imul td_X6_paint 57 rfl (q := 98) rfl ?_
    refine go_iload td_X6_paint 58 rfl (q := 100) rfl 8 rfl ?_
    refine go_iadd td_X6_paint 59 rfl (q := 101) rfl ?_
    refine go_sipush td_X6_paint 60 rfl (q := 104) rfl ks_240 ?_
    refine go_imul td_X6_paint 61 rfl (q := 105) rfl ?_
    refine go_iload_n td_X6_paint 62 rfl (q := 106) rfl 4 rfl ?_
    refine go_iadd td_X6_paint 63 rfl (q := 107) rfl ?_
    refine go_iload td_X6_paint 64 rfl (q := 109) rfl 0 rfl ?_
    refine go_aload_n td_X6_paint 65 rfl (q := 110) rfl 2 rfl ?_
    refine go_get td_X6_paint 66 rfl (q := 113) rfl fl_X6_9 (Ac_118 E s3.2) rfl ?_
    refine go_iand td_X6_paint 67 rfl (q := 114) rfl ?_
    refine go_ast td_X6_paint 68 rfl (q := 115) rfl (Ac_126 E s3.2) (t0 := 0) rfl (Aas_126 E s3.2 _) ?_
    refine go_bvg (fun g7 => ?_)
    refine go_iinc [(6, .int (s3.1 + 1)), (8, .int x6), (7, .int x5), (0, .ref (E.1 118)), (1, .int a1), (2, .int a2), (3, .int a3), (4, .int x1), (5, .int x2)] td_X6_paint 69 rfl (q := 118) rfl 8 rfl kc_1 (Nat.le_of_ble_eq_true rfl) rfl ?_
    refine go_goto td_X6_paint 70 rfl (q := 31) rfl ?_
    refine go_pick [3, 4, 5, 6, 7, 8, 0] (lv' := [(0, .ref (E.1 118)), (1, .int a1), (2, .int a2), (3, .int a3), (4, .int x1), (5, .int x2), (6, .int (s3.1 + 1))]) rfl ?_
    exact krec3 (s3.1 + 1) g7
def fA_Sky_draw (a1 : Int32) (g : G) : Option (G) := ag 8 (g.2.1 9) a1 fun x1 => ag 4 (g.2.1 28) x1 fun x2 => ag 8 (g.2.1 29) a1 fun x3 => ag 8 (g.2.1 30) a1 fun x4 => ag 8 (g.2.1 121) a1 fun x5 => lj (α := Unit) (fun b6 => ck 8 a1 (bv (sA g 121 (a1 : Int32).toNatClampNeg x2) fun g7 => ck 8 a1 (bv (sA g7 122 (a1 : Int32).toNatClampNeg x3) fun g8 => ck 8 a1 (bv (sA g8 123 (a1 : Int32).toNatClampNeg x4) fun g9 => Option.bind (fA_Sky_makeArcs x4 g9) fun x10 => Lp (α := Int32 × G) (fun rec11 s11 => (if (s11.2.1 303) ≤ s11.1 then some s11.2 else Option.bind (fA_Sky_place a1 s11.1 x2 x3 s11.2) fun x12 => Option.bind (fA_Sky_paint a1 s11.1 x4 x12) fun x13 => rec11 (s11.1 + 1, x13))) FU (0, x10))))) fun J6 => (if x5 = x2 then ag 8 (g.2.1 122) a1 fun x14 => (if x14 = x3 then ag 8 (g.2.1 123) a1 fun x15 => (if x15 = x4 then some g else J6 ()) else J6 ()) else J6 ())
set_option maxRecDepth 20000 in
set_option maxHeartbeats 4000000 in
theorem ok_fA_Sky_draw (E : Ev) (a1 : Int32) (g : G)  : Ct (wCA E) yX6_draw mi_X6_draw [.ref (E.1 118), .ref (E.1 27), .int a1] (fun r => (none, r)) g (fA_Sky_draw a1 g) := by
  refine go_enter rfl rfl (Nat.le_of_ble_eq_true rfl) (lv := [(0, .ref (E.1 118)), (1, .ref (E.1 27)), (2, .int a1)]) rfl ?_
  unfold fA_Sky_draw
  refine go_aload_n td_X6_draw 0 rfl (q := 1) rfl 1 rfl ?_
  refine go_get td_X6_draw 1 rfl (q := 4) rfl fl_X6_88 (Ac_27 E g) rfl ?_
  refine go_aload_n td_X6_draw 2 rfl (q := 5) rfl 0 rfl ?_
  refine go_get td_X6_draw 3 rfl (q := 8) rfl fl_X6_53 (Ac_118 E g) rfl ?_
  refine go_get td_X6_draw 4 rfl (q := 11) rfl fl_X6_93 (Ac_3 E g) rfl ?_
  refine go_iload_n td_X6_draw 5 rfl (q := 12) rfl 2 rfl ?_
  refine go_ald td_X6_draw 6 rfl (q := 13) rfl (Ac_9 E g) (t0 := 0) rfl (fun x1 => ?_)
  refine go_ald td_X6_draw 7 rfl (q := 14) rfl (Ac_28 E g) (t0 := 0) rfl (fun x2 => ?_)
  refine go_istore_n [(3, .int x2), (0, .ref (E.1 118)), (1, .ref (E.1 27)), (2, .int a1)] td_X6_draw 8 rfl (q := 15) rfl (Nat.le_of_ble_eq_true rfl) rfl ?_
  refine go_aload_n td_X6_draw 9 rfl (q := 16) rfl 2 rfl ?_
  refine go_get td_X6_draw 10 rfl (q := 19) rfl fl_X6_96 (Ac_27 E g) rfl ?_
  refine go_iload_n td_X6_draw 11 rfl (q := 20) rfl 3 rfl ?_
  refine go_ald td_X6_draw 12 rfl (q := 21) rfl (Ac_29 E g) (t0 := 0) rfl (fun x3 => ?_)
  refine go_istore [(4, .int x3), (3, .int x2), (0, .ref (E.1 118)), (1, .ref (E.1 27)), (2, .int a1)] td_X6_draw 13 rfl (q := 23) rfl (Nat.le_of_ble_eq_true rfl) rfl ?_
  refine go_aload_n td_X6_draw 14 rfl (q := 24) rfl 3 rfl ?_
  refine go_get td_X6_draw 15 rfl (q := 27) rfl fl_X6_99 (Ac_27 E g) rfl ?_
  refine go_iload_n td_X6_draw 16 rfl (q := 28) rfl 4 rfl ?_
  refine go_ald td_X6_draw 17 rfl (q := 29) rfl (Ac_30 E g) (t0 := 0) rfl (fun x4 => ?_)
  refine go_istore [(5, .int x4), (4, .int x3), (3, .int x2), (0, .ref (E.1 118)), (1, .ref (E.1 27)), (2, .int a1)] td_X6_draw 18 rfl (q := 31) rfl (Nat.le_of_ble_eq_true rfl) rfl ?_
  refine go_aload_n td_X6_draw 19 rfl (q := 32) rfl 3 rfl ?_
  refine go_get td_X6_draw 20 rfl (q := 35) rfl fl_X6_26 (Ac_118 E g) rfl ?_
  refine go_iload_n td_X6_draw 21 rfl (q := 36) rfl 5 rfl ?_
  refine go_ald td_X6_draw 22 rfl (q := 37) rfl (Ac_121 E g) (t0 := 0) rfl (fun x5 => ?_)
  refine go_iload_n td_X6_draw 23 rfl (q := 38) rfl 2 rfl ?_
  refine go_ljX (α := Unit) (fun b6 => [(0, .ref (E.1 118)), (2, .int a1), (3, .int x2), (4, .int x3), (5, .int x4)]) (fun b6 => []) (fun b6 => g) 64 ?_ ?_
  · intro b6
    refine go_aload_n td_X6_draw 38 rfl (q := 65) rfl 0 rfl ?_
    refine go_get td_X6_draw 39 rfl (q := 68) rfl fl_X6_26 (Ac_118 E g) rfl ?_
    refine go_iload_n td_X6_draw 40 rfl (q := 69) rfl 1 rfl ?_
    refine go_iload_n td_X6_draw 41 rfl (q := 70) rfl 2 rfl ?_
    refine go_ast td_X6_draw 42 rfl (q := 71) rfl (Ac_121 E g) (t0 := 0) rfl (Aas_121 E g _) ?_
    refine go_bvg (fun g7 => ?_)
    refine go_aload_n td_X6_draw 43 rfl (q := 72) rfl 0 rfl ?_
    refine go_get td_X6_draw 44 rfl (q := 75) rfl fl_X6_29 (Ac_118 E g7) rfl ?_
    refine go_iload_n td_X6_draw 45 rfl (q := 76) rfl 1 rfl ?_
    refine go_iload td_X6_draw 46 rfl (q := 78) rfl 3 rfl ?_
    refine go_ast td_X6_draw 47 rfl (q := 79) rfl (Ac_122 E g7) (t0 := 0) rfl (Aas_122 E g7 _) ?_
    refine go_bvg (fun g8 => ?_)
    refine go_aload_n td_X6_draw 48 rfl (q := 80) rfl 0 rfl ?_
    refine go_get td_X6_draw 49 rfl (q := 83) rfl fl_X6_32 (Ac_118 E g8) rfl ?_
    refine go_iload_n td_X6_draw 50 rfl (q := 84) rfl 1 rfl ?_
    refine go_iload td_X6_draw 51 rfl (q := 86) rfl 4 rfl ?_
    refine go_ast td_X6_draw 52 rfl (q := 87) rfl (Ac_123 E g8) (t0 := 0) rfl (Aas_123 E g8 _) ?_
    refine go_bvg (fun g9 => ?_)
    refine go_aload_n td_X6_draw 53 rfl (q := 88) rfl 0 rfl ?_
    refine go_iload td_X6_draw 54 rfl (q := 90) rfl 4 rfl ?_
    refine go_callV td_X6_draw 55 rfl (q := 93) rfl (XkA E) lk_X6_102 (ok_fA_Sky_makeArcs E x4 g9) ⟨rfl, rfl, Nat.le_of_ble_eq_true rfl, Nat.le_of_ble_eq_true rfl⟩ rfl rfl (Nat.le_of_ble_eq_true rfl) (Ac_118 E g9) rfl (fun x10 => ?_)
    show Go (wCA E) _ _ x10 93 _ [] _
    refine go_iconst td_X6_draw 56 rfl (q := 94) rfl kc_0 ?_
    refine go_istore [(6, .int 0), (0, .ref (E.1 118)), (2, .int a1), (3, .int x2), (4, .int x3), (5, .int x4)] td_X6_draw 57 rfl (q := 96) rfl (Nat.le_of_ble_eq_true rfl) rfl ?_
    refine go_pick [1, 2, 3, 4, 5, 0] (lv' := [(0, .ref (E.1 118)), (2, .int a1), (3, .int x2), (4, .int x3), (5, .int x4), (6, .int 0)]) rfl ?_
    refine (show ∀ (u11_0 : Int32) (u11_1 : G), Go (wCA E) _ _ u11_1 96 [(0, .ref (E.1 118)), (2, .int a1), (3, .int x2), (4, .int x3), (5, .int x4), (6, .int u11_0)] [] (Lp (α := Int32 × G) _ FU (u11_0, u11_1)) from ?_) 0 x10
    intro u11_0 u11_1
    refine go_Lp (α := Int32 × G) (fun s11 => s11.2) (fun s11 => [(0, .ref (E.1 118)), (2, .int a1), (3, .int x2), (4, .int x3), (5, .int x4), (6, .int s11.1)]) ?_ FU (u11_0, u11_1)
    intro rec11 hrec11 s11
    have krec11 : ∀ (u11_0 : Int32) (u11_1 : G), Go (wCA E) _ _ u11_1 96 [(0, .ref (E.1 118)), (2, .int a1), (3, .int x2), (4, .int x3), (5, .int x4), (6, .int u11_0)] [] (rec11 (u11_0, u11_1)) := fun u11_0 u11_1 => hrec11 (u11_0, u11_1)
    refine go_iload td_X6_draw 58 rfl (q := 98) rfl 5 rfl ?_
    refine go_aload_n td_X6_draw 59 rfl (q := 99) rfl 0 rfl ?_
    refine go_get td_X6_draw 60 rfl (q := 102) rfl fl_X6_53 (Ac_118 E s11.2) rfl ?_
    refine go_get td_X6_draw 61 rfl (q := 105) rfl fl_X6_106 (Ac_3 E s11.2) rfl ?_
    refine go_icmp_ge 133 td_X6_draw 62 rfl rfl (q := 108) rfl (fun _ => ?_) (fun _ => ?_)
    · exact go_vret td_X6_draw 76 rfl rfl rfl
    · refine go_aload_n td_X6_draw 63 rfl (q := 109) rfl 0 rfl ?_
      refine go_iload_n td_X6_draw 64 rfl (q := 110) rfl 1 rfl ?_
      refine go_iload td_X6_draw 65 rfl (q := 112) rfl 5 rfl ?_
      refine go_iload_n td_X6_draw 66 rfl (q := 113) rfl 2 rfl ?_
      refine go_iload td_X6_draw 67 rfl (q := 115) rfl 3 rfl ?_
      refine go_callV td_X6_draw 68 rfl (q := 118) rfl (XkA E) lk_X6_109 (ok_fA_Sky_place E a1 s11.1 x2 x3 s11.2) ⟨rfl, rfl, Nat.le_of_ble_eq_true rfl, Nat.le_of_ble_eq_true rfl⟩ rfl rfl (Nat.le_of_ble_eq_true rfl) (Ac_118 E s11.2) rfl (fun x12 => ?_)
      show Go (wCA E) _ _ x12 118 _ [] _
      refine go_aload_n td_X6_draw 69 rfl (q := 119) rfl 0 rfl ?_
      refine go_iload_n td_X6_draw 70 rfl (q := 120) rfl 1 rfl ?_
      refine go_iload td_X6_draw 71 rfl (q := 122) rfl 5 rfl ?_
      refine go_iload td_X6_draw 72 rfl (q := 124) rfl 4 rfl ?_
      refine go_callV td_X6_draw 73 rfl (q := 127) rfl (XkA E) lk_X6_113 (ok_fA_Sky_paint E a1 s11.1 x4 x12) ⟨rfl, rfl, Nat.le_of_ble_eq_true rfl, Nat.le_of_ble_eq_true rfl⟩ rfl rfl (Nat.le_of_ble_eq_true rfl) (Ac_118 E x12) rfl (fun x13 => ?_)
      show Go (wCA E) _ _ x13 127 _ [] _
      refine go_iinc [(6, .int (s11.1 + 1)), (0, .ref (E.1 118)), (2, .int a1), (3, .int x2), (4, .int x3), (5, .int x4)] td_X6_draw 74 rfl (q := 130) rfl 5 rfl kc_1 (Nat.le_of_ble_eq_true rfl) rfl ?_
      refine go_goto td_X6_draw 75 rfl (q := 96) rfl ?_
      refine go_pick [1, 2, 3, 4, 5, 0] (lv' := [(0, .ref (E.1 118)), (2, .int a1), (3, .int x2), (4, .int x3), (5, .int x4), (6, .int (s11.1 + 1))]) rfl ?_
      exact krec11 (s11.1 + 1) x13
  intro J6 hJ6
  have kJ6 : Go (wCA E) _ _ g 64 [(0, .ref (E.1 118)), (2, .int a1), (3, .int x2), (4, .int x3), (5, .int x4)] [] (J6 ()) := hJ6 ()
  refine go_icmp_ne 64 td_X6_draw 24 rfl rfl (q := 41) rfl (fun _ => ?_) (fun _ => ?_)
  · refine go_pick [3, 5, 2, 1, 0] (lv' := [(0, .ref (E.1 118)), (2, .int a1), (3, .int x2), (4, .int x3), (5, .int x4)]) rfl ?_
    exact kJ6 
  · refine go_aload_n td_X6_draw 25 rfl (q := 42) rfl 3 rfl ?_
    refine go_get td_X6_draw 26 rfl (q := 45) rfl fl_X6_29 (Ac_118 E g) rfl ?_
    refine go_iload_n td_X6_draw 27 rfl (q := 46) rfl 5 rfl ?_
    refine go_ald td_X6_draw 28 rfl (q := 47) rfl (Ac_122 E g) (t0 := 0) rfl (fun x14 => ?_)
    refine go_iload td_X6_draw 29 rfl (q := 49) rfl 1 rfl ?_
    refine go_icmp_ne 64 td_X6_draw 30 rfl rfl (q := 52) rfl (fun _ => ?_) (fun _ => ?_)
    · refine go_pick [3, 5, 2, 1, 0] (lv' := [(0, .ref (E.1 118)), (2, .int a1), (3, .int x2), (4, .int x3), (5, .int x4)]) rfl ?_
      exact kJ6 
    · refine go_aload_n td_X6_draw 31 rfl (q := 53) rfl 3 rfl ?_
      refine go_get td_X6_draw 32 rfl (q := 56) rfl fl_X6_32 (Ac_118 E g) rfl ?_
      refine go_iload_n td_X6_draw 33 rfl (q := 57) rfl 5 rfl ?_
      refine go_ald td_X6_draw 34 rfl (q := 58) rfl (Ac_123 E g) (t0 := 0) rfl (fun x15 => ?_)
      refine go_iload td_X6_draw 35 rfl (q := 60) rfl 0 rfl ?_
      refine go_icmp_ne 64 td_X6_draw 36 rfl rfl (q := 63) rfl (fun _ => ?_) (fun _ => ?_)
      · refine go_pick [3, 5, 2, 1, 0] (lv' := [(0, .ref (E.1 118)), (2, .int a1), (3, .int x2), (4, .int x3), (5, .int x4)]) rfl ?_
        exact kJ6 
      · exact go_vret td_X6_draw 37 rfl rfl rfl
def fA_Sky_drawAll (g : G) : Option (G) := Lp (α := Int32 × G) (fun rec1 s1 => (if (s1.2.1 306) ≤ s1.1 then some s1.2 else Option.bind (fA_Sky_draw s1.1 s1.2) fun x2 => rec1 (s1.1 + 1, x2))) FU (0, g)
set_option maxRecDepth 20000 in
set_option maxHeartbeats 4000000 in
theorem ok_fA_Sky_drawAll (E : Ev)  (g : G)  : Ct (wCA E) yX6_drawAll mi_X6_drawAll [.ref (E.1 118), .ref (E.1 27)] (fun r => (none, r)) g (fA_Sky_drawAll g) := by
  refine go_enter rfl rfl (Nat.le_of_ble_eq_true rfl) (lv := [(0, .ref (E.1 118)), (1, .ref (E.1 27))]) rfl ?_
  unfold fA_Sky_drawAll
  refine go_iconst td_X6_drawAll 0 rfl (q := 1) rfl kc_0 ?_
  refine go_istore_n [(2, .int 0), (0, .ref (E.1 118)), (1, .ref (E.1 27))] td_X6_drawAll 1 rfl (q := 2) rfl (Nat.le_of_ble_eq_true rfl) rfl ?_
  refine go_pick [1, 2, 0] (lv' := [(0, .ref (E.1 118)), (1, .ref (E.1 27)), (2, .int 0)]) rfl ?_
  refine (show ∀ (u1_0 : Int32) (u1_1 : G), Go (wCA E) _ _ u1_1 2 [(0, .ref (E.1 118)), (1, .ref (E.1 27)), (2, .int u1_0)] [] (Lp (α := Int32 × G) _ FU (u1_0, u1_1)) from ?_) 0 g
  intro u1_0 u1_1
  refine go_Lp (α := Int32 × G) (fun s1 => s1.2) (fun s1 => [(0, .ref (E.1 118)), (1, .ref (E.1 27)), (2, .int s1.1)]) ?_ FU (u1_0, u1_1)
  intro rec1 hrec1 s1
  have krec1 : ∀ (u1_0 : Int32) (u1_1 : G), Go (wCA E) _ _ u1_1 2 [(0, .ref (E.1 118)), (1, .ref (E.1 27)), (2, .int u1_0)] [] (rec1 (u1_0, u1_1)) := fun u1_0 u1_1 => hrec1 (u1_0, u1_1)
  refine go_iload_n td_X6_drawAll 2 rfl (q := 3) rfl 2 rfl ?_
  refine go_aload_n td_X6_drawAll 3 rfl (q := 4) rfl 0 rfl ?_
  refine go_get td_X6_drawAll 4 rfl (q := 7) rfl fl_X6_53 (Ac_118 E s1.2) rfl ?_
  refine go_get td_X6_drawAll 5 rfl (q := 10) rfl fl_X6_81 (Ac_3 E s1.2) rfl ?_
  refine go_icmp_ge 25 td_X6_drawAll 6 rfl rfl (q := 13) rfl (fun _ => ?_) (fun _ => ?_)
  · exact go_vret td_X6_drawAll 13 rfl rfl rfl
  · refine go_aload_n td_X6_drawAll 7 rfl (q := 14) rfl 0 rfl ?_
    refine go_aload_n td_X6_drawAll 8 rfl (q := 15) rfl 1 rfl ?_
    refine go_iload_n td_X6_drawAll 9 rfl (q := 16) rfl 2 rfl ?_
    refine go_callV td_X6_drawAll 10 rfl (q := 19) rfl (XkA E) lk_X6_84 (ok_fA_Sky_draw E s1.1 s1.2) ⟨rfl, rfl, Nat.le_of_ble_eq_true rfl, Nat.le_of_ble_eq_true rfl⟩ rfl rfl (Nat.le_of_ble_eq_true rfl) (Ac_118 E s1.2) rfl (fun x2 => ?_)
    show Go (wCA E) _ _ x2 19 _ [] _
    refine go_iinc [(2, .int (s1.1 + 1)), (0, .ref (E.1 118)), (1, .ref (E.1 27))] td_X6_drawAll 11 rfl (q := 22) rfl 2 rfl kc_1 (Nat.le_of_ble_eq_true rfl) rfl ?_
    refine go_goto td_X6_drawAll 12 rfl (q := 2) rfl ?_
    refine go_pick [1, 2, 0] (lv' := [(0, .ref (E.1 118)), (1, .ref (E.1 27)), (2, .int (s1.1 + 1))]) rfl ?_
    exact krec1 (s1.1 + 1) x2
def fA_Sky_addViews (a1 : Int32) (a2 : Int32) (g : G) : Option (G) := bv (a2 * 240) fun x1 => Lp (α := Int32 × G) (fun rec2 s2 => (if (s2.2.1 306) ≤ s2.1 then some s2.2 else lj (α := G) (fun b3 => rec2 (s2.1 + 1, b3)) fun J3 => (if ((a1 >>> (s2.1 &&& 31)) &&& 1) = 0 then J3 s2.2 else bv (((s2.1 * 12) + a2) * 240) fun x4 => Lp (α := Int32 × G) (fun rec5 s5 => (if (s5.2.1 303) ≤ s5.1 then J3 s5.2 else ag 2880 (s5.2.2.1 127) (x1 + s5.1) fun x6 => ag 23040 (s5.2.2.1 126) (x4 + s5.1) fun x7 => ck 2880 (x1 + s5.1) (bv (sA s5.2 127 (x1 + s5.1 : Int32).toNatClampNeg (x6 ||| x7)) fun g8 => rec5 (s5.1 + 1, g8)))) FU (0, s2.2)))) FU (0, g)
set_option maxRecDepth 20000 in
set_option maxHeartbeats 4000000 in
theorem ok_fA_Sky_addViews (E : Ev) (a1 : Int32) (a2 : Int32) (g : G)  : Ct (wCA E) yX6_addViews mi_X6_addViews [.ref (E.1 118), .ref (E.1 127), .int a1, .int a2] (fun r => (none, r)) g (fA_Sky_addViews a1 a2 g) := by
  refine go_enter rfl rfl (Nat.le_of_ble_eq_true rfl) (lv := [(0, .ref (E.1 118)), (1, .ref (E.1 127)), (2, .int a1), (3, .int a2)]) rfl ?_
  unfold fA_Sky_addViews
  refine go_iload_n td_X6_addViews 0 rfl (q := 1) rfl 3 rfl ?_
  refine go_sipush td_X6_addViews 1 rfl (q := 4) rfl ks_240 ?_
  refine go_imul td_X6_addViews 2 rfl (q := 5) rfl ?_
  refine go_bvi (fun x1 => ?_)
  refine go_istore [(4, .int x1), (0, .ref (E.1 118)), (1, .ref (E.1 127)), (2, .int a1), (3, .int a2)] td_X6_addViews 3 rfl (q := 7) rfl (Nat.le_of_ble_eq_true rfl) rfl ?_
  refine go_iconst td_X6_addViews 4 rfl (q := 8) rfl kc_0 ?_
  refine go_istore [(5, .int 0), (4, .int x1), (0, .ref (E.1 118)), (1, .ref (E.1 127)), (2, .int a1), (3, .int a2)] td_X6_addViews 5 rfl (q := 10) rfl (Nat.le_of_ble_eq_true rfl) rfl ?_
  refine go_pick [2, 3, 4, 5, 1, 0] (lv' := [(0, .ref (E.1 118)), (1, .ref (E.1 127)), (2, .int a1), (3, .int a2), (4, .int x1), (5, .int 0)]) rfl ?_
  refine (show ∀ (u2_0 : Int32) (u2_1 : G), Go (wCA E) _ _ u2_1 10 [(0, .ref (E.1 118)), (1, .ref (E.1 127)), (2, .int a1), (3, .int a2), (4, .int x1), (5, .int u2_0)] [] (Lp (α := Int32 × G) _ FU (u2_0, u2_1)) from ?_) 0 g
  intro u2_0 u2_1
  refine go_Lp (α := Int32 × G) (fun s2 => s2.2) (fun s2 => [(0, .ref (E.1 118)), (1, .ref (E.1 127)), (2, .int a1), (3, .int a2), (4, .int x1), (5, .int s2.1)]) ?_ FU (u2_0, u2_1)
  intro rec2 hrec2 s2
  have krec2 : ∀ (u2_0 : Int32) (u2_1 : G), Go (wCA E) _ _ u2_1 10 [(0, .ref (E.1 118)), (1, .ref (E.1 127)), (2, .int a1), (3, .int a2), (4, .int x1), (5, .int u2_0)] [] (rec2 (u2_0, u2_1)) := fun u2_0 u2_1 => hrec2 (u2_0, u2_1)
  refine go_iload td_X6_addViews 6 rfl (q := 12) rfl 5 rfl ?_
  refine go_aload_n td_X6_addViews 7 rfl (q := 13) rfl 0 rfl ?_
  refine go_get td_X6_addViews 8 rfl (q := 16) rfl fl_X6_53 (Ac_118 E s2.2) rfl ?_
  refine go_get td_X6_addViews 9 rfl (q := 19) rfl fl_X6_81 (Ac_3 E s2.2) rfl ?_
  refine go_icmp_ge 91 td_X6_addViews 10 rfl rfl (q := 22) rfl (fun _ => ?_) (fun _ => ?_)
  · exact go_vret td_X6_addViews 50 rfl rfl rfl
  · refine go_iload_n td_X6_addViews 11 rfl (q := 23) rfl 2 rfl ?_
    refine go_iload td_X6_addViews 12 rfl (q := 25) rfl 5 rfl ?_
    refine go_ishr td_X6_addViews 13 rfl (q := 26) rfl ?_
    refine go_iconst td_X6_addViews 14 rfl (q := 27) rfl kc_1 ?_
    refine go_iand td_X6_addViews 15 rfl (q := 28) rfl ?_
    refine go_ljX (α := G) (fun b3 => [(0, .ref (E.1 118)), (1, .ref (E.1 127)), (2, .int a1), (3, .int a2), (4, .int x1), (5, .int s2.1)]) (fun b3 => []) (fun b3 => b3) 85 ?_ ?_
    · intro b3
      refine go_iinc [(5, .int (s2.1 + 1)), (0, .ref (E.1 118)), (1, .ref (E.1 127)), (2, .int a1), (3, .int a2), (4, .int x1)] td_X6_addViews 48 rfl (q := 88) rfl 5 rfl kc_1 (Nat.le_of_ble_eq_true rfl) rfl ?_
      refine go_goto td_X6_addViews 49 rfl (q := 10) rfl ?_
      refine go_pick [1, 2, 3, 4, 5, 0] (lv' := [(0, .ref (E.1 118)), (1, .ref (E.1 127)), (2, .int a1), (3, .int a2), (4, .int x1), (5, .int (s2.1 + 1))]) rfl ?_
      exact krec2 (s2.1 + 1) b3
    intro J3 hJ3
    have kJ3 : ∀ (u3_0 : G), Go (wCA E) _ _ u3_0 85 [(0, .ref (E.1 118)), (1, .ref (E.1 127)), (2, .int a1), (3, .int a2), (4, .int x1), (5, .int s2.1)] [] (J3 u3_0) := fun u3_0 => hJ3 u3_0
    refine go_if_eq 85 td_X6_addViews 16 rfl rfl (q := 31) rfl (fun _ => ?_) (fun _ => ?_)
    · refine go_pick [0, 1, 2, 3, 4, 5] (lv' := [(0, .ref (E.1 118)), (1, .ref (E.1 127)), (2, .int a1), (3, .int a2), (4, .int x1), (5, .int s2.1)]) rfl ?_
      exact kJ3 s2.2
    · refine go_iload td_X6_addViews 17 rfl (q := 33) rfl 5 rfl ?_
      refine go_bipush td_X6_addViews 18 rfl (q := 35) rfl kb_12 ?_
      refine go_imul td_X6_addViews 19 rfl (q := 36) rfl ?_
      refine go_iload_n td_X6_addViews 20 rfl (q := 37) rfl 3 rfl ?_
      refine go_iadd td_X6_addViews 21 rfl (q := 38) rfl ?_
      refine go_sipush td_X6_addViews 22 rfl (q := 41) rfl ks_240 ?_
      refine go_imul td_X6_addViews 23 rfl (q := 42) rfl ?_
      refine go_bvi (fun x4 => ?_)
      refine go_istore [(6, .int x4), (0, .ref (E.1 118)), (1, .ref (E.1 127)), (2, .int a1), (3, .int a2), (4, .int x1), (5, .int s2.1)] td_X6_addViews 24 rfl (q := 44) rfl (Nat.le_of_ble_eq_true rfl) rfl ?_
      refine go_iconst td_X6_addViews 25 rfl (q := 45) rfl kc_0 ?_
      refine go_istore [(7, .int 0), (6, .int x4), (0, .ref (E.1 118)), (1, .ref (E.1 127)), (2, .int a1), (3, .int a2), (4, .int x1), (5, .int s2.1)] td_X6_addViews 26 rfl (q := 47) rfl (Nat.le_of_ble_eq_true rfl) rfl ?_
      refine go_pick [2, 3, 4, 5, 6, 7, 1, 0] (lv' := [(0, .ref (E.1 118)), (1, .ref (E.1 127)), (2, .int a1), (3, .int a2), (4, .int x1), (5, .int s2.1), (6, .int x4), (7, .int 0)]) rfl ?_
      refine (show ∀ (u5_0 : Int32) (u5_1 : G), Go (wCA E) _ _ u5_1 47 [(0, .ref (E.1 118)), (1, .ref (E.1 127)), (2, .int a1), (3, .int a2), (4, .int x1), (5, .int s2.1), (6, .int x4), (7, .int u5_0)] [] (Lp (α := Int32 × G) _ FU (u5_0, u5_1)) from ?_) 0 s2.2
      intro u5_0 u5_1
      refine go_Lp (α := Int32 × G) (fun s5 => s5.2) (fun s5 => [(0, .ref (E.1 118)), (1, .ref (E.1 127)), (2, .int a1), (3, .int a2), (4, .int x1), (5, .int s2.1), (6, .int x4), (7, .int s5.1)]) ?_ FU (u5_0, u5_1)
      intro rec5 hrec5 s5
      have krec5 : ∀ (u5_0 : Int32) (u5_1 : G), Go (wCA E) _ _ u5_1 47 [(0, .ref (E.1 118)), (1, .ref (E.1 127)), (2, .int a1), (3, .int a2), (4, .int x1), (5, .int s2.1), (6, .int x4), (7, .int u5_0)] [] (rec5 (u5_0, u5_1)) := fun u5_0 u5_1 => hrec5 (u5_0, u5_1)
      refine go_iload td_X6_addViews 27 rfl (q := 49) rfl 7 rfl ?_
      refine go_aload_n td_X6_addViews 28 rfl (q := 50) rfl 0 rfl ?_
      refine go_get td_X6_addViews 29 rfl (q := 53) rfl fl_X6_53 (Ac_118 E s5.2) rfl ?_
      refine go_get td_X6_addViews 30 rfl (q := 56) rfl fl_X6_106 (Ac_3 E s5.2) rfl ?_
      refine go_icmp_ge 85 td_X6_addViews 31 rfl rfl (q := 59) rfl (fun _ => ?_) (fun _ => ?_)
      · refine go_pick [0, 1, 2, 3, 4, 5] (lv' := [(0, .ref (E.1 118)), (1, .ref (E.1 127)), (2, .int a1), (3, .int a2), (4, .int x1), (5, .int s2.1)]) rfl ?_
        exact kJ3 s5.2
      · refine go_aload_n td_X6_addViews 32 rfl (q := 60) rfl 1 rfl ?_
        refine go_iload td_X6_addViews 33 rfl (q := 62) rfl 4 rfl ?_
        refine go_iload td_X6_addViews 34 rfl (q := 64) rfl 7 rfl ?_
        refine go_iadd td_X6_addViews 35 rfl (q := 65) rfl ?_
        refine go_dup2 td_X6_addViews 36 rfl (q := 66) rfl rfl rfl ?_
        refine go_ald td_X6_addViews 37 rfl (q := 67) rfl (Ac_127 E s5.2) (t0 := 0) rfl (fun x6 => ?_)
        refine go_aload_n td_X6_addViews 38 rfl (q := 68) rfl 0 rfl ?_
        refine go_get td_X6_addViews 39 rfl (q := 71) rfl fl_X6_41 (Ac_118 E s5.2) rfl ?_
        refine go_iload td_X6_addViews 40 rfl (q := 73) rfl 6 rfl ?_
        refine go_iload td_X6_addViews 41 rfl (q := 75) rfl 7 rfl ?_
        refine go_iadd td_X6_addViews 42 rfl (q := 76) rfl ?_
        refine go_ald td_X6_addViews 43 rfl (q := 77) rfl (Ac_126 E s5.2) (t0 := 0) rfl (fun x7 => ?_)
        refine go_ior td_X6_addViews 44 rfl (q := 78) rfl ?_
        refine go_ast td_X6_addViews 45 rfl (q := 79) rfl (Ac_127 E s5.2) (t0 := 0) rfl (Aas_127 E s5.2 _) ?_
        refine go_bvg (fun g8 => ?_)
        refine go_iinc [(7, .int (s5.1 + 1)), (0, .ref (E.1 118)), (1, .ref (E.1 127)), (2, .int a1), (3, .int a2), (4, .int x1), (5, .int s2.1), (6, .int x4)] td_X6_addViews 46 rfl (q := 82) rfl 7 rfl kc_1 (Nat.le_of_ble_eq_true rfl) rfl ?_
        refine go_goto td_X6_addViews 47 rfl (q := 47) rfl ?_
        refine go_pick [1, 2, 3, 4, 5, 6, 7, 0] (lv' := [(0, .ref (E.1 118)), (1, .ref (E.1 127)), (2, .int a1), (3, .int a2), (4, .int x1), (5, .int s2.1), (6, .int x4), (7, .int (s5.1 + 1))]) rfl ?_
        exact krec5 (s5.1 + 1) g8
def fA_Sky_hold (a1 : Int32) (g : G) : Option (G) := Lp (α := Int32 × G) (fun rec1 s1 => (if (s1.2.1 301) ≤ s1.1 then some s1.2 else Lp (α := Int32 × G) (fun rec2 s2 => (if (s2.2.1 303) ≤ s2.1 then Option.bind (fA_Sky_addViews a1 s1.1 s2.2) fun x3 => rec1 (s1.1 + 1, x3) else ck 2880 ((s1.1 * 240) + s2.1) (bv (sA s2.2 127 ((s1.1 * 240) + s2.1 : Int32).toNatClampNeg 0) fun g4 => rec2 (s2.1 + 1, g4)))) FU (0, s1.2))) FU (0, g)
set_option maxRecDepth 20000 in
set_option maxHeartbeats 4000000 in
theorem ok_fA_Sky_hold (E : Ev) (a1 : Int32) (g : G)  : Ct (wCA E) yX6_hold mi_X6_hold [.ref (E.1 118), .int a1] (fun r => (none, r)) g (fA_Sky_hold a1 g) := by
  refine go_enter rfl rfl (Nat.le_of_ble_eq_true rfl) (lv := [(0, .ref (E.1 118)), (1, .int a1)]) rfl ?_
  unfold fA_Sky_hold
  refine go_iconst td_X6_hold 0 rfl (q := 1) rfl kc_0 ?_
  refine go_istore_n [(2, .int 0), (0, .ref (E.1 118)), (1, .int a1)] td_X6_hold 1 rfl (q := 2) rfl (Nat.le_of_ble_eq_true rfl) rfl ?_
  refine go_pick [1, 2, 0] (lv' := [(0, .ref (E.1 118)), (1, .int a1), (2, .int 0)]) rfl ?_
  refine (show ∀ (u1_0 : Int32) (u1_1 : G), Go (wCA E) _ _ u1_1 2 [(0, .ref (E.1 118)), (1, .int a1), (2, .int u1_0)] [] (Lp (α := Int32 × G) _ FU (u1_0, u1_1)) from ?_) 0 g
  intro u1_0 u1_1
  refine go_Lp (α := Int32 × G) (fun s1 => s1.2) (fun s1 => [(0, .ref (E.1 118)), (1, .int a1), (2, .int s1.1)]) ?_ FU (u1_0, u1_1)
  intro rec1 hrec1 s1
  have krec1 : ∀ (u1_0 : Int32) (u1_1 : G), Go (wCA E) _ _ u1_1 2 [(0, .ref (E.1 118)), (1, .int a1), (2, .int u1_0)] [] (rec1 (u1_0, u1_1)) := fun u1_0 u1_1 => hrec1 (u1_0, u1_1)
  refine go_iload_n td_X6_hold 2 rfl (q := 3) rfl 2 rfl ?_
  refine go_aload_n td_X6_hold 3 rfl (q := 4) rfl 0 rfl ?_
  refine go_get td_X6_hold 4 rfl (q := 7) rfl fl_X6_53 (Ac_118 E s1.2) rfl ?_
  refine go_get td_X6_hold 5 rfl (q := 10) rfl fl_X6_62 (Ac_3 E s1.2) rfl ?_
  refine go_icmp_ge 61 td_X6_hold 6 rfl rfl (q := 13) rfl (fun _ => ?_) (fun _ => ?_)
  · exact go_vret td_X6_hold 33 rfl rfl rfl
  · refine go_iconst td_X6_hold 7 rfl (q := 14) rfl kc_0 ?_
    refine go_istore_n [(3, .int 0), (0, .ref (E.1 118)), (1, .int a1), (2, .int s1.1)] td_X6_hold 8 rfl (q := 15) rfl (Nat.le_of_ble_eq_true rfl) rfl ?_
    refine go_pick [1, 2, 3, 0] (lv' := [(0, .ref (E.1 118)), (1, .int a1), (2, .int s1.1), (3, .int 0)]) rfl ?_
    refine (show ∀ (u2_0 : Int32) (u2_1 : G), Go (wCA E) _ _ u2_1 15 [(0, .ref (E.1 118)), (1, .int a1), (2, .int s1.1), (3, .int u2_0)] [] (Lp (α := Int32 × G) _ FU (u2_0, u2_1)) from ?_) 0 s1.2
    intro u2_0 u2_1
    refine go_Lp (α := Int32 × G) (fun s2 => s2.2) (fun s2 => [(0, .ref (E.1 118)), (1, .int a1), (2, .int s1.1), (3, .int s2.1)]) ?_ FU (u2_0, u2_1)
    intro rec2 hrec2 s2
    have krec2 : ∀ (u2_0 : Int32) (u2_1 : G), Go (wCA E) _ _ u2_1 15 [(0, .ref (E.1 118)), (1, .int a1), (2, .int s1.1), (3, .int u2_0)] [] (rec2 (u2_0, u2_1)) := fun u2_0 u2_1 => hrec2 (u2_0, u2_1)
    refine go_iload_n td_X6_hold 9 rfl (q := 16) rfl 3 rfl ?_
    refine go_aload_n td_X6_hold 10 rfl (q := 17) rfl 0 rfl ?_
    refine go_get td_X6_hold 11 rfl (q := 20) rfl fl_X6_53 (Ac_118 E s2.2) rfl ?_
    refine go_get td_X6_hold 12 rfl (q := 23) rfl fl_X6_106 (Ac_3 E s2.2) rfl ?_
    refine go_icmp_ge 45 td_X6_hold 13 rfl rfl (q := 26) rfl (fun _ => ?_) (fun _ => ?_)
    · refine go_aload_n td_X6_hold 25 rfl (q := 46) rfl 0 rfl ?_
      refine go_aload_n td_X6_hold 26 rfl (q := 47) rfl 0 rfl ?_
      refine go_get td_X6_hold 27 rfl (q := 50) rfl fl_X6_44 (Ac_118 E s2.2) rfl ?_
      refine go_iload_n td_X6_hold 28 rfl (q := 51) rfl 1 rfl ?_
      refine go_iload_n td_X6_hold 29 rfl (q := 52) rfl 2 rfl ?_
      refine go_callV td_X6_hold 30 rfl (q := 55) rfl (XkA E) lk_X6_136 (ok_fA_Sky_addViews E a1 s1.1 s2.2) ⟨rfl, rfl, Nat.le_of_ble_eq_true rfl, Nat.le_of_ble_eq_true rfl⟩ rfl rfl (Nat.le_of_ble_eq_true rfl) (Ac_118 E s2.2) rfl (fun x3 => ?_)
      show Go (wCA E) _ _ x3 55 _ [] _
      refine go_iinc [(2, .int (s1.1 + 1)), (0, .ref (E.1 118)), (1, .int a1), (3, .int s2.1)] td_X6_hold 31 rfl (q := 58) rfl 2 rfl kc_1 (Nat.le_of_ble_eq_true rfl) rfl ?_
      refine go_goto td_X6_hold 32 rfl (q := 2) rfl ?_
      refine go_pick [1, 2, 0] (lv' := [(0, .ref (E.1 118)), (1, .int a1), (2, .int (s1.1 + 1))]) rfl ?_
      exact krec1 (s1.1 + 1) x3
    · refine go_aload_n td_X6_hold 14 rfl (q := 27) rfl 0 rfl ?_
      refine go_get td_X6_hold 15 rfl (q := 30) rfl fl_X6_44 (Ac_118 E s2.2) rfl ?_
      refine go_iload_n td_X6_hold 16 rfl (q := 31) rfl 2 rfl ?_
      refine go_sipush td_X6_hold 17 rfl (q := 34) rfl ks_240 ?_
      refine go_imul td_X6_hold 18 rfl (q := 35) rfl ?_
      refine go_iload_n td_X6_hold 19 rfl (q := 36) rfl 3 rfl ?_
      refine go_iadd td_X6_hold 20 rfl (q := 37) rfl ?_
      refine go_iconst td_X6_hold 21 rfl (q := 38) rfl kc_0 ?_
      refine go_ast td_X6_hold 22 rfl (q := 39) rfl (Ac_127 E s2.2) (t0 := 0) rfl (Aas_127 E s2.2 _) ?_
      refine go_bvg (fun g4 => ?_)
      refine go_iinc [(3, .int (s2.1 + 1)), (0, .ref (E.1 118)), (1, .int a1), (2, .int s1.1)] td_X6_hold 23 rfl (q := 42) rfl 3 rfl kc_1 (Nat.le_of_ble_eq_true rfl) rfl ?_
      refine go_goto td_X6_hold 24 rfl (q := 15) rfl ?_
      refine go_pick [1, 2, 3, 0] (lv' := [(0, .ref (E.1 118)), (1, .int a1), (2, .int s1.1), (3, .int (s2.1 + 1))]) rfl ?_
      exact krec2 (s2.1 + 1) g4
def fA_Sky_addViews_2 (a1 : Int32) (a2 : Int32) (g : G) : Option (G) := bv (a2 * 240) fun x1 => Lp (α := Int32 × G) (fun rec2 s2 => (if (s2.2.1 306) ≤ s2.1 then some s2.2 else lj (α := G) (fun b3 => rec2 (s2.1 + 1, b3)) fun J3 => (if ((a1 >>> (s2.1 &&& 31)) &&& 1) = 0 then J3 s2.2 else bv (((s2.1 * 12) + a2) * 240) fun x4 => Lp (α := Int32 × G) (fun rec5 s5 => (if (s5.2.1 303) ≤ s5.1 then J3 s5.2 else ag 2880 (s5.2.2.1 128) (x1 + s5.1) fun x6 => ag 23040 (s5.2.2.1 126) (x4 + s5.1) fun x7 => ck 2880 (x1 + s5.1) (bv (sA s5.2 128 (x1 + s5.1 : Int32).toNatClampNeg (x6 ||| x7)) fun g8 => rec5 (s5.1 + 1, g8)))) FU (0, s2.2)))) FU (0, g)
set_option maxRecDepth 20000 in
set_option maxHeartbeats 4000000 in
theorem ok_fA_Sky_addViews_2 (E : Ev) (a1 : Int32) (a2 : Int32) (g : G)  : Ct (wCA E) yX6_addViews mi_X6_addViews [.ref (E.1 118), .ref (E.1 128), .int a1, .int a2] (fun r => (none, r)) g (fA_Sky_addViews_2 a1 a2 g) := by
  refine go_enter rfl rfl (Nat.le_of_ble_eq_true rfl) (lv := [(0, .ref (E.1 118)), (1, .ref (E.1 128)), (2, .int a1), (3, .int a2)]) rfl ?_
  unfold fA_Sky_addViews_2
  refine go_iload_n td_X6_addViews 0 rfl (q := 1) rfl 3 rfl ?_
  refine go_sipush td_X6_addViews 1 rfl (q := 4) rfl ks_240 ?_
  refine go_imul td_X6_addViews 2 rfl (q := 5) rfl ?_
  refine go_bvi (fun x1 => ?_)
  refine go_istore [(4, .int x1), (0, .ref (E.1 118)), (1, .ref (E.1 128)), (2, .int a1), (3, .int a2)] td_X6_addViews 3 rfl (q := 7) rfl (Nat.le_of_ble_eq_true rfl) rfl ?_
  refine go_iconst td_X6_addViews 4 rfl (q := 8) rfl kc_0 ?_
  refine go_istore [(5, .int 0), (4, .int x1), (0, .ref (E.1 118)), (1, .ref (E.1 128)), (2, .int a1), (3, .int a2)] td_X6_addViews 5 rfl (q := 10) rfl (Nat.le_of_ble_eq_true rfl) rfl ?_
  refine go_pick [2, 3, 4, 5, 1, 0] (lv' := [(0, .ref (E.1 118)), (1, .ref (E.1 128)), (2, .int a1), (3, .int a2), (4, .int x1), (5, .int 0)]) rfl ?_
  refine (show ∀ (u2_0 : Int32) (u2_1 : G), Go (wCA E) _ _ u2_1 10 [(0, .ref (E.1 118)), (1, .ref (E.1 128)), (2, .int a1), (3, .int a2), (4, .int x1), (5, .int u2_0)] [] (Lp (α := Int32 × G) _ FU (u2_0, u2_1)) from ?_) 0 g
  intro u2_0 u2_1
  refine go_Lp (α := Int32 × G) (fun s2 => s2.2) (fun s2 => [(0, .ref (E.1 118)), (1, .ref (E.1 128)), (2, .int a1), (3, .int a2), (4, .int x1), (5, .int s2.1)]) ?_ FU (u2_0, u2_1)
  intro rec2 hrec2 s2
  have krec2 : ∀ (u2_0 : Int32) (u2_1 : G), Go (wCA E) _ _ u2_1 10 [(0, .ref (E.1 118)), (1, .ref (E.1 128)), (2, .int a1), (3, .int a2), (4, .int x1), (5, .int u2_0)] [] (rec2 (u2_0, u2_1)) := fun u2_0 u2_1 => hrec2 (u2_0, u2_1)
  refine go_iload td_X6_addViews 6 rfl (q := 12) rfl 5 rfl ?_
  refine go_aload_n td_X6_addViews 7 rfl (q := 13) rfl 0 rfl ?_
  refine go_get td_X6_addViews 8 rfl (q := 16) rfl fl_X6_53 (Ac_118 E s2.2) rfl ?_
  refine go_get td_X6_addViews 9 rfl (q := 19) rfl fl_X6_81 (Ac_3 E s2.2) rfl ?_
  refine go_icmp_ge 91 td_X6_addViews 10 rfl rfl (q := 22) rfl (fun _ => ?_) (fun _ => ?_)
  · exact go_vret td_X6_addViews 50 rfl rfl rfl
  · refine go_iload_n td_X6_addViews 11 rfl (q := 23) rfl 2 rfl ?_
    refine go_iload td_X6_addViews 12 rfl (q := 25) rfl 5 rfl ?_
    refine go_ishr td_X6_addViews 13 rfl (q := 26) rfl ?_
    refine go_iconst td_X6_addViews 14 rfl (q := 27) rfl kc_1 ?_
    refine go_iand td_X6_addViews 15 rfl (q := 28) rfl ?_
    refine go_ljX (α := G) (fun b3 => [(0, .ref (E.1 118)), (1, .ref (E.1 128)), (2, .int a1), (3, .int a2), (4, .int x1), (5, .int s2.1)]) (fun b3 => []) (fun b3 => b3) 85 ?_ ?_
    · intro b3
      refine go_iinc [(5, .int (s2.1 + 1)), (0, .ref (E.1 118)), (1, .ref (E.1 128)), (2, .int a1), (3, .int a2), (4, .int x1)] td_X6_addViews 48 rfl (q := 88) rfl 5 rfl kc_1 (Nat.le_of_ble_eq_true rfl) rfl ?_
      refine go_goto td_X6_addViews 49 rfl (q := 10) rfl ?_
      refine go_pick [1, 2, 3, 4, 5, 0] (lv' := [(0, .ref (E.1 118)), (1, .ref (E.1 128)), (2, .int a1), (3, .int a2), (4, .int x1), (5, .int (s2.1 + 1))]) rfl ?_
      exact krec2 (s2.1 + 1) b3
    intro J3 hJ3
    have kJ3 : ∀ (u3_0 : G), Go (wCA E) _ _ u3_0 85 [(0, .ref (E.1 118)), (1, .ref (E.1 128)), (2, .int a1), (3, .int a2), (4, .int x1), (5, .int s2.1)] [] (J3 u3_0) := fun u3_0 => hJ3 u3_0
    refine go_if_eq 85 td_X6_addViews 16 rfl rfl (q := 31) rfl (fun _ => ?_) (fun _ => ?_)
    · refine go_pick [0, 1, 2, 3, 4, 5] (lv' := [(0, .ref (E.1 118)), (1, .ref (E.1 128)), (2, .int a1), (3, .int a2), (4, .int x1), (5, .int s2.1)]) rfl ?_
      exact kJ3 s2.2
    · refine go_iload td_X6_addViews 17 rfl (q := 33) rfl 5 rfl ?_
      refine go_bipush td_X6_addViews 18 rfl (q := 35) rfl kb_12 ?_
      refine go_imul td_X6_addViews 19 rfl (q := 36) rfl ?_
      refine go_iload_n td_X6_addViews 20 rfl (q := 37) rfl 3 rfl ?_
      refine go_iadd td_X6_addViews 21 rfl (q := 38) rfl ?_
      refine go_sipush td_X6_addViews 22 rfl (q := 41) rfl ks_240 ?_
      refine go_imul td_X6_addViews 23 rfl (q := 42) rfl ?_
      refine go_bvi (fun x4 => ?_)
      refine go_istore [(6, .int x4), (0, .ref (E.1 118)), (1, .ref (E.1 128)), (2, .int a1), (3, .int a2), (4, .int x1), (5, .int s2.1)] td_X6_addViews 24 rfl (q := 44) rfl (Nat.le_of_ble_eq_true rfl) rfl ?_
      refine go_iconst td_X6_addViews 25 rfl (q := 45) rfl kc_0 ?_
      refine go_istore [(7, .int 0), (6, .int x4), (0, .ref (E.1 118)), (1, .ref (E.1 128)), (2, .int a1), (3, .int a2), (4, .int x1), (5, .int s2.1)] td_X6_addViews 26 rfl (q := 47) rfl (Nat.le_of_ble_eq_true rfl) rfl ?_
      refine go_pick [2, 3, 4, 5, 6, 7, 1, 0] (lv' := [(0, .ref (E.1 118)), (1, .ref (E.1 128)), (2, .int a1), (3, .int a2), (4, .int x1), (5, .int s2.1), (6, .int x4), (7, .int 0)]) rfl ?_
      refine (show ∀ (u5_0 : Int32) (u5_1 : G), Go (wCA E) _ _ u5_1 47 [(0, .ref (E.1 118)), (1, .ref (E.1 128)), (2, .int a1), (3, .int a2), (4, .int x1), (5, .int s2.1), (6, .int x4), (7, .int u5_0)] [] (Lp (α := Int32 × G) _ FU (u5_0, u5_1)) from ?_) 0 s2.2
      intro u5_0 u5_1
      refine go_Lp (α := Int32 × G) (fun s5 => s5.2) (fun s5 => [(0, .ref (E.1 118)), (1, .ref (E.1 128)), (2, .int a1), (3, .int a2), (4, .int x1), (5, .int s2.1), (6, .int x4), (7, .int s5.1)]) ?_ FU (u5_0, u5_1)
      intro rec5 hrec5 s5
      have krec5 : ∀ (u5_0 : Int32) (u5_1 : G), Go (wCA E) _ _ u5_1 47 [(0, .ref (E.1 118)), (1, .ref (E.1 128)), (2, .int a1), (3, .int a2), (4, .int x1), (5, .int s2.1), (6, .int x4), (7, .int u5_0)] [] (rec5 (u5_0, u5_1)) := fun u5_0 u5_1 => hrec5 (u5_0, u5_1)
      refine go_iload td_X6_addViews 27 rfl (q := 49) rfl 7 rfl ?_
      refine go_aload_n td_X6_addViews 28 rfl (q := 50) rfl 0 rfl ?_
      refine go_get td_X6_addViews 29 rfl (q := 53) rfl fl_X6_53 (Ac_118 E s5.2) rfl ?_
      refine go_get td_X6_addViews 30 rfl (q := 56) rfl fl_X6_106 (Ac_3 E s5.2) rfl ?_
      refine go_icmp_ge 85 td_X6_addViews 31 rfl rfl (q := 59) rfl (fun _ => ?_) (fun _ => ?_)
      · refine go_pick [0, 1, 2, 3, 4, 5] (lv' := [(0, .ref (E.1 118)), (1, .ref (E.1 128)), (2, .int a1), (3, .int a2), (4, .int x1), (5, .int s2.1)]) rfl ?_
        exact kJ3 s5.2
      · refine go_aload_n td_X6_addViews 32 rfl (q := 60) rfl 1 rfl ?_
        refine go_iload td_X6_addViews 33 rfl (q := 62) rfl 4 rfl ?_
        refine go_iload td_X6_addViews 34 rfl (q := 64) rfl 7 rfl ?_
        refine go_iadd td_X6_addViews 35 rfl (q := 65) rfl ?_
        refine go_dup2 td_X6_addViews 36 rfl (q := 66) rfl rfl rfl ?_
        refine go_ald td_X6_addViews 37 rfl (q := 67) rfl (Ac_128 E s5.2) (t0 := 0) rfl (fun x6 => ?_)
        refine go_aload_n td_X6_addViews 38 rfl (q := 68) rfl 0 rfl ?_
        refine go_get td_X6_addViews 39 rfl (q := 71) rfl fl_X6_41 (Ac_118 E s5.2) rfl ?_
        refine go_iload td_X6_addViews 40 rfl (q := 73) rfl 6 rfl ?_
        refine go_iload td_X6_addViews 41 rfl (q := 75) rfl 7 rfl ?_
        refine go_iadd td_X6_addViews 42 rfl (q := 76) rfl ?_
        refine go_ald td_X6_addViews 43 rfl (q := 77) rfl (Ac_126 E s5.2) (t0 := 0) rfl (fun x7 => ?_)
        refine go_ior td_X6_addViews 44 rfl (q := 78) rfl ?_
        refine go_ast td_X6_addViews 45 rfl (q := 79) rfl (Ac_128 E s5.2) (t0 := 0) rfl (Aas_128 E s5.2 _) ?_
        refine go_bvg (fun g8 => ?_)
        refine go_iinc [(7, .int (s5.1 + 1)), (0, .ref (E.1 118)), (1, .ref (E.1 128)), (2, .int a1), (3, .int a2), (4, .int x1), (5, .int s2.1), (6, .int x4)] td_X6_addViews 46 rfl (q := 82) rfl 7 rfl kc_1 (Nat.le_of_ble_eq_true rfl) rfl ?_
        refine go_goto td_X6_addViews 47 rfl (q := 47) rfl ?_
        refine go_pick [1, 2, 3, 4, 5, 6, 7, 0] (lv' := [(0, .ref (E.1 118)), (1, .ref (E.1 128)), (2, .int a1), (3, .int a2), (4, .int x1), (5, .int s2.1), (6, .int x4), (7, .int (s5.1 + 1))]) rfl ?_
        exact krec5 (s5.1 + 1) g8
def fA_Sky_joinRow (a1 : Int32) (a2 : Int32) (g : G) : Option (G) := cp 2880 2880 (a2 * 240) (a2 * 240) (g.1 303) (bv (sC g 128 (va_cpy (g.2.1 127) (g.2.1 128) (a2 * 240 : Int32).toNatClampNeg (a2 * 240 : Int32).toNatClampNeg (g.1 303 : Int32).toNatClampNeg)) fun g1 => Option.bind (fA_Sky_addViews_2 a1 a2 g1) fun x2 => some x2)
set_option maxRecDepth 20000 in
set_option maxHeartbeats 4000000 in
theorem ok_fA_Sky_joinRow (E : Ev) (a1 : Int32) (a2 : Int32) (g : G)  : Ct (wCA E) yX6_joinRow mi_X6_joinRow [.ref (E.1 118), .int a1, .int a2] (fun r => (none, r)) g (fA_Sky_joinRow a1 a2 g) := by
  refine go_enter rfl rfl (Nat.le_of_ble_eq_true rfl) (lv := [(0, .ref (E.1 118)), (1, .int a1), (2, .int a2)]) rfl ?_
  unfold fA_Sky_joinRow
  refine go_aload_n td_X6_joinRow 0 rfl (q := 1) rfl 0 rfl ?_
  refine go_get td_X6_joinRow 1 rfl (q := 4) rfl fl_X6_44 (Ac_118 E g) rfl ?_
  refine go_iload_n td_X6_joinRow 2 rfl (q := 5) rfl 2 rfl ?_
  refine go_sipush td_X6_joinRow 3 rfl (q := 8) rfl ks_240 ?_
  refine go_imul td_X6_joinRow 4 rfl (q := 9) rfl ?_
  refine go_aload_n td_X6_joinRow 5 rfl (q := 10) rfl 0 rfl ?_
  refine go_get td_X6_joinRow 6 rfl (q := 13) rfl fl_X6_47 (Ac_118 E g) rfl ?_
  refine go_iload_n td_X6_joinRow 7 rfl (q := 14) rfl 2 rfl ?_
  refine go_sipush td_X6_joinRow 8 rfl (q := 17) rfl ks_240 ?_
  refine go_imul td_X6_joinRow 9 rfl (q := 18) rfl ?_
  refine go_aload_n td_X6_joinRow 10 rfl (q := 19) rfl 0 rfl ?_
  refine go_get td_X6_joinRow 11 rfl (q := 22) rfl fl_X6_53 (Ac_118 E g) rfl ?_
  refine go_get td_X6_joinRow 12 rfl (q := 25) rfl fl_X6_106 (Ac_3 E g) rfl ?_
  refine go_copy td_X6_joinRow 13 rfl (q := 28) rfl lk_X6_144 ⟨Nat.le_of_ble_eq_true rfl, Nat.le_of_ble_eq_true rfl⟩ (Ac_127 E g) (Ac_128 E g) (t0 := 0) (t1 := 0) rfl rfl (Aas_128 E g _) ?_
  refine go_bvg (fun g1 => ?_)
  refine go_aload_n td_X6_joinRow 14 rfl (q := 29) rfl 0 rfl ?_
  refine go_aload_n td_X6_joinRow 15 rfl (q := 30) rfl 0 rfl ?_
  refine go_get td_X6_joinRow 16 rfl (q := 33) rfl fl_X6_47 (Ac_118 E g1) rfl ?_
  refine go_iload_n td_X6_joinRow 17 rfl (q := 34) rfl 1 rfl ?_
  refine go_iload_n td_X6_joinRow 18 rfl (q := 35) rfl 2 rfl ?_
  refine go_callV td_X6_joinRow 19 rfl (q := 38) rfl (XkA E) lk_X6_136 (ok_fA_Sky_addViews_2 E a1 a2 g1) ⟨rfl, rfl, Nat.le_of_ble_eq_true rfl, Nat.le_of_ble_eq_true rfl⟩ rfl rfl (Nat.le_of_ble_eq_true rfl) (Ac_118 E g1) rfl (fun x2 => ?_)
  show Go (wCA E) _ _ x2 38 _ [] _
  exact go_vret td_X6_joinRow 20 rfl rfl rfl
def fA_Sky_join (a1 : Int32) (g : G) : Option (G) := Lp (α := Int32 × G) (fun rec1 s1 => (if (s1.2.1 301) ≤ s1.1 then some s1.2 else Option.bind (fA_Sky_joinRow a1 s1.1 s1.2) fun x2 => rec1 (s1.1 + 1, x2))) FU (0, g)
set_option maxRecDepth 20000 in
set_option maxHeartbeats 4000000 in
theorem ok_fA_Sky_join (E : Ev) (a1 : Int32) (g : G)  : Ct (wCA E) yX6_join mi_X6_join [.ref (E.1 118), .int a1] (fun r => (none, r)) g (fA_Sky_join a1 g) := by
  refine go_enter rfl rfl (Nat.le_of_ble_eq_true rfl) (lv := [(0, .ref (E.1 118)), (1, .int a1)]) rfl ?_
  unfold fA_Sky_join
  refine go_iconst td_X6_join 0 rfl (q := 1) rfl kc_0 ?_
  refine go_istore_n [(2, .int 0), (0, .ref (E.1 118)), (1, .int a1)] td_X6_join 1 rfl (q := 2) rfl (Nat.le_of_ble_eq_true rfl) rfl ?_
  refine go_pick [1, 2, 0] (lv' := [(0, .ref (E.1 118)), (1, .int a1), (2, .int 0)]) rfl ?_
  refine (show ∀ (u1_0 : Int32) (u1_1 : G), Go (wCA E) _ _ u1_1 2 [(0, .ref (E.1 118)), (1, .int a1), (2, .int u1_0)] [] (Lp (α := Int32 × G) _ FU (u1_0, u1_1)) from ?_) 0 g
  intro u1_0 u1_1
  refine go_Lp (α := Int32 × G) (fun s1 => s1.2) (fun s1 => [(0, .ref (E.1 118)), (1, .int a1), (2, .int s1.1)]) ?_ FU (u1_0, u1_1)
  intro rec1 hrec1 s1
  have krec1 : ∀ (u1_0 : Int32) (u1_1 : G), Go (wCA E) _ _ u1_1 2 [(0, .ref (E.1 118)), (1, .int a1), (2, .int u1_0)] [] (rec1 (u1_0, u1_1)) := fun u1_0 u1_1 => hrec1 (u1_0, u1_1)
  refine go_iload_n td_X6_join 2 rfl (q := 3) rfl 2 rfl ?_
  refine go_aload_n td_X6_join 3 rfl (q := 4) rfl 0 rfl ?_
  refine go_get td_X6_join 4 rfl (q := 7) rfl fl_X6_53 (Ac_118 E s1.2) rfl ?_
  refine go_get td_X6_join 5 rfl (q := 10) rfl fl_X6_62 (Ac_3 E s1.2) rfl ?_
  refine go_icmp_ge 25 td_X6_join 6 rfl rfl (q := 13) rfl (fun _ => ?_) (fun _ => ?_)
  · exact go_vret td_X6_join 13 rfl rfl rfl
  · refine go_aload_n td_X6_join 7 rfl (q := 14) rfl 0 rfl ?_
    refine go_iload_n td_X6_join 8 rfl (q := 15) rfl 1 rfl ?_
    refine go_iload_n td_X6_join 9 rfl (q := 16) rfl 2 rfl ?_
    refine go_callV td_X6_join 10 rfl (q := 19) rfl (XkA E) lk_X6_140 (ok_fA_Sky_joinRow E a1 s1.1 s1.2) ⟨rfl, rfl, Nat.le_of_ble_eq_true rfl, Nat.le_of_ble_eq_true rfl⟩ rfl rfl (Nat.le_of_ble_eq_true rfl) (Ac_118 E s1.2) rfl (fun x2 => ?_)
    show Go (wCA E) _ _ x2 19 _ [] _
    refine go_iinc [(2, .int (s1.1 + 1)), (0, .ref (E.1 118)), (1, .int a1)] td_X6_join 11 rfl (q := 22) rfl 2 rfl kc_1 (Nat.le_of_ble_eq_true rfl) rfl ?_
    refine go_goto td_X6_join 12 rfl (q := 2) rfl ?_
    refine go_pick [1, 2, 0] (lv' := [(0, .ref (E.1 118)), (1, .int a1), (2, .int (s1.1 + 1))]) rfl ?_
    exact krec1 (s1.1 + 1) x2
def fA_D_look (g : G) : Option (G) := (if (g.1 18) = 0 then Option.bind (fA_Sky_drawAll g) fun x1 => Option.bind (fA_Sky_hold 0 x1) fun x2 => Option.bind (fA_Sky_join (x2.1 2700) x2) fun x3 => bv (sS x3 18 1) fun g4 => some g4 else some g)
set_option maxRecDepth 20000 in
set_option maxHeartbeats 4000000 in
theorem ok_fA_D_look (E : Ev)  (g : G)  : Ct (wCA E) yX11_look mi_X11_look [.ref (E.1 0)] (fun r => (none, r)) g (fA_D_look g) := by
  refine go_enter rfl rfl (Nat.le_of_ble_eq_true rfl) (lv := [(0, .ref (E.1 0))]) rfl ?_
  unfold fA_D_look
  refine go_aload_n td_X11_look 0 rfl (q := 1) rfl 0 rfl ?_
  refine go_get td_X11_look 1 rfl (q := 4) rfl fl_X11_114 (Ac_0 E g) rfl ?_
  refine go_if_ne 45 td_X11_look 2 rfl rfl (q := 7) rfl (fun _ => ?_) (fun _ => ?_)
  · exact go_vret td_X11_look 21 rfl rfl rfl
  · refine go_aload_n td_X11_look 3 rfl (q := 8) rfl 0 rfl ?_
    refine go_get td_X11_look 4 rfl (q := 11) rfl fl_X11_57 (Ac_0 E g) rfl ?_
    refine go_aload_n td_X11_look 5 rfl (q := 12) rfl 0 rfl ?_
    refine go_get td_X11_look 6 rfl (q := 15) rfl fl_X11_29 (Ac_0 E g) rfl ?_
    refine go_callV td_X11_look 7 rfl (q := 18) rfl (XkA E) lk_X11_471 (ok_fA_Sky_drawAll E g) ⟨rfl, rfl, Nat.le_of_ble_eq_true rfl, Nat.le_of_ble_eq_true rfl⟩ rfl rfl (Nat.le_of_ble_eq_true rfl) (Ac_118 E g) rfl (fun x1 => ?_)
    show Go (wCA E) _ _ x1 18 _ [] _
    refine go_aload_n td_X11_look 8 rfl (q := 19) rfl 0 rfl ?_
    refine go_get td_X11_look 9 rfl (q := 22) rfl fl_X11_57 (Ac_0 E x1) rfl ?_
    refine go_iconst td_X11_look 10 rfl (q := 23) rfl kc_0 ?_
    refine go_callV td_X11_look 11 rfl (q := 26) rfl (XkA E) lk_X11_474 (ok_fA_Sky_hold E 0 x1) ⟨rfl, rfl, Nat.le_of_ble_eq_true rfl, Nat.le_of_ble_eq_true rfl⟩ rfl rfl (Nat.le_of_ble_eq_true rfl) (Ac_118 E x1) rfl (fun x2 => ?_)
    show Go (wCA E) _ _ x2 26 _ [] _
    refine go_aload_n td_X11_look 12 rfl (q := 27) rfl 0 rfl ?_
    refine go_get td_X11_look 13 rfl (q := 30) rfl fl_X11_57 (Ac_0 E x2) rfl ?_
    refine go_aload_n td_X11_look 14 rfl (q := 31) rfl 0 rfl ?_
    refine go_get td_X11_look 15 rfl (q := 34) rfl fl_X11_29 (Ac_0 E x2) rfl ?_
    refine go_get td_X11_look 16 rfl (q := 37) rfl fl_X11_178 (Ac_27 E x2) rfl ?_
    refine go_callV td_X11_look 17 rfl (q := 40) rfl (XkA E) lk_X11_477 (ok_fA_Sky_join E (x2.1 2700) x2) ⟨rfl, rfl, Nat.le_of_ble_eq_true rfl, Nat.le_of_ble_eq_true rfl⟩ rfl rfl (Nat.le_of_ble_eq_true rfl) (Ac_118 E x2) rfl (fun x3 => ?_)
    show Go (wCA E) _ _ x3 40 _ [] _
    refine go_aload_n td_X11_look 18 rfl (q := 41) rfl 0 rfl ?_
    refine go_iconst td_X11_look 19 rfl (q := 42) rfl kc_1 ?_
    refine go_put td_X11_look 20 rfl (q := 45) rfl flp_X11_114 (Ac_0 E x3) rfl rfl (Nat.le_of_ble_eq_true rfl) (Aps_18 E x3 1) ?_
    refine go_bvg (fun g4 => ?_)
    exact go_vret td_X11_look 21 rfl rfl rfl
def fA_Sky_whoSees (a1 : Int32) (a2 : Int32) (a3 : Int32) (a4 : Int32) (g : G) : Option (Int32) := Lp (α := Int32 × Int32) (fun rec1 s1 => (if (g.1 306) ≤ s1.2 then some (s1.1 &&& a1) else ag 23040 (g.2.1 126) ((((s1.2 * 12) + a4) * 240) + a2) fun x2 => bv (s1.1 ||| (((x2 >>> (a3 &&& 31)) &&& 1) <<< (s1.2 &&& 31))) fun x3 => rec1 (x3, s1.2 + 1))) FU (0, 0)
set_option maxRecDepth 20000 in
set_option maxHeartbeats 4000000 in
theorem ok_fA_Sky_whoSees (E : Ev) (a1 : Int32) (a2 : Int32) (a3 : Int32) (a4 : Int32) (g : G)  : Ct (wCA E) yX6_whoSees mi_X6_whoSees [.ref (E.1 118), .int a1, .int a2, .int a3, .int a4] (fun r => (some (.int r), g)) g (fA_Sky_whoSees a1 a2 a3 a4 g) := by
  refine go_enter rfl rfl (Nat.le_of_ble_eq_true rfl) (lv := [(0, .ref (E.1 118)), (1, .int a1), (2, .int a2), (3, .int a3), (4, .int a4)]) rfl ?_
  unfold fA_Sky_whoSees
  refine go_iconst td_X6_whoSees 0 rfl (q := 1) rfl kc_0 ?_
  refine go_istore [(5, .int 0), (0, .ref (E.1 118)), (1, .int a1), (2, .int a2), (3, .int a3), (4, .int a4)] td_X6_whoSees 1 rfl (q := 3) rfl (Nat.le_of_ble_eq_true rfl) rfl ?_
  refine go_iconst td_X6_whoSees 2 rfl (q := 4) rfl kc_0 ?_
  refine go_istore [(6, .int 0), (5, .int 0), (0, .ref (E.1 118)), (1, .int a1), (2, .int a2), (3, .int a3), (4, .int a4)] td_X6_whoSees 3 rfl (q := 6) rfl (Nat.le_of_ble_eq_true rfl) rfl ?_
  refine go_pick [2, 3, 4, 5, 6, 1, 0] (lv' := [(0, .ref (E.1 118)), (1, .int a1), (2, .int a2), (3, .int a3), (4, .int a4), (5, .int 0), (6, .int 0)]) rfl ?_
  refine (show ∀ (u1_0 : Int32) (u1_1 : Int32), Go (wCA E) _ _ g 6 [(0, .ref (E.1 118)), (1, .int a1), (2, .int a2), (3, .int a3), (4, .int a4), (5, .int u1_0), (6, .int u1_1)] [] (Lp (α := Int32 × Int32) _ FU (u1_0, u1_1)) from ?_) 0 0
  intro u1_0 u1_1
  refine go_Lp (α := Int32 × Int32) (fun s1 => g) (fun s1 => [(0, .ref (E.1 118)), (1, .int a1), (2, .int a2), (3, .int a3), (4, .int a4), (5, .int s1.1), (6, .int s1.2)]) ?_ FU (u1_0, u1_1)
  intro rec1 hrec1 s1
  have krec1 : ∀ (u1_0 : Int32) (u1_1 : Int32), Go (wCA E) _ _ g 6 [(0, .ref (E.1 118)), (1, .int a1), (2, .int a2), (3, .int a3), (4, .int a4), (5, .int u1_0), (6, .int u1_1)] [] (rec1 (u1_0, u1_1)) := fun u1_0 u1_1 => hrec1 (u1_0, u1_1)
  refine go_iload td_X6_whoSees 4 rfl (q := 8) rfl 6 rfl ?_
  refine go_aload_n td_X6_whoSees 5 rfl (q := 9) rfl 0 rfl ?_
  refine go_get td_X6_whoSees 6 rfl (q := 12) rfl fl_X6_53 (Ac_118 E g) rfl ?_
  refine go_get td_X6_whoSees 7 rfl (q := 15) rfl fl_X6_81 (Ac_3 E g) rfl ?_
  refine go_icmp_ge 59 td_X6_whoSees 8 rfl rfl (q := 18) rfl (fun _ => ?_) (fun _ => ?_)
  · refine go_iload td_X6_whoSees 34 rfl (q := 61) rfl 5 rfl ?_
    refine go_iload_n td_X6_whoSees 35 rfl (q := 62) rfl 1 rfl ?_
    refine go_iand td_X6_whoSees 36 rfl (q := 63) rfl ?_
    exact go_iret td_X6_whoSees 37 rfl rfl rfl
  · refine go_aload_n td_X6_whoSees 9 rfl (q := 19) rfl 0 rfl ?_
    refine go_get td_X6_whoSees 10 rfl (q := 22) rfl fl_X6_41 (Ac_118 E g) rfl ?_
    refine go_iload td_X6_whoSees 11 rfl (q := 24) rfl 6 rfl ?_
    refine go_bipush td_X6_whoSees 12 rfl (q := 26) rfl kb_12 ?_
    refine go_imul td_X6_whoSees 13 rfl (q := 27) rfl ?_
    refine go_iload td_X6_whoSees 14 rfl (q := 29) rfl 4 rfl ?_
    refine go_iadd td_X6_whoSees 15 rfl (q := 30) rfl ?_
    refine go_sipush td_X6_whoSees 16 rfl (q := 33) rfl ks_240 ?_
    refine go_imul td_X6_whoSees 17 rfl (q := 34) rfl ?_
    refine go_iload_n td_X6_whoSees 18 rfl (q := 35) rfl 2 rfl ?_
    refine go_iadd td_X6_whoSees 19 rfl (q := 36) rfl ?_
    refine go_ald td_X6_whoSees 20 rfl (q := 37) rfl (Ac_126 E g) (t0 := 0) rfl (fun x2 => ?_)
    refine go_istore [(7, .int x2), (0, .ref (E.1 118)), (1, .int a1), (2, .int a2), (3, .int a3), (4, .int a4), (5, .int s1.1), (6, .int s1.2)] td_X6_whoSees 21 rfl (q := 39) rfl (Nat.le_of_ble_eq_true rfl) rfl ?_
    refine go_iload td_X6_whoSees 22 rfl (q := 41) rfl 6 rfl ?_
    refine go_iload td_X6_whoSees 23 rfl (q := 43) rfl 0 rfl ?_
    refine go_iload_n td_X6_whoSees 24 rfl (q := 44) rfl 4 rfl ?_
    refine go_ishr td_X6_whoSees 25 rfl (q := 45) rfl ?_
    refine go_iconst td_X6_whoSees 26 rfl (q := 46) rfl kc_1 ?_
    refine go_iand td_X6_whoSees 27 rfl (q := 47) rfl ?_
    refine go_iload td_X6_whoSees 28 rfl (q := 49) rfl 7 rfl ?_
    refine go_ishl td_X6_whoSees 29 rfl (q := 50) rfl ?_
    refine go_ior td_X6_whoSees 30 rfl (q := 51) rfl ?_
    refine go_bvi (fun x3 => ?_)
    refine go_istore [(5, .int x3), (7, .int x2), (0, .ref (E.1 118)), (1, .int a1), (2, .int a2), (3, .int a3), (4, .int a4), (6, .int s1.2)] td_X6_whoSees 31 rfl (q := 53) rfl (Nat.le_of_ble_eq_true rfl) rfl ?_
    refine go_iinc [(6, .int (s1.2 + 1)), (5, .int x3), (7, .int x2), (0, .ref (E.1 118)), (1, .int a1), (2, .int a2), (3, .int a3), (4, .int a4)] td_X6_whoSees 32 rfl (q := 56) rfl 7 rfl kc_1 (Nat.le_of_ble_eq_true rfl) rfl ?_
    refine go_goto td_X6_whoSees 33 rfl (q := 6) rfl ?_
    refine go_pick [3, 4, 5, 6, 7, 1, 0] (lv' := [(0, .ref (E.1 118)), (1, .int a1), (2, .int a2), (3, .int a3), (4, .int a4), (5, .int x3), (6, .int (s1.2 + 1))]) rfl ?_
    exact krec1 x3 (s1.2 + 1)
def fA_Strip_lay (a1 : Int32) (a2 : Int32) (a3 : Int32) (g : G) : Option (G) := bv (sS g 13003 (g.1 303)) fun g1 => Lp (α := Int32 × G) (fun rec2 s2 => (if (s2.2.1 13003) ≤ s2.1 then some s2.2 else Option.bind (fA_Sky_whoSees a1 s2.1 a2 a3 s2.2) fun x3 => lj (α := Int32) (fun b4 => ck 240 s2.1 (bv (sA s2.2 131 (s2.1 : Int32).toNatClampNeg b4) fun g5 => rec2 (s2.1 + 1, g5))) fun J4 => (if x3 = 0 then J4 256 else J4 x3))) FU (0, g1)
set_option maxRecDepth 20000 in
set_option maxHeartbeats 4000000 in
theorem ok_fA_Strip_lay (E : Ev) (a1 : Int32) (a2 : Int32) (a3 : Int32) (g : G)  : Ct (wCA E) yX7_lay mi_X7_lay [.ref (E.1 130), .int a1, .int a2, .int a3] (fun r => (none, r)) g (fA_Strip_lay a1 a2 a3 g) := by
  refine go_enter rfl rfl (Nat.le_of_ble_eq_true rfl) (lv := [(0, .ref (E.1 130)), (1, .int a1), (2, .int a2), (3, .int a3)]) rfl ?_
  unfold fA_Strip_lay
  refine go_aload_n td_X7_lay 0 rfl (q := 1) rfl 0 rfl ?_
  refine go_aload_n td_X7_lay 1 rfl (q := 2) rfl 0 rfl ?_
  refine go_get td_X7_lay 2 rfl (q := 5) rfl fl_X7_28 (Ac_130 E g) rfl ?_
  refine go_get td_X7_lay 3 rfl (q := 8) rfl fl_X7_36 (Ac_3 E g) rfl ?_
  refine go_put td_X7_lay 4 rfl (q := 11) rfl flp_X7_21 (Ac_130 E g) rfl rfl (Nat.le_of_ble_eq_true rfl) (Aps_13003 E g (g.1 303)) ?_
  refine go_bvg (fun g1 => ?_)
  refine go_iconst td_X7_lay 5 rfl (q := 12) rfl kc_0 ?_
  refine go_istore [(4, .int 0), (0, .ref (E.1 130)), (1, .int a1), (2, .int a2), (3, .int a3)] td_X7_lay 6 rfl (q := 14) rfl (Nat.le_of_ble_eq_true rfl) rfl ?_
  refine go_pick [1, 2, 3, 4, 0] (lv' := [(0, .ref (E.1 130)), (1, .int a1), (2, .int a2), (3, .int a3), (4, .int 0)]) rfl ?_
  refine (show ∀ (u2_0 : Int32) (u2_1 : G), Go (wCA E) _ _ u2_1 14 [(0, .ref (E.1 130)), (1, .int a1), (2, .int a2), (3, .int a3), (4, .int u2_0)] [] (Lp (α := Int32 × G) _ FU (u2_0, u2_1)) from ?_) 0 g1
  intro u2_0 u2_1
  refine go_Lp (α := Int32 × G) (fun s2 => s2.2) (fun s2 => [(0, .ref (E.1 130)), (1, .int a1), (2, .int a2), (3, .int a3), (4, .int s2.1)]) ?_ FU (u2_0, u2_1)
  intro rec2 hrec2 s2
  have krec2 : ∀ (u2_0 : Int32) (u2_1 : G), Go (wCA E) _ _ u2_1 14 [(0, .ref (E.1 130)), (1, .int a1), (2, .int a2), (3, .int a3), (4, .int u2_0)] [] (rec2 (u2_0, u2_1)) := fun u2_0 u2_1 => hrec2 (u2_0, u2_1)
  refine go_iload td_X7_lay 7 rfl (q := 16) rfl 4 rfl ?_
  refine go_aload_n td_X7_lay 8 rfl (q := 17) rfl 0 rfl ?_
  refine go_get td_X7_lay 9 rfl (q := 20) rfl fl_X7_21 (Ac_130 E s2.2) rfl ?_
  refine go_icmp_ge 63 td_X7_lay 10 rfl rfl (q := 23) rfl (fun _ => ?_) (fun _ => ?_)
  · exact go_vret td_X7_lay 30 rfl rfl rfl
  · refine go_aload_n td_X7_lay 11 rfl (q := 24) rfl 0 rfl ?_
    refine go_get td_X7_lay 12 rfl (q := 27) rfl fl_X7_32 (Ac_130 E s2.2) rfl ?_
    refine go_iload_n td_X7_lay 13 rfl (q := 28) rfl 1 rfl ?_
    refine go_iload td_X7_lay 14 rfl (q := 30) rfl 4 rfl ?_
    refine go_iload_n td_X7_lay 15 rfl (q := 31) rfl 2 rfl ?_
    refine go_iload_n td_X7_lay 16 rfl (q := 32) rfl 3 rfl ?_
    refine go_callV td_X7_lay 17 rfl (q := 35) rfl (XkA E) lk_X7_39 (ok_fA_Sky_whoSees E a1 s2.1 a2 a3 s2.2) ⟨rfl, rfl, Nat.le_of_ble_eq_true rfl, Nat.le_of_ble_eq_true rfl⟩ rfl rfl (Nat.le_of_ble_eq_true rfl) (Ac_118 E s2.2) rfl (fun x3 => ?_)
    show Go (wCA E) _ _ s2.2 35 _ [.int x3] _
    refine go_istore [(5, .int x3), (0, .ref (E.1 130)), (1, .int a1), (2, .int a2), (3, .int a3), (4, .int s2.1)] td_X7_lay 18 rfl (q := 37) rfl (Nat.le_of_ble_eq_true rfl) rfl ?_
    refine go_aload_n td_X7_lay 19 rfl (q := 38) rfl 1 rfl ?_
    refine go_get td_X7_lay 20 rfl (q := 41) rfl fl_X7_24 (Ac_130 E s2.2) rfl ?_
    refine go_iload td_X7_lay 21 rfl (q := 43) rfl 5 rfl ?_
    refine go_iload td_X7_lay 22 rfl (q := 45) rfl 0 rfl ?_
    refine go_ljX (α := Int32) (fun b4 => [(0, .ref (E.1 130)), (1, .int a1), (2, .int a2), (3, .int a3), (4, .int s2.1)]) (fun b4 => [.int b4, .int s2.1, .ref (E.1 131)]) (fun b4 => s2.2) 56 ?_ ?_
    · intro b4
      refine go_ast td_X7_lay 27 rfl (q := 57) rfl (Ac_131 E s2.2) (t0 := 0) rfl (Aas_131 E s2.2 _) ?_
      refine go_bvg (fun g5 => ?_)
      refine go_iinc [(4, .int (s2.1 + 1)), (0, .ref (E.1 130)), (1, .int a1), (2, .int a2), (3, .int a3)] td_X7_lay 28 rfl (q := 60) rfl 4 rfl kc_1 (Nat.le_of_ble_eq_true rfl) rfl ?_
      refine go_goto td_X7_lay 29 rfl (q := 14) rfl ?_
      refine go_pick [1, 2, 3, 4, 0] (lv' := [(0, .ref (E.1 130)), (1, .int a1), (2, .int a2), (3, .int a3), (4, .int (s2.1 + 1))]) rfl ?_
      exact krec2 (s2.1 + 1) g5
    intro J4 hJ4
    have kJ4 : ∀ (u4_0 : Int32), Go (wCA E) _ _ s2.2 56 [(0, .ref (E.1 130)), (1, .int a1), (2, .int a2), (3, .int a3), (4, .int s2.1)] [.int u4_0, .int s2.1, .ref (E.1 131)] (J4 u4_0) := fun u4_0 => hJ4 u4_0
    refine go_if_ne 54 td_X7_lay 23 rfl rfl (q := 48) rfl (fun _ => ?_) (fun _ => ?_)
    · refine go_iload td_X7_lay 26 rfl (q := 56) rfl 0 rfl ?_
      refine go_pick [1, 2, 3, 4, 5] (lv' := [(0, .ref (E.1 130)), (1, .int a1), (2, .int a2), (3, .int a3), (4, .int s2.1)]) rfl ?_
      exact kJ4 x3
    · refine go_sipush td_X7_lay 24 rfl (q := 51) rfl ks_256 ?_
      refine go_goto td_X7_lay 25 rfl (q := 56) rfl ?_
      refine go_pick [1, 2, 3, 4, 5] (lv' := [(0, .ref (E.1 130)), (1, .int a1), (2, .int a2), (3, .int a3), (4, .int s2.1)]) rfl ?_
      exact kJ4 256
def fA_Strip_isOf (a1 : Int32) (a2 : Int32) (g : G) : Option (Int32) := ag 240 (g.2.1 131) a2 fun x1 => (if ((x1 >>> (a1 &&& 31)) &&& 1) = 0 then some 0 else some 1)
set_option maxRecDepth 20000 in
set_option maxHeartbeats 4000000 in
theorem ok_fA_Strip_isOf (E : Ev) (a1 : Int32) (a2 : Int32) (g : G)  : Ct (wCA E) yX7_isOf mi_X7_isOf [.ref (E.1 130), .int a1, .int a2] (fun r => (some (.int r), g)) g (fA_Strip_isOf a1 a2 g) := by
  refine go_enter rfl rfl (Nat.le_of_ble_eq_true rfl) (lv := [(0, .ref (E.1 130)), (1, .int a1), (2, .int a2)]) rfl ?_
  unfold fA_Strip_isOf
  refine go_aload_n td_X7_isOf 0 rfl (q := 1) rfl 0 rfl ?_
  refine go_get td_X7_isOf 1 rfl (q := 4) rfl fl_X7_24 (Ac_130 E g) rfl ?_
  refine go_iload_n td_X7_isOf 2 rfl (q := 5) rfl 2 rfl ?_
  refine go_ald td_X7_isOf 3 rfl (q := 6) rfl (Ac_131 E g) (t0 := 0) rfl (fun x1 => ?_)
  refine go_iload_n td_X7_isOf 4 rfl (q := 7) rfl 1 rfl ?_
  refine go_ishr td_X7_isOf 5 rfl (q := 8) rfl ?_
  refine go_iconst td_X7_isOf 6 rfl (q := 9) rfl kc_1 ?_
  refine go_iand td_X7_isOf 7 rfl (q := 10) rfl ?_
  refine go_if_eq 17 td_X7_isOf 8 rfl rfl (q := 13) rfl (fun _ => ?_) (fun _ => ?_)
  · refine go_iconst td_X7_isOf 11 rfl (q := 18) rfl kc_0 ?_
    exact go_zret td_X7_isOf 12 rfl rfl rfl rfl
  · refine go_iconst td_X7_isOf 9 rfl (q := 14) rfl kc_1 ?_
    refine go_goto td_X7_isOf 10 rfl (q := 18) rfl ?_
    exact go_zret td_X7_isOf 12 rfl rfl rfl rfl
def fA_Strip_lengthFrom (a1 : Int32) (a2 : Int32) (g : G) : Option (Int32) := Lp (α := Int32) (fun rec1 s1 => (if (g.1 13003) ≤ s1 then some s1 else Option.bind (fA_D_rest (a2 + s1) (g.1 13003) g) fun x2 => Option.bind (fA_Strip_isOf a1 x2 g) fun x3 => (if x3 = 0 then some s1 else rec1 (s1 + 1)))) FU 0
set_option maxRecDepth 20000 in
set_option maxHeartbeats 4000000 in
theorem ok_fA_Strip_lengthFrom (E : Ev) (a1 : Int32) (a2 : Int32) (g : G)  : Ct (wCA E) yX7_lengthFrom mi_X7_lengthFrom [.ref (E.1 130), .int a1, .int a2] (fun r => (some (.int r), g)) g (fA_Strip_lengthFrom a1 a2 g) := by
  refine go_enter rfl rfl (Nat.le_of_ble_eq_true rfl) (lv := [(0, .ref (E.1 130)), (1, .int a1), (2, .int a2)]) rfl ?_
  unfold fA_Strip_lengthFrom
  refine go_iconst td_X7_lengthFrom 0 rfl (q := 1) rfl kc_0 ?_
  refine go_istore_n [(3, .int 0), (0, .ref (E.1 130)), (1, .int a1), (2, .int a2)] td_X7_lengthFrom 1 rfl (q := 2) rfl (Nat.le_of_ble_eq_true rfl) rfl ?_
  refine go_pick [1, 2, 3, 0] (lv' := [(0, .ref (E.1 130)), (1, .int a1), (2, .int a2), (3, .int 0)]) rfl ?_
  refine (show ∀ (u1_0 : Int32), Go (wCA E) _ _ g 2 [(0, .ref (E.1 130)), (1, .int a1), (2, .int a2), (3, .int u1_0)] [] (Lp (α := Int32) _ FU u1_0) from ?_) 0
  intro u1_0
  refine go_Lp (α := Int32) (fun s1 => g) (fun s1 => [(0, .ref (E.1 130)), (1, .int a1), (2, .int a2), (3, .int s1)]) ?_ FU u1_0
  intro rec1 hrec1 s1
  have krec1 : ∀ (u1_0 : Int32), Go (wCA E) _ _ g 2 [(0, .ref (E.1 130)), (1, .int a1), (2, .int a2), (3, .int u1_0)] [] (rec1 u1_0) := fun u1_0 => hrec1 u1_0
  refine go_iload_n td_X7_lengthFrom 2 rfl (q := 3) rfl 3 rfl ?_
  refine go_aload_n td_X7_lengthFrom 3 rfl (q := 4) rfl 0 rfl ?_
  refine go_get td_X7_lengthFrom 4 rfl (q := 7) rfl fl_X7_21 (Ac_130 E g) rfl ?_
  refine go_icmp_ge 34 td_X7_lengthFrom 5 rfl rfl (q := 10) rfl (fun _ => ?_) (fun _ => ?_)
  · refine go_iload_n td_X7_lengthFrom 18 rfl (q := 35) rfl 3 rfl ?_
    exact go_iret td_X7_lengthFrom 19 rfl rfl rfl
  · refine go_aload_n td_X7_lengthFrom 6 rfl (q := 11) rfl 0 rfl ?_
    refine go_iload_n td_X7_lengthFrom 7 rfl (q := 12) rfl 1 rfl ?_
    refine go_iload_n td_X7_lengthFrom 8 rfl (q := 13) rfl 2 rfl ?_
    refine go_iload_n td_X7_lengthFrom 9 rfl (q := 14) rfl 3 rfl ?_
    refine go_iadd td_X7_lengthFrom 10 rfl (q := 15) rfl ?_
    refine go_aload_n td_X7_lengthFrom 11 rfl (q := 16) rfl 0 rfl ?_
    refine go_get td_X7_lengthFrom 12 rfl (q := 19) rfl fl_X7_21 (Ac_130 E g) rfl ?_
    refine go_callN td_X7_lengthFrom 13 rfl (q := 22) rfl (XkA E) (lk_X7_53 E) (ok_fA_D_rest E (a2 + s1) (g.1 13003) g) ⟨rfl, rfl, Nat.le_of_ble_eq_true rfl, Nat.le_of_ble_eq_true rfl⟩ rfl rfl (Nat.le_of_ble_eq_true rfl) (fun x2 => ?_)
    show Go (wCA E) _ _ g 22 _ [.int x2, .int a1, .ref (E.1 130)] _
    refine go_callV td_X7_lengthFrom 14 rfl (q := 25) rfl (XkA E) lk_X7_45 (ok_fA_Strip_isOf E a1 x2 g) ⟨rfl, rfl, Nat.le_of_ble_eq_true rfl, Nat.le_of_ble_eq_true rfl⟩ rfl rfl (Nat.le_of_ble_eq_true rfl) (Ac_130 E g) rfl (fun x3 => ?_)
    show Go (wCA E) _ _ g 25 _ [.int x3] _
    refine go_if_eq 34 td_X7_lengthFrom 15 rfl rfl (q := 28) rfl (fun _ => ?_) (fun _ => ?_)
    · refine go_iload_n td_X7_lengthFrom 18 rfl (q := 35) rfl 3 rfl ?_
      exact go_iret td_X7_lengthFrom 19 rfl rfl rfl
    · refine go_iinc [(3, .int (s1 + 1)), (0, .ref (E.1 130)), (1, .int a1), (2, .int a2)] td_X7_lengthFrom 16 rfl (q := 31) rfl 3 rfl kc_1 (Nat.le_of_ble_eq_true rfl) rfl ?_
      refine go_goto td_X7_lengthFrom 17 rfl (q := 2) rfl ?_
      refine go_pick [1, 2, 3, 0] (lv' := [(0, .ref (E.1 130)), (1, .int a1), (2, .int a2), (3, .int (s1 + 1))]) rfl ?_
      exact krec1 (s1 + 1)
def fA_Strip_begins (a1 : Int32) (a2 : Int32) (g : G) : Option (Int32) := Option.bind (fA_Strip_isOf a1 a2 g) fun x1 => (if x1 = 0 then some 0 else lj (α := Int32) (fun b2 => Option.bind (fA_Strip_isOf a1 b2 g) fun x3 => (if x3 = 0 then some 1 else (if a2 = 0 then Option.bind (fA_Strip_lengthFrom a1 0 g) fun x4 => (if x4 = (g.1 13003) then some 1 else some 0) else some 0))) fun J2 => (if a2 = 0 then J2 ((g.1 13003) - 1) else J2 (a2 - 1)))
set_option maxRecDepth 20000 in
set_option maxHeartbeats 4000000 in
theorem ok_fA_Strip_begins (E : Ev) (a1 : Int32) (a2 : Int32) (g : G)  : Ct (wCA E) yX7_begins mi_X7_begins [.ref (E.1 130), .int a1, .int a2] (fun r => (some (.int r), g)) g (fA_Strip_begins a1 a2 g) := by
  refine go_enter rfl rfl (Nat.le_of_ble_eq_true rfl) (lv := [(0, .ref (E.1 130)), (1, .int a1), (2, .int a2)]) rfl ?_
  unfold fA_Strip_begins
  refine go_aload_n td_X7_begins 0 rfl (q := 1) rfl 0 rfl ?_
  refine go_iload_n td_X7_begins 1 rfl (q := 2) rfl 1 rfl ?_
  refine go_iload_n td_X7_begins 2 rfl (q := 3) rfl 2 rfl ?_
  refine go_callV td_X7_begins 3 rfl (q := 6) rfl (XkA E) lk_X7_45 (ok_fA_Strip_isOf E a1 a2 g) ⟨rfl, rfl, Nat.le_of_ble_eq_true rfl, Nat.le_of_ble_eq_true rfl⟩ rfl rfl (Nat.le_of_ble_eq_true rfl) (Ac_130 E g) rfl (fun x1 => ?_)
  show Go (wCA E) _ _ g 6 _ [.int x1] _
  refine go_if_ne 11 td_X7_begins 4 rfl rfl (q := 9) rfl (fun _ => ?_) (fun _ => ?_)
  · refine go_aload_n td_X7_begins 7 rfl (q := 12) rfl 0 rfl ?_
    refine go_iload_n td_X7_begins 8 rfl (q := 13) rfl 1 rfl ?_
    refine go_iload_n td_X7_begins 9 rfl (q := 14) rfl 2 rfl ?_
    refine go_ljX (α := Int32) (fun b2 => [(0, .ref (E.1 130)), (1, .int a1), (2, .int a2)]) (fun b2 => [.int b2, .int a1, .ref (E.1 130)]) (fun b2 => g) 29 ?_ ?_
    · intro b2
      refine go_callV td_X7_begins 19 rfl (q := 32) rfl (XkA E) lk_X7_45 (ok_fA_Strip_isOf E a1 b2 g) ⟨rfl, rfl, Nat.le_of_ble_eq_true rfl, Nat.le_of_ble_eq_true rfl⟩ rfl rfl (Nat.le_of_ble_eq_true rfl) (Ac_130 E g) rfl (fun x3 => ?_)
      show Go (wCA E) _ _ g 32 _ [.int x3] _
      refine go_if_ne 37 td_X7_begins 20 rfl rfl (q := 35) rfl (fun _ => ?_) (fun _ => ?_)
      · refine go_iload_n td_X7_begins 23 rfl (q := 38) rfl 2 rfl ?_
        refine go_if_ne 58 td_X7_begins 24 rfl rfl (q := 41) rfl (fun _ => ?_) (fun _ => ?_)
        · refine go_iconst td_X7_begins 34 rfl (q := 59) rfl kc_0 ?_
          exact go_zret td_X7_begins 35 rfl rfl rfl rfl
        · refine go_aload_n td_X7_begins 25 rfl (q := 42) rfl 0 rfl ?_
          refine go_iload_n td_X7_begins 26 rfl (q := 43) rfl 1 rfl ?_
          refine go_iconst td_X7_begins 27 rfl (q := 44) rfl kc_0 ?_
          refine go_callV td_X7_begins 28 rfl (q := 47) rfl (XkA E) lk_X7_49 (ok_fA_Strip_lengthFrom E a1 0 g) ⟨rfl, rfl, Nat.le_of_ble_eq_true rfl, Nat.le_of_ble_eq_true rfl⟩ rfl rfl (Nat.le_of_ble_eq_true rfl) (Ac_130 E g) rfl (fun x4 => ?_)
          show Go (wCA E) _ _ g 47 _ [.int x4] _
          refine go_aload_n td_X7_begins 29 rfl (q := 48) rfl 0 rfl ?_
          refine go_get td_X7_begins 30 rfl (q := 51) rfl fl_X7_21 (Ac_130 E g) rfl ?_
          refine go_icmp_ne 58 td_X7_begins 31 rfl rfl (q := 54) rfl (fun _ => ?_) (fun _ => ?_)
          · refine go_iconst td_X7_begins 34 rfl (q := 59) rfl kc_0 ?_
            exact go_zret td_X7_begins 35 rfl rfl rfl rfl
          · refine go_iconst td_X7_begins 32 rfl (q := 55) rfl kc_1 ?_
            refine go_goto td_X7_begins 33 rfl (q := 59) rfl ?_
            exact go_zret td_X7_begins 35 rfl rfl rfl rfl
      · refine go_iconst td_X7_begins 21 rfl (q := 36) rfl kc_1 ?_
        exact go_zret td_X7_begins 22 rfl rfl rfl rfl
    intro J2 hJ2
    have kJ2 : ∀ (u2_0 : Int32), Go (wCA E) _ _ g 29 [(0, .ref (E.1 130)), (1, .int a1), (2, .int a2)] [.int u2_0, .int a1, .ref (E.1 130)] (J2 u2_0) := fun u2_0 => hJ2 u2_0
    refine go_if_ne 26 td_X7_begins 10 rfl rfl (q := 17) rfl (fun _ => ?_) (fun _ => ?_)
    · refine go_iload_n td_X7_begins 16 rfl (q := 27) rfl 2 rfl ?_
      refine go_iconst td_X7_begins 17 rfl (q := 28) rfl kc_1 ?_
      refine go_isub td_X7_begins 18 rfl (q := 29) rfl ?_
      refine go_pick [0, 1, 2] (lv' := [(0, .ref (E.1 130)), (1, .int a1), (2, .int a2)]) rfl ?_
      exact kJ2 (a2 - 1)
    · refine go_aload_n td_X7_begins 11 rfl (q := 18) rfl 0 rfl ?_
      refine go_get td_X7_begins 12 rfl (q := 21) rfl fl_X7_21 (Ac_130 E g) rfl ?_
      refine go_iconst td_X7_begins 13 rfl (q := 22) rfl kc_1 ?_
      refine go_isub td_X7_begins 14 rfl (q := 23) rfl ?_
      refine go_goto td_X7_begins 15 rfl (q := 29) rfl ?_
      refine go_pick [0, 1, 2] (lv' := [(0, .ref (E.1 130)), (1, .int a1), (2, .int a2)]) rfl ?_
      exact kJ2 ((g.1 13003) - 1)
  · refine go_iconst td_X7_begins 5 rfl (q := 10) rfl kc_0 ?_
    exact go_zret td_X7_begins 6 rfl rfl rfl rfl
def fA_D_passesInHours (a1 : Int32) (a2 : Int32) (g : G) : Option (Int32 × G) := ag 6 (g.2.1 11) a1 fun x1 => ag 6 (g.2.1 12) a1 fun x2 => Option.bind (fA_Strip_lay (g.1 2700) x1 x2 g) fun x3 => Lp (α := Int32 × Int32) (fun rec4 s4 => (if (x3.1 303) ≤ s4.2 then some (s4.1, x3) else Option.bind (fA_D_rest s4.2 (x3.1 302) x3) fun x5 => Lp (α := Int32 × Int32) (fun rec6 s6 => (if (x3.1 306) ≤ s6.2 then rec4 (s6.1, s4.2 + 1) else ag 6 (x3.2.1 13) a1 fun x7 => lj (α := Int32) (fun b8 => rec6 (b8, s6.2 + 1)) fun J8 => (if x5 < x7 then J8 s6.1 else Option.bind (fA_Strip_begins s6.2 s4.2 x3) fun x9 => (if x9 = 0 then J8 s6.1 else Option.bind (fA_Strip_lengthFrom s6.2 s4.2 x3) fun x10 => ag 6 (x3.2.1 14) a1 fun x11 => (if x11 < (x5 + x10) then J8 s6.1 else lj (α := Int32) (fun b12 => bv (s6.1 + b12) fun x13 => J8 x13) fun J12 => (if a2 = 0 then J12 1 else J12 x10)))))) FU (s4.1, 0))) FU (0, 0)
set_option maxRecDepth 20000 in
set_option maxHeartbeats 4000000 in
theorem ok_fA_D_passesInHours (E : Ev) (a1 : Int32) (a2 : Int32) (g : G)  : Ct (wCA E) yX11_passesInHours mi_X11_passesInHours [.ref (E.1 0), .int a1, .int a2] (fun r => (some (.int r.1), r.2)) g (fA_D_passesInHours a1 a2 g) := by
  refine go_enter rfl rfl (Nat.le_of_ble_eq_true rfl) (lv := [(0, .ref (E.1 0)), (1, .int a1), (2, .int a2)]) rfl ?_
  unfold fA_D_passesInHours
  refine go_aload_n td_X11_passesInHours 0 rfl (q := 1) rfl 0 rfl ?_
  refine go_get td_X11_passesInHours 1 rfl (q := 4) rfl fl_X11_66 (Ac_0 E g) rfl ?_
  refine go_aload_n td_X11_passesInHours 2 rfl (q := 5) rfl 0 rfl ?_
  refine go_get td_X11_passesInHours 3 rfl (q := 8) rfl fl_X11_29 (Ac_0 E g) rfl ?_
  refine go_get td_X11_passesInHours 4 rfl (q := 11) rfl fl_X11_178 (Ac_27 E g) rfl ?_
  refine go_aload_n td_X11_passesInHours 5 rfl (q := 12) rfl 0 rfl ?_
  refine go_get td_X11_passesInHours 6 rfl (q := 15) rfl fl_X11_19 (Ac_0 E g) rfl ?_
  refine go_get td_X11_passesInHours 7 rfl (q := 18) rfl fl_X11_250 (Ac_3 E g) rfl ?_
  refine go_iload_n td_X11_passesInHours 8 rfl (q := 19) rfl 1 rfl ?_
  refine go_ald td_X11_passesInHours 9 rfl (q := 20) rfl (Ac_11 E g) (t0 := 0) rfl (fun x1 => ?_)
  refine go_aload_n td_X11_passesInHours 10 rfl (q := 21) rfl 0 rfl ?_
  refine go_get td_X11_passesInHours 11 rfl (q := 24) rfl fl_X11_19 (Ac_0 E g) rfl ?_
  refine go_get td_X11_passesInHours 12 rfl (q := 27) rfl fl_X11_253 (Ac_3 E g) rfl ?_
  refine go_iload_n td_X11_passesInHours 13 rfl (q := 28) rfl 1 rfl ?_
  refine go_ald td_X11_passesInHours 14 rfl (q := 29) rfl (Ac_12 E g) (t0 := 0) rfl (fun x2 => ?_)
  refine go_callV td_X11_passesInHours 15 rfl (q := 32) rfl (XkA E) lk_X11_289 (ok_fA_Strip_lay E (g.1 2700) x1 x2 g) ⟨rfl, rfl, Nat.le_of_ble_eq_true rfl, Nat.le_of_ble_eq_true rfl⟩ rfl rfl (Nat.le_of_ble_eq_true rfl) (Ac_130 E g) rfl (fun x3 => ?_)
  show Go (wCA E) _ _ x3 32 _ [] _
  refine go_iconst td_X11_passesInHours 16 rfl (q := 33) rfl kc_0 ?_
  refine go_istore_n [(3, .int 0), (0, .ref (E.1 0)), (1, .int a1), (2, .int a2)] td_X11_passesInHours 17 rfl (q := 34) rfl (Nat.le_of_ble_eq_true rfl) rfl ?_
  refine go_iconst td_X11_passesInHours 18 rfl (q := 35) rfl kc_0 ?_
  refine go_istore [(4, .int 0), (3, .int 0), (0, .ref (E.1 0)), (1, .int a1), (2, .int a2)] td_X11_passesInHours 19 rfl (q := 37) rfl (Nat.le_of_ble_eq_true rfl) rfl ?_
  refine go_pick [2, 3, 4, 1, 0] (lv' := [(0, .ref (E.1 0)), (1, .int a1), (2, .int a2), (3, .int 0), (4, .int 0)]) rfl ?_
  refine (show ∀ (u4_0 : Int32) (u4_1 : Int32), Go (wCA E) _ _ x3 37 [(0, .ref (E.1 0)), (1, .int a1), (2, .int a2), (3, .int u4_0), (4, .int u4_1)] [] (Lp (α := Int32 × Int32) _ FU (u4_0, u4_1)) from ?_) 0 0
  intro u4_0 u4_1
  refine go_Lp (α := Int32 × Int32) (fun s4 => x3) (fun s4 => [(0, .ref (E.1 0)), (1, .int a1), (2, .int a2), (3, .int s4.1), (4, .int s4.2)]) ?_ FU (u4_0, u4_1)
  intro rec4 hrec4 s4
  have krec4 : ∀ (u4_0 : Int32) (u4_1 : Int32), Go (wCA E) _ _ x3 37 [(0, .ref (E.1 0)), (1, .int a1), (2, .int a2), (3, .int u4_0), (4, .int u4_1)] [] (rec4 (u4_0, u4_1)) := fun u4_0 u4_1 => hrec4 (u4_0, u4_1)
  refine go_iload td_X11_passesInHours 20 rfl (q := 39) rfl 4 rfl ?_
  refine go_aload_n td_X11_passesInHours 21 rfl (q := 40) rfl 0 rfl ?_
  refine go_get td_X11_passesInHours 22 rfl (q := 43) rfl fl_X11_19 (Ac_0 E x3) rfl ?_
  refine go_get td_X11_passesInHours 23 rfl (q := 46) rfl fl_X11_189 (Ac_3 E x3) rfl ?_
  refine go_icmp_ge 161 td_X11_passesInHours 24 rfl rfl (q := 49) rfl (fun _ => ?_) (fun _ => ?_)
  · refine go_iload_n td_X11_passesInHours 78 rfl (q := 162) rfl 3 rfl ?_
    exact go_iret td_X11_passesInHours 79 rfl rfl rfl
  · refine go_iload td_X11_passesInHours 25 rfl (q := 51) rfl 4 rfl ?_
    refine go_aload_n td_X11_passesInHours 26 rfl (q := 52) rfl 0 rfl ?_
    refine go_get td_X11_passesInHours 27 rfl (q := 55) rfl fl_X11_19 (Ac_0 E x3) rfl ?_
    refine go_get td_X11_passesInHours 28 rfl (q := 58) rfl fl_X11_169 (Ac_3 E x3) rfl ?_
    refine go_callS td_X11_passesInHours 29 rfl (q := 61) rfl (XkA E) lk_X11_468 (ok_fA_D_rest E s4.2 (x3.1 302) x3) ⟨rfl, rfl, Nat.le_of_ble_eq_true rfl, Nat.le_of_ble_eq_true rfl⟩ rfl rfl (Nat.le_of_ble_eq_true rfl) (fun x5 => ?_)
    show Go (wCA E) _ _ x3 61 _ [.int x5] _
    refine go_istore [(5, .int x5), (0, .ref (E.1 0)), (1, .int a1), (2, .int a2), (3, .int s4.1), (4, .int s4.2)] td_X11_passesInHours 30 rfl (q := 63) rfl (Nat.le_of_ble_eq_true rfl) rfl ?_
    refine go_iconst td_X11_passesInHours 31 rfl (q := 64) rfl kc_0 ?_
    refine go_istore [(6, .int 0), (5, .int x5), (0, .ref (E.1 0)), (1, .int a1), (2, .int a2), (3, .int s4.1), (4, .int s4.2)] td_X11_passesInHours 32 rfl (q := 66) rfl (Nat.le_of_ble_eq_true rfl) rfl ?_
    refine go_pick [2, 3, 4, 5, 6, 1, 0] (lv' := [(0, .ref (E.1 0)), (1, .int a1), (2, .int a2), (3, .int s4.1), (4, .int s4.2), (5, .int x5), (6, .int 0)]) rfl ?_
    refine (show ∀ (u6_0 : Int32) (u6_1 : Int32), Go (wCA E) _ _ x3 66 [(0, .ref (E.1 0)), (1, .int a1), (2, .int a2), (3, .int u6_0), (4, .int s4.2), (5, .int x5), (6, .int u6_1)] [] (Lp (α := Int32 × Int32) _ FU (u6_0, u6_1)) from ?_) s4.1 0
    intro u6_0 u6_1
    refine go_Lp (α := Int32 × Int32) (fun s6 => x3) (fun s6 => [(0, .ref (E.1 0)), (1, .int a1), (2, .int a2), (3, .int s6.1), (4, .int s4.2), (5, .int x5), (6, .int s6.2)]) ?_ FU (u6_0, u6_1)
    intro rec6 hrec6 s6
    have krec6 : ∀ (u6_0 : Int32) (u6_1 : Int32), Go (wCA E) _ _ x3 66 [(0, .ref (E.1 0)), (1, .int a1), (2, .int a2), (3, .int u6_0), (4, .int s4.2), (5, .int x5), (6, .int u6_1)] [] (rec6 (u6_0, u6_1)) := fun u6_0 u6_1 => hrec6 (u6_0, u6_1)
    refine go_iload td_X11_passesInHours 33 rfl (q := 68) rfl 6 rfl ?_
    refine go_aload_n td_X11_passesInHours 34 rfl (q := 69) rfl 0 rfl ?_
    refine go_get td_X11_passesInHours 35 rfl (q := 72) rfl fl_X11_19 (Ac_0 E x3) rfl ?_
    refine go_get td_X11_passesInHours 36 rfl (q := 75) rfl fl_X11_175 (Ac_3 E x3) rfl ?_
    refine go_icmp_ge 155 td_X11_passesInHours 37 rfl rfl (q := 78) rfl (fun _ => ?_) (fun _ => ?_)
    · refine go_iinc [(4, .int (s4.2 + 1)), (0, .ref (E.1 0)), (1, .int a1), (2, .int a2), (3, .int s6.1), (5, .int x5), (6, .int s6.2)] td_X11_passesInHours 76 rfl (q := 158) rfl 4 rfl kc_1 (Nat.le_of_ble_eq_true rfl) rfl ?_
      refine go_goto td_X11_passesInHours 77 rfl (q := 37) rfl ?_
      refine go_pick [1, 2, 3, 4, 0] (lv' := [(0, .ref (E.1 0)), (1, .int a1), (2, .int a2), (3, .int s6.1), (4, .int (s4.2 + 1))]) rfl ?_
      exact krec4 s6.1 (s4.2 + 1)
    · refine go_iload td_X11_passesInHours 38 rfl (q := 80) rfl 5 rfl ?_
      refine go_aload_n td_X11_passesInHours 39 rfl (q := 81) rfl 0 rfl ?_
      refine go_get td_X11_passesInHours 40 rfl (q := 84) rfl fl_X11_19 (Ac_0 E x3) rfl ?_
      refine go_get td_X11_passesInHours 41 rfl (q := 87) rfl fl_X11_256 (Ac_3 E x3) rfl ?_
      refine go_iload_n td_X11_passesInHours 42 rfl (q := 88) rfl 1 rfl ?_
      refine go_ald td_X11_passesInHours 43 rfl (q := 89) rfl (Ac_13 E x3) (t0 := 0) rfl (fun x7 => ?_)
      refine go_ljX (α := Int32) (fun b8 => [(0, .ref (E.1 0)), (1, .int a1), (2, .int a2), (3, .int b8), (4, .int s4.2), (5, .int x5), (6, .int s6.2)]) (fun b8 => []) (fun b8 => x3) 149 ?_ ?_
      · intro b8
        refine go_iinc [(6, .int (s6.2 + 1)), (0, .ref (E.1 0)), (1, .int a1), (2, .int a2), (3, .int b8), (4, .int s4.2), (5, .int x5)] td_X11_passesInHours 74 rfl (q := 152) rfl 6 rfl kc_1 (Nat.le_of_ble_eq_true rfl) rfl ?_
        refine go_goto td_X11_passesInHours 75 rfl (q := 66) rfl ?_
        refine go_pick [1, 2, 3, 4, 5, 6, 0] (lv' := [(0, .ref (E.1 0)), (1, .int a1), (2, .int a2), (3, .int b8), (4, .int s4.2), (5, .int x5), (6, .int (s6.2 + 1))]) rfl ?_
        exact krec6 b8 (s6.2 + 1)
      intro J8 hJ8
      have kJ8 : ∀ (u8_0 : Int32), Go (wCA E) _ _ x3 149 [(0, .ref (E.1 0)), (1, .int a1), (2, .int a2), (3, .int u8_0), (4, .int s4.2), (5, .int x5), (6, .int s6.2)] [] (J8 u8_0) := fun u8_0 => hJ8 u8_0
      refine go_icmp_lt 149 td_X11_passesInHours 44 rfl rfl (q := 92) rfl (fun _ => ?_) (fun _ => ?_)
      · refine go_pick [0, 1, 2, 3, 4, 5, 6] (lv' := [(0, .ref (E.1 0)), (1, .int a1), (2, .int a2), (3, .int s6.1), (4, .int s4.2), (5, .int x5), (6, .int s6.2)]) rfl ?_
        exact kJ8 s6.1
      · refine go_aload_n td_X11_passesInHours 45 rfl (q := 93) rfl 0 rfl ?_
        refine go_get td_X11_passesInHours 46 rfl (q := 96) rfl fl_X11_66 (Ac_0 E x3) rfl ?_
        refine go_iload td_X11_passesInHours 47 rfl (q := 98) rfl 6 rfl ?_
        refine go_iload td_X11_passesInHours 48 rfl (q := 100) rfl 4 rfl ?_
        refine go_callV td_X11_passesInHours 49 rfl (q := 103) rfl (XkA E) lk_X11_483 (ok_fA_Strip_begins E s6.2 s4.2 x3) ⟨rfl, rfl, Nat.le_of_ble_eq_true rfl, Nat.le_of_ble_eq_true rfl⟩ rfl rfl (Nat.le_of_ble_eq_true rfl) (Ac_130 E x3) rfl (fun x9 => ?_)
        show Go (wCA E) _ _ x3 103 _ [.int x9] _
        refine go_if_eq 149 td_X11_passesInHours 50 rfl rfl (q := 106) rfl (fun _ => ?_) (fun _ => ?_)
        · refine go_pick [0, 1, 2, 3, 4, 5, 6] (lv' := [(0, .ref (E.1 0)), (1, .int a1), (2, .int a2), (3, .int s6.1), (4, .int s4.2), (5, .int x5), (6, .int s6.2)]) rfl ?_
          exact kJ8 s6.1
        · refine go_aload_n td_X11_passesInHours 51 rfl (q := 107) rfl 0 rfl ?_
          refine go_get td_X11_passesInHours 52 rfl (q := 110) rfl fl_X11_66 (Ac_0 E x3) rfl ?_
          refine go_iload td_X11_passesInHours 53 rfl (q := 112) rfl 6 rfl ?_
          refine go_iload td_X11_passesInHours 54 rfl (q := 114) rfl 4 rfl ?_
          refine go_callV td_X11_passesInHours 55 rfl (q := 117) rfl (XkA E) lk_X11_486 (ok_fA_Strip_lengthFrom E s6.2 s4.2 x3) ⟨rfl, rfl, Nat.le_of_ble_eq_true rfl, Nat.le_of_ble_eq_true rfl⟩ rfl rfl (Nat.le_of_ble_eq_true rfl) (Ac_130 E x3) rfl (fun x10 => ?_)
          show Go (wCA E) _ _ x3 117 _ [.int x10] _
          refine go_istore [(7, .int x10), (0, .ref (E.1 0)), (1, .int a1), (2, .int a2), (3, .int s6.1), (4, .int s4.2), (5, .int x5), (6, .int s6.2)] td_X11_passesInHours 56 rfl (q := 119) rfl (Nat.le_of_ble_eq_true rfl) rfl ?_
          refine go_iload td_X11_passesInHours 57 rfl (q := 121) rfl 6 rfl ?_
          refine go_iload td_X11_passesInHours 58 rfl (q := 123) rfl 0 rfl ?_
          refine go_iadd td_X11_passesInHours 59 rfl (q := 124) rfl ?_
          refine go_aload_n td_X11_passesInHours 60 rfl (q := 125) rfl 1 rfl ?_
          refine go_get td_X11_passesInHours 61 rfl (q := 128) rfl fl_X11_19 (Ac_0 E x3) rfl ?_
          refine go_get td_X11_passesInHours 62 rfl (q := 131) rfl fl_X11_259 (Ac_3 E x3) rfl ?_
          refine go_iload_n td_X11_passesInHours 63 rfl (q := 132) rfl 2 rfl ?_
          refine go_ald td_X11_passesInHours 64 rfl (q := 133) rfl (Ac_14 E x3) (t0 := 0) rfl (fun x11 => ?_)
          refine go_icmp_gt 149 td_X11_passesInHours 65 rfl rfl (q := 136) rfl (fun _ => ?_) (fun _ => ?_)
          · refine go_pick [1, 2, 3, 4, 5, 6, 7] (lv' := [(0, .ref (E.1 0)), (1, .int a1), (2, .int a2), (3, .int s6.1), (4, .int s4.2), (5, .int x5), (6, .int s6.2)]) rfl ?_
            exact kJ8 s6.1
          · refine go_iload_n td_X11_passesInHours 66 rfl (q := 137) rfl 4 rfl ?_
            refine go_iload_n td_X11_passesInHours 67 rfl (q := 138) rfl 3 rfl ?_
            refine go_ljX (α := Int32) (fun b12 => [(0, .ref (E.1 0)), (1, .int a1), (2, .int a2), (4, .int s4.2), (5, .int x5), (6, .int s6.2)]) (fun b12 => [.int b12, .int s6.1]) (fun b12 => x3) 147 ?_ ?_
            · intro b12
              refine go_iadd td_X11_passesInHours 72 rfl (q := 148) rfl ?_
              refine go_bvi (fun x13 => ?_)
              refine go_istore_n [(3, .int x13), (0, .ref (E.1 0)), (1, .int a1), (2, .int a2), (4, .int s4.2), (5, .int x5), (6, .int s6.2)] td_X11_passesInHours 73 rfl (q := 149) rfl (Nat.le_of_ble_eq_true rfl) rfl ?_
              refine go_pick [1, 2, 3, 0, 4, 5, 6] (lv' := [(0, .ref (E.1 0)), (1, .int a1), (2, .int a2), (3, .int x13), (4, .int s4.2), (5, .int x5), (6, .int s6.2)]) rfl ?_
              exact kJ8 x13
            intro J12 hJ12
            have kJ12 : ∀ (u12_0 : Int32), Go (wCA E) _ _ x3 147 [(0, .ref (E.1 0)), (1, .int a1), (2, .int a2), (4, .int s4.2), (5, .int x5), (6, .int s6.2)] [.int u12_0, .int s6.1] (J12 u12_0) := fun u12_0 => hJ12 u12_0
            refine go_if_eq 146 td_X11_passesInHours 68 rfl rfl (q := 141) rfl (fun _ => ?_) (fun _ => ?_)
            · refine go_iconst td_X11_passesInHours 71 rfl (q := 147) rfl kc_1 ?_
              refine go_pick [1, 2, 3, 5, 6, 7] (lv' := [(0, .ref (E.1 0)), (1, .int a1), (2, .int a2), (4, .int s4.2), (5, .int x5), (6, .int s6.2)]) rfl ?_
              exact kJ12 1
            · refine go_iload td_X11_passesInHours 69 rfl (q := 143) rfl 0 rfl ?_
              refine go_goto td_X11_passesInHours 70 rfl (q := 147) rfl ?_
              refine go_pick [1, 2, 3, 5, 6, 7] (lv' := [(0, .ref (E.1 0)), (1, .int a1), (2, .int a2), (4, .int s4.2), (5, .int x5), (6, .int s6.2)]) rfl ?_
              exact kJ12 x10
def fA_D_site (a1 : Int32) (a2 : Int32) (g : G) : Option (Int32 × G) := Option.bind (fA_Plan_hasSite a1 g) fun x1 => (if x1 = 0 then some ((-1), g) else Option.bind (fA_D_look g) fun x2 => (if a2 = 0 then ag 6 (x2.2.1 11) a1 fun x3 => some (x3, x2) else if a2 = 1 then ag 6 (x2.2.1 12) a1 fun x5 => some (x5, x2) else if a2 = 2 then ag 6 (x2.2.1 13) a1 fun x7 => some (x7, x2) else if a2 = 3 then ag 6 (x2.2.1 14) a1 fun x9 => some (x9, x2) else if a2 = 4 then Option.bind (fA_D_passesInHours a1 0 x2) fun x11 => some (x11.1, x11.2) else if a2 = 5 then Option.bind (fA_D_passesInHours a1 1 x2) fun x13 => some (x13.1, x13.2) else some ((-1), x2)))
set_option maxRecDepth 20000 in
set_option maxHeartbeats 4000000 in
theorem ok_fA_D_site (E : Ev) (a1 : Int32) (a2 : Int32) (g : G)  : Ct (wCA E) yX11_site mi_X11_site [.ref (E.1 0), .int a1, .int a2] (fun r => (some (.int r.1), r.2)) g (fA_D_site a1 a2 g) := by
  refine go_enter rfl rfl (Nat.le_of_ble_eq_true rfl) (lv := [(0, .ref (E.1 0)), (1, .int a1), (2, .int a2)]) rfl ?_
  unfold fA_D_site
  refine go_aload_n td_X11_site 0 rfl (q := 1) rfl 0 rfl ?_
  refine go_get td_X11_site 1 rfl (q := 4) rfl fl_X11_19 (Ac_0 E g) rfl ?_
  refine go_iload_n td_X11_site 2 rfl (q := 5) rfl 1 rfl ?_
  refine go_callV td_X11_site 3 rfl (q := 8) rfl (XkA E) lk_X11_217 (ok_fA_Plan_hasSite E a1 g) ⟨rfl, rfl, Nat.le_of_ble_eq_true rfl, Nat.le_of_ble_eq_true rfl⟩ rfl rfl (Nat.le_of_ble_eq_true rfl) (Ac_3 E g) rfl (fun x1 => ?_)
  show Go (wCA E) _ _ g 8 _ [.int x1] _
  refine go_if_ne 13 td_X11_site 4 rfl rfl (q := 11) rfl (fun _ => ?_) (fun _ => ?_)
  · refine go_aload_n td_X11_site 7 rfl (q := 14) rfl 0 rfl ?_
    refine go_callV td_X11_site 8 rfl (q := 17) rfl (XkA E) lk_X11_247 (ok_fA_D_look E g) ⟨rfl, rfl, Nat.le_of_ble_eq_true rfl, Nat.le_of_ble_eq_true rfl⟩ rfl rfl (Nat.le_of_ble_eq_true rfl) (Ac_0 E g) rfl (fun x2 => ?_)
    show Go (wCA E) _ _ x2 17 _ [] _
    refine go_iload_n td_X11_site 9 rfl (q := 18) rfl 2 rfl ?_
    refine go_tcase (v := 0) 56 td_X11_site 10 rfl ⟨by decide, by decide, rfl, rfl⟩ ?_ (fun n4 => ?_)
    · refine go_aload_n td_X11_site 11 rfl (q := 57) rfl 0 rfl ?_
      refine go_get td_X11_site 12 rfl (q := 60) rfl fl_X11_19 (Ac_0 E x2) rfl ?_
      refine go_get td_X11_site 13 rfl (q := 63) rfl fl_X11_250 (Ac_3 E x2) rfl ?_
      refine go_iload_n td_X11_site 14 rfl (q := 64) rfl 1 rfl ?_
      refine go_ald td_X11_site 15 rfl (q := 65) rfl (Ac_11 E x2) (t0 := 0) rfl (fun x3 => ?_)
      exact go_iret td_X11_site 16 rfl rfl rfl
    refine go_tcase (v := 1) 66 td_X11_site 10 rfl ⟨by decide, by decide, rfl, rfl⟩ ?_ (fun n6 => ?_)
    · refine go_aload_n td_X11_site 17 rfl (q := 67) rfl 0 rfl ?_
      refine go_get td_X11_site 18 rfl (q := 70) rfl fl_X11_19 (Ac_0 E x2) rfl ?_
      refine go_get td_X11_site 19 rfl (q := 73) rfl fl_X11_253 (Ac_3 E x2) rfl ?_
      refine go_iload_n td_X11_site 20 rfl (q := 74) rfl 1 rfl ?_
      refine go_ald td_X11_site 21 rfl (q := 75) rfl (Ac_12 E x2) (t0 := 0) rfl (fun x5 => ?_)
      exact go_iret td_X11_site 22 rfl rfl rfl
    refine go_tcase (v := 2) 76 td_X11_site 10 rfl ⟨by decide, by decide, rfl, rfl⟩ ?_ (fun n8 => ?_)
    · refine go_aload_n td_X11_site 23 rfl (q := 77) rfl 0 rfl ?_
      refine go_get td_X11_site 24 rfl (q := 80) rfl fl_X11_19 (Ac_0 E x2) rfl ?_
      refine go_get td_X11_site 25 rfl (q := 83) rfl fl_X11_256 (Ac_3 E x2) rfl ?_
      refine go_iload_n td_X11_site 26 rfl (q := 84) rfl 1 rfl ?_
      refine go_ald td_X11_site 27 rfl (q := 85) rfl (Ac_13 E x2) (t0 := 0) rfl (fun x7 => ?_)
      exact go_iret td_X11_site 28 rfl rfl rfl
    refine go_tcase (v := 3) 86 td_X11_site 10 rfl ⟨by decide, by decide, rfl, rfl⟩ ?_ (fun n10 => ?_)
    · refine go_aload_n td_X11_site 29 rfl (q := 87) rfl 0 rfl ?_
      refine go_get td_X11_site 30 rfl (q := 90) rfl fl_X11_19 (Ac_0 E x2) rfl ?_
      refine go_get td_X11_site 31 rfl (q := 93) rfl fl_X11_259 (Ac_3 E x2) rfl ?_
      refine go_iload_n td_X11_site 32 rfl (q := 94) rfl 1 rfl ?_
      refine go_ald td_X11_site 33 rfl (q := 95) rfl (Ac_14 E x2) (t0 := 0) rfl (fun x9 => ?_)
      exact go_iret td_X11_site 34 rfl rfl rfl
    refine go_tcase (v := 4) 96 td_X11_site 10 rfl ⟨by decide, by decide, rfl, rfl⟩ ?_ (fun n12 => ?_)
    · refine go_aload_n td_X11_site 35 rfl (q := 97) rfl 0 rfl ?_
      refine go_iload_n td_X11_site 36 rfl (q := 98) rfl 1 rfl ?_
      refine go_iconst td_X11_site 37 rfl (q := 99) rfl kc_0 ?_
      refine go_callV td_X11_site 38 rfl (q := 102) rfl (XkA E) lk_X11_262 (ok_fA_D_passesInHours E a1 0 x2) ⟨rfl, rfl, Nat.le_of_ble_eq_true rfl, Nat.le_of_ble_eq_true rfl⟩ rfl rfl (Nat.le_of_ble_eq_true rfl) (Ac_0 E x2) rfl (fun x11 => ?_)
      show Go (wCA E) _ _ x11.2 102 _ [.int x11.1] _
      exact go_iret td_X11_site 39 rfl rfl rfl
    refine go_tcase (v := 5) 103 td_X11_site 10 rfl ⟨by decide, by decide, rfl, rfl⟩ ?_ (fun n14 => ?_)
    · refine go_aload_n td_X11_site 40 rfl (q := 104) rfl 0 rfl ?_
      refine go_iload_n td_X11_site 41 rfl (q := 105) rfl 1 rfl ?_
      refine go_iconst td_X11_site 42 rfl (q := 106) rfl kc_1 ?_
      refine go_callV td_X11_site 43 rfl (q := 109) rfl (XkA E) lk_X11_262 (ok_fA_D_passesInHours E a1 1 x2) ⟨rfl, rfl, Nat.le_of_ble_eq_true rfl, Nat.le_of_ble_eq_true rfl⟩ rfl rfl (Nat.le_of_ble_eq_true rfl) (Ac_0 E x2) rfl (fun x13 => ?_)
      show Go (wCA E) _ _ x13.2 109 _ [.int x13.1] _
      exact go_iret td_X11_site 44 rfl rfl rfl
    refine go_tdef 110 td_X11_site 10 rfl (sw_X11_site_18 n4 n6 n8 n10 n12 n14) rfl ?_
    refine go_iconst td_X11_site 45 rfl (q := 111) rfl kc_m1 ?_
    exact go_iret td_X11_site 46 rfl rfl rfl
  · refine go_iconst td_X11_site 5 rfl (q := 12) rfl kc_m1 ?_
    exact go_iret td_X11_site 6 rfl rfl rfl
def fA_Plan_stands (g : G) : Option (Int32) := (if (g.1 300) ≤ 0 then some 0 else some 1)
set_option maxRecDepth 20000 in
set_option maxHeartbeats 4000000 in
theorem ok_fA_Plan_stands (E : Ev)  (g : G)  : Ct (wCA E) yX4_stands mi_X4_stands [.ref (E.1 3)] (fun r => (some (.int r), g)) g (fA_Plan_stands g) := by
  refine go_enter rfl rfl (Nat.le_of_ble_eq_true rfl) (lv := [(0, .ref (E.1 3))]) rfl ?_
  unfold fA_Plan_stands
  refine go_aload_n td_X4_stands 0 rfl (q := 1) rfl 0 rfl ?_
  refine go_get td_X4_stands 1 rfl (q := 4) rfl fl_X4_9 (Ac_3 E g) rfl ?_
  refine go_if_le 11 td_X4_stands 2 rfl rfl (q := 7) rfl (fun _ => ?_) (fun _ => ?_)
  · refine go_iconst td_X4_stands 5 rfl (q := 12) rfl kc_0 ?_
    exact go_zret td_X4_stands 6 rfl rfl rfl rfl
  · refine go_iconst td_X4_stands 3 rfl (q := 8) rfl kc_1 ?_
    refine go_goto td_X4_stands 4 rfl (q := 12) rfl ?_
    exact go_zret td_X4_stands 6 rfl rfl rfl rfl
def fA_D_isTick (a1 : Int32) (g : G) : Option (Int32) := Option.bind (fA_Plan_stands g) fun x1 => (if x1 = 0 then some 0 else (if a1 < 0 then some 0 else (if 9999 < a1 then some 0 else some 1)))
set_option maxRecDepth 20000 in
set_option maxHeartbeats 4000000 in
theorem ok_fA_D_isTick (E : Ev) (a1 : Int32) (g : G)  : Ct (wCA E) yX11_isTick mi_X11_isTick [.ref (E.1 0), .int a1] (fun r => (some (.int r), g)) g (fA_D_isTick a1 g) := by
  refine go_enter rfl rfl (Nat.le_of_ble_eq_true rfl) (lv := [(0, .ref (E.1 0)), (1, .int a1)]) rfl ?_
  unfold fA_D_isTick
  refine go_aload_n td_X11_isTick 0 rfl (q := 1) rfl 0 rfl ?_
  refine go_get td_X11_isTick 1 rfl (q := 4) rfl fl_X11_19 (Ac_0 E g) rfl ?_
  refine go_callV td_X11_isTick 2 rfl (q := 7) rfl (XkA E) lk_X11_334 (ok_fA_Plan_stands E g) ⟨rfl, rfl, Nat.le_of_ble_eq_true rfl, Nat.le_of_ble_eq_true rfl⟩ rfl rfl (Nat.le_of_ble_eq_true rfl) (Ac_3 E g) rfl (fun x1 => ?_)
  show Go (wCA E) _ _ g 7 _ [.int x1] _
  refine go_if_eq 25 td_X11_isTick 3 rfl rfl (q := 10) rfl (fun _ => ?_) (fun _ => ?_)
  · refine go_iconst td_X11_isTick 11 rfl (q := 26) rfl kc_0 ?_
    exact go_zret td_X11_isTick 12 rfl rfl rfl rfl
  · refine go_iload_n td_X11_isTick 4 rfl (q := 11) rfl 1 rfl ?_
    refine go_if_lt 25 td_X11_isTick 5 rfl rfl (q := 14) rfl (fun _ => ?_) (fun _ => ?_)
    · refine go_iconst td_X11_isTick 11 rfl (q := 26) rfl kc_0 ?_
      exact go_zret td_X11_isTick 12 rfl rfl rfl rfl
    · refine go_iload_n td_X11_isTick 6 rfl (q := 15) rfl 1 rfl ?_
      refine go_sipush td_X11_isTick 7 rfl (q := 18) rfl ks_9999 ?_
      refine go_icmp_gt 25 td_X11_isTick 8 rfl rfl (q := 21) rfl (fun _ => ?_) (fun _ => ?_)
      · refine go_iconst td_X11_isTick 11 rfl (q := 26) rfl kc_0 ?_
        exact go_zret td_X11_isTick 12 rfl rfl rfl rfl
      · refine go_iconst td_X11_isTick 9 rfl (q := 22) rfl kc_1 ?_
        refine go_goto td_X11_isTick 10 rfl (q := 26) rfl ?_
        exact go_zret td_X11_isTick 12 rfl rfl rfl rfl
def fA_D_inCycle (a1 : Int32) (g : G) : Option (Int32) := Option.bind (fA_D_rest a1 (g.1 303) g) fun x1 => some x1
set_option maxRecDepth 20000 in
set_option maxHeartbeats 4000000 in
theorem ok_fA_D_inCycle (E : Ev) (a1 : Int32) (g : G)  : Ct (wCA E) yX11_inCycle mi_X11_inCycle [.ref (E.1 0), .int a1] (fun r => (some (.int r), g)) g (fA_D_inCycle a1 g) := by
  refine go_enter rfl rfl (Nat.le_of_ble_eq_true rfl) (lv := [(0, .ref (E.1 0)), (1, .int a1)]) rfl ?_
  unfold fA_D_inCycle
  refine go_iload_n td_X11_inCycle 0 rfl (q := 1) rfl 1 rfl ?_
  refine go_aload_n td_X11_inCycle 1 rfl (q := 2) rfl 0 rfl ?_
  refine go_get td_X11_inCycle 2 rfl (q := 5) rfl fl_X11_19 (Ac_0 E g) rfl ?_
  refine go_get td_X11_inCycle 3 rfl (q := 8) rfl fl_X11_189 (Ac_3 E g) rfl ?_
  refine go_callS td_X11_inCycle 4 rfl (q := 11) rfl (XkA E) lk_X11_468 (ok_fA_D_rest E a1 (g.1 303) g) ⟨rfl, rfl, Nat.le_of_ble_eq_true rfl, Nat.le_of_ble_eq_true rfl⟩ rfl rfl (Nat.le_of_ble_eq_true rfl) (fun x1 => ?_)
  show Go (wCA E) _ _ g 11 _ [.int x1] _
  exact go_iret td_X11_inCycle 5 rfl rfl rfl
def fA_Sky_columnOf (a1 : Int32) (a2 : Int32) (g : G) : Option (Int32) := ag 1920 (g.2.1 124) ((a1 * 240) + a2) fun x1 => some x1
set_option maxRecDepth 20000 in
set_option maxHeartbeats 4000000 in
theorem ok_fA_Sky_columnOf (E : Ev) (a1 : Int32) (a2 : Int32) (g : G)  : Ct (wCA E) yX6_columnOf mi_X6_columnOf [.ref (E.1 118), .int a1, .int a2] (fun r => (some (.int r), g)) g (fA_Sky_columnOf a1 a2 g) := by
  refine go_enter rfl rfl (Nat.le_of_ble_eq_true rfl) (lv := [(0, .ref (E.1 118)), (1, .int a1), (2, .int a2)]) rfl ?_
  unfold fA_Sky_columnOf
  refine go_aload_n td_X6_columnOf 0 rfl (q := 1) rfl 0 rfl ?_
  refine go_get td_X6_columnOf 1 rfl (q := 4) rfl fl_X6_35 (Ac_118 E g) rfl ?_
  refine go_iload_n td_X6_columnOf 2 rfl (q := 5) rfl 1 rfl ?_
  refine go_sipush td_X6_columnOf 3 rfl (q := 8) rfl ks_240 ?_
  refine go_imul td_X6_columnOf 4 rfl (q := 9) rfl ?_
  refine go_iload_n td_X6_columnOf 5 rfl (q := 10) rfl 2 rfl ?_
  refine go_iadd td_X6_columnOf 6 rfl (q := 11) rfl ?_
  refine go_ald td_X6_columnOf 7 rfl (q := 12) rfl (Ac_124 E g) (t0 := 0) rfl (fun x1 => ?_)
  exact go_iret td_X6_columnOf 8 rfl rfl rfl
def fA_Sky_rowOf (a1 : Int32) (a2 : Int32) (g : G) : Option (Int32) := ag 1920 (g.2.1 125) ((a1 * 240) + a2) fun x1 => some x1
set_option maxRecDepth 20000 in
set_option maxHeartbeats 4000000 in
theorem ok_fA_Sky_rowOf (E : Ev) (a1 : Int32) (a2 : Int32) (g : G)  : Ct (wCA E) yX6_rowOf mi_X6_rowOf [.ref (E.1 118), .int a1, .int a2] (fun r => (some (.int r), g)) g (fA_Sky_rowOf a1 a2 g) := by
  refine go_enter rfl rfl (Nat.le_of_ble_eq_true rfl) (lv := [(0, .ref (E.1 118)), (1, .int a1), (2, .int a2)]) rfl ?_
  unfold fA_Sky_rowOf
  refine go_aload_n td_X6_rowOf 0 rfl (q := 1) rfl 0 rfl ?_
  refine go_get td_X6_rowOf 1 rfl (q := 4) rfl fl_X6_38 (Ac_118 E g) rfl ?_
  refine go_iload_n td_X6_rowOf 2 rfl (q := 5) rfl 1 rfl ?_
  refine go_sipush td_X6_rowOf 3 rfl (q := 8) rfl ks_240 ?_
  refine go_imul td_X6_rowOf 4 rfl (q := 9) rfl ?_
  refine go_iload_n td_X6_rowOf 5 rfl (q := 10) rfl 2 rfl ?_
  refine go_iadd td_X6_rowOf 6 rfl (q := 11) rfl ?_
  refine go_ald td_X6_rowOf 7 rfl (q := 12) rfl (Ac_125 E g) (t0 := 0) rfl (fun x1 => ?_)
  exact go_iret td_X6_rowOf 8 rfl rfl rfl
def fA_D_spot (a1 : Int32) (a2 : Int32) (a3 : Int32) (g : G) : Option (Int32 × G) := Option.bind (fA_Plan_hasCraft a1 g) fun x1 => (if x1 = 0 then some ((-1), g) else Option.bind (fA_D_isTick a2 g) fun x2 => (if x2 = 0 then some ((-1), g) else Option.bind (fA_D_look g) fun x3 => (if a3 = 0 then Option.bind (fA_D_inCycle a2 x3) fun x4 => Option.bind (fA_Sky_columnOf a1 x4 x3) fun x5 => some (x5, x3) else if a3 = 1 then Option.bind (fA_D_inCycle a2 x3) fun x7 => Option.bind (fA_Sky_rowOf a1 x7 x3) fun x8 => some (x8, x3) else some ((-1), x3))))
set_option maxRecDepth 20000 in
set_option maxHeartbeats 4000000 in
theorem ok_fA_D_spot (E : Ev) (a1 : Int32) (a2 : Int32) (a3 : Int32) (g : G)  : Ct (wCA E) yX11_spot mi_X11_spot [.ref (E.1 0), .int a1, .int a2, .int a3] (fun r => (some (.int r.1), r.2)) g (fA_D_spot a1 a2 a3 g) := by
  refine go_enter rfl rfl (Nat.le_of_ble_eq_true rfl) (lv := [(0, .ref (E.1 0)), (1, .int a1), (2, .int a2), (3, .int a3)]) rfl ?_
  unfold fA_D_spot
  refine go_aload_n td_X11_spot 0 rfl (q := 1) rfl 0 rfl ?_
  refine go_get td_X11_spot 1 rfl (q := 4) rfl fl_X11_19 (Ac_0 E g) rfl ?_
  refine go_iload_n td_X11_spot 2 rfl (q := 5) rfl 1 rfl ?_
  refine go_callV td_X11_spot 3 rfl (q := 8) rfl (XkA E) lk_X11_211 (ok_fA_Plan_hasCraft E a1 g) ⟨rfl, rfl, Nat.le_of_ble_eq_true rfl, Nat.le_of_ble_eq_true rfl⟩ rfl rfl (Nat.le_of_ble_eq_true rfl) (Ac_3 E g) rfl (fun x1 => ?_)
  show Go (wCA E) _ _ g 8 _ [.int x1] _
  refine go_if_eq 19 td_X11_spot 4 rfl rfl (q := 11) rfl (fun _ => ?_) (fun _ => ?_)
  · refine go_iconst td_X11_spot 9 rfl (q := 20) rfl kc_m1 ?_
    exact go_iret td_X11_spot 10 rfl rfl rfl
  · refine go_aload_n td_X11_spot 5 rfl (q := 12) rfl 0 rfl ?_
    refine go_iload_n td_X11_spot 6 rfl (q := 13) rfl 2 rfl ?_
    refine go_callV td_X11_spot 7 rfl (q := 16) rfl (XkA E) lk_X11_266 (ok_fA_D_isTick E a2 g) ⟨rfl, rfl, Nat.le_of_ble_eq_true rfl, Nat.le_of_ble_eq_true rfl⟩ rfl rfl (Nat.le_of_ble_eq_true rfl) (Ac_0 E g) rfl (fun x2 => ?_)
    show Go (wCA E) _ _ g 16 _ [.int x2] _
    refine go_if_ne 21 td_X11_spot 8 rfl rfl (q := 19) rfl (fun _ => ?_) (fun _ => ?_)
    · refine go_aload_n td_X11_spot 11 rfl (q := 22) rfl 0 rfl ?_
      refine go_callV td_X11_spot 12 rfl (q := 25) rfl (XkA E) lk_X11_247 (ok_fA_D_look E g) ⟨rfl, rfl, Nat.le_of_ble_eq_true rfl, Nat.le_of_ble_eq_true rfl⟩ rfl rfl (Nat.le_of_ble_eq_true rfl) (Ac_0 E g) rfl (fun x3 => ?_)
      show Go (wCA E) _ _ x3 25 _ [] _
      refine go_iload_n td_X11_spot 13 rfl (q := 26) rfl 3 rfl ?_
      refine go_lcase (v := 0) 52 td_X11_spot 14 rfl ⟨by decide, rfl, rfl⟩ ?_ (fun n6 => ?_)
      · refine go_aload_n td_X11_spot 15 rfl (q := 53) rfl 0 rfl ?_
        refine go_get td_X11_spot 16 rfl (q := 56) rfl fl_X11_57 (Ac_0 E x3) rfl ?_
        refine go_iload_n td_X11_spot 17 rfl (q := 57) rfl 1 rfl ?_
        refine go_aload_n td_X11_spot 18 rfl (q := 58) rfl 0 rfl ?_
        refine go_iload_n td_X11_spot 19 rfl (q := 59) rfl 2 rfl ?_
        refine go_callV td_X11_spot 20 rfl (q := 62) rfl (XkA E) lk_X11_269 (ok_fA_D_inCycle E a2 x3) ⟨rfl, rfl, Nat.le_of_ble_eq_true rfl, Nat.le_of_ble_eq_true rfl⟩ rfl rfl (Nat.le_of_ble_eq_true rfl) (Ac_0 E x3) rfl (fun x4 => ?_)
        show Go (wCA E) _ _ x3 62 _ [.int x4, .int a1, .ref (E.1 118)] _
        refine go_callV td_X11_spot 21 rfl (q := 65) rfl (XkA E) lk_X11_272 (ok_fA_Sky_columnOf E a1 x4 x3) ⟨rfl, rfl, Nat.le_of_ble_eq_true rfl, Nat.le_of_ble_eq_true rfl⟩ rfl rfl (Nat.le_of_ble_eq_true rfl) (Ac_118 E x3) rfl (fun x5 => ?_)
        show Go (wCA E) _ _ x3 65 _ [.int x5] _
        exact go_iret td_X11_spot 22 rfl rfl rfl
      refine go_lcase (v := 1) 66 td_X11_spot 14 rfl ⟨by decide, rfl, rfl⟩ ?_ (fun n9 => ?_)
      · refine go_aload_n td_X11_spot 23 rfl (q := 67) rfl 0 rfl ?_
        refine go_get td_X11_spot 24 rfl (q := 70) rfl fl_X11_57 (Ac_0 E x3) rfl ?_
        refine go_iload_n td_X11_spot 25 rfl (q := 71) rfl 1 rfl ?_
        refine go_aload_n td_X11_spot 26 rfl (q := 72) rfl 0 rfl ?_
        refine go_iload_n td_X11_spot 27 rfl (q := 73) rfl 2 rfl ?_
        refine go_callV td_X11_spot 28 rfl (q := 76) rfl (XkA E) lk_X11_269 (ok_fA_D_inCycle E a2 x3) ⟨rfl, rfl, Nat.le_of_ble_eq_true rfl, Nat.le_of_ble_eq_true rfl⟩ rfl rfl (Nat.le_of_ble_eq_true rfl) (Ac_0 E x3) rfl (fun x7 => ?_)
        show Go (wCA E) _ _ x3 76 _ [.int x7, .int a1, .ref (E.1 118)] _
        refine go_callV td_X11_spot 29 rfl (q := 79) rfl (XkA E) lk_X11_275 (ok_fA_Sky_rowOf E a1 x7 x3) ⟨rfl, rfl, Nat.le_of_ble_eq_true rfl, Nat.le_of_ble_eq_true rfl⟩ rfl rfl (Nat.le_of_ble_eq_true rfl) (Ac_118 E x3) rfl (fun x8 => ?_)
        show Go (wCA E) _ _ x3 79 _ [.int x8] _
        exact go_iret td_X11_spot 30 rfl rfl rfl
      refine go_ldef 80 td_X11_spot 14 rfl (sw_X11_spot_26 n6 n9) rfl ?_
      refine go_iconst td_X11_spot 31 rfl (q := 81) rfl kc_m1 ?_
      exact go_iret td_X11_spot 32 rfl rfl rfl
    · refine go_iconst td_X11_spot 9 rfl (q := 20) rfl kc_m1 ?_
      exact go_iret td_X11_spot 10 rfl rfl rfl
def fA_Plan_hasCell (a1 : Int32) (a2 : Int32) (g : G) : Option (Int32) := (if a1 < 0 then some 0 else (if (g.1 300) ≤ a1 then some 0 else (if a2 < 0 then some 0 else (if (g.1 301) ≤ a2 then some 0 else some 1))))
set_option maxRecDepth 20000 in
set_option maxHeartbeats 4000000 in
theorem ok_fA_Plan_hasCell (E : Ev) (a1 : Int32) (a2 : Int32) (g : G)  : Ct (wCA E) yX4_hasCell mi_X4_hasCell [.ref (E.1 3), .int a1, .int a2] (fun r => (some (.int r), g)) g (fA_Plan_hasCell a1 a2 g) := by
  refine go_enter rfl rfl (Nat.le_of_ble_eq_true rfl) (lv := [(0, .ref (E.1 3)), (1, .int a1), (2, .int a2)]) rfl ?_
  unfold fA_Plan_hasCell
  refine go_iload_n td_X4_hasCell 0 rfl (q := 1) rfl 1 rfl ?_
  refine go_if_lt 28 td_X4_hasCell 1 rfl rfl (q := 4) rfl (fun _ => ?_) (fun _ => ?_)
  · refine go_iconst td_X4_hasCell 14 rfl (q := 29) rfl kc_0 ?_
    exact go_zret td_X4_hasCell 15 rfl rfl rfl rfl
  · refine go_iload_n td_X4_hasCell 2 rfl (q := 5) rfl 1 rfl ?_
    refine go_aload_n td_X4_hasCell 3 rfl (q := 6) rfl 0 rfl ?_
    refine go_get td_X4_hasCell 4 rfl (q := 9) rfl fl_X4_9 (Ac_3 E g) rfl ?_
    refine go_icmp_ge 28 td_X4_hasCell 5 rfl rfl (q := 12) rfl (fun _ => ?_) (fun _ => ?_)
    · refine go_iconst td_X4_hasCell 14 rfl (q := 29) rfl kc_0 ?_
      exact go_zret td_X4_hasCell 15 rfl rfl rfl rfl
    · refine go_iload_n td_X4_hasCell 6 rfl (q := 13) rfl 2 rfl ?_
      refine go_if_lt 28 td_X4_hasCell 7 rfl rfl (q := 16) rfl (fun _ => ?_) (fun _ => ?_)
      · refine go_iconst td_X4_hasCell 14 rfl (q := 29) rfl kc_0 ?_
        exact go_zret td_X4_hasCell 15 rfl rfl rfl rfl
      · refine go_iload_n td_X4_hasCell 8 rfl (q := 17) rfl 2 rfl ?_
        refine go_aload_n td_X4_hasCell 9 rfl (q := 18) rfl 0 rfl ?_
        refine go_get td_X4_hasCell 10 rfl (q := 21) rfl fl_X4_15 (Ac_3 E g) rfl ?_
        refine go_icmp_ge 28 td_X4_hasCell 11 rfl rfl (q := 24) rfl (fun _ => ?_) (fun _ => ?_)
        · refine go_iconst td_X4_hasCell 14 rfl (q := 29) rfl kc_0 ?_
          exact go_zret td_X4_hasCell 15 rfl rfl rfl rfl
        · refine go_iconst td_X4_hasCell 12 rfl (q := 25) rfl kc_1 ?_
          refine go_goto td_X4_hasCell 13 rfl (q := 29) rfl ?_
          exact go_zret td_X4_hasCell 15 rfl rfl rfl rfl
def fA_D_sees (a1 : Int32) (a2 : Int32) (a3 : Int32) (a4 : Int32) (g : G) : Option (Int32 × G) := Option.bind (fA_Plan_hasCraft a1 g) fun x1 => (if x1 = 0 then some ((-1), g) else Option.bind (fA_D_isTick a2 g) fun x2 => (if x2 = 0 then some ((-1), g) else Option.bind (fA_Plan_hasCell a3 a4 g) fun x3 => (if x3 = 0 then some ((-1), g) else Option.bind (fA_D_look g) fun x4 => Option.bind (fA_D_inCycle a2 x4) fun x5 => Option.bind (fA_Sky_whoSees (((1 : Int32) <<< (a1 &&& 31)) &&& (x4.1 2700)) x5 a3 a4 x4) fun x6 => (if x6 = 0 then some (0, x4) else some (1, x4)))))
set_option maxRecDepth 20000 in
set_option maxHeartbeats 4000000 in
theorem ok_fA_D_sees (E : Ev) (a1 : Int32) (a2 : Int32) (a3 : Int32) (a4 : Int32) (g : G)  : Ct (wCA E) yX11_sees mi_X11_sees [.ref (E.1 0), .int a1, .int a2, .int a3, .int a4] (fun r => (some (.int r.1), r.2)) g (fA_D_sees a1 a2 a3 a4 g) := by
  refine go_enter rfl rfl (Nat.le_of_ble_eq_true rfl) (lv := [(0, .ref (E.1 0)), (1, .int a1), (2, .int a2), (3, .int a3), (4, .int a4)]) rfl ?_
  unfold fA_D_sees
  refine go_aload_n td_X11_sees 0 rfl (q := 1) rfl 0 rfl ?_
  refine go_get td_X11_sees 1 rfl (q := 4) rfl fl_X11_19 (Ac_0 E g) rfl ?_
  refine go_iload_n td_X11_sees 2 rfl (q := 5) rfl 1 rfl ?_
  refine go_callV td_X11_sees 3 rfl (q := 8) rfl (XkA E) lk_X11_211 (ok_fA_Plan_hasCraft E a1 g) ⟨rfl, rfl, Nat.le_of_ble_eq_true rfl, Nat.le_of_ble_eq_true rfl⟩ rfl rfl (Nat.le_of_ble_eq_true rfl) (Ac_3 E g) rfl (fun x1 => ?_)
  show Go (wCA E) _ _ g 8 _ [.int x1] _
  refine go_if_eq 32 td_X11_sees 4 rfl rfl (q := 11) rfl (fun _ => ?_) (fun _ => ?_)
  · refine go_iconst td_X11_sees 15 rfl (q := 33) rfl kc_m1 ?_
    exact go_iret td_X11_sees 16 rfl rfl rfl
  · refine go_aload_n td_X11_sees 5 rfl (q := 12) rfl 0 rfl ?_
    refine go_iload_n td_X11_sees 6 rfl (q := 13) rfl 2 rfl ?_
    refine go_callV td_X11_sees 7 rfl (q := 16) rfl (XkA E) lk_X11_266 (ok_fA_D_isTick E a2 g) ⟨rfl, rfl, Nat.le_of_ble_eq_true rfl, Nat.le_of_ble_eq_true rfl⟩ rfl rfl (Nat.le_of_ble_eq_true rfl) (Ac_0 E g) rfl (fun x2 => ?_)
    show Go (wCA E) _ _ g 16 _ [.int x2] _
    refine go_if_eq 32 td_X11_sees 8 rfl rfl (q := 19) rfl (fun _ => ?_) (fun _ => ?_)
    · refine go_iconst td_X11_sees 15 rfl (q := 33) rfl kc_m1 ?_
      exact go_iret td_X11_sees 16 rfl rfl rfl
    · refine go_aload_n td_X11_sees 9 rfl (q := 20) rfl 0 rfl ?_
      refine go_get td_X11_sees 10 rfl (q := 23) rfl fl_X11_19 (Ac_0 E g) rfl ?_
      refine go_iload_n td_X11_sees 11 rfl (q := 24) rfl 3 rfl ?_
      refine go_iload td_X11_sees 12 rfl (q := 26) rfl 4 rfl ?_
      refine go_callV td_X11_sees 13 rfl (q := 29) rfl (XkA E) lk_X11_278 (ok_fA_Plan_hasCell E a3 a4 g) ⟨rfl, rfl, Nat.le_of_ble_eq_true rfl, Nat.le_of_ble_eq_true rfl⟩ rfl rfl (Nat.le_of_ble_eq_true rfl) (Ac_3 E g) rfl (fun x3 => ?_)
      show Go (wCA E) _ _ g 29 _ [.int x3] _
      refine go_if_ne 34 td_X11_sees 14 rfl rfl (q := 32) rfl (fun _ => ?_) (fun _ => ?_)
      · refine go_aload_n td_X11_sees 17 rfl (q := 35) rfl 0 rfl ?_
        refine go_callV td_X11_sees 18 rfl (q := 38) rfl (XkA E) lk_X11_247 (ok_fA_D_look E g) ⟨rfl, rfl, Nat.le_of_ble_eq_true rfl, Nat.le_of_ble_eq_true rfl⟩ rfl rfl (Nat.le_of_ble_eq_true rfl) (Ac_0 E g) rfl (fun x4 => ?_)
        show Go (wCA E) _ _ x4 38 _ [] _
        refine go_aload_n td_X11_sees 19 rfl (q := 39) rfl 0 rfl ?_
        refine go_get td_X11_sees 20 rfl (q := 42) rfl fl_X11_57 (Ac_0 E x4) rfl ?_
        refine go_iconst td_X11_sees 21 rfl (q := 43) rfl kc_1 ?_
        refine go_iload_n td_X11_sees 22 rfl (q := 44) rfl 1 rfl ?_
        refine go_ishl td_X11_sees 23 rfl (q := 45) rfl ?_
        refine go_aload_n td_X11_sees 24 rfl (q := 46) rfl 0 rfl ?_
        refine go_get td_X11_sees 25 rfl (q := 49) rfl fl_X11_29 (Ac_0 E x4) rfl ?_
        refine go_get td_X11_sees 26 rfl (q := 52) rfl fl_X11_178 (Ac_27 E x4) rfl ?_
        refine go_iand td_X11_sees 27 rfl (q := 53) rfl ?_
        refine go_aload_n td_X11_sees 28 rfl (q := 54) rfl 0 rfl ?_
        refine go_iload_n td_X11_sees 29 rfl (q := 55) rfl 2 rfl ?_
        refine go_callV td_X11_sees 30 rfl (q := 58) rfl (XkA E) lk_X11_269 (ok_fA_D_inCycle E a2 x4) ⟨rfl, rfl, Nat.le_of_ble_eq_true rfl, Nat.le_of_ble_eq_true rfl⟩ rfl rfl (Nat.le_of_ble_eq_true rfl) (Ac_0 E x4) rfl (fun x5 => ?_)
        show Go (wCA E) _ _ x4 58 _ [.int x5, .int (((1 : Int32) <<< (a1 &&& 31)) &&& (x4.1 2700)), .ref (E.1 118)] _
        refine go_iload_n td_X11_sees 31 rfl (q := 59) rfl 3 rfl ?_
        refine go_iload td_X11_sees 32 rfl (q := 61) rfl 4 rfl ?_
        refine go_callV td_X11_sees 33 rfl (q := 64) rfl (XkA E) lk_X11_282 (ok_fA_Sky_whoSees E (((1 : Int32) <<< (a1 &&& 31)) &&& (x4.1 2700)) x5 a3 a4 x4) ⟨rfl, rfl, Nat.le_of_ble_eq_true rfl, Nat.le_of_ble_eq_true rfl⟩ rfl rfl (Nat.le_of_ble_eq_true rfl) (Ac_118 E x4) rfl (fun x6 => ?_)
        show Go (wCA E) _ _ x4 64 _ [.int x6] _
        refine go_if_eq 71 td_X11_sees 34 rfl rfl (q := 67) rfl (fun _ => ?_) (fun _ => ?_)
        · refine go_iconst td_X11_sees 37 rfl (q := 72) rfl kc_0 ?_
          exact go_iret td_X11_sees 38 rfl rfl rfl
        · refine go_iconst td_X11_sees 35 rfl (q := 68) rfl kc_1 ?_
          refine go_goto td_X11_sees 36 rfl (q := 72) rfl ?_
          exact go_iret td_X11_sees 38 rfl rfl rfl
      · refine go_iconst td_X11_sees 15 rfl (q := 33) rfl kc_m1 ?_
        exact go_iret td_X11_sees 16 rfl rfl rfl
def fA_D_seen (a1 : Int32) (a2 : Int32) (a3 : Int32) (g : G) : Option (Int32 × G) := Option.bind (fA_D_isTick a1 g) fun x1 => (if x1 = 0 then some ((-1), g) else Option.bind (fA_Plan_hasCell a2 a3 g) fun x2 => (if x2 = 0 then some ((-1), g) else Option.bind (fA_D_look g) fun x3 => Option.bind (fA_D_inCycle a1 x3) fun x4 => Option.bind (fA_Sky_whoSees (x3.1 2700) x4 a2 a3 x3) fun x5 => Option.bind (fA_Integer_bitCount x5 x3) fun x6 => some (x6, x3)))
set_option maxRecDepth 20000 in
set_option maxHeartbeats 4000000 in
theorem ok_fA_D_seen (E : Ev) (a1 : Int32) (a2 : Int32) (a3 : Int32) (g : G)  : Ct (wCA E) yX11_seen mi_X11_seen [.ref (E.1 0), .int a1, .int a2, .int a3] (fun r => (some (.int r.1), r.2)) g (fA_D_seen a1 a2 a3 g) := by
  refine go_enter rfl rfl (Nat.le_of_ble_eq_true rfl) (lv := [(0, .ref (E.1 0)), (1, .int a1), (2, .int a2), (3, .int a3)]) rfl ?_
  unfold fA_D_seen
  refine go_aload_n td_X11_seen 0 rfl (q := 1) rfl 0 rfl ?_
  refine go_iload_n td_X11_seen 1 rfl (q := 2) rfl 1 rfl ?_
  refine go_callV td_X11_seen 2 rfl (q := 5) rfl (XkA E) lk_X11_266 (ok_fA_D_isTick E a1 g) ⟨rfl, rfl, Nat.le_of_ble_eq_true rfl, Nat.le_of_ble_eq_true rfl⟩ rfl rfl (Nat.le_of_ble_eq_true rfl) (Ac_0 E g) rfl (fun x1 => ?_)
  show Go (wCA E) _ _ g 5 _ [.int x1] _
  refine go_if_eq 20 td_X11_seen 3 rfl rfl (q := 8) rfl (fun _ => ?_) (fun _ => ?_)
  · refine go_iconst td_X11_seen 10 rfl (q := 21) rfl kc_m1 ?_
    exact go_iret td_X11_seen 11 rfl rfl rfl
  · refine go_aload_n td_X11_seen 4 rfl (q := 9) rfl 0 rfl ?_
    refine go_get td_X11_seen 5 rfl (q := 12) rfl fl_X11_19 (Ac_0 E g) rfl ?_
    refine go_iload_n td_X11_seen 6 rfl (q := 13) rfl 2 rfl ?_
    refine go_iload_n td_X11_seen 7 rfl (q := 14) rfl 3 rfl ?_
    refine go_callV td_X11_seen 8 rfl (q := 17) rfl (XkA E) lk_X11_278 (ok_fA_Plan_hasCell E a2 a3 g) ⟨rfl, rfl, Nat.le_of_ble_eq_true rfl, Nat.le_of_ble_eq_true rfl⟩ rfl rfl (Nat.le_of_ble_eq_true rfl) (Ac_3 E g) rfl (fun x2 => ?_)
    show Go (wCA E) _ _ g 17 _ [.int x2] _
    refine go_if_ne 22 td_X11_seen 9 rfl rfl (q := 20) rfl (fun _ => ?_) (fun _ => ?_)
    · refine go_aload_n td_X11_seen 12 rfl (q := 23) rfl 0 rfl ?_
      refine go_callV td_X11_seen 13 rfl (q := 26) rfl (XkA E) lk_X11_247 (ok_fA_D_look E g) ⟨rfl, rfl, Nat.le_of_ble_eq_true rfl, Nat.le_of_ble_eq_true rfl⟩ rfl rfl (Nat.le_of_ble_eq_true rfl) (Ac_0 E g) rfl (fun x3 => ?_)
      show Go (wCA E) _ _ x3 26 _ [] _
      refine go_aload_n td_X11_seen 14 rfl (q := 27) rfl 0 rfl ?_
      refine go_get td_X11_seen 15 rfl (q := 30) rfl fl_X11_57 (Ac_0 E x3) rfl ?_
      refine go_aload_n td_X11_seen 16 rfl (q := 31) rfl 0 rfl ?_
      refine go_get td_X11_seen 17 rfl (q := 34) rfl fl_X11_29 (Ac_0 E x3) rfl ?_
      refine go_get td_X11_seen 18 rfl (q := 37) rfl fl_X11_178 (Ac_27 E x3) rfl ?_
      refine go_aload_n td_X11_seen 19 rfl (q := 38) rfl 0 rfl ?_
      refine go_iload_n td_X11_seen 20 rfl (q := 39) rfl 1 rfl ?_
      refine go_callV td_X11_seen 21 rfl (q := 42) rfl (XkA E) lk_X11_269 (ok_fA_D_inCycle E a1 x3) ⟨rfl, rfl, Nat.le_of_ble_eq_true rfl, Nat.le_of_ble_eq_true rfl⟩ rfl rfl (Nat.le_of_ble_eq_true rfl) (Ac_0 E x3) rfl (fun x4 => ?_)
      show Go (wCA E) _ _ x3 42 _ [.int x4, .int (x3.1 2700), .ref (E.1 118)] _
      refine go_iload_n td_X11_seen 22 rfl (q := 43) rfl 2 rfl ?_
      refine go_iload_n td_X11_seen 23 rfl (q := 44) rfl 3 rfl ?_
      refine go_callV td_X11_seen 24 rfl (q := 47) rfl (XkA E) lk_X11_282 (ok_fA_Sky_whoSees E (x3.1 2700) x4 a2 a3 x3) ⟨rfl, rfl, Nat.le_of_ble_eq_true rfl, Nat.le_of_ble_eq_true rfl⟩ rfl rfl (Nat.le_of_ble_eq_true rfl) (Ac_118 E x3) rfl (fun x5 => ?_)
      show Go (wCA E) _ _ x3 47 _ [.int x5] _
      refine go_callS td_X11_seen 25 rfl (q := 50) rfl (XkA E) lk_X11_181 (ok_fA_Integer_bitCount E x5 x3) ⟨rfl, rfl, Nat.le_of_ble_eq_true rfl, Nat.le_of_ble_eq_true rfl⟩ rfl rfl (Nat.le_of_ble_eq_true rfl) (fun x6 => ?_)
      show Go (wCA E) _ _ x3 50 _ [.int x6] _
      exact go_iret td_X11_seen 26 rfl rfl rfl
    · refine go_iconst td_X11_seen 10 rfl (q := 21) rfl kc_m1 ?_
      exact go_iret td_X11_seen 11 rfl rfl rfl
def fA_D_width (a1 : Int32) (g : G) : Option (Int32) := (if a1 < 0 then some (-1) else (if (g.1 301) ≤ a1 then some (-1) else ag 12 (g.2.1 4) a1 fun x1 => some x1))
set_option maxRecDepth 20000 in
set_option maxHeartbeats 4000000 in
theorem ok_fA_D_width (E : Ev) (a1 : Int32) (g : G)  : Ct (wCA E) yX11_width mi_X11_width [.ref (E.1 0), .int a1] (fun r => (some (.int r), g)) g (fA_D_width a1 g) := by
  refine go_enter rfl rfl (Nat.le_of_ble_eq_true rfl) (lv := [(0, .ref (E.1 0)), (1, .int a1)]) rfl ?_
  unfold fA_D_width
  refine go_iload_n td_X11_width 0 rfl (q := 1) rfl 1 rfl ?_
  refine go_if_lt 27 td_X11_width 1 rfl rfl (q := 4) rfl (fun _ => ?_) (fun _ => ?_)
  · refine go_iconst td_X11_width 13 rfl (q := 28) rfl kc_m1 ?_
    exact go_iret td_X11_width 14 rfl rfl rfl
  · refine go_iload_n td_X11_width 2 rfl (q := 5) rfl 1 rfl ?_
    refine go_aload_n td_X11_width 3 rfl (q := 6) rfl 0 rfl ?_
    refine go_get td_X11_width 4 rfl (q := 9) rfl fl_X11_19 (Ac_0 E g) rfl ?_
    refine go_get td_X11_width 5 rfl (q := 12) rfl fl_X11_166 (Ac_3 E g) rfl ?_
    refine go_icmp_ge 27 td_X11_width 6 rfl rfl (q := 15) rfl (fun _ => ?_) (fun _ => ?_)
    · refine go_iconst td_X11_width 13 rfl (q := 28) rfl kc_m1 ?_
      exact go_iret td_X11_width 14 rfl rfl rfl
    · refine go_aload_n td_X11_width 7 rfl (q := 16) rfl 0 rfl ?_
      refine go_get td_X11_width 8 rfl (q := 19) rfl fl_X11_19 (Ac_0 E g) rfl ?_
      refine go_get td_X11_width 9 rfl (q := 22) rfl fl_X11_286 (Ac_3 E g) rfl ?_
      refine go_iload_n td_X11_width 10 rfl (q := 23) rfl 1 rfl ?_
      refine go_ald td_X11_width 11 rfl (q := 24) rfl (Ac_4 E g) (t0 := 0) rfl (fun x1 => ?_)
      refine go_goto td_X11_width 12 rfl (q := 28) rfl ?_
      exact go_iret td_X11_width 14 rfl rfl rfl
def fA_D_passKinds (a1 : Int32) (g : G) : Option (Int32) := (if a1 = (-1) then some (((1 : Int32) <<< ((g.1 306) &&& 31)) - 1) else some ((1 : Int32) <<< (a1 &&& 31)))
set_option maxRecDepth 20000 in
set_option maxHeartbeats 4000000 in
theorem ok_fA_D_passKinds (E : Ev) (a1 : Int32) (g : G)  : Ct (wCA E) yX11_passKinds mi_X11_passKinds [.ref (E.1 0), .int a1] (fun r => (some (.int r), g)) g (fA_D_passKinds a1 g) := by
  refine go_enter rfl rfl (Nat.le_of_ble_eq_true rfl) (lv := [(0, .ref (E.1 0)), (1, .int a1)]) rfl ?_
  unfold fA_D_passKinds
  refine go_iload_n td_X11_passKinds 0 rfl (q := 1) rfl 1 rfl ?_
  refine go_iconst td_X11_passKinds 1 rfl (q := 2) rfl kc_m1 ?_
  refine go_icmp_ne 19 td_X11_passKinds 2 rfl rfl (q := 5) rfl (fun _ => ?_) (fun _ => ?_)
  · refine go_iconst td_X11_passKinds 11 rfl (q := 20) rfl kc_1 ?_
    refine go_iload_n td_X11_passKinds 12 rfl (q := 21) rfl 1 rfl ?_
    refine go_ishl td_X11_passKinds 13 rfl (q := 22) rfl ?_
    exact go_iret td_X11_passKinds 14 rfl rfl rfl
  · refine go_iconst td_X11_passKinds 3 rfl (q := 6) rfl kc_1 ?_
    refine go_aload_n td_X11_passKinds 4 rfl (q := 7) rfl 0 rfl ?_
    refine go_get td_X11_passKinds 5 rfl (q := 10) rfl fl_X11_19 (Ac_0 E g) rfl ?_
    refine go_get td_X11_passKinds 6 rfl (q := 13) rfl fl_X11_175 (Ac_3 E g) rfl ?_
    refine go_ishl td_X11_passKinds 7 rfl (q := 14) rfl ?_
    refine go_iconst td_X11_passKinds 8 rfl (q := 15) rfl kc_1 ?_
    refine go_isub td_X11_passKinds 9 rfl (q := 16) rfl ?_
    refine go_goto td_X11_passKinds 10 rfl (q := 22) rfl ?_
    exact go_iret td_X11_passKinds 14 rfl rfl rfl
def fA_Strip_countRuns (a1 : Int32) (g : G) : Option (Int32) := Lp (α := Int32 × Int32) (fun rec1 s1 => (if (g.1 13003) ≤ s1.2 then some s1.1 else Lp (α := Int32 × Int32) (fun rec2 s2 => (if 8 < s2.2 then rec1 (s2.1, s1.2 + 1) else lj (α := Int32) (fun b3 => rec2 (b3, s2.2 + 1)) fun J3 => (if ((a1 >>> (s2.2 &&& 31)) &&& 1) = 0 then J3 s2.1 else Option.bind (fA_Strip_begins s2.2 s1.2 g) fun x4 => (if x4 = 0 then J3 s2.1 else J3 (s2.1 + 1))))) FU (s1.1, 0))) FU (0, 0)
set_option maxRecDepth 20000 in
set_option maxHeartbeats 4000000 in
theorem ok_fA_Strip_countRuns (E : Ev) (a1 : Int32) (g : G)  : Ct (wCA E) yX7_countRuns mi_X7_countRuns [.ref (E.1 130), .int a1] (fun r => (some (.int r), g)) g (fA_Strip_countRuns a1 g) := by
  refine go_enter rfl rfl (Nat.le_of_ble_eq_true rfl) (lv := [(0, .ref (E.1 130)), (1, .int a1)]) rfl ?_
  unfold fA_Strip_countRuns
  refine go_iconst td_X7_countRuns 0 rfl (q := 1) rfl kc_0 ?_
  refine go_istore_n [(2, .int 0), (0, .ref (E.1 130)), (1, .int a1)] td_X7_countRuns 1 rfl (q := 2) rfl (Nat.le_of_ble_eq_true rfl) rfl ?_
  refine go_iconst td_X7_countRuns 2 rfl (q := 3) rfl kc_0 ?_
  refine go_istore_n [(3, .int 0), (2, .int 0), (0, .ref (E.1 130)), (1, .int a1)] td_X7_countRuns 3 rfl (q := 4) rfl (Nat.le_of_ble_eq_true rfl) rfl ?_
  refine go_pick [2, 3, 1, 0] (lv' := [(0, .ref (E.1 130)), (1, .int a1), (2, .int 0), (3, .int 0)]) rfl ?_
  refine (show ∀ (u1_0 : Int32) (u1_1 : Int32), Go (wCA E) _ _ g 4 [(0, .ref (E.1 130)), (1, .int a1), (2, .int u1_0), (3, .int u1_1)] [] (Lp (α := Int32 × Int32) _ FU (u1_0, u1_1)) from ?_) 0 0
  intro u1_0 u1_1
  refine go_Lp (α := Int32 × Int32) (fun s1 => g) (fun s1 => [(0, .ref (E.1 130)), (1, .int a1), (2, .int s1.1), (3, .int s1.2)]) ?_ FU (u1_0, u1_1)
  intro rec1 hrec1 s1
  have krec1 : ∀ (u1_0 : Int32) (u1_1 : Int32), Go (wCA E) _ _ g 4 [(0, .ref (E.1 130)), (1, .int a1), (2, .int u1_0), (3, .int u1_1)] [] (rec1 (u1_0, u1_1)) := fun u1_0 u1_1 => hrec1 (u1_0, u1_1)
  refine go_iload_n td_X7_countRuns 4 rfl (q := 5) rfl 3 rfl ?_
  refine go_aload_n td_X7_countRuns 5 rfl (q := 6) rfl 0 rfl ?_
  refine go_get td_X7_countRuns 6 rfl (q := 9) rfl fl_X7_21 (Ac_130 E g) rfl ?_
  refine go_icmp_ge 56 td_X7_countRuns 7 rfl rfl (q := 12) rfl (fun _ => ?_) (fun _ => ?_)
  · refine go_iload_n td_X7_countRuns 29 rfl (q := 57) rfl 2 rfl ?_
    exact go_iret td_X7_countRuns 30 rfl rfl rfl
  · refine go_iconst td_X7_countRuns 8 rfl (q := 13) rfl kc_0 ?_
    refine go_istore [(4, .int 0), (0, .ref (E.1 130)), (1, .int a1), (2, .int s1.1), (3, .int s1.2)] td_X7_countRuns 9 rfl (q := 15) rfl (Nat.le_of_ble_eq_true rfl) rfl ?_
    refine go_pick [1, 2, 3, 4, 0] (lv' := [(0, .ref (E.1 130)), (1, .int a1), (2, .int s1.1), (3, .int s1.2), (4, .int 0)]) rfl ?_
    refine (show ∀ (u2_0 : Int32) (u2_1 : Int32), Go (wCA E) _ _ g 15 [(0, .ref (E.1 130)), (1, .int a1), (2, .int u2_0), (3, .int s1.2), (4, .int u2_1)] [] (Lp (α := Int32 × Int32) _ FU (u2_0, u2_1)) from ?_) s1.1 0
    intro u2_0 u2_1
    refine go_Lp (α := Int32 × Int32) (fun s2 => g) (fun s2 => [(0, .ref (E.1 130)), (1, .int a1), (2, .int s2.1), (3, .int s1.2), (4, .int s2.2)]) ?_ FU (u2_0, u2_1)
    intro rec2 hrec2 s2
    have krec2 : ∀ (u2_0 : Int32) (u2_1 : Int32), Go (wCA E) _ _ g 15 [(0, .ref (E.1 130)), (1, .int a1), (2, .int u2_0), (3, .int s1.2), (4, .int u2_1)] [] (rec2 (u2_0, u2_1)) := fun u2_0 u2_1 => hrec2 (u2_0, u2_1)
    refine go_iload td_X7_countRuns 10 rfl (q := 17) rfl 4 rfl ?_
    refine go_bipush td_X7_countRuns 11 rfl (q := 19) rfl kb_8 ?_
    refine go_icmp_gt 50 td_X7_countRuns 12 rfl rfl (q := 22) rfl (fun _ => ?_) (fun _ => ?_)
    · refine go_iinc [(3, .int (s1.2 + 1)), (0, .ref (E.1 130)), (1, .int a1), (2, .int s2.1), (4, .int s2.2)] td_X7_countRuns 27 rfl (q := 53) rfl 3 rfl kc_1 (Nat.le_of_ble_eq_true rfl) rfl ?_
      refine go_goto td_X7_countRuns 28 rfl (q := 4) rfl ?_
      refine go_pick [1, 2, 3, 0] (lv' := [(0, .ref (E.1 130)), (1, .int a1), (2, .int s2.1), (3, .int (s1.2 + 1))]) rfl ?_
      exact krec1 s2.1 (s1.2 + 1)
    · refine go_iload_n td_X7_countRuns 13 rfl (q := 23) rfl 1 rfl ?_
      refine go_iload td_X7_countRuns 14 rfl (q := 25) rfl 4 rfl ?_
      refine go_ishr td_X7_countRuns 15 rfl (q := 26) rfl ?_
      refine go_iconst td_X7_countRuns 16 rfl (q := 27) rfl kc_1 ?_
      refine go_iand td_X7_countRuns 17 rfl (q := 28) rfl ?_
      refine go_ljX (α := Int32) (fun b3 => [(0, .ref (E.1 130)), (1, .int a1), (2, .int b3), (3, .int s1.2), (4, .int s2.2)]) (fun b3 => []) (fun b3 => g) 44 ?_ ?_
      · intro b3
        refine go_iinc [(4, .int (s2.2 + 1)), (0, .ref (E.1 130)), (1, .int a1), (2, .int b3), (3, .int s1.2)] td_X7_countRuns 25 rfl (q := 47) rfl 4 rfl kc_1 (Nat.le_of_ble_eq_true rfl) rfl ?_
        refine go_goto td_X7_countRuns 26 rfl (q := 15) rfl ?_
        refine go_pick [1, 2, 3, 4, 0] (lv' := [(0, .ref (E.1 130)), (1, .int a1), (2, .int b3), (3, .int s1.2), (4, .int (s2.2 + 1))]) rfl ?_
        exact krec2 b3 (s2.2 + 1)
      intro J3 hJ3
      have kJ3 : ∀ (u3_0 : Int32), Go (wCA E) _ _ g 44 [(0, .ref (E.1 130)), (1, .int a1), (2, .int u3_0), (3, .int s1.2), (4, .int s2.2)] [] (J3 u3_0) := fun u3_0 => hJ3 u3_0
      refine go_if_eq 44 td_X7_countRuns 18 rfl rfl (q := 31) rfl (fun _ => ?_) (fun _ => ?_)
      · refine go_pick [0, 1, 2, 3, 4] (lv' := [(0, .ref (E.1 130)), (1, .int a1), (2, .int s2.1), (3, .int s1.2), (4, .int s2.2)]) rfl ?_
        exact kJ3 s2.1
      · refine go_aload_n td_X7_countRuns 19 rfl (q := 32) rfl 0 rfl ?_
        refine go_iload td_X7_countRuns 20 rfl (q := 34) rfl 4 rfl ?_
        refine go_iload_n td_X7_countRuns 21 rfl (q := 35) rfl 3 rfl ?_
        refine go_callV td_X7_countRuns 22 rfl (q := 38) rfl (XkA E) lk_X7_56 (ok_fA_Strip_begins E s2.2 s1.2 g) ⟨rfl, rfl, Nat.le_of_ble_eq_true rfl, Nat.le_of_ble_eq_true rfl⟩ rfl rfl (Nat.le_of_ble_eq_true rfl) (Ac_130 E g) rfl (fun x4 => ?_)
        show Go (wCA E) _ _ g 38 _ [.int x4] _
        refine go_if_eq 44 td_X7_countRuns 23 rfl rfl (q := 41) rfl (fun _ => ?_) (fun _ => ?_)
        · refine go_pick [0, 1, 2, 3, 4] (lv' := [(0, .ref (E.1 130)), (1, .int a1), (2, .int s2.1), (3, .int s1.2), (4, .int s2.2)]) rfl ?_
          exact kJ3 s2.1
        · refine go_iinc [(2, .int (s2.1 + 1)), (0, .ref (E.1 130)), (1, .int a1), (3, .int s1.2), (4, .int s2.2)] td_X7_countRuns 24 rfl (q := 44) rfl 2 rfl kc_1 (Nat.le_of_ble_eq_true rfl) rfl ?_
          refine go_pick [1, 2, 0, 3, 4] (lv' := [(0, .ref (E.1 130)), (1, .int a1), (2, .int (s2.1 + 1)), (3, .int s1.2), (4, .int s2.2)]) rfl ?_
          exact kJ3 (s2.1 + 1)
def fA_D_passes (a1 : Int32) (a2 : Int32) (a3 : Int32) (g : G) : Option (Int32 × G) := Option.bind (fA_Plan_hasCell a1 a2 g) fun x1 => (if x1 = 0 then some ((-1), g) else lj (α := Unit) (fun b2 => Option.bind (fA_D_look g) fun x3 => Option.bind (fA_Strip_lay (x3.1 2700) a1 a2 x3) fun x4 => Option.bind (fA_D_passKinds a3 x4) fun x5 => Option.bind (fA_Strip_countRuns x5 x4) fun x6 => some (x6, x4)) fun J2 => (if a3 = (-1) then J2 () else Option.bind (fA_Plan_hasCraft a3 g) fun x7 => (if x7 = 0 then some ((-1), g) else J2 ())))
set_option maxRecDepth 20000 in
set_option maxHeartbeats 4000000 in
theorem ok_fA_D_passes (E : Ev) (a1 : Int32) (a2 : Int32) (a3 : Int32) (g : G)  : Ct (wCA E) yX11_passes mi_X11_passes [.ref (E.1 0), .int a1, .int a2, .int a3] (fun r => (some (.int r.1), r.2)) g (fA_D_passes a1 a2 a3 g) := by
  refine go_enter rfl rfl (Nat.le_of_ble_eq_true rfl) (lv := [(0, .ref (E.1 0)), (1, .int a1), (2, .int a2), (3, .int a3)]) rfl ?_
  unfold fA_D_passes
  refine go_aload_n td_X11_passes 0 rfl (q := 1) rfl 0 rfl ?_
  refine go_get td_X11_passes 1 rfl (q := 4) rfl fl_X11_19 (Ac_0 E g) rfl ?_
  refine go_iload_n td_X11_passes 2 rfl (q := 5) rfl 1 rfl ?_
  refine go_iload_n td_X11_passes 3 rfl (q := 6) rfl 2 rfl ?_
  refine go_callV td_X11_passes 4 rfl (q := 9) rfl (XkA E) lk_X11_278 (ok_fA_Plan_hasCell E a1 a2 g) ⟨rfl, rfl, Nat.le_of_ble_eq_true rfl, Nat.le_of_ble_eq_true rfl⟩ rfl rfl (Nat.le_of_ble_eq_true rfl) (Ac_3 E g) rfl (fun x1 => ?_)
  show Go (wCA E) _ _ g 9 _ [.int x1] _
  refine go_if_eq 28 td_X11_passes 5 rfl rfl (q := 12) rfl (fun _ => ?_) (fun _ => ?_)
  · refine go_iconst td_X11_passes 14 rfl (q := 29) rfl kc_m1 ?_
    exact go_iret td_X11_passes 15 rfl rfl rfl
  · refine go_iload_n td_X11_passes 6 rfl (q := 13) rfl 3 rfl ?_
    refine go_iconst td_X11_passes 7 rfl (q := 14) rfl kc_m1 ?_
    refine go_ljX (α := Unit) (fun b2 => [(0, .ref (E.1 0)), (1, .int a1), (2, .int a2), (3, .int a3)]) (fun b2 => []) (fun b2 => g) 30 ?_ ?_
    · intro b2
      refine go_aload_n td_X11_passes 16 rfl (q := 31) rfl 0 rfl ?_
      refine go_callV td_X11_passes 17 rfl (q := 34) rfl (XkA E) lk_X11_247 (ok_fA_D_look E g) ⟨rfl, rfl, Nat.le_of_ble_eq_true rfl, Nat.le_of_ble_eq_true rfl⟩ rfl rfl (Nat.le_of_ble_eq_true rfl) (Ac_0 E g) rfl (fun x3 => ?_)
      show Go (wCA E) _ _ x3 34 _ [] _
      refine go_aload_n td_X11_passes 18 rfl (q := 35) rfl 0 rfl ?_
      refine go_get td_X11_passes 19 rfl (q := 38) rfl fl_X11_66 (Ac_0 E x3) rfl ?_
      refine go_aload_n td_X11_passes 20 rfl (q := 39) rfl 0 rfl ?_
      refine go_get td_X11_passes 21 rfl (q := 42) rfl fl_X11_29 (Ac_0 E x3) rfl ?_
      refine go_get td_X11_passes 22 rfl (q := 45) rfl fl_X11_178 (Ac_27 E x3) rfl ?_
      refine go_iload_n td_X11_passes 23 rfl (q := 46) rfl 1 rfl ?_
      refine go_iload_n td_X11_passes 24 rfl (q := 47) rfl 2 rfl ?_
      refine go_callV td_X11_passes 25 rfl (q := 50) rfl (XkA E) lk_X11_289 (ok_fA_Strip_lay E (x3.1 2700) a1 a2 x3) ⟨rfl, rfl, Nat.le_of_ble_eq_true rfl, Nat.le_of_ble_eq_true rfl⟩ rfl rfl (Nat.le_of_ble_eq_true rfl) (Ac_130 E x3) rfl (fun x4 => ?_)
      show Go (wCA E) _ _ x4 50 _ [] _
      refine go_aload_n td_X11_passes 26 rfl (q := 51) rfl 0 rfl ?_
      refine go_get td_X11_passes 27 rfl (q := 54) rfl fl_X11_66 (Ac_0 E x4) rfl ?_
      refine go_aload_n td_X11_passes 28 rfl (q := 55) rfl 0 rfl ?_
      refine go_iload_n td_X11_passes 29 rfl (q := 56) rfl 3 rfl ?_
      refine go_callV td_X11_passes 30 rfl (q := 59) rfl (XkA E) lk_X11_293 (ok_fA_D_passKinds E a3 x4) ⟨rfl, rfl, Nat.le_of_ble_eq_true rfl, Nat.le_of_ble_eq_true rfl⟩ rfl rfl (Nat.le_of_ble_eq_true rfl) (Ac_0 E x4) rfl (fun x5 => ?_)
      show Go (wCA E) _ _ x4 59 _ [.int x5, .ref (E.1 130)] _
      refine go_callV td_X11_passes 31 rfl (q := 62) rfl (XkA E) lk_X11_296 (ok_fA_Strip_countRuns E x5 x4) ⟨rfl, rfl, Nat.le_of_ble_eq_true rfl, Nat.le_of_ble_eq_true rfl⟩ rfl rfl (Nat.le_of_ble_eq_true rfl) (Ac_130 E x4) rfl (fun x6 => ?_)
      show Go (wCA E) _ _ x4 62 _ [.int x6] _
      exact go_iret td_X11_passes 32 rfl rfl rfl
    intro J2 hJ2
    have kJ2 : Go (wCA E) _ _ g 30 [(0, .ref (E.1 0)), (1, .int a1), (2, .int a2), (3, .int a3)] [] (J2 ()) := hJ2 ()
    refine go_icmp_eq 30 td_X11_passes 8 rfl rfl (q := 17) rfl (fun _ => ?_) (fun _ => ?_)
    · refine go_pick [0, 1, 2, 3] (lv' := [(0, .ref (E.1 0)), (1, .int a1), (2, .int a2), (3, .int a3)]) rfl ?_
      exact kJ2 
    · refine go_aload_n td_X11_passes 9 rfl (q := 18) rfl 0 rfl ?_
      refine go_get td_X11_passes 10 rfl (q := 21) rfl fl_X11_19 (Ac_0 E g) rfl ?_
      refine go_iload_n td_X11_passes 11 rfl (q := 22) rfl 3 rfl ?_
      refine go_callV td_X11_passes 12 rfl (q := 25) rfl (XkA E) lk_X11_211 (ok_fA_Plan_hasCraft E a3 g) ⟨rfl, rfl, Nat.le_of_ble_eq_true rfl, Nat.le_of_ble_eq_true rfl⟩ rfl rfl (Nat.le_of_ble_eq_true rfl) (Ac_3 E g) rfl (fun x7 => ?_)
      show Go (wCA E) _ _ g 25 _ [.int x7] _
      refine go_if_ne 30 td_X11_passes 13 rfl rfl (q := 28) rfl (fun _ => ?_) (fun _ => ?_)
      · refine go_pick [0, 1, 2, 3] (lv' := [(0, .ref (E.1 0)), (1, .int a1), (2, .int a2), (3, .int a3)]) rfl ?_
        exact kJ2 
      · refine go_iconst td_X11_passes 14 rfl (q := 29) rfl kc_m1 ?_
        exact go_iret td_X11_passes 15 rfl rfl rfl
def fA_Strip_findRun (a1 : Int32) (a2 : Int32) (g : G) : Option (Int32 × G) := Lp (α := Int32 × Int32) (fun rec1 s1 => (if (g.1 13003) ≤ s1.2 then some (0, g) else (if s1.1 < 0 then some (0, g) else Lp (α := Int32 × Int32) (fun rec2 s2 => (if 8 < s2.2 then rec1 (s2.1, s1.2 + 1) else lj (α := Int32) (fun b3 => rec2 (b3, s2.2 + 1)) fun J3 => (if ((a1 >>> (s2.2 &&& 31)) &&& 1) = 0 then J3 s2.1 else Option.bind (fA_Strip_begins s2.2 s1.2 g) fun x4 => (if x4 = 0 then J3 s2.1 else (if s2.1 = 0 then bv (sS g 13000 s1.2) fun g5 => Option.bind (fA_Strip_lengthFrom s2.2 s1.2 g5) fun x6 => bv (sS g5 13001 x6) fun g7 => bv (sS g7 13002 s2.2) fun g8 => some (1, g8) else J3 (s2.1 + m1)))))) FU (s1.1, 0)))) FU (a2, 0)
set_option maxRecDepth 20000 in
set_option maxHeartbeats 4000000 in
theorem ok_fA_Strip_findRun (E : Ev) (a1 : Int32) (a2 : Int32) (g : G)  : Ct (wCA E) yX7_findRun mi_X7_findRun [.ref (E.1 130), .int a1, .int a2] (fun r => (some (.int r.1), r.2)) g (fA_Strip_findRun a1 a2 g) := by
  refine go_enter rfl rfl (Nat.le_of_ble_eq_true rfl) (lv := [(0, .ref (E.1 130)), (1, .int a1), (2, .int a2)]) rfl ?_
  unfold fA_Strip_findRun
  refine go_iload_n td_X7_findRun 0 rfl (q := 1) rfl 2 rfl ?_
  refine go_istore_n [(3, .int a2), (0, .ref (E.1 130)), (1, .int a1), (2, .int a2)] td_X7_findRun 1 rfl (q := 2) rfl (Nat.le_of_ble_eq_true rfl) rfl ?_
  refine go_iconst td_X7_findRun 2 rfl (q := 3) rfl kc_0 ?_
  refine go_istore [(4, .int 0), (3, .int a2), (0, .ref (E.1 130)), (1, .int a1), (2, .int a2)] td_X7_findRun 3 rfl (q := 5) rfl (Nat.le_of_ble_eq_true rfl) rfl ?_
  refine go_pick [2, 3, 1, 0] (lv' := [(0, .ref (E.1 130)), (1, .int a1), (3, .int a2), (4, .int 0)]) rfl ?_
  refine (show ∀ (u1_0 : Int32) (u1_1 : Int32), Go (wCA E) _ _ g 5 [(0, .ref (E.1 130)), (1, .int a1), (3, .int u1_0), (4, .int u1_1)] [] (Lp (α := Int32 × Int32) _ FU (u1_0, u1_1)) from ?_) a2 0
  intro u1_0 u1_1
  refine go_Lp (α := Int32 × Int32) (fun s1 => g) (fun s1 => [(0, .ref (E.1 130)), (1, .int a1), (3, .int s1.1), (4, .int s1.2)]) ?_ FU (u1_0, u1_1)
  intro rec1 hrec1 s1
  have krec1 : ∀ (u1_0 : Int32) (u1_1 : Int32), Go (wCA E) _ _ g 5 [(0, .ref (E.1 130)), (1, .int a1), (3, .int u1_0), (4, .int u1_1)] [] (rec1 (u1_0, u1_1)) := fun u1_0 u1_1 => hrec1 (u1_0, u1_1)
  refine go_iload td_X7_findRun 4 rfl (q := 7) rfl 3 rfl ?_
  refine go_aload_n td_X7_findRun 5 rfl (q := 8) rfl 0 rfl ?_
  refine go_get td_X7_findRun 6 rfl (q := 11) rfl fl_X7_21 (Ac_130 E g) rfl ?_
  refine go_icmp_ge 93 td_X7_findRun 7 rfl rfl (q := 14) rfl (fun _ => ?_) (fun _ => ?_)
  · refine go_iconst td_X7_findRun 47 rfl (q := 94) rfl kc_0 ?_
    exact go_zret td_X7_findRun 48 rfl rfl rfl rfl
  · refine go_iload_n td_X7_findRun 8 rfl (q := 15) rfl 2 rfl ?_
    refine go_if_lt 93 td_X7_findRun 9 rfl rfl (q := 18) rfl (fun _ => ?_) (fun _ => ?_)
    · refine go_iconst td_X7_findRun 47 rfl (q := 94) rfl kc_0 ?_
      exact go_zret td_X7_findRun 48 rfl rfl rfl rfl
    · refine go_iconst td_X7_findRun 10 rfl (q := 19) rfl kc_0 ?_
      refine go_istore [(5, .int 0), (0, .ref (E.1 130)), (1, .int a1), (3, .int s1.1), (4, .int s1.2)] td_X7_findRun 11 rfl (q := 21) rfl (Nat.le_of_ble_eq_true rfl) rfl ?_
      refine go_pick [1, 2, 3, 4, 0] (lv' := [(0, .ref (E.1 130)), (1, .int a1), (3, .int s1.1), (4, .int s1.2), (5, .int 0)]) rfl ?_
      refine (show ∀ (u2_0 : Int32) (u2_1 : Int32), Go (wCA E) _ _ g 21 [(0, .ref (E.1 130)), (1, .int a1), (3, .int u2_0), (4, .int s1.2), (5, .int u2_1)] [] (Lp (α := Int32 × Int32) _ FU (u2_0, u2_1)) from ?_) s1.1 0
      intro u2_0 u2_1
      refine go_Lp (α := Int32 × Int32) (fun s2 => g) (fun s2 => [(0, .ref (E.1 130)), (1, .int a1), (3, .int s2.1), (4, .int s1.2), (5, .int s2.2)]) ?_ FU (u2_0, u2_1)
      intro rec2 hrec2 s2
      have krec2 : ∀ (u2_0 : Int32) (u2_1 : Int32), Go (wCA E) _ _ g 21 [(0, .ref (E.1 130)), (1, .int a1), (3, .int u2_0), (4, .int s1.2), (5, .int u2_1)] [] (rec2 (u2_0, u2_1)) := fun u2_0 u2_1 => hrec2 (u2_0, u2_1)
      refine go_iload td_X7_findRun 12 rfl (q := 23) rfl 4 rfl ?_
      refine go_bipush td_X7_findRun 13 rfl (q := 25) rfl kb_8 ?_
      refine go_icmp_gt 87 td_X7_findRun 14 rfl rfl (q := 28) rfl (fun _ => ?_) (fun _ => ?_)
      · refine go_iinc [(4, .int (s1.2 + 1)), (0, .ref (E.1 130)), (1, .int a1), (3, .int s2.1), (5, .int s2.2)] td_X7_findRun 45 rfl (q := 90) rfl 3 rfl kc_1 (Nat.le_of_ble_eq_true rfl) rfl ?_
        refine go_goto td_X7_findRun 46 rfl (q := 5) rfl ?_
        refine go_pick [1, 2, 3, 0] (lv' := [(0, .ref (E.1 130)), (1, .int a1), (3, .int s2.1), (4, .int (s1.2 + 1))]) rfl ?_
        exact krec1 s2.1 (s1.2 + 1)
      · refine go_iload_n td_X7_findRun 15 rfl (q := 29) rfl 1 rfl ?_
        refine go_iload td_X7_findRun 16 rfl (q := 31) rfl 4 rfl ?_
        refine go_ishr td_X7_findRun 17 rfl (q := 32) rfl ?_
        refine go_iconst td_X7_findRun 18 rfl (q := 33) rfl kc_1 ?_
        refine go_iand td_X7_findRun 19 rfl (q := 34) rfl ?_
        refine go_ljX (α := Int32) (fun b3 => [(0, .ref (E.1 130)), (1, .int a1), (3, .int b3), (4, .int s1.2), (5, .int s2.2)]) (fun b3 => []) (fun b3 => g) 81 ?_ ?_
        · intro b3
          refine go_iinc [(5, .int (s2.2 + 1)), (0, .ref (E.1 130)), (1, .int a1), (3, .int b3), (4, .int s1.2)] td_X7_findRun 43 rfl (q := 84) rfl 4 rfl kc_1 (Nat.le_of_ble_eq_true rfl) rfl ?_
          refine go_goto td_X7_findRun 44 rfl (q := 21) rfl ?_
          refine go_pick [1, 2, 3, 4, 0] (lv' := [(0, .ref (E.1 130)), (1, .int a1), (3, .int b3), (4, .int s1.2), (5, .int (s2.2 + 1))]) rfl ?_
          exact krec2 b3 (s2.2 + 1)
        intro J3 hJ3
        have kJ3 : ∀ (u3_0 : Int32), Go (wCA E) _ _ g 81 [(0, .ref (E.1 130)), (1, .int a1), (3, .int u3_0), (4, .int s1.2), (5, .int s2.2)] [] (J3 u3_0) := fun u3_0 => hJ3 u3_0
        refine go_if_eq 81 td_X7_findRun 20 rfl rfl (q := 37) rfl (fun _ => ?_) (fun _ => ?_)
        · refine go_pick [0, 1, 2, 3, 4] (lv' := [(0, .ref (E.1 130)), (1, .int a1), (3, .int s2.1), (4, .int s1.2), (5, .int s2.2)]) rfl ?_
          exact kJ3 s2.1
        · refine go_aload_n td_X7_findRun 21 rfl (q := 38) rfl 0 rfl ?_
          refine go_iload td_X7_findRun 22 rfl (q := 40) rfl 4 rfl ?_
          refine go_iload td_X7_findRun 23 rfl (q := 42) rfl 3 rfl ?_
          refine go_callV td_X7_findRun 24 rfl (q := 45) rfl (XkA E) lk_X7_56 (ok_fA_Strip_begins E s2.2 s1.2 g) ⟨rfl, rfl, Nat.le_of_ble_eq_true rfl, Nat.le_of_ble_eq_true rfl⟩ rfl rfl (Nat.le_of_ble_eq_true rfl) (Ac_130 E g) rfl (fun x4 => ?_)
          show Go (wCA E) _ _ g 45 _ [.int x4] _
          refine go_if_eq 81 td_X7_findRun 25 rfl rfl (q := 48) rfl (fun _ => ?_) (fun _ => ?_)
          · refine go_pick [0, 1, 2, 3, 4] (lv' := [(0, .ref (E.1 130)), (1, .int a1), (3, .int s2.1), (4, .int s1.2), (5, .int s2.2)]) rfl ?_
            exact kJ3 s2.1
          · refine go_iload_n td_X7_findRun 26 rfl (q := 49) rfl 2 rfl ?_
            refine go_if_ne 78 td_X7_findRun 27 rfl rfl (q := 52) rfl (fun _ => ?_) (fun _ => ?_)
            · refine go_iinc [(3, .int (s2.1 + m1)), (0, .ref (E.1 130)), (1, .int a1), (4, .int s1.2), (5, .int s2.2)] td_X7_findRun 42 rfl (q := 81) rfl 2 rfl kcm_1 (Nat.le_of_ble_eq_true rfl) rfl ?_
              refine go_pick [1, 2, 0, 3, 4] (lv' := [(0, .ref (E.1 130)), (1, .int a1), (3, .int (s2.1 + m1)), (4, .int s1.2), (5, .int s2.2)]) rfl ?_
              exact kJ3 (s2.1 + m1)
            · refine go_aload_n td_X7_findRun 28 rfl (q := 53) rfl 0 rfl ?_
              refine go_iload td_X7_findRun 29 rfl (q := 55) rfl 3 rfl ?_
              refine go_put td_X7_findRun 30 rfl (q := 58) rfl flp_X7_11 (Ac_130 E g) rfl rfl (Nat.le_of_ble_eq_true rfl) (Aps_13000 E g s1.2) ?_
              refine go_bvg (fun g5 => ?_)
              refine go_aload_n td_X7_findRun 31 rfl (q := 59) rfl 0 rfl ?_
              refine go_aload_n td_X7_findRun 32 rfl (q := 60) rfl 0 rfl ?_
              refine go_iload td_X7_findRun 33 rfl (q := 62) rfl 4 rfl ?_
              refine go_iload td_X7_findRun 34 rfl (q := 64) rfl 3 rfl ?_
              refine go_callV td_X7_findRun 35 rfl (q := 67) rfl (XkA E) lk_X7_49 (ok_fA_Strip_lengthFrom E s2.2 s1.2 g5) ⟨rfl, rfl, Nat.le_of_ble_eq_true rfl, Nat.le_of_ble_eq_true rfl⟩ rfl rfl (Nat.le_of_ble_eq_true rfl) (Ac_130 E g5) rfl (fun x6 => ?_)
              show Go (wCA E) _ _ g5 67 _ [.int x6, .ref (E.1 130)] _
              refine go_put td_X7_findRun 36 rfl (q := 70) rfl flp_X7_15 (Ac_130 E g5) rfl rfl (Nat.le_of_ble_eq_true rfl) (Aps_13001 E g5 x6) ?_
              refine go_bvg (fun g7 => ?_)
              refine go_aload_n td_X7_findRun 37 rfl (q := 71) rfl 0 rfl ?_
              refine go_iload td_X7_findRun 38 rfl (q := 73) rfl 4 rfl ?_
              refine go_put td_X7_findRun 39 rfl (q := 76) rfl flp_X7_18 (Ac_130 E g7) rfl rfl (Nat.le_of_ble_eq_true rfl) (Aps_13002 E g7 s2.2) ?_
              refine go_bvg (fun g8 => ?_)
              refine go_iconst td_X7_findRun 40 rfl (q := 77) rfl kc_1 ?_
              exact go_zret td_X7_findRun 41 rfl rfl rfl rfl
def fA_D_pass (a1 : Int32) (a2 : Int32) (a3 : Int32) (a4 : Int32) (a5 : Int32) (g : G) : Option (Int32 × G) := Option.bind (fA_Plan_hasCell a1 a2 g) fun x1 => (if x1 = 0 then some ((-1), g) else lj (α := Unit) (fun b2 => Option.bind (fA_D_look g) fun x3 => Option.bind (fA_Strip_lay (x3.1 2700) a1 a2 x3) fun x4 => Option.bind (fA_D_passKinds a3 x4) fun x5 => Option.bind (fA_Strip_findRun x5 a4 x4) fun x6 => (if x6.1 = 0 then some ((-1), x6.2) else (if a5 = 0 then some (x6.2.1 13000, x6.2) else if a5 = 1 then some (x6.2.1 13001, x6.2) else if a5 = 2 then some (x6.2.1 13002, x6.2) else some ((-1), x6.2)))) fun J2 => (if a3 = (-1) then J2 () else Option.bind (fA_Plan_hasCraft a3 g) fun x10 => (if x10 = 0 then some ((-1), g) else J2 ())))
set_option maxRecDepth 20000 in
set_option maxHeartbeats 4000000 in
theorem ok_fA_D_pass (E : Ev) (a1 : Int32) (a2 : Int32) (a3 : Int32) (a4 : Int32) (a5 : Int32) (g : G)  : Ct (wCA E) yX11_pass mi_X11_pass [.ref (E.1 0), .int a1, .int a2, .int a3, .int a4, .int a5] (fun r => (some (.int r.1), r.2)) g (fA_D_pass a1 a2 a3 a4 a5 g) := by
  refine go_enter rfl rfl (Nat.le_of_ble_eq_true rfl) (lv := [(0, .ref (E.1 0)), (1, .int a1), (2, .int a2), (3, .int a3), (4, .int a4), (5, .int a5)]) rfl ?_
  unfold fA_D_pass
  refine go_aload_n td_X11_pass 0 rfl (q := 1) rfl 0 rfl ?_
  refine go_get td_X11_pass 1 rfl (q := 4) rfl fl_X11_19 (Ac_0 E g) rfl ?_
  refine go_iload_n td_X11_pass 2 rfl (q := 5) rfl 1 rfl ?_
  refine go_iload_n td_X11_pass 3 rfl (q := 6) rfl 2 rfl ?_
  refine go_callV td_X11_pass 4 rfl (q := 9) rfl (XkA E) lk_X11_278 (ok_fA_Plan_hasCell E a1 a2 g) ⟨rfl, rfl, Nat.le_of_ble_eq_true rfl, Nat.le_of_ble_eq_true rfl⟩ rfl rfl (Nat.le_of_ble_eq_true rfl) (Ac_3 E g) rfl (fun x1 => ?_)
  show Go (wCA E) _ _ g 9 _ [.int x1] _
  refine go_if_eq 28 td_X11_pass 5 rfl rfl (q := 12) rfl (fun _ => ?_) (fun _ => ?_)
  · refine go_iconst td_X11_pass 14 rfl (q := 29) rfl kc_m1 ?_
    exact go_iret td_X11_pass 15 rfl rfl rfl
  · refine go_iload_n td_X11_pass 6 rfl (q := 13) rfl 3 rfl ?_
    refine go_iconst td_X11_pass 7 rfl (q := 14) rfl kc_m1 ?_
    refine go_ljX (α := Unit) (fun b2 => [(0, .ref (E.1 0)), (1, .int a1), (2, .int a2), (3, .int a3), (4, .int a4), (5, .int a5)]) (fun b2 => []) (fun b2 => g) 30 ?_ ?_
    · intro b2
      refine go_aload_n td_X11_pass 16 rfl (q := 31) rfl 0 rfl ?_
      refine go_callV td_X11_pass 17 rfl (q := 34) rfl (XkA E) lk_X11_247 (ok_fA_D_look E g) ⟨rfl, rfl, Nat.le_of_ble_eq_true rfl, Nat.le_of_ble_eq_true rfl⟩ rfl rfl (Nat.le_of_ble_eq_true rfl) (Ac_0 E g) rfl (fun x3 => ?_)
      show Go (wCA E) _ _ x3 34 _ [] _
      refine go_aload_n td_X11_pass 18 rfl (q := 35) rfl 0 rfl ?_
      refine go_get td_X11_pass 19 rfl (q := 38) rfl fl_X11_66 (Ac_0 E x3) rfl ?_
      refine go_aload_n td_X11_pass 20 rfl (q := 39) rfl 0 rfl ?_
      refine go_get td_X11_pass 21 rfl (q := 42) rfl fl_X11_29 (Ac_0 E x3) rfl ?_
      refine go_get td_X11_pass 22 rfl (q := 45) rfl fl_X11_178 (Ac_27 E x3) rfl ?_
      refine go_iload_n td_X11_pass 23 rfl (q := 46) rfl 1 rfl ?_
      refine go_iload_n td_X11_pass 24 rfl (q := 47) rfl 2 rfl ?_
      refine go_callV td_X11_pass 25 rfl (q := 50) rfl (XkA E) lk_X11_289 (ok_fA_Strip_lay E (x3.1 2700) a1 a2 x3) ⟨rfl, rfl, Nat.le_of_ble_eq_true rfl, Nat.le_of_ble_eq_true rfl⟩ rfl rfl (Nat.le_of_ble_eq_true rfl) (Ac_130 E x3) rfl (fun x4 => ?_)
      show Go (wCA E) _ _ x4 50 _ [] _
      refine go_aload_n td_X11_pass 26 rfl (q := 51) rfl 0 rfl ?_
      refine go_get td_X11_pass 27 rfl (q := 54) rfl fl_X11_66 (Ac_0 E x4) rfl ?_
      refine go_aload_n td_X11_pass 28 rfl (q := 55) rfl 0 rfl ?_
      refine go_iload_n td_X11_pass 29 rfl (q := 56) rfl 3 rfl ?_
      refine go_callV td_X11_pass 30 rfl (q := 59) rfl (XkA E) lk_X11_293 (ok_fA_D_passKinds E a3 x4) ⟨rfl, rfl, Nat.le_of_ble_eq_true rfl, Nat.le_of_ble_eq_true rfl⟩ rfl rfl (Nat.le_of_ble_eq_true rfl) (Ac_0 E x4) rfl (fun x5 => ?_)
      show Go (wCA E) _ _ x4 59 _ [.int x5, .ref (E.1 130)] _
      refine go_iload td_X11_pass 31 rfl (q := 61) rfl 4 rfl ?_
      refine go_callV td_X11_pass 32 rfl (q := 64) rfl (XkA E) lk_X11_299 (ok_fA_Strip_findRun E x5 a4 x4) ⟨rfl, rfl, Nat.le_of_ble_eq_true rfl, Nat.le_of_ble_eq_true rfl⟩ rfl rfl (Nat.le_of_ble_eq_true rfl) (Ac_130 E x4) rfl (fun x6 => ?_)
      show Go (wCA E) _ _ x6.2 64 _ [.int x6.1] _
      refine go_if_ne 69 td_X11_pass 33 rfl rfl (q := 67) rfl (fun _ => ?_) (fun _ => ?_)
      · refine go_iload td_X11_pass 36 rfl (q := 71) rfl 5 rfl ?_
        refine go_tcase (v := 0) 96 td_X11_pass 37 rfl ⟨by decide, by decide, rfl, rfl⟩ ?_ (fun n7 => ?_)
        · refine go_aload_n td_X11_pass 38 rfl (q := 97) rfl 0 rfl ?_
          refine go_get td_X11_pass 39 rfl (q := 100) rfl fl_X11_66 (Ac_0 E x6.2) rfl ?_
          refine go_get td_X11_pass 40 rfl (q := 103) rfl fl_X11_302 (Ac_130 E x6.2) rfl ?_
          exact go_iret td_X11_pass 41 rfl rfl rfl
        refine go_tcase (v := 1) 104 td_X11_pass 37 rfl ⟨by decide, by decide, rfl, rfl⟩ ?_ (fun n8 => ?_)
        · refine go_aload_n td_X11_pass 42 rfl (q := 105) rfl 0 rfl ?_
          refine go_get td_X11_pass 43 rfl (q := 108) rfl fl_X11_66 (Ac_0 E x6.2) rfl ?_
          refine go_get td_X11_pass 44 rfl (q := 111) rfl fl_X11_305 (Ac_130 E x6.2) rfl ?_
          exact go_iret td_X11_pass 45 rfl rfl rfl
        refine go_tcase (v := 2) 112 td_X11_pass 37 rfl ⟨by decide, by decide, rfl, rfl⟩ ?_ (fun n9 => ?_)
        · refine go_aload_n td_X11_pass 46 rfl (q := 113) rfl 0 rfl ?_
          refine go_get td_X11_pass 47 rfl (q := 116) rfl fl_X11_66 (Ac_0 E x6.2) rfl ?_
          refine go_get td_X11_pass 48 rfl (q := 119) rfl fl_X11_308 (Ac_130 E x6.2) rfl ?_
          exact go_iret td_X11_pass 49 rfl rfl rfl
        refine go_tdef 120 td_X11_pass 37 rfl (sw_X11_pass_71 n7 n8 n9) rfl ?_
        refine go_iconst td_X11_pass 50 rfl (q := 121) rfl kc_m1 ?_
        exact go_iret td_X11_pass 51 rfl rfl rfl
      · refine go_iconst td_X11_pass 34 rfl (q := 68) rfl kc_m1 ?_
        exact go_iret td_X11_pass 35 rfl rfl rfl
    intro J2 hJ2
    have kJ2 : Go (wCA E) _ _ g 30 [(0, .ref (E.1 0)), (1, .int a1), (2, .int a2), (3, .int a3), (4, .int a4), (5, .int a5)] [] (J2 ()) := hJ2 ()
    refine go_icmp_eq 30 td_X11_pass 8 rfl rfl (q := 17) rfl (fun _ => ?_) (fun _ => ?_)
    · refine go_pick [0, 1, 2, 3, 4, 5] (lv' := [(0, .ref (E.1 0)), (1, .int a1), (2, .int a2), (3, .int a3), (4, .int a4), (5, .int a5)]) rfl ?_
      exact kJ2 
    · refine go_aload_n td_X11_pass 9 rfl (q := 18) rfl 0 rfl ?_
      refine go_get td_X11_pass 10 rfl (q := 21) rfl fl_X11_19 (Ac_0 E g) rfl ?_
      refine go_iload_n td_X11_pass 11 rfl (q := 22) rfl 3 rfl ?_
      refine go_callV td_X11_pass 12 rfl (q := 25) rfl (XkA E) lk_X11_211 (ok_fA_Plan_hasCraft E a3 g) ⟨rfl, rfl, Nat.le_of_ble_eq_true rfl, Nat.le_of_ble_eq_true rfl⟩ rfl rfl (Nat.le_of_ble_eq_true rfl) (Ac_3 E g) rfl (fun x10 => ?_)
      show Go (wCA E) _ _ g 25 _ [.int x10] _
      refine go_if_ne 30 td_X11_pass 13 rfl rfl (q := 28) rfl (fun _ => ?_) (fun _ => ?_)
      · refine go_pick [0, 1, 2, 3, 4, 5] (lv' := [(0, .ref (E.1 0)), (1, .int a1), (2, .int a2), (3, .int a3), (4, .int a4), (5, .int a5)]) rfl ?_
        exact kJ2 
      · refine go_iconst td_X11_pass 14 rfl (q := 29) rfl kc_m1 ?_
        exact go_iret td_X11_pass 15 rfl rfl rfl
def fA_D_gaps (a1 : Int32) (a2 : Int32) (g : G) : Option (Int32 × G) := Option.bind (fA_Plan_hasCell a1 a2 g) fun x1 => (if x1 = 0 then some ((-1), g) else Option.bind (fA_D_look g) fun x2 => Option.bind (fA_Strip_lay (x2.1 2700) a1 a2 x2) fun x3 => Option.bind (fA_Strip_countRuns 256 x3) fun x4 => some (x4, x3))
set_option maxRecDepth 20000 in
set_option maxHeartbeats 4000000 in
theorem ok_fA_D_gaps (E : Ev) (a1 : Int32) (a2 : Int32) (g : G)  : Ct (wCA E) yX11_gaps mi_X11_gaps [.ref (E.1 0), .int a1, .int a2] (fun r => (some (.int r.1), r.2)) g (fA_D_gaps a1 a2 g) := by
  refine go_enter rfl rfl (Nat.le_of_ble_eq_true rfl) (lv := [(0, .ref (E.1 0)), (1, .int a1), (2, .int a2)]) rfl ?_
  unfold fA_D_gaps
  refine go_aload_n td_X11_gaps 0 rfl (q := 1) rfl 0 rfl ?_
  refine go_get td_X11_gaps 1 rfl (q := 4) rfl fl_X11_19 (Ac_0 E g) rfl ?_
  refine go_iload_n td_X11_gaps 2 rfl (q := 5) rfl 1 rfl ?_
  refine go_iload_n td_X11_gaps 3 rfl (q := 6) rfl 2 rfl ?_
  refine go_callV td_X11_gaps 4 rfl (q := 9) rfl (XkA E) lk_X11_278 (ok_fA_Plan_hasCell E a1 a2 g) ⟨rfl, rfl, Nat.le_of_ble_eq_true rfl, Nat.le_of_ble_eq_true rfl⟩ rfl rfl (Nat.le_of_ble_eq_true rfl) (Ac_3 E g) rfl (fun x1 => ?_)
  show Go (wCA E) _ _ g 9 _ [.int x1] _
  refine go_if_ne 14 td_X11_gaps 5 rfl rfl (q := 12) rfl (fun _ => ?_) (fun _ => ?_)
  · refine go_aload_n td_X11_gaps 8 rfl (q := 15) rfl 0 rfl ?_
    refine go_callV td_X11_gaps 9 rfl (q := 18) rfl (XkA E) lk_X11_247 (ok_fA_D_look E g) ⟨rfl, rfl, Nat.le_of_ble_eq_true rfl, Nat.le_of_ble_eq_true rfl⟩ rfl rfl (Nat.le_of_ble_eq_true rfl) (Ac_0 E g) rfl (fun x2 => ?_)
    show Go (wCA E) _ _ x2 18 _ [] _
    refine go_aload_n td_X11_gaps 10 rfl (q := 19) rfl 0 rfl ?_
    refine go_get td_X11_gaps 11 rfl (q := 22) rfl fl_X11_66 (Ac_0 E x2) rfl ?_
    refine go_aload_n td_X11_gaps 12 rfl (q := 23) rfl 0 rfl ?_
    refine go_get td_X11_gaps 13 rfl (q := 26) rfl fl_X11_29 (Ac_0 E x2) rfl ?_
    refine go_get td_X11_gaps 14 rfl (q := 29) rfl fl_X11_178 (Ac_27 E x2) rfl ?_
    refine go_iload_n td_X11_gaps 15 rfl (q := 30) rfl 1 rfl ?_
    refine go_iload_n td_X11_gaps 16 rfl (q := 31) rfl 2 rfl ?_
    refine go_callV td_X11_gaps 17 rfl (q := 34) rfl (XkA E) lk_X11_289 (ok_fA_Strip_lay E (x2.1 2700) a1 a2 x2) ⟨rfl, rfl, Nat.le_of_ble_eq_true rfl, Nat.le_of_ble_eq_true rfl⟩ rfl rfl (Nat.le_of_ble_eq_true rfl) (Ac_130 E x2) rfl (fun x3 => ?_)
    show Go (wCA E) _ _ x3 34 _ [] _
    refine go_aload_n td_X11_gaps 18 rfl (q := 35) rfl 0 rfl ?_
    refine go_get td_X11_gaps 19 rfl (q := 38) rfl fl_X11_66 (Ac_0 E x3) rfl ?_
    refine go_sipush td_X11_gaps 20 rfl (q := 41) rfl ks_256 ?_
    refine go_callV td_X11_gaps 21 rfl (q := 44) rfl (XkA E) lk_X11_296 (ok_fA_Strip_countRuns E 256 x3) ⟨rfl, rfl, Nat.le_of_ble_eq_true rfl, Nat.le_of_ble_eq_true rfl⟩ rfl rfl (Nat.le_of_ble_eq_true rfl) (Ac_130 E x3) rfl (fun x4 => ?_)
    show Go (wCA E) _ _ x3 44 _ [.int x4] _
    exact go_iret td_X11_gaps 22 rfl rfl rfl
  · refine go_iconst td_X11_gaps 6 rfl (q := 13) rfl kc_m1 ?_
    exact go_iret td_X11_gaps 7 rfl rfl rfl
def fA_D_gap (a1 : Int32) (a2 : Int32) (a3 : Int32) (a4 : Int32) (g : G) : Option (Int32 × G) := Option.bind (fA_Plan_hasCell a1 a2 g) fun x1 => (if x1 = 0 then some ((-1), g) else Option.bind (fA_D_look g) fun x2 => Option.bind (fA_Strip_lay (x2.1 2700) a1 a2 x2) fun x3 => Option.bind (fA_Strip_findRun 256 a3 x3) fun x4 => (if x4.1 = 0 then some ((-1), x4.2) else (if a4 = 0 then some (x4.2.1 13000, x4.2) else if a4 = 1 then some (x4.2.1 13001, x4.2) else some ((-1), x4.2))))
set_option maxRecDepth 20000 in
set_option maxHeartbeats 4000000 in
theorem ok_fA_D_gap (E : Ev) (a1 : Int32) (a2 : Int32) (a3 : Int32) (a4 : Int32) (g : G)  : Ct (wCA E) yX11_gap mi_X11_gap [.ref (E.1 0), .int a1, .int a2, .int a3, .int a4] (fun r => (some (.int r.1), r.2)) g (fA_D_gap a1 a2 a3 a4 g) := by
  refine go_enter rfl rfl (Nat.le_of_ble_eq_true rfl) (lv := [(0, .ref (E.1 0)), (1, .int a1), (2, .int a2), (3, .int a3), (4, .int a4)]) rfl ?_
  unfold fA_D_gap
  refine go_aload_n td_X11_gap 0 rfl (q := 1) rfl 0 rfl ?_
  refine go_get td_X11_gap 1 rfl (q := 4) rfl fl_X11_19 (Ac_0 E g) rfl ?_
  refine go_iload_n td_X11_gap 2 rfl (q := 5) rfl 1 rfl ?_
  refine go_iload_n td_X11_gap 3 rfl (q := 6) rfl 2 rfl ?_
  refine go_callV td_X11_gap 4 rfl (q := 9) rfl (XkA E) lk_X11_278 (ok_fA_Plan_hasCell E a1 a2 g) ⟨rfl, rfl, Nat.le_of_ble_eq_true rfl, Nat.le_of_ble_eq_true rfl⟩ rfl rfl (Nat.le_of_ble_eq_true rfl) (Ac_3 E g) rfl (fun x1 => ?_)
  show Go (wCA E) _ _ g 9 _ [.int x1] _
  refine go_if_ne 14 td_X11_gap 5 rfl rfl (q := 12) rfl (fun _ => ?_) (fun _ => ?_)
  · refine go_aload_n td_X11_gap 8 rfl (q := 15) rfl 0 rfl ?_
    refine go_callV td_X11_gap 9 rfl (q := 18) rfl (XkA E) lk_X11_247 (ok_fA_D_look E g) ⟨rfl, rfl, Nat.le_of_ble_eq_true rfl, Nat.le_of_ble_eq_true rfl⟩ rfl rfl (Nat.le_of_ble_eq_true rfl) (Ac_0 E g) rfl (fun x2 => ?_)
    show Go (wCA E) _ _ x2 18 _ [] _
    refine go_aload_n td_X11_gap 10 rfl (q := 19) rfl 0 rfl ?_
    refine go_get td_X11_gap 11 rfl (q := 22) rfl fl_X11_66 (Ac_0 E x2) rfl ?_
    refine go_aload_n td_X11_gap 12 rfl (q := 23) rfl 0 rfl ?_
    refine go_get td_X11_gap 13 rfl (q := 26) rfl fl_X11_29 (Ac_0 E x2) rfl ?_
    refine go_get td_X11_gap 14 rfl (q := 29) rfl fl_X11_178 (Ac_27 E x2) rfl ?_
    refine go_iload_n td_X11_gap 15 rfl (q := 30) rfl 1 rfl ?_
    refine go_iload_n td_X11_gap 16 rfl (q := 31) rfl 2 rfl ?_
    refine go_callV td_X11_gap 17 rfl (q := 34) rfl (XkA E) lk_X11_289 (ok_fA_Strip_lay E (x2.1 2700) a1 a2 x2) ⟨rfl, rfl, Nat.le_of_ble_eq_true rfl, Nat.le_of_ble_eq_true rfl⟩ rfl rfl (Nat.le_of_ble_eq_true rfl) (Ac_130 E x2) rfl (fun x3 => ?_)
    show Go (wCA E) _ _ x3 34 _ [] _
    refine go_aload_n td_X11_gap 18 rfl (q := 35) rfl 0 rfl ?_
    refine go_get td_X11_gap 19 rfl (q := 38) rfl fl_X11_66 (Ac_0 E x3) rfl ?_
    refine go_sipush td_X11_gap 20 rfl (q := 41) rfl ks_256 ?_
    refine go_iload_n td_X11_gap 21 rfl (q := 42) rfl 3 rfl ?_
    refine go_callV td_X11_gap 22 rfl (q := 45) rfl (XkA E) lk_X11_299 (ok_fA_Strip_findRun E 256 a3 x3) ⟨rfl, rfl, Nat.le_of_ble_eq_true rfl, Nat.le_of_ble_eq_true rfl⟩ rfl rfl (Nat.le_of_ble_eq_true rfl) (Ac_130 E x3) rfl (fun x4 => ?_)
    show Go (wCA E) _ _ x4.2 45 _ [.int x4.1] _
    refine go_if_ne 50 td_X11_gap 23 rfl rfl (q := 48) rfl (fun _ => ?_) (fun _ => ?_)
    · refine go_iload td_X11_gap 26 rfl (q := 52) rfl 4 rfl ?_
      refine go_lcase (v := 0) 80 td_X11_gap 27 rfl ⟨by decide, rfl, rfl⟩ ?_ (fun n5 => ?_)
      · refine go_aload_n td_X11_gap 28 rfl (q := 81) rfl 0 rfl ?_
        refine go_get td_X11_gap 29 rfl (q := 84) rfl fl_X11_66 (Ac_0 E x4.2) rfl ?_
        refine go_get td_X11_gap 30 rfl (q := 87) rfl fl_X11_302 (Ac_130 E x4.2) rfl ?_
        exact go_iret td_X11_gap 31 rfl rfl rfl
      refine go_lcase (v := 1) 88 td_X11_gap 27 rfl ⟨by decide, rfl, rfl⟩ ?_ (fun n6 => ?_)
      · refine go_aload_n td_X11_gap 32 rfl (q := 89) rfl 0 rfl ?_
        refine go_get td_X11_gap 33 rfl (q := 92) rfl fl_X11_66 (Ac_0 E x4.2) rfl ?_
        refine go_get td_X11_gap 34 rfl (q := 95) rfl fl_X11_305 (Ac_130 E x4.2) rfl ?_
        exact go_iret td_X11_gap 35 rfl rfl rfl
      refine go_ldef 96 td_X11_gap 27 rfl (sw_X11_gap_52 n5 n6) rfl ?_
      refine go_iconst td_X11_gap 36 rfl (q := 97) rfl kc_m1 ?_
      exact go_iret td_X11_gap 37 rfl rfl rfl
    · refine go_iconst td_X11_gap 24 rfl (q := 49) rfl kc_m1 ?_
      exact go_iret td_X11_gap 25 rfl rfl rfl
  · refine go_iconst td_X11_gap 6 rfl (q := 13) rfl kc_m1 ?_
    exact go_iret td_X11_gap 7 rfl rfl rfl
def fA_Strip_longestGap (g : G) : Option (Int32) := Lp (α := Int32 × Int32) (fun rec1 s1 => (if (g.1 13003) ≤ s1.2 then some s1.1 else Option.bind (fA_Strip_begins 8 s1.2 g) fun x2 => lj (α := Int32) (fun b3 => rec1 (b3, s1.2 + 1)) fun J3 => (if x2 = 0 then J3 s1.1 else Option.bind (fA_Strip_lengthFrom 8 s1.2 g) fun x4 => bv (if s1.1 < x4 then x4 else s1.1) fun x5 => J3 x5))) FU (0, 0)
set_option maxRecDepth 20000 in
set_option maxHeartbeats 4000000 in
theorem ok_fA_Strip_longestGap (E : Ev)  (g : G)  : Ct (wCA E) yX7_longestGap mi_X7_longestGap [.ref (E.1 130)] (fun r => (some (.int r), g)) g (fA_Strip_longestGap g) := by
  refine go_enter rfl rfl (Nat.le_of_ble_eq_true rfl) (lv := [(0, .ref (E.1 130))]) rfl ?_
  unfold fA_Strip_longestGap
  refine go_iconst td_X7_longestGap 0 rfl (q := 1) rfl kc_0 ?_
  refine go_istore_n [(1, .int 0), (0, .ref (E.1 130))] td_X7_longestGap 1 rfl (q := 2) rfl (Nat.le_of_ble_eq_true rfl) rfl ?_
  refine go_iconst td_X7_longestGap 2 rfl (q := 3) rfl kc_0 ?_
  refine go_istore_n [(2, .int 0), (1, .int 0), (0, .ref (E.1 130))] td_X7_longestGap 3 rfl (q := 4) rfl (Nat.le_of_ble_eq_true rfl) rfl ?_
  refine go_pick [2, 1, 0] (lv' := [(0, .ref (E.1 130)), (1, .int 0), (2, .int 0)]) rfl ?_
  refine (show ∀ (u1_0 : Int32) (u1_1 : Int32), Go (wCA E) _ _ g 4 [(0, .ref (E.1 130)), (1, .int u1_0), (2, .int u1_1)] [] (Lp (α := Int32 × Int32) _ FU (u1_0, u1_1)) from ?_) 0 0
  intro u1_0 u1_1
  refine go_Lp (α := Int32 × Int32) (fun s1 => g) (fun s1 => [(0, .ref (E.1 130)), (1, .int s1.1), (2, .int s1.2)]) ?_ FU (u1_0, u1_1)
  intro rec1 hrec1 s1
  have krec1 : ∀ (u1_0 : Int32) (u1_1 : Int32), Go (wCA E) _ _ g 4 [(0, .ref (E.1 130)), (1, .int u1_0), (2, .int u1_1)] [] (rec1 (u1_0, u1_1)) := fun u1_0 u1_1 => hrec1 (u1_0, u1_1)
  refine go_iload_n td_X7_longestGap 4 rfl (q := 5) rfl 2 rfl ?_
  refine go_aload_n td_X7_longestGap 5 rfl (q := 6) rfl 0 rfl ?_
  refine go_get td_X7_longestGap 6 rfl (q := 9) rfl fl_X7_21 (Ac_130 E g) rfl ?_
  refine go_icmp_ge 40 td_X7_longestGap 7 rfl rfl (q := 12) rfl (fun _ => ?_) (fun _ => ?_)
  · refine go_iload_n td_X7_longestGap 22 rfl (q := 41) rfl 1 rfl ?_
    exact go_iret td_X7_longestGap 23 rfl rfl rfl
  · refine go_aload_n td_X7_longestGap 8 rfl (q := 13) rfl 0 rfl ?_
    refine go_bipush td_X7_longestGap 9 rfl (q := 15) rfl kb_8 ?_
    refine go_iload_n td_X7_longestGap 10 rfl (q := 16) rfl 2 rfl ?_
    refine go_callV td_X7_longestGap 11 rfl (q := 19) rfl (XkA E) lk_X7_56 (ok_fA_Strip_begins E 8 s1.2 g) ⟨rfl, rfl, Nat.le_of_ble_eq_true rfl, Nat.le_of_ble_eq_true rfl⟩ rfl rfl (Nat.le_of_ble_eq_true rfl) (Ac_130 E g) rfl (fun x2 => ?_)
    show Go (wCA E) _ _ g 19 _ [.int x2] _
    refine go_ljX (α := Int32) (fun b3 => [(0, .ref (E.1 130)), (1, .int b3), (2, .int s1.2)]) (fun b3 => []) (fun b3 => g) 34 ?_ ?_
    · intro b3
      refine go_iinc [(2, .int (s1.2 + 1)), (0, .ref (E.1 130)), (1, .int b3)] td_X7_longestGap 20 rfl (q := 37) rfl 2 rfl kc_1 (Nat.le_of_ble_eq_true rfl) rfl ?_
      refine go_goto td_X7_longestGap 21 rfl (q := 4) rfl ?_
      refine go_pick [1, 2, 0] (lv' := [(0, .ref (E.1 130)), (1, .int b3), (2, .int (s1.2 + 1))]) rfl ?_
      exact krec1 b3 (s1.2 + 1)
    intro J3 hJ3
    have kJ3 : ∀ (u3_0 : Int32), Go (wCA E) _ _ g 34 [(0, .ref (E.1 130)), (1, .int u3_0), (2, .int s1.2)] [] (J3 u3_0) := fun u3_0 => hJ3 u3_0
    refine go_if_eq 34 td_X7_longestGap 12 rfl rfl (q := 22) rfl (fun _ => ?_) (fun _ => ?_)
    · refine go_pick [0, 1, 2] (lv' := [(0, .ref (E.1 130)), (1, .int s1.1), (2, .int s1.2)]) rfl ?_
      exact kJ3 s1.1
    · refine go_iload_n td_X7_longestGap 13 rfl (q := 23) rfl 1 rfl ?_
      refine go_aload_n td_X7_longestGap 14 rfl (q := 24) rfl 0 rfl ?_
      refine go_bipush td_X7_longestGap 15 rfl (q := 26) rfl kb_8 ?_
      refine go_iload_n td_X7_longestGap 16 rfl (q := 27) rfl 2 rfl ?_
      refine go_callV td_X7_longestGap 17 rfl (q := 30) rfl (XkA E) lk_X7_49 (ok_fA_Strip_lengthFrom E 8 s1.2 g) ⟨rfl, rfl, Nat.le_of_ble_eq_true rfl, Nat.le_of_ble_eq_true rfl⟩ rfl rfl (Nat.le_of_ble_eq_true rfl) (Ac_130 E g) rfl (fun x4 => ?_)
      show Go (wCA E) _ _ g 30 _ [.int x4, .int s1.1] _
      refine go_mmax td_X7_longestGap 18 rfl (q := 33) rfl lk_X7_59 ⟨Nat.le_of_ble_eq_true rfl, Nat.le_of_ble_eq_true rfl⟩ ?_
      refine go_bvi (fun x5 => ?_)
      refine go_istore_n [(1, .int x5), (0, .ref (E.1 130)), (2, .int s1.2)] td_X7_longestGap 19 rfl (q := 34) rfl (Nat.le_of_ble_eq_true rfl) rfl ?_
      refine go_pick [1, 0, 2] (lv' := [(0, .ref (E.1 130)), (1, .int x5), (2, .int s1.2)]) rfl ?_
      exact kJ3 x5
def fA_D_greatest (a1 : Int32) (a2 : Int32) (g : G) : Option (Int32 × G) := Option.bind (fA_Plan_hasCell a1 a2 g) fun x1 => (if x1 = 0 then some ((-1), g) else Option.bind (fA_D_look g) fun x2 => Option.bind (fA_Strip_lay (x2.1 2700) a1 a2 x2) fun x3 => Option.bind (fA_Strip_longestGap x3) fun x4 => some (x4, x3))
set_option maxRecDepth 20000 in
set_option maxHeartbeats 4000000 in
theorem ok_fA_D_greatest (E : Ev) (a1 : Int32) (a2 : Int32) (g : G)  : Ct (wCA E) yX11_greatest mi_X11_greatest [.ref (E.1 0), .int a1, .int a2] (fun r => (some (.int r.1), r.2)) g (fA_D_greatest a1 a2 g) := by
  refine go_enter rfl rfl (Nat.le_of_ble_eq_true rfl) (lv := [(0, .ref (E.1 0)), (1, .int a1), (2, .int a2)]) rfl ?_
  unfold fA_D_greatest
  refine go_aload_n td_X11_greatest 0 rfl (q := 1) rfl 0 rfl ?_
  refine go_get td_X11_greatest 1 rfl (q := 4) rfl fl_X11_19 (Ac_0 E g) rfl ?_
  refine go_iload_n td_X11_greatest 2 rfl (q := 5) rfl 1 rfl ?_
  refine go_iload_n td_X11_greatest 3 rfl (q := 6) rfl 2 rfl ?_
  refine go_callV td_X11_greatest 4 rfl (q := 9) rfl (XkA E) lk_X11_278 (ok_fA_Plan_hasCell E a1 a2 g) ⟨rfl, rfl, Nat.le_of_ble_eq_true rfl, Nat.le_of_ble_eq_true rfl⟩ rfl rfl (Nat.le_of_ble_eq_true rfl) (Ac_3 E g) rfl (fun x1 => ?_)
  show Go (wCA E) _ _ g 9 _ [.int x1] _
  refine go_if_ne 14 td_X11_greatest 5 rfl rfl (q := 12) rfl (fun _ => ?_) (fun _ => ?_)
  · refine go_aload_n td_X11_greatest 8 rfl (q := 15) rfl 0 rfl ?_
    refine go_callV td_X11_greatest 9 rfl (q := 18) rfl (XkA E) lk_X11_247 (ok_fA_D_look E g) ⟨rfl, rfl, Nat.le_of_ble_eq_true rfl, Nat.le_of_ble_eq_true rfl⟩ rfl rfl (Nat.le_of_ble_eq_true rfl) (Ac_0 E g) rfl (fun x2 => ?_)
    show Go (wCA E) _ _ x2 18 _ [] _
    refine go_aload_n td_X11_greatest 10 rfl (q := 19) rfl 0 rfl ?_
    refine go_get td_X11_greatest 11 rfl (q := 22) rfl fl_X11_66 (Ac_0 E x2) rfl ?_
    refine go_aload_n td_X11_greatest 12 rfl (q := 23) rfl 0 rfl ?_
    refine go_get td_X11_greatest 13 rfl (q := 26) rfl fl_X11_29 (Ac_0 E x2) rfl ?_
    refine go_get td_X11_greatest 14 rfl (q := 29) rfl fl_X11_178 (Ac_27 E x2) rfl ?_
    refine go_iload_n td_X11_greatest 15 rfl (q := 30) rfl 1 rfl ?_
    refine go_iload_n td_X11_greatest 16 rfl (q := 31) rfl 2 rfl ?_
    refine go_callV td_X11_greatest 17 rfl (q := 34) rfl (XkA E) lk_X11_289 (ok_fA_Strip_lay E (x2.1 2700) a1 a2 x2) ⟨rfl, rfl, Nat.le_of_ble_eq_true rfl, Nat.le_of_ble_eq_true rfl⟩ rfl rfl (Nat.le_of_ble_eq_true rfl) (Ac_130 E x2) rfl (fun x3 => ?_)
    show Go (wCA E) _ _ x3 34 _ [] _
    refine go_aload_n td_X11_greatest 18 rfl (q := 35) rfl 0 rfl ?_
    refine go_get td_X11_greatest 19 rfl (q := 38) rfl fl_X11_66 (Ac_0 E x3) rfl ?_
    refine go_callV td_X11_greatest 20 rfl (q := 41) rfl (XkA E) lk_X11_311 (ok_fA_Strip_longestGap E x3) ⟨rfl, rfl, Nat.le_of_ble_eq_true rfl, Nat.le_of_ble_eq_true rfl⟩ rfl rfl (Nat.le_of_ble_eq_true rfl) (Ac_130 E x3) rfl (fun x4 => ?_)
    show Go (wCA E) _ _ x3 41 _ [.int x4] _
    exact go_iret td_X11_greatest 21 rfl rfl rfl
  · refine go_iconst td_X11_greatest 6 rfl (q := 13) rfl kc_m1 ?_
    exact go_iret td_X11_greatest 7 rfl rfl rfl
def fA_Strip_unseenTicks (g : G) : Option (Int32) := Lp (α := Int32 × Int32) (fun rec1 s1 => (if (g.1 13003) ≤ s1.2 then some s1.1 else Option.bind (fA_Strip_isOf 8 s1.2 g) fun x2 => lj (α := Int32) (fun b3 => bv (s1.1 + b3) fun x4 => rec1 (x4, s1.2 + 1)) fun J3 => (if x2 = 0 then J3 0 else J3 1))) FU (0, 0)
set_option maxRecDepth 20000 in
set_option maxHeartbeats 4000000 in
theorem ok_fA_Strip_unseenTicks (E : Ev)  (g : G)  : Ct (wCA E) yX7_unseenTicks mi_X7_unseenTicks [.ref (E.1 130)] (fun r => (some (.int r), g)) g (fA_Strip_unseenTicks g) := by
  refine go_enter rfl rfl (Nat.le_of_ble_eq_true rfl) (lv := [(0, .ref (E.1 130))]) rfl ?_
  unfold fA_Strip_unseenTicks
  refine go_iconst td_X7_unseenTicks 0 rfl (q := 1) rfl kc_0 ?_
  refine go_istore_n [(1, .int 0), (0, .ref (E.1 130))] td_X7_unseenTicks 1 rfl (q := 2) rfl (Nat.le_of_ble_eq_true rfl) rfl ?_
  refine go_iconst td_X7_unseenTicks 2 rfl (q := 3) rfl kc_0 ?_
  refine go_istore_n [(2, .int 0), (1, .int 0), (0, .ref (E.1 130))] td_X7_unseenTicks 3 rfl (q := 4) rfl (Nat.le_of_ble_eq_true rfl) rfl ?_
  refine go_pick [2, 1, 0] (lv' := [(0, .ref (E.1 130)), (1, .int 0), (2, .int 0)]) rfl ?_
  refine (show ∀ (u1_0 : Int32) (u1_1 : Int32), Go (wCA E) _ _ g 4 [(0, .ref (E.1 130)), (1, .int u1_0), (2, .int u1_1)] [] (Lp (α := Int32 × Int32) _ FU (u1_0, u1_1)) from ?_) 0 0
  intro u1_0 u1_1
  refine go_Lp (α := Int32 × Int32) (fun s1 => g) (fun s1 => [(0, .ref (E.1 130)), (1, .int s1.1), (2, .int s1.2)]) ?_ FU (u1_0, u1_1)
  intro rec1 hrec1 s1
  have krec1 : ∀ (u1_0 : Int32) (u1_1 : Int32), Go (wCA E) _ _ g 4 [(0, .ref (E.1 130)), (1, .int u1_0), (2, .int u1_1)] [] (rec1 (u1_0, u1_1)) := fun u1_0 u1_1 => hrec1 (u1_0, u1_1)
  refine go_iload_n td_X7_unseenTicks 4 rfl (q := 5) rfl 2 rfl ?_
  refine go_aload_n td_X7_unseenTicks 5 rfl (q := 6) rfl 0 rfl ?_
  refine go_get td_X7_unseenTicks 6 rfl (q := 9) rfl fl_X7_21 (Ac_130 E g) rfl ?_
  refine go_icmp_ge 36 td_X7_unseenTicks 7 rfl rfl (q := 12) rfl (fun _ => ?_) (fun _ => ?_)
  · refine go_iload_n td_X7_unseenTicks 21 rfl (q := 37) rfl 1 rfl ?_
    exact go_iret td_X7_unseenTicks 22 rfl rfl rfl
  · refine go_iload_n td_X7_unseenTicks 8 rfl (q := 13) rfl 1 rfl ?_
    refine go_aload_n td_X7_unseenTicks 9 rfl (q := 14) rfl 0 rfl ?_
    refine go_bipush td_X7_unseenTicks 10 rfl (q := 16) rfl kb_8 ?_
    refine go_iload_n td_X7_unseenTicks 11 rfl (q := 17) rfl 2 rfl ?_
    refine go_callV td_X7_unseenTicks 12 rfl (q := 20) rfl (XkA E) lk_X7_45 (ok_fA_Strip_isOf E 8 s1.2 g) ⟨rfl, rfl, Nat.le_of_ble_eq_true rfl, Nat.le_of_ble_eq_true rfl⟩ rfl rfl (Nat.le_of_ble_eq_true rfl) (Ac_130 E g) rfl (fun x2 => ?_)
    show Go (wCA E) _ _ g 20 _ [.int x2, .int s1.1] _
    refine go_ljX (α := Int32) (fun b3 => [(0, .ref (E.1 130)), (2, .int s1.2)]) (fun b3 => [.int b3, .int s1.1]) (fun b3 => g) 28 ?_ ?_
    · intro b3
      refine go_iadd td_X7_unseenTicks 17 rfl (q := 29) rfl ?_
      refine go_bvi (fun x4 => ?_)
      refine go_istore_n [(1, .int x4), (0, .ref (E.1 130)), (2, .int s1.2)] td_X7_unseenTicks 18 rfl (q := 30) rfl (Nat.le_of_ble_eq_true rfl) rfl ?_
      refine go_iinc [(2, .int (s1.2 + 1)), (1, .int x4), (0, .ref (E.1 130))] td_X7_unseenTicks 19 rfl (q := 33) rfl 2 rfl kc_1 (Nat.le_of_ble_eq_true rfl) rfl ?_
      refine go_goto td_X7_unseenTicks 20 rfl (q := 4) rfl ?_
      refine go_pick [2, 1, 0] (lv' := [(0, .ref (E.1 130)), (1, .int x4), (2, .int (s1.2 + 1))]) rfl ?_
      exact krec1 x4 (s1.2 + 1)
    intro J3 hJ3
    have kJ3 : ∀ (u3_0 : Int32), Go (wCA E) _ _ g 28 [(0, .ref (E.1 130)), (2, .int s1.2)] [.int u3_0, .int s1.1] (J3 u3_0) := fun u3_0 => hJ3 u3_0
    refine go_if_eq 27 td_X7_unseenTicks 13 rfl rfl (q := 23) rfl (fun _ => ?_) (fun _ => ?_)
    · refine go_iconst td_X7_unseenTicks 16 rfl (q := 28) rfl kc_0 ?_
      refine go_pick [0, 2] (lv' := [(0, .ref (E.1 130)), (2, .int s1.2)]) rfl ?_
      exact kJ3 0
    · refine go_iconst td_X7_unseenTicks 14 rfl (q := 24) rfl kc_1 ?_
      refine go_goto td_X7_unseenTicks 15 rfl (q := 28) rfl ?_
      refine go_pick [0, 2] (lv' := [(0, .ref (E.1 130)), (2, .int s1.2)]) rfl ?_
      exact kJ3 1
def fA_D_doubleBits (a1 : UInt64) (g : G) : Option (Int64) := (if 0 < (Op.cmpValue (FP.dcmp a1 FP.dconst0) .l) then Lp (α := UInt64 × Int64) (fun rec1 s1 => lj (α := Unit) (fun b2 => Lp (α := UInt64 × Int64) (fun rec3 s3 => lj (α := Unit) (fun b4 => nd (FP.dmul s3.1 kf_X11_507) (some ((s3.2 <<< ((52 : Int32).toInt64 &&& 63)) ||| ((FP.d2l (FP.dmul s3.1 kf_X11_507)) &&& 4503599627370495)))) fun J4 => (if 0 ≤ (Op.cmpValue (FP.dcmp s3.1 FP.dconst1) .g) then J4 () else (if (lg_cmp s3.2 1) ≤ 0 then J4 () else nd (FP.dmul s3.1 kf_X11_503) (bv (FP.dmul s3.1 kf_X11_503) fun x5 => bv (s3.2 - 1) fun x6 => rec3 (x5, x6))))) FU (s1.1, s1.2)) fun J2 => (if (Op.cmpValue (FP.dcmp s1.1 kf_X11_503) .l) < 0 then J2 () else (if 0 ≤ (lg_cmp s1.2 2046) then J2 () else nd (FP.ddiv s1.1 kf_X11_503) (bv (FP.ddiv s1.1 kf_X11_503) fun x7 => bv (s1.2 + 1) fun x8 => rec1 (x7, x8))))) FU (a1, 1023) else some 0)
set_option maxRecDepth 20000 in
set_option maxHeartbeats 4000000 in
theorem ok_fA_D_doubleBits (E : Ev) (a1 : UInt64) (g : G)  : Ct (wCA E) yX11_doubleBits mi_X11_doubleBits [.double a1] (fun r => (some (.long r), g)) g (fA_D_doubleBits a1 g) := by
  refine go_enter rfl rfl (Nat.le_of_ble_eq_true rfl) (lv := [(0, .double a1)]) rfl ?_
  unfold fA_D_doubleBits
  refine go_dload_n td_X11_doubleBits 0 rfl (q := 1) rfl 0 rfl ?_
  refine go_dconst0 td_X11_doubleBits 1 rfl (q := 2) rfl ?_
  refine go_dcmp td_X11_doubleBits 2 rfl (q := 3) rfl ?_
  refine go_if_gt 8 td_X11_doubleBits 3 rfl rfl (q := 6) rfl (fun _ => ?_) (fun _ => ?_)
  · refine go_dload_n td_X11_doubleBits 6 rfl (q := 9) rfl 0 rfl ?_
    refine go_dstore_n [(2, .double a1), (0, .double a1)] td_X11_doubleBits 7 rfl (q := 10) rfl (Nat.le_of_ble_eq_true rfl) rfl ?_
    refine go_ldc2 td_X11_doubleBits 8 rfl (q := 13) rfl cn_X11_501 ?_
    refine go_lstore [(4, .long 1023), (2, .double a1), (0, .double a1)] td_X11_doubleBits 9 rfl (q := 15) rfl (Nat.le_of_ble_eq_true rfl) rfl ?_
    refine go_pick [1, 0] (lv' := [(2, .double a1), (4, .long 1023)]) rfl ?_
    refine (show ∀ (u1_0 : UInt64) (u1_1 : Int64), Go (wCA E) _ _ g 15 [(2, .double u1_0), (4, .long u1_1)] [] (Lp (α := UInt64 × Int64) _ FU (u1_0, u1_1)) from ?_) a1 1023
    intro u1_0 u1_1
    refine go_Lp (α := UInt64 × Int64) (fun s1 => g) (fun s1 => [(2, .double s1.1), (4, .long s1.2)]) ?_ FU (u1_0, u1_1)
    intro rec1 hrec1 s1
    have krec1 : ∀ (u1_0 : UInt64) (u1_1 : Int64), Go (wCA E) _ _ g 15 [(2, .double u1_0), (4, .long u1_1)] [] (rec1 (u1_0, u1_1)) := fun u1_0 u1_1 => hrec1 (u1_0, u1_1)
    refine go_dload_n td_X11_doubleBits 10 rfl (q := 16) rfl 0 rfl ?_
    refine go_ldc2d td_X11_doubleBits 11 rfl (q := 19) rfl cn_X11_503 ?_
    refine go_dcmp td_X11_doubleBits 12 rfl (q := 20) rfl ?_
    refine go_ljX (α := Unit) (fun b2 => [(2, .double s1.1), (4, .long s1.2)]) (fun b2 => []) (fun b2 => g) 47 ?_ ?_
    · intro b2
      refine go_pick [0, 1] (lv' := [(2, .double s1.1), (4, .long s1.2)]) rfl ?_
      refine (show ∀ (u3_0 : UInt64) (u3_1 : Int64), Go (wCA E) _ _ g 47 [(2, .double u3_0), (4, .long u3_1)] [] (Lp (α := UInt64 × Int64) _ FU (u3_0, u3_1)) from ?_) s1.1 s1.2
      intro u3_0 u3_1
      refine go_Lp (α := UInt64 × Int64) (fun s3 => g) (fun s3 => [(2, .double s3.1), (4, .long s3.2)]) ?_ FU (u3_0, u3_1)
      intro rec3 hrec3 s3
      have krec3 : ∀ (u3_0 : UInt64) (u3_1 : Int64), Go (wCA E) _ _ g 47 [(2, .double u3_0), (4, .long u3_1)] [] (rec3 (u3_0, u3_1)) := fun u3_0 u3_1 => hrec3 (u3_0, u3_1)
      refine go_dload_n td_X11_doubleBits 27 rfl (q := 48) rfl 0 rfl ?_
      refine go_dconst1 td_X11_doubleBits 28 rfl (q := 49) rfl ?_
      refine go_dcmp td_X11_doubleBits 29 rfl (q := 50) rfl ?_
      refine go_ljX (α := Unit) (fun b4 => [(2, .double s3.1), (4, .long s3.2)]) (fun b4 => []) (fun b4 => g) 75 ?_ ?_
      · intro b4
        refine go_lload td_X11_doubleBits 44 rfl (q := 77) rfl 1 rfl ?_
        refine go_bipush td_X11_doubleBits 45 rfl (q := 79) rfl kb_52 ?_
        refine go_lshl td_X11_doubleBits 46 rfl (q := 80) rfl ?_
        refine go_dload_n td_X11_doubleBits 47 rfl (q := 81) rfl 0 rfl ?_
        refine go_ldc2d td_X11_doubleBits 48 rfl (q := 84) rfl cn_X11_507 ?_
        refine go_dmul td_X11_doubleBits 49 rfl (q := 85) rfl ?_
        refine go_d2l td_X11_doubleBits 50 rfl (q := 86) rfl ?_
        refine go_ldc2 td_X11_doubleBits 51 rfl (q := 89) rfl cn_X11_509 ?_
        refine go_land td_X11_doubleBits 52 rfl (q := 90) rfl ?_
        refine go_lor td_X11_doubleBits 53 rfl (q := 91) rfl ?_
        exact go_lret td_X11_doubleBits 54 rfl rfl rfl
      intro J4 hJ4
      have kJ4 : Go (wCA E) _ _ g 75 [(2, .double s3.1), (4, .long s3.2)] [] (J4 ()) := hJ4 ()
      refine go_if_ge 75 td_X11_doubleBits 30 rfl rfl (q := 53) rfl (fun _ => ?_) (fun _ => ?_)
      · refine go_pick [0, 1] (lv' := [(2, .double s3.1), (4, .long s3.2)]) rfl ?_
        exact kJ4 
      · refine go_lload td_X11_doubleBits 31 rfl (q := 55) rfl 1 rfl ?_
        refine go_lconst (v := 1) td_X11_doubleBits 32 rfl (q := 56) rfl rfl ?_
        refine go_lcmp td_X11_doubleBits 33 rfl (q := 57) rfl ?_
        refine go_if_le 75 td_X11_doubleBits 34 rfl rfl (q := 60) rfl (fun _ => ?_) (fun _ => ?_)
        · refine go_pick [0, 1] (lv' := [(2, .double s3.1), (4, .long s3.2)]) rfl ?_
          exact kJ4 
        · refine go_dload_n td_X11_doubleBits 35 rfl (q := 61) rfl 0 rfl ?_
          refine go_ldc2d td_X11_doubleBits 36 rfl (q := 64) rfl cn_X11_503 ?_
          refine go_dmul td_X11_doubleBits 37 rfl (q := 65) rfl ?_
          refine go_bvd (fun x5 => ?_)
          refine go_dstore_n [(2, .double x5), (4, .long s3.2)] td_X11_doubleBits 38 rfl (q := 66) rfl (Nat.le_of_ble_eq_true rfl) rfl ?_
          refine go_lload td_X11_doubleBits 39 rfl (q := 68) rfl 1 rfl ?_
          refine go_lconst (v := 1) td_X11_doubleBits 40 rfl (q := 69) rfl rfl ?_
          refine go_lsub td_X11_doubleBits 41 rfl (q := 70) rfl ?_
          refine go_bvl (fun x6 => ?_)
          refine go_lstore [(4, .long x6), (2, .double x5)] td_X11_doubleBits 42 rfl (q := 72) rfl (Nat.le_of_ble_eq_true rfl) rfl ?_
          refine go_goto td_X11_doubleBits 43 rfl (q := 47) rfl ?_
          refine go_pick [1, 0] (lv' := [(2, .double x5), (4, .long x6)]) rfl ?_
          exact krec3 x5 x6
    intro J2 hJ2
    have kJ2 : Go (wCA E) _ _ g 47 [(2, .double s1.1), (4, .long s1.2)] [] (J2 ()) := hJ2 ()
    refine go_if_lt 47 td_X11_doubleBits 13 rfl rfl (q := 23) rfl (fun _ => ?_) (fun _ => ?_)
    · refine go_pick [0, 1] (lv' := [(2, .double s1.1), (4, .long s1.2)]) rfl ?_
      exact kJ2 
    · refine go_lload td_X11_doubleBits 14 rfl (q := 25) rfl 1 rfl ?_
      refine go_ldc2 td_X11_doubleBits 15 rfl (q := 28) rfl cn_X11_505 ?_
      refine go_lcmp td_X11_doubleBits 16 rfl (q := 29) rfl ?_
      refine go_if_ge 47 td_X11_doubleBits 17 rfl rfl (q := 32) rfl (fun _ => ?_) (fun _ => ?_)
      · refine go_pick [0, 1] (lv' := [(2, .double s1.1), (4, .long s1.2)]) rfl ?_
        exact kJ2 
      · refine go_dload_n td_X11_doubleBits 18 rfl (q := 33) rfl 0 rfl ?_
        refine go_ldc2d td_X11_doubleBits 19 rfl (q := 36) rfl cn_X11_503 ?_
        refine go_ddiv td_X11_doubleBits 20 rfl (q := 37) rfl ?_
        refine go_bvd (fun x7 => ?_)
        refine go_dstore_n [(2, .double x7), (4, .long s1.2)] td_X11_doubleBits 21 rfl (q := 38) rfl (Nat.le_of_ble_eq_true rfl) rfl ?_
        refine go_lload td_X11_doubleBits 22 rfl (q := 40) rfl 1 rfl ?_
        refine go_lconst (v := 1) td_X11_doubleBits 23 rfl (q := 41) rfl rfl ?_
        refine go_ladd td_X11_doubleBits 24 rfl (q := 42) rfl ?_
        refine go_bvl (fun x8 => ?_)
        refine go_lstore [(4, .long x8), (2, .double x7)] td_X11_doubleBits 25 rfl (q := 44) rfl (Nat.le_of_ble_eq_true rfl) rfl ?_
        refine go_goto td_X11_doubleBits 26 rfl (q := 15) rfl ?_
        refine go_pick [1, 0] (lv' := [(2, .double x7), (4, .long x8)]) rfl ?_
        exact krec1 x7 x8
  · refine go_lconst (v := 0) td_X11_doubleBits 4 rfl (q := 7) rfl rfl ?_
    exact go_lret td_X11_doubleBits 5 rfl rfl rfl
def fA_D_mean (a1 : Int32) (a2 : Int32) (g : G) : Option (Int64 × G) := Option.bind (fA_Plan_hasCell a1 a2 g) fun x1 => (if x1 = 0 then some ((-1), g) else Option.bind (fA_D_look g) fun x2 => Option.bind (fA_Strip_lay (x2.1 2700) a1 a2 x2) fun x3 => Option.bind (fA_Strip_countRuns 256 x3) fun x4 => (if x4 ≤ 0 then some ((-1), x3) else Option.bind (fA_Strip_unseenTicks x3) fun x5 => nd (FP.ddiv (FP.i2d x5) (FP.i2d x4)) (Option.bind (fA_D_doubleBits (FP.ddiv (FP.i2d x5) (FP.i2d x4)) x3) fun x6 => some (x6, x3))))
set_option maxRecDepth 20000 in
set_option maxHeartbeats 4000000 in
theorem ok_fA_D_mean (E : Ev) (a1 : Int32) (a2 : Int32) (g : G)  : Ct (wCA E) yX11_mean mi_X11_mean [.ref (E.1 0), .int a1, .int a2] (fun r => (some (.long r.1), r.2)) g (fA_D_mean a1 a2 g) := by
  refine go_enter rfl rfl (Nat.le_of_ble_eq_true rfl) (lv := [(0, .ref (E.1 0)), (1, .int a1), (2, .int a2)]) rfl ?_
  unfold fA_D_mean
  refine go_aload_n td_X11_mean 0 rfl (q := 1) rfl 0 rfl ?_
  refine go_get td_X11_mean 1 rfl (q := 4) rfl fl_X11_19 (Ac_0 E g) rfl ?_
  refine go_iload_n td_X11_mean 2 rfl (q := 5) rfl 1 rfl ?_
  refine go_iload_n td_X11_mean 3 rfl (q := 6) rfl 2 rfl ?_
  refine go_callV td_X11_mean 4 rfl (q := 9) rfl (XkA E) lk_X11_278 (ok_fA_Plan_hasCell E a1 a2 g) ⟨rfl, rfl, Nat.le_of_ble_eq_true rfl, Nat.le_of_ble_eq_true rfl⟩ rfl rfl (Nat.le_of_ble_eq_true rfl) (Ac_3 E g) rfl (fun x1 => ?_)
  show Go (wCA E) _ _ g 9 _ [.int x1] _
  refine go_if_ne 16 td_X11_mean 5 rfl rfl (q := 12) rfl (fun _ => ?_) (fun _ => ?_)
  · refine go_aload_n td_X11_mean 8 rfl (q := 17) rfl 0 rfl ?_
    refine go_callV td_X11_mean 9 rfl (q := 20) rfl (XkA E) lk_X11_247 (ok_fA_D_look E g) ⟨rfl, rfl, Nat.le_of_ble_eq_true rfl, Nat.le_of_ble_eq_true rfl⟩ rfl rfl (Nat.le_of_ble_eq_true rfl) (Ac_0 E g) rfl (fun x2 => ?_)
    show Go (wCA E) _ _ x2 20 _ [] _
    refine go_aload_n td_X11_mean 10 rfl (q := 21) rfl 0 rfl ?_
    refine go_get td_X11_mean 11 rfl (q := 24) rfl fl_X11_66 (Ac_0 E x2) rfl ?_
    refine go_aload_n td_X11_mean 12 rfl (q := 25) rfl 0 rfl ?_
    refine go_get td_X11_mean 13 rfl (q := 28) rfl fl_X11_29 (Ac_0 E x2) rfl ?_
    refine go_get td_X11_mean 14 rfl (q := 31) rfl fl_X11_178 (Ac_27 E x2) rfl ?_
    refine go_iload_n td_X11_mean 15 rfl (q := 32) rfl 1 rfl ?_
    refine go_iload_n td_X11_mean 16 rfl (q := 33) rfl 2 rfl ?_
    refine go_callV td_X11_mean 17 rfl (q := 36) rfl (XkA E) lk_X11_289 (ok_fA_Strip_lay E (x2.1 2700) a1 a2 x2) ⟨rfl, rfl, Nat.le_of_ble_eq_true rfl, Nat.le_of_ble_eq_true rfl⟩ rfl rfl (Nat.le_of_ble_eq_true rfl) (Ac_130 E x2) rfl (fun x3 => ?_)
    show Go (wCA E) _ _ x3 36 _ [] _
    refine go_aload_n td_X11_mean 18 rfl (q := 37) rfl 0 rfl ?_
    refine go_get td_X11_mean 19 rfl (q := 40) rfl fl_X11_66 (Ac_0 E x3) rfl ?_
    refine go_sipush td_X11_mean 20 rfl (q := 43) rfl ks_256 ?_
    refine go_callV td_X11_mean 21 rfl (q := 46) rfl (XkA E) lk_X11_296 (ok_fA_Strip_countRuns E 256 x3) ⟨rfl, rfl, Nat.le_of_ble_eq_true rfl, Nat.le_of_ble_eq_true rfl⟩ rfl rfl (Nat.le_of_ble_eq_true rfl) (Ac_130 E x3) rfl (fun x4 => ?_)
    show Go (wCA E) _ _ x3 46 _ [.int x4] _
    refine go_istore_n [(3, .int x4), (0, .ref (E.1 0)), (1, .int a1), (2, .int a2)] td_X11_mean 22 rfl (q := 47) rfl (Nat.le_of_ble_eq_true rfl) rfl ?_
    refine go_iload_n td_X11_mean 23 rfl (q := 48) rfl 0 rfl ?_
    refine go_if_le 68 td_X11_mean 24 rfl rfl (q := 51) rfl (fun _ => ?_) (fun _ => ?_)
    · refine go_ldc2 td_X11_mean 34 rfl (q := 71) rfl cn_X11_314 ?_
      exact go_lret td_X11_mean 35 rfl rfl rfl
    · refine go_aload_n td_X11_mean 25 rfl (q := 52) rfl 1 rfl ?_
      refine go_get td_X11_mean 26 rfl (q := 55) rfl fl_X11_66 (Ac_0 E x3) rfl ?_
      refine go_callV td_X11_mean 27 rfl (q := 58) rfl (XkA E) lk_X11_316 (ok_fA_Strip_unseenTicks E x3) ⟨rfl, rfl, Nat.le_of_ble_eq_true rfl, Nat.le_of_ble_eq_true rfl⟩ rfl rfl (Nat.le_of_ble_eq_true rfl) (Ac_130 E x3) rfl (fun x5 => ?_)
      show Go (wCA E) _ _ x3 58 _ [.int x5] _
      refine go_i2d td_X11_mean 28 rfl (q := 59) rfl ?_
      refine go_iload_n td_X11_mean 29 rfl (q := 60) rfl 0 rfl ?_
      refine go_i2d td_X11_mean 30 rfl (q := 61) rfl ?_
      refine go_ddiv td_X11_mean 31 rfl (q := 62) rfl ?_
      refine go_callS td_X11_mean 32 rfl (q := 65) rfl (XkA E) lk_X11_319 (ok_fA_D_doubleBits E (FP.ddiv (FP.i2d x5) (FP.i2d x4)) x3) ⟨rfl, rfl, Nat.le_of_ble_eq_true rfl, Nat.le_of_ble_eq_true rfl⟩ rfl rfl (Nat.le_of_ble_eq_true rfl) (fun x6 => ?_)
      show Go (wCA E) _ _ x3 65 _ [.long x6] _
      refine go_goto td_X11_mean 33 rfl (q := 71) rfl ?_
      exact go_lret td_X11_mean 35 rfl rfl rfl
  · refine go_ldc2 td_X11_mean 6 rfl (q := 15) rfl cn_X11_314 ?_
    exact go_lret td_X11_mean 7 rfl rfl rfl
def fA_Sky_countSeen (a1 : Int32) (g : G) : Option (Int32) := Lp (α := Int32 × Int32) (fun rec1 s1 => (if (g.1 301) ≤ s1.2 then some s1.1 else ag 2880 (g.2.1 128) ((s1.2 * 240) + a1) fun x2 => Option.bind (fA_Integer_bitCount x2 g) fun x3 => bv (s1.1 + x3) fun x4 => rec1 (x4, s1.2 + 1))) FU (0, 0)
set_option maxRecDepth 20000 in
set_option maxHeartbeats 4000000 in
theorem ok_fA_Sky_countSeen (E : Ev) (a1 : Int32) (g : G)  : Ct (wCA E) yX6_countSeen mi_X6_countSeen [.ref (E.1 118), .int a1] (fun r => (some (.int r), g)) g (fA_Sky_countSeen a1 g) := by
  refine go_enter rfl rfl (Nat.le_of_ble_eq_true rfl) (lv := [(0, .ref (E.1 118)), (1, .int a1)]) rfl ?_
  unfold fA_Sky_countSeen
  refine go_iconst td_X6_countSeen 0 rfl (q := 1) rfl kc_0 ?_
  refine go_istore_n [(2, .int 0), (0, .ref (E.1 118)), (1, .int a1)] td_X6_countSeen 1 rfl (q := 2) rfl (Nat.le_of_ble_eq_true rfl) rfl ?_
  refine go_iconst td_X6_countSeen 2 rfl (q := 3) rfl kc_0 ?_
  refine go_istore_n [(3, .int 0), (2, .int 0), (0, .ref (E.1 118)), (1, .int a1)] td_X6_countSeen 3 rfl (q := 4) rfl (Nat.le_of_ble_eq_true rfl) rfl ?_
  refine go_pick [2, 3, 1, 0] (lv' := [(0, .ref (E.1 118)), (1, .int a1), (2, .int 0), (3, .int 0)]) rfl ?_
  refine (show ∀ (u1_0 : Int32) (u1_1 : Int32), Go (wCA E) _ _ g 4 [(0, .ref (E.1 118)), (1, .int a1), (2, .int u1_0), (3, .int u1_1)] [] (Lp (α := Int32 × Int32) _ FU (u1_0, u1_1)) from ?_) 0 0
  intro u1_0 u1_1
  refine go_Lp (α := Int32 × Int32) (fun s1 => g) (fun s1 => [(0, .ref (E.1 118)), (1, .int a1), (2, .int s1.1), (3, .int s1.2)]) ?_ FU (u1_0, u1_1)
  intro rec1 hrec1 s1
  have krec1 : ∀ (u1_0 : Int32) (u1_1 : Int32), Go (wCA E) _ _ g 4 [(0, .ref (E.1 118)), (1, .int a1), (2, .int u1_0), (3, .int u1_1)] [] (rec1 (u1_0, u1_1)) := fun u1_0 u1_1 => hrec1 (u1_0, u1_1)
  refine go_iload_n td_X6_countSeen 4 rfl (q := 5) rfl 3 rfl ?_
  refine go_aload_n td_X6_countSeen 5 rfl (q := 6) rfl 0 rfl ?_
  refine go_get td_X6_countSeen 6 rfl (q := 9) rfl fl_X6_53 (Ac_118 E g) rfl ?_
  refine go_get td_X6_countSeen 7 rfl (q := 12) rfl fl_X6_62 (Ac_3 E g) rfl ?_
  refine go_icmp_ge 39 td_X6_countSeen 8 rfl rfl (q := 15) rfl (fun _ => ?_) (fun _ => ?_)
  · refine go_iload_n td_X6_countSeen 23 rfl (q := 40) rfl 2 rfl ?_
    exact go_iret td_X6_countSeen 24 rfl rfl rfl
  · refine go_iload_n td_X6_countSeen 9 rfl (q := 16) rfl 2 rfl ?_
    refine go_aload_n td_X6_countSeen 10 rfl (q := 17) rfl 0 rfl ?_
    refine go_get td_X6_countSeen 11 rfl (q := 20) rfl fl_X6_47 (Ac_118 E g) rfl ?_
    refine go_iload_n td_X6_countSeen 12 rfl (q := 21) rfl 3 rfl ?_
    refine go_sipush td_X6_countSeen 13 rfl (q := 24) rfl ks_240 ?_
    refine go_imul td_X6_countSeen 14 rfl (q := 25) rfl ?_
    refine go_iload_n td_X6_countSeen 15 rfl (q := 26) rfl 1 rfl ?_
    refine go_iadd td_X6_countSeen 16 rfl (q := 27) rfl ?_
    refine go_ald td_X6_countSeen 17 rfl (q := 28) rfl (Ac_128 E g) (t0 := 0) rfl (fun x2 => ?_)
    refine go_callS td_X6_countSeen 18 rfl (q := 31) rfl (XkA E) lk_X6_156 (ok_fA_Integer_bitCount E x2 g) ⟨rfl, rfl, Nat.le_of_ble_eq_true rfl, Nat.le_of_ble_eq_true rfl⟩ rfl rfl (Nat.le_of_ble_eq_true rfl) (fun x3 => ?_)
    show Go (wCA E) _ _ g 31 _ [.int x3, .int s1.1] _
    refine go_iadd td_X6_countSeen 19 rfl (q := 32) rfl ?_
    refine go_bvi (fun x4 => ?_)
    refine go_istore_n [(2, .int x4), (0, .ref (E.1 118)), (1, .int a1), (3, .int s1.2)] td_X6_countSeen 20 rfl (q := 33) rfl (Nat.le_of_ble_eq_true rfl) rfl ?_
    refine go_iinc [(3, .int (s1.2 + 1)), (2, .int x4), (0, .ref (E.1 118)), (1, .int a1)] td_X6_countSeen 21 rfl (q := 36) rfl 3 rfl kc_1 (Nat.le_of_ble_eq_true rfl) rfl ?_
    refine go_goto td_X6_countSeen 22 rfl (q := 4) rfl ?_
    refine go_pick [2, 3, 1, 0] (lv' := [(0, .ref (E.1 118)), (1, .int a1), (2, .int x4), (3, .int (s1.2 + 1))]) rfl ?_
    exact krec1 x4 (s1.2 + 1)
def fA_D_covered (a1 : Int32) (g : G) : Option (Int32 × G) := Option.bind (fA_D_isTick a1 g) fun x1 => (if x1 = 0 then some ((-1), g) else Option.bind (fA_D_look g) fun x2 => Option.bind (fA_D_inCycle a1 x2) fun x3 => Option.bind (fA_Sky_countSeen x3 x2) fun x4 => some (x4, x2))
set_option maxRecDepth 20000 in
set_option maxHeartbeats 4000000 in
theorem ok_fA_D_covered (E : Ev) (a1 : Int32) (g : G)  : Ct (wCA E) yX11_covered mi_X11_covered [.ref (E.1 0), .int a1] (fun r => (some (.int r.1), r.2)) g (fA_D_covered a1 g) := by
  refine go_enter rfl rfl (Nat.le_of_ble_eq_true rfl) (lv := [(0, .ref (E.1 0)), (1, .int a1)]) rfl ?_
  unfold fA_D_covered
  refine go_aload_n td_X11_covered 0 rfl (q := 1) rfl 0 rfl ?_
  refine go_iload_n td_X11_covered 1 rfl (q := 2) rfl 1 rfl ?_
  refine go_callV td_X11_covered 2 rfl (q := 5) rfl (XkA E) lk_X11_266 (ok_fA_D_isTick E a1 g) ⟨rfl, rfl, Nat.le_of_ble_eq_true rfl, Nat.le_of_ble_eq_true rfl⟩ rfl rfl (Nat.le_of_ble_eq_true rfl) (Ac_0 E g) rfl (fun x1 => ?_)
  show Go (wCA E) _ _ g 5 _ [.int x1] _
  refine go_if_ne 10 td_X11_covered 3 rfl rfl (q := 8) rfl (fun _ => ?_) (fun _ => ?_)
  · refine go_aload_n td_X11_covered 6 rfl (q := 11) rfl 0 rfl ?_
    refine go_callV td_X11_covered 7 rfl (q := 14) rfl (XkA E) lk_X11_247 (ok_fA_D_look E g) ⟨rfl, rfl, Nat.le_of_ble_eq_true rfl, Nat.le_of_ble_eq_true rfl⟩ rfl rfl (Nat.le_of_ble_eq_true rfl) (Ac_0 E g) rfl (fun x2 => ?_)
    show Go (wCA E) _ _ x2 14 _ [] _
    refine go_aload_n td_X11_covered 8 rfl (q := 15) rfl 0 rfl ?_
    refine go_get td_X11_covered 9 rfl (q := 18) rfl fl_X11_57 (Ac_0 E x2) rfl ?_
    refine go_aload_n td_X11_covered 10 rfl (q := 19) rfl 0 rfl ?_
    refine go_iload_n td_X11_covered 11 rfl (q := 20) rfl 1 rfl ?_
    refine go_callV td_X11_covered 12 rfl (q := 23) rfl (XkA E) lk_X11_269 (ok_fA_D_inCycle E a1 x2) ⟨rfl, rfl, Nat.le_of_ble_eq_true rfl, Nat.le_of_ble_eq_true rfl⟩ rfl rfl (Nat.le_of_ble_eq_true rfl) (Ac_0 E x2) rfl (fun x3 => ?_)
    show Go (wCA E) _ _ x2 23 _ [.int x3, .ref (E.1 118)] _
    refine go_callV td_X11_covered 13 rfl (q := 26) rfl (XkA E) lk_X11_323 (ok_fA_Sky_countSeen E x3 x2) ⟨rfl, rfl, Nat.le_of_ble_eq_true rfl, Nat.le_of_ble_eq_true rfl⟩ rfl rfl (Nat.le_of_ble_eq_true rfl) (Ac_118 E x2) rfl (fun x4 => ?_)
    show Go (wCA E) _ _ x2 26 _ [.int x4] _
    exact go_iret td_X11_covered 14 rfl rfl rfl
  · refine go_iconst td_X11_covered 4 rfl (q := 9) rfl kc_m1 ?_
    exact go_iret td_X11_covered 5 rfl rfl rfl
def fA_Sky_coverAt (a1 : Int32) (g : G) : Option (UInt32) := Lp (α := UInt32 × Int32) (fun rec1 s1 => (if (g.1 301) ≤ s1.2 then some s1.1 else agf 12 g.2.2.2.2 s1.2 fun x2 => ag 2880 (g.2.1 128) ((s1.2 * 240) + a1) fun x3 => Option.bind (fA_Integer_bitCount x3 g) fun x4 => Lp (α := UInt32 × Int32) (fun rec5 s5 => (if s5.2 ≤ 0 then rec1 (s5.1, s1.2 + 1) else nf (FP.fadd s5.1 x2) (bv (FP.fadd s5.1 x2) fun x6 => rec5 (x6, s5.2 + m1)))) FU (s1.1, x4))) FU (FP.fconst0, 0)
set_option maxRecDepth 20000 in
set_option maxHeartbeats 4000000 in
theorem ok_fA_Sky_coverAt (E : Ev) (a1 : Int32) (g : G)  : Ct (wCA E) yX6_coverAt mi_X6_coverAt [.ref (E.1 118), .int a1] (fun r => (some (.float r), g)) g (fA_Sky_coverAt a1 g) := by
  refine go_enter rfl rfl (Nat.le_of_ble_eq_true rfl) (lv := [(0, .ref (E.1 118)), (1, .int a1)]) rfl ?_
  unfold fA_Sky_coverAt
  refine go_fconst0 td_X6_coverAt 0 rfl (q := 1) rfl ?_
  refine go_fstore_n [(2, .float FP.fconst0), (0, .ref (E.1 118)), (1, .int a1)] td_X6_coverAt 1 rfl (q := 2) rfl (Nat.le_of_ble_eq_true rfl) rfl ?_
  refine go_iconst td_X6_coverAt 2 rfl (q := 3) rfl kc_0 ?_
  refine go_istore_n [(3, .int 0), (2, .float FP.fconst0), (0, .ref (E.1 118)), (1, .int a1)] td_X6_coverAt 3 rfl (q := 4) rfl (Nat.le_of_ble_eq_true rfl) rfl ?_
  refine go_pick [2, 3, 1, 0] (lv' := [(0, .ref (E.1 118)), (1, .int a1), (2, .float FP.fconst0), (3, .int 0)]) rfl ?_
  refine (show ∀ (u1_0 : UInt32) (u1_1 : Int32), Go (wCA E) _ _ g 4 [(0, .ref (E.1 118)), (1, .int a1), (2, .float u1_0), (3, .int u1_1)] [] (Lp (α := UInt32 × Int32) _ FU (u1_0, u1_1)) from ?_) FP.fconst0 0
  intro u1_0 u1_1
  refine go_Lp (α := UInt32 × Int32) (fun s1 => g) (fun s1 => [(0, .ref (E.1 118)), (1, .int a1), (2, .float s1.1), (3, .int s1.2)]) ?_ FU (u1_0, u1_1)
  intro rec1 hrec1 s1
  have krec1 : ∀ (u1_0 : UInt32) (u1_1 : Int32), Go (wCA E) _ _ g 4 [(0, .ref (E.1 118)), (1, .int a1), (2, .float u1_0), (3, .int u1_1)] [] (rec1 (u1_0, u1_1)) := fun u1_0 u1_1 => hrec1 (u1_0, u1_1)
  refine go_iload_n td_X6_coverAt 4 rfl (q := 5) rfl 3 rfl ?_
  refine go_aload_n td_X6_coverAt 5 rfl (q := 6) rfl 0 rfl ?_
  refine go_get td_X6_coverAt 6 rfl (q := 9) rfl fl_X6_53 (Ac_118 E g) rfl ?_
  refine go_get td_X6_coverAt 7 rfl (q := 12) rfl fl_X6_62 (Ac_3 E g) rfl ?_
  refine go_icmp_ge 62 td_X6_coverAt 8 rfl rfl (q := 15) rfl (fun _ => ?_) (fun _ => ?_)
  · refine go_fload_n td_X6_coverAt 34 rfl (q := 63) rfl 2 rfl ?_
    exact go_fret td_X6_coverAt 35 rfl rfl rfl
  · refine go_aload_n td_X6_coverAt 9 rfl (q := 16) rfl 0 rfl ?_
    refine go_get td_X6_coverAt 10 rfl (q := 19) rfl fl_X6_22 (Ac_118 E g) rfl ?_
    refine go_iload_n td_X6_coverAt 11 rfl (q := 20) rfl 3 rfl ?_
    refine go_fald td_X6_coverAt 12 rfl (q := 21) rfl (Ac_120 E g) (t0 := 1) rfl (fun x2 => ?_)
    refine go_fstore [(4, .float x2), (0, .ref (E.1 118)), (1, .int a1), (2, .float s1.1), (3, .int s1.2)] td_X6_coverAt 13 rfl (q := 23) rfl (Nat.le_of_ble_eq_true rfl) rfl ?_
    refine go_aload_n td_X6_coverAt 14 rfl (q := 24) rfl 1 rfl ?_
    refine go_get td_X6_coverAt 15 rfl (q := 27) rfl fl_X6_47 (Ac_118 E g) rfl ?_
    refine go_iload_n td_X6_coverAt 16 rfl (q := 28) rfl 4 rfl ?_
    refine go_sipush td_X6_coverAt 17 rfl (q := 31) rfl ks_240 ?_
    refine go_imul td_X6_coverAt 18 rfl (q := 32) rfl ?_
    refine go_iload_n td_X6_coverAt 19 rfl (q := 33) rfl 2 rfl ?_
    refine go_iadd td_X6_coverAt 20 rfl (q := 34) rfl ?_
    refine go_ald td_X6_coverAt 21 rfl (q := 35) rfl (Ac_128 E g) (t0 := 0) rfl (fun x3 => ?_)
    refine go_callS td_X6_coverAt 22 rfl (q := 38) rfl (XkA E) lk_X6_156 (ok_fA_Integer_bitCount E x3 g) ⟨rfl, rfl, Nat.le_of_ble_eq_true rfl, Nat.le_of_ble_eq_true rfl⟩ rfl rfl (Nat.le_of_ble_eq_true rfl) (fun x4 => ?_)
    show Go (wCA E) _ _ g 38 _ [.int x4] _
    refine go_istore [(5, .int x4), (4, .float x2), (0, .ref (E.1 118)), (1, .int a1), (2, .float s1.1), (3, .int s1.2)] td_X6_coverAt 23 rfl (q := 40) rfl (Nat.le_of_ble_eq_true rfl) rfl ?_
    refine go_pick [2, 3, 4, 5, 1, 0] (lv' := [(0, .ref (E.1 118)), (1, .int a1), (2, .float s1.1), (3, .int s1.2), (4, .float x2), (5, .int x4)]) rfl ?_
    refine (show ∀ (u5_0 : UInt32) (u5_1 : Int32), Go (wCA E) _ _ g 40 [(0, .ref (E.1 118)), (1, .int a1), (2, .float u5_0), (3, .int s1.2), (4, .float x2), (5, .int u5_1)] [] (Lp (α := UInt32 × Int32) _ FU (u5_0, u5_1)) from ?_) s1.1 x4
    intro u5_0 u5_1
    refine go_Lp (α := UInt32 × Int32) (fun s5 => g) (fun s5 => [(0, .ref (E.1 118)), (1, .int a1), (2, .float s5.1), (3, .int s1.2), (4, .float x2), (5, .int s5.2)]) ?_ FU (u5_0, u5_1)
    intro rec5 hrec5 s5
    have krec5 : ∀ (u5_0 : UInt32) (u5_1 : Int32), Go (wCA E) _ _ g 40 [(0, .ref (E.1 118)), (1, .int a1), (2, .float u5_0), (3, .int s1.2), (4, .float x2), (5, .int u5_1)] [] (rec5 (u5_0, u5_1)) := fun u5_0 u5_1 => hrec5 (u5_0, u5_1)
    refine go_iload td_X6_coverAt 24 rfl (q := 42) rfl 5 rfl ?_
    refine go_if_le 56 td_X6_coverAt 25 rfl rfl (q := 45) rfl (fun _ => ?_) (fun _ => ?_)
    · refine go_iinc [(3, .int (s1.2 + 1)), (0, .ref (E.1 118)), (1, .int a1), (2, .float s5.1), (4, .float x2), (5, .int s5.2)] td_X6_coverAt 32 rfl (q := 59) rfl 3 rfl kc_1 (Nat.le_of_ble_eq_true rfl) rfl ?_
      refine go_goto td_X6_coverAt 33 rfl (q := 4) rfl ?_
      refine go_pick [1, 2, 3, 0] (lv' := [(0, .ref (E.1 118)), (1, .int a1), (2, .float s5.1), (3, .int (s1.2 + 1))]) rfl ?_
      exact krec1 s5.1 (s1.2 + 1)
    · refine go_fload_n td_X6_coverAt 26 rfl (q := 46) rfl 2 rfl ?_
      refine go_fload td_X6_coverAt 27 rfl (q := 48) rfl 4 rfl ?_
      refine go_fadd td_X6_coverAt 28 rfl (q := 49) rfl ?_
      refine go_bvf (fun x6 => ?_)
      refine go_fstore_n [(2, .float x6), (0, .ref (E.1 118)), (1, .int a1), (3, .int s1.2), (4, .float x2), (5, .int s5.2)] td_X6_coverAt 29 rfl (q := 50) rfl (Nat.le_of_ble_eq_true rfl) rfl ?_
      refine go_iinc [(5, .int (s5.2 + m1)), (2, .float x6), (0, .ref (E.1 118)), (1, .int a1), (3, .int s1.2), (4, .float x2)] td_X6_coverAt 30 rfl (q := 53) rfl 5 rfl kcm_1 (Nat.le_of_ble_eq_true rfl) rfl ?_
      refine go_goto td_X6_coverAt 31 rfl (q := 40) rfl ?_
      refine go_pick [2, 3, 1, 4, 5, 0] (lv' := [(0, .ref (E.1 118)), (1, .int a1), (2, .float x6), (3, .int s1.2), (4, .float x2), (5, .int (s5.2 + m1))]) rfl ?_
      exact krec5 x6 (s5.2 + m1)
def fA_D_floatBits (a1 : UInt32) (g : G) : Option (Int32) := (if 0 < (Op.cmpValue (FP.fcmp a1 FP.fconst0) .l) then Lp (α := UInt32 × Int32) (fun rec1 s1 => lj (α := Unit) (fun b2 => Lp (α := UInt32 × Int32) (fun rec3 s3 => lj (α := Unit) (fun b4 => nf (FP.fmul s3.1 kf_X11_499) (some ((s3.2 <<< (23 &&& 31)) ||| ((FP.f2i (FP.fmul s3.1 kf_X11_499)) &&& 8388607)))) fun J4 => (if 0 ≤ (Op.cmpValue (FP.fcmp s3.1 FP.fconst1) .g) then J4 () else (if s3.2 ≤ 1 then J4 () else nf (FP.fmul s3.1 FP.fconst2) (bv (FP.fmul s3.1 FP.fconst2) fun x5 => rec3 (x5, s3.2 + m1))))) FU (s1.1, s1.2)) fun J2 => (if (Op.cmpValue (FP.fcmp s1.1 FP.fconst2) .l) < 0 then J2 () else (if 254 ≤ s1.2 then J2 () else nf (FP.fdiv s1.1 FP.fconst2) (bv (FP.fdiv s1.1 FP.fconst2) fun x6 => rec1 (x6, s1.2 + 1))))) FU (a1, 127) else some 0)
set_option maxRecDepth 20000 in
set_option maxHeartbeats 4000000 in
theorem ok_fA_D_floatBits (E : Ev) (a1 : UInt32) (g : G)  : Ct (wCA E) yX11_floatBits mi_X11_floatBits [.float a1] (fun r => (some (.int r), g)) g (fA_D_floatBits a1 g) := by
  refine go_enter rfl rfl (Nat.le_of_ble_eq_true rfl) (lv := [(0, .float a1)]) rfl ?_
  unfold fA_D_floatBits
  refine go_fload_n td_X11_floatBits 0 rfl (q := 1) rfl 0 rfl ?_
  refine go_fconst0 td_X11_floatBits 1 rfl (q := 2) rfl ?_
  refine go_fcmp td_X11_floatBits 2 rfl (q := 3) rfl ?_
  refine go_if_gt 8 td_X11_floatBits 3 rfl rfl (q := 6) rfl (fun _ => ?_) (fun _ => ?_)
  · refine go_fload_n td_X11_floatBits 6 rfl (q := 9) rfl 0 rfl ?_
    refine go_fstore_n [(1, .float a1), (0, .float a1)] td_X11_floatBits 7 rfl (q := 10) rfl (Nat.le_of_ble_eq_true rfl) rfl ?_
    refine go_bipush td_X11_floatBits 8 rfl (q := 12) rfl kb_127 ?_
    refine go_istore_n [(2, .int 127), (1, .float a1), (0, .float a1)] td_X11_floatBits 9 rfl (q := 13) rfl (Nat.le_of_ble_eq_true rfl) rfl ?_
    refine go_pick [1, 0] (lv' := [(1, .float a1), (2, .int 127)]) rfl ?_
    refine (show ∀ (u1_0 : UInt32) (u1_1 : Int32), Go (wCA E) _ _ g 13 [(1, .float u1_0), (2, .int u1_1)] [] (Lp (α := UInt32 × Int32) _ FU (u1_0, u1_1)) from ?_) a1 127
    intro u1_0 u1_1
    refine go_Lp (α := UInt32 × Int32) (fun s1 => g) (fun s1 => [(1, .float s1.1), (2, .int s1.2)]) ?_ FU (u1_0, u1_1)
    intro rec1 hrec1 s1
    have krec1 : ∀ (u1_0 : UInt32) (u1_1 : Int32), Go (wCA E) _ _ g 13 [(1, .float u1_0), (2, .int u1_1)] [] (rec1 (u1_0, u1_1)) := fun u1_0 u1_1 => hrec1 (u1_0, u1_1)
    refine go_fload_n td_X11_floatBits 10 rfl (q := 14) rfl 0 rfl ?_
    refine go_fconst2 td_X11_floatBits 11 rfl (q := 15) rfl ?_
    refine go_fcmp td_X11_floatBits 12 rfl (q := 16) rfl ?_
    refine go_ljX (α := Unit) (fun b2 => [(1, .float s1.1), (2, .int s1.2)]) (fun b2 => []) (fun b2 => g) 36 ?_ ?_
    · intro b2
      refine go_pick [0, 1] (lv' := [(1, .float s1.1), (2, .int s1.2)]) rfl ?_
      refine (show ∀ (u3_0 : UInt32) (u3_1 : Int32), Go (wCA E) _ _ g 36 [(1, .float u3_0), (2, .int u3_1)] [] (Lp (α := UInt32 × Int32) _ FU (u3_0, u3_1)) from ?_) s1.1 s1.2
      intro u3_0 u3_1
      refine go_Lp (α := UInt32 × Int32) (fun s3 => g) (fun s3 => [(1, .float s3.1), (2, .int s3.2)]) ?_ FU (u3_0, u3_1)
      intro rec3 hrec3 s3
      have krec3 : ∀ (u3_0 : UInt32) (u3_1 : Int32), Go (wCA E) _ _ g 36 [(1, .float u3_0), (2, .int u3_1)] [] (rec3 (u3_0, u3_1)) := fun u3_0 u3_1 => hrec3 (u3_0, u3_1)
      refine go_fload_n td_X11_floatBits 23 rfl (q := 37) rfl 0 rfl ?_
      refine go_fconst1 td_X11_floatBits 24 rfl (q := 38) rfl ?_
      refine go_fcmp td_X11_floatBits 25 rfl (q := 39) rfl ?_
      refine go_ljX (α := Unit) (fun b4 => [(1, .float s3.1), (2, .int s3.2)]) (fun b4 => []) (fun b4 => g) 57 ?_ ?_
      · intro b4
        refine go_iload_n td_X11_floatBits 36 rfl (q := 58) rfl 1 rfl ?_
        refine go_bipush td_X11_floatBits 37 rfl (q := 60) rfl kb_23 ?_
        refine go_ishl td_X11_floatBits 38 rfl (q := 61) rfl ?_
        refine go_fload_n td_X11_floatBits 39 rfl (q := 62) rfl 0 rfl ?_
        refine go_ldcwf td_X11_floatBits 40 rfl (q := 65) rfl cn_X11_499 ?_
        refine go_fmul td_X11_floatBits 41 rfl (q := 66) rfl ?_
        refine go_f2i td_X11_floatBits 42 rfl (q := 67) rfl ?_
        refine go_ldcw td_X11_floatBits 43 rfl (q := 70) rfl cn_X11_500 ?_
        refine go_iand td_X11_floatBits 44 rfl (q := 71) rfl ?_
        refine go_ior td_X11_floatBits 45 rfl (q := 72) rfl ?_
        exact go_iret td_X11_floatBits 46 rfl rfl rfl
      intro J4 hJ4
      have kJ4 : Go (wCA E) _ _ g 57 [(1, .float s3.1), (2, .int s3.2)] [] (J4 ()) := hJ4 ()
      refine go_if_ge 57 td_X11_floatBits 26 rfl rfl (q := 42) rfl (fun _ => ?_) (fun _ => ?_)
      · refine go_pick [0, 1] (lv' := [(1, .float s3.1), (2, .int s3.2)]) rfl ?_
        exact kJ4 
      · refine go_iload_n td_X11_floatBits 27 rfl (q := 43) rfl 1 rfl ?_
        refine go_iconst td_X11_floatBits 28 rfl (q := 44) rfl kc_1 ?_
        refine go_icmp_le 57 td_X11_floatBits 29 rfl rfl (q := 47) rfl (fun _ => ?_) (fun _ => ?_)
        · refine go_pick [0, 1] (lv' := [(1, .float s3.1), (2, .int s3.2)]) rfl ?_
          exact kJ4 
        · refine go_fload_n td_X11_floatBits 30 rfl (q := 48) rfl 0 rfl ?_
          refine go_fconst2 td_X11_floatBits 31 rfl (q := 49) rfl ?_
          refine go_fmul td_X11_floatBits 32 rfl (q := 50) rfl ?_
          refine go_bvf (fun x5 => ?_)
          refine go_fstore_n [(1, .float x5), (2, .int s3.2)] td_X11_floatBits 33 rfl (q := 51) rfl (Nat.le_of_ble_eq_true rfl) rfl ?_
          refine go_iinc [(2, .int (s3.2 + m1)), (1, .float x5)] td_X11_floatBits 34 rfl (q := 54) rfl 1 rfl kcm_1 (Nat.le_of_ble_eq_true rfl) rfl ?_
          refine go_goto td_X11_floatBits 35 rfl (q := 36) rfl ?_
          refine go_pick [1, 0] (lv' := [(1, .float x5), (2, .int (s3.2 + m1))]) rfl ?_
          exact krec3 x5 (s3.2 + m1)
    intro J2 hJ2
    have kJ2 : Go (wCA E) _ _ g 36 [(1, .float s1.1), (2, .int s1.2)] [] (J2 ()) := hJ2 ()
    refine go_if_lt 36 td_X11_floatBits 13 rfl rfl (q := 19) rfl (fun _ => ?_) (fun _ => ?_)
    · refine go_pick [0, 1] (lv' := [(1, .float s1.1), (2, .int s1.2)]) rfl ?_
      exact kJ2 
    · refine go_iload_n td_X11_floatBits 14 rfl (q := 20) rfl 1 rfl ?_
      refine go_sipush td_X11_floatBits 15 rfl (q := 23) rfl ks_254 ?_
      refine go_icmp_ge 36 td_X11_floatBits 16 rfl rfl (q := 26) rfl (fun _ => ?_) (fun _ => ?_)
      · refine go_pick [0, 1] (lv' := [(1, .float s1.1), (2, .int s1.2)]) rfl ?_
        exact kJ2 
      · refine go_fload_n td_X11_floatBits 17 rfl (q := 27) rfl 0 rfl ?_
        refine go_fconst2 td_X11_floatBits 18 rfl (q := 28) rfl ?_
        refine go_fdiv td_X11_floatBits 19 rfl (q := 29) rfl ?_
        refine go_bvf (fun x6 => ?_)
        refine go_fstore_n [(1, .float x6), (2, .int s1.2)] td_X11_floatBits 20 rfl (q := 30) rfl (Nat.le_of_ble_eq_true rfl) rfl ?_
        refine go_iinc [(2, .int (s1.2 + 1)), (1, .float x6)] td_X11_floatBits 21 rfl (q := 33) rfl 1 rfl kc_1 (Nat.le_of_ble_eq_true rfl) rfl ?_
        refine go_goto td_X11_floatBits 22 rfl (q := 13) rfl ?_
        refine go_pick [1, 0] (lv' := [(1, .float x6), (2, .int (s1.2 + 1))]) rfl ?_
        exact krec1 x6 (s1.2 + 1)
  · refine go_iconst td_X11_floatBits 4 rfl (q := 7) rfl kc_0 ?_
    exact go_iret td_X11_floatBits 5 rfl rfl rfl
def fA_D_cover (a1 : Int32) (g : G) : Option (Int32 × G) := Option.bind (fA_D_isTick a1 g) fun x1 => (if x1 = 0 then some ((-1), g) else Option.bind (fA_D_look g) fun x2 => Option.bind (fA_D_inCycle a1 x2) fun x3 => Option.bind (fA_Sky_coverAt x3 x2) fun x4 => Option.bind (fA_D_floatBits x4 x2) fun x5 => some (x5, x2))
set_option maxRecDepth 20000 in
set_option maxHeartbeats 4000000 in
theorem ok_fA_D_cover (E : Ev) (a1 : Int32) (g : G)  : Ct (wCA E) yX11_cover mi_X11_cover [.ref (E.1 0), .int a1] (fun r => (some (.int r.1), r.2)) g (fA_D_cover a1 g) := by
  refine go_enter rfl rfl (Nat.le_of_ble_eq_true rfl) (lv := [(0, .ref (E.1 0)), (1, .int a1)]) rfl ?_
  unfold fA_D_cover
  refine go_aload_n td_X11_cover 0 rfl (q := 1) rfl 0 rfl ?_
  refine go_iload_n td_X11_cover 1 rfl (q := 2) rfl 1 rfl ?_
  refine go_callV td_X11_cover 2 rfl (q := 5) rfl (XkA E) lk_X11_266 (ok_fA_D_isTick E a1 g) ⟨rfl, rfl, Nat.le_of_ble_eq_true rfl, Nat.le_of_ble_eq_true rfl⟩ rfl rfl (Nat.le_of_ble_eq_true rfl) (Ac_0 E g) rfl (fun x1 => ?_)
  show Go (wCA E) _ _ g 5 _ [.int x1] _
  refine go_if_ne 10 td_X11_cover 3 rfl rfl (q := 8) rfl (fun _ => ?_) (fun _ => ?_)
  · refine go_aload_n td_X11_cover 6 rfl (q := 11) rfl 0 rfl ?_
    refine go_callV td_X11_cover 7 rfl (q := 14) rfl (XkA E) lk_X11_247 (ok_fA_D_look E g) ⟨rfl, rfl, Nat.le_of_ble_eq_true rfl, Nat.le_of_ble_eq_true rfl⟩ rfl rfl (Nat.le_of_ble_eq_true rfl) (Ac_0 E g) rfl (fun x2 => ?_)
    show Go (wCA E) _ _ x2 14 _ [] _
    refine go_aload_n td_X11_cover 8 rfl (q := 15) rfl 0 rfl ?_
    refine go_get td_X11_cover 9 rfl (q := 18) rfl fl_X11_57 (Ac_0 E x2) rfl ?_
    refine go_aload_n td_X11_cover 10 rfl (q := 19) rfl 0 rfl ?_
    refine go_iload_n td_X11_cover 11 rfl (q := 20) rfl 1 rfl ?_
    refine go_callV td_X11_cover 12 rfl (q := 23) rfl (XkA E) lk_X11_269 (ok_fA_D_inCycle E a1 x2) ⟨rfl, rfl, Nat.le_of_ble_eq_true rfl, Nat.le_of_ble_eq_true rfl⟩ rfl rfl (Nat.le_of_ble_eq_true rfl) (Ac_0 E x2) rfl (fun x3 => ?_)
    show Go (wCA E) _ _ x2 23 _ [.int x3, .ref (E.1 118)] _
    refine go_callV td_X11_cover 13 rfl (q := 26) rfl (XkA E) lk_X11_326 (ok_fA_Sky_coverAt E x3 x2) ⟨rfl, rfl, Nat.le_of_ble_eq_true rfl, Nat.le_of_ble_eq_true rfl⟩ rfl rfl (Nat.le_of_ble_eq_true rfl) (Ac_118 E x2) rfl (fun x4 => ?_)
    show Go (wCA E) _ _ x2 26 _ [.float x4] _
    refine go_callS td_X11_cover 14 rfl (q := 29) rfl (XkA E) lk_X11_330 (ok_fA_D_floatBits E x4 x2) ⟨rfl, rfl, Nat.le_of_ble_eq_true rfl, Nat.le_of_ble_eq_true rfl⟩ rfl rfl (Nat.le_of_ble_eq_true rfl) (fun x5 => ?_)
    show Go (wCA E) _ _ x2 29 _ [.int x5] _
    exact go_iret td_X11_cover 15 rfl rfl rfl
  · refine go_iconst td_X11_cover 4 rfl (q := 9) rfl kc_m1 ?_
    exact go_iret td_X11_cover 5 rfl rfl rfl
def fA_Sky_meanCover (g : G) : Option (UInt32) := (if 0 < (g.1 303) then bv (FP.i2f (g.1 303)) fun x1 => Lp (α := UInt32 × Int32) (fun rec2 s2 => (if (g.1 303) ≤ s2.2 then some s2.1 else Option.bind (fA_Sky_coverAt s2.2 g) fun x3 => nf (FP.fdiv x3 x1) (nf (FP.fadd s2.1 (FP.fdiv x3 x1)) (bv (FP.fadd s2.1 (FP.fdiv x3 x1)) fun x4 => rec2 (x4, s2.2 + 1))))) FU (FP.fconst0, 0) else some FP.fconst0)
set_option maxRecDepth 20000 in
set_option maxHeartbeats 4000000 in
theorem ok_fA_Sky_meanCover (E : Ev)  (g : G)  : Ct (wCA E) yX6_meanCover mi_X6_meanCover [.ref (E.1 118)] (fun r => (some (.float r), g)) g (fA_Sky_meanCover g) := by
  refine go_enter rfl rfl (Nat.le_of_ble_eq_true rfl) (lv := [(0, .ref (E.1 118))]) rfl ?_
  unfold fA_Sky_meanCover
  refine go_aload_n td_X6_meanCover 0 rfl (q := 1) rfl 0 rfl ?_
  refine go_get td_X6_meanCover 1 rfl (q := 4) rfl fl_X6_53 (Ac_118 E g) rfl ?_
  refine go_get td_X6_meanCover 2 rfl (q := 7) rfl fl_X6_106 (Ac_3 E g) rfl ?_
  refine go_if_gt 12 td_X6_meanCover 3 rfl rfl (q := 10) rfl (fun _ => ?_) (fun _ => ?_)
  · refine go_aload_n td_X6_meanCover 6 rfl (q := 13) rfl 0 rfl ?_
    refine go_get td_X6_meanCover 7 rfl (q := 16) rfl fl_X6_53 (Ac_118 E g) rfl ?_
    refine go_get td_X6_meanCover 8 rfl (q := 19) rfl fl_X6_106 (Ac_3 E g) rfl ?_
    refine go_i2f td_X6_meanCover 9 rfl (q := 20) rfl ?_
    refine go_bvf (fun x1 => ?_)
    refine go_fstore_n [(1, .float x1), (0, .ref (E.1 118))] td_X6_meanCover 10 rfl (q := 21) rfl (Nat.le_of_ble_eq_true rfl) rfl ?_
    refine go_fconst0 td_X6_meanCover 11 rfl (q := 22) rfl ?_
    refine go_fstore_n [(2, .float FP.fconst0), (1, .float x1), (0, .ref (E.1 118))] td_X6_meanCover 12 rfl (q := 23) rfl (Nat.le_of_ble_eq_true rfl) rfl ?_
    refine go_iconst td_X6_meanCover 13 rfl (q := 24) rfl kc_0 ?_
    refine go_istore_n [(3, .int 0), (2, .float FP.fconst0), (1, .float x1), (0, .ref (E.1 118))] td_X6_meanCover 14 rfl (q := 25) rfl (Nat.le_of_ble_eq_true rfl) rfl ?_
    refine go_pick [3, 2, 1, 0] (lv' := [(0, .ref (E.1 118)), (1, .float x1), (2, .float FP.fconst0), (3, .int 0)]) rfl ?_
    refine (show ∀ (u2_0 : UInt32) (u2_1 : Int32), Go (wCA E) _ _ g 25 [(0, .ref (E.1 118)), (1, .float x1), (2, .float u2_0), (3, .int u2_1)] [] (Lp (α := UInt32 × Int32) _ FU (u2_0, u2_1)) from ?_) FP.fconst0 0
    intro u2_0 u2_1
    refine go_Lp (α := UInt32 × Int32) (fun s2 => g) (fun s2 => [(0, .ref (E.1 118)), (1, .float x1), (2, .float s2.1), (3, .int s2.2)]) ?_ FU (u2_0, u2_1)
    intro rec2 hrec2 s2
    have krec2 : ∀ (u2_0 : UInt32) (u2_1 : Int32), Go (wCA E) _ _ g 25 [(0, .ref (E.1 118)), (1, .float x1), (2, .float u2_0), (3, .int u2_1)] [] (rec2 (u2_0, u2_1)) := fun u2_0 u2_1 => hrec2 (u2_0, u2_1)
    refine go_iload_n td_X6_meanCover 15 rfl (q := 26) rfl 3 rfl ?_
    refine go_aload_n td_X6_meanCover 16 rfl (q := 27) rfl 0 rfl ?_
    refine go_get td_X6_meanCover 17 rfl (q := 30) rfl fl_X6_53 (Ac_118 E g) rfl ?_
    refine go_get td_X6_meanCover 18 rfl (q := 33) rfl fl_X6_106 (Ac_3 E g) rfl ?_
    refine go_icmp_ge 52 td_X6_meanCover 19 rfl rfl (q := 36) rfl (fun _ => ?_) (fun _ => ?_)
    · refine go_fload_n td_X6_meanCover 30 rfl (q := 53) rfl 2 rfl ?_
      exact go_fret td_X6_meanCover 31 rfl rfl rfl
    · refine go_fload_n td_X6_meanCover 20 rfl (q := 37) rfl 2 rfl ?_
      refine go_aload_n td_X6_meanCover 21 rfl (q := 38) rfl 0 rfl ?_
      refine go_iload_n td_X6_meanCover 22 rfl (q := 39) rfl 3 rfl ?_
      refine go_callV td_X6_meanCover 23 rfl (q := 42) rfl (XkA E) lk_X6_164 (ok_fA_Sky_coverAt E s2.2 g) ⟨rfl, rfl, Nat.le_of_ble_eq_true rfl, Nat.le_of_ble_eq_true rfl⟩ rfl rfl (Nat.le_of_ble_eq_true rfl) (Ac_118 E g) rfl (fun x3 => ?_)
      show Go (wCA E) _ _ g 42 _ [.float x3, .float s2.1] _
      refine go_fload_n td_X6_meanCover 24 rfl (q := 43) rfl 1 rfl ?_
      refine go_fdiv td_X6_meanCover 25 rfl (q := 44) rfl ?_
      refine go_fadd td_X6_meanCover 26 rfl (q := 45) rfl ?_
      refine go_bvf (fun x4 => ?_)
      refine go_fstore_n [(2, .float x4), (0, .ref (E.1 118)), (1, .float x1), (3, .int s2.2)] td_X6_meanCover 27 rfl (q := 46) rfl (Nat.le_of_ble_eq_true rfl) rfl ?_
      refine go_iinc [(3, .int (s2.2 + 1)), (2, .float x4), (0, .ref (E.1 118)), (1, .float x1)] td_X6_meanCover 28 rfl (q := 49) rfl 3 rfl kc_1 (Nat.le_of_ble_eq_true rfl) rfl ?_
      refine go_goto td_X6_meanCover 29 rfl (q := 25) rfl ?_
      refine go_pick [2, 3, 1, 0] (lv' := [(0, .ref (E.1 118)), (1, .float x1), (2, .float x4), (3, .int (s2.2 + 1))]) rfl ?_
      exact krec2 x4 (s2.2 + 1)
  · refine go_fconst0 td_X6_meanCover 4 rfl (q := 11) rfl ?_
    exact go_fret td_X6_meanCover 5 rfl rfl rfl
