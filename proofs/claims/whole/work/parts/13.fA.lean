def fA_D_score (g : G) : Option (Int32 × G) := Option.bind (fA_Plan_stands g) fun x1 => (if x1 = 0 then some ((-1), g) else Option.bind (fA_D_look g) fun x2 => Option.bind (fA_Sky_meanCover x2) fun x3 => Option.bind (fA_D_floatBits x3 x2) fun x4 => some (x4, x2))
set_option maxRecDepth 20000 in
set_option maxHeartbeats 4000000 in
theorem ok_fA_D_score (E : Ev)  (g : G)  : Ct (wCA E) yX11_score mi_X11_score [.ref (E.1 0)] (fun r => (some (.int r.1), r.2)) g (fA_D_score g) := by
  refine go_enter rfl rfl (Nat.le_of_ble_eq_true rfl) (lv := [(0, .ref (E.1 0))]) rfl ?_
  unfold fA_D_score
  refine go_aload_n td_X11_score 0 rfl (q := 1) rfl 0 rfl ?_
  refine go_get td_X11_score 1 rfl (q := 4) rfl fl_X11_19 (Ac_0 E g) rfl ?_
  refine go_callV td_X11_score 2 rfl (q := 7) rfl (XkA E) lk_X11_334 (ok_fA_Plan_stands E g) ⟨rfl, rfl, Nat.le_of_ble_eq_true rfl, Nat.le_of_ble_eq_true rfl⟩ rfl rfl (Nat.le_of_ble_eq_true rfl) (Ac_3 E g) rfl (fun x1 => ?_)
  show Go (wCA E) _ _ g 7 _ [.int x1] _
  refine go_if_ne 12 td_X11_score 3 rfl rfl (q := 10) rfl (fun _ => ?_) (fun _ => ?_)
  · refine go_aload_n td_X11_score 6 rfl (q := 13) rfl 0 rfl ?_
    refine go_callV td_X11_score 7 rfl (q := 16) rfl (XkA E) lk_X11_247 (ok_fA_D_look E g) ⟨rfl, rfl, Nat.le_of_ble_eq_true rfl, Nat.le_of_ble_eq_true rfl⟩ rfl rfl (Nat.le_of_ble_eq_true rfl) (Ac_0 E g) rfl (fun x2 => ?_)
    show Go (wCA E) _ _ x2 16 _ [] _
    refine go_aload_n td_X11_score 8 rfl (q := 17) rfl 0 rfl ?_
    refine go_get td_X11_score 9 rfl (q := 20) rfl fl_X11_57 (Ac_0 E x2) rfl ?_
    refine go_callV td_X11_score 10 rfl (q := 23) rfl (XkA E) lk_X11_337 (ok_fA_Sky_meanCover E x2) ⟨rfl, rfl, Nat.le_of_ble_eq_true rfl, Nat.le_of_ble_eq_true rfl⟩ rfl rfl (Nat.le_of_ble_eq_true rfl) (Ac_118 E x2) rfl (fun x3 => ?_)
    show Go (wCA E) _ _ x2 23 _ [.float x3] _
    refine go_callS td_X11_score 11 rfl (q := 26) rfl (XkA E) lk_X11_330 (ok_fA_D_floatBits E x3 x2) ⟨rfl, rfl, Nat.le_of_ble_eq_true rfl, Nat.le_of_ble_eq_true rfl⟩ rfl rfl (Nat.le_of_ble_eq_true rfl) (fun x4 => ?_)
    show Go (wCA E) _ _ x2 26 _ [.int x4] _
    exact go_iret td_X11_score 12 rfl rfl rfl
  · refine go_iconst td_X11_score 4 rfl (q := 11) rfl kc_m1 ?_
    exact go_iret td_X11_score 5 rfl rfl rfl
def fA_Integer_numberOfTrailingZeros (a1 : Int32) (g : G) : Option (Int32) := bv ((a1 ^^^ (-1)) &&& (a1 - 1)) fun x1 => (if 0 < x1 then lj (α := Int32 × Int32) (fun b2 => lj (α := Int32 × Int32) (fun b3 => lj (α := Int32 × Int32) (fun b4 => lj (α := Int32 × Int32) (fun b5 => some (b5.2 + (((b5.1 : Int32).toUInt32 >>> ((1 : Int32).toUInt32 &&& Int32.toUInt32 31)).toInt32))) fun J5 => (if b4.1 ≤ 4 then J5 (b4.1, b4.2) else bv (((b4.1 : Int32).toUInt32 >>> ((2 : Int32).toUInt32 &&& Int32.toUInt32 31)).toInt32) fun x6 => J5 (x6, b4.2 + 2))) fun J4 => (if b3.1 ≤ 16 then J4 (b3.1, b3.2) else bv (((b3.1 : Int32).toUInt32 >>> ((4 : Int32).toUInt32 &&& Int32.toUInt32 31)).toInt32) fun x7 => J4 (x7, b3.2 + 4))) fun J3 => (if b2.1 ≤ 256 then J3 (b2.1, b2.2) else bv (((b2.1 : Int32).toUInt32 >>> ((8 : Int32).toUInt32 &&& Int32.toUInt32 31)).toInt32) fun x8 => J3 (x8, b2.2 + 8))) fun J2 => (if x1 ≤ 65536 then J2 (x1, 1) else bv (((x1 : Int32).toUInt32 >>> ((16 : Int32).toUInt32 &&& Int32.toUInt32 31)).toInt32) fun x9 => J2 (x9, 1 + 16)) else some (x1 &&& 32))
set_option maxRecDepth 20000 in
set_option maxHeartbeats 4000000 in
theorem ok_fA_Integer_numberOfTrailingZeros (E : Ev) (a1 : Int32) (g : G)  : Ct (wCA E) yJ6_numberOfTrailingZeros_0f7a4 mi_J6_numberOfTrailingZeros_0f7a4 [.int a1] (fun r => (some (.int r), g)) g (fA_Integer_numberOfTrailingZeros a1 g) := by
  refine go_enter rfl rfl (Nat.le_of_ble_eq_true rfl) (lv := [(0, .int a1)]) rfl ?_
  unfold fA_Integer_numberOfTrailingZeros
  refine go_iload_n td_J6_numberOfTrailingZeros_0f7a4 0 rfl (q := 1) rfl 0 rfl ?_
  refine go_iconst td_J6_numberOfTrailingZeros_0f7a4 1 rfl (q := 2) rfl kc_m1 ?_
  refine go_ixor td_J6_numberOfTrailingZeros_0f7a4 2 rfl (q := 3) rfl ?_
  refine go_iload_n td_J6_numberOfTrailingZeros_0f7a4 3 rfl (q := 4) rfl 0 rfl ?_
  refine go_iconst td_J6_numberOfTrailingZeros_0f7a4 4 rfl (q := 5) rfl kc_1 ?_
  refine go_isub td_J6_numberOfTrailingZeros_0f7a4 5 rfl (q := 6) rfl ?_
  refine go_iand td_J6_numberOfTrailingZeros_0f7a4 6 rfl (q := 7) rfl ?_
  refine go_bvi (fun x1 => ?_)
  refine go_istore_n [(0, .int x1)] td_J6_numberOfTrailingZeros_0f7a4 7 rfl (q := 8) rfl (Nat.le_of_ble_eq_true rfl) rfl ?_
  refine go_iload_n td_J6_numberOfTrailingZeros_0f7a4 8 rfl (q := 9) rfl 0 rfl ?_
  refine go_if_gt 17 td_J6_numberOfTrailingZeros_0f7a4 9 rfl rfl (q := 12) rfl (fun _ => ?_) (fun _ => ?_)
  · refine go_iconst td_J6_numberOfTrailingZeros_0f7a4 14 rfl (q := 18) rfl kc_1 ?_
    refine go_istore_n [(1, .int 1), (0, .int x1)] td_J6_numberOfTrailingZeros_0f7a4 15 rfl (q := 19) rfl (Nat.le_of_ble_eq_true rfl) rfl ?_
    refine go_iload_n td_J6_numberOfTrailingZeros_0f7a4 16 rfl (q := 20) rfl 1 rfl ?_
    refine go_ldcw td_J6_numberOfTrailingZeros_0f7a4 17 rfl (q := 23) rfl cn_J6_264 ?_
    refine go_ljX (α := Int32 × Int32) (fun b2 => [(0, .int b2.1), (1, .int b2.2)]) (fun b2 => []) (fun b2 => g) 34 ?_ ?_
    · intro b2
      refine go_iload_n td_J6_numberOfTrailingZeros_0f7a4 24 rfl (q := 35) rfl 0 rfl ?_
      refine go_sipush td_J6_numberOfTrailingZeros_0f7a4 25 rfl (q := 38) rfl ks_256 ?_
      refine go_ljX (α := Int32 × Int32) (fun b3 => [(0, .int b3.1), (1, .int b3.2)]) (fun b3 => []) (fun b3 => g) 49 ?_ ?_
      · intro b3
        refine go_iload_n td_J6_numberOfTrailingZeros_0f7a4 32 rfl (q := 50) rfl 0 rfl ?_
        refine go_bipush td_J6_numberOfTrailingZeros_0f7a4 33 rfl (q := 52) rfl kb_16 ?_
        refine go_ljX (α := Int32 × Int32) (fun b4 => [(0, .int b4.1), (1, .int b4.2)]) (fun b4 => []) (fun b4 => g) 62 ?_ ?_
        · intro b4
          refine go_iload_n td_J6_numberOfTrailingZeros_0f7a4 40 rfl (q := 63) rfl 0 rfl ?_
          refine go_iconst td_J6_numberOfTrailingZeros_0f7a4 41 rfl (q := 64) rfl kc_4 ?_
          refine go_ljX (α := Int32 × Int32) (fun b5 => [(0, .int b5.1), (1, .int b5.2)]) (fun b5 => []) (fun b5 => g) 74 ?_ ?_
          · intro b5
            refine go_iload_n td_J6_numberOfTrailingZeros_0f7a4 48 rfl (q := 75) rfl 1 rfl ?_
            refine go_iload_n td_J6_numberOfTrailingZeros_0f7a4 49 rfl (q := 76) rfl 0 rfl ?_
            refine go_iconst td_J6_numberOfTrailingZeros_0f7a4 50 rfl (q := 77) rfl kc_1 ?_
            refine go_iushr td_J6_numberOfTrailingZeros_0f7a4 51 rfl (q := 78) rfl ?_
            refine go_iadd td_J6_numberOfTrailingZeros_0f7a4 52 rfl (q := 79) rfl ?_
            exact go_iret td_J6_numberOfTrailingZeros_0f7a4 53 rfl rfl rfl
          intro J5 hJ5
          have kJ5 : ∀ (u5_0 : Int32) (u5_1 : Int32), Go (wCA E) _ _ g 74 [(0, .int u5_0), (1, .int u5_1)] [] (J5 (u5_0, u5_1)) := fun u5_0 u5_1 => hJ5 (u5_0, u5_1)
          refine go_icmp_le 74 td_J6_numberOfTrailingZeros_0f7a4 42 rfl rfl (q := 67) rfl (fun _ => ?_) (fun _ => ?_)
          · refine go_pick [0, 1] (lv' := [(0, .int b4.1), (1, .int b4.2)]) rfl ?_
            exact kJ5 b4.1 b4.2
          · refine go_iinc [(1, .int (b4.2 + 2)), (0, .int b4.1)] td_J6_numberOfTrailingZeros_0f7a4 43 rfl (q := 70) rfl 1 rfl kc_2 (Nat.le_of_ble_eq_true rfl) rfl ?_
            refine go_iload_n td_J6_numberOfTrailingZeros_0f7a4 44 rfl (q := 71) rfl 1 rfl ?_
            refine go_iconst td_J6_numberOfTrailingZeros_0f7a4 45 rfl (q := 72) rfl kc_2 ?_
            refine go_iushr td_J6_numberOfTrailingZeros_0f7a4 46 rfl (q := 73) rfl ?_
            refine go_bvi (fun x6 => ?_)
            refine go_istore_n [(0, .int x6), (1, .int (b4.2 + 2))] td_J6_numberOfTrailingZeros_0f7a4 47 rfl (q := 74) rfl (Nat.le_of_ble_eq_true rfl) rfl ?_
            refine go_pick [0, 1] (lv' := [(0, .int x6), (1, .int (b4.2 + 2))]) rfl ?_
            exact kJ5 x6 (b4.2 + 2)
        intro J4 hJ4
        have kJ4 : ∀ (u4_0 : Int32) (u4_1 : Int32), Go (wCA E) _ _ g 62 [(0, .int u4_0), (1, .int u4_1)] [] (J4 (u4_0, u4_1)) := fun u4_0 u4_1 => hJ4 (u4_0, u4_1)
        refine go_icmp_le 62 td_J6_numberOfTrailingZeros_0f7a4 34 rfl rfl (q := 55) rfl (fun _ => ?_) (fun _ => ?_)
        · refine go_pick [0, 1] (lv' := [(0, .int b3.1), (1, .int b3.2)]) rfl ?_
          exact kJ4 b3.1 b3.2
        · refine go_iinc [(1, .int (b3.2 + 4)), (0, .int b3.1)] td_J6_numberOfTrailingZeros_0f7a4 35 rfl (q := 58) rfl 1 rfl kc_4 (Nat.le_of_ble_eq_true rfl) rfl ?_
          refine go_iload_n td_J6_numberOfTrailingZeros_0f7a4 36 rfl (q := 59) rfl 1 rfl ?_
          refine go_iconst td_J6_numberOfTrailingZeros_0f7a4 37 rfl (q := 60) rfl kc_4 ?_
          refine go_iushr td_J6_numberOfTrailingZeros_0f7a4 38 rfl (q := 61) rfl ?_
          refine go_bvi (fun x7 => ?_)
          refine go_istore_n [(0, .int x7), (1, .int (b3.2 + 4))] td_J6_numberOfTrailingZeros_0f7a4 39 rfl (q := 62) rfl (Nat.le_of_ble_eq_true rfl) rfl ?_
          refine go_pick [0, 1] (lv' := [(0, .int x7), (1, .int (b3.2 + 4))]) rfl ?_
          exact kJ4 x7 (b3.2 + 4)
      intro J3 hJ3
      have kJ3 : ∀ (u3_0 : Int32) (u3_1 : Int32), Go (wCA E) _ _ g 49 [(0, .int u3_0), (1, .int u3_1)] [] (J3 (u3_0, u3_1)) := fun u3_0 u3_1 => hJ3 (u3_0, u3_1)
      refine go_icmp_le 49 td_J6_numberOfTrailingZeros_0f7a4 26 rfl rfl (q := 41) rfl (fun _ => ?_) (fun _ => ?_)
      · refine go_pick [0, 1] (lv' := [(0, .int b2.1), (1, .int b2.2)]) rfl ?_
        exact kJ3 b2.1 b2.2
      · refine go_iinc [(1, .int (b2.2 + 8)), (0, .int b2.1)] td_J6_numberOfTrailingZeros_0f7a4 27 rfl (q := 44) rfl 1 rfl kc_8 (Nat.le_of_ble_eq_true rfl) rfl ?_
        refine go_iload_n td_J6_numberOfTrailingZeros_0f7a4 28 rfl (q := 45) rfl 1 rfl ?_
        refine go_bipush td_J6_numberOfTrailingZeros_0f7a4 29 rfl (q := 47) rfl kb_8 ?_
        refine go_iushr td_J6_numberOfTrailingZeros_0f7a4 30 rfl (q := 48) rfl ?_
        refine go_bvi (fun x8 => ?_)
        refine go_istore_n [(0, .int x8), (1, .int (b2.2 + 8))] td_J6_numberOfTrailingZeros_0f7a4 31 rfl (q := 49) rfl (Nat.le_of_ble_eq_true rfl) rfl ?_
        refine go_pick [0, 1] (lv' := [(0, .int x8), (1, .int (b2.2 + 8))]) rfl ?_
        exact kJ3 x8 (b2.2 + 8)
    intro J2 hJ2
    have kJ2 : ∀ (u2_0 : Int32) (u2_1 : Int32), Go (wCA E) _ _ g 34 [(0, .int u2_0), (1, .int u2_1)] [] (J2 (u2_0, u2_1)) := fun u2_0 u2_1 => hJ2 (u2_0, u2_1)
    refine go_icmp_le 34 td_J6_numberOfTrailingZeros_0f7a4 18 rfl rfl (q := 26) rfl (fun _ => ?_) (fun _ => ?_)
    · refine go_pick [1, 0] (lv' := [(0, .int x1), (1, .int 1)]) rfl ?_
      exact kJ2 x1 1
    · refine go_iinc [(1, .int (1 + 16)), (0, .int x1)] td_J6_numberOfTrailingZeros_0f7a4 19 rfl (q := 29) rfl 0 rfl kc_16 (Nat.le_of_ble_eq_true rfl) rfl ?_
      refine go_iload_n td_J6_numberOfTrailingZeros_0f7a4 20 rfl (q := 30) rfl 1 rfl ?_
      refine go_bipush td_J6_numberOfTrailingZeros_0f7a4 21 rfl (q := 32) rfl kb_16 ?_
      refine go_iushr td_J6_numberOfTrailingZeros_0f7a4 22 rfl (q := 33) rfl ?_
      refine go_bvi (fun x9 => ?_)
      refine go_istore_n [(0, .int x9), (1, .int (1 + 16))] td_J6_numberOfTrailingZeros_0f7a4 23 rfl (q := 34) rfl (Nat.le_of_ble_eq_true rfl) rfl ?_
      refine go_pick [0, 1] (lv' := [(0, .int x9), (1, .int (1 + 16))]) rfl ?_
      exact kJ2 x9 (1 + 16)
  · refine go_iload_n td_J6_numberOfTrailingZeros_0f7a4 10 rfl (q := 13) rfl 0 rfl ?_
    refine go_bipush td_J6_numberOfTrailingZeros_0f7a4 11 rfl (q := 15) rfl kb_32 ?_
    refine go_iand td_J6_numberOfTrailingZeros_0f7a4 12 rfl (q := 16) rfl ?_
    exact go_iret td_J6_numberOfTrailingZeros_0f7a4 13 rfl rfl rfl
def fA_Sky_findLastSights (a1 : Int32) (g : G) : Option (Int32 × G) := bv ((g.1 303) - 1) fun x1 => Lp (α := Int32 × Int32 × G) (fun rec2 s2 => lj (α := Unit) (fun b3 => (if s2.1 = (s2.2.2.1 11801) then some (1, s2.2.2) else some (0, s2.2.2))) fun J3 => (if s2.2.1 < 0 then J3 () else (if s2.1 = (s2.2.2.1 11801) then J3 () else ag 2880 (s2.2.2.2.1 128) ((a1 * 240) + s2.2.1) fun x4 => bv (x4 &&& (s2.1 ^^^ (-1))) fun x5 => bv (s2.1 ||| x5) fun x6 => Option.bind (fA_Integer_bitCount x5 s2.2.2) fun x7 => Lp (α := Int32 × Int32 × G) (fun rec8 s8 => (if s8.2.1 ≤ 0 then rec2 (x6, s2.2.1 + m1, s8.2.2) else Option.bind (fA_Integer_numberOfTrailingZeros s8.1 s8.2.2) fun x9 => ck 24 x9 (bv (sA s8.2.2 129 (x9 : Int32).toNatClampNeg ((s2.2.1 + 1) - (s8.2.2.1 303))) fun g10 => bv (s8.1 &&& (s8.1 - 1)) fun x11 => rec8 (x11, s8.2.1 + m1, g10)))) FU (x5, x7, s2.2.2)))) FU (0, x1, g)
set_option maxRecDepth 20000 in
set_option maxHeartbeats 4000000 in
theorem ok_fA_Sky_findLastSights (E : Ev) (a1 : Int32) (g : G)  : Ct (wCA E) yX6_findLastSights mi_X6_findLastSights [.ref (E.1 118), .int a1] (fun r => (some (.int r.1), r.2)) g (fA_Sky_findLastSights a1 g) := by
  refine go_enter rfl rfl (Nat.le_of_ble_eq_true rfl) (lv := [(0, .ref (E.1 118)), (1, .int a1)]) rfl ?_
  unfold fA_Sky_findLastSights
  refine go_iconst td_X6_findLastSights 0 rfl (q := 1) rfl kc_0 ?_
  refine go_istore_n [(2, .int 0), (0, .ref (E.1 118)), (1, .int a1)] td_X6_findLastSights 1 rfl (q := 2) rfl (Nat.le_of_ble_eq_true rfl) rfl ?_
  refine go_aload_n td_X6_findLastSights 2 rfl (q := 3) rfl 1 rfl ?_
  refine go_get td_X6_findLastSights 3 rfl (q := 6) rfl fl_X6_53 (Ac_118 E g) rfl ?_
  refine go_get td_X6_findLastSights 4 rfl (q := 9) rfl fl_X6_106 (Ac_3 E g) rfl ?_
  refine go_iconst td_X6_findLastSights 5 rfl (q := 10) rfl kc_1 ?_
  refine go_isub td_X6_findLastSights 6 rfl (q := 11) rfl ?_
  refine go_bvi (fun x1 => ?_)
  refine go_istore_n [(3, .int x1), (2, .int 0), (0, .ref (E.1 118)), (1, .int a1)] td_X6_findLastSights 7 rfl (q := 12) rfl (Nat.le_of_ble_eq_true rfl) rfl ?_
  refine go_pick [2, 3, 1, 0] (lv' := [(0, .ref (E.1 118)), (1, .int a1), (2, .int 0), (3, .int x1)]) rfl ?_
  refine (show ∀ (u2_0 : Int32) (u2_1 : Int32) (u2_2 : G), Go (wCA E) _ _ u2_2 12 [(0, .ref (E.1 118)), (1, .int a1), (2, .int u2_0), (3, .int u2_1)] [] (Lp (α := Int32 × Int32 × G) _ FU (u2_0, u2_1, u2_2)) from ?_) 0 x1 g
  intro u2_0 u2_1 u2_2
  refine go_Lp (α := Int32 × Int32 × G) (fun s2 => s2.2.2) (fun s2 => [(0, .ref (E.1 118)), (1, .int a1), (2, .int s2.1), (3, .int s2.2.1)]) ?_ FU (u2_0, u2_1, u2_2)
  intro rec2 hrec2 s2
  have krec2 : ∀ (u2_0 : Int32) (u2_1 : Int32) (u2_2 : G), Go (wCA E) _ _ u2_2 12 [(0, .ref (E.1 118)), (1, .int a1), (2, .int u2_0), (3, .int u2_1)] [] (rec2 (u2_0, u2_1, u2_2)) := fun u2_0 u2_1 u2_2 => hrec2 (u2_0, u2_1, u2_2)
  refine go_iload_n td_X6_findLastSights 8 rfl (q := 13) rfl 3 rfl ?_
  refine go_ljX (α := Unit) (fun b3 => [(0, .ref (E.1 118)), (2, .int s2.1)]) (fun b3 => []) (fun b3 => s2.2.2) 101 ?_ ?_
  · intro b3
    refine go_iload_n td_X6_findLastSights 58 rfl (q := 102) rfl 1 rfl ?_
    refine go_aload_n td_X6_findLastSights 59 rfl (q := 103) rfl 0 rfl ?_
    refine go_get td_X6_findLastSights 60 rfl (q := 106) rfl fl_X6_9 (Ac_118 E s2.2.2) rfl ?_
    refine go_icmp_ne 113 td_X6_findLastSights 61 rfl rfl (q := 109) rfl (fun _ => ?_) (fun _ => ?_)
    · refine go_iconst td_X6_findLastSights 64 rfl (q := 114) rfl kc_0 ?_
      exact go_zret td_X6_findLastSights 65 rfl rfl rfl rfl
    · refine go_iconst td_X6_findLastSights 62 rfl (q := 110) rfl kc_1 ?_
      refine go_goto td_X6_findLastSights 63 rfl (q := 114) rfl ?_
      exact go_zret td_X6_findLastSights 65 rfl rfl rfl rfl
  intro J3 hJ3
  have kJ3 : Go (wCA E) _ _ s2.2.2 101 [(0, .ref (E.1 118)), (2, .int s2.1)] [] (J3 ()) := hJ3 ()
  refine go_if_lt 101 td_X6_findLastSights 9 rfl rfl (q := 16) rfl (fun _ => ?_) (fun _ => ?_)
  · refine go_pick [0, 2] (lv' := [(0, .ref (E.1 118)), (2, .int s2.1)]) rfl ?_
    exact kJ3 
  · refine go_iload_n td_X6_findLastSights 10 rfl (q := 17) rfl 2 rfl ?_
    refine go_aload_n td_X6_findLastSights 11 rfl (q := 18) rfl 0 rfl ?_
    refine go_get td_X6_findLastSights 12 rfl (q := 21) rfl fl_X6_9 (Ac_118 E s2.2.2) rfl ?_
    refine go_icmp_eq 101 td_X6_findLastSights 13 rfl rfl (q := 24) rfl (fun _ => ?_) (fun _ => ?_)
    · refine go_pick [0, 2] (lv' := [(0, .ref (E.1 118)), (2, .int s2.1)]) rfl ?_
      exact kJ3 
    · refine go_aload_n td_X6_findLastSights 14 rfl (q := 25) rfl 0 rfl ?_
      refine go_get td_X6_findLastSights 15 rfl (q := 28) rfl fl_X6_47 (Ac_118 E s2.2.2) rfl ?_
      refine go_iload_n td_X6_findLastSights 16 rfl (q := 29) rfl 1 rfl ?_
      refine go_sipush td_X6_findLastSights 17 rfl (q := 32) rfl ks_240 ?_
      refine go_imul td_X6_findLastSights 18 rfl (q := 33) rfl ?_
      refine go_iload_n td_X6_findLastSights 19 rfl (q := 34) rfl 3 rfl ?_
      refine go_iadd td_X6_findLastSights 20 rfl (q := 35) rfl ?_
      refine go_ald td_X6_findLastSights 21 rfl (q := 36) rfl (Ac_128 E s2.2.2) (t0 := 0) rfl (fun x4 => ?_)
      refine go_iload_n td_X6_findLastSights 22 rfl (q := 37) rfl 2 rfl ?_
      refine go_iconst td_X6_findLastSights 23 rfl (q := 38) rfl kc_m1 ?_
      refine go_ixor td_X6_findLastSights 24 rfl (q := 39) rfl ?_
      refine go_iand td_X6_findLastSights 25 rfl (q := 40) rfl ?_
      refine go_bvi (fun x5 => ?_)
      refine go_istore [(4, .int x5), (0, .ref (E.1 118)), (1, .int a1), (2, .int s2.1), (3, .int s2.2.1)] td_X6_findLastSights 26 rfl (q := 42) rfl (Nat.le_of_ble_eq_true rfl) rfl ?_
      refine go_iload_n td_X6_findLastSights 27 rfl (q := 43) rfl 3 rfl ?_
      refine go_iload td_X6_findLastSights 28 rfl (q := 45) rfl 0 rfl ?_
      refine go_ior td_X6_findLastSights 29 rfl (q := 46) rfl ?_
      refine go_bvi (fun x6 => ?_)
      refine go_istore_n [(2, .int x6), (4, .int x5), (0, .ref (E.1 118)), (1, .int a1), (3, .int s2.2.1)] td_X6_findLastSights 30 rfl (q := 47) rfl (Nat.le_of_ble_eq_true rfl) rfl ?_
      refine go_iload td_X6_findLastSights 31 rfl (q := 49) rfl 1 rfl ?_
      refine go_callS td_X6_findLastSights 32 rfl (q := 52) rfl (XkA E) lk_X6_156 (ok_fA_Integer_bitCount E x5 s2.2.2) ⟨rfl, rfl, Nat.le_of_ble_eq_true rfl, Nat.le_of_ble_eq_true rfl⟩ rfl rfl (Nat.le_of_ble_eq_true rfl) (fun x7 => ?_)
      show Go (wCA E) _ _ s2.2.2 52 _ [.int x7] _
      refine go_istore [(5, .int x7), (2, .int x6), (4, .int x5), (0, .ref (E.1 118)), (1, .int a1), (3, .int s2.2.1)] td_X6_findLastSights 33 rfl (q := 54) rfl (Nat.le_of_ble_eq_true rfl) rfl ?_
      refine go_pick [3, 4, 1, 5, 2, 0] (lv' := [(0, .ref (E.1 118)), (1, .int a1), (2, .int x6), (3, .int s2.2.1), (4, .int x5), (5, .int x7)]) rfl ?_
      refine (show ∀ (u8_0 : Int32) (u8_1 : Int32) (u8_2 : G), Go (wCA E) _ _ u8_2 54 [(0, .ref (E.1 118)), (1, .int a1), (2, .int x6), (3, .int s2.2.1), (4, .int u8_0), (5, .int u8_1)] [] (Lp (α := Int32 × Int32 × G) _ FU (u8_0, u8_1, u8_2)) from ?_) x5 x7 s2.2.2
      intro u8_0 u8_1 u8_2
      refine go_Lp (α := Int32 × Int32 × G) (fun s8 => s8.2.2) (fun s8 => [(0, .ref (E.1 118)), (1, .int a1), (2, .int x6), (3, .int s2.2.1), (4, .int s8.1), (5, .int s8.2.1)]) ?_ FU (u8_0, u8_1, u8_2)
      intro rec8 hrec8 s8
      have krec8 : ∀ (u8_0 : Int32) (u8_1 : Int32) (u8_2 : G), Go (wCA E) _ _ u8_2 54 [(0, .ref (E.1 118)), (1, .int a1), (2, .int x6), (3, .int s2.2.1), (4, .int u8_0), (5, .int u8_1)] [] (rec8 (u8_0, u8_1, u8_2)) := fun u8_0 u8_1 u8_2 => hrec8 (u8_0, u8_1, u8_2)
      refine go_iload td_X6_findLastSights 34 rfl (q := 56) rfl 5 rfl ?_
      refine go_if_le 95 td_X6_findLastSights 35 rfl rfl (q := 59) rfl (fun _ => ?_) (fun _ => ?_)
      · refine go_iinc [(3, .int (s2.2.1 + m1)), (0, .ref (E.1 118)), (1, .int a1), (2, .int x6), (4, .int s8.1), (5, .int s8.2.1)] td_X6_findLastSights 56 rfl (q := 98) rfl 3 rfl kcm_1 (Nat.le_of_ble_eq_true rfl) rfl ?_
        refine go_goto td_X6_findLastSights 57 rfl (q := 12) rfl ?_
        refine go_pick [1, 2, 3, 0] (lv' := [(0, .ref (E.1 118)), (1, .int a1), (2, .int x6), (3, .int (s2.2.1 + m1))]) rfl ?_
        exact krec2 x6 (s2.2.1 + m1) s8.2.2
      · refine go_aload_n td_X6_findLastSights 36 rfl (q := 60) rfl 0 rfl ?_
        refine go_get td_X6_findLastSights 37 rfl (q := 63) rfl fl_X6_50 (Ac_118 E s8.2.2) rfl ?_
        refine go_iload td_X6_findLastSights 38 rfl (q := 65) rfl 4 rfl ?_
        refine go_callS td_X6_findLastSights 39 rfl (q := 68) rfl (XkA E) lk_X6_178 (ok_fA_Integer_numberOfTrailingZeros E s8.1 s8.2.2) ⟨rfl, rfl, Nat.le_of_ble_eq_true rfl, Nat.le_of_ble_eq_true rfl⟩ rfl rfl (Nat.le_of_ble_eq_true rfl) (fun x9 => ?_)
        show Go (wCA E) _ _ s8.2.2 68 _ [.int x9, .ref (E.1 129)] _
        refine go_iload_n td_X6_findLastSights 40 rfl (q := 69) rfl 3 rfl ?_
        refine go_iconst td_X6_findLastSights 41 rfl (q := 70) rfl kc_1 ?_
        refine go_iadd td_X6_findLastSights 42 rfl (q := 71) rfl ?_
        refine go_aload_n td_X6_findLastSights 43 rfl (q := 72) rfl 0 rfl ?_
        refine go_get td_X6_findLastSights 44 rfl (q := 75) rfl fl_X6_53 (Ac_118 E s8.2.2) rfl ?_
        refine go_get td_X6_findLastSights 45 rfl (q := 78) rfl fl_X6_106 (Ac_3 E s8.2.2) rfl ?_
        refine go_isub td_X6_findLastSights 46 rfl (q := 79) rfl ?_
        refine go_ast td_X6_findLastSights 47 rfl (q := 80) rfl (Ac_129 E s8.2.2) (t0 := 0) rfl (Aas_129 E s8.2.2 _) ?_
        refine go_bvg (fun g10 => ?_)
        refine go_iload td_X6_findLastSights 48 rfl (q := 82) rfl 4 rfl ?_
        refine go_iload td_X6_findLastSights 49 rfl (q := 84) rfl 4 rfl ?_
        refine go_iconst td_X6_findLastSights 50 rfl (q := 85) rfl kc_1 ?_
        refine go_isub td_X6_findLastSights 51 rfl (q := 86) rfl ?_
        refine go_iand td_X6_findLastSights 52 rfl (q := 87) rfl ?_
        refine go_bvi (fun x11 => ?_)
        refine go_istore [(4, .int x11), (0, .ref (E.1 118)), (1, .int a1), (2, .int x6), (3, .int s2.2.1), (5, .int s8.2.1)] td_X6_findLastSights 53 rfl (q := 89) rfl (Nat.le_of_ble_eq_true rfl) rfl ?_
        refine go_iinc [(5, .int (s8.2.1 + m1)), (4, .int x11), (0, .ref (E.1 118)), (1, .int a1), (2, .int x6), (3, .int s2.2.1)] td_X6_findLastSights 54 rfl (q := 92) rfl 5 rfl kcm_1 (Nat.le_of_ble_eq_true rfl) rfl ?_
        refine go_goto td_X6_findLastSights 55 rfl (q := 54) rfl ?_
        refine go_pick [2, 3, 4, 5, 1, 0] (lv' := [(0, .ref (E.1 118)), (1, .int a1), (2, .int x6), (3, .int s2.2.1), (4, .int x11), (5, .int (s8.2.1 + m1))]) rfl ?_
        exact krec8 x11 (s8.2.1 + m1) g10
def fA_Sky_worstOfRow (a1 : Int32) (g : G) : Option (Int32 × G) := Option.bind (fA_Sky_findLastSights a1 g) fun x1 => (if x1.1 = 0 then some (x1.2.1 303, x1.2) else bv (a1 * 240) fun x2 => ag 2880 (x1.2.2.1 128) ((x2 + (x1.2.1 303)) - 1) fun x3 => Lp (α := Int32 × Int32 × Int32 × G) (fun rec4 s4 => (if (s4.2.2.2.1 303) ≤ s4.2.2.1 then some (s4.2.1, s4.2.2.2) else ag 2880 (s4.2.2.2.2.1 128) (x2 + s4.2.2.1) fun x5 => bv (s4.1 ^^^ x5) fun x6 => Option.bind (fA_Integer_bitCount x6 s4.2.2.2) fun x7 => Lp (α := Int32 × Int32 × Int32 × G) (fun rec8 s8 => (if s8.2.2.1 ≤ 0 then rec4 (x5, s8.1, s4.2.2.1 + 1, s8.2.2.2) else Option.bind (fA_Integer_numberOfTrailingZeros s8.2.1 s8.2.2.2) fun x9 => bv (s8.2.1 &&& (s8.2.1 - 1)) fun x10 => lj (α := Int32 × G) (fun b11 => rec8 (b11.1, x10, s8.2.2.1 + m1, b11.2)) fun J11 => (if ((x5 >>> (x9 &&& 31)) &&& 1) = 0 then ck 24 x9 (bv (sA s8.2.2.2 129 (x9 : Int32).toNatClampNeg s4.2.2.1) fun g14 => J11 (s8.1, g14)) else ag 24 (s8.2.2.2.2.1 129) x9 fun x12 => bv (if s8.1 < (s4.2.2.1 - x12) then (s4.2.2.1 - x12) else s8.1) fun x13 => J11 (x13, s8.2.2.2)))) FU (s4.2.1, x6, x7, s4.2.2.2))) FU (x3, 0, 0, x1.2))
set_option maxRecDepth 20000 in
set_option maxHeartbeats 4000000 in
theorem ok_fA_Sky_worstOfRow (E : Ev) (a1 : Int32) (g : G)  : Ct (wCA E) yX6_worstOfRow mi_X6_worstOfRow [.ref (E.1 118), .int a1] (fun r => (some (.int r.1), r.2)) g (fA_Sky_worstOfRow a1 g) := by
  refine go_enter rfl rfl (Nat.le_of_ble_eq_true rfl) (lv := [(0, .ref (E.1 118)), (1, .int a1)]) rfl ?_
  unfold fA_Sky_worstOfRow
  refine go_aload_n td_X6_worstOfRow 0 rfl (q := 1) rfl 0 rfl ?_
  refine go_iload_n td_X6_worstOfRow 1 rfl (q := 2) rfl 1 rfl ?_
  refine go_callV td_X6_worstOfRow 2 rfl (q := 5) rfl (XkA E) lk_X6_174 (ok_fA_Sky_findLastSights E a1 g) ⟨rfl, rfl, Nat.le_of_ble_eq_true rfl, Nat.le_of_ble_eq_true rfl⟩ rfl rfl (Nat.le_of_ble_eq_true rfl) (Ac_118 E g) rfl (fun x1 => ?_)
  show Go (wCA E) _ _ x1.2 5 _ [.int x1.1] _
  refine go_if_ne 16 td_X6_worstOfRow 3 rfl rfl (q := 8) rfl (fun _ => ?_) (fun _ => ?_)
  · refine go_iload_n td_X6_worstOfRow 8 rfl (q := 17) rfl 1 rfl ?_
    refine go_sipush td_X6_worstOfRow 9 rfl (q := 20) rfl ks_240 ?_
    refine go_imul td_X6_worstOfRow 10 rfl (q := 21) rfl ?_
    refine go_bvi (fun x2 => ?_)
    refine go_istore_n [(2, .int x2), (0, .ref (E.1 118)), (1, .int a1)] td_X6_worstOfRow 11 rfl (q := 22) rfl (Nat.le_of_ble_eq_true rfl) rfl ?_
    refine go_aload_n td_X6_worstOfRow 12 rfl (q := 23) rfl 1 rfl ?_
    refine go_get td_X6_worstOfRow 13 rfl (q := 26) rfl fl_X6_47 (Ac_118 E x1.2) rfl ?_
    refine go_iload_n td_X6_worstOfRow 14 rfl (q := 27) rfl 0 rfl ?_
    refine go_aload_n td_X6_worstOfRow 15 rfl (q := 28) rfl 1 rfl ?_
    refine go_get td_X6_worstOfRow 16 rfl (q := 31) rfl fl_X6_53 (Ac_118 E x1.2) rfl ?_
    refine go_get td_X6_worstOfRow 17 rfl (q := 34) rfl fl_X6_106 (Ac_3 E x1.2) rfl ?_
    refine go_iadd td_X6_worstOfRow 18 rfl (q := 35) rfl ?_
    refine go_iconst td_X6_worstOfRow 19 rfl (q := 36) rfl kc_1 ?_
    refine go_isub td_X6_worstOfRow 20 rfl (q := 37) rfl ?_
    refine go_ald td_X6_worstOfRow 21 rfl (q := 38) rfl (Ac_128 E x1.2) (t0 := 0) rfl (fun x3 => ?_)
    refine go_istore_n [(3, .int x3), (2, .int x2), (0, .ref (E.1 118)), (1, .int a1)] td_X6_worstOfRow 22 rfl (q := 39) rfl (Nat.le_of_ble_eq_true rfl) rfl ?_
    refine go_iconst td_X6_worstOfRow 23 rfl (q := 40) rfl kc_0 ?_
    refine go_istore [(4, .int 0), (3, .int x3), (2, .int x2), (0, .ref (E.1 118)), (1, .int a1)] td_X6_worstOfRow 24 rfl (q := 42) rfl (Nat.le_of_ble_eq_true rfl) rfl ?_
    refine go_iconst td_X6_worstOfRow 25 rfl (q := 43) rfl kc_0 ?_
    refine go_istore [(5, .int 0), (4, .int 0), (3, .int x3), (2, .int x2), (0, .ref (E.1 118)), (1, .int a1)] td_X6_worstOfRow 26 rfl (q := 45) rfl (Nat.le_of_ble_eq_true rfl) rfl ?_
    refine go_pick [4, 3, 2, 1, 0] (lv' := [(0, .ref (E.1 118)), (2, .int x2), (3, .int x3), (4, .int 0), (5, .int 0)]) rfl ?_
    refine (show ∀ (u4_0 : Int32) (u4_1 : Int32) (u4_2 : Int32) (u4_3 : G), Go (wCA E) _ _ u4_3 45 [(0, .ref (E.1 118)), (2, .int x2), (3, .int u4_0), (4, .int u4_1), (5, .int u4_2)] [] (Lp (α := Int32 × Int32 × Int32 × G) _ FU (u4_0, u4_1, u4_2, u4_3)) from ?_) x3 0 0 x1.2
    intro u4_0 u4_1 u4_2 u4_3
    refine go_Lp (α := Int32 × Int32 × Int32 × G) (fun s4 => s4.2.2.2) (fun s4 => [(0, .ref (E.1 118)), (2, .int x2), (3, .int s4.1), (4, .int s4.2.1), (5, .int s4.2.2.1)]) ?_ FU (u4_0, u4_1, u4_2, u4_3)
    intro rec4 hrec4 s4
    have krec4 : ∀ (u4_0 : Int32) (u4_1 : Int32) (u4_2 : Int32) (u4_3 : G), Go (wCA E) _ _ u4_3 45 [(0, .ref (E.1 118)), (2, .int x2), (3, .int u4_0), (4, .int u4_1), (5, .int u4_2)] [] (rec4 (u4_0, u4_1, u4_2, u4_3)) := fun u4_0 u4_1 u4_2 u4_3 => hrec4 (u4_0, u4_1, u4_2, u4_3)
    refine go_iload td_X6_worstOfRow 27 rfl (q := 47) rfl 4 rfl ?_
    refine go_aload_n td_X6_worstOfRow 28 rfl (q := 48) rfl 0 rfl ?_
    refine go_get td_X6_worstOfRow 29 rfl (q := 51) rfl fl_X6_53 (Ac_118 E s4.2.2.2) rfl ?_
    refine go_get td_X6_worstOfRow 30 rfl (q := 54) rfl fl_X6_106 (Ac_3 E s4.2.2.2) rfl ?_
    refine go_icmp_ge 156 td_X6_worstOfRow 31 rfl rfl (q := 57) rfl (fun _ => ?_) (fun _ => ?_)
    · refine go_iload td_X6_worstOfRow 84 rfl (q := 158) rfl 3 rfl ?_
      exact go_iret td_X6_worstOfRow 85 rfl rfl rfl
    · refine go_aload_n td_X6_worstOfRow 32 rfl (q := 58) rfl 0 rfl ?_
      refine go_get td_X6_worstOfRow 33 rfl (q := 61) rfl fl_X6_47 (Ac_118 E s4.2.2.2) rfl ?_
      refine go_iload_n td_X6_worstOfRow 34 rfl (q := 62) rfl 1 rfl ?_
      refine go_iload td_X6_worstOfRow 35 rfl (q := 64) rfl 4 rfl ?_
      refine go_iadd td_X6_worstOfRow 36 rfl (q := 65) rfl ?_
      refine go_ald td_X6_worstOfRow 37 rfl (q := 66) rfl (Ac_128 E s4.2.2.2) (t0 := 0) rfl (fun x5 => ?_)
      refine go_istore [(6, .int x5), (0, .ref (E.1 118)), (2, .int x2), (3, .int s4.1), (4, .int s4.2.1), (5, .int s4.2.2.1)] td_X6_worstOfRow 38 rfl (q := 68) rfl (Nat.le_of_ble_eq_true rfl) rfl ?_
      refine go_iload_n td_X6_worstOfRow 39 rfl (q := 69) rfl 3 rfl ?_
      refine go_iload td_X6_worstOfRow 40 rfl (q := 71) rfl 0 rfl ?_
      refine go_ixor td_X6_worstOfRow 41 rfl (q := 72) rfl ?_
      refine go_bvi (fun x6 => ?_)
      refine go_istore [(7, .int x6), (6, .int x5), (0, .ref (E.1 118)), (2, .int x2), (3, .int s4.1), (4, .int s4.2.1), (5, .int s4.2.2.1)] td_X6_worstOfRow 42 rfl (q := 74) rfl (Nat.le_of_ble_eq_true rfl) rfl ?_
      refine go_iload td_X6_worstOfRow 43 rfl (q := 76) rfl 0 rfl ?_
      refine go_callS td_X6_worstOfRow 44 rfl (q := 79) rfl (XkA E) lk_X6_156 (ok_fA_Integer_bitCount E x6 s4.2.2.2) ⟨rfl, rfl, Nat.le_of_ble_eq_true rfl, Nat.le_of_ble_eq_true rfl⟩ rfl rfl (Nat.le_of_ble_eq_true rfl) (fun x7 => ?_)
      show Go (wCA E) _ _ s4.2.2.2 79 _ [.int x7] _
      refine go_istore [(8, .int x7), (7, .int x6), (6, .int x5), (0, .ref (E.1 118)), (2, .int x2), (3, .int s4.1), (4, .int s4.2.1), (5, .int s4.2.2.1)] td_X6_worstOfRow 45 rfl (q := 81) rfl (Nat.le_of_ble_eq_true rfl) rfl ?_
      refine go_pick [3, 4, 6, 7, 2, 1, 0] (lv' := [(0, .ref (E.1 118)), (2, .int x2), (4, .int s4.2.1), (5, .int s4.2.2.1), (6, .int x5), (7, .int x6), (8, .int x7)]) rfl ?_
      refine (show ∀ (u8_0 : Int32) (u8_1 : Int32) (u8_2 : Int32) (u8_3 : G), Go (wCA E) _ _ u8_3 81 [(0, .ref (E.1 118)), (2, .int x2), (4, .int u8_0), (5, .int s4.2.2.1), (6, .int x5), (7, .int u8_1), (8, .int u8_2)] [] (Lp (α := Int32 × Int32 × Int32 × G) _ FU (u8_0, u8_1, u8_2, u8_3)) from ?_) s4.2.1 x6 x7 s4.2.2.2
      intro u8_0 u8_1 u8_2 u8_3
      refine go_Lp (α := Int32 × Int32 × Int32 × G) (fun s8 => s8.2.2.2) (fun s8 => [(0, .ref (E.1 118)), (2, .int x2), (4, .int s8.1), (5, .int s4.2.2.1), (6, .int x5), (7, .int s8.2.1), (8, .int s8.2.2.1)]) ?_ FU (u8_0, u8_1, u8_2, u8_3)
      intro rec8 hrec8 s8
      have krec8 : ∀ (u8_0 : Int32) (u8_1 : Int32) (u8_2 : Int32) (u8_3 : G), Go (wCA E) _ _ u8_3 81 [(0, .ref (E.1 118)), (2, .int x2), (4, .int u8_0), (5, .int s4.2.2.1), (6, .int x5), (7, .int u8_1), (8, .int u8_2)] [] (rec8 (u8_0, u8_1, u8_2, u8_3)) := fun u8_0 u8_1 u8_2 u8_3 => hrec8 (u8_0, u8_1, u8_2, u8_3)
      refine go_iload td_X6_worstOfRow 46 rfl (q := 83) rfl 6 rfl ?_
      refine go_if_le 147 td_X6_worstOfRow 47 rfl rfl (q := 86) rfl (fun _ => ?_) (fun _ => ?_)
      · refine go_iload td_X6_worstOfRow 80 rfl (q := 149) rfl 4 rfl ?_
        refine go_istore_n [(3, .int x5), (0, .ref (E.1 118)), (2, .int x2), (4, .int s8.1), (5, .int s4.2.2.1), (6, .int x5), (7, .int s8.2.1), (8, .int s8.2.2.1)] td_X6_worstOfRow 81 rfl (q := 150) rfl (Nat.le_of_ble_eq_true rfl) rfl ?_
        refine go_iinc [(5, .int (s4.2.2.1 + 1)), (3, .int x5), (0, .ref (E.1 118)), (2, .int x2), (4, .int s8.1), (6, .int x5), (7, .int s8.2.1), (8, .int s8.2.2.1)] td_X6_worstOfRow 82 rfl (q := 153) rfl 4 rfl kc_1 (Nat.le_of_ble_eq_true rfl) rfl ?_
        refine go_goto td_X6_worstOfRow 83 rfl (q := 45) rfl ?_
        refine go_pick [2, 3, 1, 4, 0] (lv' := [(0, .ref (E.1 118)), (2, .int x2), (3, .int x5), (4, .int s8.1), (5, .int (s4.2.2.1 + 1))]) rfl ?_
        exact krec4 x5 s8.1 (s4.2.2.1 + 1) s8.2.2.2
      · refine go_iload td_X6_worstOfRow 48 rfl (q := 88) rfl 5 rfl ?_
        refine go_callS td_X6_worstOfRow 49 rfl (q := 91) rfl (XkA E) lk_X6_178 (ok_fA_Integer_numberOfTrailingZeros E s8.2.1 s8.2.2.2) ⟨rfl, rfl, Nat.le_of_ble_eq_true rfl, Nat.le_of_ble_eq_true rfl⟩ rfl rfl (Nat.le_of_ble_eq_true rfl) (fun x9 => ?_)
        show Go (wCA E) _ _ s8.2.2.2 91 _ [.int x9] _
        refine go_istore [(9, .int x9), (0, .ref (E.1 118)), (2, .int x2), (4, .int s8.1), (5, .int s4.2.2.1), (6, .int x5), (7, .int s8.2.1), (8, .int s8.2.2.1)] td_X6_worstOfRow 50 rfl (q := 93) rfl (Nat.le_of_ble_eq_true rfl) rfl ?_
        refine go_iload td_X6_worstOfRow 51 rfl (q := 95) rfl 6 rfl ?_
        refine go_iload td_X6_worstOfRow 52 rfl (q := 97) rfl 6 rfl ?_
        refine go_iconst td_X6_worstOfRow 53 rfl (q := 98) rfl kc_1 ?_
        refine go_isub td_X6_worstOfRow 54 rfl (q := 99) rfl ?_
        refine go_iand td_X6_worstOfRow 55 rfl (q := 100) rfl ?_
        refine go_bvi (fun x10 => ?_)
        refine go_istore [(7, .int x10), (9, .int x9), (0, .ref (E.1 118)), (2, .int x2), (4, .int s8.1), (5, .int s4.2.2.1), (6, .int x5), (8, .int s8.2.2.1)] td_X6_worstOfRow 56 rfl (q := 102) rfl (Nat.le_of_ble_eq_true rfl) rfl ?_
        refine go_iload td_X6_worstOfRow 57 rfl (q := 104) rfl 6 rfl ?_
        refine go_iload td_X6_worstOfRow 58 rfl (q := 106) rfl 1 rfl ?_
        refine go_ishr td_X6_worstOfRow 59 rfl (q := 107) rfl ?_
        refine go_iconst td_X6_worstOfRow 60 rfl (q := 108) rfl kc_1 ?_
        refine go_iand td_X6_worstOfRow 61 rfl (q := 109) rfl ?_
        refine go_ljX (α := Int32 × G) (fun b11 => [(0, .ref (E.1 118)), (2, .int x2), (4, .int b11.1), (5, .int s4.2.2.1), (6, .int x5), (7, .int x10), (8, .int s8.2.2.1)]) (fun b11 => []) (fun b11 => b11.2) 141 ?_ ?_
        · intro b11
          refine go_iinc [(8, .int (s8.2.2.1 + m1)), (0, .ref (E.1 118)), (2, .int x2), (4, .int b11.1), (5, .int s4.2.2.1), (6, .int x5), (7, .int x10)] td_X6_worstOfRow 78 rfl (q := 144) rfl 6 rfl kcm_1 (Nat.le_of_ble_eq_true rfl) rfl ?_
          refine go_goto td_X6_worstOfRow 79 rfl (q := 81) rfl ?_
          refine go_pick [1, 2, 3, 4, 5, 6, 0] (lv' := [(0, .ref (E.1 118)), (2, .int x2), (4, .int b11.1), (5, .int s4.2.2.1), (6, .int x5), (7, .int x10), (8, .int (s8.2.2.1 + m1))]) rfl ?_
          exact krec8 b11.1 x10 (s8.2.2.1 + m1) b11.2
        intro J11 hJ11
        have kJ11 : ∀ (u11_0 : Int32) (u11_1 : G), Go (wCA E) _ _ u11_1 141 [(0, .ref (E.1 118)), (2, .int x2), (4, .int u11_0), (5, .int s4.2.2.1), (6, .int x5), (7, .int x10), (8, .int s8.2.2.1)] [] (J11 (u11_0, u11_1)) := fun u11_0 u11_1 => hJ11 (u11_0, u11_1)
        refine go_if_ne 124 td_X6_worstOfRow 62 rfl rfl (q := 112) rfl (fun _ => ?_) (fun _ => ?_)
        · refine go_iload td_X6_worstOfRow 69 rfl (q := 126) rfl 4 rfl ?_
          refine go_iload td_X6_worstOfRow 70 rfl (q := 128) rfl 5 rfl ?_
          refine go_aload_n td_X6_worstOfRow 71 rfl (q := 129) rfl 2 rfl ?_
          refine go_get td_X6_worstOfRow 72 rfl (q := 132) rfl fl_X6_50 (Ac_118 E s8.2.2.2) rfl ?_
          refine go_iload td_X6_worstOfRow 73 rfl (q := 134) rfl 1 rfl ?_
          refine go_ald td_X6_worstOfRow 74 rfl (q := 135) rfl (Ac_129 E s8.2.2.2) (t0 := 0) rfl (fun x12 => ?_)
          refine go_isub td_X6_worstOfRow 75 rfl (q := 136) rfl ?_
          refine go_mmax td_X6_worstOfRow 76 rfl (q := 139) rfl lk_X6_168 ⟨Nat.le_of_ble_eq_true rfl, Nat.le_of_ble_eq_true rfl⟩ ?_
          refine go_bvi (fun x13 => ?_)
          refine go_istore [(4, .int x13), (7, .int x10), (9, .int x9), (0, .ref (E.1 118)), (2, .int x2), (5, .int s4.2.2.1), (6, .int x5), (8, .int s8.2.2.1)] td_X6_worstOfRow 77 rfl (q := 141) rfl (Nat.le_of_ble_eq_true rfl) rfl ?_
          refine go_pick [3, 4, 0, 5, 6, 1, 7] (lv' := [(0, .ref (E.1 118)), (2, .int x2), (4, .int x13), (5, .int s4.2.2.1), (6, .int x5), (7, .int x10), (8, .int s8.2.2.1)]) rfl ?_
          exact kJ11 x13 s8.2.2.2
        · refine go_aload_n td_X6_worstOfRow 63 rfl (q := 113) rfl 2 rfl ?_
          refine go_get td_X6_worstOfRow 64 rfl (q := 116) rfl fl_X6_50 (Ac_118 E s8.2.2.2) rfl ?_
          refine go_iload td_X6_worstOfRow 65 rfl (q := 118) rfl 1 rfl ?_
          refine go_iload td_X6_worstOfRow 66 rfl (q := 120) rfl 5 rfl ?_
          refine go_ast td_X6_worstOfRow 67 rfl (q := 121) rfl (Ac_129 E s8.2.2.2) (t0 := 0) rfl (Aas_129 E s8.2.2.2 _) ?_
          refine go_bvg (fun g14 => ?_)
          refine go_goto td_X6_worstOfRow 68 rfl (q := 141) rfl ?_
          refine go_pick [2, 3, 4, 5, 6, 0, 7] (lv' := [(0, .ref (E.1 118)), (2, .int x2), (4, .int s8.1), (5, .int s4.2.2.1), (6, .int x5), (7, .int x10), (8, .int s8.2.2.1)]) rfl ?_
          exact kJ11 s8.1 g14
  · refine go_aload_n td_X6_worstOfRow 4 rfl (q := 9) rfl 0 rfl ?_
    refine go_get td_X6_worstOfRow 5 rfl (q := 12) rfl fl_X6_53 (Ac_118 E x1.2) rfl ?_
    refine go_get td_X6_worstOfRow 6 rfl (q := 15) rfl fl_X6_106 (Ac_3 E x1.2) rfl ?_
    exact go_iret td_X6_worstOfRow 7 rfl rfl rfl
def fA_Sky_worstGap (g : G) : Option (Int32 × G) := Lp (α := Int32 × Int32 × G) (fun rec1 s1 => (if (s1.2.2.1 301) ≤ s1.2.1 then some (s1.1, s1.2.2) else Option.bind (fA_Sky_worstOfRow s1.2.1 s1.2.2) fun x2 => bv (if s1.1 < x2.1 then x2.1 else s1.1) fun x3 => rec1 (x3, s1.2.1 + 1, x2.2))) FU (0, 0, g)
set_option maxRecDepth 20000 in
set_option maxHeartbeats 4000000 in
theorem ok_fA_Sky_worstGap (E : Ev)  (g : G)  : Ct (wCA E) yX6_worstGap mi_X6_worstGap [.ref (E.1 118)] (fun r => (some (.int r.1), r.2)) g (fA_Sky_worstGap g) := by
  refine go_enter rfl rfl (Nat.le_of_ble_eq_true rfl) (lv := [(0, .ref (E.1 118))]) rfl ?_
  unfold fA_Sky_worstGap
  refine go_iconst td_X6_worstGap 0 rfl (q := 1) rfl kc_0 ?_
  refine go_istore_n [(1, .int 0), (0, .ref (E.1 118))] td_X6_worstGap 1 rfl (q := 2) rfl (Nat.le_of_ble_eq_true rfl) rfl ?_
  refine go_iconst td_X6_worstGap 2 rfl (q := 3) rfl kc_0 ?_
  refine go_istore_n [(2, .int 0), (1, .int 0), (0, .ref (E.1 118))] td_X6_worstGap 3 rfl (q := 4) rfl (Nat.le_of_ble_eq_true rfl) rfl ?_
  refine go_pick [2, 1, 0] (lv' := [(0, .ref (E.1 118)), (1, .int 0), (2, .int 0)]) rfl ?_
  refine (show ∀ (u1_0 : Int32) (u1_1 : Int32) (u1_2 : G), Go (wCA E) _ _ u1_2 4 [(0, .ref (E.1 118)), (1, .int u1_0), (2, .int u1_1)] [] (Lp (α := Int32 × Int32 × G) _ FU (u1_0, u1_1, u1_2)) from ?_) 0 0 g
  intro u1_0 u1_1 u1_2
  refine go_Lp (α := Int32 × Int32 × G) (fun s1 => s1.2.2) (fun s1 => [(0, .ref (E.1 118)), (1, .int s1.1), (2, .int s1.2.1)]) ?_ FU (u1_0, u1_1, u1_2)
  intro rec1 hrec1 s1
  have krec1 : ∀ (u1_0 : Int32) (u1_1 : Int32) (u1_2 : G), Go (wCA E) _ _ u1_2 4 [(0, .ref (E.1 118)), (1, .int u1_0), (2, .int u1_1)] [] (rec1 (u1_0, u1_1, u1_2)) := fun u1_0 u1_1 u1_2 => hrec1 (u1_0, u1_1, u1_2)
  refine go_iload_n td_X6_worstGap 4 rfl (q := 5) rfl 2 rfl ?_
  refine go_aload_n td_X6_worstGap 5 rfl (q := 6) rfl 0 rfl ?_
  refine go_get td_X6_worstGap 6 rfl (q := 9) rfl fl_X6_53 (Ac_118 E s1.2.2) rfl ?_
  refine go_get td_X6_worstGap 7 rfl (q := 12) rfl fl_X6_62 (Ac_3 E s1.2.2) rfl ?_
  refine go_icmp_ge 31 td_X6_worstGap 8 rfl rfl (q := 15) rfl (fun _ => ?_) (fun _ => ?_)
  · refine go_iload_n td_X6_worstGap 17 rfl (q := 32) rfl 1 rfl ?_
    exact go_iret td_X6_worstGap 18 rfl rfl rfl
  · refine go_iload_n td_X6_worstGap 9 rfl (q := 16) rfl 1 rfl ?_
    refine go_aload_n td_X6_worstGap 10 rfl (q := 17) rfl 0 rfl ?_
    refine go_iload_n td_X6_worstGap 11 rfl (q := 18) rfl 2 rfl ?_
    refine go_callV td_X6_worstGap 12 rfl (q := 21) rfl (XkA E) lk_X6_171 (ok_fA_Sky_worstOfRow E s1.2.1 s1.2.2) ⟨rfl, rfl, Nat.le_of_ble_eq_true rfl, Nat.le_of_ble_eq_true rfl⟩ rfl rfl (Nat.le_of_ble_eq_true rfl) (Ac_118 E s1.2.2) rfl (fun x2 => ?_)
    show Go (wCA E) _ _ x2.2 21 _ [.int x2.1, .int s1.1] _
    refine go_mmax td_X6_worstGap 13 rfl (q := 24) rfl lk_X6_168 ⟨Nat.le_of_ble_eq_true rfl, Nat.le_of_ble_eq_true rfl⟩ ?_
    refine go_bvi (fun x3 => ?_)
    refine go_istore_n [(1, .int x3), (0, .ref (E.1 118)), (2, .int s1.2.1)] td_X6_worstGap 14 rfl (q := 25) rfl (Nat.le_of_ble_eq_true rfl) rfl ?_
    refine go_iinc [(2, .int (s1.2.1 + 1)), (1, .int x3), (0, .ref (E.1 118))] td_X6_worstGap 15 rfl (q := 28) rfl 2 rfl kc_1 (Nat.le_of_ble_eq_true rfl) rfl ?_
    refine go_goto td_X6_worstGap 16 rfl (q := 4) rfl ?_
    refine go_pick [2, 1, 0] (lv' := [(0, .ref (E.1 118)), (1, .int x3), (2, .int (s1.2.1 + 1))]) rfl ?_
    exact krec1 x3 (s1.2.1 + 1) x2.2
def fA_Sky_firstRowWith (a1 : Int32) (g : G) : Option (Int32 × G) := Lp (α := Int32 × G) (fun rec1 s1 => (if (s1.2.1 301) ≤ s1.1 then some (0, s1.2) else Option.bind (fA_Sky_worstOfRow s1.1 s1.2) fun x2 => (if x2.1 = a1 then some (s1.1, x2.2) else rec1 (s1.1 + 1, x2.2)))) FU (0, g)
set_option maxRecDepth 20000 in
set_option maxHeartbeats 4000000 in
theorem ok_fA_Sky_firstRowWith (E : Ev) (a1 : Int32) (g : G)  : Ct (wCA E) yX6_firstRowWith mi_X6_firstRowWith [.ref (E.1 118), .int a1] (fun r => (some (.int r.1), r.2)) g (fA_Sky_firstRowWith a1 g) := by
  refine go_enter rfl rfl (Nat.le_of_ble_eq_true rfl) (lv := [(0, .ref (E.1 118)), (1, .int a1)]) rfl ?_
  unfold fA_Sky_firstRowWith
  refine go_iconst td_X6_firstRowWith 0 rfl (q := 1) rfl kc_0 ?_
  refine go_istore_n [(2, .int 0), (0, .ref (E.1 118)), (1, .int a1)] td_X6_firstRowWith 1 rfl (q := 2) rfl (Nat.le_of_ble_eq_true rfl) rfl ?_
  refine go_pick [1, 2, 0] (lv' := [(0, .ref (E.1 118)), (1, .int a1), (2, .int 0)]) rfl ?_
  refine (show ∀ (u1_0 : Int32) (u1_1 : G), Go (wCA E) _ _ u1_1 2 [(0, .ref (E.1 118)), (1, .int a1), (2, .int u1_0)] [] (Lp (α := Int32 × G) _ FU (u1_0, u1_1)) from ?_) 0 g
  intro u1_0 u1_1
  refine go_Lp (α := Int32 × G) (fun s1 => s1.2) (fun s1 => [(0, .ref (E.1 118)), (1, .int a1), (2, .int s1.1)]) ?_ FU (u1_0, u1_1)
  intro rec1 hrec1 s1
  have krec1 : ∀ (u1_0 : Int32) (u1_1 : G), Go (wCA E) _ _ u1_1 2 [(0, .ref (E.1 118)), (1, .int a1), (2, .int u1_0)] [] (rec1 (u1_0, u1_1)) := fun u1_0 u1_1 => hrec1 (u1_0, u1_1)
  refine go_iload_n td_X6_firstRowWith 2 rfl (q := 3) rfl 2 rfl ?_
  refine go_aload_n td_X6_firstRowWith 3 rfl (q := 4) rfl 0 rfl ?_
  refine go_get td_X6_firstRowWith 4 rfl (q := 7) rfl fl_X6_53 (Ac_118 E s1.2) rfl ?_
  refine go_get td_X6_firstRowWith 5 rfl (q := 10) rfl fl_X6_62 (Ac_3 E s1.2) rfl ?_
  refine go_icmp_ge 30 td_X6_firstRowWith 6 rfl rfl (q := 13) rfl (fun _ => ?_) (fun _ => ?_)
  · refine go_iconst td_X6_firstRowWith 16 rfl (q := 31) rfl kc_0 ?_
    exact go_iret td_X6_firstRowWith 17 rfl rfl rfl
  · refine go_aload_n td_X6_firstRowWith 7 rfl (q := 14) rfl 0 rfl ?_
    refine go_iload_n td_X6_firstRowWith 8 rfl (q := 15) rfl 2 rfl ?_
    refine go_callV td_X6_firstRowWith 9 rfl (q := 18) rfl (XkA E) lk_X6_171 (ok_fA_Sky_worstOfRow E s1.1 s1.2) ⟨rfl, rfl, Nat.le_of_ble_eq_true rfl, Nat.le_of_ble_eq_true rfl⟩ rfl rfl (Nat.le_of_ble_eq_true rfl) (Ac_118 E s1.2) rfl (fun x2 => ?_)
    show Go (wCA E) _ _ x2.2 18 _ [.int x2.1] _
    refine go_iload_n td_X6_firstRowWith 10 rfl (q := 19) rfl 1 rfl ?_
    refine go_icmp_ne 24 td_X6_firstRowWith 11 rfl rfl (q := 22) rfl (fun _ => ?_) (fun _ => ?_)
    · refine go_iinc [(2, .int (s1.1 + 1)), (0, .ref (E.1 118)), (1, .int a1)] td_X6_firstRowWith 14 rfl (q := 27) rfl 2 rfl kc_1 (Nat.le_of_ble_eq_true rfl) rfl ?_
      refine go_goto td_X6_firstRowWith 15 rfl (q := 2) rfl ?_
      refine go_pick [1, 2, 0] (lv' := [(0, .ref (E.1 118)), (1, .int a1), (2, .int (s1.1 + 1))]) rfl ?_
      exact krec1 (s1.1 + 1) x2.2
    · refine go_iload_n td_X6_firstRowWith 12 rfl (q := 23) rfl 2 rfl ?_
      exact go_iret td_X6_firstRowWith 13 rfl rfl rfl
def fA_D_firstColumnWith (a1 : Int32) (a2 : Int32) (g : G) : Option (Int32 × G) := Lp (α := Int32 × G) (fun rec1 s1 => (if (s1.2.1 300) ≤ s1.1 then some (0, s1.2) else Option.bind (fA_Strip_lay (s1.2.1 2700) s1.1 a2 s1.2) fun x2 => Option.bind (fA_Strip_longestGap x2) fun x3 => (if x3 = a1 then some (s1.1, x2) else rec1 (s1.1 + 1, x2)))) FU (0, g)
set_option maxRecDepth 20000 in
set_option maxHeartbeats 4000000 in
theorem ok_fA_D_firstColumnWith (E : Ev) (a1 : Int32) (a2 : Int32) (g : G)  : Ct (wCA E) yX11_firstColumnWith mi_X11_firstColumnWith [.ref (E.1 0), .int a1, .int a2] (fun r => (some (.int r.1), r.2)) g (fA_D_firstColumnWith a1 a2 g) := by
  refine go_enter rfl rfl (Nat.le_of_ble_eq_true rfl) (lv := [(0, .ref (E.1 0)), (1, .int a1), (2, .int a2)]) rfl ?_
  unfold fA_D_firstColumnWith
  refine go_iconst td_X11_firstColumnWith 0 rfl (q := 1) rfl kc_0 ?_
  refine go_istore_n [(3, .int 0), (0, .ref (E.1 0)), (1, .int a1), (2, .int a2)] td_X11_firstColumnWith 1 rfl (q := 2) rfl (Nat.le_of_ble_eq_true rfl) rfl ?_
  refine go_pick [1, 2, 3, 0] (lv' := [(0, .ref (E.1 0)), (1, .int a1), (2, .int a2), (3, .int 0)]) rfl ?_
  refine (show ∀ (u1_0 : Int32) (u1_1 : G), Go (wCA E) _ _ u1_1 2 [(0, .ref (E.1 0)), (1, .int a1), (2, .int a2), (3, .int u1_0)] [] (Lp (α := Int32 × G) _ FU (u1_0, u1_1)) from ?_) 0 g
  intro u1_0 u1_1
  refine go_Lp (α := Int32 × G) (fun s1 => s1.2) (fun s1 => [(0, .ref (E.1 0)), (1, .int a1), (2, .int a2), (3, .int s1.1)]) ?_ FU (u1_0, u1_1)
  intro rec1 hrec1 s1
  have krec1 : ∀ (u1_0 : Int32) (u1_1 : G), Go (wCA E) _ _ u1_1 2 [(0, .ref (E.1 0)), (1, .int a1), (2, .int a2), (3, .int u1_0)] [] (rec1 (u1_0, u1_1)) := fun u1_0 u1_1 => hrec1 (u1_0, u1_1)
  refine go_iload_n td_X11_firstColumnWith 2 rfl (q := 3) rfl 3 rfl ?_
  refine go_aload_n td_X11_firstColumnWith 3 rfl (q := 4) rfl 0 rfl ?_
  refine go_get td_X11_firstColumnWith 4 rfl (q := 7) rfl fl_X11_19 (Ac_0 E s1.2) rfl ?_
  refine go_get td_X11_firstColumnWith 5 rfl (q := 10) rfl fl_X11_163 (Ac_3 E s1.2) rfl ?_
  refine go_icmp_ge 48 td_X11_firstColumnWith 6 rfl rfl (q := 13) rfl (fun _ => ?_) (fun _ => ?_)
  · refine go_iconst td_X11_firstColumnWith 24 rfl (q := 49) rfl kc_0 ?_
    exact go_iret td_X11_firstColumnWith 25 rfl rfl rfl
  · refine go_aload_n td_X11_firstColumnWith 7 rfl (q := 14) rfl 0 rfl ?_
    refine go_get td_X11_firstColumnWith 8 rfl (q := 17) rfl fl_X11_66 (Ac_0 E s1.2) rfl ?_
    refine go_aload_n td_X11_firstColumnWith 9 rfl (q := 18) rfl 0 rfl ?_
    refine go_get td_X11_firstColumnWith 10 rfl (q := 21) rfl fl_X11_29 (Ac_0 E s1.2) rfl ?_
    refine go_get td_X11_firstColumnWith 11 rfl (q := 24) rfl fl_X11_178 (Ac_27 E s1.2) rfl ?_
    refine go_iload_n td_X11_firstColumnWith 12 rfl (q := 25) rfl 3 rfl ?_
    refine go_iload_n td_X11_firstColumnWith 13 rfl (q := 26) rfl 2 rfl ?_
    refine go_callV td_X11_firstColumnWith 14 rfl (q := 29) rfl (XkA E) lk_X11_289 (ok_fA_Strip_lay E (s1.2.1 2700) s1.1 a2 s1.2) ⟨rfl, rfl, Nat.le_of_ble_eq_true rfl, Nat.le_of_ble_eq_true rfl⟩ rfl rfl (Nat.le_of_ble_eq_true rfl) (Ac_130 E s1.2) rfl (fun x2 => ?_)
    show Go (wCA E) _ _ x2 29 _ [] _
    refine go_aload_n td_X11_firstColumnWith 15 rfl (q := 30) rfl 0 rfl ?_
    refine go_get td_X11_firstColumnWith 16 rfl (q := 33) rfl fl_X11_66 (Ac_0 E x2) rfl ?_
    refine go_callV td_X11_firstColumnWith 17 rfl (q := 36) rfl (XkA E) lk_X11_311 (ok_fA_Strip_longestGap E x2) ⟨rfl, rfl, Nat.le_of_ble_eq_true rfl, Nat.le_of_ble_eq_true rfl⟩ rfl rfl (Nat.le_of_ble_eq_true rfl) (Ac_130 E x2) rfl (fun x3 => ?_)
    show Go (wCA E) _ _ x2 36 _ [.int x3] _
    refine go_iload_n td_X11_firstColumnWith 18 rfl (q := 37) rfl 1 rfl ?_
    refine go_icmp_ne 42 td_X11_firstColumnWith 19 rfl rfl (q := 40) rfl (fun _ => ?_) (fun _ => ?_)
    · refine go_iinc [(3, .int (s1.1 + 1)), (0, .ref (E.1 0)), (1, .int a1), (2, .int a2)] td_X11_firstColumnWith 22 rfl (q := 45) rfl 3 rfl kc_1 (Nat.le_of_ble_eq_true rfl) rfl ?_
      refine go_goto td_X11_firstColumnWith 23 rfl (q := 2) rfl ?_
      refine go_pick [1, 2, 3, 0] (lv' := [(0, .ref (E.1 0)), (1, .int a1), (2, .int a2), (3, .int (s1.1 + 1))]) rfl ?_
      exact krec1 (s1.1 + 1) x2
    · refine go_iload_n td_X11_firstColumnWith 20 rfl (q := 41) rfl 3 rfl ?_
      exact go_iret td_X11_firstColumnWith 21 rfl rfl rfl
def fA_D_worst (a1 : Int32) (g : G) : Option (Int32 × G) := Option.bind (fA_Plan_stands g) fun x1 => (if x1 = 0 then some ((-1), g) else (if a1 < 0 then some ((-1), g) else (if a1 ≤ 2 then Option.bind (fA_D_look g) fun x2 => Option.bind (fA_Sky_worstGap x2) fun x3 => (if a1 = 0 then some (x3.1, x3.2) else Option.bind (fA_Sky_firstRowWith x3.1 x3.2) fun x4 => (if a1 = 1 then Option.bind (fA_D_firstColumnWith x3.1 x4.1 x4.2) fun x5 => some (x5.1, x5.2) else some (x4.1, x4.2))) else some ((-1), g))))
set_option maxRecDepth 20000 in
set_option maxHeartbeats 4000000 in
theorem ok_fA_D_worst (E : Ev) (a1 : Int32) (g : G)  : Ct (wCA E) yX11_worst mi_X11_worst [.ref (E.1 0), .int a1] (fun r => (some (.int r.1), r.2)) g (fA_D_worst a1 g) := by
  refine go_enter rfl rfl (Nat.le_of_ble_eq_true rfl) (lv := [(0, .ref (E.1 0)), (1, .int a1)]) rfl ?_
  unfold fA_D_worst
  refine go_aload_n td_X11_worst 0 rfl (q := 1) rfl 0 rfl ?_
  refine go_get td_X11_worst 1 rfl (q := 4) rfl fl_X11_19 (Ac_0 E g) rfl ?_
  refine go_callV td_X11_worst 2 rfl (q := 7) rfl (XkA E) lk_X11_334 (ok_fA_Plan_stands E g) ⟨rfl, rfl, Nat.le_of_ble_eq_true rfl, Nat.le_of_ble_eq_true rfl⟩ rfl rfl (Nat.le_of_ble_eq_true rfl) (Ac_3 E g) rfl (fun x1 => ?_)
  show Go (wCA E) _ _ g 7 _ [.int x1] _
  refine go_if_eq 19 td_X11_worst 3 rfl rfl (q := 10) rfl (fun _ => ?_) (fun _ => ?_)
  · refine go_iconst td_X11_worst 9 rfl (q := 20) rfl kc_m1 ?_
    exact go_iret td_X11_worst 10 rfl rfl rfl
  · refine go_iload_n td_X11_worst 4 rfl (q := 11) rfl 1 rfl ?_
    refine go_if_lt 19 td_X11_worst 5 rfl rfl (q := 14) rfl (fun _ => ?_) (fun _ => ?_)
    · refine go_iconst td_X11_worst 9 rfl (q := 20) rfl kc_m1 ?_
      exact go_iret td_X11_worst 10 rfl rfl rfl
    · refine go_iload_n td_X11_worst 6 rfl (q := 15) rfl 1 rfl ?_
      refine go_iconst td_X11_worst 7 rfl (q := 16) rfl kc_2 ?_
      refine go_icmp_le 21 td_X11_worst 8 rfl rfl (q := 19) rfl (fun _ => ?_) (fun _ => ?_)
      · refine go_aload_n td_X11_worst 11 rfl (q := 22) rfl 0 rfl ?_
        refine go_callV td_X11_worst 12 rfl (q := 25) rfl (XkA E) lk_X11_247 (ok_fA_D_look E g) ⟨rfl, rfl, Nat.le_of_ble_eq_true rfl, Nat.le_of_ble_eq_true rfl⟩ rfl rfl (Nat.le_of_ble_eq_true rfl) (Ac_0 E g) rfl (fun x2 => ?_)
        show Go (wCA E) _ _ x2 25 _ [] _
        refine go_aload_n td_X11_worst 13 rfl (q := 26) rfl 0 rfl ?_
        refine go_get td_X11_worst 14 rfl (q := 29) rfl fl_X11_57 (Ac_0 E x2) rfl ?_
        refine go_callV td_X11_worst 15 rfl (q := 32) rfl (XkA E) lk_X11_341 (ok_fA_Sky_worstGap E x2) ⟨rfl, rfl, Nat.le_of_ble_eq_true rfl, Nat.le_of_ble_eq_true rfl⟩ rfl rfl (Nat.le_of_ble_eq_true rfl) (Ac_118 E x2) rfl (fun x3 => ?_)
        show Go (wCA E) _ _ x3.2 32 _ [.int x3.1] _
        refine go_istore_n [(2, .int x3.1), (0, .ref (E.1 0)), (1, .int a1)] td_X11_worst 16 rfl (q := 33) rfl (Nat.le_of_ble_eq_true rfl) rfl ?_
        refine go_iload_n td_X11_worst 17 rfl (q := 34) rfl 2 rfl ?_
        refine go_if_ne 39 td_X11_worst 18 rfl rfl (q := 37) rfl (fun _ => ?_) (fun _ => ?_)
        · refine go_aload_n td_X11_worst 21 rfl (q := 40) rfl 1 rfl ?_
          refine go_get td_X11_worst 22 rfl (q := 43) rfl fl_X11_57 (Ac_0 E x3.2) rfl ?_
          refine go_iload_n td_X11_worst 23 rfl (q := 44) rfl 0 rfl ?_
          refine go_callV td_X11_worst 24 rfl (q := 47) rfl (XkA E) lk_X11_344 (ok_fA_Sky_firstRowWith E x3.1 x3.2) ⟨rfl, rfl, Nat.le_of_ble_eq_true rfl, Nat.le_of_ble_eq_true rfl⟩ rfl rfl (Nat.le_of_ble_eq_true rfl) (Ac_118 E x3.2) rfl (fun x4 => ?_)
          show Go (wCA E) _ _ x4.2 47 _ [.int x4.1] _
          refine go_istore_n [(3, .int x4.1), (2, .int x3.1), (0, .ref (E.1 0)), (1, .int a1)] td_X11_worst 25 rfl (q := 48) rfl (Nat.le_of_ble_eq_true rfl) rfl ?_
          refine go_iload_n td_X11_worst 26 rfl (q := 49) rfl 3 rfl ?_
          refine go_iconst td_X11_worst 27 rfl (q := 50) rfl kc_1 ?_
          refine go_icmp_ne 62 td_X11_worst 28 rfl rfl (q := 53) rfl (fun _ => ?_) (fun _ => ?_)
          · refine go_iload_n td_X11_worst 34 rfl (q := 63) rfl 0 rfl ?_
            exact go_iret td_X11_worst 35 rfl rfl rfl
          · refine go_aload_n td_X11_worst 29 rfl (q := 54) rfl 2 rfl ?_
            refine go_iload_n td_X11_worst 30 rfl (q := 55) rfl 1 rfl ?_
            refine go_iload_n td_X11_worst 31 rfl (q := 56) rfl 0 rfl ?_
            refine go_callV td_X11_worst 32 rfl (q := 59) rfl (XkA E) lk_X11_347 (ok_fA_D_firstColumnWith E x3.1 x4.1 x4.2) ⟨rfl, rfl, Nat.le_of_ble_eq_true rfl, Nat.le_of_ble_eq_true rfl⟩ rfl rfl (Nat.le_of_ble_eq_true rfl) (Ac_0 E x4.2) rfl (fun x5 => ?_)
            show Go (wCA E) _ _ x5.2 59 _ [.int x5.1] _
            refine go_goto td_X11_worst 33 rfl (q := 63) rfl ?_
            exact go_iret td_X11_worst 35 rfl rfl rfl
        · refine go_iload_n td_X11_worst 19 rfl (q := 38) rfl 0 rfl ?_
          exact go_iret td_X11_worst 20 rfl rfl rfl
      · refine go_iconst td_X11_worst 9 rfl (q := 20) rfl kc_m1 ?_
        exact go_iret td_X11_worst 10 rfl rfl rfl
def fA_Sky_countNever (g : G) : Option (Int32) := Lp (α := Int32 × Int32) (fun rec1 s1 => (if (g.1 301) ≤ s1.2 then some s1.1 else Lp (α := Int32 × Int32) (fun rec2 s2 => (if (g.1 303) ≤ s2.2 then Option.bind (fA_Integer_bitCount s2.1 g) fun x3 => bv (s1.1 + ((g.1 300) - x3)) fun x4 => rec1 (x4, s1.2 + 1) else ag 2880 (g.2.1 128) ((s1.2 * 240) + s2.2) fun x5 => bv (s2.1 ||| x5) fun x6 => rec2 (x6, s2.2 + 1))) FU (0, 0))) FU (0, 0)
set_option maxRecDepth 20000 in
set_option maxHeartbeats 4000000 in
theorem ok_fA_Sky_countNever (E : Ev)  (g : G)  : Ct (wCA E) yX6_countNever mi_X6_countNever [.ref (E.1 118)] (fun r => (some (.int r), g)) g (fA_Sky_countNever g) := by
  refine go_enter rfl rfl (Nat.le_of_ble_eq_true rfl) (lv := [(0, .ref (E.1 118))]) rfl ?_
  unfold fA_Sky_countNever
  refine go_iconst td_X6_countNever 0 rfl (q := 1) rfl kc_0 ?_
  refine go_istore_n [(1, .int 0), (0, .ref (E.1 118))] td_X6_countNever 1 rfl (q := 2) rfl (Nat.le_of_ble_eq_true rfl) rfl ?_
  refine go_iconst td_X6_countNever 2 rfl (q := 3) rfl kc_0 ?_
  refine go_istore_n [(2, .int 0), (1, .int 0), (0, .ref (E.1 118))] td_X6_countNever 3 rfl (q := 4) rfl (Nat.le_of_ble_eq_true rfl) rfl ?_
  refine go_pick [2, 1, 0] (lv' := [(0, .ref (E.1 118)), (1, .int 0), (2, .int 0)]) rfl ?_
  refine (show ∀ (u1_0 : Int32) (u1_1 : Int32), Go (wCA E) _ _ g 4 [(0, .ref (E.1 118)), (1, .int u1_0), (2, .int u1_1)] [] (Lp (α := Int32 × Int32) _ FU (u1_0, u1_1)) from ?_) 0 0
  intro u1_0 u1_1
  refine go_Lp (α := Int32 × Int32) (fun s1 => g) (fun s1 => [(0, .ref (E.1 118)), (1, .int s1.1), (2, .int s1.2)]) ?_ FU (u1_0, u1_1)
  intro rec1 hrec1 s1
  have krec1 : ∀ (u1_0 : Int32) (u1_1 : Int32), Go (wCA E) _ _ g 4 [(0, .ref (E.1 118)), (1, .int u1_0), (2, .int u1_1)] [] (rec1 (u1_0, u1_1)) := fun u1_0 u1_1 => hrec1 (u1_0, u1_1)
  refine go_iload_n td_X6_countNever 4 rfl (q := 5) rfl 2 rfl ?_
  refine go_aload_n td_X6_countNever 5 rfl (q := 6) rfl 0 rfl ?_
  refine go_get td_X6_countNever 6 rfl (q := 9) rfl fl_X6_53 (Ac_118 E g) rfl ?_
  refine go_get td_X6_countNever 7 rfl (q := 12) rfl fl_X6_62 (Ac_3 E g) rfl ?_
  refine go_icmp_ge 75 td_X6_countNever 8 rfl rfl (q := 15) rfl (fun _ => ?_) (fun _ => ?_)
  · refine go_iload_n td_X6_countNever 42 rfl (q := 76) rfl 1 rfl ?_
    exact go_iret td_X6_countNever 43 rfl rfl rfl
  · refine go_iconst td_X6_countNever 9 rfl (q := 16) rfl kc_0 ?_
    refine go_istore_n [(3, .int 0), (0, .ref (E.1 118)), (1, .int s1.1), (2, .int s1.2)] td_X6_countNever 10 rfl (q := 17) rfl (Nat.le_of_ble_eq_true rfl) rfl ?_
    refine go_iconst td_X6_countNever 11 rfl (q := 18) rfl kc_0 ?_
    refine go_istore [(4, .int 0), (3, .int 0), (0, .ref (E.1 118)), (1, .int s1.1), (2, .int s1.2)] td_X6_countNever 12 rfl (q := 20) rfl (Nat.le_of_ble_eq_true rfl) rfl ?_
    refine go_pick [2, 3, 4, 1, 0] (lv' := [(0, .ref (E.1 118)), (1, .int s1.1), (2, .int s1.2), (3, .int 0), (4, .int 0)]) rfl ?_
    refine (show ∀ (u2_0 : Int32) (u2_1 : Int32), Go (wCA E) _ _ g 20 [(0, .ref (E.1 118)), (1, .int s1.1), (2, .int s1.2), (3, .int u2_0), (4, .int u2_1)] [] (Lp (α := Int32 × Int32) _ FU (u2_0, u2_1)) from ?_) 0 0
    intro u2_0 u2_1
    refine go_Lp (α := Int32 × Int32) (fun s2 => g) (fun s2 => [(0, .ref (E.1 118)), (1, .int s1.1), (2, .int s1.2), (3, .int s2.1), (4, .int s2.2)]) ?_ FU (u2_0, u2_1)
    intro rec2 hrec2 s2
    have krec2 : ∀ (u2_0 : Int32) (u2_1 : Int32), Go (wCA E) _ _ g 20 [(0, .ref (E.1 118)), (1, .int s1.1), (2, .int s1.2), (3, .int u2_0), (4, .int u2_1)] [] (rec2 (u2_0, u2_1)) := fun u2_0 u2_1 => hrec2 (u2_0, u2_1)
    refine go_iload td_X6_countNever 13 rfl (q := 22) rfl 4 rfl ?_
    refine go_aload_n td_X6_countNever 14 rfl (q := 23) rfl 0 rfl ?_
    refine go_get td_X6_countNever 15 rfl (q := 26) rfl fl_X6_53 (Ac_118 E g) rfl ?_
    refine go_get td_X6_countNever 16 rfl (q := 29) rfl fl_X6_106 (Ac_3 E g) rfl ?_
    refine go_icmp_ge 54 td_X6_countNever 17 rfl rfl (q := 32) rfl (fun _ => ?_) (fun _ => ?_)
    · refine go_iload_n td_X6_countNever 31 rfl (q := 55) rfl 1 rfl ?_
      refine go_aload_n td_X6_countNever 32 rfl (q := 56) rfl 0 rfl ?_
      refine go_get td_X6_countNever 33 rfl (q := 59) rfl fl_X6_53 (Ac_118 E g) rfl ?_
      refine go_get td_X6_countNever 34 rfl (q := 62) rfl fl_X6_57 (Ac_3 E g) rfl ?_
      refine go_iload_n td_X6_countNever 35 rfl (q := 63) rfl 3 rfl ?_
      refine go_callS td_X6_countNever 36 rfl (q := 66) rfl (XkA E) lk_X6_156 (ok_fA_Integer_bitCount E s2.1 g) ⟨rfl, rfl, Nat.le_of_ble_eq_true rfl, Nat.le_of_ble_eq_true rfl⟩ rfl rfl (Nat.le_of_ble_eq_true rfl) (fun x3 => ?_)
      show Go (wCA E) _ _ g 66 _ [.int x3, .int (g.1 300), .int s1.1] _
      refine go_isub td_X6_countNever 37 rfl (q := 67) rfl ?_
      refine go_iadd td_X6_countNever 38 rfl (q := 68) rfl ?_
      refine go_bvi (fun x4 => ?_)
      refine go_istore_n [(1, .int x4), (0, .ref (E.1 118)), (2, .int s1.2), (3, .int s2.1), (4, .int s2.2)] td_X6_countNever 39 rfl (q := 69) rfl (Nat.le_of_ble_eq_true rfl) rfl ?_
      refine go_iinc [(2, .int (s1.2 + 1)), (1, .int x4), (0, .ref (E.1 118)), (3, .int s2.1), (4, .int s2.2)] td_X6_countNever 40 rfl (q := 72) rfl 2 rfl kc_1 (Nat.le_of_ble_eq_true rfl) rfl ?_
      refine go_goto td_X6_countNever 41 rfl (q := 4) rfl ?_
      refine go_pick [2, 1, 0] (lv' := [(0, .ref (E.1 118)), (1, .int x4), (2, .int (s1.2 + 1))]) rfl ?_
      exact krec1 x4 (s1.2 + 1)
    · refine go_iload_n td_X6_countNever 18 rfl (q := 33) rfl 3 rfl ?_
      refine go_aload_n td_X6_countNever 19 rfl (q := 34) rfl 0 rfl ?_
      refine go_get td_X6_countNever 20 rfl (q := 37) rfl fl_X6_47 (Ac_118 E g) rfl ?_
      refine go_iload_n td_X6_countNever 21 rfl (q := 38) rfl 2 rfl ?_
      refine go_sipush td_X6_countNever 22 rfl (q := 41) rfl ks_240 ?_
      refine go_imul td_X6_countNever 23 rfl (q := 42) rfl ?_
      refine go_iload td_X6_countNever 24 rfl (q := 44) rfl 4 rfl ?_
      refine go_iadd td_X6_countNever 25 rfl (q := 45) rfl ?_
      refine go_ald td_X6_countNever 26 rfl (q := 46) rfl (Ac_128 E g) (t0 := 0) rfl (fun x5 => ?_)
      refine go_ior td_X6_countNever 27 rfl (q := 47) rfl ?_
      refine go_bvi (fun x6 => ?_)
      refine go_istore_n [(3, .int x6), (0, .ref (E.1 118)), (1, .int s1.1), (2, .int s1.2), (4, .int s2.2)] td_X6_countNever 28 rfl (q := 48) rfl (Nat.le_of_ble_eq_true rfl) rfl ?_
      refine go_iinc [(4, .int (s2.2 + 1)), (3, .int x6), (0, .ref (E.1 118)), (1, .int s1.1), (2, .int s1.2)] td_X6_countNever 29 rfl (q := 51) rfl 4 rfl kc_1 (Nat.le_of_ble_eq_true rfl) rfl ?_
      refine go_goto td_X6_countNever 30 rfl (q := 20) rfl ?_
      refine go_pick [2, 3, 4, 1, 0] (lv' := [(0, .ref (E.1 118)), (1, .int s1.1), (2, .int s1.2), (3, .int x6), (4, .int (s2.2 + 1))]) rfl ?_
      exact krec2 x6 (s2.2 + 1)
def fA_D_never (g : G) : Option (Int32 × G) := Option.bind (fA_Plan_stands g) fun x1 => (if x1 = 0 then some ((-1), g) else Option.bind (fA_D_look g) fun x2 => Option.bind (fA_Sky_countNever x2) fun x3 => some (x3, x2))
set_option maxRecDepth 20000 in
set_option maxHeartbeats 4000000 in
theorem ok_fA_D_never (E : Ev)  (g : G)  : Ct (wCA E) yX11_never mi_X11_never [.ref (E.1 0)] (fun r => (some (.int r.1), r.2)) g (fA_D_never g) := by
  refine go_enter rfl rfl (Nat.le_of_ble_eq_true rfl) (lv := [(0, .ref (E.1 0))]) rfl ?_
  unfold fA_D_never
  refine go_aload_n td_X11_never 0 rfl (q := 1) rfl 0 rfl ?_
  refine go_get td_X11_never 1 rfl (q := 4) rfl fl_X11_19 (Ac_0 E g) rfl ?_
  refine go_callV td_X11_never 2 rfl (q := 7) rfl (XkA E) lk_X11_334 (ok_fA_Plan_stands E g) ⟨rfl, rfl, Nat.le_of_ble_eq_true rfl, Nat.le_of_ble_eq_true rfl⟩ rfl rfl (Nat.le_of_ble_eq_true rfl) (Ac_3 E g) rfl (fun x1 => ?_)
  show Go (wCA E) _ _ g 7 _ [.int x1] _
  refine go_if_ne 12 td_X11_never 3 rfl rfl (q := 10) rfl (fun _ => ?_) (fun _ => ?_)
  · refine go_aload_n td_X11_never 6 rfl (q := 13) rfl 0 rfl ?_
    refine go_callV td_X11_never 7 rfl (q := 16) rfl (XkA E) lk_X11_247 (ok_fA_D_look E g) ⟨rfl, rfl, Nat.le_of_ble_eq_true rfl, Nat.le_of_ble_eq_true rfl⟩ rfl rfl (Nat.le_of_ble_eq_true rfl) (Ac_0 E g) rfl (fun x2 => ?_)
    show Go (wCA E) _ _ x2 16 _ [] _
    refine go_aload_n td_X11_never 8 rfl (q := 17) rfl 0 rfl ?_
    refine go_get td_X11_never 9 rfl (q := 20) rfl fl_X11_57 (Ac_0 E x2) rfl ?_
    refine go_callV td_X11_never 10 rfl (q := 23) rfl (XkA E) lk_X11_350 (ok_fA_Sky_countNever E x2) ⟨rfl, rfl, Nat.le_of_ble_eq_true rfl, Nat.le_of_ble_eq_true rfl⟩ rfl rfl (Nat.le_of_ble_eq_true rfl) (Ac_118 E x2) rfl (fun x3 => ?_)
    show Go (wCA E) _ _ x2 23 _ [.int x3] _
    exact go_iret td_X11_never 11 rfl rfl rfl
  · refine go_iconst td_X11_never 4 rfl (q := 11) rfl kc_m1 ?_
    exact go_iret td_X11_never 5 rfl rfl rfl
def fA_Sky_ticksUntilAll (a1 : Int32) (g : G) : Option (Int32) := Lp (α := Int32 × Int32) (fun rec1 s1 => (if (g.1 301) ≤ s1.2 then some s1.1 else Lp (α := Int32 × Int32) (fun rec2 s2 => lj (α := Unit) (fun b3 => (if s2.1 = (g.1 11801) then bv (if s1.1 < s2.2 then s2.2 else s1.1) fun x4 => rec1 (x4, s1.2 + 1) else some (-1))) fun J3 => (if (g.1 303) ≤ s2.2 then J3 () else (if s2.1 = (g.1 11801) then J3 () else Option.bind (fA_D_rest (a1 + s2.2) (g.1 303) g) fun x5 => ag 2880 (g.2.1 128) ((s1.2 * 240) + x5) fun x6 => bv (s2.1 ||| x6) fun x7 => rec2 (x7, s2.2 + 1)))) FU (0, 0))) FU (0, 0)
set_option maxRecDepth 20000 in
set_option maxHeartbeats 4000000 in
theorem ok_fA_Sky_ticksUntilAll (E : Ev) (a1 : Int32) (g : G)  : Ct (wCA E) yX6_ticksUntilAll mi_X6_ticksUntilAll [.ref (E.1 118), .int a1] (fun r => (some (.int r), g)) g (fA_Sky_ticksUntilAll a1 g) := by
  refine go_enter rfl rfl (Nat.le_of_ble_eq_true rfl) (lv := [(0, .ref (E.1 118)), (1, .int a1)]) rfl ?_
  unfold fA_Sky_ticksUntilAll
  refine go_iconst td_X6_ticksUntilAll 0 rfl (q := 1) rfl kc_0 ?_
  refine go_istore_n [(2, .int 0), (0, .ref (E.1 118)), (1, .int a1)] td_X6_ticksUntilAll 1 rfl (q := 2) rfl (Nat.le_of_ble_eq_true rfl) rfl ?_
  refine go_iconst td_X6_ticksUntilAll 2 rfl (q := 3) rfl kc_0 ?_
  refine go_istore_n [(3, .int 0), (2, .int 0), (0, .ref (E.1 118)), (1, .int a1)] td_X6_ticksUntilAll 3 rfl (q := 4) rfl (Nat.le_of_ble_eq_true rfl) rfl ?_
  refine go_pick [2, 3, 1, 0] (lv' := [(0, .ref (E.1 118)), (1, .int a1), (2, .int 0), (3, .int 0)]) rfl ?_
  refine (show ∀ (u1_0 : Int32) (u1_1 : Int32), Go (wCA E) _ _ g 4 [(0, .ref (E.1 118)), (1, .int a1), (2, .int u1_0), (3, .int u1_1)] [] (Lp (α := Int32 × Int32) _ FU (u1_0, u1_1)) from ?_) 0 0
  intro u1_0 u1_1
  refine go_Lp (α := Int32 × Int32) (fun s1 => g) (fun s1 => [(0, .ref (E.1 118)), (1, .int a1), (2, .int s1.1), (3, .int s1.2)]) ?_ FU (u1_0, u1_1)
  intro rec1 hrec1 s1
  have krec1 : ∀ (u1_0 : Int32) (u1_1 : Int32), Go (wCA E) _ _ g 4 [(0, .ref (E.1 118)), (1, .int a1), (2, .int u1_0), (3, .int u1_1)] [] (rec1 (u1_0, u1_1)) := fun u1_0 u1_1 => hrec1 (u1_0, u1_1)
  refine go_iload_n td_X6_ticksUntilAll 4 rfl (q := 5) rfl 3 rfl ?_
  refine go_aload_n td_X6_ticksUntilAll 5 rfl (q := 6) rfl 0 rfl ?_
  refine go_get td_X6_ticksUntilAll 6 rfl (q := 9) rfl fl_X6_53 (Ac_118 E g) rfl ?_
  refine go_get td_X6_ticksUntilAll 7 rfl (q := 12) rfl fl_X6_62 (Ac_3 E g) rfl ?_
  refine go_icmp_ge 102 td_X6_ticksUntilAll 8 rfl rfl (q := 15) rfl (fun _ => ?_) (fun _ => ?_)
  · refine go_iload_n td_X6_ticksUntilAll 53 rfl (q := 103) rfl 2 rfl ?_
    exact go_iret td_X6_ticksUntilAll 54 rfl rfl rfl
  · refine go_iconst td_X6_ticksUntilAll 9 rfl (q := 16) rfl kc_0 ?_
    refine go_istore [(4, .int 0), (0, .ref (E.1 118)), (1, .int a1), (2, .int s1.1), (3, .int s1.2)] td_X6_ticksUntilAll 10 rfl (q := 18) rfl (Nat.le_of_ble_eq_true rfl) rfl ?_
    refine go_iconst td_X6_ticksUntilAll 11 rfl (q := 19) rfl kc_0 ?_
    refine go_istore [(5, .int 0), (4, .int 0), (0, .ref (E.1 118)), (1, .int a1), (2, .int s1.1), (3, .int s1.2)] td_X6_ticksUntilAll 12 rfl (q := 21) rfl (Nat.le_of_ble_eq_true rfl) rfl ?_
    refine go_pick [2, 3, 4, 5, 1, 0] (lv' := [(0, .ref (E.1 118)), (1, .int a1), (2, .int s1.1), (3, .int s1.2), (4, .int 0), (5, .int 0)]) rfl ?_
    refine (show ∀ (u2_0 : Int32) (u2_1 : Int32), Go (wCA E) _ _ g 21 [(0, .ref (E.1 118)), (1, .int a1), (2, .int s1.1), (3, .int s1.2), (4, .int u2_0), (5, .int u2_1)] [] (Lp (α := Int32 × Int32) _ FU (u2_0, u2_1)) from ?_) 0 0
    intro u2_0 u2_1
    refine go_Lp (α := Int32 × Int32) (fun s2 => g) (fun s2 => [(0, .ref (E.1 118)), (1, .int a1), (2, .int s1.1), (3, .int s1.2), (4, .int s2.1), (5, .int s2.2)]) ?_ FU (u2_0, u2_1)
    intro rec2 hrec2 s2
    have krec2 : ∀ (u2_0 : Int32) (u2_1 : Int32), Go (wCA E) _ _ g 21 [(0, .ref (E.1 118)), (1, .int a1), (2, .int s1.1), (3, .int s1.2), (4, .int u2_0), (5, .int u2_1)] [] (rec2 (u2_0, u2_1)) := fun u2_0 u2_1 => hrec2 (u2_0, u2_1)
    refine go_iload td_X6_ticksUntilAll 13 rfl (q := 23) rfl 5 rfl ?_
    refine go_aload_n td_X6_ticksUntilAll 14 rfl (q := 24) rfl 0 rfl ?_
    refine go_get td_X6_ticksUntilAll 15 rfl (q := 27) rfl fl_X6_53 (Ac_118 E g) rfl ?_
    refine go_get td_X6_ticksUntilAll 16 rfl (q := 30) rfl fl_X6_106 (Ac_3 E g) rfl ?_
    refine go_ljX (α := Unit) (fun b3 => [(0, .ref (E.1 118)), (1, .int a1), (2, .int s1.1), (3, .int s1.2), (4, .int s2.1), (5, .int s2.2)]) (fun b3 => []) (fun b3 => g) 78 ?_ ?_
    · intro b3
      refine go_iload td_X6_ticksUntilAll 41 rfl (q := 80) rfl 4 rfl ?_
      refine go_aload_n td_X6_ticksUntilAll 42 rfl (q := 81) rfl 0 rfl ?_
      refine go_get td_X6_ticksUntilAll 43 rfl (q := 84) rfl fl_X6_9 (Ac_118 E g) rfl ?_
      refine go_icmp_eq 89 td_X6_ticksUntilAll 44 rfl rfl (q := 87) rfl (fun _ => ?_) (fun _ => ?_)
      · refine go_iload_n td_X6_ticksUntilAll 47 rfl (q := 90) rfl 2 rfl ?_
        refine go_iload td_X6_ticksUntilAll 48 rfl (q := 92) rfl 5 rfl ?_
        refine go_mmax td_X6_ticksUntilAll 49 rfl (q := 95) rfl lk_X6_168 ⟨Nat.le_of_ble_eq_true rfl, Nat.le_of_ble_eq_true rfl⟩ ?_
        refine go_bvi (fun x4 => ?_)
        refine go_istore_n [(2, .int x4), (0, .ref (E.1 118)), (1, .int a1), (3, .int s1.2), (4, .int s2.1), (5, .int s2.2)] td_X6_ticksUntilAll 50 rfl (q := 96) rfl (Nat.le_of_ble_eq_true rfl) rfl ?_
        refine go_iinc [(3, .int (s1.2 + 1)), (2, .int x4), (0, .ref (E.1 118)), (1, .int a1), (4, .int s2.1), (5, .int s2.2)] td_X6_ticksUntilAll 51 rfl (q := 99) rfl 3 rfl kc_1 (Nat.le_of_ble_eq_true rfl) rfl ?_
        refine go_goto td_X6_ticksUntilAll 52 rfl (q := 4) rfl ?_
        refine go_pick [2, 3, 1, 0] (lv' := [(0, .ref (E.1 118)), (1, .int a1), (2, .int x4), (3, .int (s1.2 + 1))]) rfl ?_
        exact krec1 x4 (s1.2 + 1)
      · refine go_iconst td_X6_ticksUntilAll 45 rfl (q := 88) rfl kc_m1 ?_
        exact go_iret td_X6_ticksUntilAll 46 rfl rfl rfl
    intro J3 hJ3
    have kJ3 : Go (wCA E) _ _ g 78 [(0, .ref (E.1 118)), (1, .int a1), (2, .int s1.1), (3, .int s1.2), (4, .int s2.1), (5, .int s2.2)] [] (J3 ()) := hJ3 ()
    refine go_icmp_ge 78 td_X6_ticksUntilAll 17 rfl rfl (q := 33) rfl (fun _ => ?_) (fun _ => ?_)
    · refine go_pick [0, 1, 2, 3, 4, 5] (lv' := [(0, .ref (E.1 118)), (1, .int a1), (2, .int s1.1), (3, .int s1.2), (4, .int s2.1), (5, .int s2.2)]) rfl ?_
      exact kJ3 
    · refine go_iload td_X6_ticksUntilAll 18 rfl (q := 35) rfl 4 rfl ?_
      refine go_aload_n td_X6_ticksUntilAll 19 rfl (q := 36) rfl 0 rfl ?_
      refine go_get td_X6_ticksUntilAll 20 rfl (q := 39) rfl fl_X6_9 (Ac_118 E g) rfl ?_
      refine go_icmp_eq 78 td_X6_ticksUntilAll 21 rfl rfl (q := 42) rfl (fun _ => ?_) (fun _ => ?_)
      · refine go_pick [0, 1, 2, 3, 4, 5] (lv' := [(0, .ref (E.1 118)), (1, .int a1), (2, .int s1.1), (3, .int s1.2), (4, .int s2.1), (5, .int s2.2)]) rfl ?_
        exact kJ3 
      · refine go_iload td_X6_ticksUntilAll 22 rfl (q := 44) rfl 4 rfl ?_
        refine go_aload_n td_X6_ticksUntilAll 23 rfl (q := 45) rfl 0 rfl ?_
        refine go_get td_X6_ticksUntilAll 24 rfl (q := 48) rfl fl_X6_47 (Ac_118 E g) rfl ?_
        refine go_iload_n td_X6_ticksUntilAll 25 rfl (q := 49) rfl 3 rfl ?_
        refine go_sipush td_X6_ticksUntilAll 26 rfl (q := 52) rfl ks_240 ?_
        refine go_imul td_X6_ticksUntilAll 27 rfl (q := 53) rfl ?_
        refine go_iload_n td_X6_ticksUntilAll 28 rfl (q := 54) rfl 1 rfl ?_
        refine go_iload td_X6_ticksUntilAll 29 rfl (q := 56) rfl 5 rfl ?_
        refine go_iadd td_X6_ticksUntilAll 30 rfl (q := 57) rfl ?_
        refine go_aload_n td_X6_ticksUntilAll 31 rfl (q := 58) rfl 0 rfl ?_
        refine go_get td_X6_ticksUntilAll 32 rfl (q := 61) rfl fl_X6_53 (Ac_118 E g) rfl ?_
        refine go_get td_X6_ticksUntilAll 33 rfl (q := 64) rfl fl_X6_106 (Ac_3 E g) rfl ?_
        refine go_callN td_X6_ticksUntilAll 34 rfl (q := 67) rfl (XkA E) (lk_X6_123 E) (ok_fA_D_rest E (a1 + s2.2) (g.1 303) g) ⟨rfl, rfl, Nat.le_of_ble_eq_true rfl, Nat.le_of_ble_eq_true rfl⟩ rfl rfl (Nat.le_of_ble_eq_true rfl) (fun x5 => ?_)
        show Go (wCA E) _ _ g 67 _ [.int x5, .int (s1.2 * 240), .ref (E.1 128), .int s2.1] _
        refine go_iadd td_X6_ticksUntilAll 35 rfl (q := 68) rfl ?_
        refine go_ald td_X6_ticksUntilAll 36 rfl (q := 69) rfl (Ac_128 E g) (t0 := 0) rfl (fun x6 => ?_)
        refine go_ior td_X6_ticksUntilAll 37 rfl (q := 70) rfl ?_
        refine go_bvi (fun x7 => ?_)
        refine go_istore [(4, .int x7), (0, .ref (E.1 118)), (1, .int a1), (2, .int s1.1), (3, .int s1.2), (5, .int s2.2)] td_X6_ticksUntilAll 38 rfl (q := 72) rfl (Nat.le_of_ble_eq_true rfl) rfl ?_
        refine go_iinc [(5, .int (s2.2 + 1)), (4, .int x7), (0, .ref (E.1 118)), (1, .int a1), (2, .int s1.1), (3, .int s1.2)] td_X6_ticksUntilAll 39 rfl (q := 75) rfl 5 rfl kc_1 (Nat.le_of_ble_eq_true rfl) rfl ?_
        refine go_goto td_X6_ticksUntilAll 40 rfl (q := 21) rfl ?_
        refine go_pick [2, 3, 4, 5, 1, 0] (lv' := [(0, .ref (E.1 118)), (1, .int a1), (2, .int s1.1), (3, .int s1.2), (4, .int x7), (5, .int (s2.2 + 1))]) rfl ?_
        exact krec2 x7 (s2.2 + 1)
def fA_D_soon (a1 : Int32) (g : G) : Option (Int32 × G) := Option.bind (fA_D_isTick a1 g) fun x1 => (if x1 = 0 then some ((-1), g) else Option.bind (fA_D_look g) fun x2 => Option.bind (fA_D_inCycle a1 x2) fun x3 => Option.bind (fA_Sky_ticksUntilAll x3 x2) fun x4 => some (x4, x2))
set_option maxRecDepth 20000 in
set_option maxHeartbeats 4000000 in
theorem ok_fA_D_soon (E : Ev) (a1 : Int32) (g : G)  : Ct (wCA E) yX11_soon mi_X11_soon [.ref (E.1 0), .int a1] (fun r => (some (.int r.1), r.2)) g (fA_D_soon a1 g) := by
  refine go_enter rfl rfl (Nat.le_of_ble_eq_true rfl) (lv := [(0, .ref (E.1 0)), (1, .int a1)]) rfl ?_
  unfold fA_D_soon
  refine go_aload_n td_X11_soon 0 rfl (q := 1) rfl 0 rfl ?_
  refine go_iload_n td_X11_soon 1 rfl (q := 2) rfl 1 rfl ?_
  refine go_callV td_X11_soon 2 rfl (q := 5) rfl (XkA E) lk_X11_266 (ok_fA_D_isTick E a1 g) ⟨rfl, rfl, Nat.le_of_ble_eq_true rfl, Nat.le_of_ble_eq_true rfl⟩ rfl rfl (Nat.le_of_ble_eq_true rfl) (Ac_0 E g) rfl (fun x1 => ?_)
  show Go (wCA E) _ _ g 5 _ [.int x1] _
  refine go_if_ne 10 td_X11_soon 3 rfl rfl (q := 8) rfl (fun _ => ?_) (fun _ => ?_)
  · refine go_aload_n td_X11_soon 6 rfl (q := 11) rfl 0 rfl ?_
    refine go_callV td_X11_soon 7 rfl (q := 14) rfl (XkA E) lk_X11_247 (ok_fA_D_look E g) ⟨rfl, rfl, Nat.le_of_ble_eq_true rfl, Nat.le_of_ble_eq_true rfl⟩ rfl rfl (Nat.le_of_ble_eq_true rfl) (Ac_0 E g) rfl (fun x2 => ?_)
    show Go (wCA E) _ _ x2 14 _ [] _
    refine go_aload_n td_X11_soon 8 rfl (q := 15) rfl 0 rfl ?_
    refine go_get td_X11_soon 9 rfl (q := 18) rfl fl_X11_57 (Ac_0 E x2) rfl ?_
    refine go_aload_n td_X11_soon 10 rfl (q := 19) rfl 0 rfl ?_
    refine go_iload_n td_X11_soon 11 rfl (q := 20) rfl 1 rfl ?_
    refine go_callV td_X11_soon 12 rfl (q := 23) rfl (XkA E) lk_X11_269 (ok_fA_D_inCycle E a1 x2) ⟨rfl, rfl, Nat.le_of_ble_eq_true rfl, Nat.le_of_ble_eq_true rfl⟩ rfl rfl (Nat.le_of_ble_eq_true rfl) (Ac_0 E x2) rfl (fun x3 => ?_)
    show Go (wCA E) _ _ x2 23 _ [.int x3, .ref (E.1 118)] _
    refine go_callV td_X11_soon 13 rfl (q := 26) rfl (XkA E) lk_X11_353 (ok_fA_Sky_ticksUntilAll E x3 x2) ⟨rfl, rfl, Nat.le_of_ble_eq_true rfl, Nat.le_of_ble_eq_true rfl⟩ rfl rfl (Nat.le_of_ble_eq_true rfl) (Ac_118 E x2) rfl (fun x4 => ?_)
    show Go (wCA E) _ _ x2 26 _ [.int x4] _
    exact go_iret td_X11_soon 14 rfl rfl rfl
  · refine go_iconst td_X11_soon 4 rfl (q := 9) rfl kc_m1 ?_
    exact go_iret td_X11_soon 5 rfl rfl rfl
def fA_Strip_ticksUntilSeen (a1 : Int32) (g : G) : Option (Int32) := Lp (α := Int32) (fun rec1 s1 => (if (g.1 13003) ≤ s1 then some (-1) else Option.bind (fA_D_rest (a1 + s1) (g.1 13003) g) fun x2 => Option.bind (fA_Strip_isOf 8 x2 g) fun x3 => (if x3 = 0 then some s1 else rec1 (s1 + 1)))) FU 0
set_option maxRecDepth 20000 in
set_option maxHeartbeats 4000000 in
theorem ok_fA_Strip_ticksUntilSeen (E : Ev) (a1 : Int32) (g : G)  : Ct (wCA E) yX7_ticksUntilSeen mi_X7_ticksUntilSeen [.ref (E.1 130), .int a1] (fun r => (some (.int r), g)) g (fA_Strip_ticksUntilSeen a1 g) := by
  refine go_enter rfl rfl (Nat.le_of_ble_eq_true rfl) (lv := [(0, .ref (E.1 130)), (1, .int a1)]) rfl ?_
  unfold fA_Strip_ticksUntilSeen
  refine go_iconst td_X7_ticksUntilSeen 0 rfl (q := 1) rfl kc_0 ?_
  refine go_istore_n [(2, .int 0), (0, .ref (E.1 130)), (1, .int a1)] td_X7_ticksUntilSeen 1 rfl (q := 2) rfl (Nat.le_of_ble_eq_true rfl) rfl ?_
  refine go_pick [1, 2, 0] (lv' := [(0, .ref (E.1 130)), (1, .int a1), (2, .int 0)]) rfl ?_
  refine (show ∀ (u1_0 : Int32), Go (wCA E) _ _ g 2 [(0, .ref (E.1 130)), (1, .int a1), (2, .int u1_0)] [] (Lp (α := Int32) _ FU u1_0) from ?_) 0
  intro u1_0
  refine go_Lp (α := Int32) (fun s1 => g) (fun s1 => [(0, .ref (E.1 130)), (1, .int a1), (2, .int s1)]) ?_ FU u1_0
  intro rec1 hrec1 s1
  have krec1 : ∀ (u1_0 : Int32), Go (wCA E) _ _ g 2 [(0, .ref (E.1 130)), (1, .int a1), (2, .int u1_0)] [] (rec1 u1_0) := fun u1_0 => hrec1 u1_0
  refine go_iload_n td_X7_ticksUntilSeen 2 rfl (q := 3) rfl 2 rfl ?_
  refine go_aload_n td_X7_ticksUntilSeen 3 rfl (q := 4) rfl 0 rfl ?_
  refine go_get td_X7_ticksUntilSeen 4 rfl (q := 7) rfl fl_X7_21 (Ac_130 E g) rfl ?_
  refine go_icmp_ge 37 td_X7_ticksUntilSeen 5 rfl rfl (q := 10) rfl (fun _ => ?_) (fun _ => ?_)
  · refine go_iconst td_X7_ticksUntilSeen 20 rfl (q := 38) rfl kc_m1 ?_
    exact go_iret td_X7_ticksUntilSeen 21 rfl rfl rfl
  · refine go_aload_n td_X7_ticksUntilSeen 6 rfl (q := 11) rfl 0 rfl ?_
    refine go_bipush td_X7_ticksUntilSeen 7 rfl (q := 13) rfl kb_8 ?_
    refine go_iload_n td_X7_ticksUntilSeen 8 rfl (q := 14) rfl 1 rfl ?_
    refine go_iload_n td_X7_ticksUntilSeen 9 rfl (q := 15) rfl 2 rfl ?_
    refine go_iadd td_X7_ticksUntilSeen 10 rfl (q := 16) rfl ?_
    refine go_aload_n td_X7_ticksUntilSeen 11 rfl (q := 17) rfl 0 rfl ?_
    refine go_get td_X7_ticksUntilSeen 12 rfl (q := 20) rfl fl_X7_21 (Ac_130 E g) rfl ?_
    refine go_callN td_X7_ticksUntilSeen 13 rfl (q := 23) rfl (XkA E) (lk_X7_53 E) (ok_fA_D_rest E (a1 + s1) (g.1 13003) g) ⟨rfl, rfl, Nat.le_of_ble_eq_true rfl, Nat.le_of_ble_eq_true rfl⟩ rfl rfl (Nat.le_of_ble_eq_true rfl) (fun x2 => ?_)
    show Go (wCA E) _ _ g 23 _ [.int x2, .int 8, .ref (E.1 130)] _
    refine go_callV td_X7_ticksUntilSeen 14 rfl (q := 26) rfl (XkA E) lk_X7_45 (ok_fA_Strip_isOf E 8 x2 g) ⟨rfl, rfl, Nat.le_of_ble_eq_true rfl, Nat.le_of_ble_eq_true rfl⟩ rfl rfl (Nat.le_of_ble_eq_true rfl) (Ac_130 E g) rfl (fun x3 => ?_)
    show Go (wCA E) _ _ g 26 _ [.int x3] _
    refine go_if_ne 31 td_X7_ticksUntilSeen 15 rfl rfl (q := 29) rfl (fun _ => ?_) (fun _ => ?_)
    · refine go_iinc [(2, .int (s1 + 1)), (0, .ref (E.1 130)), (1, .int a1)] td_X7_ticksUntilSeen 18 rfl (q := 34) rfl 2 rfl kc_1 (Nat.le_of_ble_eq_true rfl) rfl ?_
      refine go_goto td_X7_ticksUntilSeen 19 rfl (q := 2) rfl ?_
      refine go_pick [1, 2, 0] (lv' := [(0, .ref (E.1 130)), (1, .int a1), (2, .int (s1 + 1))]) rfl ?_
      exact krec1 (s1 + 1)
    · refine go_iload_n td_X7_ticksUntilSeen 16 rfl (q := 30) rfl 2 rfl ?_
      exact go_iret td_X7_ticksUntilSeen 17 rfl rfl rfl
def fA_D_next (a1 : Int32) (a2 : Int32) (a3 : Int32) (g : G) : Option (Int32 × G) := Option.bind (fA_D_isTick a1 g) fun x1 => (if x1 = 0 then some ((-1), g) else Option.bind (fA_Plan_hasCell a2 a3 g) fun x2 => (if x2 = 0 then some ((-1), g) else Option.bind (fA_D_look g) fun x3 => Option.bind (fA_Strip_lay (x3.1 2700) a2 a3 x3) fun x4 => Option.bind (fA_D_inCycle a1 x4) fun x5 => Option.bind (fA_Strip_ticksUntilSeen x5 x4) fun x6 => some (x6, x4)))
set_option maxRecDepth 20000 in
set_option maxHeartbeats 4000000 in
theorem ok_fA_D_next (E : Ev) (a1 : Int32) (a2 : Int32) (a3 : Int32) (g : G)  : Ct (wCA E) yX11_next mi_X11_next [.ref (E.1 0), .int a1, .int a2, .int a3] (fun r => (some (.int r.1), r.2)) g (fA_D_next a1 a2 a3 g) := by
  refine go_enter rfl rfl (Nat.le_of_ble_eq_true rfl) (lv := [(0, .ref (E.1 0)), (1, .int a1), (2, .int a2), (3, .int a3)]) rfl ?_
  unfold fA_D_next
  refine go_aload_n td_X11_next 0 rfl (q := 1) rfl 0 rfl ?_
  refine go_iload_n td_X11_next 1 rfl (q := 2) rfl 1 rfl ?_
  refine go_callV td_X11_next 2 rfl (q := 5) rfl (XkA E) lk_X11_266 (ok_fA_D_isTick E a1 g) ⟨rfl, rfl, Nat.le_of_ble_eq_true rfl, Nat.le_of_ble_eq_true rfl⟩ rfl rfl (Nat.le_of_ble_eq_true rfl) (Ac_0 E g) rfl (fun x1 => ?_)
  show Go (wCA E) _ _ g 5 _ [.int x1] _
  refine go_if_eq 20 td_X11_next 3 rfl rfl (q := 8) rfl (fun _ => ?_) (fun _ => ?_)
  · refine go_iconst td_X11_next 10 rfl (q := 21) rfl kc_m1 ?_
    exact go_iret td_X11_next 11 rfl rfl rfl
  · refine go_aload_n td_X11_next 4 rfl (q := 9) rfl 0 rfl ?_
    refine go_get td_X11_next 5 rfl (q := 12) rfl fl_X11_19 (Ac_0 E g) rfl ?_
    refine go_iload_n td_X11_next 6 rfl (q := 13) rfl 2 rfl ?_
    refine go_iload_n td_X11_next 7 rfl (q := 14) rfl 3 rfl ?_
    refine go_callV td_X11_next 8 rfl (q := 17) rfl (XkA E) lk_X11_278 (ok_fA_Plan_hasCell E a2 a3 g) ⟨rfl, rfl, Nat.le_of_ble_eq_true rfl, Nat.le_of_ble_eq_true rfl⟩ rfl rfl (Nat.le_of_ble_eq_true rfl) (Ac_3 E g) rfl (fun x2 => ?_)
    show Go (wCA E) _ _ g 17 _ [.int x2] _
    refine go_if_ne 22 td_X11_next 9 rfl rfl (q := 20) rfl (fun _ => ?_) (fun _ => ?_)
    · refine go_aload_n td_X11_next 12 rfl (q := 23) rfl 0 rfl ?_
      refine go_callV td_X11_next 13 rfl (q := 26) rfl (XkA E) lk_X11_247 (ok_fA_D_look E g) ⟨rfl, rfl, Nat.le_of_ble_eq_true rfl, Nat.le_of_ble_eq_true rfl⟩ rfl rfl (Nat.le_of_ble_eq_true rfl) (Ac_0 E g) rfl (fun x3 => ?_)
      show Go (wCA E) _ _ x3 26 _ [] _
      refine go_aload_n td_X11_next 14 rfl (q := 27) rfl 0 rfl ?_
      refine go_get td_X11_next 15 rfl (q := 30) rfl fl_X11_66 (Ac_0 E x3) rfl ?_
      refine go_aload_n td_X11_next 16 rfl (q := 31) rfl 0 rfl ?_
      refine go_get td_X11_next 17 rfl (q := 34) rfl fl_X11_29 (Ac_0 E x3) rfl ?_
      refine go_get td_X11_next 18 rfl (q := 37) rfl fl_X11_178 (Ac_27 E x3) rfl ?_
      refine go_iload_n td_X11_next 19 rfl (q := 38) rfl 2 rfl ?_
      refine go_iload_n td_X11_next 20 rfl (q := 39) rfl 3 rfl ?_
      refine go_callV td_X11_next 21 rfl (q := 42) rfl (XkA E) lk_X11_289 (ok_fA_Strip_lay E (x3.1 2700) a2 a3 x3) ⟨rfl, rfl, Nat.le_of_ble_eq_true rfl, Nat.le_of_ble_eq_true rfl⟩ rfl rfl (Nat.le_of_ble_eq_true rfl) (Ac_130 E x3) rfl (fun x4 => ?_)
      show Go (wCA E) _ _ x4 42 _ [] _
      refine go_aload_n td_X11_next 22 rfl (q := 43) rfl 0 rfl ?_
      refine go_get td_X11_next 23 rfl (q := 46) rfl fl_X11_66 (Ac_0 E x4) rfl ?_
      refine go_aload_n td_X11_next 24 rfl (q := 47) rfl 0 rfl ?_
      refine go_iload_n td_X11_next 25 rfl (q := 48) rfl 1 rfl ?_
      refine go_callV td_X11_next 26 rfl (q := 51) rfl (XkA E) lk_X11_269 (ok_fA_D_inCycle E a1 x4) ⟨rfl, rfl, Nat.le_of_ble_eq_true rfl, Nat.le_of_ble_eq_true rfl⟩ rfl rfl (Nat.le_of_ble_eq_true rfl) (Ac_0 E x4) rfl (fun x5 => ?_)
      show Go (wCA E) _ _ x4 51 _ [.int x5, .ref (E.1 130)] _
      refine go_callV td_X11_next 27 rfl (q := 54) rfl (XkA E) lk_X11_356 (ok_fA_Strip_ticksUntilSeen E x5 x4) ⟨rfl, rfl, Nat.le_of_ble_eq_true rfl, Nat.le_of_ble_eq_true rfl⟩ rfl rfl (Nat.le_of_ble_eq_true rfl) (Ac_130 E x4) rfl (fun x6 => ?_)
      show Go (wCA E) _ _ x4 54 _ [.int x6] _
      exact go_iret td_X11_next 28 rfl rfl rfl
    · refine go_iconst td_X11_next 10 rfl (q := 21) rfl kc_m1 ?_
      exact go_iret td_X11_next 11 rfl rfl rfl
def fA_Fleet_take_2 (g : G) : Option (G) := bv (sS g 13300 (g.1 2700)) fun g1 => cp 4 4 0 0 4 (bv (sC g1 134 (va_cpy (g1.2.1 28) (g1.2.1 134) (0 : Int32).toNatClampNeg (0 : Int32).toNatClampNeg (4 : Int32).toNatClampNeg)) fun g2 => cp 8 8 0 0 8 (bv (sC g2 135 (va_cpy (g2.2.1 29) (g2.2.1 135) (0 : Int32).toNatClampNeg (0 : Int32).toNatClampNeg (8 : Int32).toNatClampNeg)) fun g3 => cp 8 8 0 0 8 (bv (sC g3 136 (va_cpy (g3.2.1 30) (g3.2.1 136) (0 : Int32).toNatClampNeg (0 : Int32).toNatClampNeg (8 : Int32).toNatClampNeg)) fun g4 => some g4)))
set_option maxRecDepth 20000 in
set_option maxHeartbeats 4000000 in
theorem ok_fA_Fleet_take_2 (E : Ev)  (g : G)  : Ct (wCA E) yX1_take mi_X1_take [.ref (E.1 133), .ref (E.1 27)] (fun r => (none, r)) g (fA_Fleet_take_2 g) := by
  refine go_enter rfl rfl (Nat.le_of_ble_eq_true rfl) (lv := [(0, .ref (E.1 133)), (1, .ref (E.1 27))]) rfl ?_
  unfold fA_Fleet_take_2
  refine go_aload_n td_X1_take 0 rfl (q := 1) rfl 0 rfl ?_
  refine go_aload_n td_X1_take 1 rfl (q := 2) rfl 1 rfl ?_
  refine go_get td_X1_take 2 rfl (q := 5) rfl fl_X1_9 (Ac_27 E g) rfl ?_
  refine go_put td_X1_take 3 rfl (q := 8) rfl flp_X1_9 (Ac_133 E g) rfl rfl (Nat.le_of_ble_eq_true rfl) (Aps_13300 E g (g.1 2700)) ?_
  refine go_bvg (fun g1 => ?_)
  refine go_aload_n td_X1_take 4 rfl (q := 9) rfl 1 rfl ?_
  refine go_get td_X1_take 5 rfl (q := 12) rfl fl_X1_15 (Ac_27 E g1) rfl ?_
  refine go_iconst td_X1_take 6 rfl (q := 13) rfl kc_0 ?_
  refine go_aload_n td_X1_take 7 rfl (q := 14) rfl 0 rfl ?_
  refine go_get td_X1_take 8 rfl (q := 17) rfl fl_X1_15 (Ac_133 E g1) rfl ?_
  refine go_iconst td_X1_take 9 rfl (q := 18) rfl kc_0 ?_
  refine go_iconst td_X1_take 10 rfl (q := 19) rfl kc_4 ?_
  refine go_copy td_X1_take 11 rfl (q := 22) rfl lk_X1_25 ⟨Nat.le_of_ble_eq_true rfl, Nat.le_of_ble_eq_true rfl⟩ (Ac_28 E g1) (Ac_134 E g1) (t0 := 0) (t1 := 0) rfl rfl (Aas_134 E g1 _) ?_
  refine go_bvg (fun g2 => ?_)
  refine go_aload_n td_X1_take 12 rfl (q := 23) rfl 1 rfl ?_
  refine go_get td_X1_take 13 rfl (q := 26) rfl fl_X1_19 (Ac_27 E g2) rfl ?_
  refine go_iconst td_X1_take 14 rfl (q := 27) rfl kc_0 ?_
  refine go_aload_n td_X1_take 15 rfl (q := 28) rfl 0 rfl ?_
  refine go_get td_X1_take 16 rfl (q := 31) rfl fl_X1_19 (Ac_133 E g2) rfl ?_
  refine go_iconst td_X1_take 17 rfl (q := 32) rfl kc_0 ?_
  refine go_bipush td_X1_take 18 rfl (q := 34) rfl kb_8 ?_
  refine go_copy td_X1_take 19 rfl (q := 37) rfl lk_X1_25 ⟨Nat.le_of_ble_eq_true rfl, Nat.le_of_ble_eq_true rfl⟩ (Ac_29 E g2) (Ac_135 E g2) (t0 := 0) (t1 := 0) rfl rfl (Aas_135 E g2 _) ?_
  refine go_bvg (fun g3 => ?_)
  refine go_aload_n td_X1_take 20 rfl (q := 38) rfl 1 rfl ?_
  refine go_get td_X1_take 21 rfl (q := 41) rfl fl_X1_22 (Ac_27 E g3) rfl ?_
  refine go_iconst td_X1_take 22 rfl (q := 42) rfl kc_0 ?_
  refine go_aload_n td_X1_take 23 rfl (q := 43) rfl 0 rfl ?_
  refine go_get td_X1_take 24 rfl (q := 46) rfl fl_X1_22 (Ac_133 E g3) rfl ?_
  refine go_iconst td_X1_take 25 rfl (q := 47) rfl kc_0 ?_
  refine go_bipush td_X1_take 26 rfl (q := 49) rfl kb_8 ?_
  refine go_copy td_X1_take 27 rfl (q := 52) rfl lk_X1_25 ⟨Nat.le_of_ble_eq_true rfl, Nat.le_of_ble_eq_true rfl⟩ (Ac_30 E g3) (Ac_136 E g3) (t0 := 0) (t1 := 0) rfl rfl (Aas_136 E g3 _) ?_
  refine go_bvg (fun g4 => ?_)
  exact go_vret td_X1_take 28 rfl rfl rfl
def fA_Trial_start (g : G) : Option (G) := bv (sS g 13200 (-1)) fun g1 => bv (sS g1 13201 (-1)) fun g2 => bv (sS g2 13202 (-1)) fun g3 => bv (sF g3 0 FP.fconst0) fun g4 => Option.bind (fA_Fleet_take_2 g4) fun x5 => some x5
set_option maxRecDepth 20000 in
set_option maxHeartbeats 4000000 in
theorem ok_fA_Trial_start (E : Ev)  (g : G)  : Ct (wCA E) yX9_start mi_X9_start [.ref (E.1 132)] (fun r => (none, r)) g (fA_Trial_start g) := by
  refine go_enter rfl rfl (Nat.le_of_ble_eq_true rfl) (lv := [(0, .ref (E.1 132))]) rfl ?_
  unfold fA_Trial_start
  refine go_aload_n td_X9_start 0 rfl (q := 1) rfl 0 rfl ?_
  refine go_iconst td_X9_start 1 rfl (q := 2) rfl kc_m1 ?_
  refine go_put td_X9_start 2 rfl (q := 5) rfl flp_X9_9 (Ac_132 E g) rfl rfl (Nat.le_of_ble_eq_true rfl) (Aps_13200 E g (-1)) ?_
  refine go_bvg (fun g1 => ?_)
  refine go_aload_n td_X9_start 3 rfl (q := 6) rfl 0 rfl ?_
  refine go_iconst td_X9_start 4 rfl (q := 7) rfl kc_m1 ?_
  refine go_put td_X9_start 5 rfl (q := 10) rfl flp_X9_15 (Ac_132 E g1) rfl rfl (Nat.le_of_ble_eq_true rfl) (Aps_13201 E g1 (-1)) ?_
  refine go_bvg (fun g2 => ?_)
  refine go_aload_n td_X9_start 6 rfl (q := 11) rfl 0 rfl ?_
  refine go_iconst td_X9_start 7 rfl (q := 12) rfl kc_m1 ?_
  refine go_put td_X9_start 8 rfl (q := 15) rfl flp_X9_18 (Ac_132 E g2) rfl rfl (Nat.le_of_ble_eq_true rfl) (Aps_13202 E g2 (-1)) ?_
  refine go_bvg (fun g3 => ?_)
  refine go_aload_n td_X9_start 9 rfl (q := 16) rfl 0 rfl ?_
  refine go_fconst0 td_X9_start 10 rfl (q := 17) rfl ?_
  refine go_put td_X9_start 11 rfl (q := 20) rfl flp_X9_21 (Ac_132 E g3) rfl rfl (Nat.le_of_ble_eq_true rfl) (Apf E g3 FP.fconst0) ?_
  refine go_bvg (fun g4 => ?_)
  refine go_aload_n td_X9_start 12 rfl (q := 21) rfl 0 rfl ?_
  refine go_get td_X9_start 13 rfl (q := 24) rfl fl_X9_28 (Ac_132 E g4) rfl ?_
  refine go_aload_n td_X9_start 14 rfl (q := 25) rfl 0 rfl ?_
  refine go_get td_X9_start 15 rfl (q := 28) rfl fl_X9_40 (Ac_132 E g4) rfl ?_
  refine go_callV td_X9_start 16 rfl (q := 31) rfl (XkA E) lk_X9_43 (ok_fA_Fleet_take_2 E g4) ⟨rfl, rfl, Nat.le_of_ble_eq_true rfl, Nat.le_of_ble_eq_true rfl⟩ rfl rfl (Nat.le_of_ble_eq_true rfl) (Ac_133 E g4) rfl (fun x5 => ?_)
  show Go (wCA E) _ _ x5 31 _ [] _
  exact go_vret td_X9_start 17 rfl rfl rfl
def fA_Plan_turnOf_2 (a1 : Int32) (g : G) : Option (Int32) := ag 8 (g.2.1 9) a1 fun x1 => ag 4 (g.2.1 7) x1 fun x2 => some x2
set_option maxRecDepth 20000 in
set_option maxHeartbeats 4000000 in
theorem ok_fA_Plan_turnOf_2 (E : Ev) (a1 : Int32) (g : G)  : Ct (wCA E) yX4_turnOf mi_X4_turnOf [.ref (E.1 3), .int a1] (fun r => (some (.int r), g)) g (fA_Plan_turnOf_2 a1 g) := by
  refine go_enter rfl rfl (Nat.le_of_ble_eq_true rfl) (lv := [(0, .ref (E.1 3)), (1, .int a1)]) rfl ?_
  unfold fA_Plan_turnOf_2
  refine go_aload_n td_X4_turnOf 0 rfl (q := 1) rfl 0 rfl ?_
  refine go_get td_X4_turnOf 1 rfl (q := 4) rfl fl_X4_46 (Ac_3 E g) rfl ?_
  refine go_aload_n td_X4_turnOf 2 rfl (q := 5) rfl 0 rfl ?_
  refine go_get td_X4_turnOf 3 rfl (q := 8) rfl fl_X4_52 (Ac_3 E g) rfl ?_
  refine go_iload_n td_X4_turnOf 4 rfl (q := 9) rfl 1 rfl ?_
  refine go_ald td_X4_turnOf 5 rfl (q := 10) rfl (Ac_9 E g) (t0 := 0) rfl (fun x1 => ?_)
  refine go_ald td_X4_turnOf 6 rfl (q := 11) rfl (Ac_7 E g) (t0 := 0) rfl (fun x2 => ?_)
  exact go_iret td_X4_turnOf 7 rfl rfl rfl
def fA_Sky_draw_2 (a1 : Int32) (g : G) : Option (G) := ag 8 (g.2.1 9) a1 fun x1 => ag 4 (g.2.1 134) x1 fun x2 => ag 8 (g.2.1 135) a1 fun x3 => ag 8 (g.2.1 136) a1 fun x4 => ag 8 (g.2.1 121) a1 fun x5 => lj (α := Unit) (fun b6 => ck 8 a1 (bv (sA g 121 (a1 : Int32).toNatClampNeg x2) fun g7 => ck 8 a1 (bv (sA g7 122 (a1 : Int32).toNatClampNeg x3) fun g8 => ck 8 a1 (bv (sA g8 123 (a1 : Int32).toNatClampNeg x4) fun g9 => Option.bind (fA_Sky_makeArcs x4 g9) fun x10 => Lp (α := Int32 × G) (fun rec11 s11 => (if (s11.2.1 303) ≤ s11.1 then some s11.2 else Option.bind (fA_Sky_place a1 s11.1 x2 x3 s11.2) fun x12 => Option.bind (fA_Sky_paint a1 s11.1 x4 x12) fun x13 => rec11 (s11.1 + 1, x13))) FU (0, x10))))) fun J6 => (if x5 = x2 then ag 8 (g.2.1 122) a1 fun x14 => (if x14 = x3 then ag 8 (g.2.1 123) a1 fun x15 => (if x15 = x4 then some g else J6 ()) else J6 ()) else J6 ())
set_option maxRecDepth 20000 in
set_option maxHeartbeats 4000000 in
theorem ok_fA_Sky_draw_2 (E : Ev) (a1 : Int32) (g : G)  : Ct (wCA E) yX6_draw mi_X6_draw [.ref (E.1 118), .ref (E.1 133), .int a1] (fun r => (none, r)) g (fA_Sky_draw_2 a1 g) := by
  refine go_enter rfl rfl (Nat.le_of_ble_eq_true rfl) (lv := [(0, .ref (E.1 118)), (1, .ref (E.1 133)), (2, .int a1)]) rfl ?_
  unfold fA_Sky_draw_2
  refine go_aload_n td_X6_draw 0 rfl (q := 1) rfl 1 rfl ?_
  refine go_get td_X6_draw 1 rfl (q := 4) rfl fl_X6_88 (Ac_133 E g) rfl ?_
  refine go_aload_n td_X6_draw 2 rfl (q := 5) rfl 0 rfl ?_
  refine go_get td_X6_draw 3 rfl (q := 8) rfl fl_X6_53 (Ac_118 E g) rfl ?_
  refine go_get td_X6_draw 4 rfl (q := 11) rfl fl_X6_93 (Ac_3 E g) rfl ?_
  refine go_iload_n td_X6_draw 5 rfl (q := 12) rfl 2 rfl ?_
  refine go_ald td_X6_draw 6 rfl (q := 13) rfl (Ac_9 E g) (t0 := 0) rfl (fun x1 => ?_)
  refine go_ald td_X6_draw 7 rfl (q := 14) rfl (Ac_134 E g) (t0 := 0) rfl (fun x2 => ?_)
  refine go_istore_n [(3, .int x2), (0, .ref (E.1 118)), (1, .ref (E.1 133)), (2, .int a1)] td_X6_draw 8 rfl (q := 15) rfl (Nat.le_of_ble_eq_true rfl) rfl ?_
  refine go_aload_n td_X6_draw 9 rfl (q := 16) rfl 2 rfl ?_
  refine go_get td_X6_draw 10 rfl (q := 19) rfl fl_X6_96 (Ac_133 E g) rfl ?_
  refine go_iload_n td_X6_draw 11 rfl (q := 20) rfl 3 rfl ?_
  refine go_ald td_X6_draw 12 rfl (q := 21) rfl (Ac_135 E g) (t0 := 0) rfl (fun x3 => ?_)
  refine go_istore [(4, .int x3), (3, .int x2), (0, .ref (E.1 118)), (1, .ref (E.1 133)), (2, .int a1)] td_X6_draw 13 rfl (q := 23) rfl (Nat.le_of_ble_eq_true rfl) rfl ?_
  refine go_aload_n td_X6_draw 14 rfl (q := 24) rfl 3 rfl ?_
  refine go_get td_X6_draw 15 rfl (q := 27) rfl fl_X6_99 (Ac_133 E g) rfl ?_
  refine go_iload_n td_X6_draw 16 rfl (q := 28) rfl 4 rfl ?_
  refine go_ald td_X6_draw 17 rfl (q := 29) rfl (Ac_136 E g) (t0 := 0) rfl (fun x4 => ?_)
  refine go_istore [(5, .int x4), (4, .int x3), (3, .int x2), (0, .ref (E.1 118)), (1, .ref (E.1 133)), (2, .int a1)] td_X6_draw 18 rfl (q := 31) rfl (Nat.le_of_ble_eq_true rfl) rfl ?_
  refine go_aload_n td_X6_draw 19 rfl (q := 32) rfl 3 rfl ?_
  refine go_get td_X6_draw 20 rfl (q := 35) rfl fl_X6_26 (Ac_118 E g) rfl ?_
  refine go_iload_n td_X6_draw 21 rfl (q := 36) rfl 5 rfl ?_
  refine go_ald td_X6_draw 22 rfl (q := 37) rfl (Ac_121 E g) (t0 := 0) rfl (fun x5 => ?_)
  refine go_iload_n td_X6_draw 23 rfl (q := 38) rfl 2 rfl ?_
  refine go_ljX (α := Unit) (fun b6 => [(0, .ref (E.1 118)), (2, .int a1), (3, .int x2), (4, .int x3), (5, .int x4)]) (fun b6 => []) (fun b6 => g) 64 ?_ ?_
  · intro b6
    refine go_aload_n td_X6_draw 38 rfl (q := 65) rfl 0 rfl ?_
    refine go_get td_X6_draw 39 rfl (q := 68) rfl fl_X6_26 (Ac_118 E g) rfl ?_
    refine go_iload_n td_X6_draw 40 rfl (q := 69) rfl 1 rfl ?_
    refine go_iload_n td_X6_draw 41 rfl (q := 70) rfl 2 rfl ?_
    refine go_ast td_X6_draw 42 rfl (q := 71) rfl (Ac_121 E g) (t0 := 0) rfl (Aas_121 E g _) ?_
    refine go_bvg (fun g7 => ?_)
    refine go_aload_n td_X6_draw 43 rfl (q := 72) rfl 0 rfl ?_
    refine go_get td_X6_draw 44 rfl (q := 75) rfl fl_X6_29 (Ac_118 E g7) rfl ?_
    refine go_iload_n td_X6_draw 45 rfl (q := 76) rfl 1 rfl ?_
    refine go_iload td_X6_draw 46 rfl (q := 78) rfl 3 rfl ?_
    refine go_ast td_X6_draw 47 rfl (q := 79) rfl (Ac_122 E g7) (t0 := 0) rfl (Aas_122 E g7 _) ?_
    refine go_bvg (fun g8 => ?_)
    refine go_aload_n td_X6_draw 48 rfl (q := 80) rfl 0 rfl ?_
    refine go_get td_X6_draw 49 rfl (q := 83) rfl fl_X6_32 (Ac_118 E g8) rfl ?_
    refine go_iload_n td_X6_draw 50 rfl (q := 84) rfl 1 rfl ?_
    refine go_iload td_X6_draw 51 rfl (q := 86) rfl 4 rfl ?_
    refine go_ast td_X6_draw 52 rfl (q := 87) rfl (Ac_123 E g8) (t0 := 0) rfl (Aas_123 E g8 _) ?_
    refine go_bvg (fun g9 => ?_)
    refine go_aload_n td_X6_draw 53 rfl (q := 88) rfl 0 rfl ?_
    refine go_iload td_X6_draw 54 rfl (q := 90) rfl 4 rfl ?_
    refine go_callV td_X6_draw 55 rfl (q := 93) rfl (XkA E) lk_X6_102 (ok_fA_Sky_makeArcs E x4 g9) ⟨rfl, rfl, Nat.le_of_ble_eq_true rfl, Nat.le_of_ble_eq_true rfl⟩ rfl rfl (Nat.le_of_ble_eq_true rfl) (Ac_118 E g9) rfl (fun x10 => ?_)
    show Go (wCA E) _ _ x10 93 _ [] _
    refine go_iconst td_X6_draw 56 rfl (q := 94) rfl kc_0 ?_
    refine go_istore [(6, .int 0), (0, .ref (E.1 118)), (2, .int a1), (3, .int x2), (4, .int x3), (5, .int x4)] td_X6_draw 57 rfl (q := 96) rfl (Nat.le_of_ble_eq_true rfl) rfl ?_
    refine go_pick [1, 2, 3, 4, 5, 0] (lv' := [(0, .ref (E.1 118)), (2, .int a1), (3, .int x2), (4, .int x3), (5, .int x4), (6, .int 0)]) rfl ?_
    refine (show ∀ (u11_0 : Int32) (u11_1 : G), Go (wCA E) _ _ u11_1 96 [(0, .ref (E.1 118)), (2, .int a1), (3, .int x2), (4, .int x3), (5, .int x4), (6, .int u11_0)] [] (Lp (α := Int32 × G) _ FU (u11_0, u11_1)) from ?_) 0 x10
    intro u11_0 u11_1
    refine go_Lp (α := Int32 × G) (fun s11 => s11.2) (fun s11 => [(0, .ref (E.1 118)), (2, .int a1), (3, .int x2), (4, .int x3), (5, .int x4), (6, .int s11.1)]) ?_ FU (u11_0, u11_1)
    intro rec11 hrec11 s11
    have krec11 : ∀ (u11_0 : Int32) (u11_1 : G), Go (wCA E) _ _ u11_1 96 [(0, .ref (E.1 118)), (2, .int a1), (3, .int x2), (4, .int x3), (5, .int x4), (6, .int u11_0)] [] (rec11 (u11_0, u11_1)) := fun u11_0 u11_1 => hrec11 (u11_0, u11_1)
    refine go_iload td_X6_draw 58 rfl (q := 98) rfl 5 rfl ?_
    refine go_aload_n td_X6_draw 59 rfl (q := 99) rfl 0 rfl ?_
    refine go_get td_X6_draw 60 rfl (q := 102) rfl fl_X6_53 (Ac_118 E s11.2) rfl ?_
    refine go_get td_X6_draw 61 rfl (q := 105) rfl fl_X6_106 (Ac_3 E s11.2) rfl ?_
    refine go_icmp_ge 133 td_X6_draw 62 rfl rfl (q := 108) rfl (fun _ => ?_) (fun _ => ?_)
    · exact go_vret td_X6_draw 76 rfl rfl rfl
    · refine go_aload_n td_X6_draw 63 rfl (q := 109) rfl 0 rfl ?_
      refine go_iload_n td_X6_draw 64 rfl (q := 110) rfl 1 rfl ?_
      refine go_iload td_X6_draw 65 rfl (q := 112) rfl 5 rfl ?_
      refine go_iload_n td_X6_draw 66 rfl (q := 113) rfl 2 rfl ?_
      refine go_iload td_X6_draw 67 rfl (q := 115) rfl 3 rfl ?_
      refine go_callV td_X6_draw 68 rfl (q := 118) rfl (XkA E) lk_X6_109 (ok_fA_Sky_place E a1 s11.1 x2 x3 s11.2) ⟨rfl, rfl, Nat.le_of_ble_eq_true rfl, Nat.le_of_ble_eq_true rfl⟩ rfl rfl (Nat.le_of_ble_eq_true rfl) (Ac_118 E s11.2) rfl (fun x12 => ?_)
      show Go (wCA E) _ _ x12 118 _ [] _
      refine go_aload_n td_X6_draw 69 rfl (q := 119) rfl 0 rfl ?_
      refine go_iload_n td_X6_draw 70 rfl (q := 120) rfl 1 rfl ?_
      refine go_iload td_X6_draw 71 rfl (q := 122) rfl 5 rfl ?_
      refine go_iload td_X6_draw 72 rfl (q := 124) rfl 4 rfl ?_
      refine go_callV td_X6_draw 73 rfl (q := 127) rfl (XkA E) lk_X6_113 (ok_fA_Sky_paint E a1 s11.1 x4 x12) ⟨rfl, rfl, Nat.le_of_ble_eq_true rfl, Nat.le_of_ble_eq_true rfl⟩ rfl rfl (Nat.le_of_ble_eq_true rfl) (Ac_118 E x12) rfl (fun x13 => ?_)
      show Go (wCA E) _ _ x13 127 _ [] _
      refine go_iinc [(6, .int (s11.1 + 1)), (0, .ref (E.1 118)), (2, .int a1), (3, .int x2), (4, .int x3), (5, .int x4)] td_X6_draw 74 rfl (q := 130) rfl 5 rfl kc_1 (Nat.le_of_ble_eq_true rfl) rfl ?_
      refine go_goto td_X6_draw 75 rfl (q := 96) rfl ?_
      refine go_pick [1, 2, 3, 4, 5, 0] (lv' := [(0, .ref (E.1 118)), (2, .int a1), (3, .int x2), (4, .int x3), (5, .int x4), (6, .int (s11.1 + 1))]) rfl ?_
      exact krec11 (s11.1 + 1) x13
  intro J6 hJ6
  have kJ6 : Go (wCA E) _ _ g 64 [(0, .ref (E.1 118)), (2, .int a1), (3, .int x2), (4, .int x3), (5, .int x4)] [] (J6 ()) := hJ6 ()
  refine go_icmp_ne 64 td_X6_draw 24 rfl rfl (q := 41) rfl (fun _ => ?_) (fun _ => ?_)
  · refine go_pick [3, 5, 2, 1, 0] (lv' := [(0, .ref (E.1 118)), (2, .int a1), (3, .int x2), (4, .int x3), (5, .int x4)]) rfl ?_
    exact kJ6 
  · refine go_aload_n td_X6_draw 25 rfl (q := 42) rfl 3 rfl ?_
    refine go_get td_X6_draw 26 rfl (q := 45) rfl fl_X6_29 (Ac_118 E g) rfl ?_
    refine go_iload_n td_X6_draw 27 rfl (q := 46) rfl 5 rfl ?_
    refine go_ald td_X6_draw 28 rfl (q := 47) rfl (Ac_122 E g) (t0 := 0) rfl (fun x14 => ?_)
    refine go_iload td_X6_draw 29 rfl (q := 49) rfl 1 rfl ?_
    refine go_icmp_ne 64 td_X6_draw 30 rfl rfl (q := 52) rfl (fun _ => ?_) (fun _ => ?_)
    · refine go_pick [3, 5, 2, 1, 0] (lv' := [(0, .ref (E.1 118)), (2, .int a1), (3, .int x2), (4, .int x3), (5, .int x4)]) rfl ?_
      exact kJ6 
    · refine go_aload_n td_X6_draw 31 rfl (q := 53) rfl 3 rfl ?_
      refine go_get td_X6_draw 32 rfl (q := 56) rfl fl_X6_32 (Ac_118 E g) rfl ?_
      refine go_iload_n td_X6_draw 33 rfl (q := 57) rfl 5 rfl ?_
      refine go_ald td_X6_draw 34 rfl (q := 58) rfl (Ac_123 E g) (t0 := 0) rfl (fun x15 => ?_)
      refine go_iload td_X6_draw 35 rfl (q := 60) rfl 0 rfl ?_
      refine go_icmp_ne 64 td_X6_draw 36 rfl rfl (q := 63) rfl (fun _ => ?_) (fun _ => ?_)
      · refine go_pick [3, 5, 2, 1, 0] (lv' := [(0, .ref (E.1 118)), (2, .int a1), (3, .int x2), (4, .int x3), (5, .int x4)]) rfl ?_
        exact kJ6 
      · exact go_vret td_X6_draw 37 rfl rfl rfl
def fA_Trial_takeHigherScore (a1 : Int32) (g : G) : Option (G) := Option.bind (fA_Sky_meanCover g) fun x1 => lj (α := Unit) (fun b2 => bv (sS g 13200 a1) fun g3 => bv (sF g3 0 x1) fun g4 => some g4) fun J2 => (if (g.1 13200) = (-1) then J2 () else (if (Op.cmpValue (FP.fcmp x1 (g.2.2.2.1 0)) .l) ≤ 0 then some g else J2 ()))
set_option maxRecDepth 20000 in
set_option maxHeartbeats 4000000 in
theorem ok_fA_Trial_takeHigherScore (E : Ev) (a1 : Int32) (g : G)  : Ct (wCA E) yX9_takeHigherScore mi_X9_takeHigherScore [.ref (E.1 132), .int a1] (fun r => (none, r)) g (fA_Trial_takeHigherScore a1 g) := by
  refine go_enter rfl rfl (Nat.le_of_ble_eq_true rfl) (lv := [(0, .ref (E.1 132)), (1, .int a1)]) rfl ?_
  unfold fA_Trial_takeHigherScore
  refine go_aload_n td_X9_takeHigherScore 0 rfl (q := 1) rfl 0 rfl ?_
  refine go_get td_X9_takeHigherScore 1 rfl (q := 4) rfl fl_X9_36 (Ac_132 E g) rfl ?_
  refine go_callV td_X9_takeHigherScore 2 rfl (q := 7) rfl (XkA E) lk_X9_127 (ok_fA_Sky_meanCover E g) ⟨rfl, rfl, Nat.le_of_ble_eq_true rfl, Nat.le_of_ble_eq_true rfl⟩ rfl rfl (Nat.le_of_ble_eq_true rfl) (Ac_118 E g) rfl (fun x1 => ?_)
  show Go (wCA E) _ _ g 7 _ [.float x1] _
  refine go_fstore_n [(2, .float x1), (0, .ref (E.1 132)), (1, .int a1)] td_X9_takeHigherScore 3 rfl (q := 8) rfl (Nat.le_of_ble_eq_true rfl) rfl ?_
  refine go_aload_n td_X9_takeHigherScore 4 rfl (q := 9) rfl 1 rfl ?_
  refine go_get td_X9_takeHigherScore 5 rfl (q := 12) rfl fl_X9_9 (Ac_132 E g) rfl ?_
  refine go_iconst td_X9_takeHigherScore 6 rfl (q := 13) rfl kc_m1 ?_
  refine go_ljX (α := Unit) (fun b2 => [(0, .ref (E.1 132)), (1, .int a1), (2, .float x1)]) (fun b2 => []) (fun b2 => g) 25 ?_ ?_
  · intro b2
    refine go_aload_n td_X9_takeHigherScore 13 rfl (q := 26) rfl 0 rfl ?_
    refine go_iload_n td_X9_takeHigherScore 14 rfl (q := 27) rfl 1 rfl ?_
    refine go_put td_X9_takeHigherScore 15 rfl (q := 30) rfl flp_X9_9 (Ac_132 E g) rfl rfl (Nat.le_of_ble_eq_true rfl) (Aps_13200 E g a1) ?_
    refine go_bvg (fun g3 => ?_)
    refine go_aload_n td_X9_takeHigherScore 16 rfl (q := 31) rfl 0 rfl ?_
    refine go_fload_n td_X9_takeHigherScore 17 rfl (q := 32) rfl 2 rfl ?_
    refine go_put td_X9_takeHigherScore 18 rfl (q := 35) rfl flp_X9_21 (Ac_132 E g3) rfl rfl (Nat.le_of_ble_eq_true rfl) (Apf E g3 x1) ?_
    refine go_bvg (fun g4 => ?_)
    exact go_vret td_X9_takeHigherScore 19 rfl rfl rfl
  intro J2 hJ2
  have kJ2 : Go (wCA E) _ _ g 25 [(0, .ref (E.1 132)), (1, .int a1), (2, .float x1)] [] (J2 ()) := hJ2 ()
  refine go_icmp_eq 25 td_X9_takeHigherScore 7 rfl rfl (q := 16) rfl (fun _ => ?_) (fun _ => ?_)
  · refine go_pick [1, 2, 0] (lv' := [(0, .ref (E.1 132)), (1, .int a1), (2, .float x1)]) rfl ?_
    exact kJ2 
  · refine go_fload_n td_X9_takeHigherScore 8 rfl (q := 17) rfl 0 rfl ?_
    refine go_aload_n td_X9_takeHigherScore 9 rfl (q := 18) rfl 1 rfl ?_
    refine go_get td_X9_takeHigherScore 10 rfl (q := 21) rfl fl_X9_21 (Ac_132 E g) rfl ?_
    refine go_fcmp td_X9_takeHigherScore 11 rfl (q := 22) rfl ?_
    refine go_if_le 35 td_X9_takeHigherScore 12 rfl rfl (q := 25) rfl (fun _ => ?_) (fun _ => ?_)
    · exact go_vret td_X9_takeHigherScore 19 rfl rfl rfl
    · refine go_pick [1, 2, 0] (lv' := [(0, .ref (E.1 132)), (1, .int a1), (2, .float x1)]) rfl ?_
      exact kJ2 
def fA_Trial_tryPhases (a1 : Int32) (g : G) : Option (G) := Option.bind (fA_Trial_start g) fun x1 => bv (((1 : Int32) <<< (a1 &&& 31)) &&& (x1.1 2700)) fun x2 => Option.bind (fA_Sky_hold ((x1.1 2700) &&& (x2 ^^^ (-1))) x1) fun x3 => Lp (α := Int32 × G) (fun rec4 s4 => Option.bind (fA_Plan_turnOf_2 a1 s4.2) fun x5 => (if x5 ≤ s4.1 then some s4.2 else ck 8 a1 (bv (sA s4.2 135 (a1 : Int32).toNatClampNeg s4.1) fun g6 => Option.bind (fA_Sky_draw_2 a1 g6) fun x7 => Option.bind (fA_Sky_join x2 x7) fun x8 => Option.bind (fA_Trial_takeHigherScore s4.1 x8) fun x9 => rec4 (s4.1 + 1, x9)))) FU (0, x3)
set_option maxRecDepth 20000 in
set_option maxHeartbeats 4000000 in
theorem ok_fA_Trial_tryPhases (E : Ev) (a1 : Int32) (g : G)  : Ct (wCA E) yX9_tryPhases mi_X9_tryPhases [.ref (E.1 132), .int a1] (fun r => (none, r)) g (fA_Trial_tryPhases a1 g) := by
  refine go_enter rfl rfl (Nat.le_of_ble_eq_true rfl) (lv := [(0, .ref (E.1 132)), (1, .int a1)]) rfl ?_
  unfold fA_Trial_tryPhases
  refine go_aload_n td_X9_tryPhases 0 rfl (q := 1) rfl 0 rfl ?_
  refine go_callV td_X9_tryPhases 1 rfl (q := 4) rfl (XkA E) lk_X9_47 (ok_fA_Trial_start E g) ⟨rfl, rfl, Nat.le_of_ble_eq_true rfl, Nat.le_of_ble_eq_true rfl⟩ rfl rfl (Nat.le_of_ble_eq_true rfl) (Ac_132 E g) rfl (fun x1 => ?_)
  show Go (wCA E) _ _ x1 4 _ [] _
  refine go_iconst td_X9_tryPhases 2 rfl (q := 5) rfl kc_1 ?_
  refine go_iload_n td_X9_tryPhases 3 rfl (q := 6) rfl 1 rfl ?_
  refine go_ishl td_X9_tryPhases 4 rfl (q := 7) rfl ?_
  refine go_aload_n td_X9_tryPhases 5 rfl (q := 8) rfl 0 rfl ?_
  refine go_get td_X9_tryPhases 6 rfl (q := 11) rfl fl_X9_40 (Ac_132 E x1) rfl ?_
  refine go_get td_X9_tryPhases 7 rfl (q := 14) rfl fl_X9_50 (Ac_27 E x1) rfl ?_
  refine go_iand td_X9_tryPhases 8 rfl (q := 15) rfl ?_
  refine go_bvi (fun x2 => ?_)
  refine go_istore_n [(2, .int x2), (0, .ref (E.1 132)), (1, .int a1)] td_X9_tryPhases 9 rfl (q := 16) rfl (Nat.le_of_ble_eq_true rfl) rfl ?_
  refine go_aload_n td_X9_tryPhases 10 rfl (q := 17) rfl 1 rfl ?_
  refine go_get td_X9_tryPhases 11 rfl (q := 20) rfl fl_X9_36 (Ac_132 E x1) rfl ?_
  refine go_aload_n td_X9_tryPhases 12 rfl (q := 21) rfl 1 rfl ?_
  refine go_get td_X9_tryPhases 13 rfl (q := 24) rfl fl_X9_40 (Ac_132 E x1) rfl ?_
  refine go_get td_X9_tryPhases 14 rfl (q := 27) rfl fl_X9_50 (Ac_27 E x1) rfl ?_
  refine go_iload_n td_X9_tryPhases 15 rfl (q := 28) rfl 0 rfl ?_
  refine go_iconst td_X9_tryPhases 16 rfl (q := 29) rfl kc_m1 ?_
  refine go_ixor td_X9_tryPhases 17 rfl (q := 30) rfl ?_
  refine go_iand td_X9_tryPhases 18 rfl (q := 31) rfl ?_
  refine go_callV td_X9_tryPhases 19 rfl (q := 34) rfl (XkA E) lk_X9_53 (ok_fA_Sky_hold E ((x1.1 2700) &&& (x2 ^^^ (-1))) x1) ⟨rfl, rfl, Nat.le_of_ble_eq_true rfl, Nat.le_of_ble_eq_true rfl⟩ rfl rfl (Nat.le_of_ble_eq_true rfl) (Ac_118 E x1) rfl (fun x3 => ?_)
  show Go (wCA E) _ _ x3 34 _ [] _
  refine go_iconst td_X9_tryPhases 20 rfl (q := 35) rfl kc_0 ?_
  refine go_istore_n [(3, .int 0), (2, .int x2), (0, .ref (E.1 132)), (1, .int a1)] td_X9_tryPhases 21 rfl (q := 36) rfl (Nat.le_of_ble_eq_true rfl) rfl ?_
  refine go_pick [2, 3, 1, 0] (lv' := [(0, .ref (E.1 132)), (1, .int a1), (2, .int x2), (3, .int 0)]) rfl ?_
  refine (show ∀ (u4_0 : Int32) (u4_1 : G), Go (wCA E) _ _ u4_1 36 [(0, .ref (E.1 132)), (1, .int a1), (2, .int x2), (3, .int u4_0)] [] (Lp (α := Int32 × G) _ FU (u4_0, u4_1)) from ?_) 0 x3
  intro u4_0 u4_1
  refine go_Lp (α := Int32 × G) (fun s4 => s4.2) (fun s4 => [(0, .ref (E.1 132)), (1, .int a1), (2, .int x2), (3, .int s4.1)]) ?_ FU (u4_0, u4_1)
  intro rec4 hrec4 s4
  have krec4 : ∀ (u4_0 : Int32) (u4_1 : G), Go (wCA E) _ _ u4_1 36 [(0, .ref (E.1 132)), (1, .int a1), (2, .int x2), (3, .int u4_0)] [] (rec4 (u4_0, u4_1)) := fun u4_0 u4_1 => hrec4 (u4_0, u4_1)
  refine go_iload_n td_X9_tryPhases 22 rfl (q := 37) rfl 3 rfl ?_
  refine go_aload_n td_X9_tryPhases 23 rfl (q := 38) rfl 0 rfl ?_
  refine go_get td_X9_tryPhases 24 rfl (q := 41) rfl fl_X9_32 (Ac_132 E s4.2) rfl ?_
  refine go_iload_n td_X9_tryPhases 25 rfl (q := 42) rfl 1 rfl ?_
  refine go_callV td_X9_tryPhases 26 rfl (q := 45) rfl (XkA E) lk_X9_59 (ok_fA_Plan_turnOf_2 E a1 s4.2) ⟨rfl, rfl, Nat.le_of_ble_eq_true rfl, Nat.le_of_ble_eq_true rfl⟩ rfl rfl (Nat.le_of_ble_eq_true rfl) (Ac_3 E s4.2) rfl (fun x5 => ?_)
  show Go (wCA E) _ _ s4.2 45 _ [.int x5, .int s4.1] _
  refine go_icmp_ge 89 td_X9_tryPhases 27 rfl rfl (q := 48) rfl (fun _ => ?_) (fun _ => ?_)
  · exact go_vret td_X9_tryPhases 49 rfl rfl rfl
  · refine go_aload_n td_X9_tryPhases 28 rfl (q := 49) rfl 0 rfl ?_
    refine go_get td_X9_tryPhases 29 rfl (q := 52) rfl fl_X9_28 (Ac_132 E s4.2) rfl ?_
    refine go_get td_X9_tryPhases 30 rfl (q := 55) rfl fl_X9_65 (Ac_133 E s4.2) rfl ?_
    refine go_iload_n td_X9_tryPhases 31 rfl (q := 56) rfl 1 rfl ?_
    refine go_iload_n td_X9_tryPhases 32 rfl (q := 57) rfl 3 rfl ?_
    refine go_ast td_X9_tryPhases 33 rfl (q := 58) rfl (Ac_135 E s4.2) (t0 := 0) rfl (Aas_135 E s4.2 _) ?_
    refine go_bvg (fun g6 => ?_)
    refine go_aload_n td_X9_tryPhases 34 rfl (q := 59) rfl 0 rfl ?_
    refine go_get td_X9_tryPhases 35 rfl (q := 62) rfl fl_X9_36 (Ac_132 E g6) rfl ?_
    refine go_aload_n td_X9_tryPhases 36 rfl (q := 63) rfl 0 rfl ?_
    refine go_get td_X9_tryPhases 37 rfl (q := 66) rfl fl_X9_28 (Ac_132 E g6) rfl ?_
    refine go_iload_n td_X9_tryPhases 38 rfl (q := 67) rfl 1 rfl ?_
    refine go_callV td_X9_tryPhases 39 rfl (q := 70) rfl (XkA E) lk_X9_69 (ok_fA_Sky_draw_2 E a1 g6) ⟨rfl, rfl, Nat.le_of_ble_eq_true rfl, Nat.le_of_ble_eq_true rfl⟩ rfl rfl (Nat.le_of_ble_eq_true rfl) (Ac_118 E g6) rfl (fun x7 => ?_)
    show Go (wCA E) _ _ x7 70 _ [] _
    refine go_aload_n td_X9_tryPhases 40 rfl (q := 71) rfl 0 rfl ?_
    refine go_get td_X9_tryPhases 41 rfl (q := 74) rfl fl_X9_36 (Ac_132 E x7) rfl ?_
    refine go_iload_n td_X9_tryPhases 42 rfl (q := 75) rfl 2 rfl ?_
    refine go_callV td_X9_tryPhases 43 rfl (q := 78) rfl (XkA E) lk_X9_73 (ok_fA_Sky_join E x2 x7) ⟨rfl, rfl, Nat.le_of_ble_eq_true rfl, Nat.le_of_ble_eq_true rfl⟩ rfl rfl (Nat.le_of_ble_eq_true rfl) (Ac_118 E x7) rfl (fun x8 => ?_)
    show Go (wCA E) _ _ x8 78 _ [] _
    refine go_aload_n td_X9_tryPhases 44 rfl (q := 79) rfl 0 rfl ?_
    refine go_iload_n td_X9_tryPhases 45 rfl (q := 80) rfl 3 rfl ?_
    refine go_callV td_X9_tryPhases 46 rfl (q := 83) rfl (XkA E) lk_X9_76 (ok_fA_Trial_takeHigherScore E s4.1 x8) ⟨rfl, rfl, Nat.le_of_ble_eq_true rfl, Nat.le_of_ble_eq_true rfl⟩ rfl rfl (Nat.le_of_ble_eq_true rfl) (Ac_132 E x8) rfl (fun x9 => ?_)
    show Go (wCA E) _ _ x9 83 _ [] _
    refine go_iinc [(3, .int (s4.1 + 1)), (0, .ref (E.1 132)), (1, .int a1), (2, .int x2)] td_X9_tryPhases 47 rfl (q := 86) rfl 3 rfl kc_1 (Nat.le_of_ble_eq_true rfl) rfl ?_
    refine go_goto td_X9_tryPhases 48 rfl (q := 36) rfl ?_
    refine go_pick [1, 2, 3, 0] (lv' := [(0, .ref (E.1 132)), (1, .int a1), (2, .int x2), (3, .int (s4.1 + 1))]) rfl ?_
    exact krec4 (s4.1 + 1) x9
def fA_D_best (a1 : Int32) (a2 : Int32) (g : G) : Option (Int32 × G) := Option.bind (fA_Plan_hasCraft a1 g) fun x1 => (if x1 = 0 then some ((-1), g) else (if a2 < 0 then some ((-1), g) else (if a2 ≤ 1 then Option.bind (fA_D_look g) fun x2 => Option.bind (fA_Trial_tryPhases a1 x2) fun x3 => bv (sS x3 18 0) fun g4 => (if a2 = 0 then some (g4.1 13200, g4) else Option.bind (fA_D_floatBits (g4.2.2.2.1 0) g4) fun x5 => some (x5, g4)) else some ((-1), g))))
set_option maxRecDepth 20000 in
set_option maxHeartbeats 4000000 in
theorem ok_fA_D_best (E : Ev) (a1 : Int32) (a2 : Int32) (g : G)  : Ct (wCA E) yX11_best mi_X11_best [.ref (E.1 0), .int a1, .int a2] (fun r => (some (.int r.1), r.2)) g (fA_D_best a1 a2 g) := by
  refine go_enter rfl rfl (Nat.le_of_ble_eq_true rfl) (lv := [(0, .ref (E.1 0)), (1, .int a1), (2, .int a2)]) rfl ?_
  unfold fA_D_best
  refine go_aload_n td_X11_best 0 rfl (q := 1) rfl 0 rfl ?_
  refine go_get td_X11_best 1 rfl (q := 4) rfl fl_X11_19 (Ac_0 E g) rfl ?_
  refine go_iload_n td_X11_best 2 rfl (q := 5) rfl 1 rfl ?_
  refine go_callV td_X11_best 3 rfl (q := 8) rfl (XkA E) lk_X11_211 (ok_fA_Plan_hasCraft E a1 g) ⟨rfl, rfl, Nat.le_of_ble_eq_true rfl, Nat.le_of_ble_eq_true rfl⟩ rfl rfl (Nat.le_of_ble_eq_true rfl) (Ac_3 E g) rfl (fun x1 => ?_)
  show Go (wCA E) _ _ g 8 _ [.int x1] _
  refine go_if_eq 20 td_X11_best 4 rfl rfl (q := 11) rfl (fun _ => ?_) (fun _ => ?_)
  · refine go_iconst td_X11_best 10 rfl (q := 21) rfl kc_m1 ?_
    exact go_iret td_X11_best 11 rfl rfl rfl
  · refine go_iload_n td_X11_best 5 rfl (q := 12) rfl 2 rfl ?_
    refine go_if_lt 20 td_X11_best 6 rfl rfl (q := 15) rfl (fun _ => ?_) (fun _ => ?_)
    · refine go_iconst td_X11_best 10 rfl (q := 21) rfl kc_m1 ?_
      exact go_iret td_X11_best 11 rfl rfl rfl
    · refine go_iload_n td_X11_best 7 rfl (q := 16) rfl 2 rfl ?_
      refine go_iconst td_X11_best 8 rfl (q := 17) rfl kc_1 ?_
      refine go_icmp_le 22 td_X11_best 9 rfl rfl (q := 20) rfl (fun _ => ?_) (fun _ => ?_)
      · refine go_aload_n td_X11_best 12 rfl (q := 23) rfl 0 rfl ?_
        refine go_callV td_X11_best 13 rfl (q := 26) rfl (XkA E) lk_X11_247 (ok_fA_D_look E g) ⟨rfl, rfl, Nat.le_of_ble_eq_true rfl, Nat.le_of_ble_eq_true rfl⟩ rfl rfl (Nat.le_of_ble_eq_true rfl) (Ac_0 E g) rfl (fun x2 => ?_)
        show Go (wCA E) _ _ x2 26 _ [] _
        refine go_aload_n td_X11_best 14 rfl (q := 27) rfl 0 rfl ?_
        refine go_get td_X11_best 15 rfl (q := 30) rfl fl_X11_75 (Ac_0 E x2) rfl ?_
        refine go_iload_n td_X11_best 16 rfl (q := 31) rfl 1 rfl ?_
        refine go_callV td_X11_best 17 rfl (q := 34) rfl (XkA E) lk_X11_359 (ok_fA_Trial_tryPhases E a1 x2) ⟨rfl, rfl, Nat.le_of_ble_eq_true rfl, Nat.le_of_ble_eq_true rfl⟩ rfl rfl (Nat.le_of_ble_eq_true rfl) (Ac_132 E x2) rfl (fun x3 => ?_)
        show Go (wCA E) _ _ x3 34 _ [] _
        refine go_aload_n td_X11_best 18 rfl (q := 35) rfl 0 rfl ?_
        refine go_iconst td_X11_best 19 rfl (q := 36) rfl kc_0 ?_
        refine go_put td_X11_best 20 rfl (q := 39) rfl flp_X11_114 (Ac_0 E x3) rfl rfl (Nat.le_of_ble_eq_true rfl) (Aps_18 E x3 0) ?_
        refine go_bvg (fun g4 => ?_)
        refine go_iload_n td_X11_best 21 rfl (q := 40) rfl 2 rfl ?_
        refine go_if_ne 53 td_X11_best 22 rfl rfl (q := 43) rfl (fun _ => ?_) (fun _ => ?_)
        · refine go_aload_n td_X11_best 27 rfl (q := 54) rfl 0 rfl ?_
          refine go_get td_X11_best 28 rfl (q := 57) rfl fl_X11_75 (Ac_0 E g4) rfl ?_
          refine go_get td_X11_best 29 rfl (q := 60) rfl fl_X11_365 (Ac_132 E g4) rfl ?_
          refine go_callS td_X11_best 30 rfl (q := 63) rfl (XkA E) lk_X11_330 (ok_fA_D_floatBits E (g4.2.2.2.1 0) g4) ⟨rfl, rfl, Nat.le_of_ble_eq_true rfl, Nat.le_of_ble_eq_true rfl⟩ rfl rfl (Nat.le_of_ble_eq_true rfl) (fun x5 => ?_)
          show Go (wCA E) _ _ g4 63 _ [.int x5] _
          exact go_iret td_X11_best 31 rfl rfl rfl
        · refine go_aload_n td_X11_best 23 rfl (q := 44) rfl 0 rfl ?_
          refine go_get td_X11_best 24 rfl (q := 47) rfl fl_X11_75 (Ac_0 E g4) rfl ?_
          refine go_get td_X11_best 25 rfl (q := 50) rfl fl_X11_362 (Ac_132 E g4) rfl ?_
          refine go_goto td_X11_best 26 rfl (q := 63) rfl ?_
          exact go_iret td_X11_best 31 rfl rfl rfl
      · refine go_iconst td_X11_best 10 rfl (q := 21) rfl kc_m1 ?_
        exact go_iret td_X11_best 11 rfl rfl rfl
def fA_Fleet_spreadOut (a1 : Int32) (a2 : Int32) (g : G) : Option (G) := Option.bind (fA_Plan_craftIn a1 g) fun x1 => bv (x1 &&& (g.1 13300)) fun x2 => Option.bind (fA_Integer_bitCount x2 g) fun x3 => ag 4 (g.2.1 7) a1 fun x4 => Lp (α := Int32 × Int32 × G) (fun rec5 s5 => (if (s5.2.2.1 306) ≤ s5.2.1 then some s5.2.2 else lj (α := Int32 × G) (fun b6 => rec5 (b6.1, s5.2.1 + 1, b6.2)) fun J6 => (if ((x2 >>> (s5.2.1 &&& 31)) &&& 1) = 0 then J6 (s5.1, s5.2.2) else Option.bind (fA_D_cut (s5.1 * x4) x3 s5.2.2) fun x7 => Option.bind (fA_D_rest (a2 + x7) x4 s5.2.2) fun x8 => ck 8 s5.2.1 (bv (sA s5.2.2 135 (s5.2.1 : Int32).toNatClampNeg x8) fun g9 => J6 (s5.1 + 1, g9))))) FU (0, 0, g)
set_option maxRecDepth 20000 in
set_option maxHeartbeats 4000000 in
theorem ok_fA_Fleet_spreadOut (E : Ev) (a1 : Int32) (a2 : Int32) (g : G)  : Ct (wCA E) yX1_spreadOut mi_X1_spreadOut [.ref (E.1 133), .ref (E.1 3), .int a1, .int a2] (fun r => (none, r)) g (fA_Fleet_spreadOut a1 a2 g) := by
  refine go_enter rfl rfl (Nat.le_of_ble_eq_true rfl) (lv := [(0, .ref (E.1 133)), (1, .ref (E.1 3)), (2, .int a1), (3, .int a2)]) rfl ?_
  unfold fA_Fleet_spreadOut
  refine go_aload_n td_X1_spreadOut 0 rfl (q := 1) rfl 1 rfl ?_
  refine go_iload_n td_X1_spreadOut 1 rfl (q := 2) rfl 2 rfl ?_
  refine go_callV td_X1_spreadOut 2 rfl (q := 5) rfl (XkA E) lk_X1_31 (ok_fA_Plan_craftIn E a1 g) ⟨rfl, rfl, Nat.le_of_ble_eq_true rfl, Nat.le_of_ble_eq_true rfl⟩ rfl rfl (Nat.le_of_ble_eq_true rfl) (Ac_3 E g) rfl (fun x1 => ?_)
  show Go (wCA E) _ _ g 5 _ [.int x1] _
  refine go_aload_n td_X1_spreadOut 3 rfl (q := 6) rfl 0 rfl ?_
  refine go_get td_X1_spreadOut 4 rfl (q := 9) rfl fl_X1_9 (Ac_133 E g) rfl ?_
  refine go_iand td_X1_spreadOut 5 rfl (q := 10) rfl ?_
  refine go_bvi (fun x2 => ?_)
  refine go_istore [(4, .int x2), (0, .ref (E.1 133)), (1, .ref (E.1 3)), (2, .int a1), (3, .int a2)] td_X1_spreadOut 6 rfl (q := 12) rfl (Nat.le_of_ble_eq_true rfl) rfl ?_
  refine go_iload td_X1_spreadOut 7 rfl (q := 14) rfl 0 rfl ?_
  refine go_callS td_X1_spreadOut 8 rfl (q := 17) rfl (XkA E) lk_X1_37 (ok_fA_Integer_bitCount E x2 g) ⟨rfl, rfl, Nat.le_of_ble_eq_true rfl, Nat.le_of_ble_eq_true rfl⟩ rfl rfl (Nat.le_of_ble_eq_true rfl) (fun x3 => ?_)
  show Go (wCA E) _ _ g 17 _ [.int x3] _
  refine go_istore [(5, .int x3), (4, .int x2), (0, .ref (E.1 133)), (1, .ref (E.1 3)), (2, .int a1), (3, .int a2)] td_X1_spreadOut 9 rfl (q := 19) rfl (Nat.le_of_ble_eq_true rfl) rfl ?_
  refine go_aload_n td_X1_spreadOut 10 rfl (q := 20) rfl 3 rfl ?_
  refine go_get td_X1_spreadOut 11 rfl (q := 23) rfl fl_X1_42 (Ac_3 E g) rfl ?_
  refine go_iload_n td_X1_spreadOut 12 rfl (q := 24) rfl 4 rfl ?_
  refine go_ald td_X1_spreadOut 13 rfl (q := 25) rfl (Ac_7 E g) (t0 := 0) rfl (fun x4 => ?_)
  refine go_istore [(6, .int x4), (5, .int x3), (4, .int x2), (0, .ref (E.1 133)), (1, .ref (E.1 3)), (2, .int a1), (3, .int a2)] td_X1_spreadOut 14 rfl (q := 27) rfl (Nat.le_of_ble_eq_true rfl) rfl ?_
  refine go_iconst td_X1_spreadOut 15 rfl (q := 28) rfl kc_0 ?_
  refine go_istore [(7, .int 0), (6, .int x4), (5, .int x3), (4, .int x2), (0, .ref (E.1 133)), (1, .ref (E.1 3)), (2, .int a1), (3, .int a2)] td_X1_spreadOut 16 rfl (q := 30) rfl (Nat.le_of_ble_eq_true rfl) rfl ?_
  refine go_iconst td_X1_spreadOut 17 rfl (q := 31) rfl kc_0 ?_
  refine go_istore [(8, .int 0), (7, .int 0), (6, .int x4), (5, .int x3), (4, .int x2), (0, .ref (E.1 133)), (1, .ref (E.1 3)), (2, .int a1), (3, .int a2)] td_X1_spreadOut 18 rfl (q := 33) rfl (Nat.le_of_ble_eq_true rfl) rfl ?_
  refine go_pick [5, 6, 8, 4, 3, 2, 1, 0] (lv' := [(0, .ref (E.1 133)), (1, .ref (E.1 3)), (3, .int a2), (4, .int x2), (5, .int x3), (6, .int x4), (7, .int 0), (8, .int 0)]) rfl ?_
  refine (show ∀ (u5_0 : Int32) (u5_1 : Int32) (u5_2 : G), Go (wCA E) _ _ u5_2 33 [(0, .ref (E.1 133)), (1, .ref (E.1 3)), (3, .int a2), (4, .int x2), (5, .int x3), (6, .int x4), (7, .int u5_0), (8, .int u5_1)] [] (Lp (α := Int32 × Int32 × G) _ FU (u5_0, u5_1, u5_2)) from ?_) 0 0 g
  intro u5_0 u5_1 u5_2
  refine go_Lp (α := Int32 × Int32 × G) (fun s5 => s5.2.2) (fun s5 => [(0, .ref (E.1 133)), (1, .ref (E.1 3)), (3, .int a2), (4, .int x2), (5, .int x3), (6, .int x4), (7, .int s5.1), (8, .int s5.2.1)]) ?_ FU (u5_0, u5_1, u5_2)
  intro rec5 hrec5 s5
  have krec5 : ∀ (u5_0 : Int32) (u5_1 : Int32) (u5_2 : G), Go (wCA E) _ _ u5_2 33 [(0, .ref (E.1 133)), (1, .ref (E.1 3)), (3, .int a2), (4, .int x2), (5, .int x3), (6, .int x4), (7, .int u5_0), (8, .int u5_1)] [] (rec5 (u5_0, u5_1, u5_2)) := fun u5_0 u5_1 u5_2 => hrec5 (u5_0, u5_1, u5_2)
  refine go_iload td_X1_spreadOut 19 rfl (q := 35) rfl 7 rfl ?_
  refine go_aload_n td_X1_spreadOut 20 rfl (q := 36) rfl 1 rfl ?_
  refine go_get td_X1_spreadOut 21 rfl (q := 39) rfl fl_X1_45 (Ac_3 E s5.2.2) rfl ?_
  refine go_icmp_ge 85 td_X1_spreadOut 22 rfl rfl (q := 42) rfl (fun _ => ?_) (fun _ => ?_)
  · exact go_vret td_X1_spreadOut 45 rfl rfl rfl
  · refine go_iload td_X1_spreadOut 23 rfl (q := 44) rfl 3 rfl ?_
    refine go_iload td_X1_spreadOut 24 rfl (q := 46) rfl 7 rfl ?_
    refine go_ishr td_X1_spreadOut 25 rfl (q := 47) rfl ?_
    refine go_iconst td_X1_spreadOut 26 rfl (q := 48) rfl kc_1 ?_
    refine go_iand td_X1_spreadOut 27 rfl (q := 49) rfl ?_
    refine go_ljX (α := Int32 × G) (fun b6 => [(0, .ref (E.1 133)), (1, .ref (E.1 3)), (3, .int a2), (4, .int x2), (5, .int x3), (6, .int x4), (7, .int b6.1), (8, .int s5.2.1)]) (fun b6 => []) (fun b6 => b6.2) 79 ?_ ?_
    · intro b6
      refine go_iinc [(8, .int (s5.2.1 + 1)), (0, .ref (E.1 133)), (1, .ref (E.1 3)), (3, .int a2), (4, .int x2), (5, .int x3), (6, .int x4), (7, .int b6.1)] td_X1_spreadOut 43 rfl (q := 82) rfl 7 rfl kc_1 (Nat.le_of_ble_eq_true rfl) rfl ?_
      refine go_goto td_X1_spreadOut 44 rfl (q := 33) rfl ?_
      refine go_pick [1, 2, 3, 4, 5, 6, 7, 0] (lv' := [(0, .ref (E.1 133)), (1, .ref (E.1 3)), (3, .int a2), (4, .int x2), (5, .int x3), (6, .int x4), (7, .int b6.1), (8, .int (s5.2.1 + 1))]) rfl ?_
      exact krec5 b6.1 (s5.2.1 + 1) b6.2
    intro J6 hJ6
    have kJ6 : ∀ (u6_0 : Int32) (u6_1 : G), Go (wCA E) _ _ u6_1 79 [(0, .ref (E.1 133)), (1, .ref (E.1 3)), (3, .int a2), (4, .int x2), (5, .int x3), (6, .int x4), (7, .int u6_0), (8, .int s5.2.1)] [] (J6 (u6_0, u6_1)) := fun u6_0 u6_1 => hJ6 (u6_0, u6_1)
    refine go_if_eq 79 td_X1_spreadOut 28 rfl rfl (q := 52) rfl (fun _ => ?_) (fun _ => ?_)
    · refine go_pick [0, 1, 2, 3, 4, 5, 6, 7] (lv' := [(0, .ref (E.1 133)), (1, .ref (E.1 3)), (3, .int a2), (4, .int x2), (5, .int x3), (6, .int x4), (7, .int s5.1), (8, .int s5.2.1)]) rfl ?_
      exact kJ6 s5.1 s5.2.2
    · refine go_aload_n td_X1_spreadOut 29 rfl (q := 53) rfl 0 rfl ?_
      refine go_get td_X1_spreadOut 30 rfl (q := 56) rfl fl_X1_19 (Ac_133 E s5.2.2) rfl ?_
      refine go_iload td_X1_spreadOut 31 rfl (q := 58) rfl 7 rfl ?_
      refine go_iload_n td_X1_spreadOut 32 rfl (q := 59) rfl 2 rfl ?_
      refine go_iload td_X1_spreadOut 33 rfl (q := 61) rfl 6 rfl ?_
      refine go_iload td_X1_spreadOut 34 rfl (q := 63) rfl 5 rfl ?_
      refine go_imul td_X1_spreadOut 35 rfl (q := 64) rfl ?_
      refine go_iload td_X1_spreadOut 36 rfl (q := 66) rfl 4 rfl ?_
      refine go_callN td_X1_spreadOut 37 rfl (q := 69) rfl (XkA E) (lk_X1_48 E) (ok_fA_D_cut E (s5.1 * x4) x3 s5.2.2) ⟨rfl, rfl, Nat.le_of_ble_eq_true rfl, Nat.le_of_ble_eq_true rfl⟩ rfl rfl (Nat.le_of_ble_eq_true rfl) (fun x7 => ?_)
      show Go (wCA E) _ _ s5.2.2 69 _ [.int x7, .int a2, .int s5.2.1, .ref (E.1 135)] _
      refine go_iadd td_X1_spreadOut 38 rfl (q := 70) rfl ?_
      refine go_iload td_X1_spreadOut 39 rfl (q := 72) rfl 5 rfl ?_
      refine go_callN td_X1_spreadOut 40 rfl (q := 75) rfl (XkA E) (lk_X1_52 E) (ok_fA_D_rest E (a2 + x7) x4 s5.2.2) ⟨rfl, rfl, Nat.le_of_ble_eq_true rfl, Nat.le_of_ble_eq_true rfl⟩ rfl rfl (Nat.le_of_ble_eq_true rfl) (fun x8 => ?_)
      show Go (wCA E) _ _ s5.2.2 75 _ [.int x8, .int s5.2.1, .ref (E.1 135)] _
      refine go_ast td_X1_spreadOut 41 rfl (q := 76) rfl (Ac_135 E s5.2.2) (t0 := 0) rfl (Aas_135 E s5.2.2 _) ?_
      refine go_bvg (fun g9 => ?_)
      refine go_iinc [(7, .int (s5.1 + 1)), (0, .ref (E.1 133)), (1, .ref (E.1 3)), (3, .int a2), (4, .int x2), (5, .int x3), (6, .int x4), (8, .int s5.2.1)] td_X1_spreadOut 42 rfl (q := 79) rfl 6 rfl kc_1 (Nat.le_of_ble_eq_true rfl) rfl ?_
      refine go_pick [1, 2, 3, 4, 5, 6, 0, 7] (lv' := [(0, .ref (E.1 133)), (1, .ref (E.1 3)), (3, .int a2), (4, .int x2), (5, .int x3), (6, .int x4), (7, .int (s5.1 + 1)), (8, .int s5.2.1)]) rfl ?_
      exact kJ6 (s5.1 + 1) g9
def fA_Sky_drawAll_2 (g : G) : Option (G) := Lp (α := Int32 × G) (fun rec1 s1 => (if (s1.2.1 306) ≤ s1.1 then some s1.2 else Option.bind (fA_Sky_draw_2 s1.1 s1.2) fun x2 => rec1 (s1.1 + 1, x2))) FU (0, g)
set_option maxRecDepth 20000 in
set_option maxHeartbeats 4000000 in
theorem ok_fA_Sky_drawAll_2 (E : Ev)  (g : G)  : Ct (wCA E) yX6_drawAll mi_X6_drawAll [.ref (E.1 118), .ref (E.1 133)] (fun r => (none, r)) g (fA_Sky_drawAll_2 g) := by
  refine go_enter rfl rfl (Nat.le_of_ble_eq_true rfl) (lv := [(0, .ref (E.1 118)), (1, .ref (E.1 133))]) rfl ?_
  unfold fA_Sky_drawAll_2
  refine go_iconst td_X6_drawAll 0 rfl (q := 1) rfl kc_0 ?_
  refine go_istore_n [(2, .int 0), (0, .ref (E.1 118)), (1, .ref (E.1 133))] td_X6_drawAll 1 rfl (q := 2) rfl (Nat.le_of_ble_eq_true rfl) rfl ?_
  refine go_pick [1, 2, 0] (lv' := [(0, .ref (E.1 118)), (1, .ref (E.1 133)), (2, .int 0)]) rfl ?_
  refine (show ∀ (u1_0 : Int32) (u1_1 : G), Go (wCA E) _ _ u1_1 2 [(0, .ref (E.1 118)), (1, .ref (E.1 133)), (2, .int u1_0)] [] (Lp (α := Int32 × G) _ FU (u1_0, u1_1)) from ?_) 0 g
  intro u1_0 u1_1
  refine go_Lp (α := Int32 × G) (fun s1 => s1.2) (fun s1 => [(0, .ref (E.1 118)), (1, .ref (E.1 133)), (2, .int s1.1)]) ?_ FU (u1_0, u1_1)
  intro rec1 hrec1 s1
  have krec1 : ∀ (u1_0 : Int32) (u1_1 : G), Go (wCA E) _ _ u1_1 2 [(0, .ref (E.1 118)), (1, .ref (E.1 133)), (2, .int u1_0)] [] (rec1 (u1_0, u1_1)) := fun u1_0 u1_1 => hrec1 (u1_0, u1_1)
  refine go_iload_n td_X6_drawAll 2 rfl (q := 3) rfl 2 rfl ?_
  refine go_aload_n td_X6_drawAll 3 rfl (q := 4) rfl 0 rfl ?_
  refine go_get td_X6_drawAll 4 rfl (q := 7) rfl fl_X6_53 (Ac_118 E s1.2) rfl ?_
  refine go_get td_X6_drawAll 5 rfl (q := 10) rfl fl_X6_81 (Ac_3 E s1.2) rfl ?_
  refine go_icmp_ge 25 td_X6_drawAll 6 rfl rfl (q := 13) rfl (fun _ => ?_) (fun _ => ?_)
  · exact go_vret td_X6_drawAll 13 rfl rfl rfl
  · refine go_aload_n td_X6_drawAll 7 rfl (q := 14) rfl 0 rfl ?_
    refine go_aload_n td_X6_drawAll 8 rfl (q := 15) rfl 1 rfl ?_
    refine go_iload_n td_X6_drawAll 9 rfl (q := 16) rfl 2 rfl ?_
    refine go_callV td_X6_drawAll 10 rfl (q := 19) rfl (XkA E) lk_X6_84 (ok_fA_Sky_draw_2 E s1.1 s1.2) ⟨rfl, rfl, Nat.le_of_ble_eq_true rfl, Nat.le_of_ble_eq_true rfl⟩ rfl rfl (Nat.le_of_ble_eq_true rfl) (Ac_118 E s1.2) rfl (fun x2 => ?_)
    show Go (wCA E) _ _ x2 19 _ [] _
    refine go_iinc [(2, .int (s1.1 + 1)), (0, .ref (E.1 118)), (1, .ref (E.1 133))] td_X6_drawAll 11 rfl (q := 22) rfl 2 rfl kc_1 (Nat.le_of_ble_eq_true rfl) rfl ?_
    refine go_goto td_X6_drawAll 12 rfl (q := 2) rfl ?_
    refine go_pick [1, 2, 0] (lv' := [(0, .ref (E.1 118)), (1, .ref (E.1 133)), (2, .int (s1.1 + 1))]) rfl ?_
    exact krec1 (s1.1 + 1) x2
def fA_Trial_takeLesserGap (a1 : Int32) (g : G) : Option (G) := Option.bind (fA_Sky_worstGap g) fun x1 => lj (α := Unit) (fun b2 => Option.bind (fA_Sky_meanCover x1.2) fun x3 => lj (α := Unit) (fun b4 => bv (sS x1.2 13200 a1) fun g5 => bv (sS g5 13202 x1.1) fun g6 => bv (sF g6 0 x3) fun g7 => some g7) fun J4 => (if (x1.2.1 13200) = (-1) then J4 () else (if x1.1 < (x1.2.1 13202) then J4 () else (if (Op.cmpValue (FP.fcmp x3 (x1.2.2.2.2.1 0)) .l) ≤ 0 then some x1.2 else J4 ())))) fun J2 => (if (x1.2.1 13200) = (-1) then J2 () else (if x1.1 ≤ (x1.2.1 13202) then J2 () else some x1.2))
set_option maxRecDepth 20000 in
set_option maxHeartbeats 4000000 in
theorem ok_fA_Trial_takeLesserGap (E : Ev) (a1 : Int32) (g : G)  : Ct (wCA E) yX9_takeLesserGap mi_X9_takeLesserGap [.ref (E.1 132), .int a1] (fun r => (none, r)) g (fA_Trial_takeLesserGap a1 g) := by
  refine go_enter rfl rfl (Nat.le_of_ble_eq_true rfl) (lv := [(0, .ref (E.1 132)), (1, .int a1)]) rfl ?_
  unfold fA_Trial_takeLesserGap
  refine go_aload_n td_X9_takeLesserGap 0 rfl (q := 1) rfl 0 rfl ?_
  refine go_get td_X9_takeLesserGap 1 rfl (q := 4) rfl fl_X9_36 (Ac_132 E g) rfl ?_
  refine go_callV td_X9_takeLesserGap 2 rfl (q := 7) rfl (XkA E) lk_X9_114 (ok_fA_Sky_worstGap E g) ⟨rfl, rfl, Nat.le_of_ble_eq_true rfl, Nat.le_of_ble_eq_true rfl⟩ rfl rfl (Nat.le_of_ble_eq_true rfl) (Ac_118 E g) rfl (fun x1 => ?_)
  show Go (wCA E) _ _ x1.2 7 _ [.int x1.1] _
  refine go_istore_n [(2, .int x1.1), (0, .ref (E.1 132)), (1, .int a1)] td_X9_takeLesserGap 3 rfl (q := 8) rfl (Nat.le_of_ble_eq_true rfl) rfl ?_
  refine go_aload_n td_X9_takeLesserGap 4 rfl (q := 9) rfl 1 rfl ?_
  refine go_get td_X9_takeLesserGap 5 rfl (q := 12) rfl fl_X9_9 (Ac_132 E x1.2) rfl ?_
  refine go_iconst td_X9_takeLesserGap 6 rfl (q := 13) rfl kc_m1 ?_
  refine go_ljX (α := Unit) (fun b2 => [(0, .ref (E.1 132)), (1, .int a1), (2, .int x1.1)]) (fun b2 => []) (fun b2 => x1.2) 25 ?_ ?_
  · intro b2
    refine go_aload_n td_X9_takeLesserGap 13 rfl (q := 26) rfl 0 rfl ?_
    refine go_get td_X9_takeLesserGap 14 rfl (q := 29) rfl fl_X9_36 (Ac_132 E x1.2) rfl ?_
    refine go_callV td_X9_takeLesserGap 15 rfl (q := 32) rfl (XkA E) lk_X9_127 (ok_fA_Sky_meanCover E x1.2) ⟨rfl, rfl, Nat.le_of_ble_eq_true rfl, Nat.le_of_ble_eq_true rfl⟩ rfl rfl (Nat.le_of_ble_eq_true rfl) (Ac_118 E x1.2) rfl (fun x3 => ?_)
    show Go (wCA E) _ _ x1.2 32 _ [.float x3] _
    refine go_fstore_n [(3, .float x3), (0, .ref (E.1 132)), (1, .int a1), (2, .int x1.1)] td_X9_takeLesserGap 16 rfl (q := 33) rfl (Nat.le_of_ble_eq_true rfl) rfl ?_
    refine go_aload_n td_X9_takeLesserGap 17 rfl (q := 34) rfl 1 rfl ?_
    refine go_get td_X9_takeLesserGap 18 rfl (q := 37) rfl fl_X9_9 (Ac_132 E x1.2) rfl ?_
    refine go_iconst td_X9_takeLesserGap 19 rfl (q := 38) rfl kc_m1 ?_
    refine go_ljX (α := Unit) (fun b4 => [(0, .ref (E.1 132)), (1, .int a1), (2, .int x1.1), (3, .float x3)]) (fun b4 => []) (fun b4 => x1.2) 58 ?_ ?_
    · intro b4
      refine go_aload_n td_X9_takeLesserGap 30 rfl (q := 59) rfl 0 rfl ?_
      refine go_iload_n td_X9_takeLesserGap 31 rfl (q := 60) rfl 1 rfl ?_
      refine go_put td_X9_takeLesserGap 32 rfl (q := 63) rfl flp_X9_9 (Ac_132 E x1.2) rfl rfl (Nat.le_of_ble_eq_true rfl) (Aps_13200 E x1.2 a1) ?_
      refine go_bvg (fun g5 => ?_)
      refine go_aload_n td_X9_takeLesserGap 33 rfl (q := 64) rfl 0 rfl ?_
      refine go_iload_n td_X9_takeLesserGap 34 rfl (q := 65) rfl 2 rfl ?_
      refine go_put td_X9_takeLesserGap 35 rfl (q := 68) rfl flp_X9_18 (Ac_132 E g5) rfl rfl (Nat.le_of_ble_eq_true rfl) (Aps_13202 E g5 x1.1) ?_
      refine go_bvg (fun g6 => ?_)
      refine go_aload_n td_X9_takeLesserGap 36 rfl (q := 69) rfl 0 rfl ?_
      refine go_fload_n td_X9_takeLesserGap 37 rfl (q := 70) rfl 3 rfl ?_
      refine go_put td_X9_takeLesserGap 38 rfl (q := 73) rfl flp_X9_21 (Ac_132 E g6) rfl rfl (Nat.le_of_ble_eq_true rfl) (Apf E g6 x3) ?_
      refine go_bvg (fun g7 => ?_)
      exact go_vret td_X9_takeLesserGap 39 rfl rfl rfl
    intro J4 hJ4
    have kJ4 : Go (wCA E) _ _ x1.2 58 [(0, .ref (E.1 132)), (1, .int a1), (2, .int x1.1), (3, .float x3)] [] (J4 ()) := hJ4 ()
    refine go_icmp_eq 58 td_X9_takeLesserGap 20 rfl rfl (q := 41) rfl (fun _ => ?_) (fun _ => ?_)
    · refine go_pick [1, 2, 3, 0] (lv' := [(0, .ref (E.1 132)), (1, .int a1), (2, .int x1.1), (3, .float x3)]) rfl ?_
      exact kJ4 
    · refine go_iload_n td_X9_takeLesserGap 21 rfl (q := 42) rfl 3 rfl ?_
      refine go_aload_n td_X9_takeLesserGap 22 rfl (q := 43) rfl 1 rfl ?_
      refine go_get td_X9_takeLesserGap 23 rfl (q := 46) rfl fl_X9_18 (Ac_132 E x1.2) rfl ?_
      refine go_icmp_lt 58 td_X9_takeLesserGap 24 rfl rfl (q := 49) rfl (fun _ => ?_) (fun _ => ?_)
      · refine go_pick [1, 2, 3, 0] (lv' := [(0, .ref (E.1 132)), (1, .int a1), (2, .int x1.1), (3, .float x3)]) rfl ?_
        exact kJ4 
      · refine go_fload_n td_X9_takeLesserGap 25 rfl (q := 50) rfl 0 rfl ?_
        refine go_aload_n td_X9_takeLesserGap 26 rfl (q := 51) rfl 1 rfl ?_
        refine go_get td_X9_takeLesserGap 27 rfl (q := 54) rfl fl_X9_21 (Ac_132 E x1.2) rfl ?_
        refine go_fcmp td_X9_takeLesserGap 28 rfl (q := 55) rfl ?_
        refine go_if_le 73 td_X9_takeLesserGap 29 rfl rfl (q := 58) rfl (fun _ => ?_) (fun _ => ?_)
        · exact go_vret td_X9_takeLesserGap 39 rfl rfl rfl
        · refine go_pick [1, 2, 3, 0] (lv' := [(0, .ref (E.1 132)), (1, .int a1), (2, .int x1.1), (3, .float x3)]) rfl ?_
          exact kJ4 
  intro J2 hJ2
  have kJ2 : Go (wCA E) _ _ x1.2 25 [(0, .ref (E.1 132)), (1, .int a1), (2, .int x1.1)] [] (J2 ()) := hJ2 ()
  refine go_icmp_eq 25 td_X9_takeLesserGap 7 rfl rfl (q := 16) rfl (fun _ => ?_) (fun _ => ?_)
  · refine go_pick [1, 2, 0] (lv' := [(0, .ref (E.1 132)), (1, .int a1), (2, .int x1.1)]) rfl ?_
    exact kJ2 
  · refine go_iload_n td_X9_takeLesserGap 8 rfl (q := 17) rfl 0 rfl ?_
    refine go_aload_n td_X9_takeLesserGap 9 rfl (q := 18) rfl 1 rfl ?_
    refine go_get td_X9_takeLesserGap 10 rfl (q := 21) rfl fl_X9_18 (Ac_132 E x1.2) rfl ?_
    refine go_icmp_le 25 td_X9_takeLesserGap 11 rfl rfl (q := 24) rfl (fun _ => ?_) (fun _ => ?_)
    · refine go_pick [1, 2, 0] (lv' := [(0, .ref (E.1 132)), (1, .int a1), (2, .int x1.1)]) rfl ?_
      exact kJ2 
    · exact go_vret td_X9_takeLesserGap 12 rfl rfl rfl
def fA_Trial_trySpreads (a1 : Int32) (g : G) : Option (G) := Option.bind (fA_Trial_start g) fun x1 => Option.bind (fA_Plan_craftIn a1 x1) fun x2 => bv (x2 &&& (x1.1 2700)) fun x3 => (if x3 = 0 then some x1 else Option.bind (fA_Sky_hold ((x1.1 2700) &&& (x3 ^^^ (-1))) x1) fun x4 => Lp (α := Int32 × G) (fun rec5 s5 => ag 4 (s5.2.2.1 7) a1 fun x6 => (if x6 ≤ s5.1 then some s5.2 else Option.bind (fA_Fleet_spreadOut a1 s5.1 s5.2) fun x7 => Option.bind (fA_Sky_drawAll_2 x7) fun x8 => Option.bind (fA_Sky_join x3 x8) fun x9 => Option.bind (fA_Trial_takeLesserGap s5.1 x9) fun x10 => rec5 (s5.1 + 1, x10))) FU (0, x4))
set_option maxRecDepth 20000 in
set_option maxHeartbeats 4000000 in
theorem ok_fA_Trial_trySpreads (E : Ev) (a1 : Int32) (g : G)  : Ct (wCA E) yX9_trySpreads mi_X9_trySpreads [.ref (E.1 132), .int a1] (fun r => (none, r)) g (fA_Trial_trySpreads a1 g) := by
  refine go_enter rfl rfl (Nat.le_of_ble_eq_true rfl) (lv := [(0, .ref (E.1 132)), (1, .int a1)]) rfl ?_
  unfold fA_Trial_trySpreads
  refine go_aload_n td_X9_trySpreads 0 rfl (q := 1) rfl 0 rfl ?_
  refine go_callV td_X9_trySpreads 1 rfl (q := 4) rfl (XkA E) lk_X9_47 (ok_fA_Trial_start E g) ⟨rfl, rfl, Nat.le_of_ble_eq_true rfl, Nat.le_of_ble_eq_true rfl⟩ rfl rfl (Nat.le_of_ble_eq_true rfl) (Ac_132 E g) rfl (fun x1 => ?_)
  show Go (wCA E) _ _ x1 4 _ [] _
  refine go_aload_n td_X9_trySpreads 2 rfl (q := 5) rfl 0 rfl ?_
  refine go_get td_X9_trySpreads 3 rfl (q := 8) rfl fl_X9_32 (Ac_132 E x1) rfl ?_
  refine go_iload_n td_X9_trySpreads 4 rfl (q := 9) rfl 1 rfl ?_
  refine go_callV td_X9_trySpreads 5 rfl (q := 12) rfl (XkA E) lk_X9_79 (ok_fA_Plan_craftIn E a1 x1) ⟨rfl, rfl, Nat.le_of_ble_eq_true rfl, Nat.le_of_ble_eq_true rfl⟩ rfl rfl (Nat.le_of_ble_eq_true rfl) (Ac_3 E x1) rfl (fun x2 => ?_)
  show Go (wCA E) _ _ x1 12 _ [.int x2] _
  refine go_aload_n td_X9_trySpreads 6 rfl (q := 13) rfl 0 rfl ?_
  refine go_get td_X9_trySpreads 7 rfl (q := 16) rfl fl_X9_40 (Ac_132 E x1) rfl ?_
  refine go_get td_X9_trySpreads 8 rfl (q := 19) rfl fl_X9_50 (Ac_27 E x1) rfl ?_
  refine go_iand td_X9_trySpreads 9 rfl (q := 20) rfl ?_
  refine go_bvi (fun x3 => ?_)
  refine go_istore_n [(2, .int x3), (0, .ref (E.1 132)), (1, .int a1)] td_X9_trySpreads 10 rfl (q := 21) rfl (Nat.le_of_ble_eq_true rfl) rfl ?_
  refine go_iload_n td_X9_trySpreads 11 rfl (q := 22) rfl 0 rfl ?_
  refine go_if_ne 26 td_X9_trySpreads 12 rfl rfl (q := 25) rfl (fun _ => ?_) (fun _ => ?_)
  · refine go_aload_n td_X9_trySpreads 14 rfl (q := 27) rfl 1 rfl ?_
    refine go_get td_X9_trySpreads 15 rfl (q := 30) rfl fl_X9_36 (Ac_132 E x1) rfl ?_
    refine go_aload_n td_X9_trySpreads 16 rfl (q := 31) rfl 1 rfl ?_
    refine go_get td_X9_trySpreads 17 rfl (q := 34) rfl fl_X9_40 (Ac_132 E x1) rfl ?_
    refine go_get td_X9_trySpreads 18 rfl (q := 37) rfl fl_X9_50 (Ac_27 E x1) rfl ?_
    refine go_iload_n td_X9_trySpreads 19 rfl (q := 38) rfl 0 rfl ?_
    refine go_iconst td_X9_trySpreads 20 rfl (q := 39) rfl kc_m1 ?_
    refine go_ixor td_X9_trySpreads 21 rfl (q := 40) rfl ?_
    refine go_iand td_X9_trySpreads 22 rfl (q := 41) rfl ?_
    refine go_callV td_X9_trySpreads 23 rfl (q := 44) rfl (XkA E) lk_X9_53 (ok_fA_Sky_hold E ((x1.1 2700) &&& (x3 ^^^ (-1))) x1) ⟨rfl, rfl, Nat.le_of_ble_eq_true rfl, Nat.le_of_ble_eq_true rfl⟩ rfl rfl (Nat.le_of_ble_eq_true rfl) (Ac_118 E x1) rfl (fun x4 => ?_)
    show Go (wCA E) _ _ x4 44 _ [] _
    refine go_iconst td_X9_trySpreads 24 rfl (q := 45) rfl kc_0 ?_
    refine go_istore_n [(3, .int 0), (2, .int x3), (0, .ref (E.1 132)), (1, .int a1)] td_X9_trySpreads 25 rfl (q := 46) rfl (Nat.le_of_ble_eq_true rfl) rfl ?_
    refine go_pick [2, 3, 1, 0] (lv' := [(0, .ref (E.1 132)), (1, .int a1), (2, .int x3), (3, .int 0)]) rfl ?_
    refine (show ∀ (u5_0 : Int32) (u5_1 : G), Go (wCA E) _ _ u5_1 46 [(0, .ref (E.1 132)), (1, .int a1), (2, .int x3), (3, .int u5_0)] [] (Lp (α := Int32 × G) _ FU (u5_0, u5_1)) from ?_) 0 x4
    intro u5_0 u5_1
    refine go_Lp (α := Int32 × G) (fun s5 => s5.2) (fun s5 => [(0, .ref (E.1 132)), (1, .int a1), (2, .int x3), (3, .int s5.1)]) ?_ FU (u5_0, u5_1)
    intro rec5 hrec5 s5
    have krec5 : ∀ (u5_0 : Int32) (u5_1 : G), Go (wCA E) _ _ u5_1 46 [(0, .ref (E.1 132)), (1, .int a1), (2, .int x3), (3, .int u5_0)] [] (rec5 (u5_0, u5_1)) := fun u5_0 u5_1 => hrec5 (u5_0, u5_1)
    refine go_iload_n td_X9_trySpreads 26 rfl (q := 47) rfl 3 rfl ?_
    refine go_aload_n td_X9_trySpreads 27 rfl (q := 48) rfl 0 rfl ?_
    refine go_get td_X9_trySpreads 28 rfl (q := 51) rfl fl_X9_32 (Ac_132 E s5.2) rfl ?_
    refine go_get td_X9_trySpreads 29 rfl (q := 54) rfl fl_X9_91 (Ac_3 E s5.2) rfl ?_
    refine go_iload_n td_X9_trySpreads 30 rfl (q := 55) rfl 1 rfl ?_
    refine go_ald td_X9_trySpreads 31 rfl (q := 56) rfl (Ac_7 E s5.2) (t0 := 0) rfl (fun x6 => ?_)
    refine go_icmp_ge 102 td_X9_trySpreads 32 rfl rfl (q := 59) rfl (fun _ => ?_) (fun _ => ?_)
    · exact go_vret td_X9_trySpreads 54 rfl rfl rfl
    · refine go_aload_n td_X9_trySpreads 33 rfl (q := 60) rfl 0 rfl ?_
      refine go_get td_X9_trySpreads 34 rfl (q := 63) rfl fl_X9_28 (Ac_132 E s5.2) rfl ?_
      refine go_aload_n td_X9_trySpreads 35 rfl (q := 64) rfl 0 rfl ?_
      refine go_get td_X9_trySpreads 36 rfl (q := 67) rfl fl_X9_32 (Ac_132 E s5.2) rfl ?_
      refine go_iload_n td_X9_trySpreads 37 rfl (q := 68) rfl 1 rfl ?_
      refine go_iload_n td_X9_trySpreads 38 rfl (q := 69) rfl 3 rfl ?_
      refine go_callV td_X9_trySpreads 39 rfl (q := 72) rfl (XkA E) lk_X9_94 (ok_fA_Fleet_spreadOut E a1 s5.1 s5.2) ⟨rfl, rfl, Nat.le_of_ble_eq_true rfl, Nat.le_of_ble_eq_true rfl⟩ rfl rfl (Nat.le_of_ble_eq_true rfl) (Ac_133 E s5.2) rfl (fun x7 => ?_)
      show Go (wCA E) _ _ x7 72 _ [] _
      refine go_aload_n td_X9_trySpreads 40 rfl (q := 73) rfl 0 rfl ?_
      refine go_get td_X9_trySpreads 41 rfl (q := 76) rfl fl_X9_36 (Ac_132 E x7) rfl ?_
      refine go_aload_n td_X9_trySpreads 42 rfl (q := 77) rfl 0 rfl ?_
      refine go_get td_X9_trySpreads 43 rfl (q := 80) rfl fl_X9_28 (Ac_132 E x7) rfl ?_
      refine go_callV td_X9_trySpreads 44 rfl (q := 83) rfl (XkA E) lk_X9_88 (ok_fA_Sky_drawAll_2 E x7) ⟨rfl, rfl, Nat.le_of_ble_eq_true rfl, Nat.le_of_ble_eq_true rfl⟩ rfl rfl (Nat.le_of_ble_eq_true rfl) (Ac_118 E x7) rfl (fun x8 => ?_)
      show Go (wCA E) _ _ x8 83 _ [] _
      refine go_aload_n td_X9_trySpreads 45 rfl (q := 84) rfl 0 rfl ?_
      refine go_get td_X9_trySpreads 46 rfl (q := 87) rfl fl_X9_36 (Ac_132 E x8) rfl ?_
      refine go_iload_n td_X9_trySpreads 47 rfl (q := 88) rfl 2 rfl ?_
      refine go_callV td_X9_trySpreads 48 rfl (q := 91) rfl (XkA E) lk_X9_73 (ok_fA_Sky_join E x3 x8) ⟨rfl, rfl, Nat.le_of_ble_eq_true rfl, Nat.le_of_ble_eq_true rfl⟩ rfl rfl (Nat.le_of_ble_eq_true rfl) (Ac_118 E x8) rfl (fun x9 => ?_)
      show Go (wCA E) _ _ x9 91 _ [] _
      refine go_aload_n td_X9_trySpreads 49 rfl (q := 92) rfl 0 rfl ?_
      refine go_iload_n td_X9_trySpreads 50 rfl (q := 93) rfl 3 rfl ?_
      refine go_callV td_X9_trySpreads 51 rfl (q := 96) rfl (XkA E) lk_X9_98 (ok_fA_Trial_takeLesserGap E s5.1 x9) ⟨rfl, rfl, Nat.le_of_ble_eq_true rfl, Nat.le_of_ble_eq_true rfl⟩ rfl rfl (Nat.le_of_ble_eq_true rfl) (Ac_132 E x9) rfl (fun x10 => ?_)
      show Go (wCA E) _ _ x10 96 _ [] _
      refine go_iinc [(3, .int (s5.1 + 1)), (0, .ref (E.1 132)), (1, .int a1), (2, .int x3)] td_X9_trySpreads 52 rfl (q := 99) rfl 3 rfl kc_1 (Nat.le_of_ble_eq_true rfl) rfl ?_
      refine go_goto td_X9_trySpreads 53 rfl (q := 46) rfl ?_
      refine go_pick [1, 2, 3, 0] (lv' := [(0, .ref (E.1 132)), (1, .int a1), (2, .int x3), (3, .int (s5.1 + 1))]) rfl ?_
      exact krec5 (s5.1 + 1) x10
  · exact go_vret td_X9_trySpreads 13 rfl rfl rfl
def fA_D_even (a1 : Int32) (a2 : Int32) (g : G) : Option (Int32 × G) := Option.bind (fA_Plan_hasPlane a1 g) fun x1 => (if x1 = 0 then some ((-1), g) else (if a2 < 0 then some ((-1), g) else (if a2 ≤ 1 then Option.bind (fA_D_look g) fun x2 => Option.bind (fA_Trial_trySpreads a1 x2) fun x3 => bv (sS x3 18 0) fun g4 => (if a2 = 0 then some (g4.1 13200, g4) else some (g4.1 13202, g4)) else some ((-1), g))))
set_option maxRecDepth 20000 in
set_option maxHeartbeats 4000000 in
theorem ok_fA_D_even (E : Ev) (a1 : Int32) (a2 : Int32) (g : G)  : Ct (wCA E) yX11_even mi_X11_even [.ref (E.1 0), .int a1, .int a2] (fun r => (some (.int r.1), r.2)) g (fA_D_even a1 a2 g) := by
  refine go_enter rfl rfl (Nat.le_of_ble_eq_true rfl) (lv := [(0, .ref (E.1 0)), (1, .int a1), (2, .int a2)]) rfl ?_
  unfold fA_D_even
  refine go_aload_n td_X11_even 0 rfl (q := 1) rfl 0 rfl ?_
  refine go_get td_X11_even 1 rfl (q := 4) rfl fl_X11_19 (Ac_0 E g) rfl ?_
  refine go_iload_n td_X11_even 2 rfl (q := 5) rfl 1 rfl ?_
  refine go_callV td_X11_even 3 rfl (q := 8) rfl (XkA E) lk_X11_201 (ok_fA_Plan_hasPlane E a1 g) ⟨rfl, rfl, Nat.le_of_ble_eq_true rfl, Nat.le_of_ble_eq_true rfl⟩ rfl rfl (Nat.le_of_ble_eq_true rfl) (Ac_3 E g) rfl (fun x1 => ?_)
  show Go (wCA E) _ _ g 8 _ [.int x1] _
  refine go_if_eq 20 td_X11_even 4 rfl rfl (q := 11) rfl (fun _ => ?_) (fun _ => ?_)
  · refine go_iconst td_X11_even 10 rfl (q := 21) rfl kc_m1 ?_
    exact go_iret td_X11_even 11 rfl rfl rfl
  · refine go_iload_n td_X11_even 5 rfl (q := 12) rfl 2 rfl ?_
    refine go_if_lt 20 td_X11_even 6 rfl rfl (q := 15) rfl (fun _ => ?_) (fun _ => ?_)
    · refine go_iconst td_X11_even 10 rfl (q := 21) rfl kc_m1 ?_
      exact go_iret td_X11_even 11 rfl rfl rfl
    · refine go_iload_n td_X11_even 7 rfl (q := 16) rfl 2 rfl ?_
      refine go_iconst td_X11_even 8 rfl (q := 17) rfl kc_1 ?_
      refine go_icmp_le 22 td_X11_even 9 rfl rfl (q := 20) rfl (fun _ => ?_) (fun _ => ?_)
      · refine go_aload_n td_X11_even 12 rfl (q := 23) rfl 0 rfl ?_
        refine go_callV td_X11_even 13 rfl (q := 26) rfl (XkA E) lk_X11_247 (ok_fA_D_look E g) ⟨rfl, rfl, Nat.le_of_ble_eq_true rfl, Nat.le_of_ble_eq_true rfl⟩ rfl rfl (Nat.le_of_ble_eq_true rfl) (Ac_0 E g) rfl (fun x2 => ?_)
        show Go (wCA E) _ _ x2 26 _ [] _
        refine go_aload_n td_X11_even 14 rfl (q := 27) rfl 0 rfl ?_
        refine go_get td_X11_even 15 rfl (q := 30) rfl fl_X11_75 (Ac_0 E x2) rfl ?_
        refine go_iload_n td_X11_even 16 rfl (q := 31) rfl 1 rfl ?_
        refine go_callV td_X11_even 17 rfl (q := 34) rfl (XkA E) lk_X11_369 (ok_fA_Trial_trySpreads E a1 x2) ⟨rfl, rfl, Nat.le_of_ble_eq_true rfl, Nat.le_of_ble_eq_true rfl⟩ rfl rfl (Nat.le_of_ble_eq_true rfl) (Ac_132 E x2) rfl (fun x3 => ?_)
        show Go (wCA E) _ _ x3 34 _ [] _
        refine go_aload_n td_X11_even 18 rfl (q := 35) rfl 0 rfl ?_
        refine go_iconst td_X11_even 19 rfl (q := 36) rfl kc_0 ?_
        refine go_put td_X11_even 20 rfl (q := 39) rfl flp_X11_114 (Ac_0 E x3) rfl rfl (Nat.le_of_ble_eq_true rfl) (Aps_18 E x3 0) ?_
        refine go_bvg (fun g4 => ?_)
        refine go_iload_n td_X11_even 21 rfl (q := 40) rfl 2 rfl ?_
        refine go_if_ne 53 td_X11_even 22 rfl rfl (q := 43) rfl (fun _ => ?_) (fun _ => ?_)
        · refine go_aload_n td_X11_even 27 rfl (q := 54) rfl 0 rfl ?_
          refine go_get td_X11_even 28 rfl (q := 57) rfl fl_X11_75 (Ac_0 E g4) rfl ?_
          refine go_get td_X11_even 29 rfl (q := 60) rfl fl_X11_372 (Ac_132 E g4) rfl ?_
          exact go_iret td_X11_even 30 rfl rfl rfl
        · refine go_aload_n td_X11_even 23 rfl (q := 44) rfl 0 rfl ?_
          refine go_get td_X11_even 24 rfl (q := 47) rfl fl_X11_75 (Ac_0 E g4) rfl ?_
          refine go_get td_X11_even 25 rfl (q := 50) rfl fl_X11_362 (Ac_132 E g4) rfl ?_
          refine go_goto td_X11_even 26 rfl (q := 60) rfl ?_
          exact go_iret td_X11_even 30 rfl rfl rfl
      · refine go_iconst td_X11_even 10 rfl (q := 21) rfl kc_m1 ?_
        exact go_iret td_X11_even 11 rfl rfl rfl
def fA_Trial_takeGreaterGap (a1 : Int32) (g : G) : Option (G) := Option.bind (fA_Sky_worstGap g) fun x1 => lj (α := Unit) (fun b2 => Option.bind (fA_Sky_meanCover x1.2) fun x3 => lj (α := Unit) (fun b4 => bv (sS x1.2 13200 a1) fun g5 => bv (sS g5 13202 x1.1) fun g6 => bv (sF g6 0 x3) fun g7 => some g7) fun J4 => (if (x1.2.1 13200) = (-1) then J4 () else (if (x1.2.1 13202) < x1.1 then J4 () else (if 0 ≤ (Op.cmpValue (FP.fcmp x3 (x1.2.2.2.2.1 0)) .g) then some x1.2 else J4 ())))) fun J2 => (if (x1.2.1 13200) = (-1) then J2 () else (if (x1.2.1 13202) ≤ x1.1 then J2 () else some x1.2))
set_option maxRecDepth 20000 in
set_option maxHeartbeats 4000000 in
theorem ok_fA_Trial_takeGreaterGap (E : Ev) (a1 : Int32) (g : G)  : Ct (wCA E) yX9_takeGreaterGap mi_X9_takeGreaterGap [.ref (E.1 132), .int a1] (fun r => (none, r)) g (fA_Trial_takeGreaterGap a1 g) := by
  refine go_enter rfl rfl (Nat.le_of_ble_eq_true rfl) (lv := [(0, .ref (E.1 132)), (1, .int a1)]) rfl ?_
  unfold fA_Trial_takeGreaterGap
  refine go_aload_n td_X9_takeGreaterGap 0 rfl (q := 1) rfl 0 rfl ?_
  refine go_get td_X9_takeGreaterGap 1 rfl (q := 4) rfl fl_X9_36 (Ac_132 E g) rfl ?_
  refine go_callV td_X9_takeGreaterGap 2 rfl (q := 7) rfl (XkA E) lk_X9_114 (ok_fA_Sky_worstGap E g) ⟨rfl, rfl, Nat.le_of_ble_eq_true rfl, Nat.le_of_ble_eq_true rfl⟩ rfl rfl (Nat.le_of_ble_eq_true rfl) (Ac_118 E g) rfl (fun x1 => ?_)
  show Go (wCA E) _ _ x1.2 7 _ [.int x1.1] _
  refine go_istore_n [(2, .int x1.1), (0, .ref (E.1 132)), (1, .int a1)] td_X9_takeGreaterGap 3 rfl (q := 8) rfl (Nat.le_of_ble_eq_true rfl) rfl ?_
  refine go_aload_n td_X9_takeGreaterGap 4 rfl (q := 9) rfl 1 rfl ?_
  refine go_get td_X9_takeGreaterGap 5 rfl (q := 12) rfl fl_X9_9 (Ac_132 E x1.2) rfl ?_
  refine go_iconst td_X9_takeGreaterGap 6 rfl (q := 13) rfl kc_m1 ?_
  refine go_ljX (α := Unit) (fun b2 => [(0, .ref (E.1 132)), (1, .int a1), (2, .int x1.1)]) (fun b2 => []) (fun b2 => x1.2) 25 ?_ ?_
  · intro b2
    refine go_aload_n td_X9_takeGreaterGap 13 rfl (q := 26) rfl 0 rfl ?_
    refine go_get td_X9_takeGreaterGap 14 rfl (q := 29) rfl fl_X9_36 (Ac_132 E x1.2) rfl ?_
    refine go_callV td_X9_takeGreaterGap 15 rfl (q := 32) rfl (XkA E) lk_X9_127 (ok_fA_Sky_meanCover E x1.2) ⟨rfl, rfl, Nat.le_of_ble_eq_true rfl, Nat.le_of_ble_eq_true rfl⟩ rfl rfl (Nat.le_of_ble_eq_true rfl) (Ac_118 E x1.2) rfl (fun x3 => ?_)
    show Go (wCA E) _ _ x1.2 32 _ [.float x3] _
    refine go_fstore_n [(3, .float x3), (0, .ref (E.1 132)), (1, .int a1), (2, .int x1.1)] td_X9_takeGreaterGap 16 rfl (q := 33) rfl (Nat.le_of_ble_eq_true rfl) rfl ?_
    refine go_aload_n td_X9_takeGreaterGap 17 rfl (q := 34) rfl 1 rfl ?_
    refine go_get td_X9_takeGreaterGap 18 rfl (q := 37) rfl fl_X9_9 (Ac_132 E x1.2) rfl ?_
    refine go_iconst td_X9_takeGreaterGap 19 rfl (q := 38) rfl kc_m1 ?_
    refine go_ljX (α := Unit) (fun b4 => [(0, .ref (E.1 132)), (1, .int a1), (2, .int x1.1), (3, .float x3)]) (fun b4 => []) (fun b4 => x1.2) 58 ?_ ?_
    · intro b4
      refine go_aload_n td_X9_takeGreaterGap 30 rfl (q := 59) rfl 0 rfl ?_
      refine go_iload_n td_X9_takeGreaterGap 31 rfl (q := 60) rfl 1 rfl ?_
      refine go_put td_X9_takeGreaterGap 32 rfl (q := 63) rfl flp_X9_9 (Ac_132 E x1.2) rfl rfl (Nat.le_of_ble_eq_true rfl) (Aps_13200 E x1.2 a1) ?_
      refine go_bvg (fun g5 => ?_)
      refine go_aload_n td_X9_takeGreaterGap 33 rfl (q := 64) rfl 0 rfl ?_
      refine go_iload_n td_X9_takeGreaterGap 34 rfl (q := 65) rfl 2 rfl ?_
      refine go_put td_X9_takeGreaterGap 35 rfl (q := 68) rfl flp_X9_18 (Ac_132 E g5) rfl rfl (Nat.le_of_ble_eq_true rfl) (Aps_13202 E g5 x1.1) ?_
      refine go_bvg (fun g6 => ?_)
      refine go_aload_n td_X9_takeGreaterGap 36 rfl (q := 69) rfl 0 rfl ?_
      refine go_fload_n td_X9_takeGreaterGap 37 rfl (q := 70) rfl 3 rfl ?_
      refine go_put td_X9_takeGreaterGap 38 rfl (q := 73) rfl flp_X9_21 (Ac_132 E g6) rfl rfl (Nat.le_of_ble_eq_true rfl) (Apf E g6 x3) ?_
      refine go_bvg (fun g7 => ?_)
      exact go_vret td_X9_takeGreaterGap 39 rfl rfl rfl
    intro J4 hJ4
    have kJ4 : Go (wCA E) _ _ x1.2 58 [(0, .ref (E.1 132)), (1, .int a1), (2, .int x1.1), (3, .float x3)] [] (J4 ()) := hJ4 ()
    refine go_icmp_eq 58 td_X9_takeGreaterGap 20 rfl rfl (q := 41) rfl (fun _ => ?_) (fun _ => ?_)
    · refine go_pick [1, 2, 3, 0] (lv' := [(0, .ref (E.1 132)), (1, .int a1), (2, .int x1.1), (3, .float x3)]) rfl ?_
      exact kJ4 
    · refine go_iload_n td_X9_takeGreaterGap 21 rfl (q := 42) rfl 3 rfl ?_
      refine go_aload_n td_X9_takeGreaterGap 22 rfl (q := 43) rfl 1 rfl ?_
      refine go_get td_X9_takeGreaterGap 23 rfl (q := 46) rfl fl_X9_18 (Ac_132 E x1.2) rfl ?_
      refine go_icmp_gt 58 td_X9_takeGreaterGap 24 rfl rfl (q := 49) rfl (fun _ => ?_) (fun _ => ?_)
      · refine go_pick [1, 2, 3, 0] (lv' := [(0, .ref (E.1 132)), (1, .int a1), (2, .int x1.1), (3, .float x3)]) rfl ?_
        exact kJ4 
      · refine go_fload_n td_X9_takeGreaterGap 25 rfl (q := 50) rfl 0 rfl ?_
        refine go_aload_n td_X9_takeGreaterGap 26 rfl (q := 51) rfl 1 rfl ?_
        refine go_get td_X9_takeGreaterGap 27 rfl (q := 54) rfl fl_X9_21 (Ac_132 E x1.2) rfl ?_
        refine go_fcmp td_X9_takeGreaterGap 28 rfl (q := 55) rfl ?_
        refine go_if_ge 73 td_X9_takeGreaterGap 29 rfl rfl (q := 58) rfl (fun _ => ?_) (fun _ => ?_)
        · exact go_vret td_X9_takeGreaterGap 39 rfl rfl rfl
        · refine go_pick [1, 2, 3, 0] (lv' := [(0, .ref (E.1 132)), (1, .int a1), (2, .int x1.1), (3, .float x3)]) rfl ?_
          exact kJ4 
  intro J2 hJ2
  have kJ2 : Go (wCA E) _ _ x1.2 25 [(0, .ref (E.1 132)), (1, .int a1), (2, .int x1.1)] [] (J2 ()) := hJ2 ()
  refine go_icmp_eq 25 td_X9_takeGreaterGap 7 rfl rfl (q := 16) rfl (fun _ => ?_) (fun _ => ?_)
  · refine go_pick [1, 2, 0] (lv' := [(0, .ref (E.1 132)), (1, .int a1), (2, .int x1.1)]) rfl ?_
    exact kJ2 
  · refine go_iload_n td_X9_takeGreaterGap 8 rfl (q := 17) rfl 0 rfl ?_
    refine go_aload_n td_X9_takeGreaterGap 9 rfl (q := 18) rfl 1 rfl ?_
    refine go_get td_X9_takeGreaterGap 10 rfl (q := 21) rfl fl_X9_18 (Ac_132 E x1.2) rfl ?_
    refine go_icmp_ge 25 td_X9_takeGreaterGap 11 rfl rfl (q := 24) rfl (fun _ => ?_) (fun _ => ?_)
    · refine go_pick [1, 2, 0] (lv' := [(0, .ref (E.1 132)), (1, .int a1), (2, .int x1.1)]) rfl ?_
      exact kJ2 
    · exact go_vret td_X9_takeGreaterGap 12 rfl rfl rfl
def fA_Trial_tryLosses (g : G) : Option (G) := Option.bind (fA_Trial_start g) fun x1 => Option.bind (fA_Sky_hold 0 x1) fun x2 => Lp (α := Int32 × G) (fun rec3 s3 => (if (s3.2.1 306) ≤ s3.1 then some s3.2 else Option.bind (fA_Fleet_isUp s3.1 s3.2) fun x4 => lj (α := G) (fun b5 => rec3 (s3.1 + 1, b5)) fun J5 => (if x4 = 0 then J5 s3.2 else Option.bind (fA_Sky_join ((s3.2.1 2700) &&& (((1 : Int32) <<< (s3.1 &&& 31)) ^^^ (-1))) s3.2) fun x6 => Option.bind (fA_Trial_takeGreaterGap s3.1 x6) fun x7 => J5 x7))) FU (0, x2)
set_option maxRecDepth 20000 in
set_option maxHeartbeats 4000000 in
theorem ok_fA_Trial_tryLosses (E : Ev)  (g : G)  : Ct (wCA E) yX9_tryLosses mi_X9_tryLosses [.ref (E.1 132)] (fun r => (none, r)) g (fA_Trial_tryLosses g) := by
  refine go_enter rfl rfl (Nat.le_of_ble_eq_true rfl) (lv := [(0, .ref (E.1 132))]) rfl ?_
  unfold fA_Trial_tryLosses
  refine go_aload_n td_X9_tryLosses 0 rfl (q := 1) rfl 0 rfl ?_
  refine go_callV td_X9_tryLosses 1 rfl (q := 4) rfl (XkA E) lk_X9_47 (ok_fA_Trial_start E g) ⟨rfl, rfl, Nat.le_of_ble_eq_true rfl, Nat.le_of_ble_eq_true rfl⟩ rfl rfl (Nat.le_of_ble_eq_true rfl) (Ac_132 E g) rfl (fun x1 => ?_)
  show Go (wCA E) _ _ x1 4 _ [] _
  refine go_aload_n td_X9_tryLosses 2 rfl (q := 5) rfl 0 rfl ?_
  refine go_get td_X9_tryLosses 3 rfl (q := 8) rfl fl_X9_36 (Ac_132 E x1) rfl ?_
  refine go_iconst td_X9_tryLosses 4 rfl (q := 9) rfl kc_0 ?_
  refine go_callV td_X9_tryLosses 5 rfl (q := 12) rfl (XkA E) lk_X9_53 (ok_fA_Sky_hold E 0 x1) ⟨rfl, rfl, Nat.le_of_ble_eq_true rfl, Nat.le_of_ble_eq_true rfl⟩ rfl rfl (Nat.le_of_ble_eq_true rfl) (Ac_118 E x1) rfl (fun x2 => ?_)
  show Go (wCA E) _ _ x2 12 _ [] _
  refine go_iconst td_X9_tryLosses 6 rfl (q := 13) rfl kc_0 ?_
  refine go_istore_n [(1, .int 0), (0, .ref (E.1 132))] td_X9_tryLosses 7 rfl (q := 14) rfl (Nat.le_of_ble_eq_true rfl) rfl ?_
  refine go_pick [1, 0] (lv' := [(0, .ref (E.1 132)), (1, .int 0)]) rfl ?_
  refine (show ∀ (u3_0 : Int32) (u3_1 : G), Go (wCA E) _ _ u3_1 14 [(0, .ref (E.1 132)), (1, .int u3_0)] [] (Lp (α := Int32 × G) _ FU (u3_0, u3_1)) from ?_) 0 x2
  intro u3_0 u3_1
  refine go_Lp (α := Int32 × G) (fun s3 => s3.2) (fun s3 => [(0, .ref (E.1 132)), (1, .int s3.1)]) ?_ FU (u3_0, u3_1)
  intro rec3 hrec3 s3
  have krec3 : ∀ (u3_0 : Int32) (u3_1 : G), Go (wCA E) _ _ u3_1 14 [(0, .ref (E.1 132)), (1, .int u3_0)] [] (rec3 (u3_0, u3_1)) := fun u3_0 u3_1 => hrec3 (u3_0, u3_1)
  refine go_iload_n td_X9_tryLosses 8 rfl (q := 15) rfl 1 rfl ?_
  refine go_aload_n td_X9_tryLosses 9 rfl (q := 16) rfl 0 rfl ?_
  refine go_get td_X9_tryLosses 10 rfl (q := 19) rfl fl_X9_32 (Ac_132 E s3.2) rfl ?_
  refine go_get td_X9_tryLosses 11 rfl (q := 22) rfl fl_X9_104 (Ac_3 E s3.2) rfl ?_
  refine go_icmp_ge 67 td_X9_tryLosses 12 rfl rfl (q := 25) rfl (fun _ => ?_) (fun _ => ?_)
  · exact go_vret td_X9_tryLosses 35 rfl rfl rfl
  · refine go_aload_n td_X9_tryLosses 13 rfl (q := 26) rfl 0 rfl ?_
    refine go_get td_X9_tryLosses 14 rfl (q := 29) rfl fl_X9_40 (Ac_132 E s3.2) rfl ?_
    refine go_iload_n td_X9_tryLosses 15 rfl (q := 30) rfl 1 rfl ?_
    refine go_callV td_X9_tryLosses 16 rfl (q := 33) rfl (XkA E) lk_X9_107 (ok_fA_Fleet_isUp E s3.1 s3.2) ⟨rfl, rfl, Nat.le_of_ble_eq_true rfl, Nat.le_of_ble_eq_true rfl⟩ rfl rfl (Nat.le_of_ble_eq_true rfl) (Ac_27 E s3.2) rfl (fun x4 => ?_)
    show Go (wCA E) _ _ s3.2 33 _ [.int x4] _
    refine go_ljX (α := G) (fun b5 => [(0, .ref (E.1 132)), (1, .int s3.1)]) (fun b5 => []) (fun b5 => b5) 61 ?_ ?_
    · intro b5
      refine go_iinc [(1, .int (s3.1 + 1)), (0, .ref (E.1 132))] td_X9_tryLosses 33 rfl (q := 64) rfl 1 rfl kc_1 (Nat.le_of_ble_eq_true rfl) rfl ?_
      refine go_goto td_X9_tryLosses 34 rfl (q := 14) rfl ?_
      refine go_pick [1, 0] (lv' := [(0, .ref (E.1 132)), (1, .int (s3.1 + 1))]) rfl ?_
      exact krec3 (s3.1 + 1) b5
    intro J5 hJ5
    have kJ5 : ∀ (u5_0 : G), Go (wCA E) _ _ u5_0 61 [(0, .ref (E.1 132)), (1, .int s3.1)] [] (J5 u5_0) := fun u5_0 => hJ5 u5_0
    refine go_if_eq 61 td_X9_tryLosses 17 rfl rfl (q := 36) rfl (fun _ => ?_) (fun _ => ?_)
    · refine go_pick [0, 1] (lv' := [(0, .ref (E.1 132)), (1, .int s3.1)]) rfl ?_
      exact kJ5 s3.2
    · refine go_aload_n td_X9_tryLosses 18 rfl (q := 37) rfl 0 rfl ?_
      refine go_get td_X9_tryLosses 19 rfl (q := 40) rfl fl_X9_36 (Ac_132 E s3.2) rfl ?_
      refine go_aload_n td_X9_tryLosses 20 rfl (q := 41) rfl 0 rfl ?_
      refine go_get td_X9_tryLosses 21 rfl (q := 44) rfl fl_X9_40 (Ac_132 E s3.2) rfl ?_
      refine go_get td_X9_tryLosses 22 rfl (q := 47) rfl fl_X9_50 (Ac_27 E s3.2) rfl ?_
      refine go_iconst td_X9_tryLosses 23 rfl (q := 48) rfl kc_1 ?_
      refine go_iload_n td_X9_tryLosses 24 rfl (q := 49) rfl 1 rfl ?_
      refine go_ishl td_X9_tryLosses 25 rfl (q := 50) rfl ?_
      refine go_iconst td_X9_tryLosses 26 rfl (q := 51) rfl kc_m1 ?_
      refine go_ixor td_X9_tryLosses 27 rfl (q := 52) rfl ?_
      refine go_iand td_X9_tryLosses 28 rfl (q := 53) rfl ?_
      refine go_callV td_X9_tryLosses 29 rfl (q := 56) rfl (XkA E) lk_X9_73 (ok_fA_Sky_join E ((s3.2.1 2700) &&& (((1 : Int32) <<< (s3.1 &&& 31)) ^^^ (-1))) s3.2) ⟨rfl, rfl, Nat.le_of_ble_eq_true rfl, Nat.le_of_ble_eq_true rfl⟩ rfl rfl (Nat.le_of_ble_eq_true rfl) (Ac_118 E s3.2) rfl (fun x6 => ?_)
      show Go (wCA E) _ _ x6 56 _ [] _
      refine go_aload_n td_X9_tryLosses 30 rfl (q := 57) rfl 0 rfl ?_
      refine go_iload_n td_X9_tryLosses 31 rfl (q := 58) rfl 1 rfl ?_
      refine go_callV td_X9_tryLosses 32 rfl (q := 61) rfl (XkA E) lk_X9_111 (ok_fA_Trial_takeGreaterGap E s3.1 x6) ⟨rfl, rfl, Nat.le_of_ble_eq_true rfl, Nat.le_of_ble_eq_true rfl⟩ rfl rfl (Nat.le_of_ble_eq_true rfl) (Ac_132 E x6) rfl (fun x7 => ?_)
      show Go (wCA E) _ _ x7 61 _ [] _
      refine go_pick [0, 1] (lv' := [(0, .ref (E.1 132)), (1, .int s3.1)]) rfl ?_
      exact kJ5 x7
def fA_D_critical (a1 : Int32) (g : G) : Option (Int32 × G) := (if (g.1 2700) = 0 then some ((-1), g) else (if a1 < 0 then some ((-1), g) else (if a1 ≤ 2 then Option.bind (fA_D_look g) fun x1 => Option.bind (fA_Trial_tryLosses x1) fun x2 => bv (sS x2 18 0) fun g3 => (if a1 = 0 then some (g3.1 13200, g3) else if a1 = 1 then some (g3.1 13202, g3) else Option.bind (fA_D_floatBits (g3.2.2.2.1 0) g3) fun x6 => some (x6, g3)) else some ((-1), g))))
set_option maxRecDepth 20000 in
set_option maxHeartbeats 4000000 in
theorem ok_fA_D_critical (E : Ev) (a1 : Int32) (g : G)  : Ct (wCA E) yX11_critical mi_X11_critical [.ref (E.1 0), .int a1] (fun r => (some (.int r.1), r.2)) g (fA_D_critical a1 g) := by
  refine go_enter rfl rfl (Nat.le_of_ble_eq_true rfl) (lv := [(0, .ref (E.1 0)), (1, .int a1)]) rfl ?_
  unfold fA_D_critical
  refine go_aload_n td_X11_critical 0 rfl (q := 1) rfl 0 rfl ?_
  refine go_get td_X11_critical 1 rfl (q := 4) rfl fl_X11_29 (Ac_0 E g) rfl ?_
  refine go_get td_X11_critical 2 rfl (q := 7) rfl fl_X11_178 (Ac_27 E g) rfl ?_
  refine go_if_eq 19 td_X11_critical 3 rfl rfl (q := 10) rfl (fun _ => ?_) (fun _ => ?_)
  · refine go_iconst td_X11_critical 9 rfl (q := 20) rfl kc_m1 ?_
    exact go_iret td_X11_critical 10 rfl rfl rfl
  · refine go_iload_n td_X11_critical 4 rfl (q := 11) rfl 1 rfl ?_
    refine go_if_lt 19 td_X11_critical 5 rfl rfl (q := 14) rfl (fun _ => ?_) (fun _ => ?_)
    · refine go_iconst td_X11_critical 9 rfl (q := 20) rfl kc_m1 ?_
      exact go_iret td_X11_critical 10 rfl rfl rfl
    · refine go_iload_n td_X11_critical 6 rfl (q := 15) rfl 1 rfl ?_
      refine go_iconst td_X11_critical 7 rfl (q := 16) rfl kc_2 ?_
      refine go_icmp_le 21 td_X11_critical 8 rfl rfl (q := 19) rfl (fun _ => ?_) (fun _ => ?_)
      · refine go_aload_n td_X11_critical 11 rfl (q := 22) rfl 0 rfl ?_
        refine go_callV td_X11_critical 12 rfl (q := 25) rfl (XkA E) lk_X11_247 (ok_fA_D_look E g) ⟨rfl, rfl, Nat.le_of_ble_eq_true rfl, Nat.le_of_ble_eq_true rfl⟩ rfl rfl (Nat.le_of_ble_eq_true rfl) (Ac_0 E g) rfl (fun x1 => ?_)
        show Go (wCA E) _ _ x1 25 _ [] _
        refine go_aload_n td_X11_critical 13 rfl (q := 26) rfl 0 rfl ?_
        refine go_get td_X11_critical 14 rfl (q := 29) rfl fl_X11_75 (Ac_0 E x1) rfl ?_
        refine go_callV td_X11_critical 15 rfl (q := 32) rfl (XkA E) lk_X11_375 (ok_fA_Trial_tryLosses E x1) ⟨rfl, rfl, Nat.le_of_ble_eq_true rfl, Nat.le_of_ble_eq_true rfl⟩ rfl rfl (Nat.le_of_ble_eq_true rfl) (Ac_132 E x1) rfl (fun x2 => ?_)
        show Go (wCA E) _ _ x2 32 _ [] _
        refine go_aload_n td_X11_critical 16 rfl (q := 33) rfl 0 rfl ?_
        refine go_iconst td_X11_critical 17 rfl (q := 34) rfl kc_0 ?_
        refine go_put td_X11_critical 18 rfl (q := 37) rfl flp_X11_114 (Ac_0 E x2) rfl rfl (Nat.le_of_ble_eq_true rfl) (Aps_18 E x2 0) ?_
        refine go_bvg (fun g3 => ?_)
        refine go_iload_n td_X11_critical 19 rfl (q := 38) rfl 1 rfl ?_
        refine go_lcase (v := 0) 64 td_X11_critical 20 rfl ⟨by decide, rfl, rfl⟩ ?_ (fun n4 => ?_)
        · refine go_aload_n td_X11_critical 21 rfl (q := 65) rfl 0 rfl ?_
          refine go_get td_X11_critical 22 rfl (q := 68) rfl fl_X11_75 (Ac_0 E g3) rfl ?_
          refine go_get td_X11_critical 23 rfl (q := 71) rfl fl_X11_362 (Ac_132 E g3) rfl ?_
          exact go_iret td_X11_critical 24 rfl rfl rfl
        refine go_lcase (v := 1) 72 td_X11_critical 20 rfl ⟨by decide, rfl, rfl⟩ ?_ (fun n5 => ?_)
        · refine go_aload_n td_X11_critical 25 rfl (q := 73) rfl 0 rfl ?_
          refine go_get td_X11_critical 26 rfl (q := 76) rfl fl_X11_75 (Ac_0 E g3) rfl ?_
          refine go_get td_X11_critical 27 rfl (q := 79) rfl fl_X11_372 (Ac_132 E g3) rfl ?_
          exact go_iret td_X11_critical 28 rfl rfl rfl
        refine go_ldef 80 td_X11_critical 20 rfl (sw_X11_critical_38 n4 n5) rfl ?_
        refine go_aload_n td_X11_critical 29 rfl (q := 81) rfl 0 rfl ?_
        refine go_get td_X11_critical 30 rfl (q := 84) rfl fl_X11_75 (Ac_0 E g3) rfl ?_
        refine go_get td_X11_critical 31 rfl (q := 87) rfl fl_X11_365 (Ac_132 E g3) rfl ?_
        refine go_callS td_X11_critical 32 rfl (q := 90) rfl (XkA E) lk_X11_330 (ok_fA_D_floatBits E (g3.2.2.2.1 0) g3) ⟨rfl, rfl, Nat.le_of_ble_eq_true rfl, Nat.le_of_ble_eq_true rfl⟩ rfl rfl (Nat.le_of_ble_eq_true rfl) (fun x6 => ?_)
        show Go (wCA E) _ _ g3 90 _ [.int x6] _
        exact go_iret td_X11_critical 33 rfl rfl rfl
      · refine go_iconst td_X11_critical 9 rfl (q := 20) rfl kc_m1 ?_
        exact go_iret td_X11_critical 10 rfl rfl rfl
def fA_Trial_tryReliefs (a1 : Int32) (g : G) : Option (G) := Option.bind (fA_Trial_start g) fun x1 => ag 8 (x1.2.1 9) a1 fun x2 => Option.bind (fA_Plan_craftIn x2 x1) fun x3 => bv (x3 &&& (x1.1 2700)) fun x4 => Option.bind (fA_Sky_hold 0 x1) fun x5 => Lp (α := Int32 × G) (fun rec6 s6 => (if (s6.2.1 306) ≤ s6.1 then some s6.2 else lj (α := G) (fun b7 => rec6 (s6.1 + 1, b7)) fun J7 => (if ((x4 >>> (s6.1 &&& 31)) &&& 1) = 0 then J7 s6.2 else ag 8 (s6.2.2.1 29) a1 fun x8 => ck 8 s6.1 (bv (sA s6.2 135 (s6.1 : Int32).toNatClampNeg x8) fun g9 => Option.bind (fA_Sky_draw_2 s6.1 g9) fun x10 => Option.bind (fA_Sky_join (x10.1 2700) x10) fun x11 => Option.bind (fA_Trial_takeLesserGap s6.1 x11) fun x12 => ag 8 (x12.2.1 29) s6.1 fun x13 => ck 8 s6.1 (bv (sA x12 135 (s6.1 : Int32).toNatClampNeg x13) fun g14 => Option.bind (fA_Sky_draw_2 s6.1 g14) fun x15 => J7 x15))))) FU (0, x5)
set_option maxRecDepth 20000 in
set_option maxHeartbeats 4000000 in
theorem ok_fA_Trial_tryReliefs (E : Ev) (a1 : Int32) (g : G)  : Ct (wCA E) yX9_tryReliefs mi_X9_tryReliefs [.ref (E.1 132), .int a1] (fun r => (none, r)) g (fA_Trial_tryReliefs a1 g) := by
  refine go_enter rfl rfl (Nat.le_of_ble_eq_true rfl) (lv := [(0, .ref (E.1 132)), (1, .int a1)]) rfl ?_
  unfold fA_Trial_tryReliefs
  refine go_aload_n td_X9_tryReliefs 0 rfl (q := 1) rfl 0 rfl ?_
  refine go_callV td_X9_tryReliefs 1 rfl (q := 4) rfl (XkA E) lk_X9_47 (ok_fA_Trial_start E g) ⟨rfl, rfl, Nat.le_of_ble_eq_true rfl, Nat.le_of_ble_eq_true rfl⟩ rfl rfl (Nat.le_of_ble_eq_true rfl) (Ac_132 E g) rfl (fun x1 => ?_)
  show Go (wCA E) _ _ x1 4 _ [] _
  refine go_aload_n td_X9_tryReliefs 2 rfl (q := 5) rfl 0 rfl ?_
  refine go_get td_X9_tryReliefs 3 rfl (q := 8) rfl fl_X9_32 (Ac_132 E x1) rfl ?_
  refine go_aload_n td_X9_tryReliefs 4 rfl (q := 9) rfl 0 rfl ?_
  refine go_get td_X9_tryReliefs 5 rfl (q := 12) rfl fl_X9_32 (Ac_132 E x1) rfl ?_
  refine go_get td_X9_tryReliefs 6 rfl (q := 15) rfl fl_X9_101 (Ac_3 E x1) rfl ?_
  refine go_iload_n td_X9_tryReliefs 7 rfl (q := 16) rfl 1 rfl ?_
  refine go_ald td_X9_tryReliefs 8 rfl (q := 17) rfl (Ac_9 E x1) (t0 := 0) rfl (fun x2 => ?_)
  refine go_callV td_X9_tryReliefs 9 rfl (q := 20) rfl (XkA E) lk_X9_79 (ok_fA_Plan_craftIn E x2 x1) ⟨rfl, rfl, Nat.le_of_ble_eq_true rfl, Nat.le_of_ble_eq_true rfl⟩ rfl rfl (Nat.le_of_ble_eq_true rfl) (Ac_3 E x1) rfl (fun x3 => ?_)
  show Go (wCA E) _ _ x1 20 _ [.int x3] _
  refine go_aload_n td_X9_tryReliefs 10 rfl (q := 21) rfl 0 rfl ?_
  refine go_get td_X9_tryReliefs 11 rfl (q := 24) rfl fl_X9_40 (Ac_132 E x1) rfl ?_
  refine go_get td_X9_tryReliefs 12 rfl (q := 27) rfl fl_X9_50 (Ac_27 E x1) rfl ?_
  refine go_iand td_X9_tryReliefs 13 rfl (q := 28) rfl ?_
  refine go_bvi (fun x4 => ?_)
  refine go_istore_n [(2, .int x4), (0, .ref (E.1 132)), (1, .int a1)] td_X9_tryReliefs 14 rfl (q := 29) rfl (Nat.le_of_ble_eq_true rfl) rfl ?_
  refine go_aload_n td_X9_tryReliefs 15 rfl (q := 30) rfl 1 rfl ?_
  refine go_get td_X9_tryReliefs 16 rfl (q := 33) rfl fl_X9_36 (Ac_132 E x1) rfl ?_
  refine go_iconst td_X9_tryReliefs 17 rfl (q := 34) rfl kc_0 ?_
  refine go_callV td_X9_tryReliefs 18 rfl (q := 37) rfl (XkA E) lk_X9_53 (ok_fA_Sky_hold E 0 x1) ⟨rfl, rfl, Nat.le_of_ble_eq_true rfl, Nat.le_of_ble_eq_true rfl⟩ rfl rfl (Nat.le_of_ble_eq_true rfl) (Ac_118 E x1) rfl (fun x5 => ?_)
  show Go (wCA E) _ _ x5 37 _ [] _
  refine go_iconst td_X9_tryReliefs 19 rfl (q := 38) rfl kc_0 ?_
  refine go_istore_n [(3, .int 0), (2, .int x4), (0, .ref (E.1 132)), (1, .int a1)] td_X9_tryReliefs 20 rfl (q := 39) rfl (Nat.le_of_ble_eq_true rfl) rfl ?_
  refine go_pick [2, 3, 1, 0] (lv' := [(0, .ref (E.1 132)), (1, .int a1), (2, .int x4), (3, .int 0)]) rfl ?_
  refine (show ∀ (u6_0 : Int32) (u6_1 : G), Go (wCA E) _ _ u6_1 39 [(0, .ref (E.1 132)), (1, .int a1), (2, .int x4), (3, .int u6_0)] [] (Lp (α := Int32 × G) _ FU (u6_0, u6_1)) from ?_) 0 x5
  intro u6_0 u6_1
  refine go_Lp (α := Int32 × G) (fun s6 => s6.2) (fun s6 => [(0, .ref (E.1 132)), (1, .int a1), (2, .int x4), (3, .int s6.1)]) ?_ FU (u6_0, u6_1)
  intro rec6 hrec6 s6
  have krec6 : ∀ (u6_0 : Int32) (u6_1 : G), Go (wCA E) _ _ u6_1 39 [(0, .ref (E.1 132)), (1, .int a1), (2, .int x4), (3, .int u6_0)] [] (rec6 (u6_0, u6_1)) := fun u6_0 u6_1 => hrec6 (u6_0, u6_1)
  refine go_iload_n td_X9_tryReliefs 21 rfl (q := 40) rfl 3 rfl ?_
  refine go_aload_n td_X9_tryReliefs 22 rfl (q := 41) rfl 0 rfl ?_
  refine go_get td_X9_tryReliefs 23 rfl (q := 44) rfl fl_X9_32 (Ac_132 E s6.2) rfl ?_
  refine go_get td_X9_tryReliefs 24 rfl (q := 47) rfl fl_X9_104 (Ac_3 E s6.2) rfl ?_
  refine go_icmp_ge 143 td_X9_tryReliefs 25 rfl rfl (q := 50) rfl (fun _ => ?_) (fun _ => ?_)
  · exact go_vret td_X9_tryReliefs 75 rfl rfl rfl
  · refine go_iload_n td_X9_tryReliefs 26 rfl (q := 51) rfl 2 rfl ?_
    refine go_iload_n td_X9_tryReliefs 27 rfl (q := 52) rfl 3 rfl ?_
    refine go_ishr td_X9_tryReliefs 28 rfl (q := 53) rfl ?_
    refine go_iconst td_X9_tryReliefs 29 rfl (q := 54) rfl kc_1 ?_
    refine go_iand td_X9_tryReliefs 30 rfl (q := 55) rfl ?_
    refine go_ljX (α := G) (fun b7 => [(0, .ref (E.1 132)), (1, .int a1), (2, .int x4), (3, .int s6.1)]) (fun b7 => []) (fun b7 => b7) 137 ?_ ?_
    · intro b7
      refine go_iinc [(3, .int (s6.1 + 1)), (0, .ref (E.1 132)), (1, .int a1), (2, .int x4)] td_X9_tryReliefs 73 rfl (q := 140) rfl 3 rfl kc_1 (Nat.le_of_ble_eq_true rfl) rfl ?_
      refine go_goto td_X9_tryReliefs 74 rfl (q := 39) rfl ?_
      refine go_pick [1, 2, 3, 0] (lv' := [(0, .ref (E.1 132)), (1, .int a1), (2, .int x4), (3, .int (s6.1 + 1))]) rfl ?_
      exact krec6 (s6.1 + 1) b7
    intro J7 hJ7
    have kJ7 : ∀ (u7_0 : G), Go (wCA E) _ _ u7_0 137 [(0, .ref (E.1 132)), (1, .int a1), (2, .int x4), (3, .int s6.1)] [] (J7 u7_0) := fun u7_0 => hJ7 u7_0
    refine go_if_eq 137 td_X9_tryReliefs 31 rfl rfl (q := 58) rfl (fun _ => ?_) (fun _ => ?_)
    · refine go_pick [0, 1, 2, 3] (lv' := [(0, .ref (E.1 132)), (1, .int a1), (2, .int x4), (3, .int s6.1)]) rfl ?_
      exact kJ7 s6.2
    · refine go_aload_n td_X9_tryReliefs 32 rfl (q := 59) rfl 0 rfl ?_
      refine go_get td_X9_tryReliefs 33 rfl (q := 62) rfl fl_X9_28 (Ac_132 E s6.2) rfl ?_
      refine go_get td_X9_tryReliefs 34 rfl (q := 65) rfl fl_X9_65 (Ac_133 E s6.2) rfl ?_
      refine go_iload_n td_X9_tryReliefs 35 rfl (q := 66) rfl 3 rfl ?_
      refine go_aload_n td_X9_tryReliefs 36 rfl (q := 67) rfl 0 rfl ?_
      refine go_get td_X9_tryReliefs 37 rfl (q := 70) rfl fl_X9_40 (Ac_132 E s6.2) rfl ?_
      refine go_get td_X9_tryReliefs 38 rfl (q := 73) rfl fl_X9_65 (Ac_27 E s6.2) rfl ?_
      refine go_iload_n td_X9_tryReliefs 39 rfl (q := 74) rfl 1 rfl ?_
      refine go_ald td_X9_tryReliefs 40 rfl (q := 75) rfl (Ac_29 E s6.2) (t0 := 0) rfl (fun x8 => ?_)
      refine go_ast td_X9_tryReliefs 41 rfl (q := 76) rfl (Ac_135 E s6.2) (t0 := 0) rfl (Aas_135 E s6.2 _) ?_
      refine go_bvg (fun g9 => ?_)
      refine go_aload_n td_X9_tryReliefs 42 rfl (q := 77) rfl 0 rfl ?_
      refine go_get td_X9_tryReliefs 43 rfl (q := 80) rfl fl_X9_36 (Ac_132 E g9) rfl ?_
      refine go_aload_n td_X9_tryReliefs 44 rfl (q := 81) rfl 0 rfl ?_
      refine go_get td_X9_tryReliefs 45 rfl (q := 84) rfl fl_X9_28 (Ac_132 E g9) rfl ?_
      refine go_iload_n td_X9_tryReliefs 46 rfl (q := 85) rfl 3 rfl ?_
      refine go_callV td_X9_tryReliefs 47 rfl (q := 88) rfl (XkA E) lk_X9_69 (ok_fA_Sky_draw_2 E s6.1 g9) ⟨rfl, rfl, Nat.le_of_ble_eq_true rfl, Nat.le_of_ble_eq_true rfl⟩ rfl rfl (Nat.le_of_ble_eq_true rfl) (Ac_118 E g9) rfl (fun x10 => ?_)
      show Go (wCA E) _ _ x10 88 _ [] _
      refine go_aload_n td_X9_tryReliefs 48 rfl (q := 89) rfl 0 rfl ?_
      refine go_get td_X9_tryReliefs 49 rfl (q := 92) rfl fl_X9_36 (Ac_132 E x10) rfl ?_
      refine go_aload_n td_X9_tryReliefs 50 rfl (q := 93) rfl 0 rfl ?_
      refine go_get td_X9_tryReliefs 51 rfl (q := 96) rfl fl_X9_40 (Ac_132 E x10) rfl ?_
      refine go_get td_X9_tryReliefs 52 rfl (q := 99) rfl fl_X9_50 (Ac_27 E x10) rfl ?_
      refine go_callV td_X9_tryReliefs 53 rfl (q := 102) rfl (XkA E) lk_X9_73 (ok_fA_Sky_join E (x10.1 2700) x10) ⟨rfl, rfl, Nat.le_of_ble_eq_true rfl, Nat.le_of_ble_eq_true rfl⟩ rfl rfl (Nat.le_of_ble_eq_true rfl) (Ac_118 E x10) rfl (fun x11 => ?_)
      show Go (wCA E) _ _ x11 102 _ [] _
      refine go_aload_n td_X9_tryReliefs 54 rfl (q := 103) rfl 0 rfl ?_
      refine go_iload_n td_X9_tryReliefs 55 rfl (q := 104) rfl 3 rfl ?_
      refine go_callV td_X9_tryReliefs 56 rfl (q := 107) rfl (XkA E) lk_X9_98 (ok_fA_Trial_takeLesserGap E s6.1 x11) ⟨rfl, rfl, Nat.le_of_ble_eq_true rfl, Nat.le_of_ble_eq_true rfl⟩ rfl rfl (Nat.le_of_ble_eq_true rfl) (Ac_132 E x11) rfl (fun x12 => ?_)
      show Go (wCA E) _ _ x12 107 _ [] _
      refine go_aload_n td_X9_tryReliefs 57 rfl (q := 108) rfl 0 rfl ?_
      refine go_get td_X9_tryReliefs 58 rfl (q := 111) rfl fl_X9_28 (Ac_132 E x12) rfl ?_
      refine go_get td_X9_tryReliefs 59 rfl (q := 114) rfl fl_X9_65 (Ac_133 E x12) rfl ?_
      refine go_iload_n td_X9_tryReliefs 60 rfl (q := 115) rfl 3 rfl ?_
      refine go_aload_n td_X9_tryReliefs 61 rfl (q := 116) rfl 0 rfl ?_
      refine go_get td_X9_tryReliefs 62 rfl (q := 119) rfl fl_X9_40 (Ac_132 E x12) rfl ?_
      refine go_get td_X9_tryReliefs 63 rfl (q := 122) rfl fl_X9_65 (Ac_27 E x12) rfl ?_
      refine go_iload_n td_X9_tryReliefs 64 rfl (q := 123) rfl 3 rfl ?_
      refine go_ald td_X9_tryReliefs 65 rfl (q := 124) rfl (Ac_29 E x12) (t0 := 0) rfl (fun x13 => ?_)
      refine go_ast td_X9_tryReliefs 66 rfl (q := 125) rfl (Ac_135 E x12) (t0 := 0) rfl (Aas_135 E x12 _) ?_
      refine go_bvg (fun g14 => ?_)
      refine go_aload_n td_X9_tryReliefs 67 rfl (q := 126) rfl 0 rfl ?_
      refine go_get td_X9_tryReliefs 68 rfl (q := 129) rfl fl_X9_36 (Ac_132 E g14) rfl ?_
      refine go_aload_n td_X9_tryReliefs 69 rfl (q := 130) rfl 0 rfl ?_
      refine go_get td_X9_tryReliefs 70 rfl (q := 133) rfl fl_X9_28 (Ac_132 E g14) rfl ?_
      refine go_iload_n td_X9_tryReliefs 71 rfl (q := 134) rfl 3 rfl ?_
      refine go_callV td_X9_tryReliefs 72 rfl (q := 137) rfl (XkA E) lk_X9_69 (ok_fA_Sky_draw_2 E s6.1 g14) ⟨rfl, rfl, Nat.le_of_ble_eq_true rfl, Nat.le_of_ble_eq_true rfl⟩ rfl rfl (Nat.le_of_ble_eq_true rfl) (Ac_118 E g14) rfl (fun x15 => ?_)
      show Go (wCA E) _ _ x15 137 _ [] _
      refine go_pick [0, 1, 2, 3] (lv' := [(0, .ref (E.1 132)), (1, .int a1), (2, .int x4), (3, .int s6.1)]) rfl ?_
      exact kJ7 x15
def fA_D_relief (a1 : Int32) (a2 : Int32) (g : G) : Option (Int32 × G) := Option.bind (fA_Plan_hasCraft a1 g) fun x1 => (if x1 = 0 then some ((-1), g) else Option.bind (fA_Fleet_isUp a1 g) fun x2 => (if x2 = 0 then (if a2 < 0 then some ((-1), g) else (if a2 ≤ 1 then Option.bind (fA_D_look g) fun x3 => Option.bind (fA_Trial_tryReliefs a1 x3) fun x4 => bv (sS x4 18 0) fun g5 => (if a2 = 0 then some (g5.1 13200, g5) else some (g5.1 13202, g5)) else some ((-1), g))) else some ((-1), g)))
set_option maxRecDepth 20000 in
set_option maxHeartbeats 4000000 in
theorem ok_fA_D_relief (E : Ev) (a1 : Int32) (a2 : Int32) (g : G)  : Ct (wCA E) yX11_relief mi_X11_relief [.ref (E.1 0), .int a1, .int a2] (fun r => (some (.int r.1), r.2)) g (fA_D_relief a1 a2 g) := by
  refine go_enter rfl rfl (Nat.le_of_ble_eq_true rfl) (lv := [(0, .ref (E.1 0)), (1, .int a1), (2, .int a2)]) rfl ?_
  unfold fA_D_relief
  refine go_aload_n td_X11_relief 0 rfl (q := 1) rfl 0 rfl ?_
  refine go_get td_X11_relief 1 rfl (q := 4) rfl fl_X11_19 (Ac_0 E g) rfl ?_
  refine go_iload_n td_X11_relief 2 rfl (q := 5) rfl 1 rfl ?_
  refine go_callV td_X11_relief 3 rfl (q := 8) rfl (XkA E) lk_X11_211 (ok_fA_Plan_hasCraft E a1 g) ⟨rfl, rfl, Nat.le_of_ble_eq_true rfl, Nat.le_of_ble_eq_true rfl⟩ rfl rfl (Nat.le_of_ble_eq_true rfl) (Ac_3 E g) rfl (fun x1 => ?_)
  show Go (wCA E) _ _ g 8 _ [.int x1] _
  refine go_if_eq 31 td_X11_relief 4 rfl rfl (q := 11) rfl (fun _ => ?_) (fun _ => ?_)
  · refine go_iconst td_X11_relief 15 rfl (q := 32) rfl kc_m1 ?_
    exact go_iret td_X11_relief 16 rfl rfl rfl
  · refine go_aload_n td_X11_relief 5 rfl (q := 12) rfl 0 rfl ?_
    refine go_get td_X11_relief 6 rfl (q := 15) rfl fl_X11_29 (Ac_0 E g) rfl ?_
    refine go_iload_n td_X11_relief 7 rfl (q := 16) rfl 1 rfl ?_
    refine go_callV td_X11_relief 8 rfl (q := 19) rfl (XkA E) lk_X11_244 (ok_fA_Fleet_isUp E a1 g) ⟨rfl, rfl, Nat.le_of_ble_eq_true rfl, Nat.le_of_ble_eq_true rfl⟩ rfl rfl (Nat.le_of_ble_eq_true rfl) (Ac_27 E g) rfl (fun x2 => ?_)
    show Go (wCA E) _ _ g 19 _ [.int x2] _
    refine go_if_ne 31 td_X11_relief 9 rfl rfl (q := 22) rfl (fun _ => ?_) (fun _ => ?_)
    · refine go_iconst td_X11_relief 15 rfl (q := 32) rfl kc_m1 ?_
      exact go_iret td_X11_relief 16 rfl rfl rfl
    · refine go_iload_n td_X11_relief 10 rfl (q := 23) rfl 2 rfl ?_
      refine go_if_lt 31 td_X11_relief 11 rfl rfl (q := 26) rfl (fun _ => ?_) (fun _ => ?_)
      · refine go_iconst td_X11_relief 15 rfl (q := 32) rfl kc_m1 ?_
        exact go_iret td_X11_relief 16 rfl rfl rfl
      · refine go_iload_n td_X11_relief 12 rfl (q := 27) rfl 2 rfl ?_
        refine go_iconst td_X11_relief 13 rfl (q := 28) rfl kc_1 ?_
        refine go_icmp_le 33 td_X11_relief 14 rfl rfl (q := 31) rfl (fun _ => ?_) (fun _ => ?_)
        · refine go_aload_n td_X11_relief 17 rfl (q := 34) rfl 0 rfl ?_
          refine go_callV td_X11_relief 18 rfl (q := 37) rfl (XkA E) lk_X11_247 (ok_fA_D_look E g) ⟨rfl, rfl, Nat.le_of_ble_eq_true rfl, Nat.le_of_ble_eq_true rfl⟩ rfl rfl (Nat.le_of_ble_eq_true rfl) (Ac_0 E g) rfl (fun x3 => ?_)
          show Go (wCA E) _ _ x3 37 _ [] _
          refine go_aload_n td_X11_relief 19 rfl (q := 38) rfl 0 rfl ?_
          refine go_get td_X11_relief 20 rfl (q := 41) rfl fl_X11_75 (Ac_0 E x3) rfl ?_
          refine go_iload_n td_X11_relief 21 rfl (q := 42) rfl 1 rfl ?_
          refine go_callV td_X11_relief 22 rfl (q := 45) rfl (XkA E) lk_X11_378 (ok_fA_Trial_tryReliefs E a1 x3) ⟨rfl, rfl, Nat.le_of_ble_eq_true rfl, Nat.le_of_ble_eq_true rfl⟩ rfl rfl (Nat.le_of_ble_eq_true rfl) (Ac_132 E x3) rfl (fun x4 => ?_)
          show Go (wCA E) _ _ x4 45 _ [] _
          refine go_aload_n td_X11_relief 23 rfl (q := 46) rfl 0 rfl ?_
          refine go_iconst td_X11_relief 24 rfl (q := 47) rfl kc_0 ?_
          refine go_put td_X11_relief 25 rfl (q := 50) rfl flp_X11_114 (Ac_0 E x4) rfl rfl (Nat.le_of_ble_eq_true rfl) (Aps_18 E x4 0) ?_
          refine go_bvg (fun g5 => ?_)
          refine go_iload_n td_X11_relief 26 rfl (q := 51) rfl 2 rfl ?_
          refine go_if_ne 64 td_X11_relief 27 rfl rfl (q := 54) rfl (fun _ => ?_) (fun _ => ?_)
          · refine go_aload_n td_X11_relief 32 rfl (q := 65) rfl 0 rfl ?_
            refine go_get td_X11_relief 33 rfl (q := 68) rfl fl_X11_75 (Ac_0 E g5) rfl ?_
            refine go_get td_X11_relief 34 rfl (q := 71) rfl fl_X11_372 (Ac_132 E g5) rfl ?_
            exact go_iret td_X11_relief 35 rfl rfl rfl
          · refine go_aload_n td_X11_relief 28 rfl (q := 55) rfl 0 rfl ?_
            refine go_get td_X11_relief 29 rfl (q := 58) rfl fl_X11_75 (Ac_0 E g5) rfl ?_
            refine go_get td_X11_relief 30 rfl (q := 61) rfl fl_X11_362 (Ac_132 E g5) rfl ?_
            refine go_goto td_X11_relief 31 rfl (q := 71) rfl ?_
            exact go_iret td_X11_relief 35 rfl rfl rfl
        · refine go_iconst td_X11_relief 15 rfl (q := 32) rfl kc_m1 ?_
          exact go_iret td_X11_relief 16 rfl rfl rfl
def fA_Trial_tryNodes (a1 : Int32) (g : G) : Option (G) := Option.bind (fA_Trial_start g) fun x1 => Option.bind (fA_Plan_craftIn a1 x1) fun x2 => bv (x2 &&& (x1.1 2700)) fun x3 => Option.bind (fA_Sky_hold ((x1.1 2700) &&& (x3 ^^^ (-1))) x1) fun x4 => Lp (α := Int32 × G) (fun rec5 s5 => (if (s5.2.1 300) ≤ s5.1 then some s5.2 else ck 4 a1 (bv (sA s5.2 134 (a1 : Int32).toNatClampNeg s5.1) fun g6 => Option.bind (fA_Sky_drawAll_2 g6) fun x7 => Option.bind (fA_Sky_join x3 x7) fun x8 => Option.bind (fA_Trial_takeHigherScore s5.1 x8) fun x9 => rec5 (s5.1 + 1, x9)))) FU (0, x4)
set_option maxRecDepth 20000 in
set_option maxHeartbeats 4000000 in
theorem ok_fA_Trial_tryNodes (E : Ev) (a1 : Int32) (g : G)  : Ct (wCA E) yX9_tryNodes mi_X9_tryNodes [.ref (E.1 132), .int a1] (fun r => (none, r)) g (fA_Trial_tryNodes a1 g) := by
  refine go_enter rfl rfl (Nat.le_of_ble_eq_true rfl) (lv := [(0, .ref (E.1 132)), (1, .int a1)]) rfl ?_
  unfold fA_Trial_tryNodes
  refine go_aload_n td_X9_tryNodes 0 rfl (q := 1) rfl 0 rfl ?_
  refine go_callV td_X9_tryNodes 1 rfl (q := 4) rfl (XkA E) lk_X9_47 (ok_fA_Trial_start E g) ⟨rfl, rfl, Nat.le_of_ble_eq_true rfl, Nat.le_of_ble_eq_true rfl⟩ rfl rfl (Nat.le_of_ble_eq_true rfl) (Ac_132 E g) rfl (fun x1 => ?_)
  show Go (wCA E) _ _ x1 4 _ [] _
  refine go_aload_n td_X9_tryNodes 2 rfl (q := 5) rfl 0 rfl ?_
  refine go_get td_X9_tryNodes 3 rfl (q := 8) rfl fl_X9_32 (Ac_132 E x1) rfl ?_
  refine go_iload_n td_X9_tryNodes 4 rfl (q := 9) rfl 1 rfl ?_
  refine go_callV td_X9_tryNodes 5 rfl (q := 12) rfl (XkA E) lk_X9_79 (ok_fA_Plan_craftIn E a1 x1) ⟨rfl, rfl, Nat.le_of_ble_eq_true rfl, Nat.le_of_ble_eq_true rfl⟩ rfl rfl (Nat.le_of_ble_eq_true rfl) (Ac_3 E x1) rfl (fun x2 => ?_)
  show Go (wCA E) _ _ x1 12 _ [.int x2] _
  refine go_aload_n td_X9_tryNodes 6 rfl (q := 13) rfl 0 rfl ?_
  refine go_get td_X9_tryNodes 7 rfl (q := 16) rfl fl_X9_40 (Ac_132 E x1) rfl ?_
  refine go_get td_X9_tryNodes 8 rfl (q := 19) rfl fl_X9_50 (Ac_27 E x1) rfl ?_
  refine go_iand td_X9_tryNodes 9 rfl (q := 20) rfl ?_
  refine go_bvi (fun x3 => ?_)
  refine go_istore_n [(2, .int x3), (0, .ref (E.1 132)), (1, .int a1)] td_X9_tryNodes 10 rfl (q := 21) rfl (Nat.le_of_ble_eq_true rfl) rfl ?_
  refine go_aload_n td_X9_tryNodes 11 rfl (q := 22) rfl 1 rfl ?_
  refine go_get td_X9_tryNodes 12 rfl (q := 25) rfl fl_X9_36 (Ac_132 E x1) rfl ?_
  refine go_aload_n td_X9_tryNodes 13 rfl (q := 26) rfl 1 rfl ?_
  refine go_get td_X9_tryNodes 14 rfl (q := 29) rfl fl_X9_40 (Ac_132 E x1) rfl ?_
  refine go_get td_X9_tryNodes 15 rfl (q := 32) rfl fl_X9_50 (Ac_27 E x1) rfl ?_
  refine go_iload_n td_X9_tryNodes 16 rfl (q := 33) rfl 0 rfl ?_
  refine go_iconst td_X9_tryNodes 17 rfl (q := 34) rfl kc_m1 ?_
  refine go_ixor td_X9_tryNodes 18 rfl (q := 35) rfl ?_
  refine go_iand td_X9_tryNodes 19 rfl (q := 36) rfl ?_
  refine go_callV td_X9_tryNodes 20 rfl (q := 39) rfl (XkA E) lk_X9_53 (ok_fA_Sky_hold E ((x1.1 2700) &&& (x3 ^^^ (-1))) x1) ⟨rfl, rfl, Nat.le_of_ble_eq_true rfl, Nat.le_of_ble_eq_true rfl⟩ rfl rfl (Nat.le_of_ble_eq_true rfl) (Ac_118 E x1) rfl (fun x4 => ?_)
  show Go (wCA E) _ _ x4 39 _ [] _
  refine go_iconst td_X9_tryNodes 21 rfl (q := 40) rfl kc_0 ?_
  refine go_istore_n [(3, .int 0), (2, .int x3), (0, .ref (E.1 132)), (1, .int a1)] td_X9_tryNodes 22 rfl (q := 41) rfl (Nat.le_of_ble_eq_true rfl) rfl ?_
  refine go_pick [2, 3, 1, 0] (lv' := [(0, .ref (E.1 132)), (1, .int a1), (2, .int x3), (3, .int 0)]) rfl ?_
  refine (show ∀ (u5_0 : Int32) (u5_1 : G), Go (wCA E) _ _ u5_1 41 [(0, .ref (E.1 132)), (1, .int a1), (2, .int x3), (3, .int u5_0)] [] (Lp (α := Int32 × G) _ FU (u5_0, u5_1)) from ?_) 0 x4
  intro u5_0 u5_1
  refine go_Lp (α := Int32 × G) (fun s5 => s5.2) (fun s5 => [(0, .ref (E.1 132)), (1, .int a1), (2, .int x3), (3, .int s5.1)]) ?_ FU (u5_0, u5_1)
  intro rec5 hrec5 s5
  have krec5 : ∀ (u5_0 : Int32) (u5_1 : G), Go (wCA E) _ _ u5_1 41 [(0, .ref (E.1 132)), (1, .int a1), (2, .int x3), (3, .int u5_0)] [] (rec5 (u5_0, u5_1)) := fun u5_0 u5_1 => hrec5 (u5_0, u5_1)
  refine go_iload_n td_X9_tryNodes 23 rfl (q := 42) rfl 3 rfl ?_
  refine go_aload_n td_X9_tryNodes 24 rfl (q := 43) rfl 0 rfl ?_
  refine go_get td_X9_tryNodes 25 rfl (q := 46) rfl fl_X9_32 (Ac_132 E s5.2) rfl ?_
  refine go_get td_X9_tryNodes 26 rfl (q := 49) rfl fl_X9_82 (Ac_3 E s5.2) rfl ?_
  refine go_icmp_ge 92 td_X9_tryNodes 27 rfl rfl (q := 52) rfl (fun _ => ?_) (fun _ => ?_)
  · exact go_vret td_X9_tryNodes 48 rfl rfl rfl
  · refine go_aload_n td_X9_tryNodes 28 rfl (q := 53) rfl 0 rfl ?_
    refine go_get td_X9_tryNodes 29 rfl (q := 56) rfl fl_X9_28 (Ac_132 E s5.2) rfl ?_
    refine go_get td_X9_tryNodes 30 rfl (q := 59) rfl fl_X9_85 (Ac_133 E s5.2) rfl ?_
    refine go_iload_n td_X9_tryNodes 31 rfl (q := 60) rfl 1 rfl ?_
    refine go_iload_n td_X9_tryNodes 32 rfl (q := 61) rfl 3 rfl ?_
    refine go_ast td_X9_tryNodes 33 rfl (q := 62) rfl (Ac_134 E s5.2) (t0 := 0) rfl (Aas_134 E s5.2 _) ?_
    refine go_bvg (fun g6 => ?_)
    refine go_aload_n td_X9_tryNodes 34 rfl (q := 63) rfl 0 rfl ?_
    refine go_get td_X9_tryNodes 35 rfl (q := 66) rfl fl_X9_36 (Ac_132 E g6) rfl ?_
    refine go_aload_n td_X9_tryNodes 36 rfl (q := 67) rfl 0 rfl ?_
    refine go_get td_X9_tryNodes 37 rfl (q := 70) rfl fl_X9_28 (Ac_132 E g6) rfl ?_
    refine go_callV td_X9_tryNodes 38 rfl (q := 73) rfl (XkA E) lk_X9_88 (ok_fA_Sky_drawAll_2 E g6) ⟨rfl, rfl, Nat.le_of_ble_eq_true rfl, Nat.le_of_ble_eq_true rfl⟩ rfl rfl (Nat.le_of_ble_eq_true rfl) (Ac_118 E g6) rfl (fun x7 => ?_)
    show Go (wCA E) _ _ x7 73 _ [] _
    refine go_aload_n td_X9_tryNodes 39 rfl (q := 74) rfl 0 rfl ?_
    refine go_get td_X9_tryNodes 40 rfl (q := 77) rfl fl_X9_36 (Ac_132 E x7) rfl ?_
    refine go_iload_n td_X9_tryNodes 41 rfl (q := 78) rfl 2 rfl ?_
    refine go_callV td_X9_tryNodes 42 rfl (q := 81) rfl (XkA E) lk_X9_73 (ok_fA_Sky_join E x3 x7) ⟨rfl, rfl, Nat.le_of_ble_eq_true rfl, Nat.le_of_ble_eq_true rfl⟩ rfl rfl (Nat.le_of_ble_eq_true rfl) (Ac_118 E x7) rfl (fun x8 => ?_)
    show Go (wCA E) _ _ x8 81 _ [] _
    refine go_aload_n td_X9_tryNodes 43 rfl (q := 82) rfl 0 rfl ?_
    refine go_iload_n td_X9_tryNodes 44 rfl (q := 83) rfl 3 rfl ?_
    refine go_callV td_X9_tryNodes 45 rfl (q := 86) rfl (XkA E) lk_X9_76 (ok_fA_Trial_takeHigherScore E s5.1 x8) ⟨rfl, rfl, Nat.le_of_ble_eq_true rfl, Nat.le_of_ble_eq_true rfl⟩ rfl rfl (Nat.le_of_ble_eq_true rfl) (Ac_132 E x8) rfl (fun x9 => ?_)
    show Go (wCA E) _ _ x9 86 _ [] _
    refine go_iinc [(3, .int (s5.1 + 1)), (0, .ref (E.1 132)), (1, .int a1), (2, .int x3)] td_X9_tryNodes 46 rfl (q := 89) rfl 3 rfl kc_1 (Nat.le_of_ble_eq_true rfl) rfl ?_
    refine go_goto td_X9_tryNodes 47 rfl (q := 41) rfl ?_
    refine go_pick [1, 2, 3, 0] (lv' := [(0, .ref (E.1 132)), (1, .int a1), (2, .int x3), (3, .int (s5.1 + 1))]) rfl ?_
    exact krec5 (s5.1 + 1) x9
def fA_D_bestNode (a1 : Int32) (a2 : Int32) (g : G) : Option (Int32 × G) := Option.bind (fA_Plan_hasPlane a1 g) fun x1 => (if x1 = 0 then some ((-1), g) else (if a2 < 0 then some ((-1), g) else (if a2 ≤ 1 then Option.bind (fA_D_look g) fun x2 => Option.bind (fA_Trial_tryNodes a1 x2) fun x3 => bv (sS x3 18 0) fun g4 => (if a2 = 0 then some (g4.1 13200, g4) else Option.bind (fA_D_floatBits (g4.2.2.2.1 0) g4) fun x5 => some (x5, g4)) else some ((-1), g))))
set_option maxRecDepth 20000 in
set_option maxHeartbeats 4000000 in
theorem ok_fA_D_bestNode (E : Ev) (a1 : Int32) (a2 : Int32) (g : G)  : Ct (wCA E) yX11_bestNode mi_X11_bestNode [.ref (E.1 0), .int a1, .int a2] (fun r => (some (.int r.1), r.2)) g (fA_D_bestNode a1 a2 g) := by
  refine go_enter rfl rfl (Nat.le_of_ble_eq_true rfl) (lv := [(0, .ref (E.1 0)), (1, .int a1), (2, .int a2)]) rfl ?_
  unfold fA_D_bestNode
  refine go_aload_n td_X11_bestNode 0 rfl (q := 1) rfl 0 rfl ?_
  refine go_get td_X11_bestNode 1 rfl (q := 4) rfl fl_X11_19 (Ac_0 E g) rfl ?_
  refine go_iload_n td_X11_bestNode 2 rfl (q := 5) rfl 1 rfl ?_
  refine go_callV td_X11_bestNode 3 rfl (q := 8) rfl (XkA E) lk_X11_201 (ok_fA_Plan_hasPlane E a1 g) ⟨rfl, rfl, Nat.le_of_ble_eq_true rfl, Nat.le_of_ble_eq_true rfl⟩ rfl rfl (Nat.le_of_ble_eq_true rfl) (Ac_3 E g) rfl (fun x1 => ?_)
  show Go (wCA E) _ _ g 8 _ [.int x1] _
  refine go_if_eq 20 td_X11_bestNode 4 rfl rfl (q := 11) rfl (fun _ => ?_) (fun _ => ?_)
  · refine go_iconst td_X11_bestNode 10 rfl (q := 21) rfl kc_m1 ?_
    exact go_iret td_X11_bestNode 11 rfl rfl rfl
  · refine go_iload_n td_X11_bestNode 5 rfl (q := 12) rfl 2 rfl ?_
    refine go_if_lt 20 td_X11_bestNode 6 rfl rfl (q := 15) rfl (fun _ => ?_) (fun _ => ?_)
    · refine go_iconst td_X11_bestNode 10 rfl (q := 21) rfl kc_m1 ?_
      exact go_iret td_X11_bestNode 11 rfl rfl rfl
    · refine go_iload_n td_X11_bestNode 7 rfl (q := 16) rfl 2 rfl ?_
      refine go_iconst td_X11_bestNode 8 rfl (q := 17) rfl kc_1 ?_
      refine go_icmp_le 22 td_X11_bestNode 9 rfl rfl (q := 20) rfl (fun _ => ?_) (fun _ => ?_)
      · refine go_aload_n td_X11_bestNode 12 rfl (q := 23) rfl 0 rfl ?_
        refine go_callV td_X11_bestNode 13 rfl (q := 26) rfl (XkA E) lk_X11_247 (ok_fA_D_look E g) ⟨rfl, rfl, Nat.le_of_ble_eq_true rfl, Nat.le_of_ble_eq_true rfl⟩ rfl rfl (Nat.le_of_ble_eq_true rfl) (Ac_0 E g) rfl (fun x2 => ?_)
        show Go (wCA E) _ _ x2 26 _ [] _
        refine go_aload_n td_X11_bestNode 14 rfl (q := 27) rfl 0 rfl ?_
        refine go_get td_X11_bestNode 15 rfl (q := 30) rfl fl_X11_75 (Ac_0 E x2) rfl ?_
        refine go_iload_n td_X11_bestNode 16 rfl (q := 31) rfl 1 rfl ?_
        refine go_callV td_X11_bestNode 17 rfl (q := 34) rfl (XkA E) lk_X11_381 (ok_fA_Trial_tryNodes E a1 x2) ⟨rfl, rfl, Nat.le_of_ble_eq_true rfl, Nat.le_of_ble_eq_true rfl⟩ rfl rfl (Nat.le_of_ble_eq_true rfl) (Ac_132 E x2) rfl (fun x3 => ?_)
        show Go (wCA E) _ _ x3 34 _ [] _
        refine go_aload_n td_X11_bestNode 18 rfl (q := 35) rfl 0 rfl ?_
        refine go_iconst td_X11_bestNode 19 rfl (q := 36) rfl kc_0 ?_
        refine go_put td_X11_bestNode 20 rfl (q := 39) rfl flp_X11_114 (Ac_0 E x3) rfl rfl (Nat.le_of_ble_eq_true rfl) (Aps_18 E x3 0) ?_
        refine go_bvg (fun g4 => ?_)
        refine go_iload_n td_X11_bestNode 21 rfl (q := 40) rfl 2 rfl ?_
        refine go_if_ne 53 td_X11_bestNode 22 rfl rfl (q := 43) rfl (fun _ => ?_) (fun _ => ?_)
        · refine go_aload_n td_X11_bestNode 27 rfl (q := 54) rfl 0 rfl ?_
          refine go_get td_X11_bestNode 28 rfl (q := 57) rfl fl_X11_75 (Ac_0 E g4) rfl ?_
          refine go_get td_X11_bestNode 29 rfl (q := 60) rfl fl_X11_365 (Ac_132 E g4) rfl ?_
          refine go_callS td_X11_bestNode 30 rfl (q := 63) rfl (XkA E) lk_X11_330 (ok_fA_D_floatBits E (g4.2.2.2.1 0) g4) ⟨rfl, rfl, Nat.le_of_ble_eq_true rfl, Nat.le_of_ble_eq_true rfl⟩ rfl rfl (Nat.le_of_ble_eq_true rfl) (fun x5 => ?_)
          show Go (wCA E) _ _ g4 63 _ [.int x5] _
          exact go_iret td_X11_bestNode 31 rfl rfl rfl
        · refine go_aload_n td_X11_bestNode 23 rfl (q := 44) rfl 0 rfl ?_
          refine go_get td_X11_bestNode 24 rfl (q := 47) rfl fl_X11_75 (Ac_0 E g4) rfl ?_
          refine go_get td_X11_bestNode 25 rfl (q := 50) rfl fl_X11_362 (Ac_132 E g4) rfl ?_
          refine go_goto td_X11_bestNode 26 rfl (q := 63) rfl ?_
          exact go_iret td_X11_bestNode 31 rfl rfl rfl
      · refine go_iconst td_X11_bestNode 10 rfl (q := 21) rfl kc_m1 ?_
        exact go_iret td_X11_bestNode 11 rfl rfl rfl
def fA_Sky_gapsFit (a1 : Int32) (a2 : Int32) (g : G) : Option (Int32 × G) := Lp (α := Int32 × G) (fun rec1 s1 => (if (s1.2.1 301) ≤ s1.1 then some (1, s1.2) else Option.bind (fA_Sky_joinRow a1 s1.1 s1.2) fun x2 => Option.bind (fA_Sky_worstOfRow s1.1 x2) fun x3 => (if x3.1 ≤ a2 then rec1 (s1.1 + 1, x3.2) else some (0, x3.2)))) FU (0, g)
set_option maxRecDepth 20000 in
set_option maxHeartbeats 4000000 in
theorem ok_fA_Sky_gapsFit (E : Ev) (a1 : Int32) (a2 : Int32) (g : G)  : Ct (wCA E) yX6_gapsFit mi_X6_gapsFit [.ref (E.1 118), .int a1, .int a2] (fun r => (some (.int r.1), r.2)) g (fA_Sky_gapsFit a1 a2 g) := by
  refine go_enter rfl rfl (Nat.le_of_ble_eq_true rfl) (lv := [(0, .ref (E.1 118)), (1, .int a1), (2, .int a2)]) rfl ?_
  unfold fA_Sky_gapsFit
  refine go_iconst td_X6_gapsFit 0 rfl (q := 1) rfl kc_0 ?_
  refine go_istore_n [(3, .int 0), (0, .ref (E.1 118)), (1, .int a1), (2, .int a2)] td_X6_gapsFit 1 rfl (q := 2) rfl (Nat.le_of_ble_eq_true rfl) rfl ?_
  refine go_pick [1, 2, 3, 0] (lv' := [(0, .ref (E.1 118)), (1, .int a1), (2, .int a2), (3, .int 0)]) rfl ?_
  refine (show ∀ (u1_0 : Int32) (u1_1 : G), Go (wCA E) _ _ u1_1 2 [(0, .ref (E.1 118)), (1, .int a1), (2, .int a2), (3, .int u1_0)] [] (Lp (α := Int32 × G) _ FU (u1_0, u1_1)) from ?_) 0 g
  intro u1_0 u1_1
  refine go_Lp (α := Int32 × G) (fun s1 => s1.2) (fun s1 => [(0, .ref (E.1 118)), (1, .int a1), (2, .int a2), (3, .int s1.1)]) ?_ FU (u1_0, u1_1)
  intro rec1 hrec1 s1
  have krec1 : ∀ (u1_0 : Int32) (u1_1 : G), Go (wCA E) _ _ u1_1 2 [(0, .ref (E.1 118)), (1, .int a1), (2, .int a2), (3, .int u1_0)] [] (rec1 (u1_0, u1_1)) := fun u1_0 u1_1 => hrec1 (u1_0, u1_1)
  refine go_iload_n td_X6_gapsFit 2 rfl (q := 3) rfl 3 rfl ?_
  refine go_aload_n td_X6_gapsFit 3 rfl (q := 4) rfl 0 rfl ?_
  refine go_get td_X6_gapsFit 4 rfl (q := 7) rfl fl_X6_53 (Ac_118 E s1.2) rfl ?_
  refine go_get td_X6_gapsFit 5 rfl (q := 10) rfl fl_X6_62 (Ac_3 E s1.2) rfl ?_
  refine go_icmp_ge 36 td_X6_gapsFit 6 rfl rfl (q := 13) rfl (fun _ => ?_) (fun _ => ?_)
  · refine go_iconst td_X6_gapsFit 20 rfl (q := 37) rfl kc_1 ?_
    exact go_zret td_X6_gapsFit 21 rfl rfl rfl rfl
  · refine go_aload_n td_X6_gapsFit 7 rfl (q := 14) rfl 0 rfl ?_
    refine go_iload_n td_X6_gapsFit 8 rfl (q := 15) rfl 1 rfl ?_
    refine go_iload_n td_X6_gapsFit 9 rfl (q := 16) rfl 3 rfl ?_
    refine go_callV td_X6_gapsFit 10 rfl (q := 19) rfl (XkA E) lk_X6_140 (ok_fA_Sky_joinRow E a1 s1.1 s1.2) ⟨rfl, rfl, Nat.le_of_ble_eq_true rfl, Nat.le_of_ble_eq_true rfl⟩ rfl rfl (Nat.le_of_ble_eq_true rfl) (Ac_118 E s1.2) rfl (fun x2 => ?_)
    show Go (wCA E) _ _ x2 19 _ [] _
    refine go_aload_n td_X6_gapsFit 11 rfl (q := 20) rfl 0 rfl ?_
    refine go_iload_n td_X6_gapsFit 12 rfl (q := 21) rfl 3 rfl ?_
    refine go_callV td_X6_gapsFit 13 rfl (q := 24) rfl (XkA E) lk_X6_171 (ok_fA_Sky_worstOfRow E s1.1 x2) ⟨rfl, rfl, Nat.le_of_ble_eq_true rfl, Nat.le_of_ble_eq_true rfl⟩ rfl rfl (Nat.le_of_ble_eq_true rfl) (Ac_118 E x2) rfl (fun x3 => ?_)
    show Go (wCA E) _ _ x3.2 24 _ [.int x3.1] _
    refine go_iload_n td_X6_gapsFit 14 rfl (q := 25) rfl 2 rfl ?_
    refine go_icmp_le 30 td_X6_gapsFit 15 rfl rfl (q := 28) rfl (fun _ => ?_) (fun _ => ?_)
    · refine go_iinc [(3, .int (s1.1 + 1)), (0, .ref (E.1 118)), (1, .int a1), (2, .int a2)] td_X6_gapsFit 18 rfl (q := 33) rfl 3 rfl kc_1 (Nat.le_of_ble_eq_true rfl) rfl ?_
      refine go_goto td_X6_gapsFit 19 rfl (q := 2) rfl ?_
      refine go_pick [1, 2, 3, 0] (lv' := [(0, .ref (E.1 118)), (1, .int a1), (2, .int a2), (3, .int (s1.1 + 1))]) rfl ?_
      exact krec1 (s1.1 + 1) x3.2
    · refine go_iconst td_X6_gapsFit 16 rfl (q := 29) rfl kc_0 ?_
      exact go_zret td_X6_gapsFit 17 rfl rfl rfl rfl
def fA_Trial_tryFewest (a1 : Int32) (g : G) : Option (G) := Option.bind (fA_Trial_start g) fun x1 => Option.bind (fA_Sky_hold 0 x1) fun x2 => Option.bind (fA_Sky_gapsFit (x2.1 2700) a1 x2) fun x3 => (if x3.1 = 0 then some x3.2 else Lp (α := Int32 × G) (fun rec4 s4 => (if (s4.2.1 306) < s4.1 then some s4.2 else Lp (α := Int32 × G) (fun rec5 s5 => (if (s5.2.1 2700) < s5.1 then rec4 (s4.1 + 1, s5.2) else lj (α := Int32) (fun b6 => lj (α := G) (fun b7 => rec5 (s5.1 + 1, b7)) fun J7 => (if b6 = 0 then J7 s5.2 else Option.bind (fA_Sky_gapsFit s5.1 a1 s5.2) fun x8 => (if x8.1 = 0 then J7 x8.2 else bv (sS x8.2 13200 s5.1) fun g9 => some g9))) fun J6 => lj (α := Unit) (fun b10 => J6 0) fun J10 => (if (s5.1 &&& ((s5.2.1 2700) ^^^ (-1))) = 0 then Option.bind (fA_Integer_bitCount s5.1 s5.2) fun x11 => (if x11 = s4.1 then J6 1 else J10 ()) else J10 ()))) FU (0, s4.2))) FU (0, x3.2))
set_option maxRecDepth 20000 in
set_option maxHeartbeats 4000000 in
theorem ok_fA_Trial_tryFewest (E : Ev) (a1 : Int32) (g : G)  : Ct (wCA E) yX9_tryFewest mi_X9_tryFewest [.ref (E.1 132), .int a1] (fun r => (none, r)) g (fA_Trial_tryFewest a1 g) := by
  refine go_enter rfl rfl (Nat.le_of_ble_eq_true rfl) (lv := [(0, .ref (E.1 132)), (1, .int a1)]) rfl ?_
  unfold fA_Trial_tryFewest
  refine go_aload_n td_X9_tryFewest 0 rfl (q := 1) rfl 0 rfl ?_
  refine go_callV td_X9_tryFewest 1 rfl (q := 4) rfl (XkA E) lk_X9_47 (ok_fA_Trial_start E g) ⟨rfl, rfl, Nat.le_of_ble_eq_true rfl, Nat.le_of_ble_eq_true rfl⟩ rfl rfl (Nat.le_of_ble_eq_true rfl) (Ac_132 E g) rfl (fun x1 => ?_)
  show Go (wCA E) _ _ x1 4 _ [] _
  refine go_aload_n td_X9_tryFewest 2 rfl (q := 5) rfl 0 rfl ?_
  refine go_get td_X9_tryFewest 3 rfl (q := 8) rfl fl_X9_36 (Ac_132 E x1) rfl ?_
  refine go_iconst td_X9_tryFewest 4 rfl (q := 9) rfl kc_0 ?_
  refine go_callV td_X9_tryFewest 5 rfl (q := 12) rfl (XkA E) lk_X9_53 (ok_fA_Sky_hold E 0 x1) ⟨rfl, rfl, Nat.le_of_ble_eq_true rfl, Nat.le_of_ble_eq_true rfl⟩ rfl rfl (Nat.le_of_ble_eq_true rfl) (Ac_118 E x1) rfl (fun x2 => ?_)
  show Go (wCA E) _ _ x2 12 _ [] _
  refine go_aload_n td_X9_tryFewest 6 rfl (q := 13) rfl 0 rfl ?_
  refine go_get td_X9_tryFewest 7 rfl (q := 16) rfl fl_X9_36 (Ac_132 E x2) rfl ?_
  refine go_aload_n td_X9_tryFewest 8 rfl (q := 17) rfl 0 rfl ?_
  refine go_get td_X9_tryFewest 9 rfl (q := 20) rfl fl_X9_40 (Ac_132 E x2) rfl ?_
  refine go_get td_X9_tryFewest 10 rfl (q := 23) rfl fl_X9_50 (Ac_27 E x2) rfl ?_
  refine go_iload_n td_X9_tryFewest 11 rfl (q := 24) rfl 1 rfl ?_
  refine go_callV td_X9_tryFewest 12 rfl (q := 27) rfl (XkA E) lk_X9_118 (ok_fA_Sky_gapsFit E (x2.1 2700) a1 x2) ⟨rfl, rfl, Nat.le_of_ble_eq_true rfl, Nat.le_of_ble_eq_true rfl⟩ rfl rfl (Nat.le_of_ble_eq_true rfl) (Ac_118 E x2) rfl (fun x3 => ?_)
  show Go (wCA E) _ _ x3.2 27 _ [.int x3.1] _
  refine go_if_ne 31 td_X9_tryFewest 13 rfl rfl (q := 30) rfl (fun _ => ?_) (fun _ => ?_)
  · refine go_iconst td_X9_tryFewest 15 rfl (q := 32) rfl kc_0 ?_
    refine go_istore_n [(2, .int 0), (0, .ref (E.1 132)), (1, .int a1)] td_X9_tryFewest 16 rfl (q := 33) rfl (Nat.le_of_ble_eq_true rfl) rfl ?_
    refine go_pick [1, 2, 0] (lv' := [(0, .ref (E.1 132)), (1, .int a1), (2, .int 0)]) rfl ?_
    refine (show ∀ (u4_0 : Int32) (u4_1 : G), Go (wCA E) _ _ u4_1 33 [(0, .ref (E.1 132)), (1, .int a1), (2, .int u4_0)] [] (Lp (α := Int32 × G) _ FU (u4_0, u4_1)) from ?_) 0 x3.2
    intro u4_0 u4_1
    refine go_Lp (α := Int32 × G) (fun s4 => s4.2) (fun s4 => [(0, .ref (E.1 132)), (1, .int a1), (2, .int s4.1)]) ?_ FU (u4_0, u4_1)
    intro rec4 hrec4 s4
    have krec4 : ∀ (u4_0 : Int32) (u4_1 : G), Go (wCA E) _ _ u4_1 33 [(0, .ref (E.1 132)), (1, .int a1), (2, .int u4_0)] [] (rec4 (u4_0, u4_1)) := fun u4_0 u4_1 => hrec4 (u4_0, u4_1)
    refine go_iload_n td_X9_tryFewest 17 rfl (q := 34) rfl 2 rfl ?_
    refine go_aload_n td_X9_tryFewest 18 rfl (q := 35) rfl 0 rfl ?_
    refine go_get td_X9_tryFewest 19 rfl (q := 38) rfl fl_X9_32 (Ac_132 E s4.2) rfl ?_
    refine go_get td_X9_tryFewest 20 rfl (q := 41) rfl fl_X9_104 (Ac_3 E s4.2) rfl ?_
    refine go_icmp_gt 121 td_X9_tryFewest 21 rfl rfl (q := 44) rfl (fun _ => ?_) (fun _ => ?_)
    · exact go_vret td_X9_tryFewest 61 rfl rfl rfl
    · refine go_iconst td_X9_tryFewest 22 rfl (q := 45) rfl kc_0 ?_
      refine go_istore_n [(3, .int 0), (0, .ref (E.1 132)), (1, .int a1), (2, .int s4.1)] td_X9_tryFewest 23 rfl (q := 46) rfl (Nat.le_of_ble_eq_true rfl) rfl ?_
      refine go_pick [1, 2, 3, 0] (lv' := [(0, .ref (E.1 132)), (1, .int a1), (2, .int s4.1), (3, .int 0)]) rfl ?_
      refine (show ∀ (u5_0 : Int32) (u5_1 : G), Go (wCA E) _ _ u5_1 46 [(0, .ref (E.1 132)), (1, .int a1), (2, .int s4.1), (3, .int u5_0)] [] (Lp (α := Int32 × G) _ FU (u5_0, u5_1)) from ?_) 0 s4.2
      intro u5_0 u5_1
      refine go_Lp (α := Int32 × G) (fun s5 => s5.2) (fun s5 => [(0, .ref (E.1 132)), (1, .int a1), (2, .int s4.1), (3, .int s5.1)]) ?_ FU (u5_0, u5_1)
      intro rec5 hrec5 s5
      have krec5 : ∀ (u5_0 : Int32) (u5_1 : G), Go (wCA E) _ _ u5_1 46 [(0, .ref (E.1 132)), (1, .int a1), (2, .int s4.1), (3, .int u5_0)] [] (rec5 (u5_0, u5_1)) := fun u5_0 u5_1 => hrec5 (u5_0, u5_1)
      refine go_iload_n td_X9_tryFewest 24 rfl (q := 47) rfl 3 rfl ?_
      refine go_aload_n td_X9_tryFewest 25 rfl (q := 48) rfl 0 rfl ?_
      refine go_get td_X9_tryFewest 26 rfl (q := 51) rfl fl_X9_40 (Ac_132 E s5.2) rfl ?_
      refine go_get td_X9_tryFewest 27 rfl (q := 54) rfl fl_X9_50 (Ac_27 E s5.2) rfl ?_
      refine go_icmp_gt 115 td_X9_tryFewest 28 rfl rfl (q := 57) rfl (fun _ => ?_) (fun _ => ?_)
      · refine go_iinc [(2, .int (s4.1 + 1)), (0, .ref (E.1 132)), (1, .int a1), (3, .int s5.1)] td_X9_tryFewest 59 rfl (q := 118) rfl 2 rfl kc_1 (Nat.le_of_ble_eq_true rfl) rfl ?_
        refine go_goto td_X9_tryFewest 60 rfl (q := 33) rfl ?_
        refine go_pick [1, 2, 0] (lv' := [(0, .ref (E.1 132)), (1, .int a1), (2, .int (s4.1 + 1))]) rfl ?_
        exact krec4 (s4.1 + 1) s5.2
      · refine go_iload_n td_X9_tryFewest 29 rfl (q := 58) rfl 3 rfl ?_
        refine go_aload_n td_X9_tryFewest 30 rfl (q := 59) rfl 0 rfl ?_
        refine go_get td_X9_tryFewest 31 rfl (q := 62) rfl fl_X9_40 (Ac_132 E s5.2) rfl ?_
        refine go_get td_X9_tryFewest 32 rfl (q := 65) rfl fl_X9_50 (Ac_27 E s5.2) rfl ?_
        refine go_iconst td_X9_tryFewest 33 rfl (q := 66) rfl kc_m1 ?_
        refine go_ixor td_X9_tryFewest 34 rfl (q := 67) rfl ?_
        refine go_iand td_X9_tryFewest 35 rfl (q := 68) rfl ?_
        refine go_ljX (α := Int32) (fun b6 => [(0, .ref (E.1 132)), (1, .int a1), (2, .int s4.1), (3, .int s5.1)]) (fun b6 => [.int b6]) (fun b6 => s5.2) 84 ?_ ?_
        · intro b6
          refine go_istore [(4, .int b6), (0, .ref (E.1 132)), (1, .int a1), (2, .int s4.1), (3, .int s5.1)] td_X9_tryFewest 44 rfl (q := 86) rfl (Nat.le_of_ble_eq_true rfl) rfl ?_
          refine go_iload td_X9_tryFewest 45 rfl (q := 88) rfl 0 rfl ?_
          refine go_ljX (α := G) (fun b7 => [(0, .ref (E.1 132)), (1, .int a1), (2, .int s4.1), (3, .int s5.1)]) (fun b7 => []) (fun b7 => b7) 109 ?_ ?_
          · intro b7
            refine go_iinc [(3, .int (s5.1 + 1)), (0, .ref (E.1 132)), (1, .int a1), (2, .int s4.1)] td_X9_tryFewest 57 rfl (q := 112) rfl 3 rfl kc_1 (Nat.le_of_ble_eq_true rfl) rfl ?_
            refine go_goto td_X9_tryFewest 58 rfl (q := 46) rfl ?_
            refine go_pick [1, 2, 3, 0] (lv' := [(0, .ref (E.1 132)), (1, .int a1), (2, .int s4.1), (3, .int (s5.1 + 1))]) rfl ?_
            exact krec5 (s5.1 + 1) b7
          intro J7 hJ7
          have kJ7 : ∀ (u7_0 : G), Go (wCA E) _ _ u7_0 109 [(0, .ref (E.1 132)), (1, .int a1), (2, .int s4.1), (3, .int s5.1)] [] (J7 u7_0) := fun u7_0 => hJ7 u7_0
          refine go_if_eq 109 td_X9_tryFewest 46 rfl rfl (q := 91) rfl (fun _ => ?_) (fun _ => ?_)
          · refine go_pick [1, 2, 3, 4] (lv' := [(0, .ref (E.1 132)), (1, .int a1), (2, .int s4.1), (3, .int s5.1)]) rfl ?_
            exact kJ7 s5.2
          · refine go_aload_n td_X9_tryFewest 47 rfl (q := 92) rfl 1 rfl ?_
            refine go_get td_X9_tryFewest 48 rfl (q := 95) rfl fl_X9_36 (Ac_132 E s5.2) rfl ?_
            refine go_iload_n td_X9_tryFewest 49 rfl (q := 96) rfl 4 rfl ?_
            refine go_iload_n td_X9_tryFewest 50 rfl (q := 97) rfl 2 rfl ?_
            refine go_callV td_X9_tryFewest 51 rfl (q := 100) rfl (XkA E) lk_X9_118 (ok_fA_Sky_gapsFit E s5.1 a1 s5.2) ⟨rfl, rfl, Nat.le_of_ble_eq_true rfl, Nat.le_of_ble_eq_true rfl⟩ rfl rfl (Nat.le_of_ble_eq_true rfl) (Ac_118 E s5.2) rfl (fun x8 => ?_)
            show Go (wCA E) _ _ x8.2 100 _ [.int x8.1] _
            refine go_if_eq 109 td_X9_tryFewest 52 rfl rfl (q := 103) rfl (fun _ => ?_) (fun _ => ?_)
            · refine go_pick [1, 2, 3, 4] (lv' := [(0, .ref (E.1 132)), (1, .int a1), (2, .int s4.1), (3, .int s5.1)]) rfl ?_
              exact kJ7 x8.2
            · refine go_aload_n td_X9_tryFewest 53 rfl (q := 104) rfl 1 rfl ?_
              refine go_iload_n td_X9_tryFewest 54 rfl (q := 105) rfl 4 rfl ?_
              refine go_put td_X9_tryFewest 55 rfl (q := 108) rfl flp_X9_9 (Ac_132 E x8.2) rfl rfl (Nat.le_of_ble_eq_true rfl) (Aps_13200 E x8.2 s5.1) ?_
              refine go_bvg (fun g9 => ?_)
              exact go_vret td_X9_tryFewest 56 rfl rfl rfl
        intro J6 hJ6
        have kJ6 : ∀ (u6_0 : Int32), Go (wCA E) _ _ s5.2 84 [(0, .ref (E.1 132)), (1, .int a1), (2, .int s4.1), (3, .int s5.1)] [.int u6_0] (J6 u6_0) := fun u6_0 => hJ6 u6_0
        refine go_ljX (α := Unit) (fun b10 => [(0, .ref (E.1 132)), (1, .int a1), (2, .int s4.1), (3, .int s5.1)]) (fun b10 => []) (fun b10 => s5.2) 83 ?_ ?_
        · intro b10
          refine go_iconst td_X9_tryFewest 43 rfl (q := 84) rfl kc_0 ?_
          refine go_pick [0, 1, 2, 3] (lv' := [(0, .ref (E.1 132)), (1, .int a1), (2, .int s4.1), (3, .int s5.1)]) rfl ?_
          exact kJ6 0
        intro J10 hJ10
        have kJ10 : Go (wCA E) _ _ s5.2 83 [(0, .ref (E.1 132)), (1, .int a1), (2, .int s4.1), (3, .int s5.1)] [] (J10 ()) := hJ10 ()
        refine go_if_ne 83 td_X9_tryFewest 36 rfl rfl (q := 71) rfl (fun _ => ?_) (fun _ => ?_)
        · refine go_pick [0, 1, 2, 3] (lv' := [(0, .ref (E.1 132)), (1, .int a1), (2, .int s4.1), (3, .int s5.1)]) rfl ?_
          exact kJ10 
        · refine go_iload_n td_X9_tryFewest 37 rfl (q := 72) rfl 3 rfl ?_
          refine go_callS td_X9_tryFewest 38 rfl (q := 75) rfl (XkA E) lk_X9_122 (ok_fA_Integer_bitCount E s5.1 s5.2) ⟨rfl, rfl, Nat.le_of_ble_eq_true rfl, Nat.le_of_ble_eq_true rfl⟩ rfl rfl (Nat.le_of_ble_eq_true rfl) (fun x11 => ?_)
          show Go (wCA E) _ _ s5.2 75 _ [.int x11] _
          refine go_iload_n td_X9_tryFewest 39 rfl (q := 76) rfl 2 rfl ?_
          refine go_icmp_ne 83 td_X9_tryFewest 40 rfl rfl (q := 79) rfl (fun _ => ?_) (fun _ => ?_)
          · refine go_pick [0, 1, 2, 3] (lv' := [(0, .ref (E.1 132)), (1, .int a1), (2, .int s4.1), (3, .int s5.1)]) rfl ?_
            exact kJ10 
          · refine go_iconst td_X9_tryFewest 41 rfl (q := 80) rfl kc_1 ?_
            refine go_goto td_X9_tryFewest 42 rfl (q := 84) rfl ?_
            refine go_pick [0, 1, 2, 3] (lv' := [(0, .ref (E.1 132)), (1, .int a1), (2, .int s4.1), (3, .int s5.1)]) rfl ?_
            exact kJ6 1
  · exact go_vret td_X9_tryFewest 14 rfl rfl rfl
def fA_D_fewest (a1 : Int32) (a2 : Int32) (g : G) : Option (Int32 × G) := Option.bind (fA_Plan_stands g) fun x1 => (if x1 = 0 then some ((-1), g) else (if a1 < 0 then some ((-1), g) else (if a2 < 0 then some ((-1), g) else (if a2 ≤ 1 then Option.bind (fA_D_look g) fun x2 => Option.bind (fA_Trial_tryFewest a1 x2) fun x3 => bv (sS x3 18 0) fun g4 => lj (α := Unit) (fun b5 => some (g4.1 13200, g4)) fun J5 => (if a2 = 0 then J5 () else (if (g4.1 13200) = (-1) then J5 () else Option.bind (fA_Integer_bitCount (g4.1 13200) g4) fun x6 => some (x6, g4))) else some ((-1), g)))))
set_option maxRecDepth 20000 in
set_option maxHeartbeats 4000000 in
theorem ok_fA_D_fewest (E : Ev) (a1 : Int32) (a2 : Int32) (g : G)  : Ct (wCA E) yX11_fewest mi_X11_fewest [.ref (E.1 0), .int a1, .int a2] (fun r => (some (.int r.1), r.2)) g (fA_D_fewest a1 a2 g) := by
  refine go_enter rfl rfl (Nat.le_of_ble_eq_true rfl) (lv := [(0, .ref (E.1 0)), (1, .int a1), (2, .int a2)]) rfl ?_
  unfold fA_D_fewest
  refine go_aload_n td_X11_fewest 0 rfl (q := 1) rfl 0 rfl ?_
  refine go_get td_X11_fewest 1 rfl (q := 4) rfl fl_X11_19 (Ac_0 E g) rfl ?_
  refine go_callV td_X11_fewest 2 rfl (q := 7) rfl (XkA E) lk_X11_334 (ok_fA_Plan_stands E g) ⟨rfl, rfl, Nat.le_of_ble_eq_true rfl, Nat.le_of_ble_eq_true rfl⟩ rfl rfl (Nat.le_of_ble_eq_true rfl) (Ac_3 E g) rfl (fun x1 => ?_)
  show Go (wCA E) _ _ g 7 _ [.int x1] _
  refine go_if_eq 23 td_X11_fewest 3 rfl rfl (q := 10) rfl (fun _ => ?_) (fun _ => ?_)
  · refine go_iconst td_X11_fewest 11 rfl (q := 24) rfl kc_m1 ?_
    exact go_iret td_X11_fewest 12 rfl rfl rfl
  · refine go_iload_n td_X11_fewest 4 rfl (q := 11) rfl 1 rfl ?_
    refine go_if_lt 23 td_X11_fewest 5 rfl rfl (q := 14) rfl (fun _ => ?_) (fun _ => ?_)
    · refine go_iconst td_X11_fewest 11 rfl (q := 24) rfl kc_m1 ?_
      exact go_iret td_X11_fewest 12 rfl rfl rfl
    · refine go_iload_n td_X11_fewest 6 rfl (q := 15) rfl 2 rfl ?_
      refine go_if_lt 23 td_X11_fewest 7 rfl rfl (q := 18) rfl (fun _ => ?_) (fun _ => ?_)
      · refine go_iconst td_X11_fewest 11 rfl (q := 24) rfl kc_m1 ?_
        exact go_iret td_X11_fewest 12 rfl rfl rfl
      · refine go_iload_n td_X11_fewest 8 rfl (q := 19) rfl 2 rfl ?_
        refine go_iconst td_X11_fewest 9 rfl (q := 20) rfl kc_1 ?_
        refine go_icmp_le 25 td_X11_fewest 10 rfl rfl (q := 23) rfl (fun _ => ?_) (fun _ => ?_)
        · refine go_aload_n td_X11_fewest 13 rfl (q := 26) rfl 0 rfl ?_
          refine go_callV td_X11_fewest 14 rfl (q := 29) rfl (XkA E) lk_X11_247 (ok_fA_D_look E g) ⟨rfl, rfl, Nat.le_of_ble_eq_true rfl, Nat.le_of_ble_eq_true rfl⟩ rfl rfl (Nat.le_of_ble_eq_true rfl) (Ac_0 E g) rfl (fun x2 => ?_)
          show Go (wCA E) _ _ x2 29 _ [] _
          refine go_aload_n td_X11_fewest 15 rfl (q := 30) rfl 0 rfl ?_
          refine go_get td_X11_fewest 16 rfl (q := 33) rfl fl_X11_75 (Ac_0 E x2) rfl ?_
          refine go_iload_n td_X11_fewest 17 rfl (q := 34) rfl 1 rfl ?_
          refine go_callV td_X11_fewest 18 rfl (q := 37) rfl (XkA E) lk_X11_384 (ok_fA_Trial_tryFewest E a1 x2) ⟨rfl, rfl, Nat.le_of_ble_eq_true rfl, Nat.le_of_ble_eq_true rfl⟩ rfl rfl (Nat.le_of_ble_eq_true rfl) (Ac_132 E x2) rfl (fun x3 => ?_)
          show Go (wCA E) _ _ x3 37 _ [] _
          refine go_aload_n td_X11_fewest 19 rfl (q := 38) rfl 0 rfl ?_
          refine go_iconst td_X11_fewest 20 rfl (q := 39) rfl kc_0 ?_
          refine go_put td_X11_fewest 21 rfl (q := 42) rfl flp_X11_114 (Ac_0 E x3) rfl rfl (Nat.le_of_ble_eq_true rfl) (Aps_18 E x3 0) ?_
          refine go_bvg (fun g4 => ?_)
          refine go_iload_n td_X11_fewest 22 rfl (q := 43) rfl 2 rfl ?_
          refine go_ljX (α := Unit) (fun b5 => [(0, .ref (E.1 0))]) (fun b5 => []) (fun b5 => g4) 57 ?_ ?_
          · intro b5
            refine go_aload_n td_X11_fewest 29 rfl (q := 58) rfl 0 rfl ?_
            refine go_get td_X11_fewest 30 rfl (q := 61) rfl fl_X11_75 (Ac_0 E g4) rfl ?_
            refine go_get td_X11_fewest 31 rfl (q := 64) rfl fl_X11_362 (Ac_132 E g4) rfl ?_
            refine go_goto td_X11_fewest 32 rfl (q := 77) rfl ?_
            exact go_iret td_X11_fewest 37 rfl rfl rfl
          intro J5 hJ5
          have kJ5 : Go (wCA E) _ _ g4 57 [(0, .ref (E.1 0))] [] (J5 ()) := hJ5 ()
          refine go_if_eq 57 td_X11_fewest 23 rfl rfl (q := 46) rfl (fun _ => ?_) (fun _ => ?_)
          · refine go_pick [0] (lv' := [(0, .ref (E.1 0))]) rfl ?_
            exact kJ5 
          · refine go_aload_n td_X11_fewest 24 rfl (q := 47) rfl 0 rfl ?_
            refine go_get td_X11_fewest 25 rfl (q := 50) rfl fl_X11_75 (Ac_0 E g4) rfl ?_
            refine go_get td_X11_fewest 26 rfl (q := 53) rfl fl_X11_362 (Ac_132 E g4) rfl ?_
            refine go_iconst td_X11_fewest 27 rfl (q := 54) rfl kc_m1 ?_
            refine go_icmp_ne 67 td_X11_fewest 28 rfl rfl (q := 57) rfl (fun _ => ?_) (fun _ => ?_)
            · refine go_aload_n td_X11_fewest 33 rfl (q := 68) rfl 0 rfl ?_
              refine go_get td_X11_fewest 34 rfl (q := 71) rfl fl_X11_75 (Ac_0 E g4) rfl ?_
              refine go_get td_X11_fewest 35 rfl (q := 74) rfl fl_X11_362 (Ac_132 E g4) rfl ?_
              refine go_callS td_X11_fewest 36 rfl (q := 77) rfl (XkA E) lk_X11_181 (ok_fA_Integer_bitCount E (g4.1 13200) g4) ⟨rfl, rfl, Nat.le_of_ble_eq_true rfl, Nat.le_of_ble_eq_true rfl⟩ rfl rfl (Nat.le_of_ble_eq_true rfl) (fun x6 => ?_)
              show Go (wCA E) _ _ g4 77 _ [.int x6] _
              exact go_iret td_X11_fewest 37 rfl rfl rfl
            · refine go_pick [0] (lv' := [(0, .ref (E.1 0))]) rfl ?_
              exact kJ5 
        · refine go_iconst td_X11_fewest 11 rfl (q := 24) rfl kc_m1 ?_
          exact go_iret td_X11_fewest 12 rfl rfl rfl
def fA_Sky_countMeetings (a1 : Int32) (a2 : Int32) (g : G) : Option (Int32) := Lp (α := Int32 × Int32) (fun rec1 s1 => (if (g.1 303) ≤ s1.2 then some s1.1 else Option.bind (fA_Sky_columnOf a1 s1.2 g) fun x2 => Option.bind (fA_Sky_columnOf a2 s1.2 g) fun x3 => lj (α := Int32) (fun b4 => rec1 (b4, s1.2 + 1)) fun J4 => (if x2 = x3 then Option.bind (fA_Sky_rowOf a1 s1.2 g) fun x5 => Option.bind (fA_Sky_rowOf a2 s1.2 g) fun x6 => (if x5 = x6 then J4 (s1.1 + 1) else J4 s1.1) else J4 s1.1))) FU (0, 0)
set_option maxRecDepth 20000 in
set_option maxHeartbeats 4000000 in
theorem ok_fA_Sky_countMeetings (E : Ev) (a1 : Int32) (a2 : Int32) (g : G)  : Ct (wCA E) yX6_countMeetings mi_X6_countMeetings [.ref (E.1 118), .int a1, .int a2] (fun r => (some (.int r), g)) g (fA_Sky_countMeetings a1 a2 g) := by
  refine go_enter rfl rfl (Nat.le_of_ble_eq_true rfl) (lv := [(0, .ref (E.1 118)), (1, .int a1), (2, .int a2)]) rfl ?_
  unfold fA_Sky_countMeetings
  refine go_iconst td_X6_countMeetings 0 rfl (q := 1) rfl kc_0 ?_
  refine go_istore_n [(3, .int 0), (0, .ref (E.1 118)), (1, .int a1), (2, .int a2)] td_X6_countMeetings 1 rfl (q := 2) rfl (Nat.le_of_ble_eq_true rfl) rfl ?_
  refine go_iconst td_X6_countMeetings 2 rfl (q := 3) rfl kc_0 ?_
  refine go_istore [(4, .int 0), (3, .int 0), (0, .ref (E.1 118)), (1, .int a1), (2, .int a2)] td_X6_countMeetings 3 rfl (q := 5) rfl (Nat.le_of_ble_eq_true rfl) rfl ?_
  refine go_pick [2, 3, 4, 1, 0] (lv' := [(0, .ref (E.1 118)), (1, .int a1), (2, .int a2), (3, .int 0), (4, .int 0)]) rfl ?_
  refine (show ∀ (u1_0 : Int32) (u1_1 : Int32), Go (wCA E) _ _ g 5 [(0, .ref (E.1 118)), (1, .int a1), (2, .int a2), (3, .int u1_0), (4, .int u1_1)] [] (Lp (α := Int32 × Int32) _ FU (u1_0, u1_1)) from ?_) 0 0
  intro u1_0 u1_1
  refine go_Lp (α := Int32 × Int32) (fun s1 => g) (fun s1 => [(0, .ref (E.1 118)), (1, .int a1), (2, .int a2), (3, .int s1.1), (4, .int s1.2)]) ?_ FU (u1_0, u1_1)
  intro rec1 hrec1 s1
  have krec1 : ∀ (u1_0 : Int32) (u1_1 : Int32), Go (wCA E) _ _ g 5 [(0, .ref (E.1 118)), (1, .int a1), (2, .int a2), (3, .int u1_0), (4, .int u1_1)] [] (rec1 (u1_0, u1_1)) := fun u1_0 u1_1 => hrec1 (u1_0, u1_1)
  refine go_iload td_X6_countMeetings 4 rfl (q := 7) rfl 4 rfl ?_
  refine go_aload_n td_X6_countMeetings 5 rfl (q := 8) rfl 0 rfl ?_
  refine go_get td_X6_countMeetings 6 rfl (q := 11) rfl fl_X6_53 (Ac_118 E g) rfl ?_
  refine go_get td_X6_countMeetings 7 rfl (q := 14) rfl fl_X6_106 (Ac_3 E g) rfl ?_
  refine go_icmp_ge 60 td_X6_countMeetings 8 rfl rfl (q := 17) rfl (fun _ => ?_) (fun _ => ?_)
  · refine go_iload_n td_X6_countMeetings 30 rfl (q := 61) rfl 3 rfl ?_
    exact go_iret td_X6_countMeetings 31 rfl rfl rfl
  · refine go_aload_n td_X6_countMeetings 9 rfl (q := 18) rfl 0 rfl ?_
    refine go_iload_n td_X6_countMeetings 10 rfl (q := 19) rfl 1 rfl ?_
    refine go_iload td_X6_countMeetings 11 rfl (q := 21) rfl 4 rfl ?_
    refine go_callV td_X6_countMeetings 12 rfl (q := 24) rfl (XkA E) lk_X6_150 (ok_fA_Sky_columnOf E a1 s1.2 g) ⟨rfl, rfl, Nat.le_of_ble_eq_true rfl, Nat.le_of_ble_eq_true rfl⟩ rfl rfl (Nat.le_of_ble_eq_true rfl) (Ac_118 E g) rfl (fun x2 => ?_)
    show Go (wCA E) _ _ g 24 _ [.int x2] _
    refine go_aload_n td_X6_countMeetings 13 rfl (q := 25) rfl 0 rfl ?_
    refine go_iload_n td_X6_countMeetings 14 rfl (q := 26) rfl 2 rfl ?_
    refine go_iload td_X6_countMeetings 15 rfl (q := 28) rfl 4 rfl ?_
    refine go_callV td_X6_countMeetings 16 rfl (q := 31) rfl (XkA E) lk_X6_150 (ok_fA_Sky_columnOf E a2 s1.2 g) ⟨rfl, rfl, Nat.le_of_ble_eq_true rfl, Nat.le_of_ble_eq_true rfl⟩ rfl rfl (Nat.le_of_ble_eq_true rfl) (Ac_118 E g) rfl (fun x3 => ?_)
    show Go (wCA E) _ _ g 31 _ [.int x3, .int x2] _
    refine go_ljX (α := Int32) (fun b4 => [(0, .ref (E.1 118)), (1, .int a1), (2, .int a2), (3, .int b4), (4, .int s1.2)]) (fun b4 => []) (fun b4 => g) 54 ?_ ?_
    · intro b4
      refine go_iinc [(4, .int (s1.2 + 1)), (0, .ref (E.1 118)), (1, .int a1), (2, .int a2), (3, .int b4)] td_X6_countMeetings 28 rfl (q := 57) rfl 4 rfl kc_1 (Nat.le_of_ble_eq_true rfl) rfl ?_
      refine go_goto td_X6_countMeetings 29 rfl (q := 5) rfl ?_
      refine go_pick [1, 2, 3, 4, 0] (lv' := [(0, .ref (E.1 118)), (1, .int a1), (2, .int a2), (3, .int b4), (4, .int (s1.2 + 1))]) rfl ?_
      exact krec1 b4 (s1.2 + 1)
    intro J4 hJ4
    have kJ4 : ∀ (u4_0 : Int32), Go (wCA E) _ _ g 54 [(0, .ref (E.1 118)), (1, .int a1), (2, .int a2), (3, .int u4_0), (4, .int s1.2)] [] (J4 u4_0) := fun u4_0 => hJ4 u4_0
    refine go_icmp_ne 54 td_X6_countMeetings 17 rfl rfl (q := 34) rfl (fun _ => ?_) (fun _ => ?_)
    · refine go_pick [0, 1, 2, 3, 4] (lv' := [(0, .ref (E.1 118)), (1, .int a1), (2, .int a2), (3, .int s1.1), (4, .int s1.2)]) rfl ?_
      exact kJ4 s1.1
    · refine go_aload_n td_X6_countMeetings 18 rfl (q := 35) rfl 0 rfl ?_
      refine go_iload_n td_X6_countMeetings 19 rfl (q := 36) rfl 1 rfl ?_
      refine go_iload td_X6_countMeetings 20 rfl (q := 38) rfl 4 rfl ?_
      refine go_callV td_X6_countMeetings 21 rfl (q := 41) rfl (XkA E) lk_X6_153 (ok_fA_Sky_rowOf E a1 s1.2 g) ⟨rfl, rfl, Nat.le_of_ble_eq_true rfl, Nat.le_of_ble_eq_true rfl⟩ rfl rfl (Nat.le_of_ble_eq_true rfl) (Ac_118 E g) rfl (fun x5 => ?_)
      show Go (wCA E) _ _ g 41 _ [.int x5] _
      refine go_aload_n td_X6_countMeetings 22 rfl (q := 42) rfl 0 rfl ?_
      refine go_iload_n td_X6_countMeetings 23 rfl (q := 43) rfl 2 rfl ?_
      refine go_iload td_X6_countMeetings 24 rfl (q := 45) rfl 4 rfl ?_
      refine go_callV td_X6_countMeetings 25 rfl (q := 48) rfl (XkA E) lk_X6_153 (ok_fA_Sky_rowOf E a2 s1.2 g) ⟨rfl, rfl, Nat.le_of_ble_eq_true rfl, Nat.le_of_ble_eq_true rfl⟩ rfl rfl (Nat.le_of_ble_eq_true rfl) (Ac_118 E g) rfl (fun x6 => ?_)
      show Go (wCA E) _ _ g 48 _ [.int x6, .int x5] _
      refine go_icmp_ne 54 td_X6_countMeetings 26 rfl rfl (q := 51) rfl (fun _ => ?_) (fun _ => ?_)
      · refine go_pick [0, 1, 2, 3, 4] (lv' := [(0, .ref (E.1 118)), (1, .int a1), (2, .int a2), (3, .int s1.1), (4, .int s1.2)]) rfl ?_
        exact kJ4 s1.1
      · refine go_iinc [(3, .int (s1.1 + 1)), (0, .ref (E.1 118)), (1, .int a1), (2, .int a2), (4, .int s1.2)] td_X6_countMeetings 27 rfl (q := 54) rfl 3 rfl kc_1 (Nat.le_of_ble_eq_true rfl) rfl ?_
        refine go_pick [1, 2, 3, 0, 4] (lv' := [(0, .ref (E.1 118)), (1, .int a1), (2, .int a2), (3, .int (s1.1 + 1)), (4, .int s1.2)]) rfl ?_
        exact kJ4 (s1.1 + 1)
def fA_D_meets (a1 : Int32) (a2 : Int32) (g : G) : Option (Int32 × G) := (if a1 = a2 then some ((-1), g) else Option.bind (fA_Plan_hasCraft a1 g) fun x1 => (if x1 = 0 then some ((-1), g) else Option.bind (fA_Plan_hasCraft a2 g) fun x2 => (if x2 = 0 then some ((-1), g) else Option.bind (fA_D_look g) fun x3 => Option.bind (fA_Sky_countMeetings a1 a2 x3) fun x4 => some (x4, x3))))
set_option maxRecDepth 20000 in
set_option maxHeartbeats 4000000 in
theorem ok_fA_D_meets (E : Ev) (a1 : Int32) (a2 : Int32) (g : G)  : Ct (wCA E) yX11_meets mi_X11_meets [.ref (E.1 0), .int a1, .int a2] (fun r => (some (.int r.1), r.2)) g (fA_D_meets a1 a2 g) := by
  refine go_enter rfl rfl (Nat.le_of_ble_eq_true rfl) (lv := [(0, .ref (E.1 0)), (1, .int a1), (2, .int a2)]) rfl ?_
  unfold fA_D_meets
  refine go_iload_n td_X11_meets 0 rfl (q := 1) rfl 1 rfl ?_
  refine go_iload_n td_X11_meets 1 rfl (q := 2) rfl 2 rfl ?_
  refine go_icmp_eq 27 td_X11_meets 2 rfl rfl (q := 5) rfl (fun _ => ?_) (fun _ => ?_)
  · refine go_iconst td_X11_meets 13 rfl (q := 28) rfl kc_m1 ?_
    exact go_iret td_X11_meets 14 rfl rfl rfl
  · refine go_aload_n td_X11_meets 3 rfl (q := 6) rfl 0 rfl ?_
    refine go_get td_X11_meets 4 rfl (q := 9) rfl fl_X11_19 (Ac_0 E g) rfl ?_
    refine go_iload_n td_X11_meets 5 rfl (q := 10) rfl 1 rfl ?_
    refine go_callV td_X11_meets 6 rfl (q := 13) rfl (XkA E) lk_X11_211 (ok_fA_Plan_hasCraft E a1 g) ⟨rfl, rfl, Nat.le_of_ble_eq_true rfl, Nat.le_of_ble_eq_true rfl⟩ rfl rfl (Nat.le_of_ble_eq_true rfl) (Ac_3 E g) rfl (fun x1 => ?_)
    show Go (wCA E) _ _ g 13 _ [.int x1] _
    refine go_if_eq 27 td_X11_meets 7 rfl rfl (q := 16) rfl (fun _ => ?_) (fun _ => ?_)
    · refine go_iconst td_X11_meets 13 rfl (q := 28) rfl kc_m1 ?_
      exact go_iret td_X11_meets 14 rfl rfl rfl
    · refine go_aload_n td_X11_meets 8 rfl (q := 17) rfl 0 rfl ?_
      refine go_get td_X11_meets 9 rfl (q := 20) rfl fl_X11_19 (Ac_0 E g) rfl ?_
      refine go_iload_n td_X11_meets 10 rfl (q := 21) rfl 2 rfl ?_
      refine go_callV td_X11_meets 11 rfl (q := 24) rfl (XkA E) lk_X11_211 (ok_fA_Plan_hasCraft E a2 g) ⟨rfl, rfl, Nat.le_of_ble_eq_true rfl, Nat.le_of_ble_eq_true rfl⟩ rfl rfl (Nat.le_of_ble_eq_true rfl) (Ac_3 E g) rfl (fun x2 => ?_)
      show Go (wCA E) _ _ g 24 _ [.int x2] _
      refine go_if_ne 29 td_X11_meets 12 rfl rfl (q := 27) rfl (fun _ => ?_) (fun _ => ?_)
      · refine go_aload_n td_X11_meets 15 rfl (q := 30) rfl 0 rfl ?_
        refine go_callV td_X11_meets 16 rfl (q := 33) rfl (XkA E) lk_X11_247 (ok_fA_D_look E g) ⟨rfl, rfl, Nat.le_of_ble_eq_true rfl, Nat.le_of_ble_eq_true rfl⟩ rfl rfl (Nat.le_of_ble_eq_true rfl) (Ac_0 E g) rfl (fun x3 => ?_)
        show Go (wCA E) _ _ x3 33 _ [] _
        refine go_aload_n td_X11_meets 17 rfl (q := 34) rfl 0 rfl ?_
        refine go_get td_X11_meets 18 rfl (q := 37) rfl fl_X11_57 (Ac_0 E x3) rfl ?_
        refine go_iload_n td_X11_meets 19 rfl (q := 38) rfl 1 rfl ?_
        refine go_iload_n td_X11_meets 20 rfl (q := 39) rfl 2 rfl ?_
        refine go_callV td_X11_meets 21 rfl (q := 42) rfl (XkA E) lk_X11_387 (ok_fA_Sky_countMeetings E a1 a2 x3) ⟨rfl, rfl, Nat.le_of_ble_eq_true rfl, Nat.le_of_ble_eq_true rfl⟩ rfl rfl (Nat.le_of_ble_eq_true rfl) (Ac_118 E x3) rfl (fun x4 => ?_)
        show Go (wCA E) _ _ x3 42 _ [.int x4] _
        exact go_iret td_X11_meets 22 rfl rfl rfl
      · refine go_iconst td_X11_meets 13 rfl (q := 28) rfl kc_m1 ?_
        exact go_iret td_X11_meets 14 rfl rfl rfl
def fA_Sky_extremeTick (a1 : Int32) (g : G) : Option (Int32) := Option.bind (fA_Sky_countSeen 0 g) fun x1 => Lp (α := Int32 × Int32 × Int32) (fun rec2 s2 => (if (g.1 303) ≤ s2.2.2 then some s2.1 else Option.bind (fA_Sky_countSeen s2.2.2 g) fun x3 => lj (α := Int32 × Int32) (fun b4 => rec2 (b4.1, b4.2, s2.2.2 + 1)) fun J4 => lj (α := Unit) (fun b5 => J4 (s2.2.2, x3)) fun J5 => (if a1 = 0 then (if s2.2.1 ≤ x3 then J4 (s2.1, s2.2.1) else J5 ()) else (if x3 ≤ s2.2.1 then J4 (s2.1, s2.2.1) else J5 ())))) FU (0, x1, 1)
set_option maxRecDepth 20000 in
set_option maxHeartbeats 4000000 in
theorem ok_fA_Sky_extremeTick (E : Ev) (a1 : Int32) (g : G)  : Ct (wCA E) yX6_extremeTick mi_X6_extremeTick [.ref (E.1 118), .int a1] (fun r => (some (.int r), g)) g (fA_Sky_extremeTick a1 g) := by
  refine go_enter rfl rfl (Nat.le_of_ble_eq_true rfl) (lv := [(0, .ref (E.1 118)), (1, .int a1)]) rfl ?_
  unfold fA_Sky_extremeTick
  refine go_iconst td_X6_extremeTick 0 rfl (q := 1) rfl kc_0 ?_
  refine go_istore_n [(2, .int 0), (0, .ref (E.1 118)), (1, .int a1)] td_X6_extremeTick 1 rfl (q := 2) rfl (Nat.le_of_ble_eq_true rfl) rfl ?_
  refine go_aload_n td_X6_extremeTick 2 rfl (q := 3) rfl 1 rfl ?_
  refine go_iconst td_X6_extremeTick 3 rfl (q := 4) rfl kc_0 ?_
  refine go_callV td_X6_extremeTick 4 rfl (q := 7) rfl (XkA E) lk_X6_161 (ok_fA_Sky_countSeen E 0 g) ⟨rfl, rfl, Nat.le_of_ble_eq_true rfl, Nat.le_of_ble_eq_true rfl⟩ rfl rfl (Nat.le_of_ble_eq_true rfl) (Ac_118 E g) rfl (fun x1 => ?_)
  show Go (wCA E) _ _ g 7 _ [.int x1] _
  refine go_istore_n [(3, .int x1), (2, .int 0), (0, .ref (E.1 118)), (1, .int a1)] td_X6_extremeTick 5 rfl (q := 8) rfl (Nat.le_of_ble_eq_true rfl) rfl ?_
  refine go_iconst td_X6_extremeTick 6 rfl (q := 9) rfl kc_1 ?_
  refine go_istore [(4, .int 1), (3, .int x1), (2, .int 0), (0, .ref (E.1 118)), (1, .int a1)] td_X6_extremeTick 7 rfl (q := 11) rfl (Nat.le_of_ble_eq_true rfl) rfl ?_
  refine go_pick [3, 4, 2, 1, 0] (lv' := [(0, .ref (E.1 118)), (1, .int a1), (2, .int 0), (3, .int x1), (4, .int 1)]) rfl ?_
  refine (show ∀ (u2_0 : Int32) (u2_1 : Int32) (u2_2 : Int32), Go (wCA E) _ _ g 11 [(0, .ref (E.1 118)), (1, .int a1), (2, .int u2_0), (3, .int u2_1), (4, .int u2_2)] [] (Lp (α := Int32 × Int32 × Int32) _ FU (u2_0, u2_1, u2_2)) from ?_) 0 x1 1
  intro u2_0 u2_1 u2_2
  refine go_Lp (α := Int32 × Int32 × Int32) (fun s2 => g) (fun s2 => [(0, .ref (E.1 118)), (1, .int a1), (2, .int s2.1), (3, .int s2.2.1), (4, .int s2.2.2)]) ?_ FU (u2_0, u2_1, u2_2)
  intro rec2 hrec2 s2
  have krec2 : ∀ (u2_0 : Int32) (u2_1 : Int32) (u2_2 : Int32), Go (wCA E) _ _ g 11 [(0, .ref (E.1 118)), (1, .int a1), (2, .int u2_0), (3, .int u2_1), (4, .int u2_2)] [] (rec2 (u2_0, u2_1, u2_2)) := fun u2_0 u2_1 u2_2 => hrec2 (u2_0, u2_1, u2_2)
  refine go_iload td_X6_extremeTick 8 rfl (q := 13) rfl 4 rfl ?_
  refine go_aload_n td_X6_extremeTick 9 rfl (q := 14) rfl 0 rfl ?_
  refine go_get td_X6_extremeTick 10 rfl (q := 17) rfl fl_X6_53 (Ac_118 E g) rfl ?_
  refine go_get td_X6_extremeTick 11 rfl (q := 20) rfl fl_X6_106 (Ac_3 E g) rfl ?_
  refine go_icmp_ge 62 td_X6_extremeTick 12 rfl rfl (q := 23) rfl (fun _ => ?_) (fun _ => ?_)
  · refine go_iload_n td_X6_extremeTick 32 rfl (q := 63) rfl 2 rfl ?_
    exact go_iret td_X6_extremeTick 33 rfl rfl rfl
  · refine go_aload_n td_X6_extremeTick 13 rfl (q := 24) rfl 0 rfl ?_
    refine go_iload td_X6_extremeTick 14 rfl (q := 26) rfl 4 rfl ?_
    refine go_callV td_X6_extremeTick 15 rfl (q := 29) rfl (XkA E) lk_X6_161 (ok_fA_Sky_countSeen E s2.2.2 g) ⟨rfl, rfl, Nat.le_of_ble_eq_true rfl, Nat.le_of_ble_eq_true rfl⟩ rfl rfl (Nat.le_of_ble_eq_true rfl) (Ac_118 E g) rfl (fun x3 => ?_)
    show Go (wCA E) _ _ g 29 _ [.int x3] _
    refine go_istore [(5, .int x3), (0, .ref (E.1 118)), (1, .int a1), (2, .int s2.1), (3, .int s2.2.1), (4, .int s2.2.2)] td_X6_extremeTick 16 rfl (q := 31) rfl (Nat.le_of_ble_eq_true rfl) rfl ?_
    refine go_iload_n td_X6_extremeTick 17 rfl (q := 32) rfl 2 rfl ?_
    refine go_ljX (α := Int32 × Int32) (fun b4 => [(0, .ref (E.1 118)), (1, .int a1), (2, .int b4.1), (3, .int b4.2), (4, .int s2.2.2)]) (fun b4 => []) (fun b4 => g) 56 ?_ ?_
    · intro b4
      refine go_iinc [(4, .int (s2.2.2 + 1)), (0, .ref (E.1 118)), (1, .int a1), (2, .int b4.1), (3, .int b4.2)] td_X6_extremeTick 30 rfl (q := 59) rfl 4 rfl kc_1 (Nat.le_of_ble_eq_true rfl) rfl ?_
      refine go_goto td_X6_extremeTick 31 rfl (q := 11) rfl ?_
      refine go_pick [1, 2, 3, 4, 0] (lv' := [(0, .ref (E.1 118)), (1, .int a1), (2, .int b4.1), (3, .int b4.2), (4, .int (s2.2.2 + 1))]) rfl ?_
      exact krec2 b4.1 b4.2 (s2.2.2 + 1)
    intro J4 hJ4
    have kJ4 : ∀ (u4_0 : Int32) (u4_1 : Int32), Go (wCA E) _ _ g 56 [(0, .ref (E.1 118)), (1, .int a1), (2, .int u4_0), (3, .int u4_1), (4, .int s2.2.2)] [] (J4 (u4_0, u4_1)) := fun u4_0 u4_1 => hJ4 (u4_0, u4_1)
    refine go_ljX (α := Unit) (fun b5 => [(0, .ref (E.1 118)), (1, .int a1), (4, .int s2.2.2), (5, .int x3)]) (fun b5 => []) (fun b5 => g) 50 ?_ ?_
    · intro b5
      refine go_iload td_X6_extremeTick 26 rfl (q := 52) rfl 2 rfl ?_
      refine go_istore_n [(2, .int s2.2.2), (0, .ref (E.1 118)), (1, .int a1), (4, .int s2.2.2), (5, .int x3)] td_X6_extremeTick 27 rfl (q := 53) rfl (Nat.le_of_ble_eq_true rfl) rfl ?_
      refine go_iload td_X6_extremeTick 28 rfl (q := 55) rfl 4 rfl ?_
      refine go_istore_n [(3, .int x3), (2, .int s2.2.2), (0, .ref (E.1 118)), (1, .int a1), (4, .int s2.2.2), (5, .int x3)] td_X6_extremeTick 29 rfl (q := 56) rfl (Nat.le_of_ble_eq_true rfl) rfl ?_
      refine go_pick [2, 3, 1, 0, 4] (lv' := [(0, .ref (E.1 118)), (1, .int a1), (2, .int s2.2.2), (3, .int x3), (4, .int s2.2.2)]) rfl ?_
      exact kJ4 s2.2.2 x3
    intro J5 hJ5
    have kJ5 : Go (wCA E) _ _ g 50 [(0, .ref (E.1 118)), (1, .int a1), (4, .int s2.2.2), (5, .int x3)] [] (J5 ()) := hJ5 ()
    refine go_if_eq 44 td_X6_extremeTick 18 rfl rfl (q := 35) rfl (fun _ => ?_) (fun _ => ?_)
    · refine go_iload td_X6_extremeTick 23 rfl (q := 46) rfl 0 rfl ?_
      refine go_iload_n td_X6_extremeTick 24 rfl (q := 47) rfl 4 rfl ?_
      refine go_icmp_ge 56 td_X6_extremeTick 25 rfl rfl (q := 50) rfl (fun _ => ?_) (fun _ => ?_)
      · refine go_pick [1, 2, 3, 4, 5] (lv' := [(0, .ref (E.1 118)), (1, .int a1), (2, .int s2.1), (3, .int s2.2.1), (4, .int s2.2.2)]) rfl ?_
        exact kJ4 s2.1 s2.2.1
      · refine go_pick [1, 2, 5, 0] (lv' := [(0, .ref (E.1 118)), (1, .int a1), (4, .int s2.2.2), (5, .int x3)]) rfl ?_
        exact kJ5 
    · refine go_iload td_X6_extremeTick 19 rfl (q := 37) rfl 0 rfl ?_
      refine go_iload_n td_X6_extremeTick 20 rfl (q := 38) rfl 4 rfl ?_
      refine go_icmp_le 56 td_X6_extremeTick 21 rfl rfl (q := 41) rfl (fun _ => ?_) (fun _ => ?_)
      · refine go_pick [1, 2, 3, 4, 5] (lv' := [(0, .ref (E.1 118)), (1, .int a1), (2, .int s2.1), (3, .int s2.2.1), (4, .int s2.2.2)]) rfl ?_
        exact kJ4 s2.1 s2.2.1
      · refine go_goto td_X6_extremeTick 22 rfl (q := 50) rfl ?_
        refine go_pick [1, 2, 5, 0] (lv' := [(0, .ref (E.1 118)), (1, .int a1), (4, .int s2.2.2), (5, .int x3)]) rfl ?_
        exact kJ5 
def fA_D_extreme (a1 : Int32) (a2 : Int32) (g : G) : Option (Int32 × G) := Option.bind (fA_Plan_stands g) fun x1 => (if x1 = 0 then some ((-1), g) else (if a2 < 0 then some ((-1), g) else (if a2 ≤ 1 then Option.bind (fA_D_look g) fun x2 => Option.bind (fA_Sky_extremeTick a1 x2) fun x3 => (if a2 = 0 then some (x3, x2) else Option.bind (fA_Sky_countSeen x3 x2) fun x4 => some (x4, x2)) else some ((-1), g))))
set_option maxRecDepth 20000 in
set_option maxHeartbeats 4000000 in
theorem ok_fA_D_extreme (E : Ev) (a1 : Int32) (a2 : Int32) (g : G)  : Ct (wCA E) yX11_extreme mi_X11_extreme [.ref (E.1 0), .int a1, .int a2] (fun r => (some (.int r.1), r.2)) g (fA_D_extreme a1 a2 g) := by
  refine go_enter rfl rfl (Nat.le_of_ble_eq_true rfl) (lv := [(0, .ref (E.1 0)), (1, .int a1), (2, .int a2)]) rfl ?_
  unfold fA_D_extreme
  refine go_aload_n td_X11_extreme 0 rfl (q := 1) rfl 0 rfl ?_
  refine go_get td_X11_extreme 1 rfl (q := 4) rfl fl_X11_19 (Ac_0 E g) rfl ?_
  refine go_callV td_X11_extreme 2 rfl (q := 7) rfl (XkA E) lk_X11_334 (ok_fA_Plan_stands E g) ⟨rfl, rfl, Nat.le_of_ble_eq_true rfl, Nat.le_of_ble_eq_true rfl⟩ rfl rfl (Nat.le_of_ble_eq_true rfl) (Ac_3 E g) rfl (fun x1 => ?_)
  show Go (wCA E) _ _ g 7 _ [.int x1] _
  refine go_if_eq 19 td_X11_extreme 3 rfl rfl (q := 10) rfl (fun _ => ?_) (fun _ => ?_)
  · refine go_iconst td_X11_extreme 9 rfl (q := 20) rfl kc_m1 ?_
    exact go_iret td_X11_extreme 10 rfl rfl rfl
  · refine go_iload_n td_X11_extreme 4 rfl (q := 11) rfl 2 rfl ?_
    refine go_if_lt 19 td_X11_extreme 5 rfl rfl (q := 14) rfl (fun _ => ?_) (fun _ => ?_)
    · refine go_iconst td_X11_extreme 9 rfl (q := 20) rfl kc_m1 ?_
      exact go_iret td_X11_extreme 10 rfl rfl rfl
    · refine go_iload_n td_X11_extreme 6 rfl (q := 15) rfl 2 rfl ?_
      refine go_iconst td_X11_extreme 7 rfl (q := 16) rfl kc_1 ?_
      refine go_icmp_le 21 td_X11_extreme 8 rfl rfl (q := 19) rfl (fun _ => ?_) (fun _ => ?_)
      · refine go_aload_n td_X11_extreme 11 rfl (q := 22) rfl 0 rfl ?_
        refine go_callV td_X11_extreme 12 rfl (q := 25) rfl (XkA E) lk_X11_247 (ok_fA_D_look E g) ⟨rfl, rfl, Nat.le_of_ble_eq_true rfl, Nat.le_of_ble_eq_true rfl⟩ rfl rfl (Nat.le_of_ble_eq_true rfl) (Ac_0 E g) rfl (fun x2 => ?_)
        show Go (wCA E) _ _ x2 25 _ [] _
        refine go_aload_n td_X11_extreme 13 rfl (q := 26) rfl 0 rfl ?_
        refine go_get td_X11_extreme 14 rfl (q := 29) rfl fl_X11_57 (Ac_0 E x2) rfl ?_
        refine go_iload_n td_X11_extreme 15 rfl (q := 30) rfl 1 rfl ?_
        refine go_callV td_X11_extreme 16 rfl (q := 33) rfl (XkA E) lk_X11_390 (ok_fA_Sky_extremeTick E a1 x2) ⟨rfl, rfl, Nat.le_of_ble_eq_true rfl, Nat.le_of_ble_eq_true rfl⟩ rfl rfl (Nat.le_of_ble_eq_true rfl) (Ac_118 E x2) rfl (fun x3 => ?_)
        show Go (wCA E) _ _ x2 33 _ [.int x3] _
        refine go_istore_n [(3, .int x3), (0, .ref (E.1 0)), (1, .int a1), (2, .int a2)] td_X11_extreme 17 rfl (q := 34) rfl (Nat.le_of_ble_eq_true rfl) rfl ?_
        refine go_iload_n td_X11_extreme 18 rfl (q := 35) rfl 3 rfl ?_
        refine go_if_ne 42 td_X11_extreme 19 rfl rfl (q := 38) rfl (fun _ => ?_) (fun _ => ?_)
        · refine go_aload_n td_X11_extreme 22 rfl (q := 43) rfl 1 rfl ?_
          refine go_get td_X11_extreme 23 rfl (q := 46) rfl fl_X11_57 (Ac_0 E x2) rfl ?_
          refine go_iload_n td_X11_extreme 24 rfl (q := 47) rfl 0 rfl ?_
          refine go_callV td_X11_extreme 25 rfl (q := 50) rfl (XkA E) lk_X11_323 (ok_fA_Sky_countSeen E x3 x2) ⟨rfl, rfl, Nat.le_of_ble_eq_true rfl, Nat.le_of_ble_eq_true rfl⟩ rfl rfl (Nat.le_of_ble_eq_true rfl) (Ac_118 E x2) rfl (fun x4 => ?_)
          show Go (wCA E) _ _ x2 50 _ [.int x4] _
          exact go_iret td_X11_extreme 26 rfl rfl rfl
        · refine go_iload_n td_X11_extreme 20 rfl (q := 39) rfl 0 rfl ?_
          refine go_goto td_X11_extreme 21 rfl (q := 50) rfl ?_
          exact go_iret td_X11_extreme 26 rfl rfl rfl
      · refine go_iconst td_X11_extreme 9 rfl (q := 20) rfl kc_m1 ?_
        exact go_iret td_X11_extreme 10 rfl rfl rfl
def fA_Strip_depthAt (a1 : Int32) (g : G) : Option (Int32) := Option.bind (fA_Strip_isOf 8 a1 g) fun x1 => (if x1 = 0 then ag 240 (g.2.1 131) a1 fun x2 => Option.bind (fA_Integer_bitCount x2 g) fun x3 => some x3 else some 0)
set_option maxRecDepth 20000 in
set_option maxHeartbeats 4000000 in
theorem ok_fA_Strip_depthAt (E : Ev) (a1 : Int32) (g : G)  : Ct (wCA E) yX7_depthAt mi_X7_depthAt [.ref (E.1 130), .int a1] (fun r => (some (.int r), g)) g (fA_Strip_depthAt a1 g) := by
  refine go_enter rfl rfl (Nat.le_of_ble_eq_true rfl) (lv := [(0, .ref (E.1 130)), (1, .int a1)]) rfl ?_
  unfold fA_Strip_depthAt
  refine go_aload_n td_X7_depthAt 0 rfl (q := 1) rfl 0 rfl ?_
  refine go_bipush td_X7_depthAt 1 rfl (q := 3) rfl kb_8 ?_
  refine go_iload_n td_X7_depthAt 2 rfl (q := 4) rfl 1 rfl ?_
  refine go_callV td_X7_depthAt 3 rfl (q := 7) rfl (XkA E) lk_X7_45 (ok_fA_Strip_isOf E 8 a1 g) ⟨rfl, rfl, Nat.le_of_ble_eq_true rfl, Nat.le_of_ble_eq_true rfl⟩ rfl rfl (Nat.le_of_ble_eq_true rfl) (Ac_130 E g) rfl (fun x1 => ?_)
  show Go (wCA E) _ _ g 7 _ [.int x1] _
  refine go_if_eq 14 td_X7_depthAt 4 rfl rfl (q := 10) rfl (fun _ => ?_) (fun _ => ?_)
  · refine go_aload_n td_X7_depthAt 7 rfl (q := 15) rfl 0 rfl ?_
    refine go_get td_X7_depthAt 8 rfl (q := 18) rfl fl_X7_24 (Ac_130 E g) rfl ?_
    refine go_iload_n td_X7_depthAt 9 rfl (q := 19) rfl 1 rfl ?_
    refine go_ald td_X7_depthAt 10 rfl (q := 20) rfl (Ac_131 E g) (t0 := 0) rfl (fun x2 => ?_)
    refine go_callS td_X7_depthAt 11 rfl (q := 23) rfl (XkA E) lk_X7_64 (ok_fA_Integer_bitCount E x2 g) ⟨rfl, rfl, Nat.le_of_ble_eq_true rfl, Nat.le_of_ble_eq_true rfl⟩ rfl rfl (Nat.le_of_ble_eq_true rfl) (fun x3 => ?_)
    show Go (wCA E) _ _ g 23 _ [.int x3] _
    exact go_iret td_X7_depthAt 12 rfl rfl rfl
  · refine go_iconst td_X7_depthAt 5 rfl (q := 11) rfl kc_0 ?_
    refine go_goto td_X7_depthAt 6 rfl (q := 23) rfl ?_
    exact go_iret td_X7_depthAt 12 rfl rfl rfl
def fA_Strip_deepestTick (g : G) : Option (Int32) := Lp (α := Int32 × Int32) (fun rec1 s1 => (if (g.1 13003) ≤ s1.2 then some s1.1 else Option.bind (fA_Strip_depthAt s1.2 g) fun x2 => Option.bind (fA_Strip_depthAt s1.1 g) fun x3 => lj (α := Int32) (fun b4 => rec1 (b4, s1.2 + 1)) fun J4 => (if x2 ≤ x3 then J4 s1.1 else J4 s1.2))) FU (0, 1)
set_option maxRecDepth 20000 in
set_option maxHeartbeats 4000000 in
theorem ok_fA_Strip_deepestTick (E : Ev)  (g : G)  : Ct (wCA E) yX7_deepestTick mi_X7_deepestTick [.ref (E.1 130)] (fun r => (some (.int r), g)) g (fA_Strip_deepestTick g) := by
  refine go_enter rfl rfl (Nat.le_of_ble_eq_true rfl) (lv := [(0, .ref (E.1 130))]) rfl ?_
  unfold fA_Strip_deepestTick
  refine go_iconst td_X7_deepestTick 0 rfl (q := 1) rfl kc_0 ?_
  refine go_istore_n [(1, .int 0), (0, .ref (E.1 130))] td_X7_deepestTick 1 rfl (q := 2) rfl (Nat.le_of_ble_eq_true rfl) rfl ?_
  refine go_iconst td_X7_deepestTick 2 rfl (q := 3) rfl kc_1 ?_
  refine go_istore_n [(2, .int 1), (1, .int 0), (0, .ref (E.1 130))] td_X7_deepestTick 3 rfl (q := 4) rfl (Nat.le_of_ble_eq_true rfl) rfl ?_
  refine go_pick [2, 1, 0] (lv' := [(0, .ref (E.1 130)), (1, .int 0), (2, .int 1)]) rfl ?_
  refine (show ∀ (u1_0 : Int32) (u1_1 : Int32), Go (wCA E) _ _ g 4 [(0, .ref (E.1 130)), (1, .int u1_0), (2, .int u1_1)] [] (Lp (α := Int32 × Int32) _ FU (u1_0, u1_1)) from ?_) 0 1
  intro u1_0 u1_1
  refine go_Lp (α := Int32 × Int32) (fun s1 => g) (fun s1 => [(0, .ref (E.1 130)), (1, .int s1.1), (2, .int s1.2)]) ?_ FU (u1_0, u1_1)
  intro rec1 hrec1 s1
  have krec1 : ∀ (u1_0 : Int32) (u1_1 : Int32), Go (wCA E) _ _ g 4 [(0, .ref (E.1 130)), (1, .int u1_0), (2, .int u1_1)] [] (rec1 (u1_0, u1_1)) := fun u1_0 u1_1 => hrec1 (u1_0, u1_1)
  refine go_iload_n td_X7_deepestTick 4 rfl (q := 5) rfl 2 rfl ?_
  refine go_aload_n td_X7_deepestTick 5 rfl (q := 6) rfl 0 rfl ?_
  refine go_get td_X7_deepestTick 6 rfl (q := 9) rfl fl_X7_21 (Ac_130 E g) rfl ?_
  refine go_icmp_ge 33 td_X7_deepestTick 7 rfl rfl (q := 12) rfl (fun _ => ?_) (fun _ => ?_)
  · refine go_iload_n td_X7_deepestTick 19 rfl (q := 34) rfl 1 rfl ?_
    exact go_iret td_X7_deepestTick 20 rfl rfl rfl
  · refine go_aload_n td_X7_deepestTick 8 rfl (q := 13) rfl 0 rfl ?_
    refine go_iload_n td_X7_deepestTick 9 rfl (q := 14) rfl 2 rfl ?_
    refine go_callV td_X7_deepestTick 10 rfl (q := 17) rfl (XkA E) lk_X7_70 (ok_fA_Strip_depthAt E s1.2 g) ⟨rfl, rfl, Nat.le_of_ble_eq_true rfl, Nat.le_of_ble_eq_true rfl⟩ rfl rfl (Nat.le_of_ble_eq_true rfl) (Ac_130 E g) rfl (fun x2 => ?_)
    show Go (wCA E) _ _ g 17 _ [.int x2] _
    refine go_aload_n td_X7_deepestTick 11 rfl (q := 18) rfl 0 rfl ?_
    refine go_iload_n td_X7_deepestTick 12 rfl (q := 19) rfl 1 rfl ?_
    refine go_callV td_X7_deepestTick 13 rfl (q := 22) rfl (XkA E) lk_X7_70 (ok_fA_Strip_depthAt E s1.1 g) ⟨rfl, rfl, Nat.le_of_ble_eq_true rfl, Nat.le_of_ble_eq_true rfl⟩ rfl rfl (Nat.le_of_ble_eq_true rfl) (Ac_130 E g) rfl (fun x3 => ?_)
    show Go (wCA E) _ _ g 22 _ [.int x3, .int x2] _
    refine go_ljX (α := Int32) (fun b4 => [(0, .ref (E.1 130)), (1, .int b4), (2, .int s1.2)]) (fun b4 => []) (fun b4 => g) 27 ?_ ?_
    · intro b4
      refine go_iinc [(2, .int (s1.2 + 1)), (0, .ref (E.1 130)), (1, .int b4)] td_X7_deepestTick 17 rfl (q := 30) rfl 2 rfl kc_1 (Nat.le_of_ble_eq_true rfl) rfl ?_
      refine go_goto td_X7_deepestTick 18 rfl (q := 4) rfl ?_
      refine go_pick [1, 2, 0] (lv' := [(0, .ref (E.1 130)), (1, .int b4), (2, .int (s1.2 + 1))]) rfl ?_
      exact krec1 b4 (s1.2 + 1)
    intro J4 hJ4
    have kJ4 : ∀ (u4_0 : Int32), Go (wCA E) _ _ g 27 [(0, .ref (E.1 130)), (1, .int u4_0), (2, .int s1.2)] [] (J4 u4_0) := fun u4_0 => hJ4 u4_0
    refine go_icmp_le 27 td_X7_deepestTick 14 rfl rfl (q := 25) rfl (fun _ => ?_) (fun _ => ?_)
    · refine go_pick [0, 1, 2] (lv' := [(0, .ref (E.1 130)), (1, .int s1.1), (2, .int s1.2)]) rfl ?_
      exact kJ4 s1.1
    · refine go_iload_n td_X7_deepestTick 15 rfl (q := 26) rfl 2 rfl ?_
      refine go_istore_n [(1, .int s1.2), (0, .ref (E.1 130)), (2, .int s1.2)] td_X7_deepestTick 16 rfl (q := 27) rfl (Nat.le_of_ble_eq_true rfl) rfl ?_
      refine go_pick [1, 0, 2] (lv' := [(0, .ref (E.1 130)), (1, .int s1.2), (2, .int s1.2)]) rfl ?_
      exact kJ4 s1.2
def fA_Strip_countDouble (g : G) : Option (Int32) := Lp (α := Int32 × Int32) (fun rec1 s1 => (if (g.1 13003) ≤ s1.2 then some s1.1 else Option.bind (fA_Strip_depthAt s1.2 g) fun x2 => lj (α := Int32) (fun b3 => bv (s1.1 + b3) fun x4 => rec1 (x4, s1.2 + 1)) fun J3 => (if x2 < 2 then J3 0 else J3 1))) FU (0, 0)
set_option maxRecDepth 20000 in
set_option maxHeartbeats 4000000 in
theorem ok_fA_Strip_countDouble (E : Ev)  (g : G)  : Ct (wCA E) yX7_countDouble mi_X7_countDouble [.ref (E.1 130)] (fun r => (some (.int r), g)) g (fA_Strip_countDouble g) := by
  refine go_enter rfl rfl (Nat.le_of_ble_eq_true rfl) (lv := [(0, .ref (E.1 130))]) rfl ?_
  unfold fA_Strip_countDouble
  refine go_iconst td_X7_countDouble 0 rfl (q := 1) rfl kc_0 ?_
  refine go_istore_n [(1, .int 0), (0, .ref (E.1 130))] td_X7_countDouble 1 rfl (q := 2) rfl (Nat.le_of_ble_eq_true rfl) rfl ?_
  refine go_iconst td_X7_countDouble 2 rfl (q := 3) rfl kc_0 ?_
  refine go_istore_n [(2, .int 0), (1, .int 0), (0, .ref (E.1 130))] td_X7_countDouble 3 rfl (q := 4) rfl (Nat.le_of_ble_eq_true rfl) rfl ?_
  refine go_pick [2, 1, 0] (lv' := [(0, .ref (E.1 130)), (1, .int 0), (2, .int 0)]) rfl ?_
  refine (show ∀ (u1_0 : Int32) (u1_1 : Int32), Go (wCA E) _ _ g 4 [(0, .ref (E.1 130)), (1, .int u1_0), (2, .int u1_1)] [] (Lp (α := Int32 × Int32) _ FU (u1_0, u1_1)) from ?_) 0 0
  intro u1_0 u1_1
  refine go_Lp (α := Int32 × Int32) (fun s1 => g) (fun s1 => [(0, .ref (E.1 130)), (1, .int s1.1), (2, .int s1.2)]) ?_ FU (u1_0, u1_1)
  intro rec1 hrec1 s1
  have krec1 : ∀ (u1_0 : Int32) (u1_1 : Int32), Go (wCA E) _ _ g 4 [(0, .ref (E.1 130)), (1, .int u1_0), (2, .int u1_1)] [] (rec1 (u1_0, u1_1)) := fun u1_0 u1_1 => hrec1 (u1_0, u1_1)
  refine go_iload_n td_X7_countDouble 4 rfl (q := 5) rfl 2 rfl ?_
  refine go_aload_n td_X7_countDouble 5 rfl (q := 6) rfl 0 rfl ?_
  refine go_get td_X7_countDouble 6 rfl (q := 9) rfl fl_X7_21 (Ac_130 E g) rfl ?_
  refine go_icmp_ge 35 td_X7_countDouble 7 rfl rfl (q := 12) rfl (fun _ => ?_) (fun _ => ?_)
  · refine go_iload_n td_X7_countDouble 21 rfl (q := 36) rfl 1 rfl ?_
    exact go_iret td_X7_countDouble 22 rfl rfl rfl
  · refine go_iload_n td_X7_countDouble 8 rfl (q := 13) rfl 1 rfl ?_
    refine go_aload_n td_X7_countDouble 9 rfl (q := 14) rfl 0 rfl ?_
    refine go_iload_n td_X7_countDouble 10 rfl (q := 15) rfl 2 rfl ?_
    refine go_callV td_X7_countDouble 11 rfl (q := 18) rfl (XkA E) lk_X7_70 (ok_fA_Strip_depthAt E s1.2 g) ⟨rfl, rfl, Nat.le_of_ble_eq_true rfl, Nat.le_of_ble_eq_true rfl⟩ rfl rfl (Nat.le_of_ble_eq_true rfl) (Ac_130 E g) rfl (fun x2 => ?_)
    show Go (wCA E) _ _ g 18 _ [.int x2, .int s1.1] _
    refine go_iconst td_X7_countDouble 12 rfl (q := 19) rfl kc_2 ?_
    refine go_ljX (α := Int32) (fun b3 => [(0, .ref (E.1 130)), (2, .int s1.2)]) (fun b3 => [.int b3, .int s1.1]) (fun b3 => g) 27 ?_ ?_
    · intro b3
      refine go_iadd td_X7_countDouble 17 rfl (q := 28) rfl ?_
      refine go_bvi (fun x4 => ?_)
      refine go_istore_n [(1, .int x4), (0, .ref (E.1 130)), (2, .int s1.2)] td_X7_countDouble 18 rfl (q := 29) rfl (Nat.le_of_ble_eq_true rfl) rfl ?_
      refine go_iinc [(2, .int (s1.2 + 1)), (1, .int x4), (0, .ref (E.1 130))] td_X7_countDouble 19 rfl (q := 32) rfl 2 rfl kc_1 (Nat.le_of_ble_eq_true rfl) rfl ?_
      refine go_goto td_X7_countDouble 20 rfl (q := 4) rfl ?_
      refine go_pick [2, 1, 0] (lv' := [(0, .ref (E.1 130)), (1, .int x4), (2, .int (s1.2 + 1))]) rfl ?_
      exact krec1 x4 (s1.2 + 1)
    intro J3 hJ3
    have kJ3 : ∀ (u3_0 : Int32), Go (wCA E) _ _ g 27 [(0, .ref (E.1 130)), (2, .int s1.2)] [.int u3_0, .int s1.1] (J3 u3_0) := fun u3_0 => hJ3 u3_0
    refine go_icmp_lt 26 td_X7_countDouble 13 rfl rfl (q := 22) rfl (fun _ => ?_) (fun _ => ?_)
    · refine go_iconst td_X7_countDouble 16 rfl (q := 27) rfl kc_0 ?_
      refine go_pick [0, 2] (lv' := [(0, .ref (E.1 130)), (2, .int s1.2)]) rfl ?_
      exact kJ3 0
    · refine go_iconst td_X7_countDouble 14 rfl (q := 23) rfl kc_1 ?_
      refine go_goto td_X7_countDouble 15 rfl (q := 27) rfl ?_
      refine go_pick [0, 2] (lv' := [(0, .ref (E.1 130)), (2, .int s1.2)]) rfl ?_
      exact kJ3 1
def fA_D_depth (a1 : Int32) (a2 : Int32) (a3 : Int32) (g : G) : Option (Int32 × G) := Option.bind (fA_Plan_hasCell a1 a2 g) fun x1 => (if x1 = 0 then some ((-1), g) else Option.bind (fA_D_look g) fun x2 => Option.bind (fA_Strip_lay (x2.1 2700) a1 a2 x2) fun x3 => Option.bind (fA_Strip_deepestTick x3) fun x4 => (if a3 = 0 then Option.bind (fA_Strip_depthAt x4 x3) fun x5 => some (x5, x3) else if a3 = 1 then some (x4, x3) else if a3 = 2 then Option.bind (fA_Strip_countDouble x3) fun x8 => some (x8, x3) else some ((-1), x3)))
set_option maxRecDepth 20000 in
set_option maxHeartbeats 4000000 in
theorem ok_fA_D_depth (E : Ev) (a1 : Int32) (a2 : Int32) (a3 : Int32) (g : G)  : Ct (wCA E) yX11_depth mi_X11_depth [.ref (E.1 0), .int a1, .int a2, .int a3] (fun r => (some (.int r.1), r.2)) g (fA_D_depth a1 a2 a3 g) := by
  refine go_enter rfl rfl (Nat.le_of_ble_eq_true rfl) (lv := [(0, .ref (E.1 0)), (1, .int a1), (2, .int a2), (3, .int a3)]) rfl ?_
  unfold fA_D_depth
  refine go_aload_n td_X11_depth 0 rfl (q := 1) rfl 0 rfl ?_
  refine go_get td_X11_depth 1 rfl (q := 4) rfl fl_X11_19 (Ac_0 E g) rfl ?_
  refine go_iload_n td_X11_depth 2 rfl (q := 5) rfl 1 rfl ?_
  refine go_iload_n td_X11_depth 3 rfl (q := 6) rfl 2 rfl ?_
  refine go_callV td_X11_depth 4 rfl (q := 9) rfl (XkA E) lk_X11_278 (ok_fA_Plan_hasCell E a1 a2 g) ⟨rfl, rfl, Nat.le_of_ble_eq_true rfl, Nat.le_of_ble_eq_true rfl⟩ rfl rfl (Nat.le_of_ble_eq_true rfl) (Ac_3 E g) rfl (fun x1 => ?_)
  show Go (wCA E) _ _ g 9 _ [.int x1] _
  refine go_if_ne 14 td_X11_depth 5 rfl rfl (q := 12) rfl (fun _ => ?_) (fun _ => ?_)
  · refine go_aload_n td_X11_depth 8 rfl (q := 15) rfl 0 rfl ?_
    refine go_callV td_X11_depth 9 rfl (q := 18) rfl (XkA E) lk_X11_247 (ok_fA_D_look E g) ⟨rfl, rfl, Nat.le_of_ble_eq_true rfl, Nat.le_of_ble_eq_true rfl⟩ rfl rfl (Nat.le_of_ble_eq_true rfl) (Ac_0 E g) rfl (fun x2 => ?_)
    show Go (wCA E) _ _ x2 18 _ [] _
    refine go_aload_n td_X11_depth 10 rfl (q := 19) rfl 0 rfl ?_
    refine go_get td_X11_depth 11 rfl (q := 22) rfl fl_X11_66 (Ac_0 E x2) rfl ?_
    refine go_aload_n td_X11_depth 12 rfl (q := 23) rfl 0 rfl ?_
    refine go_get td_X11_depth 13 rfl (q := 26) rfl fl_X11_29 (Ac_0 E x2) rfl ?_
    refine go_get td_X11_depth 14 rfl (q := 29) rfl fl_X11_178 (Ac_27 E x2) rfl ?_
    refine go_iload_n td_X11_depth 15 rfl (q := 30) rfl 1 rfl ?_
    refine go_iload_n td_X11_depth 16 rfl (q := 31) rfl 2 rfl ?_
    refine go_callV td_X11_depth 17 rfl (q := 34) rfl (XkA E) lk_X11_289 (ok_fA_Strip_lay E (x2.1 2700) a1 a2 x2) ⟨rfl, rfl, Nat.le_of_ble_eq_true rfl, Nat.le_of_ble_eq_true rfl⟩ rfl rfl (Nat.le_of_ble_eq_true rfl) (Ac_130 E x2) rfl (fun x3 => ?_)
    show Go (wCA E) _ _ x3 34 _ [] _
    refine go_aload_n td_X11_depth 18 rfl (q := 35) rfl 0 rfl ?_
    refine go_get td_X11_depth 19 rfl (q := 38) rfl fl_X11_66 (Ac_0 E x3) rfl ?_
    refine go_callV td_X11_depth 20 rfl (q := 41) rfl (XkA E) lk_X11_394 (ok_fA_Strip_deepestTick E x3) ⟨rfl, rfl, Nat.le_of_ble_eq_true rfl, Nat.le_of_ble_eq_true rfl⟩ rfl rfl (Nat.le_of_ble_eq_true rfl) (Ac_130 E x3) rfl (fun x4 => ?_)
    show Go (wCA E) _ _ x3 41 _ [.int x4] _
    refine go_istore [(4, .int x4), (0, .ref (E.1 0)), (1, .int a1), (2, .int a2), (3, .int a3)] td_X11_depth 21 rfl (q := 43) rfl (Nat.le_of_ble_eq_true rfl) rfl ?_
    refine go_iload_n td_X11_depth 22 rfl (q := 44) rfl 4 rfl ?_
    refine go_tcase (v := 0) 72 td_X11_depth 23 rfl ⟨by decide, by decide, rfl, rfl⟩ ?_ (fun n6 => ?_)
    · refine go_aload_n td_X11_depth 24 rfl (q := 73) rfl 1 rfl ?_
      refine go_get td_X11_depth 25 rfl (q := 76) rfl fl_X11_66 (Ac_0 E x3) rfl ?_
      refine go_iload td_X11_depth 26 rfl (q := 78) rfl 0 rfl ?_
      refine go_callV td_X11_depth 27 rfl (q := 81) rfl (XkA E) lk_X11_397 (ok_fA_Strip_depthAt E x4 x3) ⟨rfl, rfl, Nat.le_of_ble_eq_true rfl, Nat.le_of_ble_eq_true rfl⟩ rfl rfl (Nat.le_of_ble_eq_true rfl) (Ac_130 E x3) rfl (fun x5 => ?_)
      show Go (wCA E) _ _ x3 81 _ [.int x5] _
      exact go_iret td_X11_depth 28 rfl rfl rfl
    refine go_tcase (v := 1) 82 td_X11_depth 23 rfl ⟨by decide, by decide, rfl, rfl⟩ ?_ (fun n7 => ?_)
    · refine go_iload td_X11_depth 29 rfl (q := 84) rfl 0 rfl ?_
      exact go_iret td_X11_depth 30 rfl rfl rfl
    refine go_tcase (v := 2) 85 td_X11_depth 23 rfl ⟨by decide, by decide, rfl, rfl⟩ ?_ (fun n9 => ?_)
    · refine go_aload_n td_X11_depth 31 rfl (q := 86) rfl 1 rfl ?_
      refine go_get td_X11_depth 32 rfl (q := 89) rfl fl_X11_66 (Ac_0 E x3) rfl ?_
      refine go_callV td_X11_depth 33 rfl (q := 92) rfl (XkA E) lk_X11_400 (ok_fA_Strip_countDouble E x3) ⟨rfl, rfl, Nat.le_of_ble_eq_true rfl, Nat.le_of_ble_eq_true rfl⟩ rfl rfl (Nat.le_of_ble_eq_true rfl) (Ac_130 E x3) rfl (fun x8 => ?_)
      show Go (wCA E) _ _ x3 92 _ [.int x8] _
      exact go_iret td_X11_depth 34 rfl rfl rfl
    refine go_tdef 93 td_X11_depth 23 rfl (sw_X11_depth_44 n6 n7 n9) rfl ?_
    refine go_iconst td_X11_depth 35 rfl (q := 94) rfl kc_m1 ?_
    exact go_iret td_X11_depth 36 rfl rfl rfl
  · refine go_iconst td_X11_depth 6 rfl (q := 13) rfl kc_m1 ?_
    exact go_iret td_X11_depth 7 rfl rfl rfl
def fA_Trial_tryCouples (g : G) : Option (G) := Option.bind (fA_Trial_start g) fun x1 => Option.bind (fA_Sky_hold 0 x1) fun x2 => Lp (α := Int32 × G) (fun rec3 s3 => (if (s3.2.1 306) ≤ s3.1 then some s3.2 else bv (s3.1 + 1) fun x4 => Lp (α := Int32 × G) (fun rec5 s5 => (if (s5.2.1 306) ≤ s5.1 then rec3 (s3.1 + 1, s5.2) else Option.bind (fA_Fleet_isUp s3.1 s5.2) fun x6 => lj (α := G) (fun b7 => rec5 (s5.1 + 1, b7)) fun J7 => (if x6 = 0 then J7 s5.2 else Option.bind (fA_Fleet_isUp s5.1 s5.2) fun x8 => (if x8 = 0 then J7 s5.2 else Option.bind (fA_Sky_join ((s5.2.1 2700) &&& ((((1 : Int32) <<< (s3.1 &&& 31)) ||| ((1 : Int32) <<< (s5.1 &&& 31))) ^^^ (-1))) s5.2) fun x9 => Option.bind (fA_Sky_worstGap x9) fun x10 => lj (α := Unit) (fun b11 => bv (sS x10.2 13200 s3.1) fun g12 => bv (sS g12 13201 s5.1) fun g13 => bv (sS g13 13202 x10.1) fun g14 => J7 g14) fun J11 => (if (x10.2.1 13200) = (-1) then J11 () else (if x10.1 ≤ (x10.2.1 13202) then J7 x10.2 else J11 ())))))) FU (x4, s3.2))) FU (0, x2)
set_option maxRecDepth 20000 in
set_option maxHeartbeats 4000000 in
theorem ok_fA_Trial_tryCouples (E : Ev)  (g : G)  : Ct (wCA E) yX9_tryCouples mi_X9_tryCouples [.ref (E.1 132)] (fun r => (none, r)) g (fA_Trial_tryCouples g) := by
  refine go_enter rfl rfl (Nat.le_of_ble_eq_true rfl) (lv := [(0, .ref (E.1 132))]) rfl ?_
  unfold fA_Trial_tryCouples
  refine go_aload_n td_X9_tryCouples 0 rfl (q := 1) rfl 0 rfl ?_
  refine go_callV td_X9_tryCouples 1 rfl (q := 4) rfl (XkA E) lk_X9_47 (ok_fA_Trial_start E g) ⟨rfl, rfl, Nat.le_of_ble_eq_true rfl, Nat.le_of_ble_eq_true rfl⟩ rfl rfl (Nat.le_of_ble_eq_true rfl) (Ac_132 E g) rfl (fun x1 => ?_)
  show Go (wCA E) _ _ x1 4 _ [] _
  refine go_aload_n td_X9_tryCouples 2 rfl (q := 5) rfl 0 rfl ?_
  refine go_get td_X9_tryCouples 3 rfl (q := 8) rfl fl_X9_36 (Ac_132 E x1) rfl ?_
  refine go_iconst td_X9_tryCouples 4 rfl (q := 9) rfl kc_0 ?_
  refine go_callV td_X9_tryCouples 5 rfl (q := 12) rfl (XkA E) lk_X9_53 (ok_fA_Sky_hold E 0 x1) ⟨rfl, rfl, Nat.le_of_ble_eq_true rfl, Nat.le_of_ble_eq_true rfl⟩ rfl rfl (Nat.le_of_ble_eq_true rfl) (Ac_118 E x1) rfl (fun x2 => ?_)
  show Go (wCA E) _ _ x2 12 _ [] _
  refine go_iconst td_X9_tryCouples 6 rfl (q := 13) rfl kc_0 ?_
  refine go_istore_n [(1, .int 0), (0, .ref (E.1 132))] td_X9_tryCouples 7 rfl (q := 14) rfl (Nat.le_of_ble_eq_true rfl) rfl ?_
  refine go_pick [1, 0] (lv' := [(0, .ref (E.1 132)), (1, .int 0)]) rfl ?_
  refine (show ∀ (u3_0 : Int32) (u3_1 : G), Go (wCA E) _ _ u3_1 14 [(0, .ref (E.1 132)), (1, .int u3_0)] [] (Lp (α := Int32 × G) _ FU (u3_0, u3_1)) from ?_) 0 x2
  intro u3_0 u3_1
  refine go_Lp (α := Int32 × G) (fun s3 => s3.2) (fun s3 => [(0, .ref (E.1 132)), (1, .int s3.1)]) ?_ FU (u3_0, u3_1)
  intro rec3 hrec3 s3
  have krec3 : ∀ (u3_0 : Int32) (u3_1 : G), Go (wCA E) _ _ u3_1 14 [(0, .ref (E.1 132)), (1, .int u3_0)] [] (rec3 (u3_0, u3_1)) := fun u3_0 u3_1 => hrec3 (u3_0, u3_1)
  refine go_iload_n td_X9_tryCouples 8 rfl (q := 15) rfl 1 rfl ?_
  refine go_aload_n td_X9_tryCouples 9 rfl (q := 16) rfl 0 rfl ?_
  refine go_get td_X9_tryCouples 10 rfl (q := 19) rfl fl_X9_32 (Ac_132 E s3.2) rfl ?_
  refine go_get td_X9_tryCouples 11 rfl (q := 22) rfl fl_X9_104 (Ac_3 E s3.2) rfl ?_
  refine go_icmp_ge 137 td_X9_tryCouples 12 rfl rfl (q := 25) rfl (fun _ => ?_) (fun _ => ?_)
  · exact go_vret td_X9_tryCouples 73 rfl rfl rfl
  · refine go_iload_n td_X9_tryCouples 13 rfl (q := 26) rfl 1 rfl ?_
    refine go_iconst td_X9_tryCouples 14 rfl (q := 27) rfl kc_1 ?_
    refine go_iadd td_X9_tryCouples 15 rfl (q := 28) rfl ?_
    refine go_bvi (fun x4 => ?_)
    refine go_istore_n [(2, .int x4), (0, .ref (E.1 132)), (1, .int s3.1)] td_X9_tryCouples 16 rfl (q := 29) rfl (Nat.le_of_ble_eq_true rfl) rfl ?_
    refine go_pick [1, 2, 0] (lv' := [(0, .ref (E.1 132)), (1, .int s3.1), (2, .int x4)]) rfl ?_
    refine (show ∀ (u5_0 : Int32) (u5_1 : G), Go (wCA E) _ _ u5_1 29 [(0, .ref (E.1 132)), (1, .int s3.1), (2, .int u5_0)] [] (Lp (α := Int32 × G) _ FU (u5_0, u5_1)) from ?_) x4 s3.2
    intro u5_0 u5_1
    refine go_Lp (α := Int32 × G) (fun s5 => s5.2) (fun s5 => [(0, .ref (E.1 132)), (1, .int s3.1), (2, .int s5.1)]) ?_ FU (u5_0, u5_1)
    intro rec5 hrec5 s5
    have krec5 : ∀ (u5_0 : Int32) (u5_1 : G), Go (wCA E) _ _ u5_1 29 [(0, .ref (E.1 132)), (1, .int s3.1), (2, .int u5_0)] [] (rec5 (u5_0, u5_1)) := fun u5_0 u5_1 => hrec5 (u5_0, u5_1)
    refine go_iload_n td_X9_tryCouples 17 rfl (q := 30) rfl 2 rfl ?_
    refine go_aload_n td_X9_tryCouples 18 rfl (q := 31) rfl 0 rfl ?_
    refine go_get td_X9_tryCouples 19 rfl (q := 34) rfl fl_X9_32 (Ac_132 E s5.2) rfl ?_
    refine go_get td_X9_tryCouples 20 rfl (q := 37) rfl fl_X9_104 (Ac_3 E s5.2) rfl ?_
    refine go_icmp_ge 131 td_X9_tryCouples 21 rfl rfl (q := 40) rfl (fun _ => ?_) (fun _ => ?_)
    · refine go_iinc [(1, .int (s3.1 + 1)), (0, .ref (E.1 132)), (2, .int s5.1)] td_X9_tryCouples 71 rfl (q := 134) rfl 1 rfl kc_1 (Nat.le_of_ble_eq_true rfl) rfl ?_
      refine go_goto td_X9_tryCouples 72 rfl (q := 14) rfl ?_
      refine go_pick [1, 0] (lv' := [(0, .ref (E.1 132)), (1, .int (s3.1 + 1))]) rfl ?_
      exact krec3 (s3.1 + 1) s5.2
    · refine go_aload_n td_X9_tryCouples 22 rfl (q := 41) rfl 0 rfl ?_
      refine go_get td_X9_tryCouples 23 rfl (q := 44) rfl fl_X9_40 (Ac_132 E s5.2) rfl ?_
      refine go_iload_n td_X9_tryCouples 24 rfl (q := 45) rfl 1 rfl ?_
      refine go_callV td_X9_tryCouples 25 rfl (q := 48) rfl (XkA E) lk_X9_107 (ok_fA_Fleet_isUp E s3.1 s5.2) ⟨rfl, rfl, Nat.le_of_ble_eq_true rfl, Nat.le_of_ble_eq_true rfl⟩ rfl rfl (Nat.le_of_ble_eq_true rfl) (Ac_27 E s5.2) rfl (fun x6 => ?_)
      show Go (wCA E) _ _ s5.2 48 _ [.int x6] _
      refine go_ljX (α := G) (fun b7 => [(0, .ref (E.1 132)), (1, .int s3.1), (2, .int s5.1)]) (fun b7 => []) (fun b7 => b7) 125 ?_ ?_
      · intro b7
        refine go_iinc [(2, .int (s5.1 + 1)), (0, .ref (E.1 132)), (1, .int s3.1)] td_X9_tryCouples 69 rfl (q := 128) rfl 2 rfl kc_1 (Nat.le_of_ble_eq_true rfl) rfl ?_
        refine go_goto td_X9_tryCouples 70 rfl (q := 29) rfl ?_
        refine go_pick [1, 2, 0] (lv' := [(0, .ref (E.1 132)), (1, .int s3.1), (2, .int (s5.1 + 1))]) rfl ?_
        exact krec5 (s5.1 + 1) b7
      intro J7 hJ7
      have kJ7 : ∀ (u7_0 : G), Go (wCA E) _ _ u7_0 125 [(0, .ref (E.1 132)), (1, .int s3.1), (2, .int s5.1)] [] (J7 u7_0) := fun u7_0 => hJ7 u7_0
      refine go_if_eq 125 td_X9_tryCouples 26 rfl rfl (q := 51) rfl (fun _ => ?_) (fun _ => ?_)
      · refine go_pick [0, 1, 2] (lv' := [(0, .ref (E.1 132)), (1, .int s3.1), (2, .int s5.1)]) rfl ?_
        exact kJ7 s5.2
      · refine go_aload_n td_X9_tryCouples 27 rfl (q := 52) rfl 0 rfl ?_
        refine go_get td_X9_tryCouples 28 rfl (q := 55) rfl fl_X9_40 (Ac_132 E s5.2) rfl ?_
        refine go_iload_n td_X9_tryCouples 29 rfl (q := 56) rfl 2 rfl ?_
        refine go_callV td_X9_tryCouples 30 rfl (q := 59) rfl (XkA E) lk_X9_107 (ok_fA_Fleet_isUp E s5.1 s5.2) ⟨rfl, rfl, Nat.le_of_ble_eq_true rfl, Nat.le_of_ble_eq_true rfl⟩ rfl rfl (Nat.le_of_ble_eq_true rfl) (Ac_27 E s5.2) rfl (fun x8 => ?_)
        show Go (wCA E) _ _ s5.2 59 _ [.int x8] _
        refine go_if_eq 125 td_X9_tryCouples 31 rfl rfl (q := 62) rfl (fun _ => ?_) (fun _ => ?_)
        · refine go_pick [0, 1, 2] (lv' := [(0, .ref (E.1 132)), (1, .int s3.1), (2, .int s5.1)]) rfl ?_
          exact kJ7 s5.2
        · refine go_aload_n td_X9_tryCouples 32 rfl (q := 63) rfl 0 rfl ?_
          refine go_get td_X9_tryCouples 33 rfl (q := 66) rfl fl_X9_36 (Ac_132 E s5.2) rfl ?_
          refine go_aload_n td_X9_tryCouples 34 rfl (q := 67) rfl 0 rfl ?_
          refine go_get td_X9_tryCouples 35 rfl (q := 70) rfl fl_X9_40 (Ac_132 E s5.2) rfl ?_
          refine go_get td_X9_tryCouples 36 rfl (q := 73) rfl fl_X9_50 (Ac_27 E s5.2) rfl ?_
          refine go_iconst td_X9_tryCouples 37 rfl (q := 74) rfl kc_1 ?_
          refine go_iload_n td_X9_tryCouples 38 rfl (q := 75) rfl 1 rfl ?_
          refine go_ishl td_X9_tryCouples 39 rfl (q := 76) rfl ?_
          refine go_iconst td_X9_tryCouples 40 rfl (q := 77) rfl kc_1 ?_
          refine go_iload_n td_X9_tryCouples 41 rfl (q := 78) rfl 2 rfl ?_
          refine go_ishl td_X9_tryCouples 42 rfl (q := 79) rfl ?_
          refine go_ior td_X9_tryCouples 43 rfl (q := 80) rfl ?_
          refine go_iconst td_X9_tryCouples 44 rfl (q := 81) rfl kc_m1 ?_
          refine go_ixor td_X9_tryCouples 45 rfl (q := 82) rfl ?_
          refine go_iand td_X9_tryCouples 46 rfl (q := 83) rfl ?_
          refine go_callV td_X9_tryCouples 47 rfl (q := 86) rfl (XkA E) lk_X9_73 (ok_fA_Sky_join E ((s5.2.1 2700) &&& ((((1 : Int32) <<< (s3.1 &&& 31)) ||| ((1 : Int32) <<< (s5.1 &&& 31))) ^^^ (-1))) s5.2) ⟨rfl, rfl, Nat.le_of_ble_eq_true rfl, Nat.le_of_ble_eq_true rfl⟩ rfl rfl (Nat.le_of_ble_eq_true rfl) (Ac_118 E s5.2) rfl (fun x9 => ?_)
          show Go (wCA E) _ _ x9 86 _ [] _
          refine go_aload_n td_X9_tryCouples 48 rfl (q := 87) rfl 0 rfl ?_
          refine go_get td_X9_tryCouples 49 rfl (q := 90) rfl fl_X9_36 (Ac_132 E x9) rfl ?_
          refine go_callV td_X9_tryCouples 50 rfl (q := 93) rfl (XkA E) lk_X9_114 (ok_fA_Sky_worstGap E x9) ⟨rfl, rfl, Nat.le_of_ble_eq_true rfl, Nat.le_of_ble_eq_true rfl⟩ rfl rfl (Nat.le_of_ble_eq_true rfl) (Ac_118 E x9) rfl (fun x10 => ?_)
          show Go (wCA E) _ _ x10.2 93 _ [.int x10.1] _
          refine go_istore_n [(3, .int x10.1), (0, .ref (E.1 132)), (1, .int s3.1), (2, .int s5.1)] td_X9_tryCouples 51 rfl (q := 94) rfl (Nat.le_of_ble_eq_true rfl) rfl ?_
          refine go_aload_n td_X9_tryCouples 52 rfl (q := 95) rfl 1 rfl ?_
          refine go_get td_X9_tryCouples 53 rfl (q := 98) rfl fl_X9_9 (Ac_132 E x10.2) rfl ?_
          refine go_iconst td_X9_tryCouples 54 rfl (q := 99) rfl kc_m1 ?_
          refine go_ljX (α := Unit) (fun b11 => [(0, .ref (E.1 132)), (1, .int s3.1), (2, .int s5.1), (3, .int x10.1)]) (fun b11 => []) (fun b11 => x10.2) 110 ?_ ?_
          · intro b11
            refine go_aload_n td_X9_tryCouples 60 rfl (q := 111) rfl 0 rfl ?_
            refine go_iload_n td_X9_tryCouples 61 rfl (q := 112) rfl 1 rfl ?_
            refine go_put td_X9_tryCouples 62 rfl (q := 115) rfl flp_X9_9 (Ac_132 E x10.2) rfl rfl (Nat.le_of_ble_eq_true rfl) (Aps_13200 E x10.2 s3.1) ?_
            refine go_bvg (fun g12 => ?_)
            refine go_aload_n td_X9_tryCouples 63 rfl (q := 116) rfl 0 rfl ?_
            refine go_iload_n td_X9_tryCouples 64 rfl (q := 117) rfl 2 rfl ?_
            refine go_put td_X9_tryCouples 65 rfl (q := 120) rfl flp_X9_15 (Ac_132 E g12) rfl rfl (Nat.le_of_ble_eq_true rfl) (Aps_13201 E g12 s5.1) ?_
            refine go_bvg (fun g13 => ?_)
            refine go_aload_n td_X9_tryCouples 66 rfl (q := 121) rfl 0 rfl ?_
            refine go_iload_n td_X9_tryCouples 67 rfl (q := 122) rfl 3 rfl ?_
            refine go_put td_X9_tryCouples 68 rfl (q := 125) rfl flp_X9_18 (Ac_132 E g13) rfl rfl (Nat.le_of_ble_eq_true rfl) (Aps_13202 E g13 x10.1) ?_
            refine go_bvg (fun g14 => ?_)
            refine go_pick [0, 1, 2] (lv' := [(0, .ref (E.1 132)), (1, .int s3.1), (2, .int s5.1)]) rfl ?_
            exact kJ7 g14
          intro J11 hJ11
          have kJ11 : Go (wCA E) _ _ x10.2 110 [(0, .ref (E.1 132)), (1, .int s3.1), (2, .int s5.1), (3, .int x10.1)] [] (J11 ()) := hJ11 ()
          refine go_icmp_eq 110 td_X9_tryCouples 55 rfl rfl (q := 102) rfl (fun _ => ?_) (fun _ => ?_)
          · refine go_pick [1, 2, 3, 0] (lv' := [(0, .ref (E.1 132)), (1, .int s3.1), (2, .int s5.1), (3, .int x10.1)]) rfl ?_
            exact kJ11 
          · refine go_iload_n td_X9_tryCouples 56 rfl (q := 103) rfl 0 rfl ?_
            refine go_aload_n td_X9_tryCouples 57 rfl (q := 104) rfl 1 rfl ?_
            refine go_get td_X9_tryCouples 58 rfl (q := 107) rfl fl_X9_18 (Ac_132 E x10.2) rfl ?_
            refine go_icmp_le 125 td_X9_tryCouples 59 rfl rfl (q := 110) rfl (fun _ => ?_) (fun _ => ?_)
            · refine go_pick [1, 2, 3] (lv' := [(0, .ref (E.1 132)), (1, .int s3.1), (2, .int s5.1)]) rfl ?_
              exact kJ7 x10.2
            · refine go_pick [1, 2, 3, 0] (lv' := [(0, .ref (E.1 132)), (1, .int s3.1), (2, .int s5.1), (3, .int x10.1)]) rfl ?_
              exact kJ11 
def fA_D_couple (a1 : Int32) (g : G) : Option (Int32 × G) := Option.bind (fA_Integer_bitCount (g.1 2700) g) fun x1 => (if x1 < 2 then some ((-1), g) else (if a1 < 0 then some ((-1), g) else (if a1 ≤ 2 then Option.bind (fA_D_look g) fun x2 => Option.bind (fA_Trial_tryCouples x2) fun x3 => bv (sS x3 18 0) fun g4 => (if a1 = 0 then some (g4.1 13200, g4) else if a1 = 1 then some (g4.1 13201, g4) else some (g4.1 13202, g4)) else some ((-1), g))))
set_option maxRecDepth 20000 in
set_option maxHeartbeats 4000000 in
theorem ok_fA_D_couple (E : Ev) (a1 : Int32) (g : G)  : Ct (wCA E) yX11_couple mi_X11_couple [.ref (E.1 0), .int a1] (fun r => (some (.int r.1), r.2)) g (fA_D_couple a1 g) := by
  refine go_enter rfl rfl (Nat.le_of_ble_eq_true rfl) (lv := [(0, .ref (E.1 0)), (1, .int a1)]) rfl ?_
  unfold fA_D_couple
  refine go_aload_n td_X11_couple 0 rfl (q := 1) rfl 0 rfl ?_
  refine go_get td_X11_couple 1 rfl (q := 4) rfl fl_X11_29 (Ac_0 E g) rfl ?_
  refine go_get td_X11_couple 2 rfl (q := 7) rfl fl_X11_178 (Ac_27 E g) rfl ?_
  refine go_callS td_X11_couple 3 rfl (q := 10) rfl (XkA E) lk_X11_181 (ok_fA_Integer_bitCount E (g.1 2700) g) ⟨rfl, rfl, Nat.le_of_ble_eq_true rfl, Nat.le_of_ble_eq_true rfl⟩ rfl rfl (Nat.le_of_ble_eq_true rfl) (fun x1 => ?_)
  show Go (wCA E) _ _ g 10 _ [.int x1] _
  refine go_iconst td_X11_couple 4 rfl (q := 11) rfl kc_2 ?_
  refine go_icmp_lt 23 td_X11_couple 5 rfl rfl (q := 14) rfl (fun _ => ?_) (fun _ => ?_)
  · refine go_iconst td_X11_couple 11 rfl (q := 24) rfl kc_m1 ?_
    exact go_iret td_X11_couple 12 rfl rfl rfl
  · refine go_iload_n td_X11_couple 6 rfl (q := 15) rfl 1 rfl ?_
    refine go_if_lt 23 td_X11_couple 7 rfl rfl (q := 18) rfl (fun _ => ?_) (fun _ => ?_)
    · refine go_iconst td_X11_couple 11 rfl (q := 24) rfl kc_m1 ?_
      exact go_iret td_X11_couple 12 rfl rfl rfl
    · refine go_iload_n td_X11_couple 8 rfl (q := 19) rfl 1 rfl ?_
      refine go_iconst td_X11_couple 9 rfl (q := 20) rfl kc_2 ?_
      refine go_icmp_le 25 td_X11_couple 10 rfl rfl (q := 23) rfl (fun _ => ?_) (fun _ => ?_)
      · refine go_aload_n td_X11_couple 13 rfl (q := 26) rfl 0 rfl ?_
        refine go_callV td_X11_couple 14 rfl (q := 29) rfl (XkA E) lk_X11_247 (ok_fA_D_look E g) ⟨rfl, rfl, Nat.le_of_ble_eq_true rfl, Nat.le_of_ble_eq_true rfl⟩ rfl rfl (Nat.le_of_ble_eq_true rfl) (Ac_0 E g) rfl (fun x2 => ?_)
        show Go (wCA E) _ _ x2 29 _ [] _
        refine go_aload_n td_X11_couple 15 rfl (q := 30) rfl 0 rfl ?_
        refine go_get td_X11_couple 16 rfl (q := 33) rfl fl_X11_75 (Ac_0 E x2) rfl ?_
        refine go_callV td_X11_couple 17 rfl (q := 36) rfl (XkA E) lk_X11_403 (ok_fA_Trial_tryCouples E x2) ⟨rfl, rfl, Nat.le_of_ble_eq_true rfl, Nat.le_of_ble_eq_true rfl⟩ rfl rfl (Nat.le_of_ble_eq_true rfl) (Ac_132 E x2) rfl (fun x3 => ?_)
        show Go (wCA E) _ _ x3 36 _ [] _
        refine go_aload_n td_X11_couple 18 rfl (q := 37) rfl 0 rfl ?_
        refine go_iconst td_X11_couple 19 rfl (q := 38) rfl kc_0 ?_
        refine go_put td_X11_couple 20 rfl (q := 41) rfl flp_X11_114 (Ac_0 E x3) rfl rfl (Nat.le_of_ble_eq_true rfl) (Aps_18 E x3 0) ?_
        refine go_bvg (fun g4 => ?_)
        refine go_iload_n td_X11_couple 21 rfl (q := 42) rfl 1 rfl ?_
        refine go_lcase (v := 0) 68 td_X11_couple 22 rfl ⟨by decide, rfl, rfl⟩ ?_ (fun n5 => ?_)
        · refine go_aload_n td_X11_couple 23 rfl (q := 69) rfl 0 rfl ?_
          refine go_get td_X11_couple 24 rfl (q := 72) rfl fl_X11_75 (Ac_0 E g4) rfl ?_
          refine go_get td_X11_couple 25 rfl (q := 75) rfl fl_X11_362 (Ac_132 E g4) rfl ?_
          exact go_iret td_X11_couple 26 rfl rfl rfl
        refine go_lcase (v := 1) 76 td_X11_couple 22 rfl ⟨by decide, rfl, rfl⟩ ?_ (fun n6 => ?_)
        · refine go_aload_n td_X11_couple 27 rfl (q := 77) rfl 0 rfl ?_
          refine go_get td_X11_couple 28 rfl (q := 80) rfl fl_X11_75 (Ac_0 E g4) rfl ?_
          refine go_get td_X11_couple 29 rfl (q := 83) rfl fl_X11_406 (Ac_132 E g4) rfl ?_
          exact go_iret td_X11_couple 30 rfl rfl rfl
        refine go_ldef 84 td_X11_couple 22 rfl (sw_X11_couple_42 n5 n6) rfl ?_
        refine go_aload_n td_X11_couple 31 rfl (q := 85) rfl 0 rfl ?_
        refine go_get td_X11_couple 32 rfl (q := 88) rfl fl_X11_75 (Ac_0 E g4) rfl ?_
        refine go_get td_X11_couple 33 rfl (q := 91) rfl fl_X11_372 (Ac_132 E g4) rfl ?_
        exact go_iret td_X11_couple 34 rfl rfl rfl
      · refine go_iconst td_X11_couple 11 rfl (q := 24) rfl kc_m1 ?_
        exact go_iret td_X11_couple 12 rfl rfl rfl
def fA_Courier_start (a1 : Int32) (g : G) : Option (G) := bv (sS g 13700 ((1 : Int32) <<< (a1 &&& 31))) fun g1 => bv (sS g1 13701 0) fun g2 => some g2
set_option maxRecDepth 20000 in
set_option maxHeartbeats 4000000 in
theorem ok_fA_Courier_start (E : Ev) (a1 : Int32) (g : G)  : Ct (wCA E) yX0_start mi_X0_start [.ref (E.1 137), .int a1] (fun r => (none, r)) g (fA_Courier_start a1 g) := by
  refine go_enter rfl rfl (Nat.le_of_ble_eq_true rfl) (lv := [(0, .ref (E.1 137)), (1, .int a1)]) rfl ?_
  unfold fA_Courier_start
  refine go_aload_n td_X0_start 0 rfl (q := 1) rfl 0 rfl ?_
  refine go_iconst td_X0_start 1 rfl (q := 2) rfl kc_1 ?_
  refine go_iload_n td_X0_start 2 rfl (q := 3) rfl 1 rfl ?_
  refine go_ishl td_X0_start 3 rfl (q := 4) rfl ?_
  refine go_put td_X0_start 4 rfl (q := 7) rfl flp_X0_7 (Ac_137 E g) rfl rfl (Nat.le_of_ble_eq_true rfl) (Aps_13700 E g ((1 : Int32) <<< (a1 &&& 31))) ?_
  refine go_bvg (fun g1 => ?_)
  refine go_aload_n td_X0_start 5 rfl (q := 8) rfl 0 rfl ?_
  refine go_iconst td_X0_start 6 rfl (q := 9) rfl kc_0 ?_
  refine go_put td_X0_start 7 rfl (q := 12) rfl flp_X0_13 (Ac_137 E g1) rfl rfl (Nat.le_of_ble_eq_true rfl) (Aps_13701 E g1 0) ?_
  refine go_bvg (fun g2 => ?_)
  exact go_vret td_X0_start 8 rfl rfl rfl
def fA_Courier_hasReached (a1 : Int32) (g : G) : Option (Int32) := (if (((g.1 13700) >>> (a1 &&& 31)) &&& 1) = 0 then some 0 else some 1)
set_option maxRecDepth 20000 in
set_option maxHeartbeats 4000000 in
theorem ok_fA_Courier_hasReached (E : Ev) (a1 : Int32) (g : G)  : Ct (wCA E) yX0_hasReached mi_X0_hasReached [.ref (E.1 137), .int a1] (fun r => (some (.int r), g)) g (fA_Courier_hasReached a1 g) := by
  refine go_enter rfl rfl (Nat.le_of_ble_eq_true rfl) (lv := [(0, .ref (E.1 137)), (1, .int a1)]) rfl ?_
  unfold fA_Courier_hasReached
  refine go_aload_n td_X0_hasReached 0 rfl (q := 1) rfl 0 rfl ?_
  refine go_get td_X0_hasReached 1 rfl (q := 4) rfl fl_X0_7 (Ac_137 E g) rfl ?_
  refine go_iload_n td_X0_hasReached 2 rfl (q := 5) rfl 1 rfl ?_
  refine go_ishr td_X0_hasReached 3 rfl (q := 6) rfl ?_
  refine go_iconst td_X0_hasReached 4 rfl (q := 7) rfl kc_1 ?_
  refine go_iand td_X0_hasReached 5 rfl (q := 8) rfl ?_
  refine go_if_eq 15 td_X0_hasReached 6 rfl rfl (q := 11) rfl (fun _ => ?_) (fun _ => ?_)
  · refine go_iconst td_X0_hasReached 9 rfl (q := 16) rfl kc_0 ?_
    exact go_zret td_X0_hasReached 10 rfl rfl rfl rfl
  · refine go_iconst td_X0_hasReached 7 rfl (q := 12) rfl kc_1 ?_
    refine go_goto td_X0_hasReached 8 rfl (q := 16) rfl ?_
    exact go_zret td_X0_hasReached 10 rfl rfl rfl rfl
def fA_Courier_step (a1 : Int32) (a2 : Int32) (g : G) : Option (G) := Lp (α := Int32 × G) (fun rec1 s1 => (if (s1.2.1 307) ≤ s1.1 then Lp (α := Int32 × G) (fun rec2 s2 => (if (s2.2.1 307) ≤ s2.1 then some s2.2 else ag 6 (s2.2.2.1 11) s2.1 fun x3 => ag 6 (s2.2.2.1 12) s2.1 fun x4 => Option.bind (fA_Sky_whoSees (s2.2.1 13701) a2 x3 x4 s2.2) fun x5 => lj (α := G) (fun b6 => rec2 (s2.1 + 1, b6)) fun J6 => (if x5 = 0 then J6 s2.2 else bv (sS s2.2 13700 ((s2.2.1 13700) ||| ((1 : Int32) <<< (s2.1 &&& 31)))) fun g7 => J6 g7))) FU (0, s1.2) else Option.bind (fA_Courier_hasReached s1.1 s1.2) fun x8 => lj (α := G) (fun b9 => rec1 (s1.1 + 1, b9)) fun J9 => (if x8 = 0 then J9 s1.2 else ag 6 (s1.2.2.1 11) s1.1 fun x10 => ag 6 (s1.2.2.1 12) s1.1 fun x11 => Option.bind (fA_Sky_whoSees a1 a2 x10 x11 s1.2) fun x12 => bv (sS s1.2 13701 ((s1.2.1 13701) ||| x12)) fun g13 => J9 g13))) FU (0, g)
set_option maxRecDepth 20000 in
set_option maxHeartbeats 4000000 in
theorem ok_fA_Courier_step (E : Ev) (a1 : Int32) (a2 : Int32) (g : G)  : Ct (wCA E) yX0_step mi_X0_step [.ref (E.1 137), .int a1, .int a2] (fun r => (none, r)) g (fA_Courier_step a1 a2 g) := by
  refine go_enter rfl rfl (Nat.le_of_ble_eq_true rfl) (lv := [(0, .ref (E.1 137)), (1, .int a1), (2, .int a2)]) rfl ?_
  unfold fA_Courier_step
  refine go_iconst td_X0_step 0 rfl (q := 1) rfl kc_0 ?_
  refine go_istore_n [(3, .int 0), (0, .ref (E.1 137)), (1, .int a1), (2, .int a2)] td_X0_step 1 rfl (q := 2) rfl (Nat.le_of_ble_eq_true rfl) rfl ?_
  refine go_pick [1, 2, 3, 0] (lv' := [(0, .ref (E.1 137)), (1, .int a1), (2, .int a2), (3, .int 0)]) rfl ?_
  refine (show ∀ (u1_0 : Int32) (u1_1 : G), Go (wCA E) _ _ u1_1 2 [(0, .ref (E.1 137)), (1, .int a1), (2, .int a2), (3, .int u1_0)] [] (Lp (α := Int32 × G) _ FU (u1_0, u1_1)) from ?_) 0 g
  intro u1_0 u1_1
  refine go_Lp (α := Int32 × G) (fun s1 => s1.2) (fun s1 => [(0, .ref (E.1 137)), (1, .int a1), (2, .int a2), (3, .int s1.1)]) ?_ FU (u1_0, u1_1)
  intro rec1 hrec1 s1
  have krec1 : ∀ (u1_0 : Int32) (u1_1 : G), Go (wCA E) _ _ u1_1 2 [(0, .ref (E.1 137)), (1, .int a1), (2, .int a2), (3, .int u1_0)] [] (rec1 (u1_0, u1_1)) := fun u1_0 u1_1 => hrec1 (u1_0, u1_1)
  refine go_iload_n td_X0_step 2 rfl (q := 3) rfl 3 rfl ?_
  refine go_aload_n td_X0_step 3 rfl (q := 4) rfl 0 rfl ?_
  refine go_get td_X0_step 4 rfl (q := 7) rfl fl_X0_16 (Ac_137 E s1.2) rfl ?_
  refine go_get td_X0_step 5 rfl (q := 10) rfl fl_X0_24 (Ac_3 E s1.2) rfl ?_
  refine go_icmp_ge 63 td_X0_step 6 rfl rfl (q := 13) rfl (fun _ => ?_) (fun _ => ?_)
  · refine go_iconst td_X0_step 33 rfl (q := 64) rfl kc_0 ?_
    refine go_istore_n [(3, .int 0), (0, .ref (E.1 137)), (1, .int a1), (2, .int a2)] td_X0_step 34 rfl (q := 65) rfl (Nat.le_of_ble_eq_true rfl) rfl ?_
    refine go_pick [1, 3, 0] (lv' := [(0, .ref (E.1 137)), (2, .int a2), (3, .int 0)]) rfl ?_
    refine (show ∀ (u2_0 : Int32) (u2_1 : G), Go (wCA E) _ _ u2_1 65 [(0, .ref (E.1 137)), (2, .int a2), (3, .int u2_0)] [] (Lp (α := Int32 × G) _ FU (u2_0, u2_1)) from ?_) 0 s1.2
    intro u2_0 u2_1
    refine go_Lp (α := Int32 × G) (fun s2 => s2.2) (fun s2 => [(0, .ref (E.1 137)), (2, .int a2), (3, .int s2.1)]) ?_ FU (u2_0, u2_1)
    intro rec2 hrec2 s2
    have krec2 : ∀ (u2_0 : Int32) (u2_1 : G), Go (wCA E) _ _ u2_1 65 [(0, .ref (E.1 137)), (2, .int a2), (3, .int u2_0)] [] (rec2 (u2_0, u2_1)) := fun u2_0 u2_1 => hrec2 (u2_0, u2_1)
    refine go_iload_n td_X0_step 35 rfl (q := 66) rfl 2 rfl ?_
    refine go_aload_n td_X0_step 36 rfl (q := 67) rfl 0 rfl ?_
    refine go_get td_X0_step 37 rfl (q := 70) rfl fl_X0_16 (Ac_137 E s2.2) rfl ?_
    refine go_get td_X0_step 38 rfl (q := 73) rfl fl_X0_24 (Ac_3 E s2.2) rfl ?_
    refine go_icmp_ge 127 td_X0_step 39 rfl rfl (q := 76) rfl (fun _ => ?_) (fun _ => ?_)
    · exact go_vret td_X0_step 67 rfl rfl rfl
    · refine go_aload_n td_X0_step 40 rfl (q := 77) rfl 0 rfl ?_
      refine go_get td_X0_step 41 rfl (q := 80) rfl fl_X0_20 (Ac_137 E s2.2) rfl ?_
      refine go_aload_n td_X0_step 42 rfl (q := 81) rfl 0 rfl ?_
      refine go_get td_X0_step 43 rfl (q := 84) rfl fl_X0_13 (Ac_137 E s2.2) rfl ?_
      refine go_iload_n td_X0_step 44 rfl (q := 85) rfl 1 rfl ?_
      refine go_aload_n td_X0_step 45 rfl (q := 86) rfl 0 rfl ?_
      refine go_get td_X0_step 46 rfl (q := 89) rfl fl_X0_16 (Ac_137 E s2.2) rfl ?_
      refine go_get td_X0_step 47 rfl (q := 92) rfl fl_X0_31 (Ac_3 E s2.2) rfl ?_
      refine go_iload_n td_X0_step 48 rfl (q := 93) rfl 2 rfl ?_
      refine go_ald td_X0_step 49 rfl (q := 94) rfl (Ac_11 E s2.2) (t0 := 0) rfl (fun x3 => ?_)
      refine go_aload_n td_X0_step 50 rfl (q := 95) rfl 0 rfl ?_
      refine go_get td_X0_step 51 rfl (q := 98) rfl fl_X0_16 (Ac_137 E s2.2) rfl ?_
      refine go_get td_X0_step 52 rfl (q := 101) rfl fl_X0_35 (Ac_3 E s2.2) rfl ?_
      refine go_iload_n td_X0_step 53 rfl (q := 102) rfl 2 rfl ?_
      refine go_ald td_X0_step 54 rfl (q := 103) rfl (Ac_12 E s2.2) (t0 := 0) rfl (fun x4 => ?_)
      refine go_callV td_X0_step 55 rfl (q := 106) rfl (XkA E) lk_X0_38 (ok_fA_Sky_whoSees E (s2.2.1 13701) a2 x3 x4 s2.2) ⟨rfl, rfl, Nat.le_of_ble_eq_true rfl, Nat.le_of_ble_eq_true rfl⟩ rfl rfl (Nat.le_of_ble_eq_true rfl) (Ac_118 E s2.2) rfl (fun x5 => ?_)
      show Go (wCA E) _ _ s2.2 106 _ [.int x5] _
      refine go_ljX (α := G) (fun b6 => [(0, .ref (E.1 137)), (2, .int a2), (3, .int s2.1)]) (fun b6 => []) (fun b6 => b6) 121 ?_ ?_
      · intro b6
        refine go_iinc [(3, .int (s2.1 + 1)), (0, .ref (E.1 137)), (2, .int a2)] td_X0_step 65 rfl (q := 124) rfl 2 rfl kc_1 (Nat.le_of_ble_eq_true rfl) rfl ?_
        refine go_goto td_X0_step 66 rfl (q := 65) rfl ?_
        refine go_pick [1, 2, 0] (lv' := [(0, .ref (E.1 137)), (2, .int a2), (3, .int (s2.1 + 1))]) rfl ?_
        exact krec2 (s2.1 + 1) b6
      intro J6 hJ6
      have kJ6 : ∀ (u6_0 : G), Go (wCA E) _ _ u6_0 121 [(0, .ref (E.1 137)), (2, .int a2), (3, .int s2.1)] [] (J6 u6_0) := fun u6_0 => hJ6 u6_0
      refine go_if_eq 121 td_X0_step 56 rfl rfl (q := 109) rfl (fun _ => ?_) (fun _ => ?_)
      · refine go_pick [0, 1, 2] (lv' := [(0, .ref (E.1 137)), (2, .int a2), (3, .int s2.1)]) rfl ?_
        exact kJ6 s2.2
      · refine go_aload_n td_X0_step 57 rfl (q := 110) rfl 0 rfl ?_
        refine go_dup td_X0_step 58 rfl (q := 111) rfl rfl ?_
        refine go_get td_X0_step 59 rfl (q := 114) rfl fl_X0_7 (Ac_137 E s2.2) rfl ?_
        refine go_iconst td_X0_step 60 rfl (q := 115) rfl kc_1 ?_
        refine go_iload_n td_X0_step 61 rfl (q := 116) rfl 2 rfl ?_
        refine go_ishl td_X0_step 62 rfl (q := 117) rfl ?_
        refine go_ior td_X0_step 63 rfl (q := 118) rfl ?_
        refine go_put td_X0_step 64 rfl (q := 121) rfl flp_X0_7 (Ac_137 E s2.2) rfl rfl (Nat.le_of_ble_eq_true rfl) (Aps_13700 E s2.2 ((s2.2.1 13700) ||| ((1 : Int32) <<< (s2.1 &&& 31)))) ?_
        refine go_bvg (fun g7 => ?_)
        refine go_pick [0, 1, 2] (lv' := [(0, .ref (E.1 137)), (2, .int a2), (3, .int s2.1)]) rfl ?_
        exact kJ6 g7
  · refine go_aload_n td_X0_step 7 rfl (q := 14) rfl 0 rfl ?_
    refine go_iload_n td_X0_step 8 rfl (q := 15) rfl 3 rfl ?_
    refine go_callV td_X0_step 9 rfl (q := 18) rfl (XkA E) lk_X0_27 (ok_fA_Courier_hasReached E s1.1 s1.2) ⟨rfl, rfl, Nat.le_of_ble_eq_true rfl, Nat.le_of_ble_eq_true rfl⟩ rfl rfl (Nat.le_of_ble_eq_true rfl) (Ac_137 E s1.2) rfl (fun x8 => ?_)
    show Go (wCA E) _ _ s1.2 18 _ [.int x8] _
    refine go_ljX (α := G) (fun b9 => [(0, .ref (E.1 137)), (1, .int a1), (2, .int a2), (3, .int s1.1)]) (fun b9 => []) (fun b9 => b9) 57 ?_ ?_
    · intro b9
      refine go_iinc [(3, .int (s1.1 + 1)), (0, .ref (E.1 137)), (1, .int a1), (2, .int a2)] td_X0_step 31 rfl (q := 60) rfl 3 rfl kc_1 (Nat.le_of_ble_eq_true rfl) rfl ?_
      refine go_goto td_X0_step 32 rfl (q := 2) rfl ?_
      refine go_pick [1, 2, 3, 0] (lv' := [(0, .ref (E.1 137)), (1, .int a1), (2, .int a2), (3, .int (s1.1 + 1))]) rfl ?_
      exact krec1 (s1.1 + 1) b9
    intro J9 hJ9
    have kJ9 : ∀ (u9_0 : G), Go (wCA E) _ _ u9_0 57 [(0, .ref (E.1 137)), (1, .int a1), (2, .int a2), (3, .int s1.1)] [] (J9 u9_0) := fun u9_0 => hJ9 u9_0
    refine go_if_eq 57 td_X0_step 10 rfl rfl (q := 21) rfl (fun _ => ?_) (fun _ => ?_)
    · refine go_pick [0, 1, 2, 3] (lv' := [(0, .ref (E.1 137)), (1, .int a1), (2, .int a2), (3, .int s1.1)]) rfl ?_
      exact kJ9 s1.2
    · refine go_aload_n td_X0_step 11 rfl (q := 22) rfl 0 rfl ?_
      refine go_dup td_X0_step 12 rfl (q := 23) rfl rfl ?_
      refine go_get td_X0_step 13 rfl (q := 26) rfl fl_X0_13 (Ac_137 E s1.2) rfl ?_
      refine go_aload_n td_X0_step 14 rfl (q := 27) rfl 0 rfl ?_
      refine go_get td_X0_step 15 rfl (q := 30) rfl fl_X0_20 (Ac_137 E s1.2) rfl ?_
      refine go_iload_n td_X0_step 16 rfl (q := 31) rfl 1 rfl ?_
      refine go_iload_n td_X0_step 17 rfl (q := 32) rfl 2 rfl ?_
      refine go_aload_n td_X0_step 18 rfl (q := 33) rfl 0 rfl ?_
      refine go_get td_X0_step 19 rfl (q := 36) rfl fl_X0_16 (Ac_137 E s1.2) rfl ?_
      refine go_get td_X0_step 20 rfl (q := 39) rfl fl_X0_31 (Ac_3 E s1.2) rfl ?_
      refine go_iload_n td_X0_step 21 rfl (q := 40) rfl 3 rfl ?_
      refine go_ald td_X0_step 22 rfl (q := 41) rfl (Ac_11 E s1.2) (t0 := 0) rfl (fun x10 => ?_)
      refine go_aload_n td_X0_step 23 rfl (q := 42) rfl 0 rfl ?_
      refine go_get td_X0_step 24 rfl (q := 45) rfl fl_X0_16 (Ac_137 E s1.2) rfl ?_
      refine go_get td_X0_step 25 rfl (q := 48) rfl fl_X0_35 (Ac_3 E s1.2) rfl ?_
      refine go_iload_n td_X0_step 26 rfl (q := 49) rfl 3 rfl ?_
      refine go_ald td_X0_step 27 rfl (q := 50) rfl (Ac_12 E s1.2) (t0 := 0) rfl (fun x11 => ?_)
      refine go_callV td_X0_step 28 rfl (q := 53) rfl (XkA E) lk_X0_38 (ok_fA_Sky_whoSees E a1 a2 x10 x11 s1.2) ⟨rfl, rfl, Nat.le_of_ble_eq_true rfl, Nat.le_of_ble_eq_true rfl⟩ rfl rfl (Nat.le_of_ble_eq_true rfl) (Ac_118 E s1.2) rfl (fun x12 => ?_)
      show Go (wCA E) _ _ s1.2 53 _ [.int x12, .int (s1.2.1 13701), .ref (E.1 137)] _
      refine go_ior td_X0_step 29 rfl (q := 54) rfl ?_
      refine go_put td_X0_step 30 rfl (q := 57) rfl flp_X0_13 (Ac_137 E s1.2) rfl rfl (Nat.le_of_ble_eq_true rfl) (Aps_13701 E s1.2 ((s1.2.1 13701) ||| x12)) ?_
      refine go_bvg (fun g13 => ?_)
      refine go_pick [0, 1, 2, 3] (lv' := [(0, .ref (E.1 137)), (1, .int a1), (2, .int a2), (3, .int s1.1)]) rfl ?_
      exact kJ9 g13
